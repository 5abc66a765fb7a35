/-! The class's methods: reports. -/
def sRel (S : Abs) (a w : Int32) : Int32 := on (inN a (aR S)) fun k => if w = nI 0 then nI ((vTd (aQ S)).testBit k).toNat else if w = nI 1 then nI (ct (aW S) (aG S k)) else if w = nI 2 then nI (nb (aV S) (aG S k)) else if w = nI 3 then nI (aW S * aW S) - nI (nb (aV S) (aG S k)) else if w = nI 4 then nI (ct (aW S) (sft (aW S) (vKs (aQ S)) (aG S k))) else mI 1
def sBlk (S : Abs) (a l : Int32) : Int32 := on (inN a (aR S)) fun k => on (inN l (aV S + 1)) fun l => nI (ct (2 ^ l) (fl (aV S) (aG S k) l))
def bl (S : Abs) (a b : Int32) : Bool := match inN a (aR S) with
  | some k => (inN b (nb (aV S) (aG S k))).isSome
  | none => false
def bQ (S : Abs) (k : Nat) : List Eb := bits (aV S) (fb (aV S) (aG S k))
def sBit (S : Abs) (a b : Int32) : Int32 := on (inN a (aR S)) fun k => on (inN b (nb (aV S) (aG S k))) fun j => nI (fb (aV S) (aG S k) (eb (bQ S k) j)).toNat
def rnk (S : Abs) (k j : Nat) : Nat := sm (fun i => (fb (aV S) (aG S k) (eb (bQ S k) i)).toNat) (j + 1)
def sRank (S : Abs) (a b : Int32) : Int32 := on (inN a (aR S)) fun k => on (inN b (nb (aV S) (aG S k))) fun j => nI (rnk S k j)
def sChild (S : Abs) (a b q : Int32) : Int32 := on (inN q 4) fun w => on (inN a (aR S)) fun k => on (inN b (nb (aV S) (aG S k))) fun j => if fb (aV S) (aG S k) (eb (bQ S k) j) = false ∨ (eb (bQ S k) j).1 = aV S then mI 1 else nI (4 * rnk S k j + w)
def sPlace (S : Abs) (a b w : Int32) : Int32 := on (inN a (aR S)) fun k => on (inN b (nb (aV S) (aG S k))) fun j => if w = nI 0 then nI (eb (bQ S k) j).1 else if w = nI 1 then nI ((eb (bQ S k) j).2.1 * 2 ^ (aV S - (eb (bQ S k) j).1)) else if w = nI 2 then nI ((eb (bQ S k) j).2.2 * 2 ^ (aV S - (eb (bQ S k) j).1)) else mI 1
def onR (S : Abs) (a b c d : Int32) (K : Nat → Nat → Nat → Nat → Int32) : Int32 := on (inN a (aW S)) fun i => on (inN b (aW S)) fun j => on (inN c (aW S)) fun l => on (inN d (aW S)) fun r => if j < i ∨ r < l then mI 1 else K i j l r
def sRect (S : Abs) (a b c d e : Int32) : Int32 := on (inN a (aR S)) fun k => onR S b c d e fun i j l r => nI (ci (aG S k) (2 ^ (r + 1) - 2 ^ l) i (j + 1 - i))
def sLooks (S : Abs) (a b c d e : Int32) : Int32 := on (inN a (aR S)) fun k => onR S b c d e fun i j l r => nI (sm (fun m => (mt (aV S) i j l r (eb (bQ S k) m)).toNat) (bQ S k).length)
def on2 (S : Abs) (a b : Int32) (K : Rw → Rw → Int32) : Int32 := on (inN a (aR S)) fun k => on (inN b (aR S)) fun j => K (aG S k) (aG S j)
def sWalks (S : Abs) (a b : Int32) : Int32 := on2 S a b fun G H => nI (1 + sm (wk (aV S) G H) (aV S))
def sProds (S : Abs) (a b : Int32) : Int32 := on2 S a b fun G H => nI (sm (pd (aV S) G H) (aV S + 1))
def sWould (S : Abs) (w a b t : Int32) : Int32 := on (inN w 5) fun w => on2 S a b fun G H => if t = nI 0 then nI (ct (aW S) (jnG w (aW S) G H)) else if t = nI 1 then nI (nb (aV S) (jnG w (aW S) G H)) else mI 1
def ntp (G : Rw) (i : Nat) : Option Nat := nt (pb G) i 256
def pairA (t : Nat) : Option Nat → Int32
  | none => mI 1
  | some q => nI (if t = 0 then q / 16 else q % 16)
def sPair (S : Abs) (a i w : Int32) : Int32 := on (inN a (aR S)) fun k => if i < nI 0 then mI 1 else on (inN w 2) fun t => pairA t (ntp (aG S k) i.toNatClampNeg)
def sUnl (S : Abs) (a b : Int32) : Int32 := on2 S a b fun G H => nI (ct (aW S) (jnG 2 (aW S) G H) + ct (aW S) (jnG 2 (aW S) H G))
def sWith (S : Abs) (a b : Int32) : Int32 := on2 S a b fun G H => nI (decide (ct (aW S) (jnG 2 (aW S) G H) = 0)).toNat
def bzf (n : Nat) (G : Rw) (t k : Nat) : Nat := bc (if t = 0 then G k else cs n G k)
def sBusy (S : Abs) (a w : Int32) : Int32 := on (inN a (aR S)) fun k => on (inN w 2) fun t => nI (am (bzf (aW S) (aG S k) t) (aW S))
def dBlk (S : Abs) (k l : Nat) : Nat := am (cb (aV S) l (aG S k)) (2 ^ (2 * l))
def sDens (S : Abs) (a l w : Int32) : Int32 := on (inN a (aR S)) fun k => on (inN l (aV S + 1)) fun l => on (inN w 3) fun t => if t = 0 then nI (dBlk S k l / 2 ^ l * 2 ^ (aV S - l)) else if t = 1 then nI (dBlk S k l % 2 ^ l * 2 ^ (aV S - l)) else nI (cb (aV S) l (aG S k) (dBlk S k l))
def sReach (S : Abs) (a b : Int32) : Int32 := on (inN a (aR S)) fun k => on (inN b (aW S)) fun i => nI (rch (aW S) (aG S k) (2 ^ i) (aW S))
def sFar (S : Abs) (a b c : Int32) : Int32 := on (inN a (aR S)) fun k => on (inN b (aW S)) fun i => on (inN c (aW S)) fun j => oI (ff (fun m => (rch (aW S) (aG S k) (2 ^ i) m).testBit j) (aW S))
def sMut (S : Abs) (a b : Int32) : Int32 := on (inN a (aR S)) fun k => on (inN b (aW S)) fun i => nI (rch (aW S) (aG S k) (2 ^ i) (aW S) &&& rch (aW S) (tp (aW S) (aG S k)) (2 ^ i) (aW S))
def sClos (S : Abs) (a : Int32) : Int32 := on (inN a (aR S)) fun k => nI (ct (aW S) (gos (aW S) (aG S k) (ngo (aW S) (aG S k) 16)))
def sSett (S : Abs) (a : Int32) : Int32 := on (inN a (aR S)) fun k => nI (ngo (aW S) (aG S k) 16)
def sParts (S : Abs) (a : Int32) : Int32 := on (inN a (aR S)) fun k => nI (sm (fun i => if (met (aW S) (sy (aW S) (aG S k)) i).testBit i then 0 else 1) (aW S))
def isB6 (n : Nat) (G : Rw) (t : Nat) : Bool := if t = 0 then allb (fun r => (G r).testBit r) n else if t = 1 then allb (fun r => decide (G r = cs n G r)) n else if t = 2 then allb (fun r => decide (nd (jnG 3 n G G r) (G r) = 0)) n else if t = 3 then decide (mx (fun r => bc (G r)) n ≤ 1) else if t = 4 then decide (mx (fun c => bc (cs n G c)) n ≤ 1) else decide (1 ≤ mn (fun r => bc (G r)) n n)
def sIs (S : Abs) (a w : Int32) : Int32 := on (inN a (aR S)) fun k => on (inN w 6) fun t => nI (isB6 (aW S) (aG S k) t).toNat
def sLaw (S : Abs) (a n : Int32) : Int32 := on (inN a (aR S)) fun k => if n < nI (aV S) then mI 1 else if nI 6 < n then mI 1 else if ct (aW S) (aG S k) = 0 then nI (nb (aV S) (aG S k)) else nI (nb (aV S) (aG S k)) + nI 4 * (n - nI (aV S))
def sLies (S : Abs) (i : Int32) : Int32 := if i < nI 0 then mI 2 else match (aL S)[i.toNatClampNeg]? with
  | some e => nI e
  | none => mI 2
def sFault (S : Abs) (w : Int32) : Int32 := if w = nI 0 then nI (aF S) else if w = nI 1 then oI (aP S) else mI 1
section
variable {h : MH} {f : Nat → Nat → Int32} {x pa pb s1 v1 : Nat} {S : Abs}
theorem FX.tree {f' : Nat → Nat → Int32} (a : Fr (x + 184) (x + 199) f f') : FX x pa f f' := FX.fr a (fun y h1 h2 => ⟨by unfold Scr; omega, by omega⟩)
theorem FX.tree2 {f' : Nat → Nat → Int32} (a : Fr (x + 199) (x + 214) f f') : FX x pa f f' := FX.fr a (fun y h1 h2 => ⟨by unfold Scr; omega, by omega⟩)
theorem FX.stp {f' : Nat → Nat → Int32} (a : Fr (x + 216) (x + 221) f f') : FX x pa f f' := FX.fr a (fun y h1 h2 => ⟨by unfold Scr; omega, by omega⟩)
theorem FX.made {n : Nat} {G : Rw} : FX x pa f (gw f (x + 214) n G) := FX.fr (lo := x + 214) (hi := x + 216) (Fr.gw (by omega) (by omega)) (fun y h1 h2 => ⟨by unfold Scr; omega, by omega⟩)
theorem c_fault (C : CSH h x pa pb s1 v1) (F : CF f (hL h) x pa S) (W : WS S) (w : Int32) : ev M_PT_fault 0 0 [some (.ref x), some (.int w)] [] (wI h f) = some (some (.int (sFault S w)), wI h f) := by
  obtain ⟨⟨c0, q0, q2, q3, q4, q5, q6, q7, q8, q9, q10, q11, q12, q13⟩, PA, PB, RSH, HSH, ⟨bC, bN, bR⟩, ISH, TSH, TSH2, GSH, SSH, ⟨lC, lN1, tC, tN⟩, ⟨rC, rR1, sC, sR1, wC, wN⟩, STR, ⟨sx1, sx2, x0⟩, PP⟩ := id C
  obtain ⟨⟨ft1, ft2⟩, ⟨fl1, fl2⟩, ⟨fe1, fe2⟩, fkw, fpn, ⟨fg1, fg2⟩, fhist, fbx, fsg⟩ := id F
  obtain ⟨⟨ws1, ws2⟩, ⟨ws3, ws4⟩, wpn, ⟨ws5, ws6, ws7⟩, ws8, ⟨ws9, ws10⟩, ⟨ws11, ws12⟩, ws13⟩ := id W
  have p1 := PA.1
  have r1 := RSH.1
  have r2 := RSH.2.1
  have r3 := RSH.2.2.1
  have r4 := RSH.2.2.2.1
  have hv1 : 1 ≤ aV S := wpn.1.1
  have hv4 : aV S ≤ 4 := wpn.1.2.1
  have hr5 : aR S ≤ 5 := wpn.1.2.2.2.1
  have hn16 : aW S ≤ 16 := lv_p hv4
  have fp0 : f pa 0 = nI (aV S) := fpn.1
  have fp1 : f pa 1 = nI (aR S) := fpn.2.1
  have gSH := GSH.1
  have tSH := TSH.1
  have sSH := SSH.1
  have iSH := ISH.1
  have hSH := HSH.1
  rw [r_PT_fault_0]
  apply wp_e
  unfold sFault
  by_cases q : w = nI 0
  · rw [if_pos q]
    refine wp_bt q (wp_isC c0 (wp_nnR q4 (wp_isC rC ?_)))
    rw [wI_I, fe1]; exact wp_s ⟨rfl, rfl⟩
  rw [if_neg q]
  refine wp_bf q ?_
  by_cases q1 : w = nI 1
  · rw [if_pos q1]
    refine wp_bt q1 (wp_isC c0 (wp_nnR q4 (wp_isC rC ?_)))
    rw [wI_I, fe2]; exact wp_s ⟨rfl, rfl⟩
  rw [if_neg q1]
  exact wp_bf q1 (wp_s ⟨rfl, rfl⟩)
theorem c_lies (C : CSH h x pa pb s1 v1) (F : CF f (hL h) x pa S) (W : WS S) (i : Int32) : ev M_PT_lies 0 0 [some (.ref x), some (.int i)] [] (wI h f) = some (some (.int (sLies S i)), wI h f) := by
  obtain ⟨⟨c0, q0, q2, q3, q4, q5, q6, q7, q8, q9, q10, q11, q12, q13⟩, PA, PB, RSH, HSH, ⟨bC, bN, bR⟩, ISH, TSH, TSH2, GSH, SSH, ⟨lC, lN1, tC, tN⟩, ⟨rC, rR1, sC, sR1, wC, wN⟩, STR, ⟨sx1, sx2, x0⟩, PP⟩ := id C
  obtain ⟨⟨ft1, ft2⟩, ⟨fl1, fl2⟩, ⟨fe1, fe2⟩, fkw, fpn, ⟨fg1, fg2⟩, fhist, fbx, fsg⟩ := id F
  obtain ⟨⟨ws1, ws2⟩, ⟨ws3, ws4⟩, wpn, ⟨ws5, ws6, ws7⟩, ws8, ⟨ws9, ws10⟩, ⟨ws11, ws12⟩, ws13⟩ := id W
  have p1 := PA.1
  have r1 := RSH.1
  have r2 := RSH.2.1
  have r3 := RSH.2.2.1
  have r4 := RSH.2.2.2.1
  have hv1 : 1 ≤ aV S := wpn.1.1
  have hv4 : aV S ≤ 4 := wpn.1.2.1
  have hr5 : aR S ≤ 5 := wpn.1.2.2.2.1
  have hn16 : aW S ≤ 16 := lv_p hv4
  have fp0 : f pa 0 = nI (aV S) := fpn.1
  have fp1 : f pa 1 = nI (aR S) := fpn.2.1
  have gSH := GSH.1
  have tSH := TSH.1
  have sSH := SSH.1
  have iSH := ISH.1
  have hSH := HSH.1
  rw [r_PT_lies_0]
  apply wp_e
  unfold sLies
  by_cases q : i < nI 0
  · rw [if_pos q]; exact wp_bt q (wp_s ⟨rfl, rfl⟩)
  rw [if_neg q]
  obtain ⟨j, hj, e⟩ := nI_of q
  subst e
  rw [nI_clamp hj]
  refine wp_bf q (wp_isC c0 ?_)
  rw [wI_I, fl1]
  by_cases z : j < (aL S).length
  · obtain ⟨e, he⟩ : ∃ e, (aL S)[j]? = some e := ⟨_, List.getElem?_eq_getElem z⟩
    refine wp_bt (by rw [nI_ltI hj (by omega)]; exact z) (wp_isC c0 (wp_nnR q13 (wp_isC lC (wp_inA lN1 rfl (by omega) (by omega) ?_))))
    rw [fl2 j e he, he]
    exact wp_s ⟨rfl, rfl⟩
  · rw [List.getElem?_eq_none (by omega)]
    exact wp_bf (by rw [nI_ltI hj (by omega)]; exact z) (wp_s ⟨rfl, rfl⟩)
theorem c_relation (C : CSH h x pa pb s1 v1) (F : CF f (hL h) x pa S) (W : WS S) (a w : Int32) : ∃ f', ev M_PT_relation 0 0 [some (.ref x), some (.int a), some (.int w), none] [] (wI h f) = some (some (.int (sRel S a w)), wI h f') ∧ FX x pa f f' := by
  obtain ⟨⟨c0, q0, q2, q3, q4, q5, q6, q7, q8, q9, q10, q11, q12, q13⟩, PA, PB, RSH, HSH, ⟨bC, bN, bR⟩, ISH, TSH, TSH2, GSH, SSH, ⟨lC, lN1, tC, tN⟩, ⟨rC, rR1, sC, sR1, wC, wN⟩, STR, ⟨sx1, sx2, x0⟩, PP⟩ := id C
  obtain ⟨⟨ft1, ft2⟩, ⟨fl1, fl2⟩, ⟨fe1, fe2⟩, fkw, fpn, ⟨fg1, fg2⟩, fhist, fbx, fsg⟩ := id F
  obtain ⟨⟨ws1, ws2⟩, ⟨ws3, ws4⟩, wpn, ⟨ws5, ws6, ws7⟩, ws8, ⟨ws9, ws10⟩, ⟨ws11, ws12⟩, ws13⟩ := id W
  have p1 := PA.1
  have r1 := RSH.1
  have r2 := RSH.2.1
  have r3 := RSH.2.2.1
  have r4 := RSH.2.2.2.1
  have hv1 : 1 ≤ aV S := wpn.1.1
  have hv4 : aV S ≤ 4 := wpn.1.2.1
  have hr5 : aR S ≤ 5 := wpn.1.2.2.2.1
  have hn16 : aW S ≤ 16 := lv_p hv4
  have fp0 : f pa 0 = nI (aV S) := fpn.1
  have fp1 : f pa 1 = nI (aR S) := fpn.2.1
  have gSH := GSH.1
  have tSH := TSH.1
  have sSH := SSH.1
  have iSH := ISH.1
  have hSH := HSH.1
  rw [r_PT_relation_0]
  unfold sRel
  cases z : inN a (aR S) with
  | none => exact ⟨f, wp_e (wp_isC c0 (wp_rIe (pt_isRel C F W a) (by rw [z]; exact wp_bt rfl (wp_s ⟨rfl, rfl⟩)))), FX.rf⟩
  | some k =>
  obtain ⟨e, e2, e3⟩ := inN_s z
  subst e
  obtain ⟨g1, g2, g3, g4⟩ := pt_rl C F W e2
  have g5 := g2.1
  have hpa := PPa C
  dsimp only [on]
  by_cases w0 : w = nI 0
  · refine ⟨f, wp_e (wp_isC c0 (wp_rIe (pt_isRel C F W _) ?_)), FX.rf⟩
    rw [z]
    refine wp_bf n10 ?_
    repeat (first | refine wp_isC (by assumption) ?_ | refine wp_nnR (by assumption) ?_ | refine wp_inA (by assumption) rfl (by omega) (by omega) ?_ | refine wp_isZ (by first | decide | exact b01z _) ?_ | refine wp_bt (by (first | (simp (disch := omega) only [wI_I, wI_s, nI_add, pk_mul, nI_ltI, nI_leI, nI_eq, nI_clamp, nm_or, nm_and, nm_xor, nm_nd, nm_one, nm_shr, nm_b2, Bool.false_eq_true, Bool.true_eq_false, not_false_eq_true, not_true_eq_false, reduceCtorEq]; done) | (simp (disch := omega) only [wI_I, wI_s, nI_add, pk_mul, nI_ltI, nI_leI, nI_eq, nI_clamp, nm_or, nm_and, nm_xor, nm_nd, nm_one, nm_shr, nm_b2, Bool.false_eq_true, Bool.true_eq_false, not_false_eq_true, not_true_eq_false, reduceCtorEq]; omega) | omega)) ?_ | refine wp_bf (by (first | (simp (disch := omega) only [wI_I, wI_s, nI_add, pk_mul, nI_ltI, nI_leI, nI_eq, nI_clamp, nm_or, nm_and, nm_xor, nm_nd, nm_one, nm_shr, nm_b2, Bool.false_eq_true, Bool.true_eq_false, not_false_eq_true, not_true_eq_false, reduceCtorEq]; done) | (simp (disch := omega) only [wI_I, wI_s, nI_add, pk_mul, nI_ltI, nI_leI, nI_eq, nI_clamp, nm_or, nm_and, nm_xor, nm_nd, nm_one, nm_shr, nm_b2, Bool.false_eq_true, Bool.true_eq_false, not_false_eq_true, not_true_eq_false, reduceCtorEq]; omega) | omega)) ?_ | refine wp_nz (by first | decide | exact nz_n (by omega) (by omega)) ?_ | (simp (disch := omega) only [wI_I, wI_s, nI_add, pk_mul, nI_ltI, nI_leI, nI_eq, nI_clamp, nm_or, nm_and, nm_xor, nm_nd, nm_one, nm_shr, nm_b2, Bool.false_eq_true, Bool.true_eq_false, not_false_eq_true, not_true_eq_false, reduceCtorEq, up2_a, up2_k, up2_s, gw_o]))
    have td : vTd (aQ S) < 2 ^ 31 := Nat.lt_trans wpn.1.2.2.2.2.1 (by decide)
    refine wp_rIe (pl_told p1 fpn.2.2.1 td (show k < 5 by omega)) ?_
    rw [if_pos w0]
    cases (vTd (aQ S)).testBit k with
    | false => exact wp_bt rfl (wp_s ⟨rfl, rfl⟩)
    | true => exact wp_bf n10 (wp_s ⟨rfl, rfl⟩)
  rw [if_neg w0]
  by_cases w1 : w = nI 1
  · refine ⟨f, wp_e (wp_isC c0 (wp_rIe (pt_isRel C F W _) ?_)), FX.rf⟩
    rw [z]
    refine wp_bf n10 ?_
    repeat (first | refine wp_isC (by assumption) ?_ | refine wp_nnR (by assumption) ?_ | refine wp_inA (by assumption) rfl (by omega) (by omega) ?_ | refine wp_isZ (by first | decide | exact b01z _) ?_ | refine wp_bt (by (first | (simp (disch := omega) only [wI_I, wI_s, nI_add, pk_mul, nI_ltI, nI_leI, nI_eq, nI_clamp, nm_or, nm_and, nm_xor, nm_nd, nm_one, nm_shr, nm_b2, Bool.false_eq_true, Bool.true_eq_false, not_false_eq_true, not_true_eq_false, reduceCtorEq]; done) | (simp (disch := omega) only [wI_I, wI_s, nI_add, pk_mul, nI_ltI, nI_leI, nI_eq, nI_clamp, nm_or, nm_and, nm_xor, nm_nd, nm_one, nm_shr, nm_b2, Bool.false_eq_true, Bool.true_eq_false, not_false_eq_true, not_true_eq_false, reduceCtorEq]; omega) | omega)) ?_ | refine wp_bf (by (first | (simp (disch := omega) only [wI_I, wI_s, nI_add, pk_mul, nI_ltI, nI_leI, nI_eq, nI_clamp, nm_or, nm_and, nm_xor, nm_nd, nm_one, nm_shr, nm_b2, Bool.false_eq_true, Bool.true_eq_false, not_false_eq_true, not_true_eq_false, reduceCtorEq]; done) | (simp (disch := omega) only [wI_I, wI_s, nI_add, pk_mul, nI_ltI, nI_leI, nI_eq, nI_clamp, nm_or, nm_and, nm_xor, nm_nd, nm_one, nm_shr, nm_b2, Bool.false_eq_true, Bool.true_eq_false, not_false_eq_true, not_true_eq_false, reduceCtorEq]; omega) | omega)) ?_ | refine wp_nz (by first | decide | exact nz_n (by omega) (by omega)) ?_ | (simp (disch := omega) only [wI_I, wI_s, nI_add, pk_mul, nI_ltI, nI_leI, nI_eq, nI_clamp, nm_or, nm_and, nm_xor, nm_nd, nm_one, nm_shr, nm_b2, Bool.false_eq_true, Bool.true_eq_false, not_false_eq_true, not_true_eq_false, reduceCtorEq, up2_a, up2_k, up2_s, gw_o]))
    refine wp_rIe (gq_count g2 g3 g4) ?_
    rw [if_pos w1]
    exact wp_s ⟨rfl, rfl⟩
  rw [if_neg w1]
  by_cases w2 : w = nI 2
  · obtain ⟨f', b1, b2⟩ := pt_bitsOf C F W g2 (by omega) g3 g4
    refine ⟨f', wp_e (wp_isC c0 (wp_rIe (pt_isRel C F W _) ?_)), FX.tree b2⟩
    rw [z]
    refine wp_bf n10 ?_
    repeat (first | refine wp_isC (by assumption) ?_ | refine wp_nnR (by assumption) ?_ | refine wp_inA (by assumption) rfl (by omega) (by omega) ?_ | refine wp_isZ (by first | decide | exact b01z _) ?_ | refine wp_bt (by (first | (simp (disch := omega) only [wI_I, wI_s, nI_add, pk_mul, nI_ltI, nI_leI, nI_eq, nI_clamp, nm_or, nm_and, nm_xor, nm_nd, nm_one, nm_shr, nm_b2, Bool.false_eq_true, Bool.true_eq_false, not_false_eq_true, not_true_eq_false, reduceCtorEq]; done) | (simp (disch := omega) only [wI_I, wI_s, nI_add, pk_mul, nI_ltI, nI_leI, nI_eq, nI_clamp, nm_or, nm_and, nm_xor, nm_nd, nm_one, nm_shr, nm_b2, Bool.false_eq_true, Bool.true_eq_false, not_false_eq_true, not_true_eq_false, reduceCtorEq]; omega) | omega)) ?_ | refine wp_bf (by (first | (simp (disch := omega) only [wI_I, wI_s, nI_add, pk_mul, nI_ltI, nI_leI, nI_eq, nI_clamp, nm_or, nm_and, nm_xor, nm_nd, nm_one, nm_shr, nm_b2, Bool.false_eq_true, Bool.true_eq_false, not_false_eq_true, not_true_eq_false, reduceCtorEq]; done) | (simp (disch := omega) only [wI_I, wI_s, nI_add, pk_mul, nI_ltI, nI_leI, nI_eq, nI_clamp, nm_or, nm_and, nm_xor, nm_nd, nm_one, nm_shr, nm_b2, Bool.false_eq_true, Bool.true_eq_false, not_false_eq_true, not_true_eq_false, reduceCtorEq]; omega) | omega)) ?_ | refine wp_nz (by first | decide | exact nz_n (by omega) (by omega)) ?_ | (simp (disch := omega) only [wI_I, wI_s, nI_add, pk_mul, nI_ltI, nI_leI, nI_eq, nI_clamp, nm_or, nm_and, nm_xor, nm_nd, nm_one, nm_shr, nm_b2, Bool.false_eq_true, Bool.true_eq_false, not_false_eq_true, not_true_eq_false, reduceCtorEq, up2_a, up2_k, up2_s, gw_o]))
    refine wp_rIe b1 ?_
    rw [if_pos w2]
    exact wp_s ⟨rfl, rfl⟩
  rw [if_neg w2]
  by_cases w3 : w = nI 3
  · obtain ⟨f', b1, b2⟩ := pt_bitsOf C F W g2 (by omega) g3 g4
    refine ⟨f', wp_e (wp_isC c0 (wp_rIe (pt_isRel C F W _) ?_)), FX.tree b2⟩
    rw [z]
    refine wp_bf n10 ?_
    repeat (first | refine wp_isC (by assumption) ?_ | refine wp_nnR (by assumption) ?_ | refine wp_inA (by assumption) rfl (by omega) (by omega) ?_ | refine wp_isZ (by first | decide | exact b01z _) ?_ | refine wp_bt (by (first | (simp (disch := omega) only [wI_I, wI_s, nI_add, pk_mul, nI_ltI, nI_leI, nI_eq, nI_clamp, nm_or, nm_and, nm_xor, nm_nd, nm_one, nm_shr, nm_b2, Bool.false_eq_true, Bool.true_eq_false, not_false_eq_true, not_true_eq_false, reduceCtorEq]; done) | (simp (disch := omega) only [wI_I, wI_s, nI_add, pk_mul, nI_ltI, nI_leI, nI_eq, nI_clamp, nm_or, nm_and, nm_xor, nm_nd, nm_one, nm_shr, nm_b2, Bool.false_eq_true, Bool.true_eq_false, not_false_eq_true, not_true_eq_false, reduceCtorEq]; omega) | omega)) ?_ | refine wp_bf (by (first | (simp (disch := omega) only [wI_I, wI_s, nI_add, pk_mul, nI_ltI, nI_leI, nI_eq, nI_clamp, nm_or, nm_and, nm_xor, nm_nd, nm_one, nm_shr, nm_b2, Bool.false_eq_true, Bool.true_eq_false, not_false_eq_true, not_true_eq_false, reduceCtorEq]; done) | (simp (disch := omega) only [wI_I, wI_s, nI_add, pk_mul, nI_ltI, nI_leI, nI_eq, nI_clamp, nm_or, nm_and, nm_xor, nm_nd, nm_one, nm_shr, nm_b2, Bool.false_eq_true, Bool.true_eq_false, not_false_eq_true, not_true_eq_false, reduceCtorEq]; omega) | omega)) ?_ | refine wp_nz (by first | decide | exact nz_n (by omega) (by omega)) ?_ | (simp (disch := omega) only [wI_I, wI_s, nI_add, pk_mul, nI_ltI, nI_leI, nI_eq, nI_clamp, nm_or, nm_and, nm_xor, nm_nd, nm_one, nm_shr, nm_b2, Bool.false_eq_true, Bool.true_eq_false, not_false_eq_true, not_true_eq_false, reduceCtorEq, up2_a, up2_k, up2_s, gw_o]))
    refine wp_rIe (pl_size p1 fp0 hv4) (wp_isC c0 (wp_nnR q2 (wp_isC p1 (wp_rIe (pl_size p1 fp0 hv4) (wp_isC c0 (wp_rIe b1 ?_))))))
    rw [if_pos w3, pk_mul]
    exact wp_s ⟨rfl, rfl⟩
  rw [if_neg w3]
  by_cases w4 : w = nI 4
  · obtain ⟨f', b1, b2, b3⟩ := pt_sift C F W g2 (by omega) (by omega) g3 g4
    refine ⟨f', wp_e (wp_isC c0 (wp_rIe (pt_isRel C F W _) ?_)), b3.fx hpa⟩
    rw [z]
    refine wp_bf n10 ?_
    repeat (first | refine wp_isC (by assumption) ?_ | refine wp_nnR (by assumption) ?_ | refine wp_inA (by assumption) rfl (by omega) (by omega) ?_ | refine wp_isZ (by first | decide | exact b01z _) ?_ | refine wp_bt (by (first | (simp (disch := omega) only [wI_I, wI_s, nI_add, pk_mul, nI_ltI, nI_leI, nI_eq, nI_clamp, nm_or, nm_and, nm_xor, nm_nd, nm_one, nm_shr, nm_b2, Bool.false_eq_true, Bool.true_eq_false, not_false_eq_true, not_true_eq_false, reduceCtorEq]; done) | (simp (disch := omega) only [wI_I, wI_s, nI_add, pk_mul, nI_ltI, nI_leI, nI_eq, nI_clamp, nm_or, nm_and, nm_xor, nm_nd, nm_one, nm_shr, nm_b2, Bool.false_eq_true, Bool.true_eq_false, not_false_eq_true, not_true_eq_false, reduceCtorEq]; omega) | omega)) ?_ | refine wp_bf (by (first | (simp (disch := omega) only [wI_I, wI_s, nI_add, pk_mul, nI_ltI, nI_leI, nI_eq, nI_clamp, nm_or, nm_and, nm_xor, nm_nd, nm_one, nm_shr, nm_b2, Bool.false_eq_true, Bool.true_eq_false, not_false_eq_true, not_true_eq_false, reduceCtorEq]; done) | (simp (disch := omega) only [wI_I, wI_s, nI_add, pk_mul, nI_ltI, nI_leI, nI_eq, nI_clamp, nm_or, nm_and, nm_xor, nm_nd, nm_one, nm_shr, nm_b2, Bool.false_eq_true, Bool.true_eq_false, not_false_eq_true, not_true_eq_false, reduceCtorEq]; omega) | omega)) ?_ | refine wp_nz (by first | decide | exact nz_n (by omega) (by omega)) ?_ | (simp (disch := omega) only [wI_I, wI_s, nI_add, pk_mul, nI_ltI, nI_leI, nI_eq, nI_clamp, nm_or, nm_and, nm_xor, nm_nd, nm_one, nm_shr, nm_b2, Bool.false_eq_true, Bool.true_eq_false, not_false_eq_true, not_true_eq_false, reduceCtorEq, up2_a, up2_k, up2_s, gw_o]))
    refine wp_rVe b1 (wp_isC c0 (wp_nnR q11 (wp_isC gSH (wp_rIe (gq_count GSH b2 (GW.sft g4)) ?_))))
    rw [if_pos w4]
    exact wp_s ⟨rfl, rfl⟩
  rw [if_neg w4]
  refine ⟨f, wp_e (wp_isC c0 (wp_rIe (pt_isRel C F W _) ?_)), FX.rf⟩
  rw [z]
  refine wp_bf n10 ?_
  repeat (first | refine wp_isC (by assumption) ?_ | refine wp_nnR (by assumption) ?_ | refine wp_inA (by assumption) rfl (by omega) (by omega) ?_ | refine wp_isZ (by first | decide | exact b01z _) ?_ | refine wp_bt (by (first | (simp (disch := omega) only [wI_I, wI_s, nI_add, pk_mul, nI_ltI, nI_leI, nI_eq, nI_clamp, nm_or, nm_and, nm_xor, nm_nd, nm_one, nm_shr, nm_b2, Bool.false_eq_true, Bool.true_eq_false, not_false_eq_true, not_true_eq_false, reduceCtorEq]; done) | (simp (disch := omega) only [wI_I, wI_s, nI_add, pk_mul, nI_ltI, nI_leI, nI_eq, nI_clamp, nm_or, nm_and, nm_xor, nm_nd, nm_one, nm_shr, nm_b2, Bool.false_eq_true, Bool.true_eq_false, not_false_eq_true, not_true_eq_false, reduceCtorEq]; omega) | omega)) ?_ | refine wp_bf (by (first | (simp (disch := omega) only [wI_I, wI_s, nI_add, pk_mul, nI_ltI, nI_leI, nI_eq, nI_clamp, nm_or, nm_and, nm_xor, nm_nd, nm_one, nm_shr, nm_b2, Bool.false_eq_true, Bool.true_eq_false, not_false_eq_true, not_true_eq_false, reduceCtorEq]; done) | (simp (disch := omega) only [wI_I, wI_s, nI_add, pk_mul, nI_ltI, nI_leI, nI_eq, nI_clamp, nm_or, nm_and, nm_xor, nm_nd, nm_one, nm_shr, nm_b2, Bool.false_eq_true, Bool.true_eq_false, not_false_eq_true, not_true_eq_false, reduceCtorEq]; omega) | omega)) ?_ | refine wp_nz (by first | decide | exact nz_n (by omega) (by omega)) ?_ | (simp (disch := omega) only [wI_I, wI_s, nI_add, pk_mul, nI_ltI, nI_leI, nI_eq, nI_clamp, nm_or, nm_and, nm_xor, nm_nd, nm_one, nm_shr, nm_b2, Bool.false_eq_true, Bool.true_eq_false, not_false_eq_true, not_true_eq_false, reduceCtorEq, up2_a, up2_k, up2_s, gw_o]))
  exact wp_s ⟨rfl, rfl⟩
theorem c_blocks (C : CSH h x pa pb s1 v1) (F : CF f (hL h) x pa S) (W : WS S) (a l : Int32) : ∃ f', ev M_PT_blocks 0 0 [some (.ref x), some (.int a), some (.int l)] [] (wI h f) = some (some (.int (sBlk S a l)), wI h f') ∧ FX x pa f f' := by
  obtain ⟨⟨c0, q0, q2, q3, q4, q5, q6, q7, q8, q9, q10, q11, q12, q13⟩, PA, PB, RSH, HSH, ⟨bC, bN, bR⟩, ISH, TSH, TSH2, GSH, SSH, ⟨lC, lN1, tC, tN⟩, ⟨rC, rR1, sC, sR1, wC, wN⟩, STR, ⟨sx1, sx2, x0⟩, PP⟩ := id C
  obtain ⟨⟨ft1, ft2⟩, ⟨fl1, fl2⟩, ⟨fe1, fe2⟩, fkw, fpn, ⟨fg1, fg2⟩, fhist, fbx, fsg⟩ := id F
  obtain ⟨⟨ws1, ws2⟩, ⟨ws3, ws4⟩, wpn, ⟨ws5, ws6, ws7⟩, ws8, ⟨ws9, ws10⟩, ⟨ws11, ws12⟩, ws13⟩ := id W
  have p1 := PA.1
  have r1 := RSH.1
  have r2 := RSH.2.1
  have r3 := RSH.2.2.1
  have r4 := RSH.2.2.2.1
  have hv1 : 1 ≤ aV S := wpn.1.1
  have hv4 : aV S ≤ 4 := wpn.1.2.1
  have hr5 : aR S ≤ 5 := wpn.1.2.2.2.1
  have hn16 : aW S ≤ 16 := lv_p hv4
  have fp0 : f pa 0 = nI (aV S) := fpn.1
  have fp1 : f pa 1 = nI (aR S) := fpn.2.1
  have gSH := GSH.1
  have tSH := TSH.1
  have sSH := SSH.1
  have iSH := ISH.1
  have hSH := HSH.1
  rw [r_PT_blocks_0]
  unfold sBlk
  cases z : inN a (aR S) with
  | none => exact ⟨f, wp_e (wp_isC c0 (wp_rIe (pt_isRel C F W a) (by rw [z]; exact wp_bt rfl (wp_s ⟨rfl, rfl⟩)))), FX.rf⟩
  | some k =>
  obtain ⟨e, e2, e3⟩ := inN_s z
  subst e
  obtain ⟨g1, g2, g3, g4⟩ := pt_rl C F W e2
  have g5 := g2.1
  cases z2 : inN l (aV S + 1) with
  | none =>
    refine ⟨f, wp_e (wp_isC c0 (wp_rIe (pt_isRel C F W _) ?_)), FX.rf⟩
    rw [z]
    refine wp_bf n10 (wp_isC c0 (wp_rIe (pt_isLevel C F W l) ?_))
    rw [z2]
    exact wp_bt rfl (wp_s ⟨rfl, rfl⟩)
  | some j =>
  obtain ⟨e, j2, j3⟩ := inN_s z2
  subst e
  obtain ⟨r, h', t0, f', t1, t2, t3, t4⟩ := tr_grow TSH g2 (by omega) g3 g4 hv1 hv4
  subst t1; subst t2
  have ts := (TSH.2.2.2.2.1 j (by omega))
  have ts1 := ts.2.1
  refine ⟨f', wp_e (wp_isC c0 (wp_rIe (pt_isRel C F W _) ?_)), FX.tree t4⟩
  rw [z]
  refine wp_bf n10 (wp_isC c0 (wp_rIe (pt_isLevel C F W _) ?_))
  rw [z2]
  refine wp_bf n10 ?_
  repeat (first | refine wp_isC (by assumption) ?_ | refine wp_nnR (by assumption) ?_ | refine wp_inA (by assumption) rfl (by omega) (by omega) ?_ | refine wp_isZ (by first | decide | exact b01z _) ?_ | refine wp_bt (by (first | (simp (disch := omega) only [wI_I, wI_s, nI_add, pk_mul, nI_ltI, nI_leI, nI_eq, nI_clamp, nm_or, nm_and, nm_xor, nm_nd, nm_one, nm_shr, nm_b2, Bool.false_eq_true, Bool.true_eq_false, not_false_eq_true, not_true_eq_false, reduceCtorEq, fp0]; done) | (simp (disch := omega) only [wI_I, wI_s, nI_add, pk_mul, nI_ltI, nI_leI, nI_eq, nI_clamp, nm_or, nm_and, nm_xor, nm_nd, nm_one, nm_shr, nm_b2, Bool.false_eq_true, Bool.true_eq_false, not_false_eq_true, not_true_eq_false, reduceCtorEq, fp0]; omega) | omega)) ?_ | refine wp_bf (by (first | (simp (disch := omega) only [wI_I, wI_s, nI_add, pk_mul, nI_ltI, nI_leI, nI_eq, nI_clamp, nm_or, nm_and, nm_xor, nm_nd, nm_one, nm_shr, nm_b2, Bool.false_eq_true, Bool.true_eq_false, not_false_eq_true, not_true_eq_false, reduceCtorEq, fp0]; done) | (simp (disch := omega) only [wI_I, wI_s, nI_add, pk_mul, nI_ltI, nI_leI, nI_eq, nI_clamp, nm_or, nm_and, nm_xor, nm_nd, nm_one, nm_shr, nm_b2, Bool.false_eq_true, Bool.true_eq_false, not_false_eq_true, not_true_eq_false, reduceCtorEq, fp0]; omega) | omega)) ?_ | refine wp_nz (by first | decide | exact nz_n (by omega) (by omega)) ?_ | (simp (disch := omega) only [wI_I, wI_s, nI_add, pk_mul, nI_ltI, nI_leI, nI_eq, nI_clamp, nm_or, nm_and, nm_xor, nm_nd, nm_one, nm_shr, nm_b2, Bool.false_eq_true, Bool.true_eq_false, not_false_eq_true, not_true_eq_false, reduceCtorEq, up2_a, up2_k, up2_s, gw_o, fp0]))
  refine wp_rVe t0 ?_
  refine wp_isC c0 (wp_nnR q9 (wp_isC tSH (wp_rRe (tr_on TSH t3.1 hv4 (by omega)) (wp_isC ts1 (wp_rIe (gq_count ts.2 (t3.2 j (by omega)) (fl_W g4 (by omega))) (wp_s ⟨rfl, rfl⟩))))))
theorem pt_isBit (C : CSH h x pa pb s1 v1) (F : CF f (hL h) x pa S) (W : WS S) (a b : Int32) : ∃ f', ev M_PT_isBit 0 0 [some (.ref x), some (.int a), some (.int b)] [] (wI h f) = some (some (.int (nI (bl S a b).toNat)), wI h f') ∧ FX x pa f f' ∧ ∀ k j, inN a (aR S) = some k → inN b (nb (aV S) (aG S k)) = some j → TF f' (x + 184) (aV S) (aG S k) ∧ QF f' (x + 184) (bQ S k) ∧ j < (bQ S k).length := by
  obtain ⟨⟨c0, q0, q2, q3, q4, q5, q6, q7, q8, q9, q10, q11, q12, q13⟩, PA, PB, RSH, HSH, ⟨bC, bN, bR⟩, ISH, TSH, TSH2, GSH, SSH, ⟨lC, lN1, tC, tN⟩, ⟨rC, rR1, sC, sR1, wC, wN⟩, STR, ⟨sx1, sx2, x0⟩, PP⟩ := id C
  obtain ⟨⟨ft1, ft2⟩, ⟨fl1, fl2⟩, ⟨fe1, fe2⟩, fkw, fpn, ⟨fg1, fg2⟩, fhist, fbx, fsg⟩ := id F
  obtain ⟨⟨ws1, ws2⟩, ⟨ws3, ws4⟩, wpn, ⟨ws5, ws6, ws7⟩, ws8, ⟨ws9, ws10⟩, ⟨ws11, ws12⟩, ws13⟩ := id W
  have p1 := PA.1
  have r1 := RSH.1
  have r2 := RSH.2.1
  have r3 := RSH.2.2.1
  have r4 := RSH.2.2.2.1
  have hv1 : 1 ≤ aV S := wpn.1.1
  have hv4 : aV S ≤ 4 := wpn.1.2.1
  have hr5 : aR S ≤ 5 := wpn.1.2.2.2.1
  have hn16 : aW S ≤ 16 := lv_p hv4
  have fp0 : f pa 0 = nI (aV S) := fpn.1
  have fp1 : f pa 1 = nI (aR S) := fpn.2.1
  have gSH := GSH.1
  have tSH := TSH.1
  have sSH := SSH.1
  have iSH := ISH.1
  have hSH := HSH.1
  rw [r_PT_isBit_0]
  unfold bl
  cases z : inN a (aR S) with
  | none => exact ⟨f, wp_e (wp_isC c0 (wp_rIe (pt_isRel C F W a) (by rw [z]; exact wp_bt rfl (wp_isZ (by decide) (wp_s ⟨rfl, rfl⟩))))), FX.rf, fun k j hk => by cases hk⟩
  | some k =>
  obtain ⟨e, e2, e3⟩ := inN_s z
  subst e
  obtain ⟨g1, g2, g3, g4⟩ := pt_rl C F W e2
  have g5 := g2.1
  by_cases q : b < nI 0
  · have z2 : inN b (nb (aV S) (aG S k)) = none := if_pos q
    refine ⟨f, wp_e (wp_isC c0 (wp_rIe (pt_isRel C F W _) ?_)), FX.rf, fun k' j hk hj => ?_⟩
    · rw [z]; show wp _ (fun u v => u = some (.int (nI (inN b (nb (aV S) (aG S k))).isSome.toNat)) ∧ _)
      rw [z2]
      exact wp_bf n10 (wp_bt q (wp_isZ (by decide) (wp_s ⟨rfl, rfl⟩)))
    · cases hk; rw [z2] at hj; cases hj
  obtain ⟨r, h', t0, f1, t1, t2, t3, t4⟩ := tr_grow TSH g2 (by omega) g3 g4 hv1 hv4
  subst t1; subst t2
  obtain ⟨r, h', u0, f2, u1, u2, u3, u4⟩ := tr_bits TSH t3 g4 hv1 hv4
  subst u1; subst u2
  have t3' := u4.F t3
  have hnb := nb_len g4 hv1 hv4
  refine ⟨f2, wp_e (wp_isC c0 (wp_rIe (pt_isRel C F W _) ?_)), (FX.tree t4).tr (FX.tree (u4.fr.up (by omega) (by omega))), fun k' j hk hj => ?_⟩
  · rw [z]
    refine wp_bf n10 (wp_bf q ?_)
    repeat (first | refine wp_isC (by assumption) ?_ | refine wp_nnR (by assumption) ?_ | refine wp_inA (by assumption) rfl (by omega) (by omega) ?_ | refine wp_isZ (by first | decide | exact b01z _) ?_ | refine wp_bt (by (first | (simp (disch := omega) only [wI_I, wI_s, nI_add, pk_mul, nI_ltI, nI_leI, nI_eq, nI_clamp, nm_or, nm_and, nm_xor, nm_nd, nm_one, nm_shr, nm_b2, Bool.false_eq_true, Bool.true_eq_false, not_false_eq_true, not_true_eq_false, reduceCtorEq, fp0]; done) | (simp (disch := omega) only [wI_I, wI_s, nI_add, pk_mul, nI_ltI, nI_leI, nI_eq, nI_clamp, nm_or, nm_and, nm_xor, nm_nd, nm_one, nm_shr, nm_b2, Bool.false_eq_true, Bool.true_eq_false, not_false_eq_true, not_true_eq_false, reduceCtorEq, fp0]; omega) | omega)) ?_ | refine wp_bf (by (first | (simp (disch := omega) only [wI_I, wI_s, nI_add, pk_mul, nI_ltI, nI_leI, nI_eq, nI_clamp, nm_or, nm_and, nm_xor, nm_nd, nm_one, nm_shr, nm_b2, Bool.false_eq_true, Bool.true_eq_false, not_false_eq_true, not_true_eq_false, reduceCtorEq, fp0]; done) | (simp (disch := omega) only [wI_I, wI_s, nI_add, pk_mul, nI_ltI, nI_leI, nI_eq, nI_clamp, nm_or, nm_and, nm_xor, nm_nd, nm_one, nm_shr, nm_b2, Bool.false_eq_true, Bool.true_eq_false, not_false_eq_true, not_true_eq_false, reduceCtorEq, fp0]; omega) | omega)) ?_ | refine wp_nz (by first | decide | exact nz_n (by omega) (by omega)) ?_ | (simp (disch := omega) only [wI_I, wI_s, nI_add, pk_mul, nI_ltI, nI_leI, nI_eq, nI_clamp, nm_or, nm_and, nm_xor, nm_nd, nm_one, nm_shr, nm_b2, Bool.false_eq_true, Bool.true_eq_false, not_false_eq_true, not_true_eq_false, reduceCtorEq, up2_a, up2_k, up2_s, gw_o, fp0]))
    refine wp_rVe t0 (wp_isC c0 (wp_nnR q9 (wp_isC tSH (wp_rVe u0 (wp_isC c0 (wp_nnR q9 (wp_isC tSH (wp_rIe (tr_count TSH t3' g4 hv1 hv4) ?_))))))))
    show wp _ (fun u v => u = some (.int (nI (inN b (nb (aV S) (aG S k))).isSome.toNat)) ∧ _)
    have hlen : (bits (aV S) (fb (aV S) (aG S k))).length ≤ 340 := QI_len (bits_I hv1 hv4) hv4
    cases z2 : inN b (nb (aV S) (aG S k)) with
    | none =>
      rcases inN_n z2 (by rw [hnb]; omega) with w | ⟨w, w2⟩
      · exact absurd w q
      · exact wp_bf w2 (wp_isZ (by decide) (wp_s ⟨rfl, rfl⟩))
    | some j =>
      obtain ⟨e, j2, j3⟩ := inN_s z2
      subst e
      exact wp_bt (by rw [nI_ltI j3 (by rw [hnb]; omega)]; exact j2) (wp_isZ (by decide) (wp_s ⟨rfl, rfl⟩))
  · cases hk
    obtain ⟨e, j2, j3⟩ := inN_s hj
    exact ⟨t3', u3, by unfold bQ; rw [← hnb]; exact j2⟩
theorem c_bit (C : CSH h x pa pb s1 v1) (F : CF f (hL h) x pa S) (W : WS S) (a b : Int32) : ∃ f', ev M_PT_bit 0 0 [some (.ref x), some (.int a), some (.int b)] [] (wI h f) = some (some (.int (sBit S a b)), wI h f') ∧ FX x pa f f' := by
  obtain ⟨⟨c0, q0, q2, q3, q4, q5, q6, q7, q8, q9, q10, q11, q12, q13⟩, PA, PB, RSH, HSH, ⟨bC, bN, bR⟩, ISH, TSH, TSH2, GSH, SSH, ⟨lC, lN1, tC, tN⟩, ⟨rC, rR1, sC, sR1, wC, wN⟩, STR, ⟨sx1, sx2, x0⟩, PP⟩ := id C
  obtain ⟨⟨ft1, ft2⟩, ⟨fl1, fl2⟩, ⟨fe1, fe2⟩, fkw, fpn, ⟨fg1, fg2⟩, fhist, fbx, fsg⟩ := id F
  obtain ⟨⟨ws1, ws2⟩, ⟨ws3, ws4⟩, wpn, ⟨ws5, ws6, ws7⟩, ws8, ⟨ws9, ws10⟩, ⟨ws11, ws12⟩, ws13⟩ := id W
  have p1 := PA.1
  have r1 := RSH.1
  have r2 := RSH.2.1
  have r3 := RSH.2.2.1
  have r4 := RSH.2.2.2.1
  have hv1 : 1 ≤ aV S := wpn.1.1
  have hv4 : aV S ≤ 4 := wpn.1.2.1
  have hr5 : aR S ≤ 5 := wpn.1.2.2.2.1
  have hn16 : aW S ≤ 16 := lv_p hv4
  have fp0 : f pa 0 = nI (aV S) := fpn.1
  have fp1 : f pa 1 = nI (aR S) := fpn.2.1
  have gSH := GSH.1
  have tSH := TSH.1
  have sSH := SSH.1
  have iSH := ISH.1
  have hSH := HSH.1
  rw [r_PT_bit_0]
  obtain ⟨f', b1, b2, b3⟩ := pt_isBit C F W a b
  refine ⟨f', wp_e (wp_isC c0 (wp_rIe b1 ?_)), b2⟩
  cases z : inN a (aR S) with
  | none =>
    have hb : bl S a b = false := by unfold bl; rw [z]
    have es : sBit S a b = mI 1 := by unfold sBit; rw [z]; rfl
    rw [hb, es]; exact wp_bt rfl (wp_s ⟨rfl, rfl⟩)
  | some k =>
  cases z2 : inN b (nb (aV S) (aG S k)) with
  | none =>
    have hb : bl S a b = false := by unfold bl; rw [z]; show (inN b (nb (aV S) (aG S k))).isSome = false; rw [z2]; rfl
    have es : sBit S a b = mI 1 := by unfold sBit; rw [z]; show on (inN b (nb (aV S) (aG S k))) _ = _; rw [z2]; rfl
    rw [hb, es]; exact wp_bt rfl (wp_s ⟨rfl, rfl⟩)
  | some j =>
  obtain ⟨d1, d2, d3⟩ := b3 k j z z2
  obtain ⟨-, g2, g3, g4⟩ := pt_rl C F W (inN_s z).2.1
  obtain ⟨e, j2, j3⟩ := inN_s z2
  have hQ : (bQ S k).length ≤ 340 := QI_len (bits_I hv1 hv4) hv4
  have hI := (bits_I (p := fb (aV S) (aG S k)) hv1 hv4).2.1
  have hj := eb_at d3
  have ho : okQ (aV S) (eb (bQ S k) j) := hI _ (List.mem_of_getElem? hj)
  have hb : bl S a b = true := by unfold bl; rw [z]; show (inN b (nb (aV S) (aG S k))).isSome = true; rw [z2]; rfl
  have es : sBit S a b = nI (fb (aV S) (aG S k) (eb (bQ S k) j)).toNat := by unfold sBit; rw [z]; show on (inN b (nb (aV S) (aG S k))) _ = _; rw [z2]; rfl
  rw [hb, es, e]
  refine wp_bf n10 (wp_isC c0 (wp_nnR q9 (wp_isC tSH (wp_rIe (tr_bit TSH d1 g4 hv4 d2 hQ hj ho) (wp_s ⟨rfl, rfl⟩)))))
theorem c_rank (C : CSH h x pa pb s1 v1) (F : CF f (hL h) x pa S) (W : WS S) (a b : Int32) : ∃ f', ev M_PT_rank 0 0 [some (.ref x), some (.int a), some (.int b)] [] (wI h f) = some (some (.int (sRank S a b)), wI h f') ∧ FX x pa f f' := by
  obtain ⟨⟨c0, q0, q2, q3, q4, q5, q6, q7, q8, q9, q10, q11, q12, q13⟩, PA, PB, RSH, HSH, ⟨bC, bN, bR⟩, ISH, TSH, TSH2, GSH, SSH, ⟨lC, lN1, tC, tN⟩, ⟨rC, rR1, sC, sR1, wC, wN⟩, STR, ⟨sx1, sx2, x0⟩, PP⟩ := id C
  obtain ⟨⟨ft1, ft2⟩, ⟨fl1, fl2⟩, ⟨fe1, fe2⟩, fkw, fpn, ⟨fg1, fg2⟩, fhist, fbx, fsg⟩ := id F
  obtain ⟨⟨ws1, ws2⟩, ⟨ws3, ws4⟩, wpn, ⟨ws5, ws6, ws7⟩, ws8, ⟨ws9, ws10⟩, ⟨ws11, ws12⟩, ws13⟩ := id W
  have p1 := PA.1
  have r1 := RSH.1
  have r2 := RSH.2.1
  have r3 := RSH.2.2.1
  have r4 := RSH.2.2.2.1
  have hv1 : 1 ≤ aV S := wpn.1.1
  have hv4 : aV S ≤ 4 := wpn.1.2.1
  have hr5 : aR S ≤ 5 := wpn.1.2.2.2.1
  have hn16 : aW S ≤ 16 := lv_p hv4
  have fp0 : f pa 0 = nI (aV S) := fpn.1
  have fp1 : f pa 1 = nI (aR S) := fpn.2.1
  have gSH := GSH.1
  have tSH := TSH.1
  have sSH := SSH.1
  have iSH := ISH.1
  have hSH := HSH.1
  rw [r_PT_rank_0]
  obtain ⟨f', b1, b2, b3⟩ := pt_isBit C F W a b
  refine ⟨f', wp_e (wp_isC c0 (wp_rIe b1 ?_)), b2⟩
  cases z : inN a (aR S) with
  | none =>
    have hb : bl S a b = false := by unfold bl; rw [z]
    have es : sRank S a b = mI 1 := by unfold sRank; rw [z]; rfl
    rw [hb, es]; exact wp_bt rfl (wp_s ⟨rfl, rfl⟩)
  | some k =>
  cases z2 : inN b (nb (aV S) (aG S k)) with
  | none =>
    have hb : bl S a b = false := by unfold bl; rw [z]; show (inN b (nb (aV S) (aG S k))).isSome = false; rw [z2]; rfl
    have es : sRank S a b = mI 1 := by unfold sRank; rw [z]; show on (inN b (nb (aV S) (aG S k))) _ = _; rw [z2]; rfl
    rw [hb, es]; exact wp_bt rfl (wp_s ⟨rfl, rfl⟩)
  | some j =>
  obtain ⟨d1, d2, d3⟩ := b3 k j z z2
  obtain ⟨-, g2, g3, g4⟩ := pt_rl C F W (inN_s z).2.1
  obtain ⟨e, j2, j3⟩ := inN_s z2
  have hQ : (bQ S k).length ≤ 340 := QI_len (bits_I hv1 hv4) hv4
  have hI := (bits_I (p := fb (aV S) (aG S k)) hv1 hv4).2.1
  have hj := eb_at d3
  have ho : okQ (aV S) (eb (bQ S k) j) := hI _ (List.mem_of_getElem? hj)
  have hb : bl S a b = true := by unfold bl; rw [z]; show (inN b (nb (aV S) (aG S k))).isSome = true; rw [z2]; rfl
  have es : sRank S a b = nI (rnk S k j) := by unfold sRank; rw [z]; show on (inN b (nb (aV S) (aG S k))) _ = _; rw [z2]; rfl
  rw [hb, es, e]
  refine wp_bf n10 (wp_isC c0 (wp_nnR q9 (wp_isC tSH (wp_rIe (tr_rank TSH d1 g4 hv4 d2 hQ d3 hI) (wp_s ⟨rfl, rfl⟩)))))
theorem c_place (C : CSH h x pa pb s1 v1) (F : CF f (hL h) x pa S) (W : WS S) (a b w : Int32) : ∃ f', ev M_PT_place 0 0 [some (.ref x), some (.int a), some (.int b), some (.int w)] [] (wI h f) = some (some (.int (sPlace S a b w)), wI h f') ∧ FX x pa f f' := by
  obtain ⟨⟨c0, q0, q2, q3, q4, q5, q6, q7, q8, q9, q10, q11, q12, q13⟩, PA, PB, RSH, HSH, ⟨bC, bN, bR⟩, ISH, TSH, TSH2, GSH, SSH, ⟨lC, lN1, tC, tN⟩, ⟨rC, rR1, sC, sR1, wC, wN⟩, STR, ⟨sx1, sx2, x0⟩, PP⟩ := id C
  obtain ⟨⟨ft1, ft2⟩, ⟨fl1, fl2⟩, ⟨fe1, fe2⟩, fkw, fpn, ⟨fg1, fg2⟩, fhist, fbx, fsg⟩ := id F
  obtain ⟨⟨ws1, ws2⟩, ⟨ws3, ws4⟩, wpn, ⟨ws5, ws6, ws7⟩, ws8, ⟨ws9, ws10⟩, ⟨ws11, ws12⟩, ws13⟩ := id W
  have p1 := PA.1
  have r1 := RSH.1
  have r2 := RSH.2.1
  have r3 := RSH.2.2.1
  have r4 := RSH.2.2.2.1
  have hv1 : 1 ≤ aV S := wpn.1.1
  have hv4 : aV S ≤ 4 := wpn.1.2.1
  have hr5 : aR S ≤ 5 := wpn.1.2.2.2.1
  have hn16 : aW S ≤ 16 := lv_p hv4
  have fp0 : f pa 0 = nI (aV S) := fpn.1
  have fp1 : f pa 1 = nI (aR S) := fpn.2.1
  have gSH := GSH.1
  have tSH := TSH.1
  have sSH := SSH.1
  have iSH := ISH.1
  have hSH := HSH.1
  rw [r_PT_place_0]
  obtain ⟨f', b1, b2, b3⟩ := pt_isBit C F W a b
  refine ⟨f', wp_e (wp_isC c0 (wp_rIe b1 ?_)), b2⟩
  cases z : inN a (aR S) with
  | none =>
    have hb : bl S a b = false := by unfold bl; rw [z]
    have es : sPlace S a b w = mI 1 := by unfold sPlace; rw [z]; rfl
    rw [hb, es]; exact wp_bt rfl (wp_s ⟨rfl, rfl⟩)
  | some k =>
  cases z2 : inN b (nb (aV S) (aG S k)) with
  | none =>
    have hb : bl S a b = false := by unfold bl; rw [z]; show (inN b (nb (aV S) (aG S k))).isSome = false; rw [z2]; rfl
    have es : sPlace S a b w = mI 1 := by unfold sPlace; rw [z]; show on (inN b (nb (aV S) (aG S k))) _ = _; rw [z2]; rfl
    rw [hb, es]; exact wp_bt rfl (wp_s ⟨rfl, rfl⟩)
  | some j =>
  obtain ⟨d1, d2, d3⟩ := b3 k j z z2
  obtain ⟨-, g2, g3, g4⟩ := pt_rl C F W (inN_s z).2.1
  obtain ⟨e, j2, j3⟩ := inN_s z2
  have hQ : (bQ S k).length ≤ 340 := QI_len (bits_I hv1 hv4) hv4
  have hI := (bits_I (p := fb (aV S) (aG S k)) hv1 hv4).2.1
  have hj := eb_at d3
  have ho : okQ (aV S) (eb (bQ S k) j) := hI _ (List.mem_of_getElem? hj)
  have hb : bl S a b = true := by unfold bl; rw [z]; show (inN b (nb (aV S) (aG S k))).isSome = true; rw [z2]; rfl
  have es : sPlace S a b w = if w = nI 0 then nI (eb (bQ S k) j).1 else if w = nI 1 then nI ((eb (bQ S k) j).2.1 * 2 ^ (aV S - (eb (bQ S k) j).1)) else if w = nI 2 then nI ((eb (bQ S k) j).2.2 * 2 ^ (aV S - (eb (bQ S k) j).1)) else mI 1 := by unfold sPlace; rw [z]; show on (inN b (nb (aV S) (aG S k))) _ = _; rw [z2]; rfl
  rw [hb, es, e]
  refine wp_bf n10 ?_
  by_cases w0 : w = nI 0
  · rw [if_pos w0]
    exact wp_bt w0 (wp_isC c0 (wp_nnR q9 (wp_isC tSH (wp_rIe (tr_level TSH d2 hQ d3) (wp_s ⟨rfl, rfl⟩)))))
  rw [if_neg w0]
  by_cases w1 : w = nI 1
  · rw [if_pos w1]
    exact wp_bf w0 (wp_bt w1 (wp_isC c0 (wp_nnR q9 (wp_isC tSH (wp_rIe (tr_row TSH d1.1 hv4 d2 hQ d3 ho) (wp_s ⟨rfl, rfl⟩))))))
  rw [if_neg w1]
  by_cases w2 : w = nI 2
  · rw [if_pos w2]
    exact wp_bf w0 (wp_bf w1 (wp_bt w2 (wp_isC c0 (wp_nnR q9 (wp_isC tSH (wp_rIe (tr_col TSH d1.1 hv4 d2 hQ d3 ho) (wp_s ⟨rfl, rfl⟩)))))))
  rw [if_neg w2]
  exact wp_bf w0 (wp_bf w1 (wp_bf w2 (wp_s ⟨rfl, rfl⟩)))
theorem c_child (C : CSH h x pa pb s1 v1) (F : CF f (hL h) x pa S) (W : WS S) (a b q : Int32) : ∃ f', ev M_PT_child 0 0 [some (.ref x), some (.int a), some (.int b), some (.int q)] [] (wI h f) = some (some (.int (sChild S a b q)), wI h f') ∧ FX x pa f f' := by
  obtain ⟨⟨c0, q0, q2, q3, q4, q5, q6, q7, q8, q9, q10, q11, q12, q13⟩, PA, PB, RSH, HSH, ⟨bC, bN, bR⟩, ISH, TSH, TSH2, GSH, SSH, ⟨lC, lN1, tC, tN⟩, ⟨rC, rR1, sC, sR1, wC, wN⟩, STR, ⟨sx1, sx2, x0⟩, PP⟩ := id C
  obtain ⟨⟨ft1, ft2⟩, ⟨fl1, fl2⟩, ⟨fe1, fe2⟩, fkw, fpn, ⟨fg1, fg2⟩, fhist, fbx, fsg⟩ := id F
  obtain ⟨⟨ws1, ws2⟩, ⟨ws3, ws4⟩, wpn, ⟨ws5, ws6, ws7⟩, ws8, ⟨ws9, ws10⟩, ⟨ws11, ws12⟩, ws13⟩ := id W
  have p1 := PA.1
  have r1 := RSH.1
  have r2 := RSH.2.1
  have r3 := RSH.2.2.1
  have r4 := RSH.2.2.2.1
  have hv1 : 1 ≤ aV S := wpn.1.1
  have hv4 : aV S ≤ 4 := wpn.1.2.1
  have hr5 : aR S ≤ 5 := wpn.1.2.2.2.1
  have hn16 : aW S ≤ 16 := lv_p hv4
  have fp0 : f pa 0 = nI (aV S) := fpn.1
  have fp1 : f pa 1 = nI (aR S) := fpn.2.1
  have gSH := GSH.1
  have tSH := TSH.1
  have sSH := SSH.1
  have iSH := ISH.1
  have hSH := HSH.1
  rw [r_PT_child_0]
  cases y : inN q 4 with
  | none =>
    refine ⟨f, wp_e ?_, FX.rf⟩
    rw [sChild, y]
    rcases inN_n y (by decide) with w | ⟨w, w2⟩
    · exact wp_bt w (wp_s ⟨rfl, rfl⟩)
    · obtain ⟨j, hj, e⟩ := nI_of w
      subst e
      refine wp_bf w (wp_bt ?_ (wp_s ⟨rfl, rfl⟩))
      rw [nI_ltI hj (by decide)] at w2
      rw [nI_ltI (by decide) hj]; omega
  | some u =>
  obtain ⟨e, u2, u3⟩ := inN_s y
  subst e
  obtain ⟨f', b1, b2, b3⟩ := pt_isBit C F W a b
  refine ⟨f', wp_e (wp_bf (nI_pos u3) (wp_bf (by rw [nI_ltI (by decide) u3]; omega) (wp_isC c0 (wp_rIe b1 ?_)))), b2⟩
  rw [sChild, y]
  show wp _ (fun u' v => u' = some (.int (on (inN a (aR S)) _)) ∧ _)
  unfold bl
  cases z : inN a (aR S) with
  | none => exact wp_bt rfl (wp_s ⟨rfl, rfl⟩)
  | some k =>
  show wp (br (nI (inN b (nb (aV S) (aG S k))).isSome.toNat = nI 0) _ _) (fun u' v => u' = some (.int (on (inN b (nb (aV S) (aG S k))) _)) ∧ _)
  cases z2 : inN b (nb (aV S) (aG S k)) with
  | none => exact wp_bt rfl (wp_s ⟨rfl, rfl⟩)
  | some j =>
  obtain ⟨d1, d2, d3⟩ := b3 k j z z2
  obtain ⟨-, g2, g3, g4⟩ := pt_rl C F W (inN_s z).2.1
  obtain ⟨e, j2, j3⟩ := inN_s z2
  have hQ : (bQ S k).length ≤ 340 := QI_len (bits_I hv1 hv4) hv4
  have hI' := (bits_I (p := fb (aV S) (aG S k)) hv1 hv4).2.1
  have hj := eb_at d3
  have ho : okQ (aV S) (eb (bQ S k) j) := hI' _ (List.mem_of_getElem? hj)
  have fp0' : f' pa 0 = nI (aV S) := by
    rw [b2.1 pa (by have := PPa C; unfold Scr; omega) (by have := PPa C; omega)]; exact fp0
  rw [e]
  refine wp_bf n10 (wp_isC c0 (wp_nnR q9 (wp_isC tSH (wp_rIe (tr_bit TSH d1 g4 hv4 d2 hQ hj ho) ?_))))
  show wp _ (fun u' v => u' = some (.int (if fb (aV S) (aG S k) (eb (bQ S k) j) = false ∨ (eb (bQ S k) j).1 = aV S then mI 1 else nI (4 * rnk S k j + u))) ∧ _)
  cases y2 : fb (aV S) (aG S k) (eb (bQ S k) j) with
  | false => rw [if_pos (Or.inl rfl)]; exact wp_bt rfl (wp_s ⟨rfl, rfl⟩)
  | true =>
    refine wp_bf n10 (wp_isC c0 (wp_nnR q9 (wp_isC tSH (wp_rIe (tr_level TSH d2 hQ d3) (wp_isC c0 (wp_nnR q2 (wp_isC p1 ?_)))))))
    rw [wI_I, fp0']
    have hle := ho.2.1
    by_cases w : (eb (bQ S k) j).1 = aV S
    · rw [if_pos (Or.inr w)]
      exact wp_bt (by rw [w]) (wp_s ⟨rfl, rfl⟩)
    · rw [if_neg (by rintro (v | v); cases v; exact w v)]
      refine wp_bf (by rw [nI_eq (by omega) (by omega)]; exact w) (wp_isC c0 (wp_nnR q9 (wp_isC tSH (wp_rIe (tr_rank TSH d1 g4 hv4 d2 hQ d3 hI') ?_))))
      rw [pk_mul, nI_add]
      exact wp_s ⟨rfl, rfl⟩
end
