/-! The class's methods: what is seen, boxes, acts. -/
section
variable {h : MH} {f : Nat → Nat → Int32} {x pa pb s1 v1 : Nat} {S : Abs}
/-- what is seen alone changes -/
theorem CF_se {f' : Nat → Nat → Int32} {e : List Sn} {t : Nat} (F : CF f (hL h) x pa S) (fr : Fr (x + 168) (x + 184) f f') (hp : (pa = x + 2 ∧ pb = x + 19) ∨ (pa = x + 19 ∧ pb = x + 2)) (hr : aR S ≤ 5) (I : ISF f' (x + 168) (aV S) (aG0 S) (decide (0 < aR S)) e t) : CF f' (hL h) x pa (bM (bE S e) t) := by
  obtain ⟨⟨ft1, ft2⟩, ⟨fl1, fl2⟩, ⟨fe1, fe2⟩, fkw, fpn, ⟨fg1, fg2⟩, ⟨old, rl, tn, sb', sa, h1, h2⟩, fbx, fsg⟩ := F
  have o := fr
  refine ⟨⟨?_, fun i hi => ?_⟩, ⟨?_, fun i e he => ?_⟩, ⟨?_, ?_⟩, fkw, ?_, ⟨?_, fun k hk => ?_⟩, ⟨old, rl, tn, sb', sa, ?_, h2⟩, fun b hb => ?_, I⟩
  · rw [o _ (by omega)]; exact ft1
  · rw [o _ (by omega)]; exact ft2 i hi
  · rw [o _ (by omega)]; exact fl1
  · rw [o _ (by omega)]; exact fl2 i e he
  · rw [o _ (by omega)]; exact fe1
  · rw [o _ (by omega)]; exact fe2
  · obtain ⟨y0, y1, y2, y3, y4, y5, y6, y7, y8, y9, y10⟩ := fpn
    have e0 := o pa (by omega)
    refine ⟨by rw [e0]; exact y0, by rw [e0]; exact y1, by rw [e0]; exact y2, by rw [e0]; exact y3, by rw [e0]; exact y4, by rw [e0]; exact y5, by rw [e0]; exact y6, fun i c hc => by rw [o _ (by omega)]; exact y7 i c hc, ⟨by rw [o _ (by omega)]; exact y8.1, fun i c hc => by rw [o _ (by omega)]; exact y8.2 i c hc⟩, fun k hk => ?_, y10⟩
    have hk : k < aR S := hk
    exact ⟨by rw [o _ (by omega)]; exact (y9 k hk).1, fun r hr => by rw [o _ (by omega)]; exact (y9 k hk).2 r hr⟩
  · rw [o _ (by omega)]; exact fg1
  · have hk : k < aR S := hk
    exact ⟨by rw [o _ (by omega)]; exact (fg2 k hk).1, fun r hr => by rw [o _ (by omega)]; exact (fg2 k hk).2 r hr⟩
  · obtain ⟨a1, a2, a3, a4, a5, a6, a7⟩ := h1
    have ez := o (x + 86) (by omega)
    refine ⟨by rw [ez]; exact a1, by rw [ez]; exact a2, by rw [ez]; exact a3, a4, a5, a6, fun k hk => ?_⟩
    obtain ⟨c1, c2, c3, c4⟩ := a7 k hk
    have hm : (old + k) % 40 < 40 := Nat.mod_lt _ (by decide)
    exact ⟨by rw [o _ (by omega)]; exact c1, by rw [o _ (by omega)]; exact c2, by rw [o _ (by omega)]; exact c3, fun r hr hs => by rw [o _ (by omega)]; exact c4 r hr hs⟩
  · obtain ⟨b1, b2⟩ := fbx b hb
    have eb := o (x + 132 + 12 * b) (by omega)
    refine ⟨by rw [eb]; exact b1, fun s hs => ⟨by rw [eb]; exact (b2 s hs).1, fun k hk => ?_⟩⟩
    have hk : k < aR S := hk
    have := (b2 s hs).2 k hk
    exact ⟨by rw [o _ (by omega)]; exact this.1, fun r hr => by rw [o _ (by omega)]; exact this.2 r hr⟩
theorem g0_W (W : WS S) : GW (aW S) (aG0 S) := by
  obtain ⟨-, -, wpn, -⟩ := W
  exact gA_W (s := (iA (aQ S), 0)) wpn (iA_W wpn.1 wpn.2.1 (by decide)) 0
def seenE (S : Abs) (l b m : Int32) (is : Bool) : Option Sn := if aR S = 0 then none else match inN l (aV S + 1) with
  | none => none
  | some l => (match inN m 257 with
    | none => none
    | some m => (match inN b (2 ^ (2 * l)) with
      | none => none
      | some b => if (aE S).length < 30 then some (l, b, m, is, aM S, none) else none))
def sSeen (S : Abs) (l b m : Int32) (is : Bool) : Int32 := match seenE S l b m is with
  | none => mI 1
  | some _ => nI (aE S).length
def uSeen (S : Abs) (l b m : Int32) (is : Bool) : Abs := match seenE S l b m is with
  | none => S
  | some e => bM (bE S (aE S ++ [e])) (aM S)
theorem c_seen (C : CSH h x pa pb s1 v1) (F : CF f (hL h) x pa S) (W : WS S) (l b m : Int32) (is : Bool) : ∃ f', ev M_PT_seen 0 0 [some (.ref x), some (.int l), some (.int b), some (.int m), some (.int (nI is.toNat))] [] (wI h f) = some (some (.int (sSeen S l b m is)), wI h f') ∧ CF f' (hL h) x pa (uSeen S l b m is) ∧ Fr x (x + 222) f f' := by
  obtain ⟨⟨c0, q0, q2, q3, q4, q5, q6, q7, q8, q9, q10, q11, q12, q13⟩, PA, PB, RSH, HSH, ⟨bC, bN, bR⟩, ISH, TSH, TSH2, GSH, SSH, ⟨lC, lN1, tC, tN⟩, ⟨rC, rR1, sC, sR1, wC, wN⟩, STR, ⟨sx1, sx2, x0⟩, PP⟩ := id C
  obtain ⟨⟨ft1, ft2⟩, ⟨fl1, fl2⟩, ⟨fe1, fe2⟩, fkw, fpn, ⟨fg1, fg2⟩, fhist, fbx, fsg⟩ := id F
  obtain ⟨⟨ws1, ws2⟩, ⟨ws3, ws4⟩, wpn, ⟨ws5, ws6, ws7⟩, ws8, ⟨ws9, ws10⟩, ⟨ws11, ws12⟩, ws13⟩ := id W
  have p1 := PA.1
  have r1 := RSH.1
  have r2 := RSH.2.1
  have r3 := RSH.2.2.1
  have r4 := RSH.2.2.2.1
  have hv1 : 1 ≤ aV S := wpn.1.1
  have hv4 : aV S ≤ 4 := wpn.1.2.1
  have hr5 : aR S ≤ 5 := wpn.1.2.2.2.1
  have hn16 : aW S ≤ 16 := lv_p hv4
  have fp0 : f pa 0 = nI (aV S) := fpn.1
  have fp1 : f pa 1 = nI (aR S) := fpn.2.1
  have gSH := GSH.1
  have tSH := TSH.1
  have sSH := SSH.1
  have iSH := ISH.1
  have hSH := HSH.1
  have none_c : seenE S l b m is = none → ev M_PT_seen 0 0 [some (.ref x), some (.int l), some (.int b), some (.int m), some (.int (nI is.toNat))] [] (wI h f) = some (some (.int (mI 1)), wI h f) := by
    intro hz
    rw [r_PT_seen_0]
    apply wp_e
    refine wp_isC c0 (wp_nnR q2 (wp_isC p1 ?_))
    rw [wI_I, fp1]
    unfold seenE at hz
    by_cases r0 : aR S = 0
    · exact wp_bt (by rw [r0]) (wp_s ⟨rfl, rfl⟩)
    rw [if_neg r0] at hz
    refine wp_bf (by rw [nI_eq (by omega) (by decide)]; exact r0) (wp_isC c0 (wp_rIe (pt_isLevel C F W _) ?_))
    cases z0 : inN l (aV S + 1) with
    | none => exact wp_bt rfl (wp_s ⟨rfl, rfl⟩)
    | some j =>
    refine wp_bf n10 ?_
    rw [z0] at hz
    dsimp only at hz
    cases z1 : inN m 257 with
    | none => exact wp_rn (m := 256) z1 (by decide) (wp_s ⟨rfl, rfl⟩)
    | some i =>
    rw [z1] at hz
    dsimp only at hz
    obtain ⟨i1, i2, i3⟩ := inN_s z1
    obtain ⟨j1, j2, j3⟩ := inN_s z0
    subst i1; subst j1
    have h8 : 2 ^ (2 * j) ≤ 2 ^ 8 := Nat.pow_le_pow_right (by decide) (by omega)
    refine wp_bf (nI_pos i3) (wp_bf (by rw [nI_ltI (by decide) i3]; omega) ?_)
    rw [pk_mul, nm_one (by omega)]
    cases z2 : inN b (2 ^ (2 * j)) with
    | none =>
      rcases inN_n z2 (by omega) with q | ⟨q, w2⟩
      · exact wp_bt q (wp_s ⟨rfl, rfl⟩)
      · exact wp_bf q (wp_bf w2 (wp_s ⟨rfl, rfl⟩))
    | some y =>
    rw [z2] at hz
    dsimp only at hz
    obtain ⟨y1, y2, y3⟩ := inN_s z2
    subst y1
    have hl : ¬ (aE S).length < 30 := fun w => by rw [if_pos w] at hz; cases hz
    refine wp_bf (nI_pos y3) (wp_bt (by rw [nI_ltI y3 (by omega)]; exact y2) (wp_isC c0 (wp_nnR q8 (wp_isC iSH (wp_rIe (sg_tell0 ISH fsg (by have := ws11.1; omega)) (wp_s ⟨rfl, rfl⟩))))))
  cases z : seenE S l b m is with
  | none =>
    have es : sSeen S l b m is = mI 1 := by unfold sSeen; rw [z]
    have eu : uSeen S l b m is = S := by unfold uSeen; rw [z]
    rw [es, eu]
    exact ⟨f, none_c z, F, Fr.rf⟩
  | some e =>
    have es : sSeen S l b m is = nI (aE S).length := by unfold sSeen; rw [z]
    have eu : uSeen S l b m is = bM (bE S (aE S ++ [e])) (aM S) := by unfold uSeen; rw [z]
    rw [es, eu]
    unfold seenE at z
    by_cases r0 : aR S = 0
    · rw [if_pos r0] at z; cases z
    rw [if_neg r0] at z
    cases z0 : inN l (aV S + 1) with
    | none => rw [z0] at z; cases z
    | some j =>
    rw [z0] at z
    dsimp only at z
    cases z1 : inN m 257 with
    | none => rw [z1] at z; cases z
    | some i =>
    rw [z1] at z
    dsimp only at z
    cases z2 : inN b (2 ^ (2 * j)) with
    | none => rw [z2] at z; cases z
    | some y =>
    rw [z2] at z
    dsimp only at z
    by_cases hl : (aE S).length < 30
    · rw [if_pos hl] at z
      have z : (j, y, i, is, aM S, none) = e := by simpa using z
      subst z
      obtain ⟨i1, i2, i3⟩ := inN_s z1
      obtain ⟨j1, j2, j3⟩ := inN_s z0
      obtain ⟨y1, y2, y3⟩ := inN_s z2
      subst i1; subst j1; subst y1
      have h8 : 2 ^ (2 * j) ≤ 2 ^ 8 := Nat.pow_le_pow_right (by decide) (by omega)
      have hop : decide (0 < aR S) = true := decide_eq_true (by omega)
      have I := fsg
      rw [hop] at I
      obtain ⟨f', t1, t2, t3⟩ := sg_tell (m := i) (is := is) ISH I (g0_W W) hv4 (show j ≤ aV S by omega) y2 hl
      refine ⟨f', ?_, CF_se F t3 PP hr5 (by rw [hop]; exact t2), t3.up (by omega) (by omega)⟩
      rw [r_PT_seen_0]
      apply wp_e
      refine wp_isC c0 (wp_nnR q2 (wp_isC p1 ?_))
      rw [wI_I, fp1]
      refine wp_bf (by rw [nI_eq (by omega) (by decide)]; exact r0) (wp_isC c0 (wp_rIe (pt_isLevel C F W _) ?_))
      rw [z0]
      refine wp_bf n10 (wp_bf (nI_pos i3) (wp_bf (by rw [nI_ltI (by decide) i3]; omega) ?_))
      rw [pk_mul, nm_one (by omega)]
      exact wp_bf (nI_pos y3) (wp_bt (by rw [nI_ltI y3 (by omega)]; exact y2) (wp_isC c0 (wp_nnR q8 (wp_isC iSH (wp_rIe t1 (wp_s ⟨rfl, rfl⟩))))))
    · rw [if_neg hl] at z; cases z
def uUntell (S : Abs) (i : Int32) : Abs := if utOk (aE S) i then bM (bE S (ut (aM S) (aE S) i.toNatClampNeg)) (aM S) else S
theorem c_untell (C : CSH h x pa pb s1 v1) (F : CF f (hL h) x pa S) (W : WS S) (i : Int32) : ∃ f', ev M_PT_untell 0 0 [some (.ref x), some (.int i)] [] (wI h f) = some (some (.int (nI (utOk (aE S) i).toNat)), wI h f') ∧ CF f' (hL h) x pa (uUntell S i) ∧ Fr x (x + 222) f f' := by
  obtain ⟨⟨c0, q0, q2, q3, q4, q5, q6, q7, q8, q9, q10, q11, q12, q13⟩, PA, PB, RSH, HSH, ⟨bC, bN, bR⟩, ISH, TSH, TSH2, GSH, SSH, ⟨lC, lN1, tC, tN⟩, ⟨rC, rR1, sC, sR1, wC, wN⟩, STR, ⟨sx1, sx2, x0⟩, PP⟩ := id C
  obtain ⟨⟨ft1, ft2⟩, ⟨fl1, fl2⟩, ⟨fe1, fe2⟩, fkw, fpn, ⟨fg1, fg2⟩, fhist, fbx, fsg⟩ := id F
  obtain ⟨⟨ws1, ws2⟩, ⟨ws3, ws4⟩, wpn, ⟨ws5, ws6, ws7⟩, ws8, ⟨ws9, ws10⟩, ⟨ws11, ws12⟩, ws13⟩ := id W
  have p1 := PA.1
  have r1 := RSH.1
  have r2 := RSH.2.1
  have r3 := RSH.2.2.1
  have r4 := RSH.2.2.2.1
  have hv1 : 1 ≤ aV S := wpn.1.1
  have hv4 : aV S ≤ 4 := wpn.1.2.1
  have hr5 : aR S ≤ 5 := wpn.1.2.2.2.1
  have hn16 : aW S ≤ 16 := lv_p hv4
  have fp0 : f pa 0 = nI (aV S) := fpn.1
  have fp1 : f pa 1 = nI (aR S) := fpn.2.1
  have gSH := GSH.1
  have tSH := TSH.1
  have sSH := SSH.1
  have iSH := ISH.1
  have hSH := HSH.1
  obtain ⟨f', t1, t2, t3⟩ := sg_untell (x := i) ISH fsg ws11.1 (fun e he k hk => by have := ((ws11.2 e he).2.2.2.2 k hk); omega)
  refine ⟨f', ?_, ?_, t3.up (by omega) (by omega)⟩
  · rw [r_PT_untell_0]
    apply wp_e
    exact wp_isC c0 (wp_nnR q8 (wp_isC iSH (wp_rIe t1 (wp_isZ (b01z _) (wp_s ⟨rfl, rfl⟩)))))
  · unfold uUntell
    cases z : utOk (aE S) i with
    | true => rw [z, if_pos rfl] at t2; rw [if_pos rfl]; exact CF_se F t3 PP hr5 t2
    | false =>
      rw [z, if_neg (by decide)] at t2
      rw [if_neg (by decide)]
      have := CF_se F t3 PP hr5 t2
      exact this
def sLater (S : Abs) (b : Int32) : Int32 := on (inN b 1001) fun k => if aM S + k ≤ 100000 then nI (aM S + k) else mI 1
def uLater (S : Abs) (b : Int32) : Abs := match inN b 1001 with
  | some k => if aM S + k ≤ 100000 then bM (bE S (aE S)) (aM S + k) else S
  | none => S
theorem c_later (C : CSH h x pa pb s1 v1) (F : CF f (hL h) x pa S) (W : WS S) (b : Int32) : ∃ f', ev M_PT_later 0 0 [some (.ref x), some (.int b)] [] (wI h f) = some (some (.int (sLater S b)), wI h f') ∧ CF f' (hL h) x pa (uLater S b) ∧ Fr x (x + 222) f f' := by
  obtain ⟨⟨c0, q0, q2, q3, q4, q5, q6, q7, q8, q9, q10, q11, q12, q13⟩, PA, PB, RSH, HSH, ⟨bC, bN, bR⟩, ISH, TSH, TSH2, GSH, SSH, ⟨lC, lN1, tC, tN⟩, ⟨rC, rR1, sC, sR1, wC, wN⟩, STR, ⟨sx1, sx2, x0⟩, PP⟩ := id C
  obtain ⟨⟨ft1, ft2⟩, ⟨fl1, fl2⟩, ⟨fe1, fe2⟩, fkw, fpn, ⟨fg1, fg2⟩, fhist, fbx, fsg⟩ := id F
  obtain ⟨⟨ws1, ws2⟩, ⟨ws3, ws4⟩, wpn, ⟨ws5, ws6, ws7⟩, ws8, ⟨ws9, ws10⟩, ⟨ws11, ws12⟩, ws13⟩ := id W
  have p1 := PA.1
  have r1 := RSH.1
  have r2 := RSH.2.1
  have r3 := RSH.2.2.1
  have r4 := RSH.2.2.2.1
  have hv1 : 1 ≤ aV S := wpn.1.1
  have hv4 : aV S ≤ 4 := wpn.1.2.1
  have hr5 : aR S ≤ 5 := wpn.1.2.2.2.1
  have hn16 : aW S ≤ 16 := lv_p hv4
  have fp0 : f pa 0 = nI (aV S) := fpn.1
  have fp1 : f pa 1 = nI (aR S) := fpn.2.1
  have gSH := GSH.1
  have tSH := TSH.1
  have sSH := SSH.1
  have iSH := ISH.1
  have hSH := HSH.1
  obtain ⟨t0, t1, t2, t3, t4, t5⟩ := id fsg
  rw [r_PT_later_0]
  unfold uLater
  cases z : inN b 1001 with
  | none =>
    have es : sLater S b = mI 1 := by unfold sLater; rw [z]; rfl
    rw [es]
    exact ⟨f, wp_e (wp_rn (m := 1000) z (by decide) (wp_s ⟨rfl, rfl⟩)), F, Fr.rf⟩
  | some k =>
    obtain ⟨k1, k2, k3⟩ := inN_s z
    subst k1
    have es : sLater S (nI k) = if aM S + k ≤ 100000 then nI (aM S + k) else mI 1 := by unfold sLater; rw [z]; rfl
    rw [es]
    dsimp only
    by_cases q : aM S + k ≤ 100000
    · rw [if_pos q, if_pos q]
      refine ⟨up2 f (x + 168) 0 (nI (aM S + k)), wp_e (wp_bf (nI_pos k3) (wp_bf (by rw [nI_ltI (by decide) k3]; omega) ?_)), CF_se F (Fr.u2 (by omega) (by omega)) PP hr5 ⟨up2_s, by rw [up2_k (by decide)]; exact t1, by rw [up2_k (by decide)]; exact t2, by rw [up2_k (by decide)]; exact t3, fun w => GF_up2 (by omega) (by omega) (t4 w), fun i e he => ?_⟩, Fr.u2 (by omega) (by omega)⟩
      · refine wp_isC c0 (wp_nnR q8 (wp_isC iSH ?_))
        rw [wI_I, t0, nI_add]
        refine wp_bf (by rw [nI_ltI (by decide) (by omega)]; omega) ?_
        repeat (first | refine wp_isC (by assumption) ?_ | refine wp_nnR (by assumption) ?_ | refine wp_inA (by assumption) rfl (by omega) (by omega) ?_ | refine wp_isZ (by first | decide | exact b01z _) ?_ | refine wp_bt (by (first | (simp (disch := omega) only [wI_I, wI_s, nI_add, pk_mul, nI_ltI, nI_leI, nI_eq, nI_clamp, nm_or, nm_and, nm_xor, nm_nd, nm_one, nm_shr, nm_b2, Bool.false_eq_true, Bool.true_eq_false, not_false_eq_true, not_true_eq_false, reduceCtorEq, t0]; done) | (simp (disch := omega) only [wI_I, wI_s, nI_add, pk_mul, nI_ltI, nI_leI, nI_eq, nI_clamp, nm_or, nm_and, nm_xor, nm_nd, nm_one, nm_shr, nm_b2, Bool.false_eq_true, Bool.true_eq_false, not_false_eq_true, not_true_eq_false, reduceCtorEq, t0]; omega) | omega)) ?_ | refine wp_bf (by (first | (simp (disch := omega) only [wI_I, wI_s, nI_add, pk_mul, nI_ltI, nI_leI, nI_eq, nI_clamp, nm_or, nm_and, nm_xor, nm_nd, nm_one, nm_shr, nm_b2, Bool.false_eq_true, Bool.true_eq_false, not_false_eq_true, not_true_eq_false, reduceCtorEq, t0]; done) | (simp (disch := omega) only [wI_I, wI_s, nI_add, pk_mul, nI_ltI, nI_leI, nI_eq, nI_clamp, nm_or, nm_and, nm_xor, nm_nd, nm_one, nm_shr, nm_b2, Bool.false_eq_true, Bool.true_eq_false, not_false_eq_true, not_true_eq_false, reduceCtorEq, t0]; omega) | omega)) ?_ | refine wp_nz (by first | decide | exact nz_n (by omega) (by omega)) ?_ | (simp (disch := omega) only [wI_I, wI_s, nI_add, pk_mul, nI_ltI, nI_leI, nI_eq, nI_clamp, nm_or, nm_and, nm_xor, nm_nd, nm_one, nm_shr, nm_b2, Bool.false_eq_true, Bool.true_eq_false, not_false_eq_true, not_true_eq_false, reduceCtorEq, up2_a, up2_k, up2_s, gw_o, t0]))
        exact wp_s ⟨rfl, rfl⟩
      · simp (disch := omega) only [wI_I, wI_s, nI_add, pk_mul, nI_ltI, nI_leI, nI_eq, nI_clamp, nm_or, nm_and, nm_xor, nm_nd, nm_one, nm_shr, nm_b2, Bool.false_eq_true, Bool.true_eq_false, not_false_eq_true, not_true_eq_false, reduceCtorEq, up2_a, up2_k, up2_s, gw_o]
        exact t5 i e he
    · rw [if_neg q, if_neg q]
      refine ⟨f, wp_e (wp_bf (nI_pos k3) (wp_bf (by rw [nI_ltI (by decide) k3]; omega) (wp_isC c0 (wp_nnR q8 (wp_isC iSH ?_))))), F, Fr.rf⟩
      rw [wI_I, t0, nI_add]
      exact wp_bt (by rw [nI_ltI (by decide) (by omega)]; omega) (wp_s ⟨rfl, rfl⟩)
def fS (S : Abs) (k : Int32) : Bool × Rw := ft (aV S) (aG0 S) k (aE S)
def sFits (S : Abs) (k : Int32) : Int32 := if aR S = 0 then nI 0 else nI (ct (aW S) (fS S k).2 + (fS S k).1.toNat)
def sFit (S : Abs) (i k : Int32) : Int32 := if aR S = 0 then mI 2 else fitc (aW S) (fS S k) i
def sAsk (S : Abs) (l w k : Int32) : Int32 := on (inN l (aV S + 1)) fun l => on (inN w 2) fun t => if aR S = 0 then mI 1 else askc (aV S) l (fS S k) (aG0 S) (decide (t = 1))
theorem sg0 (C : CSH h x pa pb s1 v1) (F : CF f (hL h) x pa S) (W : WS S) : (aR S = 0 → ISF f (x + 168) (aV S) (aG0 S) false [] (aM S)) ∧ (aR S ≠ 0 → ISF f (x + 168) (aV S) (aG0 S) true (aE S) (aM S)) := by
  obtain ⟨⟨c0, q0, q2, q3, q4, q5, q6, q7, q8, q9, q10, q11, q12, q13⟩, PA, PB, RSH, HSH, ⟨bC, bN, bR⟩, ISH, TSH, TSH2, GSH, SSH, ⟨lC, lN1, tC, tN⟩, ⟨rC, rR1, sC, sR1, wC, wN⟩, STR, ⟨sx1, sx2, x0⟩, PP⟩ := id C
  obtain ⟨⟨ft1, ft2⟩, ⟨fl1, fl2⟩, ⟨fe1, fe2⟩, fkw, fpn, ⟨fg1, fg2⟩, fhist, fbx, fsg⟩ := id F
  obtain ⟨⟨ws1, ws2⟩, ⟨ws3, ws4⟩, wpn, ⟨ws5, ws6, ws7⟩, ws8, ⟨ws9, ws10⟩, ⟨ws11, ws12⟩, ws13⟩ := id W
  have p1 := PA.1
  have r1 := RSH.1
  have r2 := RSH.2.1
  have r3 := RSH.2.2.1
  have r4 := RSH.2.2.2.1
  have hv1 : 1 ≤ aV S := wpn.1.1
  have hv4 : aV S ≤ 4 := wpn.1.2.1
  have hr5 : aR S ≤ 5 := wpn.1.2.2.2.1
  have hn16 : aW S ≤ 16 := lv_p hv4
  have fp0 : f pa 0 = nI (aV S) := fpn.1
  have fp1 : f pa 1 = nI (aR S) := fpn.2.1
  have gSH := GSH.1
  have tSH := TSH.1
  have sSH := SSH.1
  have iSH := ISH.1
  have hSH := HSH.1
  constructor
  · intro r0
    have := fsg
    rw [decide_eq_false (by omega), ws12 r0] at this
    exact this
  · intro r0
    have := fsg
    rw [decide_eq_true (by omega)] at this
    exact this
theorem c_fits (C : CSH h x pa pb s1 v1) (F : CF f (hL h) x pa S) (W : WS S) (k : Int32) : ∃ f', ev M_PT_fits 0 0 [some (.ref x), some (.int k)] [] (wI h f) = some (some (.int (sFits S k)), wI h f') ∧ FX x pa f f' := by
  obtain ⟨⟨c0, q0, q2, q3, q4, q5, q6, q7, q8, q9, q10, q11, q12, q13⟩, PA, PB, RSH, HSH, ⟨bC, bN, bR⟩, ISH, TSH, TSH2, GSH, SSH, ⟨lC, lN1, tC, tN⟩, ⟨rC, rR1, sC, sR1, wC, wN⟩, STR, ⟨sx1, sx2, x0⟩, PP⟩ := id C
  obtain ⟨⟨ft1, ft2⟩, ⟨fl1, fl2⟩, ⟨fe1, fe2⟩, fkw, fpn, ⟨fg1, fg2⟩, fhist, fbx, fsg⟩ := id F
  obtain ⟨⟨ws1, ws2⟩, ⟨ws3, ws4⟩, wpn, ⟨ws5, ws6, ws7⟩, ws8, ⟨ws9, ws10⟩, ⟨ws11, ws12⟩, ws13⟩ := id W
  have p1 := PA.1
  have r1 := RSH.1
  have r2 := RSH.2.1
  have r3 := RSH.2.2.1
  have r4 := RSH.2.2.2.1
  have hv1 : 1 ≤ aV S := wpn.1.1
  have hv4 : aV S ≤ 4 := wpn.1.2.1
  have hr5 : aR S ≤ 5 := wpn.1.2.2.2.1
  have hn16 : aW S ≤ 16 := lv_p hv4
  have fp0 : f pa 0 = nI (aV S) := fpn.1
  have fp1 : f pa 1 = nI (aR S) := fpn.2.1
  have gSH := GSH.1
  have tSH := TSH.1
  have sSH := SSH.1
  have iSH := ISH.1
  have hSH := HSH.1
  obtain ⟨i0, i1⟩ := sg0 C F W
  rw [r_PT_fits_0]
  unfold sFits
  by_cases r0 : aR S = 0
  · rw [if_pos r0]
    obtain ⟨f', t1, t2⟩ := sg_count0 (k := k) ISH (i0 r0)
    exact ⟨f', wp_e (wp_isC c0 (wp_nnR q8 (wp_isC iSH (wp_rIe t1 (wp_s ⟨rfl, rfl⟩))))), FX.i t2⟩
  · rw [if_neg r0]
    obtain ⟨f', t1, t2, t3, t4⟩ := sg_count (k := k) ISH (i1 r0) (g0_W W) hv4 ws11
    exact ⟨f', wp_e (wp_isC c0 (wp_nnR q8 (wp_isC iSH (wp_rIe t1 (wp_s ⟨rfl, rfl⟩))))), FX.i t4⟩
theorem c_fit (C : CSH h x pa pb s1 v1) (F : CF f (hL h) x pa S) (W : WS S) (i k : Int32) : ∃ f', ev M_PT_fit 0 0 [some (.ref x), some (.int i), some (.int k)] [] (wI h f) = some (some (.int (sFit S i k)), wI h f') ∧ FX x pa f f' := by
  obtain ⟨⟨c0, q0, q2, q3, q4, q5, q6, q7, q8, q9, q10, q11, q12, q13⟩, PA, PB, RSH, HSH, ⟨bC, bN, bR⟩, ISH, TSH, TSH2, GSH, SSH, ⟨lC, lN1, tC, tN⟩, ⟨rC, rR1, sC, sR1, wC, wN⟩, STR, ⟨sx1, sx2, x0⟩, PP⟩ := id C
  obtain ⟨⟨ft1, ft2⟩, ⟨fl1, fl2⟩, ⟨fe1, fe2⟩, fkw, fpn, ⟨fg1, fg2⟩, fhist, fbx, fsg⟩ := id F
  obtain ⟨⟨ws1, ws2⟩, ⟨ws3, ws4⟩, wpn, ⟨ws5, ws6, ws7⟩, ws8, ⟨ws9, ws10⟩, ⟨ws11, ws12⟩, ws13⟩ := id W
  have p1 := PA.1
  have r1 := RSH.1
  have r2 := RSH.2.1
  have r3 := RSH.2.2.1
  have r4 := RSH.2.2.2.1
  have hv1 : 1 ≤ aV S := wpn.1.1
  have hv4 : aV S ≤ 4 := wpn.1.2.1
  have hr5 : aR S ≤ 5 := wpn.1.2.2.2.1
  have hn16 : aW S ≤ 16 := lv_p hv4
  have fp0 : f pa 0 = nI (aV S) := fpn.1
  have fp1 : f pa 1 = nI (aR S) := fpn.2.1
  have gSH := GSH.1
  have tSH := TSH.1
  have sSH := SSH.1
  have iSH := ISH.1
  have hSH := HSH.1
  obtain ⟨i0, i1⟩ := sg0 C F W
  rw [r_PT_fit_0]
  unfold sFit
  by_cases r0 : aR S = 0
  · rw [if_pos r0]
    obtain ⟨f', t1, t2⟩ := sg_find0 (x := i) (k := k) ISH (i0 r0)
    exact ⟨f', wp_e (wp_isC c0 (wp_nnR q8 (wp_isC iSH (wp_rIe t1 (wp_s ⟨rfl, rfl⟩))))), FX.i t2⟩
  · rw [if_neg r0]
    obtain ⟨f', t1, t4⟩ := sg_find (x := i) (k := k) ISH (i1 r0) (g0_W W) hv4 ws11
    exact ⟨f', wp_e (wp_isC c0 (wp_nnR q8 (wp_isC iSH (wp_rIe t1 (wp_s ⟨rfl, rfl⟩))))), FX.i t4⟩
theorem c_ask (C : CSH h x pa pb s1 v1) (F : CF f (hL h) x pa S) (W : WS S) (l w k : Int32) : ∃ f', ev M_PT_ask 0 0 [some (.ref x), some (.int l), some (.int w), some (.int k)] [] (wI h f) = some (some (.int (sAsk S l w k)), wI h f') ∧ FX x pa f f' := by
  obtain ⟨⟨c0, q0, q2, q3, q4, q5, q6, q7, q8, q9, q10, q11, q12, q13⟩, PA, PB, RSH, HSH, ⟨bC, bN, bR⟩, ISH, TSH, TSH2, GSH, SSH, ⟨lC, lN1, tC, tN⟩, ⟨rC, rR1, sC, sR1, wC, wN⟩, STR, ⟨sx1, sx2, x0⟩, PP⟩ := id C
  obtain ⟨⟨ft1, ft2⟩, ⟨fl1, fl2⟩, ⟨fe1, fe2⟩, fkw, fpn, ⟨fg1, fg2⟩, fhist, fbx, fsg⟩ := id F
  obtain ⟨⟨ws1, ws2⟩, ⟨ws3, ws4⟩, wpn, ⟨ws5, ws6, ws7⟩, ws8, ⟨ws9, ws10⟩, ⟨ws11, ws12⟩, ws13⟩ := id W
  have p1 := PA.1
  have r1 := RSH.1
  have r2 := RSH.2.1
  have r3 := RSH.2.2.1
  have r4 := RSH.2.2.2.1
  have hv1 : 1 ≤ aV S := wpn.1.1
  have hv4 : aV S ≤ 4 := wpn.1.2.1
  have hr5 : aR S ≤ 5 := wpn.1.2.2.2.1
  have hn16 : aW S ≤ 16 := lv_p hv4
  have fp0 : f pa 0 = nI (aV S) := fpn.1
  have fp1 : f pa 1 = nI (aR S) := fpn.2.1
  have gSH := GSH.1
  have tSH := TSH.1
  have sSH := SSH.1
  have iSH := ISH.1
  have hSH := HSH.1
  obtain ⟨i0, i1⟩ := sg0 C F W
  rw [r_PT_ask_0]
  simp only [r_PT_ask_22]
  cases z0 : inN l (aV S + 1) with
  | none =>
    have es : sAsk S l w k = mI 1 := by unfold sAsk; rw [z0]; rfl
    rw [es]
    refine ⟨f, wp_e (wp_isC c0 (wp_rIe (pt_isLevel C F W _) ?_)), FX.rf⟩
    rw [z0]
    exact wp_bt rfl (wp_s ⟨rfl, rfl⟩)
  | some j =>
  cases z1 : inN w 2 with
  | none =>
    have es : sAsk S l w k = mI 1 := by unfold sAsk; rw [z0]; show on (inN w 2) _ = _; rw [z1]; rfl
    rw [es]
    refine ⟨f, wp_e (wp_isC c0 (wp_rIe (pt_isLevel C F W _) ?_)), FX.rf⟩
    rw [z0]
    exact wp_bf n10 (wp_rn (m := 1) z1 (by decide) (wp_s ⟨rfl, rfl⟩))
  | some t =>
  have es : sAsk S l w k = if aR S = 0 then mI 1 else askc (aV S) j (fS S k) (aG0 S) (decide (t = 1)) := by unfold sAsk; rw [z0]; show on (inN w 2) _ = _; rw [z1]; rfl
  obtain ⟨j1, j2, j3⟩ := inN_s z0
  obtain ⟨t1, t2, t3⟩ := inN_s z1
  subst j1; subst t1
  rw [es]
  have best : ∃ f', (∀ b : Bool, b = decide (t = 1) → ev M_Sightings_bestBlock 0 0 [some (.ref (x + 168)), some (.int (nI j)), some (.int k), some (.int (nI b.toNat)), none, none, none, none, none, none, none] [] (wI h f) = some (some (.int (if aR S = 0 then mI 1 else askc (aV S) j (fS S k) (aG0 S) (decide (t = 1)))), wI h f')) ∧ FX x pa f f' := by
    by_cases r0 : aR S = 0
    · rw [if_pos r0]
      obtain ⟨f', t1, t2⟩ := sg_best0 (l := nI j) (k := k) (w := nI (decide (t = 1)).toNat) ISH (i0 r0)
      exact ⟨f', fun b hb => by rw [hb]; exact t1, FX.i t2⟩
    · rw [if_neg r0]
      obtain ⟨f', t1, t4⟩ := sg_best (k := k) (w := decide (t = 1)) ISH (i1 r0) (g0_W W) hv4 ws11 (show j ≤ aV S by omega)
      exact ⟨f', fun b hb => by rw [hb]; exact t1, FX.i t4⟩
  obtain ⟨f', b1, b2⟩ := best
  refine ⟨f', wp_e (wp_isC c0 (wp_rIe (pt_isLevel C F W _) ?_)), b2⟩
  rw [z0]
  refine wp_bf n10 (wp_bf (nI_pos t3) (wp_bf (by rw [nI_ltI (by decide) t3]; omega) (wp_isC c0 (wp_nnR q8 ?_))))
  have tt : t = 0 ∨ t = 1 := by omega
  rcases tt with q | q <;> subst q
  · exact wp_bf (by decide) (wp_isC iSH (wp_rIe (b1 false rfl) (wp_s ⟨rfl, rfl⟩)))
  · exact wp_bt rfl (wp_isC iSH (wp_rIe (b1 true rfl) (wp_s ⟨rfl, rfl⟩)))
end
