/-! The class's methods: boxes, acts. -/
section
variable {h : MH} {f : Nat → Nat → Int32} {x pa pb s1 v1 : Nat} {S : Abs}
/-- relations, acts, boxes alone change -/
theorem CF_h {f' : Nat → Nat → Int32} {d k : Nat} {st : Nat → Sd} {bx : Nat → Option Sd} (F : CF f (hL h) x pa S) (fr : Fr (x + 39) (x + 168) f f') (hp : (pa = x + 2 ∧ pb = x + 19) ∨ (pa = x + 19 ∧ pb = x + 2)) (hr : aR S ≤ 5) (e1 : f' (x + 39) 1 = nI (st d).2) (eg : ∀ j, j < aR S → GF f' (x + 44 + 2 * j) (aW S) (gA (aQ S) (aX S) (st d).1 j)) (eh : ∃ old rl tn sb sa, HF f' (x + 86) k d old rl tn sb sa ∧ HC (aQ S) k st rl tn sb sa)
    (eb : ∀ b, b < 3 → f' (x + 132 + 12 * b) 0 = nI (bx b).isSome.toNat ∧ ∀ s, bx b = some s → f' (x + 132 + 12 * b) 1 = nI s.2 ∧ ∀ k, k < aR S → GF f' (x + 134 + 12 * b + 2 * k) (aW S) (gA (aQ S) (aX S) s.1 k)) : CF f' (hL h) x pa (bB (bH S d k st) bx) := by
  obtain ⟨⟨ft1, ft2⟩, ⟨fl1, fl2⟩, ⟨fe1, fe2⟩, fkw, fpn, ⟨fg1, fg2⟩, ⟨old, rl, tn, sb', sa, h1, h2⟩, fbx, fsg⟩ := F
  have o := fr
  refine ⟨⟨?_, fun i hi => ?_⟩, ⟨?_, fun i e he => ?_⟩, ⟨?_, ?_⟩, fkw, ?_, ⟨e1, eg⟩, eh, eb, ?_⟩
  · rw [o _ (by omega)]; exact ft1
  · rw [o _ (by omega)]; exact ft2 i hi
  · rw [o _ (by omega)]; exact fl1
  · rw [o _ (by omega)]; exact fl2 i e he
  · rw [o _ (by omega)]; exact fe1
  · rw [o _ (by omega)]; exact fe2
  · obtain ⟨y0, y1, y2, y3, y4, y5, y6, y7, y8, y9, y10⟩ := fpn
    have e0 := o pa (by omega)
    refine ⟨by rw [e0]; exact y0, by rw [e0]; exact y1, by rw [e0]; exact y2, by rw [e0]; exact y3, by rw [e0]; exact y4, by rw [e0]; exact y5, by rw [e0]; exact y6, fun i c hc => by rw [o _ (by omega)]; exact y7 i c hc, ⟨by rw [o _ (by omega)]; exact y8.1, fun i c hc => by rw [o _ (by omega)]; exact y8.2 i c hc⟩, fun k hk => ?_, y10⟩
    have hk : k < aR S := hk
    exact ⟨by rw [o _ (by omega)]; exact (y9 k hk).1, fun r hr => by rw [o _ (by omega)]; exact (y9 k hk).2 r hr⟩
  · obtain ⟨t0, t1, t2, t3, t4, t5⟩ := fsg
    have es := o (x + 168) (by omega)
    refine ⟨by rw [es]; exact t0, by rw [es]; exact t1, by rw [es]; exact t2, by rw [es]; exact t3, fun z => ⟨by rw [o _ (by omega)]; exact (t4 z).1, fun r hr => by rw [o _ (by omega)]; exact (t4 z).2 r hr⟩, fun i e he => ?_⟩
    rw [o (x + 168 + 3) (by omega), o (x + 168 + 4) (by omega), o (x + 168 + 5) (by omega), o (x + 168 + 6) (by omega), o (x + 168 + 7) (by omega), o (x + 168 + 8) (by omega), o (x + 168 + 9) (by omega)]
    exact t5 i e he
theorem bx_fr {f' : Nat → Nat → Int32} {lo hi : Nat} (F : CF f (hL h) x pa S) (fr : Fr lo hi f f') (hr : aR S ≤ 5) (b : Nat) (hd : x + 132 + 12 * b + 12 ≤ lo ∨ hi ≤ x + 132 + 12 * b) (hb : b < 3) : f' (x + 132 + 12 * b) 0 = nI (aB S b).isSome.toNat ∧ ∀ s, aB S b = some s → f' (x + 132 + 12 * b) 1 = nI s.2 ∧ ∀ k, k < aR S → GF f' (x + 134 + 12 * b + 2 * k) (aW S) (gA (aQ S) (aX S) s.1 k) := by
  obtain ⟨-, -, -, -, -, -, -, fbx, -⟩ := F
  obtain ⟨b1, b2⟩ := fbx b hb
  have o := fr
  have eb := o (x + 132 + 12 * b) (by omega)
  refine ⟨by rw [eb]; exact b1, fun s hs => ⟨by rw [eb]; exact (b2 s hs).1, fun k hk => ?_⟩⟩
  have := (b2 s hs).2 k hk
  exact ⟨by rw [o _ (by omega)]; exact this.1, fun r hr => by rw [o _ (by omega)]; exact this.2 r hr⟩
theorem hf_fr {f' : Nat → Nat → Int32} {z kept done old : Nat} {rl : Nat → Option Nat} {tn : Nat → Rw} {sb sa : Nat → Nat} (o : ∀ a, z ≤ a → a < z + 45 → f' a = f a) (H : HF f z kept done old rl tn sb sa) : HF f' z kept done old rl tn sb sa := by
  obtain ⟨a1, a2, a3, a4, a5, a6, a7⟩ := H
  have ez := o z (by omega) (by omega)
  refine ⟨by rw [ez]; exact a1, by rw [ez]; exact a2, by rw [ez]; exact a3, a4, a5, a6, fun k hk => ?_⟩
  obtain ⟨c1, c2, c3, c4⟩ := a7 k hk
  have hm : (old + k) % 40 < 40 := Nat.mod_lt _ (by decide)
  exact ⟨by rw [o _ (by omega) (by omega)]; exact c1, by rw [o _ (by omega) (by omega)]; exact c2, by rw [o _ (by omega) (by omega)]; exact c3, fun r hr hs => by rw [o _ (by omega) (by omega)]; exact c4 r hr hs⟩
def sImg (S : Abs) (b : Int32) : Int32 := on (inN b 3) fun _ => nI (tc (aW S) (vTd (aQ S)) (aG S) (aR S))
def uImg (S : Abs) (b : Int32) : Abs := match inN b 3 with
  | some i => bB (bH S (aD S) (aK S) (aS S)) (fun j => if j = i then some (aS S (aD S)) else aB S j)
  | none => S
theorem c_image (C : CSH h x pa pb s1 v1) (F : CF f (hL h) x pa S) (W : WS S) (b : Int32) : ∃ f', ev M_PT_image 0 0 [some (.ref x), some (.int b)] [] (wI h f) = some (some (.int (sImg S b)), wI h f') ∧ CF f' (hL h) x pa (uImg S b) ∧ Fr x (x + 222) f f' := by
  obtain ⟨⟨c0, q0, q2, q3, q4, q5, q6, q7, q8, q9, q10, q11, q12, q13⟩, PA, PB, RSH, HSH, ⟨bC, bN, bR⟩, ISH, TSH, TSH2, GSH, SSH, ⟨lC, lN1, tC, tN⟩, ⟨rC, rR1, sC, sR1, wC, wN⟩, STR, ⟨sx1, sx2, x0⟩, PP⟩ := id C
  obtain ⟨⟨ft1, ft2⟩, ⟨fl1, fl2⟩, ⟨fe1, fe2⟩, fkw, fpn, ⟨fg1, fg2⟩, fhist, fbx, fsg⟩ := id F
  obtain ⟨⟨ws1, ws2⟩, ⟨ws3, ws4⟩, wpn, ⟨ws5, ws6, ws7⟩, ws8, ⟨ws9, ws10⟩, ⟨ws11, ws12⟩, ws13⟩ := id W
  have p1 := PA.1
  have r1 := RSH.1
  have r2 := RSH.2.1
  have r3 := RSH.2.2.1
  have r4 := RSH.2.2.2.1
  have hv1 : 1 ≤ aV S := wpn.1.1
  have hv4 : aV S ≤ 4 := wpn.1.2.1
  have hr5 : aR S ≤ 5 := wpn.1.2.2.2.1
  have hn16 : aW S ≤ 16 := lv_p hv4
  have fp0 : f pa 0 = nI (aV S) := fpn.1
  have fp1 : f pa 1 = nI (aR S) := fpn.2.1
  have gSH := GSH.1
  have tSH := TSH.1
  have sSH := SSH.1
  have iSH := ISH.1
  have hSH := HSH.1
  rw [r_PT_image_0]
  unfold uImg
  cases z : inN b 3 with
  | none =>
    have es : sImg S b = mI 1 := by unfold sImg; rw [z]; rfl
    rw [es]
    refine ⟨f, wp_e ?_, F, Fr.rf⟩
    rcases inN_n z (by decide) with q | ⟨q, w2⟩
    · exact wp_bt q (wp_s ⟨rfl, rfl⟩)
    · exact wp_bf q (wp_bf w2 (wp_s ⟨rfl, rfl⟩))
  | some i =>
    have es : sImg S b = nI (tc (aW S) (vTd (aQ S)) (aG S) (aR S)) := by unfold sImg; rw [z]; rfl
    rw [es]
    obtain ⟨i1, i2, i3⟩ := inN_s z
    subst i1
    obtain ⟨b1, b2⟩ := bR i i2
    have b3 := b2.1
    obtain ⟨f', t1, t2, t3, t4, t5⟩ := bx_keep (f := f) b2 RSH (by omega) fg1
    have CF' : CF f' (hL h) x pa (bB (bH S (aD S) (aK S) (aS S)) (fun j => if j = i then some (aS S (aD S)) else aB S j)) := by
      refine CF_h F (t5.up (by omega) (by omega)) PP hr5 (by rw [t5 _ (by omega)]; exact fg1) (fun j hj => t5.F (by omega) (fg2 j hj)) ?_ (fun c hc => ?_)
      · obtain ⟨old, rl, tn, sb', sa, h1, h2⟩ := fhist
        exact ⟨old, rl, tn, sb', sa, hf_fr (fun a h1 h2 => t5 a (by omega)) h1, h2⟩
      · by_cases e : c = i
        · subst e
          simp only [if_true]
          refine ⟨t2, fun s hs => ?_⟩
          have hs : aS S (aD S) = s := by simpa using hs
          subst hs
          refine ⟨t3, fun k hk => ?_⟩
          have hk : k < aR S := hk
          have := t4 k (by omega) _ _ (fg2 k hk)
          rw [show x + 132 + 12 * c + 2 + 2 * k = x + 134 + 12 * c + 2 * k by omega] at this
          exact this
        · simp only [if_neg e]
          exact bx_fr F t5 hr5 c (by omega) hc
    refine ⟨f', wp_e (wp_bf (nI_pos i3) (wp_bt (by rw [nI_ltI i3 (by decide)]; exact i2) ?_)), CF', t5.up (by omega) (by omega)⟩
    repeat (first | refine wp_isC (by assumption) ?_ | refine wp_nnR (by assumption) ?_ | refine wp_inA (by assumption) rfl (by omega) (by omega) ?_ | refine wp_isZ (by first | decide | exact b01z _) ?_ | refine wp_bt (by (first | (simp (disch := omega) only [wI_I, wI_s, nI_add, pk_mul, nI_ltI, nI_leI, nI_eq, nI_clamp, nm_or, nm_and, nm_xor, nm_nd, nm_one, nm_shr, nm_b2, Bool.false_eq_true, Bool.true_eq_false, not_false_eq_true, not_true_eq_false, reduceCtorEq]; done) | (simp (disch := omega) only [wI_I, wI_s, nI_add, pk_mul, nI_ltI, nI_leI, nI_eq, nI_clamp, nm_or, nm_and, nm_xor, nm_nd, nm_one, nm_shr, nm_b2, Bool.false_eq_true, Bool.true_eq_false, not_false_eq_true, not_true_eq_false, reduceCtorEq]; omega) | omega)) ?_ | refine wp_bf (by (first | (simp (disch := omega) only [wI_I, wI_s, nI_add, pk_mul, nI_ltI, nI_leI, nI_eq, nI_clamp, nm_or, nm_and, nm_xor, nm_nd, nm_one, nm_shr, nm_b2, Bool.false_eq_true, Bool.true_eq_false, not_false_eq_true, not_true_eq_false, reduceCtorEq]; done) | (simp (disch := omega) only [wI_I, wI_s, nI_add, pk_mul, nI_ltI, nI_leI, nI_eq, nI_clamp, nm_or, nm_and, nm_xor, nm_nd, nm_one, nm_shr, nm_b2, Bool.false_eq_true, Bool.true_eq_false, not_false_eq_true, not_true_eq_false, reduceCtorEq]; omega) | omega)) ?_ | refine wp_nz (by first | decide | exact nz_n (by omega) (by omega)) ?_ | (simp (disch := omega) only [wI_I, wI_s, nI_add, pk_mul, nI_ltI, nI_leI, nI_eq, nI_clamp, nm_or, nm_and, nm_xor, nm_nd, nm_one, nm_shr, nm_b2, Bool.false_eq_true, Bool.true_eq_false, not_false_eq_true, not_true_eq_false, reduceCtorEq, up2_a, up2_k, up2_s, gw_o]))
    refine wp_rVe t1 (wp_isC c0 (wp_nnR q5 (wp_isC r1 (wp_rIe (?_ : _ = some (some (Value.int (nI (tc (aW S) (vTd (aQ S)) (aG S) (aR S)))), wI h f')) (wp_s ⟨rfl, rfl⟩)))))
    have td : vTd (aQ S) < 2 ^ 31 := Nat.lt_trans wpn.1.2.2.2.2.1 (by decide)
    have hpa := PPa C
    exact rl_count RSH p1 (by rw [t5 _ (by omega)]; exact fp1) (by rw [t5 _ (by omega)]; exact fpn.2.2.1) td hr5 (fun k hk => ⟨t5.F (by omega) (fg2 k hk), gA_W wpn (ws7 _ ws5) k⟩)
def sBack (S : Abs) (b : Int32) : Int32 := on (inN b 3) fun i => match aB S i with
  | none => mI 1
  | some s => nI (tc (aW S) (vTd (aQ S)) (gA (aQ S) (aX S) s.1) (aR S))
def uBack (S : Abs) (b : Int32) : Abs := match inN b 3 with
  | some i => (match aB S i with
    | none => S
    | some s => bB (bH S 0 0 (fun _ => s)) (aB S))
  | none => S
theorem c_back (C : CSH h x pa pb s1 v1) (F : CF f (hL h) x pa S) (W : WS S) (b : Int32) : ∃ f', ev M_PT_back 0 0 [some (.ref x), some (.int b)] [] (wI h f) = some (some (.int (sBack S b)), wI h f') ∧ CF f' (hL h) x pa (uBack S b) ∧ Fr x (x + 222) f f' := by
  obtain ⟨⟨c0, q0, q2, q3, q4, q5, q6, q7, q8, q9, q10, q11, q12, q13⟩, PA, PB, RSH, HSH, ⟨bC, bN, bR⟩, ISH, TSH, TSH2, GSH, SSH, ⟨lC, lN1, tC, tN⟩, ⟨rC, rR1, sC, sR1, wC, wN⟩, STR, ⟨sx1, sx2, x0⟩, PP⟩ := id C
  obtain ⟨⟨ft1, ft2⟩, ⟨fl1, fl2⟩, ⟨fe1, fe2⟩, fkw, fpn, ⟨fg1, fg2⟩, fhist, fbx, fsg⟩ := id F
  obtain ⟨⟨ws1, ws2⟩, ⟨ws3, ws4⟩, wpn, ⟨ws5, ws6, ws7⟩, ws8, ⟨ws9, ws10⟩, ⟨ws11, ws12⟩, ws13⟩ := id W
  have p1 := PA.1
  have r1 := RSH.1
  have r2 := RSH.2.1
  have r3 := RSH.2.2.1
  have r4 := RSH.2.2.2.1
  have hv1 : 1 ≤ aV S := wpn.1.1
  have hv4 : aV S ≤ 4 := wpn.1.2.1
  have hr5 : aR S ≤ 5 := wpn.1.2.2.2.1
  have hn16 : aW S ≤ 16 := lv_p hv4
  have fp0 : f pa 0 = nI (aV S) := fpn.1
  have fp1 : f pa 1 = nI (aR S) := fpn.2.1
  have gSH := GSH.1
  have tSH := TSH.1
  have sSH := SSH.1
  have iSH := ISH.1
  have hSH := HSH.1
  rw [r_PT_back_0]
  cases z : inN b 3 with
  | none =>
    have es : sBack S b = mI 1 := by unfold sBack; rw [z]; rfl
    have eu : uBack S b = S := by unfold uBack; rw [z]
    rw [es, eu]
    refine ⟨f, wp_e ?_, F, Fr.rf⟩
    rcases inN_n z (by decide) with q | ⟨q, w2⟩
    · exact wp_bt q (wp_s ⟨rfl, rfl⟩)
    · exact wp_bf q (wp_bf w2 (wp_s ⟨rfl, rfl⟩))
  | some i =>
    obtain ⟨i1, i2, i3⟩ := inN_s z
    subst i1
    obtain ⟨b1, b2⟩ := bR i i2
    have b3 := b2.1
    obtain ⟨d1, d2⟩ := fbx i i2
    cases y : aB S i with
    | none =>
      have es : sBack S (nI i) = mI 1 := by unfold sBack; rw [z]; dsimp only [on]; rw [y]
      have eu : uBack S (nI i) = S := by unfold uBack; rw [z]; dsimp only; rw [y]
      rw [es, eu]
      rw [y] at d1
      refine ⟨f, wp_e (wp_bf (nI_pos i3) (wp_bt (by rw [nI_ltI i3 (by decide)]; exact i2) ?_)), F, Fr.rf⟩
      refine wp_isC c0 (wp_nnR q7 (wp_isC bC (wp_inA bN rfl i2 i3 ?_)))
      rw [nI_clamp i3]
      refine wp_nnR b1 (wp_isC b3 (wp_bt d1 (wp_s ⟨rfl, rfl⟩)))
    | some s =>
      have es : sBack S (nI i) = nI (tc (aW S) (vTd (aQ S)) (gA (aQ S) (aX S) s.1) (aR S)) := by unfold sBack; rw [z]; dsimp only [on]; rw [y]
      have eu : uBack S (nI i) = bB (bH S 0 0 (fun _ => s)) (aB S) := by unfold uBack; rw [z]; dsimp only; rw [y]
      rw [es, eu]
      rw [y] at d1
      obtain ⟨d3, d4⟩ := d2 s y
      obtain ⟨f1, t1, t2, t3, t4, t5⟩ := bx_give (f := f) b2 RSH (by omega) d3
      have ws := ws8 i s y
      have fr2 : Fr (x + 39) (x + 168) f (up2 (up2 (up2 f1 (x + 86) 0 (nI 0)) (x + 86) 1 (nI 0)) (x + 86) 2 (nI 0)) := (t5.up (by omega) (by omega)).tr (((Fr.u2 (by omega) (by omega)).tr (Fr.u2 (by omega) (by omega))).tr (Fr.u2 (by omega) (by omega)))
      have g' : ∀ j, j < aR S → GF (up2 (up2 (up2 f1 (x + 86) 0 (nI 0)) (x + 86) 1 (nI 0)) (x + 86) 2 (nI 0)) (x + 44 + 2 * j) (aW S) (gA (aQ S) (aX S) s.1 j) := fun j hj => GF_up2 (by omega) (by omega) (GF_up2 (by omega) (by omega) (GF_up2 (by omega) (by omega) (t4 j (by omega) _ _ (by rw [show x + 132 + 12 * i + 2 + 2 * j = x + 134 + 12 * i + 2 * j by omega]; exact d4 j hj))))
      refine ⟨_, wp_e (wp_bf (nI_pos i3) (wp_bt (by rw [nI_ltI i3 (by decide)]; exact i2) ?_)), CF_h F fr2 PP hr5 (by rw [up2_a (by omega), up2_a (by omega), up2_a (by omega)]; exact t2) g' ⟨0, fun _ => none, fun _ _ => 0, fun _ => 0, fun _ => 0, ⟨by rw [up2_k (by decide), up2_k (by decide), up2_s], by rw [up2_k (by decide), up2_s], up2_s, by decide, by decide, by decide, fun k hk => by omega⟩, fun k hk => by omega⟩ (fun c hc => ?_), fr2.up (by omega) (by omega)⟩
      · refine wp_isC c0 (wp_nnR q7 (wp_isC bC (wp_inA bN rfl i2 i3 ?_)))
        rw [nI_clamp i3]
        refine wp_nnR b1 (wp_isC b3 (wp_bf (by rw [wI_I, d1]; exact n10) ?_))
        repeat (first | refine wp_isC (by assumption) ?_ | refine wp_nnR (by assumption) ?_ | refine wp_inA (by assumption) rfl (by omega) (by omega) ?_ | refine wp_isZ (by first | decide | exact b01z _) ?_ | refine wp_bt (by (first | (simp (disch := omega) only [wI_I, wI_s, nI_add, pk_mul, nI_ltI, nI_leI, nI_eq, nI_clamp, nm_or, nm_and, nm_xor, nm_nd, nm_one, nm_shr, nm_b2, Bool.false_eq_true, Bool.true_eq_false, not_false_eq_true, not_true_eq_false, reduceCtorEq]; done) | (simp (disch := omega) only [wI_I, wI_s, nI_add, pk_mul, nI_ltI, nI_leI, nI_eq, nI_clamp, nm_or, nm_and, nm_xor, nm_nd, nm_one, nm_shr, nm_b2, Bool.false_eq_true, Bool.true_eq_false, not_false_eq_true, not_true_eq_false, reduceCtorEq]; omega) | omega)) ?_ | refine wp_bf (by (first | (simp (disch := omega) only [wI_I, wI_s, nI_add, pk_mul, nI_ltI, nI_leI, nI_eq, nI_clamp, nm_or, nm_and, nm_xor, nm_nd, nm_one, nm_shr, nm_b2, Bool.false_eq_true, Bool.true_eq_false, not_false_eq_true, not_true_eq_false, reduceCtorEq]; done) | (simp (disch := omega) only [wI_I, wI_s, nI_add, pk_mul, nI_ltI, nI_leI, nI_eq, nI_clamp, nm_or, nm_and, nm_xor, nm_nd, nm_one, nm_shr, nm_b2, Bool.false_eq_true, Bool.true_eq_false, not_false_eq_true, not_true_eq_false, reduceCtorEq]; omega) | omega)) ?_ | refine wp_nz (by first | decide | exact nz_n (by omega) (by omega)) ?_ | (simp (disch := omega) only [wI_I, wI_s, nI_add, pk_mul, nI_ltI, nI_leI, nI_eq, nI_clamp, nm_or, nm_and, nm_xor, nm_nd, nm_one, nm_shr, nm_b2, Bool.false_eq_true, Bool.true_eq_false, not_false_eq_true, not_true_eq_false, reduceCtorEq, up2_a, up2_k, up2_s, gw_o]))
        refine wp_rVe t1 (wp_isC c0 (wp_nnR q6 (wp_isC hSH (wp_rVe (hs_forget hSH) (wp_isC c0 (wp_nnR q5 (wp_isC r1 (wp_rIe (?_ : _ = some (some (Value.int (nI (tc (aW S) (vTd (aQ S)) (gA (aQ S) (aX S) s.1) (aR S)))), _)) (wp_s ⟨rfl, rfl⟩)))))))))
        have td : vTd (aQ S) < 2 ^ 31 := Nat.lt_trans wpn.1.2.2.2.2.1 (by decide)
        have hpa := PPa C
        exact rl_count RSH p1 (by rw [fr2 _ (by omega)]; exact fp1) (by rw [fr2 _ (by omega)]; exact fpn.2.2.1) td hr5 (fun k hk => ⟨g' k hk, gA_W wpn ws k⟩)
      · have fb2 : Fr (x + 39) (x + 132) f (up2 (up2 (up2 f1 (x + 86) 0 (nI 0)) (x + 86) 1 (nI 0)) (x + 86) 2 (nI 0)) := (t5.up (by omega) (by omega)).tr (((Fr.u2 (by omega) (by omega)).tr (Fr.u2 (by omega) (by omega))).tr (Fr.u2 (by omega) (by omega)))
        exact bx_fr F fb2 hr5 c (by omega) hc
/-! acts -/
/-- derived ones anew -/
theorem pt_derive {f : Nat → Nat → Int32} {A0 : Nat → Rw} {A : Nat → Rw} (C : CSH h x pa pb s1 v1) (P : WPn (aQ S) (aX S)) (f0 : f pa 0 = nI (aV S)) (f10 : f pa 10 = nI (vXs (aQ S)).length) (fx : LF f (pa + 6) (vXs (aQ S))) (FA : ∀ k, k < aR S → GF f (x + 44 + 2 * k) (aW S) (A0 k) ∧ GW (aW S) (A0 k)) (hA : ∀ k, (vTd (aQ S)).testBit k = true → A0 k = A k) : ∃ f', ev M_Relations_derive 0 0 [some (.ref (x + 39)), none, none, none] [] (wI h f) = some (none, wI h f') ∧ (∀ k, k < aR S → GF f' (x + 44 + 2 * k) (aW S) (gA (aQ S) (aX S) A k)) ∧ Fr (x + 42) (x + 86) f f' := by
  obtain ⟨⟨c0, q0, q2, q3, q4, q5, q6, q7, q8, q9, q10, q11, q12, q13⟩, PA, PB, RSH, -⟩ := id C
  have hpa := PPa C
  obtain ⟨b, px1, px2, px3, px4⟩ := id P
  have hr5 : aR S ≤ 5 := b.2.2.2.1
  have xo : xok (aR S) (vXs (aQ S)) 0 := by
    have := xok_flat (N := aR S) (td := vTd (aQ S)) (cx := aX S) px3 (aR S) (Nat.le_refl _) [] True.intro
    rw [List.append_nil] at this
    rw [px2]; exact this
  obtain ⟨r, h', e0, f', e1, e2, e3, e4⟩ := rl_dv (h := h) (nr := aR S) RSH PA b.2.1 (by omega) hr5 b.2.2.2.2.2.2.2.2.2.1.1 b.2.2.2.2.2.2.2.2.2.1.2 (vXs (aQ S)) 0 f A0 [] rfl (Nat.zero_le _) f0 f10 fx FA True.intro (by decide) xo
  subst e1; subst e2
  refine ⟨f', by rw [r_Relations_derive_0]; exact e0, fun k hk => ?_, e4⟩
  have := (e3 k hk).1
  have e : dv (2 ^ vLv (aQ S)) (flat (vTd (aQ S)) (aX S) (vNr (aQ S))) A0 [] k = alK (2 ^ vLv (aQ S)) (vTd (aQ S)) (aX S) A (vNr (aQ S)) k := dv_al hr5 px3 hA k hk
  rw [px2, e] at this
  exact this
/-- a new state behind the one at hand; the oldest gives way -/
def push (S : Abs) (s : Sd) : Abs := bB (bH S (aD S - (if aD S = 40 then 1 else 0) + 1) (aD S - (if aD S = 40 then 1 else 0) + 1) (fun k => if k = aD S - (if aD S = 40 then 1 else 0) + 1 then s else aS S (k + (if aD S = 40 then 1 else 0)))) (aB S)
/-- the told ones with one of them changed -/
def setA (A : Nat → Rw) (rel : Option Nat) (B : Rw) : Nat → Rw := match rel with
  | none => A
  | some k => fun j => if j = k then B else A j
theorem pt_perform {B : Rw} {rel : Option Nat} {v : Nat} (C : CSH h x pa pb s1 v1) (F : CF f (hL h) x pa S) (W : WS S) (FB : ∀ r, r < 16 → f (x + 214 + 1) r = nI (B r)) (hrel : ∀ k, rel = some k → k < aR S ∧ (vTd (aQ S)).testBit k = true ∧ GW (aW S) B) : ∃ f', ev M_PT_perform 0 0 [some (.ref x), some (.int (oI rel)), some (.ref (x + 214)), some (.int (nI v))] [] (wI h f) = some (none, wI h f') ∧ CF f' (hL h) x pa (push S (setA (aS S (aD S)).1 rel B, v)) ∧ Fr (x + 39) (x + 131) f f' := by
  obtain ⟨⟨c0, q0, q2, q3, q4, q5, q6, q7, q8, q9, q10, q11, q12, q13⟩, PA, PB, RSH, HSH, ⟨bC, bN, bR⟩, ISH, TSH, TSH2, GSH, SSH, ⟨lC, lN1, tC, tN⟩, ⟨rC, rR1, sC, sR1, wC, wN⟩, STR, ⟨sx1, sx2, x0⟩, PP⟩ := id C
  obtain ⟨⟨ft1, ft2⟩, ⟨fl1, fl2⟩, ⟨fe1, fe2⟩, fkw, fpn, ⟨fg1, fg2⟩, fhist, fbx, fsg⟩ := id F
  obtain ⟨⟨ws1, ws2⟩, ⟨ws3, ws4⟩, wpn, ⟨ws5, ws6, ws7⟩, ws8, ⟨ws9, ws10⟩, ⟨ws11, ws12⟩, ws13⟩ := id W
  have p1 := PA.1
  have r1 := RSH.1
  have r2 := RSH.2.1
  have r3 := RSH.2.2.1
  have r4 := RSH.2.2.2.1
  have hv1 : 1 ≤ aV S := wpn.1.1
  have hv4 : aV S ≤ 4 := wpn.1.2.1
  have hr5 : aR S ≤ 5 := wpn.1.2.2.2.1
  have hn16 : aW S ≤ 16 := lv_p hv4
  have fp0 : f pa 0 = nI (aV S) := fpn.1
  have fp1 : f pa 1 = nI (aR S) := fpn.2.1
  have gSH := GSH.1
  have tSH := TSH.1
  have sSH := SSH.1
  have iSH := ISH.1
  have hSH := HSH.1
  have hpa := PPa C
  obtain ⟨old, rl, tn, sb', sa, h1, h2⟩ := fhist
  have gAt : ∀ k, k < aR S → (vTd (aQ S)).testBit k = true → aG S k = (aS S (aD S)).1 k := fun k hk ht => gA_t hk ht
  -- the one that is changed, as it is
  obtain ⟨A, hA⟩ : ∃ A : Rw, ∀ k, rel = some k → A = aG S k := by
    cases rel with
    | none => exact ⟨fun _ => 0, fun k hk => by cases hk⟩
    | some j => exact ⟨aG S j, fun k hk => by cases hk; rfl⟩
  obtain ⟨f1, e, old', ee, t1, t2, t3⟩ := hs_add (h := h) (f := f) (z := x + 86) (q := x + 39) (o := x + 214) (n := aW S) (v := v) (rel := rel) (A := A) HSH RSH GSH (by omega) (by omega) fg1 h1 (fun k hk => ⟨by have := (hrel k hk).1; omega, by rw [hA k hk]; exact fg2 k (hrel k hk).1⟩) FB
  have hD : aD S ≤ 40 := Nat.le_trans ws5 ws6
  have he : e ≤ aD S := by rw [ee]; split <;> omega
  have he40 : aD S - e < 40 := by rw [ee]; split <;> omega
  obtain ⟨f2, u1, u2, u3, u4, u5, u6⟩ := hs_on (h := h) (f := f1) (z := x + 86) (q := x + 39) (n := aW S) (A := fun _ => A) HSH RSH (by omega) t2 (fun k hk => by
    simp only [eq_self, if_true] at hk
    exact ⟨by have := (hrel k hk).1; omega, by rw [hA k hk]; exact t3.F (by have := (hrel k hk).1; omega) (fg2 k (hrel k hk).1)⟩) (by omega)
  simp only [eq_self, if_true] at u3 u5 u6
  have xx : (fun r => A r ^^^ (A r ^^^ B r)) = B := by
    funext r; rw [← Nat.xor_assoc, Nat.xor_self, Nat.zero_xor]
  have u5' : ∀ k, rel = some k → f2 = up2 (gw (up2 f1 (x + 39) 1 (nI v)) (x + 39 + 5 + 2 * k) (aW S) B) (x + 86) 1 (nI (aD S - e + 1)) := fun k hk => by
    have := u5 k hk
    rw [xx] at this
    exact this
  have fr2 : Fr (x + 39) (x + 131) f f2 := by
    have t3' : Fr (x + 39) (x + 131) f f1 := t3.up (by omega) (by omega)
    cases hq : rel with
    | none => rw [u6 hq]; exact (t3'.tr (Fr.u2 (by omega) (by omega))).tr (Fr.u2 (by omega) (by omega))
    | some k =>
      have := (hrel k hq).1
      rw [u5' k hq]; exact ((t3'.tr (Fr.u2 (by omega) (by omega))).tr (Fr.gw (by omega) (by omega))).tr (Fr.u2 (by omega) (by omega))
  -- relations ahead of the derived ones
  have FA : ∀ k, k < aR S → GF f2 (x + 44 + 2 * k) (aW S) (setA (aG S) rel B k) ∧ GW (aW S) (setA (aG S) rel B k) := by
    intro k hk
    have gk := fg2 k hk
    have wk := gA_W (k := k) wpn (ws7 _ ws5)
    cases hq : rel with
    | none =>
      rw [u6 hq]
      exact ⟨GF_up2 (by omega) (by omega) (GF_up2 (by omega) (by omega) (t3.F (by omega) gk)), wk⟩
    | some j =>
      obtain ⟨hj1, hj2, hj3⟩ := hrel j hq
      rw [u5' j hq]
      show GF _ _ _ (if k = j then B else aG S k) ∧ GW _ (if k = j then B else aG S k)
      by_cases e : k = j
      · rw [if_pos e, e]
        exact ⟨GF_up2 (by omega) (by omega) gw_f, hj3⟩
      · rw [if_neg e]
        exact ⟨GF_up2 (by omega) (by omega) (gw_F (by omega) (GF_up2 (by omega) (by omega) (t3.F (by omega) gk))), wk⟩
  obtain ⟨f3, d1, d2, d3⟩ := pt_derive (f := f2) (A0 := setA (aG S) rel B) (A := setA (aS S (aD S)).1 rel B) C wpn (by rw [fr2 _ (by omega)]; exact fp0) (by rw [fr2 _ (by omega)]; exact fpn.2.2.2.2.2.2.1) (fun i c hc => by rw [fr2 _ (by omega)]; exact fpn.2.2.2.2.2.2.2.1 i c hc) FA (fun k hk => by
    have hkr : k < aR S := by
      by_cases z : k < aR S
      · exact z
      · have := Nat.testBit_lt_two_pow (x := vTd (aQ S)) (i := k) (Nat.lt_of_lt_of_le wpn.2.1 (Nat.pow_le_pow_right (by decide) (by have : ¬ k < vNr (aQ S) := z; omega)))
        rw [this] at hk; cases hk
    cases hq : rel with
    | none => exact gAt k hkr hk
    | some j =>
      show (if k = j then B else aG S k) = if k = j then B else _
      by_cases e : k = j
      · rw [if_pos e, if_pos e]
      · rw [if_neg e, if_neg e]; exact gAt k hkr hk)
  have fr3 : Fr (x + 39) (x + 131) f f3 := fr2.tr (d3.up (by omega) (by omega))
  refine ⟨f3, ?_, ?_, fr3⟩
  · rw [r_PT_perform_0]
    apply wp_e
    exact wp_isC c0 (wp_nnR q6 (wp_isC c0 (wp_nnR q5 (wp_isC hSH (wp_rVe t1 (wp_isC c0 (wp_nnR q6 (wp_isC c0 (wp_nnR q5 (wp_isC hSH (wp_rIe u1 (wp_isC c0 (wp_nnR q5 (wp_isC r1 (wp_rVe d1 (wp_s ⟨rfl, rfl⟩))))))))))))))))
  · unfold push
    rw [← ee]
    refine CF_h F (fr3.up (by omega) (by omega)) PP hr5 ?_ ?_ ⟨old', _, _, _, _, hf_fr (fun a h1 h2 => d3 a (by omega)) u2, ?_⟩ (fun c hc => bx_fr F fr3 hr5 c (by omega) hc)
    · rw [if_pos rfl, d3 _ (by omega)]; exact u3
    · intro j hj
      rw [if_pos rfl]; exact d2 j hj
    · intro k hk
      have hk : k < aD S - e + 1 := hk
      by_cases z : k = aD S - e
      · subst z
        dsimp only
        rw [if_pos rfl, if_pos rfl, if_pos rfl, if_pos rfl, if_neg (show ¬ aD S - e = aD S - e + 1 by omega), if_pos rfl, show aD S - e + e = aD S by omega]
        refine ⟨rfl, rfl, fun hn => by rw [hn]; rfl, fun j hj => ?_⟩
        obtain ⟨j1, j2, j3⟩ := hrel j hj
        refine ⟨j1, j2, ?_⟩
        rw [hj]
        funext i
        show (if i = j then B else (aS S (aD S)).1 i) = if i = j then (fun r => (aS S (aD S)).1 j r ^^^ (A r ^^^ B r)) else (aS S (aD S)).1 i
        by_cases e : i = j
        · rw [if_pos e, if_pos e]
          have : A = (aS S (aD S)).1 j := (hA j hj).trans (gAt j j1 j2)
          rw [← this]; exact xx.symm
        · rw [if_neg e, if_neg e]
      · have := h2 (k + e) (by omega)
        dsimp only
        rw [if_neg z, if_neg z, if_neg z, if_neg z, if_neg (show ¬ k = aD S - e + 1 by omega), if_neg (show ¬ k + 1 = aD S - e + 1 by omega), show k + 1 + e = k + e + 1 by omega]
        exact this
end
