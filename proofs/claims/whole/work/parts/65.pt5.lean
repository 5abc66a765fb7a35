/-! The class's methods: rectangles, two relations. -/
section
variable {h : MH} {f : Nat → Nat → Int32} {x pa pb s1 v1 : Nat} {S : Abs}
theorem onR_f {a b c d : Int32} {K : Nat → Nat → Nat → Nat → Int32} (W : WS S) (hz : rcN S a b c d = false) : onR S a b c d K = mI 1 := by
  have hv4 : aV S ≤ 4 := W.2.2.1.1.2.1
  have hn16 : aW S ≤ 16 := lv_p hv4
  unfold rcN at hz
  unfold onR
  cases z0 : inN a (aW S) with
  | none => rfl
  | some i =>
  cases z1 : inN b (aW S) with
  | none => rfl
  | some j =>
  cases z2 : inN c (aW S) with
  | none => rfl
  | some l =>
  cases z3 : inN d (aW S) with
  | none => rfl
  | some r =>
  obtain ⟨e0, i2, i3⟩ := inN_s z0
  obtain ⟨e1, j2, j3⟩ := inN_s z1
  obtain ⟨e2, l2, l3⟩ := inN_s z2
  obtain ⟨e3, r2, r3⟩ := inN_s z3
  subst e0; subst e1; subst e2; subst e3
  rw [z0, z1, z2, z3] at hz
  show (if j < i ∨ r < l then _ else _) = _
  by_cases q : j < i ∨ r < l
  · rw [if_pos q]
  · exfalso
    rw [decide_eq_true (show ¬ nI j < nI i by rw [nI_ltI j3 i3]; omega), decide_eq_true (show ¬ nI r < nI l by rw [nI_ltI r3 l3]; omega)] at hz
    cases hz
theorem onR_t {a b c d : Int32} {K : Nat → Nat → Nat → Nat → Int32} (W : WS S) (hz : rcN S a b c d = true) : ∃ i j l r, a = nI i ∧ b = nI j ∧ c = nI l ∧ d = nI r ∧ i ≤ j ∧ l ≤ r ∧ j < aW S ∧ r < aW S ∧ onR S a b c d K = K i j l r := by
  unfold rcN at hz
  unfold onR
  simp only [Bool.and_eq_true] at hz
  obtain ⟨h0, h1, h2, h3, h4, h5⟩ := hz
  obtain ⟨i, z0⟩ := Option.isSome_iff_exists.mp h0
  obtain ⟨j, z1⟩ := Option.isSome_iff_exists.mp h1
  obtain ⟨l, z2⟩ := Option.isSome_iff_exists.mp h2
  obtain ⟨r, z3⟩ := Option.isSome_iff_exists.mp h3
  obtain ⟨e0, i2, i3⟩ := inN_s z0
  obtain ⟨e1, j2, j3⟩ := inN_s z1
  obtain ⟨e2, l2, l3⟩ := inN_s z2
  obtain ⟨e3, r2, r3⟩ := inN_s z3
  subst e0; subst e1; subst e2; subst e3
  have h4 := of_decide_eq_true h4
  have h5 := of_decide_eq_true h5
  rw [nI_ltI j3 i3] at h4
  rw [nI_ltI r3 l3] at h5
  refine ⟨i, j, l, r, rfl, rfl, rfl, rfl, by omega, by omega, j2, r2, ?_⟩
  rw [z0, z1, z2, z3]
  show (if j < i ∨ r < l then _ else _) = _
  rw [if_neg (by omega)]
theorem c_rect (C : CSH h x pa pb s1 v1) (F : CF f (hL h) x pa S) (W : WS S) (a b c d e : Int32) : ∃ f', ev M_PT_rect 0 0 [some (.ref x), some (.int a), some (.int b), some (.int c), some (.int d), some (.int e)] [] (wI h f) = some (some (.int (sRect S a b c d e)), wI h f') ∧ FX x pa f f' := by
  obtain ⟨⟨c0, q0, q2, q3, q4, q5, q6, q7, q8, q9, q10, q11, q12, q13⟩, PA, PB, RSH, HSH, ⟨bC, bN, bR⟩, ISH, TSH, TSH2, GSH, SSH, ⟨lC, lN1, tC, tN⟩, ⟨rC, rR1, sC, sR1, wC, wN⟩, STR, ⟨sx1, sx2, x0⟩, PP⟩ := id C
  obtain ⟨⟨ft1, ft2⟩, ⟨fl1, fl2⟩, ⟨fe1, fe2⟩, fkw, fpn, ⟨fg1, fg2⟩, fhist, fbx, fsg⟩ := id F
  obtain ⟨⟨ws1, ws2⟩, ⟨ws3, ws4⟩, wpn, ⟨ws5, ws6, ws7⟩, ws8, ⟨ws9, ws10⟩, ⟨ws11, ws12⟩, ws13⟩ := id W
  have p1 := PA.1
  have r1 := RSH.1
  have r2 := RSH.2.1
  have r3 := RSH.2.2.1
  have r4 := RSH.2.2.2.1
  have hv1 : 1 ≤ aV S := wpn.1.1
  have hv4 : aV S ≤ 4 := wpn.1.2.1
  have hr5 : aR S ≤ 5 := wpn.1.2.2.2.1
  have hn16 : aW S ≤ 16 := lv_p hv4
  have fp0 : f pa 0 = nI (aV S) := fpn.1
  have fp1 : f pa 1 = nI (aR S) := fpn.2.1
  have gSH := GSH.1
  have tSH := TSH.1
  have sSH := SSH.1
  have iSH := ISH.1
  have hSH := HSH.1
  rw [r_PT_rect_0]
  cases z0 : inN a (aR S) with
  | none =>
    have es : sRect S a b c d e = mI 1 := by unfold sRect; rw [z0]; rfl
    rw [es]
    refine ⟨f, wp_e (wp_isC c0 (wp_rIe (pt_isRel C F W _) ?_)), FX.rf⟩
    rw [z0]
    exact wp_bt rfl (wp_s ⟨rfl, rfl⟩)
  | some k =>
  obtain ⟨k1, k2, k3⟩ := inN_s z0
  subst k1
  cases z1 : rcN S b c d e with
  | false =>
    have es : sRect S (nI k) b c d e = mI 1 := by unfold sRect; rw [z0]; exact onR_f W z1
    rw [es]
    refine ⟨f, wp_e (wp_isC c0 (wp_rIe (pt_isRel C F W _) ?_)), FX.rf⟩
    rw [z0]
    refine wp_bf n10 (wp_isC c0 (wp_rIe (pt_isRect C F W _ _ _ _) ?_))
    rw [z1]
    exact wp_bt rfl (wp_s ⟨rfl, rfl⟩)
  | true =>
  obtain ⟨i, j, l, r, e1, e2, e3, e4, e5, e6, e7, e8, e9⟩ := onR_t (K := fun i j l r => nI (ci (aG S k) (2 ^ (r + 1) - 2 ^ l) i (j + 1 - i))) W z1
  have es : sRect S (nI k) b c d e = nI (ci (aG S k) (2 ^ (r + 1) - 2 ^ l) i (j + 1 - i)) := by unfold sRect; rw [z0]; exact e9
  rw [es]
  subst e1; subst e2; subst e3; subst e4
  obtain ⟨g1, g2, g3, g4⟩ := pt_rl C F W k2
  have g5 := g2.1
  refine ⟨f, wp_e (wp_isC c0 (wp_rIe (pt_isRel C F W _) ?_)), FX.rf⟩
  rw [z0]
  refine wp_bf n10 (wp_isC c0 (wp_rIe (pt_isRect C F W _ _ _ _) ?_))
  rw [z1]
  refine wp_bf n10 ?_
  repeat (first | refine wp_isC (by assumption) ?_ | refine wp_nnR (by assumption) ?_ | refine wp_inA (by assumption) rfl (by omega) (by omega) ?_ | refine wp_isZ (by first | decide | exact b01z _) ?_ | refine wp_bt (by (first | (simp (disch := omega) only [wI_I, wI_s, nI_add, pk_mul, nI_ltI, nI_leI, nI_eq, nI_clamp, nm_or, nm_and, nm_xor, nm_nd, nm_one, nm_shr, nm_b2, Bool.false_eq_true, Bool.true_eq_false, not_false_eq_true, not_true_eq_false, reduceCtorEq]; done) | (simp (disch := omega) only [wI_I, wI_s, nI_add, pk_mul, nI_ltI, nI_leI, nI_eq, nI_clamp, nm_or, nm_and, nm_xor, nm_nd, nm_one, nm_shr, nm_b2, Bool.false_eq_true, Bool.true_eq_false, not_false_eq_true, not_true_eq_false, reduceCtorEq]; omega) | omega)) ?_ | refine wp_bf (by (first | (simp (disch := omega) only [wI_I, wI_s, nI_add, pk_mul, nI_ltI, nI_leI, nI_eq, nI_clamp, nm_or, nm_and, nm_xor, nm_nd, nm_one, nm_shr, nm_b2, Bool.false_eq_true, Bool.true_eq_false, not_false_eq_true, not_true_eq_false, reduceCtorEq]; done) | (simp (disch := omega) only [wI_I, wI_s, nI_add, pk_mul, nI_ltI, nI_leI, nI_eq, nI_clamp, nm_or, nm_and, nm_xor, nm_nd, nm_one, nm_shr, nm_b2, Bool.false_eq_true, Bool.true_eq_false, not_false_eq_true, not_true_eq_false, reduceCtorEq]; omega) | omega)) ?_ | refine wp_nz (by first | decide | exact nz_n (by omega) (by omega)) ?_ | (simp (disch := omega) only [wI_I, wI_s, nI_add, pk_mul, nI_ltI, nI_leI, nI_eq, nI_clamp, nm_or, nm_and, nm_xor, nm_nd, nm_one, nm_shr, nm_b2, Bool.false_eq_true, Bool.true_eq_false, not_false_eq_true, not_true_eq_false, reduceCtorEq, up2_a, up2_k, up2_s, gw_o]))
  exact wp_rIe (gq_in g2 g3 g4 (by omega) (by omega) (by omega) (by omega)) (wp_s ⟨rfl, rfl⟩)
theorem c_looks (C : CSH h x pa pb s1 v1) (F : CF f (hL h) x pa S) (W : WS S) (a b c d e : Int32) : ∃ f', ev M_PT_looks 0 0 [some (.ref x), some (.int a), some (.int b), some (.int c), some (.int d), some (.int e)] [] (wI h f) = some (some (.int (sLooks S a b c d e)), wI h f') ∧ FX x pa f f' := by
  obtain ⟨⟨c0, q0, q2, q3, q4, q5, q6, q7, q8, q9, q10, q11, q12, q13⟩, PA, PB, RSH, HSH, ⟨bC, bN, bR⟩, ISH, TSH, TSH2, GSH, SSH, ⟨lC, lN1, tC, tN⟩, ⟨rC, rR1, sC, sR1, wC, wN⟩, STR, ⟨sx1, sx2, x0⟩, PP⟩ := id C
  obtain ⟨⟨ft1, ft2⟩, ⟨fl1, fl2⟩, ⟨fe1, fe2⟩, fkw, fpn, ⟨fg1, fg2⟩, fhist, fbx, fsg⟩ := id F
  obtain ⟨⟨ws1, ws2⟩, ⟨ws3, ws4⟩, wpn, ⟨ws5, ws6, ws7⟩, ws8, ⟨ws9, ws10⟩, ⟨ws11, ws12⟩, ws13⟩ := id W
  have p1 := PA.1
  have r1 := RSH.1
  have r2 := RSH.2.1
  have r3 := RSH.2.2.1
  have r4 := RSH.2.2.2.1
  have hv1 : 1 ≤ aV S := wpn.1.1
  have hv4 : aV S ≤ 4 := wpn.1.2.1
  have hr5 : aR S ≤ 5 := wpn.1.2.2.2.1
  have hn16 : aW S ≤ 16 := lv_p hv4
  have fp0 : f pa 0 = nI (aV S) := fpn.1
  have fp1 : f pa 1 = nI (aR S) := fpn.2.1
  have gSH := GSH.1
  have tSH := TSH.1
  have sSH := SSH.1
  have iSH := ISH.1
  have hSH := HSH.1
  rw [r_PT_looks_0]
  cases z0 : inN a (aR S) with
  | none =>
    have es : sLooks S a b c d e = mI 1 := by unfold sLooks; rw [z0]; rfl
    rw [es]
    refine ⟨f, wp_e (wp_isC c0 (wp_rIe (pt_isRel C F W _) ?_)), FX.rf⟩
    rw [z0]
    exact wp_bt rfl (wp_s ⟨rfl, rfl⟩)
  | some k =>
  obtain ⟨k1, k2, k3⟩ := inN_s z0
  subst k1
  cases z1 : rcN S b c d e with
  | false =>
    have es : sLooks S (nI k) b c d e = mI 1 := by unfold sLooks; rw [z0]; exact onR_f W z1
    rw [es]
    refine ⟨f, wp_e (wp_isC c0 (wp_rIe (pt_isRel C F W _) ?_)), FX.rf⟩
    rw [z0]
    refine wp_bf n10 (wp_isC c0 (wp_rIe (pt_isRect C F W _ _ _ _) ?_))
    rw [z1]
    exact wp_bt rfl (wp_s ⟨rfl, rfl⟩)
  | true =>
  obtain ⟨i, j, l, r, e1, e2, e3, e4, e5, e6, e7, e8, e9⟩ := onR_t (K := fun i j l r => nI (sm (fun m => (mt (aV S) i j l r (eb (bQ S k) m)).toNat) (bQ S k).length)) W z1
  have es : sLooks S (nI k) b c d e = nI (sm (fun m => (mt (aV S) i j l r (eb (bQ S k) m)).toNat) (bQ S k).length) := by unfold sLooks; rw [z0]; exact e9
  rw [es]
  subst e1; subst e2; subst e3; subst e4
  obtain ⟨g1, g2, g3, g4⟩ := pt_rl C F W k2
  have g5 := g2.1
  obtain ⟨rr, h', t0, f1, t1, t2, t3, t4⟩ := tr_grow TSH g2 (by omega) g3 g4 hv1 hv4
  subst t1; subst t2
  obtain ⟨rr, h', u0, f2, u1, u2, u3, u4⟩ := tr_bits TSH t3 g4 hv1 hv4
  subst u1; subst u2
  have hQ : (bQ S k).length ≤ 340 := QI_len (bits_I hv1 hv4) hv4
  have hI' := (bits_I (p := fb (aV S) (aG S k)) hv1 hv4).2.1
  refine ⟨f2, wp_e (wp_isC c0 (wp_rIe (pt_isRel C F W _) ?_)), (FX.tree t4).tr (FX.tree (u4.fr.up (by omega) (by omega)))⟩
  rw [z0]
  refine wp_bf n10 (wp_isC c0 (wp_rIe (pt_isRect C F W _ _ _ _) ?_))
  rw [z1]
  refine wp_bf n10 ?_
  repeat (first | refine wp_isC (by assumption) ?_ | refine wp_nnR (by assumption) ?_ | refine wp_inA (by assumption) rfl (by omega) (by omega) ?_ | refine wp_isZ (by first | decide | exact b01z _) ?_ | refine wp_bt (by (first | (simp (disch := omega) only [wI_I, wI_s, nI_add, pk_mul, nI_ltI, nI_leI, nI_eq, nI_clamp, nm_or, nm_and, nm_xor, nm_nd, nm_one, nm_shr, nm_b2, Bool.false_eq_true, Bool.true_eq_false, not_false_eq_true, not_true_eq_false, reduceCtorEq, fp0]; done) | (simp (disch := omega) only [wI_I, wI_s, nI_add, pk_mul, nI_ltI, nI_leI, nI_eq, nI_clamp, nm_or, nm_and, nm_xor, nm_nd, nm_one, nm_shr, nm_b2, Bool.false_eq_true, Bool.true_eq_false, not_false_eq_true, not_true_eq_false, reduceCtorEq, fp0]; omega) | omega)) ?_ | refine wp_bf (by (first | (simp (disch := omega) only [wI_I, wI_s, nI_add, pk_mul, nI_ltI, nI_leI, nI_eq, nI_clamp, nm_or, nm_and, nm_xor, nm_nd, nm_one, nm_shr, nm_b2, Bool.false_eq_true, Bool.true_eq_false, not_false_eq_true, not_true_eq_false, reduceCtorEq, fp0]; done) | (simp (disch := omega) only [wI_I, wI_s, nI_add, pk_mul, nI_ltI, nI_leI, nI_eq, nI_clamp, nm_or, nm_and, nm_xor, nm_nd, nm_one, nm_shr, nm_b2, Bool.false_eq_true, Bool.true_eq_false, not_false_eq_true, not_true_eq_false, reduceCtorEq, fp0]; omega) | omega)) ?_ | refine wp_nz (by first | decide | exact nz_n (by omega) (by omega)) ?_ | (simp (disch := omega) only [wI_I, wI_s, nI_add, pk_mul, nI_ltI, nI_leI, nI_eq, nI_clamp, nm_or, nm_and, nm_xor, nm_nd, nm_one, nm_shr, nm_b2, Bool.false_eq_true, Bool.true_eq_false, not_false_eq_true, not_true_eq_false, reduceCtorEq, up2_a, up2_k, up2_s, gw_o, fp0]))
  refine wp_rVe t0 (wp_isC c0 (wp_nnR q9 (wp_isC tSH (wp_rVe u0 (wp_isC c0 (wp_nnR q9 (wp_isC tSH ?_)))))))
  exact wp_rIe (tr_in TSH (u4.F t3).1 hv4 u3 hQ hI' (by omega) (by omega) (by omega) (by omega)) (wp_s ⟨rfl, rfl⟩)
theorem pt_both (C : CSH h x pa pb s1 v1) (F : CF f (hL h) x pa S) (W : WS S) (a b : Int32) : ∃ f', ev M_PT_growBoth 0 0 [some (.ref x), some (.int a), some (.int b)] [] (wI h f) = some (some (.int (nI ((inN a (aR S)).isSome && (inN b (aR S)).isSome).toNat)), wI h f') ∧ FX x pa f f' ∧ ∀ k j, inN a (aR S) = some k → inN b (aR S) = some j → TF f' (x + 184) (aV S) (aG S k) ∧ TF f' (x + 199) (aV S) (aG S j) := by
  obtain ⟨⟨c0, q0, q2, q3, q4, q5, q6, q7, q8, q9, q10, q11, q12, q13⟩, PA, PB, RSH, HSH, ⟨bC, bN, bR⟩, ISH, TSH, TSH2, GSH, SSH, ⟨lC, lN1, tC, tN⟩, ⟨rC, rR1, sC, sR1, wC, wN⟩, STR, ⟨sx1, sx2, x0⟩, PP⟩ := id C
  obtain ⟨⟨ft1, ft2⟩, ⟨fl1, fl2⟩, ⟨fe1, fe2⟩, fkw, fpn, ⟨fg1, fg2⟩, fhist, fbx, fsg⟩ := id F
  obtain ⟨⟨ws1, ws2⟩, ⟨ws3, ws4⟩, wpn, ⟨ws5, ws6, ws7⟩, ws8, ⟨ws9, ws10⟩, ⟨ws11, ws12⟩, ws13⟩ := id W
  have p1 := PA.1
  have r1 := RSH.1
  have r2 := RSH.2.1
  have r3 := RSH.2.2.1
  have r4 := RSH.2.2.2.1
  have hv1 : 1 ≤ aV S := wpn.1.1
  have hv4 : aV S ≤ 4 := wpn.1.2.1
  have hr5 : aR S ≤ 5 := wpn.1.2.2.2.1
  have hn16 : aW S ≤ 16 := lv_p hv4
  have fp0 : f pa 0 = nI (aV S) := fpn.1
  have fp1 : f pa 1 = nI (aR S) := fpn.2.1
  have gSH := GSH.1
  have tSH := TSH.1
  have sSH := SSH.1
  have iSH := ISH.1
  have hSH := HSH.1
  rw [r_PT_growBoth_0]
  cases z0 : inN a (aR S) with
  | none =>
    refine ⟨f, wp_e (wp_isC c0 (wp_rIe (pt_areRel C F W _ _) ?_)), FX.rf, fun k j hk => by cases hk⟩
    rw [z0]
    exact wp_bt rfl (wp_isZ (by decide) (wp_s ⟨rfl, rfl⟩))
  | some k =>
  cases z1 : inN b (aR S) with
  | none =>
    refine ⟨f, wp_e (wp_isC c0 (wp_rIe (pt_areRel C F W _ _) ?_)), FX.rf, fun k j _ hk => by cases hk⟩
    rw [z0, z1]
    exact wp_bt rfl (wp_isZ (by decide) (wp_s ⟨rfl, rfl⟩))
  | some j =>
  obtain ⟨k1, k2, k3⟩ := inN_s z0
  obtain ⟨j1, j2, j3⟩ := inN_s z1
  subst k1; subst j1
  obtain ⟨g1, g2, g3, g4⟩ := pt_rl C F W k2
  obtain ⟨m1, m2, m3, m4⟩ := pt_rl C F W j2
  have tSH2 := TSH2.1
  obtain ⟨rr, h', t0, f1, t1, t2, t3, t4⟩ := tr_grow TSH g2 (by omega) g3 g4 hv1 hv4
  subst t1; subst t2
  obtain ⟨rr, h', u0, f2, u1, u2, u3, u4⟩ := tr_grow TSH2 m2 (by omega) (t4.F (by omega) m3) m4 hv1 hv4
  subst u1; subst u2
  have fp1' : f1 pa 0 = nI (aV S) := by rw [t4 pa (by have := PPa C; omega)]; exact fp0
  refine ⟨f2, wp_e (wp_isC c0 (wp_rIe (pt_areRel C F W _ _) ?_)), (FX.tree t4).tr (FX.tree2 u4), fun k' j' hk hj => ?_⟩
  · rw [z0, z1]
    refine wp_bf n10 ?_
    repeat (first | refine wp_isC (by assumption) ?_ | refine wp_nnR (by assumption) ?_ | refine wp_inA (by assumption) rfl (by omega) (by omega) ?_ | refine wp_isZ (by first | decide | exact b01z _) ?_ | refine wp_bt (by (first | (simp (disch := omega) only [wI_I, wI_s, nI_add, pk_mul, nI_ltI, nI_leI, nI_eq, nI_clamp, nm_or, nm_and, nm_xor, nm_nd, nm_one, nm_shr, nm_b2, Bool.false_eq_true, Bool.true_eq_false, not_false_eq_true, not_true_eq_false, reduceCtorEq, fp0]; done) | (simp (disch := omega) only [wI_I, wI_s, nI_add, pk_mul, nI_ltI, nI_leI, nI_eq, nI_clamp, nm_or, nm_and, nm_xor, nm_nd, nm_one, nm_shr, nm_b2, Bool.false_eq_true, Bool.true_eq_false, not_false_eq_true, not_true_eq_false, reduceCtorEq, fp0]; omega) | omega)) ?_ | refine wp_bf (by (first | (simp (disch := omega) only [wI_I, wI_s, nI_add, pk_mul, nI_ltI, nI_leI, nI_eq, nI_clamp, nm_or, nm_and, nm_xor, nm_nd, nm_one, nm_shr, nm_b2, Bool.false_eq_true, Bool.true_eq_false, not_false_eq_true, not_true_eq_false, reduceCtorEq, fp0]; done) | (simp (disch := omega) only [wI_I, wI_s, nI_add, pk_mul, nI_ltI, nI_leI, nI_eq, nI_clamp, nm_or, nm_and, nm_xor, nm_nd, nm_one, nm_shr, nm_b2, Bool.false_eq_true, Bool.true_eq_false, not_false_eq_true, not_true_eq_false, reduceCtorEq, fp0]; omega) | omega)) ?_ | refine wp_nz (by first | decide | exact nz_n (by omega) (by omega)) ?_ | (simp (disch := omega) only [wI_I, wI_s, nI_add, pk_mul, nI_ltI, nI_leI, nI_eq, nI_clamp, nm_or, nm_and, nm_xor, nm_nd, nm_one, nm_shr, nm_b2, Bool.false_eq_true, Bool.true_eq_false, not_false_eq_true, not_true_eq_false, reduceCtorEq, up2_a, up2_k, up2_s, gw_o, fp0]))
    refine wp_rVe t0 ?_
    repeat (first | refine wp_isC (by assumption) ?_ | refine wp_nnR (by assumption) ?_ | refine wp_inA (by assumption) rfl (by omega) (by omega) ?_ | refine wp_isZ (by first | decide | exact b01z _) ?_ | refine wp_bt (by (first | (simp (disch := omega) only [wI_I, wI_s, nI_add, pk_mul, nI_ltI, nI_leI, nI_eq, nI_clamp, nm_or, nm_and, nm_xor, nm_nd, nm_one, nm_shr, nm_b2, Bool.false_eq_true, Bool.true_eq_false, not_false_eq_true, not_true_eq_false, reduceCtorEq, fp1']; done) | (simp (disch := omega) only [wI_I, wI_s, nI_add, pk_mul, nI_ltI, nI_leI, nI_eq, nI_clamp, nm_or, nm_and, nm_xor, nm_nd, nm_one, nm_shr, nm_b2, Bool.false_eq_true, Bool.true_eq_false, not_false_eq_true, not_true_eq_false, reduceCtorEq, fp1']; omega) | omega)) ?_ | refine wp_bf (by (first | (simp (disch := omega) only [wI_I, wI_s, nI_add, pk_mul, nI_ltI, nI_leI, nI_eq, nI_clamp, nm_or, nm_and, nm_xor, nm_nd, nm_one, nm_shr, nm_b2, Bool.false_eq_true, Bool.true_eq_false, not_false_eq_true, not_true_eq_false, reduceCtorEq, fp1']; done) | (simp (disch := omega) only [wI_I, wI_s, nI_add, pk_mul, nI_ltI, nI_leI, nI_eq, nI_clamp, nm_or, nm_and, nm_xor, nm_nd, nm_one, nm_shr, nm_b2, Bool.false_eq_true, Bool.true_eq_false, not_false_eq_true, not_true_eq_false, reduceCtorEq, fp1']; omega) | omega)) ?_ | refine wp_nz (by first | decide | exact nz_n (by omega) (by omega)) ?_ | (simp (disch := omega) only [wI_I, wI_s, nI_add, pk_mul, nI_ltI, nI_leI, nI_eq, nI_clamp, nm_or, nm_and, nm_xor, nm_nd, nm_one, nm_shr, nm_b2, Bool.false_eq_true, Bool.true_eq_false, not_false_eq_true, not_true_eq_false, reduceCtorEq, up2_a, up2_k, up2_s, gw_o, fp1']))
    refine wp_rVe u0 ?_
    exact wp_isZ (by decide) (wp_s ⟨rfl, rfl⟩)
  · cases hk; cases hj
    exact ⟨⟨by rw [u4 _ (by omega)]; exact t3.1, fun l hl => u4.F (by omega) (t3.2 l hl)⟩, u3⟩
theorem c_walks (C : CSH h x pa pb s1 v1) (F : CF f (hL h) x pa S) (W : WS S) (a b : Int32) : ∃ f', ev M_PT_walks 0 0 [some (.ref x), some (.int a), some (.int b)] [] (wI h f) = some (some (.int (sWalks S a b)), wI h f') ∧ FX x pa f f' := by
  obtain ⟨⟨c0, q0, q2, q3, q4, q5, q6, q7, q8, q9, q10, q11, q12, q13⟩, PA, PB, RSH, HSH, ⟨bC, bN, bR⟩, ISH, TSH, TSH2, GSH, SSH, ⟨lC, lN1, tC, tN⟩, ⟨rC, rR1, sC, sR1, wC, wN⟩, STR, ⟨sx1, sx2, x0⟩, PP⟩ := id C
  obtain ⟨⟨ft1, ft2⟩, ⟨fl1, fl2⟩, ⟨fe1, fe2⟩, fkw, fpn, ⟨fg1, fg2⟩, fhist, fbx, fsg⟩ := id F
  obtain ⟨⟨ws1, ws2⟩, ⟨ws3, ws4⟩, wpn, ⟨ws5, ws6, ws7⟩, ws8, ⟨ws9, ws10⟩, ⟨ws11, ws12⟩, ws13⟩ := id W
  have p1 := PA.1
  have r1 := RSH.1
  have r2 := RSH.2.1
  have r3 := RSH.2.2.1
  have r4 := RSH.2.2.2.1
  have hv1 : 1 ≤ aV S := wpn.1.1
  have hv4 : aV S ≤ 4 := wpn.1.2.1
  have hr5 : aR S ≤ 5 := wpn.1.2.2.2.1
  have hn16 : aW S ≤ 16 := lv_p hv4
  have fp0 : f pa 0 = nI (aV S) := fpn.1
  have fp1 : f pa 1 = nI (aR S) := fpn.2.1
  have gSH := GSH.1
  have tSH := TSH.1
  have sSH := SSH.1
  have iSH := ISH.1
  have hSH := HSH.1
  obtain ⟨f', b1, b2, b3⟩ := pt_both C F W a b
  refine ⟨f', ?_, b2⟩
  rw [r_PT_walks_0]
  apply wp_e
  refine wp_isC c0 (wp_rIe b1 ?_)
  cases z0 : inN a (aR S) with
  | none =>
    have es : sWalks S a b = mI 1 := by unfold sWalks on2; rw [z0]; rfl
    rw [es]
    exact wp_bt rfl (wp_s ⟨rfl, rfl⟩)
  | some k =>
  cases z1 : inN b (aR S) with
  | none =>
    have es : sWalks S a b = mI 1 := by unfold sWalks on2; rw [z0]; show on (inN b (aR S)) _ = _; rw [z1]; rfl
    rw [es]
    exact wp_bt rfl (wp_s ⟨rfl, rfl⟩)
  | some j =>
  have es : sWalks S a b = nI (1 + sm (wk (aV S) (aG S k) (aG S j)) (aV S)) := by unfold sWalks on2; rw [z0]; show on (inN b (aR S)) _ = _; rw [z1]; rfl
  rw [es]
  obtain ⟨d1, d2⟩ := b3 k j z0 z1
  obtain ⟨g1, g2, g3, g4⟩ := pt_rl C F W (inN_s z0).2.1
  obtain ⟨m1, m2, m3, m4⟩ := pt_rl C F W (inN_s z1).2.1
  exact wp_bf n10 (wp_isC c0 (wp_nnR q9 (wp_isC c0 (wp_nnR q10 (wp_isC tSH (wp_rIe (tr_walk TSH TSH2 d1 d2 g4 m4 hv4) (wp_s ⟨rfl, rfl⟩)))))))
theorem c_products (C : CSH h x pa pb s1 v1) (F : CF f (hL h) x pa S) (W : WS S) (a b : Int32) : ∃ f', ev M_PT_products 0 0 [some (.ref x), some (.int a), some (.int b)] [] (wI h f) = some (some (.int (sProds S a b)), wI h f') ∧ FX x pa f f' := by
  obtain ⟨⟨c0, q0, q2, q3, q4, q5, q6, q7, q8, q9, q10, q11, q12, q13⟩, PA, PB, RSH, HSH, ⟨bC, bN, bR⟩, ISH, TSH, TSH2, GSH, SSH, ⟨lC, lN1, tC, tN⟩, ⟨rC, rR1, sC, sR1, wC, wN⟩, STR, ⟨sx1, sx2, x0⟩, PP⟩ := id C
  obtain ⟨⟨ft1, ft2⟩, ⟨fl1, fl2⟩, ⟨fe1, fe2⟩, fkw, fpn, ⟨fg1, fg2⟩, fhist, fbx, fsg⟩ := id F
  obtain ⟨⟨ws1, ws2⟩, ⟨ws3, ws4⟩, wpn, ⟨ws5, ws6, ws7⟩, ws8, ⟨ws9, ws10⟩, ⟨ws11, ws12⟩, ws13⟩ := id W
  have p1 := PA.1
  have r1 := RSH.1
  have r2 := RSH.2.1
  have r3 := RSH.2.2.1
  have r4 := RSH.2.2.2.1
  have hv1 : 1 ≤ aV S := wpn.1.1
  have hv4 : aV S ≤ 4 := wpn.1.2.1
  have hr5 : aR S ≤ 5 := wpn.1.2.2.2.1
  have hn16 : aW S ≤ 16 := lv_p hv4
  have fp0 : f pa 0 = nI (aV S) := fpn.1
  have fp1 : f pa 1 = nI (aR S) := fpn.2.1
  have gSH := GSH.1
  have tSH := TSH.1
  have sSH := SSH.1
  have iSH := ISH.1
  have hSH := HSH.1
  obtain ⟨f', b1, b2, b3⟩ := pt_both C F W a b
  refine ⟨f', ?_, b2⟩
  rw [r_PT_products_0]
  apply wp_e
  refine wp_isC c0 (wp_rIe b1 ?_)
  cases z0 : inN a (aR S) with
  | none =>
    have es : sProds S a b = mI 1 := by unfold sProds on2; rw [z0]; rfl
    rw [es]
    exact wp_bt rfl (wp_s ⟨rfl, rfl⟩)
  | some k =>
  cases z1 : inN b (aR S) with
  | none =>
    have es : sProds S a b = mI 1 := by unfold sProds on2; rw [z0]; show on (inN b (aR S)) _ = _; rw [z1]; rfl
    rw [es]
    exact wp_bt rfl (wp_s ⟨rfl, rfl⟩)
  | some j =>
  have es : sProds S a b = nI (sm (pd (aV S) (aG S k) (aG S j)) (aV S + 1)) := by unfold sProds on2; rw [z0]; show on (inN b (aR S)) _ = _; rw [z1]; rfl
  rw [es]
  obtain ⟨d1, d2⟩ := b3 k j z0 z1
  obtain ⟨g1, g2, g3, g4⟩ := pt_rl C F W (inN_s z0).2.1
  obtain ⟨m1, m2, m3, m4⟩ := pt_rl C F W (inN_s z1).2.1
  exact wp_bf n10 (wp_isC c0 (wp_nnR q9 (wp_isC c0 (wp_nnR q10 (wp_isC tSH (wp_rIe (tr_mult TSH TSH2 d1 d2 g4 m4 hv4) (wp_s ⟨rfl, rfl⟩)))))))
/-- made of two -/
theorem pt_two (C : CSH h x pa pb s1 v1) (F : CF f (hL h) x pa S) (W : WS S) (w a b : Int32) : ∃ f', ev M_PT_makeOfTwo 0 0 [some (.ref x), some (.int w), some (.int a), some (.int b)] [] (wI h f) = some (some (.int (nI ((inN w 5).isSome && ((inN a (aR S)).isSome && (inN b (aR S)).isSome)).toNat)), wI h f') ∧ FX x pa f f' ∧ FM x pa f f' ∧ ∀ m k j, inN w 5 = some m → inN a (aR S) = some k → inN b (aR S) = some j → GF f' (x + 214) (aW S) (jnG m (aW S) (aG S k) (aG S j)) := by
  obtain ⟨⟨c0, q0, q2, q3, q4, q5, q6, q7, q8, q9, q10, q11, q12, q13⟩, PA, PB, RSH, HSH, ⟨bC, bN, bR⟩, ISH, TSH, TSH2, GSH, SSH, ⟨lC, lN1, tC, tN⟩, ⟨rC, rR1, sC, sR1, wC, wN⟩, STR, ⟨sx1, sx2, x0⟩, PP⟩ := id C
  obtain ⟨⟨ft1, ft2⟩, ⟨fl1, fl2⟩, ⟨fe1, fe2⟩, fkw, fpn, ⟨fg1, fg2⟩, fhist, fbx, fsg⟩ := id F
  obtain ⟨⟨ws1, ws2⟩, ⟨ws3, ws4⟩, wpn, ⟨ws5, ws6, ws7⟩, ws8, ⟨ws9, ws10⟩, ⟨ws11, ws12⟩, ws13⟩ := id W
  have p1 := PA.1
  have r1 := RSH.1
  have r2 := RSH.2.1
  have r3 := RSH.2.2.1
  have r4 := RSH.2.2.2.1
  have hv1 : 1 ≤ aV S := wpn.1.1
  have hv4 : aV S ≤ 4 := wpn.1.2.1
  have hr5 : aR S ≤ 5 := wpn.1.2.2.2.1
  have hn16 : aW S ≤ 16 := lv_p hv4
  have fp0 : f pa 0 = nI (aV S) := fpn.1
  have fp1 : f pa 1 = nI (aR S) := fpn.2.1
  have gSH := GSH.1
  have tSH := TSH.1
  have sSH := SSH.1
  have iSH := ISH.1
  have hSH := HSH.1
  rw [r_PT_makeOfTwo_0]
  cases y : inN w 5 with
  | none =>
    exact ⟨f, wp_e (wp_rn (m := 4) y (by decide) (wp_isZ (by decide) (wp_s ⟨rfl, rfl⟩))), FX.rf, FM.rf, fun m k j hk => by cases hk⟩
  | some m =>
  obtain ⟨y1, y2, y3⟩ := inN_s y
  subst y1
  cases z0 : inN a (aR S) with
  | none =>
    refine ⟨f, wp_e (wp_bf (nI_pos y3) (wp_bf (by rw [nI_ltI (by decide) y3]; omega) (wp_isC c0 (wp_rIe (pt_areRel C F W _ _) ?_)))), FX.rf, FM.rf, fun m k j _ hk => by cases hk⟩
    rw [z0]
    exact wp_bt rfl (wp_isZ (by decide) (wp_s ⟨rfl, rfl⟩))
  | some k =>
  cases z1 : inN b (aR S) with
  | none =>
    refine ⟨f, wp_e (wp_bf (nI_pos y3) (wp_bf (by rw [nI_ltI (by decide) y3]; omega) (wp_isC c0 (wp_rIe (pt_areRel C F W _ _) ?_)))), FX.rf, FM.rf, fun m k j _ _ hk => by cases hk⟩
    rw [z0, z1]
    exact wp_bt rfl (wp_isZ (by decide) (wp_s ⟨rfl, rfl⟩))
  | some j =>
  obtain ⟨k1, k2, k3⟩ := inN_s z0
  obtain ⟨j1, j2, j3⟩ := inN_s z1
  subst k1; subst j1
  obtain ⟨g1, g2, g3, g4⟩ := pt_rl C F W k2
  obtain ⟨m1, m2, m3, m4⟩ := pt_rl C F W j2
  refine ⟨gw f (x + 214) (aW S) (jnG m (aW S) (aG S k) (aG S j)), wp_e (wp_bf (nI_pos y3) (wp_bf (by rw [nI_ltI (by decide) y3]; omega) (wp_isC c0 (wp_rIe (pt_areRel C F W _ _) ?_)))), FX.made, FM.gw, fun m' k' j' hm hk hj => ?_⟩
  · rw [z0, z1]
    refine wp_bf n10 ?_
    repeat (first | refine wp_isC (by assumption) ?_ | refine wp_nnR (by assumption) ?_ | refine wp_inA (by assumption) rfl (by omega) (by omega) ?_ | refine wp_isZ (by first | decide | exact b01z _) ?_ | refine wp_bt (by (first | (simp (disch := omega) only [wI_I, wI_s, nI_add, pk_mul, nI_ltI, nI_leI, nI_eq, nI_clamp, nm_or, nm_and, nm_xor, nm_nd, nm_one, nm_shr, nm_b2, Bool.false_eq_true, Bool.true_eq_false, not_false_eq_true, not_true_eq_false, reduceCtorEq]; done) | (simp (disch := omega) only [wI_I, wI_s, nI_add, pk_mul, nI_ltI, nI_leI, nI_eq, nI_clamp, nm_or, nm_and, nm_xor, nm_nd, nm_one, nm_shr, nm_b2, Bool.false_eq_true, Bool.true_eq_false, not_false_eq_true, not_true_eq_false, reduceCtorEq]; omega) | omega)) ?_ | refine wp_bf (by (first | (simp (disch := omega) only [wI_I, wI_s, nI_add, pk_mul, nI_ltI, nI_leI, nI_eq, nI_clamp, nm_or, nm_and, nm_xor, nm_nd, nm_one, nm_shr, nm_b2, Bool.false_eq_true, Bool.true_eq_false, not_false_eq_true, not_true_eq_false, reduceCtorEq]; done) | (simp (disch := omega) only [wI_I, wI_s, nI_add, pk_mul, nI_ltI, nI_leI, nI_eq, nI_clamp, nm_or, nm_and, nm_xor, nm_nd, nm_one, nm_shr, nm_b2, Bool.false_eq_true, Bool.true_eq_false, not_false_eq_true, not_true_eq_false, reduceCtorEq]; omega) | omega)) ?_ | refine wp_nz (by first | decide | exact nz_n (by omega) (by omega)) ?_ | (simp (disch := omega) only [wI_I, wI_s, nI_add, pk_mul, nI_ltI, nI_leI, nI_eq, nI_clamp, nm_or, nm_and, nm_xor, nm_nd, nm_one, nm_shr, nm_b2, Bool.false_eq_true, Bool.true_eq_false, not_false_eq_true, not_true_eq_false, reduceCtorEq, up2_a, up2_k, up2_s, gw_o]))
    refine wp_rVe (gq_join GSH g2 m2 (by omega) (by omega) g3 m3 g4 m4 (by omega)) ?_
    exact wp_isZ (by decide) (wp_s ⟨rfl, rfl⟩)
  · cases hm; cases hk; cases hj
    exact gw_f
theorem c_would (C : CSH h x pa pb s1 v1) (F : CF f (hL h) x pa S) (W : WS S) (w a b t : Int32) : ∃ f', ev M_PT_would 0 0 [some (.ref x), some (.int w), some (.int a), some (.int b), some (.int t)] [] (wI h f) = some (some (.int (sWould S w a b t)), wI h f') ∧ FX x pa f f' := by
  obtain ⟨⟨c0, q0, q2, q3, q4, q5, q6, q7, q8, q9, q10, q11, q12, q13⟩, PA, PB, RSH, HSH, ⟨bC, bN, bR⟩, ISH, TSH, TSH2, GSH, SSH, ⟨lC, lN1, tC, tN⟩, ⟨rC, rR1, sC, sR1, wC, wN⟩, STR, ⟨sx1, sx2, x0⟩, PP⟩ := id C
  obtain ⟨⟨ft1, ft2⟩, ⟨fl1, fl2⟩, ⟨fe1, fe2⟩, fkw, fpn, ⟨fg1, fg2⟩, fhist, fbx, fsg⟩ := id F
  obtain ⟨⟨ws1, ws2⟩, ⟨ws3, ws4⟩, wpn, ⟨ws5, ws6, ws7⟩, ws8, ⟨ws9, ws10⟩, ⟨ws11, ws12⟩, ws13⟩ := id W
  have p1 := PA.1
  have r1 := RSH.1
  have r2 := RSH.2.1
  have r3 := RSH.2.2.1
  have r4 := RSH.2.2.2.1
  have hv1 : 1 ≤ aV S := wpn.1.1
  have hv4 : aV S ≤ 4 := wpn.1.2.1
  have hr5 : aR S ≤ 5 := wpn.1.2.2.2.1
  have hn16 : aW S ≤ 16 := lv_p hv4
  have fp0 : f pa 0 = nI (aV S) := fpn.1
  have fp1 : f pa 1 = nI (aR S) := fpn.2.1
  have gSH := GSH.1
  have tSH := TSH.1
  have sSH := SSH.1
  have iSH := ISH.1
  have hSH := HSH.1
  obtain ⟨f', b1, b2, b2', b3⟩ := pt_two C F W w a b
  have hpa := PPa C
  rw [r_PT_would_0]
  cases y : inN w 5 with
  | none =>
    have es : sWould S w a b t = mI 1 := by unfold sWould; rw [y]; rfl
    rw [y] at b1
    rw [es]
    exact ⟨f', wp_e (wp_isC c0 (wp_rIe b1 (wp_bt rfl (wp_s ⟨rfl, rfl⟩)))), b2⟩
  | some m =>
  cases z0 : inN a (aR S) with
  | none =>
    have es : sWould S w a b t = mI 1 := by unfold sWould on2; rw [y]; show on (inN a (aR S)) _ = _; rw [z0]; rfl
    rw [y, z0] at b1
    rw [es]
    exact ⟨f', wp_e (wp_isC c0 (wp_rIe b1 (wp_bt rfl (wp_s ⟨rfl, rfl⟩)))), b2⟩
  | some k =>
  cases z1 : inN b (aR S) with
  | none =>
    have es : sWould S w a b t = mI 1 := by unfold sWould on2; rw [y]; show on (inN a (aR S)) _ = _; rw [z0]; show on (inN b (aR S)) _ = _; rw [z1]; rfl
    rw [y, z0, z1] at b1
    rw [es]
    exact ⟨f', wp_e (wp_isC c0 (wp_rIe b1 (wp_bt rfl (wp_s ⟨rfl, rfl⟩)))), b2⟩
  | some j =>
  have es : sWould S w a b t = if t = nI 0 then nI (ct (aW S) (jnG m (aW S) (aG S k) (aG S j))) else if t = nI 1 then nI (nb (aV S) (jnG m (aW S) (aG S k) (aG S j))) else mI 1 := by unfold sWould on2; rw [y]; show on (inN a (aR S)) _ = _; rw [z0]; show on (inN b (aR S)) _ = _; rw [z1]; rfl
  have gm := b3 m k j y z0 z1
  rw [y, z0, z1] at b1
  rw [es]
  obtain ⟨g1, g2, g3, g4⟩ := pt_rl C F W (inN_s z0).2.1
  obtain ⟨m1, m2, m3, m4⟩ := pt_rl C F W (inN_s z1).2.1
  have gv : GW (aW S) (jnG m (aW S) (aG S k) (aG S j)) := GW.jnG g4 m4
  by_cases t0 : t = nI 0
  · rw [if_pos t0]
    exact ⟨f', wp_e (wp_isC c0 (wp_rIe b1 (wp_bf n10 (wp_bt t0 (wp_isC c0 (wp_nnR q11 (wp_isC gSH (wp_rIe (gq_count GSH gm gv) (wp_s ⟨rfl, rfl⟩))))))))), b2⟩
  rw [if_neg t0]
  by_cases t1 : t = nI 1
  · rw [if_pos t1]
    obtain ⟨f2, d1, d2⟩ := pt_bitsOf C (b2.F PP hr5 F) W GSH (by omega) gm gv
    exact ⟨f2, wp_e (wp_isC c0 (wp_rIe b1 (wp_bf n10 (wp_bf t0 (wp_bt t1 (wp_isC c0 (wp_nnR q11 (wp_isC c0 (wp_rIe d1 (wp_s ⟨rfl, rfl⟩)))))))))), b2.tr (FX.tree d2)⟩
  rw [if_neg t1]
  exact ⟨f', wp_e (wp_isC c0 (wp_rIe b1 (wp_bf n10 (wp_bf t0 (wp_bf t1 (wp_s ⟨rfl, rfl⟩)))))), b2⟩
theorem c_pair (C : CSH h x pa pb s1 v1) (F : CF f (hL h) x pa S) (W : WS S) (a i w : Int32) : ∃ f', ev M_PT_pair 0 0 [some (.ref x), some (.int a), some (.int i), some (.int w), none] [] (wI h f) = some (some (.int (sPair S a i w)), wI h f') ∧ FX x pa f f' := by
  obtain ⟨⟨c0, q0, q2, q3, q4, q5, q6, q7, q8, q9, q10, q11, q12, q13⟩, PA, PB, RSH, HSH, ⟨bC, bN, bR⟩, ISH, TSH, TSH2, GSH, SSH, ⟨lC, lN1, tC, tN⟩, ⟨rC, rR1, sC, sR1, wC, wN⟩, STR, ⟨sx1, sx2, x0⟩, PP⟩ := id C
  obtain ⟨⟨ft1, ft2⟩, ⟨fl1, fl2⟩, ⟨fe1, fe2⟩, fkw, fpn, ⟨fg1, fg2⟩, fhist, fbx, fsg⟩ := id F
  obtain ⟨⟨ws1, ws2⟩, ⟨ws3, ws4⟩, wpn, ⟨ws5, ws6, ws7⟩, ws8, ⟨ws9, ws10⟩, ⟨ws11, ws12⟩, ws13⟩ := id W
  have p1 := PA.1
  have r1 := RSH.1
  have r2 := RSH.2.1
  have r3 := RSH.2.2.1
  have r4 := RSH.2.2.2.1
  have hv1 : 1 ≤ aV S := wpn.1.1
  have hv4 : aV S ≤ 4 := wpn.1.2.1
  have hr5 : aR S ≤ 5 := wpn.1.2.2.2.1
  have hn16 : aW S ≤ 16 := lv_p hv4
  have fp0 : f pa 0 = nI (aV S) := fpn.1
  have fp1 : f pa 1 = nI (aR S) := fpn.2.1
  have gSH := GSH.1
  have tSH := TSH.1
  have sSH := SSH.1
  have iSH := ISH.1
  have hSH := HSH.1
  refine ⟨f, wp_e ?_, FX.rf⟩
  rw [r_PT_pair_0]
  refine wp_isC c0 (wp_rIe (pt_isRel C F W _) ?_)
  cases z0 : inN a (aR S) with
  | none =>
    have es : sPair S a i w = mI 1 := by unfold sPair; rw [z0]; rfl
    rw [es]
    exact wp_bt rfl (wp_s ⟨rfl, rfl⟩)
  | some k =>
  refine wp_bf n10 ?_
  obtain ⟨k1, k2, k3⟩ := inN_s z0
  subst k1
  by_cases q : i < nI 0
  · have es : sPair S (nI k) i w = mI 1 := by unfold sPair; rw [z0]; show (if i < nI 0 then _ else _) = _; rw [if_pos q]
    rw [es]
    exact wp_bt q (wp_s ⟨rfl, rfl⟩)
  refine wp_bf q ?_
  cases z1 : inN w 2 with
  | none =>
    have es : sPair S (nI k) i w = mI 1 := by unfold sPair; rw [z0]; show (if i < nI 0 then _ else on (inN w 2) _) = _; rw [if_neg q, z1]; rfl
    rw [es]
    exact wp_rn (m := 1) z1 (by decide) (wp_s ⟨rfl, rfl⟩)
  | some t =>
  obtain ⟨t1, t2, t3⟩ := inN_s z1
  subst t1
  obtain ⟨j, hj, e⟩ := nI_of q
  subst e
  have es : sPair S (nI k) (nI j) (nI t) = pairA t (ntp (aG S k) j) := by
    unfold sPair; rw [z0]; dsimp only [on]; rw [if_neg q, z1, nI_clamp hj]
  rw [es]
  obtain ⟨g1, g2, g3, g4⟩ := pt_rl C F W k2
  have g5 := g2.1
  refine wp_bf (nI_pos t3) (wp_bf (by rw [nI_ltI (by decide) t3]; omega) ?_)
  repeat (first | refine wp_isC (by assumption) ?_ | refine wp_nnR (by assumption) ?_ | refine wp_inA (by assumption) rfl (by omega) (by omega) ?_ | refine wp_isZ (by first | decide | exact b01z _) ?_ | refine wp_bt (by (first | (simp (disch := omega) only [wI_I, wI_s, nI_add, pk_mul, nI_ltI, nI_leI, nI_eq, nI_clamp, nm_or, nm_and, nm_xor, nm_nd, nm_one, nm_shr, nm_b2, Bool.false_eq_true, Bool.true_eq_false, not_false_eq_true, not_true_eq_false, reduceCtorEq]; done) | (simp (disch := omega) only [wI_I, wI_s, nI_add, pk_mul, nI_ltI, nI_leI, nI_eq, nI_clamp, nm_or, nm_and, nm_xor, nm_nd, nm_one, nm_shr, nm_b2, Bool.false_eq_true, Bool.true_eq_false, not_false_eq_true, not_true_eq_false, reduceCtorEq]; omega) | omega)) ?_ | refine wp_bf (by (first | (simp (disch := omega) only [wI_I, wI_s, nI_add, pk_mul, nI_ltI, nI_leI, nI_eq, nI_clamp, nm_or, nm_and, nm_xor, nm_nd, nm_one, nm_shr, nm_b2, Bool.false_eq_true, Bool.true_eq_false, not_false_eq_true, not_true_eq_false, reduceCtorEq]; done) | (simp (disch := omega) only [wI_I, wI_s, nI_add, pk_mul, nI_ltI, nI_leI, nI_eq, nI_clamp, nm_or, nm_and, nm_xor, nm_nd, nm_one, nm_shr, nm_b2, Bool.false_eq_true, Bool.true_eq_false, not_false_eq_true, not_true_eq_false, reduceCtorEq]; omega) | omega)) ?_ | refine wp_nz (by first | decide | exact nz_n (by omega) (by omega)) ?_ | (simp (disch := omega) only [wI_I, wI_s, nI_add, pk_mul, nI_ltI, nI_leI, nI_eq, nI_clamp, nm_or, nm_and, nm_xor, nm_nd, nm_one, nm_shr, nm_b2, Bool.false_eq_true, Bool.true_eq_false, not_false_eq_true, not_true_eq_false, reduceCtorEq, up2_a, up2_k, up2_s, gw_o]))
  have gf : ev M_Grid_findPair 0 0 [some (.ref (x + 44 + 2 * k)), some (.int (nI j)), none, none, none] [] (wI h f) = some (some (.int (oI (ntp (aG S k) j))), wI h f) := gq_find g2 g3 g4 hj
  refine wp_rIe gf ?_
  cases y : ntp (aG S k) j with
  | none => exact wp_bt rfl (wp_s ⟨rfl, rfl⟩)
  | some p =>
    have hp := nt_lt y
    refine wp_bf (by show ¬ nI p = mI 1; intro e; have := nI_pos (n := p) (by omega); rw [e] at this; exact this mI_neg) ?_
    have tt : t = 0 ∨ t = 1 := by omega
    rcases tt with r | r <;> subst r
    · refine wp_bt rfl (wp_nz (by decide) ?_)
      show wp (some (some (.int (nI p / nI 16)), _)) _
      rw [pk_div (by omega) (by decide) (by decide)]
      exact wp_s ⟨rfl, rfl⟩
    · refine wp_bf (by decide) (wp_nz (by decide) ?_)
      show wp (some (some (.int (nI p - nI p / nI 16 * nI 16)), _)) _
      rw [pk_rem (by omega) (by decide) (by decide)]
      exact wp_s ⟨rfl, rfl⟩
theorem c_unlike (C : CSH h x pa pb s1 v1) (F : CF f (hL h) x pa S) (W : WS S) (a b : Int32) : ∃ f', ev M_PT_unlike 0 0 [some (.ref x), some (.int a), some (.int b), none] [] (wI h f) = some (some (.int (sUnl S a b)), wI h f') ∧ FX x pa f f' := by
  obtain ⟨⟨c0, q0, q2, q3, q4, q5, q6, q7, q8, q9, q10, q11, q12, q13⟩, PA, PB, RSH, HSH, ⟨bC, bN, bR⟩, ISH, TSH, TSH2, GSH, SSH, ⟨lC, lN1, tC, tN⟩, ⟨rC, rR1, sC, sR1, wC, wN⟩, STR, ⟨sx1, sx2, x0⟩, PP⟩ := id C
  obtain ⟨⟨ft1, ft2⟩, ⟨fl1, fl2⟩, ⟨fe1, fe2⟩, fkw, fpn, ⟨fg1, fg2⟩, fhist, fbx, fsg⟩ := id F
  obtain ⟨⟨ws1, ws2⟩, ⟨ws3, ws4⟩, wpn, ⟨ws5, ws6, ws7⟩, ws8, ⟨ws9, ws10⟩, ⟨ws11, ws12⟩, ws13⟩ := id W
  have p1 := PA.1
  have r1 := RSH.1
  have r2 := RSH.2.1
  have r3 := RSH.2.2.1
  have r4 := RSH.2.2.2.1
  have hv1 : 1 ≤ aV S := wpn.1.1
  have hv4 : aV S ≤ 4 := wpn.1.2.1
  have hr5 : aR S ≤ 5 := wpn.1.2.2.2.1
  have hn16 : aW S ≤ 16 := lv_p hv4
  have fp0 : f pa 0 = nI (aV S) := fpn.1
  have fp1 : f pa 1 = nI (aR S) := fpn.2.1
  have gSH := GSH.1
  have tSH := TSH.1
  have sSH := SSH.1
  have iSH := ISH.1
  have hSH := HSH.1
  rw [r_PT_unlike_0]
  cases z0 : inN a (aR S) with
  | none =>
    have es : sUnl S a b = mI 1 := by unfold sUnl on2; rw [z0]; rfl
    rw [es]
    refine ⟨f, wp_e (wp_isC c0 (wp_rIe (pt_areRel C F W _ _) ?_)), FX.rf⟩
    rw [z0]
    exact wp_bt rfl (wp_s ⟨rfl, rfl⟩)
  | some k =>
  cases z1 : inN b (aR S) with
  | none =>
    have es : sUnl S a b = mI 1 := by unfold sUnl on2; rw [z0]; show on (inN b (aR S)) _ = _; rw [z1]; rfl
    rw [es]
    refine ⟨f, wp_e (wp_isC c0 (wp_rIe (pt_areRel C F W _ _) ?_)), FX.rf⟩
    rw [z0, z1]
    exact wp_bt rfl (wp_s ⟨rfl, rfl⟩)
  | some j =>
  have es : sUnl S a b = nI (ct (aW S) (jnG 2 (aW S) (aG S k) (aG S j)) + ct (aW S) (jnG 2 (aW S) (aG S j) (aG S k))) := by unfold sUnl on2; rw [z0]; show on (inN b (aR S)) _ = _; rw [z1]; rfl
  rw [es]
  obtain ⟨k1, k2, k3⟩ := inN_s z0
  obtain ⟨j1, j2, j3⟩ := inN_s z1
  subst k1; subst j1
  obtain ⟨g1, g2, g3, g4⟩ := pt_rl C F W k2
  obtain ⟨m1, m2, m3, m4⟩ := pt_rl C F W j2
  refine ⟨gw (gw f (x + 214) (aW S) (jnG 2 (aW S) (aG S k) (aG S j))) (x + 214) (aW S) (jnG 2 (aW S) (aG S j) (aG S k)), wp_e (wp_isC c0 (wp_rIe (pt_areRel C F W _ _) ?_)), FX.made.tr FX.made⟩
  rw [z0, z1]
  refine wp_bf n10 ?_
  repeat (first | refine wp_isC (by assumption) ?_ | refine wp_nnR (by assumption) ?_ | refine wp_inA (by assumption) rfl (by omega) (by omega) ?_ | refine wp_isZ (by first | decide | exact b01z _) ?_ | refine wp_bt (by (first | (simp (disch := omega) only [wI_I, wI_s, nI_add, pk_mul, nI_ltI, nI_leI, nI_eq, nI_clamp, nm_or, nm_and, nm_xor, nm_nd, nm_one, nm_shr, nm_b2, Bool.false_eq_true, Bool.true_eq_false, not_false_eq_true, not_true_eq_false, reduceCtorEq]; done) | (simp (disch := omega) only [wI_I, wI_s, nI_add, pk_mul, nI_ltI, nI_leI, nI_eq, nI_clamp, nm_or, nm_and, nm_xor, nm_nd, nm_one, nm_shr, nm_b2, Bool.false_eq_true, Bool.true_eq_false, not_false_eq_true, not_true_eq_false, reduceCtorEq]; omega) | omega)) ?_ | refine wp_bf (by (first | (simp (disch := omega) only [wI_I, wI_s, nI_add, pk_mul, nI_ltI, nI_leI, nI_eq, nI_clamp, nm_or, nm_and, nm_xor, nm_nd, nm_one, nm_shr, nm_b2, Bool.false_eq_true, Bool.true_eq_false, not_false_eq_true, not_true_eq_false, reduceCtorEq]; done) | (simp (disch := omega) only [wI_I, wI_s, nI_add, pk_mul, nI_ltI, nI_leI, nI_eq, nI_clamp, nm_or, nm_and, nm_xor, nm_nd, nm_one, nm_shr, nm_b2, Bool.false_eq_true, Bool.true_eq_false, not_false_eq_true, not_true_eq_false, reduceCtorEq]; omega) | omega)) ?_ | refine wp_nz (by first | decide | exact nz_n (by omega) (by omega)) ?_ | (simp (disch := omega) only [wI_I, wI_s, nI_add, pk_mul, nI_ltI, nI_leI, nI_eq, nI_clamp, nm_or, nm_and, nm_xor, nm_nd, nm_one, nm_shr, nm_b2, Bool.false_eq_true, Bool.true_eq_false, not_false_eq_true, not_true_eq_false, reduceCtorEq, up2_a, up2_k, up2_s, gw_o]))
  refine wp_rVe (gq_join GSH g2 m2 (by omega) (by omega) g3 m3 g4 m4 (by decide)) ?_
  refine wp_isC c0 (wp_nnR q11 (wp_isC gSH (wp_rIe (gq_count (G := jnG 2 (aW S) (aG S k) (aG S j)) GSH gw_f (GW.jnG g4 m4)) ?_)))
  repeat (first | refine wp_isC (by assumption) ?_ | refine wp_nnR (by assumption) ?_ | refine wp_inA (by assumption) rfl (by omega) (by omega) ?_ | refine wp_isZ (by first | decide | exact b01z _) ?_ | refine wp_bt (by (first | (simp (disch := omega) only [wI_I, wI_s, nI_add, pk_mul, nI_ltI, nI_leI, nI_eq, nI_clamp, nm_or, nm_and, nm_xor, nm_nd, nm_one, nm_shr, nm_b2, Bool.false_eq_true, Bool.true_eq_false, not_false_eq_true, not_true_eq_false, reduceCtorEq]; done) | (simp (disch := omega) only [wI_I, wI_s, nI_add, pk_mul, nI_ltI, nI_leI, nI_eq, nI_clamp, nm_or, nm_and, nm_xor, nm_nd, nm_one, nm_shr, nm_b2, Bool.false_eq_true, Bool.true_eq_false, not_false_eq_true, not_true_eq_false, reduceCtorEq]; omega) | omega)) ?_ | refine wp_bf (by (first | (simp (disch := omega) only [wI_I, wI_s, nI_add, pk_mul, nI_ltI, nI_leI, nI_eq, nI_clamp, nm_or, nm_and, nm_xor, nm_nd, nm_one, nm_shr, nm_b2, Bool.false_eq_true, Bool.true_eq_false, not_false_eq_true, not_true_eq_false, reduceCtorEq]; done) | (simp (disch := omega) only [wI_I, wI_s, nI_add, pk_mul, nI_ltI, nI_leI, nI_eq, nI_clamp, nm_or, nm_and, nm_xor, nm_nd, nm_one, nm_shr, nm_b2, Bool.false_eq_true, Bool.true_eq_false, not_false_eq_true, not_true_eq_false, reduceCtorEq]; omega) | omega)) ?_ | refine wp_nz (by first | decide | exact nz_n (by omega) (by omega)) ?_ | (simp (disch := omega) only [wI_I, wI_s, nI_add, pk_mul, nI_ltI, nI_leI, nI_eq, nI_clamp, nm_or, nm_and, nm_xor, nm_nd, nm_one, nm_shr, nm_b2, Bool.false_eq_true, Bool.true_eq_false, not_false_eq_true, not_true_eq_false, reduceCtorEq, up2_a, up2_k, up2_s, gw_o]))
  refine wp_rVe (gq_join GSH m2 g2 (by omega) (by omega) (gw_F (by omega) m3) (gw_F (by omega) g3) m4 g4 (by decide)) ?_
  refine wp_isC c0 (wp_nnR q11 (wp_isC gSH (wp_rIe (gq_count (G := jnG 2 (aW S) (aG S j) (aG S k)) GSH gw_f (GW.jnG m4 g4)) ?_)))
  rw [nI_add]
  exact wp_s ⟨rfl, rfl⟩
theorem c_within (C : CSH h x pa pb s1 v1) (F : CF f (hL h) x pa S) (W : WS S) (a b : Int32) : ∃ f', ev M_PT_within 0 0 [some (.ref x), some (.int a), some (.int b)] [] (wI h f) = some (some (.int (sWith S a b)), wI h f') ∧ FX x pa f f' := by
  obtain ⟨⟨c0, q0, q2, q3, q4, q5, q6, q7, q8, q9, q10, q11, q12, q13⟩, PA, PB, RSH, HSH, ⟨bC, bN, bR⟩, ISH, TSH, TSH2, GSH, SSH, ⟨lC, lN1, tC, tN⟩, ⟨rC, rR1, sC, sR1, wC, wN⟩, STR, ⟨sx1, sx2, x0⟩, PP⟩ := id C
  obtain ⟨⟨ft1, ft2⟩, ⟨fl1, fl2⟩, ⟨fe1, fe2⟩, fkw, fpn, ⟨fg1, fg2⟩, fhist, fbx, fsg⟩ := id F
  obtain ⟨⟨ws1, ws2⟩, ⟨ws3, ws4⟩, wpn, ⟨ws5, ws6, ws7⟩, ws8, ⟨ws9, ws10⟩, ⟨ws11, ws12⟩, ws13⟩ := id W
  have p1 := PA.1
  have r1 := RSH.1
  have r2 := RSH.2.1
  have r3 := RSH.2.2.1
  have r4 := RSH.2.2.2.1
  have hv1 : 1 ≤ aV S := wpn.1.1
  have hv4 : aV S ≤ 4 := wpn.1.2.1
  have hr5 : aR S ≤ 5 := wpn.1.2.2.2.1
  have hn16 : aW S ≤ 16 := lv_p hv4
  have fp0 : f pa 0 = nI (aV S) := fpn.1
  have fp1 : f pa 1 = nI (aR S) := fpn.2.1
  have gSH := GSH.1
  have tSH := TSH.1
  have sSH := SSH.1
  have iSH := ISH.1
  have hSH := HSH.1
  rw [r_PT_within_0]
  cases z0 : inN a (aR S) with
  | none =>
    have es : sWith S a b = mI 1 := by unfold sWith on2; rw [z0]; rfl
    rw [es]
    refine ⟨f, wp_e (wp_isC c0 (wp_rIe (pt_areRel C F W _ _) ?_)), FX.rf⟩
    rw [z0]
    exact wp_bt rfl (wp_s ⟨rfl, rfl⟩)
  | some k =>
  cases z1 : inN b (aR S) with
  | none =>
    have es : sWith S a b = mI 1 := by unfold sWith on2; rw [z0]; show on (inN b (aR S)) _ = _; rw [z1]; rfl
    rw [es]
    refine ⟨f, wp_e (wp_isC c0 (wp_rIe (pt_areRel C F W _ _) ?_)), FX.rf⟩
    rw [z0, z1]
    exact wp_bt rfl (wp_s ⟨rfl, rfl⟩)
  | some j =>
  have es : sWith S a b = nI (decide (ct (aW S) (jnG 2 (aW S) (aG S k) (aG S j)) = 0)).toNat := by unfold sWith on2; rw [z0]; show on (inN b (aR S)) _ = _; rw [z1]; rfl
  rw [es]
  obtain ⟨k1, k2, k3⟩ := inN_s z0
  obtain ⟨j1, j2, j3⟩ := inN_s z1
  subst k1; subst j1
  obtain ⟨g1, g2, g3, g4⟩ := pt_rl C F W k2
  obtain ⟨m1, m2, m3, m4⟩ := pt_rl C F W j2
  have hct := ct_le (G := jnG 2 (aW S) (aG S k) (aG S j)) hn16
  refine ⟨gw f (x + 214) (aW S) (jnG 2 (aW S) (aG S k) (aG S j)), wp_e (wp_isC c0 (wp_rIe (pt_areRel C F W _ _) ?_)), FX.made⟩
  rw [z0, z1]
  refine wp_bf n10 ?_
  repeat (first | refine wp_isC (by assumption) ?_ | refine wp_nnR (by assumption) ?_ | refine wp_inA (by assumption) rfl (by omega) (by omega) ?_ | refine wp_isZ (by first | decide | exact b01z _) ?_ | refine wp_bt (by (first | (simp (disch := omega) only [wI_I, wI_s, nI_add, pk_mul, nI_ltI, nI_leI, nI_eq, nI_clamp, nm_or, nm_and, nm_xor, nm_nd, nm_one, nm_shr, nm_b2, Bool.false_eq_true, Bool.true_eq_false, not_false_eq_true, not_true_eq_false, reduceCtorEq]; done) | (simp (disch := omega) only [wI_I, wI_s, nI_add, pk_mul, nI_ltI, nI_leI, nI_eq, nI_clamp, nm_or, nm_and, nm_xor, nm_nd, nm_one, nm_shr, nm_b2, Bool.false_eq_true, Bool.true_eq_false, not_false_eq_true, not_true_eq_false, reduceCtorEq]; omega) | omega)) ?_ | refine wp_bf (by (first | (simp (disch := omega) only [wI_I, wI_s, nI_add, pk_mul, nI_ltI, nI_leI, nI_eq, nI_clamp, nm_or, nm_and, nm_xor, nm_nd, nm_one, nm_shr, nm_b2, Bool.false_eq_true, Bool.true_eq_false, not_false_eq_true, not_true_eq_false, reduceCtorEq]; done) | (simp (disch := omega) only [wI_I, wI_s, nI_add, pk_mul, nI_ltI, nI_leI, nI_eq, nI_clamp, nm_or, nm_and, nm_xor, nm_nd, nm_one, nm_shr, nm_b2, Bool.false_eq_true, Bool.true_eq_false, not_false_eq_true, not_true_eq_false, reduceCtorEq]; omega) | omega)) ?_ | refine wp_nz (by first | decide | exact nz_n (by omega) (by omega)) ?_ | (simp (disch := omega) only [wI_I, wI_s, nI_add, pk_mul, nI_ltI, nI_leI, nI_eq, nI_clamp, nm_or, nm_and, nm_xor, nm_nd, nm_one, nm_shr, nm_b2, Bool.false_eq_true, Bool.true_eq_false, not_false_eq_true, not_true_eq_false, reduceCtorEq, up2_a, up2_k, up2_s, gw_o]))
  refine wp_rVe (gq_join GSH g2 m2 (by omega) (by omega) g3 m3 g4 m4 (by decide)) ?_
  refine wp_isC c0 (wp_nnR q11 (wp_isC gSH (wp_rIe (gq_count (G := jnG 2 (aW S) (aG S k) (aG S j)) GSH gw_f (GW.jnG g4 m4)) ?_)))
  by_cases y : ct (aW S) (jnG 2 (aW S) (aG S k) (aG S j)) = 0
  · rw [decide_eq_true y]
    exact wp_bt (by show nI (ct _ _) = nI 0; rw [y]) (wp_s ⟨rfl, rfl⟩)
  · rw [decide_eq_false y]
    exact wp_bf (by show ¬ nI (ct _ _) = nI 0; rw [nI_eq (by omega) (by decide)]; exact y) (wp_s ⟨rfl, rfl⟩)
theorem c_law (C : CSH h x pa pb s1 v1) (F : CF f (hL h) x pa S) (W : WS S) (a n : Int32) : ∃ f', ev M_PT_law 0 0 [some (.ref x), some (.int a), some (.int n), none] [] (wI h f) = some (some (.int (sLaw S a n)), wI h f') ∧ FX x pa f f' := by
  obtain ⟨⟨c0, q0, q2, q3, q4, q5, q6, q7, q8, q9, q10, q11, q12, q13⟩, PA, PB, RSH, HSH, ⟨bC, bN, bR⟩, ISH, TSH, TSH2, GSH, SSH, ⟨lC, lN1, tC, tN⟩, ⟨rC, rR1, sC, sR1, wC, wN⟩, STR, ⟨sx1, sx2, x0⟩, PP⟩ := id C
  obtain ⟨⟨ft1, ft2⟩, ⟨fl1, fl2⟩, ⟨fe1, fe2⟩, fkw, fpn, ⟨fg1, fg2⟩, fhist, fbx, fsg⟩ := id F
  obtain ⟨⟨ws1, ws2⟩, ⟨ws3, ws4⟩, wpn, ⟨ws5, ws6, ws7⟩, ws8, ⟨ws9, ws10⟩, ⟨ws11, ws12⟩, ws13⟩ := id W
  have p1 := PA.1
  have r1 := RSH.1
  have r2 := RSH.2.1
  have r3 := RSH.2.2.1
  have r4 := RSH.2.2.2.1
  have hv1 : 1 ≤ aV S := wpn.1.1
  have hv4 : aV S ≤ 4 := wpn.1.2.1
  have hr5 : aR S ≤ 5 := wpn.1.2.2.2.1
  have hn16 : aW S ≤ 16 := lv_p hv4
  have fp0 : f pa 0 = nI (aV S) := fpn.1
  have fp1 : f pa 1 = nI (aR S) := fpn.2.1
  have gSH := GSH.1
  have tSH := TSH.1
  have sSH := SSH.1
  have iSH := ISH.1
  have hSH := HSH.1
  rw [r_PT_law_0]
  have hpa := PPa C
  cases z0 : inN a (aR S) with
  | none =>
    have es : sLaw S a n = mI 1 := by unfold sLaw; rw [z0]; rfl
    rw [es]
    refine ⟨f, wp_e (wp_isC c0 (wp_rIe (pt_isRel C F W _) ?_)), FX.rf⟩
    rw [z0]
    exact wp_bt rfl (wp_s ⟨rfl, rfl⟩)
  | some k =>
  obtain ⟨k1, k2, k3⟩ := inN_s z0
  subst k1
  have es : sLaw S (nI k) n = if n < nI (aV S) then mI 1 else if nI 6 < n then mI 1 else if ct (aW S) (aG S k) = 0 then nI (nb (aV S) (aG S k)) else nI (nb (aV S) (aG S k)) + nI 4 * (n - nI (aV S)) := by unfold sLaw; rw [z0]; rfl
  rw [es]
  by_cases q : n < nI (aV S)
  · rw [if_pos q]
    refine ⟨f, wp_e (wp_isC c0 (wp_rIe (pt_isRel C F W _) ?_)), FX.rf⟩
    rw [z0]
    refine wp_bf n10 (wp_isC c0 (wp_nnR q2 (wp_isC p1 ?_)))
    rw [wI_I, fp0]
    exact wp_bt q (wp_s ⟨rfl, rfl⟩)
  rw [if_neg q]
  by_cases q1 : nI 6 < n
  · rw [if_pos q1]
    refine ⟨f, wp_e (wp_isC c0 (wp_rIe (pt_isRel C F W _) ?_)), FX.rf⟩
    rw [z0]
    refine wp_bf n10 (wp_isC c0 (wp_nnR q2 (wp_isC p1 ?_)))
    rw [wI_I, fp0]
    exact wp_bf q (wp_bt q1 (wp_s ⟨rfl, rfl⟩))
  rw [if_neg q1]
  obtain ⟨g1, g2, g3, g4⟩ := pt_rl C F W k2
  have g5 := g2.1
  obtain ⟨f', b1, b2⟩ := pt_bitsOf C F W g2 (by omega) g3 g4
  have fp0' : f' pa 0 = nI (aV S) := by rw [b2 pa (by omega)]; exact fp0
  have hct := ct_le (G := aG S k) hn16
  refine ⟨f', wp_e (wp_isC c0 (wp_rIe (pt_isRel C F W _) ?_)), FX.tree b2⟩
  rw [z0]
  refine wp_bf n10 (wp_isC c0 (wp_nnR q2 (wp_isC p1 ?_)))
  rw [wI_I, fp0]
  refine wp_bf q (wp_bf q1 ?_)
  repeat (first | refine wp_isC (by assumption) ?_ | refine wp_nnR (by assumption) ?_ | refine wp_inA (by assumption) rfl (by omega) (by omega) ?_ | refine wp_isZ (by first | decide | exact b01z _) ?_ | refine wp_bt (by (first | (simp (disch := omega) only [wI_I, wI_s, nI_add, pk_mul, nI_ltI, nI_leI, nI_eq, nI_clamp, nm_or, nm_and, nm_xor, nm_nd, nm_one, nm_shr, nm_b2, Bool.false_eq_true, Bool.true_eq_false, not_false_eq_true, not_true_eq_false, reduceCtorEq]; done) | (simp (disch := omega) only [wI_I, wI_s, nI_add, pk_mul, nI_ltI, nI_leI, nI_eq, nI_clamp, nm_or, nm_and, nm_xor, nm_nd, nm_one, nm_shr, nm_b2, Bool.false_eq_true, Bool.true_eq_false, not_false_eq_true, not_true_eq_false, reduceCtorEq]; omega) | omega)) ?_ | refine wp_bf (by (first | (simp (disch := omega) only [wI_I, wI_s, nI_add, pk_mul, nI_ltI, nI_leI, nI_eq, nI_clamp, nm_or, nm_and, nm_xor, nm_nd, nm_one, nm_shr, nm_b2, Bool.false_eq_true, Bool.true_eq_false, not_false_eq_true, not_true_eq_false, reduceCtorEq]; done) | (simp (disch := omega) only [wI_I, wI_s, nI_add, pk_mul, nI_ltI, nI_leI, nI_eq, nI_clamp, nm_or, nm_and, nm_xor, nm_nd, nm_one, nm_shr, nm_b2, Bool.false_eq_true, Bool.true_eq_false, not_false_eq_true, not_true_eq_false, reduceCtorEq]; omega) | omega)) ?_ | refine wp_nz (by first | decide | exact nz_n (by omega) (by omega)) ?_ | (simp (disch := omega) only [wI_I, wI_s, nI_add, pk_mul, nI_ltI, nI_leI, nI_eq, nI_clamp, nm_or, nm_and, nm_xor, nm_nd, nm_one, nm_shr, nm_b2, Bool.false_eq_true, Bool.true_eq_false, not_false_eq_true, not_true_eq_false, reduceCtorEq, up2_a, up2_k, up2_s, gw_o]))
  refine wp_rIe b1 ?_
  repeat (first | refine wp_isC (by assumption) ?_ | refine wp_nnR (by assumption) ?_ | refine wp_inA (by assumption) rfl (by omega) (by omega) ?_ | refine wp_isZ (by first | decide | exact b01z _) ?_ | refine wp_bt (by (first | (simp (disch := omega) only [wI_I, wI_s, nI_add, pk_mul, nI_ltI, nI_leI, nI_eq, nI_clamp, nm_or, nm_and, nm_xor, nm_nd, nm_one, nm_shr, nm_b2, Bool.false_eq_true, Bool.true_eq_false, not_false_eq_true, not_true_eq_false, reduceCtorEq]; done) | (simp (disch := omega) only [wI_I, wI_s, nI_add, pk_mul, nI_ltI, nI_leI, nI_eq, nI_clamp, nm_or, nm_and, nm_xor, nm_nd, nm_one, nm_shr, nm_b2, Bool.false_eq_true, Bool.true_eq_false, not_false_eq_true, not_true_eq_false, reduceCtorEq]; omega) | omega)) ?_ | refine wp_bf (by (first | (simp (disch := omega) only [wI_I, wI_s, nI_add, pk_mul, nI_ltI, nI_leI, nI_eq, nI_clamp, nm_or, nm_and, nm_xor, nm_nd, nm_one, nm_shr, nm_b2, Bool.false_eq_true, Bool.true_eq_false, not_false_eq_true, not_true_eq_false, reduceCtorEq]; done) | (simp (disch := omega) only [wI_I, wI_s, nI_add, pk_mul, nI_ltI, nI_leI, nI_eq, nI_clamp, nm_or, nm_and, nm_xor, nm_nd, nm_one, nm_shr, nm_b2, Bool.false_eq_true, Bool.true_eq_false, not_false_eq_true, not_true_eq_false, reduceCtorEq]; omega) | omega)) ?_ | refine wp_nz (by first | decide | exact nz_n (by omega) (by omega)) ?_ | (simp (disch := omega) only [wI_I, wI_s, nI_add, pk_mul, nI_ltI, nI_leI, nI_eq, nI_clamp, nm_or, nm_and, nm_xor, nm_nd, nm_one, nm_shr, nm_b2, Bool.false_eq_true, Bool.true_eq_false, not_false_eq_true, not_true_eq_false, reduceCtorEq, up2_a, up2_k, up2_s, gw_o]))
  refine wp_rIe (gq_count g2 (b2.F (by omega) g3) g4) ?_
  by_cases y : ct (aW S) (aG S k) = 0
  · rw [if_pos y]
    exact wp_bt (by show nI (ct _ _) = nI 0; rw [y]) (wp_s ⟨rfl, rfl⟩)
  · rw [if_neg y]
    refine wp_bf (by show ¬ nI (ct _ _) = nI 0; rw [nI_eq (by omega) (by decide)]; exact y) (wp_isC c0 (wp_nnR q2 (wp_isC p1 ?_)))
    rw [wI_I, fp0']
    exact wp_s ⟨rfl, rfl⟩
end
