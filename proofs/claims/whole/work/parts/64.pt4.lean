/-! The class's methods: reports, steps. -/
theorem wp_rn {w : Int32} {m : Nat} {X Y : MRes} {Q : Option Value → MH → Prop} (y : inN w (m + 1) = none) (hm : m < 2 ^ 30) (H : wp X Q) : wp (br (w < nI 0) X (br (nI m < w) X Y)) Q := by
  rcases inN_n y (by omega) with q | ⟨q, q2⟩
  · exact wp_bt q H
  · obtain ⟨j, hj, e⟩ := nI_of q
    subst e
    rw [nI_ltI hj (by omega)] at q2
    exact wp_bf q (wp_bt (by rw [nI_ltI (by omega) hj]; omega) H)
section
variable {h : MH} {f : Nat → Nat → Int32} {x pa pb s1 v1 : Nat} {S : Abs}
theorem c_reached (C : CSH h x pa pb s1 v1) (F : CF f (hL h) x pa S) (W : WS S) (a b : Int32) : ∃ f', ev M_PT_reached 0 0 [some (.ref x), some (.int a), some (.int b)] [] (wI h f) = some (some (.int (sReach S a b)), wI h f') ∧ FX x pa f f' := by
  obtain ⟨⟨c0, q0, q2, q3, q4, q5, q6, q7, q8, q9, q10, q11, q12, q13⟩, PA, PB, RSH, HSH, ⟨bC, bN, bR⟩, ISH, TSH, TSH2, GSH, SSH, ⟨lC, lN1, tC, tN⟩, ⟨rC, rR1, sC, sR1, wC, wN⟩, STR, ⟨sx1, sx2, x0⟩, PP⟩ := id C
  obtain ⟨⟨ft1, ft2⟩, ⟨fl1, fl2⟩, ⟨fe1, fe2⟩, fkw, fpn, ⟨fg1, fg2⟩, fhist, fbx, fsg⟩ := id F
  obtain ⟨⟨ws1, ws2⟩, ⟨ws3, ws4⟩, wpn, ⟨ws5, ws6, ws7⟩, ws8, ⟨ws9, ws10⟩, ⟨ws11, ws12⟩, ws13⟩ := id W
  have p1 := PA.1
  have r1 := RSH.1
  have r2 := RSH.2.1
  have r3 := RSH.2.2.1
  have r4 := RSH.2.2.2.1
  have hv1 : 1 ≤ aV S := wpn.1.1
  have hv4 : aV S ≤ 4 := wpn.1.2.1
  have hr5 : aR S ≤ 5 := wpn.1.2.2.2.1
  have hn16 : aW S ≤ 16 := lv_p hv4
  have fp0 : f pa 0 = nI (aV S) := fpn.1
  have fp1 : f pa 1 = nI (aR S) := fpn.2.1
  have gSH := GSH.1
  have tSH := TSH.1
  have sSH := SSH.1
  have iSH := ISH.1
  have hSH := HSH.1
  have hpa := PPa C
  rw [r_PT_reached_0]
  cases z0 : inN a (aR S) with
  | none =>
    have es : sReach S a b = mI 1 := by unfold sReach; rw [z0]; rfl
    rw [es]
    refine ⟨f, wp_e ?_, FX.rf⟩
    refine wp_isC c0 (wp_rIe (pt_isRel C F W _) ?_)
    rw [z0]
    exact wp_bt rfl (wp_s ⟨rfl, rfl⟩)
  | some k =>
  obtain ⟨k1, k2, k3⟩ := inN_s z0
  subst k1
  cases z1 : inN b (aW S) with
  | none =>
    have es : sReach S (nI k) b = mI 1 := by unfold sReach; rw [z0]; show on (inN (b) (aW S)) _ = _; rw [z1]; rfl
    rw [es]
    refine ⟨f, wp_e ?_, FX.rf⟩
    refine wp_isC c0 (wp_rIe (pt_isRel C F W _) ?_)
    rw [z0]
    refine wp_bf n10 ?_
    refine wp_isC c0 (wp_rIe (pt_isNode C F W _) ?_)
    rw [z1]
    exact wp_bt rfl (wp_s ⟨rfl, rfl⟩)
  | some i =>
  obtain ⟨i1, i2, i3⟩ := inN_s z1
  subst i1
  have es : sReach S (nI k) (nI i) = nI (rch (aW S) (aG S k) (2 ^ i) (aW S)) := by unfold sReach; rw [z0]; show on (inN (nI i) (aW S)) _ = _; rw [z1]; rfl
  rw [es]
  obtain ⟨g1, g2, g3, g4⟩ := pt_rl C F W k2
  have g5 := g2.1
  refine ⟨f, wp_e ?_, FX.rf⟩
  refine wp_isC c0 (wp_rIe (pt_isRel C F W _) ?_)
  rw [z0]
  refine wp_bf n10 ?_
  refine wp_isC c0 (wp_rIe (pt_isNode C F W _) ?_)
  rw [z1]
  refine wp_bf n10 ?_
  repeat (first | refine wp_isC (by assumption) ?_ | refine wp_nnR (by assumption) ?_ | refine wp_inA (by assumption) rfl (by omega) (by omega) ?_ | refine wp_isZ (by first | decide | exact b01z _) ?_ | refine wp_bt (by (first | (simp (disch := omega) only [wI_I, wI_s, nI_add, pk_mul, nI_ltI, nI_leI, nI_eq, nI_clamp, nm_or, nm_and, nm_xor, nm_nd, nm_one, nm_shr, nm_b2, Bool.false_eq_true, Bool.true_eq_false, not_false_eq_true, not_true_eq_false, reduceCtorEq]; done) | (simp (disch := omega) only [wI_I, wI_s, nI_add, pk_mul, nI_ltI, nI_leI, nI_eq, nI_clamp, nm_or, nm_and, nm_xor, nm_nd, nm_one, nm_shr, nm_b2, Bool.false_eq_true, Bool.true_eq_false, not_false_eq_true, not_true_eq_false, reduceCtorEq]; omega) | omega)) ?_ | refine wp_bf (by (first | (simp (disch := omega) only [wI_I, wI_s, nI_add, pk_mul, nI_ltI, nI_leI, nI_eq, nI_clamp, nm_or, nm_and, nm_xor, nm_nd, nm_one, nm_shr, nm_b2, Bool.false_eq_true, Bool.true_eq_false, not_false_eq_true, not_true_eq_false, reduceCtorEq]; done) | (simp (disch := omega) only [wI_I, wI_s, nI_add, pk_mul, nI_ltI, nI_leI, nI_eq, nI_clamp, nm_or, nm_and, nm_xor, nm_nd, nm_one, nm_shr, nm_b2, Bool.false_eq_true, Bool.true_eq_false, not_false_eq_true, not_true_eq_false, reduceCtorEq]; omega) | omega)) ?_ | refine wp_nz (by first | decide | exact nz_n (by omega) (by omega)) ?_ | (simp (disch := omega) only [wI_I, wI_s, nI_add, pk_mul, nI_ltI, nI_leI, nI_eq, nI_clamp, nm_or, nm_and, nm_xor, nm_nd, nm_one, nm_shr, nm_b2, Bool.false_eq_true, Bool.true_eq_false, not_false_eq_true, not_true_eq_false, reduceCtorEq, up2_a, up2_k, up2_s, gw_o]))
  exact wp_rIe (sp_all g2 g3 g4 (by omega)) (wp_s ⟨rfl, rfl⟩)
theorem c_far (C : CSH h x pa pb s1 v1) (F : CF f (hL h) x pa S) (W : WS S) (a b c : Int32) : ∃ f', ev M_PT_far 0 0 [some (.ref x), some (.int a), some (.int b), some (.int c)] [] (wI h f) = some (some (.int (sFar S a b c)), wI h f') ∧ FX x pa f f' := by
  obtain ⟨⟨c0, q0, q2, q3, q4, q5, q6, q7, q8, q9, q10, q11, q12, q13⟩, PA, PB, RSH, HSH, ⟨bC, bN, bR⟩, ISH, TSH, TSH2, GSH, SSH, ⟨lC, lN1, tC, tN⟩, ⟨rC, rR1, sC, sR1, wC, wN⟩, STR, ⟨sx1, sx2, x0⟩, PP⟩ := id C
  obtain ⟨⟨ft1, ft2⟩, ⟨fl1, fl2⟩, ⟨fe1, fe2⟩, fkw, fpn, ⟨fg1, fg2⟩, fhist, fbx, fsg⟩ := id F
  obtain ⟨⟨ws1, ws2⟩, ⟨ws3, ws4⟩, wpn, ⟨ws5, ws6, ws7⟩, ws8, ⟨ws9, ws10⟩, ⟨ws11, ws12⟩, ws13⟩ := id W
  have p1 := PA.1
  have r1 := RSH.1
  have r2 := RSH.2.1
  have r3 := RSH.2.2.1
  have r4 := RSH.2.2.2.1
  have hv1 : 1 ≤ aV S := wpn.1.1
  have hv4 : aV S ≤ 4 := wpn.1.2.1
  have hr5 : aR S ≤ 5 := wpn.1.2.2.2.1
  have hn16 : aW S ≤ 16 := lv_p hv4
  have fp0 : f pa 0 = nI (aV S) := fpn.1
  have fp1 : f pa 1 = nI (aR S) := fpn.2.1
  have gSH := GSH.1
  have tSH := TSH.1
  have sSH := SSH.1
  have iSH := ISH.1
  have hSH := HSH.1
  have hpa := PPa C
  rw [r_PT_far_0]
  cases z0 : inN a (aR S) with
  | none =>
    have es : sFar S a b c = mI 1 := by unfold sFar; rw [z0]; rfl
    rw [es]
    refine ⟨f, wp_e ?_, FX.rf⟩
    refine wp_isC c0 (wp_rIe (pt_isRel C F W _) ?_)
    rw [z0]
    exact wp_bt rfl (wp_s ⟨rfl, rfl⟩)
  | some k =>
  obtain ⟨k1, k2, k3⟩ := inN_s z0
  subst k1
  cases z1 : inN b (aW S) with
  | none =>
    have es : sFar S (nI k) b c = mI 1 := by unfold sFar; rw [z0]; show on (inN (b) (aW S)) _ = _; rw [z1]; rfl
    rw [es]
    refine ⟨f, wp_e ?_, FX.rf⟩
    refine wp_isC c0 (wp_rIe (pt_isRel C F W _) ?_)
    rw [z0]
    refine wp_bf n10 ?_
    refine wp_isC c0 (wp_rIe (pt_isNode C F W _) ?_)
    rw [z1]
    exact wp_bt rfl (wp_s ⟨rfl, rfl⟩)
  | some i =>
  obtain ⟨i1, i2, i3⟩ := inN_s z1
  subst i1
  cases z2 : inN c (aW S) with
  | none =>
    have es : sFar S (nI k) (nI i) c = mI 1 := by unfold sFar; rw [z0]; show on (inN (nI i) (aW S)) _ = _; rw [z1]; show on (inN (c) (aW S)) _ = _; rw [z2]; rfl
    rw [es]
    refine ⟨f, wp_e ?_, FX.rf⟩
    refine wp_isC c0 (wp_rIe (pt_isRel C F W _) ?_)
    rw [z0]
    refine wp_bf n10 ?_
    refine wp_isC c0 (wp_rIe (pt_isNode C F W _) ?_)
    rw [z1]
    refine wp_bf n10 ?_
    refine wp_isC c0 (wp_rIe (pt_isNode C F W _) ?_)
    rw [z2]
    exact wp_bt rfl (wp_s ⟨rfl, rfl⟩)
  | some j =>
  obtain ⟨j1, j2, j3⟩ := inN_s z2
  subst j1
  have es : sFar S (nI k) (nI i) (nI j) = oI (ff (fun m => (rch (aW S) (aG S k) (2 ^ i) m).testBit j) (aW S)) := by unfold sFar; rw [z0]; show on (inN (nI i) (aW S)) _ = _; rw [z1]; show on (inN (nI j) (aW S)) _ = _; rw [z2]; rfl
  rw [es]
  obtain ⟨g1, g2, g3, g4⟩ := pt_rl C F W k2
  have g5 := g2.1
  refine ⟨f, wp_e ?_, FX.rf⟩
  refine wp_isC c0 (wp_rIe (pt_isRel C F W _) ?_)
  rw [z0]
  refine wp_bf n10 ?_
  refine wp_isC c0 (wp_rIe (pt_isNode C F W _) ?_)
  rw [z1]
  refine wp_bf n10 ?_
  refine wp_isC c0 (wp_rIe (pt_isNode C F W _) ?_)
  rw [z2]
  refine wp_bf n10 ?_
  repeat (first | refine wp_isC (by assumption) ?_ | refine wp_nnR (by assumption) ?_ | refine wp_inA (by assumption) rfl (by omega) (by omega) ?_ | refine wp_isZ (by first | decide | exact b01z _) ?_ | refine wp_bt (by (first | (simp (disch := omega) only [wI_I, wI_s, nI_add, pk_mul, nI_ltI, nI_leI, nI_eq, nI_clamp, nm_or, nm_and, nm_xor, nm_nd, nm_one, nm_shr, nm_b2, Bool.false_eq_true, Bool.true_eq_false, not_false_eq_true, not_true_eq_false, reduceCtorEq]; done) | (simp (disch := omega) only [wI_I, wI_s, nI_add, pk_mul, nI_ltI, nI_leI, nI_eq, nI_clamp, nm_or, nm_and, nm_xor, nm_nd, nm_one, nm_shr, nm_b2, Bool.false_eq_true, Bool.true_eq_false, not_false_eq_true, not_true_eq_false, reduceCtorEq]; omega) | omega)) ?_ | refine wp_bf (by (first | (simp (disch := omega) only [wI_I, wI_s, nI_add, pk_mul, nI_ltI, nI_leI, nI_eq, nI_clamp, nm_or, nm_and, nm_xor, nm_nd, nm_one, nm_shr, nm_b2, Bool.false_eq_true, Bool.true_eq_false, not_false_eq_true, not_true_eq_false, reduceCtorEq]; done) | (simp (disch := omega) only [wI_I, wI_s, nI_add, pk_mul, nI_ltI, nI_leI, nI_eq, nI_clamp, nm_or, nm_and, nm_xor, nm_nd, nm_one, nm_shr, nm_b2, Bool.false_eq_true, Bool.true_eq_false, not_false_eq_true, not_true_eq_false, reduceCtorEq]; omega) | omega)) ?_ | refine wp_nz (by first | decide | exact nz_n (by omega) (by omega)) ?_ | (simp (disch := omega) only [wI_I, wI_s, nI_add, pk_mul, nI_ltI, nI_leI, nI_eq, nI_clamp, nm_or, nm_and, nm_xor, nm_nd, nm_one, nm_shr, nm_b2, Bool.false_eq_true, Bool.true_eq_false, not_false_eq_true, not_true_eq_false, reduceCtorEq, up2_a, up2_k, up2_s, gw_o]))
  exact wp_rIe (sp_few g2 g3 g4 (by omega) (by omega)) (wp_s ⟨rfl, rfl⟩)
theorem c_mutual (C : CSH h x pa pb s1 v1) (F : CF f (hL h) x pa S) (W : WS S) (a b : Int32) : ∃ f', ev M_PT_mutual 0 0 [some (.ref x), some (.int a), some (.int b)] [] (wI h f) = some (some (.int (sMut S a b)), wI h f') ∧ FX x pa f f' := by
  obtain ⟨⟨c0, q0, q2, q3, q4, q5, q6, q7, q8, q9, q10, q11, q12, q13⟩, PA, PB, RSH, HSH, ⟨bC, bN, bR⟩, ISH, TSH, TSH2, GSH, SSH, ⟨lC, lN1, tC, tN⟩, ⟨rC, rR1, sC, sR1, wC, wN⟩, STR, ⟨sx1, sx2, x0⟩, PP⟩ := id C
  obtain ⟨⟨ft1, ft2⟩, ⟨fl1, fl2⟩, ⟨fe1, fe2⟩, fkw, fpn, ⟨fg1, fg2⟩, fhist, fbx, fsg⟩ := id F
  obtain ⟨⟨ws1, ws2⟩, ⟨ws3, ws4⟩, wpn, ⟨ws5, ws6, ws7⟩, ws8, ⟨ws9, ws10⟩, ⟨ws11, ws12⟩, ws13⟩ := id W
  have p1 := PA.1
  have r1 := RSH.1
  have r2 := RSH.2.1
  have r3 := RSH.2.2.1
  have r4 := RSH.2.2.2.1
  have hv1 : 1 ≤ aV S := wpn.1.1
  have hv4 : aV S ≤ 4 := wpn.1.2.1
  have hr5 : aR S ≤ 5 := wpn.1.2.2.2.1
  have hn16 : aW S ≤ 16 := lv_p hv4
  have fp0 : f pa 0 = nI (aV S) := fpn.1
  have fp1 : f pa 1 = nI (aR S) := fpn.2.1
  have gSH := GSH.1
  have tSH := TSH.1
  have sSH := SSH.1
  have iSH := ISH.1
  have hSH := HSH.1
  have hpa := PPa C
  rw [r_PT_mutual_0]
  cases z0 : inN a (aR S) with
  | none =>
    have es : sMut S a b = mI 1 := by unfold sMut; rw [z0]; rfl
    rw [es]
    refine ⟨f, wp_e ?_, FX.rf⟩
    refine wp_isC c0 (wp_rIe (pt_isRel C F W _) ?_)
    rw [z0]
    exact wp_bt rfl (wp_s ⟨rfl, rfl⟩)
  | some k =>
  obtain ⟨k1, k2, k3⟩ := inN_s z0
  subst k1
  cases z1 : inN b (aW S) with
  | none =>
    have es : sMut S (nI k) b = mI 1 := by unfold sMut; rw [z0]; show on (inN (b) (aW S)) _ = _; rw [z1]; rfl
    rw [es]
    refine ⟨f, wp_e ?_, FX.rf⟩
    refine wp_isC c0 (wp_rIe (pt_isRel C F W _) ?_)
    rw [z0]
    refine wp_bf n10 ?_
    refine wp_isC c0 (wp_rIe (pt_isNode C F W _) ?_)
    rw [z1]
    exact wp_bt rfl (wp_s ⟨rfl, rfl⟩)
  | some i =>
  obtain ⟨i1, i2, i3⟩ := inN_s z1
  subst i1
  have es : sMut S (nI k) (nI i) = nI (rch (aW S) (aG S k) (2 ^ i) (aW S) &&& rch (aW S) (tp (aW S) (aG S k)) (2 ^ i) (aW S)) := by unfold sMut; rw [z0]; show on (inN (nI i) (aW S)) _ = _; rw [z1]; rfl
  rw [es]
  obtain ⟨g1, g2, g3, g4⟩ := pt_rl C F W k2
  have g5 := g2.1
  refine ⟨gw f (x + 216 + 1) (aW S) (tp (aW S) (aG S k)), wp_e ?_, FX.stp (Fr.gw (by omega) (by omega))⟩
  refine wp_isC c0 (wp_rIe (pt_isRel C F W _) ?_)
  rw [z0]
  refine wp_bf n10 ?_
  refine wp_isC c0 (wp_rIe (pt_isNode C F W _) ?_)
  rw [z1]
  refine wp_bf n10 ?_
  repeat (first | refine wp_isC (by assumption) ?_ | refine wp_nnR (by assumption) ?_ | refine wp_inA (by assumption) rfl (by omega) (by omega) ?_ | refine wp_isZ (by first | decide | exact b01z _) ?_ | refine wp_bt (by (first | (simp (disch := omega) only [wI_I, wI_s, nI_add, pk_mul, nI_ltI, nI_leI, nI_eq, nI_clamp, nm_or, nm_and, nm_xor, nm_nd, nm_one, nm_shr, nm_b2, Bool.false_eq_true, Bool.true_eq_false, not_false_eq_true, not_true_eq_false, reduceCtorEq]; done) | (simp (disch := omega) only [wI_I, wI_s, nI_add, pk_mul, nI_ltI, nI_leI, nI_eq, nI_clamp, nm_or, nm_and, nm_xor, nm_nd, nm_one, nm_shr, nm_b2, Bool.false_eq_true, Bool.true_eq_false, not_false_eq_true, not_true_eq_false, reduceCtorEq]; omega) | omega)) ?_ | refine wp_bf (by (first | (simp (disch := omega) only [wI_I, wI_s, nI_add, pk_mul, nI_ltI, nI_leI, nI_eq, nI_clamp, nm_or, nm_and, nm_xor, nm_nd, nm_one, nm_shr, nm_b2, Bool.false_eq_true, Bool.true_eq_false, not_false_eq_true, not_true_eq_false, reduceCtorEq]; done) | (simp (disch := omega) only [wI_I, wI_s, nI_add, pk_mul, nI_ltI, nI_leI, nI_eq, nI_clamp, nm_or, nm_and, nm_xor, nm_nd, nm_one, nm_shr, nm_b2, Bool.false_eq_true, Bool.true_eq_false, not_false_eq_true, not_true_eq_false, reduceCtorEq]; omega) | omega)) ?_ | refine wp_nz (by first | decide | exact nz_n (by omega) (by omega)) ?_ | (simp (disch := omega) only [wI_I, wI_s, nI_add, pk_mul, nI_ltI, nI_leI, nI_eq, nI_clamp, nm_or, nm_and, nm_xor, nm_nd, nm_one, nm_shr, nm_b2, Bool.false_eq_true, Bool.true_eq_false, not_false_eq_true, not_true_eq_false, reduceCtorEq, up2_a, up2_k, up2_s, gw_o]))
  exact wp_rIe (sp_both SSH g2 (by omega) g3 g4 (by omega)) (wp_s ⟨rfl, rfl⟩)
theorem c_closure (C : CSH h x pa pb s1 v1) (F : CF f (hL h) x pa S) (W : WS S) (a : Int32) : ∃ f', ev M_PT_closure 0 0 [some (.ref x), some (.int a)] [] (wI h f) = some (some (.int (sClos S a)), wI h f') ∧ FX x pa f f' := by
  obtain ⟨⟨c0, q0, q2, q3, q4, q5, q6, q7, q8, q9, q10, q11, q12, q13⟩, PA, PB, RSH, HSH, ⟨bC, bN, bR⟩, ISH, TSH, TSH2, GSH, SSH, ⟨lC, lN1, tC, tN⟩, ⟨rC, rR1, sC, sR1, wC, wN⟩, STR, ⟨sx1, sx2, x0⟩, PP⟩ := id C
  obtain ⟨⟨ft1, ft2⟩, ⟨fl1, fl2⟩, ⟨fe1, fe2⟩, fkw, fpn, ⟨fg1, fg2⟩, fhist, fbx, fsg⟩ := id F
  obtain ⟨⟨ws1, ws2⟩, ⟨ws3, ws4⟩, wpn, ⟨ws5, ws6, ws7⟩, ws8, ⟨ws9, ws10⟩, ⟨ws11, ws12⟩, ws13⟩ := id W
  have p1 := PA.1
  have r1 := RSH.1
  have r2 := RSH.2.1
  have r3 := RSH.2.2.1
  have r4 := RSH.2.2.2.1
  have hv1 : 1 ≤ aV S := wpn.1.1
  have hv4 : aV S ≤ 4 := wpn.1.2.1
  have hr5 : aR S ≤ 5 := wpn.1.2.2.2.1
  have hn16 : aW S ≤ 16 := lv_p hv4
  have fp0 : f pa 0 = nI (aV S) := fpn.1
  have fp1 : f pa 1 = nI (aR S) := fpn.2.1
  have gSH := GSH.1
  have tSH := TSH.1
  have sSH := SSH.1
  have iSH := ISH.1
  have hSH := HSH.1
  have hpa := PPa C
  rw [r_PT_closure_0]
  cases z0 : inN a (aR S) with
  | none =>
    have es : sClos S a = mI 1 := by unfold sClos; rw [z0]; rfl
    rw [es]
    refine ⟨f, wp_e ?_, FX.rf⟩
    refine wp_isC c0 (wp_rIe (pt_isRel C F W _) ?_)
    rw [z0]
    exact wp_bt rfl (wp_s ⟨rfl, rfl⟩)
  | some k =>
  obtain ⟨k1, k2, k3⟩ := inN_s z0
  subst k1
  have es : sClos S (nI k) = nI (ct (aW S) (gos (aW S) (aG S k) (ngo (aW S) (aG S k) 16))) := by unfold sClos; rw [z0]; rfl
  rw [es]
  obtain ⟨g1, g2, g3, g4⟩ := pt_rl C F W k2
  have g5 := g2.1
  obtain ⟨v, h', t0, f', t1, t2, t3⟩ := sp_clos SSH g2 (by omega) g3 g4
  subst t1; subst t2
  refine ⟨f', wp_e ?_, FX.stp (t3.up (by omega) (by omega))⟩
  refine wp_isC c0 (wp_rIe (pt_isRel C F W _) ?_)
  rw [z0]
  refine wp_bf n10 ?_
  repeat (first | refine wp_isC (by assumption) ?_ | refine wp_nnR (by assumption) ?_ | refine wp_inA (by assumption) rfl (by omega) (by omega) ?_ | refine wp_isZ (by first | decide | exact b01z _) ?_ | refine wp_bt (by (first | (simp (disch := omega) only [wI_I, wI_s, nI_add, pk_mul, nI_ltI, nI_leI, nI_eq, nI_clamp, nm_or, nm_and, nm_xor, nm_nd, nm_one, nm_shr, nm_b2, Bool.false_eq_true, Bool.true_eq_false, not_false_eq_true, not_true_eq_false, reduceCtorEq]; done) | (simp (disch := omega) only [wI_I, wI_s, nI_add, pk_mul, nI_ltI, nI_leI, nI_eq, nI_clamp, nm_or, nm_and, nm_xor, nm_nd, nm_one, nm_shr, nm_b2, Bool.false_eq_true, Bool.true_eq_false, not_false_eq_true, not_true_eq_false, reduceCtorEq]; omega) | omega)) ?_ | refine wp_bf (by (first | (simp (disch := omega) only [wI_I, wI_s, nI_add, pk_mul, nI_ltI, nI_leI, nI_eq, nI_clamp, nm_or, nm_and, nm_xor, nm_nd, nm_one, nm_shr, nm_b2, Bool.false_eq_true, Bool.true_eq_false, not_false_eq_true, not_true_eq_false, reduceCtorEq]; done) | (simp (disch := omega) only [wI_I, wI_s, nI_add, pk_mul, nI_ltI, nI_leI, nI_eq, nI_clamp, nm_or, nm_and, nm_xor, nm_nd, nm_one, nm_shr, nm_b2, Bool.false_eq_true, Bool.true_eq_false, not_false_eq_true, not_true_eq_false, reduceCtorEq]; omega) | omega)) ?_ | refine wp_nz (by first | decide | exact nz_n (by omega) (by omega)) ?_ | (simp (disch := omega) only [wI_I, wI_s, nI_add, pk_mul, nI_ltI, nI_leI, nI_eq, nI_clamp, nm_or, nm_and, nm_xor, nm_nd, nm_one, nm_shr, nm_b2, Bool.false_eq_true, Bool.true_eq_false, not_false_eq_true, not_true_eq_false, reduceCtorEq, up2_a, up2_k, up2_s, gw_o]))
  exact wp_rIe t0 (wp_s ⟨rfl, rfl⟩)
theorem c_settles (C : CSH h x pa pb s1 v1) (F : CF f (hL h) x pa S) (W : WS S) (a : Int32) : ∃ f', ev M_PT_settles 0 0 [some (.ref x), some (.int a)] [] (wI h f) = some (some (.int (sSett S a)), wI h f') ∧ FX x pa f f' := by
  obtain ⟨⟨c0, q0, q2, q3, q4, q5, q6, q7, q8, q9, q10, q11, q12, q13⟩, PA, PB, RSH, HSH, ⟨bC, bN, bR⟩, ISH, TSH, TSH2, GSH, SSH, ⟨lC, lN1, tC, tN⟩, ⟨rC, rR1, sC, sR1, wC, wN⟩, STR, ⟨sx1, sx2, x0⟩, PP⟩ := id C
  obtain ⟨⟨ft1, ft2⟩, ⟨fl1, fl2⟩, ⟨fe1, fe2⟩, fkw, fpn, ⟨fg1, fg2⟩, fhist, fbx, fsg⟩ := id F
  obtain ⟨⟨ws1, ws2⟩, ⟨ws3, ws4⟩, wpn, ⟨ws5, ws6, ws7⟩, ws8, ⟨ws9, ws10⟩, ⟨ws11, ws12⟩, ws13⟩ := id W
  have p1 := PA.1
  have r1 := RSH.1
  have r2 := RSH.2.1
  have r3 := RSH.2.2.1
  have r4 := RSH.2.2.2.1
  have hv1 : 1 ≤ aV S := wpn.1.1
  have hv4 : aV S ≤ 4 := wpn.1.2.1
  have hr5 : aR S ≤ 5 := wpn.1.2.2.2.1
  have hn16 : aW S ≤ 16 := lv_p hv4
  have fp0 : f pa 0 = nI (aV S) := fpn.1
  have fp1 : f pa 1 = nI (aR S) := fpn.2.1
  have gSH := GSH.1
  have tSH := TSH.1
  have sSH := SSH.1
  have iSH := ISH.1
  have hSH := HSH.1
  have hpa := PPa C
  rw [r_PT_settles_0]
  cases z0 : inN a (aR S) with
  | none =>
    have es : sSett S a = mI 1 := by unfold sSett; rw [z0]; rfl
    rw [es]
    refine ⟨f, wp_e ?_, FX.rf⟩
    refine wp_isC c0 (wp_rIe (pt_isRel C F W _) ?_)
    rw [z0]
    exact wp_bt rfl (wp_s ⟨rfl, rfl⟩)
  | some k =>
  obtain ⟨k1, k2, k3⟩ := inN_s z0
  subst k1
  have es : sSett S (nI k) = nI (ngo (aW S) (aG S k) 16) := by unfold sSett; rw [z0]; rfl
  rw [es]
  obtain ⟨g1, g2, g3, g4⟩ := pt_rl C F W k2
  have g5 := g2.1
  obtain ⟨v, h', t0, f', t1, t2, t3⟩ := sp_goes SSH g2 (by omega) g3 g4
  subst t1; subst t2
  refine ⟨f', wp_e ?_, FX.stp (t3.up (by omega) (by omega))⟩
  refine wp_isC c0 (wp_rIe (pt_isRel C F W _) ?_)
  rw [z0]
  refine wp_bf n10 ?_
  repeat (first | refine wp_isC (by assumption) ?_ | refine wp_nnR (by assumption) ?_ | refine wp_inA (by assumption) rfl (by omega) (by omega) ?_ | refine wp_isZ (by first | decide | exact b01z _) ?_ | refine wp_bt (by (first | (simp (disch := omega) only [wI_I, wI_s, nI_add, pk_mul, nI_ltI, nI_leI, nI_eq, nI_clamp, nm_or, nm_and, nm_xor, nm_nd, nm_one, nm_shr, nm_b2, Bool.false_eq_true, Bool.true_eq_false, not_false_eq_true, not_true_eq_false, reduceCtorEq]; done) | (simp (disch := omega) only [wI_I, wI_s, nI_add, pk_mul, nI_ltI, nI_leI, nI_eq, nI_clamp, nm_or, nm_and, nm_xor, nm_nd, nm_one, nm_shr, nm_b2, Bool.false_eq_true, Bool.true_eq_false, not_false_eq_true, not_true_eq_false, reduceCtorEq]; omega) | omega)) ?_ | refine wp_bf (by (first | (simp (disch := omega) only [wI_I, wI_s, nI_add, pk_mul, nI_ltI, nI_leI, nI_eq, nI_clamp, nm_or, nm_and, nm_xor, nm_nd, nm_one, nm_shr, nm_b2, Bool.false_eq_true, Bool.true_eq_false, not_false_eq_true, not_true_eq_false, reduceCtorEq]; done) | (simp (disch := omega) only [wI_I, wI_s, nI_add, pk_mul, nI_ltI, nI_leI, nI_eq, nI_clamp, nm_or, nm_and, nm_xor, nm_nd, nm_one, nm_shr, nm_b2, Bool.false_eq_true, Bool.true_eq_false, not_false_eq_true, not_true_eq_false, reduceCtorEq]; omega) | omega)) ?_ | refine wp_nz (by first | decide | exact nz_n (by omega) (by omega)) ?_ | (simp (disch := omega) only [wI_I, wI_s, nI_add, pk_mul, nI_ltI, nI_leI, nI_eq, nI_clamp, nm_or, nm_and, nm_xor, nm_nd, nm_one, nm_shr, nm_b2, Bool.false_eq_true, Bool.true_eq_false, not_false_eq_true, not_true_eq_false, reduceCtorEq, up2_a, up2_k, up2_s, gw_o]))
  exact wp_rIe t0 (wp_s ⟨rfl, rfl⟩)
theorem c_parts (C : CSH h x pa pb s1 v1) (F : CF f (hL h) x pa S) (W : WS S) (a : Int32) : ∃ f', ev M_PT_parts 0 0 [some (.ref x), some (.int a)] [] (wI h f) = some (some (.int (sParts S a)), wI h f') ∧ FX x pa f f' := by
  obtain ⟨⟨c0, q0, q2, q3, q4, q5, q6, q7, q8, q9, q10, q11, q12, q13⟩, PA, PB, RSH, HSH, ⟨bC, bN, bR⟩, ISH, TSH, TSH2, GSH, SSH, ⟨lC, lN1, tC, tN⟩, ⟨rC, rR1, sC, sR1, wC, wN⟩, STR, ⟨sx1, sx2, x0⟩, PP⟩ := id C
  obtain ⟨⟨ft1, ft2⟩, ⟨fl1, fl2⟩, ⟨fe1, fe2⟩, fkw, fpn, ⟨fg1, fg2⟩, fhist, fbx, fsg⟩ := id F
  obtain ⟨⟨ws1, ws2⟩, ⟨ws3, ws4⟩, wpn, ⟨ws5, ws6, ws7⟩, ws8, ⟨ws9, ws10⟩, ⟨ws11, ws12⟩, ws13⟩ := id W
  have p1 := PA.1
  have r1 := RSH.1
  have r2 := RSH.2.1
  have r3 := RSH.2.2.1
  have r4 := RSH.2.2.2.1
  have hv1 : 1 ≤ aV S := wpn.1.1
  have hv4 : aV S ≤ 4 := wpn.1.2.1
  have hr5 : aR S ≤ 5 := wpn.1.2.2.2.1
  have hn16 : aW S ≤ 16 := lv_p hv4
  have fp0 : f pa 0 = nI (aV S) := fpn.1
  have fp1 : f pa 1 = nI (aR S) := fpn.2.1
  have gSH := GSH.1
  have tSH := TSH.1
  have sSH := SSH.1
  have iSH := ISH.1
  have hSH := HSH.1
  have hpa := PPa C
  rw [r_PT_parts_0]
  cases z0 : inN a (aR S) with
  | none =>
    have es : sParts S a = mI 1 := by unfold sParts; rw [z0]; rfl
    rw [es]
    refine ⟨f, wp_e ?_, FX.rf⟩
    refine wp_isC c0 (wp_rIe (pt_isRel C F W _) ?_)
    rw [z0]
    exact wp_bt rfl (wp_s ⟨rfl, rfl⟩)
  | some k =>
  obtain ⟨k1, k2, k3⟩ := inN_s z0
  subst k1
  have es : sParts S (nI k) = nI (sm (fun i => if (met (aW S) (sy (aW S) (aG S k)) i).testBit i then 0 else 1) (aW S)) := by unfold sParts; rw [z0]; rfl
  rw [es]
  obtain ⟨g1, g2, g3, g4⟩ := pt_rl C F W k2
  have g5 := g2.1
  refine ⟨gw f (x + 216 + 1) (aW S) (sy (aW S) (aG S k)), wp_e ?_, FX.stp (Fr.gw (by omega) (by omega))⟩
  refine wp_isC c0 (wp_rIe (pt_isRel C F W _) ?_)
  rw [z0]
  refine wp_bf n10 ?_
  repeat (first | refine wp_isC (by assumption) ?_ | refine wp_nnR (by assumption) ?_ | refine wp_inA (by assumption) rfl (by omega) (by omega) ?_ | refine wp_isZ (by first | decide | exact b01z _) ?_ | refine wp_bt (by (first | (simp (disch := omega) only [wI_I, wI_s, nI_add, pk_mul, nI_ltI, nI_leI, nI_eq, nI_clamp, nm_or, nm_and, nm_xor, nm_nd, nm_one, nm_shr, nm_b2, Bool.false_eq_true, Bool.true_eq_false, not_false_eq_true, not_true_eq_false, reduceCtorEq]; done) | (simp (disch := omega) only [wI_I, wI_s, nI_add, pk_mul, nI_ltI, nI_leI, nI_eq, nI_clamp, nm_or, nm_and, nm_xor, nm_nd, nm_one, nm_shr, nm_b2, Bool.false_eq_true, Bool.true_eq_false, not_false_eq_true, not_true_eq_false, reduceCtorEq]; omega) | omega)) ?_ | refine wp_bf (by (first | (simp (disch := omega) only [wI_I, wI_s, nI_add, pk_mul, nI_ltI, nI_leI, nI_eq, nI_clamp, nm_or, nm_and, nm_xor, nm_nd, nm_one, nm_shr, nm_b2, Bool.false_eq_true, Bool.true_eq_false, not_false_eq_true, not_true_eq_false, reduceCtorEq]; done) | (simp (disch := omega) only [wI_I, wI_s, nI_add, pk_mul, nI_ltI, nI_leI, nI_eq, nI_clamp, nm_or, nm_and, nm_xor, nm_nd, nm_one, nm_shr, nm_b2, Bool.false_eq_true, Bool.true_eq_false, not_false_eq_true, not_true_eq_false, reduceCtorEq]; omega) | omega)) ?_ | refine wp_nz (by first | decide | exact nz_n (by omega) (by omega)) ?_ | (simp (disch := omega) only [wI_I, wI_s, nI_add, pk_mul, nI_ltI, nI_leI, nI_eq, nI_clamp, nm_or, nm_and, nm_xor, nm_nd, nm_one, nm_shr, nm_b2, Bool.false_eq_true, Bool.true_eq_false, not_false_eq_true, not_true_eq_false, reduceCtorEq, up2_a, up2_k, up2_s, gw_o]))
  exact wp_rIe (sp_sets SSH g2 (by omega) g3 g4) (wp_s ⟨rfl, rfl⟩)
theorem pt_holds {o : Nat} {G : Rw} {t : Nat} (C : CSH h x pa pb s1 v1) (F : CF f (hL h) x pa S) (W : WS S) (g2 : GS h o) (d : x + 216 ≤ o ∨ o + 1 < x + 214) (g3 : GF f o (aW S) G) (g4 : GW (aW S) G) (ht : t < 6) : ∃ f', ev M_PT_holdsFor 0 0 [some (.ref x), some (.ref o), some (.int (nI t))] [] (wI h f) = some (some (.int (nI (isB6 (aW S) G t).toNat)), wI h f') ∧ FX x pa f f' := by
  obtain ⟨⟨c0, q0, q2, q3, q4, q5, q6, q7, q8, q9, q10, q11, q12, q13⟩, PA, PB, RSH, HSH, ⟨bC, bN, bR⟩, ISH, TSH, TSH2, GSH, SSH, ⟨lC, lN1, tC, tN⟩, ⟨rC, rR1, sC, sR1, wC, wN⟩, STR, ⟨sx1, sx2, x0⟩, PP⟩ := id C
  obtain ⟨⟨ft1, ft2⟩, ⟨fl1, fl2⟩, ⟨fe1, fe2⟩, fkw, fpn, ⟨fg1, fg2⟩, fhist, fbx, fsg⟩ := id F
  obtain ⟨⟨ws1, ws2⟩, ⟨ws3, ws4⟩, wpn, ⟨ws5, ws6, ws7⟩, ws8, ⟨ws9, ws10⟩, ⟨ws11, ws12⟩, ws13⟩ := id W
  have p1 := PA.1
  have r1 := RSH.1
  have r2 := RSH.2.1
  have r3 := RSH.2.2.1
  have r4 := RSH.2.2.2.1
  have hv1 : 1 ≤ aV S := wpn.1.1
  have hv4 : aV S ≤ 4 := wpn.1.2.1
  have hr5 : aR S ≤ 5 := wpn.1.2.2.2.1
  have hn16 : aW S ≤ 16 := lv_p hv4
  have fp0 : f pa 0 = nI (aV S) := fpn.1
  have fp1 : f pa 1 = nI (aR S) := fpn.2.1
  have gSH := GSH.1
  have tSH := TSH.1
  have sSH := SSH.1
  have iSH := ISH.1
  have hSH := HSH.1
  have g5 := g2.1
  rw [r_PT_holdsFor_0]
  have ht : t = 0 ∨ t = 1 ∨ t = 2 ∨ t = 3 ∨ t = 4 ∨ t = 5 := by omega
  rcases ht with q | q | q | q | q | q <;> subst q
  · refine ⟨f, wp_e ?_, FX.rf⟩
    exact wp_bt rfl (wp_isC g5 (wp_rIe (gq_own g2 g3 g4) (wp_isZ (b01z _) (wp_s ⟨rfl, rfl⟩))))
  · refine ⟨f, wp_e ?_, FX.rf⟩
    exact wp_bf (by decide) (wp_bt rfl (wp_isC g5 (wp_rIe (gq_even g2 g3 g4) (wp_isZ (b01z _) (wp_s ⟨rfl, rfl⟩)))))
  · refine ⟨gw f (x + 214) (aW S) (jnG 3 (aW S) G G), wp_e ?_, FX.made⟩
    refine wp_bf (by decide) (wp_bf (by decide) (wp_bt rfl (wp_isC c0 (wp_nnR q11 (wp_isC gSH (wp_rVe (gq_join GSH g2 g2 (by omega) (by omega) g3 g3 g4 g4 (by decide)) (wp_isC c0 (wp_nnR q11 (wp_isC gSH ?_)))))))))
    exact wp_rIe (gq_within (G := jnG 3 (aW S) G G) GSH g2 gw_f (gw_F (by omega) g3) (GW.jnG g4 g4)) (wp_isZ (b01z _) (wp_s ⟨rfl, rfl⟩))
  · refine ⟨f, wp_e ?_, FX.rf⟩
    refine wp_bf (by decide) (wp_bf (by decide) (wp_bf (by decide) (wp_bt rfl (wp_isC g5 (wp_rIe (gq_most g2 g3 g4) ?_)))))
    have hm := mx_le (F := fun r => bc (G r)) (b := 16) (fun k => bc_le _) (aW S)
    show wp _ (fun u v => u = some (.int (nI (decide (mx (fun r => bc (G r)) (aW S) ≤ 1)).toNat)) ∧ _)
    by_cases z : mx (fun r => bc (G r)) (aW S) ≤ 1
    · rw [decide_eq_true z]
      exact wp_bf (by rw [nI_ltI (by decide) (by omega)]; omega) (wp_isZ (by decide) (wp_s ⟨rfl, rfl⟩))
    · rw [decide_eq_false z]
      exact wp_bt (by rw [nI_ltI (by decide) (by omega)]; omega) (wp_isZ (by decide) (wp_s ⟨rfl, rfl⟩))
  · refine ⟨f, wp_e ?_, FX.rf⟩
    refine wp_bf (by decide) (wp_bf (by decide) (wp_bf (by decide) (wp_bf (by decide) (wp_bt rfl (wp_isC g5 (wp_rIe (gq_mostc g2 g3 g4) ?_))))))
    have hm := mx_le (F := fun c => bc (cs (aW S) G c)) (b := 16) (fun k => bc_le _) (aW S)
    show wp _ (fun u v => u = some (.int (nI (decide (mx (fun c => bc (cs (aW S) G c)) (aW S) ≤ 1)).toNat)) ∧ _)
    by_cases z : mx (fun c => bc (cs (aW S) G c)) (aW S) ≤ 1
    · rw [decide_eq_true z]
      exact wp_bf (by rw [nI_ltI (by decide) (by omega)]; omega) (wp_isZ (by decide) (wp_s ⟨rfl, rfl⟩))
    · rw [decide_eq_false z]
      exact wp_bt (by rw [nI_ltI (by decide) (by omega)]; omega) (wp_isZ (by decide) (wp_s ⟨rfl, rfl⟩))
  · refine ⟨f, wp_e ?_, FX.rf⟩
    refine wp_bf (by decide) (wp_bf (by decide) (wp_bf (by decide) (wp_bf (by decide) (wp_bf (by decide) (wp_isC g5 (wp_rIe (gq_least g2 g3 g4) ?_))))))
    have hm := mn_le (F := fun r => bc (G r)) (b := aW S) (aW S)
    show wp _ (fun u v => u = some (.int (nI (decide (1 ≤ mn (fun r => bc (G r)) (aW S) (aW S))).toNat)) ∧ _)
    by_cases z : 1 ≤ mn (fun r => bc (G r)) (aW S) (aW S)
    · rw [decide_eq_true z]
      exact wp_bf (by rw [nI_ltI (by omega) (by decide)]; omega) (wp_isZ (by decide) (wp_s ⟨rfl, rfl⟩))
    · rw [decide_eq_false z]
      exact wp_bt (by rw [nI_ltI (by omega) (by decide)]; omega) (wp_isZ (by decide) (wp_s ⟨rfl, rfl⟩))
theorem c_is (C : CSH h x pa pb s1 v1) (F : CF f (hL h) x pa S) (W : WS S) (a w : Int32) : ∃ f', ev M_PT_is 0 0 [some (.ref x), some (.int a), some (.int w)] [] (wI h f) = some (some (.int (sIs S a w)), wI h f') ∧ FX x pa f f' := by
  obtain ⟨⟨c0, q0, q2, q3, q4, q5, q6, q7, q8, q9, q10, q11, q12, q13⟩, PA, PB, RSH, HSH, ⟨bC, bN, bR⟩, ISH, TSH, TSH2, GSH, SSH, ⟨lC, lN1, tC, tN⟩, ⟨rC, rR1, sC, sR1, wC, wN⟩, STR, ⟨sx1, sx2, x0⟩, PP⟩ := id C
  obtain ⟨⟨ft1, ft2⟩, ⟨fl1, fl2⟩, ⟨fe1, fe2⟩, fkw, fpn, ⟨fg1, fg2⟩, fhist, fbx, fsg⟩ := id F
  obtain ⟨⟨ws1, ws2⟩, ⟨ws3, ws4⟩, wpn, ⟨ws5, ws6, ws7⟩, ws8, ⟨ws9, ws10⟩, ⟨ws11, ws12⟩, ws13⟩ := id W
  have p1 := PA.1
  have r1 := RSH.1
  have r2 := RSH.2.1
  have r3 := RSH.2.2.1
  have r4 := RSH.2.2.2.1
  have hv1 : 1 ≤ aV S := wpn.1.1
  have hv4 : aV S ≤ 4 := wpn.1.2.1
  have hr5 : aR S ≤ 5 := wpn.1.2.2.2.1
  have hn16 : aW S ≤ 16 := lv_p hv4
  have fp0 : f pa 0 = nI (aV S) := fpn.1
  have fp1 : f pa 1 = nI (aR S) := fpn.2.1
  have gSH := GSH.1
  have tSH := TSH.1
  have sSH := SSH.1
  have iSH := ISH.1
  have hSH := HSH.1
  have hpa := PPa C
  rw [r_PT_is_0]
  cases z0 : inN a (aR S) with
  | none =>
    have es : sIs S a w = mI 1 := by unfold sIs; rw [z0]; rfl
    rw [es]
    refine ⟨f, wp_e ?_, FX.rf⟩
    refine wp_isC c0 (wp_rIe (pt_isRel C F W _) ?_)
    rw [z0]
    exact wp_bt rfl (wp_s ⟨rfl, rfl⟩)
  | some k =>
  obtain ⟨k1, k2, k3⟩ := inN_s z0
  subst k1
  cases z1 : inN w (6) with
  | none =>
    have es : sIs S (nI k) w = mI 1 := by unfold sIs; rw [z0]; show on (inN (w) (6)) _ = _; rw [z1]; rfl
    rw [es]
    refine ⟨f, wp_e ?_, FX.rf⟩
    refine wp_isC c0 (wp_rIe (pt_isRel C F W _) ?_)
    rw [z0]
    refine wp_bf n10 ?_
    exact wp_rn (m := 5) z1 (by decide) (wp_s ⟨rfl, rfl⟩)
  | some t =>
  obtain ⟨t1, t2, t3⟩ := inN_s z1
  subst t1
  have es : sIs S (nI k) (nI t) = nI (isB6 (aW S) (aG S k) t).toNat := by unfold sIs; rw [z0]; show on (inN (nI t) (6)) _ = _; rw [z1]; rfl
  rw [es]
  obtain ⟨g1, g2, g3, g4⟩ := pt_rl C F W k2
  have g5 := g2.1
  obtain ⟨f', b1, b2⟩ := pt_holds C F W g2 (by omega) g3 g4 t2
  refine ⟨f', wp_e ?_, b2⟩
  refine wp_isC c0 (wp_rIe (pt_isRel C F W _) ?_)
  rw [z0]
  refine wp_bf n10 ?_
  refine wp_bf (nI_pos t3) (wp_bf (by rw [nI_ltI (by decide) t3]; omega) ?_)
  repeat (first | refine wp_isC (by assumption) ?_ | refine wp_nnR (by assumption) ?_ | refine wp_inA (by assumption) rfl (by omega) (by omega) ?_ | refine wp_isZ (by first | decide | exact b01z _) ?_ | refine wp_bt (by (first | (simp (disch := omega) only [wI_I, wI_s, nI_add, pk_mul, nI_ltI, nI_leI, nI_eq, nI_clamp, nm_or, nm_and, nm_xor, nm_nd, nm_one, nm_shr, nm_b2, Bool.false_eq_true, Bool.true_eq_false, not_false_eq_true, not_true_eq_false, reduceCtorEq]; done) | (simp (disch := omega) only [wI_I, wI_s, nI_add, pk_mul, nI_ltI, nI_leI, nI_eq, nI_clamp, nm_or, nm_and, nm_xor, nm_nd, nm_one, nm_shr, nm_b2, Bool.false_eq_true, Bool.true_eq_false, not_false_eq_true, not_true_eq_false, reduceCtorEq]; omega) | omega)) ?_ | refine wp_bf (by (first | (simp (disch := omega) only [wI_I, wI_s, nI_add, pk_mul, nI_ltI, nI_leI, nI_eq, nI_clamp, nm_or, nm_and, nm_xor, nm_nd, nm_one, nm_shr, nm_b2, Bool.false_eq_true, Bool.true_eq_false, not_false_eq_true, not_true_eq_false, reduceCtorEq]; done) | (simp (disch := omega) only [wI_I, wI_s, nI_add, pk_mul, nI_ltI, nI_leI, nI_eq, nI_clamp, nm_or, nm_and, nm_xor, nm_nd, nm_one, nm_shr, nm_b2, Bool.false_eq_true, Bool.true_eq_false, not_false_eq_true, not_true_eq_false, reduceCtorEq]; omega) | omega)) ?_ | refine wp_nz (by first | decide | exact nz_n (by omega) (by omega)) ?_ | (simp (disch := omega) only [wI_I, wI_s, nI_add, pk_mul, nI_ltI, nI_leI, nI_eq, nI_clamp, nm_or, nm_and, nm_xor, nm_nd, nm_one, nm_shr, nm_b2, Bool.false_eq_true, Bool.true_eq_false, not_false_eq_true, not_true_eq_false, reduceCtorEq, up2_a, up2_k, up2_s, gw_o]))
  refine wp_rIe b1 ?_
  cases isB6 (aW S) (aG S k) t with
  | false => exact wp_bt rfl (wp_s ⟨rfl, rfl⟩)
  | true => exact wp_bf n10 (wp_s ⟨rfl, rfl⟩)
theorem c_busiest (C : CSH h x pa pb s1 v1) (F : CF f (hL h) x pa S) (W : WS S) (a w : Int32) : ∃ f', ev M_PT_busiest 0 0 [some (.ref x), some (.int a), some (.int w), none, none, none, none, none] [] (wI h f) = some (some (.int (sBusy S a w)), wI h f') ∧ FX x pa f f' := by
  obtain ⟨⟨c0, q0, q2, q3, q4, q5, q6, q7, q8, q9, q10, q11, q12, q13⟩, PA, PB, RSH, HSH, ⟨bC, bN, bR⟩, ISH, TSH, TSH2, GSH, SSH, ⟨lC, lN1, tC, tN⟩, ⟨rC, rR1, sC, sR1, wC, wN⟩, STR, ⟨sx1, sx2, x0⟩, PP⟩ := id C
  obtain ⟨⟨ft1, ft2⟩, ⟨fl1, fl2⟩, ⟨fe1, fe2⟩, fkw, fpn, ⟨fg1, fg2⟩, fhist, fbx, fsg⟩ := id F
  obtain ⟨⟨ws1, ws2⟩, ⟨ws3, ws4⟩, wpn, ⟨ws5, ws6, ws7⟩, ws8, ⟨ws9, ws10⟩, ⟨ws11, ws12⟩, ws13⟩ := id W
  have p1 := PA.1
  have r1 := RSH.1
  have r2 := RSH.2.1
  have r3 := RSH.2.2.1
  have r4 := RSH.2.2.2.1
  have hv1 : 1 ≤ aV S := wpn.1.1
  have hv4 : aV S ≤ 4 := wpn.1.2.1
  have hr5 : aR S ≤ 5 := wpn.1.2.2.2.1
  have hn16 : aW S ≤ 16 := lv_p hv4
  have fp0 : f pa 0 = nI (aV S) := fpn.1
  have fp1 : f pa 1 = nI (aR S) := fpn.2.1
  have gSH := GSH.1
  have tSH := TSH.1
  have sSH := SSH.1
  have iSH := ISH.1
  have hSH := HSH.1
  have hpa := PPa C
  rw [r_PT_busiest_0]
  cases z0 : inN a (aR S) with
  | none =>
    have es : sBusy S a w = mI 1 := by unfold sBusy; rw [z0]; rfl
    rw [es]
    refine ⟨f, wp_e ?_, FX.rf⟩
    refine wp_isC c0 (wp_rIe (pt_isRel C F W _) ?_)
    rw [z0]
    exact wp_bt rfl (wp_s ⟨rfl, rfl⟩)
  | some k =>
  obtain ⟨k1, k2, k3⟩ := inN_s z0
  subst k1
  cases z1 : inN w (2) with
  | none =>
    have es : sBusy S (nI k) w = mI 1 := by unfold sBusy; rw [z0]; show on (inN (w) (2)) _ = _; rw [z1]; rfl
    rw [es]
    refine ⟨f, wp_e ?_, FX.rf⟩
    refine wp_isC c0 (wp_rIe (pt_isRel C F W _) ?_)
    rw [z0]
    refine wp_bf n10 ?_
    exact wp_rn (m := 1) z1 (by decide) (wp_s ⟨rfl, rfl⟩)
  | some t =>
  obtain ⟨t1, t2, t3⟩ := inN_s z1
  subst t1
  have es : sBusy S (nI k) (nI t) = nI (am (bzf (aW S) (aG S k) t) (aW S)) := by unfold sBusy; rw [z0]; show on (inN (nI t) (2)) _ = _; rw [z1]; rfl
  rw [es]
  obtain ⟨g1, g2, g3, g4⟩ := pt_rl C F W k2
  have g5 := g2.1
  obtain ⟨g6, g7, g8, g9⟩ := id g2
  have gl := g4.lt
  have hb : ∀ i, bzf (aW S) (aG S k) t i ≤ 16 := fun i => bc_le _
  have tt : t = 0 ∨ t = 1 := by omega
  refine ⟨f, wp_e ?_, FX.rf⟩
  refine wp_isC c0 (wp_rIe (pt_isRel C F W _) ?_)
  rw [z0]
  refine wp_bf n10 ?_
  refine wp_bf (nI_pos t3) (wp_bf (by rw [nI_ltI (by decide) t3]; omega) ?_)
  repeat (first | refine wp_isC (by assumption) ?_ | refine wp_nnR (by assumption) ?_ | refine wp_inA (by assumption) rfl (by omega) (by omega) ?_ | refine wp_isZ (by first | decide | exact b01z _) ?_ | refine wp_bt (by (first | (simp (disch := omega) only [wI_I, wI_s, nI_add, pk_mul, nI_ltI, nI_leI, nI_eq, nI_clamp, nm_or, nm_and, nm_xor, nm_nd, nm_one, nm_shr, nm_b2, Bool.false_eq_true, Bool.true_eq_false, not_false_eq_true, not_true_eq_false, reduceCtorEq]; done) | (simp (disch := omega) only [wI_I, wI_s, nI_add, pk_mul, nI_ltI, nI_leI, nI_eq, nI_clamp, nm_or, nm_and, nm_xor, nm_nd, nm_one, nm_shr, nm_b2, Bool.false_eq_true, Bool.true_eq_false, not_false_eq_true, not_true_eq_false, reduceCtorEq]; omega) | omega)) ?_ | refine wp_bf (by (first | (simp (disch := omega) only [wI_I, wI_s, nI_add, pk_mul, nI_ltI, nI_leI, nI_eq, nI_clamp, nm_or, nm_and, nm_xor, nm_nd, nm_one, nm_shr, nm_b2, Bool.false_eq_true, Bool.true_eq_false, not_false_eq_true, not_true_eq_false, reduceCtorEq]; done) | (simp (disch := omega) only [wI_I, wI_s, nI_add, pk_mul, nI_ltI, nI_leI, nI_eq, nI_clamp, nm_or, nm_and, nm_xor, nm_nd, nm_one, nm_shr, nm_b2, Bool.false_eq_true, Bool.true_eq_false, not_false_eq_true, not_true_eq_false, reduceCtorEq]; omega) | omega)) ?_ | refine wp_nz (by first | decide | exact nz_n (by omega) (by omega)) ?_ | (simp (disch := omega) only [wI_I, wI_s, nI_add, pk_mul, nI_ltI, nI_leI, nI_eq, nI_clamp, nm_or, nm_and, nm_xor, nm_nd, nm_one, nm_shr, nm_b2, Bool.false_eq_true, Bool.true_eq_false, not_false_eq_true, not_true_eq_false, reduceCtorEq, up2_a, up2_k, up2_s, gw_o]))
  have am_lt : ∀ m, am (bzf (aW S) (aG S k) t) m ≤ m := by
    intro m
    induction m with
    | zero => exact Nat.le_refl _
    | succ m ih => rw [am]; split <;> omega
  have L : ∀ m i, i + m = aW S → ∀ y, (i = 0 → y = mI 1) → (0 < i → y = nI (bzf (aW S) (aG S k) t (am (bzf (aW S) (aG S k) t) i))) → ev M_PT_busiest 0 24 [none, none, some (.int (nI t)), some (.ref (x + 44 + 2 * k)), some (.int (nI (am (bzf (aW S) (aG S k) t) i))), some (.int y), some (.int (nI i)), none] [] (wI h f) = some (some (.int (nI (am (bzf (aW S) (aG S k) t) (aW S)))), wI h f) := by
    intro m
    induction m with
    | zero =>
      intro i hi y _ _
      rw [r_PT_busiest_24]
      apply wp_e
      refine wp_isC g5 ?_
      rw [wI_I, g3.1]
      refine wp_bf (by rw [nI_ltI (by omega) (by omega)]; omega) (wp_s ⟨?_, rfl⟩)
      rw [show i = aW S by omega]
    | succ m ih =>
      intro i hi y h0 h1
      have ih := ih (i + 1) (by omega)
      have fin : ∀ s, s < 2 ^ 16 → bc s = bzf (aW S) (aG S k) t i → ev M_PT_busiest 0 39 [none, none, some (.int (nI t)), some (.ref (x + 44 + 2 * k)), some (.int (nI (am (bzf (aW S) (aG S k) t) i))), some (.int y), some (.int (nI i)), none] [(.int (nI s))] (wI h f) = some (some (.int (nI (am (bzf (aW S) (aG S k) t) (aW S)))), wI h f) := by
        intro s hs es
        rw [r_PT_busiest_39]
        simp only [r_PT_busiest_49]
        apply wp_e
        refine wp_rIe (i_bc _ hs) ?_
        rw [es, nI_add]
        have e1 : am (bzf (aW S) (aG S k) t) (i + 1) = if i = 0 ∨ bzf (aW S) (aG S k) t (am (bzf (aW S) (aG S k) t) i) < bzf (aW S) (aG S k) t i then i else am (bzf (aW S) (aG S k) t) i := rfl
        rw [e1] at ih
        have hbi := hb i
        have hba := hb (am (bzf (aW S) (aG S k) t) i)
        by_cases z : i = 0
        · rw [if_pos (Or.inl z)] at ih
          refine wp_bt (by rw [h0 z]; exact mI_lt (by omega)) ?_
          exact wp_of (ih _ (fun e => by omega) (fun _ => rfl)) ⟨rfl, rfl⟩
        · have hy := h1 (by omega)
          by_cases z2 : bzf (aW S) (aG S k) t (am (bzf (aW S) (aG S k) t) i) < bzf (aW S) (aG S k) t i
          · rw [if_pos (Or.inr z2)] at ih
            refine wp_bt (by rw [hy, nI_ltI (by omega) (by omega)]; exact z2) ?_
            exact wp_of (ih _ (fun e => by omega) (fun _ => rfl)) ⟨rfl, rfl⟩
          · rw [if_neg (by omega)] at ih
            refine wp_bf (by rw [hy, nI_ltI (by omega) (by omega)]; exact z2) ?_
            exact wp_of (ih _ (fun e => by omega) (fun _ => hy)) ⟨rfl, rfl⟩
      rw [r_PT_busiest_24]
      apply wp_e
      refine wp_isC g5 ?_
      rw [wI_I, g3.1]
      refine wp_bt (by rw [nI_ltI (by omega) (by omega)]; omega) ?_
      rcases tt with q | q
      · refine wp_bt (by rw [q]) (wp_isC g5 (wp_nnR g7 (wp_isC g8 (wp_inA g9 rfl (by omega) (by omega) ?_))))
        rw [nI_clamp (by omega), g3.2 i (by omega)]
        exact wp_of (fin _ (gl i) (by unfold bzf; rw [if_pos q])) ⟨rfl, rfl⟩
      · refine wp_bf (by rw [q]; decide) (wp_isC g5 (wp_rIe (gq_with g2 g3 g4 (by omega)) ?_))
        exact wp_of (fin _ (Nat.lt_of_lt_of_le cs_lt (Nat.pow_le_pow_right (by decide) hn16)) (by unfold bzf; rw [if_neg (by omega)])) ⟨rfl, rfl⟩
  exact wp_of (L (aW S) 0 (by omega) (mI 1) (fun _ => rfl) (fun e => by omega)) ⟨rfl, rfl⟩
theorem c_densest (C : CSH h x pa pb s1 v1) (F : CF f (hL h) x pa S) (W : WS S) (a l w : Int32) : ∃ f', ev M_PT_densest 0 0 [some (.ref x), some (.int a), some (.int l), some (.int w), none, none, none, none, none] [] (wI h f) = some (some (.int (sDens S a l w)), wI h f') ∧ FX x pa f f' := by
  obtain ⟨⟨c0, q0, q2, q3, q4, q5, q6, q7, q8, q9, q10, q11, q12, q13⟩, PA, PB, RSH, HSH, ⟨bC, bN, bR⟩, ISH, TSH, TSH2, GSH, SSH, ⟨lC, lN1, tC, tN⟩, ⟨rC, rR1, sC, sR1, wC, wN⟩, STR, ⟨sx1, sx2, x0⟩, PP⟩ := id C
  obtain ⟨⟨ft1, ft2⟩, ⟨fl1, fl2⟩, ⟨fe1, fe2⟩, fkw, fpn, ⟨fg1, fg2⟩, fhist, fbx, fsg⟩ := id F
  obtain ⟨⟨ws1, ws2⟩, ⟨ws3, ws4⟩, wpn, ⟨ws5, ws6, ws7⟩, ws8, ⟨ws9, ws10⟩, ⟨ws11, ws12⟩, ws13⟩ := id W
  have p1 := PA.1
  have r1 := RSH.1
  have r2 := RSH.2.1
  have r3 := RSH.2.2.1
  have r4 := RSH.2.2.2.1
  have hv1 : 1 ≤ aV S := wpn.1.1
  have hv4 : aV S ≤ 4 := wpn.1.2.1
  have hr5 : aR S ≤ 5 := wpn.1.2.2.2.1
  have hn16 : aW S ≤ 16 := lv_p hv4
  have fp0 : f pa 0 = nI (aV S) := fpn.1
  have fp1 : f pa 1 = nI (aR S) := fpn.2.1
  have gSH := GSH.1
  have tSH := TSH.1
  have sSH := SSH.1
  have iSH := ISH.1
  have hSH := HSH.1
  have hpa := PPa C
  rw [r_PT_densest_0]
  cases z0 : inN a (aR S) with
  | none =>
    have es : sDens S a l w = mI 1 := by unfold sDens; rw [z0]; rfl
    rw [es]
    refine ⟨f, wp_e ?_, FX.rf⟩
    refine wp_isC c0 (wp_rIe (pt_isRel C F W _) ?_)
    rw [z0]
    exact wp_bt rfl (wp_s ⟨rfl, rfl⟩)
  | some k =>
  obtain ⟨k1, k2, k3⟩ := inN_s z0
  subst k1
  cases z1 : inN l (aV S + 1) with
  | none =>
    have es : sDens S (nI k) l w = mI 1 := by unfold sDens; rw [z0]; show on (inN (l) (aV S + 1)) _ = _; rw [z1]; rfl
    rw [es]
    refine ⟨f, wp_e ?_, FX.rf⟩
    refine wp_isC c0 (wp_rIe (pt_isRel C F W _) ?_)
    rw [z0]
    refine wp_bf n10 ?_
    refine wp_isC c0 (wp_rIe (pt_isLevel C F W _) ?_)
    rw [z1]
    exact wp_bt rfl (wp_s ⟨rfl, rfl⟩)
  | some j =>
  obtain ⟨j1, j2, j3⟩ := inN_s z1
  subst j1
  cases z2 : inN w (3) with
  | none =>
    have es : sDens S (nI k) (nI j) w = mI 1 := by unfold sDens; rw [z0]; show on (inN (nI j) (aV S + 1)) _ = _; rw [z1]; show on (inN (w) (3)) _ = _; rw [z2]; rfl
    rw [es]
    refine ⟨f, wp_e ?_, FX.rf⟩
    refine wp_isC c0 (wp_rIe (pt_isRel C F W _) ?_)
    rw [z0]
    refine wp_bf n10 ?_
    refine wp_isC c0 (wp_rIe (pt_isLevel C F W _) ?_)
    rw [z1]
    refine wp_bf n10 ?_
    exact wp_rn (m := 2) z2 (by decide) (wp_s ⟨rfl, rfl⟩)
  | some t =>
  obtain ⟨t1, t2, t3⟩ := inN_s z2
  subst t1
  have es : sDens S (nI k) (nI j) (nI t) = if t = 0 then nI (dBlk S k j / 2 ^ j * 2 ^ (aV S - j)) else if t = 1 then nI (dBlk S k j % 2 ^ j * 2 ^ (aV S - j)) else nI (cb (aV S) j (aG S k) (dBlk S k j)) := by unfold sDens; rw [z0]; show on (inN (nI j) (aV S + 1)) _ = _; rw [z1]; show on (inN (nI t) (3)) _ = _; rw [z2]; rfl
  rw [es]
  obtain ⟨g1, g2, g3, g4⟩ := pt_rl C F W k2
  have g5 := g2.1
  have am_lt : ∀ (Z : Nat → Nat) m, 0 < m → am Z m < m := by
    intro Z m
    induction m with
    | zero => intro z; omega
    | succ m ih =>
      intro _
      rw [am]
      by_cases z : m = 0
      · rw [if_pos (Or.inl z)]; omega
      · have := ih (by omega)
        split <;> omega
  have hd : dBlk S k j < 2 ^ (2 * j) := am_lt _ _ (Nat.two_pow_pos _)
  have h8 : 2 ^ (2 * j) ≤ 2 ^ 8 := Nat.pow_le_pow_right (by decide) (by omega)
  obtain ⟨b1, b2⟩ := bk_in (show j ≤ aV S by omega) hd
  have hw : 2 ^ aV S ≤ 16 := lv_p hv4
  have hp0 := Nat.two_pow_pos (aV S - j)
  have tt : t = 0 ∨ t = 1 ∨ t = 2 := by omega
  refine ⟨f, wp_e ?_, FX.rf⟩
  refine wp_isC c0 (wp_rIe (pt_isRel C F W _) ?_)
  rw [z0]
  refine wp_bf n10 ?_
  refine wp_isC c0 (wp_rIe (pt_isLevel C F W _) ?_)
  rw [z1]
  refine wp_bf n10 ?_
  refine wp_bf (nI_pos t3) (wp_bf (by rw [nI_ltI (by decide) t3]; omega) ?_)
  repeat (first | refine wp_isC (by assumption) ?_ | refine wp_nnR (by assumption) ?_ | refine wp_inA (by assumption) rfl (by omega) (by omega) ?_ | refine wp_isZ (by first | decide | exact b01z _) ?_ | refine wp_bt (by (first | (simp (disch := omega) only [wI_I, wI_s, nI_add, pk_mul, nI_ltI, nI_leI, nI_eq, nI_clamp, nm_or, nm_and, nm_xor, nm_nd, nm_one, nm_shr, nm_b2, Bool.false_eq_true, Bool.true_eq_false, not_false_eq_true, not_true_eq_false, reduceCtorEq, fp0]; done) | (simp (disch := omega) only [wI_I, wI_s, nI_add, pk_mul, nI_ltI, nI_leI, nI_eq, nI_clamp, nm_or, nm_and, nm_xor, nm_nd, nm_one, nm_shr, nm_b2, Bool.false_eq_true, Bool.true_eq_false, not_false_eq_true, not_true_eq_false, reduceCtorEq, fp0]; omega) | omega)) ?_ | refine wp_bf (by (first | (simp (disch := omega) only [wI_I, wI_s, nI_add, pk_mul, nI_ltI, nI_leI, nI_eq, nI_clamp, nm_or, nm_and, nm_xor, nm_nd, nm_one, nm_shr, nm_b2, Bool.false_eq_true, Bool.true_eq_false, not_false_eq_true, not_true_eq_false, reduceCtorEq, fp0]; done) | (simp (disch := omega) only [wI_I, wI_s, nI_add, pk_mul, nI_ltI, nI_leI, nI_eq, nI_clamp, nm_or, nm_and, nm_xor, nm_nd, nm_one, nm_shr, nm_b2, Bool.false_eq_true, Bool.true_eq_false, not_false_eq_true, not_true_eq_false, reduceCtorEq, fp0]; omega) | omega)) ?_ | refine wp_nz (by first | decide | exact nz_n (by omega) (by omega)) ?_ | (simp (disch := omega) only [wI_I, wI_s, nI_add, pk_mul, nI_ltI, nI_leI, nI_eq, nI_clamp, nm_or, nm_and, nm_xor, nm_nd, nm_one, nm_shr, nm_b2, Bool.false_eq_true, Bool.true_eq_false, not_false_eq_true, not_true_eq_false, reduceCtorEq, up2_a, up2_k, up2_s, gw_o, fp0]))
  refine wp_rIe (gq_full g2 g3 g4 hv4 (by omega)) ?_
  show wp _ _
  refine wp_isC c0 (wp_nnR q2 (wp_isC p1 ?_))
  rw [wI_I, fp0]
  have e0 : am (cb (aV S) j (aG S k)) (2 ^ (2 * j)) = dBlk S k j := rfl
  rw [e0]
  rcases tt with q | q | q <;> subst q
  · refine wp_bt rfl ?_
    rw [nm_shr (by omega) (by omega), pk_sub (by omega), nm_shl (by omega) (by omega)]
    exact wp_s ⟨rfl, rfl⟩
  · refine wp_bf (by decide) (wp_bt rfl ?_)
    rw [nm_m1 (Nat.two_pow_pos _), nm_and, Nat.and_two_pow_sub_one_eq_mod, pk_sub (by omega), nm_shl (by omega) (by omega)]
    exact wp_s ⟨rfl, rfl⟩
  · refine wp_bf (by decide) (wp_bf (by decide) (wp_isC c0 (wp_nnR q2 (wp_isC p1 (wp_isC g5 ?_)))))
    rw [fp0]
    refine wp_rIe (gq_blk g2 g3 g4 hv4 (by omega) hd) (wp_s ⟨rfl, rfl⟩)
end
