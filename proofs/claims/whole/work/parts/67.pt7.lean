/-! The class's methods: rows, what is seen, odds, boxes. -/
def nds (m : Nat) : Nat → List Nat
  | 0 => []
  | k + 1 => nds m k ++ (if m.testBit k then [k] else [])
theorem nds_len (m : Nat) : ∀ k, (nds m k).length ≤ k
  | 0 => Nat.le_refl _
  | k + 1 => by
    have := nds_len m k
    rw [nds, List.length_append]
    split
    · show _ + 1 ≤ _; omega
    · show _ + 0 ≤ _; omega
theorem nds_lt (m : Nat) : ∀ k e, e ∈ nds m k → e < k
  | 0, e, h => by cases h
  | k + 1, e, h => by
    rw [nds] at h
    rcases List.mem_append.mp h with z | z
    · have := nds_lt m k e z; omega
    · split at z
      · have : e = k := by simpa using z
        omega
      · cases z
def lays (S : Abs) (a b : Int32) (K : Nat → Nat → Nat) : List Nat := match inN a (aR S) with
  | some k => (match inN b (aW S) with
    | some i => nds (K k i) 16
    | none => [])
  | none => []
def sLay (S : Abs) (a b : Int32) (K : Nat → Nat → Nat) : Int32 := on (inN a (aR S)) fun k => on (inN b (aW S)) fun i => nI (nds (K k i) 16).length
def rowK (S : Abs) (k i : Nat) : Nat := aG S k i
def colK (S : Abs) (k i : Nat) : Nat := cs (aW S) (aG S k) i
section
variable {h : MH} {f : Nat → Nat → Int32} {x pa pb s1 v1 : Nat} {S : Abs}
theorem pt_layN {m : Nat} (c0 : hC h x = 12) (q13 : hR h x 13 = some (x + 221)) (lC : hC h (x + 221) = 20) (lN1 : hN h (x + 221) = 16) (hm : m < 2 ^ 16) : ∀ k i f, i + k = 16 → f x 14 = nI (nds m i).length → (∀ j e, (nds m i)[j]? = some e → f (x + 221) j = nI e) → ∃ f', ev M_PT_layNodes 0 3 [some (.ref x), some (.int (nI m)), some (.int (nI i))] [] (wI h f) = some (none, wI h f') ∧ f' x 14 = nI (nds m 16).length ∧ (∀ j e, (nds m 16)[j]? = some e → f' (x + 221) j = nI e) ∧ (∀ a, a ≠ x → a ≠ x + 221 → f' a = f a) ∧ ∀ k, k ≠ 14 → f' x k = f x k := by
  intro k
  induction k with
  | zero =>
    intro i f hi e1 e2
    have : i = 16 := by omega
    subst this
    refine ⟨f, ?_, e1, e2, fun _ _ _ => rfl, fun _ _ => rfl⟩
    rw [r_PT_layNodes_3]
    exact if_neg (by decide)
  | succ k ih =>
    intro i f hi e1 e2
    have hl := nds_len m i
    rw [r_PT_layNodes_3]
    simp only [r_PT_layNodes_26, nI_add]
    have en : nds m (i + 1) = nds m i ++ (if m.testBit i then [i] else []) := rfl
    cases z : m.testBit i with
    | false =>
      rw [z, if_neg (by decide), List.append_nil] at en
      rw [← en] at e1 e2
      obtain ⟨f', i1, i2⟩ := ih (i + 1) f (by omega) e1 e2
      refine ⟨f', ?_, i2⟩
      apply wp_e
      refine wp_bt (by rw [nI_ltI (by omega) (by decide)]; omega) (wp_bf (by rw [nm_bit (by omega) (by omega), z]; decide) ?_)
      exact wp_of i1 ⟨rfl, rfl⟩
    | true =>
      rw [z, if_pos rfl] at en
      obtain ⟨f', i1, i2, i3, i4, i5⟩ := ih (i + 1) (up2 (up2 f (x + 221) (nds m i).length (nI i)) x 14 (nI ((nds m i).length + 1))) (by omega) (by rw [up2_s, en, List.length_append]; rfl) (fun j e he => by
        rw [en] at he
        rw [up2_a (by omega)]
        rcases app1 he with ⟨w, w2⟩ | ⟨w, w2⟩
        · rw [up2_k (by omega)]; exact e2 j e w2
        · rw [w, w2, up2_s])
      refine ⟨f', ?_, i2, i3, fun a h1 h2 => ?_, fun k hk => ?_⟩
      · apply wp_e
        refine wp_bt (by rw [nI_ltI (by omega) (by decide)]; omega) (wp_bt (by rw [nm_bit (by omega) (by omega)]; exact z) ?_)
        repeat (first | refine wp_isC (by assumption) ?_ | refine wp_nnR (by assumption) ?_ | refine wp_inA (by assumption) rfl (by omega) (by omega) ?_ | refine wp_isZ (by first | decide | exact b01z _) ?_ | refine wp_bt (by (first | (simp (disch := omega) only [wI_I, wI_s, nI_add, pk_mul, nI_ltI, nI_leI, nI_eq, nI_clamp, nm_or, nm_and, nm_xor, nm_nd, nm_one, nm_shr, nm_b2, Bool.false_eq_true, Bool.true_eq_false, not_false_eq_true, not_true_eq_false, reduceCtorEq, e1]; done) | (simp (disch := omega) only [wI_I, wI_s, nI_add, pk_mul, nI_ltI, nI_leI, nI_eq, nI_clamp, nm_or, nm_and, nm_xor, nm_nd, nm_one, nm_shr, nm_b2, Bool.false_eq_true, Bool.true_eq_false, not_false_eq_true, not_true_eq_false, reduceCtorEq, e1]; omega) | omega)) ?_ | refine wp_bf (by (first | (simp (disch := omega) only [wI_I, wI_s, nI_add, pk_mul, nI_ltI, nI_leI, nI_eq, nI_clamp, nm_or, nm_and, nm_xor, nm_nd, nm_one, nm_shr, nm_b2, Bool.false_eq_true, Bool.true_eq_false, not_false_eq_true, not_true_eq_false, reduceCtorEq, e1]; done) | (simp (disch := omega) only [wI_I, wI_s, nI_add, pk_mul, nI_ltI, nI_leI, nI_eq, nI_clamp, nm_or, nm_and, nm_xor, nm_nd, nm_one, nm_shr, nm_b2, Bool.false_eq_true, Bool.true_eq_false, not_false_eq_true, not_true_eq_false, reduceCtorEq, e1]; omega) | omega)) ?_ | refine wp_nz (by first | decide | exact nz_n (by omega) (by omega)) ?_ | (simp (disch := omega) only [wI_I, wI_s, nI_add, pk_mul, nI_ltI, nI_leI, nI_eq, nI_clamp, nm_or, nm_and, nm_xor, nm_nd, nm_one, nm_shr, nm_b2, Bool.false_eq_true, Bool.true_eq_false, not_false_eq_true, not_true_eq_false, reduceCtorEq, up2_a, up2_k, up2_s, gw_o, e1]))
        exact wp_of i1 ⟨rfl, rfl⟩
      · rw [i4 a h1 h2, up2_a h1, up2_a h2]
      · rw [i5 k hk, up2_k hk, up2_a (by omega)]
theorem CF_l0 (C : CSH h x pa pb s1 v1) (F : CF f (hL h) x pa S) (W : WS S) : CF (up2 f x 14 (nI 0)) (hL h) x pa (bL S []) := by
  obtain ⟨⟨c0, q0, q2, q3, q4, q5, q6, q7, q8, q9, q10, q11, q12, q13⟩, PA, PB, RSH, HSH, ⟨bC, bN, bR⟩, ISH, TSH, TSH2, GSH, SSH, ⟨lC, lN1, tC, tN⟩, ⟨rC, rR1, sC, sR1, wC, wN⟩, STR, ⟨sx1, sx2, x0⟩, PP⟩ := id C
  obtain ⟨⟨ft1, ft2⟩, ⟨fl1, fl2⟩, ⟨fe1, fe2⟩, fkw, fpn, ⟨fg1, fg2⟩, fhist, fbx, fsg⟩ := id F
  obtain ⟨⟨ws1, ws2⟩, ⟨ws3, ws4⟩, wpn, ⟨ws5, ws6, ws7⟩, ws8, ⟨ws9, ws10⟩, ⟨ws11, ws12⟩, ws13⟩ := id W
  have p1 := PA.1
  have r1 := RSH.1
  have r2 := RSH.2.1
  have r3 := RSH.2.2.1
  have r4 := RSH.2.2.2.1
  have hv1 : 1 ≤ aV S := wpn.1.1
  have hv4 : aV S ≤ 4 := wpn.1.2.1
  have hr5 : aR S ≤ 5 := wpn.1.2.2.2.1
  have hn16 : aW S ≤ 16 := lv_p hv4
  have fp0 : f pa 0 = nI (aV S) := fpn.1
  have fp1 : f pa 1 = nI (aR S) := fpn.2.1
  have gSH := GSH.1
  have tSH := TSH.1
  have sSH := SSH.1
  have iSH := ISH.1
  have hSH := HSH.1
  exact CF_l F (fun a h1 _ => up2_a h1) (fun k hk => up2_k hk) up2_s (fun i e he => by cases he) PP hr5
theorem WS_l {l : List Nat} (W : WS S) (h1 : l.length ≤ 16) (h2 : ∀ e, e ∈ l → e < 16) : WS (bL S l) := by
  obtain ⟨w1, w2, w3, w4, w5, w6, w7, w8⟩ := W
  exact ⟨w1, w2, w3, w4, w5, ⟨h1, h2⟩, w7, w8⟩
theorem c_row (C : CSH h x pa pb s1 v1) (F : CF f (hL h) x pa S) (W : WS S) (a b : Int32) : ∃ f', ev M_PT_row 0 0 [some (.ref x), some (.int a), some (.int b)] [] (wI h f) = some (some (.int (sLay S a b (rowK S))), wI h f') ∧ CF f' (hL h) x pa (bL S (lays S a b (rowK S))) ∧ Fr x (x + 222) f f' := by
  obtain ⟨⟨c0, q0, q2, q3, q4, q5, q6, q7, q8, q9, q10, q11, q12, q13⟩, PA, PB, RSH, HSH, ⟨bC, bN, bR⟩, ISH, TSH, TSH2, GSH, SSH, ⟨lC, lN1, tC, tN⟩, ⟨rC, rR1, sC, sR1, wC, wN⟩, STR, ⟨sx1, sx2, x0⟩, PP⟩ := id C
  obtain ⟨⟨ft1, ft2⟩, ⟨fl1, fl2⟩, ⟨fe1, fe2⟩, fkw, fpn, ⟨fg1, fg2⟩, fhist, fbx, fsg⟩ := id F
  obtain ⟨⟨ws1, ws2⟩, ⟨ws3, ws4⟩, wpn, ⟨ws5, ws6, ws7⟩, ws8, ⟨ws9, ws10⟩, ⟨ws11, ws12⟩, ws13⟩ := id W
  have p1 := PA.1
  have r1 := RSH.1
  have r2 := RSH.2.1
  have r3 := RSH.2.2.1
  have r4 := RSH.2.2.2.1
  have hv1 : 1 ≤ aV S := wpn.1.1
  have hv4 : aV S ≤ 4 := wpn.1.2.1
  have hr5 : aR S ≤ 5 := wpn.1.2.2.2.1
  have hn16 : aW S ≤ 16 := lv_p hv4
  have fp0 : f pa 0 = nI (aV S) := fpn.1
  have fp1 : f pa 1 = nI (aR S) := fpn.2.1
  have gSH := GSH.1
  have tSH := TSH.1
  have sSH := SSH.1
  have iSH := ISH.1
  have hSH := HSH.1
  have F0 := CF_l0 C F W
  have W0 : WS (bL S []) := WS_l W (by decide) (fun e he => by cases he)
  rw [r_PT_row_0]
  simp only [wI_s]
  cases z0 : inN a (aR S) with
  | none =>
    have z0' : inN a (aR (bL S [])) = none := z0
    have es : sLay S a b (rowK S) = mI 1 := by unfold sLay; rw [z0]; rfl
    have el : lays S a b (rowK S) = [] := by unfold lays; rw [z0]
    rw [es, el]
    refine ⟨up2 f x 14 (nI 0), wp_e (wp_isC c0 (wp_isC c0 (wp_rIe (pt_isRel C F0 W0 _) ?_))), F0, Fr.u2 (by omega) (by omega)⟩
    rw [z0']
    exact wp_bt rfl (wp_s ⟨rfl, rfl⟩)
  | some k =>
  have z0' : inN a (aR (bL S [])) = some k := z0
  cases z1 : inN b (aW S) with
  | none =>
    have z1' : inN b (aW (bL S [])) = none := z1
    have es : sLay S a b (rowK S) = mI 1 := by unfold sLay; rw [z0]; show on (inN b (aW S)) _ = _; rw [z1]; rfl
    have el : lays S a b (rowK S) = [] := by unfold lays; rw [z0]; show (match inN b (aW S) with | some i => nds (rowK S k i) 16 | none => []) = _; rw [z1]
    rw [es, el]
    refine ⟨up2 f x 14 (nI 0), wp_e (wp_isC c0 (wp_isC c0 (wp_rIe (pt_isRel C F0 W0 _) ?_))), F0, Fr.u2 (by omega) (by omega)⟩
    rw [z0']
    refine wp_bf n10 (wp_isC c0 (wp_rIe (pt_isNode C F0 W0 _) ?_))
    rw [z1']
    exact wp_bt rfl (wp_s ⟨rfl, rfl⟩)
  | some i =>
  have z1' : inN b (aW (bL S [])) = some i := z1
  obtain ⟨k1, k2, k3⟩ := inN_s z0
  obtain ⟨i1', i2', i3'⟩ := inN_s z1
  subst k1; subst i1'
  obtain ⟨g1, g2, g3, g4⟩ := pt_rl C F0 W0 (S := bL S []) k2
  have g3 : GF (up2 f x 14 (nI 0)) (x + 44 + 2 * k) (aW S) (aG S k) := g3
  have g4 : GW (aW S) (aG S k) := g4
  obtain ⟨g5, g6, g7, g8⟩ := id g2
  have hm : rowK S k i < 2 ^ 16 := g4.lt i
  obtain ⟨f', i1, i2, i3, i4, i5⟩ := pt_layN c0 q13 lC lN1 hm 16 0 (up2 f x 14 (nI 0)) (by omega) up2_s (fun j e he => by cases he)
  have i1' : ev M_PT_layNodes 0 0 [some (.ref x), some (.int (nI (rowK S k i))), none] [] (wI h (up2 f x 14 (nI 0))) = some (none, wI h f') := by rw [r_PT_layNodes_0]; exact i1
  have es : sLay S (nI k) (nI i) (rowK S) = nI (nds (rowK S k i) 16).length := by unfold sLay; rw [z0]; show on (inN (nI i) (aW S)) _ = _; rw [z1]; rfl
  have el : lays S (nI k) (nI i) (rowK S) = nds (rowK S k i) 16 := by unfold lays; rw [z0]; show (match inN (nI i) (aW S) with | some i => nds (rowK S k i) 16 | none => []) = _; rw [z1]
  rw [es, el]
  refine ⟨f', wp_e (wp_isC c0 (wp_isC c0 (wp_rIe (pt_isRel C F0 W0 _) ?_))), CF_l F (fun a h1 h2 => by rw [i4 a h1 h2, up2_a h1]) (fun j hj => by rw [i5 j hj, up2_k hj]) i2 i3 PP hr5, fun a ha => by rw [i4 a (by omega) (by omega), up2_a (by omega)]⟩
  rw [z0']
  refine wp_bf n10 (wp_isC c0 (wp_rIe (pt_isNode C F0 W0 _) ?_))
  rw [z1']
  refine wp_bf n10 ?_
  repeat (first | refine wp_isC (by assumption) ?_ | refine wp_nnR (by assumption) ?_ | refine wp_inA (by assumption) rfl (by omega) (by omega) ?_ | refine wp_isZ (by first | decide | exact b01z _) ?_ | refine wp_bt (by (first | (simp (disch := omega) only [wI_I, wI_s, nI_add, pk_mul, nI_ltI, nI_leI, nI_eq, nI_clamp, nm_or, nm_and, nm_xor, nm_nd, nm_one, nm_shr, nm_b2, Bool.false_eq_true, Bool.true_eq_false, not_false_eq_true, not_true_eq_false, reduceCtorEq]; done) | (simp (disch := omega) only [wI_I, wI_s, nI_add, pk_mul, nI_ltI, nI_leI, nI_eq, nI_clamp, nm_or, nm_and, nm_xor, nm_nd, nm_one, nm_shr, nm_b2, Bool.false_eq_true, Bool.true_eq_false, not_false_eq_true, not_true_eq_false, reduceCtorEq]; omega) | omega)) ?_ | refine wp_bf (by (first | (simp (disch := omega) only [wI_I, wI_s, nI_add, pk_mul, nI_ltI, nI_leI, nI_eq, nI_clamp, nm_or, nm_and, nm_xor, nm_nd, nm_one, nm_shr, nm_b2, Bool.false_eq_true, Bool.true_eq_false, not_false_eq_true, not_true_eq_false, reduceCtorEq]; done) | (simp (disch := omega) only [wI_I, wI_s, nI_add, pk_mul, nI_ltI, nI_leI, nI_eq, nI_clamp, nm_or, nm_and, nm_xor, nm_nd, nm_one, nm_shr, nm_b2, Bool.false_eq_true, Bool.true_eq_false, not_false_eq_true, not_true_eq_false, reduceCtorEq]; omega) | omega)) ?_ | refine wp_nz (by first | decide | exact nz_n (by omega) (by omega)) ?_ | (simp (disch := omega) only [wI_I, wI_s, nI_add, pk_mul, nI_ltI, nI_leI, nI_eq, nI_clamp, nm_or, nm_and, nm_xor, nm_nd, nm_one, nm_shr, nm_b2, Bool.false_eq_true, Bool.true_eq_false, not_false_eq_true, not_true_eq_false, reduceCtorEq, up2_a, up2_k, up2_s, gw_o]))
  rw [(fg2 k k2).2 i (by omega)]
  refine wp_rVe i1' (wp_isC c0 ?_)
  rw [wI_I, i2]
  exact wp_s ⟨rfl, rfl⟩
theorem c_column (C : CSH h x pa pb s1 v1) (F : CF f (hL h) x pa S) (W : WS S) (a b : Int32) : ∃ f', ev M_PT_column 0 0 [some (.ref x), some (.int a), some (.int b)] [] (wI h f) = some (some (.int (sLay S a b (colK S))), wI h f') ∧ CF f' (hL h) x pa (bL S (lays S a b (colK S))) ∧ Fr x (x + 222) f f' := by
  obtain ⟨⟨c0, q0, q2, q3, q4, q5, q6, q7, q8, q9, q10, q11, q12, q13⟩, PA, PB, RSH, HSH, ⟨bC, bN, bR⟩, ISH, TSH, TSH2, GSH, SSH, ⟨lC, lN1, tC, tN⟩, ⟨rC, rR1, sC, sR1, wC, wN⟩, STR, ⟨sx1, sx2, x0⟩, PP⟩ := id C
  obtain ⟨⟨ft1, ft2⟩, ⟨fl1, fl2⟩, ⟨fe1, fe2⟩, fkw, fpn, ⟨fg1, fg2⟩, fhist, fbx, fsg⟩ := id F
  obtain ⟨⟨ws1, ws2⟩, ⟨ws3, ws4⟩, wpn, ⟨ws5, ws6, ws7⟩, ws8, ⟨ws9, ws10⟩, ⟨ws11, ws12⟩, ws13⟩ := id W
  have p1 := PA.1
  have r1 := RSH.1
  have r2 := RSH.2.1
  have r3 := RSH.2.2.1
  have r4 := RSH.2.2.2.1
  have hv1 : 1 ≤ aV S := wpn.1.1
  have hv4 : aV S ≤ 4 := wpn.1.2.1
  have hr5 : aR S ≤ 5 := wpn.1.2.2.2.1
  have hn16 : aW S ≤ 16 := lv_p hv4
  have fp0 : f pa 0 = nI (aV S) := fpn.1
  have fp1 : f pa 1 = nI (aR S) := fpn.2.1
  have gSH := GSH.1
  have tSH := TSH.1
  have sSH := SSH.1
  have iSH := ISH.1
  have hSH := HSH.1
  have F0 := CF_l0 C F W
  have W0 : WS (bL S []) := WS_l W (by decide) (fun e he => by cases he)
  rw [r_PT_column_0]
  simp only [wI_s]
  cases z0 : inN a (aR S) with
  | none =>
    have z0' : inN a (aR (bL S [])) = none := z0
    have es : sLay S a b (colK S) = mI 1 := by unfold sLay; rw [z0]; rfl
    have el : lays S a b (colK S) = [] := by unfold lays; rw [z0]
    rw [es, el]
    refine ⟨up2 f x 14 (nI 0), wp_e (wp_isC c0 (wp_isC c0 (wp_rIe (pt_isRel C F0 W0 _) ?_))), F0, Fr.u2 (by omega) (by omega)⟩
    rw [z0']
    exact wp_bt rfl (wp_s ⟨rfl, rfl⟩)
  | some k =>
  have z0' : inN a (aR (bL S [])) = some k := z0
  cases z1 : inN b (aW S) with
  | none =>
    have z1' : inN b (aW (bL S [])) = none := z1
    have es : sLay S a b (colK S) = mI 1 := by unfold sLay; rw [z0]; show on (inN b (aW S)) _ = _; rw [z1]; rfl
    have el : lays S a b (colK S) = [] := by unfold lays; rw [z0]; show (match inN b (aW S) with | some i => nds (colK S k i) 16 | none => []) = _; rw [z1]
    rw [es, el]
    refine ⟨up2 f x 14 (nI 0), wp_e (wp_isC c0 (wp_isC c0 (wp_rIe (pt_isRel C F0 W0 _) ?_))), F0, Fr.u2 (by omega) (by omega)⟩
    rw [z0']
    refine wp_bf n10 (wp_isC c0 (wp_rIe (pt_isNode C F0 W0 _) ?_))
    rw [z1']
    exact wp_bt rfl (wp_s ⟨rfl, rfl⟩)
  | some i =>
  have z1' : inN b (aW (bL S [])) = some i := z1
  obtain ⟨k1, k2, k3⟩ := inN_s z0
  obtain ⟨i1', i2', i3'⟩ := inN_s z1
  subst k1; subst i1'
  obtain ⟨g1, g2, g3, g4⟩ := pt_rl C F0 W0 (S := bL S []) k2
  have g3 : GF (up2 f x 14 (nI 0)) (x + 44 + 2 * k) (aW S) (aG S k) := g3
  have g4 : GW (aW S) (aG S k) := g4
  obtain ⟨g5, g6, g7, g8⟩ := id g2
  have hm : colK S k i < 2 ^ 16 := Nat.lt_of_lt_of_le cs_lt (Nat.pow_le_pow_right (by decide) hn16)
  obtain ⟨f', i1, i2, i3, i4, i5⟩ := pt_layN c0 q13 lC lN1 hm 16 0 (up2 f x 14 (nI 0)) (by omega) up2_s (fun j e he => by cases he)
  have i1' : ev M_PT_layNodes 0 0 [some (.ref x), some (.int (nI (colK S k i))), none] [] (wI h (up2 f x 14 (nI 0))) = some (none, wI h f') := by rw [r_PT_layNodes_0]; exact i1
  have es : sLay S (nI k) (nI i) (colK S) = nI (nds (colK S k i) 16).length := by unfold sLay; rw [z0]; show on (inN (nI i) (aW S)) _ = _; rw [z1]; rfl
  have el : lays S (nI k) (nI i) (colK S) = nds (colK S k i) 16 := by unfold lays; rw [z0]; show (match inN (nI i) (aW S) with | some i => nds (colK S k i) 16 | none => []) = _; rw [z1]
  rw [es, el]
  refine ⟨f', wp_e (wp_isC c0 (wp_isC c0 (wp_rIe (pt_isRel C F0 W0 _) ?_))), CF_l F (fun a h1 h2 => by rw [i4 a h1 h2, up2_a h1]) (fun j hj => by rw [i5 j hj, up2_k hj]) i2 i3 PP hr5, fun a ha => by rw [i4 a (by omega) (by omega), up2_a (by omega)]⟩
  rw [z0']
  refine wp_bf n10 (wp_isC c0 (wp_rIe (pt_isNode C F0 W0 _) ?_))
  rw [z1']
  refine wp_bf n10 ?_
  repeat (first | refine wp_isC (by assumption) ?_ | refine wp_nnR (by assumption) ?_ | refine wp_inA (by assumption) rfl (by omega) (by omega) ?_ | refine wp_isZ (by first | decide | exact b01z _) ?_ | refine wp_bt (by (first | (simp (disch := omega) only [wI_I, wI_s, nI_add, pk_mul, nI_ltI, nI_leI, nI_eq, nI_clamp, nm_or, nm_and, nm_xor, nm_nd, nm_one, nm_shr, nm_b2, Bool.false_eq_true, Bool.true_eq_false, not_false_eq_true, not_true_eq_false, reduceCtorEq]; done) | (simp (disch := omega) only [wI_I, wI_s, nI_add, pk_mul, nI_ltI, nI_leI, nI_eq, nI_clamp, nm_or, nm_and, nm_xor, nm_nd, nm_one, nm_shr, nm_b2, Bool.false_eq_true, Bool.true_eq_false, not_false_eq_true, not_true_eq_false, reduceCtorEq]; omega) | omega)) ?_ | refine wp_bf (by (first | (simp (disch := omega) only [wI_I, wI_s, nI_add, pk_mul, nI_ltI, nI_leI, nI_eq, nI_clamp, nm_or, nm_and, nm_xor, nm_nd, nm_one, nm_shr, nm_b2, Bool.false_eq_true, Bool.true_eq_false, not_false_eq_true, not_true_eq_false, reduceCtorEq]; done) | (simp (disch := omega) only [wI_I, wI_s, nI_add, pk_mul, nI_ltI, nI_leI, nI_eq, nI_clamp, nm_or, nm_and, nm_xor, nm_nd, nm_one, nm_shr, nm_b2, Bool.false_eq_true, Bool.true_eq_false, not_false_eq_true, not_true_eq_false, reduceCtorEq]; omega) | omega)) ?_ | refine wp_nz (by first | decide | exact nz_n (by omega) (by omega)) ?_ | (simp (disch := omega) only [wI_I, wI_s, nI_add, pk_mul, nI_ltI, nI_leI, nI_eq, nI_clamp, nm_or, nm_and, nm_xor, nm_nd, nm_one, nm_shr, nm_b2, Bool.false_eq_true, Bool.true_eq_false, not_false_eq_true, not_true_eq_false, reduceCtorEq, up2_a, up2_k, up2_s, gw_o]))
  refine wp_rIe (gq_with g2 g3 g4 (by omega)) (wp_isC c0 (wp_rVe i1' (wp_isC c0 ?_)))
  rw [wI_I, i2]
  exact wp_s ⟨rfl, rfl⟩
/-! odds -/
theorem pt_gcd {h : MH} : ∀ r i a b, i + r ≤ 64 → b ≤ a → 0 < a → a < 2 ^ 31 → a * b < 2 ^ r → ev M_PT_commonDivisor 0 7 [none, none, some (.int (nI a)), some (.int (nI b)), some (.int (nI i)), none] [] h = some (some (.int (nI (Nat.gcd a b))), h) := by
  have fin : ∀ a, 0 < a → a < 2 ^ 31 → ev M_PT_commonDivisor 0 23 [none, none, some (.int (nI a)), none, none, none] [] h = some (some (.int (nI (Nat.gcd a 0))), h) := by
    intro a h0 ha
    rw [r_PT_commonDivisor_23, if_neg (by rw [nI_ltI ha (by decide)]; omega), Nat.gcd_zero_right]
  intro r
  induction r with
  | zero =>
    intro i a b hi hb h0 ha hp
    have : b = 0 := by
      by_cases q : b = 0
      · exact q
      · have : 1 ≤ a * b := Nat.mul_pos h0 (by omega)
        omega
    subst this
    rw [r_PT_commonDivisor_7]
    unfold br
    by_cases z : nI i < nI 64
    · rw [if_pos z, if_neg (by decide)]; exact fin a h0 ha
    · rw [if_neg z]; exact fin a h0 ha
  | succ r ih =>
    intro i a b hi hb h0 ha hp
    by_cases q : b = 0
    · subst q
      rw [r_PT_commonDivisor_7]
      unfold br
      rw [if_pos (by rw [nI_ltI (by omega) (by decide)]; omega), if_neg (by decide)]; exact fin a h0 ha
    · have hm : a % b < b := Nat.mod_lt _ (by omega)
      have h2 : 2 * (a % b) ≤ a := by
        have := Nat.div_add_mod a b
        have h3 : 1 ≤ a / b := (Nat.le_div_iff_mul_le (by omega)).mpr (by omega)
        have h4 : b * 1 ≤ b * (a / b) := Nat.mul_le_mul_left b h3
        omega
      have hp2 : b * (a % b) < 2 ^ r := by
        have : 2 * (b * (a % b)) ≤ a * b := by
          rw [show 2 * (b * (a % b)) = b * (2 * (a % b)) by rw [Nat.mul_left_comm], Nat.mul_comm a b]
          exact Nat.mul_le_mul_left b h2
        rw [Nat.pow_succ] at hp
        omega
      have := ih (i + 1) b (a % b) (by omega) (by omega) (by omega) (by omega) hp2
      rw [r_PT_commonDivisor_7]
      apply wp_e
      refine wp_bt (by rw [nI_ltI (by omega) (by decide)]; omega) (wp_bt (by rw [nI_ltI (by decide) (by omega)]; omega) (wp_nz (nI_ne0 (by omega) (by omega)) ?_))
      rw [pk_rem ha (by omega) (by omega), nI_add]
      refine wp_of this ⟨?_, rfl⟩
      rw [Nat.gcd_comm a b, Nat.gcd_rec b a, Nat.gcd_comm]
def odd (d m t : Nat) : Nat := (if t = 0 then (100 - d) ^ m else 100 ^ m) / Nat.gcd (100 ^ m) ((100 - d) ^ m)
def sOdds (S : Abs) (n p : Int32) : Int32 := on (inN n 5) fun m => on (inN p 2) fun t => nI (odd (vDr (aQ S)) m t)
theorem c_odds (C : CSH h x pa pb s1 v1) (F : CF f (hL h) x pa S) (W : WS S) (n p : Int32) : ev M_PT_odds 0 0 [some (.ref x), some (.int n), some (.int p), none, none, none] [] (wI h f) = some (some (.int (sOdds S n p)), wI h f) := by
  obtain ⟨⟨c0, q0, q2, q3, q4, q5, q6, q7, q8, q9, q10, q11, q12, q13⟩, PA, PB, RSH, HSH, ⟨bC, bN, bR⟩, ISH, TSH, TSH2, GSH, SSH, ⟨lC, lN1, tC, tN⟩, ⟨rC, rR1, sC, sR1, wC, wN⟩, STR, ⟨sx1, sx2, x0⟩, PP⟩ := id C
  obtain ⟨⟨ft1, ft2⟩, ⟨fl1, fl2⟩, ⟨fe1, fe2⟩, fkw, fpn, ⟨fg1, fg2⟩, fhist, fbx, fsg⟩ := id F
  obtain ⟨⟨ws1, ws2⟩, ⟨ws3, ws4⟩, wpn, ⟨ws5, ws6, ws7⟩, ws8, ⟨ws9, ws10⟩, ⟨ws11, ws12⟩, ws13⟩ := id W
  have p1 := PA.1
  have r1 := RSH.1
  have r2 := RSH.2.1
  have r3 := RSH.2.2.1
  have r4 := RSH.2.2.2.1
  have hv1 : 1 ≤ aV S := wpn.1.1
  have hv4 : aV S ≤ 4 := wpn.1.2.1
  have hr5 : aR S ≤ 5 := wpn.1.2.2.2.1
  have hn16 : aW S ≤ 16 := lv_p hv4
  have fp0 : f pa 0 = nI (aV S) := fpn.1
  have fp1 : f pa 1 = nI (aR S) := fpn.2.1
  have gSH := GSH.1
  have tSH := TSH.1
  have sSH := SSH.1
  have iSH := ISH.1
  have hSH := HSH.1
  have fd : f pa 3 = nI (vDr (aQ S)) := fpn.2.2.2.1
  have hd : vDr (aQ S) ≤ 100 := wpn.1.2.2.2.2.2.1
  rw [r_PT_odds_0]
  apply wp_e
  cases z0 : inN n 5 with
  | none =>
    have es : sOdds S n p = mI 1 := by unfold sOdds; rw [z0]; rfl
    rw [es]
    exact wp_rn (m := 4) z0 (by decide) (wp_s ⟨rfl, rfl⟩)
  | some m =>
  obtain ⟨m1, m2, m3⟩ := inN_s z0
  subst m1
  refine wp_bf (nI_pos m3) (wp_bf (by rw [nI_ltI (by decide) m3]; omega) ?_)
  cases z1 : inN p 2 with
  | none =>
    have es : sOdds S (nI m) p = mI 1 := by unfold sOdds; rw [z0]; show on (inN p 2) _ = _; rw [z1]; rfl
    rw [es]
    exact wp_rn (m := 1) z1 (by decide) (wp_s ⟨rfl, rfl⟩)
  | some t =>
  obtain ⟨t1, t2, t3⟩ := inN_s z1
  subst t1
  refine wp_bf (nI_pos t3) (wp_bf (by rw [nI_ltI (by decide) t3]; omega) ?_)
  have es : sOdds S (nI m) (nI t) = nI (odd (vDr (aQ S)) m t) := by unfold sOdds; rw [z0]; show on (inN (nI t) 2) _ = _; rw [z1]; rfl
  rw [es]
  generalize vDr (aQ S) = dr at fd hd
  have L : ∀ k i, i + k = m → ev M_PT_odds 0 19 [some (.ref x), some (.int (nI m)), some (.int (nI t)), some (.int (nI ((100 - dr) ^ i))), some (.int (nI (100 ^ i))), some (.int (nI i))] [] (wI h f) = some (some (.int (nI (odd dr m t))), wI h f) := by
    intro k
    induction k with
    | zero =>
      intro i hi
      have : i = m := by omega
      subst this
      have hlow : 100 ^ i ≤ 100 ^ 4 := Nat.pow_le_pow_right (by decide) (by omega)
      have hup : (100 - dr) ^ i ≤ 100 ^ i := Nat.pow_le_pow_left (by omega) i
      have hl1 : 0 < 100 ^ i := Nat.pow_pos (by decide)
      have h4 : (100 : Nat) ^ 4 = 100000000 := by decide
      have hp : 100 ^ i * (100 - dr) ^ i < 2 ^ 54 := by
        have : 100 ^ i * (100 - dr) ^ i ≤ 100000000 * 100000000 := Nat.mul_le_mul (by omega) (by omega)
        omega
      have hg := pt_gcd (h := wI h f) 54 0 (100 ^ i) ((100 - dr) ^ i) (by decide) hup hl1 (by omega) hp
      have gpos : 0 < Nat.gcd (100 ^ i) ((100 - dr) ^ i) := Nat.gcd_pos_of_pos_left _ hl1
      have gle : Nat.gcd (100 ^ i) ((100 - dr) ^ i) ≤ 100 ^ i := Nat.gcd_le_left _ hl1
      rw [r_PT_odds_19]
      apply wp_e
      refine wp_bf (by rw [nI_ltI (by omega) (by omega)]; omega) ?_
      refine wp_rIe (by rw [r_PT_commonDivisor_0]; exact hg) ?_
      have tt : t = 0 ∨ t = 1 := by omega
      rcases tt with q | q <;> subst q
      · refine wp_bt rfl (wp_nz (nI_ne0 gpos (by omega)) ?_)
        rw [pk_div (by omega) gpos (by omega)]
        exact wp_s ⟨rfl, rfl⟩
      · refine wp_bf (by decide) (wp_nz (nI_ne0 gpos (by omega)) ?_)
        rw [pk_div (by omega) gpos (by omega)]
        exact wp_s ⟨rfl, rfl⟩
    | succ k ih =>
      intro i hi
      rw [r_PT_odds_19]
      apply wp_e
      refine wp_bt (by rw [nI_ltI (by omega) (by omega)]; omega) (wp_isC c0 (wp_nnR q2 (wp_isC p1 ?_)))
      rw [wI_I, fd, pk_sub hd, pk_mul, pk_mul, nI_add, ← Nat.pow_succ, ← Nat.pow_succ]
      exact wp_of (ih (i + 1) (by omega)) ⟨rfl, rfl⟩
  exact wp_of (L m 0 (by omega)) ⟨rfl, rfl⟩
/-! the whole -/
def sAbout (S : Abs) (w : Int32) : Int32 := on (inN w 14) fun t => if t = 0 then nI (aR S) else if t = 1 then nI (aV S) else if t = 2 then nI (aW S) else if t = 3 then nI (vTd (aQ S)) else if t = 4 then nI (tc (aW S) (vTd (aQ S)) (aG S) (aR S)) else if t = 5 then nI (aS S (aD S)).2 else if t = 6 then nI (aD S) else if t = 7 then nI (aK S - aD S) else if t = 8 then nI (aE S).length else if t = 9 then nI (aM S) else if t = 10 then nI (aN S) else if t = 11 then nI (vUn (aQ S)) else if t = 12 then nI (aL S).length else nI (vDr (aQ S))
theorem pt_tc (C : CSH h x pa pb s1 v1) (F : CF f (hL h) x pa S) (W : WS S) : ev M_Relations_countTold 0 0 [some (.ref (x + 39)), none, none] [] (wI h f) = some (some (.int (nI (tc (aW S) (vTd (aQ S)) (aG S) (aR S)))), wI h f) := by
  obtain ⟨⟨c0, q0, q2, q3, q4, q5, q6, q7, q8, q9, q10, q11, q12, q13⟩, PA, PB, RSH, HSH, ⟨bC, bN, bR⟩, ISH, TSH, TSH2, GSH, SSH, ⟨lC, lN1, tC, tN⟩, ⟨rC, rR1, sC, sR1, wC, wN⟩, STR, ⟨sx1, sx2, x0⟩, PP⟩ := id C
  obtain ⟨⟨ft1, ft2⟩, ⟨fl1, fl2⟩, ⟨fe1, fe2⟩, fkw, fpn, ⟨fg1, fg2⟩, fhist, fbx, fsg⟩ := id F
  obtain ⟨⟨ws1, ws2⟩, ⟨ws3, ws4⟩, wpn, ⟨ws5, ws6, ws7⟩, ws8, ⟨ws9, ws10⟩, ⟨ws11, ws12⟩, ws13⟩ := id W
  have p1 := PA.1
  have r1 := RSH.1
  have r2 := RSH.2.1
  have r3 := RSH.2.2.1
  have r4 := RSH.2.2.2.1
  have hv1 : 1 ≤ aV S := wpn.1.1
  have hv4 : aV S ≤ 4 := wpn.1.2.1
  have hr5 : aR S ≤ 5 := wpn.1.2.2.2.1
  have hn16 : aW S ≤ 16 := lv_p hv4
  have fp0 : f pa 0 = nI (aV S) := fpn.1
  have fp1 : f pa 1 = nI (aR S) := fpn.2.1
  have gSH := GSH.1
  have tSH := TSH.1
  have sSH := SSH.1
  have iSH := ISH.1
  have hSH := HSH.1
  have td : vTd (aQ S) < 2 ^ 31 := Nat.lt_trans wpn.1.2.2.2.2.1 (by decide)
  exact rl_count RSH p1 fp1 fpn.2.2.1 td hr5 (fun k hk => ⟨fg2 k hk, gA_W wpn (ws7 _ ws5) k⟩)
theorem c_about (C : CSH h x pa pb s1 v1) (F : CF f (hL h) x pa S) (W : WS S) (w : Int32) : ev M_PT_about 0 0 [some (.ref x), some (.int w)] [] (wI h f) = some (some (.int (sAbout S w)), wI h f) := by
  obtain ⟨⟨c0, q0, q2, q3, q4, q5, q6, q7, q8, q9, q10, q11, q12, q13⟩, PA, PB, RSH, HSH, ⟨bC, bN, bR⟩, ISH, TSH, TSH2, GSH, SSH, ⟨lC, lN1, tC, tN⟩, ⟨rC, rR1, sC, sR1, wC, wN⟩, STR, ⟨sx1, sx2, x0⟩, PP⟩ := id C
  obtain ⟨⟨ft1, ft2⟩, ⟨fl1, fl2⟩, ⟨fe1, fe2⟩, fkw, fpn, ⟨fg1, fg2⟩, fhist, fbx, fsg⟩ := id F
  obtain ⟨⟨ws1, ws2⟩, ⟨ws3, ws4⟩, wpn, ⟨ws5, ws6, ws7⟩, ws8, ⟨ws9, ws10⟩, ⟨ws11, ws12⟩, ws13⟩ := id W
  have p1 := PA.1
  have r1 := RSH.1
  have r2 := RSH.2.1
  have r3 := RSH.2.2.1
  have r4 := RSH.2.2.2.1
  have hv1 : 1 ≤ aV S := wpn.1.1
  have hv4 : aV S ≤ 4 := wpn.1.2.1
  have hr5 : aR S ≤ 5 := wpn.1.2.2.2.1
  have hn16 : aW S ≤ 16 := lv_p hv4
  have fp0 : f pa 0 = nI (aV S) := fpn.1
  have fp1 : f pa 1 = nI (aR S) := fpn.2.1
  have gSH := GSH.1
  have tSH := TSH.1
  have sSH := SSH.1
  have iSH := ISH.1
  have hSH := HSH.1
  obtain ⟨old, rl, tn, sb', sa, ⟨a1, a2, a3, a4, a5, a6, a7⟩, h2⟩ := fhist
  obtain ⟨y0, y1, y2, y3, y4, y5, y6, -⟩ := id fpn
  obtain ⟨t0, t1, -⟩ := id fsg
  rw [r_PT_about_0]
  apply wp_e
  cases z0 : inN w 14 with
  | none =>
    have es : sAbout S w = mI 1 := by unfold sAbout; rw [z0]; rfl
    rw [es]
    have ne : ∀ k, k < 14 → ¬ w = nI k := fun k hk e => by
      subst e
      unfold inN at z0
      rw [if_neg (show ¬ nI k < nI 0 from nI_pos (by omega)), nI_clamp (by omega), if_pos hk] at z0
      cases z0
    exact wp_bf (ne 0 (by decide)) (wp_bf (ne 1 (by decide)) (wp_bf (ne 2 (by decide)) (wp_bf (ne 3 (by decide)) (wp_bf (ne 4 (by decide)) (wp_bf (ne 5 (by decide)) (wp_bf (ne 6 (by decide)) (wp_bf (ne 7 (by decide)) (wp_bf (ne 8 (by decide)) (wp_bf (ne 9 (by decide)) (wp_bf (ne 10 (by decide)) (wp_bf (ne 11 (by decide)) (wp_bf (ne 12 (by decide)) (wp_bf (ne 13 (by decide)) (wp_s ⟨rfl, rfl⟩))))))))))))))
  | some t =>
  obtain ⟨m1, m2, m3⟩ := inN_s z0
  subst m1
  have tt : t = 0 ∨ t = 1 ∨ t = 2 ∨ t = 3 ∨ t = 4 ∨ t = 5 ∨ t = 6 ∨ t = 7 ∨ t = 8 ∨ t = 9 ∨ t = 10 ∨ t = 11 ∨ t = 12 ∨ t = 13 := by omega
  rcases tt with q | q | q | q | q | q | q | q | q | q | q | q | q | q <;> subst q <;> unfold sAbout <;> rw [z0] <;>
    (repeat (first | refine wp_bt (by decide) ?_ | refine wp_bf (by decide) ?_))
  · refine wp_isC c0 (wp_nnR q2 (wp_isC p1 ?_)); rw [wI_I, fp1]; exact wp_s ⟨rfl, rfl⟩
  · refine wp_isC c0 (wp_nnR q2 (wp_isC p1 ?_)); rw [wI_I, fp0]; exact wp_s ⟨rfl, rfl⟩
  · exact wp_isC c0 (wp_nnR q2 (wp_isC p1 (wp_rIe (pl_size p1 fp0 hv4) (wp_s ⟨rfl, rfl⟩))))
  · refine wp_isC c0 (wp_nnR q2 (wp_isC p1 ?_)); rw [wI_I, y2]; exact wp_s ⟨rfl, rfl⟩
  · exact wp_isC c0 (wp_nnR q5 (wp_isC r1 (wp_rIe (pt_tc C F W) (wp_s ⟨rfl, rfl⟩))))
  · refine wp_isC c0 (wp_nnR q5 (wp_isC r1 ?_)); rw [wI_I, fg1]; exact wp_s ⟨rfl, rfl⟩
  · refine wp_isC c0 (wp_nnR q6 (wp_isC hSH ?_)); rw [wI_I, a2]; exact wp_s ⟨rfl, rfl⟩
  · refine wp_isC c0 (wp_nnR q6 (wp_isC hSH (wp_isC c0 (wp_nnR q6 (wp_isC hSH ?_))))); rw [wI_I, a1, a2, pk_sub a5]; exact wp_s ⟨rfl, rfl⟩
  · refine wp_isC c0 (wp_nnR q8 (wp_isC iSH ?_)); rw [wI_I, t1]; exact wp_s ⟨rfl, rfl⟩
  · refine wp_isC c0 (wp_nnR q8 (wp_isC iSH ?_)); rw [wI_I, t0]; exact wp_s ⟨rfl, rfl⟩
  · refine wp_isC c0 ?_; rw [wI_I, ft1]; exact wp_s ⟨rfl, rfl⟩
  · refine wp_isC c0 (wp_nnR q2 (wp_isC p1 ?_)); rw [wI_I, y5]; exact wp_s ⟨rfl, rfl⟩
  · refine wp_isC c0 ?_; rw [wI_I, fl1]; exact wp_s ⟨rfl, rfl⟩
  · refine wp_isC c0 (wp_nnR q2 (wp_isC p1 ?_)); rw [wI_I, y3]; exact wp_s ⟨rfl, rfl⟩
end
