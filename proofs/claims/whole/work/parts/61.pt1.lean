/-! The class's methods: what can be; one relation. -/
theorem n10 : ¬ nI 1 = nI 0 := by decide
def inN (x : Int32) (n : Nat) : Option Nat := if x < nI 0 then none else if x.toNatClampNeg < n then some x.toNatClampNeg else none
theorem inN_s {x : Int32} {n k : Nat} (h : inN x n = some k) : x = nI k ∧ k < n ∧ k < 2 ^ 31 := by
  unfold inN at h
  by_cases q : x < nI 0
  · rw [if_pos q] at h; cases h
  · obtain ⟨j, hj, e⟩ := nI_of q
    subst e
    rw [if_neg q, nI_clamp hj] at h
    by_cases z : j < n
    · rw [if_pos z] at h; cases h; exact ⟨rfl, z, hj⟩
    · rw [if_neg z] at h; cases h
theorem inN_n {x : Int32} {n : Nat} (h : inN x n = none) (hn : n < 2 ^ 31) : x < nI 0 ∨ (¬ x < nI 0 ∧ ¬ x < nI n) := by
  by_cases q : x < nI 0
  · exact Or.inl q
  · right
    refine ⟨q, ?_⟩
    obtain ⟨j, hj, e⟩ := nI_of q
    subst e
    unfold inN at h
    rw [if_neg q, nI_clamp hj] at h
    by_cases z : j < n
    · rw [if_pos z] at h; cases h
    · rw [nI_ltI hj hn]; exact z
/-- an answer that needs a number in its range -/
def on (o : Option Nat) (k : Nat → Int32) : Int32 := match o with
  | some i => k i
  | none => mI 1
section
variable {h : MH} {f : Nat → Nat → Int32} {x pa pb s1 v1 : Nat} {S : Abs}
theorem pt_rl (C : CSH h x pa pb s1 v1) (F : CF f (hL h) x pa S) (W : WS S) {k : Nat} (hk : k < aR S) : hR h (x + 39 + 1) k = some (x + 44 + 2 * k) ∧ GS h (x + 44 + 2 * k) ∧ GF f (x + 44 + 2 * k) (aW S) (aG S k) ∧ GW (aW S) (aG S k) := by
  obtain ⟨⟨c0, q0, q2, q3, q4, q5, q6, q7, q8, q9, q10, q11, q12, q13⟩, PA, PB, RSH, HSH, ⟨bC, bN, bR⟩, ISH, TSH, TSH2, GSH, SSH, ⟨lC, lN1, tC, tN⟩, ⟨rC, rR1, sC, sR1, wC, wN⟩, STR, ⟨sx1, sx2, x0⟩, PP⟩ := id C
  obtain ⟨⟨ft1, ft2⟩, ⟨fl1, fl2⟩, ⟨fe1, fe2⟩, fkw, fpn, ⟨fg1, fg2⟩, fhist, fbx, fsg⟩ := id F
  obtain ⟨⟨ws1, ws2⟩, ⟨ws3, ws4⟩, wpn, ⟨ws5, ws6, ws7⟩, ws8, ⟨ws9, ws10⟩, ⟨ws11, ws12⟩, ws13⟩ := id W
  have p1 := PA.1
  have r1 := RSH.1
  have r2 := RSH.2.1
  have r3 := RSH.2.2.1
  have r4 := RSH.2.2.2.1
  have hv1 : 1 ≤ aV S := wpn.1.1
  have hv4 : aV S ≤ 4 := wpn.1.2.1
  have hr5 : aR S ≤ 5 := wpn.1.2.2.2.1
  have hn16 : aW S ≤ 16 := lv_p hv4
  have fp0 : f pa 0 = nI (aV S) := fpn.1
  have fp1 : f pa 1 = nI (aR S) := fpn.2.1
  have gSH := GSH.1
  have tSH := TSH.1
  have sSH := SSH.1
  have iSH := ISH.1
  have hSH := HSH.1
  obtain ⟨t1, t2⟩ := RSH.2.2.2.2.1 k (by omega)
  exact ⟨t1, t2, fg2 k hk, gA_W wpn (ws7 _ ws5) k⟩
theorem pt_isRel (C : CSH h x pa pb s1 v1) (F : CF f (hL h) x pa S) (W : WS S) (a : Int32) : ev M_PT_isRelation 0 0 [some (.ref x), some (.int a)] [] (wI h f) = some (some (.int (nI (inN a (aR S)).isSome.toNat)), wI h f) := by
  obtain ⟨⟨c0, q0, q2, q3, q4, q5, q6, q7, q8, q9, q10, q11, q12, q13⟩, PA, PB, RSH, HSH, ⟨bC, bN, bR⟩, ISH, TSH, TSH2, GSH, SSH, ⟨lC, lN1, tC, tN⟩, ⟨rC, rR1, sC, sR1, wC, wN⟩, STR, ⟨sx1, sx2, x0⟩, PP⟩ := id C
  obtain ⟨⟨ft1, ft2⟩, ⟨fl1, fl2⟩, ⟨fe1, fe2⟩, fkw, fpn, ⟨fg1, fg2⟩, fhist, fbx, fsg⟩ := id F
  obtain ⟨⟨ws1, ws2⟩, ⟨ws3, ws4⟩, wpn, ⟨ws5, ws6, ws7⟩, ws8, ⟨ws9, ws10⟩, ⟨ws11, ws12⟩, ws13⟩ := id W
  have p1 := PA.1
  have r1 := RSH.1
  have r2 := RSH.2.1
  have r3 := RSH.2.2.1
  have r4 := RSH.2.2.2.1
  have hv1 : 1 ≤ aV S := wpn.1.1
  have hv4 : aV S ≤ 4 := wpn.1.2.1
  have hr5 : aR S ≤ 5 := wpn.1.2.2.2.1
  have hn16 : aW S ≤ 16 := lv_p hv4
  have fp0 : f pa 0 = nI (aV S) := fpn.1
  have fp1 : f pa 1 = nI (aR S) := fpn.2.1
  have gSH := GSH.1
  have tSH := TSH.1
  have sSH := SSH.1
  have iSH := ISH.1
  have hSH := HSH.1
  rw [r_PT_isRelation_0]
  apply wp_e
  cases z : inN a (aR S) with
  | none =>
    rcases inN_n z (by omega) with q | ⟨q, w2⟩
    · exact wp_bt q (wp_isZ (by decide) (wp_s ⟨rfl, rfl⟩))
    · refine wp_bf q (wp_isC c0 (wp_nnR q2 (wp_isC p1 ?_)))
      rw [wI_I, fp1]
      exact wp_bf w2 (wp_isZ (by decide) (wp_s ⟨rfl, rfl⟩))
  | some k =>
    obtain ⟨e, e2, e3⟩ := inN_s z
    subst e
    refine wp_bf (nI_pos e3) (wp_isC c0 (wp_nnR q2 (wp_isC p1 ?_)))
    rw [wI_I, fp1]
    exact wp_bt (by rw [nI_ltI e3 (by omega)]; exact e2) (wp_isZ (by decide) (wp_s ⟨rfl, rfl⟩))
theorem pt_isNode (C : CSH h x pa pb s1 v1) (F : CF f (hL h) x pa S) (W : WS S) (a : Int32) : ev M_PT_isNode 0 0 [some (.ref x), some (.int a)] [] (wI h f) = some (some (.int (nI (inN a (aW S)).isSome.toNat)), wI h f) := by
  obtain ⟨⟨c0, q0, q2, q3, q4, q5, q6, q7, q8, q9, q10, q11, q12, q13⟩, PA, PB, RSH, HSH, ⟨bC, bN, bR⟩, ISH, TSH, TSH2, GSH, SSH, ⟨lC, lN1, tC, tN⟩, ⟨rC, rR1, sC, sR1, wC, wN⟩, STR, ⟨sx1, sx2, x0⟩, PP⟩ := id C
  obtain ⟨⟨ft1, ft2⟩, ⟨fl1, fl2⟩, ⟨fe1, fe2⟩, fkw, fpn, ⟨fg1, fg2⟩, fhist, fbx, fsg⟩ := id F
  obtain ⟨⟨ws1, ws2⟩, ⟨ws3, ws4⟩, wpn, ⟨ws5, ws6, ws7⟩, ws8, ⟨ws9, ws10⟩, ⟨ws11, ws12⟩, ws13⟩ := id W
  have p1 := PA.1
  have r1 := RSH.1
  have r2 := RSH.2.1
  have r3 := RSH.2.2.1
  have r4 := RSH.2.2.2.1
  have hv1 : 1 ≤ aV S := wpn.1.1
  have hv4 : aV S ≤ 4 := wpn.1.2.1
  have hr5 : aR S ≤ 5 := wpn.1.2.2.2.1
  have hn16 : aW S ≤ 16 := lv_p hv4
  have fp0 : f pa 0 = nI (aV S) := fpn.1
  have fp1 : f pa 1 = nI (aR S) := fpn.2.1
  have gSH := GSH.1
  have tSH := TSH.1
  have sSH := SSH.1
  have iSH := ISH.1
  have hSH := HSH.1
  rw [r_PT_isNode_0]
  apply wp_e
  cases z : inN a (aW S) with
  | none =>
    rcases inN_n z (by omega) with q | ⟨q, q2'⟩
    · exact wp_bt q (wp_isZ (by decide) (wp_s ⟨rfl, rfl⟩))
    · refine wp_bf q (wp_isC c0 (wp_nnR q2 (wp_isC p1 (wp_rIe (pl_size p1 fp0 hv4) ?_))))
      exact wp_bf q2' (wp_isZ (by decide) (wp_s ⟨rfl, rfl⟩))
  | some k =>
    obtain ⟨e, e2, e3⟩ := inN_s z
    subst e
    refine wp_bf (nI_pos e3) (wp_isC c0 (wp_nnR q2 (wp_isC p1 (wp_rIe (pl_size p1 fp0 hv4) ?_))))
    exact wp_bt (by show nI k < nI (aW S); rw [nI_ltI e3 (by omega)]; exact e2) (wp_isZ (by decide) (wp_s ⟨rfl, rfl⟩))
theorem pt_isLevel (C : CSH h x pa pb s1 v1) (F : CF f (hL h) x pa S) (W : WS S) (a : Int32) : ev M_PT_isLevel 0 0 [some (.ref x), some (.int a)] [] (wI h f) = some (some (.int (nI (inN a (aV S + 1)).isSome.toNat)), wI h f) := by
  obtain ⟨⟨c0, q0, q2, q3, q4, q5, q6, q7, q8, q9, q10, q11, q12, q13⟩, PA, PB, RSH, HSH, ⟨bC, bN, bR⟩, ISH, TSH, TSH2, GSH, SSH, ⟨lC, lN1, tC, tN⟩, ⟨rC, rR1, sC, sR1, wC, wN⟩, STR, ⟨sx1, sx2, x0⟩, PP⟩ := id C
  obtain ⟨⟨ft1, ft2⟩, ⟨fl1, fl2⟩, ⟨fe1, fe2⟩, fkw, fpn, ⟨fg1, fg2⟩, fhist, fbx, fsg⟩ := id F
  obtain ⟨⟨ws1, ws2⟩, ⟨ws3, ws4⟩, wpn, ⟨ws5, ws6, ws7⟩, ws8, ⟨ws9, ws10⟩, ⟨ws11, ws12⟩, ws13⟩ := id W
  have p1 := PA.1
  have r1 := RSH.1
  have r2 := RSH.2.1
  have r3 := RSH.2.2.1
  have r4 := RSH.2.2.2.1
  have hv1 : 1 ≤ aV S := wpn.1.1
  have hv4 : aV S ≤ 4 := wpn.1.2.1
  have hr5 : aR S ≤ 5 := wpn.1.2.2.2.1
  have hn16 : aW S ≤ 16 := lv_p hv4
  have fp0 : f pa 0 = nI (aV S) := fpn.1
  have fp1 : f pa 1 = nI (aR S) := fpn.2.1
  have gSH := GSH.1
  have tSH := TSH.1
  have sSH := SSH.1
  have iSH := ISH.1
  have hSH := HSH.1
  rw [r_PT_isLevel_0]
  apply wp_e
  by_cases q : a < nI 0
  · have z : inN a (aV S + 1) = none := if_pos q
    rw [z]
    exact wp_bt q (wp_isZ (by decide) (wp_s ⟨rfl, rfl⟩))
  · obtain ⟨j, hj, e⟩ := nI_of q
    subst e
    refine wp_bf q (wp_isC c0 (wp_nnR q2 (wp_isC p1 ?_)))
    rw [wI_I, fp0]
    by_cases z : j < aV S + 1
    · have e : inN (nI j) (aV S + 1) = some j := by unfold inN; rw [if_neg q, nI_clamp hj, if_pos z]
      rw [e]
      exact wp_bf (by rw [nI_ltI (by omega) hj]; omega) (wp_isZ (by decide) (wp_s ⟨rfl, rfl⟩))
    · have e : inN (nI j) (aV S + 1) = none := by unfold inN; rw [if_neg q, nI_clamp hj, if_neg z]
      rw [e]
      exact wp_bt (by rw [nI_ltI (by omega) hj]; omega) (wp_isZ (by decide) (wp_s ⟨rfl, rfl⟩))
theorem pt_areRel (C : CSH h x pa pb s1 v1) (F : CF f (hL h) x pa S) (W : WS S) (a b : Int32) : ev M_PT_areRelations 0 0 [some (.ref x), some (.int a), some (.int b)] [] (wI h f) = some (some (.int (nI ((inN a (aR S)).isSome && (inN b (aR S)).isSome).toNat)), wI h f) := by
  have c0 := C.1.1
  rw [r_PT_areRelations_0]
  apply wp_e
  refine wp_isC c0 (wp_rIe (pt_isRel C F W a) ?_)
  cases (inN a (aR S)).isSome with
  | false => exact wp_bt rfl (wp_isZ (by decide) (wp_s ⟨rfl, rfl⟩))
  | true =>
    refine wp_bf n10 (wp_isC c0 (wp_rIe (pt_isRel C F W b) ?_))
    cases (inN b (aR S)).isSome with
    | false => exact wp_bt rfl (wp_isZ (by decide) (wp_s ⟨rfl, rfl⟩))
    | true => exact wp_bf n10 (wp_isZ (by decide) (wp_s ⟨rfl, rfl⟩))
/-- a told one -/
def tdN (S : Abs) (a : Int32) : Option Nat := match inN a (aR S) with
  | some k => if (vTd (aQ S)).testBit k then some k else none
  | none => none
theorem pt_isTold (C : CSH h x pa pb s1 v1) (F : CF f (hL h) x pa S) (W : WS S) (a : Int32) : ev M_PT_isToldOne 0 0 [some (.ref x), some (.int a)] [] (wI h f) = some (some (.int (nI (tdN S a).isSome.toNat)), wI h f) := by
  obtain ⟨⟨c0, q0, q2, q3, q4, q5, q6, q7, q8, q9, q10, q11, q12, q13⟩, PA, PB, RSH, HSH, ⟨bC, bN, bR⟩, ISH, TSH, TSH2, GSH, SSH, ⟨lC, lN1, tC, tN⟩, ⟨rC, rR1, sC, sR1, wC, wN⟩, STR, ⟨sx1, sx2, x0⟩, PP⟩ := id C
  obtain ⟨⟨ft1, ft2⟩, ⟨fl1, fl2⟩, ⟨fe1, fe2⟩, fkw, fpn, ⟨fg1, fg2⟩, fhist, fbx, fsg⟩ := id F
  obtain ⟨⟨ws1, ws2⟩, ⟨ws3, ws4⟩, wpn, ⟨ws5, ws6, ws7⟩, ws8, ⟨ws9, ws10⟩, ⟨ws11, ws12⟩, ws13⟩ := id W
  have p1 := PA.1
  have r1 := RSH.1
  have r2 := RSH.2.1
  have r3 := RSH.2.2.1
  have r4 := RSH.2.2.2.1
  have hv1 : 1 ≤ aV S := wpn.1.1
  have hv4 : aV S ≤ 4 := wpn.1.2.1
  have hr5 : aR S ≤ 5 := wpn.1.2.2.2.1
  have hn16 : aW S ≤ 16 := lv_p hv4
  have fp0 : f pa 0 = nI (aV S) := fpn.1
  have fp1 : f pa 1 = nI (aR S) := fpn.2.1
  have gSH := GSH.1
  have tSH := TSH.1
  have sSH := SSH.1
  have iSH := ISH.1
  have hSH := HSH.1
  rw [r_PT_isToldOne_0]
  apply wp_e
  refine wp_isC c0 (wp_rIe (pt_isRel C F W a) ?_)
  unfold tdN
  cases z : inN a (aR S) with
  | none => exact wp_bt rfl (wp_isZ (by decide) (wp_s ⟨rfl, rfl⟩))
  | some k =>
    obtain ⟨e, e2, e3⟩ := inN_s z
    subst e
    have td : vTd (aQ S) < 2 ^ 31 := Nat.lt_trans wpn.1.2.2.2.2.1 (by decide)
    refine wp_bf n10 (wp_isC c0 (wp_nnR q2 (wp_isC p1 (wp_rIe (pl_told p1 fpn.2.2.1 td (by omega)) ?_))))
    dsimp only
    cases (vTd (aQ S)).testBit k with
    | false => exact wp_bt rfl (wp_isZ (by decide) (wp_s ⟨rfl, rfl⟩))
    | true => exact wp_bf n10 (wp_isZ (by decide) (wp_s ⟨rfl, rfl⟩))
/-- a rectangle -/
def rcN (S : Abs) (a b c d : Int32) : Bool := (inN a (aW S)).isSome && ((inN b (aW S)).isSome && ((inN c (aW S)).isSome && ((inN d (aW S)).isSome && (decide (¬ b < a) && decide (¬ d < c)))))
theorem pt_isRect (C : CSH h x pa pb s1 v1) (F : CF f (hL h) x pa S) (W : WS S) (a b c d : Int32) : ev M_PT_isRectangle 0 0 [some (.ref x), some (.int a), some (.int b), some (.int c), some (.int d)] [] (wI h f) = some (some (.int (nI (rcN S a b c d).toNat)), wI h f) := by
  have c0 := C.1.1
  rw [r_PT_isRectangle_0]
  apply wp_e
  unfold rcN
  refine wp_isC c0 (wp_rIe (pt_isNode C F W a) ?_)
  cases (inN a (aW S)).isSome with
  | false => exact wp_bt rfl (wp_isZ (by decide) (wp_s ⟨rfl, rfl⟩))
  | true =>
  refine wp_bf n10 (wp_isC c0 (wp_rIe (pt_isNode C F W b) ?_))
  cases (inN b (aW S)).isSome with
  | false => exact wp_bt rfl (wp_isZ (by decide) (wp_s ⟨rfl, rfl⟩))
  | true =>
  refine wp_bf n10 (wp_isC c0 (wp_rIe (pt_isNode C F W c) ?_))
  cases (inN c (aW S)).isSome with
  | false => exact wp_bt rfl (wp_isZ (by decide) (wp_s ⟨rfl, rfl⟩))
  | true =>
  refine wp_bf n10 (wp_isC c0 (wp_rIe (pt_isNode C F W d) ?_))
  cases (inN d (aW S)).isSome with
  | false => exact wp_bt rfl (wp_isZ (by decide) (wp_s ⟨rfl, rfl⟩))
  | true =>
  refine wp_bf n10 ?_
  by_cases q : b < a
  · rw [decide_eq_false (show ¬ ¬ b < a from fun w => w q)]
    exact wp_bt q (wp_isZ (by decide) (wp_s ⟨rfl, rfl⟩))
  · rw [decide_eq_true q]
    refine wp_bf q ?_
    by_cases q2 : d < c
    · rw [decide_eq_false (show ¬ ¬ d < c from fun w => w q2)]
      exact wp_bt q2 (wp_isZ (by decide) (wp_s ⟨rfl, rfl⟩))
    · rw [decide_eq_true q2]
      exact wp_bf q2 (wp_isZ (by decide) (wp_s ⟨rfl, rfl⟩))
def sHas (S : Abs) (a b c : Int32) : Int32 := on (inN a (aR S)) fun k => on (inN b (aW S)) fun i => on (inN c (aW S)) fun j => nI ((aG S k i).testBit j).toNat
theorem pt_has (C : CSH h x pa pb s1 v1) (F : CF f (hL h) x pa S) (W : WS S) (a b c : Int32) : ev M_PT_has 0 0 [some (.ref x), some (.int a), some (.int b), some (.int c)] [] (wI h f) = some (some (.int (sHas S a b c)), wI h f) := by
  obtain ⟨⟨c0, q0, q2, q3, q4, q5, q6, q7, q8, q9, q10, q11, q12, q13⟩, PA, PB, RSH, HSH, ⟨bC, bN, bR⟩, ISH, TSH, TSH2, GSH, SSH, ⟨lC, lN1, tC, tN⟩, ⟨rC, rR1, sC, sR1, wC, wN⟩, STR, ⟨sx1, sx2, x0⟩, PP⟩ := id C
  obtain ⟨⟨ft1, ft2⟩, ⟨fl1, fl2⟩, ⟨fe1, fe2⟩, fkw, fpn, ⟨fg1, fg2⟩, fhist, fbx, fsg⟩ := id F
  obtain ⟨⟨ws1, ws2⟩, ⟨ws3, ws4⟩, wpn, ⟨ws5, ws6, ws7⟩, ws8, ⟨ws9, ws10⟩, ⟨ws11, ws12⟩, ws13⟩ := id W
  have p1 := PA.1
  have r1 := RSH.1
  have r2 := RSH.2.1
  have r3 := RSH.2.2.1
  have r4 := RSH.2.2.2.1
  have hv1 : 1 ≤ aV S := wpn.1.1
  have hv4 : aV S ≤ 4 := wpn.1.2.1
  have hr5 : aR S ≤ 5 := wpn.1.2.2.2.1
  have hn16 : aW S ≤ 16 := lv_p hv4
  have fp0 : f pa 0 = nI (aV S) := fpn.1
  have fp1 : f pa 1 = nI (aR S) := fpn.2.1
  have gSH := GSH.1
  have tSH := TSH.1
  have sSH := SSH.1
  have iSH := ISH.1
  have hSH := HSH.1
  rw [r_PT_has_0]
  apply wp_e
  unfold sHas
  refine wp_isC c0 (wp_rIe (pt_isRel C F W a) ?_)
  cases z : inN a (aR S) with
  | none => exact wp_bt rfl (wp_s ⟨rfl, rfl⟩)
  | some k =>
  obtain ⟨e, e2, e3⟩ := inN_s z
  subst e
  refine wp_bf n10 (wp_isC c0 (wp_rIe (pt_isNode C F W b) ?_))
  cases z2 : inN b (aW S) with
  | none => exact wp_bt rfl (wp_s ⟨rfl, rfl⟩)
  | some i =>
  obtain ⟨e, i2, i3⟩ := inN_s z2
  subst e
  refine wp_bf n10 (wp_isC c0 (wp_rIe (pt_isNode C F W c) ?_))
  cases z3 : inN c (aW S) with
  | none => exact wp_bt rfl (wp_s ⟨rfl, rfl⟩)
  | some j =>
  obtain ⟨e, j2, j3⟩ := inN_s z3
  subst e
  obtain ⟨g1, g2, g3, g4⟩ := pt_rl C F W e2
  have g5 := g2.1
  refine wp_bf n10 ?_
  repeat (first | refine wp_isC (by assumption) ?_ | refine wp_nnR (by assumption) ?_ | refine wp_inA (by assumption) rfl (by omega) (by omega) ?_ | refine wp_isZ (by first | decide | exact b01z _) ?_ | refine wp_bt (by (first | (simp (disch := omega) only [wI_I, wI_s, nI_add, pk_mul, nI_ltI, nI_leI, nI_eq, nI_clamp, nm_or, nm_and, nm_xor, nm_nd, nm_one, nm_shr, nm_b2, Bool.false_eq_true, Bool.true_eq_false, not_false_eq_true, not_true_eq_false, reduceCtorEq]; done) | (simp (disch := omega) only [wI_I, wI_s, nI_add, pk_mul, nI_ltI, nI_leI, nI_eq, nI_clamp, nm_or, nm_and, nm_xor, nm_nd, nm_one, nm_shr, nm_b2, Bool.false_eq_true, Bool.true_eq_false, not_false_eq_true, not_true_eq_false, reduceCtorEq]; omega) | omega)) ?_ | refine wp_bf (by (first | (simp (disch := omega) only [wI_I, wI_s, nI_add, pk_mul, nI_ltI, nI_leI, nI_eq, nI_clamp, nm_or, nm_and, nm_xor, nm_nd, nm_one, nm_shr, nm_b2, Bool.false_eq_true, Bool.true_eq_false, not_false_eq_true, not_true_eq_false, reduceCtorEq]; done) | (simp (disch := omega) only [wI_I, wI_s, nI_add, pk_mul, nI_ltI, nI_leI, nI_eq, nI_clamp, nm_or, nm_and, nm_xor, nm_nd, nm_one, nm_shr, nm_b2, Bool.false_eq_true, Bool.true_eq_false, not_false_eq_true, not_true_eq_false, reduceCtorEq]; omega) | omega)) ?_ | refine wp_nz (by first | decide | exact nz_n (by omega) (by omega)) ?_ | (simp (disch := omega) only [wI_I, wI_s, nI_add, pk_mul, nI_ltI, nI_leI, nI_eq, nI_clamp, nm_or, nm_and, nm_xor, nm_nd, nm_one, nm_shr, nm_b2, Bool.false_eq_true, Bool.true_eq_false, not_false_eq_true, not_true_eq_false, reduceCtorEq, up2_a, up2_k, up2_s, gw_o]))
  refine wp_rIe (gq_holds g2 g3 g4 i2 j2) ?_
  show wp _ (fun a b => a = some (.int (nI ((aG S k i).testBit j).toNat)) ∧ b = _)
  cases (aG S k i).testBit j with
  | false => exact wp_bt rfl (wp_s ⟨rfl, rfl⟩)
  | true => exact wp_bf n10 (wp_s ⟨rfl, rfl⟩)
/-- the bits of a grid's tree -/
theorem pt_bitsOf {o : Nat} {G : Rw} (C : CSH h x pa pb s1 v1) (F : CF f (hL h) x pa S) (W : WS S) (g2 : GS h o) (d : x + 199 ≤ o ∨ o + 1 < x + 184) (g3 : GF f o (aW S) G) (g4 : GW (aW S) G) : ∃ f', ev M_PT_bitsOf 0 0 [some (.ref x), some (.ref o)] [] (wI h f) = some (some (.int (nI (nb (aV S) G))), wI h f') ∧ Fr (x + 184) (x + 199) f f' := by
  obtain ⟨⟨c0, q0, q2, q3, q4, q5, q6, q7, q8, q9, q10, q11, q12, q13⟩, PA, PB, RSH, HSH, ⟨bC, bN, bR⟩, ISH, TSH, TSH2, GSH, SSH, ⟨lC, lN1, tC, tN⟩, ⟨rC, rR1, sC, sR1, wC, wN⟩, STR, ⟨sx1, sx2, x0⟩, PP⟩ := id C
  obtain ⟨⟨ft1, ft2⟩, ⟨fl1, fl2⟩, ⟨fe1, fe2⟩, fkw, fpn, ⟨fg1, fg2⟩, fhist, fbx, fsg⟩ := id F
  obtain ⟨⟨ws1, ws2⟩, ⟨ws3, ws4⟩, wpn, ⟨ws5, ws6, ws7⟩, ws8, ⟨ws9, ws10⟩, ⟨ws11, ws12⟩, ws13⟩ := id W
  have p1 := PA.1
  have r1 := RSH.1
  have r2 := RSH.2.1
  have r3 := RSH.2.2.1
  have r4 := RSH.2.2.2.1
  have hv1 : 1 ≤ aV S := wpn.1.1
  have hv4 : aV S ≤ 4 := wpn.1.2.1
  have hr5 : aR S ≤ 5 := wpn.1.2.2.2.1
  have hn16 : aW S ≤ 16 := lv_p hv4
  have fp0 : f pa 0 = nI (aV S) := fpn.1
  have fp1 : f pa 1 = nI (aR S) := fpn.2.1
  have gSH := GSH.1
  have tSH := TSH.1
  have sSH := SSH.1
  have iSH := ISH.1
  have hSH := HSH.1
  obtain ⟨r, h', e, f', e1, e2, e3, e4⟩ := tr_grow TSH g2 (by omega) g3 g4 hv1 hv4
  subst e1; subst e2
  refine ⟨f', ?_, e4⟩
  rw [r_PT_bitsOf_0]
  apply wp_e
  refine wp_isC c0 (wp_nnR q9 (wp_isC c0 (wp_nnR q2 (wp_isC p1 (wp_isC tSH ?_)))))
  rw [wI_I, fp0]
  refine wp_rVe e (wp_isC c0 (wp_nnR q9 (wp_isC tSH (wp_rIe (tr_count TSH e3 g4 hv1 hv4) (wp_s ⟨rfl, rfl⟩)))))
end
