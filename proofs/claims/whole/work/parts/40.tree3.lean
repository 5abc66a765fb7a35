/-! What is told of a tree's bits; two trees. -/
def eb (Q : List Eb) (i : Nat) : Eb := (Q[i]?).getD (0, 0, 0)
theorem eb_at {Q : List Eb} {i : Nat} (h : i < Q.length) : Q[i]? = some (eb Q i) := by
  unfold eb; rw [List.getElem?_eq_getElem h]; rfl
theorem tr_rank {h : MH} {f : Nat → Nat → Int32} {t v j : Nat} {G : Nat → Nat} {Q : List Eb} (T : TS h t) (F : TF f t v G) (V : GW (2 ^ v) G) (h4 : v ≤ 4) (B : QF f t Q) (hQ : Q.length ≤ 340) (hj : j < Q.length) (o : ∀ e, e ∈ Q → okQ v e) :
    ev M_Tree_rankAt 0 0 [some (.ref t), some (.int (nI j)), none, none] [] (wI h f) = some (some (.int (nI (sm (fun i => (fb v G (eb Q i)).toNat) (j + 1)))), wI h f) := by
  have t1 := T.1
  have b4 := B.1
  have L : ∀ k i, i + k = j + 1 → ev M_Tree_rankAt 0 5 [some (.ref t), some (.int (nI j)), some (.int (nI (sm (fun i => (fb v G (eb Q i)).toNat) i))), some (.int (nI i))] [] (wI h f) = some (some (.int (nI (sm (fun i => (fb v G (eb Q i)).toNat) (j + 1)))), wI h f) := by
    intro k
    induction k with
    | zero =>
      intro i hi
      rw [r_Tree_rankAt_5]
      apply wp_e
      repeat (first | refine wp_isC (by assumption) ?_ | refine wp_nnR (by assumption) ?_ | refine wp_inA (by assumption) rfl (by omega) (by omega) ?_ | refine wp_isZ (by decide) ?_ | refine wp_bt (by (first | (simp (disch := omega) only [wI_I, wI_s, nI_add, pk_mul, nI_ltI, nI_leI, nI_eq, nI_clamp, nm_or, nm_and, nm_xor, nm_nd, nm_one, nm_shr, nm_b2, Bool.false_eq_true, Bool.true_eq_false, not_false_eq_true, not_true_eq_false, reduceCtorEq]; done) | (simp (disch := omega) only [wI_I, wI_s, nI_add, pk_mul, nI_ltI, nI_leI, nI_eq, nI_clamp, nm_or, nm_and, nm_xor, nm_nd, nm_one, nm_shr, nm_b2, Bool.false_eq_true, Bool.true_eq_false, not_false_eq_true, not_true_eq_false, reduceCtorEq]; omega) | omega)) ?_ | refine wp_bf (by (first | (simp (disch := omega) only [wI_I, wI_s, nI_add, pk_mul, nI_ltI, nI_leI, nI_eq, nI_clamp, nm_or, nm_and, nm_xor, nm_nd, nm_one, nm_shr, nm_b2, Bool.false_eq_true, Bool.true_eq_false, not_false_eq_true, not_true_eq_false, reduceCtorEq]; done) | (simp (disch := omega) only [wI_I, wI_s, nI_add, pk_mul, nI_ltI, nI_leI, nI_eq, nI_clamp, nm_or, nm_and, nm_xor, nm_nd, nm_one, nm_shr, nm_b2, Bool.false_eq_true, Bool.true_eq_false, not_false_eq_true, not_true_eq_false, reduceCtorEq]; omega) | omega)) ?_)
      refine wp_s ⟨?_, rfl⟩
      rw [show i = j + 1 by omega]
    | succ k ih =>
      intro i hi
      have ih := ih (i + 1) (by omega)
      have e1 := eb_at (Q := Q) (i := i) (by omega)
      rw [r_Tree_rankAt_5]
      apply wp_e
      repeat (first | refine wp_isC (by assumption) ?_ | refine wp_nnR (by assumption) ?_ | refine wp_inA (by assumption) rfl (by omega) (by omega) ?_ | refine wp_isZ (by decide) ?_ | refine wp_bt (by (first | (simp (disch := omega) only [wI_I, wI_s, nI_add, pk_mul, nI_ltI, nI_leI, nI_eq, nI_clamp, nm_or, nm_and, nm_xor, nm_nd, nm_one, nm_shr, nm_b2, Bool.false_eq_true, Bool.true_eq_false, not_false_eq_true, not_true_eq_false, reduceCtorEq, b4]; done) | (simp (disch := omega) only [wI_I, wI_s, nI_add, pk_mul, nI_ltI, nI_leI, nI_eq, nI_clamp, nm_or, nm_and, nm_xor, nm_nd, nm_one, nm_shr, nm_b2, Bool.false_eq_true, Bool.true_eq_false, not_false_eq_true, not_true_eq_false, reduceCtorEq, b4]; omega) | omega)) ?_ | refine wp_bf (by (first | (simp (disch := omega) only [wI_I, wI_s, nI_add, pk_mul, nI_ltI, nI_leI, nI_eq, nI_clamp, nm_or, nm_and, nm_xor, nm_nd, nm_one, nm_shr, nm_b2, Bool.false_eq_true, Bool.true_eq_false, not_false_eq_true, not_true_eq_false, reduceCtorEq, b4]; done) | (simp (disch := omega) only [wI_I, wI_s, nI_add, pk_mul, nI_ltI, nI_leI, nI_eq, nI_clamp, nm_or, nm_and, nm_xor, nm_nd, nm_one, nm_shr, nm_b2, Bool.false_eq_true, Bool.true_eq_false, not_false_eq_true, not_true_eq_false, reduceCtorEq, b4]; omega) | omega)) ?_)
      refine wp_rIe (tr_bit T F V h4 B hQ e1 (o _ (List.mem_of_getElem? e1))) ?_
      simp (disch := omega) only [wI_I, wI_s, nI_add, pk_mul, nI_ltI, nI_leI, nI_eq, nI_clamp, nm_or, nm_and, nm_xor, nm_nd, nm_one, nm_shr, nm_b2, Bool.false_eq_true, Bool.true_eq_false, not_false_eq_true, not_true_eq_false, reduceCtorEq]
      exact wp_of ih ⟨rfl, rfl⟩
  rw [r_Tree_rankAt_0]
  exact L (j + 1) 0 (by omega)
theorem tr_level {h : MH} {f : Nat → Nat → Int32} {t j : Nat} {Q : List Eb} (T : TS h t) (B : QF f t Q) (hQ : Q.length ≤ 340) (hj : j < Q.length) :
    ev M_Tree_levelAt 0 0 [some (.ref t), some (.int (nI j))] [] (wI h f) = some (some (.int (nI (eb Q j).1)), wI h f) := by
  have e1 := tr_laid T B.1 hj hQ
  obtain ⟨t1, t2, t3, t4, t5, t6, t7, t8, t9, t10, t11, t12, t13, t14⟩ := T
  obtain ⟨k1, k2, k3⟩ := B.2 j _ (eb_at hj)
  rw [r_Tree_levelAt_0]
  apply wp_e
  repeat (first | refine wp_isC (by assumption) ?_ | refine wp_nnR (by assumption) ?_ | refine wp_inA (by assumption) rfl (by omega) (by omega) ?_ | refine wp_isZ (by decide) ?_ | refine wp_bt (by (first | (simp (disch := omega) only [wI_I, wI_s, nI_add, pk_mul, nI_ltI, nI_leI, nI_eq, nI_clamp, nm_or, nm_and, nm_xor, nm_nd, nm_one, nm_shr, nm_b2, Bool.false_eq_true, Bool.true_eq_false, not_false_eq_true, not_true_eq_false, reduceCtorEq]; done) | (simp (disch := omega) only [wI_I, wI_s, nI_add, pk_mul, nI_ltI, nI_leI, nI_eq, nI_clamp, nm_or, nm_and, nm_xor, nm_nd, nm_one, nm_shr, nm_b2, Bool.false_eq_true, Bool.true_eq_false, not_false_eq_true, not_true_eq_false, reduceCtorEq]; omega) | omega)) ?_ | refine wp_bf (by (first | (simp (disch := omega) only [wI_I, wI_s, nI_add, pk_mul, nI_ltI, nI_leI, nI_eq, nI_clamp, nm_or, nm_and, nm_xor, nm_nd, nm_one, nm_shr, nm_b2, Bool.false_eq_true, Bool.true_eq_false, not_false_eq_true, not_true_eq_false, reduceCtorEq]; done) | (simp (disch := omega) only [wI_I, wI_s, nI_add, pk_mul, nI_ltI, nI_leI, nI_eq, nI_clamp, nm_or, nm_and, nm_xor, nm_nd, nm_one, nm_shr, nm_b2, Bool.false_eq_true, Bool.true_eq_false, not_false_eq_true, not_true_eq_false, reduceCtorEq]; omega) | omega)) ?_)
  refine wp_rIe e1 ?_
  repeat (first | refine wp_isC (by assumption) ?_ | refine wp_nnR (by assumption) ?_ | refine wp_inA (by assumption) rfl (by omega) (by omega) ?_ | refine wp_isZ (by decide) ?_ | refine wp_bt (by (first | (simp (disch := omega) only [wI_I, wI_s, nI_add, pk_mul, nI_ltI, nI_leI, nI_eq, nI_clamp, nm_or, nm_and, nm_xor, nm_nd, nm_one, nm_shr, nm_b2, Bool.false_eq_true, Bool.true_eq_false, not_false_eq_true, not_true_eq_false, reduceCtorEq]; done) | (simp (disch := omega) only [wI_I, wI_s, nI_add, pk_mul, nI_ltI, nI_leI, nI_eq, nI_clamp, nm_or, nm_and, nm_xor, nm_nd, nm_one, nm_shr, nm_b2, Bool.false_eq_true, Bool.true_eq_false, not_false_eq_true, not_true_eq_false, reduceCtorEq]; omega) | omega)) ?_ | refine wp_bf (by (first | (simp (disch := omega) only [wI_I, wI_s, nI_add, pk_mul, nI_ltI, nI_leI, nI_eq, nI_clamp, nm_or, nm_and, nm_xor, nm_nd, nm_one, nm_shr, nm_b2, Bool.false_eq_true, Bool.true_eq_false, not_false_eq_true, not_true_eq_false, reduceCtorEq]; done) | (simp (disch := omega) only [wI_I, wI_s, nI_add, pk_mul, nI_ltI, nI_leI, nI_eq, nI_clamp, nm_or, nm_and, nm_xor, nm_nd, nm_one, nm_shr, nm_b2, Bool.false_eq_true, Bool.true_eq_false, not_false_eq_true, not_true_eq_false, reduceCtorEq]; omega) | omega)) ?_)
  simp (disch := omega) only [wI_I, wI_s, nI_add, pk_mul, nI_ltI, nI_leI, nI_eq, nI_clamp, nm_or, nm_and, nm_xor, nm_nd, nm_one, nm_shr, nm_b2, Bool.false_eq_true, Bool.true_eq_false, not_false_eq_true, not_true_eq_false, reduceCtorEq, k1]
  exact wp_s ⟨rfl, rfl⟩
theorem okQ_sh {v : Nat} {e : Eb} (o : okQ v e) : e.2.1 * 2 ^ (v - e.1) + 2 ^ (v - e.1) ≤ 2 ^ v ∧ e.2.2 * 2 ^ (v - e.1) + 2 ^ (v - e.1) ≤ 2 ^ v := by
  obtain ⟨o1, o2, o3, o4⟩ := o
  have e1 : 2 ^ v = 2 ^ e.1 * 2 ^ (v - e.1) := by rw [← Nat.pow_add]; congr 1; omega
  constructor
  · rw [e1, ← Nat.succ_mul]; exact Nat.mul_le_mul_right _ o3
  · rw [e1, ← Nat.succ_mul]; exact Nat.mul_le_mul_right _ o4
theorem tr_row {h : MH} {f : Nat → Nat → Int32} {t v j : Nat} {Q : List Eb} (T : TS h t) (f5 : f t 5 = nI v) (h4 : v ≤ 4) (B : QF f t Q) (hQ : Q.length ≤ 340) (hj : j < Q.length) (o : okQ v (eb Q j)) :
    ev M_Tree_firstRowAt 0 0 [some (.ref t), some (.int (nI j))] [] (wI h f) = some (some (.int (nI ((eb Q j).2.1 * 2 ^ (v - (eb Q j).1)))), wI h f) := by
  have e1 := tr_laid T B.1 hj hQ
  have hp := lv_p h4
  have hs := okQ_sh o
  obtain ⟨t1, t2, t3, t4, t5, t6, t7, t8, t9, t10, t11, t12, t13, t14⟩ := T
  obtain ⟨k1, k2, k3⟩ := B.2 j _ (eb_at hj)
  have o2 := o.2.1
  have hw := Nat.two_pow_pos (v - (eb Q j).1)
  rw [r_Tree_firstRowAt_0]
  apply wp_e
  repeat (first | refine wp_isC (by assumption) ?_ | refine wp_nnR (by assumption) ?_ | refine wp_inA (by assumption) rfl (by omega) (by omega) ?_ | refine wp_isZ (by decide) ?_ | refine wp_bt (by (first | (simp (disch := omega) only [wI_I, wI_s, nI_add, pk_mul, nI_ltI, nI_leI, nI_eq, nI_clamp, nm_or, nm_and, nm_xor, nm_nd, nm_one, nm_shr, nm_b2, Bool.false_eq_true, Bool.true_eq_false, not_false_eq_true, not_true_eq_false, reduceCtorEq]; done) | (simp (disch := omega) only [wI_I, wI_s, nI_add, pk_mul, nI_ltI, nI_leI, nI_eq, nI_clamp, nm_or, nm_and, nm_xor, nm_nd, nm_one, nm_shr, nm_b2, Bool.false_eq_true, Bool.true_eq_false, not_false_eq_true, not_true_eq_false, reduceCtorEq]; omega) | omega)) ?_ | refine wp_bf (by (first | (simp (disch := omega) only [wI_I, wI_s, nI_add, pk_mul, nI_ltI, nI_leI, nI_eq, nI_clamp, nm_or, nm_and, nm_xor, nm_nd, nm_one, nm_shr, nm_b2, Bool.false_eq_true, Bool.true_eq_false, not_false_eq_true, not_true_eq_false, reduceCtorEq]; done) | (simp (disch := omega) only [wI_I, wI_s, nI_add, pk_mul, nI_ltI, nI_leI, nI_eq, nI_clamp, nm_or, nm_and, nm_xor, nm_nd, nm_one, nm_shr, nm_b2, Bool.false_eq_true, Bool.true_eq_false, not_false_eq_true, not_true_eq_false, reduceCtorEq]; omega) | omega)) ?_)
  refine wp_rIe e1 ?_
  repeat (first | refine wp_isC (by assumption) ?_ | refine wp_nnR (by assumption) ?_ | refine wp_inA (by assumption) rfl (by omega) (by omega) ?_ | refine wp_isZ (by decide) ?_ | refine wp_bt (by (first | (simp (disch := omega) only [wI_I, wI_s, nI_add, pk_mul, nI_ltI, nI_leI, nI_eq, nI_clamp, nm_or, nm_and, nm_xor, nm_nd, nm_one, nm_shr, nm_b2, Bool.false_eq_true, Bool.true_eq_false, not_false_eq_true, not_true_eq_false, reduceCtorEq]; done) | (simp (disch := omega) only [wI_I, wI_s, nI_add, pk_mul, nI_ltI, nI_leI, nI_eq, nI_clamp, nm_or, nm_and, nm_xor, nm_nd, nm_one, nm_shr, nm_b2, Bool.false_eq_true, Bool.true_eq_false, not_false_eq_true, not_true_eq_false, reduceCtorEq]; omega) | omega)) ?_ | refine wp_bf (by (first | (simp (disch := omega) only [wI_I, wI_s, nI_add, pk_mul, nI_ltI, nI_leI, nI_eq, nI_clamp, nm_or, nm_and, nm_xor, nm_nd, nm_one, nm_shr, nm_b2, Bool.false_eq_true, Bool.true_eq_false, not_false_eq_true, not_true_eq_false, reduceCtorEq]; done) | (simp (disch := omega) only [wI_I, wI_s, nI_add, pk_mul, nI_ltI, nI_leI, nI_eq, nI_clamp, nm_or, nm_and, nm_xor, nm_nd, nm_one, nm_shr, nm_b2, Bool.false_eq_true, Bool.true_eq_false, not_false_eq_true, not_true_eq_false, reduceCtorEq]; omega) | omega)) ?_)
  simp (disch := omega) only [wI_I, wI_s, nI_add, pk_mul, nI_ltI, nI_leI, nI_eq, nI_clamp, nm_or, nm_and, nm_xor, nm_nd, nm_one, nm_shr, nm_b2, Bool.false_eq_true, Bool.true_eq_false, not_false_eq_true, not_true_eq_false, reduceCtorEq, k1, k2, f5]
  rw [pk_sub o2, nm_shl (by omega) (by omega)]
  exact wp_s ⟨rfl, rfl⟩
theorem tr_col {h : MH} {f : Nat → Nat → Int32} {t v j : Nat} {Q : List Eb} (T : TS h t) (f5 : f t 5 = nI v) (h4 : v ≤ 4) (B : QF f t Q) (hQ : Q.length ≤ 340) (hj : j < Q.length) (o : okQ v (eb Q j)) :
    ev M_Tree_firstColumnAt 0 0 [some (.ref t), some (.int (nI j))] [] (wI h f) = some (some (.int (nI ((eb Q j).2.2 * 2 ^ (v - (eb Q j).1)))), wI h f) := by
  have e1 := tr_laid T B.1 hj hQ
  have hp := lv_p h4
  have hs := okQ_sh o
  obtain ⟨t1, t2, t3, t4, t5, t6, t7, t8, t9, t10, t11, t12, t13, t14⟩ := T
  obtain ⟨k1, k2, k3⟩ := B.2 j _ (eb_at hj)
  have o2 := o.2.1
  have hw := Nat.two_pow_pos (v - (eb Q j).1)
  rw [r_Tree_firstColumnAt_0]
  apply wp_e
  repeat (first | refine wp_isC (by assumption) ?_ | refine wp_nnR (by assumption) ?_ | refine wp_inA (by assumption) rfl (by omega) (by omega) ?_ | refine wp_isZ (by decide) ?_ | refine wp_bt (by (first | (simp (disch := omega) only [wI_I, wI_s, nI_add, pk_mul, nI_ltI, nI_leI, nI_eq, nI_clamp, nm_or, nm_and, nm_xor, nm_nd, nm_one, nm_shr, nm_b2, Bool.false_eq_true, Bool.true_eq_false, not_false_eq_true, not_true_eq_false, reduceCtorEq]; done) | (simp (disch := omega) only [wI_I, wI_s, nI_add, pk_mul, nI_ltI, nI_leI, nI_eq, nI_clamp, nm_or, nm_and, nm_xor, nm_nd, nm_one, nm_shr, nm_b2, Bool.false_eq_true, Bool.true_eq_false, not_false_eq_true, not_true_eq_false, reduceCtorEq]; omega) | omega)) ?_ | refine wp_bf (by (first | (simp (disch := omega) only [wI_I, wI_s, nI_add, pk_mul, nI_ltI, nI_leI, nI_eq, nI_clamp, nm_or, nm_and, nm_xor, nm_nd, nm_one, nm_shr, nm_b2, Bool.false_eq_true, Bool.true_eq_false, not_false_eq_true, not_true_eq_false, reduceCtorEq]; done) | (simp (disch := omega) only [wI_I, wI_s, nI_add, pk_mul, nI_ltI, nI_leI, nI_eq, nI_clamp, nm_or, nm_and, nm_xor, nm_nd, nm_one, nm_shr, nm_b2, Bool.false_eq_true, Bool.true_eq_false, not_false_eq_true, not_true_eq_false, reduceCtorEq]; omega) | omega)) ?_)
  refine wp_rIe e1 ?_
  repeat (first | refine wp_isC (by assumption) ?_ | refine wp_nnR (by assumption) ?_ | refine wp_inA (by assumption) rfl (by omega) (by omega) ?_ | refine wp_isZ (by decide) ?_ | refine wp_bt (by (first | (simp (disch := omega) only [wI_I, wI_s, nI_add, pk_mul, nI_ltI, nI_leI, nI_eq, nI_clamp, nm_or, nm_and, nm_xor, nm_nd, nm_one, nm_shr, nm_b2, Bool.false_eq_true, Bool.true_eq_false, not_false_eq_true, not_true_eq_false, reduceCtorEq]; done) | (simp (disch := omega) only [wI_I, wI_s, nI_add, pk_mul, nI_ltI, nI_leI, nI_eq, nI_clamp, nm_or, nm_and, nm_xor, nm_nd, nm_one, nm_shr, nm_b2, Bool.false_eq_true, Bool.true_eq_false, not_false_eq_true, not_true_eq_false, reduceCtorEq]; omega) | omega)) ?_ | refine wp_bf (by (first | (simp (disch := omega) only [wI_I, wI_s, nI_add, pk_mul, nI_ltI, nI_leI, nI_eq, nI_clamp, nm_or, nm_and, nm_xor, nm_nd, nm_one, nm_shr, nm_b2, Bool.false_eq_true, Bool.true_eq_false, not_false_eq_true, not_true_eq_false, reduceCtorEq]; done) | (simp (disch := omega) only [wI_I, wI_s, nI_add, pk_mul, nI_ltI, nI_leI, nI_eq, nI_clamp, nm_or, nm_and, nm_xor, nm_nd, nm_one, nm_shr, nm_b2, Bool.false_eq_true, Bool.true_eq_false, not_false_eq_true, not_true_eq_false, reduceCtorEq]; omega) | omega)) ?_)
  simp (disch := omega) only [wI_I, wI_s, nI_add, pk_mul, nI_ltI, nI_leI, nI_eq, nI_clamp, nm_or, nm_and, nm_xor, nm_nd, nm_one, nm_shr, nm_b2, Bool.false_eq_true, Bool.true_eq_false, not_false_eq_true, not_true_eq_false, reduceCtorEq, k1, k3, f5]
  rw [pk_sub o2, nm_shl (by omega) (by omega)]
  exact wp_s ⟨rfl, rfl⟩
/-- whether a block meets a rectangle -/
def mt (v a b c d : Nat) (e : Eb) : Bool := decide (e.2.1 * 2 ^ (v - e.1) ≤ b) && decide (a < e.2.1 * 2 ^ (v - e.1) + 2 ^ (v - e.1)) && decide (e.2.2 * 2 ^ (v - e.1) ≤ d) && decide (c < e.2.2 * 2 ^ (v - e.1) + 2 ^ (v - e.1))
theorem tr_in {h : MH} {f : Nat → Nat → Int32} {t v a b c d : Nat} {Q : List Eb} (T : TS h t) (f5 : f t 5 = nI v) (h4 : v ≤ 4) (B : QF f t Q) (hQ : Q.length ≤ 340) (o : ∀ e, e ∈ Q → okQ v e) (ha : a < 16) (hb : b < 16) (hc : c < 16) (hd : d < 16) :
    ev M_Tree_countBitsIn 0 0 [some (.ref t), some (.int (nI a)), some (.int (nI b)), some (.int (nI c)), some (.int (nI d)), none, none, none, none, none] [] (wI h f) = some (some (.int (nI (sm (fun i => (mt v a b c d (eb Q i)).toNat) Q.length))), wI h f) := by
  obtain ⟨t1, t2, t3, t4, t5, t6, t7, t8, t9, t10, t11, t12, t13, t14⟩ := id T
  have b4 := B.1
  have hp := lv_p h4
  have L : ∀ k i, i + k = Q.length → ev M_Tree_countBitsIn 0 5 [some (.ref t), some (.int (nI a)), some (.int (nI b)), some (.int (nI c)), some (.int (nI d)), some (.int (nI (sm (fun i => (mt v a b c d (eb Q i)).toNat) i))), some (.int (nI i)), none, none, none] [] (wI h f) = some (some (.int (nI (sm (fun i => (mt v a b c d (eb Q i)).toNat) Q.length))), wI h f) := by
    intro k
    induction k with
    | zero =>
      intro i hi
      rw [r_Tree_countBitsIn_5]
      apply wp_e
      repeat (first | refine wp_isC (by assumption) ?_ | refine wp_nnR (by assumption) ?_ | refine wp_inA (by assumption) rfl (by omega) (by omega) ?_ | refine wp_isZ (by decide) ?_ | refine wp_bt (by (first | (simp (disch := omega) only [wI_I, wI_s, nI_add, pk_mul, nI_ltI, nI_leI, nI_eq, nI_clamp, nm_or, nm_and, nm_xor, nm_nd, nm_one, nm_shr, nm_b2, Bool.false_eq_true, Bool.true_eq_false, not_false_eq_true, not_true_eq_false, reduceCtorEq, b4]; done) | (simp (disch := omega) only [wI_I, wI_s, nI_add, pk_mul, nI_ltI, nI_leI, nI_eq, nI_clamp, nm_or, nm_and, nm_xor, nm_nd, nm_one, nm_shr, nm_b2, Bool.false_eq_true, Bool.true_eq_false, not_false_eq_true, not_true_eq_false, reduceCtorEq, b4]; omega) | omega)) ?_ | refine wp_bf (by (first | (simp (disch := omega) only [wI_I, wI_s, nI_add, pk_mul, nI_ltI, nI_leI, nI_eq, nI_clamp, nm_or, nm_and, nm_xor, nm_nd, nm_one, nm_shr, nm_b2, Bool.false_eq_true, Bool.true_eq_false, not_false_eq_true, not_true_eq_false, reduceCtorEq, b4]; done) | (simp (disch := omega) only [wI_I, wI_s, nI_add, pk_mul, nI_ltI, nI_leI, nI_eq, nI_clamp, nm_or, nm_and, nm_xor, nm_nd, nm_one, nm_shr, nm_b2, Bool.false_eq_true, Bool.true_eq_false, not_false_eq_true, not_true_eq_false, reduceCtorEq, b4]; omega) | omega)) ?_)
      refine wp_s ⟨?_, rfl⟩
      rw [show i = Q.length by omega]
    | succ k ih =>
      intro i hi
      have ih := ih (i + 1) (by omega)
      rw [sm] at ih
      have e1 := eb_at (Q := Q) (i := i) (by omega)
      have oi := o _ (List.mem_of_getElem? e1)
      have hs := okQ_sh oi
      have hw := Nat.two_pow_pos (v - (eb Q i).1)
      obtain ⟨k1, k2, k3⟩ := B.2 i _ e1
      have o2 := oi.2.1
      rw [r_Tree_countBitsIn_5]
      simp only [r_Tree_countBitsIn_47]
      apply wp_e
      repeat (first | refine wp_isC (by assumption) ?_ | refine wp_nnR (by assumption) ?_ | refine wp_inA (by assumption) rfl (by omega) (by omega) ?_ | refine wp_isZ (by decide) ?_ | refine wp_bt (by (first | (simp (disch := omega) only [wI_I, wI_s, nI_add, pk_mul, nI_ltI, nI_leI, nI_eq, nI_clamp, nm_or, nm_and, nm_xor, nm_nd, nm_one, nm_shr, nm_b2, Bool.false_eq_true, Bool.true_eq_false, not_false_eq_true, not_true_eq_false, reduceCtorEq, b4]; done) | (simp (disch := omega) only [wI_I, wI_s, nI_add, pk_mul, nI_ltI, nI_leI, nI_eq, nI_clamp, nm_or, nm_and, nm_xor, nm_nd, nm_one, nm_shr, nm_b2, Bool.false_eq_true, Bool.true_eq_false, not_false_eq_true, not_true_eq_false, reduceCtorEq, b4]; omega) | omega)) ?_ | refine wp_bf (by (first | (simp (disch := omega) only [wI_I, wI_s, nI_add, pk_mul, nI_ltI, nI_leI, nI_eq, nI_clamp, nm_or, nm_and, nm_xor, nm_nd, nm_one, nm_shr, nm_b2, Bool.false_eq_true, Bool.true_eq_false, not_false_eq_true, not_true_eq_false, reduceCtorEq, b4]; done) | (simp (disch := omega) only [wI_I, wI_s, nI_add, pk_mul, nI_ltI, nI_leI, nI_eq, nI_clamp, nm_or, nm_and, nm_xor, nm_nd, nm_one, nm_shr, nm_b2, Bool.false_eq_true, Bool.true_eq_false, not_false_eq_true, not_true_eq_false, reduceCtorEq, b4]; omega) | omega)) ?_)
      refine wp_rIe (tr_row T f5 h4 B hQ (by omega) oi) ?_
      repeat (first | refine wp_isC (by assumption) ?_ | refine wp_nnR (by assumption) ?_ | refine wp_inA (by assumption) rfl (by omega) (by omega) ?_ | refine wp_isZ (by decide) ?_ | refine wp_bt (by (first | (simp (disch := omega) only [wI_I, wI_s, nI_add, pk_mul, nI_ltI, nI_leI, nI_eq, nI_clamp, nm_or, nm_and, nm_xor, nm_nd, nm_one, nm_shr, nm_b2, Bool.false_eq_true, Bool.true_eq_false, not_false_eq_true, not_true_eq_false, reduceCtorEq]; done) | (simp (disch := omega) only [wI_I, wI_s, nI_add, pk_mul, nI_ltI, nI_leI, nI_eq, nI_clamp, nm_or, nm_and, nm_xor, nm_nd, nm_one, nm_shr, nm_b2, Bool.false_eq_true, Bool.true_eq_false, not_false_eq_true, not_true_eq_false, reduceCtorEq]; omega) | omega)) ?_ | refine wp_bf (by (first | (simp (disch := omega) only [wI_I, wI_s, nI_add, pk_mul, nI_ltI, nI_leI, nI_eq, nI_clamp, nm_or, nm_and, nm_xor, nm_nd, nm_one, nm_shr, nm_b2, Bool.false_eq_true, Bool.true_eq_false, not_false_eq_true, not_true_eq_false, reduceCtorEq]; done) | (simp (disch := omega) only [wI_I, wI_s, nI_add, pk_mul, nI_ltI, nI_leI, nI_eq, nI_clamp, nm_or, nm_and, nm_xor, nm_nd, nm_one, nm_shr, nm_b2, Bool.false_eq_true, Bool.true_eq_false, not_false_eq_true, not_true_eq_false, reduceCtorEq]; omega) | omega)) ?_)
      refine wp_rIe (tr_col T f5 h4 B hQ (by omega) oi) ?_
      simp (disch := omega) only [wI_I, wI_s, nI_add, pk_mul, nI_ltI, nI_leI, nI_eq, nI_clamp, nm_or, nm_and, nm_xor, nm_nd, nm_one, nm_shr, nm_b2, Bool.false_eq_true, Bool.true_eq_false, not_false_eq_true, not_true_eq_false, reduceCtorEq, k1, f5, pk_sub]
      by_cases q1 : b < (eb Q i).2.1 * 2 ^ (v - (eb Q i).1)
      · refine wp_bt q1 ?_
        have : mt v a b c d (eb Q i) = false := by unfold mt; rw [decide_eq_false (by omega)]; rfl
        rw [this] at ih
        exact wp_of ih ⟨rfl, rfl⟩
      refine wp_bf q1 ?_
      by_cases q2 : (eb Q i).2.1 * 2 ^ (v - (eb Q i).1) + (2 ^ (v - (eb Q i).1) - 1) < a
      · refine wp_bt q2 ?_
        have : mt v a b c d (eb Q i) = false := by unfold mt; rw [decide_eq_false (show ¬ a < (eb Q i).2.1 * 2 ^ (v - (eb Q i).1) + 2 ^ (v - (eb Q i).1) by omega)]; simp
        rw [this] at ih
        exact wp_of ih ⟨rfl, rfl⟩
      refine wp_bf q2 ?_
      by_cases q3 : d < (eb Q i).2.2 * 2 ^ (v - (eb Q i).1)
      · refine wp_bt q3 ?_
        have : mt v a b c d (eb Q i) = false := by unfold mt; rw [decide_eq_false (show ¬ (eb Q i).2.2 * 2 ^ (v - (eb Q i).1) ≤ d by omega)]; simp
        rw [this] at ih
        exact wp_of ih ⟨rfl, rfl⟩
      refine wp_bf q3 ?_
      by_cases q4 : (eb Q i).2.2 * 2 ^ (v - (eb Q i).1) + (2 ^ (v - (eb Q i).1) - 1) < c
      · refine wp_bt q4 ?_
        have : mt v a b c d (eb Q i) = false := by unfold mt; rw [decide_eq_false (show ¬ c < (eb Q i).2.2 * 2 ^ (v - (eb Q i).1) + 2 ^ (v - (eb Q i).1) by omega)]; simp
        rw [this] at ih
        exact wp_of ih ⟨rfl, rfl⟩
      refine wp_bf q4 ?_
      have : mt v a b c d (eb Q i) = true := by
        unfold mt
        rw [decide_eq_true (show (eb Q i).2.1 * 2 ^ (v - (eb Q i).1) ≤ b by omega), decide_eq_true (show a < (eb Q i).2.1 * 2 ^ (v - (eb Q i).1) + 2 ^ (v - (eb Q i).1) by omega), decide_eq_true (show (eb Q i).2.2 * 2 ^ (v - (eb Q i).1) ≤ d by omega), decide_eq_true (show c < (eb Q i).2.2 * 2 ^ (v - (eb Q i).1) + 2 ^ (v - (eb Q i).1) by omega)]; rfl
      rw [this] at ih
      exact wp_of ih ⟨rfl, rfl⟩
  rw [r_Tree_countBitsIn_0]
  exact L _ 0 (Nat.zero_add _)
/-- rows of both, joined and counted, on one level; pairs of blocks that meet, on one level -/
def wk (v : Nat) (G H : Nat → Nat) (l : Nat) : Nat := sm (fun r => 4 * bc (fl v G l r &&& fl v H l r)) (2 ^ l)
def pd (v : Nat) (G H : Nat → Nat) (l : Nat) : Nat := sm (fun m => bc (cs (2 ^ l) (fl v G l) m) * bc (fl v H l m)) (2 ^ l)
theorem tr_walk {h : MH} {f : Nat → Nat → Int32} {t u v : Nat} {G H : Nat → Nat} (T : TS h t) (U : TS h u) (F : TF f t v G) (F2 : TF f u v H) (V : GW (2 ^ v) G) (V2 : GW (2 ^ v) H) (h4 : v ≤ 4) :
    ev M_Tree_walkBeside 0 0 [some (.ref t), some (.ref u), none, none, none, none, none] [] (wI h f) = some (some (.int (nI (1 + sm (wk v G H) v))), wI h f) := by
  obtain ⟨t1, t2, t3, t4, t5, -⟩ := id T
  have u1 := U.1
  have f5 := F.1
  have L : ∀ k i, i + k = v → ev M_Tree_walkBeside 0 5 [some (.ref t), some (.ref u), some (.int (nI (1 + sm (wk v G H) i))), some (.int (nI i)), none, none, none] [] (wI h f) = some (some (.int (nI (1 + sm (wk v G H) v))), wI h f) := by
    intro k
    induction k with
    | zero =>
      intro i hi
      rw [r_Tree_walkBeside_5]
      apply wp_e
      repeat (first | refine wp_isC (by assumption) ?_ | refine wp_nnR (by assumption) ?_ | refine wp_inA (by assumption) rfl (by omega) (by omega) ?_ | refine wp_isZ (by decide) ?_ | refine wp_bt (by (first | (simp (disch := omega) only [wI_I, wI_s, nI_add, pk_mul, nI_ltI, nI_leI, nI_eq, nI_clamp, nm_or, nm_and, nm_xor, nm_nd, nm_one, nm_shr, nm_b2, Bool.false_eq_true, Bool.true_eq_false, not_false_eq_true, not_true_eq_false, reduceCtorEq, f5]; done) | (simp (disch := omega) only [wI_I, wI_s, nI_add, pk_mul, nI_ltI, nI_leI, nI_eq, nI_clamp, nm_or, nm_and, nm_xor, nm_nd, nm_one, nm_shr, nm_b2, Bool.false_eq_true, Bool.true_eq_false, not_false_eq_true, not_true_eq_false, reduceCtorEq, f5]; omega) | omega)) ?_ | refine wp_bf (by (first | (simp (disch := omega) only [wI_I, wI_s, nI_add, pk_mul, nI_ltI, nI_leI, nI_eq, nI_clamp, nm_or, nm_and, nm_xor, nm_nd, nm_one, nm_shr, nm_b2, Bool.false_eq_true, Bool.true_eq_false, not_false_eq_true, not_true_eq_false, reduceCtorEq, f5]; done) | (simp (disch := omega) only [wI_I, wI_s, nI_add, pk_mul, nI_ltI, nI_leI, nI_eq, nI_clamp, nm_or, nm_and, nm_xor, nm_nd, nm_one, nm_shr, nm_b2, Bool.false_eq_true, Bool.true_eq_false, not_false_eq_true, not_true_eq_false, reduceCtorEq, f5]; omega) | omega)) ?_)
      refine wp_s ⟨?_, rfl⟩
      rw [show i = v by omega]
    | succ k ih =>
      intro i hi
      have hp := lv_p (show i ≤ 4 by omega)
      obtain ⟨q1, q2⟩ := t5 i (by omega)
      obtain ⟨p1, p2⟩ := U.2.2.2.2.1 i (by omega)
      obtain ⟨g1, g2⟩ := F.2 i (by omega)
      obtain ⟨g3, g4⟩ := F2.2 i (by omega)
      obtain ⟨a1, a2, a3, a4⟩ := q2
      obtain ⟨b1, b2, b3, b4⟩ := p2
      have W1 := fl_W V (show i ≤ v by omega)
      have L2 : ∀ k2 r, r + k2 = 2 ^ i → ev M_Tree_walkBeside 0 21 [some (.ref t), some (.ref u), some (.int (nI (1 + sm (wk v G H) i + sm (fun r => 4 * bc (fl v G i r &&& fl v H i r)) r))), some (.int (nI i)), some (.ref (t + 5 + 2 * i)), some (.ref (u + 5 + 2 * i)), some (.int (nI r))] [] (wI h f) = some (some (.int (nI (1 + sm (wk v G H) v))), wI h f) := by
        intro k2
        induction k2 with
        | zero =>
          intro r hr
          rw [r_Tree_walkBeside_21]
          apply wp_e
          repeat (first | refine wp_isC (by assumption) ?_ | refine wp_nnR (by assumption) ?_ | refine wp_inA (by assumption) rfl (by omega) (by omega) ?_ | refine wp_isZ (by decide) ?_ | refine wp_bt (by (first | (simp (disch := omega) only [wI_I, wI_s, nI_add, pk_mul, nI_ltI, nI_leI, nI_eq, nI_clamp, nm_or, nm_and, nm_xor, nm_nd, nm_one, nm_shr, nm_b2, Bool.false_eq_true, Bool.true_eq_false, not_false_eq_true, not_true_eq_false, reduceCtorEq, g1]; done) | (simp (disch := omega) only [wI_I, wI_s, nI_add, pk_mul, nI_ltI, nI_leI, nI_eq, nI_clamp, nm_or, nm_and, nm_xor, nm_nd, nm_one, nm_shr, nm_b2, Bool.false_eq_true, Bool.true_eq_false, not_false_eq_true, not_true_eq_false, reduceCtorEq, g1]; omega) | omega)) ?_ | refine wp_bf (by (first | (simp (disch := omega) only [wI_I, wI_s, nI_add, pk_mul, nI_ltI, nI_leI, nI_eq, nI_clamp, nm_or, nm_and, nm_xor, nm_nd, nm_one, nm_shr, nm_b2, Bool.false_eq_true, Bool.true_eq_false, not_false_eq_true, not_true_eq_false, reduceCtorEq, g1]; done) | (simp (disch := omega) only [wI_I, wI_s, nI_add, pk_mul, nI_ltI, nI_leI, nI_eq, nI_clamp, nm_or, nm_and, nm_xor, nm_nd, nm_one, nm_shr, nm_b2, Bool.false_eq_true, Bool.true_eq_false, not_false_eq_true, not_true_eq_false, reduceCtorEq, g1]; omega) | omega)) ?_)
          simp (disch := omega) only [wI_I, wI_s, nI_add, pk_mul, nI_ltI, nI_leI, nI_eq, nI_clamp, nm_or, nm_and, nm_xor, nm_nd, nm_one, nm_shr, nm_b2, Bool.false_eq_true, Bool.true_eq_false, not_false_eq_true, not_true_eq_false, reduceCtorEq]
          have ih := ih (i + 1) (by omega)
          rw [sm, ← Nat.add_assoc] at ih
          rw [show r = 2 ^ i by omega]
          exact wp_of ih ⟨rfl, rfl⟩
        | succ k2 ih2 =>
          intro r hr
          have ih2 := ih2 (r + 1) (by omega)
          rw [sm, ← Nat.add_assoc] at ih2
          rw [r_Tree_walkBeside_21]
          apply wp_e
          repeat (first | refine wp_isC (by assumption) ?_ | refine wp_nnR (by assumption) ?_ | refine wp_inA (by assumption) rfl (by omega) (by omega) ?_ | refine wp_isZ (by decide) ?_ | refine wp_bt (by (first | (simp (disch := omega) only [wI_I, wI_s, nI_add, pk_mul, nI_ltI, nI_leI, nI_eq, nI_clamp, nm_or, nm_and, nm_xor, nm_nd, nm_one, nm_shr, nm_b2, Bool.false_eq_true, Bool.true_eq_false, not_false_eq_true, not_true_eq_false, reduceCtorEq, g1]; done) | (simp (disch := omega) only [wI_I, wI_s, nI_add, pk_mul, nI_ltI, nI_leI, nI_eq, nI_clamp, nm_or, nm_and, nm_xor, nm_nd, nm_one, nm_shr, nm_b2, Bool.false_eq_true, Bool.true_eq_false, not_false_eq_true, not_true_eq_false, reduceCtorEq, g1]; omega) | omega)) ?_ | refine wp_bf (by (first | (simp (disch := omega) only [wI_I, wI_s, nI_add, pk_mul, nI_ltI, nI_leI, nI_eq, nI_clamp, nm_or, nm_and, nm_xor, nm_nd, nm_one, nm_shr, nm_b2, Bool.false_eq_true, Bool.true_eq_false, not_false_eq_true, not_true_eq_false, reduceCtorEq, g1]; done) | (simp (disch := omega) only [wI_I, wI_s, nI_add, pk_mul, nI_ltI, nI_leI, nI_eq, nI_clamp, nm_or, nm_and, nm_xor, nm_nd, nm_one, nm_shr, nm_b2, Bool.false_eq_true, Bool.true_eq_false, not_false_eq_true, not_true_eq_false, reduceCtorEq, g1]; omega) | omega)) ?_)
          simp (disch := omega) only [wI_I, wI_s, nI_add, pk_mul, nI_ltI, nI_leI, nI_eq, nI_clamp, nm_or, nm_and, nm_xor, nm_nd, nm_one, nm_shr, nm_b2, Bool.false_eq_true, Bool.true_eq_false, not_false_eq_true, not_true_eq_false, reduceCtorEq, g2, g4]
          refine wp_rIe (i_bc _ (Nat.lt_of_le_of_lt Nat.and_le_left (W1.lt r))) ?_
          simp (disch := omega) only [wI_I, wI_s, nI_add, pk_mul, nI_ltI, nI_leI, nI_eq, nI_clamp, nm_or, nm_and, nm_xor, nm_nd, nm_one, nm_shr, nm_b2, Bool.false_eq_true, Bool.true_eq_false, not_false_eq_true, not_true_eq_false, reduceCtorEq]
          exact wp_of ih2 ⟨rfl, rfl⟩
      rw [r_Tree_walkBeside_5]
      apply wp_e
      repeat (first | refine wp_isC (by assumption) ?_ | refine wp_nnR (by assumption) ?_ | refine wp_inA (by assumption) rfl (by omega) (by omega) ?_ | refine wp_isZ (by decide) ?_ | refine wp_bt (by (first | (simp (disch := omega) only [wI_I, wI_s, nI_add, pk_mul, nI_ltI, nI_leI, nI_eq, nI_clamp, nm_or, nm_and, nm_xor, nm_nd, nm_one, nm_shr, nm_b2, Bool.false_eq_true, Bool.true_eq_false, not_false_eq_true, not_true_eq_false, reduceCtorEq, f5]; done) | (simp (disch := omega) only [wI_I, wI_s, nI_add, pk_mul, nI_ltI, nI_leI, nI_eq, nI_clamp, nm_or, nm_and, nm_xor, nm_nd, nm_one, nm_shr, nm_b2, Bool.false_eq_true, Bool.true_eq_false, not_false_eq_true, not_true_eq_false, reduceCtorEq, f5]; omega) | omega)) ?_ | refine wp_bf (by (first | (simp (disch := omega) only [wI_I, wI_s, nI_add, pk_mul, nI_ltI, nI_leI, nI_eq, nI_clamp, nm_or, nm_and, nm_xor, nm_nd, nm_one, nm_shr, nm_b2, Bool.false_eq_true, Bool.true_eq_false, not_false_eq_true, not_true_eq_false, reduceCtorEq, f5]; done) | (simp (disch := omega) only [wI_I, wI_s, nI_add, pk_mul, nI_ltI, nI_leI, nI_eq, nI_clamp, nm_or, nm_and, nm_xor, nm_nd, nm_one, nm_shr, nm_b2, Bool.false_eq_true, Bool.true_eq_false, not_false_eq_true, not_true_eq_false, reduceCtorEq, f5]; omega) | omega)) ?_)
      rw [nI_clamp (by omega)]
      repeat (first | refine wp_isC (by assumption) ?_ | refine wp_nnR (by assumption) ?_ | refine wp_inA (by assumption) rfl (by omega) (by omega) ?_ | refine wp_isZ (by decide) ?_ | refine wp_bt (by (first | (simp (disch := omega) only [wI_I, wI_s, nI_add, pk_mul, nI_ltI, nI_leI, nI_eq, nI_clamp, nm_or, nm_and, nm_xor, nm_nd, nm_one, nm_shr, nm_b2, Bool.false_eq_true, Bool.true_eq_false, not_false_eq_true, not_true_eq_false, reduceCtorEq]; done) | (simp (disch := omega) only [wI_I, wI_s, nI_add, pk_mul, nI_ltI, nI_leI, nI_eq, nI_clamp, nm_or, nm_and, nm_xor, nm_nd, nm_one, nm_shr, nm_b2, Bool.false_eq_true, Bool.true_eq_false, not_false_eq_true, not_true_eq_false, reduceCtorEq]; omega) | omega)) ?_ | refine wp_bf (by (first | (simp (disch := omega) only [wI_I, wI_s, nI_add, pk_mul, nI_ltI, nI_leI, nI_eq, nI_clamp, nm_or, nm_and, nm_xor, nm_nd, nm_one, nm_shr, nm_b2, Bool.false_eq_true, Bool.true_eq_false, not_false_eq_true, not_true_eq_false, reduceCtorEq]; done) | (simp (disch := omega) only [wI_I, wI_s, nI_add, pk_mul, nI_ltI, nI_leI, nI_eq, nI_clamp, nm_or, nm_and, nm_xor, nm_nd, nm_one, nm_shr, nm_b2, Bool.false_eq_true, Bool.true_eq_false, not_false_eq_true, not_true_eq_false, reduceCtorEq]; omega) | omega)) ?_)
      refine wp_rRe (tr_on U F2.1 h4 (by omega)) ?_
      exact wp_of (L2 (2 ^ i) 0 (by omega)) ⟨rfl, rfl⟩
  rw [r_Tree_walkBeside_0]
  exact L v 0 (by omega)
theorem tr_mult {h : MH} {f : Nat → Nat → Int32} {t u v : Nat} {G H : Nat → Nat} (T : TS h t) (U : TS h u) (F : TF f t v G) (F2 : TF f u v H) (V : GW (2 ^ v) G) (V2 : GW (2 ^ v) H) (h4 : v ≤ 4) :
    ev M_Tree_multiplyBy 0 0 [some (.ref t), some (.ref u), none, none, none, none, none] [] (wI h f) = some (some (.int (nI (sm (pd v G H) (v + 1)))), wI h f) := by
  obtain ⟨t1, t2, t3, t4, t5, -⟩ := id T
  have u1 := U.1
  have f5 := F.1
  have L : ∀ k i, i + k = v + 1 → ev M_Tree_multiplyBy 0 5 [some (.ref t), some (.ref u), some (.int (nI (sm (pd v G H) i))), some (.int (nI i)), none, none, none] [] (wI h f) = some (some (.int (nI (sm (pd v G H) (v + 1)))), wI h f) := by
    intro k
    induction k with
    | zero =>
      intro i hi
      rw [r_Tree_multiplyBy_5]
      apply wp_e
      repeat (first | refine wp_isC (by assumption) ?_ | refine wp_nnR (by assumption) ?_ | refine wp_inA (by assumption) rfl (by omega) (by omega) ?_ | refine wp_isZ (by decide) ?_ | refine wp_bt (by (first | (simp (disch := omega) only [wI_I, wI_s, nI_add, pk_mul, nI_ltI, nI_leI, nI_eq, nI_clamp, nm_or, nm_and, nm_xor, nm_nd, nm_one, nm_shr, nm_b2, Bool.false_eq_true, Bool.true_eq_false, not_false_eq_true, not_true_eq_false, reduceCtorEq, f5]; done) | (simp (disch := omega) only [wI_I, wI_s, nI_add, pk_mul, nI_ltI, nI_leI, nI_eq, nI_clamp, nm_or, nm_and, nm_xor, nm_nd, nm_one, nm_shr, nm_b2, Bool.false_eq_true, Bool.true_eq_false, not_false_eq_true, not_true_eq_false, reduceCtorEq, f5]; omega) | omega)) ?_ | refine wp_bf (by (first | (simp (disch := omega) only [wI_I, wI_s, nI_add, pk_mul, nI_ltI, nI_leI, nI_eq, nI_clamp, nm_or, nm_and, nm_xor, nm_nd, nm_one, nm_shr, nm_b2, Bool.false_eq_true, Bool.true_eq_false, not_false_eq_true, not_true_eq_false, reduceCtorEq, f5]; done) | (simp (disch := omega) only [wI_I, wI_s, nI_add, pk_mul, nI_ltI, nI_leI, nI_eq, nI_clamp, nm_or, nm_and, nm_xor, nm_nd, nm_one, nm_shr, nm_b2, Bool.false_eq_true, Bool.true_eq_false, not_false_eq_true, not_true_eq_false, reduceCtorEq, f5]; omega) | omega)) ?_)
      refine wp_s ⟨?_, rfl⟩
      rw [show i = v + 1 by omega]
    | succ k ih =>
      intro i hi
      have hp := lv_p (show i ≤ 4 by omega)
      obtain ⟨q1, q2⟩ := t5 i (by omega)
      obtain ⟨p1, p2⟩ := U.2.2.2.2.1 i (by omega)
      obtain ⟨g1, g2⟩ := F.2 i (by omega)
      obtain ⟨g3, g4⟩ := F2.2 i (by omega)
      obtain ⟨a1, a2, a3, a4⟩ := id q2
      obtain ⟨b1, b2, b3, b4⟩ := id p2
      have W1 := fl_W V (show i ≤ v by omega)
      have W2 := fl_W V2 (show i ≤ v by omega)
      have L2 : ∀ k2 r, r + k2 = 2 ^ i → ev M_Tree_multiplyBy 0 21 [some (.ref t), some (.ref u), some (.int (nI (sm (pd v G H) i + sm (fun m => bc (cs (2 ^ i) (fl v G i) m) * bc (fl v H i m)) r))), some (.int (nI i)), some (.ref (t + 5 + 2 * i)), some (.ref (u + 5 + 2 * i)), some (.int (nI r))] [] (wI h f) = some (some (.int (nI (sm (pd v G H) (v + 1)))), wI h f) := by
        intro k2
        induction k2 with
        | zero =>
          intro r hr
          rw [r_Tree_multiplyBy_21]
          apply wp_e
          repeat (first | refine wp_isC (by assumption) ?_ | refine wp_nnR (by assumption) ?_ | refine wp_inA (by assumption) rfl (by omega) (by omega) ?_ | refine wp_isZ (by decide) ?_ | refine wp_bt (by (first | (simp (disch := omega) only [wI_I, wI_s, nI_add, pk_mul, nI_ltI, nI_leI, nI_eq, nI_clamp, nm_or, nm_and, nm_xor, nm_nd, nm_one, nm_shr, nm_b2, Bool.false_eq_true, Bool.true_eq_false, not_false_eq_true, not_true_eq_false, reduceCtorEq, g1]; done) | (simp (disch := omega) only [wI_I, wI_s, nI_add, pk_mul, nI_ltI, nI_leI, nI_eq, nI_clamp, nm_or, nm_and, nm_xor, nm_nd, nm_one, nm_shr, nm_b2, Bool.false_eq_true, Bool.true_eq_false, not_false_eq_true, not_true_eq_false, reduceCtorEq, g1]; omega) | omega)) ?_ | refine wp_bf (by (first | (simp (disch := omega) only [wI_I, wI_s, nI_add, pk_mul, nI_ltI, nI_leI, nI_eq, nI_clamp, nm_or, nm_and, nm_xor, nm_nd, nm_one, nm_shr, nm_b2, Bool.false_eq_true, Bool.true_eq_false, not_false_eq_true, not_true_eq_false, reduceCtorEq, g1]; done) | (simp (disch := omega) only [wI_I, wI_s, nI_add, pk_mul, nI_ltI, nI_leI, nI_eq, nI_clamp, nm_or, nm_and, nm_xor, nm_nd, nm_one, nm_shr, nm_b2, Bool.false_eq_true, Bool.true_eq_false, not_false_eq_true, not_true_eq_false, reduceCtorEq, g1]; omega) | omega)) ?_)
          simp (disch := omega) only [wI_I, wI_s, nI_add, pk_mul, nI_ltI, nI_leI, nI_eq, nI_clamp, nm_or, nm_and, nm_xor, nm_nd, nm_one, nm_shr, nm_b2, Bool.false_eq_true, Bool.true_eq_false, not_false_eq_true, not_true_eq_false, reduceCtorEq]
          have ih := ih (i + 1) (by omega)
          rw [sm] at ih
          rw [show r = 2 ^ i by omega]
          exact wp_of ih ⟨rfl, rfl⟩
        | succ k2 ih2 =>
          intro r hr
          have ih2 := ih2 (r + 1) (by omega)
          rw [sm, ← Nat.add_assoc] at ih2
          rw [r_Tree_multiplyBy_21]
          apply wp_e
          repeat (first | refine wp_isC (by assumption) ?_ | refine wp_nnR (by assumption) ?_ | refine wp_inA (by assumption) rfl (by omega) (by omega) ?_ | refine wp_isZ (by decide) ?_ | refine wp_bt (by (first | (simp (disch := omega) only [wI_I, wI_s, nI_add, pk_mul, nI_ltI, nI_leI, nI_eq, nI_clamp, nm_or, nm_and, nm_xor, nm_nd, nm_one, nm_shr, nm_b2, Bool.false_eq_true, Bool.true_eq_false, not_false_eq_true, not_true_eq_false, reduceCtorEq, g1]; done) | (simp (disch := omega) only [wI_I, wI_s, nI_add, pk_mul, nI_ltI, nI_leI, nI_eq, nI_clamp, nm_or, nm_and, nm_xor, nm_nd, nm_one, nm_shr, nm_b2, Bool.false_eq_true, Bool.true_eq_false, not_false_eq_true, not_true_eq_false, reduceCtorEq, g1]; omega) | omega)) ?_ | refine wp_bf (by (first | (simp (disch := omega) only [wI_I, wI_s, nI_add, pk_mul, nI_ltI, nI_leI, nI_eq, nI_clamp, nm_or, nm_and, nm_xor, nm_nd, nm_one, nm_shr, nm_b2, Bool.false_eq_true, Bool.true_eq_false, not_false_eq_true, not_true_eq_false, reduceCtorEq, g1]; done) | (simp (disch := omega) only [wI_I, wI_s, nI_add, pk_mul, nI_ltI, nI_leI, nI_eq, nI_clamp, nm_or, nm_and, nm_xor, nm_nd, nm_one, nm_shr, nm_b2, Bool.false_eq_true, Bool.true_eq_false, not_false_eq_true, not_true_eq_false, reduceCtorEq, g1]; omega) | omega)) ?_)
          refine wp_rIe (gq_with q2 (F.2 i (by omega)) W1 (by omega)) ?_
          refine wp_rIe (i_bc _ (Nat.lt_of_lt_of_le cs_lt (Nat.pow_le_pow_right (by decide) hp))) ?_
          repeat (first | refine wp_isC (by assumption) ?_ | refine wp_nnR (by assumption) ?_ | refine wp_inA (by assumption) rfl (by omega) (by omega) ?_ | refine wp_isZ (by decide) ?_ | refine wp_bt (by (first | (simp (disch := omega) only [wI_I, wI_s, nI_add, pk_mul, nI_ltI, nI_leI, nI_eq, nI_clamp, nm_or, nm_and, nm_xor, nm_nd, nm_one, nm_shr, nm_b2, Bool.false_eq_true, Bool.true_eq_false, not_false_eq_true, not_true_eq_false, reduceCtorEq]; done) | (simp (disch := omega) only [wI_I, wI_s, nI_add, pk_mul, nI_ltI, nI_leI, nI_eq, nI_clamp, nm_or, nm_and, nm_xor, nm_nd, nm_one, nm_shr, nm_b2, Bool.false_eq_true, Bool.true_eq_false, not_false_eq_true, not_true_eq_false, reduceCtorEq]; omega) | omega)) ?_ | refine wp_bf (by (first | (simp (disch := omega) only [wI_I, wI_s, nI_add, pk_mul, nI_ltI, nI_leI, nI_eq, nI_clamp, nm_or, nm_and, nm_xor, nm_nd, nm_one, nm_shr, nm_b2, Bool.false_eq_true, Bool.true_eq_false, not_false_eq_true, not_true_eq_false, reduceCtorEq]; done) | (simp (disch := omega) only [wI_I, wI_s, nI_add, pk_mul, nI_ltI, nI_leI, nI_eq, nI_clamp, nm_or, nm_and, nm_xor, nm_nd, nm_one, nm_shr, nm_b2, Bool.false_eq_true, Bool.true_eq_false, not_false_eq_true, not_true_eq_false, reduceCtorEq]; omega) | omega)) ?_)
          simp (disch := omega) only [wI_I, wI_s, nI_add, pk_mul, nI_ltI, nI_leI, nI_eq, nI_clamp, nm_or, nm_and, nm_xor, nm_nd, nm_one, nm_shr, nm_b2, Bool.false_eq_true, Bool.true_eq_false, not_false_eq_true, not_true_eq_false, reduceCtorEq, g4]
          refine wp_rIe (i_bc _ (W2.lt r)) ?_
          simp (disch := omega) only [wI_I, wI_s, nI_add, pk_mul, nI_ltI, nI_leI, nI_eq, nI_clamp, nm_or, nm_and, nm_xor, nm_nd, nm_one, nm_shr, nm_b2, Bool.false_eq_true, Bool.true_eq_false, not_false_eq_true, not_true_eq_false, reduceCtorEq]
          exact wp_of ih2 ⟨rfl, rfl⟩
      rw [r_Tree_multiplyBy_5]
      apply wp_e
      repeat (first | refine wp_isC (by assumption) ?_ | refine wp_nnR (by assumption) ?_ | refine wp_inA (by assumption) rfl (by omega) (by omega) ?_ | refine wp_isZ (by decide) ?_ | refine wp_bt (by (first | (simp (disch := omega) only [wI_I, wI_s, nI_add, pk_mul, nI_ltI, nI_leI, nI_eq, nI_clamp, nm_or, nm_and, nm_xor, nm_nd, nm_one, nm_shr, nm_b2, Bool.false_eq_true, Bool.true_eq_false, not_false_eq_true, not_true_eq_false, reduceCtorEq, f5]; done) | (simp (disch := omega) only [wI_I, wI_s, nI_add, pk_mul, nI_ltI, nI_leI, nI_eq, nI_clamp, nm_or, nm_and, nm_xor, nm_nd, nm_one, nm_shr, nm_b2, Bool.false_eq_true, Bool.true_eq_false, not_false_eq_true, not_true_eq_false, reduceCtorEq, f5]; omega) | omega)) ?_ | refine wp_bf (by (first | (simp (disch := omega) only [wI_I, wI_s, nI_add, pk_mul, nI_ltI, nI_leI, nI_eq, nI_clamp, nm_or, nm_and, nm_xor, nm_nd, nm_one, nm_shr, nm_b2, Bool.false_eq_true, Bool.true_eq_false, not_false_eq_true, not_true_eq_false, reduceCtorEq, f5]; done) | (simp (disch := omega) only [wI_I, wI_s, nI_add, pk_mul, nI_ltI, nI_leI, nI_eq, nI_clamp, nm_or, nm_and, nm_xor, nm_nd, nm_one, nm_shr, nm_b2, Bool.false_eq_true, Bool.true_eq_false, not_false_eq_true, not_true_eq_false, reduceCtorEq, f5]; omega) | omega)) ?_)
      rw [nI_clamp (by omega)]
      repeat (first | refine wp_isC (by assumption) ?_ | refine wp_nnR (by assumption) ?_ | refine wp_inA (by assumption) rfl (by omega) (by omega) ?_ | refine wp_isZ (by decide) ?_ | refine wp_bt (by (first | (simp (disch := omega) only [wI_I, wI_s, nI_add, pk_mul, nI_ltI, nI_leI, nI_eq, nI_clamp, nm_or, nm_and, nm_xor, nm_nd, nm_one, nm_shr, nm_b2, Bool.false_eq_true, Bool.true_eq_false, not_false_eq_true, not_true_eq_false, reduceCtorEq]; done) | (simp (disch := omega) only [wI_I, wI_s, nI_add, pk_mul, nI_ltI, nI_leI, nI_eq, nI_clamp, nm_or, nm_and, nm_xor, nm_nd, nm_one, nm_shr, nm_b2, Bool.false_eq_true, Bool.true_eq_false, not_false_eq_true, not_true_eq_false, reduceCtorEq]; omega) | omega)) ?_ | refine wp_bf (by (first | (simp (disch := omega) only [wI_I, wI_s, nI_add, pk_mul, nI_ltI, nI_leI, nI_eq, nI_clamp, nm_or, nm_and, nm_xor, nm_nd, nm_one, nm_shr, nm_b2, Bool.false_eq_true, Bool.true_eq_false, not_false_eq_true, not_true_eq_false, reduceCtorEq]; done) | (simp (disch := omega) only [wI_I, wI_s, nI_add, pk_mul, nI_ltI, nI_leI, nI_eq, nI_clamp, nm_or, nm_and, nm_xor, nm_nd, nm_one, nm_shr, nm_b2, Bool.false_eq_true, Bool.true_eq_false, not_false_eq_true, not_true_eq_false, reduceCtorEq]; omega) | omega)) ?_)
      refine wp_rRe (tr_on U F2.1 h4 (by omega)) ?_
      exact wp_of (L2 (2 ^ i) 0 (by omega)) ⟨rfl, rfl⟩
  rw [r_Tree_multiplyBy_0]
  exact L (v + 1) 0 (by omega)
