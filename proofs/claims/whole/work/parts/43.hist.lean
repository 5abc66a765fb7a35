/-! Relations turned, counted; acts kept; boxes. -/
theorem rl_turn {h : MH} {f : Nat → Nat → Int32} {q p k t n : Nat} {v : Int32} {G T : Rw} (R : RS h q p) (hk : k < 5) (t1 : hC h t = 20) (t2 : hN h t = 16) (ht : t + 1 ≤ q ∨ q + 47 ≤ t) (F : GF f (q + 5 + 2 * k) n G) (FT : ∀ r, r < 16 → f t r = nI (T r)) :
    ev M_Relations_turnAll 0 0 [some (.ref q), some (.int (nI k)), some (.ref t), some (.int v), none] [] (wI h f) = some (none, wI h (gw (up2 f q 1 v) (q + 5 + 2 * k) n (fun r => G r ^^^ T r))) := by
  obtain ⟨r1, r2, r3, r4, r5, -⟩ := R
  obtain ⟨s1, s2⟩ := r5 k hk
  obtain ⟨a1, a2, a3, a4⟩ := s2
  have L : ∀ m i, i + m = 16 → ev M_Relations_turnAll 0 12 [some (.ref q), some (.int (nI k)), some (.ref t), none, some (.int (nI i))] [] (wI h (gw (up2 f q 1 v) (q + 5 + 2 * k) n (fun r => if r < i then G r ^^^ T r else G r))) = some (none, wI h (gw (up2 f q 1 v) (q + 5 + 2 * k) n (fun r => G r ^^^ T r))) := by
    intro m
    induction m with
    | zero =>
      intro i hi
      rw [r_Relations_turnAll_12]
      apply wp_e
      repeat (first | refine wp_isC (by assumption) ?_ | refine wp_nnR (by assumption) ?_ | refine wp_inA (by assumption) rfl (by omega) (by omega) ?_ | refine wp_isZ (by decide) ?_ | refine wp_bt (by (first | (simp (disch := omega) only [wI_I, wI_s, nI_add, pk_mul, nI_ltI, nI_leI, nI_eq, nI_clamp, nm_or, nm_and, nm_xor, nm_nd, nm_one, nm_shr, nm_b2, Bool.false_eq_true, Bool.true_eq_false, not_false_eq_true, not_true_eq_false, reduceCtorEq]; done) | (simp (disch := omega) only [wI_I, wI_s, nI_add, pk_mul, nI_ltI, nI_leI, nI_eq, nI_clamp, nm_or, nm_and, nm_xor, nm_nd, nm_one, nm_shr, nm_b2, Bool.false_eq_true, Bool.true_eq_false, not_false_eq_true, not_true_eq_false, reduceCtorEq]; omega) | omega)) ?_ | refine wp_bf (by (first | (simp (disch := omega) only [wI_I, wI_s, nI_add, pk_mul, nI_ltI, nI_leI, nI_eq, nI_clamp, nm_or, nm_and, nm_xor, nm_nd, nm_one, nm_shr, nm_b2, Bool.false_eq_true, Bool.true_eq_false, not_false_eq_true, not_true_eq_false, reduceCtorEq]; done) | (simp (disch := omega) only [wI_I, wI_s, nI_add, pk_mul, nI_ltI, nI_leI, nI_eq, nI_clamp, nm_or, nm_and, nm_xor, nm_nd, nm_one, nm_shr, nm_b2, Bool.false_eq_true, Bool.true_eq_false, not_false_eq_true, not_true_eq_false, reduceCtorEq]; omega) | omega)) ?_)
      refine wp_s ⟨rfl, ?_⟩
      refine congrArg (wI h) (gw_c (fun r hr => ?_))
      rw [if_pos (by omega)]
    | succ m ih =>
      intro i hi
      have g1 := (gw_f (f := up2 f q 1 v) (g := q + 5 + 2 * k) (n := n) (G := fun r => if r < i then G r ^^^ T r else G r)).2 i (by omega)
      rw [show (fun r => if r < i then G r ^^^ T r else G r) i = G i from if_neg (by omega)] at g1
      have g2 : gw (up2 f q 1 v) (q + 5 + 2 * k) n (fun r => if r < i then G r ^^^ T r else G r) t i = nI (T i) := by
        rw [gw_o (by omega) (by omega), up2_a (by omega)]; exact FT i (by omega)
      rw [r_Relations_turnAll_12]
      apply wp_e
      refine wp_bt (by (first | (simp (disch := omega) only [wI_I, wI_s, nI_add, pk_mul, nI_ltI, nI_leI, nI_eq, nI_clamp, nm_or, nm_and, nm_xor, nm_nd, nm_one, nm_shr, nm_b2, Bool.false_eq_true, Bool.true_eq_false, not_false_eq_true, not_true_eq_false, reduceCtorEq]; done) | (simp (disch := omega) only [wI_I, wI_s, nI_add, pk_mul, nI_ltI, nI_leI, nI_eq, nI_clamp, nm_or, nm_and, nm_xor, nm_nd, nm_one, nm_shr, nm_b2, Bool.false_eq_true, Bool.true_eq_false, not_false_eq_true, not_true_eq_false, reduceCtorEq]; omega) | omega)) (wp_isC t1 (wp_bt (by rw [wI_N, t2]; (first | (simp (disch := omega) only [wI_I, wI_s, nI_add, pk_mul, nI_ltI, nI_leI, nI_eq, nI_clamp, nm_or, nm_and, nm_xor, nm_nd, nm_one, nm_shr, nm_b2, Bool.false_eq_true, Bool.true_eq_false, not_false_eq_true, not_true_eq_false, reduceCtorEq]; done) | (simp (disch := omega) only [wI_I, wI_s, nI_add, pk_mul, nI_ltI, nI_leI, nI_eq, nI_clamp, nm_or, nm_and, nm_xor, nm_nd, nm_one, nm_shr, nm_b2, Bool.false_eq_true, Bool.true_eq_false, not_false_eq_true, not_true_eq_false, reduceCtorEq]; omega) | omega)) ?_))
      refine wp_isC r1 (wp_nnR r2 (wp_isC r3 (wp_inA r4 rfl (by omega) (by omega) ?_)))
      rw [nI_clamp (by omega)]
      refine wp_nnR s1 ?_
      repeat (first | refine wp_isC (by assumption) ?_ | refine wp_nnR (by assumption) ?_ | refine wp_inA (by assumption) rfl (by omega) (by omega) ?_ | refine wp_isZ (by decide) ?_ | refine wp_bt (by (first | (simp (disch := omega) only [wI_I, wI_s, nI_add, pk_mul, nI_ltI, nI_leI, nI_eq, nI_clamp, nm_or, nm_and, nm_xor, nm_nd, nm_one, nm_shr, nm_b2, Bool.false_eq_true, Bool.true_eq_false, not_false_eq_true, not_true_eq_false, reduceCtorEq]; done) | (simp (disch := omega) only [wI_I, wI_s, nI_add, pk_mul, nI_ltI, nI_leI, nI_eq, nI_clamp, nm_or, nm_and, nm_xor, nm_nd, nm_one, nm_shr, nm_b2, Bool.false_eq_true, Bool.true_eq_false, not_false_eq_true, not_true_eq_false, reduceCtorEq]; omega) | omega)) ?_ | refine wp_bf (by (first | (simp (disch := omega) only [wI_I, wI_s, nI_add, pk_mul, nI_ltI, nI_leI, nI_eq, nI_clamp, nm_or, nm_and, nm_xor, nm_nd, nm_one, nm_shr, nm_b2, Bool.false_eq_true, Bool.true_eq_false, not_false_eq_true, not_true_eq_false, reduceCtorEq]; done) | (simp (disch := omega) only [wI_I, wI_s, nI_add, pk_mul, nI_ltI, nI_leI, nI_eq, nI_clamp, nm_or, nm_and, nm_xor, nm_nd, nm_one, nm_shr, nm_b2, Bool.false_eq_true, Bool.true_eq_false, not_false_eq_true, not_true_eq_false, reduceCtorEq]; omega) | omega)) ?_)
      simp (disch := omega) only [wI_I, wI_s, nI_add, pk_mul, nI_ltI, nI_leI, nI_eq, nI_clamp, nm_or, nm_and, nm_xor, nm_nd, nm_one, nm_shr, nm_b2, Bool.false_eq_true, Bool.true_eq_false, not_false_eq_true, not_true_eq_false, reduceCtorEq, g1, g2]
      rw [gw_u (by omega)]
      have e : gw (up2 f q 1 v) (q + 5 + 2 * k) n (fun j => if j = i then G i ^^^ T i else if j < i then G j ^^^ T j else G j) = gw (up2 f q 1 v) (q + 5 + 2 * k) n (fun r => if r < i + 1 then G r ^^^ T r else G r) := by
        apply gw_c; intro r _
        ((repeat' split) <;> (try dsimp only) <;> (repeat' split) <;> (first | rfl | (exfalso; omega) | (subst_vars; rfl) | (subst_vars; exfalso; omega)))
      rw [e]
      exact wp_of (ih (i + 1) (by omega)) ⟨rfl, rfl⟩
  rw [r_Relations_turnAll_0]
  apply wp_e
  refine wp_isC r1 (wp_bf (nI_pos (by omega)) (wp_bt (by (first | (simp (disch := omega) only [wI_I, wI_s, nI_add, pk_mul, nI_ltI, nI_leI, nI_eq, nI_clamp, nm_or, nm_and, nm_xor, nm_nd, nm_one, nm_shr, nm_b2, Bool.false_eq_true, Bool.true_eq_false, not_false_eq_true, not_true_eq_false, reduceCtorEq]; done) | (simp (disch := omega) only [wI_I, wI_s, nI_add, pk_mul, nI_ltI, nI_leI, nI_eq, nI_clamp, nm_or, nm_and, nm_xor, nm_nd, nm_one, nm_shr, nm_b2, Bool.false_eq_true, Bool.true_eq_false, not_false_eq_true, not_true_eq_false, reduceCtorEq]; omega) | omega)) ?_))
  rw [wI_s]
  have F' : GF (up2 f q 1 v) (q + 5 + 2 * k) n G := (Fr.u2 (lo := q) (hi := q + 1) (by omega) (by omega)).F (by omega) F
  have e0 : up2 f q 1 v = gw (up2 f q 1 v) (q + 5 + 2 * k) n (fun r => if r < 0 then G r ^^^ T r else G r) := by
    rw [gw_c (H := G) (fun r _ => if_neg (by omega)), gw_s F']
  have := L 16 0 (by omega)
  rw [← e0] at this
  exact wp_of this ⟨rfl, rfl⟩
theorem mI_neg : mI 1 < nI 0 := by decide
theorem rl_turn0 {h : MH} {f : Nat → Nat → Int32} {q t : Nat} {v : Int32} (r1 : hC h q = 7) :
    ev M_Relations_turnAll 0 0 [some (.ref q), some (.int (mI 1)), some (.ref t), some (.int v), none] [] (wI h f) = some (none, wI h (up2 f q 1 v)) := by
  rw [r_Relations_turnAll_0]
  apply wp_e
  refine wp_isC r1 (wp_bt mI_neg ?_)
  exact wp_s ⟨rfl, rfl⟩
theorem pl_told {h : MH} {f : Nat → Nat → Int32} {p m k : Nat} (c : hC h p = 5) (e : f p 2 = nI m) (hm : m < 2 ^ 31) (hk : k < 5) :
    ev M_Plan_isTold 0 0 [some (.ref p), some (.int (nI k))] [] (wI h f) = some (some (.int (nI (m.testBit k).toNat)), wI h f) := by
  rw [r_Plan_isTold_0]
  apply wp_e
  repeat (first | refine wp_isC (by assumption) ?_ | refine wp_nnR (by assumption) ?_ | refine wp_inA (by assumption) rfl (by omega) (by omega) ?_ | refine wp_isZ (by decide) ?_ | refine wp_bt (by (first | (simp (disch := omega) only [wI_I, wI_s, nI_add, pk_mul, nI_ltI, nI_leI, nI_eq, nI_clamp, nm_or, nm_and, nm_xor, nm_nd, nm_one, nm_shr, nm_b2, Bool.false_eq_true, Bool.true_eq_false, not_false_eq_true, not_true_eq_false, reduceCtorEq]; done) | (simp (disch := omega) only [wI_I, wI_s, nI_add, pk_mul, nI_ltI, nI_leI, nI_eq, nI_clamp, nm_or, nm_and, nm_xor, nm_nd, nm_one, nm_shr, nm_b2, Bool.false_eq_true, Bool.true_eq_false, not_false_eq_true, not_true_eq_false, reduceCtorEq]; omega) | omega)) ?_ | refine wp_bf (by (first | (simp (disch := omega) only [wI_I, wI_s, nI_add, pk_mul, nI_ltI, nI_leI, nI_eq, nI_clamp, nm_or, nm_and, nm_xor, nm_nd, nm_one, nm_shr, nm_b2, Bool.false_eq_true, Bool.true_eq_false, not_false_eq_true, not_true_eq_false, reduceCtorEq]; done) | (simp (disch := omega) only [wI_I, wI_s, nI_add, pk_mul, nI_ltI, nI_leI, nI_eq, nI_clamp, nm_or, nm_and, nm_xor, nm_nd, nm_one, nm_shr, nm_b2, Bool.false_eq_true, Bool.true_eq_false, not_false_eq_true, not_true_eq_false, reduceCtorEq]; omega) | omega)) ?_)
  rw [wI_I, e]
  refine wp_bi (nm_bit (by omega) hm) (fun z => ?_) (fun z => ?_)
  · rw [z]; exact wp_isZ (by decide) (wp_s ⟨rfl, rfl⟩)
  · rw [(Bool.not_eq_true _).mp z]; exact wp_isZ (by decide) (wp_s ⟨rfl, rfl⟩)
/-- pairs of all told ones -/
def tc (n m : Nat) (A : Nat → Rw) (nr : Nat) : Nat := sm (fun k => if m.testBit k then ct n (A k) else 0) nr
theorem rl_count {h : MH} {f : Nat → Nat → Int32} {q p n m nr : Nat} {A : Nat → Rw} (R : RS h q p) (p1 : hC h p = 5) (f1 : f p 1 = nI nr) (f2 : f p 2 = nI m) (hm : m < 2 ^ 31) (hr : nr ≤ 5) (FA : ∀ k, k < nr → GF f (q + 5 + 2 * k) n (A k) ∧ GW n (A k)) :
    ev M_Relations_countTold 0 0 [some (.ref q), none, none] [] (wI h f) = some (some (.int (nI (tc n m A nr))), wI h f) := by
  obtain ⟨r1, r2, r3, r4, r5, r6, r7, r8, r9, r10, r11, r12⟩ := R
  have L : ∀ j i, i + j = nr → ev M_Relations_countTold 0 5 [some (.ref q), some (.int (nI (tc n m A i))), some (.int (nI i))] [] (wI h f) = some (some (.int (nI (tc n m A nr))), wI h f) := by
    intro j
    induction j with
    | zero =>
      intro i hi
      rw [r_Relations_countTold_5]
      apply wp_e
      repeat (first | refine wp_isC (by assumption) ?_ | refine wp_nnR (by assumption) ?_ | refine wp_inA (by assumption) rfl (by omega) (by omega) ?_ | refine wp_isZ (by decide) ?_ | refine wp_bt (by (first | (simp (disch := omega) only [wI_I, wI_s, nI_add, pk_mul, nI_ltI, nI_leI, nI_eq, nI_clamp, nm_or, nm_and, nm_xor, nm_nd, nm_one, nm_shr, nm_b2, Bool.false_eq_true, Bool.true_eq_false, not_false_eq_true, not_true_eq_false, reduceCtorEq, f1]; done) | (simp (disch := omega) only [wI_I, wI_s, nI_add, pk_mul, nI_ltI, nI_leI, nI_eq, nI_clamp, nm_or, nm_and, nm_xor, nm_nd, nm_one, nm_shr, nm_b2, Bool.false_eq_true, Bool.true_eq_false, not_false_eq_true, not_true_eq_false, reduceCtorEq, f1]; omega) | omega)) ?_ | refine wp_bf (by (first | (simp (disch := omega) only [wI_I, wI_s, nI_add, pk_mul, nI_ltI, nI_leI, nI_eq, nI_clamp, nm_or, nm_and, nm_xor, nm_nd, nm_one, nm_shr, nm_b2, Bool.false_eq_true, Bool.true_eq_false, not_false_eq_true, not_true_eq_false, reduceCtorEq, f1]; done) | (simp (disch := omega) only [wI_I, wI_s, nI_add, pk_mul, nI_ltI, nI_leI, nI_eq, nI_clamp, nm_or, nm_and, nm_xor, nm_nd, nm_one, nm_shr, nm_b2, Bool.false_eq_true, Bool.true_eq_false, not_false_eq_true, not_true_eq_false, reduceCtorEq, f1]; omega) | omega)) ?_)
      refine wp_s ⟨?_, rfl⟩
      rw [show i = nr by omega]
    | succ j ih =>
      intro i hi
      obtain ⟨s1, s2⟩ := r5 i (by omega)
      have s3 := s2.1
      have ih := ih (i + 1) (by omega)
      have e : tc n m A (i + 1) = tc n m A i + if m.testBit i then ct n (A i) else 0 := rfl
      rw [r_Relations_countTold_5]
      simp only [r_Relations_countTold_27]
      apply wp_e
      repeat (first | refine wp_isC (by assumption) ?_ | refine wp_nnR (by assumption) ?_ | refine wp_inA (by assumption) rfl (by omega) (by omega) ?_ | refine wp_isZ (by decide) ?_ | refine wp_bt (by (first | (simp (disch := omega) only [wI_I, wI_s, nI_add, pk_mul, nI_ltI, nI_leI, nI_eq, nI_clamp, nm_or, nm_and, nm_xor, nm_nd, nm_one, nm_shr, nm_b2, Bool.false_eq_true, Bool.true_eq_false, not_false_eq_true, not_true_eq_false, reduceCtorEq, f1]; done) | (simp (disch := omega) only [wI_I, wI_s, nI_add, pk_mul, nI_ltI, nI_leI, nI_eq, nI_clamp, nm_or, nm_and, nm_xor, nm_nd, nm_one, nm_shr, nm_b2, Bool.false_eq_true, Bool.true_eq_false, not_false_eq_true, not_true_eq_false, reduceCtorEq, f1]; omega) | omega)) ?_ | refine wp_bf (by (first | (simp (disch := omega) only [wI_I, wI_s, nI_add, pk_mul, nI_ltI, nI_leI, nI_eq, nI_clamp, nm_or, nm_and, nm_xor, nm_nd, nm_one, nm_shr, nm_b2, Bool.false_eq_true, Bool.true_eq_false, not_false_eq_true, not_true_eq_false, reduceCtorEq, f1]; done) | (simp (disch := omega) only [wI_I, wI_s, nI_add, pk_mul, nI_ltI, nI_leI, nI_eq, nI_clamp, nm_or, nm_and, nm_xor, nm_nd, nm_one, nm_shr, nm_b2, Bool.false_eq_true, Bool.true_eq_false, not_false_eq_true, not_true_eq_false, reduceCtorEq, f1]; omega) | omega)) ?_)
      refine wp_rIe (pl_told p1 f2 hm (by omega)) ?_
      cases z : m.testBit i with
      | true =>
        rw [if_pos z] at e
        rw [e] at ih
        refine wp_bf (by decide) ?_
        repeat (first | refine wp_isC (by assumption) ?_ | refine wp_nnR (by assumption) ?_ | refine wp_inA (by assumption) rfl (by omega) (by omega) ?_ | refine wp_isZ (by decide) ?_ | refine wp_bt (by (first | (simp (disch := omega) only [wI_I, wI_s, nI_add, pk_mul, nI_ltI, nI_leI, nI_eq, nI_clamp, nm_or, nm_and, nm_xor, nm_nd, nm_one, nm_shr, nm_b2, Bool.false_eq_true, Bool.true_eq_false, not_false_eq_true, not_true_eq_false, reduceCtorEq]; done) | (simp (disch := omega) only [wI_I, wI_s, nI_add, pk_mul, nI_ltI, nI_leI, nI_eq, nI_clamp, nm_or, nm_and, nm_xor, nm_nd, nm_one, nm_shr, nm_b2, Bool.false_eq_true, Bool.true_eq_false, not_false_eq_true, not_true_eq_false, reduceCtorEq]; omega) | omega)) ?_ | refine wp_bf (by (first | (simp (disch := omega) only [wI_I, wI_s, nI_add, pk_mul, nI_ltI, nI_leI, nI_eq, nI_clamp, nm_or, nm_and, nm_xor, nm_nd, nm_one, nm_shr, nm_b2, Bool.false_eq_true, Bool.true_eq_false, not_false_eq_true, not_true_eq_false, reduceCtorEq]; done) | (simp (disch := omega) only [wI_I, wI_s, nI_add, pk_mul, nI_ltI, nI_leI, nI_eq, nI_clamp, nm_or, nm_and, nm_xor, nm_nd, nm_one, nm_shr, nm_b2, Bool.false_eq_true, Bool.true_eq_false, not_false_eq_true, not_true_eq_false, reduceCtorEq]; omega) | omega)) ?_)
        rw [nI_clamp (by omega)]
        repeat (first | refine wp_isC (by assumption) ?_ | refine wp_nnR (by assumption) ?_ | refine wp_inA (by assumption) rfl (by omega) (by omega) ?_ | refine wp_isZ (by decide) ?_ | refine wp_bt (by (first | (simp (disch := omega) only [wI_I, wI_s, nI_add, pk_mul, nI_ltI, nI_leI, nI_eq, nI_clamp, nm_or, nm_and, nm_xor, nm_nd, nm_one, nm_shr, nm_b2, Bool.false_eq_true, Bool.true_eq_false, not_false_eq_true, not_true_eq_false, reduceCtorEq]; done) | (simp (disch := omega) only [wI_I, wI_s, nI_add, pk_mul, nI_ltI, nI_leI, nI_eq, nI_clamp, nm_or, nm_and, nm_xor, nm_nd, nm_one, nm_shr, nm_b2, Bool.false_eq_true, Bool.true_eq_false, not_false_eq_true, not_true_eq_false, reduceCtorEq]; omega) | omega)) ?_ | refine wp_bf (by (first | (simp (disch := omega) only [wI_I, wI_s, nI_add, pk_mul, nI_ltI, nI_leI, nI_eq, nI_clamp, nm_or, nm_and, nm_xor, nm_nd, nm_one, nm_shr, nm_b2, Bool.false_eq_true, Bool.true_eq_false, not_false_eq_true, not_true_eq_false, reduceCtorEq]; done) | (simp (disch := omega) only [wI_I, wI_s, nI_add, pk_mul, nI_ltI, nI_leI, nI_eq, nI_clamp, nm_or, nm_and, nm_xor, nm_nd, nm_one, nm_shr, nm_b2, Bool.false_eq_true, Bool.true_eq_false, not_false_eq_true, not_true_eq_false, reduceCtorEq]; omega) | omega)) ?_)
        refine wp_rIe (gq_count s2 (FA i (by omega)).1 (FA i (by omega)).2) ?_
        simp (disch := omega) only [wI_I, wI_s, nI_add, pk_mul, nI_ltI, nI_leI, nI_eq, nI_clamp, nm_or, nm_and, nm_xor, nm_nd, nm_one, nm_shr, nm_b2, Bool.false_eq_true, Bool.true_eq_false, not_false_eq_true, not_true_eq_false, reduceCtorEq]
        exact wp_of ih ⟨rfl, rfl⟩
      | false =>
        rw [if_neg (by rw [z]; decide), Nat.add_zero] at e
        rw [e] at ih
        refine wp_bt rfl ?_
        simp (disch := omega) only [wI_I, wI_s, nI_add, pk_mul, nI_ltI, nI_leI, nI_eq, nI_clamp, nm_or, nm_and, nm_xor, nm_nd, nm_one, nm_shr, nm_b2, Bool.false_eq_true, Bool.true_eq_false, not_false_eq_true, not_true_eq_false, reduceCtorEq]
        exact wp_of ih ⟨rfl, rfl⟩
  rw [r_Relations_countTold_0]
  exact L nr 0 (by omega)
/-- the history's cells -/
def HS (h : MH) (z : Nat) : Prop := hC h z = 4 ∧ hR h z 3 = some (z + 1) ∧ hC h (z + 1) = 20 ∧ hN h (z + 1) = 40 ∧ hR h z 4 = some (z + 2) ∧ hC h (z + 2) = 26 ∧ hN h (z + 2) = 40 ∧ (∀ i, i < 40 → hR h (z + 2) i = some (z + 3 + i) ∧ hC h (z + 3 + i) = 20 ∧ hN h (z + 3 + i) = 16) ∧
  hR h z 5 = some (z + 43) ∧ hC h (z + 43) = 20 ∧ hN h (z + 43) = 40 ∧ hR h z 6 = some (z + 44) ∧ hC h (z + 44) = 20 ∧ hN h (z + 44) = 40
/-- act k: which one it turns (none: -1), what, the seeds on both sides -/
def HF (f : Nat → Nat → Int32) (z kept done old : Nat) (rl : Nat → Option Nat) (tn : Nat → Rw) (sb sa : Nat → Nat) : Prop :=
  f z 0 = nI kept ∧ f z 1 = nI done ∧ f z 2 = nI old ∧ kept ≤ 40 ∧ done ≤ kept ∧ old < 40 ∧ ∀ k, k < kept → f (z + 1) ((old + k) % 40) = oI (rl k) ∧ f (z + 43) ((old + k) % 40) = nI (sb k) ∧ f (z + 44) ((old + k) % 40) = nI (sa k) ∧ (∀ r, r < 16 → (rl k).isSome → f (z + 3 + (old + k) % 40) r = nI (tn k r))
theorem hs_slot {h : MH} {f : Nat → Nat → Int32} {z old k : Nat} (c : hC h z = 4) (e : f z 2 = nI old) (ho : old < 40) (hk : k ≤ 40) :
    ev M_History_slotOf 0 0 [some (.ref z), some (.int (nI k))] [] (wI h f) = some (some (.int (nI ((old + k) % 40))), wI h f) := by
  rw [r_History_slotOf_0, wI_I, e, nI_add, pk_rem (by omega) (by decide) (by decide)]
  apply wp_e
  exact wp_isC c (wp_nz (by decide) (wp_s ⟨rfl, rfl⟩))
theorem hs_forget {h : MH} {f : Nat → Nat → Int32} {z : Nat} (c : hC h z = 4) :
    ev M_History_forget 0 0 [some (.ref z)] [] (wI h f) = some (none, wI h (up2 (up2 (up2 f z 0 (nI 0)) z 1 (nI 0)) z 2 (nI 0))) := by
  rw [r_History_forget_0]
  apply wp_e
  repeat (first | refine wp_isC (by assumption) ?_ | refine wp_nnR (by assumption) ?_ | refine wp_inA (by assumption) rfl (by omega) (by omega) ?_ | refine wp_isZ (by decide) ?_ | refine wp_bt (by (first | (simp (disch := omega) only [wI_I, wI_s, nI_add, pk_mul, nI_ltI, nI_leI, nI_eq, nI_clamp, nm_or, nm_and, nm_xor, nm_nd, nm_one, nm_shr, nm_b2, Bool.false_eq_true, Bool.true_eq_false, not_false_eq_true, not_true_eq_false, reduceCtorEq]; done) | (simp (disch := omega) only [wI_I, wI_s, nI_add, pk_mul, nI_ltI, nI_leI, nI_eq, nI_clamp, nm_or, nm_and, nm_xor, nm_nd, nm_one, nm_shr, nm_b2, Bool.false_eq_true, Bool.true_eq_false, not_false_eq_true, not_true_eq_false, reduceCtorEq]; omega) | omega)) ?_ | refine wp_bf (by (first | (simp (disch := omega) only [wI_I, wI_s, nI_add, pk_mul, nI_ltI, nI_leI, nI_eq, nI_clamp, nm_or, nm_and, nm_xor, nm_nd, nm_one, nm_shr, nm_b2, Bool.false_eq_true, Bool.true_eq_false, not_false_eq_true, not_true_eq_false, reduceCtorEq]; done) | (simp (disch := omega) only [wI_I, wI_s, nI_add, pk_mul, nI_ltI, nI_leI, nI_eq, nI_clamp, nm_or, nm_and, nm_xor, nm_nd, nm_one, nm_shr, nm_b2, Bool.false_eq_true, Bool.true_eq_false, not_false_eq_true, not_true_eq_false, reduceCtorEq]; omega) | omega)) ?_)
  exact wp_s ⟨rfl, rfl⟩
theorem hs_on {h : MH} {f : Nat → Nat → Int32} {z q p n kept done old : Nat} {rl : Nat → Option Nat} {tn : Nat → Rw} {sb sa : Nat → Nat} {A : Nat → Rw} (Z : HS h z) (R : RS h q p) (d : z + 45 ≤ q ∨ q + 47 ≤ z) (F : HF f z kept done old rl tn sb sa) (hrl : ∀ k, rl done = some k → k < 5 ∧ GF f (q + 5 + 2 * k) n (A k)) (hd : done < kept) :
    ∃ f', ev M_History_goOn 0 0 [some (.ref z), some (.ref q), none] [] (wI h f) = some (some (.int (nI 1)), wI h f') ∧ HF f' z kept (done + 1) old rl tn sb sa ∧ f' q 1 = nI (sa done) ∧ (∀ j, j ≠ 1 → f' q j = f q j) ∧ (∀ k, rl done = some k → f' = up2 (gw (up2 f q 1 (nI (sa done))) (q + 5 + 2 * k) n (fun r => A k r ^^^ tn done r)) z 1 (nI (done + 1))) ∧ (rl done = none → f' = up2 (up2 f q 1 (nI (sa done))) z 1 (nI (done + 1))) := by
  obtain ⟨z1, z2, z3, z4, z5, z6, z7, z8, z9, z10, z11, z12, z13, z14⟩ := Z
  obtain ⟨a1, a2, a3, a4, a5, a6, a7⟩ := F
  obtain ⟨b1, b2, b3, b4⟩ := a7 done hd
  have hm : (old + done) % 40 < 40 := Nat.mod_lt _ (by decide)
  obtain ⟨y1, y2, y3⟩ := z8 _ hm
  have r1 := R.1
  have hH : ∀ f', (∀ a, z ≤ a → a < z + 45 → f' a = f a) → HF (up2 f' z 1 (nI (done + 1))) z kept (done + 1) old rl tn sb sa := by
    intro f' hf
    refine ⟨?_, up2_s, ?_, a4, hd, a6, fun k hk => ?_⟩
    · rw [up2_k (by decide), hf z (by omega) (by omega)]; exact a1
    · rw [up2_k (by decide), hf z (by omega) (by omega)]; exact a3
    · obtain ⟨c1, c2, c3, c4⟩ := a7 k hk
      have : (old + k) % 40 < 40 := Nat.mod_lt _ (by decide)
      rw [up2_a (by omega), up2_a (by omega), up2_a (by omega), up2_a (by omega), hf _ (by omega) (by omega), hf _ (by omega) (by omega), hf _ (by omega) (by omega), hf _ (by omega) (by omega)]
      exact ⟨c1, c2, c3, c4⟩
  have step : ∀ f', ev M_Relations_turnAll 0 0 [some (.ref q), some (.int (oI (rl done))), some (.ref (z + 3 + (old + done) % 40)), some (.int (nI (sa done))), none] [] (wI h f) = some (none, wI h f') → f' z 1 = nI done → ev M_History_goOn 0 0 [some (.ref z), some (.ref q), none] [] (wI h f) = some (some (.int (nI 1)), wI h (up2 f' z 1 (nI (done + 1)))) := by
    intro f' e1 e2
    rw [r_History_goOn_0]
    apply wp_e
    repeat (first | refine wp_isC (by assumption) ?_ | refine wp_nnR (by assumption) ?_ | refine wp_inA (by assumption) rfl (by omega) (by omega) ?_ | refine wp_isZ (by decide) ?_ | refine wp_bt (by (first | (simp (disch := omega) only [wI_I, wI_s, nI_add, pk_mul, nI_ltI, nI_leI, nI_eq, nI_clamp, nm_or, nm_and, nm_xor, nm_nd, nm_one, nm_shr, nm_b2, Bool.false_eq_true, Bool.true_eq_false, not_false_eq_true, not_true_eq_false, reduceCtorEq, a1, a2]; done) | (simp (disch := omega) only [wI_I, wI_s, nI_add, pk_mul, nI_ltI, nI_leI, nI_eq, nI_clamp, nm_or, nm_and, nm_xor, nm_nd, nm_one, nm_shr, nm_b2, Bool.false_eq_true, Bool.true_eq_false, not_false_eq_true, not_true_eq_false, reduceCtorEq, a1, a2]; omega) | omega)) ?_ | refine wp_bf (by (first | (simp (disch := omega) only [wI_I, wI_s, nI_add, pk_mul, nI_ltI, nI_leI, nI_eq, nI_clamp, nm_or, nm_and, nm_xor, nm_nd, nm_one, nm_shr, nm_b2, Bool.false_eq_true, Bool.true_eq_false, not_false_eq_true, not_true_eq_false, reduceCtorEq, a1, a2]; done) | (simp (disch := omega) only [wI_I, wI_s, nI_add, pk_mul, nI_ltI, nI_leI, nI_eq, nI_clamp, nm_or, nm_and, nm_xor, nm_nd, nm_one, nm_shr, nm_b2, Bool.false_eq_true, Bool.true_eq_false, not_false_eq_true, not_true_eq_false, reduceCtorEq, a1, a2]; omega) | omega)) ?_)
    simp (disch := omega) only [wI_I, wI_s, nI_add, pk_mul, nI_ltI, nI_leI, nI_eq, nI_clamp, nm_or, nm_and, nm_xor, nm_nd, nm_one, nm_shr, nm_b2, Bool.false_eq_true, Bool.true_eq_false, not_false_eq_true, not_true_eq_false, reduceCtorEq, a2]
    refine wp_rIe (hs_slot z1 a3 a6 (by omega)) ?_
    repeat (first | refine wp_isC (by assumption) ?_ | refine wp_nnR (by assumption) ?_ | refine wp_inA (by assumption) rfl (by omega) (by omega) ?_ | refine wp_isZ (by decide) ?_ | refine wp_bt (by (first | (simp (disch := omega) only [wI_I, wI_s, nI_add, pk_mul, nI_ltI, nI_leI, nI_eq, nI_clamp, nm_or, nm_and, nm_xor, nm_nd, nm_one, nm_shr, nm_b2, Bool.false_eq_true, Bool.true_eq_false, not_false_eq_true, not_true_eq_false, reduceCtorEq]; done) | (simp (disch := omega) only [wI_I, wI_s, nI_add, pk_mul, nI_ltI, nI_leI, nI_eq, nI_clamp, nm_or, nm_and, nm_xor, nm_nd, nm_one, nm_shr, nm_b2, Bool.false_eq_true, Bool.true_eq_false, not_false_eq_true, not_true_eq_false, reduceCtorEq]; omega) | omega)) ?_ | refine wp_bf (by (first | (simp (disch := omega) only [wI_I, wI_s, nI_add, pk_mul, nI_ltI, nI_leI, nI_eq, nI_clamp, nm_or, nm_and, nm_xor, nm_nd, nm_one, nm_shr, nm_b2, Bool.false_eq_true, Bool.true_eq_false, not_false_eq_true, not_true_eq_false, reduceCtorEq]; done) | (simp (disch := omega) only [wI_I, wI_s, nI_add, pk_mul, nI_ltI, nI_leI, nI_eq, nI_clamp, nm_or, nm_and, nm_xor, nm_nd, nm_one, nm_shr, nm_b2, Bool.false_eq_true, Bool.true_eq_false, not_false_eq_true, not_true_eq_false, reduceCtorEq]; omega) | omega)) ?_)
    rw [nI_clamp (by omega)]
    repeat (first | refine wp_isC (by assumption) ?_ | refine wp_nnR (by assumption) ?_ | refine wp_inA (by assumption) rfl (by omega) (by omega) ?_ | refine wp_isZ (by decide) ?_ | refine wp_bt (by (first | (simp (disch := omega) only [wI_I, wI_s, nI_add, pk_mul, nI_ltI, nI_leI, nI_eq, nI_clamp, nm_or, nm_and, nm_xor, nm_nd, nm_one, nm_shr, nm_b2, Bool.false_eq_true, Bool.true_eq_false, not_false_eq_true, not_true_eq_false, reduceCtorEq]; done) | (simp (disch := omega) only [wI_I, wI_s, nI_add, pk_mul, nI_ltI, nI_leI, nI_eq, nI_clamp, nm_or, nm_and, nm_xor, nm_nd, nm_one, nm_shr, nm_b2, Bool.false_eq_true, Bool.true_eq_false, not_false_eq_true, not_true_eq_false, reduceCtorEq]; omega) | omega)) ?_ | refine wp_bf (by (first | (simp (disch := omega) only [wI_I, wI_s, nI_add, pk_mul, nI_ltI, nI_leI, nI_eq, nI_clamp, nm_or, nm_and, nm_xor, nm_nd, nm_one, nm_shr, nm_b2, Bool.false_eq_true, Bool.true_eq_false, not_false_eq_true, not_true_eq_false, reduceCtorEq]; done) | (simp (disch := omega) only [wI_I, wI_s, nI_add, pk_mul, nI_ltI, nI_leI, nI_eq, nI_clamp, nm_or, nm_and, nm_xor, nm_nd, nm_one, nm_shr, nm_b2, Bool.false_eq_true, Bool.true_eq_false, not_false_eq_true, not_true_eq_false, reduceCtorEq]; omega) | omega)) ?_)
    simp (disch := omega) only [wI_I, wI_s, nI_add, pk_mul, nI_ltI, nI_leI, nI_eq, nI_clamp, nm_or, nm_and, nm_xor, nm_nd, nm_one, nm_shr, nm_b2, Bool.false_eq_true, Bool.true_eq_false, not_false_eq_true, not_true_eq_false, reduceCtorEq, b1, b3]
    refine wp_rVe e1 ?_
    repeat (first | refine wp_isC (by assumption) ?_ | refine wp_nnR (by assumption) ?_ | refine wp_inA (by assumption) rfl (by omega) (by omega) ?_ | refine wp_isZ (by decide) ?_ | refine wp_bt (by (first | (simp (disch := omega) only [wI_I, wI_s, nI_add, pk_mul, nI_ltI, nI_leI, nI_eq, nI_clamp, nm_or, nm_and, nm_xor, nm_nd, nm_one, nm_shr, nm_b2, Bool.false_eq_true, Bool.true_eq_false, not_false_eq_true, not_true_eq_false, reduceCtorEq]; done) | (simp (disch := omega) only [wI_I, wI_s, nI_add, pk_mul, nI_ltI, nI_leI, nI_eq, nI_clamp, nm_or, nm_and, nm_xor, nm_nd, nm_one, nm_shr, nm_b2, Bool.false_eq_true, Bool.true_eq_false, not_false_eq_true, not_true_eq_false, reduceCtorEq]; omega) | omega)) ?_ | refine wp_bf (by (first | (simp (disch := omega) only [wI_I, wI_s, nI_add, pk_mul, nI_ltI, nI_leI, nI_eq, nI_clamp, nm_or, nm_and, nm_xor, nm_nd, nm_one, nm_shr, nm_b2, Bool.false_eq_true, Bool.true_eq_false, not_false_eq_true, not_true_eq_false, reduceCtorEq]; done) | (simp (disch := omega) only [wI_I, wI_s, nI_add, pk_mul, nI_ltI, nI_leI, nI_eq, nI_clamp, nm_or, nm_and, nm_xor, nm_nd, nm_one, nm_shr, nm_b2, Bool.false_eq_true, Bool.true_eq_false, not_false_eq_true, not_true_eq_false, reduceCtorEq]; omega) | omega)) ?_)
    simp (disch := omega) only [wI_I, wI_s, nI_add, pk_mul, nI_ltI, nI_leI, nI_eq, nI_clamp, nm_or, nm_and, nm_xor, nm_nd, nm_one, nm_shr, nm_b2, Bool.false_eq_true, Bool.true_eq_false, not_false_eq_true, not_true_eq_false, reduceCtorEq, e2]
    exact wp_s ⟨rfl, rfl⟩
  cases e : rl done with
  | none =>
    rw [e] at step b1
    refine ⟨up2 (up2 f q 1 (nI (sa done))) z 1 (nI (done + 1)), step _ (rl_turn0 r1) (by rw [up2_a (by omega)]; exact a2), hH _ (fun a h1 h2 => up2_a (by omega)), ?_, ?_, ?_, fun _ => rfl⟩
    · rw [up2_a (by omega), up2_s]
    · intro j hj; rw [up2_a (by omega), up2_k hj]
    · intro k hk; cases hk
  | some k =>
    rw [e] at step b1 b4
    obtain ⟨hk5, FA⟩ := hrl k e
    have t := rl_turn (v := nI (sa done)) (T := tn done) R hk5 y2 y3 (by omega) FA (fun r hr => b4 r hr rfl)
    refine ⟨up2 (gw (up2 f q 1 (nI (sa done))) (q + 5 + 2 * k) n (fun r => A k r ^^^ tn done r)) z 1 (nI (done + 1)), step _ t (by rw [gw_o (by omega) (by omega), up2_a (by omega)]; exact a2), hH _ (fun a h1 h2 => by rw [gw_o (by omega) (by omega), up2_a (by omega)]), ?_, ?_, ?_, ?_⟩
    · rw [up2_a (by omega), gw_o (by omega) (by omega), up2_s]
    · intro j hj; rw [up2_a (by omega), gw_o (by omega) (by omega), up2_k hj]
    · intro k2 hk2; cases hk2; rfl
    · intro hk2; cases hk2
