/-! Parts worked off; all derived ones anew. -/
theorem rl_back {h : MH} {f : Nat → Nat → Int32} {q p n : Nat} {g : Rw} {S : List Rw} (R : RS h q p) (FS : SF f q n (g :: S)) (hd : S.length < 16) :
    ∃ f', ev M_Relations_workPart 0 0 [some (.ref q), some (.int (nI 12)), some (.int (nI (S.length + 1)))] [] (wI h f) = some (some (.int (nI (S.length + 1))), wI h f') ∧ SF f' q n (tp n g :: S) ∧ (∀ a, (a < q + 3 ∨ q + 5 ≤ a) → (a < q + 15 ∨ q + 47 ≤ a) → f' a = f a) := by
  obtain ⟨r1, r2, r3, r4, r5, r6, r7, r8, r9, r10, r11, r12⟩ := R
  obtain ⟨s1, s2⟩ := r9 S.length hd
  have s3 := s2.1
  have s4 := r11.1
  obtain ⟨F, V, FS⟩ := FS
  refine ⟨gw (gw f (q + 3) n (tp n g)) (q + 15 + 2 * S.length) n (tp n g), ?_, ⟨gw_f, GW.tp V.1, SF_fr (fun a h1 h2 => ?_) FS⟩, fun a h1 h2 => ?_⟩
  · rw [r_Relations_workPart_0, pk_sub (by omega), Nat.add_sub_cancel]
    apply wp_e
    repeat (first | refine wp_isC (by assumption) ?_ | refine wp_nnR (by assumption) ?_ | refine wp_inA (by assumption) rfl (by omega) (by omega) ?_ | refine wp_isZ (by decide) ?_ | refine wp_bt (by (first | (simp (disch := omega) only [wI_I, wI_s, nI_add, pk_mul, nI_ltI, nI_leI, nI_eq, nI_clamp, nm_or, nm_and, nm_xor, nm_nd, nm_one, nm_shr, nm_b2, Bool.false_eq_true, Bool.true_eq_false, not_false_eq_true, not_true_eq_false, reduceCtorEq]; done) | (simp (disch := omega) only [wI_I, wI_s, nI_add, pk_mul, nI_ltI, nI_leI, nI_eq, nI_clamp, nm_or, nm_and, nm_xor, nm_nd, nm_one, nm_shr, nm_b2, Bool.false_eq_true, Bool.true_eq_false, not_false_eq_true, not_true_eq_false, reduceCtorEq]; omega) | omega)) ?_ | refine wp_bf (by (first | (simp (disch := omega) only [wI_I, wI_s, nI_add, pk_mul, nI_ltI, nI_leI, nI_eq, nI_clamp, nm_or, nm_and, nm_xor, nm_nd, nm_one, nm_shr, nm_b2, Bool.false_eq_true, Bool.true_eq_false, not_false_eq_true, not_true_eq_false, reduceCtorEq]; done) | (simp (disch := omega) only [wI_I, wI_s, nI_add, pk_mul, nI_ltI, nI_leI, nI_eq, nI_clamp, nm_or, nm_and, nm_xor, nm_nd, nm_one, nm_shr, nm_b2, Bool.false_eq_true, Bool.true_eq_false, not_false_eq_true, not_true_eq_false, reduceCtorEq]; omega) | omega)) ?_)
    rw [nI_clamp (by omega)]
    repeat (first | refine wp_isC (by assumption) ?_ | refine wp_nnR (by assumption) ?_ | refine wp_inA (by assumption) rfl (by omega) (by omega) ?_ | refine wp_isZ (by decide) ?_ | refine wp_bt (by (first | (simp (disch := omega) only [wI_I, wI_s, nI_add, pk_mul, nI_ltI, nI_leI, nI_eq, nI_clamp, nm_or, nm_and, nm_xor, nm_nd, nm_one, nm_shr, nm_b2, Bool.false_eq_true, Bool.true_eq_false, not_false_eq_true, not_true_eq_false, reduceCtorEq]; done) | (simp (disch := omega) only [wI_I, wI_s, nI_add, pk_mul, nI_ltI, nI_leI, nI_eq, nI_clamp, nm_or, nm_and, nm_xor, nm_nd, nm_one, nm_shr, nm_b2, Bool.false_eq_true, Bool.true_eq_false, not_false_eq_true, not_true_eq_false, reduceCtorEq]; omega) | omega)) ?_ | refine wp_bf (by (first | (simp (disch := omega) only [wI_I, wI_s, nI_add, pk_mul, nI_ltI, nI_leI, nI_eq, nI_clamp, nm_or, nm_and, nm_xor, nm_nd, nm_one, nm_shr, nm_b2, Bool.false_eq_true, Bool.true_eq_false, not_false_eq_true, not_true_eq_false, reduceCtorEq]; done) | (simp (disch := omega) only [wI_I, wI_s, nI_add, pk_mul, nI_ltI, nI_leI, nI_eq, nI_clamp, nm_or, nm_and, nm_xor, nm_nd, nm_one, nm_shr, nm_b2, Bool.false_eq_true, Bool.true_eq_false, not_false_eq_true, not_true_eq_false, reduceCtorEq]; omega) | omega)) ?_)
    refine wp_rVe (gq_over r11 s2 (by omega) F V) ?_
    repeat (first | refine wp_isC (by assumption) ?_ | refine wp_nnR (by assumption) ?_ | refine wp_inA (by assumption) rfl (by omega) (by omega) ?_ | refine wp_isZ (by decide) ?_ | refine wp_bt (by (first | (simp (disch := omega) only [wI_I, wI_s, nI_add, pk_mul, nI_ltI, nI_leI, nI_eq, nI_clamp, nm_or, nm_and, nm_xor, nm_nd, nm_one, nm_shr, nm_b2, Bool.false_eq_true, Bool.true_eq_false, not_false_eq_true, not_true_eq_false, reduceCtorEq]; done) | (simp (disch := omega) only [wI_I, wI_s, nI_add, pk_mul, nI_ltI, nI_leI, nI_eq, nI_clamp, nm_or, nm_and, nm_xor, nm_nd, nm_one, nm_shr, nm_b2, Bool.false_eq_true, Bool.true_eq_false, not_false_eq_true, not_true_eq_false, reduceCtorEq]; omega) | omega)) ?_ | refine wp_bf (by (first | (simp (disch := omega) only [wI_I, wI_s, nI_add, pk_mul, nI_ltI, nI_leI, nI_eq, nI_clamp, nm_or, nm_and, nm_xor, nm_nd, nm_one, nm_shr, nm_b2, Bool.false_eq_true, Bool.true_eq_false, not_false_eq_true, not_true_eq_false, reduceCtorEq]; done) | (simp (disch := omega) only [wI_I, wI_s, nI_add, pk_mul, nI_ltI, nI_leI, nI_eq, nI_clamp, nm_or, nm_and, nm_xor, nm_nd, nm_one, nm_shr, nm_b2, Bool.false_eq_true, Bool.true_eq_false, not_false_eq_true, not_true_eq_false, reduceCtorEq]; omega) | omega)) ?_)
    refine wp_rVe (gq_copy s2 r11 (by omega) gw_f) ?_
    exact wp_s ⟨rfl, rfl⟩
  · rw [gw_o (by omega) (by omega), gw_o (by omega) (by omega)]
  · rw [gw_o (by omega) (by omega), gw_o (by omega) (by omega)]
theorem rl_join {h : MH} {f : Nat → Nat → Int32} {q p n c : Nat} {a b : Rw} {S : List Rw} (R : RS h q p) (FS : SF f q n (b :: a :: S)) (hd : S.length + 1 < 16) (hc : 20 ≤ c) (hc2 : c ≤ 23) :
    ∃ f', ev M_Relations_workPart 0 0 [some (.ref q), some (.int (nI c)), some (.int (nI (S.length + 2)))] [] (wI h f) = some (some (.int (nI (S.length + 1))), wI h f') ∧ SF f' q n (jnG (c - 20) n a b :: S) ∧ (∀ a, (a < q + 3 ∨ q + 5 ≤ a) → (a < q + 15 ∨ q + 47 ≤ a) → f' a = f a) := by
  obtain ⟨r1, r2, r3, r4, r5, r6, r7, r8, r9, r10, r11, r12⟩ := R
  obtain ⟨s1, s2⟩ := r9 S.length (by omega)
  obtain ⟨t1, t2⟩ := r9 (S.length + 1) hd
  have s3 := s2.1
  have s4 := r11.1
  obtain ⟨Fb, Vb, Fa, Va, FS⟩ := FS
  refine ⟨gw (gw f (q + 3) n (jnG (c - 20) n a b)) (q + 15 + 2 * S.length) n (jnG (c - 20) n a b), ?_, ⟨gw_f, GW.jnG Va Vb, SF_fr (fun a h1 h2 => ?_) FS⟩, fun a h1 h2 => ?_⟩
  · rw [r_Relations_workPart_0]
    apply wp_e
    refine wp_bf (by (first | (simp (disch := omega) only [wI_I, wI_s, nI_add, pk_mul, nI_ltI, nI_leI, nI_eq, nI_clamp, nm_or, nm_and, nm_xor, nm_nd, nm_one, nm_shr, nm_b2, Bool.false_eq_true, Bool.true_eq_false, not_false_eq_true, not_true_eq_false, reduceCtorEq]; done) | (simp (disch := omega) only [wI_I, wI_s, nI_add, pk_mul, nI_ltI, nI_leI, nI_eq, nI_clamp, nm_or, nm_and, nm_xor, nm_nd, nm_one, nm_shr, nm_b2, Bool.false_eq_true, Bool.true_eq_false, not_false_eq_true, not_true_eq_false, reduceCtorEq]; omega) | omega)) ?_
    rw [r_Relations_workPart_25, pk_sub (by omega), pk_sub (by omega), pk_sub (by omega), show S.length + 2 - 2 = S.length by omega, show S.length + 2 - 1 = S.length + 1 by omega]
    refine wp_bf (by (first | (simp (disch := omega) only [wI_I, wI_s, nI_add, pk_mul, nI_ltI, nI_leI, nI_eq, nI_clamp, nm_or, nm_and, nm_xor, nm_nd, nm_one, nm_shr, nm_b2, Bool.false_eq_true, Bool.true_eq_false, not_false_eq_true, not_true_eq_false, reduceCtorEq]; done) | (simp (disch := omega) only [wI_I, wI_s, nI_add, pk_mul, nI_ltI, nI_leI, nI_eq, nI_clamp, nm_or, nm_and, nm_xor, nm_nd, nm_one, nm_shr, nm_b2, Bool.false_eq_true, Bool.true_eq_false, not_false_eq_true, not_true_eq_false, reduceCtorEq]; omega) | omega)) (wp_bt (by (first | (simp (disch := omega) only [wI_I, wI_s, nI_add, pk_mul, nI_ltI, nI_leI, nI_eq, nI_clamp, nm_or, nm_and, nm_xor, nm_nd, nm_one, nm_shr, nm_b2, Bool.false_eq_true, Bool.true_eq_false, not_false_eq_true, not_true_eq_false, reduceCtorEq]; done) | (simp (disch := omega) only [wI_I, wI_s, nI_add, pk_mul, nI_ltI, nI_leI, nI_eq, nI_clamp, nm_or, nm_and, nm_xor, nm_nd, nm_one, nm_shr, nm_b2, Bool.false_eq_true, Bool.true_eq_false, not_false_eq_true, not_true_eq_false, reduceCtorEq]; omega) | omega)) (wp_bt (by (first | (simp (disch := omega) only [wI_I, wI_s, nI_add, pk_mul, nI_ltI, nI_leI, nI_eq, nI_clamp, nm_or, nm_and, nm_xor, nm_nd, nm_one, nm_shr, nm_b2, Bool.false_eq_true, Bool.true_eq_false, not_false_eq_true, not_true_eq_false, reduceCtorEq]; done) | (simp (disch := omega) only [wI_I, wI_s, nI_add, pk_mul, nI_ltI, nI_leI, nI_eq, nI_clamp, nm_or, nm_and, nm_xor, nm_nd, nm_one, nm_shr, nm_b2, Bool.false_eq_true, Bool.true_eq_false, not_false_eq_true, not_true_eq_false, reduceCtorEq]; omega) | omega)) ?_))
    refine wp_isC r1 (wp_nnR r10 (wp_isC r1 (wp_nnR r6 (wp_isC r7 (wp_inA r8 rfl (by omega) (by omega) ?_)))))
    rw [nI_clamp (by omega), nI_clamp (by omega)]
    refine wp_nnR s1 (wp_isC r1 (wp_nnR r6 (wp_isC r7 (wp_inA r8 rfl (by omega) (by omega) (wp_nnR t1 (wp_isC s4 ?_))))))
    refine wp_rVe (gq_join r11 s2 t2 (by omega) (by omega) Fa Fb Va Vb (by omega)) ?_
    refine wp_isC r1 (wp_nnR r6 (wp_isC r7 (wp_inA r8 rfl (by omega) (by omega) (wp_nnR s1 (wp_isC r1 (wp_nnR r10 (wp_isC s3 ?_)))))))
    refine wp_rVe (gq_copy s2 r11 (by omega) gw_f) ?_
    exact wp_s ⟨rfl, rfl⟩
  · rw [gw_o (by omega) (by omega), gw_o (by omega) (by omega)]
  · rw [gw_o (by omega) (by omega), gw_o (by omega) (by omega)]
theorem rl_named {h : MH} {f : Nat → Nat → Int32} {q p n k : Nat} {g : Rw} {S : List Rw} (R : RS h q p) (FS : SF f q n (g :: S)) (hd : S.length < 16) (hk : k < 5) :
    ev M_Relations_workPart 0 0 [some (.ref q), some (.int (nI (30 + k))), some (.int (nI (S.length + 1)))] [] (wI h f) = some (some (.int (nI S.length)), wI h (gw f (q + 5 + 2 * k) n g)) := by
  obtain ⟨r1, r2, r3, r4, r5, r6, r7, r8, r9, r10, r11, r12⟩ := R
  obtain ⟨s1, s2⟩ := r9 S.length hd
  obtain ⟨t1, t2⟩ := r5 k hk
  have t3 := t2.1
  obtain ⟨F, V, FS⟩ := FS
  rw [r_Relations_workPart_0]
  apply wp_e
  refine wp_bf (by (first | (simp (disch := omega) only [wI_I, wI_s, nI_add, pk_mul, nI_ltI, nI_leI, nI_eq, nI_clamp, nm_or, nm_and, nm_xor, nm_nd, nm_one, nm_shr, nm_b2, Bool.false_eq_true, Bool.true_eq_false, not_false_eq_true, not_true_eq_false, reduceCtorEq]; done) | (simp (disch := omega) only [wI_I, wI_s, nI_add, pk_mul, nI_ltI, nI_leI, nI_eq, nI_clamp, nm_or, nm_and, nm_xor, nm_nd, nm_one, nm_shr, nm_b2, Bool.false_eq_true, Bool.true_eq_false, not_false_eq_true, not_true_eq_false, reduceCtorEq]; omega) | omega)) ?_
  rw [r_Relations_workPart_25]
  refine wp_bf (by (first | (simp (disch := omega) only [wI_I, wI_s, nI_add, pk_mul, nI_ltI, nI_leI, nI_eq, nI_clamp, nm_or, nm_and, nm_xor, nm_nd, nm_one, nm_shr, nm_b2, Bool.false_eq_true, Bool.true_eq_false, not_false_eq_true, not_true_eq_false, reduceCtorEq]; done) | (simp (disch := omega) only [wI_I, wI_s, nI_add, pk_mul, nI_ltI, nI_leI, nI_eq, nI_clamp, nm_or, nm_and, nm_xor, nm_nd, nm_one, nm_shr, nm_b2, Bool.false_eq_true, Bool.true_eq_false, not_false_eq_true, not_true_eq_false, reduceCtorEq]; omega) | omega)) (wp_bf (by (first | (simp (disch := omega) only [wI_I, wI_s, nI_add, pk_mul, nI_ltI, nI_leI, nI_eq, nI_clamp, nm_or, nm_and, nm_xor, nm_nd, nm_one, nm_shr, nm_b2, Bool.false_eq_true, Bool.true_eq_false, not_false_eq_true, not_true_eq_false, reduceCtorEq]; done) | (simp (disch := omega) only [wI_I, wI_s, nI_add, pk_mul, nI_ltI, nI_leI, nI_eq, nI_clamp, nm_or, nm_and, nm_xor, nm_nd, nm_one, nm_shr, nm_b2, Bool.false_eq_true, Bool.true_eq_false, not_false_eq_true, not_true_eq_false, reduceCtorEq]; omega) | omega)) ?_)
  rw [r_Relations_workPart_66, pk_sub (by omega), pk_sub (by omega), Nat.add_sub_cancel, Nat.add_sub_cancel_left]
  refine wp_bf (by (first | (simp (disch := omega) only [wI_I, wI_s, nI_add, pk_mul, nI_ltI, nI_leI, nI_eq, nI_clamp, nm_or, nm_and, nm_xor, nm_nd, nm_one, nm_shr, nm_b2, Bool.false_eq_true, Bool.true_eq_false, not_false_eq_true, not_true_eq_false, reduceCtorEq]; done) | (simp (disch := omega) only [wI_I, wI_s, nI_add, pk_mul, nI_ltI, nI_leI, nI_eq, nI_clamp, nm_or, nm_and, nm_xor, nm_nd, nm_one, nm_shr, nm_b2, Bool.false_eq_true, Bool.true_eq_false, not_false_eq_true, not_true_eq_false, reduceCtorEq]; omega) | omega)) (wp_bt (by (first | (simp (disch := omega) only [wI_I, wI_s, nI_add, pk_mul, nI_ltI, nI_leI, nI_eq, nI_clamp, nm_or, nm_and, nm_xor, nm_nd, nm_one, nm_shr, nm_b2, Bool.false_eq_true, Bool.true_eq_false, not_false_eq_true, not_true_eq_false, reduceCtorEq]; done) | (simp (disch := omega) only [wI_I, wI_s, nI_add, pk_mul, nI_ltI, nI_leI, nI_eq, nI_clamp, nm_or, nm_and, nm_xor, nm_nd, nm_one, nm_shr, nm_b2, Bool.false_eq_true, Bool.true_eq_false, not_false_eq_true, not_true_eq_false, reduceCtorEq]; omega) | omega)) (wp_bt (by (first | (simp (disch := omega) only [wI_I, wI_s, nI_add, pk_mul, nI_ltI, nI_leI, nI_eq, nI_clamp, nm_or, nm_and, nm_xor, nm_nd, nm_one, nm_shr, nm_b2, Bool.false_eq_true, Bool.true_eq_false, not_false_eq_true, not_true_eq_false, reduceCtorEq]; done) | (simp (disch := omega) only [wI_I, wI_s, nI_add, pk_mul, nI_ltI, nI_leI, nI_eq, nI_clamp, nm_or, nm_and, nm_xor, nm_nd, nm_one, nm_shr, nm_b2, Bool.false_eq_true, Bool.true_eq_false, not_false_eq_true, not_true_eq_false, reduceCtorEq]; omega) | omega)) ?_))
  repeat (first | refine wp_isC (by assumption) ?_ | refine wp_nnR (by assumption) ?_ | refine wp_inA (by assumption) rfl (by omega) (by omega) ?_ | refine wp_isZ (by decide) ?_ | refine wp_bt (by (first | (simp (disch := omega) only [wI_I, wI_s, nI_add, pk_mul, nI_ltI, nI_leI, nI_eq, nI_clamp, nm_or, nm_and, nm_xor, nm_nd, nm_one, nm_shr, nm_b2, Bool.false_eq_true, Bool.true_eq_false, not_false_eq_true, not_true_eq_false, reduceCtorEq]; done) | (simp (disch := omega) only [wI_I, wI_s, nI_add, pk_mul, nI_ltI, nI_leI, nI_eq, nI_clamp, nm_or, nm_and, nm_xor, nm_nd, nm_one, nm_shr, nm_b2, Bool.false_eq_true, Bool.true_eq_false, not_false_eq_true, not_true_eq_false, reduceCtorEq]; omega) | omega)) ?_ | refine wp_bf (by (first | (simp (disch := omega) only [wI_I, wI_s, nI_add, pk_mul, nI_ltI, nI_leI, nI_eq, nI_clamp, nm_or, nm_and, nm_xor, nm_nd, nm_one, nm_shr, nm_b2, Bool.false_eq_true, Bool.true_eq_false, not_false_eq_true, not_true_eq_false, reduceCtorEq]; done) | (simp (disch := omega) only [wI_I, wI_s, nI_add, pk_mul, nI_ltI, nI_leI, nI_eq, nI_clamp, nm_or, nm_and, nm_xor, nm_nd, nm_one, nm_shr, nm_b2, Bool.false_eq_true, Bool.true_eq_false, not_false_eq_true, not_true_eq_false, reduceCtorEq]; omega) | omega)) ?_)
  rw [nI_clamp (by omega)]
  repeat (first | refine wp_isC (by assumption) ?_ | refine wp_nnR (by assumption) ?_ | refine wp_inA (by assumption) rfl (by omega) (by omega) ?_ | refine wp_isZ (by decide) ?_ | refine wp_bt (by (first | (simp (disch := omega) only [wI_I, wI_s, nI_add, pk_mul, nI_ltI, nI_leI, nI_eq, nI_clamp, nm_or, nm_and, nm_xor, nm_nd, nm_one, nm_shr, nm_b2, Bool.false_eq_true, Bool.true_eq_false, not_false_eq_true, not_true_eq_false, reduceCtorEq]; done) | (simp (disch := omega) only [wI_I, wI_s, nI_add, pk_mul, nI_ltI, nI_leI, nI_eq, nI_clamp, nm_or, nm_and, nm_xor, nm_nd, nm_one, nm_shr, nm_b2, Bool.false_eq_true, Bool.true_eq_false, not_false_eq_true, not_true_eq_false, reduceCtorEq]; omega) | omega)) ?_ | refine wp_bf (by (first | (simp (disch := omega) only [wI_I, wI_s, nI_add, pk_mul, nI_ltI, nI_leI, nI_eq, nI_clamp, nm_or, nm_and, nm_xor, nm_nd, nm_one, nm_shr, nm_b2, Bool.false_eq_true, Bool.true_eq_false, not_false_eq_true, not_true_eq_false, reduceCtorEq]; done) | (simp (disch := omega) only [wI_I, wI_s, nI_add, pk_mul, nI_ltI, nI_leI, nI_eq, nI_clamp, nm_or, nm_and, nm_xor, nm_nd, nm_one, nm_shr, nm_b2, Bool.false_eq_true, Bool.true_eq_false, not_false_eq_true, not_true_eq_false, reduceCtorEq]; omega) | omega)) ?_)
  rw [nI_clamp (by omega)]
  repeat (first | refine wp_isC (by assumption) ?_ | refine wp_nnR (by assumption) ?_ | refine wp_inA (by assumption) rfl (by omega) (by omega) ?_ | refine wp_isZ (by decide) ?_ | refine wp_bt (by (first | (simp (disch := omega) only [wI_I, wI_s, nI_add, pk_mul, nI_ltI, nI_leI, nI_eq, nI_clamp, nm_or, nm_and, nm_xor, nm_nd, nm_one, nm_shr, nm_b2, Bool.false_eq_true, Bool.true_eq_false, not_false_eq_true, not_true_eq_false, reduceCtorEq]; done) | (simp (disch := omega) only [wI_I, wI_s, nI_add, pk_mul, nI_ltI, nI_leI, nI_eq, nI_clamp, nm_or, nm_and, nm_xor, nm_nd, nm_one, nm_shr, nm_b2, Bool.false_eq_true, Bool.true_eq_false, not_false_eq_true, not_true_eq_false, reduceCtorEq]; omega) | omega)) ?_ | refine wp_bf (by (first | (simp (disch := omega) only [wI_I, wI_s, nI_add, pk_mul, nI_ltI, nI_leI, nI_eq, nI_clamp, nm_or, nm_and, nm_xor, nm_nd, nm_one, nm_shr, nm_b2, Bool.false_eq_true, Bool.true_eq_false, not_false_eq_true, not_true_eq_false, reduceCtorEq]; done) | (simp (disch := omega) only [wI_I, wI_s, nI_add, pk_mul, nI_ltI, nI_leI, nI_eq, nI_clamp, nm_or, nm_and, nm_xor, nm_nd, nm_one, nm_shr, nm_b2, Bool.false_eq_true, Bool.true_eq_false, not_false_eq_true, not_true_eq_false, reduceCtorEq]; omega) | omega)) ?_)
  refine wp_rVe (gq_copy t2 s2 (by omega) F) ?_
  exact wp_s ⟨rfl, rfl⟩
/-- a row of numbers in the heap -/
def LF (f : Nat → Nat → Int32) (a : Nat) (xs : List Nat) : Prop := ∀ i c, xs[i]? = some c → f a i = nI c
theorem rl_dv {h : MH} {q p lv nr : Nat} {xs : List Nat} (R : RS h q p) (P : PS h p) (h4 : lv ≤ 4) (hp : p + 17 ≤ q ∨ q + 47 ≤ p) (hr : nr ≤ 5) (hx : xs.length ≤ 256) (hb : ∀ c, c ∈ xs → c < 40) : ∀ cs i f A S, xs.drop i = cs → i ≤ xs.length → f p 0 = nI lv → f p 10 = nI xs.length → LF f (p + 6) xs → (∀ k, k < nr → GF f (q + 5 + 2 * k) (2 ^ lv) (A k) ∧ GW (2 ^ lv) (A k)) → SF f q (2 ^ lv) S → S.length ≤ 16 → xok nr cs S.length →
    wp (ev M_Relations_derive 0 5 [some (.ref q), some (.int (nI S.length)), some (.int (nI i)), none] [] (wI h f)) (fun r h' => ∃ f', r = none ∧ h' = wI h f' ∧ (∀ k, k < nr → GF f' (q + 5 + 2 * k) (2 ^ lv) (dv (2 ^ lv) cs A S k) ∧ GW (2 ^ lv) (dv (2 ^ lv) cs A S k)) ∧ Fr (q + 3) (q + 47) f f') := by
  obtain ⟨r1, r2, r3, r4, r5, r6, r7, r8, r9, r10, r11, r12⟩ := id R
  obtain ⟨p1, p2, p3, p4, p5, p6, p7, p8, p9, p10, p11, p12, p13, p14, p15, p16, p17, p18, p19⟩ := id P
  intro cs
  induction cs with
  | nil =>
    intro i f A S hi hi2 f0 f10 fx FA FS hS ok
    have : xs.length ≤ i := List.drop_eq_nil_iff.mp hi
    rw [r_Relations_derive_5]
    repeat (first | refine wp_isC (by assumption) ?_ | refine wp_nnR (by assumption) ?_ | refine wp_inA (by assumption) rfl (by omega) (by omega) ?_ | refine wp_isZ (by decide) ?_ | refine wp_bt (by (first | (simp (disch := omega) only [wI_I, wI_s, nI_add, pk_mul, nI_ltI, nI_leI, nI_eq, nI_clamp, nm_or, nm_and, nm_xor, nm_nd, nm_one, nm_shr, nm_b2, Bool.false_eq_true, Bool.true_eq_false, not_false_eq_true, not_true_eq_false, reduceCtorEq, f10]; done) | (simp (disch := omega) only [wI_I, wI_s, nI_add, pk_mul, nI_ltI, nI_leI, nI_eq, nI_clamp, nm_or, nm_and, nm_xor, nm_nd, nm_one, nm_shr, nm_b2, Bool.false_eq_true, Bool.true_eq_false, not_false_eq_true, not_true_eq_false, reduceCtorEq, f10]; omega) | omega)) ?_ | refine wp_bf (by (first | (simp (disch := omega) only [wI_I, wI_s, nI_add, pk_mul, nI_ltI, nI_leI, nI_eq, nI_clamp, nm_or, nm_and, nm_xor, nm_nd, nm_one, nm_shr, nm_b2, Bool.false_eq_true, Bool.true_eq_false, not_false_eq_true, not_true_eq_false, reduceCtorEq, f10]; done) | (simp (disch := omega) only [wI_I, wI_s, nI_add, pk_mul, nI_ltI, nI_leI, nI_eq, nI_clamp, nm_or, nm_and, nm_xor, nm_nd, nm_one, nm_shr, nm_b2, Bool.false_eq_true, Bool.true_eq_false, not_false_eq_true, not_true_eq_false, reduceCtorEq, f10]; omega) | omega)) ?_)
    exact wp_s ⟨f, rfl, rfl, FA, Fr.rf⟩
  | cons c cs ih =>
    intro i f A S hi hi2 f0 f10 fx FA FS hS ok
    have hi3 : xs[i]? = some c := by
      have := List.getElem?_drop (xs := xs) (i := i) (j := 0)
      rw [hi] at this; simpa using this.symm
    have hlt : i < xs.length := (List.getElem?_eq_some_iff.mp hi3).1
    have hdr : xs.drop (i + 1) = cs := by
      rw [← List.drop_drop, hi]; rfl
    have hc40 := hb c (List.mem_of_getElem? hi3)
    have fc := fx i c hi3
    -- what stays when only the cells of the relations change
    have nx : ∀ f' A' S', Fr (q + 3) (q + 47) f f' → (∀ k, k < nr → GF f' (q + 5 + 2 * k) (2 ^ lv) (A' k) ∧ GW (2 ^ lv) (A' k)) → SF f' q (2 ^ lv) S' → S'.length ≤ 16 → xok nr cs S'.length →
        wp (ev M_Relations_derive 0 5 [some (.ref q), some (.int (nI S'.length)), some (.int (nI (i + 1))), none] [] (wI h f')) (fun r h' => ∃ f', r = none ∧ h' = wI h f' ∧ (∀ k, k < nr → GF f' (q + 5 + 2 * k) (2 ^ lv) (dv (2 ^ lv) cs A' S' k) ∧ GW (2 ^ lv) (dv (2 ^ lv) cs A' S' k)) ∧ Fr (q + 3) (q + 47) f f') := by
      intro f' A' S' fr FA' FS' hS' ok'
      refine wp_w (ih (i + 1) f' A' S' hdr (by omega) (by rw [fr p (by omega)]; exact f0) (by rw [fr p (by omega)]; exact f10) (fun j c hj => by rw [fr (p + 6) (by omega)]; exact fx j c hj) FA' FS' hS' ok') ?_
      rintro r h' ⟨f2, e1, e2, e3, e4⟩
      exact ⟨f2, e1, e2, e3, fr.tr e4⟩
    rw [r_Relations_derive_5]
    repeat (first | refine wp_isC (by assumption) ?_ | refine wp_nnR (by assumption) ?_ | refine wp_inA (by assumption) rfl (by omega) (by omega) ?_ | refine wp_isZ (by decide) ?_ | refine wp_bt (by (first | (simp (disch := omega) only [wI_I, wI_s, nI_add, pk_mul, nI_ltI, nI_leI, nI_eq, nI_clamp, nm_or, nm_and, nm_xor, nm_nd, nm_one, nm_shr, nm_b2, Bool.false_eq_true, Bool.true_eq_false, not_false_eq_true, not_true_eq_false, reduceCtorEq, f10]; done) | (simp (disch := omega) only [wI_I, wI_s, nI_add, pk_mul, nI_ltI, nI_leI, nI_eq, nI_clamp, nm_or, nm_and, nm_xor, nm_nd, nm_one, nm_shr, nm_b2, Bool.false_eq_true, Bool.true_eq_false, not_false_eq_true, not_true_eq_false, reduceCtorEq, f10]; omega) | omega)) ?_ | refine wp_bf (by (first | (simp (disch := omega) only [wI_I, wI_s, nI_add, pk_mul, nI_ltI, nI_leI, nI_eq, nI_clamp, nm_or, nm_and, nm_xor, nm_nd, nm_one, nm_shr, nm_b2, Bool.false_eq_true, Bool.true_eq_false, not_false_eq_true, not_true_eq_false, reduceCtorEq, f10]; done) | (simp (disch := omega) only [wI_I, wI_s, nI_add, pk_mul, nI_ltI, nI_leI, nI_eq, nI_clamp, nm_or, nm_and, nm_xor, nm_nd, nm_one, nm_shr, nm_b2, Bool.false_eq_true, Bool.true_eq_false, not_false_eq_true, not_true_eq_false, reduceCtorEq, f10]; omega) | omega)) ?_)
    simp (disch := omega) only [wI_I, wI_s, nI_add, pk_mul, nI_ltI, nI_leI, nI_eq, nI_clamp, nm_or, nm_and, nm_xor, nm_nd, nm_one, nm_shr, nm_b2, Bool.false_eq_true, Bool.true_eq_false, not_false_eq_true, not_true_eq_false, reduceCtorEq, fc]
    simp only [r_Relations_derive_35]
    rcases ok with ⟨k1, k2, k3⟩ | ⟨k1, k2, k3⟩ | ⟨k1, k2, k3, k4⟩ | ⟨k1, k2, k3, k4⟩
    · refine wp_bt (by omega) (wp_isC r1 ?_)
      obtain ⟨f', e1, e2, e3⟩ := rl_open R P h4 f0 hp hr FA FS k1 k2
      refine wp_rIe e1 ?_
      simp (disch := omega) only [wI_I, wI_s, nI_add, pk_mul, nI_ltI, nI_leI, nI_eq, nI_clamp, nm_or, nm_and, nm_xor, nm_nd, nm_one, nm_shr, nm_b2, Bool.false_eq_true, Bool.true_eq_false, not_false_eq_true, not_true_eq_false, reduceCtorEq]
      have el : (xop (2 ^ lv) A c S).length = S.length + 1 := by
        unfold xop
        by_cases c5 : c < 5
        · rw [if_pos c5]; rfl
        · rw [if_neg c5]
          by_cases c10 : c = 10
          · rw [if_pos c10]; rfl
          · rw [if_neg c10, if_pos (by omega)]; rfl
      rw [dv, if_neg (by omega)]
      have := nx f' A _ (e3.up (by omega) (by omega)) (fun k hk => ⟨e3.F (by omega) (FA k hk).1, (FA k hk).2⟩) e2 (by omega) (by rw [el]; exact k3)
      rw [el] at this
      exact this
    · subst k1
      refine wp_bf (by omega) (wp_isC r1 ?_)
      cases S with
      | nil => exact absurd k2 (by decide)
      | cons g S =>
        obtain ⟨f', e1, e2, e3⟩ := rl_back R FS (Nat.lt_of_succ_le hS)
        refine wp_rIe e1 ?_
        simp (disch := omega) only [wI_I, wI_s, nI_add, pk_mul, nI_ltI, nI_leI, nI_eq, nI_clamp, nm_or, nm_and, nm_xor, nm_nd, nm_one, nm_shr, nm_b2, Bool.false_eq_true, Bool.true_eq_false, not_false_eq_true, not_true_eq_false, reduceCtorEq]
        rw [dv, if_neg (by omega)]
        have ex : xop (2 ^ lv) A 12 (g :: S) = tp (2 ^ lv) g :: S := rfl
        rw [ex]
        exact nx f' A (tp (2 ^ lv) g :: S) (fun a ha => e3 a (by omega) (by omega)) (fun k hk => ⟨⟨by rw [e3 _ (by omega) (by omega)]; exact (FA k hk).1.1, fun r hr => by rw [e3 _ (by omega) (by omega)]; exact (FA k hk).1.2 r hr⟩, (FA k hk).2⟩) e2 hS k3
    · refine wp_bf (by omega) (wp_isC r1 ?_)
      cases S with
      | nil => exact absurd k3 (by decide)
      | cons b S =>
        cases S with
        | nil => exact absurd k3 (Nat.lt_irrefl 1)
        | cons a S =>
          have hl : (b :: a :: S).length = S.length + 2 := rfl
          rw [hl] at hS k4 ⊢
          obtain ⟨f', e1, e2, e3⟩ := rl_join (c := c) R FS (by omega) k1 k2
          refine wp_rIe e1 ?_
          simp (disch := omega) only [wI_I, wI_s, nI_add, pk_mul, nI_ltI, nI_leI, nI_eq, nI_clamp, nm_or, nm_and, nm_xor, nm_nd, nm_one, nm_shr, nm_b2, Bool.false_eq_true, Bool.true_eq_false, not_false_eq_true, not_true_eq_false, reduceCtorEq]
          rw [dv, if_neg (by omega)]
          have ex : xop (2 ^ lv) A c (b :: a :: S) = jnG (c - 20) (2 ^ lv) a b :: S := by
            unfold xop; rw [if_neg (by omega), if_neg (by omega), if_neg (by omega), if_neg (by omega)]
          rw [ex]
          exact nx f' A (jnG (c - 20) (2 ^ lv) a b :: S) (fun a ha => e3 a (by omega) (by omega)) (fun k hk => ⟨⟨by rw [e3 _ (by omega) (by omega)]; exact (FA k hk).1.1, fun r hr => by rw [e3 _ (by omega) (by omega)]; exact (FA k hk).1.2 r hr⟩, (FA k hk).2⟩) e2 (by show S.length + 1 ≤ 16; omega) k4
    · refine wp_bf (by omega) (wp_isC r1 ?_)
      cases S with
      | nil => exact absurd k3 (by decide)
      | cons g S =>
        have e1 := rl_named (k := c - 30) R FS (Nat.lt_of_succ_le hS) (by omega)
        rw [show 30 + (c - 30) = c by omega] at e1
        refine wp_rIe e1 ?_
        simp (disch := omega) only [wI_I, wI_s, nI_add, pk_mul, nI_ltI, nI_leI, nI_eq, nI_clamp, nm_or, nm_and, nm_xor, nm_nd, nm_one, nm_shr, nm_b2, Bool.false_eq_true, Bool.true_eq_false, not_false_eq_true, not_true_eq_false, reduceCtorEq]
        rw [dv, if_pos k1]
        refine nx _ (fun k => if k = c - 30 then g else A k) S (Fr.gw (by omega) (by omega)) ?_ (SF_fr (fun a h1 h2 => gw_o (by omega) (by omega)) FS.2.2) (by have : (g :: S).length = S.length + 1 := rfl; omega) k4
        intro k hk
        by_cases q1 : k = c - 30
        · subst q1; rw [if_pos rfl]; exact ⟨gw_f, FS.2.1⟩
        · rw [if_neg q1]; exact ⟨gw_F (by omega) (FA k hk).1, (FA k hk).2⟩
