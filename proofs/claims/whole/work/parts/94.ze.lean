/-! What the kernel has checked, in one. -/
theorem nth_mem {α : Type} : ∀ (l : List α) (i : Nat) (a : α), nth l i = some a → a ∈ l
  | [], _, _, h => by cases h
  | x :: l, 0, a, h => by cases h; exact List.mem_cons_self
  | x :: l, i + 1, a, h => List.mem_cons_of_mem _ (nth_mem l i a h)
theorem nth_lt {α : Type} : ∀ (l : List α) (i : Nat) (a : α), nth l i = some a → i < l.length
  | [], _, _, h => by cases h
  | x :: l, 0, a, h => by simp
  | x :: l, i + 1, a, h => by have := nth_lt l i a h; simp; omega
theorem okC_of {t : Mth} : ∀ (c : List Ent) (i : Nat), (∀ j e, nth c j = some e → okE t (i + j) e = true) → okC t i c = true
  | [], i, _ => rfl
  | a :: c, i, h => by
    unfold okC
    rw [Bool.and_eq_true]
    refine ⟨h 0 a rfl, okC_of c (i + 1) fun j e hj => ?_⟩
    have := h (j + 1) e hj
    rw [show i + 1 + j = i + (j + 1) by omega]
    exact this
theorem law_len : (match Pg 345 with
    | some t => decide (t.code.length ≤ 1400)
    | none => true) = true := by decide +kernel
theorem law_two : (match Pg 345 with
    | some t => decide (t.2.2.2.2.1 + t.2.2.2.2.2.1 * 8 ≤ 400) && decide (1 ≤ t.2.2.2.2.1)
    | none => true) = true := by decide +kernel
theorem ok_law : okM 345 = true := by
  have hl := law_len
  have h2 := law_two
  have l0 := okl_0
  have l1 := okl_1
  have l2 := okl_2
  have l3 := okl_3
  have l4 := okl_4
  have l5 := okl_5
  have l6 := okl_6
  have l7 := okl_7
  have l8 := okl_8
  have l9 := okl_9
  have l10 := okl_10
  have l11 := okl_11
  have l12 := okl_12
  have l13 := okl_13
  unfold okR at l0 l1 l2 l3 l4 l5 l6 l7 l8 l9 l10 l11 l12 l13
  unfold okM
  generalize Pg 345 = P at *
  cases P with
  | none => rfl
  | some t =>
  have hl := of_decide_eq_true hl
  show (okC t 0 t.code && decide (t.2.2.2.2.1 + t.2.2.2.2.2.1 * 8 ≤ 400) && decide (1 ≤ t.2.2.2.2.1)) = true
  rw [Bool.and_assoc, Bool.and_eq_true]
  refine ⟨?_, h2⟩
  refine okC_of _ 0 fun j e hj => ?_
  rw [Nat.zero_add]
  have hlt := nth_lt _ _ _ hj
  have key : ∀ lo, ((List.range 100).all (fun k => match nth t.code (lo + k) with
      | some e => okE t (lo + k) e
      | none => true)) = true → lo ≤ j → j < lo + 100 → okE t j e = true := by
    intro lo hr h1 h2
    have := List.all_eq_true.mp hr (j - lo) (List.mem_range.mpr (by omega))
    rw [show lo + (j - lo) = j by omega, hj] at this
    exact this
  rcases Nat.lt_or_ge j 0 with hz | hz
  · omega
  rcases Nat.lt_or_ge j 100 with h0 | h0
  · exact key 0 l0 (by omega) (by omega)
  rcases Nat.lt_or_ge j 200 with h1 | h1
  · exact key 100 l1 (by omega) (by omega)
  rcases Nat.lt_or_ge j 300 with h2 | h2
  · exact key 200 l2 (by omega) (by omega)
  rcases Nat.lt_or_ge j 400 with h3 | h3
  · exact key 300 l3 (by omega) (by omega)
  rcases Nat.lt_or_ge j 500 with h4 | h4
  · exact key 400 l4 (by omega) (by omega)
  rcases Nat.lt_or_ge j 600 with h5 | h5
  · exact key 500 l5 (by omega) (by omega)
  rcases Nat.lt_or_ge j 700 with h6 | h6
  · exact key 600 l6 (by omega) (by omega)
  rcases Nat.lt_or_ge j 800 with h7 | h7
  · exact key 700 l7 (by omega) (by omega)
  rcases Nat.lt_or_ge j 900 with h8 | h8
  · exact key 800 l8 (by omega) (by omega)
  rcases Nat.lt_or_ge j 1000 with h9 | h9
  · exact key 900 l9 (by omega) (by omega)
  rcases Nat.lt_or_ge j 1100 with h10 | h10
  · exact key 1000 l10 (by omega) (by omega)
  rcases Nat.lt_or_ge j 1200 with h11 | h11
  · exact key 1100 l11 (by omega) (by omega)
  rcases Nat.lt_or_ge j 1300 with h12 | h12
  · exact key 1200 l12 (by omega) (by omega)
  exact key 1300 l13 (by omega) (by omega)
theorem Pg_chunk {M : Nat} {t : Mth} (h : Pg M = some t) : (0 ≤ M ∧ nth pgl_0 (M - 0) = some t) ∨ (24 ≤ M ∧ nth pgl_1 (M - 24) = some t) ∨ (48 ≤ M ∧ nth pgl_2 (M - 48) = some t) ∨ (72 ≤ M ∧ nth pgl_3 (M - 72) = some t) ∨ (96 ≤ M ∧ nth pgl_4 (M - 96) = some t) ∨ (120 ≤ M ∧ nth pgl_5 (M - 120) = some t) ∨ (144 ≤ M ∧ nth pgl_6 (M - 144) = some t) ∨ (168 ≤ M ∧ nth pgl_7 (M - 168) = some t) ∨ (192 ≤ M ∧ nth pgl_8 (M - 192) = some t) ∨ (216 ≤ M ∧ nth pgl_9 (M - 216) = some t) ∨ (240 ≤ M ∧ nth pgl_10 (M - 240) = some t) ∨ (264 ≤ M ∧ nth pgl_11 (M - 264) = some t) ∨ (288 ≤ M ∧ nth pgl_12 (M - 288) = some t) ∨ (312 ≤ M ∧ nth pgl_13 (M - 312) = some t) ∨ (336 ≤ M ∧ nth pgl_14 (M - 336) = some t) := by
  unfold Pg at h
  by_cases h0 : M < 24
  · rw [if_pos h0] at h
    exact Or.inl ⟨by omega, h⟩
  rw [if_neg h0] at h
  by_cases h1 : M < 48
  · rw [if_pos h1] at h
    exact Or.inr (Or.inl ⟨by omega, h⟩)
  rw [if_neg h1] at h
  by_cases h2 : M < 72
  · rw [if_pos h2] at h
    exact Or.inr (Or.inr (Or.inl ⟨by omega, h⟩))
  rw [if_neg h2] at h
  by_cases h3 : M < 96
  · rw [if_pos h3] at h
    exact Or.inr (Or.inr (Or.inr (Or.inl ⟨by omega, h⟩)))
  rw [if_neg h3] at h
  by_cases h4 : M < 120
  · rw [if_pos h4] at h
    exact Or.inr (Or.inr (Or.inr (Or.inr (Or.inl ⟨by omega, h⟩))))
  rw [if_neg h4] at h
  by_cases h5 : M < 144
  · rw [if_pos h5] at h
    exact Or.inr (Or.inr (Or.inr (Or.inr (Or.inr (Or.inl ⟨by omega, h⟩)))))
  rw [if_neg h5] at h
  by_cases h6 : M < 168
  · rw [if_pos h6] at h
    exact Or.inr (Or.inr (Or.inr (Or.inr (Or.inr (Or.inr (Or.inl ⟨by omega, h⟩))))))
  rw [if_neg h6] at h
  by_cases h7 : M < 192
  · rw [if_pos h7] at h
    exact Or.inr (Or.inr (Or.inr (Or.inr (Or.inr (Or.inr (Or.inr (Or.inl ⟨by omega, h⟩)))))))
  rw [if_neg h7] at h
  by_cases h8 : M < 216
  · rw [if_pos h8] at h
    exact Or.inr (Or.inr (Or.inr (Or.inr (Or.inr (Or.inr (Or.inr (Or.inr (Or.inl ⟨by omega, h⟩))))))))
  rw [if_neg h8] at h
  by_cases h9 : M < 240
  · rw [if_pos h9] at h
    exact Or.inr (Or.inr (Or.inr (Or.inr (Or.inr (Or.inr (Or.inr (Or.inr (Or.inr (Or.inl ⟨by omega, h⟩)))))))))
  rw [if_neg h9] at h
  by_cases h10 : M < 264
  · rw [if_pos h10] at h
    exact Or.inr (Or.inr (Or.inr (Or.inr (Or.inr (Or.inr (Or.inr (Or.inr (Or.inr (Or.inr (Or.inl ⟨by omega, h⟩))))))))))
  rw [if_neg h10] at h
  by_cases h11 : M < 288
  · rw [if_pos h11] at h
    exact Or.inr (Or.inr (Or.inr (Or.inr (Or.inr (Or.inr (Or.inr (Or.inr (Or.inr (Or.inr (Or.inr (Or.inl ⟨by omega, h⟩)))))))))))
  rw [if_neg h11] at h
  by_cases h12 : M < 312
  · rw [if_pos h12] at h
    exact Or.inr (Or.inr (Or.inr (Or.inr (Or.inr (Or.inr (Or.inr (Or.inr (Or.inr (Or.inr (Or.inr (Or.inr (Or.inl ⟨by omega, h⟩))))))))))))
  rw [if_neg h12] at h
  by_cases h13 : M < 336
  · rw [if_pos h13] at h
    exact Or.inr (Or.inr (Or.inr (Or.inr (Or.inr (Or.inr (Or.inr (Or.inr (Or.inr (Or.inr (Or.inr (Or.inr (Or.inr (Or.inl ⟨by omega, h⟩)))))))))))))
  rw [if_neg h13] at h
  by_cases h14 : M < 360
  · rw [if_pos h14] at h
    exact Or.inr (Or.inr (Or.inr (Or.inr (Or.inr (Or.inr (Or.inr (Or.inr (Or.inr (Or.inr (Or.inr (Or.inr (Or.inr (Or.inr (⟨by omega, h⟩))))))))))))))
  rw [if_neg h14] at h
  cases h
theorem Pg_lt {M : Nat} {t : Mth} (h : Pg M = some t) : M < 346 := by
  rcases Pg_chunk h with ⟨h1, h2⟩ | ⟨h1, h2⟩ | ⟨h1, h2⟩ | ⟨h1, h2⟩ | ⟨h1, h2⟩ | ⟨h1, h2⟩ | ⟨h1, h2⟩ | ⟨h1, h2⟩ | ⟨h1, h2⟩ | ⟨h1, h2⟩ | ⟨h1, h2⟩ | ⟨h1, h2⟩ | ⟨h1, h2⟩ | ⟨h1, h2⟩ | ⟨h1, h2⟩
  · have := nth_lt _ _ _ h2
    have hl : pgl_0.length = 24 := rfl
    omega
  · have := nth_lt _ _ _ h2
    have hl : pgl_1.length = 24 := rfl
    omega
  · have := nth_lt _ _ _ h2
    have hl : pgl_2.length = 24 := rfl
    omega
  · have := nth_lt _ _ _ h2
    have hl : pgl_3.length = 24 := rfl
    omega
  · have := nth_lt _ _ _ h2
    have hl : pgl_4.length = 24 := rfl
    omega
  · have := nth_lt _ _ _ h2
    have hl : pgl_5.length = 24 := rfl
    omega
  · have := nth_lt _ _ _ h2
    have hl : pgl_6.length = 24 := rfl
    omega
  · have := nth_lt _ _ _ h2
    have hl : pgl_7.length = 24 := rfl
    omega
  · have := nth_lt _ _ _ h2
    have hl : pgl_8.length = 24 := rfl
    omega
  · have := nth_lt _ _ _ h2
    have hl : pgl_9.length = 24 := rfl
    omega
  · have := nth_lt _ _ _ h2
    have hl : pgl_10.length = 24 := rfl
    omega
  · have := nth_lt _ _ _ h2
    have hl : pgl_11.length = 24 := rfl
    omega
  · have := nth_lt _ _ _ h2
    have hl : pgl_12.length = 24 := rfl
    omega
  · have := nth_lt _ _ _ h2
    have hl : pgl_13.length = 24 := rfl
    omega
  · have := nth_lt _ _ _ h2
    have hl : pgl_14.length = 10 := rfl
    omega
theorem by_0 : ∀ t ∈ pgl_0, t.2.2.2.2.2.2.1 ≠ [] → t.2.1 = bwOf t := List.forall_mem_cons.mpr ⟨(fun _ => rfl), List.forall_mem_cons.mpr ⟨(fun _ => rfl), List.forall_mem_cons.mpr ⟨(fun _ => rfl), List.forall_mem_cons.mpr ⟨(fun _ => rfl), List.forall_mem_cons.mpr ⟨(fun _ => rfl), List.forall_mem_cons.mpr ⟨(fun _ => rfl), List.forall_mem_cons.mpr ⟨(fun _ => rfl), List.forall_mem_cons.mpr ⟨(fun _ => rfl), List.forall_mem_cons.mpr ⟨(fun _ => rfl), List.forall_mem_cons.mpr ⟨(fun _ => rfl), List.forall_mem_cons.mpr ⟨(fun _ => rfl), List.forall_mem_cons.mpr ⟨(fun _ => rfl), List.forall_mem_cons.mpr ⟨(fun _ => rfl), List.forall_mem_cons.mpr ⟨(fun _ => rfl), List.forall_mem_cons.mpr ⟨(fun _ => rfl), List.forall_mem_cons.mpr ⟨(fun _ => rfl), List.forall_mem_cons.mpr ⟨(fun _ => rfl), List.forall_mem_cons.mpr ⟨(fun _ => rfl), List.forall_mem_cons.mpr ⟨(fun _ => rfl), List.forall_mem_cons.mpr ⟨(fun _ => rfl), List.forall_mem_cons.mpr ⟨(fun _ => rfl), List.forall_mem_cons.mpr ⟨(fun _ => rfl), List.forall_mem_cons.mpr ⟨(fun _ => rfl), List.forall_mem_cons.mpr ⟨(fun _ => rfl), fun _ h => absurd h List.not_mem_nil⟩⟩⟩⟩⟩⟩⟩⟩⟩⟩⟩⟩⟩⟩⟩⟩⟩⟩⟩⟩⟩⟩⟩⟩
theorem by_1 : ∀ t ∈ pgl_1, t.2.2.2.2.2.2.1 ≠ [] → t.2.1 = bwOf t := List.forall_mem_cons.mpr ⟨(fun _ => rfl), List.forall_mem_cons.mpr ⟨(fun _ => rfl), List.forall_mem_cons.mpr ⟨(fun _ => rfl), List.forall_mem_cons.mpr ⟨(fun _ => rfl), List.forall_mem_cons.mpr ⟨(fun _ => rfl), List.forall_mem_cons.mpr ⟨(fun _ => rfl), List.forall_mem_cons.mpr ⟨(fun _ => rfl), List.forall_mem_cons.mpr ⟨(fun _ => rfl), List.forall_mem_cons.mpr ⟨(fun _ => rfl), List.forall_mem_cons.mpr ⟨(fun _ => rfl), List.forall_mem_cons.mpr ⟨(fun _ => rfl), List.forall_mem_cons.mpr ⟨(fun _ => rfl), List.forall_mem_cons.mpr ⟨(fun _ => rfl), List.forall_mem_cons.mpr ⟨(fun _ => rfl), List.forall_mem_cons.mpr ⟨(fun _ => rfl), List.forall_mem_cons.mpr ⟨(fun _ => rfl), List.forall_mem_cons.mpr ⟨(fun _ => rfl), List.forall_mem_cons.mpr ⟨(fun _ => rfl), List.forall_mem_cons.mpr ⟨(fun _ => rfl), List.forall_mem_cons.mpr ⟨(fun _ => rfl), List.forall_mem_cons.mpr ⟨(fun _ => rfl), List.forall_mem_cons.mpr ⟨(fun _ => rfl), List.forall_mem_cons.mpr ⟨(fun _ => rfl), List.forall_mem_cons.mpr ⟨(fun _ => rfl), fun _ h => absurd h List.not_mem_nil⟩⟩⟩⟩⟩⟩⟩⟩⟩⟩⟩⟩⟩⟩⟩⟩⟩⟩⟩⟩⟩⟩⟩⟩
theorem by_2 : ∀ t ∈ pgl_2, t.2.2.2.2.2.2.1 ≠ [] → t.2.1 = bwOf t := List.forall_mem_cons.mpr ⟨(fun _ => rfl), List.forall_mem_cons.mpr ⟨(fun _ => rfl), List.forall_mem_cons.mpr ⟨(fun _ => rfl), List.forall_mem_cons.mpr ⟨(fun _ => rfl), List.forall_mem_cons.mpr ⟨(fun _ => rfl), List.forall_mem_cons.mpr ⟨(fun _ => rfl), List.forall_mem_cons.mpr ⟨(fun _ => rfl), List.forall_mem_cons.mpr ⟨(fun _ => rfl), List.forall_mem_cons.mpr ⟨(fun _ => rfl), List.forall_mem_cons.mpr ⟨(fun _ => rfl), List.forall_mem_cons.mpr ⟨(fun _ => rfl), List.forall_mem_cons.mpr ⟨(fun _ => rfl), List.forall_mem_cons.mpr ⟨(fun _ => rfl), List.forall_mem_cons.mpr ⟨(fun _ => rfl), List.forall_mem_cons.mpr ⟨(fun _ => rfl), List.forall_mem_cons.mpr ⟨(fun _ => rfl), List.forall_mem_cons.mpr ⟨(fun _ => rfl), List.forall_mem_cons.mpr ⟨(fun _ => rfl), List.forall_mem_cons.mpr ⟨(fun _ => rfl), List.forall_mem_cons.mpr ⟨(fun _ => rfl), List.forall_mem_cons.mpr ⟨(fun _ => rfl), List.forall_mem_cons.mpr ⟨(fun _ => rfl), List.forall_mem_cons.mpr ⟨(fun _ => rfl), List.forall_mem_cons.mpr ⟨(fun _ => rfl), fun _ h => absurd h List.not_mem_nil⟩⟩⟩⟩⟩⟩⟩⟩⟩⟩⟩⟩⟩⟩⟩⟩⟩⟩⟩⟩⟩⟩⟩⟩
theorem by_3 : ∀ t ∈ pgl_3, t.2.2.2.2.2.2.1 ≠ [] → t.2.1 = bwOf t := List.forall_mem_cons.mpr ⟨(fun _ => rfl), List.forall_mem_cons.mpr ⟨(fun _ => rfl), List.forall_mem_cons.mpr ⟨(fun _ => rfl), List.forall_mem_cons.mpr ⟨(fun _ => rfl), List.forall_mem_cons.mpr ⟨(fun _ => rfl), List.forall_mem_cons.mpr ⟨(fun _ => rfl), List.forall_mem_cons.mpr ⟨(fun _ => rfl), List.forall_mem_cons.mpr ⟨(fun _ => rfl), List.forall_mem_cons.mpr ⟨(fun _ => rfl), List.forall_mem_cons.mpr ⟨(fun _ => rfl), List.forall_mem_cons.mpr ⟨(fun _ => rfl), List.forall_mem_cons.mpr ⟨(fun _ => rfl), List.forall_mem_cons.mpr ⟨(fun _ => rfl), List.forall_mem_cons.mpr ⟨(fun _ => rfl), List.forall_mem_cons.mpr ⟨(fun _ => rfl), List.forall_mem_cons.mpr ⟨(fun _ => rfl), List.forall_mem_cons.mpr ⟨(fun _ => rfl), List.forall_mem_cons.mpr ⟨(fun _ => rfl), List.forall_mem_cons.mpr ⟨(fun _ => rfl), List.forall_mem_cons.mpr ⟨(fun _ => rfl), List.forall_mem_cons.mpr ⟨(fun _ => rfl), List.forall_mem_cons.mpr ⟨(fun _ => rfl), List.forall_mem_cons.mpr ⟨(fun _ => rfl), List.forall_mem_cons.mpr ⟨(fun _ => rfl), fun _ h => absurd h List.not_mem_nil⟩⟩⟩⟩⟩⟩⟩⟩⟩⟩⟩⟩⟩⟩⟩⟩⟩⟩⟩⟩⟩⟩⟩⟩
theorem by_4 : ∀ t ∈ pgl_4, t.2.2.2.2.2.2.1 ≠ [] → t.2.1 = bwOf t := List.forall_mem_cons.mpr ⟨(fun _ => rfl), List.forall_mem_cons.mpr ⟨(fun _ => rfl), List.forall_mem_cons.mpr ⟨(fun _ => rfl), List.forall_mem_cons.mpr ⟨(fun _ => rfl), List.forall_mem_cons.mpr ⟨(fun _ => rfl), List.forall_mem_cons.mpr ⟨(fun _ => rfl), List.forall_mem_cons.mpr ⟨(fun _ => rfl), List.forall_mem_cons.mpr ⟨(fun _ => rfl), List.forall_mem_cons.mpr ⟨(fun _ => rfl), List.forall_mem_cons.mpr ⟨(fun _ => rfl), List.forall_mem_cons.mpr ⟨(fun _ => rfl), List.forall_mem_cons.mpr ⟨(fun _ => rfl), List.forall_mem_cons.mpr ⟨(fun _ => rfl), List.forall_mem_cons.mpr ⟨(fun _ => rfl), List.forall_mem_cons.mpr ⟨(fun _ => rfl), List.forall_mem_cons.mpr ⟨(fun _ => rfl), List.forall_mem_cons.mpr ⟨(fun _ => rfl), List.forall_mem_cons.mpr ⟨(fun _ => rfl), List.forall_mem_cons.mpr ⟨(fun _ => rfl), List.forall_mem_cons.mpr ⟨(fun _ => rfl), List.forall_mem_cons.mpr ⟨(fun _ => rfl), List.forall_mem_cons.mpr ⟨(fun _ => rfl), List.forall_mem_cons.mpr ⟨(fun _ => rfl), List.forall_mem_cons.mpr ⟨(fun _ => rfl), fun _ h => absurd h List.not_mem_nil⟩⟩⟩⟩⟩⟩⟩⟩⟩⟩⟩⟩⟩⟩⟩⟩⟩⟩⟩⟩⟩⟩⟩⟩
theorem by_5 : ∀ t ∈ pgl_5, t.2.2.2.2.2.2.1 ≠ [] → t.2.1 = bwOf t := List.forall_mem_cons.mpr ⟨(fun _ => rfl), List.forall_mem_cons.mpr ⟨(fun _ => rfl), List.forall_mem_cons.mpr ⟨(fun _ => rfl), List.forall_mem_cons.mpr ⟨(fun _ => rfl), List.forall_mem_cons.mpr ⟨(fun _ => rfl), List.forall_mem_cons.mpr ⟨(fun _ => rfl), List.forall_mem_cons.mpr ⟨(fun _ => rfl), List.forall_mem_cons.mpr ⟨(fun _ => rfl), List.forall_mem_cons.mpr ⟨(fun _ => rfl), List.forall_mem_cons.mpr ⟨(fun _ => rfl), List.forall_mem_cons.mpr ⟨(fun _ => rfl), List.forall_mem_cons.mpr ⟨(fun _ => rfl), List.forall_mem_cons.mpr ⟨(fun _ => rfl), List.forall_mem_cons.mpr ⟨(fun _ => rfl), List.forall_mem_cons.mpr ⟨(fun _ => rfl), List.forall_mem_cons.mpr ⟨(fun _ => rfl), List.forall_mem_cons.mpr ⟨(fun _ => rfl), List.forall_mem_cons.mpr ⟨(fun _ => rfl), List.forall_mem_cons.mpr ⟨(fun _ => rfl), List.forall_mem_cons.mpr ⟨(fun _ => rfl), List.forall_mem_cons.mpr ⟨(fun _ => rfl), List.forall_mem_cons.mpr ⟨(fun _ => rfl), List.forall_mem_cons.mpr ⟨(fun _ => rfl), List.forall_mem_cons.mpr ⟨(fun _ => rfl), fun _ h => absurd h List.not_mem_nil⟩⟩⟩⟩⟩⟩⟩⟩⟩⟩⟩⟩⟩⟩⟩⟩⟩⟩⟩⟩⟩⟩⟩⟩
theorem by_6 : ∀ t ∈ pgl_6, t.2.2.2.2.2.2.1 ≠ [] → t.2.1 = bwOf t := List.forall_mem_cons.mpr ⟨(fun _ => rfl), List.forall_mem_cons.mpr ⟨(fun _ => rfl), List.forall_mem_cons.mpr ⟨(fun _ => rfl), List.forall_mem_cons.mpr ⟨(fun _ => rfl), List.forall_mem_cons.mpr ⟨(fun _ => rfl), List.forall_mem_cons.mpr ⟨(fun _ => rfl), List.forall_mem_cons.mpr ⟨(fun _ => rfl), List.forall_mem_cons.mpr ⟨(fun _ => rfl), List.forall_mem_cons.mpr ⟨(fun _ => rfl), List.forall_mem_cons.mpr ⟨(fun _ => rfl), List.forall_mem_cons.mpr ⟨(fun _ => rfl), List.forall_mem_cons.mpr ⟨(fun _ => rfl), List.forall_mem_cons.mpr ⟨(fun _ => rfl), List.forall_mem_cons.mpr ⟨(fun _ => rfl), List.forall_mem_cons.mpr ⟨(fun _ => rfl), List.forall_mem_cons.mpr ⟨(fun _ => rfl), List.forall_mem_cons.mpr ⟨(fun _ => rfl), List.forall_mem_cons.mpr ⟨(fun _ => rfl), List.forall_mem_cons.mpr ⟨(fun _ => rfl), List.forall_mem_cons.mpr ⟨(fun _ => rfl), List.forall_mem_cons.mpr ⟨(fun _ => rfl), List.forall_mem_cons.mpr ⟨(fun _ => rfl), List.forall_mem_cons.mpr ⟨(fun _ => rfl), List.forall_mem_cons.mpr ⟨(fun _ => rfl), fun _ h => absurd h List.not_mem_nil⟩⟩⟩⟩⟩⟩⟩⟩⟩⟩⟩⟩⟩⟩⟩⟩⟩⟩⟩⟩⟩⟩⟩⟩
theorem by_7 : ∀ t ∈ pgl_7, t.2.2.2.2.2.2.1 ≠ [] → t.2.1 = bwOf t := List.forall_mem_cons.mpr ⟨(fun _ => rfl), List.forall_mem_cons.mpr ⟨(fun _ => rfl), List.forall_mem_cons.mpr ⟨(fun _ => rfl), List.forall_mem_cons.mpr ⟨(fun _ => rfl), List.forall_mem_cons.mpr ⟨(fun _ => rfl), List.forall_mem_cons.mpr ⟨(fun _ => rfl), List.forall_mem_cons.mpr ⟨(fun _ => rfl), List.forall_mem_cons.mpr ⟨(fun _ => rfl), List.forall_mem_cons.mpr ⟨(fun _ => rfl), List.forall_mem_cons.mpr ⟨(fun _ => rfl), List.forall_mem_cons.mpr ⟨(fun _ => rfl), List.forall_mem_cons.mpr ⟨(fun _ => rfl), List.forall_mem_cons.mpr ⟨(fun _ => rfl), List.forall_mem_cons.mpr ⟨(fun _ => rfl), List.forall_mem_cons.mpr ⟨(fun _ => rfl), List.forall_mem_cons.mpr ⟨(fun _ => rfl), List.forall_mem_cons.mpr ⟨(fun _ => rfl), List.forall_mem_cons.mpr ⟨(fun _ => rfl), List.forall_mem_cons.mpr ⟨(fun _ => rfl), List.forall_mem_cons.mpr ⟨(fun _ => rfl), List.forall_mem_cons.mpr ⟨(fun _ => rfl), List.forall_mem_cons.mpr ⟨(fun _ => rfl), List.forall_mem_cons.mpr ⟨(fun _ => rfl), List.forall_mem_cons.mpr ⟨(fun _ => rfl), fun _ h => absurd h List.not_mem_nil⟩⟩⟩⟩⟩⟩⟩⟩⟩⟩⟩⟩⟩⟩⟩⟩⟩⟩⟩⟩⟩⟩⟩⟩
theorem by_8 : ∀ t ∈ pgl_8, t.2.2.2.2.2.2.1 ≠ [] → t.2.1 = bwOf t := List.forall_mem_cons.mpr ⟨(fun _ => rfl), List.forall_mem_cons.mpr ⟨(fun _ => rfl), List.forall_mem_cons.mpr ⟨(fun _ => rfl), List.forall_mem_cons.mpr ⟨(fun _ => rfl), List.forall_mem_cons.mpr ⟨(fun _ => rfl), List.forall_mem_cons.mpr ⟨(fun _ => rfl), List.forall_mem_cons.mpr ⟨(fun _ => rfl), List.forall_mem_cons.mpr ⟨(fun _ => rfl), List.forall_mem_cons.mpr ⟨(fun _ => rfl), List.forall_mem_cons.mpr ⟨(fun _ => rfl), List.forall_mem_cons.mpr ⟨(fun _ => rfl), List.forall_mem_cons.mpr ⟨(fun _ => rfl), List.forall_mem_cons.mpr ⟨(fun _ => rfl), List.forall_mem_cons.mpr ⟨(fun _ => rfl), List.forall_mem_cons.mpr ⟨(fun _ => rfl), List.forall_mem_cons.mpr ⟨(fun _ => rfl), List.forall_mem_cons.mpr ⟨(fun _ => rfl), List.forall_mem_cons.mpr ⟨(fun _ => rfl), List.forall_mem_cons.mpr ⟨(fun _ => rfl), List.forall_mem_cons.mpr ⟨(fun _ => rfl), List.forall_mem_cons.mpr ⟨(fun _ => rfl), List.forall_mem_cons.mpr ⟨(fun _ => rfl), List.forall_mem_cons.mpr ⟨(fun _ => rfl), List.forall_mem_cons.mpr ⟨(fun _ => rfl), fun _ h => absurd h List.not_mem_nil⟩⟩⟩⟩⟩⟩⟩⟩⟩⟩⟩⟩⟩⟩⟩⟩⟩⟩⟩⟩⟩⟩⟩⟩
theorem by_9 : ∀ t ∈ pgl_9, t.2.2.2.2.2.2.1 ≠ [] → t.2.1 = bwOf t := List.forall_mem_cons.mpr ⟨(fun _ => rfl), List.forall_mem_cons.mpr ⟨(fun _ => rfl), List.forall_mem_cons.mpr ⟨(fun _ => rfl), List.forall_mem_cons.mpr ⟨(fun _ => rfl), List.forall_mem_cons.mpr ⟨(fun _ => rfl), List.forall_mem_cons.mpr ⟨(fun _ => rfl), List.forall_mem_cons.mpr ⟨(fun _ => rfl), List.forall_mem_cons.mpr ⟨(fun _ => rfl), List.forall_mem_cons.mpr ⟨(fun _ => rfl), List.forall_mem_cons.mpr ⟨(fun _ => rfl), List.forall_mem_cons.mpr ⟨(fun _ => rfl), List.forall_mem_cons.mpr ⟨(fun _ => rfl), List.forall_mem_cons.mpr ⟨(fun _ => rfl), List.forall_mem_cons.mpr ⟨(fun _ => rfl), List.forall_mem_cons.mpr ⟨(fun _ => rfl), List.forall_mem_cons.mpr ⟨(fun _ => rfl), List.forall_mem_cons.mpr ⟨(fun _ => rfl), List.forall_mem_cons.mpr ⟨(fun _ => rfl), List.forall_mem_cons.mpr ⟨(fun _ => rfl), List.forall_mem_cons.mpr ⟨(fun _ => rfl), List.forall_mem_cons.mpr ⟨(fun _ => rfl), List.forall_mem_cons.mpr ⟨(fun _ => rfl), List.forall_mem_cons.mpr ⟨(fun _ => rfl), List.forall_mem_cons.mpr ⟨(fun _ => rfl), fun _ h => absurd h List.not_mem_nil⟩⟩⟩⟩⟩⟩⟩⟩⟩⟩⟩⟩⟩⟩⟩⟩⟩⟩⟩⟩⟩⟩⟩⟩
theorem by_10 : ∀ t ∈ pgl_10, t.2.2.2.2.2.2.1 ≠ [] → t.2.1 = bwOf t := List.forall_mem_cons.mpr ⟨(fun _ => rfl), List.forall_mem_cons.mpr ⟨(fun _ => rfl), List.forall_mem_cons.mpr ⟨(fun _ => rfl), List.forall_mem_cons.mpr ⟨(fun _ => rfl), List.forall_mem_cons.mpr ⟨(fun _ => rfl), List.forall_mem_cons.mpr ⟨(fun _ => rfl), List.forall_mem_cons.mpr ⟨(fun _ => rfl), List.forall_mem_cons.mpr ⟨(fun _ => rfl), List.forall_mem_cons.mpr ⟨(fun _ => rfl), List.forall_mem_cons.mpr ⟨(fun _ => rfl), List.forall_mem_cons.mpr ⟨(fun _ => rfl), List.forall_mem_cons.mpr ⟨(fun _ => rfl), List.forall_mem_cons.mpr ⟨(fun _ => rfl), List.forall_mem_cons.mpr ⟨(fun _ => rfl), List.forall_mem_cons.mpr ⟨(fun _ => rfl), List.forall_mem_cons.mpr ⟨(fun _ => rfl), List.forall_mem_cons.mpr ⟨(fun _ => rfl), List.forall_mem_cons.mpr ⟨(fun _ => rfl), List.forall_mem_cons.mpr ⟨(fun _ => rfl), List.forall_mem_cons.mpr ⟨(fun _ => rfl), List.forall_mem_cons.mpr ⟨(fun _ => rfl), List.forall_mem_cons.mpr ⟨(fun _ => rfl), List.forall_mem_cons.mpr ⟨(fun _ => rfl), List.forall_mem_cons.mpr ⟨(fun _ => rfl), fun _ h => absurd h List.not_mem_nil⟩⟩⟩⟩⟩⟩⟩⟩⟩⟩⟩⟩⟩⟩⟩⟩⟩⟩⟩⟩⟩⟩⟩⟩
theorem by_11 : ∀ t ∈ pgl_11, t.2.2.2.2.2.2.1 ≠ [] → t.2.1 = bwOf t := List.forall_mem_cons.mpr ⟨(fun _ => rfl), List.forall_mem_cons.mpr ⟨(fun _ => rfl), List.forall_mem_cons.mpr ⟨(fun _ => rfl), List.forall_mem_cons.mpr ⟨(fun _ => rfl), List.forall_mem_cons.mpr ⟨(fun _ => rfl), List.forall_mem_cons.mpr ⟨(fun _ => rfl), List.forall_mem_cons.mpr ⟨(fun _ => rfl), List.forall_mem_cons.mpr ⟨(fun _ => rfl), List.forall_mem_cons.mpr ⟨(fun _ => rfl), List.forall_mem_cons.mpr ⟨(fun _ => rfl), List.forall_mem_cons.mpr ⟨(fun _ => rfl), List.forall_mem_cons.mpr ⟨(fun _ => rfl), List.forall_mem_cons.mpr ⟨(fun _ => rfl), List.forall_mem_cons.mpr ⟨(fun _ => rfl), List.forall_mem_cons.mpr ⟨(fun _ => rfl), List.forall_mem_cons.mpr ⟨(fun _ => rfl), List.forall_mem_cons.mpr ⟨(fun _ => rfl), List.forall_mem_cons.mpr ⟨(fun _ => rfl), List.forall_mem_cons.mpr ⟨(fun _ => rfl), List.forall_mem_cons.mpr ⟨(fun _ => rfl), List.forall_mem_cons.mpr ⟨(fun _ => rfl), List.forall_mem_cons.mpr ⟨(fun _ => rfl), List.forall_mem_cons.mpr ⟨(fun _ => rfl), List.forall_mem_cons.mpr ⟨(fun _ => rfl), fun _ h => absurd h List.not_mem_nil⟩⟩⟩⟩⟩⟩⟩⟩⟩⟩⟩⟩⟩⟩⟩⟩⟩⟩⟩⟩⟩⟩⟩⟩
theorem by_12 : ∀ t ∈ pgl_12, t.2.2.2.2.2.2.1 ≠ [] → t.2.1 = bwOf t := List.forall_mem_cons.mpr ⟨(fun _ => rfl), List.forall_mem_cons.mpr ⟨(fun _ => rfl), List.forall_mem_cons.mpr ⟨(fun _ => rfl), List.forall_mem_cons.mpr ⟨(fun _ => rfl), List.forall_mem_cons.mpr ⟨(fun _ => rfl), List.forall_mem_cons.mpr ⟨(fun _ => rfl), List.forall_mem_cons.mpr ⟨(fun _ => rfl), List.forall_mem_cons.mpr ⟨(fun _ => rfl), List.forall_mem_cons.mpr ⟨(fun _ => rfl), List.forall_mem_cons.mpr ⟨(fun _ => rfl), List.forall_mem_cons.mpr ⟨(fun _ => rfl), List.forall_mem_cons.mpr ⟨(fun _ => rfl), List.forall_mem_cons.mpr ⟨(fun _ => rfl), List.forall_mem_cons.mpr ⟨(fun _ => rfl), List.forall_mem_cons.mpr ⟨(fun _ => rfl), List.forall_mem_cons.mpr ⟨(fun _ => rfl), List.forall_mem_cons.mpr ⟨(fun _ => rfl), List.forall_mem_cons.mpr ⟨(fun _ => rfl), List.forall_mem_cons.mpr ⟨(fun _ => rfl), List.forall_mem_cons.mpr ⟨(fun _ => rfl), List.forall_mem_cons.mpr ⟨(fun _ => rfl), List.forall_mem_cons.mpr ⟨(fun _ => rfl), List.forall_mem_cons.mpr ⟨(fun _ => rfl), List.forall_mem_cons.mpr ⟨(fun _ => rfl), fun _ h => absurd h List.not_mem_nil⟩⟩⟩⟩⟩⟩⟩⟩⟩⟩⟩⟩⟩⟩⟩⟩⟩⟩⟩⟩⟩⟩⟩⟩
theorem by_13 : ∀ t ∈ pgl_13, t.2.2.2.2.2.2.1 ≠ [] → t.2.1 = bwOf t := List.forall_mem_cons.mpr ⟨(fun _ => rfl), List.forall_mem_cons.mpr ⟨(fun _ => rfl), List.forall_mem_cons.mpr ⟨(fun _ => rfl), List.forall_mem_cons.mpr ⟨(fun _ => rfl), List.forall_mem_cons.mpr ⟨(fun _ => rfl), List.forall_mem_cons.mpr ⟨(fun _ => rfl), List.forall_mem_cons.mpr ⟨(fun _ => rfl), List.forall_mem_cons.mpr ⟨(fun _ => rfl), List.forall_mem_cons.mpr ⟨(fun _ => rfl), List.forall_mem_cons.mpr ⟨(fun _ => rfl), List.forall_mem_cons.mpr ⟨(fun _ => rfl), List.forall_mem_cons.mpr ⟨(fun _ => rfl), List.forall_mem_cons.mpr ⟨(fun _ => rfl), List.forall_mem_cons.mpr ⟨(fun _ => rfl), List.forall_mem_cons.mpr ⟨(fun _ => rfl), List.forall_mem_cons.mpr ⟨(fun _ => rfl), List.forall_mem_cons.mpr ⟨(fun _ => rfl), List.forall_mem_cons.mpr ⟨(fun _ => rfl), List.forall_mem_cons.mpr ⟨(fun _ => rfl), List.forall_mem_cons.mpr ⟨(fun _ => rfl), List.forall_mem_cons.mpr ⟨(fun _ => rfl), List.forall_mem_cons.mpr ⟨(fun _ => rfl), List.forall_mem_cons.mpr ⟨(fun _ => rfl), List.forall_mem_cons.mpr ⟨(fun _ => rfl), fun _ h => absurd h List.not_mem_nil⟩⟩⟩⟩⟩⟩⟩⟩⟩⟩⟩⟩⟩⟩⟩⟩⟩⟩⟩⟩⟩⟩⟩⟩
theorem by_14 : ∀ t ∈ pgl_14, t.2.2.2.2.2.2.1 ≠ [] → t.2.1 = bwOf t := List.forall_mem_cons.mpr ⟨(fun _ => rfl), List.forall_mem_cons.mpr ⟨(fun _ => rfl), List.forall_mem_cons.mpr ⟨(fun _ => rfl), List.forall_mem_cons.mpr ⟨(fun _ => rfl), List.forall_mem_cons.mpr ⟨(fun _ => rfl), List.forall_mem_cons.mpr ⟨(fun _ => rfl), List.forall_mem_cons.mpr ⟨(fun _ => rfl), List.forall_mem_cons.mpr ⟨(fun _ => rfl), List.forall_mem_cons.mpr ⟨(fun _ => rfl), List.forall_mem_cons.mpr ⟨(fun h => absurd rfl h), fun _ h => absurd h List.not_mem_nil⟩⟩⟩⟩⟩⟩⟩⟩⟩⟩
theorem by_in {M : Nat} {t : Mth} (h : Pg M = some t) : t.2.2.2.2.2.2.1 ≠ [] → t.2.1 = bwOf t := by
  rcases Pg_chunk h with ⟨h1, h2⟩ | ⟨h1, h2⟩ | ⟨h1, h2⟩ | ⟨h1, h2⟩ | ⟨h1, h2⟩ | ⟨h1, h2⟩ | ⟨h1, h2⟩ | ⟨h1, h2⟩ | ⟨h1, h2⟩ | ⟨h1, h2⟩ | ⟨h1, h2⟩ | ⟨h1, h2⟩ | ⟨h1, h2⟩ | ⟨h1, h2⟩ | ⟨h1, h2⟩
  · exact by_0 t (nth_mem _ _ _ h2)
  · exact by_1 t (nth_mem _ _ _ h2)
  · exact by_2 t (nth_mem _ _ _ h2)
  · exact by_3 t (nth_mem _ _ _ h2)
  · exact by_4 t (nth_mem _ _ _ h2)
  · exact by_5 t (nth_mem _ _ _ h2)
  · exact by_6 t (nth_mem _ _ _ h2)
  · exact by_7 t (nth_mem _ _ _ h2)
  · exact by_8 t (nth_mem _ _ _ h2)
  · exact by_9 t (nth_mem _ _ _ h2)
  · exact by_10 t (nth_mem _ _ _ h2)
  · exact by_11 t (nth_mem _ _ _ h2)
  · exact by_12 t (nth_mem _ _ _ h2)
  · exact by_13 t (nth_mem _ _ _ h2)
  · exact by_14 t (nth_mem _ _ _ h2)
theorem mts : Mts := by
  intro M t hPg hne
  refine ⟨?_, by_in hPg hne⟩
  have hlt := Pg_lt hPg
  have hms : M ≠ 345 → okMs M = true := by
    intro hM
    have key : ∀ c, (List.range 24).all (fun r => decide (24 * c + r = 345) || okMs (24 * c + r)) = true → 24 * c ≤ M → M < 24 * c + 24 → okMs M = true := by
      intro c hc h1 h2
      have := List.all_eq_true.mp hc (M - 24 * c) (List.mem_range.mpr (by omega))
      rw [show 24 * c + (M - 24 * c) = M by omega, Bool.or_eq_true, decide_eq_true_eq] at this
      exact this.resolve_left hM
    rcases Nat.lt_or_ge M 24 with q0 | q0
    · exact key 0 cm_0 (by omega) (by omega)
    rcases Nat.lt_or_ge M 48 with q1 | q1
    · exact key 1 cm_1 (by omega) (by omega)
    rcases Nat.lt_or_ge M 72 with q2 | q2
    · exact key 2 cm_2 (by omega) (by omega)
    rcases Nat.lt_or_ge M 96 with q3 | q3
    · exact key 3 cm_3 (by omega) (by omega)
    rcases Nat.lt_or_ge M 120 with q4 | q4
    · exact key 4 cm_4 (by omega) (by omega)
    rcases Nat.lt_or_ge M 144 with q5 | q5
    · exact key 5 cm_5 (by omega) (by omega)
    rcases Nat.lt_or_ge M 168 with q6 | q6
    · exact key 6 cm_6 (by omega) (by omega)
    rcases Nat.lt_or_ge M 192 with q7 | q7
    · exact key 7 cm_7 (by omega) (by omega)
    rcases Nat.lt_or_ge M 216 with q8 | q8
    · exact key 8 cm_8 (by omega) (by omega)
    rcases Nat.lt_or_ge M 240 with q9 | q9
    · exact key 9 cm_9 (by omega) (by omega)
    rcases Nat.lt_or_ge M 264 with q10 | q10
    · exact key 10 cm_10 (by omega) (by omega)
    rcases Nat.lt_or_ge M 288 with q11 | q11
    · exact key 11 cm_11 (by omega) (by omega)
    rcases Nat.lt_or_ge M 312 with q12 | q12
    · exact key 12 cm_12 (by omega) (by omega)
    rcases Nat.lt_or_ge M 336 with q13 | q13
    · exact key 13 cm_13 (by omega) (by omega)
    rcases Nat.lt_or_ge M 360 with q14 | q14
    · exact key 14 cm_14 (by omega) (by omega)
    omega
  by_cases hM : M = 345
  · subst hM
    exact absurd (show t.2.2.2.2.2.2.1 = [] by
      have : Pg 345 = some t := hPg
      cases this
      rfl) hne
  · have := hms hM
    unfold okMs at this
    rw [hPg] at this
    exact this
theorem okM_all : ∀ M, M < 346 → okM M = true := by
  intro M hM
  match M, hM with
  | 0, _ => exact ok_0
  | 1, _ => exact ok_1
  | 2, _ => exact ok_2
  | 3, _ => exact ok_3
  | 4, _ => exact ok_4
  | 5, _ => exact ok_5
  | 6, _ => exact ok_6
  | 7, _ => exact ok_7
  | 8, _ => exact ok_8
  | 9, _ => exact ok_9
  | 10, _ => exact ok_10
  | 11, _ => exact ok_11
  | 12, _ => exact ok_12
  | 13, _ => exact ok_13
  | 14, _ => exact ok_14
  | 15, _ => exact ok_15
  | 16, _ => exact ok_16
  | 17, _ => exact ok_17
  | 18, _ => exact ok_18
  | 19, _ => exact ok_19
  | 20, _ => exact ok_20
  | 21, _ => exact ok_21
  | 22, _ => exact ok_22
  | 23, _ => exact ok_23
  | 24, _ => exact ok_24
  | 25, _ => exact ok_25
  | 26, _ => exact ok_26
  | 27, _ => exact ok_27
  | 28, _ => exact ok_28
  | 29, _ => exact ok_29
  | 30, _ => exact ok_30
  | 31, _ => exact ok_31
  | 32, _ => exact ok_32
  | 33, _ => exact ok_33
  | 34, _ => exact ok_34
  | 35, _ => exact ok_35
  | 36, _ => exact ok_36
  | 37, _ => exact ok_37
  | 38, _ => exact ok_38
  | 39, _ => exact ok_39
  | 40, _ => exact ok_40
  | 41, _ => exact ok_41
  | 42, _ => exact ok_42
  | 43, _ => exact ok_43
  | 44, _ => exact ok_44
  | 45, _ => exact ok_45
  | 46, _ => exact ok_46
  | 47, _ => exact ok_47
  | 48, _ => exact ok_48
  | 49, _ => exact ok_49
  | 50, _ => exact ok_50
  | 51, _ => exact ok_51
  | 52, _ => exact ok_52
  | 53, _ => exact ok_53
  | 54, _ => exact ok_54
  | 55, _ => exact ok_55
  | 56, _ => exact ok_56
  | 57, _ => exact ok_57
  | 58, _ => exact ok_58
  | 59, _ => exact ok_59
  | 60, _ => exact ok_60
  | 61, _ => exact ok_61
  | 62, _ => exact ok_62
  | 63, _ => exact ok_63
  | 64, _ => exact ok_64
  | 65, _ => exact ok_65
  | 66, _ => exact ok_66
  | 67, _ => exact ok_67
  | 68, _ => exact ok_68
  | 69, _ => exact ok_69
  | 70, _ => exact ok_70
  | 71, _ => exact ok_71
  | 72, _ => exact ok_72
  | 73, _ => exact ok_73
  | 74, _ => exact ok_74
  | 75, _ => exact ok_75
  | 76, _ => exact ok_76
  | 77, _ => exact ok_77
  | 78, _ => exact ok_78
  | 79, _ => exact ok_79
  | 80, _ => exact ok_80
  | 81, _ => exact ok_81
  | 82, _ => exact ok_82
  | 83, _ => exact ok_83
  | 84, _ => exact ok_84
  | 85, _ => exact ok_85
  | 86, _ => exact ok_86
  | 87, _ => exact ok_87
  | 88, _ => exact ok_88
  | 89, _ => exact ok_89
  | 90, _ => exact ok_90
  | 91, _ => exact ok_91
  | 92, _ => exact ok_92
  | 93, _ => exact ok_93
  | 94, _ => exact ok_94
  | 95, _ => exact ok_95
  | 96, _ => exact ok_96
  | 97, _ => exact ok_97
  | 98, _ => exact ok_98
  | 99, _ => exact ok_99
  | 100, _ => exact ok_100
  | 101, _ => exact ok_101
  | 102, _ => exact ok_102
  | 103, _ => exact ok_103
  | 104, _ => exact ok_104
  | 105, _ => exact ok_105
  | 106, _ => exact ok_106
  | 107, _ => exact ok_107
  | 108, _ => exact ok_108
  | 109, _ => exact ok_109
  | 110, _ => exact ok_110
  | 111, _ => exact ok_111
  | 112, _ => exact ok_112
  | 113, _ => exact ok_113
  | 114, _ => exact ok_114
  | 115, _ => exact ok_115
  | 116, _ => exact ok_116
  | 117, _ => exact ok_117
  | 118, _ => exact ok_118
  | 119, _ => exact ok_119
  | 120, _ => exact ok_120
  | 121, _ => exact ok_121
  | 122, _ => exact ok_122
  | 123, _ => exact ok_123
  | 124, _ => exact ok_124
  | 125, _ => exact ok_125
  | 126, _ => exact ok_126
  | 127, _ => exact ok_127
  | 128, _ => exact ok_128
  | 129, _ => exact ok_129
  | 130, _ => exact ok_130
  | 131, _ => exact ok_131
  | 132, _ => exact ok_132
  | 133, _ => exact ok_133
  | 134, _ => exact ok_134
  | 135, _ => exact ok_135
  | 136, _ => exact ok_136
  | 137, _ => exact ok_137
  | 138, _ => exact ok_138
  | 139, _ => exact ok_139
  | 140, _ => exact ok_140
  | 141, _ => exact ok_141
  | 142, _ => exact ok_142
  | 143, _ => exact ok_143
  | 144, _ => exact ok_144
  | 145, _ => exact ok_145
  | 146, _ => exact ok_146
  | 147, _ => exact ok_147
  | 148, _ => exact ok_148
  | 149, _ => exact ok_149
  | 150, _ => exact ok_150
  | 151, _ => exact ok_151
  | 152, _ => exact ok_152
  | 153, _ => exact ok_153
  | 154, _ => exact ok_154
  | 155, _ => exact ok_155
  | 156, _ => exact ok_156
  | 157, _ => exact ok_157
  | 158, _ => exact ok_158
  | 159, _ => exact ok_159
  | 160, _ => exact ok_160
  | 161, _ => exact ok_161
  | 162, _ => exact ok_162
  | 163, _ => exact ok_163
  | 164, _ => exact ok_164
  | 165, _ => exact ok_165
  | 166, _ => exact ok_166
  | 167, _ => exact ok_167
  | 168, _ => exact ok_168
  | 169, _ => exact ok_169
  | 170, _ => exact ok_170
  | 171, _ => exact ok_171
  | 172, _ => exact ok_172
  | 173, _ => exact ok_173
  | 174, _ => exact ok_174
  | 175, _ => exact ok_175
  | 176, _ => exact ok_176
  | 177, _ => exact ok_177
  | 178, _ => exact ok_178
  | 179, _ => exact ok_179
  | 180, _ => exact ok_180
  | 181, _ => exact ok_181
  | 182, _ => exact ok_182
  | 183, _ => exact ok_183
  | 184, _ => exact ok_184
  | 185, _ => exact ok_185
  | 186, _ => exact ok_186
  | 187, _ => exact ok_187
  | 188, _ => exact ok_188
  | 189, _ => exact ok_189
  | 190, _ => exact ok_190
  | 191, _ => exact ok_191
  | 192, _ => exact ok_192
  | 193, _ => exact ok_193
  | 194, _ => exact ok_194
  | 195, _ => exact ok_195
  | 196, _ => exact ok_196
  | 197, _ => exact ok_197
  | 198, _ => exact ok_198
  | 199, _ => exact ok_199
  | 200, _ => exact ok_200
  | 201, _ => exact ok_201
  | 202, _ => exact ok_202
  | 203, _ => exact ok_203
  | 204, _ => exact ok_204
  | 205, _ => exact ok_205
  | 206, _ => exact ok_206
  | 207, _ => exact ok_207
  | 208, _ => exact ok_208
  | 209, _ => exact ok_209
  | 210, _ => exact ok_210
  | 211, _ => exact ok_211
  | 212, _ => exact ok_212
  | 213, _ => exact ok_213
  | 214, _ => exact ok_214
  | 215, _ => exact ok_215
  | 216, _ => exact ok_216
  | 217, _ => exact ok_217
  | 218, _ => exact ok_218
  | 219, _ => exact ok_219
  | 220, _ => exact ok_220
  | 221, _ => exact ok_221
  | 222, _ => exact ok_222
  | 223, _ => exact ok_223
  | 224, _ => exact ok_224
  | 225, _ => exact ok_225
  | 226, _ => exact ok_226
  | 227, _ => exact ok_227
  | 228, _ => exact ok_228
  | 229, _ => exact ok_229
  | 230, _ => exact ok_230
  | 231, _ => exact ok_231
  | 232, _ => exact ok_232
  | 233, _ => exact ok_233
  | 234, _ => exact ok_234
  | 235, _ => exact ok_235
  | 236, _ => exact ok_236
  | 237, _ => exact ok_237
  | 238, _ => exact ok_238
  | 239, _ => exact ok_239
  | 240, _ => exact ok_240
  | 241, _ => exact ok_241
  | 242, _ => exact ok_242
  | 243, _ => exact ok_243
  | 244, _ => exact ok_244
  | 245, _ => exact ok_245
  | 246, _ => exact ok_246
  | 247, _ => exact ok_247
  | 248, _ => exact ok_248
  | 249, _ => exact ok_249
  | 250, _ => exact ok_250
  | 251, _ => exact ok_251
  | 252, _ => exact ok_252
  | 253, _ => exact ok_253
  | 254, _ => exact ok_254
  | 255, _ => exact ok_255
  | 256, _ => exact ok_256
  | 257, _ => exact ok_257
  | 258, _ => exact ok_258
  | 259, _ => exact ok_259
  | 260, _ => exact ok_260
  | 261, _ => exact ok_261
  | 262, _ => exact ok_262
  | 263, _ => exact ok_263
  | 264, _ => exact ok_264
  | 265, _ => exact ok_265
  | 266, _ => exact ok_266
  | 267, _ => exact ok_267
  | 268, _ => exact ok_268
  | 269, _ => exact ok_269
  | 270, _ => exact ok_270
  | 271, _ => exact ok_271
  | 272, _ => exact ok_272
  | 273, _ => exact ok_273
  | 274, _ => exact ok_274
  | 275, _ => exact ok_275
  | 276, _ => exact ok_276
  | 277, _ => exact ok_277
  | 278, _ => exact ok_278
  | 279, _ => exact ok_279
  | 280, _ => exact ok_280
  | 281, _ => exact ok_281
  | 282, _ => exact ok_282
  | 283, _ => exact ok_283
  | 284, _ => exact ok_284
  | 285, _ => exact ok_285
  | 286, _ => exact ok_286
  | 287, _ => exact ok_287
  | 288, _ => exact ok_288
  | 289, _ => exact ok_289
  | 290, _ => exact ok_290
  | 291, _ => exact ok_291
  | 292, _ => exact ok_292
  | 293, _ => exact ok_293
  | 294, _ => exact ok_294
  | 295, _ => exact ok_295
  | 296, _ => exact ok_296
  | 297, _ => exact ok_297
  | 298, _ => exact ok_298
  | 299, _ => exact ok_299
  | 300, _ => exact ok_300
  | 301, _ => exact ok_301
  | 302, _ => exact ok_302
  | 303, _ => exact ok_303
  | 304, _ => exact ok_304
  | 305, _ => exact ok_305
  | 306, _ => exact ok_306
  | 307, _ => exact ok_307
  | 308, _ => exact ok_308
  | 309, _ => exact ok_309
  | 310, _ => exact ok_310
  | 311, _ => exact ok_311
  | 312, _ => exact ok_312
  | 313, _ => exact ok_313
  | 314, _ => exact ok_314
  | 315, _ => exact ok_315
  | 316, _ => exact ok_316
  | 317, _ => exact ok_317
  | 318, _ => exact ok_318
  | 319, _ => exact ok_319
  | 320, _ => exact ok_320
  | 321, _ => exact ok_321
  | 322, _ => exact ok_322
  | 323, _ => exact ok_323
  | 324, _ => exact ok_324
  | 325, _ => exact ok_325
  | 326, _ => exact ok_326
  | 327, _ => exact ok_327
  | 328, _ => exact ok_328
  | 329, _ => exact ok_329
  | 330, _ => exact ok_330
  | 331, _ => exact ok_331
  | 332, _ => exact ok_332
  | 333, _ => exact ok_333
  | 334, _ => exact ok_334
  | 335, _ => exact ok_335
  | 336, _ => exact ok_336
  | 337, _ => exact ok_337
  | 338, _ => exact ok_338
  | 339, _ => exact ok_339
  | 340, _ => exact ok_340
  | 341, _ => exact ok_341
  | 342, _ => exact ok_342
  | 343, _ => exact ok_343
  | 344, _ => exact ok_344
  | 345, _ => exact ok_law
  | n + 346, h => omega
theorem oks : Oks := by
  intro M t hPg
  have := okM_all M (Pg_lt hPg)
  unfold okM at this
  rw [hPg] at this
  have this : (okC t 0 t.code && decide (t.2.2.2.2.1 + t.2.2.2.2.2.1 * 8 ≤ 400) && decide (1 ≤ t.2.2.2.2.1)) = true := this
  rw [Bool.and_eq_true, Bool.and_eq_true, decide_eq_true_eq, decide_eq_true_eq] at this
  exact ⟨this.1.1, this.1.2, this.2⟩
