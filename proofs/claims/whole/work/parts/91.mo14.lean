/-! The plain form: pairs in a rectangle. -/
section
variable {h : MH} {f : Nat → Nat → Int32} {m : Nat} {S : Abs}
/-- a rectangle asked for: none, or its numbers -/
theorem rc_cases (S : Abs) (a b c d e : Int32) (K : Nat → Nat → Nat → Nat → Nat → Int32) :
    (((inN a (aR S)).isSome && rcN S b c d e) = false ∧ (on (inN a (aR S)) fun k => onR S b c d e (K k)) = mI 1) ∨
    (((inN a (aR S)).isSome && rcN S b c d e) = true ∧ ∃ k i j l r, a = nI k ∧ b = nI i ∧ c = nI j ∧ d = nI l ∧ e = nI r ∧ k < aR S ∧ i < aW S ∧ j < aW S ∧ l < aW S ∧ r < aW S ∧ i ≤ j ∧ l ≤ r ∧ (on (inN a (aR S)) fun k => onR S b c d e (K k)) = K k i j l r) := by
  unfold onR rcN
  cases za : inN a (aR S) with
  | none => exact Or.inl ⟨rfl, rfl⟩
  | some k =>
    cases zb : inN b (aW S) with
    | none => exact Or.inl ⟨rfl, rfl⟩
    | some i =>
      cases zc : inN c (aW S) with
      | none => exact Or.inl ⟨rfl, rfl⟩
      | some j =>
        cases zd : inN d (aW S) with
        | none => exact Or.inl ⟨rfl, rfl⟩
        | some l =>
          cases ze : inN e (aW S) with
          | none => exact Or.inl ⟨rfl, rfl⟩
          | some r =>
            obtain ⟨ea, k1, -⟩ := inN_s za
            obtain ⟨eb, k2, w2⟩ := inN_s zb
            obtain ⟨ec, k3, w3⟩ := inN_s zc
            obtain ⟨ed, k4, w4⟩ := inN_s zd
            obtain ⟨ee, k5, w5⟩ := inN_s ze
            subst ea
            subst eb
            subst ec
            subst ed
            subst ee
            by_cases q : j < i
            · refine Or.inl ⟨?_, if_pos (Or.inl q)⟩
              rw [decide_eq_false (fun w => w ((nI_ltI w3 w2).mpr q))]; rfl
            · by_cases q2 : r < l
              · refine Or.inl ⟨?_, if_pos (Or.inr q2)⟩
                rw [decide_eq_false (p := ¬ nI r < nI l) (fun w => w ((nI_ltI w5 w4).mpr q2))]; simp
              · refine Or.inr ⟨?_, k, i, j, l, r, rfl, rfl, rfl, rfl, rfl, k1, k2, k3, k4, k5, by omega, by omega, if_neg (by omega)⟩
                rw [decide_eq_true (p := ¬ nI j < nI i) (fun w => q ((nI_ltI w3 w2).mp w)), decide_eq_true (p := ¬ nI r < nI l) (fun w => q2 ((nI_ltI w5 w4).mp w))]; rfl
theorem m_rect (C : MSH h m) (F : MF f m S) (W : WS S) (a b c d e : Int32) : ∃ f', ev M_Mo_rect 0 0 [some (.ref m), some (.int a), some (.int b), some (.int c), some (.int d), some (.int e), none, none, none] [] (wI h f) = some (some (.int (sRect S a b c d e)), wI h f') ∧ MX m f f' := by
  have mc := C.1
  have ar18 : hR h m 38 = some (m + 18) := (C.2 17 (by decide)).1
  have an18 : hN h (m + 18) = 80 := (C.2 17 (by decide)).2.1
  have ac18 : hC h (m + 18) = 20 := (C.2 17 (by decide)).2.2
  have pr := mo_isRect C F W a b c d e
  rw [r_Mo_rect_0]
  unfold sRect
  rcases rc_cases S a b c d e (fun k i j l r => nI (ci (aG S k) (2 ^ (r + 1) - 2 ^ l) i (j + 1 - i))) with ⟨z, y⟩ | ⟨z, k, i, j, l, r, ea, eb, ec, ed, ee, k1, k2, k3, k4, k5, k6, k7, y⟩
  · rw [y]
    rw [z] at pr
    exact ⟨f, wp_e (wp_isC mc (wp_rIe pr (wp_bt rfl (wp_s ⟨rfl, rfl⟩)))), MX.rf⟩
  · rw [y]
    rw [z] at pr
    subst ea
    subst eb
    subst ec
    subst ed
    subst ee
    obtain ⟨f', l1, l2, l3⟩ := mo_L C F W
    have h16 : aW S ≤ 16 := lv_p W.2.2.1.1.2.1
    have h5 : aR S ≤ 5 := W.2.2.1.1.2.2.2.1
    obtain ⟨R, V⟩ := l2 k k1
    refine ⟨f', wp_e (wp_isC mc (wp_rIe pr (wp_bf n10 (wp_isC mc (wp_rVe l1 ?_))))), l3⟩
    have p1 : 2 ^ l ≤ 2 ^ r := Nat.pow_le_pow_right (by decide) k7
    have p2 : 2 ^ (r + 1) ≤ 2 ^ 16 := Nat.pow_le_pow_right (by decide) (by omega)
    have p3 : 2 * 2 ^ r = 2 ^ (r + 1) := by rw [Nat.pow_succ]; omega
    have p4 : 0 < 2 ^ l := Nat.two_pow_pos l
    rw [nm_shl (by omega) (by rw [p3]; omega), nm_one (by omega), p3, pk_sub (by omega)]
    have L : ∀ q n, n + q = j + 1 - i → ev M_Mo_rect 0 25 [some (.ref m), some (.int (nI k)), none, some (.int (nI j)), none, none, some (.int (nI (ci (aG S k) (2 ^ (r + 1) - 2 ^ l) i n))), some (.int (nI (2 ^ (r + 1) - 2 ^ l))), some (.int (nI (i + n)))] [] (wI h f') = some (some (.int (nI (ci (aG S k) (2 ^ (r + 1) - 2 ^ l) i (j + 1 - i)))), wI h f') := by
      intro q
      induction q with
      | zero =>
        intro n hn
        have : n = j + 1 - i := by omega
        subst this
        rw [r_Mo_rect_25]
        exact wp_e (wp_bt (by rw [nI_ltI (by omega) (by omega)]; omega) (wp_s ⟨rfl, rfl⟩))
      | succ q ih =>
        intro n hn
        rw [r_Mo_rect_25]
        refine wp_e (wp_bf (by rw [nI_ltI (by omega) (by omega)]; omega) (wp_isC mc (wp_nnR ar18 (wp_isC ac18 (wp_inA (n := 16 * k + (i + n)) an18 (by rw [pk_mul, nI_add]) (by omega) (by omega) ?_)))))
        rw [show (nI 16 * nI k + nI (i + n)).toNatClampNeg = 16 * k + (i + n) by rw [pk_mul, nI_add, nI_clamp (by omega)], wI_I, R (i + n) (by omega), nm_and]
        refine wp_rIe (mo_bitsIn _ (Nat.lt_of_le_of_lt Nat.and_le_left (V.lt _))) ?_
        rw [nI_add, nI_add]
        exact wp_of (ih (n + 1) (by omega)) ⟨rfl, rfl⟩
    exact wp_of (L (j + 1 - i) 0 (by omega)) ⟨rfl, rfl⟩
end
