/-! A grid halved. -/
def hv (G : Nat → Nat) (m r : Nat) : Nat := orr (fun c => if (G (2 * r) ||| G (2 * r + 1)).testBit (2 * c) || (G (2 * r) ||| G (2 * r + 1)).testBit (2 * c + 1) then 2 ^ c else 0) m
theorem nm_two {a k : Nat} (hk : k < 32) (h : a < 2 ^ 31) : ((nI a >>> (nI k &&& 31)) &&& nI 3) = nI 0 ↔ (a.testBit k || a.testBit (k + 1)) = false := by
  rw [nm_shr hk h, nm_and, nI_eq (by have := Nat.and_le_right (n := a / 2 ^ k) (m := 3); omega) (by decide)]
  have e : a / 2 ^ k &&& 3 = a / 2 ^ k % 4 := Nat.and_two_pow_sub_one_eq_mod (a / 2 ^ k) 2
  rw [e, Nat.testBit_eq_decide_div_mod_eq, Nat.testBit_eq_decide_div_mod_eq, Nat.pow_succ, ← Nat.div_div_eq_div_mul]
  generalize a / 2 ^ k = b
  simp only [Bool.or_eq_false_iff, decide_eq_false_iff_not]
  omega
theorem gq_halve {h : MH} {f : Nat → Nat → Int32} {g o m : Nat} {G : Nat → Nat} (S : GS h g) (So : GS h o) (d : g + 1 < o ∨ o + 1 < g) (F : GF f o (2 * m) G) (V : GW (2 * m) G) :
    ev M_Grid_halve 0 0 [some (.ref g), some (.ref o), none, none, none] [] (wI h f) = some (none, wI h (gw f g m (fun r => if r < m then hv G m r else 0))) := by
  have v1 := V.1
  obtain ⟨s1, s2, s3, s4⟩ := id S
  obtain ⟨t1, t2, t3, t4⟩ := id So
  have L : ∀ k i, i + k = m → ev M_Grid_halve 0 9 [some (.ref g), some (.ref o), some (.int (nI i)), none, none] [] (wI h (gw f g m (gn m i (hv G m)))) = some (none, wI h (gw f g m (gn m m (hv G m)))) := by
    intro k
    induction k with
    | zero =>
      intro i hi
      have f1 := (gw_f (f := f) (g := g) (n := m) (G := gn m i (hv G m))).1
      rw [r_Grid_halve_9]
      apply wp_e
      repeat (first | refine wp_isC (by assumption) ?_ | refine wp_nnR (by assumption) ?_ | refine wp_inA (by assumption) rfl (by omega) (by omega) ?_ | refine wp_isZ (by decide) ?_ | refine wp_bt (by (first | (simp (disch := omega) only [wI_I, wI_s, nI_add, pk_mul, nI_ltI, nI_leI, nI_eq, nI_clamp, nm_or, nm_and, nm_xor, nm_nd, nm_one, nm_shr, nm_b2, Bool.false_eq_true, Bool.true_eq_false, not_false_eq_true, not_true_eq_false, reduceCtorEq, f1]; done) | (simp (disch := omega) only [wI_I, wI_s, nI_add, pk_mul, nI_ltI, nI_leI, nI_eq, nI_clamp, nm_or, nm_and, nm_xor, nm_nd, nm_one, nm_shr, nm_b2, Bool.false_eq_true, Bool.true_eq_false, not_false_eq_true, not_true_eq_false, reduceCtorEq, f1]; omega) | omega)) ?_ | refine wp_bf (by (first | (simp (disch := omega) only [wI_I, wI_s, nI_add, pk_mul, nI_ltI, nI_leI, nI_eq, nI_clamp, nm_or, nm_and, nm_xor, nm_nd, nm_one, nm_shr, nm_b2, Bool.false_eq_true, Bool.true_eq_false, not_false_eq_true, not_true_eq_false, reduceCtorEq, f1]; done) | (simp (disch := omega) only [wI_I, wI_s, nI_add, pk_mul, nI_ltI, nI_leI, nI_eq, nI_clamp, nm_or, nm_and, nm_xor, nm_nd, nm_one, nm_shr, nm_b2, Bool.false_eq_true, Bool.true_eq_false, not_false_eq_true, not_true_eq_false, reduceCtorEq, f1]; omega) | omega)) ?_)
      rw [show i = m by omega]
      exact wp_s ⟨rfl, rfl⟩
    | succ k ih =>
      intro i hi
      have hx : (G (2 * i) ||| G (2 * i + 1)) < 2 ^ 16 := Nat.or_lt_two_pow (V.lt _) (V.lt _)
      have L2 : ∀ k2 c, c + k2 = m → ev M_Grid_halve 0 32 [some (.ref g), some (.ref o), some (.int (nI i)), some (.int (nI (G (2 * i) ||| G (2 * i + 1)))), some (.int (nI c))] [] (wI h (gw f g m (fun r => if r = i then hv G c i else gn m i (hv G m) r))) = some (none, wI h (gw f g m (gn m m (hv G m)))) := by
        intro k2
        induction k2 with
        | zero =>
          intro c hc
          have f1 := (gw_f (f := f) (g := g) (n := m) (G := fun r => if r = i then hv G c i else gn m i (hv G m) r)).1
          rw [r_Grid_halve_32]
          apply wp_e
          repeat (first | refine wp_isC (by assumption) ?_ | refine wp_nnR (by assumption) ?_ | refine wp_inA (by assumption) rfl (by omega) (by omega) ?_ | refine wp_isZ (by decide) ?_ | refine wp_bt (by (first | (simp (disch := omega) only [wI_I, wI_s, nI_add, pk_mul, nI_ltI, nI_leI, nI_eq, nI_clamp, nm_or, nm_and, nm_xor, nm_nd, nm_one, nm_shr, nm_b2, Bool.false_eq_true, Bool.true_eq_false, not_false_eq_true, not_true_eq_false, reduceCtorEq, f1]; done) | (simp (disch := omega) only [wI_I, wI_s, nI_add, pk_mul, nI_ltI, nI_leI, nI_eq, nI_clamp, nm_or, nm_and, nm_xor, nm_nd, nm_one, nm_shr, nm_b2, Bool.false_eq_true, Bool.true_eq_false, not_false_eq_true, not_true_eq_false, reduceCtorEq, f1]; omega) | omega)) ?_ | refine wp_bf (by (first | (simp (disch := omega) only [wI_I, wI_s, nI_add, pk_mul, nI_ltI, nI_leI, nI_eq, nI_clamp, nm_or, nm_and, nm_xor, nm_nd, nm_one, nm_shr, nm_b2, Bool.false_eq_true, Bool.true_eq_false, not_false_eq_true, not_true_eq_false, reduceCtorEq, f1]; done) | (simp (disch := omega) only [wI_I, wI_s, nI_add, pk_mul, nI_ltI, nI_leI, nI_eq, nI_clamp, nm_or, nm_and, nm_xor, nm_nd, nm_one, nm_shr, nm_b2, Bool.false_eq_true, Bool.true_eq_false, not_false_eq_true, not_true_eq_false, reduceCtorEq, f1]; omega) | omega)) ?_)
          simp (disch := omega) only [wI_I, wI_s, nI_add, pk_mul, nI_ltI, nI_leI, nI_eq, nI_clamp, nm_or, nm_and, nm_xor, nm_nd, nm_one, nm_shr, nm_b2, Bool.false_eq_true, Bool.true_eq_false, not_false_eq_true, not_true_eq_false, reduceCtorEq]
          have e : gw f g m (fun r => if r = i then hv G c i else gn m i (hv G m) r) = gw f g m (gn m (i + 1) (hv G m)) := by
            apply gw_c; intro r _; rw [show c = m by omega]; unfold gn
            ((repeat' split) <;> (try dsimp only) <;> (repeat' split) <;> (first | rfl | (exfalso; omega) | (subst_vars; rfl) | (subst_vars; exfalso; omega)))
          rw [e]
          exact wp_of (ih (i + 1) (by omega)) ⟨rfl, rfl⟩
        | succ k2 ih2 =>
          intro c hc
          have f1 := (gw_f (f := f) (g := g) (n := m) (G := fun r => if r = i then hv G c i else gn m i (hv G m) r)).1
          have f2 := (gw_f (f := f) (g := g) (n := m) (G := fun r => if r = i then hv G c i else gn m i (hv G m) r)).2 i (by omega)
          have ih2 := ih2 (c + 1) (by omega)
          have e1 : hv G (c + 1) i = hv G c i ||| (if (G (2 * i) ||| G (2 * i + 1)).testBit (2 * c) || (G (2 * i) ||| G (2 * i + 1)).testBit (2 * c + 1) then 2 ^ c else 0) := rfl
          rw [r_Grid_halve_32]
          simp only [r_Grid_halve_55]
          apply wp_e
          refine wp_isC s1 (wp_bt (by (first | (simp (disch := omega) only [wI_I, wI_s, nI_add, pk_mul, nI_ltI, nI_leI, nI_eq, nI_clamp, nm_or, nm_and, nm_xor, nm_nd, nm_one, nm_shr, nm_b2, Bool.false_eq_true, Bool.true_eq_false, not_false_eq_true, not_true_eq_false, reduceCtorEq, f1]; done) | (simp (disch := omega) only [wI_I, wI_s, nI_add, pk_mul, nI_ltI, nI_leI, nI_eq, nI_clamp, nm_or, nm_and, nm_xor, nm_nd, nm_one, nm_shr, nm_b2, Bool.false_eq_true, Bool.true_eq_false, not_false_eq_true, not_true_eq_false, reduceCtorEq, f1]; omega) | omega)) ?_)
          rw [pk_mul]
          refine wp_bi (nm_two (by omega) (by omega)) (fun q => ?_) (fun q => ?_)
          · rw [if_neg (by rw [q]; decide), Nat.or_zero] at e1
            rw [e1] at ih2
            simp (disch := omega) only [wI_I, wI_s, nI_add, pk_mul, nI_ltI, nI_leI, nI_eq, nI_clamp, nm_or, nm_and, nm_xor, nm_nd, nm_one, nm_shr, nm_b2, Bool.false_eq_true, Bool.true_eq_false, not_false_eq_true, not_true_eq_false, reduceCtorEq]
            exact wp_of ih2 ⟨rfl, rfl⟩
          · rw [if_pos ((Bool.not_eq_false _).mp q)] at e1
            rw [e1] at ih2
            repeat (first | refine wp_isC (by assumption) ?_ | refine wp_nnR (by assumption) ?_ | refine wp_inA (by assumption) rfl (by omega) (by omega) ?_ | refine wp_isZ (by decide) ?_ | refine wp_bt (by (first | (simp (disch := omega) only [wI_I, wI_s, nI_add, pk_mul, nI_ltI, nI_leI, nI_eq, nI_clamp, nm_or, nm_and, nm_xor, nm_nd, nm_one, nm_shr, nm_b2, Bool.false_eq_true, Bool.true_eq_false, not_false_eq_true, not_true_eq_false, reduceCtorEq]; done) | (simp (disch := omega) only [wI_I, wI_s, nI_add, pk_mul, nI_ltI, nI_leI, nI_eq, nI_clamp, nm_or, nm_and, nm_xor, nm_nd, nm_one, nm_shr, nm_b2, Bool.false_eq_true, Bool.true_eq_false, not_false_eq_true, not_true_eq_false, reduceCtorEq]; omega) | omega)) ?_ | refine wp_bf (by (first | (simp (disch := omega) only [wI_I, wI_s, nI_add, pk_mul, nI_ltI, nI_leI, nI_eq, nI_clamp, nm_or, nm_and, nm_xor, nm_nd, nm_one, nm_shr, nm_b2, Bool.false_eq_true, Bool.true_eq_false, not_false_eq_true, not_true_eq_false, reduceCtorEq]; done) | (simp (disch := omega) only [wI_I, wI_s, nI_add, pk_mul, nI_ltI, nI_leI, nI_eq, nI_clamp, nm_or, nm_and, nm_xor, nm_nd, nm_one, nm_shr, nm_b2, Bool.false_eq_true, Bool.true_eq_false, not_false_eq_true, not_true_eq_false, reduceCtorEq]; omega) | omega)) ?_)
            simp (disch := omega) only [wI_I, wI_s, nI_add, pk_mul, nI_ltI, nI_leI, nI_eq, nI_clamp, nm_or, nm_and, nm_xor, nm_nd, nm_one, nm_shr, nm_b2, Bool.false_eq_true, Bool.true_eq_false, not_false_eq_true, not_true_eq_false, reduceCtorEq, f2]
            rw [if_pos True.intro, gw_u (by omega)]
            refine wp_of (Eq.trans ?_ ih2) ⟨rfl, rfl⟩
            congr 2
            apply gw_c; intro r _
            ((repeat' split) <;> (try dsimp only) <;> (repeat' split) <;> (first | rfl | (exfalso; omega) | (subst_vars; rfl) | (subst_vars; exfalso; omega)))
      have f1 := (gw_f (f := f) (g := g) (n := m) (G := gn m i (hv G m))).1
      have Fo := gw_F (n := m) (G := gn m i (hv G m)) d F
      have fa := Fo.2 (2 * i) (by omega)
      have fb := Fo.2 (2 * i + 1) (by omega)
      rw [r_Grid_halve_9]
      simp only [pk_mul, nI_add]
      apply wp_e
      repeat (first | refine wp_isC (by assumption) ?_ | refine wp_nnR (by assumption) ?_ | refine wp_inA (by assumption) rfl (by omega) (by omega) ?_ | refine wp_isZ (by decide) ?_ | refine wp_bt (by (first | (simp (disch := omega) only [wI_I, wI_s, nI_add, pk_mul, nI_ltI, nI_leI, nI_eq, nI_clamp, nm_or, nm_and, nm_xor, nm_nd, nm_one, nm_shr, nm_b2, Bool.false_eq_true, Bool.true_eq_false, not_false_eq_true, not_true_eq_false, reduceCtorEq, f1]; done) | (simp (disch := omega) only [wI_I, wI_s, nI_add, pk_mul, nI_ltI, nI_leI, nI_eq, nI_clamp, nm_or, nm_and, nm_xor, nm_nd, nm_one, nm_shr, nm_b2, Bool.false_eq_true, Bool.true_eq_false, not_false_eq_true, not_true_eq_false, reduceCtorEq, f1]; omega) | omega)) ?_ | refine wp_bf (by (first | (simp (disch := omega) only [wI_I, wI_s, nI_add, pk_mul, nI_ltI, nI_leI, nI_eq, nI_clamp, nm_or, nm_and, nm_xor, nm_nd, nm_one, nm_shr, nm_b2, Bool.false_eq_true, Bool.true_eq_false, not_false_eq_true, not_true_eq_false, reduceCtorEq, f1]; done) | (simp (disch := omega) only [wI_I, wI_s, nI_add, pk_mul, nI_ltI, nI_leI, nI_eq, nI_clamp, nm_or, nm_and, nm_xor, nm_nd, nm_one, nm_shr, nm_b2, Bool.false_eq_true, Bool.true_eq_false, not_false_eq_true, not_true_eq_false, reduceCtorEq, f1]; omega) | omega)) ?_)
      simp (disch := omega) only [wI_I, wI_s, nI_add, pk_mul, nI_ltI, nI_leI, nI_eq, nI_clamp, nm_or, nm_and, nm_xor, nm_nd, nm_one, nm_shr, nm_b2, Bool.false_eq_true, Bool.true_eq_false, not_false_eq_true, not_true_eq_false, reduceCtorEq, fa, fb]
      have e : gw f g m (gn m i (hv G m)) = gw f g m (fun r => if r = i then hv G 0 i else gn m i (hv G m) r) := by
        apply gw_c; intro r _; unfold gn hv orr
        ((repeat' split) <;> (try dsimp only) <;> (repeat' split) <;> (first | rfl | (exfalso; omega) | (subst_vars; rfl) | (subst_vars; exfalso; omega)))
      rw [e]
      exact wp_of (L2 m 0 (by omega)) ⟨rfl, rfl⟩
  have f1 := F.1
  rw [r_Grid_halve_0]
  apply wp_e
  refine wp_isC t1 (wp_nz (by decide) (wp_isC s1 ?_))
  rw [wI_I, f1, pk_div (by omega) (by decide) (by decide), Nat.mul_div_cancel_left _ (by decide)]
  refine wp_rVe (gq_clear S (by omega)) ?_
  rw [gn_0 (J := hv G m), ← gn_n (J := hv G m)]
  exact wp_of (L m 0 (by omega)) ⟨rfl, rfl⟩
