/-! The tree of a grid: its levels. -/
/-- v levels, halved d times -/
def hd (v : Nat) (G : Nat → Nat) : Nat → (Nat → Nat)
  | 0 => G
  | d + 1 => fun r => if r < 2 ^ (v - (d + 1)) then hv (hd v G d) (2 ^ (v - (d + 1))) r else 0
/-- the blocks of level l that are not empty -/
def fl (v : Nat) (G : Nat → Nat) (l : Nat) : Nat → Nat := hd v G (v - l)
theorem hv_lt {G : Nat → Nat} {m r : Nat} : hv G m r < 2 ^ m := by
  apply orr_lt; intro c hc; split
  · exact Nat.pow_lt_pow_right (by decide) hc
  · exact Nat.two_pow_pos m
theorem hd_W {v : Nat} {G : Nat → Nat} (V : GW (2 ^ v) G) : ∀ d, d ≤ v → GW (2 ^ (v - d)) (hd v G d)
  | 0, _ => V
  | d + 1, h => by
    refine ⟨?_, fun r => ?_, fun r hr => ?_⟩
    · exact Nat.le_trans (Nat.pow_le_pow_right (by decide) (by omega)) V.1
    · show (if r < 2 ^ (v - (d + 1)) then hv (hd v G d) (2 ^ (v - (d + 1))) r else 0) < _
      split
      · exact hv_lt
      · exact Nat.two_pow_pos _
    · show (if r < 2 ^ (v - (d + 1)) then hv (hd v G d) (2 ^ (v - (d + 1))) r else 0) = 0
      rw [if_neg (by omega)]
theorem fl_W {v l : Nat} {G : Nat → Nat} (V : GW (2 ^ v) G) (h : l ≤ v) : GW (2 ^ l) (fl v G l) := by
  have := hd_W V (v - l) (by omega)
  rw [show v - (v - l) = l by omega] at this
  exact this
/-- the tree's cells -/
def TS (h : MH) (t : Nat) : Prop := hC h t = 11 ∧ hR h t 0 = some (t + 1) ∧ hC h (t + 1) = 24 ∧ hN h (t + 1) = 5 ∧ (∀ l, l < 5 → hR h (t + 1) l = some (t + 5 + 2 * l) ∧ GS h (t + 5 + 2 * l)) ∧
  hR h t 1 = some (t + 2) ∧ hC h (t + 2) = 20 ∧ hN h (t + 2) = 340 ∧ hR h t 2 = some (t + 3) ∧ hC h (t + 3) = 20 ∧ hN h (t + 3) = 340 ∧ hR h t 3 = some (t + 4) ∧ hC h (t + 4) = 20 ∧ hN h (t + 4) = 340
/-- the tree of G -/
def TF (f : Nat → Nat → Int32) (t v : Nat) (G : Nat → Nat) : Prop := f t 5 = nI v ∧ ∀ l, l ≤ v → GF f (t + 5 + 2 * l) (2 ^ l) (fl v G l)
theorem nm_lv {v : Nat} (h1 : 1 ≤ v) (h4 : v ≤ 4) : (if nI 1 < (if nI 4 < nI v then nI 4 else nI v) then (if nI 4 < nI v then nI 4 else nI v) else nI 1) = nI v := by
  have : ∀ w : Fin 5, 1 ≤ w.val → (if nI 1 < (if nI 4 < nI w.val then nI 4 else nI w.val) then (if nI 4 < nI w.val then nI 4 else nI w.val) else nI 1) = nI w.val := by decide +kernel
  exact this ⟨v, by omega⟩ h1
theorem tr_grow {h : MH} {f : Nat → Nat → Int32} {t g v : Nat} {G : Nat → Nat} (T : TS h t) (S : GS h g) (d : t + 15 ≤ g ∨ g + 1 < t) (F : GF f g (2 ^ v) G) (V : GW (2 ^ v) G) (h1 : 1 ≤ v) (h4 : v ≤ 4) :
    wp (ev M_Tree_grow 0 0 [some (.ref t), some (.ref g), some (.int (nI v)), none] [] (wI h f)) (fun r h' => ∃ f', r = none ∧ h' = wI h f' ∧ TF f' t v G ∧ Fr t (t + 15) f f') := by
  obtain ⟨t1, t2, t3, t4, t5, -⟩ := T
  have hp := lv_p h4
  have L : ∀ j f, j ≤ v → f t 5 = nI v → (∀ l, j ≤ l → l ≤ v → GF f (t + 5 + 2 * l) (2 ^ l) (fl v G l)) →
      wp (ev M_Tree_grow 0 20 [some (.ref t), none, none, some (.int (nI j - nI 1))] [] (wI h f)) (fun r h' => ∃ f', r = none ∧ h' = wI h f' ∧ TF f' t v G ∧ Fr t (t + 15) f f') := by
    intro j
    induction j with
    | zero =>
      intro f hj f5 fl
      rw [r_Tree_grow_20]
      refine wp_bt (pk_sneg (by decide) (by decide)) (wp_s ⟨f, rfl, rfl, ⟨f5, fun l hl => fl l (Nat.zero_le _) hl⟩, Fr.rf⟩)
    | succ j ih =>
      intro f hj f5 fh
      rw [pk_sub (by omega), Nat.add_sub_cancel, r_Tree_grow_20]
      have n1 := hN
      obtain ⟨q1, q2⟩ := t5 j (by omega)
      obtain ⟨q3, q4⟩ := t5 (j + 1) (by omega)
      have q5 := q2.1
      rw [nI_add]
      refine wp_bf (nI_pos (by omega)) ?_
      refine wp_isC t1 (wp_nnR t2 (wp_isC t3 (wp_inA t4 rfl (by omega) (by omega) ?_)))
      rw [nI_clamp (by omega)]
      refine wp_nnR q1 (wp_isC t1 (wp_nnR t2 (wp_isC t3 (wp_inA t4 rfl (by omega) (by omega) ?_))))
      rw [nI_clamp (by omega)]
      refine wp_nnR q3 (wp_isC q5 ?_)
      have Fj := fh (j + 1) (by omega) (by omega)
      have Vj := fl_W V (show j + 1 ≤ v by omega)
      rw [show 2 ^ (j + 1) = 2 * 2 ^ j by rw [Nat.pow_succ, Nat.mul_comm]] at Fj Vj
      refine wp_rVe (gq_halve q2 q4 (by omega) Fj Vj) ?_
      have e : (fun r => if r < 2 ^ j then hv (fl v G (j + 1)) (2 ^ j) r else 0) = fl v G j := by
        funext r
        show _ = hd v G (v - j) r
        rw [show v - j = (v - (j + 1)) + 1 by omega]
        show _ = if r < 2 ^ (v - ((v - (j + 1)) + 1)) then hv (hd v G (v - (j + 1))) (2 ^ (v - ((v - (j + 1)) + 1))) r else 0
        rw [show v - ((v - (j + 1)) + 1) = j by omega]
        rfl
      rw [e]
      have em : nI j + mI 1 = nI j - nI 1 := by
        rw [Int32.sub_eq_add_neg]; rfl
      rw [em]
      refine wp_w (ih _ (by omega) (by rw [gw_o (by omega) (by omega)]; exact f5) ?_) ?_
      · intro l hl hl2
        by_cases q : l = j
        · subst q; exact gw_f
        · exact gw_F (by omega) (fh l (by omega) hl2)
      · rintro r h' ⟨f', r1, r2, r3, r4⟩
        exact ⟨f', r1, r2, r3, (Fr.gw (by omega) (by omega)).tr r4⟩
  obtain ⟨q1, q2⟩ := t5 v (by omega)
  have q5 := q2.1
  rw [r_Tree_grow_0, nm_lv h1 h4, wI_s]
  have e5 : up2 f t 5 (nI v) t 5 = nI v := up2_s
  simp only [wI_I, e5]
  refine wp_isC t1 (wp_isC t1 (wp_nnR t2 (wp_isC t1 (wp_isC t3 (wp_inA t4 rfl (by omega) (by omega) ?_)))))
  rw [nI_clamp (by omega)]
  refine wp_nnR q1 (wp_isC q5 ?_)
  have F' : GF (up2 f t 5 (nI v)) g (2 ^ v) G := (Fr.u2 (lo := t) (hi := t + 1) (by omega) (by omega)).F (by omega) F
  refine wp_rVe (gq_copy q2 S (by omega) F') ?_
  refine wp_isC t1 ?_
  have e6 : gw (up2 f t 5 (nI v)) (t + 5 + 2 * v) (2 ^ v) G t 5 = nI v := by rw [gw_o (by omega) (by omega)]; exact e5
  rw [wI_I, e6]
  refine wp_w (L v _ (Nat.le_refl _) e6 ?_) ?_
  · intro l hl hl2
    have : l = v := by omega
    subst this
    have : fl l G l = G := by unfold fl; rw [Nat.sub_self]; rfl
    rw [this]; exact gw_f
  · rintro r h' ⟨f', r1, r2, r3, r4⟩
    exact ⟨f', r1, r2, r3, ((Fr.u2 (by omega) (by omega)).tr (Fr.gw (by omega) (by omega))).tr r4⟩
theorem nm_on {v l : Nat} (h4 : v ≤ 4) (hl : l ≤ v) : (if nI 0 < (if nI v < nI l then nI v else nI l) then (if nI v < nI l then nI v else nI l) else nI 0) = nI l := by
  rw [if_neg (show ¬ nI v < nI l by rw [nI_ltI (by omega) (by omega)]; omega)]
  exact nm_mx (by omega)
theorem tr_on {h : MH} {f : Nat → Nat → Int32} {t v l : Nat} (T : TS h t) (f5 : f t 5 = nI v) (h4 : v ≤ 4) (hl : l ≤ v) :
    ev M_Tree_filledOn 0 0 [some (.ref t), some (.int (nI l))] [] (wI h f) = some (some (.ref (t + 5 + 2 * l)), wI h f) := by
  obtain ⟨t1, t2, t3, t4, t5, -⟩ := T
  obtain ⟨q1, q2⟩ := t5 l (by omega)
  rw [r_Tree_filledOn_0]
  simp only [wI_I, f5, nm_on h4 hl]
  apply wp_e
  refine wp_isC t1 (wp_nnR t2 (wp_isC t1 (wp_isC t3 (wp_inA t4 rfl (by omega) (by omega) ?_))))
  rw [nI_clamp (by omega)]
  exact wp_nnR q1 (wp_s ⟨rfl, rfl⟩)
/-- pairs of a grid -/
def ct (n : Nat) (G : Nat → Nat) : Nat := sm (fun r => bc (G r)) n
theorem ct_le {n : Nat} {G : Nat → Nat} (h : n ≤ 16) : ct n G ≤ 256 := by
  have := sm_le (F := fun r => bc (G r)) (b := 16) (n := n) (fun k _ => bc_le _)
  unfold ct; omega
/-- bits of the tree, counted level by level -/
def nb (v : Nat) (G : Nat → Nat) : Nat := 4 + sm (fun l => 4 * ct (2 ^ (l + 1)) (fl v G (l + 1))) (v - 1)
theorem tr_count {h : MH} {f : Nat → Nat → Int32} {t v : Nat} {G : Nat → Nat} (T : TS h t) (F : TF f t v G) (V : GW (2 ^ v) G) (h1 : 1 ≤ v) (h4 : v ≤ 4) :
    ev M_Tree_countBits 0 0 [some (.ref t), none, none] [] (wI h f) = some (some (.int (nI (nb v G))), wI h f) := by
  obtain ⟨t1, t2, t3, t4, t5, -⟩ := T
  obtain ⟨f5, fh⟩ := F
  have L : ∀ k i, i + k = v - 1 → ev M_Tree_countBits 0 5 [some (.ref t), some (.int (nI (4 + sm (fun l => 4 * ct (2 ^ (l + 1)) (fl v G (l + 1))) i))), some (.int (nI (i + 1)))] [] (wI h f) = some (some (.int (nI (nb v G))), wI h f) := by
    intro k
    induction k with
    | zero =>
      intro i hi
      rw [r_Tree_countBits_5]
      apply wp_e
      repeat (first | refine wp_isC (by assumption) ?_ | refine wp_nnR (by assumption) ?_ | refine wp_inA (by assumption) rfl (by omega) (by omega) ?_ | refine wp_isZ (by decide) ?_ | refine wp_bt (by (first | (simp (disch := omega) only [wI_I, wI_s, nI_add, pk_mul, nI_ltI, nI_leI, nI_eq, nI_clamp, nm_or, nm_and, nm_xor, nm_nd, nm_one, nm_shr, nm_b2, Bool.false_eq_true, Bool.true_eq_false, not_false_eq_true, not_true_eq_false, reduceCtorEq, f5]; done) | (simp (disch := omega) only [wI_I, wI_s, nI_add, pk_mul, nI_ltI, nI_leI, nI_eq, nI_clamp, nm_or, nm_and, nm_xor, nm_nd, nm_one, nm_shr, nm_b2, Bool.false_eq_true, Bool.true_eq_false, not_false_eq_true, not_true_eq_false, reduceCtorEq, f5]; omega) | omega)) ?_ | refine wp_bf (by (first | (simp (disch := omega) only [wI_I, wI_s, nI_add, pk_mul, nI_ltI, nI_leI, nI_eq, nI_clamp, nm_or, nm_and, nm_xor, nm_nd, nm_one, nm_shr, nm_b2, Bool.false_eq_true, Bool.true_eq_false, not_false_eq_true, not_true_eq_false, reduceCtorEq, f5]; done) | (simp (disch := omega) only [wI_I, wI_s, nI_add, pk_mul, nI_ltI, nI_leI, nI_eq, nI_clamp, nm_or, nm_and, nm_xor, nm_nd, nm_one, nm_shr, nm_b2, Bool.false_eq_true, Bool.true_eq_false, not_false_eq_true, not_true_eq_false, reduceCtorEq, f5]; omega) | omega)) ?_)
      refine wp_s ⟨?_, rfl⟩
      rw [show i = v - 1 by omega]; rfl
    | succ k ih =>
      intro i hi
      obtain ⟨q1, q2⟩ := t5 (i + 1) (by omega)
      have q5 := q2.1
      have ih := ih (i + 1) (by omega)
      rw [r_Tree_countBits_5]
      apply wp_e
      repeat (first | refine wp_isC (by assumption) ?_ | refine wp_nnR (by assumption) ?_ | refine wp_inA (by assumption) rfl (by omega) (by omega) ?_ | refine wp_isZ (by decide) ?_ | refine wp_bt (by (first | (simp (disch := omega) only [wI_I, wI_s, nI_add, pk_mul, nI_ltI, nI_leI, nI_eq, nI_clamp, nm_or, nm_and, nm_xor, nm_nd, nm_one, nm_shr, nm_b2, Bool.false_eq_true, Bool.true_eq_false, not_false_eq_true, not_true_eq_false, reduceCtorEq, f5]; done) | (simp (disch := omega) only [wI_I, wI_s, nI_add, pk_mul, nI_ltI, nI_leI, nI_eq, nI_clamp, nm_or, nm_and, nm_xor, nm_nd, nm_one, nm_shr, nm_b2, Bool.false_eq_true, Bool.true_eq_false, not_false_eq_true, not_true_eq_false, reduceCtorEq, f5]; omega) | omega)) ?_ | refine wp_bf (by (first | (simp (disch := omega) only [wI_I, wI_s, nI_add, pk_mul, nI_ltI, nI_leI, nI_eq, nI_clamp, nm_or, nm_and, nm_xor, nm_nd, nm_one, nm_shr, nm_b2, Bool.false_eq_true, Bool.true_eq_false, not_false_eq_true, not_true_eq_false, reduceCtorEq, f5]; done) | (simp (disch := omega) only [wI_I, wI_s, nI_add, pk_mul, nI_ltI, nI_leI, nI_eq, nI_clamp, nm_or, nm_and, nm_xor, nm_nd, nm_one, nm_shr, nm_b2, Bool.false_eq_true, Bool.true_eq_false, not_false_eq_true, not_true_eq_false, reduceCtorEq, f5]; omega) | omega)) ?_)
      rw [nI_clamp (by omega)]
      repeat (first | refine wp_isC (by assumption) ?_ | refine wp_nnR (by assumption) ?_ | refine wp_inA (by assumption) rfl (by omega) (by omega) ?_ | refine wp_isZ (by decide) ?_ | refine wp_bt (by (first | (simp (disch := omega) only [wI_I, wI_s, nI_add, pk_mul, nI_ltI, nI_leI, nI_eq, nI_clamp, nm_or, nm_and, nm_xor, nm_nd, nm_one, nm_shr, nm_b2, Bool.false_eq_true, Bool.true_eq_false, not_false_eq_true, not_true_eq_false, reduceCtorEq]; done) | (simp (disch := omega) only [wI_I, wI_s, nI_add, pk_mul, nI_ltI, nI_leI, nI_eq, nI_clamp, nm_or, nm_and, nm_xor, nm_nd, nm_one, nm_shr, nm_b2, Bool.false_eq_true, Bool.true_eq_false, not_false_eq_true, not_true_eq_false, reduceCtorEq]; omega) | omega)) ?_ | refine wp_bf (by (first | (simp (disch := omega) only [wI_I, wI_s, nI_add, pk_mul, nI_ltI, nI_leI, nI_eq, nI_clamp, nm_or, nm_and, nm_xor, nm_nd, nm_one, nm_shr, nm_b2, Bool.false_eq_true, Bool.true_eq_false, not_false_eq_true, not_true_eq_false, reduceCtorEq]; done) | (simp (disch := omega) only [wI_I, wI_s, nI_add, pk_mul, nI_ltI, nI_leI, nI_eq, nI_clamp, nm_or, nm_and, nm_xor, nm_nd, nm_one, nm_shr, nm_b2, Bool.false_eq_true, Bool.true_eq_false, not_false_eq_true, not_true_eq_false, reduceCtorEq]; omega) | omega)) ?_)
      refine wp_rIe (gq_count q2 (fh (i + 1) (by omega)) (fl_W V (by omega))) ?_
      simp (disch := omega) only [wI_I, wI_s, nI_add, pk_mul, nI_ltI, nI_leI, nI_eq, nI_clamp, nm_or, nm_and, nm_xor, nm_nd, nm_one, nm_shr, nm_b2, Bool.false_eq_true, Bool.true_eq_false, not_false_eq_true, not_true_eq_false, reduceCtorEq]
      rw [sm, ← Nat.add_assoc] at ih
      exact wp_of ih ⟨rfl, rfl⟩
  rw [r_Tree_countBits_0]
  exact L (v - 1) 0 (by omega)
