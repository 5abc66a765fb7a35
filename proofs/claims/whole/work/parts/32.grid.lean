theorem nm_b2 {a k : Nat} : nI (a / 2 ^ k &&& 1) = nI 1 ↔ a.testBit k = true := by
  rw [nI_eq (by have := Nat.and_le_right (n := a / 2 ^ k) (m := 1); omega) (by decide), Nat.and_one_is_mod, Nat.testBit_eq_decide_div_mod_eq]
  simp
/-! Grids: their shape, what they hold, what their methods do. -/
theorem wp_of {r : MRes} {v : Option Value} {h : MH} {Q : Option Value → MH → Prop} (e : r = some (v, h)) (H : Q v h) : wp r Q := ⟨v, h, e, H⟩
def GS (h : MH) (g : Nat) : Prop := hC h g = 3 ∧ hR h g 0 = some (g + 1) ∧ hC h (g + 1) = 20 ∧ hN h (g + 1) = 16
def GF (f : Nat → Nat → Int32) (g n : Nat) (G : Nat → Nat) : Prop := f g 1 = nI n ∧ ∀ r, r < 16 → f (g + 1) r = nI (G r)
def GW (n : Nat) (G : Nat → Nat) : Prop := n ≤ 16 ∧ (∀ r, G r < 2 ^ n) ∧ ∀ r, n ≤ r → G r = 0
theorem GW.lt {n : Nat} {G : Nat → Nat} (h : GW n G) (r : Nat) : G r < 2 ^ 16 := Nat.lt_of_lt_of_le (h.2.1 r) (Nat.pow_le_pow_right (by decide) h.1)
/-- a grid written -/
def gw (f : Nat → Nat → Int32) (g n : Nat) (G : Nat → Nat) : Nat → Nat → Int32 := fun a k => if a = g ∧ k = 1 then nI n else if a = g + 1 ∧ k < 16 then nI (G k) else f a k
theorem gw_f {f : Nat → Nat → Int32} {g n : Nat} {G : Nat → Nat} : GF (gw f g n G) g n G := by
  constructor
  · unfold gw; rw [if_pos ⟨rfl, rfl⟩]
  · intro r hr; unfold gw; rw [if_neg (by omega), if_pos ⟨rfl, hr⟩]
theorem gw_o {f : Nat → Nat → Int32} {g n a : Nat} {G : Nat → Nat} (h1 : a ≠ g) (h2 : a ≠ g + 1) : gw f g n G a = f a := by
  funext k; unfold gw; rw [if_neg (by omega), if_neg (by omega)]
theorem gw_F {f : Nat → Nat → Int32} {g n o m : Nat} {G H : Nat → Nat} (d : g + 1 < o ∨ o + 1 < g) (F : GF f o m H) : GF (gw f g n G) o m H := by
  obtain ⟨f1, f2⟩ := F
  constructor
  · rw [gw_o (by omega) (by omega)]; exact f1
  · intro r hr; rw [gw_o (by omega) (by omega)]; exact f2 r hr
theorem gw_gw {f : Nat → Nat → Int32} {g n m : Nat} {G H : Nat → Nat} : gw (gw f g n G) g m H = gw f g m H := by
  funext a k; unfold gw
  ((repeat' split) <;> (try dsimp only) <;> (repeat' split) <;> (first | rfl | (exfalso; omega) | (subst_vars; rfl) | (subst_vars; exfalso; omega)))
theorem gw_c {f : Nat → Nat → Int32} {g n : Nat} {G H : Nat → Nat} (e : ∀ r, r < 16 → G r = H r) : gw f g n G = gw f g n H := by
  funext a k; unfold gw
  by_cases q : a = g ∧ k = 1
  · rw [if_pos q, if_pos q]
  · rw [if_neg q, if_neg q]
    by_cases q2 : a = g + 1 ∧ k < 16
    · rw [if_pos q2, if_pos q2, e k q2.2]
    · rw [if_neg q2, if_neg q2]
theorem gw_s {f : Nat → Nat → Int32} {g n : Nat} {G : Nat → Nat} (F : GF f g n G) : gw f g n G = f := by
  funext a k; unfold gw
  by_cases q : a = g ∧ k = 1
  · rw [if_pos q, q.1, q.2, F.1]
  · rw [if_neg q]
    by_cases q2 : a = g + 1 ∧ k < 16
    · rw [if_pos q2, q2.1, F.2 k q2.2]
    · rw [if_neg q2]
theorem gw_u {f : Nat → Nat → Int32} {g n r v : Nat} {G : Nat → Nat} (hr : r < 16) : up2 (gw f g n G) (g + 1) r (nI v) = gw f g n (fun k => if k = r then v else G k) := by
  funext a k; unfold up2 gw; dsimp only
  ((repeat' split) <;> (try dsimp only) <;> (repeat' split) <;> (first | rfl | (exfalso; omega) | (subst_vars; rfl) | (subst_vars; exfalso; omega)))
theorem gq_count_l {h : MH} {f : Nat → Nat → Int32} {g n : Nat} {G : Nat → Nat} (S : GS h g) (F : GF f g n G) (V : GW n G) : ∀ k i, i + k = n →
    ev M_Grid_count 0 5 [some (.ref g), some (.int (nI (sm (fun r => bc (G r)) i))), some (.int (nI i))] [] (wI h f) = some (some (.int (nI (sm (fun r => bc (G r)) n))), wI h f) := by
  obtain ⟨s1, s2, s3, s4⟩ := S
  obtain ⟨f1, f2⟩ := F
  have v1 := V.1
  intro k
  induction k with
  | zero =>
    intro i hi
    rw [r_Grid_count_5]
    apply wp_e
    repeat (first | refine wp_isC (by assumption) ?_ | refine wp_nnR (by assumption) ?_ | refine wp_inA (by assumption) rfl (by omega) (by omega) ?_ | refine wp_isZ (by decide) ?_ | refine wp_bt (by (first | (simp (disch := omega) only [wI_I, wI_s, nI_add, pk_mul, nI_ltI, nI_leI, nI_eq, nI_clamp, nm_or, nm_and, nm_xor, nm_nd, nm_one, nm_shr, nm_b2, Bool.false_eq_true, Bool.true_eq_false, not_false_eq_true, not_true_eq_false, reduceCtorEq, f1]; done) | (simp (disch := omega) only [wI_I, wI_s, nI_add, pk_mul, nI_ltI, nI_leI, nI_eq, nI_clamp, nm_or, nm_and, nm_xor, nm_nd, nm_one, nm_shr, nm_b2, Bool.false_eq_true, Bool.true_eq_false, not_false_eq_true, not_true_eq_false, reduceCtorEq, f1]; omega) | omega)) ?_ | refine wp_bf (by (first | (simp (disch := omega) only [wI_I, wI_s, nI_add, pk_mul, nI_ltI, nI_leI, nI_eq, nI_clamp, nm_or, nm_and, nm_xor, nm_nd, nm_one, nm_shr, nm_b2, Bool.false_eq_true, Bool.true_eq_false, not_false_eq_true, not_true_eq_false, reduceCtorEq, f1]; done) | (simp (disch := omega) only [wI_I, wI_s, nI_add, pk_mul, nI_ltI, nI_leI, nI_eq, nI_clamp, nm_or, nm_and, nm_xor, nm_nd, nm_one, nm_shr, nm_b2, Bool.false_eq_true, Bool.true_eq_false, not_false_eq_true, not_true_eq_false, reduceCtorEq, f1]; omega) | omega)) ?_)
    refine wp_s ⟨?_, rfl⟩
    rw [show i = n by omega]
  | succ k ih =>
    intro i hi
    rw [r_Grid_count_5]
    apply wp_e
    repeat (first | refine wp_isC (by assumption) ?_ | refine wp_nnR (by assumption) ?_ | refine wp_inA (by assumption) rfl (by omega) (by omega) ?_ | refine wp_isZ (by decide) ?_ | refine wp_bt (by (first | (simp (disch := omega) only [wI_I, wI_s, nI_add, pk_mul, nI_ltI, nI_leI, nI_eq, nI_clamp, nm_or, nm_and, nm_xor, nm_nd, nm_one, nm_shr, nm_b2, Bool.false_eq_true, Bool.true_eq_false, not_false_eq_true, not_true_eq_false, reduceCtorEq, f1]; done) | (simp (disch := omega) only [wI_I, wI_s, nI_add, pk_mul, nI_ltI, nI_leI, nI_eq, nI_clamp, nm_or, nm_and, nm_xor, nm_nd, nm_one, nm_shr, nm_b2, Bool.false_eq_true, Bool.true_eq_false, not_false_eq_true, not_true_eq_false, reduceCtorEq, f1]; omega) | omega)) ?_ | refine wp_bf (by (first | (simp (disch := omega) only [wI_I, wI_s, nI_add, pk_mul, nI_ltI, nI_leI, nI_eq, nI_clamp, nm_or, nm_and, nm_xor, nm_nd, nm_one, nm_shr, nm_b2, Bool.false_eq_true, Bool.true_eq_false, not_false_eq_true, not_true_eq_false, reduceCtorEq, f1]; done) | (simp (disch := omega) only [wI_I, wI_s, nI_add, pk_mul, nI_ltI, nI_leI, nI_eq, nI_clamp, nm_or, nm_and, nm_xor, nm_nd, nm_one, nm_shr, nm_b2, Bool.false_eq_true, Bool.true_eq_false, not_false_eq_true, not_true_eq_false, reduceCtorEq, f1]; omega) | omega)) ?_)
    simp (disch := omega) only [wI_I, wI_s, nI_add, pk_mul, nI_ltI, nI_leI, nI_eq, nI_clamp, nm_or, nm_and, nm_xor, nm_nd, nm_one, nm_shr, nm_b2, Bool.false_eq_true, Bool.true_eq_false, not_false_eq_true, not_true_eq_false, reduceCtorEq, f2]
    refine wp_rIe (i_bc _ (V.lt i)) ?_
    simp (disch := omega) only [wI_I, wI_s, nI_add, pk_mul, nI_ltI, nI_leI, nI_eq, nI_clamp, nm_or, nm_and, nm_xor, nm_nd, nm_one, nm_shr, nm_b2, Bool.false_eq_true, Bool.true_eq_false, not_false_eq_true, not_true_eq_false, reduceCtorEq]
    exact wp_of (ih (i + 1) (by omega)) ⟨rfl, rfl⟩
theorem gq_count {h : MH} {f : Nat → Nat → Int32} {g n : Nat} {G : Nat → Nat} (S : GS h g) (F : GF f g n G) (V : GW n G) :
    ev M_Grid_count 0 0 [some (.ref g), none, none] [] (wI h f) = some (some (.int (nI (sm (fun r => bc (G r)) n))), wI h f) := by
  rw [r_Grid_count_0]; exact gq_count_l S F V n 0 (by omega)
theorem a_fill {h : MH} {f : Nat → Nat → Int32} {a : Nat} (s1 : hC h a = 20) (s2 : hN h a = 16) : ∀ k i, i + k = 16 →
    ev M_Arrays_fill 0 6 [some (.ref a), some (.int (nI 0)), some (.int (nI i)), some (.int (nI 16))] [] (wI h (up1 f a (fun k => if k < i then nI 0 else f a k))) = some (none, wI h (up1 f a (fun k => if k < 16 then nI 0 else f a k))) := by
  intro k
  induction k with
  | zero =>
    intro i hi
    rw [r_Arrays_fill_6]
    apply wp_e
    repeat (first | refine wp_isC (by assumption) ?_ | refine wp_nnR (by assumption) ?_ | refine wp_inA (by assumption) rfl (by omega) (by omega) ?_ | refine wp_isZ (by decide) ?_ | refine wp_bt (by (first | (simp (disch := omega) only [wI_I, wI_s, nI_add, pk_mul, nI_ltI, nI_leI, nI_eq, nI_clamp, nm_or, nm_and, nm_xor, nm_nd, nm_one, nm_shr, nm_b2, Bool.false_eq_true, Bool.true_eq_false, not_false_eq_true, not_true_eq_false, reduceCtorEq]; done) | (simp (disch := omega) only [wI_I, wI_s, nI_add, pk_mul, nI_ltI, nI_leI, nI_eq, nI_clamp, nm_or, nm_and, nm_xor, nm_nd, nm_one, nm_shr, nm_b2, Bool.false_eq_true, Bool.true_eq_false, not_false_eq_true, not_true_eq_false, reduceCtorEq]; omega) | omega)) ?_ | refine wp_bf (by (first | (simp (disch := omega) only [wI_I, wI_s, nI_add, pk_mul, nI_ltI, nI_leI, nI_eq, nI_clamp, nm_or, nm_and, nm_xor, nm_nd, nm_one, nm_shr, nm_b2, Bool.false_eq_true, Bool.true_eq_false, not_false_eq_true, not_true_eq_false, reduceCtorEq]; done) | (simp (disch := omega) only [wI_I, wI_s, nI_add, pk_mul, nI_ltI, nI_leI, nI_eq, nI_clamp, nm_or, nm_and, nm_xor, nm_nd, nm_one, nm_shr, nm_b2, Bool.false_eq_true, Bool.true_eq_false, not_false_eq_true, not_true_eq_false, reduceCtorEq]; omega) | omega)) ?_)
    rw [show i = 16 by omega]
    exact wp_s ⟨rfl, rfl⟩
  | succ k ih =>
    intro i hi
    rw [r_Arrays_fill_6]
    apply wp_e
    repeat (first | refine wp_isC (by assumption) ?_ | refine wp_nnR (by assumption) ?_ | refine wp_inA (by assumption) rfl (by omega) (by omega) ?_ | refine wp_isZ (by decide) ?_ | refine wp_bt (by (first | (simp (disch := omega) only [wI_I, wI_s, nI_add, pk_mul, nI_ltI, nI_leI, nI_eq, nI_clamp, nm_or, nm_and, nm_xor, nm_nd, nm_one, nm_shr, nm_b2, Bool.false_eq_true, Bool.true_eq_false, not_false_eq_true, not_true_eq_false, reduceCtorEq]; done) | (simp (disch := omega) only [wI_I, wI_s, nI_add, pk_mul, nI_ltI, nI_leI, nI_eq, nI_clamp, nm_or, nm_and, nm_xor, nm_nd, nm_one, nm_shr, nm_b2, Bool.false_eq_true, Bool.true_eq_false, not_false_eq_true, not_true_eq_false, reduceCtorEq]; omega) | omega)) ?_ | refine wp_bf (by (first | (simp (disch := omega) only [wI_I, wI_s, nI_add, pk_mul, nI_ltI, nI_leI, nI_eq, nI_clamp, nm_or, nm_and, nm_xor, nm_nd, nm_one, nm_shr, nm_b2, Bool.false_eq_true, Bool.true_eq_false, not_false_eq_true, not_true_eq_false, reduceCtorEq]; done) | (simp (disch := omega) only [wI_I, wI_s, nI_add, pk_mul, nI_ltI, nI_leI, nI_eq, nI_clamp, nm_or, nm_and, nm_xor, nm_nd, nm_one, nm_shr, nm_b2, Bool.false_eq_true, Bool.true_eq_false, not_false_eq_true, not_true_eq_false, reduceCtorEq]; omega) | omega)) ?_)
    simp (disch := omega) only [wI_I, wI_s, nI_add, pk_mul, nI_ltI, nI_leI, nI_eq, nI_clamp, nm_or, nm_and, nm_xor, nm_nd, nm_one, nm_shr, nm_b2, Bool.false_eq_true, Bool.true_eq_false, not_false_eq_true, not_true_eq_false, reduceCtorEq]
    refine wp_of ?_ ⟨rfl, rfl⟩
    rw [← ih (i + 1) (by omega)]
    congr 2
    funext b j
    unfold up2 up1
    by_cases q : b = a
    · rw [if_pos q, if_pos q, if_pos q]
      by_cases q2 : j = i
      · rw [if_pos q2, if_pos (by omega)]
      · rw [if_neg q2]
        by_cases q3 : j < i
        · rw [if_pos q3, if_pos (by omega)]
        · rw [if_neg q3, if_neg (by omega)]
    · rw [if_neg q, if_neg q, if_neg q]
theorem gq_clear {h : MH} {f : Nat → Nat → Int32} {g m : Nat} (S : GS h g) (hm : m ≤ 16) :
    ev M_Grid_clear 0 0 [some (.ref g), some (.int (nI m))] [] (wI h f) = some (none, wI h (gw f g m (fun _ => 0))) := by
  obtain ⟨s1, s2, s3, s4⟩ := S
  have e1 : (if nI 16 < nI m then nI 16 else nI m) = nI m := by
    rw [if_neg]; rw [nI_ltI (by omega) (by omega)]; omega
  have e2 : (if nI 0 < nI m then nI m else nI 0) = nI m := by
    by_cases q : m = 0
    · subst q; rfl
    · rw [if_pos]; rw [nI_ltI (by omega) (by omega)]; omega
  rw [r_Grid_clear_0]
  simp only [e1, e2]
  apply wp_e
  repeat (first | refine wp_isC (by assumption) ?_ | refine wp_nnR (by assumption) ?_ | refine wp_inA (by assumption) rfl (by omega) (by omega) ?_ | refine wp_isZ (by decide) ?_ | refine wp_bt (by (first | (simp (disch := omega) only [wI_I, wI_s, nI_add, pk_mul, nI_ltI, nI_leI, nI_eq, nI_clamp, nm_or, nm_and, nm_xor, nm_nd, nm_one, nm_shr, nm_b2, Bool.false_eq_true, Bool.true_eq_false, not_false_eq_true, not_true_eq_false, reduceCtorEq]; done) | (simp (disch := omega) only [wI_I, wI_s, nI_add, pk_mul, nI_ltI, nI_leI, nI_eq, nI_clamp, nm_or, nm_and, nm_xor, nm_nd, nm_one, nm_shr, nm_b2, Bool.false_eq_true, Bool.true_eq_false, not_false_eq_true, not_true_eq_false, reduceCtorEq]; omega) | omega)) ?_ | refine wp_bf (by (first | (simp (disch := omega) only [wI_I, wI_s, nI_add, pk_mul, nI_ltI, nI_leI, nI_eq, nI_clamp, nm_or, nm_and, nm_xor, nm_nd, nm_one, nm_shr, nm_b2, Bool.false_eq_true, Bool.true_eq_false, not_false_eq_true, not_true_eq_false, reduceCtorEq]; done) | (simp (disch := omega) only [wI_I, wI_s, nI_add, pk_mul, nI_ltI, nI_leI, nI_eq, nI_clamp, nm_or, nm_and, nm_xor, nm_nd, nm_one, nm_shr, nm_b2, Bool.false_eq_true, Bool.true_eq_false, not_false_eq_true, not_true_eq_false, reduceCtorEq]; omega) | omega)) ?_)
  simp (disch := omega) only [wI_I, wI_s, nI_add, pk_mul, nI_ltI, nI_leI, nI_eq, nI_clamp, nm_or, nm_and, nm_xor, nm_nd, nm_one, nm_shr, nm_b2, Bool.false_eq_true, Bool.true_eq_false, not_false_eq_true, not_true_eq_false, reduceCtorEq]
  refine wp_rVe (h := wI h (gw f g m (fun _ => 0))) ?_ (wp_s ⟨rfl, rfl⟩)
  rw [r_Arrays_fill_0]
  apply wp_e
  repeat (first | refine wp_isC (by assumption) ?_ | refine wp_nnR (by assumption) ?_ | refine wp_inA (by assumption) rfl (by omega) (by omega) ?_ | refine wp_isZ (by decide) ?_ | refine wp_bt (by (first | (simp (disch := omega) only [wI_I, wI_s, nI_add, pk_mul, nI_ltI, nI_leI, nI_eq, nI_clamp, nm_or, nm_and, nm_xor, nm_nd, nm_one, nm_shr, nm_b2, Bool.false_eq_true, Bool.true_eq_false, not_false_eq_true, not_true_eq_false, reduceCtorEq]; done) | (simp (disch := omega) only [wI_I, wI_s, nI_add, pk_mul, nI_ltI, nI_leI, nI_eq, nI_clamp, nm_or, nm_and, nm_xor, nm_nd, nm_one, nm_shr, nm_b2, Bool.false_eq_true, Bool.true_eq_false, not_false_eq_true, not_true_eq_false, reduceCtorEq]; omega) | omega)) ?_ | refine wp_bf (by (first | (simp (disch := omega) only [wI_I, wI_s, nI_add, pk_mul, nI_ltI, nI_leI, nI_eq, nI_clamp, nm_or, nm_and, nm_xor, nm_nd, nm_one, nm_shr, nm_b2, Bool.false_eq_true, Bool.true_eq_false, not_false_eq_true, not_true_eq_false, reduceCtorEq]; done) | (simp (disch := omega) only [wI_I, wI_s, nI_add, pk_mul, nI_ltI, nI_leI, nI_eq, nI_clamp, nm_or, nm_and, nm_xor, nm_nd, nm_one, nm_shr, nm_b2, Bool.false_eq_true, Bool.true_eq_false, not_false_eq_true, not_true_eq_false, reduceCtorEq]; omega) | omega)) ?_)
  simp only [wI_N, s4]
  have := a_fill (f := up2 f g 1 (nI m)) s3 s4 16 0 (by omega)
  rw [show (up1 (up2 f g 1 (nI m)) (g + 1) (fun k => if k < 0 then nI 0 else up2 f g 1 (nI m) (g + 1) k)) = up2 f g 1 (nI m) by
    funext b j; unfold up1; by_cases q : b = g + 1
    · rw [if_pos q, q]; simp
    · rw [if_neg q]] at this
  refine wp_of this ⟨rfl, congrArg (wI h) ?_⟩
  funext b j
  unfold up1 up2 gw; dsimp only
  ((repeat' split) <;> (try dsimp only) <;> (repeat' split) <;> (first | rfl | (exfalso; omega) | (subst_vars; rfl) | (subst_vars; exfalso; omega)))
theorem gq_copy {h : MH} {f : Nat → Nat → Int32} {g o n : Nat} {G : Nat → Nat} (S : GS h g) (S2 : GS h o) (d : g + 1 < o ∨ o + 1 < g) (F : GF f o n G) :
    ev M_Grid_copyFrom 0 0 [some (.ref g), some (.ref o)] [] (wI h f) = some (none, wI h (gw f g n G)) := by
  obtain ⟨s1, s2, s3, s4⟩ := S
  obtain ⟨t1, t2, t3, t4⟩ := S2
  obtain ⟨f1, f2⟩ := F
  rw [r_Grid_copyFrom_0]
  apply wp_e
  repeat (first | refine wp_isC (by assumption) ?_ | refine wp_nnR (by assumption) ?_ | refine wp_inA (by assumption) rfl (by omega) (by omega) ?_ | refine wp_isZ (by decide) ?_ | refine wp_bt (by (first | (simp (disch := omega) only [wI_I, wI_s, nI_add, pk_mul, nI_ltI, nI_leI, nI_eq, nI_clamp, nm_or, nm_and, nm_xor, nm_nd, nm_one, nm_shr, nm_b2, Bool.false_eq_true, Bool.true_eq_false, not_false_eq_true, not_true_eq_false, reduceCtorEq]; done) | (simp (disch := omega) only [wI_I, wI_s, nI_add, pk_mul, nI_ltI, nI_leI, nI_eq, nI_clamp, nm_or, nm_and, nm_xor, nm_nd, nm_one, nm_shr, nm_b2, Bool.false_eq_true, Bool.true_eq_false, not_false_eq_true, not_true_eq_false, reduceCtorEq]; omega) | omega)) ?_ | refine wp_bf (by (first | (simp (disch := omega) only [wI_I, wI_s, nI_add, pk_mul, nI_ltI, nI_leI, nI_eq, nI_clamp, nm_or, nm_and, nm_xor, nm_nd, nm_one, nm_shr, nm_b2, Bool.false_eq_true, Bool.true_eq_false, not_false_eq_true, not_true_eq_false, reduceCtorEq]; done) | (simp (disch := omega) only [wI_I, wI_s, nI_add, pk_mul, nI_ltI, nI_leI, nI_eq, nI_clamp, nm_or, nm_and, nm_xor, nm_nd, nm_one, nm_shr, nm_b2, Bool.false_eq_true, Bool.true_eq_false, not_false_eq_true, not_true_eq_false, reduceCtorEq]; omega) | omega)) ?_)
  simp only [wI_s, wI_N, wI_I, t4, s4, nI_clamp (show 16 < 2 ^ 31 by decide), nI_clamp (show 0 < 2 ^ 31 by decide)]
  refine wp_ite (by decide) (wp_s ⟨rfl, ?_⟩)
  rw [wI_c]
  refine congrArg (wI h) ?_
  funext b j
  unfold up1 gw
  by_cases q : b = g + 1
  · rw [if_pos q, if_neg (by omega)]
    by_cases q2 : j < 16
    · rw [if_pos ⟨q, q2⟩, pk_cpy_in (by omega) (by omega), up2_a (by omega), ← f2 j q2]; congr 1; omega
    · rw [if_neg (by omega), pk_cpy_out (by omega), up2_a (by omega), q]
  · rw [if_neg q]
    by_cases q2 : b = g
    · subst q2
      by_cases q3 : j = 1
      · subst q3; rw [if_pos ⟨rfl, rfl⟩, up2_s, f1]
      · rw [if_neg (by omega), if_neg (by omega), up2_k q3]
    · rw [if_neg (by omega), if_neg (by omega), up2_a q2]
theorem gq_inside {h : MH} {f : Nat → Nat → Int32} {g n a b : Nat} {G : Nat → Nat} (S : GS h g) (F : GF f g n G) (V : GW n G) (ha : a < n) (hb : b < n) :
    ev M_Grid_isInside 0 0 [some (.ref g), some (.int (nI a)), some (.int (nI b))] [] (wI h f) = some (some (.int (nI 1)), wI h f) := by
  obtain ⟨s1, s2, s3, s4⟩ := S
  obtain ⟨f1, f2⟩ := F
  have v1 := V.1
  rw [r_Grid_isInside_0]
  apply wp_e
  repeat (first | refine wp_isC (by assumption) ?_ | refine wp_nnR (by assumption) ?_ | refine wp_inA (by assumption) rfl (by omega) (by omega) ?_ | refine wp_isZ (by decide) ?_ | refine wp_bt (by (first | (simp (disch := omega) only [wI_I, wI_s, nI_add, pk_mul, nI_ltI, nI_leI, nI_eq, nI_clamp, nm_or, nm_and, nm_xor, nm_nd, nm_one, nm_shr, nm_b2, Bool.false_eq_true, Bool.true_eq_false, not_false_eq_true, not_true_eq_false, reduceCtorEq, f1]; done) | (simp (disch := omega) only [wI_I, wI_s, nI_add, pk_mul, nI_ltI, nI_leI, nI_eq, nI_clamp, nm_or, nm_and, nm_xor, nm_nd, nm_one, nm_shr, nm_b2, Bool.false_eq_true, Bool.true_eq_false, not_false_eq_true, not_true_eq_false, reduceCtorEq, f1]; omega) | omega)) ?_ | refine wp_bf (by (first | (simp (disch := omega) only [wI_I, wI_s, nI_add, pk_mul, nI_ltI, nI_leI, nI_eq, nI_clamp, nm_or, nm_and, nm_xor, nm_nd, nm_one, nm_shr, nm_b2, Bool.false_eq_true, Bool.true_eq_false, not_false_eq_true, not_true_eq_false, reduceCtorEq, f1]; done) | (simp (disch := omega) only [wI_I, wI_s, nI_add, pk_mul, nI_ltI, nI_leI, nI_eq, nI_clamp, nm_or, nm_and, nm_xor, nm_nd, nm_one, nm_shr, nm_b2, Bool.false_eq_true, Bool.true_eq_false, not_false_eq_true, not_true_eq_false, reduceCtorEq, f1]; omega) | omega)) ?_)
  exact wp_s ⟨rfl, rfl⟩
theorem gq_holds {h : MH} {f : Nat → Nat → Int32} {g n a b : Nat} {G : Nat → Nat} (S : GS h g) (F : GF f g n G) (V : GW n G) (ha : a < n) (hb : b < n) :
    ev M_Grid_holds 0 0 [some (.ref g), some (.int (nI a)), some (.int (nI b))] [] (wI h f) = some (some (.int (nI ((G a).testBit b).toNat)), wI h f) := by
  have e := gq_inside S F V ha hb
  have v1 := V.1
  have v2 := V.lt a
  obtain ⟨s1, s2, s3, s4⟩ := S
  obtain ⟨f1, f2⟩ := F
  rw [r_Grid_holds_0]
  apply wp_e
  repeat (first | refine wp_isC (by assumption) ?_ | refine wp_nnR (by assumption) ?_ | refine wp_inA (by assumption) rfl (by omega) (by omega) ?_ | refine wp_isZ (by decide) ?_ | refine wp_bt (by (first | (simp (disch := omega) only [wI_I, wI_s, nI_add, pk_mul, nI_ltI, nI_leI, nI_eq, nI_clamp, nm_or, nm_and, nm_xor, nm_nd, nm_one, nm_shr, nm_b2, Bool.false_eq_true, Bool.true_eq_false, not_false_eq_true, not_true_eq_false, reduceCtorEq, f1]; done) | (simp (disch := omega) only [wI_I, wI_s, nI_add, pk_mul, nI_ltI, nI_leI, nI_eq, nI_clamp, nm_or, nm_and, nm_xor, nm_nd, nm_one, nm_shr, nm_b2, Bool.false_eq_true, Bool.true_eq_false, not_false_eq_true, not_true_eq_false, reduceCtorEq, f1]; omega) | omega)) ?_ | refine wp_bf (by (first | (simp (disch := omega) only [wI_I, wI_s, nI_add, pk_mul, nI_ltI, nI_leI, nI_eq, nI_clamp, nm_or, nm_and, nm_xor, nm_nd, nm_one, nm_shr, nm_b2, Bool.false_eq_true, Bool.true_eq_false, not_false_eq_true, not_true_eq_false, reduceCtorEq, f1]; done) | (simp (disch := omega) only [wI_I, wI_s, nI_add, pk_mul, nI_ltI, nI_leI, nI_eq, nI_clamp, nm_or, nm_and, nm_xor, nm_nd, nm_one, nm_shr, nm_b2, Bool.false_eq_true, Bool.true_eq_false, not_false_eq_true, not_true_eq_false, reduceCtorEq, f1]; omega) | omega)) ?_)
  refine wp_rIe e ?_
  repeat (first | refine wp_isC (by assumption) ?_ | refine wp_nnR (by assumption) ?_ | refine wp_inA (by assumption) rfl (by omega) (by omega) ?_ | refine wp_isZ (by decide) ?_ | refine wp_bt (by (first | (simp (disch := omega) only [wI_I, wI_s, nI_add, pk_mul, nI_ltI, nI_leI, nI_eq, nI_clamp, nm_or, nm_and, nm_xor, nm_nd, nm_one, nm_shr, nm_b2, Bool.false_eq_true, Bool.true_eq_false, not_false_eq_true, not_true_eq_false, reduceCtorEq, f1]; done) | (simp (disch := omega) only [wI_I, wI_s, nI_add, pk_mul, nI_ltI, nI_leI, nI_eq, nI_clamp, nm_or, nm_and, nm_xor, nm_nd, nm_one, nm_shr, nm_b2, Bool.false_eq_true, Bool.true_eq_false, not_false_eq_true, not_true_eq_false, reduceCtorEq, f1]; omega) | omega)) ?_ | refine wp_bf (by (first | (simp (disch := omega) only [wI_I, wI_s, nI_add, pk_mul, nI_ltI, nI_leI, nI_eq, nI_clamp, nm_or, nm_and, nm_xor, nm_nd, nm_one, nm_shr, nm_b2, Bool.false_eq_true, Bool.true_eq_false, not_false_eq_true, not_true_eq_false, reduceCtorEq, f1]; done) | (simp (disch := omega) only [wI_I, wI_s, nI_add, pk_mul, nI_ltI, nI_leI, nI_eq, nI_clamp, nm_or, nm_and, nm_xor, nm_nd, nm_one, nm_shr, nm_b2, Bool.false_eq_true, Bool.true_eq_false, not_false_eq_true, not_true_eq_false, reduceCtorEq, f1]; omega) | omega)) ?_)
  simp (disch := omega) only [wI_I, wI_s, nI_add, pk_mul, nI_ltI, nI_leI, nI_eq, nI_clamp, nm_or, nm_and, nm_xor, nm_nd, nm_one, nm_shr, nm_b2, Bool.false_eq_true, Bool.true_eq_false, not_false_eq_true, not_true_eq_false, reduceCtorEq, f2]
  cases q : (G a).testBit b with
  | true => repeat (first | refine wp_isC (by assumption) ?_ | refine wp_nnR (by assumption) ?_ | refine wp_inA (by assumption) rfl (by omega) (by omega) ?_ | refine wp_isZ (by decide) ?_ | refine wp_bt (by (first | (simp (disch := omega) only [wI_I, wI_s, nI_add, pk_mul, nI_ltI, nI_leI, nI_eq, nI_clamp, nm_or, nm_and, nm_xor, nm_nd, nm_one, nm_shr, nm_b2, Bool.false_eq_true, Bool.true_eq_false, not_false_eq_true, not_true_eq_false, reduceCtorEq, q]; done) | (simp (disch := omega) only [wI_I, wI_s, nI_add, pk_mul, nI_ltI, nI_leI, nI_eq, nI_clamp, nm_or, nm_and, nm_xor, nm_nd, nm_one, nm_shr, nm_b2, Bool.false_eq_true, Bool.true_eq_false, not_false_eq_true, not_true_eq_false, reduceCtorEq, q]; omega) | omega)) ?_ | refine wp_bf (by (first | (simp (disch := omega) only [wI_I, wI_s, nI_add, pk_mul, nI_ltI, nI_leI, nI_eq, nI_clamp, nm_or, nm_and, nm_xor, nm_nd, nm_one, nm_shr, nm_b2, Bool.false_eq_true, Bool.true_eq_false, not_false_eq_true, not_true_eq_false, reduceCtorEq, q]; done) | (simp (disch := omega) only [wI_I, wI_s, nI_add, pk_mul, nI_ltI, nI_leI, nI_eq, nI_clamp, nm_or, nm_and, nm_xor, nm_nd, nm_one, nm_shr, nm_b2, Bool.false_eq_true, Bool.true_eq_false, not_false_eq_true, not_true_eq_false, reduceCtorEq, q]; omega) | omega)) ?_); exact wp_s ⟨rfl, rfl⟩
  | false => repeat (first | refine wp_isC (by assumption) ?_ | refine wp_nnR (by assumption) ?_ | refine wp_inA (by assumption) rfl (by omega) (by omega) ?_ | refine wp_isZ (by decide) ?_ | refine wp_bt (by (first | (simp (disch := omega) only [wI_I, wI_s, nI_add, pk_mul, nI_ltI, nI_leI, nI_eq, nI_clamp, nm_or, nm_and, nm_xor, nm_nd, nm_one, nm_shr, nm_b2, Bool.false_eq_true, Bool.true_eq_false, not_false_eq_true, not_true_eq_false, reduceCtorEq, q]; done) | (simp (disch := omega) only [wI_I, wI_s, nI_add, pk_mul, nI_ltI, nI_leI, nI_eq, nI_clamp, nm_or, nm_and, nm_xor, nm_nd, nm_one, nm_shr, nm_b2, Bool.false_eq_true, Bool.true_eq_false, not_false_eq_true, not_true_eq_false, reduceCtorEq, q]; omega) | omega)) ?_ | refine wp_bf (by (first | (simp (disch := omega) only [wI_I, wI_s, nI_add, pk_mul, nI_ltI, nI_leI, nI_eq, nI_clamp, nm_or, nm_and, nm_xor, nm_nd, nm_one, nm_shr, nm_b2, Bool.false_eq_true, Bool.true_eq_false, not_false_eq_true, not_true_eq_false, reduceCtorEq, q]; done) | (simp (disch := omega) only [wI_I, wI_s, nI_add, pk_mul, nI_ltI, nI_leI, nI_eq, nI_clamp, nm_or, nm_and, nm_xor, nm_nd, nm_one, nm_shr, nm_b2, Bool.false_eq_true, Bool.true_eq_false, not_false_eq_true, not_true_eq_false, reduceCtorEq, q]; omega) | omega)) ?_); exact wp_s ⟨rfl, rfl⟩
theorem gq_turn {h : MH} {f : Nat → Nat → Int32} {g n a b : Nat} {G : Nat → Nat} (S : GS h g) (F : GF f g n G) (V : GW n G) (ha : a < n) (hb : b < n) :
    ev M_Grid_turn 0 0 [some (.ref g), some (.int (nI a)), some (.int (nI b))] [] (wI h f) = some (none, wI h (gw f g n (fun k => if k = a then G a ^^^ 2 ^ b else G k))) := by
  have e := gq_inside S F V ha hb
  have v1 := V.1
  have e2 := gw_s F
  obtain ⟨s1, s2, s3, s4⟩ := S
  obtain ⟨f1, f2⟩ := F
  rw [r_Grid_turn_0]
  apply wp_e
  repeat (first | refine wp_isC (by assumption) ?_ | refine wp_nnR (by assumption) ?_ | refine wp_inA (by assumption) rfl (by omega) (by omega) ?_ | refine wp_isZ (by decide) ?_ | refine wp_bt (by (first | (simp (disch := omega) only [wI_I, wI_s, nI_add, pk_mul, nI_ltI, nI_leI, nI_eq, nI_clamp, nm_or, nm_and, nm_xor, nm_nd, nm_one, nm_shr, nm_b2, Bool.false_eq_true, Bool.true_eq_false, not_false_eq_true, not_true_eq_false, reduceCtorEq, f1]; done) | (simp (disch := omega) only [wI_I, wI_s, nI_add, pk_mul, nI_ltI, nI_leI, nI_eq, nI_clamp, nm_or, nm_and, nm_xor, nm_nd, nm_one, nm_shr, nm_b2, Bool.false_eq_true, Bool.true_eq_false, not_false_eq_true, not_true_eq_false, reduceCtorEq, f1]; omega) | omega)) ?_ | refine wp_bf (by (first | (simp (disch := omega) only [wI_I, wI_s, nI_add, pk_mul, nI_ltI, nI_leI, nI_eq, nI_clamp, nm_or, nm_and, nm_xor, nm_nd, nm_one, nm_shr, nm_b2, Bool.false_eq_true, Bool.true_eq_false, not_false_eq_true, not_true_eq_false, reduceCtorEq, f1]; done) | (simp (disch := omega) only [wI_I, wI_s, nI_add, pk_mul, nI_ltI, nI_leI, nI_eq, nI_clamp, nm_or, nm_and, nm_xor, nm_nd, nm_one, nm_shr, nm_b2, Bool.false_eq_true, Bool.true_eq_false, not_false_eq_true, not_true_eq_false, reduceCtorEq, f1]; omega) | omega)) ?_)
  refine wp_rIe e ?_
  repeat (first | refine wp_isC (by assumption) ?_ | refine wp_nnR (by assumption) ?_ | refine wp_inA (by assumption) rfl (by omega) (by omega) ?_ | refine wp_isZ (by decide) ?_ | refine wp_bt (by (first | (simp (disch := omega) only [wI_I, wI_s, nI_add, pk_mul, nI_ltI, nI_leI, nI_eq, nI_clamp, nm_or, nm_and, nm_xor, nm_nd, nm_one, nm_shr, nm_b2, Bool.false_eq_true, Bool.true_eq_false, not_false_eq_true, not_true_eq_false, reduceCtorEq, f1]; done) | (simp (disch := omega) only [wI_I, wI_s, nI_add, pk_mul, nI_ltI, nI_leI, nI_eq, nI_clamp, nm_or, nm_and, nm_xor, nm_nd, nm_one, nm_shr, nm_b2, Bool.false_eq_true, Bool.true_eq_false, not_false_eq_true, not_true_eq_false, reduceCtorEq, f1]; omega) | omega)) ?_ | refine wp_bf (by (first | (simp (disch := omega) only [wI_I, wI_s, nI_add, pk_mul, nI_ltI, nI_leI, nI_eq, nI_clamp, nm_or, nm_and, nm_xor, nm_nd, nm_one, nm_shr, nm_b2, Bool.false_eq_true, Bool.true_eq_false, not_false_eq_true, not_true_eq_false, reduceCtorEq, f1]; done) | (simp (disch := omega) only [wI_I, wI_s, nI_add, pk_mul, nI_ltI, nI_leI, nI_eq, nI_clamp, nm_or, nm_and, nm_xor, nm_nd, nm_one, nm_shr, nm_b2, Bool.false_eq_true, Bool.true_eq_false, not_false_eq_true, not_true_eq_false, reduceCtorEq, f1]; omega) | omega)) ?_)
  simp (disch := omega) only [wI_I, wI_s, nI_add, pk_mul, nI_ltI, nI_leI, nI_eq, nI_clamp, nm_or, nm_and, nm_xor, nm_nd, nm_one, nm_shr, nm_b2, Bool.false_eq_true, Bool.true_eq_false, not_false_eq_true, not_true_eq_false, reduceCtorEq, f2]
  refine wp_s ⟨rfl, ?_⟩
  rw [← gw_u (by omega), e2]
theorem gq_add {h : MH} {f : Nat → Nat → Int32} {g n a b : Nat} {G : Nat → Nat} (S : GS h g) (F : GF f g n G) (V : GW n G) (ha : a < n) (hb : b < n) :
    ev M_Grid_add 0 0 [some (.ref g), some (.int (nI a)), some (.int (nI b))] [] (wI h f) = some (none, wI h (gw f g n (fun k => if k = a then G a ||| 2 ^ b else G k))) := by
  have e := gq_inside S F V ha hb
  have v1 := V.1
  have e2 := gw_s F
  obtain ⟨s1, s2, s3, s4⟩ := S
  obtain ⟨f1, f2⟩ := F
  rw [r_Grid_add_0]
  apply wp_e
  repeat (first | refine wp_isC (by assumption) ?_ | refine wp_nnR (by assumption) ?_ | refine wp_inA (by assumption) rfl (by omega) (by omega) ?_ | refine wp_isZ (by decide) ?_ | refine wp_bt (by (first | (simp (disch := omega) only [wI_I, wI_s, nI_add, pk_mul, nI_ltI, nI_leI, nI_eq, nI_clamp, nm_or, nm_and, nm_xor, nm_nd, nm_one, nm_shr, nm_b2, Bool.false_eq_true, Bool.true_eq_false, not_false_eq_true, not_true_eq_false, reduceCtorEq, f1]; done) | (simp (disch := omega) only [wI_I, wI_s, nI_add, pk_mul, nI_ltI, nI_leI, nI_eq, nI_clamp, nm_or, nm_and, nm_xor, nm_nd, nm_one, nm_shr, nm_b2, Bool.false_eq_true, Bool.true_eq_false, not_false_eq_true, not_true_eq_false, reduceCtorEq, f1]; omega) | omega)) ?_ | refine wp_bf (by (first | (simp (disch := omega) only [wI_I, wI_s, nI_add, pk_mul, nI_ltI, nI_leI, nI_eq, nI_clamp, nm_or, nm_and, nm_xor, nm_nd, nm_one, nm_shr, nm_b2, Bool.false_eq_true, Bool.true_eq_false, not_false_eq_true, not_true_eq_false, reduceCtorEq, f1]; done) | (simp (disch := omega) only [wI_I, wI_s, nI_add, pk_mul, nI_ltI, nI_leI, nI_eq, nI_clamp, nm_or, nm_and, nm_xor, nm_nd, nm_one, nm_shr, nm_b2, Bool.false_eq_true, Bool.true_eq_false, not_false_eq_true, not_true_eq_false, reduceCtorEq, f1]; omega) | omega)) ?_)
  refine wp_rIe e ?_
  repeat (first | refine wp_isC (by assumption) ?_ | refine wp_nnR (by assumption) ?_ | refine wp_inA (by assumption) rfl (by omega) (by omega) ?_ | refine wp_isZ (by decide) ?_ | refine wp_bt (by (first | (simp (disch := omega) only [wI_I, wI_s, nI_add, pk_mul, nI_ltI, nI_leI, nI_eq, nI_clamp, nm_or, nm_and, nm_xor, nm_nd, nm_one, nm_shr, nm_b2, Bool.false_eq_true, Bool.true_eq_false, not_false_eq_true, not_true_eq_false, reduceCtorEq, f1]; done) | (simp (disch := omega) only [wI_I, wI_s, nI_add, pk_mul, nI_ltI, nI_leI, nI_eq, nI_clamp, nm_or, nm_and, nm_xor, nm_nd, nm_one, nm_shr, nm_b2, Bool.false_eq_true, Bool.true_eq_false, not_false_eq_true, not_true_eq_false, reduceCtorEq, f1]; omega) | omega)) ?_ | refine wp_bf (by (first | (simp (disch := omega) only [wI_I, wI_s, nI_add, pk_mul, nI_ltI, nI_leI, nI_eq, nI_clamp, nm_or, nm_and, nm_xor, nm_nd, nm_one, nm_shr, nm_b2, Bool.false_eq_true, Bool.true_eq_false, not_false_eq_true, not_true_eq_false, reduceCtorEq, f1]; done) | (simp (disch := omega) only [wI_I, wI_s, nI_add, pk_mul, nI_ltI, nI_leI, nI_eq, nI_clamp, nm_or, nm_and, nm_xor, nm_nd, nm_one, nm_shr, nm_b2, Bool.false_eq_true, Bool.true_eq_false, not_false_eq_true, not_true_eq_false, reduceCtorEq, f1]; omega) | omega)) ?_)
  simp (disch := omega) only [wI_I, wI_s, nI_add, pk_mul, nI_ltI, nI_leI, nI_eq, nI_clamp, nm_or, nm_and, nm_xor, nm_nd, nm_one, nm_shr, nm_b2, Bool.false_eq_true, Bool.true_eq_false, not_false_eq_true, not_true_eq_false, reduceCtorEq, f2]
  refine wp_s ⟨rfl, ?_⟩
  rw [← gw_u (by omega), e2]
