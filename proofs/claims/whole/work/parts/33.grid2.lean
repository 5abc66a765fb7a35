/-! Sets of columns and rows, and the grids' other methods. -/
def orr (F : Nat → Nat) : Nat → Nat
  | 0 => 0
  | k + 1 => orr F k ||| F k
theorem orr_t {F : Nat → Nat} {i : Nat} : ∀ {n : Nat}, (orr F n).testBit i = true ↔ ∃ r, r < n ∧ (F r).testBit i = true
  | 0 => by simp [orr]
  | n + 1 => by
    rw [orr, Nat.testBit_or, Bool.or_eq_true, orr_t (n := n)]
    constructor
    · rintro (⟨r, h1, h2⟩ | h)
      · exact ⟨r, by omega, h2⟩
      · exact ⟨n, by omega, h⟩
    · rintro ⟨r, h1, h2⟩
      by_cases q : r = n
      · subst q; exact Or.inr h2
      · exact Or.inl ⟨r, by omega, h2⟩
theorem orr_lt {F : Nat → Nat} {m : Nat} : ∀ {n : Nat}, (∀ r, r < n → F r < 2 ^ m) → orr F n < 2 ^ m
  | 0, _ => Nat.two_pow_pos m
  | n + 1, h => by
    rw [orr]
    exact Nat.or_lt_two_pow (orr_lt (fun r hr => h r (by omega))) (h n (by omega))
theorem orr_c {F G : Nat → Nat} : ∀ {n : Nat}, (∀ k, k < n → F k = G k) → orr F n = orr G n
  | 0, _ => rfl
  | n + 1, h => by rw [orr, orr, orr_c (fun k hk => h k (Nat.lt_succ_of_lt hk)), h n (Nat.lt_succ_self n)]
theorem orr_z {F : Nat → Nat} {m : Nat} : ∀ {n : Nat}, m ≤ n → (∀ k, m ≤ k → k < n → F k = 0) → orr F n = orr F m
  | 0, h, _ => by rw [show m = 0 by omega]
  | n + 1, h, hz => by
    by_cases q : m = n + 1
    · rw [q]
    · rw [orr, orr_z (n := n) (by omega) (fun k h1 h2 => hz k h1 (by omega)), hz n (by omega) (by omega), Nat.or_zero]
/-- the columns of the rows of a set; the rows that have a column -/
def sf (n : Nat) (G : Nat → Nat) (s : Nat) : Nat := orr (fun r => if s.testBit r then G r else 0) n
def cs (n : Nat) (G : Nat → Nat) (c : Nat) : Nat := orr (fun r => if (G r).testBit c then 2 ^ r else 0) n
theorem sf_lt {n s m : Nat} {G : Nat → Nat} (h : ∀ r, G r < 2 ^ m) : sf n G s < 2 ^ m := by
  apply orr_lt; intro r _; split
  · exact h r
  · exact Nat.two_pow_pos m
theorem cs_lt {n c : Nat} {G : Nat → Nat} : cs n G c < 2 ^ n := by
  apply orr_lt; intro r hr; split
  · exact Nat.pow_lt_pow_right (by decide) hr
  · exact Nat.two_pow_pos n
theorem sf_t {n s i : Nat} {G : Nat → Nat} : (sf n G s).testBit i = true ↔ ∃ r, r < n ∧ s.testBit r = true ∧ (G r).testBit i = true := by
  unfold sf; rw [orr_t]
  constructor
  · rintro ⟨r, h1, h2⟩
    by_cases q : s.testBit r = true
    · rw [if_pos q] at h2; exact ⟨r, h1, q, h2⟩
    · rw [if_neg q] at h2; simp at h2
  · rintro ⟨r, h1, h2, h3⟩
    exact ⟨r, h1, by rw [if_pos h2]; exact h3⟩
theorem cs_t {n c i : Nat} {G : Nat → Nat} : (cs n G c).testBit i = true ↔ i < n ∧ (G i).testBit c = true := by
  unfold cs; rw [orr_t]
  constructor
  · rintro ⟨r, h1, h2⟩
    by_cases q : (G r).testBit c = true
    · rw [if_pos q, Nat.testBit_two_pow] at h2
      have : r = i := by simpa using h2
      subst this; exact ⟨h1, q⟩
    · rw [if_neg q] at h2; simp at h2
  · rintro ⟨h1, h2⟩
    exact ⟨i, h1, by rw [if_pos h2, Nat.testBit_two_pow]; simp⟩
theorem gq_step_l {h : MH} {f : Nat → Nat → Int32} {g n s : Nat} {G : Nat → Nat} (S : GS h g) (F : GF f g n G) (V : GW n G) (hs : s < 2 ^ 16) : ∀ k i, i + k = n →
    ev M_Grid_stepFrom 0 5 [some (.ref g), some (.int (nI s)), some (.int (nI (orr (fun r => if s.testBit r then G r else 0) i))), some (.int (nI i))] [] (wI h f) = some (some (.int (nI (sf n G s))), wI h f) := by
  obtain ⟨s1, s2, s3, s4⟩ := S
  obtain ⟨f1, f2⟩ := F
  have v1 := V.1
  intro k
  induction k with
  | zero =>
    intro i hi
    rw [r_Grid_stepFrom_5]
    apply wp_e
    repeat (first | refine wp_isC (by assumption) ?_ | refine wp_nnR (by assumption) ?_ | refine wp_inA (by assumption) rfl (by omega) (by omega) ?_ | refine wp_isZ (by decide) ?_ | refine wp_bt (by (first | (simp (disch := omega) only [wI_I, wI_s, nI_add, pk_mul, nI_ltI, nI_leI, nI_eq, nI_clamp, nm_or, nm_and, nm_xor, nm_nd, nm_one, nm_shr, nm_b2, Bool.false_eq_true, Bool.true_eq_false, not_false_eq_true, not_true_eq_false, reduceCtorEq, f1]; done) | (simp (disch := omega) only [wI_I, wI_s, nI_add, pk_mul, nI_ltI, nI_leI, nI_eq, nI_clamp, nm_or, nm_and, nm_xor, nm_nd, nm_one, nm_shr, nm_b2, Bool.false_eq_true, Bool.true_eq_false, not_false_eq_true, not_true_eq_false, reduceCtorEq, f1]; omega) | omega)) ?_ | refine wp_bf (by (first | (simp (disch := omega) only [wI_I, wI_s, nI_add, pk_mul, nI_ltI, nI_leI, nI_eq, nI_clamp, nm_or, nm_and, nm_xor, nm_nd, nm_one, nm_shr, nm_b2, Bool.false_eq_true, Bool.true_eq_false, not_false_eq_true, not_true_eq_false, reduceCtorEq, f1]; done) | (simp (disch := omega) only [wI_I, wI_s, nI_add, pk_mul, nI_ltI, nI_leI, nI_eq, nI_clamp, nm_or, nm_and, nm_xor, nm_nd, nm_one, nm_shr, nm_b2, Bool.false_eq_true, Bool.true_eq_false, not_false_eq_true, not_true_eq_false, reduceCtorEq, f1]; omega) | omega)) ?_)
    refine wp_s ⟨?_, rfl⟩
    rw [show i = n by omega]; rfl
  | succ k ih =>
    intro i hi
    have ih := ih (i + 1) (by omega)
    rw [orr] at ih
    rw [r_Grid_stepFrom_5]
    apply wp_e
    simp only [r_Grid_stepFrom_24]
    cases q : s.testBit i with
    | true =>
      rw [if_pos q] at ih
      repeat (first | refine wp_isC (by assumption) ?_ | refine wp_nnR (by assumption) ?_ | refine wp_inA (by assumption) rfl (by omega) (by omega) ?_ | refine wp_isZ (by decide) ?_ | refine wp_bt (by (first | (simp (disch := omega) only [wI_I, wI_s, nI_add, pk_mul, nI_ltI, nI_leI, nI_eq, nI_clamp, nm_or, nm_and, nm_xor, nm_nd, nm_one, nm_shr, nm_b2, Bool.false_eq_true, Bool.true_eq_false, not_false_eq_true, not_true_eq_false, reduceCtorEq, f1, q]; done) | (simp (disch := omega) only [wI_I, wI_s, nI_add, pk_mul, nI_ltI, nI_leI, nI_eq, nI_clamp, nm_or, nm_and, nm_xor, nm_nd, nm_one, nm_shr, nm_b2, Bool.false_eq_true, Bool.true_eq_false, not_false_eq_true, not_true_eq_false, reduceCtorEq, f1, q]; omega) | omega)) ?_ | refine wp_bf (by (first | (simp (disch := omega) only [wI_I, wI_s, nI_add, pk_mul, nI_ltI, nI_leI, nI_eq, nI_clamp, nm_or, nm_and, nm_xor, nm_nd, nm_one, nm_shr, nm_b2, Bool.false_eq_true, Bool.true_eq_false, not_false_eq_true, not_true_eq_false, reduceCtorEq, f1, q]; done) | (simp (disch := omega) only [wI_I, wI_s, nI_add, pk_mul, nI_ltI, nI_leI, nI_eq, nI_clamp, nm_or, nm_and, nm_xor, nm_nd, nm_one, nm_shr, nm_b2, Bool.false_eq_true, Bool.true_eq_false, not_false_eq_true, not_true_eq_false, reduceCtorEq, f1, q]; omega) | omega)) ?_)
      simp (disch := omega) only [wI_I, wI_s, nI_add, pk_mul, nI_ltI, nI_leI, nI_eq, nI_clamp, nm_or, nm_and, nm_xor, nm_nd, nm_one, nm_shr, nm_b2, Bool.false_eq_true, Bool.true_eq_false, not_false_eq_true, not_true_eq_false, reduceCtorEq, f2]
      exact wp_of ih ⟨rfl, rfl⟩
    | false =>
      rw [if_neg (by rw [q]; decide), Nat.or_zero] at ih
      repeat (first | refine wp_isC (by assumption) ?_ | refine wp_nnR (by assumption) ?_ | refine wp_inA (by assumption) rfl (by omega) (by omega) ?_ | refine wp_isZ (by decide) ?_ | refine wp_bt (by (first | (simp (disch := omega) only [wI_I, wI_s, nI_add, pk_mul, nI_ltI, nI_leI, nI_eq, nI_clamp, nm_or, nm_and, nm_xor, nm_nd, nm_one, nm_shr, nm_b2, Bool.false_eq_true, Bool.true_eq_false, not_false_eq_true, not_true_eq_false, reduceCtorEq, f1, q]; done) | (simp (disch := omega) only [wI_I, wI_s, nI_add, pk_mul, nI_ltI, nI_leI, nI_eq, nI_clamp, nm_or, nm_and, nm_xor, nm_nd, nm_one, nm_shr, nm_b2, Bool.false_eq_true, Bool.true_eq_false, not_false_eq_true, not_true_eq_false, reduceCtorEq, f1, q]; omega) | omega)) ?_ | refine wp_bf (by (first | (simp (disch := omega) only [wI_I, wI_s, nI_add, pk_mul, nI_ltI, nI_leI, nI_eq, nI_clamp, nm_or, nm_and, nm_xor, nm_nd, nm_one, nm_shr, nm_b2, Bool.false_eq_true, Bool.true_eq_false, not_false_eq_true, not_true_eq_false, reduceCtorEq, f1, q]; done) | (simp (disch := omega) only [wI_I, wI_s, nI_add, pk_mul, nI_ltI, nI_leI, nI_eq, nI_clamp, nm_or, nm_and, nm_xor, nm_nd, nm_one, nm_shr, nm_b2, Bool.false_eq_true, Bool.true_eq_false, not_false_eq_true, not_true_eq_false, reduceCtorEq, f1, q]; omega) | omega)) ?_)
      simp (disch := omega) only [wI_I, wI_s, nI_add, pk_mul, nI_ltI, nI_leI, nI_eq, nI_clamp, nm_or, nm_and, nm_xor, nm_nd, nm_one, nm_shr, nm_b2, Bool.false_eq_true, Bool.true_eq_false, not_false_eq_true, not_true_eq_false, reduceCtorEq, f2]
      exact wp_of ih ⟨rfl, rfl⟩
theorem gq_step {h : MH} {f : Nat → Nat → Int32} {g n s : Nat} {G : Nat → Nat} (S : GS h g) (F : GF f g n G) (V : GW n G) (hs : s < 2 ^ 16) :
    ev M_Grid_stepFrom 0 0 [some (.ref g), some (.int (nI s)), none, none] [] (wI h f) = some (some (.int (nI (sf n G s))), wI h f) := by
  rw [r_Grid_stepFrom_0]; exact gq_step_l S F V hs n 0 (by omega)
theorem gq_with_l {h : MH} {f : Nat → Nat → Int32} {g n c : Nat} {G : Nat → Nat} (S : GS h g) (F : GF f g n G) (V : GW n G) (hc : c < 16) : ∀ k i, i + k = n →
    ev M_Grid_rowsWith 0 5 [some (.ref g), some (.int (nI c)), some (.int (nI (orr (fun r => if (G r).testBit c then 2 ^ r else 0) i))), some (.int (nI i))] [] (wI h f) = some (some (.int (nI (cs n G c))), wI h f) := by
  obtain ⟨s1, s2, s3, s4⟩ := S
  obtain ⟨f1, f2⟩ := F
  have v1 := V.1
  intro k
  induction k with
  | zero =>
    intro i hi
    rw [r_Grid_rowsWith_5]
    apply wp_e
    repeat (first | refine wp_isC (by assumption) ?_ | refine wp_nnR (by assumption) ?_ | refine wp_inA (by assumption) rfl (by omega) (by omega) ?_ | refine wp_isZ (by decide) ?_ | refine wp_bt (by (first | (simp (disch := omega) only [wI_I, wI_s, nI_add, pk_mul, nI_ltI, nI_leI, nI_eq, nI_clamp, nm_or, nm_and, nm_xor, nm_nd, nm_one, nm_shr, nm_b2, Bool.false_eq_true, Bool.true_eq_false, not_false_eq_true, not_true_eq_false, reduceCtorEq, f1]; done) | (simp (disch := omega) only [wI_I, wI_s, nI_add, pk_mul, nI_ltI, nI_leI, nI_eq, nI_clamp, nm_or, nm_and, nm_xor, nm_nd, nm_one, nm_shr, nm_b2, Bool.false_eq_true, Bool.true_eq_false, not_false_eq_true, not_true_eq_false, reduceCtorEq, f1]; omega) | omega)) ?_ | refine wp_bf (by (first | (simp (disch := omega) only [wI_I, wI_s, nI_add, pk_mul, nI_ltI, nI_leI, nI_eq, nI_clamp, nm_or, nm_and, nm_xor, nm_nd, nm_one, nm_shr, nm_b2, Bool.false_eq_true, Bool.true_eq_false, not_false_eq_true, not_true_eq_false, reduceCtorEq, f1]; done) | (simp (disch := omega) only [wI_I, wI_s, nI_add, pk_mul, nI_ltI, nI_leI, nI_eq, nI_clamp, nm_or, nm_and, nm_xor, nm_nd, nm_one, nm_shr, nm_b2, Bool.false_eq_true, Bool.true_eq_false, not_false_eq_true, not_true_eq_false, reduceCtorEq, f1]; omega) | omega)) ?_)
    refine wp_s ⟨?_, rfl⟩
    rw [show i = n by omega]; rfl
  | succ k ih =>
    intro i hi
    have ih := ih (i + 1) (by omega)
    have v2 := V.lt i
    rw [orr] at ih
    rw [r_Grid_rowsWith_5]
    apply wp_e
    simp only [r_Grid_rowsWith_26]
    cases q : (G i).testBit c with
    | true =>
      rw [if_pos q] at ih
      repeat (first | refine wp_isC (by assumption) ?_ | refine wp_nnR (by assumption) ?_ | refine wp_inA (by assumption) rfl (by omega) (by omega) ?_ | refine wp_isZ (by decide) ?_ | refine wp_bt (by (first | (simp (disch := omega) only [wI_I, wI_s, nI_add, pk_mul, nI_ltI, nI_leI, nI_eq, nI_clamp, nm_or, nm_and, nm_xor, nm_nd, nm_one, nm_shr, nm_b2, Bool.false_eq_true, Bool.true_eq_false, not_false_eq_true, not_true_eq_false, reduceCtorEq, f1, f2, q]; done) | (simp (disch := omega) only [wI_I, wI_s, nI_add, pk_mul, nI_ltI, nI_leI, nI_eq, nI_clamp, nm_or, nm_and, nm_xor, nm_nd, nm_one, nm_shr, nm_b2, Bool.false_eq_true, Bool.true_eq_false, not_false_eq_true, not_true_eq_false, reduceCtorEq, f1, f2, q]; omega) | omega)) ?_ | refine wp_bf (by (first | (simp (disch := omega) only [wI_I, wI_s, nI_add, pk_mul, nI_ltI, nI_leI, nI_eq, nI_clamp, nm_or, nm_and, nm_xor, nm_nd, nm_one, nm_shr, nm_b2, Bool.false_eq_true, Bool.true_eq_false, not_false_eq_true, not_true_eq_false, reduceCtorEq, f1, f2, q]; done) | (simp (disch := omega) only [wI_I, wI_s, nI_add, pk_mul, nI_ltI, nI_leI, nI_eq, nI_clamp, nm_or, nm_and, nm_xor, nm_nd, nm_one, nm_shr, nm_b2, Bool.false_eq_true, Bool.true_eq_false, not_false_eq_true, not_true_eq_false, reduceCtorEq, f1, f2, q]; omega) | omega)) ?_)
      simp (disch := omega) only [wI_I, wI_s, nI_add, pk_mul, nI_ltI, nI_leI, nI_eq, nI_clamp, nm_or, nm_and, nm_xor, nm_nd, nm_one, nm_shr, nm_b2, Bool.false_eq_true, Bool.true_eq_false, not_false_eq_true, not_true_eq_false, reduceCtorEq, f2]
      exact wp_of ih ⟨rfl, rfl⟩
    | false =>
      rw [if_neg (by rw [q]; decide), Nat.or_zero] at ih
      repeat (first | refine wp_isC (by assumption) ?_ | refine wp_nnR (by assumption) ?_ | refine wp_inA (by assumption) rfl (by omega) (by omega) ?_ | refine wp_isZ (by decide) ?_ | refine wp_bt (by (first | (simp (disch := omega) only [wI_I, wI_s, nI_add, pk_mul, nI_ltI, nI_leI, nI_eq, nI_clamp, nm_or, nm_and, nm_xor, nm_nd, nm_one, nm_shr, nm_b2, Bool.false_eq_true, Bool.true_eq_false, not_false_eq_true, not_true_eq_false, reduceCtorEq, f1, f2, q]; done) | (simp (disch := omega) only [wI_I, wI_s, nI_add, pk_mul, nI_ltI, nI_leI, nI_eq, nI_clamp, nm_or, nm_and, nm_xor, nm_nd, nm_one, nm_shr, nm_b2, Bool.false_eq_true, Bool.true_eq_false, not_false_eq_true, not_true_eq_false, reduceCtorEq, f1, f2, q]; omega) | omega)) ?_ | refine wp_bf (by (first | (simp (disch := omega) only [wI_I, wI_s, nI_add, pk_mul, nI_ltI, nI_leI, nI_eq, nI_clamp, nm_or, nm_and, nm_xor, nm_nd, nm_one, nm_shr, nm_b2, Bool.false_eq_true, Bool.true_eq_false, not_false_eq_true, not_true_eq_false, reduceCtorEq, f1, f2, q]; done) | (simp (disch := omega) only [wI_I, wI_s, nI_add, pk_mul, nI_ltI, nI_leI, nI_eq, nI_clamp, nm_or, nm_and, nm_xor, nm_nd, nm_one, nm_shr, nm_b2, Bool.false_eq_true, Bool.true_eq_false, not_false_eq_true, not_true_eq_false, reduceCtorEq, f1, f2, q]; omega) | omega)) ?_)
      simp (disch := omega) only [wI_I, wI_s, nI_add, pk_mul, nI_ltI, nI_leI, nI_eq, nI_clamp, nm_or, nm_and, nm_xor, nm_nd, nm_one, nm_shr, nm_b2, Bool.false_eq_true, Bool.true_eq_false, not_false_eq_true, not_true_eq_false, reduceCtorEq, f2]
      exact wp_of ih ⟨rfl, rfl⟩
theorem gq_with {h : MH} {f : Nat → Nat → Int32} {g n c : Nat} {G : Nat → Nat} (S : GS h g) (F : GF f g n G) (V : GW n G) (hc : c < 16) :
    ev M_Grid_rowsWith 0 0 [some (.ref g), some (.int (nI c)), none, none] [] (wI h f) = some (some (.int (nI (cs n G c))), wI h f) := by
  rw [r_Grid_rowsWith_0]; exact gq_with_l S F V hc n 0 (by omega)
/-- a grid of which the first rows are written -/
def gn (n i : Nat) (J : Nat → Nat) : Nat → Nat := fun r => if r < i then (if r < n then J r else 0) else 0
theorem gn_u {f : Nat → Nat → Int32} {g n i v : Nat} {J : Nat → Nat} (hi : i < n) (hn : n ≤ 16) (hv : v = J i) : up2 (gw f g n (gn n i J)) (g + 1) i (nI v) = gw f g n (gn n (i + 1) J) := by
  rw [gw_u (by omega), hv]
  apply gw_c
  intro r _
  unfold gn
  ((repeat' split) <;> (try dsimp only) <;> (repeat' split) <;> (first | rfl | (exfalso; omega) | (subst_vars; rfl) | (subst_vars; exfalso; omega)))
theorem gn_0 {f : Nat → Nat → Int32} {g n : Nat} {J : Nat → Nat} : gw f g n (fun _ => 0) = gw f g n (gn n 0 J) := by
  apply gw_c; intro r _; unfold gn; rw [if_neg (by omega)]
theorem gn_n {n : Nat} {J : Nat → Nat} : gn n n J = fun r => if r < n then J r else 0 := by
  funext r; unfold gn
  ((repeat' split) <;> (try dsimp only) <;> (repeat' split) <;> (first | rfl | (exfalso; omega) | (subst_vars; rfl) | (subst_vars; exfalso; omega)))
theorem gq_same {h : MH} {f : Nat → Nat → Int32} {g m : Nat} (S : GS h g) (hm : m ≤ 16) :
    ev M_Grid_fillSame 0 0 [some (.ref g), some (.int (nI m)), none] [] (wI h f) = some (none, wI h (gw f g m (fun r => if r < m then 2 ^ r else 0))) := by
  have L : ∀ k i, i + k = m → ev M_Grid_fillSame 0 6 [some (.ref g), none, some (.int (nI i))] [] (wI h (gw f g m (gn m i (fun r => 2 ^ r)))) = some (none, wI h (gw f g m (gn m m (fun r => 2 ^ r)))) := by
    obtain ⟨s1, s2, s3, s4⟩ := S
    intro k
    induction k with
    | zero =>
      intro i hi
      have f1 := (gw_f (f := f) (g := g) (n := m) (G := gn m i (fun r => 2 ^ r))).1
      rw [r_Grid_fillSame_6]
      apply wp_e
      repeat (first | refine wp_isC (by assumption) ?_ | refine wp_nnR (by assumption) ?_ | refine wp_inA (by assumption) rfl (by omega) (by omega) ?_ | refine wp_isZ (by decide) ?_ | refine wp_bt (by (first | (simp (disch := omega) only [wI_I, wI_s, nI_add, pk_mul, nI_ltI, nI_leI, nI_eq, nI_clamp, nm_or, nm_and, nm_xor, nm_nd, nm_one, nm_shr, nm_b2, Bool.false_eq_true, Bool.true_eq_false, not_false_eq_true, not_true_eq_false, reduceCtorEq, f1]; done) | (simp (disch := omega) only [wI_I, wI_s, nI_add, pk_mul, nI_ltI, nI_leI, nI_eq, nI_clamp, nm_or, nm_and, nm_xor, nm_nd, nm_one, nm_shr, nm_b2, Bool.false_eq_true, Bool.true_eq_false, not_false_eq_true, not_true_eq_false, reduceCtorEq, f1]; omega) | omega)) ?_ | refine wp_bf (by (first | (simp (disch := omega) only [wI_I, wI_s, nI_add, pk_mul, nI_ltI, nI_leI, nI_eq, nI_clamp, nm_or, nm_and, nm_xor, nm_nd, nm_one, nm_shr, nm_b2, Bool.false_eq_true, Bool.true_eq_false, not_false_eq_true, not_true_eq_false, reduceCtorEq, f1]; done) | (simp (disch := omega) only [wI_I, wI_s, nI_add, pk_mul, nI_ltI, nI_leI, nI_eq, nI_clamp, nm_or, nm_and, nm_xor, nm_nd, nm_one, nm_shr, nm_b2, Bool.false_eq_true, Bool.true_eq_false, not_false_eq_true, not_true_eq_false, reduceCtorEq, f1]; omega) | omega)) ?_)
      rw [show i = m by omega]
      exact wp_s ⟨rfl, rfl⟩
    | succ k ih =>
      intro i hi
      have f1 := (gw_f (f := f) (g := g) (n := m) (G := gn m i (fun r => 2 ^ r))).1
      rw [r_Grid_fillSame_6]
      apply wp_e
      repeat (first | refine wp_isC (by assumption) ?_ | refine wp_nnR (by assumption) ?_ | refine wp_inA (by assumption) rfl (by omega) (by omega) ?_ | refine wp_isZ (by decide) ?_ | refine wp_bt (by (first | (simp (disch := omega) only [wI_I, wI_s, nI_add, pk_mul, nI_ltI, nI_leI, nI_eq, nI_clamp, nm_or, nm_and, nm_xor, nm_nd, nm_one, nm_shr, nm_b2, Bool.false_eq_true, Bool.true_eq_false, not_false_eq_true, not_true_eq_false, reduceCtorEq, f1]; done) | (simp (disch := omega) only [wI_I, wI_s, nI_add, pk_mul, nI_ltI, nI_leI, nI_eq, nI_clamp, nm_or, nm_and, nm_xor, nm_nd, nm_one, nm_shr, nm_b2, Bool.false_eq_true, Bool.true_eq_false, not_false_eq_true, not_true_eq_false, reduceCtorEq, f1]; omega) | omega)) ?_ | refine wp_bf (by (first | (simp (disch := omega) only [wI_I, wI_s, nI_add, pk_mul, nI_ltI, nI_leI, nI_eq, nI_clamp, nm_or, nm_and, nm_xor, nm_nd, nm_one, nm_shr, nm_b2, Bool.false_eq_true, Bool.true_eq_false, not_false_eq_true, not_true_eq_false, reduceCtorEq, f1]; done) | (simp (disch := omega) only [wI_I, wI_s, nI_add, pk_mul, nI_ltI, nI_leI, nI_eq, nI_clamp, nm_or, nm_and, nm_xor, nm_nd, nm_one, nm_shr, nm_b2, Bool.false_eq_true, Bool.true_eq_false, not_false_eq_true, not_true_eq_false, reduceCtorEq, f1]; omega) | omega)) ?_)
      simp (disch := omega) only [wI_I, wI_s, nI_add, pk_mul, nI_ltI, nI_leI, nI_eq, nI_clamp, nm_or, nm_and, nm_xor, nm_nd, nm_one, nm_shr, nm_b2, Bool.false_eq_true, Bool.true_eq_false, not_false_eq_true, not_true_eq_false, reduceCtorEq]
      rw [gn_u (by omega) hm rfl]
      exact wp_of (ih (i + 1) (by omega)) ⟨rfl, rfl⟩
  have s1 := S.1
  rw [r_Grid_fillSame_0]
  apply wp_e
  repeat (first | refine wp_isC (by assumption) ?_ | refine wp_nnR (by assumption) ?_ | refine wp_inA (by assumption) rfl (by omega) (by omega) ?_ | refine wp_isZ (by decide) ?_ | refine wp_bt (by (first | (simp (disch := omega) only [wI_I, wI_s, nI_add, pk_mul, nI_ltI, nI_leI, nI_eq, nI_clamp, nm_or, nm_and, nm_xor, nm_nd, nm_one, nm_shr, nm_b2, Bool.false_eq_true, Bool.true_eq_false, not_false_eq_true, not_true_eq_false, reduceCtorEq]; done) | (simp (disch := omega) only [wI_I, wI_s, nI_add, pk_mul, nI_ltI, nI_leI, nI_eq, nI_clamp, nm_or, nm_and, nm_xor, nm_nd, nm_one, nm_shr, nm_b2, Bool.false_eq_true, Bool.true_eq_false, not_false_eq_true, not_true_eq_false, reduceCtorEq]; omega) | omega)) ?_ | refine wp_bf (by (first | (simp (disch := omega) only [wI_I, wI_s, nI_add, pk_mul, nI_ltI, nI_leI, nI_eq, nI_clamp, nm_or, nm_and, nm_xor, nm_nd, nm_one, nm_shr, nm_b2, Bool.false_eq_true, Bool.true_eq_false, not_false_eq_true, not_true_eq_false, reduceCtorEq]; done) | (simp (disch := omega) only [wI_I, wI_s, nI_add, pk_mul, nI_ltI, nI_leI, nI_eq, nI_clamp, nm_or, nm_and, nm_xor, nm_nd, nm_one, nm_shr, nm_b2, Bool.false_eq_true, Bool.true_eq_false, not_false_eq_true, not_true_eq_false, reduceCtorEq]; omega) | omega)) ?_)
  refine wp_rVe (gq_clear S hm) ?_
  rw [gn_0 (J := fun r => 2 ^ r), ← gn_n (J := fun r => 2 ^ r)]
  exact wp_of (L m 0 (by omega)) ⟨rfl, rfl⟩
theorem nm_m1 {a : Nat} (h : 0 < a) : nI a - nI 1 = nI (a - 1) := pk_sub h
theorem gq_all {h : MH} {f : Nat → Nat → Int32} {g m : Nat} (S : GS h g) (hm : m ≤ 16) :
    ev M_Grid_fillAll 0 0 [some (.ref g), some (.int (nI m)), none] [] (wI h f) = some (none, wI h (gw f g m (fun r => if r < m then 2 ^ m - 1 else 0))) := by
  have hp := Nat.two_pow_pos m
  have L : ∀ k i, i + k = m → ev M_Grid_fillAll 0 6 [some (.ref g), none, some (.int (nI i))] [] (wI h (gw f g m (gn m i (fun r => 2 ^ m - 1)))) = some (none, wI h (gw f g m (gn m m (fun r => 2 ^ m - 1)))) := by
    obtain ⟨s1, s2, s3, s4⟩ := S
    intro k
    induction k with
    | zero =>
      intro i hi
      have f1 := (gw_f (f := f) (g := g) (n := m) (G := gn m i (fun r => 2 ^ m - 1))).1
      rw [r_Grid_fillAll_6]
      apply wp_e
      repeat (first | refine wp_isC (by assumption) ?_ | refine wp_nnR (by assumption) ?_ | refine wp_inA (by assumption) rfl (by omega) (by omega) ?_ | refine wp_isZ (by decide) ?_ | refine wp_bt (by (first | (simp (disch := omega) only [wI_I, wI_s, nI_add, pk_mul, nI_ltI, nI_leI, nI_eq, nI_clamp, nm_or, nm_and, nm_xor, nm_nd, nm_one, nm_shr, nm_b2, Bool.false_eq_true, Bool.true_eq_false, not_false_eq_true, not_true_eq_false, reduceCtorEq, f1]; done) | (simp (disch := omega) only [wI_I, wI_s, nI_add, pk_mul, nI_ltI, nI_leI, nI_eq, nI_clamp, nm_or, nm_and, nm_xor, nm_nd, nm_one, nm_shr, nm_b2, Bool.false_eq_true, Bool.true_eq_false, not_false_eq_true, not_true_eq_false, reduceCtorEq, f1]; omega) | omega)) ?_ | refine wp_bf (by (first | (simp (disch := omega) only [wI_I, wI_s, nI_add, pk_mul, nI_ltI, nI_leI, nI_eq, nI_clamp, nm_or, nm_and, nm_xor, nm_nd, nm_one, nm_shr, nm_b2, Bool.false_eq_true, Bool.true_eq_false, not_false_eq_true, not_true_eq_false, reduceCtorEq, f1]; done) | (simp (disch := omega) only [wI_I, wI_s, nI_add, pk_mul, nI_ltI, nI_leI, nI_eq, nI_clamp, nm_or, nm_and, nm_xor, nm_nd, nm_one, nm_shr, nm_b2, Bool.false_eq_true, Bool.true_eq_false, not_false_eq_true, not_true_eq_false, reduceCtorEq, f1]; omega) | omega)) ?_)
      rw [show i = m by omega]
      exact wp_s ⟨rfl, rfl⟩
    | succ k ih =>
      intro i hi
      have f1 := (gw_f (f := f) (g := g) (n := m) (G := gn m i (fun r => 2 ^ m - 1))).1
      rw [r_Grid_fillAll_6]
      apply wp_e
      repeat (first | refine wp_isC (by assumption) ?_ | refine wp_nnR (by assumption) ?_ | refine wp_inA (by assumption) rfl (by omega) (by omega) ?_ | refine wp_isZ (by decide) ?_ | refine wp_bt (by (first | (simp (disch := omega) only [wI_I, wI_s, nI_add, pk_mul, nI_ltI, nI_leI, nI_eq, nI_clamp, nm_or, nm_and, nm_xor, nm_nd, nm_one, nm_shr, nm_b2, Bool.false_eq_true, Bool.true_eq_false, not_false_eq_true, not_true_eq_false, reduceCtorEq, f1]; done) | (simp (disch := omega) only [wI_I, wI_s, nI_add, pk_mul, nI_ltI, nI_leI, nI_eq, nI_clamp, nm_or, nm_and, nm_xor, nm_nd, nm_one, nm_shr, nm_b2, Bool.false_eq_true, Bool.true_eq_false, not_false_eq_true, not_true_eq_false, reduceCtorEq, f1]; omega) | omega)) ?_ | refine wp_bf (by (first | (simp (disch := omega) only [wI_I, wI_s, nI_add, pk_mul, nI_ltI, nI_leI, nI_eq, nI_clamp, nm_or, nm_and, nm_xor, nm_nd, nm_one, nm_shr, nm_b2, Bool.false_eq_true, Bool.true_eq_false, not_false_eq_true, not_true_eq_false, reduceCtorEq, f1]; done) | (simp (disch := omega) only [wI_I, wI_s, nI_add, pk_mul, nI_ltI, nI_leI, nI_eq, nI_clamp, nm_or, nm_and, nm_xor, nm_nd, nm_one, nm_shr, nm_b2, Bool.false_eq_true, Bool.true_eq_false, not_false_eq_true, not_true_eq_false, reduceCtorEq, f1]; omega) | omega)) ?_)
      simp (disch := omega) only [wI_I, wI_s, nI_add, pk_mul, nI_ltI, nI_leI, nI_eq, nI_clamp, nm_or, nm_and, nm_xor, nm_nd, nm_one, nm_shr, nm_b2, Bool.false_eq_true, Bool.true_eq_false, not_false_eq_true, not_true_eq_false, reduceCtorEq, f1, nm_m1]
      rw [gn_u (by omega) hm rfl]
      exact wp_of (ih (i + 1) (by omega)) ⟨rfl, rfl⟩
  have s1 := S.1
  rw [r_Grid_fillAll_0]
  apply wp_e
  repeat (first | refine wp_isC (by assumption) ?_ | refine wp_nnR (by assumption) ?_ | refine wp_inA (by assumption) rfl (by omega) (by omega) ?_ | refine wp_isZ (by decide) ?_ | refine wp_bt (by (first | (simp (disch := omega) only [wI_I, wI_s, nI_add, pk_mul, nI_ltI, nI_leI, nI_eq, nI_clamp, nm_or, nm_and, nm_xor, nm_nd, nm_one, nm_shr, nm_b2, Bool.false_eq_true, Bool.true_eq_false, not_false_eq_true, not_true_eq_false, reduceCtorEq]; done) | (simp (disch := omega) only [wI_I, wI_s, nI_add, pk_mul, nI_ltI, nI_leI, nI_eq, nI_clamp, nm_or, nm_and, nm_xor, nm_nd, nm_one, nm_shr, nm_b2, Bool.false_eq_true, Bool.true_eq_false, not_false_eq_true, not_true_eq_false, reduceCtorEq]; omega) | omega)) ?_ | refine wp_bf (by (first | (simp (disch := omega) only [wI_I, wI_s, nI_add, pk_mul, nI_ltI, nI_leI, nI_eq, nI_clamp, nm_or, nm_and, nm_xor, nm_nd, nm_one, nm_shr, nm_b2, Bool.false_eq_true, Bool.true_eq_false, not_false_eq_true, not_true_eq_false, reduceCtorEq]; done) | (simp (disch := omega) only [wI_I, wI_s, nI_add, pk_mul, nI_ltI, nI_leI, nI_eq, nI_clamp, nm_or, nm_and, nm_xor, nm_nd, nm_one, nm_shr, nm_b2, Bool.false_eq_true, Bool.true_eq_false, not_false_eq_true, not_true_eq_false, reduceCtorEq]; omega) | omega)) ?_)
  refine wp_rVe (gq_clear S hm) ?_
  rw [gn_0 (J := fun r => 2 ^ m - 1), ← gn_n (J := fun r => 2 ^ m - 1)]
  exact wp_of (L m 0 (by omega)) ⟨rfl, rfl⟩
