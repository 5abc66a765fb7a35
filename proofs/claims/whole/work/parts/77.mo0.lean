/-! The plain form: its small helpers. -/
theorem mo_isIn (x a b : Int32) (h : MH) : ev M_Mo_isIn 0 0 [some (.int x), some (.int a), some (.int b)] [] h = some (some (.int (nI (decide (¬ x < a ∧ ¬ b < x)).toNat)), h) := by
  rw [r_Mo_isIn_0]
  apply wp_e
  refine wp_br (fun q => ?_) (fun q => wp_br (fun q2 => ?_) (fun q2 => ?_))
  · rw [decide_eq_false (fun z => z.1 q)]; exact wp_isZ (by decide) (wp_s ⟨rfl, rfl⟩)
  · rw [decide_eq_false (fun z => z.2 q2)]; exact wp_isZ (by decide) (wp_s ⟨rfl, rfl⟩)
  · rw [decide_eq_true ⟨q, q2⟩]; exact wp_isZ (by decide) (wp_s ⟨rfl, rfl⟩)
theorem inN_d {x : Int32} {n : Nat} (hn : n < 2 ^ 31 - 1) : decide (¬ x < nI 0 ∧ ¬ nI n < x) = (inN x (n + 1)).isSome := by
  cases z : inN x (n + 1) with
  | none =>
    rcases inN_n z (by omega) with q | ⟨q, q2⟩
    · rw [decide_eq_false (fun w => w.1 q)]; rfl
    · obtain ⟨j, hj, e⟩ := nI_of q
      subst e
      rw [nI_ltI hj (by omega)] at q2
      rw [decide_eq_false (fun w => w.2 (by rw [nI_ltI (by omega) hj]; omega))]; rfl
  | some k =>
    obtain ⟨e, h1, h2⟩ := inN_s z
    subst e
    rw [decide_eq_true ⟨nI_pos h2, by rw [nI_ltI (by omega) h2]; omega⟩]; rfl
theorem mo_in0 {x : Int32} {n : Nat} (h : MH) (hn : n < 2 ^ 30) : ev M_Mo_isIn 0 0 [some (.int x), some (.int (nI 0)), some (.int (nI n))] [] h = some (some (.int (nI (inN x (n + 1)).isSome.toNat)), h) := by
  rw [mo_isIn, inN_d (by omega)]
theorem inN_0 (x : Int32) : inN x 0 = none := by
  unfold inN
  by_cases q : x < nI 0
  · rw [if_pos q]
  · rw [if_neg q, if_neg (Nat.not_lt_zero _)]
theorem mo_in1 {x : Int32} {n : Nat} (h : MH) (hn : n < 2 ^ 30) : ev M_Mo_isIn 0 0 [some (.int x), some (.int (nI 0)), some (.int (nI n - nI 1))] [] h = some (some (.int (nI (inN x n).isSome.toNat)), h) := by
  cases n with
  | zero =>
    rw [mo_isIn, inN_0]
    rw [decide_eq_false]
    · rfl
    · intro w
      obtain ⟨j, hj, e⟩ := nI_of w.1
      subst e
      refine w.2 ?_
      rw [show nI 0 - nI 1 = mI 1 from rfl]
      have h1 : (nI j).toInt = j := nI_toInt hj
      rw [Int32.lt_iff_toInt_lt, h1]
      have h2 : (mI 1).toInt = -1 := by decide
      omega
  | succ n => rw [nm_m1 (by omega), Nat.add_sub_cancel, mo_in0 h (by omega)]
theorem mo_isOf {a k : Nat} (h : MH) (hk : k < 32) (ha : a < 2 ^ 31) : ev M_Mo_isOf 0 0 [some (.int (nI a)), some (.int (nI k))] [] h = some (some (.int (nI (a.testBit k).toNat)), h) := by
  rw [r_Mo_isOf_0]
  apply wp_e
  refine wp_bi (nm_bit hk ha) (fun q => ?_) (fun q => ?_)
  · rw [q]; exact wp_isZ (by decide) (wp_s ⟨rfl, rfl⟩)
  · rw [(Bool.not_eq_true _).mp q]; exact wp_isZ (by decide) (wp_s ⟨rfl, rfl⟩)
/-- the lowest bit taken off -/
theorem bR_low : ∀ (k n : Nat), 0 < n → n < 2 ^ k → bR k (n &&& (n - 1)) + 1 = bR k n
  | 0, n, h0, hn => by omega
  | k + 1, n, h0, hn => by
    rw [bR, bR]
    have e2 : n = 2 * (n / 2) + n % 2 := by omega
    have d2 : (n &&& (n - 1)) / 2 = n / 2 &&& (n - 1) / 2 := by
      apply Nat.eq_of_testBit_eq; intro i
      rw [Nat.testBit_and, ← Nat.testBit_succ, ← Nat.testBit_succ, ← Nat.testBit_succ, Nat.testBit_and]
    have m2 : (n &&& (n - 1)) % 2 = 0 := by
      have : ((n &&& (n - 1)).testBit 0) = false := by
        rw [Nat.testBit_and, Nat.testBit_zero, Nat.testBit_zero]
        rcases Nat.mod_two_eq_zero_or_one n with q | q
        · rw [q]; rfl
        · rw [show (n - 1) % 2 = 0 by omega]; simp
      rw [Nat.testBit_zero] at this
      have := of_decide_eq_false this
      omega
    rw [m2, d2]
    rcases Nat.mod_two_eq_zero_or_one n with q | q
    · have : (n - 1) / 2 = n / 2 - 1 := by omega
      rw [this, q]
      have := bR_low k (n / 2) (by omega) (by rw [Nat.pow_succ] at hn; omega)
      omega
    · have : (n - 1) / 2 = n / 2 := by omega
      rw [this, Nat.and_self, q]; omega
theorem bc_low {n : Nat} (h0 : 0 < n) (hn : n < 2 ^ 16) : bc (n &&& (n - 1)) + 1 = bc n := by
  rw [bc_r, bc_r]; exact bR_low 16 n h0 hn
theorem mo_bitsIn {a : Nat} (h : MH) (ha : a < 2 ^ 16) : ev M_Mo_bitsIn 0 0 [some (.int (nI a)), none, none] [] h = some (some (.int (nI (bc a))), h) := by
  have L : ∀ k n a, a < 2 ^ 16 → bc a = k → ev M_Mo_bitsIn 0 5 [none, some (.int (nI n)), some (.int (nI a))] [] h = some (some (.int (nI (n + k))), h) := by
    intro k
    induction k with
    | zero =>
      intro n a ha e
      have : a = 0 := by
        by_cases z : a = 0
        · exact z
        · have := (bc_pos ha).mpr z; omega
      subst this
      rw [r_Mo_bitsIn_5]
      exact wp_e (wp_bt rfl (wp_s ⟨rfl, rfl⟩))
    | succ k ih =>
      intro n a ha e
      have h0 : 0 < a := by
        by_cases z : a = 0
        · rw [z, bc_0] at e; omega
        · omega
      rw [r_Mo_bitsIn_5]
      apply wp_e
      refine wp_bf (by rw [nI_eq (by omega) (by decide)]; omega) ?_
      rw [nm_m1 h0, nm_and, nI_add]
      have := bc_low h0 ha
      exact wp_of (ih (n + 1) _ (Nat.lt_of_le_of_lt Nat.and_le_left ha) (by omega)) ⟨by rw [show n + 1 + k = n + (k + 1) by omega], rfl⟩
  rw [r_Mo_bitsIn_0]
  have := L (bc a) 0 a ha rfl
  rw [Nat.zero_add] at this
  exact this
theorem mo_truth (b : Bool) (h : MH) : ev M_Mo_truth 0 0 [some (.int (nI b.toNat))] [] h = some (some (.int (nI b.toNat)), h) := by
  rw [r_Mo_truth_0]
  apply wp_e
  cases b
  · exact wp_bt rfl (wp_s ⟨rfl, rfl⟩)
  · exact wp_bf n10 (wp_s ⟨rfl, rfl⟩)
theorem mo_isHow (x : Int32) (h : MH) : ev M_Mo_isHow 0 0 [some (.int x)] [] h = some (some (.int (nI (inN x 5).isSome.toNat)), h) := by
  rw [r_Mo_isHow_0]
  exact wp_e (wp_rIe (mo_in0 h (by decide)) (wp_isZ (b01z _) (wp_s ⟨rfl, rfl⟩)))
