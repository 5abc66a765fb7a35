/-! The i-th pair, tests of one grid, a grid halved. -/
def cnt (p : Nat → Bool) (k : Nat) : Nat := sm (fun j => (p j).toNat) k
/-- the i-th place where p holds -/
def nt (p : Nat → Bool) (i : Nat) : Nat → Option Nat
  | 0 => none
  | k + 1 => match nt p i k with
    | some q => some q
    | none => if p k = true ∧ cnt p k = i then some k else none
theorem nt_some {p : Nat → Bool} {i q : Nat} : ∀ {k m : Nat}, nt p i k = some q → k ≤ m → nt p i m = some q
  | k, 0, h, hm => by rw [show k = 0 by omega] at h; exact h
  | k, m + 1, h, hm => by
    by_cases e : k = m + 1
    · rw [← e]; exact h
    · rw [nt, nt_some (m := m) h (by omega)]
theorem nt_skip {p : Nat → Bool} {i k : Nat} : ∀ {d : Nat}, (∀ j, j < d → p (k + j) = false) → nt p i (k + d) = nt p i k
  | 0, _ => rfl
  | d + 1, h => by
    rw [← Nat.add_assoc, nt, nt_skip (fun j hj => h j (by omega)), h d (by omega)]
    cases nt p i k <;> simp
theorem cnt_skip {p : Nat → Bool} {k : Nat} : ∀ {d : Nat}, (∀ j, j < d → p (k + j) = false) → cnt p (k + d) = cnt p k
  | 0, _ => rfl
  | d + 1, h => by
    rw [← Nat.add_assoc]
    show cnt p (k + d) + (p (k + d)).toNat = _
    rw [cnt_skip (fun j hj => h j (by omega)), h d (by omega)]; rfl
/-- whether the pair at place q (16 a row) is there -/
def pb (G : Nat → Nat) (q : Nat) : Bool := (G (q / 16)).testBit (q % 16)
theorem GW.tb {n : Nat} {G : Nat → Nat} (V : GW n G) {r c : Nat} (h : n ≤ r ∨ n ≤ c) : (G r).testBit c = false := by
  rcases h with h | h
  · rw [V.2.2 r h]; simp
  · exact Nat.testBit_lt_two_pow (Nat.lt_of_lt_of_le (V.2.1 r) (Nat.pow_le_pow_right (by decide) h))
/-- an answer that may be wanting -/
def oI : Option Nat → Int32
  | some q => nI q
  | none => mI 1
theorem gq_find {h : MH} {f : Nat → Nat → Int32} {g n i : Nat} {G : Nat → Nat} (S : GS h g) (F : GF f g n G) (V : GW n G) (hi : i < 2 ^ 31) :
    ev M_Grid_findPair 0 0 [some (.ref g), some (.int (nI i)), none, none, none] [] (wI h f) = some (some (.int (oI (nt (pb G) i 256))), wI h f) := by
  have v1 := V.1
  have hcn : ∀ m, m ≤ 256 → cnt (pb G) m ≤ 256 := fun m hm => by
    have := sm_le (F := fun j => (pb G j).toNat) (b := 1) (n := m) (fun k _ => Bool.toNat_le _)
    unfold cnt; omega
  obtain ⟨s1, s2, s3, s4⟩ := id S
  obtain ⟨f1, f2⟩ := id F
  have L : ∀ k r, r + k = n → nt (pb G) i (16 * r) = none → cnt (pb G) (16 * r) ≤ i → ev M_Grid_findPair 0 5 [some (.ref g), none, some (.int (nI (i - cnt (pb G) (16 * r)))), some (.int (nI r)), none] [] (wI h f) = some (some (.int (oI (nt (pb G) i 256))), wI h f) := by
    intro k
    induction k with
    | zero =>
      intro r hr h1 h2
      rw [r_Grid_findPair_5]
      apply wp_e
      repeat (first | refine wp_isC (by assumption) ?_ | refine wp_nnR (by assumption) ?_ | refine wp_inA (by assumption) rfl (by omega) (by omega) ?_ | refine wp_isZ (by decide) ?_ | refine wp_bt (by (first | (simp (disch := omega) only [wI_I, wI_s, nI_add, pk_mul, nI_ltI, nI_leI, nI_eq, nI_clamp, nm_or, nm_and, nm_xor, nm_nd, nm_one, nm_shr, nm_b2, Bool.false_eq_true, Bool.true_eq_false, not_false_eq_true, not_true_eq_false, reduceCtorEq, f1]; done) | (simp (disch := omega) only [wI_I, wI_s, nI_add, pk_mul, nI_ltI, nI_leI, nI_eq, nI_clamp, nm_or, nm_and, nm_xor, nm_nd, nm_one, nm_shr, nm_b2, Bool.false_eq_true, Bool.true_eq_false, not_false_eq_true, not_true_eq_false, reduceCtorEq, f1]; omega) | omega)) ?_ | refine wp_bf (by (first | (simp (disch := omega) only [wI_I, wI_s, nI_add, pk_mul, nI_ltI, nI_leI, nI_eq, nI_clamp, nm_or, nm_and, nm_xor, nm_nd, nm_one, nm_shr, nm_b2, Bool.false_eq_true, Bool.true_eq_false, not_false_eq_true, not_true_eq_false, reduceCtorEq, f1]; done) | (simp (disch := omega) only [wI_I, wI_s, nI_add, pk_mul, nI_ltI, nI_leI, nI_eq, nI_clamp, nm_or, nm_and, nm_xor, nm_nd, nm_one, nm_shr, nm_b2, Bool.false_eq_true, Bool.true_eq_false, not_false_eq_true, not_true_eq_false, reduceCtorEq, f1]; omega) | omega)) ?_)
      refine wp_s ⟨?_, rfl⟩
      have : nt (pb G) i (16 * r + (256 - 16 * r)) = nt (pb G) i (16 * r) := nt_skip (fun j hj => by
        unfold pb
        exact V.tb (Or.inl (by omega)))
      rw [show 16 * r + (256 - 16 * r) = 256 by omega, h1] at this
      rw [this]; rfl
    | succ k ih =>
      intro r hr h1 h2
      have L2 : ∀ k2 c, c + k2 = n → nt (pb G) i (16 * r + c) = none → cnt (pb G) (16 * r + c) ≤ i → ev M_Grid_findPair 0 12 [some (.ref g), none, some (.int (nI (i - cnt (pb G) (16 * r + c)))), some (.int (nI r)), some (.int (nI c))] [] (wI h f) = some (some (.int (oI (nt (pb G) i 256))), wI h f) := by
        intro k2
        induction k2 with
        | zero =>
          intro c hc h3 h4
          rw [r_Grid_findPair_12]
          apply wp_e
          repeat (first | refine wp_isC (by assumption) ?_ | refine wp_nnR (by assumption) ?_ | refine wp_inA (by assumption) rfl (by omega) (by omega) ?_ | refine wp_isZ (by decide) ?_ | refine wp_bt (by (first | (simp (disch := omega) only [wI_I, wI_s, nI_add, pk_mul, nI_ltI, nI_leI, nI_eq, nI_clamp, nm_or, nm_and, nm_xor, nm_nd, nm_one, nm_shr, nm_b2, Bool.false_eq_true, Bool.true_eq_false, not_false_eq_true, not_true_eq_false, reduceCtorEq, f1]; done) | (simp (disch := omega) only [wI_I, wI_s, nI_add, pk_mul, nI_ltI, nI_leI, nI_eq, nI_clamp, nm_or, nm_and, nm_xor, nm_nd, nm_one, nm_shr, nm_b2, Bool.false_eq_true, Bool.true_eq_false, not_false_eq_true, not_true_eq_false, reduceCtorEq, f1]; omega) | omega)) ?_ | refine wp_bf (by (first | (simp (disch := omega) only [wI_I, wI_s, nI_add, pk_mul, nI_ltI, nI_leI, nI_eq, nI_clamp, nm_or, nm_and, nm_xor, nm_nd, nm_one, nm_shr, nm_b2, Bool.false_eq_true, Bool.true_eq_false, not_false_eq_true, not_true_eq_false, reduceCtorEq, f1]; done) | (simp (disch := omega) only [wI_I, wI_s, nI_add, pk_mul, nI_ltI, nI_leI, nI_eq, nI_clamp, nm_or, nm_and, nm_xor, nm_nd, nm_one, nm_shr, nm_b2, Bool.false_eq_true, Bool.true_eq_false, not_false_eq_true, not_true_eq_false, reduceCtorEq, f1]; omega) | omega)) ?_)
          have hz : ∀ j, j < 16 - c → pb G (16 * r + c + j) = false := fun j hj => by
            unfold pb
            exact V.tb (Or.inr (by omega))
          have e1 := nt_skip (i := i) hz
          have e2 := cnt_skip hz
          rw [show 16 * r + c + (16 - c) = 16 * (r + 1) by omega] at e1 e2
          have := ih (r + 1) (by omega) (by rw [e1]; exact h3) (by rw [e2]; exact h4)
          rw [e2] at this
          simp (disch := omega) only [wI_I, wI_s, nI_add, pk_mul, nI_ltI, nI_leI, nI_eq, nI_clamp, nm_or, nm_and, nm_xor, nm_nd, nm_one, nm_shr, nm_b2, Bool.false_eq_true, Bool.true_eq_false, not_false_eq_true, not_true_eq_false, reduceCtorEq]
          exact wp_of this ⟨rfl, rfl⟩
        | succ k2 ih2 =>
          intro c hc h3 h4
          have e1 : nt (pb G) i (16 * r + (c + 1)) = if pb G (16 * r + c) = true ∧ cnt (pb G) (16 * r + c) = i then some (16 * r + c) else none := by
            rw [← Nat.add_assoc, nt, h3]
          have e2 : cnt (pb G) (16 * r + (c + 1)) = cnt (pb G) (16 * r + c) + (pb G (16 * r + c)).toNat := rfl
          have e3 : pb G (16 * r + c) = (G r).testBit c := by
            unfold pb; rw [show (16 * r + c) / 16 = r by omega, show (16 * r + c) % 16 = c by omega]
          have ih2 := ih2 (c + 1) (by omega)
          rw [e1, e2, e3] at ih2
          rw [e3] at e1
          rw [r_Grid_findPair_12]
          simp only [r_Grid_findPair_31]
          apply wp_e
          repeat (first | refine wp_isC (by assumption) ?_ | refine wp_nnR (by assumption) ?_ | refine wp_inA (by assumption) rfl (by omega) (by omega) ?_ | refine wp_isZ (by decide) ?_ | refine wp_bt (by (first | (simp (disch := omega) only [wI_I, wI_s, nI_add, pk_mul, nI_ltI, nI_leI, nI_eq, nI_clamp, nm_or, nm_and, nm_xor, nm_nd, nm_one, nm_shr, nm_b2, Bool.false_eq_true, Bool.true_eq_false, not_false_eq_true, not_true_eq_false, reduceCtorEq, f1]; done) | (simp (disch := omega) only [wI_I, wI_s, nI_add, pk_mul, nI_ltI, nI_leI, nI_eq, nI_clamp, nm_or, nm_and, nm_xor, nm_nd, nm_one, nm_shr, nm_b2, Bool.false_eq_true, Bool.true_eq_false, not_false_eq_true, not_true_eq_false, reduceCtorEq, f1]; omega) | omega)) ?_ | refine wp_bf (by (first | (simp (disch := omega) only [wI_I, wI_s, nI_add, pk_mul, nI_ltI, nI_leI, nI_eq, nI_clamp, nm_or, nm_and, nm_xor, nm_nd, nm_one, nm_shr, nm_b2, Bool.false_eq_true, Bool.true_eq_false, not_false_eq_true, not_true_eq_false, reduceCtorEq, f1]; done) | (simp (disch := omega) only [wI_I, wI_s, nI_add, pk_mul, nI_ltI, nI_leI, nI_eq, nI_clamp, nm_or, nm_and, nm_xor, nm_nd, nm_one, nm_shr, nm_b2, Bool.false_eq_true, Bool.true_eq_false, not_false_eq_true, not_true_eq_false, reduceCtorEq, f1]; omega) | omega)) ?_)
          refine wp_rIe (gq_holds S F V (by omega) (by omega)) ?_
          cases q : (G r).testBit c with
          | false =>
            rw [q] at ih2
            refine wp_bt rfl ?_
            simp (disch := omega) only [wI_I, wI_s, nI_add, pk_mul, nI_ltI, nI_leI, nI_eq, nI_clamp, nm_or, nm_and, nm_xor, nm_nd, nm_one, nm_shr, nm_b2, Bool.false_eq_true, Bool.true_eq_false, not_false_eq_true, not_true_eq_false, reduceCtorEq]
            exact wp_of (ih2 (by simp) (by simpa using h4)) ⟨rfl, rfl⟩
          | true =>
            rw [q] at ih2 e1
            refine wp_bf (by decide) ?_
            by_cases q2 : cnt (pb G) (16 * r + c) = i
            · rw [if_pos ⟨rfl, q2⟩] at e1
              refine wp_bt (by rw [q2, Nat.sub_self]) ?_
              rw [nt_some e1 (show 16 * r + (c + 1) ≤ 256 by omega)]
              simp (disch := omega) only [wI_I, wI_s, nI_add, pk_mul, nI_ltI, nI_leI, nI_eq, nI_clamp, nm_or, nm_and, nm_xor, nm_nd, nm_one, nm_shr, nm_b2, Bool.false_eq_true, Bool.true_eq_false, not_false_eq_true, not_true_eq_false, reduceCtorEq]
              exact wp_s ⟨rfl, rfl⟩
            · refine wp_bf (by (first | (simp (disch := omega) only [wI_I, wI_s, nI_add, pk_mul, nI_ltI, nI_leI, nI_eq, nI_clamp, nm_or, nm_and, nm_xor, nm_nd, nm_one, nm_shr, nm_b2, Bool.false_eq_true, Bool.true_eq_false, not_false_eq_true, not_true_eq_false, reduceCtorEq]; done) | (simp (disch := omega) only [wI_I, wI_s, nI_add, pk_mul, nI_ltI, nI_leI, nI_eq, nI_clamp, nm_or, nm_and, nm_xor, nm_nd, nm_one, nm_shr, nm_b2, Bool.false_eq_true, Bool.true_eq_false, not_false_eq_true, not_true_eq_false, reduceCtorEq]; omega) | omega)) ?_
              have e4 : nI (i - cnt (pb G) (16 * r + c)) + mI 1 = nI (i - (cnt (pb G) (16 * r + c) + true.toNat)) := by
                rw [show i - cnt (pb G) (16 * r + c) = (i - (cnt (pb G) (16 * r + c) + true.toNat)) + 1 by show _ = i - (_ + 1) + 1; omega]
                exact pk_m1 _
              rw [e4]
              simp (disch := omega) only [wI_I, wI_s, nI_add, pk_mul, nI_ltI, nI_leI, nI_eq, nI_clamp, nm_or, nm_and, nm_xor, nm_nd, nm_one, nm_shr, nm_b2, Bool.false_eq_true, Bool.true_eq_false, not_false_eq_true, not_true_eq_false, reduceCtorEq]
              exact wp_of (ih2 (by rw [if_neg (fun z => q2 z.2)]) (by show _ + 1 ≤ i; omega)) ⟨rfl, rfl⟩
      rw [r_Grid_findPair_5]
      apply wp_e
      repeat (first | refine wp_isC (by assumption) ?_ | refine wp_nnR (by assumption) ?_ | refine wp_inA (by assumption) rfl (by omega) (by omega) ?_ | refine wp_isZ (by decide) ?_ | refine wp_bt (by (first | (simp (disch := omega) only [wI_I, wI_s, nI_add, pk_mul, nI_ltI, nI_leI, nI_eq, nI_clamp, nm_or, nm_and, nm_xor, nm_nd, nm_one, nm_shr, nm_b2, Bool.false_eq_true, Bool.true_eq_false, not_false_eq_true, not_true_eq_false, reduceCtorEq, f1]; done) | (simp (disch := omega) only [wI_I, wI_s, nI_add, pk_mul, nI_ltI, nI_leI, nI_eq, nI_clamp, nm_or, nm_and, nm_xor, nm_nd, nm_one, nm_shr, nm_b2, Bool.false_eq_true, Bool.true_eq_false, not_false_eq_true, not_true_eq_false, reduceCtorEq, f1]; omega) | omega)) ?_ | refine wp_bf (by (first | (simp (disch := omega) only [wI_I, wI_s, nI_add, pk_mul, nI_ltI, nI_leI, nI_eq, nI_clamp, nm_or, nm_and, nm_xor, nm_nd, nm_one, nm_shr, nm_b2, Bool.false_eq_true, Bool.true_eq_false, not_false_eq_true, not_true_eq_false, reduceCtorEq, f1]; done) | (simp (disch := omega) only [wI_I, wI_s, nI_add, pk_mul, nI_ltI, nI_leI, nI_eq, nI_clamp, nm_or, nm_and, nm_xor, nm_nd, nm_one, nm_shr, nm_b2, Bool.false_eq_true, Bool.true_eq_false, not_false_eq_true, not_true_eq_false, reduceCtorEq, f1]; omega) | omega)) ?_)
      exact wp_of (L2 n 0 (by omega) h1 h2) ⟨rfl, rfl⟩
  rw [r_Grid_findPair_0]
  exact L n 0 (by omega) rfl (Nat.zero_le _)
/-- whether p holds below n -/
def allb (p : Nat → Bool) : Nat → Bool
  | 0 => true
  | k + 1 => allb p k && p k
theorem allb_t {p : Nat → Bool} : ∀ {n : Nat}, allb p n = true ↔ ∀ k, k < n → p k = true
  | 0 => by simp [allb]
  | n + 1 => by
    rw [allb, Bool.and_eq_true, allb_t (n := n)]
    constructor
    · rintro ⟨h1, h2⟩ k hk
      by_cases q : k = n
      · subst q; exact h2
      · exact h1 k (by omega)
    · intro h; exact ⟨fun k hk => h k (by omega), h n (by omega)⟩
theorem allb_f {p : Nat → Bool} {n k : Nat} (h : k < n) (q : p k = false) : allb p n = false := by
  cases e : allb p n with
  | false => rfl
  | true => rw [allb_t] at e; have := e k h; rw [q] at this; cases this
theorem gq_own {h : MH} {f : Nat → Nat → Int32} {g n : Nat} {G : Nat → Nat} (S : GS h g) (F : GF f g n G) (V : GW n G) :
    ev M_Grid_hasEachOwn 0 0 [some (.ref g), none] [] (wI h f) = some (some (.int (nI (allb (fun r => (G r).testBit r) n).toNat)), wI h f) := by
  have v1 := V.1
  obtain ⟨s1, s2, s3, s4⟩ := id S
  obtain ⟨f1, f2⟩ := id F
  have L : ∀ k i, i + k = n → allb (fun r => (G r).testBit r) i = true → ev M_Grid_hasEachOwn 0 3 [some (.ref g), some (.int (nI i))] [] (wI h f) = some (some (.int (nI (allb (fun r => (G r).testBit r) n).toNat)), wI h f) := by
    intro k
    induction k with
    | zero =>
      intro i hi ha
      rw [r_Grid_hasEachOwn_3]
      apply wp_e
      repeat (first | refine wp_isC (by assumption) ?_ | refine wp_nnR (by assumption) ?_ | refine wp_inA (by assumption) rfl (by omega) (by omega) ?_ | refine wp_isZ (by decide) ?_ | refine wp_bt (by (first | (simp (disch := omega) only [wI_I, wI_s, nI_add, pk_mul, nI_ltI, nI_leI, nI_eq, nI_clamp, nm_or, nm_and, nm_xor, nm_nd, nm_one, nm_shr, nm_b2, Bool.false_eq_true, Bool.true_eq_false, not_false_eq_true, not_true_eq_false, reduceCtorEq, f1]; done) | (simp (disch := omega) only [wI_I, wI_s, nI_add, pk_mul, nI_ltI, nI_leI, nI_eq, nI_clamp, nm_or, nm_and, nm_xor, nm_nd, nm_one, nm_shr, nm_b2, Bool.false_eq_true, Bool.true_eq_false, not_false_eq_true, not_true_eq_false, reduceCtorEq, f1]; omega) | omega)) ?_ | refine wp_bf (by (first | (simp (disch := omega) only [wI_I, wI_s, nI_add, pk_mul, nI_ltI, nI_leI, nI_eq, nI_clamp, nm_or, nm_and, nm_xor, nm_nd, nm_one, nm_shr, nm_b2, Bool.false_eq_true, Bool.true_eq_false, not_false_eq_true, not_true_eq_false, reduceCtorEq, f1]; done) | (simp (disch := omega) only [wI_I, wI_s, nI_add, pk_mul, nI_ltI, nI_leI, nI_eq, nI_clamp, nm_or, nm_and, nm_xor, nm_nd, nm_one, nm_shr, nm_b2, Bool.false_eq_true, Bool.true_eq_false, not_false_eq_true, not_true_eq_false, reduceCtorEq, f1]; omega) | omega)) ?_)
      rw [show i = n by omega] at ha
      rw [ha]
      exact wp_s ⟨rfl, rfl⟩
    | succ k ih =>
      intro i hi ha
      rw [r_Grid_hasEachOwn_3]
      apply wp_e
      repeat (first | refine wp_isC (by assumption) ?_ | refine wp_nnR (by assumption) ?_ | refine wp_inA (by assumption) rfl (by omega) (by omega) ?_ | refine wp_isZ (by decide) ?_ | refine wp_bt (by (first | (simp (disch := omega) only [wI_I, wI_s, nI_add, pk_mul, nI_ltI, nI_leI, nI_eq, nI_clamp, nm_or, nm_and, nm_xor, nm_nd, nm_one, nm_shr, nm_b2, Bool.false_eq_true, Bool.true_eq_false, not_false_eq_true, not_true_eq_false, reduceCtorEq, f1]; done) | (simp (disch := omega) only [wI_I, wI_s, nI_add, pk_mul, nI_ltI, nI_leI, nI_eq, nI_clamp, nm_or, nm_and, nm_xor, nm_nd, nm_one, nm_shr, nm_b2, Bool.false_eq_true, Bool.true_eq_false, not_false_eq_true, not_true_eq_false, reduceCtorEq, f1]; omega) | omega)) ?_ | refine wp_bf (by (first | (simp (disch := omega) only [wI_I, wI_s, nI_add, pk_mul, nI_ltI, nI_leI, nI_eq, nI_clamp, nm_or, nm_and, nm_xor, nm_nd, nm_one, nm_shr, nm_b2, Bool.false_eq_true, Bool.true_eq_false, not_false_eq_true, not_true_eq_false, reduceCtorEq, f1]; done) | (simp (disch := omega) only [wI_I, wI_s, nI_add, pk_mul, nI_ltI, nI_leI, nI_eq, nI_clamp, nm_or, nm_and, nm_xor, nm_nd, nm_one, nm_shr, nm_b2, Bool.false_eq_true, Bool.true_eq_false, not_false_eq_true, not_true_eq_false, reduceCtorEq, f1]; omega) | omega)) ?_)
      refine wp_rIe (gq_holds S F V (by omega) (by omega)) ?_
      cases q : (G i).testBit i with
      | false =>
        refine wp_bt rfl (wp_isZ (by decide) (wp_s ⟨?_, rfl⟩))
        rw [allb_f (p := fun r => (G r).testBit r) (n := n) (k := i) (by omega) q]; rfl
      | true =>
        refine wp_bf (by decide) ?_
        simp (disch := omega) only [wI_I, wI_s, nI_add, pk_mul, nI_ltI, nI_leI, nI_eq, nI_clamp, nm_or, nm_and, nm_xor, nm_nd, nm_one, nm_shr, nm_b2, Bool.false_eq_true, Bool.true_eq_false, not_false_eq_true, not_true_eq_false, reduceCtorEq]
        exact wp_of (ih (i + 1) (by omega) (by rw [allb, ha, q]; rfl)) ⟨rfl, rfl⟩
  rw [r_Grid_hasEachOwn_0]
  exact L n 0 (by omega) rfl
theorem gq_even {h : MH} {f : Nat → Nat → Int32} {g n : Nat} {G : Nat → Nat} (S : GS h g) (F : GF f g n G) (V : GW n G) :
    ev M_Grid_isEven 0 0 [some (.ref g), none] [] (wI h f) = some (some (.int (nI (allb (fun r => decide (G r = cs n G r)) n).toNat)), wI h f) := by
  have v1 := V.1
  obtain ⟨s1, s2, s3, s4⟩ := id S
  obtain ⟨f1, f2⟩ := id F
  have L : ∀ k i, i + k = n → allb (fun r => decide (G r = cs n G r)) i = true → ev M_Grid_isEven 0 3 [some (.ref g), some (.int (nI i))] [] (wI h f) = some (some (.int (nI (allb (fun r => decide (G r = cs n G r)) n).toNat)), wI h f) := by
    intro k
    induction k with
    | zero =>
      intro i hi ha
      rw [r_Grid_isEven_3]
      apply wp_e
      repeat (first | refine wp_isC (by assumption) ?_ | refine wp_nnR (by assumption) ?_ | refine wp_inA (by assumption) rfl (by omega) (by omega) ?_ | refine wp_isZ (by decide) ?_ | refine wp_bt (by (first | (simp (disch := omega) only [wI_I, wI_s, nI_add, pk_mul, nI_ltI, nI_leI, nI_eq, nI_clamp, nm_or, nm_and, nm_xor, nm_nd, nm_one, nm_shr, nm_b2, Bool.false_eq_true, Bool.true_eq_false, not_false_eq_true, not_true_eq_false, reduceCtorEq, f1]; done) | (simp (disch := omega) only [wI_I, wI_s, nI_add, pk_mul, nI_ltI, nI_leI, nI_eq, nI_clamp, nm_or, nm_and, nm_xor, nm_nd, nm_one, nm_shr, nm_b2, Bool.false_eq_true, Bool.true_eq_false, not_false_eq_true, not_true_eq_false, reduceCtorEq, f1]; omega) | omega)) ?_ | refine wp_bf (by (first | (simp (disch := omega) only [wI_I, wI_s, nI_add, pk_mul, nI_ltI, nI_leI, nI_eq, nI_clamp, nm_or, nm_and, nm_xor, nm_nd, nm_one, nm_shr, nm_b2, Bool.false_eq_true, Bool.true_eq_false, not_false_eq_true, not_true_eq_false, reduceCtorEq, f1]; done) | (simp (disch := omega) only [wI_I, wI_s, nI_add, pk_mul, nI_ltI, nI_leI, nI_eq, nI_clamp, nm_or, nm_and, nm_xor, nm_nd, nm_one, nm_shr, nm_b2, Bool.false_eq_true, Bool.true_eq_false, not_false_eq_true, not_true_eq_false, reduceCtorEq, f1]; omega) | omega)) ?_)
      rw [show i = n by omega] at ha
      rw [ha]
      exact wp_s ⟨rfl, rfl⟩
    | succ k ih =>
      intro i hi ha
      have hG := V.lt i
      have hc : cs n G i < 2 ^ 16 := Nat.lt_of_lt_of_le cs_lt (Nat.pow_le_pow_right (by decide) v1)
      rw [r_Grid_isEven_3]
      apply wp_e
      repeat (first | refine wp_isC (by assumption) ?_ | refine wp_nnR (by assumption) ?_ | refine wp_inA (by assumption) rfl (by omega) (by omega) ?_ | refine wp_isZ (by decide) ?_ | refine wp_bt (by (first | (simp (disch := omega) only [wI_I, wI_s, nI_add, pk_mul, nI_ltI, nI_leI, nI_eq, nI_clamp, nm_or, nm_and, nm_xor, nm_nd, nm_one, nm_shr, nm_b2, Bool.false_eq_true, Bool.true_eq_false, not_false_eq_true, not_true_eq_false, reduceCtorEq, f1]; done) | (simp (disch := omega) only [wI_I, wI_s, nI_add, pk_mul, nI_ltI, nI_leI, nI_eq, nI_clamp, nm_or, nm_and, nm_xor, nm_nd, nm_one, nm_shr, nm_b2, Bool.false_eq_true, Bool.true_eq_false, not_false_eq_true, not_true_eq_false, reduceCtorEq, f1]; omega) | omega)) ?_ | refine wp_bf (by (first | (simp (disch := omega) only [wI_I, wI_s, nI_add, pk_mul, nI_ltI, nI_leI, nI_eq, nI_clamp, nm_or, nm_and, nm_xor, nm_nd, nm_one, nm_shr, nm_b2, Bool.false_eq_true, Bool.true_eq_false, not_false_eq_true, not_true_eq_false, reduceCtorEq, f1]; done) | (simp (disch := omega) only [wI_I, wI_s, nI_add, pk_mul, nI_ltI, nI_leI, nI_eq, nI_clamp, nm_or, nm_and, nm_xor, nm_nd, nm_one, nm_shr, nm_b2, Bool.false_eq_true, Bool.true_eq_false, not_false_eq_true, not_true_eq_false, reduceCtorEq, f1]; omega) | omega)) ?_)
      refine wp_rIe (gq_with S F V (by omega)) ?_
      simp (disch := omega) only [wI_I, wI_s, nI_add, pk_mul, nI_ltI, nI_leI, nI_eq, nI_clamp, nm_or, nm_and, nm_xor, nm_nd, nm_one, nm_shr, nm_b2, Bool.false_eq_true, Bool.true_eq_false, not_false_eq_true, not_true_eq_false, reduceCtorEq, f2]
      by_cases q : G i = cs n G i
      · refine wp_bt (by (first | (simp (disch := omega) only [wI_I, wI_s, nI_add, pk_mul, nI_ltI, nI_leI, nI_eq, nI_clamp, nm_or, nm_and, nm_xor, nm_nd, nm_one, nm_shr, nm_b2, Bool.false_eq_true, Bool.true_eq_false, not_false_eq_true, not_true_eq_false, reduceCtorEq]; done) | (simp (disch := omega) only [wI_I, wI_s, nI_add, pk_mul, nI_ltI, nI_leI, nI_eq, nI_clamp, nm_or, nm_and, nm_xor, nm_nd, nm_one, nm_shr, nm_b2, Bool.false_eq_true, Bool.true_eq_false, not_false_eq_true, not_true_eq_false, reduceCtorEq]; omega) | omega)) ?_
        exact wp_of (ih (i + 1) (by omega) (by rw [allb, ha, decide_eq_true q]; rfl)) ⟨rfl, rfl⟩
      · refine wp_bf (by (first | (simp (disch := omega) only [wI_I, wI_s, nI_add, pk_mul, nI_ltI, nI_leI, nI_eq, nI_clamp, nm_or, nm_and, nm_xor, nm_nd, nm_one, nm_shr, nm_b2, Bool.false_eq_true, Bool.true_eq_false, not_false_eq_true, not_true_eq_false, reduceCtorEq]; done) | (simp (disch := omega) only [wI_I, wI_s, nI_add, pk_mul, nI_ltI, nI_leI, nI_eq, nI_clamp, nm_or, nm_and, nm_xor, nm_nd, nm_one, nm_shr, nm_b2, Bool.false_eq_true, Bool.true_eq_false, not_false_eq_true, not_true_eq_false, reduceCtorEq]; omega) | omega)) (wp_isZ (by decide) (wp_s ⟨?_, rfl⟩))
        rw [allb_f (k := i) (by omega) (decide_eq_false q)]; rfl
  rw [r_Grid_isEven_0]
  exact L n 0 (by omega) rfl
theorem nd_le (a b : Nat) {m : Nat} (h : a < 2 ^ m) : nd a b < 2 ^ m := Nat.xor_lt_two_pow h (Nat.lt_of_le_of_lt Nat.and_le_left h)
theorem gq_within {h : MH} {f : Nat → Nat → Int32} {g o n m : Nat} {G H : Nat → Nat} (S : GS h g) (So : GS h o) (F : GF f g n G) (F2 : GF f o m H) (V : GW n G) :
    ev M_Grid_isWithin 0 0 [some (.ref g), some (.ref o), none] [] (wI h f) = some (some (.int (nI (allb (fun r => decide (nd (G r) (H r) = 0)) n).toNat)), wI h f) := by
  have v1 := V.1
  obtain ⟨s1, s2, s3, s4⟩ := id S
  obtain ⟨t1, t2, t3, t4⟩ := id So
  obtain ⟨f1, f2⟩ := id F
  obtain ⟨e1, e2⟩ := id F2
  have L : ∀ k i, i + k = n → allb (fun r => decide (nd (G r) (H r) = 0)) i = true → ev M_Grid_isWithin 0 3 [some (.ref g), some (.ref o), some (.int (nI i))] [] (wI h f) = some (some (.int (nI (allb (fun r => decide (nd (G r) (H r) = 0)) n).toNat)), wI h f) := by
    intro k
    induction k with
    | zero =>
      intro i hi ha
      rw [r_Grid_isWithin_3]
      apply wp_e
      repeat (first | refine wp_isC (by assumption) ?_ | refine wp_nnR (by assumption) ?_ | refine wp_inA (by assumption) rfl (by omega) (by omega) ?_ | refine wp_isZ (by decide) ?_ | refine wp_bt (by (first | (simp (disch := omega) only [wI_I, wI_s, nI_add, pk_mul, nI_ltI, nI_leI, nI_eq, nI_clamp, nm_or, nm_and, nm_xor, nm_nd, nm_one, nm_shr, nm_b2, Bool.false_eq_true, Bool.true_eq_false, not_false_eq_true, not_true_eq_false, reduceCtorEq, f1]; done) | (simp (disch := omega) only [wI_I, wI_s, nI_add, pk_mul, nI_ltI, nI_leI, nI_eq, nI_clamp, nm_or, nm_and, nm_xor, nm_nd, nm_one, nm_shr, nm_b2, Bool.false_eq_true, Bool.true_eq_false, not_false_eq_true, not_true_eq_false, reduceCtorEq, f1]; omega) | omega)) ?_ | refine wp_bf (by (first | (simp (disch := omega) only [wI_I, wI_s, nI_add, pk_mul, nI_ltI, nI_leI, nI_eq, nI_clamp, nm_or, nm_and, nm_xor, nm_nd, nm_one, nm_shr, nm_b2, Bool.false_eq_true, Bool.true_eq_false, not_false_eq_true, not_true_eq_false, reduceCtorEq, f1]; done) | (simp (disch := omega) only [wI_I, wI_s, nI_add, pk_mul, nI_ltI, nI_leI, nI_eq, nI_clamp, nm_or, nm_and, nm_xor, nm_nd, nm_one, nm_shr, nm_b2, Bool.false_eq_true, Bool.true_eq_false, not_false_eq_true, not_true_eq_false, reduceCtorEq, f1]; omega) | omega)) ?_)
      rw [show i = n by omega] at ha
      rw [ha]
      exact wp_s ⟨rfl, rfl⟩
    | succ k ih =>
      intro i hi ha
      have hn := nd_le (G i) (H i) (V.lt i)
      rw [r_Grid_isWithin_3]
      apply wp_e
      repeat (first | refine wp_isC (by assumption) ?_ | refine wp_nnR (by assumption) ?_ | refine wp_inA (by assumption) rfl (by omega) (by omega) ?_ | refine wp_isZ (by decide) ?_ | refine wp_bt (by (first | (simp (disch := omega) only [wI_I, wI_s, nI_add, pk_mul, nI_ltI, nI_leI, nI_eq, nI_clamp, nm_or, nm_and, nm_xor, nm_nd, nm_one, nm_shr, nm_b2, Bool.false_eq_true, Bool.true_eq_false, not_false_eq_true, not_true_eq_false, reduceCtorEq, f1]; done) | (simp (disch := omega) only [wI_I, wI_s, nI_add, pk_mul, nI_ltI, nI_leI, nI_eq, nI_clamp, nm_or, nm_and, nm_xor, nm_nd, nm_one, nm_shr, nm_b2, Bool.false_eq_true, Bool.true_eq_false, not_false_eq_true, not_true_eq_false, reduceCtorEq, f1]; omega) | omega)) ?_ | refine wp_bf (by (first | (simp (disch := omega) only [wI_I, wI_s, nI_add, pk_mul, nI_ltI, nI_leI, nI_eq, nI_clamp, nm_or, nm_and, nm_xor, nm_nd, nm_one, nm_shr, nm_b2, Bool.false_eq_true, Bool.true_eq_false, not_false_eq_true, not_true_eq_false, reduceCtorEq, f1]; done) | (simp (disch := omega) only [wI_I, wI_s, nI_add, pk_mul, nI_ltI, nI_leI, nI_eq, nI_clamp, nm_or, nm_and, nm_xor, nm_nd, nm_one, nm_shr, nm_b2, Bool.false_eq_true, Bool.true_eq_false, not_false_eq_true, not_true_eq_false, reduceCtorEq, f1]; omega) | omega)) ?_)
      simp (disch := omega) only [wI_I, wI_s, nI_add, pk_mul, nI_ltI, nI_leI, nI_eq, nI_clamp, nm_or, nm_and, nm_xor, nm_nd, nm_one, nm_shr, nm_b2, Bool.false_eq_true, Bool.true_eq_false, not_false_eq_true, not_true_eq_false, reduceCtorEq, f2, e2]
      by_cases q : nd (G i) (H i) = 0
      · refine wp_bt (by (first | (simp (disch := omega) only [wI_I, wI_s, nI_add, pk_mul, nI_ltI, nI_leI, nI_eq, nI_clamp, nm_or, nm_and, nm_xor, nm_nd, nm_one, nm_shr, nm_b2, Bool.false_eq_true, Bool.true_eq_false, not_false_eq_true, not_true_eq_false, reduceCtorEq]; done) | (simp (disch := omega) only [wI_I, wI_s, nI_add, pk_mul, nI_ltI, nI_leI, nI_eq, nI_clamp, nm_or, nm_and, nm_xor, nm_nd, nm_one, nm_shr, nm_b2, Bool.false_eq_true, Bool.true_eq_false, not_false_eq_true, not_true_eq_false, reduceCtorEq]; omega) | omega)) ?_
        exact wp_of (ih (i + 1) (by omega) (by rw [allb, ha, decide_eq_true q]; rfl)) ⟨rfl, rfl⟩
      · refine wp_bf (by (first | (simp (disch := omega) only [wI_I, wI_s, nI_add, pk_mul, nI_ltI, nI_leI, nI_eq, nI_clamp, nm_or, nm_and, nm_xor, nm_nd, nm_one, nm_shr, nm_b2, Bool.false_eq_true, Bool.true_eq_false, not_false_eq_true, not_true_eq_false, reduceCtorEq]; done) | (simp (disch := omega) only [wI_I, wI_s, nI_add, pk_mul, nI_ltI, nI_leI, nI_eq, nI_clamp, nm_or, nm_and, nm_xor, nm_nd, nm_one, nm_shr, nm_b2, Bool.false_eq_true, Bool.true_eq_false, not_false_eq_true, not_true_eq_false, reduceCtorEq]; omega) | omega)) (wp_isZ (by decide) (wp_s ⟨?_, rfl⟩))
        rw [allb_f (k := i) (by omega) (decide_eq_false q)]; rfl
  rw [r_Grid_isWithin_0]
  exact L n 0 (by omega) rfl
/-- the greatest below k; the least, b at most -/
def mx (F : Nat → Nat) : Nat → Nat
  | 0 => 0
  | k + 1 => if mx F k < F k then F k else mx F k
def mn (F : Nat → Nat) (b : Nat) : Nat → Nat
  | 0 => b
  | k + 1 => if F k < mn F b k then F k else mn F b k
theorem mx_le {F : Nat → Nat} {b : Nat} (h : ∀ k, F k ≤ b) : ∀ k, mx F k ≤ b
  | 0 => Nat.zero_le _
  | k + 1 => by
    have := mx_le h k
    have := h k
    unfold mx; split <;> omega
theorem mn_le {F : Nat → Nat} {b : Nat} : ∀ k, mn F b k ≤ b
  | 0 => Nat.le_refl _
  | k + 1 => by
    have := mn_le (F := F) (b := b) k
    unfold mn; split <;> omega
theorem gq_most {h : MH} {f : Nat → Nat → Int32} {g n : Nat} {G : Nat → Nat} (S : GS h g) (F : GF f g n G) (V : GW n G) :
    ev M_Grid_mostInARow 0 0 [some (.ref g), none, none] [] (wI h f) = some (some (.int (nI (mx (fun r => bc (G r)) n))), wI h f) := by
  have v1 := V.1
  obtain ⟨s1, s2, s3, s4⟩ := id S
  obtain ⟨f1, f2⟩ := id F
  have L : ∀ k i, i + k = n → ev M_Grid_mostInARow 0 5 [some (.ref g), some (.int (nI (mx (fun r => bc (G r)) i))), some (.int (nI i))] [] (wI h f) = some (some (.int (nI (mx (fun r => bc (G r)) n))), wI h f) := by
    intro k
    induction k with
    | zero =>
      intro i hi
      rw [r_Grid_mostInARow_5]
      apply wp_e
      repeat (first | refine wp_isC (by assumption) ?_ | refine wp_nnR (by assumption) ?_ | refine wp_inA (by assumption) rfl (by omega) (by omega) ?_ | refine wp_isZ (by decide) ?_ | refine wp_bt (by (first | (simp (disch := omega) only [wI_I, wI_s, nI_add, pk_mul, nI_ltI, nI_leI, nI_eq, nI_clamp, nm_or, nm_and, nm_xor, nm_nd, nm_one, nm_shr, nm_b2, Bool.false_eq_true, Bool.true_eq_false, not_false_eq_true, not_true_eq_false, reduceCtorEq, f1]; done) | (simp (disch := omega) only [wI_I, wI_s, nI_add, pk_mul, nI_ltI, nI_leI, nI_eq, nI_clamp, nm_or, nm_and, nm_xor, nm_nd, nm_one, nm_shr, nm_b2, Bool.false_eq_true, Bool.true_eq_false, not_false_eq_true, not_true_eq_false, reduceCtorEq, f1]; omega) | omega)) ?_ | refine wp_bf (by (first | (simp (disch := omega) only [wI_I, wI_s, nI_add, pk_mul, nI_ltI, nI_leI, nI_eq, nI_clamp, nm_or, nm_and, nm_xor, nm_nd, nm_one, nm_shr, nm_b2, Bool.false_eq_true, Bool.true_eq_false, not_false_eq_true, not_true_eq_false, reduceCtorEq, f1]; done) | (simp (disch := omega) only [wI_I, wI_s, nI_add, pk_mul, nI_ltI, nI_leI, nI_eq, nI_clamp, nm_or, nm_and, nm_xor, nm_nd, nm_one, nm_shr, nm_b2, Bool.false_eq_true, Bool.true_eq_false, not_false_eq_true, not_true_eq_false, reduceCtorEq, f1]; omega) | omega)) ?_)
      rw [show n = i by omega]
      exact wp_s ⟨rfl, rfl⟩
    | succ k ih =>
      intro i hi
      have hm := mx_le (F := fun r => bc (G r)) (b := 16) (fun k => bc_le _) i
      have hb := bc_le (G i)
      have ih := ih (i + 1) (by omega)
      rw [mx] at ih
      rw [r_Grid_mostInARow_5]
      apply wp_e
      repeat (first | refine wp_isC (by assumption) ?_ | refine wp_nnR (by assumption) ?_ | refine wp_inA (by assumption) rfl (by omega) (by omega) ?_ | refine wp_isZ (by decide) ?_ | refine wp_bt (by (first | (simp (disch := omega) only [wI_I, wI_s, nI_add, pk_mul, nI_ltI, nI_leI, nI_eq, nI_clamp, nm_or, nm_and, nm_xor, nm_nd, nm_one, nm_shr, nm_b2, Bool.false_eq_true, Bool.true_eq_false, not_false_eq_true, not_true_eq_false, reduceCtorEq, f1]; done) | (simp (disch := omega) only [wI_I, wI_s, nI_add, pk_mul, nI_ltI, nI_leI, nI_eq, nI_clamp, nm_or, nm_and, nm_xor, nm_nd, nm_one, nm_shr, nm_b2, Bool.false_eq_true, Bool.true_eq_false, not_false_eq_true, not_true_eq_false, reduceCtorEq, f1]; omega) | omega)) ?_ | refine wp_bf (by (first | (simp (disch := omega) only [wI_I, wI_s, nI_add, pk_mul, nI_ltI, nI_leI, nI_eq, nI_clamp, nm_or, nm_and, nm_xor, nm_nd, nm_one, nm_shr, nm_b2, Bool.false_eq_true, Bool.true_eq_false, not_false_eq_true, not_true_eq_false, reduceCtorEq, f1]; done) | (simp (disch := omega) only [wI_I, wI_s, nI_add, pk_mul, nI_ltI, nI_leI, nI_eq, nI_clamp, nm_or, nm_and, nm_xor, nm_nd, nm_one, nm_shr, nm_b2, Bool.false_eq_true, Bool.true_eq_false, not_false_eq_true, not_true_eq_false, reduceCtorEq, f1]; omega) | omega)) ?_)
      simp (disch := omega) only [wI_I, wI_s, nI_add, pk_mul, nI_ltI, nI_leI, nI_eq, nI_clamp, nm_or, nm_and, nm_xor, nm_nd, nm_one, nm_shr, nm_b2, Bool.false_eq_true, Bool.true_eq_false, not_false_eq_true, not_true_eq_false, reduceCtorEq, f2]
      refine wp_rIe (i_bc _ (V.lt i)) ?_
      simp (disch := omega) only [wI_I, wI_s, nI_add, pk_mul, nI_ltI, nI_leI, nI_eq, nI_clamp, nm_or, nm_and, nm_xor, nm_nd, nm_one, nm_shr, nm_b2, Bool.false_eq_true, Bool.true_eq_false, not_false_eq_true, not_true_eq_false, reduceCtorEq]
      rw [← apply_ite nI]
      exact wp_of ih ⟨rfl, rfl⟩
  rw [r_Grid_mostInARow_0]
  exact L n 0 (by omega)
theorem gq_mostc {h : MH} {f : Nat → Nat → Int32} {g n : Nat} {G : Nat → Nat} (S : GS h g) (F : GF f g n G) (V : GW n G) :
    ev M_Grid_mostInAColumn 0 0 [some (.ref g), none, none] [] (wI h f) = some (some (.int (nI (mx (fun c => bc (cs n G c)) n))), wI h f) := by
  have v1 := V.1
  obtain ⟨s1, s2, s3, s4⟩ := id S
  obtain ⟨f1, f2⟩ := id F
  have L : ∀ k i, i + k = n → ev M_Grid_mostInAColumn 0 5 [some (.ref g), some (.int (nI (mx (fun c => bc (cs n G c)) i))), some (.int (nI i))] [] (wI h f) = some (some (.int (nI (mx (fun c => bc (cs n G c)) n))), wI h f) := by
    intro k
    induction k with
    | zero =>
      intro i hi
      rw [r_Grid_mostInAColumn_5]
      apply wp_e
      repeat (first | refine wp_isC (by assumption) ?_ | refine wp_nnR (by assumption) ?_ | refine wp_inA (by assumption) rfl (by omega) (by omega) ?_ | refine wp_isZ (by decide) ?_ | refine wp_bt (by (first | (simp (disch := omega) only [wI_I, wI_s, nI_add, pk_mul, nI_ltI, nI_leI, nI_eq, nI_clamp, nm_or, nm_and, nm_xor, nm_nd, nm_one, nm_shr, nm_b2, Bool.false_eq_true, Bool.true_eq_false, not_false_eq_true, not_true_eq_false, reduceCtorEq, f1]; done) | (simp (disch := omega) only [wI_I, wI_s, nI_add, pk_mul, nI_ltI, nI_leI, nI_eq, nI_clamp, nm_or, nm_and, nm_xor, nm_nd, nm_one, nm_shr, nm_b2, Bool.false_eq_true, Bool.true_eq_false, not_false_eq_true, not_true_eq_false, reduceCtorEq, f1]; omega) | omega)) ?_ | refine wp_bf (by (first | (simp (disch := omega) only [wI_I, wI_s, nI_add, pk_mul, nI_ltI, nI_leI, nI_eq, nI_clamp, nm_or, nm_and, nm_xor, nm_nd, nm_one, nm_shr, nm_b2, Bool.false_eq_true, Bool.true_eq_false, not_false_eq_true, not_true_eq_false, reduceCtorEq, f1]; done) | (simp (disch := omega) only [wI_I, wI_s, nI_add, pk_mul, nI_ltI, nI_leI, nI_eq, nI_clamp, nm_or, nm_and, nm_xor, nm_nd, nm_one, nm_shr, nm_b2, Bool.false_eq_true, Bool.true_eq_false, not_false_eq_true, not_true_eq_false, reduceCtorEq, f1]; omega) | omega)) ?_)
      rw [show n = i by omega]
      exact wp_s ⟨rfl, rfl⟩
    | succ k ih =>
      intro i hi
      have hm := mx_le (F := fun c => bc (cs n G c)) (b := 16) (fun k => bc_le _) i
      have hb := bc_le (cs n G i)
      have ih := ih (i + 1) (by omega)
      rw [mx] at ih
      rw [r_Grid_mostInAColumn_5]
      apply wp_e
      repeat (first | refine wp_isC (by assumption) ?_ | refine wp_nnR (by assumption) ?_ | refine wp_inA (by assumption) rfl (by omega) (by omega) ?_ | refine wp_isZ (by decide) ?_ | refine wp_bt (by (first | (simp (disch := omega) only [wI_I, wI_s, nI_add, pk_mul, nI_ltI, nI_leI, nI_eq, nI_clamp, nm_or, nm_and, nm_xor, nm_nd, nm_one, nm_shr, nm_b2, Bool.false_eq_true, Bool.true_eq_false, not_false_eq_true, not_true_eq_false, reduceCtorEq, f1]; done) | (simp (disch := omega) only [wI_I, wI_s, nI_add, pk_mul, nI_ltI, nI_leI, nI_eq, nI_clamp, nm_or, nm_and, nm_xor, nm_nd, nm_one, nm_shr, nm_b2, Bool.false_eq_true, Bool.true_eq_false, not_false_eq_true, not_true_eq_false, reduceCtorEq, f1]; omega) | omega)) ?_ | refine wp_bf (by (first | (simp (disch := omega) only [wI_I, wI_s, nI_add, pk_mul, nI_ltI, nI_leI, nI_eq, nI_clamp, nm_or, nm_and, nm_xor, nm_nd, nm_one, nm_shr, nm_b2, Bool.false_eq_true, Bool.true_eq_false, not_false_eq_true, not_true_eq_false, reduceCtorEq, f1]; done) | (simp (disch := omega) only [wI_I, wI_s, nI_add, pk_mul, nI_ltI, nI_leI, nI_eq, nI_clamp, nm_or, nm_and, nm_xor, nm_nd, nm_one, nm_shr, nm_b2, Bool.false_eq_true, Bool.true_eq_false, not_false_eq_true, not_true_eq_false, reduceCtorEq, f1]; omega) | omega)) ?_)
      refine wp_rIe (gq_with S F V (by omega)) ?_
      refine wp_rIe (i_bc _ (Nat.lt_of_lt_of_le cs_lt (Nat.pow_le_pow_right (by decide) v1))) ?_
      simp (disch := omega) only [wI_I, wI_s, nI_add, pk_mul, nI_ltI, nI_leI, nI_eq, nI_clamp, nm_or, nm_and, nm_xor, nm_nd, nm_one, nm_shr, nm_b2, Bool.false_eq_true, Bool.true_eq_false, not_false_eq_true, not_true_eq_false, reduceCtorEq]
      rw [← apply_ite nI]
      exact wp_of ih ⟨rfl, rfl⟩
  rw [r_Grid_mostInAColumn_0]
  exact L n 0 (by omega)
theorem gq_least {h : MH} {f : Nat → Nat → Int32} {g n : Nat} {G : Nat → Nat} (S : GS h g) (F : GF f g n G) (V : GW n G) :
    ev M_Grid_leastInARow 0 0 [some (.ref g), none, none] [] (wI h f) = some (some (.int (nI (mn (fun r => bc (G r)) n n))), wI h f) := by
  have v1 := V.1
  obtain ⟨s1, s2, s3, s4⟩ := id S
  obtain ⟨f1, f2⟩ := id F
  have L : ∀ k i, i + k = n → ev M_Grid_leastInARow 0 6 [some (.ref g), some (.int (nI (mn (fun r => bc (G r)) n i))), some (.int (nI i))] [] (wI h f) = some (some (.int (nI (mn (fun r => bc (G r)) n n))), wI h f) := by
    intro k
    induction k with
    | zero =>
      intro i hi
      rw [r_Grid_leastInARow_6]
      apply wp_e
      repeat (first | refine wp_isC (by assumption) ?_ | refine wp_nnR (by assumption) ?_ | refine wp_inA (by assumption) rfl (by omega) (by omega) ?_ | refine wp_isZ (by decide) ?_ | refine wp_bt (by (first | (simp (disch := omega) only [wI_I, wI_s, nI_add, pk_mul, nI_ltI, nI_leI, nI_eq, nI_clamp, nm_or, nm_and, nm_xor, nm_nd, nm_one, nm_shr, nm_b2, Bool.false_eq_true, Bool.true_eq_false, not_false_eq_true, not_true_eq_false, reduceCtorEq, f1]; done) | (simp (disch := omega) only [wI_I, wI_s, nI_add, pk_mul, nI_ltI, nI_leI, nI_eq, nI_clamp, nm_or, nm_and, nm_xor, nm_nd, nm_one, nm_shr, nm_b2, Bool.false_eq_true, Bool.true_eq_false, not_false_eq_true, not_true_eq_false, reduceCtorEq, f1]; omega) | omega)) ?_ | refine wp_bf (by (first | (simp (disch := omega) only [wI_I, wI_s, nI_add, pk_mul, nI_ltI, nI_leI, nI_eq, nI_clamp, nm_or, nm_and, nm_xor, nm_nd, nm_one, nm_shr, nm_b2, Bool.false_eq_true, Bool.true_eq_false, not_false_eq_true, not_true_eq_false, reduceCtorEq, f1]; done) | (simp (disch := omega) only [wI_I, wI_s, nI_add, pk_mul, nI_ltI, nI_leI, nI_eq, nI_clamp, nm_or, nm_and, nm_xor, nm_nd, nm_one, nm_shr, nm_b2, Bool.false_eq_true, Bool.true_eq_false, not_false_eq_true, not_true_eq_false, reduceCtorEq, f1]; omega) | omega)) ?_)
      refine wp_s ⟨?_, rfl⟩
      rw [show i = n by omega]
    | succ k ih =>
      intro i hi
      have hm := mn_le (F := fun r => bc (G r)) (b := n) i
      have hb := bc_le (G i)
      have ih := ih (i + 1) (by omega)
      rw [mn] at ih
      rw [r_Grid_leastInARow_6]
      apply wp_e
      repeat (first | refine wp_isC (by assumption) ?_ | refine wp_nnR (by assumption) ?_ | refine wp_inA (by assumption) rfl (by omega) (by omega) ?_ | refine wp_isZ (by decide) ?_ | refine wp_bt (by (first | (simp (disch := omega) only [wI_I, wI_s, nI_add, pk_mul, nI_ltI, nI_leI, nI_eq, nI_clamp, nm_or, nm_and, nm_xor, nm_nd, nm_one, nm_shr, nm_b2, Bool.false_eq_true, Bool.true_eq_false, not_false_eq_true, not_true_eq_false, reduceCtorEq, f1]; done) | (simp (disch := omega) only [wI_I, wI_s, nI_add, pk_mul, nI_ltI, nI_leI, nI_eq, nI_clamp, nm_or, nm_and, nm_xor, nm_nd, nm_one, nm_shr, nm_b2, Bool.false_eq_true, Bool.true_eq_false, not_false_eq_true, not_true_eq_false, reduceCtorEq, f1]; omega) | omega)) ?_ | refine wp_bf (by (first | (simp (disch := omega) only [wI_I, wI_s, nI_add, pk_mul, nI_ltI, nI_leI, nI_eq, nI_clamp, nm_or, nm_and, nm_xor, nm_nd, nm_one, nm_shr, nm_b2, Bool.false_eq_true, Bool.true_eq_false, not_false_eq_true, not_true_eq_false, reduceCtorEq, f1]; done) | (simp (disch := omega) only [wI_I, wI_s, nI_add, pk_mul, nI_ltI, nI_leI, nI_eq, nI_clamp, nm_or, nm_and, nm_xor, nm_nd, nm_one, nm_shr, nm_b2, Bool.false_eq_true, Bool.true_eq_false, not_false_eq_true, not_true_eq_false, reduceCtorEq, f1]; omega) | omega)) ?_)
      simp (disch := omega) only [wI_I, wI_s, nI_add, pk_mul, nI_ltI, nI_leI, nI_eq, nI_clamp, nm_or, nm_and, nm_xor, nm_nd, nm_one, nm_shr, nm_b2, Bool.false_eq_true, Bool.true_eq_false, not_false_eq_true, not_true_eq_false, reduceCtorEq, f2]
      refine wp_rIe (i_bc _ (V.lt i)) ?_
      simp (disch := omega) only [wI_I, wI_s, nI_add, pk_mul, nI_ltI, nI_leI, nI_eq, nI_clamp, nm_or, nm_and, nm_xor, nm_nd, nm_one, nm_shr, nm_b2, Bool.false_eq_true, Bool.true_eq_false, not_false_eq_true, not_true_eq_false, reduceCtorEq]
      rw [← apply_ite nI]
      exact wp_of ih ⟨rfl, rfl⟩
  rw [r_Grid_leastInARow_0]
  apply wp_e
  repeat (first | refine wp_isC (by assumption) ?_ | refine wp_nnR (by assumption) ?_ | refine wp_inA (by assumption) rfl (by omega) (by omega) ?_ | refine wp_isZ (by decide) ?_ | refine wp_bt (by (first | (simp (disch := omega) only [wI_I, wI_s, nI_add, pk_mul, nI_ltI, nI_leI, nI_eq, nI_clamp, nm_or, nm_and, nm_xor, nm_nd, nm_one, nm_shr, nm_b2, Bool.false_eq_true, Bool.true_eq_false, not_false_eq_true, not_true_eq_false, reduceCtorEq]; done) | (simp (disch := omega) only [wI_I, wI_s, nI_add, pk_mul, nI_ltI, nI_leI, nI_eq, nI_clamp, nm_or, nm_and, nm_xor, nm_nd, nm_one, nm_shr, nm_b2, Bool.false_eq_true, Bool.true_eq_false, not_false_eq_true, not_true_eq_false, reduceCtorEq]; omega) | omega)) ?_ | refine wp_bf (by (first | (simp (disch := omega) only [wI_I, wI_s, nI_add, pk_mul, nI_ltI, nI_leI, nI_eq, nI_clamp, nm_or, nm_and, nm_xor, nm_nd, nm_one, nm_shr, nm_b2, Bool.false_eq_true, Bool.true_eq_false, not_false_eq_true, not_true_eq_false, reduceCtorEq]; done) | (simp (disch := omega) only [wI_I, wI_s, nI_add, pk_mul, nI_ltI, nI_leI, nI_eq, nI_clamp, nm_or, nm_and, nm_xor, nm_nd, nm_one, nm_shr, nm_b2, Bool.false_eq_true, Bool.true_eq_false, not_false_eq_true, not_true_eq_false, reduceCtorEq]; omega) | omega)) ?_)
  simp (disch := omega) only [wI_I, wI_s, nI_add, pk_mul, nI_ltI, nI_leI, nI_eq, nI_clamp, nm_or, nm_and, nm_xor, nm_nd, nm_one, nm_shr, nm_b2, Bool.false_eq_true, Bool.true_eq_false, not_false_eq_true, not_true_eq_false, reduceCtorEq, f1]
  exact wp_of (L n 0 (by omega)) ⟨rfl, rfl⟩
