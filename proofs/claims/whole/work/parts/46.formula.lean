/-! The formula of keep: parts, how they are worked off. A part: (0, number), (1, row column many), (2, a sign), (3, not). -/
abbrev Kp : Type := Nat × Nat
def sgC : Nat → Nat
  | 0 => 43
  | 1 => 45
  | 2 => 42
  | 3 => 47
  | 4 => 37
  | 5 => 60
  | 6 => 62
  | 7 => 61
  | 8 => 109
  | _ => 107
/-- how the class writes a part -/
def kC (k : Kp) : Int32 := if k.1 = 0 then mI 1 - nI k.2 else if k.1 = 1 then nI (115 + k.2) else if k.1 = 2 then nI (sgC k.2) else nI 114
def kpo (k : Kp) : Prop := (k.1 = 0 ∧ k.2 < 10000) ∨ (k.1 = 1 ∧ k.2 < 3) ∨ (k.1 = 2 ∧ k.2 < 10) ∨ k.1 = 3
def b01 (c : Prop) [Decidable c] : Int32 := if c then nI 1 else nI 0
def rk (o : Nat) (a b : Int32) : Int32 := match o with
  | 0 => a + b
  | 1 => a - b
  | 2 => a * b
  | 3 => if b = nI 0 then nI 0 else a / b
  | 4 => if b = nI 0 then nI 0 else a - a / b * b
  | 5 => b01 (a < b)
  | 6 => b01 (b < a)
  | 7 => b01 (a = b)
  | 8 => b01 (a ≠ nI 0 ∧ b ≠ nI 0)
  | _ => b01 (a ≠ nI 0 ∨ b ≠ nI 0)
def kw1 (r c m : Int32) (k : Kp) (S : List Int32) : List Int32 :=
  if k.1 = 0 then nI k.2 :: S else if k.1 = 1 then (if k.2 = 0 then r else if k.2 = 1 then c else m) :: S else if k.1 = 2 then (match S with
    | b :: a :: S => rk k.2 a b :: S
    | S => S) else (match S with
    | a :: S => b01 (a = nI 0) :: S
    | S => S)
def kw (r c m : Int32) : List Kp → List Int32 → List Int32
  | [], S => S
  | k :: ks, S => kw r c m ks (kw1 r c m k S)
/-- what is kept: 1 where no formula is told -/
def kept (r c m : Int32) (ks : List Kp) : Int32 := if ks = [] then nI 1 else (kw r c m ks []).headD (nI 0)
/-- the parts can be worked off from so many open ones, and one is left -/
def kok : List Kp → Nat → Prop
  | [], d => d = 1
  | k :: ks, d => kpo k ∧ ((k.1 < 2 ∧ d < 32 ∧ kok ks (d + 1)) ∨ (k.1 = 2 ∧ 1 < d ∧ kok ks (d - 1)) ∨ (k.1 = 3 ∧ 0 < d ∧ kok ks d))
theorem fo_reckon {h : MH} {o : Nat} {a b : Int32} (ho : o < 10) : ev M_Formula_reckon 0 0 [some (.int (nI (sgC o))), some (.int a), some (.int b)] [] h = some (some (.int (rk o a b)), h) := by
  rw [r_Formula_reckon_0]
  simp only [r_Formula_reckon_64]
  have : o = 0 ∨ o = 1 ∨ o = 2 ∨ o = 3 ∨ o = 4 ∨ o = 5 ∨ o = 6 ∨ o = 7 ∨ o = 8 ∨ o = 9 := by omega
  apply wp_e
  rcases this with q | q | q | q | q | q | q | q | q | q <;> subst q <;> simp only [sgC] <;>
    (repeat (first | refine wp_bt (by decide) ?_ | refine wp_bf (by decide) ?_)) <;>
    first
    | exact wp_s ⟨rfl, rfl⟩
    | (by_cases z : b = nI 0
       · refine wp_bt z (wp_s ⟨?_, rfl⟩)
         simp only [rk, if_pos z]
       · refine wp_bf z (wp_nz z (wp_s ⟨?_, rfl⟩))
         simp only [rk, if_neg z])
    | (by_cases z : a < b
       · exact wp_bt z (wp_s ⟨by simp only [rk, b01, if_pos z], rfl⟩)
       · exact wp_bf z (wp_s ⟨by simp only [rk, b01, if_neg z], rfl⟩))
    | (by_cases z : b < a
       · exact wp_bt z (wp_s ⟨by simp only [rk, b01, if_pos z], rfl⟩)
       · exact wp_bf z (wp_s ⟨by simp only [rk, b01, if_neg z], rfl⟩))
    | (by_cases z : a = b
       · exact wp_bt z (wp_s ⟨by simp only [rk, b01, if_pos z], rfl⟩)
       · exact wp_bf z (wp_s ⟨by simp only [rk, b01, if_neg z], rfl⟩))
    | (by_cases z : a = nI 0
       · first
         | exact wp_bt z (wp_s ⟨by simp [rk, b01, z], rfl⟩)
         | (refine wp_bt z ?_
            by_cases z2 : b = nI 0
            · exact wp_bt z2 (wp_s ⟨by simp [rk, b01, z, z2], rfl⟩)
            · exact wp_bf z2 (wp_s ⟨by simp [rk, b01, z, z2], rfl⟩))
       · first
         | exact wp_bf z (wp_s ⟨by simp [rk, b01, z], rfl⟩)
         | (refine wp_bf z ?_
            by_cases z2 : b = nI 0
            · exact wp_bt z2 (wp_s ⟨by simp [rk, b01, z, z2], rfl⟩)
            · exact wp_bf z2 (wp_s ⟨by simp [rk, b01, z, z2], rfl⟩)))
theorem num_neg {n : Nat} (h : n < 10000) : mI 1 - nI n < nI 0 := by
  have e : mI 1 = nI 0 - nI 1 := rfl
  have : mI 1 - nI n = nI 0 - nI (n + 1) := by
    rw [e, ← nI_add, Int32.add_comm]
    apply Int32.toBitVec_inj.mp
    simp only [Int32.toBitVec_sub, Int32.toBitVec_add]
    generalize (nI n).toBitVec = x
    generalize (nI 0).toBitVec = y
    generalize (nI 1).toBitVec = w
    bv_omega
  rw [this]
  exact pk_sneg (by omega) (by omega)
theorem num_ne {n k : Nat} (h : n < 10000) (hk : k < 1000) : ¬ mI 1 - nI n = nI k := by
  intro e
  have := num_neg h
  rw [e] at this
  exact nI_pos (by omega) this
theorem num_back {n : Nat} : mI 1 - (mI 1 - nI n) = nI n := by
  apply Int32.toBitVec_inj.mp
  simp only [Int32.toBitVec_sub]
  generalize (nI n).toBitVec = x
  generalize (mI 1).toBitVec = y
  bv_omega
theorem fo_unit {h : MH} {k : Kp} (ok : kpo k) : ev M_Formula_isUnit 0 0 [some (.int (kC k))] [] h = some (some (.int (if k.1 < 2 then nI 1 else nI 0)), h) := by
  rw [r_Formula_isUnit_0]
  simp only [r_Formula_isUnit_12]
  apply wp_e
  unfold kC
  rcases ok with ⟨q, q2⟩ | ⟨q, q2⟩ | ⟨q, q2⟩ | q
  · rw [if_pos q, if_pos (by omega)]
    exact wp_bt (num_neg q2) (wp_isZ (by decide) (wp_s ⟨rfl, rfl⟩))
  · rw [if_neg (by omega), if_pos q, if_pos (by omega)]
    have : k.2 = 0 ∨ k.2 = 1 ∨ k.2 = 2 := by omega
    rcases this with z | z | z <;> rw [z] <;> (repeat (first | refine wp_isZ (by decide) ?_ | refine wp_bt (by decide) ?_ | refine wp_bf (by decide) ?_)) <;> exact wp_s ⟨rfl, rfl⟩
  · rw [if_neg (by omega), if_neg (by omega), if_pos q, if_neg (by omega)]
    have : k.2 = 0 ∨ k.2 = 1 ∨ k.2 = 2 ∨ k.2 = 3 ∨ k.2 = 4 ∨ k.2 = 5 ∨ k.2 = 6 ∨ k.2 = 7 ∨ k.2 = 8 ∨ k.2 = 9 := by omega
    rcases this with z | z | z | z | z | z | z | z | z | z <;> rw [z] <;> (repeat (first | refine wp_isZ (by decide) ?_ | refine wp_bt (by decide) ?_ | refine wp_bf (by decide) ?_)) <;> exact wp_s ⟨rfl, rfl⟩
  · rw [if_neg (by omega), if_neg (by omega), if_neg (by omega), if_neg (by omega)]
    (repeat (first | refine wp_isZ (by decide) ?_ | refine wp_bt (by decide) ?_ | refine wp_bf (by decide) ?_))
    exact wp_s ⟨rfl, rfl⟩
theorem fo_worth {h : MH} {k : Kp} {r c m : Int32} (ok : kpo k) (hk : k.1 < 2) : ev M_Formula_unitWorth 0 0 [some (.int (kC k)), some (.int r), some (.int c), some (.int m)] [] h = some (some (.int (if k.1 = 0 then nI k.2 else if k.2 = 0 then r else if k.2 = 1 then c else m)), h) := by
  rw [r_Formula_unitWorth_0]
  apply wp_e
  unfold kC
  rcases ok with ⟨q, q2⟩ | ⟨q, q2⟩ | ⟨q, q2⟩ | q
  · rw [if_pos q, if_pos q]
    refine wp_bf (num_ne q2 (by decide)) (wp_bf (num_ne q2 (by decide)) (wp_bf (num_ne q2 (by decide)) ?_))
    rw [num_back]
    exact wp_s ⟨rfl, rfl⟩
  · rw [if_neg (by omega), if_pos q, if_neg (by omega)]
    have : k.2 = 0 ∨ k.2 = 1 ∨ k.2 = 2 := by omega
    rcases this with z | z | z <;> rw [z] <;> (repeat (first | refine wp_bt (by decide) ?_ | refine wp_bf (by decide) ?_)) <;> exact wp_s ⟨rfl, rfl⟩
  · omega
  · omega
