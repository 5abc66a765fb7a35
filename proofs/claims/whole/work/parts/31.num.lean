/-! Sums, bits of a row, how many there are. -/
def sm (F : Nat → Nat) : Nat → Nat
  | 0 => 0
  | k + 1 => sm F k + F k
theorem sm_c {F G : Nat → Nat} : ∀ {n : Nat}, (∀ k, k < n → F k = G k) → sm F n = sm G n
  | 0, _ => rfl
  | n + 1, h => by rw [sm, sm, sm_c (fun k hk => h k (Nat.lt_succ_of_lt hk)), h n (Nat.lt_succ_self n)]
theorem sm_le {F : Nat → Nat} {b : Nat} : ∀ {n : Nat}, (∀ k, k < n → F k ≤ b) → sm F n ≤ n * b
  | 0, _ => by simp [sm]
  | n + 1, h => by
    have := sm_le (n := n) (fun k hk => h k (Nat.lt_succ_of_lt hk))
    have := h n (Nat.lt_succ_self n)
    rw [sm, Nat.succ_mul]; omega
theorem sm_0 {F : Nat → Nat} : ∀ {n : Nat}, (∀ k, k < n → F k = 0) → sm F n = 0
  | 0, _ => rfl
  | n + 1, h => by rw [sm, sm_0 (fun k hk => h k (Nat.lt_succ_of_lt hk)), h n (Nat.lt_succ_self n)]
theorem sm_a {F : Nat → Nat} (m : Nat) : ∀ n : Nat, sm F (m + n) = sm F m + sm (fun k => F (m + k)) n
  | 0 => rfl
  | n + 1 => by rw [← Nat.add_assoc, sm, sm_a m n, sm]; omega
theorem sm_add {F G : Nat → Nat} : ∀ n : Nat, sm (fun k => F k + G k) n = sm F n + sm G n
  | 0 => rfl
  | n + 1 => by rw [sm, sm, sm, sm_add n]; omega
theorem sm_mul {F : Nat → Nat} (c : Nat) : ∀ n : Nat, sm (fun k => c * F k) n = c * sm F n
  | 0 => by simp [sm]
  | n + 1 => by rw [sm, sm, sm_mul c n, Nat.mul_add]
theorem sm_swap {F : Nat → Nat → Nat} (m : Nat) : ∀ n : Nat, sm (fun i => sm (fun j => F i j) m) n = sm (fun j => sm (fun i => F i j) n) m
  | 0 => by show 0 = _; rw [sm_0]; intros; rfl
  | n + 1 => by
    rw [sm, sm_swap m n, ← sm_add]
    apply sm_c; intros; rfl
theorem sm_z {F : Nat → Nat} {m n : Nat} (h : m ≤ n) (hz : ∀ k, m ≤ k → k < n → F k = 0) : sm F n = sm F m := by
  obtain ⟨d, rfl⟩ := Nat.exists_eq_add_of_le h
  rw [sm_a, sm_0 (n := d), Nat.add_zero]
  intro k hk; exact hz _ (by omega) (by omega)
theorem sm_pos {F : Nat → Nat} : ∀ {n : Nat}, 0 < sm F n ↔ ∃ k, k < n ∧ 0 < F k
  | 0 => by simp [sm]
  | n + 1 => by
    rw [sm]
    constructor
    · intro h
      by_cases q : 0 < F n
      · exact ⟨n, Nat.lt_succ_self n, q⟩
      · obtain ⟨k, h1, h2⟩ := (sm_pos (F := F) (n := n)).mp (by omega)
        exact ⟨k, by omega, h2⟩
    · rintro ⟨k, h1, h2⟩
      by_cases q : k = n
      · subst q; omega
      · have := (sm_pos (n := n)).mpr ⟨k, by omega, h2⟩; omega
def bc (m : Nat) : Nat := sm (fun c => (m.testBit c).toNat) 16
def bR : Nat → Nat → Nat
  | 0, _ => 0
  | k + 1, n => n % 2 + bR k (n / 2)
theorem bR_eq : ∀ (k n : Nat), bR k n = sm (fun c => (n.testBit c).toNat) k
  | 0, _ => rfl
  | k + 1, n => by
    rw [bR, bR_eq k, Nat.add_comm k 1, sm_a]
    have e : sm (fun c => (n.testBit c).toNat) 1 = n % 2 := by
      show 0 + (n.testBit 0).toNat = n % 2
      rw [Nat.testBit_zero]
      rcases Nat.mod_two_eq_zero_or_one n with q | q <;> rw [q] <;> rfl
    rw [e]
    congr 1
    apply sm_c; intro c _
    show ((n / 2).testBit c).toNat = _
    rw [Nat.add_comm 1 c, Nat.testBit_succ]
theorem bc_r (m : Nat) : bc m = bR 16 m := (bR_eq 16 m).symm
theorem bc_0 : bc 0 = 0 := by decide
theorem bc_le (m : Nat) : bc m ≤ 16 := by
  have := sm_le (F := fun c => (m.testBit c).toNat) (b := 1) (n := 16) (fun k _ => Bool.toNat_le _)
  exact this
theorem bc_pos {m : Nat} (h : m < 2 ^ 16) : 0 < bc m ↔ m ≠ 0 := by
  unfold bc; rw [sm_pos]
  constructor
  · rintro ⟨k, h1, h2⟩ e; subst e; simp at h2
  · intro hm
    obtain ⟨i, hi⟩ := Nat.exists_testBit_of_ne_zero hm
    refine ⟨i, ?_, by simp [hi]⟩
    by_cases q : i < 16
    · exact q
    · have := Nat.testBit_lt_two_pow (x := m) (i := i) (Nat.lt_of_lt_of_le h (Nat.pow_le_pow_right (by decide) (by omega)))
      rw [this] at hi; cases hi
def bF (n : Nat) : Nat :=
  let a := n - (n / 2 &&& 1431655765)
  let b := (a &&& 858993459) + (a / 4 &&& 858993459)
  let c := (b + b / 16) &&& 252645135
  let d := c + c / 256
  let e := d + d / 65536
  e &&& 63
def bK : Nat → Nat → Nat → Bool
  | 0, n, c => Nat.beq (bF n) c
  | k + 1, n, c => match bK k (2 * n) c with
    | true => bK k (2 * n + 1) (c + 1)
    | false => false
set_option maxRecDepth 100000 in
set_option maxHeartbeats 4000000 in
theorem bK_all : bK 16 0 0 = true := by decide +kernel
theorem bK_of : ∀ (k n c m : Nat), bK k n c = true → m < 2 ^ k → bF (n * 2 ^ k + m) = c + bR k m
  | 0, n, c, m, h, hm => by
    have : m = 0 := by omega
    subst this
    have := Nat.eq_of_beq_eq_true h
    simp only [Nat.pow_zero, Nat.mul_one, Nat.add_zero, bR]; exact this
  | k + 1, n, c, m, h, hm => by
    rw [bK] at h
    have h1 : bK k (2 * n) c = true := by
      cases q : bK k (2 * n) c with
      | true => rfl
      | false => rw [q] at h; cases h
    rw [h1] at h
    have hp : 2 ^ (k + 1) = 2 * 2 ^ k := by rw [Nat.pow_succ, Nat.mul_comm]
    have hb : ∀ (j : Nat) (a : Nat), a < 2 ^ j → bR (j + 1) (2 ^ j + a) = 1 + bR j a ∧ bR (j + 1) a = bR j a := by
      intro j
      induction j with
      | zero => intro a ha; have : a = 0 := by omega
                subst this; exact ⟨rfl, rfl⟩
      | succ j ih =>
        intro a ha
        have hp2 : 2 ^ (j + 1) = 2 * 2 ^ j := by rw [Nat.pow_succ, Nat.mul_comm]
        obtain ⟨i1, i2⟩ := ih (a / 2) (by omega)
        constructor
        · show (2 ^ (j + 1) + a) % 2 + bR (j + 1) ((2 ^ (j + 1) + a) / 2) = 1 + (a % 2 + bR j (a / 2))
          rw [show (2 ^ (j + 1) + a) / 2 = 2 ^ j + a / 2 by omega, i1, show (2 ^ (j + 1) + a) % 2 = a % 2 by omega]; omega
        · show a % 2 + bR (j + 1) (a / 2) = a % 2 + bR j (a / 2)
          rw [i2]
    by_cases q : m < 2 ^ k
    · have := bK_of k (2 * n) c m h1 q
      rw [show n * 2 ^ (k + 1) + m = 2 * n * 2 ^ k + m by rw [hp]; congr 1; rw [Nat.mul_comm 2 n, Nat.mul_assoc], this, (hb k m q).2]
    · obtain ⟨a, rfl⟩ := Nat.exists_eq_add_of_le (Nat.le_of_not_lt q)
      have ha : a < 2 ^ k := by omega
      have := bK_of k (2 * n + 1) (c + 1) a h ha
      rw [(hb k a ha).1]
      rw [show n * 2 ^ (k + 1) + (2 ^ k + a) = (2 * n + 1) * 2 ^ k + a by rw [hp, Nat.add_mul, Nat.one_mul, Nat.mul_comm 2 n, Nat.mul_assoc]; omega, this]; omega
theorem bF_eq {m : Nat} (h : m < 2 ^ 16) : bF m = bc m := by
  have := bK_of 16 0 0 m bK_all h
  rw [Nat.zero_mul, Nat.zero_add, Nat.zero_add] at this
  rw [this, bc_r]
theorem nm_ush {n : Nat} (k : Nat) (hk : k < 32) (hn : n < 2 ^ 32) : ((nI n).toUInt32 >>> ((nI k).toUInt32 &&& Int32.toUInt32 31)).toInt32 = nI (n / 2 ^ k) := by
  have : ∀ j : Fin 32, (((nI j.val).toUInt32 &&& Int32.toUInt32 31).toBitVec % 32).toNat = j.val := by decide +kernel
  exact pk_ushrN hn _ k (this ⟨k, hk⟩)
theorem i_bc {m : Nat} (h : MH) (hm : m < 2 ^ 16) : ev M_Integer_bitCount 0 0 [some (.int (nI m))] [] h = some (some (.int (nI (bc m))), h) := by
  have ea : (nI m) - ((((nI m).toUInt32 >>> ((nI 1).toUInt32 &&& Int32.toUInt32 31)).toInt32) &&& (nI 1431655765)) = nI (m - (m / 2 &&& 1431655765)) := by
    rw [nm_ush 1 (by decide) (by omega), nm_and, pk_sub]
    exact Nat.le_trans Nat.and_le_left (Nat.div_le_self _ _)
  have ha : m - (m / 2 &&& 1431655765) ≤ m := Nat.sub_le _ _
  rw [r_Integer_bitCount_0]
  simp only [ea]
  generalize ha' : m - (m / 2 &&& 1431655765) = a at ha ⊢
  have eb : ((nI a &&& (nI 858993459)) + ((((nI a).toUInt32 >>> ((nI 2).toUInt32 &&& Int32.toUInt32 31)).toInt32) &&& (nI 858993459))) = nI ((a &&& 858993459) + (a / 4 &&& 858993459)) := by
    rw [nm_ush 2 (by decide) (by omega), nm_and, nm_and, nI_add]
  have hb : (a &&& 858993459) + (a / 4 &&& 858993459) ≤ 2 * 2 ^ 16 := by
    have h1 := Nat.and_le_left (n := a) (m := 858993459)
    have h2 := Nat.and_le_left (n := a / 4) (m := 858993459)
    have h3 := Nat.div_le_self a 4
    omega
  simp only [eb]
  generalize hb' : (a &&& 858993459) + (a / 4 &&& 858993459) = b at hb ⊢
  have ec : ((nI b + (((nI b).toUInt32 >>> ((nI 4).toUInt32 &&& Int32.toUInt32 31)).toInt32)) &&& (nI 252645135)) = nI ((b + b / 16) &&& 252645135) := by
    rw [nm_ush 4 (by decide) (by omega), nI_add, nm_and]
  have hc : ((b + b / 16) &&& 252645135) ≤ 4 * 2 ^ 16 := by
    have h1 := Nat.and_le_left (n := b + b / 16) (m := 252645135)
    have h3 := Nat.div_le_self b 16
    omega
  simp only [ec]
  generalize hc' : ((b + b / 16) &&& 252645135) = c at hc ⊢
  have ed : (nI c + (((nI c).toUInt32 >>> ((nI 8).toUInt32 &&& Int32.toUInt32 31)).toInt32)) = nI (c + c / 256) := by
    rw [nm_ush 8 (by decide) (by omega), nI_add]
  simp only [ed]
  have hd : c + c / 256 ≤ 8 * 2 ^ 16 := by omega
  generalize hd' : c + c / 256 = d at hd ⊢
  rw [nm_ush 16 (by decide) (by omega), nI_add, nm_and, ← bF_eq hm]
  unfold bF
  simp only [ha', hb', hc', hd']
