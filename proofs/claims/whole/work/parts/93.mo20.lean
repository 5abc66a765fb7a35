/-! Paths: what is reached, in how many steps. -/
def pth (G : Nat → Nat) : Nat → Nat → Nat → Prop
  | 0, i, k => i = k
  | m + 1, i, k => ∃ j, pth G m i j ∧ (G j).testBit k = true
theorem pth_f {G : Nat → Nat} : ∀ {m i k : Nat}, pth G (m + 1) i k ↔ ∃ j, (G i).testBit j = true ∧ pth G m j k
  | 0, i, k => by
    constructor
    · rintro ⟨j, h1, h2⟩
      have h1 : i = j := h1
      subst h1
      exact ⟨k, h2, rfl⟩
    · rintro ⟨j, h1, h2⟩
      have h2 : j = k := h2
      subst h2
      exact ⟨i, rfl, h1⟩
  | m + 1, i, k => by
    constructor
    · rintro ⟨j, h1, h2⟩
      obtain ⟨t, h3, h4⟩ := pth_f.mp h1
      exact ⟨t, h3, j, h4, h2⟩
    · rintro ⟨j, h1, t, h2, h3⟩
      exact ⟨t, pth_f.mpr ⟨j, h1, h2⟩, h3⟩
theorem pth_a {G : Nat → Nat} {a i k : Nat} : ∀ {b : Nat}, pth G (a + b) i k ↔ ∃ j, pth G a i j ∧ pth G b j k
  | 0 => by
    constructor
    · intro h; exact ⟨k, h, rfl⟩
    · rintro ⟨j, h1, h2⟩
      have h2 : j = k := h2
      subst h2
      exact h1
  | b + 1 => by
    constructor
    · rintro ⟨j, h1, h2⟩
      obtain ⟨t, h3, h4⟩ := pth_a.mp h1
      exact ⟨t, h3, j, h4, h2⟩
    · rintro ⟨j, h1, t, h2, h3⟩
      exact ⟨t, pth_a.mpr ⟨j, h1, h2⟩, h3⟩
theorem pth_n {n : Nat} {G : Nat → Nat} (V : GW n G) {i k : Nat} : ∀ {m : Nat}, pth G (m + 1) i k → i < n ∧ k < n
  | 0, h => by
    obtain ⟨j, h1, h2⟩ := h
    have h1 : i = j := h1
    subst h1
    exact V.in h2
  | m + 1, h => by
    obtain ⟨j, h1, h2⟩ := h
    exact ⟨(pth_n V h1).1, (V.in h2).2⟩
theorem rch_p {n : Nat} {G : Nat → Nat} (V : GW n G) {i k : Nat} : ∀ {m : Nat}, (rch n G (2 ^ i) m).testBit k = true ↔ ∃ l, l ≤ m ∧ pth G l i k
  | 0 => by
    show (2 ^ i).testBit k = true ↔ _
    rw [Nat.testBit_two_pow]
    constructor
    · intro h; exact ⟨0, Nat.le_refl _, show i = k from of_decide_eq_true h⟩
    · rintro ⟨l, h1, h2⟩
      have : l = 0 := by omega
      subst this
      exact decide_eq_true (show i = k from h2)
  | m + 1 => by
    show (rch n G (2 ^ i) m ||| sf n G (rch n G (2 ^ i) m)).testBit k = true ↔ _
    rw [Nat.testBit_or, Bool.or_eq_true, rch_p V (m := m), sf_t]
    constructor
    · rintro (⟨l, h1, h2⟩ | ⟨r, h1, h2, h3⟩)
      · exact ⟨l, by omega, h2⟩
      · obtain ⟨l, h4, h5⟩ := (rch_p V (m := m)).mp h2
        exact ⟨l + 1, by omega, r, h5, h3⟩
    · rintro ⟨l, h1, h2⟩
      by_cases z : l ≤ m
      · exact Or.inl ⟨l, z, h2⟩
      · have : l = m + 1 := by omega
        subst this
        obtain ⟨j, h3, h4⟩ := h2
        exact Or.inr ⟨j, (V.in h4).1, (rch_p V (m := m)).mpr ⟨m, Nat.le_refl _, h3⟩, h4⟩
theorem tp_t {n : Nat} {G : Nat → Nat} (V : GW n G) {i k : Nat} : (tp n G i).testBit k = (G k).testBit i := by
  show (if _ then _ else _ : Nat).testBit k = _
  by_cases z : i < n
  · rw [if_pos z]
    cases w : (G k).testBit i with
    | true => exact cs_t.mpr ⟨(V.in w).1, w⟩
    | false =>
      cases y : (cs n G i).testBit k with
      | false => rfl
      | true => rw [(cs_t.mp y).2] at w; cases w
  · rw [if_neg z, Nat.zero_testBit, V.tb (Or.inr (by omega))]
theorem pth_tp {n : Nat} {G : Nat → Nat} (V : GW n G) : ∀ {m i k : Nat}, pth (tp n G) m i k ↔ pth G m k i
  | 0, i, k => ⟨fun h => Eq.symm h, fun h => Eq.symm h⟩
  | m + 1, i, k => by
    rw [pth_f]
    constructor
    · rintro ⟨j, h1, h2⟩
      rw [tp_t V] at h1
      exact ⟨j, (pth_tp V).mp h2, h1⟩
    · rintro ⟨j, h1, h2⟩
      exact ⟨j, by rw [tp_t V]; exact h2, (pth_tp V).mpr h1⟩
/-! a set that grows, within sixteen -/
def sbs (a b : Nat) : Prop := ∀ i, a.testBit i = true → b.testBit i = true
theorem sbs_or {a b : Nat} : sbs a (a ||| b) := fun i h => by rw [Nat.testBit_or, h]; rfl
theorem sbs_eq {a b : Nat} (h1 : sbs a b) (h2 : sbs b a) : a = b := by
  apply Nat.eq_of_testBit_eq
  intro i
  cases z : a.testBit i with
  | true => exact (h1 i z).symm
  | false =>
    cases w : b.testBit i with
    | false => rfl
    | true => rw [h2 i w] at z; cases z
theorem sbs_bc {a b : Nat} (hb : b < 2 ^ 16) (h : sbs a b) (ne : a ≠ b) : bc a + 1 ≤ bc b := by
  have key : ∀ n, (∃ i, i < n ∧ a.testBit i = false ∧ b.testBit i = true) → sm (fun c => (a.testBit c).toNat) n + 1 ≤ sm (fun c => (b.testBit c).toNat) n := by
    intro n
    induction n with
    | zero => rintro ⟨i, h1, -⟩; omega
    | succ n ih =>
      rintro ⟨i, h1, h2, h3⟩
      have mono : ∀ n, sm (fun c => (a.testBit c).toNat) n ≤ sm (fun c => (b.testBit c).toNat) n := fun n => sm_mono (fun k _ => by
        cases z : a.testBit k with
        | false => exact Nat.zero_le _
        | true => rw [h k z]; exact Nat.le_refl _)
      rw [sm, sm]
      by_cases e : i = n
      · subst e
        rw [h2, h3]
        have := mono i
        show _ + 0 + 1 ≤ _ + 1
        omega
      · have := ih ⟨i, by omega, h2, h3⟩
        have : (a.testBit n).toNat ≤ (b.testBit n).toNat := by
          cases z : a.testBit n with
          | false => exact Nat.zero_le _
          | true => rw [h n z]; exact Nat.le_refl _
        omega
  obtain ⟨i, hi⟩ : ∃ i, a.testBit i = false ∧ b.testBit i = true := by
    by_cases z : ∃ i, a.testBit i = false ∧ b.testBit i = true
    · exact z
    · exact absurd (sbs_eq h (fun i hi => by
        cases w : a.testBit i with
        | true => rfl
        | false => exact absurd ⟨i, w, hi⟩ z)) ne
  have : i < 16 := by
    by_cases z : i < 16
    · exact z
    · have := Nat.testBit_lt_two_pow (x := b) (i := i) (Nat.lt_of_lt_of_le hb (Nat.pow_le_pow_right (by decide) (by omega)))
      rw [this] at hi; cases hi.2
  exact key 16 ⟨i, this, hi⟩
theorem bc_len {n a : Nat} (hn : n ≤ 16) (h : a < 2 ^ n) : bc a ≤ n := by
  rw [bc_n hn h]
  have := sm_le (F := fun c => (a.testBit c).toNat) (b := 1) (n := n) (fun k _ => Bool.toNat_le _)
  omega
theorem rch_sub {n s : Nat} {G : Nat → Nat} (k : Nat) : sbs (rch n G s k) (rch n G s (k + 1)) := sbs_or
theorem rch_fix {n s j : Nat} {G : Nat → Nat} (h : rch n G s (j + 1) = rch n G s j) : ∀ d, rch n G s (j + d) = rch n G s j
  | 0 => rfl
  | d + 1 => by
    show rch n G s (j + d) ||| sf n G (rch n G s (j + d)) = _
    rw [rch_fix h d]
    exact h
theorem rch_st {n s : Nat} {G : Nat → Nat} (V : GW n G) (h0 : s ≠ 0) (hs : s < 2 ^ n) : ∃ j, j < n ∧ rch n G s (j + 1) = rch n G s j := by
  have h16 := V.1
  by_cases z : ∃ j, j < n ∧ rch n G s (j + 1) = rch n G s j
  · exact z
  · exfalso
    have hlt : ∀ k, rch n G s k < 2 ^ n := rch_lt V.2.1 hs
    have key : ∀ k, k ≤ n → bc s + k ≤ bc (rch n G s k) := by
      intro k
      induction k with
      | zero => intro _; exact Nat.le_refl _
      | succ k ih =>
        intro hk
        have := ih (by omega)
        have := sbs_bc (Nat.lt_of_lt_of_le (hlt (k + 1)) (Nat.pow_le_pow_right (by decide) h16)) (rch_sub k) (fun e => z ⟨k, by omega, e.symm⟩)
        omega
    have h1 := key n (Nat.le_refl _)
    have h2 := bc_len h16 (hlt n)
    have h3 := (bc_pos (Nat.lt_of_lt_of_le hs (Nat.pow_le_pow_right (by decide) h16))).mpr h0
    omega
theorem rch_n {n s : Nat} {G : Nat → Nat} (V : GW n G) (h0 : s ≠ 0) (hs : s < 2 ^ n) {k : Nat} (hk : n ≤ k + 1) : rch n G s k = rch n G s n := by
  obtain ⟨j, h1, h2⟩ := rch_st V h0 hs
  have a := rch_fix h2 (k - j)
  have b := rch_fix h2 (n - j)
  rw [show j + (k - j) = k by omega] at a
  rw [show j + (n - j) = n by omega] at b
  rw [a, b]
theorem rch_e {n s : Nat} {G : Nat → Nat} (V : GW n G) (h0 : s ≠ 0) (hs : s < 2 ^ n) {k : Nat} (h : rch n G s (k + 1) = rch n G s k) : rch n G s k = rch n G s n := by
  by_cases z : n ≤ k + 1
  · exact rch_n V h0 hs z
  · have := rch_fix h (n - k)
    rw [show k + (n - k) = n by omega] at this
    exact this.symm
theorem rch_c {n s : Nat} {G : Nat → Nat} (V : GW n G) (h0 : s ≠ 0) (hs : s < 2 ^ n) : rch n G s n ||| sf n G (rch n G s n) = rch n G s n := rch_n (k := n + 1) V h0 hs (by omega)
/-- any way can be gone in so few steps -/
theorem pth_few {n : Nat} {G : Nat → Nat} (V : GW n G) {i k l : Nat} (hi : i < n) (h : pth G l i k) : ∃ l', l' + 1 ≤ n ∧ pth G l' i k := by
  have h1 : (rch n G (2 ^ i) l).testBit k = true := (rch_p V).mpr ⟨l, Nat.le_refl _, h⟩
  have hs : 2 ^ i < 2 ^ n := Nat.pow_lt_pow_right (by decide) hi
  have hp := Nat.two_pow_pos i
  have h2 : (rch n G (2 ^ i) (n - 1)).testBit k = true := by
    by_cases z : n ≤ l + 1
    · rw [rch_n V (by omega) hs z] at h1
      rw [rch_n (k := n - 1) V (by omega) hs (by omega)]
      exact h1
    · exact (rch_p V).mpr ⟨l, by omega, h⟩
  obtain ⟨l', h3, h4⟩ := (rch_p V).mp h2
  exact ⟨l', by omega, h4⟩
/-! goes -/
theorem go1_t {n : Nat} {X : Nat → Nat} (V : GW n X) {r c : Nat} : (go1 n X r).testBit c = true ↔ (X r).testBit c = true ∨ ∃ j, (X r).testBit j = true ∧ (X j).testBit c = true := by
  show (if _ then _ else _ : Nat).testBit c = true ↔ _
  by_cases z : r < n
  · rw [if_pos z, Nat.testBit_or, Bool.or_eq_true, sf_t]
    constructor
    · rintro (h | ⟨j, h1, h2, h3⟩)
      · exact Or.inl h
      · exact Or.inr ⟨j, h2, h3⟩
    · rintro (h | ⟨j, h2, h3⟩)
      · exact Or.inl h
      · exact Or.inr ⟨j, (V.in h3).1, h2, h3⟩
  · rw [if_neg z, Nat.zero_testBit]
    constructor
    · intro h; cases h
    · rintro (h | ⟨j, h2, h3⟩)
      · exact absurd (V.in h).1 z
      · exact absurd (V.in h2).1 z
theorem gos_t {n : Nat} {G : Nat → Nat} (V : GW n G) : ∀ {m r c : Nat}, (gos n G m r).testBit c = true ↔ ∃ l, 1 ≤ l ∧ l ≤ 2 ^ m ∧ pth G l r c
  | 0, r, c => by
    show (G r).testBit c = true ↔ _
    constructor
    · intro h; exact ⟨1, Nat.le_refl _, Nat.le_refl _, r, rfl, h⟩
    · rintro ⟨l, h1, h2, h3⟩
      have : l = 1 := by omega
      subst this
      obtain ⟨j, h4, h5⟩ := h3
      have h4 : r = j := h4
      subst h4
      exact h5
  | m + 1, r, c => by
    have hp : 2 ^ (m + 1) = 2 ^ m + 2 ^ m := by rw [Nat.pow_succ]; omega
    show (go1 n (gos n G m) r).testBit c = true ↔ _
    rw [go1_t (V.gos m), gos_t V (m := m)]
    constructor
    · rintro (⟨l, h1, h2, h3⟩ | ⟨j, h1, h2⟩)
      · exact ⟨l, h1, by omega, h3⟩
      · obtain ⟨a, a1, a2, a3⟩ := (gos_t V).mp h1
        obtain ⟨b, b1, b2, b3⟩ := (gos_t V).mp h2
        exact ⟨a + b, by omega, by omega, pth_a.mpr ⟨j, a3, b3⟩⟩
    · rintro ⟨l, h1, h2, h3⟩
      by_cases z : l ≤ 2 ^ m
      · exact Or.inl ⟨l, h1, z, h3⟩
      · have hm := Nat.two_pow_pos m
        rw [show l = 2 ^ m + (l - 2 ^ m) by omega] at h3
        obtain ⟨j, h4, h5⟩ := pth_a.mp h3
        exact Or.inr ⟨j, (gos_t V).mpr ⟨2 ^ m, hm, Nat.le_refl _, h4⟩, (gos_t V).mpr ⟨l - 2 ^ m, by omega, by omega, h5⟩⟩
theorem nd_0 {a b : Nat} : nd a b = 0 ↔ sbs a b := by
  constructor
  · intro h i hi
    have : (nd a b).testBit i = false := by rw [h, Nat.zero_testBit]
    rw [nd_t, hi, Bool.true_and] at this
    cases z : b.testBit i with
    | true => rfl
    | false => rw [z] at this; cases this
  · intro h
    by_cases z : nd a b = 0
    · exact z
    · obtain ⟨i, hi⟩ := Nat.exists_testBit_of_ne_zero z
      rw [nd_t, Bool.and_eq_true] at hi
      rw [h i hi.1] at hi
      cases hi.2
theorem or_e {a b : Nat} : a ||| b = a ↔ sbs b a := by
  constructor
  · intro h i hi
    rw [← h, Nat.testBit_or, hi, Bool.or_true]
  · intro h
    apply Nat.eq_of_testBit_eq
    intro i
    rw [Nat.testBit_or]
    cases z : b.testBit i with
    | false => rw [Bool.or_false]
    | true => rw [h i z]; rfl
theorem stl_t {n : Nat} {X : Nat → Nat} (V : GW n X) : stl n X = true ↔ ∀ r j c, (X r).testBit j = true → (X j).testBit c = true → (X r).testBit c = true := by
  unfold stl
  rw [allb_t]
  constructor
  · intro h r j c h1 h2
    have := of_decide_eq_true (h r (V.in h1).1)
    exact nd_0.mp this c (sf_t.mpr ⟨j, (V.in h2).1, h1, h2⟩)
  · intro h r _
    apply decide_eq_true
    rw [nd_0]
    intro c hc
    obtain ⟨j, -, h2, h3⟩ := sf_t.mp hc
    exact h r j c h2 h3
theorem stl_go {n : Nat} {X : Nat → Nat} (V : GW n X) (h : stl n X = true) : go1 n X = X := by
  funext r
  apply sbs_eq
  · intro c hc
    rcases (go1_t V).mp hc with h1 | ⟨j, h1, h2⟩
    · exact h1
    · exact (stl_t V).mp h r j c h1 h2
  · intro c hc
    exact (go1_t V).mpr (Or.inl hc)
theorem stl_4 {n : Nat} {G : Nat → Nat} (V : GW n G) : stl n (gos n G 4) = true := by
  have h16 := V.1
  rw [stl_t (V.gos 4)]
  intro r j c h1 h2
  obtain ⟨a, a1, a2, a3⟩ := (gos_t V).mp h1
  obtain ⟨b, b1, b2, b3⟩ := (gos_t V).mp h2
  have h3 : pth G ((a + b - 1) + 1) r c := by rw [show (a + b - 1) + 1 = a + b by omega]; exact pth_a.mpr ⟨j, a3, b3⟩
  obtain ⟨t, h4, h5⟩ := pth_f.mp h3
  have ht : t < n := (V.in h4).2
  obtain ⟨l, h6, h7⟩ := pth_few V ht h5
  exact (gos_t V).mpr ⟨l + 1, by omega, by show l + 1 ≤ 16; omega, pth_f.mpr ⟨t, h4, h7⟩⟩
theorem gos_fix {n : Nat} {G : Nat → Nat} (V : GW n G) {m : Nat} (h : stl n (gos n G m) = true) : ∀ d, gos n G (m + d) = gos n G m
  | 0 => rfl
  | d + 1 => by
    show go1 n (gos n G (m + d)) = _
    rw [gos_fix V h d]
    exact stl_go (V.gos m) h
theorem ngo_1 {n : Nat} {G : Nat → Nat} {m : Nat} (h : stl n (gos n G (ngo n G m)) = true) : ∀ d, ngo n G (m + d) = ngo n G m
  | 0 => rfl
  | d + 1 => by
    show (if stl n (gos n G (ngo n G (m + d))) then ngo n G (m + d) else ngo n G (m + d) + 1) = _
    rw [ngo_1 h d, h, if_pos rfl]
theorem ngo_2 {n : Nat} {G : Nat → Nat} : ∀ m, (∀ j, j < m → stl n (gos n G j) = false) → ngo n G m = m
  | 0, _ => rfl
  | m + 1, h => by
    show (if stl n (gos n G (ngo n G m)) then ngo n G m else ngo n G m + 1) = _
    rw [ngo_2 m (fun j hj => h j (by omega)), h m (by omega), if_neg (by decide)]
/-- the first go that brings nothing new -/
theorem ngo_e {n : Nat} {G : Nat → Nat} {m : Nat} (hm : m ≤ 16) (h1 : ∀ j, j < m → stl n (gos n G j) = false) (h2 : stl n (gos n G m) = true) : ngo n G 16 = m := by
  have e := ngo_2 m h1
  have := ngo_1 (n := n) (G := G) (m := m) (by rw [e]; exact h2) (16 - m)
  rw [show m + (16 - m) = 16 by omega, e] at this
  exact this
theorem ngo_st {n : Nat} {G : Nat → Nat} (V : GW n G) : stl n (gos n G (ngo n G 16)) = true := by
  by_cases z : ∃ m, m < 5 ∧ (∀ j, j < m → stl n (gos n G j) = false) ∧ stl n (gos n G m) = true
  · obtain ⟨m, h1, h2, h3⟩ := z
    rw [ngo_e (by omega) h2 h3]; exact h3
  · exfalso
    have key : ∀ m, m ≤ 5 → ∀ j, j < m → stl n (gos n G j) = false := by
      intro m
      induction m with
      | zero => intro _ j hj; omega
      | succ m ih =>
        intro hm j hj
        by_cases e : j = m
        · subst e
          cases w : stl n (gos n G j) with
          | false => rfl
          | true => exact absurd ⟨j, by omega, ih (by omega), w⟩ z
        · exact ih (by omega) j (by omega)
    have := key 5 (Nat.le_refl _) 4 (by decide)
    rw [stl_4 V] at this
    cases this
/-- what can be gone from r to c in one step or more -/
theorem clo_t {n : Nat} {G : Nat → Nat} (V : GW n G) {r c : Nat} : (gos n G (ngo n G 16) r).testBit c = true ↔ ∃ j, (G r).testBit j = true ∧ (rch n G (2 ^ j) n).testBit c = true := by
  have st := (stl_t (V.gos _)).mp (ngo_st V)
  constructor
  · intro h
    obtain ⟨l, h1, h2, h3⟩ := (gos_t V).mp h
    rw [show l = (l - 1) + 1 by omega] at h3
    obtain ⟨j, h4, h5⟩ := pth_f.mp h3
    obtain ⟨l', h6, h7⟩ := pth_few V (V.in h4).2 h5
    exact ⟨j, h4, (rch_p V).mpr ⟨l', by omega, h7⟩⟩
  · rintro ⟨j, h1, h2⟩
    obtain ⟨l, h3, h4⟩ := (rch_p V).mp h2
    have b1 : ∀ r c, (G r).testBit c = true → (gos n G (ngo n G 16) r).testBit c = true := fun r c hc => (gos_t V).mpr ⟨1, Nat.le_refl _, Nat.two_pow_pos _, r, rfl, hc⟩
    have key : ∀ l c, pth G l j c → (gos n G (ngo n G 16) r).testBit c = true := by
      intro l
      induction l with
      | zero =>
        intro c hc
        have hc : j = c := hc
        subst hc
        exact b1 r j h1
      | succ l ih =>
        rintro c ⟨t, h5, h6⟩
        exact st r t c (ih t h5) (b1 t c h6)
    exact key l c h4
