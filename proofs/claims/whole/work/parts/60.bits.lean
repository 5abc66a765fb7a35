/-! Which blocks are not empty; how many bits a tree has. -/
theorem hv_t {G : Nat → Nat} {m r c : Nat} : (hv G m r).testBit c = true ↔ c < m ∧ ((G (2 * r)).testBit (2 * c) = true ∨ (G (2 * r + 1)).testBit (2 * c) = true ∨ (G (2 * r)).testBit (2 * c + 1) = true ∨ (G (2 * r + 1)).testBit (2 * c + 1) = true) := by
  unfold hv
  rw [orr_t]
  constructor
  · rintro ⟨k, h1, h2⟩
    by_cases q : (((G (2 * r) ||| G (2 * r + 1)).testBit (2 * k) || (G (2 * r) ||| G (2 * r + 1)).testBit (2 * k + 1)) = true)
    · rw [if_pos q, Nat.testBit_two_pow] at h2
      have : k = c := of_decide_eq_true h2
      subst this
      refine ⟨h1, ?_⟩
      rw [Nat.testBit_or, Nat.testBit_or] at q
      simp only [Bool.or_eq_true] at q
      rcases q with (q | q) | (q | q)
      · exact Or.inl q
      · exact Or.inr (Or.inl q)
      · exact Or.inr (Or.inr (Or.inl q))
      · exact Or.inr (Or.inr (Or.inr q))
    · rw [if_neg q] at h2; simp at h2
  · rintro ⟨h1, h2⟩
    refine ⟨c, h1, ?_⟩
    rw [if_pos, Nat.testBit_two_pow_self]
    rw [Nat.testBit_or, Nat.testBit_or]
    simp only [Bool.or_eq_true]
    rcases h2 with h | h | h | h
    · exact Or.inl (Or.inl h)
    · exact Or.inl (Or.inr h)
    · exact Or.inr (Or.inl h)
    · exact Or.inr (Or.inr h)
theorem GW.in {n : Nat} {G : Nat → Nat} (V : GW n G) {r c : Nat} (h : (G r).testBit c = true) : r < n ∧ c < n := by
  constructor
  · by_cases q : r < n
    · exact q
    · rw [V.tb (Or.inl (by omega))] at h; cases h
  · by_cases q : c < n
    · exact q
    · rw [V.tb (Or.inr (by omega))] at h; cases h
theorem hd_t {v : Nat} {G : Nat → Nat} (V : GW (2 ^ v) G) : ∀ d, d ≤ v → ∀ r c, (hd v G d r).testBit c = true ↔ ∃ i j, i / 2 ^ d = r ∧ j / 2 ^ d = c ∧ (G i).testBit j = true
  | 0, _, r, c => by
    constructor
    · intro h; exact ⟨r, c, by rw [Nat.pow_zero, Nat.div_one], by rw [Nat.pow_zero, Nat.div_one], h⟩
    · rintro ⟨i, j, h1, h2, h3⟩
      rw [Nat.pow_zero, Nat.div_one] at h1 h2
      subst h1; subst h2; exact h3
  | d + 1, hd', r, c => by
    have ih := hd_t V d (by omega)
    show (if r < 2 ^ (v - (d + 1)) then hv (hd v G d) (2 ^ (v - (d + 1))) r else 0).testBit c = true ↔ _
    have half : ∀ a : Nat, a / 2 ^ (d + 1) = a / 2 ^ d / 2 := fun a => by rw [Nat.pow_succ, Nat.div_div_eq_div_mul]
    constructor
    · intro h
      by_cases q : r < 2 ^ (v - (d + 1))
      · rw [if_pos q, hv_t] at h
        obtain ⟨-, h⟩ := h
        rcases h with h | h | h | h <;>
          (obtain ⟨i, j, h1, h2, h3⟩ := (ih _ _).mp h
           exact ⟨i, j, by rw [half, h1]; omega, by rw [half, h2]; omega, h3⟩)
      · rw [if_neg q] at h; simp at h
    · rintro ⟨i, j, h1, h2, h3⟩
      obtain ⟨b1, b2⟩ := V.in h3
      have bd : ∀ a : Nat, a < 2 ^ v → a / 2 ^ (d + 1) < 2 ^ (v - (d + 1)) := fun a ha => by
        rw [Nat.div_lt_iff_lt_mul (Nat.two_pow_pos _), ← Nat.pow_add, show v - (d + 1) + (d + 1) = v by omega]; exact ha
      have hr := bd i b1
      have hc := bd j b2
      rw [h1] at hr; rw [h2] at hc
      rw [if_pos hr, hv_t]
      refine ⟨hc, ?_⟩
      rw [half] at h1 h2
      have hx : ∀ a b, a = i / 2 ^ d → b = j / 2 ^ d → (hd v G d a).testBit b = true := fun a b e1 e2 => (ih a b).mpr ⟨i, j, e1.symm, e2.symm, h3⟩
      by_cases z1 : i / 2 ^ d = 2 * r
      · by_cases z2 : j / 2 ^ d = 2 * c
        · exact Or.inl (hx _ _ z1.symm z2.symm)
        · exact Or.inr (Or.inr (Or.inl (hx _ _ z1.symm (by omega))))
      · by_cases z2 : j / 2 ^ d = 2 * c
        · exact Or.inr (Or.inl (hx _ _ (by omega) z2.symm))
        · exact Or.inr (Or.inr (Or.inr (hx _ _ (by omega) (by omega))))
theorem fl_t {v l : Nat} {G : Nat → Nat} (V : GW (2 ^ v) G) {r c : Nat} : (fl v G l r).testBit c = true ↔ ∃ i j, i / 2 ^ (v - l) = r ∧ j / 2 ^ (v - l) = c ∧ (G i).testBit j = true := hd_t V (v - l) (by omega) r c
theorem fl_par {v l : Nat} {G : Nat → Nat} (V : GW (2 ^ v) G) (hl : l + 1 ≤ v) {r c : Nat} (h : (fl v G (l + 1) r).testBit c = true) : (fl v G l (r / 2)).testBit (c / 2) = true := by
  obtain ⟨i, j, h1, h2, h3⟩ := (fl_t V).mp h
  refine (fl_t V).mpr ⟨i, j, ?_, ?_, h3⟩
  · rw [← h1, Nat.div_div_eq_div_mul, ← Nat.pow_succ, show (v - (l + 1)).succ = v - l by omega]
  · rw [← h2, Nat.div_div_eq_div_mul, ← Nat.pow_succ, show (v - (l + 1)).succ = v - l by omega]
/-! sums over the row of bits -/
def ls (w : Eb → Nat) : List Eb → Nat
  | [] => 0
  | e :: l => w e + ls w l
theorem ls_app (w : Eb → Nat) : ∀ P Q : List Eb, ls w (P ++ Q) = ls w P + ls w Q
  | [], Q => by rw [List.nil_append]; show _ = 0 + _; omega
  | e :: P, Q => by show w e + ls w (P ++ Q) = w e + ls w P + ls w Q; rw [ls_app w P Q]; omega
theorem ls_c {w u : Eb → Nat} : ∀ {Q : List Eb}, (∀ e, e ∈ Q → w e = u e) → ls w Q = ls u Q
  | [], _ => rfl
  | e :: Q, h => by show w e + ls w Q = u e + ls u Q; rw [h e (List.mem_cons_self ..), ls_c (fun e he => h e (List.mem_cons_of_mem _ he))]
theorem ls_len : ∀ Q : List Eb, ls (fun _ => 1) Q = Q.length
  | [] => rfl
  | e :: Q => by show 1 + ls _ Q = Q.length + 1; rw [ls_len Q]; omega
theorem ls_add (w u : Eb → Nat) : ∀ Q : List Eb, ls (fun e => w e + u e) Q = ls w Q + ls u Q
  | [] => rfl
  | e :: Q => by show (w e + u e) + ls _ Q = (w e + ls w Q) + (u e + ls u Q); rw [ls_add w u Q]; omega
theorem ls_mul (c : Nat) (w : Eb → Nat) : ∀ Q : List Eb, ls (fun e => c * w e) Q = c * ls w Q
  | [] => by show 0 = c * 0; omega
  | e :: Q => by show c * w e + ls _ Q = c * (w e + ls w Q); rw [ls_mul c w Q, Nat.mul_add]
/-- each bit but the first four came with its block -/
def JI (v : Nat) (p : Eb → Bool) (k : Nat) (Q : List Eb) : Prop := ∀ w : Eb → Nat, ls w Q = ls w (qs (0, 0, 0)) + ls (fun e => if e.1 < v ∧ p e = true then ls w (qs e) else 0) (Q.take k)
theorem JI_next {v : Nat} {p : Eb → Bool} {k : Nat} {Q : List Eb} {e : Eb} (I : JI v p k Q) (he : Q[k]? = some e) : JI v p (k + 1) (qAt v p Q e) := by
  intro w
  have hk : k < Q.length := (List.getElem?_eq_some_iff.mp he).1
  have ht : ∀ P : List Eb, (Q ++ P).take (k + 1) = Q.take k ++ [e] := fun P => by
    rw [List.take_append_of_le_length (by omega), List.take_add_one, he]; rfl
  unfold qAt
  by_cases q : e.1 < v ∧ p e = true
  · rw [if_pos q, ls_app, I w, ht, ls_app]
    show _ = _ + (_ + ((if _ then _ else _) + 0))
    rw [if_pos q]; omega
  · rw [if_neg q, I w]
    have := ht []
    rw [List.append_nil] at this
    rw [this, ls_app]
    show _ = _ + (_ + ((if _ then _ else _) + 0))
    rw [if_neg q]; rfl
theorem JI_bq {v : Nat} {p : Eb → Bool} (h4 : v ≤ 4) : ∀ m k Q, k + m = 341 → QI v p k Q → JI v p k Q → JI v p (bq v p m k Q).length (bq v p m k Q)
  | 0, k, Q, hk, I, J => absurd (QI_len I h4) (by have := I.1; omega)
  | m + 1, k, Q, hk, I, J => by
    rw [bq]
    cases e : Q[k]? with
    | none =>
      dsimp only
      have : Q.length ≤ k := List.getElem?_eq_none_iff.mp e
      rw [show Q.length = k by have := I.1; omega]; exact J
    | some e1 => exact JI_bq h4 m (k + 1) _ (by omega) (QI_next I e) (JI_next J e)
theorem bits_J {v : Nat} {p : Eb → Bool} (h1 : 1 ≤ v) (h4 : v ≤ 4) (w : Eb → Nat) : ls w (bits v p) = ls w (qs (0, 0, 0)) + ls (fun e => if e.1 < v ∧ p e = true then ls w (qs e) else 0) (bits v p) := by
  have := JI_bq h4 341 0 (qs (0, 0, 0)) (by omega) (QI_0 h1) (fun w => by rw [List.take_zero]; rfl) (p := p) w
  rw [List.take_length] at this
  exact this
def wl (F : Nat → Nat → Nat) (l : Nat) (e : Eb) : Nat := if e.1 = l then F e.2.1 e.2.2 else 0
/-- the four quarters' -/
def fq (F : Nat → Nat → Nat) (r c : Nat) : Nat := F (2 * r) (2 * c) + F (2 * r) (2 * c + 1) + F (2 * r + 1) (2 * c) + F (2 * r + 1) (2 * c + 1)
theorem wl_qs (F : Nat → Nat → Nat) (l : Nat) (e : Eb) : ls (wl F (l + 1)) (qs e) = if e.1 = l then fq F e.2.1 e.2.2 else 0 := by
  show wl F (l + 1) _ + (wl F (l + 1) _ + (wl F (l + 1) _ + (wl F (l + 1) _ + 0))) = _
  unfold wl fq
  by_cases q : e.1 = l
  · rw [if_pos q]; dsimp only; rw [if_pos (by omega), if_pos (by omega), if_pos (by omega), if_pos (by omega)]; omega
  · rw [if_neg q]; dsimp only; rw [if_neg (by omega), if_neg (by omega), if_neg (by omega), if_neg (by omega)]
def s2 (F : Nat → Nat → Nat) (n : Nat) : Nat := sm (fun r => sm (fun c => F r c) n) n
theorem sm_2 (F : Nat → Nat) : ∀ n, sm F (2 * n) = sm (fun k => F (2 * k) + F (2 * k + 1)) n
  | 0 => rfl
  | n + 1 => by
    show sm F (2 * n + 1 + 1) = _
    rw [sm, sm, sm_2 F n, sm]; omega
theorem s2_q (F : Nat → Nat → Nat) (n : Nat) : s2 F (2 * n) = s2 (fq F) n := by
  unfold s2
  rw [sm_2]
  apply sm_c
  intro r _
  rw [sm_2, sm_2, ← sm_add]
  apply sm_c
  intro c _
  unfold fq; omega
theorem bits_l {v : Nat} {G : Nat → Nat} (V : GW (2 ^ v) G) (h1 : 1 ≤ v) (h4 : v ≤ 4) : ∀ l, 1 ≤ l → l ≤ v → ∀ F : Nat → Nat → Nat, (∀ r c, (fl v G (l - 1) (r / 2)).testBit (c / 2) = false → 2 ≤ l → F r c = 0) → ls (wl F l) (bits v (fb v G)) = s2 F (2 ^ l)
  | 0, h, _, _, _ => by omega
  | 1, _, _, F, _ => by
    have I := (bits_I (p := fb v G) h1 h4).2.1
    rw [bits_J h1 h4, wl_qs, if_pos rfl]
    have : ls (fun e => if e.1 < v ∧ fb v G e = true then ls (wl F 1) (qs e) else 0) (bits v (fb v G)) = ls (fun _ => 0) (bits v (fb v G)) := ls_c (fun e he => by
      have := (I e he).1
      try dsimp only
      rw [wl_qs, if_neg (show ¬ e.1 = 0 by omega)]
      split <;> rfl)
    rw [this, show ls (fun _ => 0) (bits v (fb v G)) = 0 from by
      have := ls_mul 0 (fun _ => 0) (bits v (fb v G)); simp only [Nat.zero_mul] at this; exact this]
    show fq F 0 0 + 0 = s2 F (2 * 1)
    rw [s2_q]
    show _ = 0 + (0 + fq F 0 0)
    omega
  | l + 2, _, hl, F, hF => by
    have I := (bits_I (p := fb v G) h1 h4).2.1
    have ih := bits_l V h1 h4 (l + 1) (by omega) (by omega) (fun r c => if (fl v G (l + 1) r).testBit c = true then fq F r c else 0) (fun r c hz h2 => by
      try dsimp only
      rw [if_neg]
      intro z
      have := fl_par V (show l + 1 ≤ v by omega) z
      rw [show l + 1 - 1 = l by omega] at hz
      rw [this] at hz; cases hz)
    rw [bits_J h1 h4, wl_qs, if_neg (by show ¬ 0 = l + 1; omega), Nat.zero_add]
    have e1 : ls (fun e => if e.1 < v ∧ fb v G e = true then ls (wl F (l + 2)) (qs e) else 0) (bits v (fb v G)) = ls (wl (fun r c => if (fl v G (l + 1) r).testBit c = true then fq F r c else 0) (l + 1)) (bits v (fb v G)) := ls_c (fun e he => by
      try dsimp only
      rw [wl_qs]
      unfold wl
      by_cases q : e.1 = l + 1
      · rw [if_pos q, if_pos q]
        have eq : fb v G e = (fl v G (l + 1) e.2.1).testBit e.2.2 := by unfold fb; rw [q]
        rw [eq]
        by_cases z : (fl v G (l + 1) e.2.1).testBit e.2.2 = true
        · rw [if_pos ⟨by omega, z⟩]; show _ = if _ then _ else _; rw [if_pos z]
        · rw [if_neg (fun w => z w.2)]; show _ = if _ then _ else _; rw [if_neg z]
      · rw [if_neg q, if_neg q]; split <;> rfl)
    rw [e1, ih, show 2 ^ (l + 2) = 2 * 2 ^ (l + 1) by rw [Nat.pow_succ 2 (l + 1), Nat.mul_comm], s2_q]
    unfold s2
    apply sm_c; intro r _
    apply sm_c; intro c _
    show (if (fl v G (l + 1) r).testBit c = true then fq F r c else 0) = fq F r c
    by_cases z : (fl v G (l + 1) r).testBit c = true
    · rw [if_pos z]
    · rw [if_neg z]
      have hz := (Bool.not_eq_true _).mp z
      unfold fq
      rw [hF _ _ (by rw [show l + 2 - 1 = l + 1 by omega, show 2 * r / 2 = r by omega, show 2 * c / 2 = c by omega]; exact hz) (by omega), hF _ _ (by rw [show l + 2 - 1 = l + 1 by omega, show 2 * r / 2 = r by omega, show (2 * c + 1) / 2 = c by omega]; exact hz) (by omega), hF _ _ (by rw [show l + 2 - 1 = l + 1 by omega, show (2 * r + 1) / 2 = r by omega, show 2 * c / 2 = c by omega]; exact hz) (by omega), hF _ _ (by rw [show l + 2 - 1 = l + 1 by omega, show (2 * r + 1) / 2 = r by omega, show (2 * c + 1) / 2 = c by omega]; exact hz) (by omega)]
theorem bc_n {n m : Nat} (hn : n ≤ 16) (hm : m < 2 ^ n) : bc m = sm (fun c => (m.testBit c).toNat) n := by
  unfold bc
  exact sm_z hn (fun k h1 _ => by
    rw [Nat.testBit_lt_two_pow (Nat.lt_of_lt_of_le hm (Nat.pow_le_pow_right (by decide) h1))]; rfl)
theorem ct_2 {n : Nat} {G : Nat → Nat} (V : GW n G) : ct n G = s2 (fun r c => ((G r).testBit c).toNat) n := by
  unfold ct s2
  apply sm_c; intro r _
  exact bc_n V.1 (V.2.1 r)
/-- how many of the row of bits are on, by levels -/
theorem on_l {v l : Nat} {G : Nat → Nat} (V : GW (2 ^ v) G) (h1 : 1 ≤ v) (h4 : v ≤ 4) (hl : 1 ≤ l) (hv : l ≤ v) : ls (wl (fun r c => ((fl v G l r).testBit c).toNat) l) (bits v (fb v G)) = ct (2 ^ l) (fl v G l) := by
  rw [ct_2 (fl_W V hv)]
  refine bits_l V h1 h4 l hl hv _ (fun r c hz h2 => ?_)
  try dsimp only
  cases z : (fl v G l r).testBit c with
  | false => rfl
  | true =>
    have := fl_par (l := l - 1) V (by omega) (by rw [show l - 1 + 1 = l by omega]; exact z)
    rw [this] at hz; cases hz
theorem nb_len {v : Nat} {G : Nat → Nat} (V : GW (2 ^ v) G) (h1 : 1 ≤ v) (h4 : v ≤ 4) : nb v G = (bits v (fb v G)).length := by
  have I := (bits_I (p := fb v G) h1 h4).2.1
  rw [← ls_len, bits_J h1 h4]
  show _ = 4 + _
  unfold nb
  congr 1
  have e1 : ls (fun e => if e.1 < v ∧ fb v G e = true then ls (fun _ => 1) (qs e) else 0) (bits v (fb v G)) = ls (fun e => sm (fun l => 4 * wl (fun r c => ((fl v G (l + 1) r).testBit c).toNat) (l + 1) e) (v - 1)) (bits v (fb v G)) := ls_c (fun e he => by
    obtain ⟨o1, o2, -⟩ := I e he
    try dsimp only
    have hq : ls (fun _ => 1) (qs e) = 4 := rfl
    rw [hq]
    have key : ∀ n, sm (fun l => 4 * wl (fun r c => ((fl v G (l + 1) r).testBit c).toNat) (l + 1) e) n = if e.1 ≤ n then 4 * (fb v G e).toNat else 0 := by
      intro n
      induction n with
      | zero => rw [if_neg (by omega)]; rfl
      | succ n ih =>
        rw [sm, ih]
        unfold wl
        by_cases q : e.1 = n + 1
        · rw [if_neg (show ¬ e.1 ≤ n by omega), if_pos q, if_pos (show e.1 ≤ n + 1 by omega)]
          unfold fb; rw [q]; exact Nat.zero_add _
        · rw [if_neg q]
          by_cases z : e.1 ≤ n
          · rw [if_pos z, if_pos (by omega)]; omega
          · rw [if_neg z, if_neg (by omega)]
    rw [key]
    cases z : fb v G e with
    | true =>
      by_cases q : e.1 < v
      · rw [if_pos ⟨q, rfl⟩, if_pos (by omega)]; rfl
      · rw [if_neg (fun w => q w.1), if_neg (by omega)]
    | false =>
      rw [if_neg (fun w => by cases w.2)]
      split <;> rfl)
  rw [e1]
  have swap : ∀ (n : Nat) (Q : List Eb) (W : Nat → Eb → Nat), ls (fun e => sm (fun l => W l e) n) Q = sm (fun l => ls (W l) Q) n := by
    intro n Q W
    induction n with
    | zero =>
      show ls (fun _ => 0) Q = 0
      have := ls_mul 0 (fun _ => 0) Q; simp only [Nat.zero_mul] at this; exact this
    | succ n ih =>
      show ls (fun e => sm (fun l => W l e) n + W n e) Q = _
      rw [ls_add (fun e => sm (fun l => W l e) n) (W n) Q, ih]; rfl
  rw [swap]
  apply sm_c
  intro l hl
  rw [ls_mul, on_l V h1 h4 (by omega) (by omega)]
