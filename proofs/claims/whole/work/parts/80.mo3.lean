/-! The plain form: the stack of relations. -/
def SKr (f : Nat → Nat → Int32) (m : Nat) : List Rw → Prop
  | [] => True
  | g :: T => RF f (m + 19) (16 * T.length) g ∧ SKr f m T
def SK (f : Nat → Nat → Int32) (m : Nat) (S : List Rw) : Prop := f m 42 = nI S.length ∧ SKr f m S
theorem SKr_o {f f' : Nat → Nat → Int32} {m : Nat} : ∀ {S : List Rw}, SKr f m S → (∀ k, k < 16 * S.length → f' (m + 19) k = f (m + 19) k) → SKr f' m S
  | [], _, _ => trivial
  | g :: T, ⟨h1, h2⟩, e => by
    have e : ∀ k, k < 16 * (T.length + 1) → f' (m + 19) k = f (m + 19) k := e
    exact ⟨fun r hr => by rw [e _ (by omega)]; exact h1 r hr, SKr_o h2 (fun k hk => e k (by omega))⟩
/-- what working on the stack may write on -/
def WKF (m : Nat) (f f' : Nat → Nat → Int32) : Prop := (∀ b, b ≠ m → b ≠ m + 19 → b ≠ m + 21 → f' b = f b) ∧ ∀ k, k ≠ 42 → f' m k = f m k
theorem WKF.rf {m : Nat} {f : Nat → Nat → Int32} : WKF m f f := ⟨fun _ _ _ _ => rfl, fun _ _ => rfl⟩
theorem WKF.tr {m : Nat} {f g k : Nat → Nat → Int32} (x : WKF m f g) (y : WKF m g k) : WKF m f k := ⟨fun b h1 h2 h3 => (y.1 b h1 h2 h3).trans (x.1 b h1 h2 h3), fun j hj => (y.2 j hj).trans (x.2 j hj)⟩
/-- the plain form's code of a part -/
def mcd (c : Nat) : Nat := if c = 12 then 24 else if c = 21 then 22 else if c = 22 then 21 else c
theorem sf_16 {n s : Nat} {G : Nat → Nat} (V : GW n G) : sf 16 G s = sf n G s := orr_z V.1 (fun k hk _ => by
  show (if _ then G k else 0) = 0
  rw [V.2.2 k hk]; split <;> rfl)
theorem cs_16 {n c : Nat} {G : Nat → Nat} (V : GW n G) : cs 16 G c = cs n G c := orr_z V.1 (fun k hk _ => by
  show (if (G k).testBit c then _ else 0) = 0
  rw [V.2.2 k hk, Nat.zero_testBit]; rfl)
theorem ct_16 {n : Nat} {G : Nat → Nat} (V : GW n G) : ct 16 G = ct n G := sm_z V.1 (fun k hk _ => by
  show bc (G k) = 0
  rw [V.2.2 k hk, bc_0])
theorem cs_hi {n c : Nat} {G : Nat → Nat} (V : GW n G) (hc : n ≤ c) : cs 16 G c = 0 := by
  have : cs 16 G c = orr (fun _ => 0) 16 := orr_c (fun k _ => by
    rw [Nat.testBit_lt_two_pow (Nat.lt_of_lt_of_le (V.2.1 k) (Nat.pow_le_pow_right (by decide) hc))]; rfl)
  rw [this]; decide
theorem tp_16 {n : Nat} {G : Nat → Nat} (V : GW n G) (r : Nat) : cs 16 G r = tp n G r := by
  show _ = if _ then _ else _
  by_cases z : r < n
  · rw [if_pos z, cs_16 V]
  · rw [if_neg z, cs_hi V (by omega)]
theorem sf_0 {n : Nat} {G : Nat → Nat} : sf n G 0 = 0 := by
  have : sf n G 0 = orr (fun _ => 0) n := orr_c (fun k _ => by rw [Nat.zero_testBit]; rfl)
  rw [this]
  exact (orr_z (Nat.zero_le n) (fun _ _ _ => rfl)).trans rfl
section
variable {h : MH} {f : Nat → Nat → Int32} {m : Nat} {G : Nat → Nat}
theorem mo_pushes {v t c : Nat} {val g : Nat → Nat} (C : MSH h m) (hf : f (m + 2) 0 = nI v) (hv : v ≤ 4) (tp : f m 42 = nI t) (ht : t < 40) (hg : ∀ r, r < 16 → g r = if r < 2 ^ v then val r else 0)
    (st : ∀ i f1 (Q : Option Value → MH → Prop), i < 16 → f1 (m + 18) = f (m + 18) → f1 (m + 2) = f (m + 2) → wp (ev M_Mo_pushes 0 28 [some (.ref m), some (.int (nI c)), some (.int (nI i)), none] [(.int (nI (val i)))] (wI h f1)) Q → wp (ev M_Mo_pushes 0 3 [some (.ref m), some (.int (nI c)), some (.int (nI i)), none] [] (wI h f1)) Q) :
    ∃ f', ev M_Mo_pushes 0 0 [some (.ref m), some (.int (nI c)), none, none] [] (wI h f) = some (none, wI h f') ∧ f' m 42 = nI (t + 1) ∧ RF f' (m + 19) (16 * t) g ∧ WKF m f f' ∧ ∀ k, k < 16 * t → f' (m + 19) k = f (m + 19) k := by
  have mc := C.1
  have ar19 : hR h m 39 = some (m + 19) := (C.2 18 (by decide)).1
  have an19 : hN h (m + 19) = 640 := (C.2 18 (by decide)).2.1
  have ac19 : hC h (m + 19) = 20 := (C.2 18 (by decide)).2.2
  have L : ∀ k i f1, i + k = 16 → (∀ r, r < i → f1 (m + 19) (16 * t + r) = nI (g r)) → Oth (m + 19) (16 * t) 16 f f1 → ∃ f', ev M_Mo_pushes 0 3 [some (.ref m), some (.int (nI c)), some (.int (nI i)), none] [] (wI h f1) = some (none, wI h f') ∧ f' m 42 = nI (t + 1) ∧ RF f' (m + 19) (16 * t) g ∧ WKF m f f' ∧ ∀ k, k < 16 * t → f' (m + 19) k = f (m + 19) k := by
    intro k
    induction k with
    | zero =>
      intro i f1 hi e1 o1
      have : i = 16 := by omega
      subst this
      refine ⟨up2 f1 m 42 (nI (t + 1)), ?_, up2_s, fun r hr => by rw [up2_a (by omega)]; exact e1 r hr, ⟨fun b h1 h2 _ => by rw [up2_a h1, o1.1 b h2], fun k hk => by rw [up2_k hk, o1.1 m (by omega)]⟩, fun k hk => by rw [up2_a (by omega)]; exact o1.2 k (by omega)⟩
      rw [r_Mo_pushes_3]
      refine wp_e (wp_bf (by decide) (wp_isC mc (wp_isC mc (wp_s ⟨rfl, ?_⟩))))
      rw [wI_I, o1.1 m (by omega), tp, nI_add, wI_s]
    | succ k ih =>
      intro i f1 hi e1 o1
      obtain ⟨f', i1, i2⟩ := ih (i + 1) (up2 f1 (m + 19) (16 * t + i) (nI (g i))) (by omega) (fun r hr => by
        by_cases z : r = i
        · rw [z, up2_s]
        · rw [up2_k (by omega)]; exact e1 r (by omega)) (o1.tr (Oth.u (by omega) (by omega)))
      refine ⟨f', wp_e ?_, i2⟩
      refine st i f1 _ (by omega) (o1.1 _ (by omega)) (o1.1 _ (by omega)) ?_
      have hw := lv_p hv
      rw [r_Mo_pushes_28]
      refine wp_isC mc (wp_nnR ar19 (wp_isC mc (wp_isC mc (wp_rIe (mo_wide C (by rw [o1.1 _ (by omega)]; exact hf) hv) ?_))))
      have fin : wp (ev M_Mo_pushes 0 45 [some (.ref m), some (.int (nI c)), some (.int (nI i)), none] [(.int (nI (g i))), (.int (((nI 16) * (hI (wI h f1) m 42)) + nI i)), (.ref (m + 19))] (wI h f1)) (fun a b => a = none ∧ b = wI h f') := by
        rw [r_Mo_pushes_45]
        refine wp_isC ac19 ?_
        rw [wI_I, o1.1 m (by omega), tp, pk_mul, nI_add]
        refine wp_inA an19 rfl (by omega) (by omega) ?_
        rw [nI_clamp (by omega), wI_s, nI_add]
        exact wp_of i1 ⟨rfl, rfl⟩
      refine wp_bi (nI_ltI (by omega) (by omega)) (fun z => ?_) (fun z => ?_)
      · rw [hg i (by omega), if_pos z] at fin; exact fin
      · rw [hg i (by omega), if_neg z] at fin; exact fin
  rw [r_Mo_pushes_0]
  exact L 16 0 f rfl (fun r hr => absurd hr (Nat.not_lt_zero r)) Oth.rf
/-- one of those at hand is laid on -/
theorem mo_push {v c nr : Nat} {A : Nat → Rw} {S : List Rw} (C : MSH h m) (hf : f (m + 2) 0 = nI v) (hv : v ≤ 4) (K : SK f m S) (hS : S.length < 40) (hn : nr ≤ 5) (hA : ∀ k, k < nr → RF f (m + 18) (16 * k) (A k) ∧ GW (2 ^ v) (A k)) (hc : c < nr ∨ c = 10 ∨ c = 11) :
    ∃ f', ev M_Mo_pushes 0 0 [some (.ref m), some (.int (nI c)), none, none] [] (wI h f) = some (none, wI h f') ∧ SK f' m (xop (2 ^ v) A c S) ∧ WKF m f f' := by
  have mc := C.1
  have ar18 : hR h m 38 = some (m + 18) := (C.2 17 (by decide)).1
  have an18 : hN h (m + 18) = 80 := (C.2 17 (by decide)).2.1
  have ac18 : hC h (m + 18) = 20 := (C.2 17 (by decide)).2.2
  have hw := lv_p hv
  obtain ⟨k1, k2⟩ := K
  have fin : ∀ g : Nat → Nat, xop (2 ^ v) A c S = g :: S → (∃ f', ev M_Mo_pushes 0 0 [some (.ref m), some (.int (nI c)), none, none] [] (wI h f) = some (none, wI h f') ∧ f' m 42 = nI (S.length + 1) ∧ RF f' (m + 19) (16 * S.length) g ∧ WKF m f f' ∧ ∀ k, k < 16 * S.length → f' (m + 19) k = f (m + 19) k) → ∃ f', ev M_Mo_pushes 0 0 [some (.ref m), some (.int (nI c)), none, none] [] (wI h f) = some (none, wI h f') ∧ SK f' m (xop (2 ^ v) A c S) ∧ WKF m f f' := by
    rintro g e ⟨f', a1, a2, a3, a4, a5⟩
    refine ⟨f', a1, ?_, a4⟩
    rw [e]
    exact ⟨a2, a3, SKr_o k2 a5⟩
  by_cases c5 : c < 5
  · have hcn : c < nr := by omega
    obtain ⟨R, V⟩ := hA c hcn
    refine fin (A c) (by unfold xop; rw [if_pos c5]) (mo_pushes (val := A c) C hf hv k1 hS (fun r hr => ?_) (fun i f1 Q hi e1 e2 H => ?_))
    · by_cases z : r < 2 ^ v
      · rw [if_pos z]
      · rw [if_neg z, V.2.2 r (by omega)]
    · rw [r_Mo_pushes_3]
      refine wp_bt (by rw [nI_ltI (by omega) (by decide)]; omega) (wp_bt (by rw [nI_ltI (by omega) (by decide)]; omega) (wp_isC mc (wp_nnR ar18 (wp_isC ac18 ?_))))
      rw [pk_mul, nI_add]
      refine wp_inA an18 rfl (by omega) (by omega) ?_
      rw [nI_clamp (by omega), wI_I, e1, R i hi]
      exact H
  · by_cases c10 : c = 10
    · subst c10
      refine fin (sameG (2 ^ v)) rfl (mo_pushes (val := fun r => 2 ^ r) C hf hv k1 hS (fun r hr => rfl) (fun i f1 Q hi e1 e2 H => ?_))
      rw [r_Mo_pushes_3]
      refine wp_bt (by rw [nI_ltI (by omega) (by decide)]; omega) (wp_bf (by decide) (wp_bt rfl ?_))
      rw [nm_one (by omega)]
      exact H
    · have c11 : c = 11 := by omega
      subst c11
      refine fin (allG (2 ^ v)) rfl (mo_pushes (val := fun r => 2 ^ 2 ^ v - 1) C hf hv k1 hS (fun r hr => rfl) (fun i f1 Q hi e1 e2 H => ?_))
      rw [r_Mo_pushes_3]
      refine wp_bt (by rw [nI_ltI (by omega) (by decide)]; omega) (wp_bf (by decide) (wp_bf (by decide) (wp_isC mc (wp_rIe (mo_everyBit C (by rw [e2]; exact hf) hv) ?_))))
      exact H
end
