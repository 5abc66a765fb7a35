/-! The plain form: how soon a closure settles; what hangs together. -/
section
variable {h : MH} {f : Nat → Nat → Int32} {m : Nat} {S : Abs}
theorem stl_or {n : Nat} {X : Nat → Nat} (V : GW n X) : stl n X = true ↔ ∀ r, r < 16 → go1 n X r = X r := by
  constructor
  · intro h r _; rw [stl_go V h]
  · intro h
    rw [stl_t V]
    intro r j c h1 h2
    have := h r (Nat.lt_of_lt_of_le (V.in h1).1 V.1)
    rw [← this]
    exact (go1_t V).mpr (Or.inr ⟨j, h1, h2⟩)
theorem go1_16 {n : Nat} {X : Nat → Nat} (V : GW n X) (r : Nat) : X r ||| sf 16 X (X r) = go1 n X r := by
  show _ = if _ then _ else _
  by_cases z : r < n
  · rw [if_pos z, sf_16 V]
  · rw [if_neg z, V.2.2 r (by omega), sf_0]; rfl
/-- whether a row below i is changed by a go -/
def nws (n : Nat) (X : Nat → Nat) : Nat → Bool
  | 0 => false
  | i + 1 => nws n X i || decide (go1 n X i ≠ X i)
theorem nws_t {n : Nat} {X : Nat → Nat} : ∀ {i : Nat}, nws n X i = false ↔ ∀ r, r < i → go1 n X r = X r
  | 0 => ⟨fun _ r hr => by omega, fun _ => rfl⟩
  | i + 1 => by
    rw [nws, Bool.or_eq_false_iff, nws_t (i := i)]
    constructor
    · rintro ⟨h1, h2⟩ r hr
      by_cases e : r = i
      · rw [e]
        by_cases z : go1 n X i = X i
        · exact z
        · rw [decide_eq_true z] at h2; cases h2
      · exact h1 r (by omega)
    · intro h
      exact ⟨fun r hr => h r (by omega), decide_eq_false (fun z => z (h i (by omega)))⟩
/-- what settling may write on -/
def ZX (m : Nat) (f f' : Nat → Nat → Int32) : Prop := ∀ b, b ≠ m + 20 → b ≠ m + 21 → f' b = f b
theorem ZX.rf {m : Nat} {f : Nat → Nat → Int32} : ZX m f f := fun _ _ _ => rfl
theorem ZX.tr {m : Nat} {f g k : Nat → Nat → Int32} (x : ZX m f g) (y : ZX m g k) : ZX m f k := fun b h1 h2 => (y b h1 h2).trans (x b h1 h2)
theorem ZX.M {m : Nat} {f f' : Nat → Nat → Int32} (x : ZX m f f') : MX m f f' := ⟨fun b _ h2 _ => x b (by omega) (by omega), fun k _ _ => by rw [x m (by omega) (by omega)]⟩
theorem mo_go {n s : Nat} {X : Nat → Nat} {Qp : Option Value → MH → Prop} (C : MSH h m) (V : GW n X)
    (H : ∀ f', RF f' (m + 20) 0 (go1 n X) → ZX m f f' → wp (ev M_Mo_settles 0 33 [some (.ref m), none, some (.int (nI (s + (nws n X 16).toNat))), some (.int (nI (nws n X 16).toNat)), none] [] (wI h f')) Qp) (R : RF f (m + 20) 0 X) :
    wp (ev M_Mo_settles 0 40 [some (.ref m), none, some (.int (nI s)), some (.int (nI 0)), some (.int (nI 0))] [] (wI h f)) Qp := by
  have mc := C.1
  have ar20 : hR h m 40 = some (m + 20) := (C.2 19 (by decide)).1
  have an20 : hN h (m + 20) = 16 := (C.2 19 (by decide)).2.1
  have ac20 : hC h (m + 20) = 20 := (C.2 19 (by decide)).2.2
  have ar21 : hR h m 41 = some (m + 21) := (C.2 20 (by decide)).1
  have an21 : hN h (m + 21) = 16 := (C.2 20 (by decide)).2.1
  have ac21 : hC h (m + 21) = 20 := (C.2 20 (by decide)).2.2
  have h16 := V.1
  -- taken over
  have L2 : ∀ q r f1, r + q = 16 → (∀ i, i < 16 → f1 (m + 21) i = nI (go1 n X i)) → (∀ i, i < r → f1 (m + 20) i = nI (go1 n X i)) → ZX m f f1 → wp (ev M_Mo_settles 0 82 [some (.ref m), none, some (.int (nI s)), some (.int (nI (nws n X 16).toNat)), some (.int (nI r))] [] (wI h f1)) Qp := by
    intro q
    induction q with
    | zero =>
      intro r f1 hr e1 e2 t
      have : r = 16 := by omega
      subst this
      have H1 := H f1 (fun i hi => by rw [Nat.zero_add]; exact e2 i hi) t
      rw [r_Mo_settles_82]
      refine wp_bf (by decide) ?_
      cases z : nws n X 16 with
      | false =>
        rw [z] at H1
        refine wp_bt rfl ?_
        rw [r_Mo_settles_102, nI_add]
        exact H1
      | true =>
        rw [z] at H1
        refine wp_bf n10 ?_
        rw [r_Mo_settles_102, nI_add]
        exact H1
    | succ q ih =>
      intro r f1 hr e1 e2 t
      have := ih (r + 1) (up2 f1 (m + 20) r (nI (go1 n X r))) (by omega) (fun i hi => by rw [up2_a (by omega)]; exact e1 i hi) (fun i hi => by
        by_cases z : i = r
        · rw [z, up2_s]
        · rw [up2_k z]; exact e2 i (by omega)) (t.tr (fun b h1 _ => up2_a h1))
      rw [r_Mo_settles_82]
      refine wp_bt (by rw [nI_ltI (by omega) (by decide)]; omega) (wp_isC mc (wp_nnR ar20 (wp_isC mc (wp_nnR ar21 (wp_isC ac21 (wp_inA an21 rfl (by omega) (by omega) (wp_isC ac20 (wp_inA an20 rfl (by omega) (by omega) ?_))))))))
      rw [nI_clamp (by omega), wI_I, e1 r (by omega), wI_s, nI_add]
      exact this
  have L1 : ∀ q r f1, r + q = 16 → RF f1 (m + 20) 0 X → (∀ i, i < r → f1 (m + 21) i = nI (go1 n X i)) → ZX m f f1 → wp (ev M_Mo_settles 0 40 [some (.ref m), none, some (.int (nI s)), some (.int (nI (nws n X r).toNat)), some (.int (nI r))] [] (wI h f1)) Qp := by
    intro q
    induction q with
    | zero =>
      intro r f1 hr R1 e1 t
      have : r = 16 := by omega
      subst this
      rw [r_Mo_settles_40]
      exact wp_bf (by decide) (L2 16 0 f1 rfl e1 (fun i hi => absurd hi (Nat.not_lt_zero i)) t)
    | succ q ih =>
      intro r f1 hr R1 e1 t
      have eX : f1 (m + 20) r = nI (X r) := by have := R1 r (by omega); rw [Nat.zero_add] at this; exact this
      have ih := ih (r + 1) (up2 f1 (m + 21) r (nI (go1 n X r))) (by omega) (fun i hi => by rw [up2_a (by omega)]; exact R1 i hi) (fun i hi => by
        by_cases z : i = r
        · rw [z, up2_s]
        · rw [up2_k z]; exact e1 i (by omega)) (t.tr (fun b _ h2 => up2_a h2))
      rw [nws] at ih
      have bX := V.lt r
      have bg := (V.go1).lt r
      rw [r_Mo_settles_40]
      refine wp_bt (by rw [nI_ltI (by omega) (by decide)]; omega) (wp_isC mc (wp_nnR ar21 (wp_isC mc (wp_nnR ar20 (wp_isC ac20 (wp_inA an20 rfl (by omega) (by omega) (wp_isC mc (wp_nnR ar20 (wp_isC ac20 (wp_inA an20 rfl (by omega) (by omega) (wp_isC mc (wp_nnR ar20 ?_))))))))))))
      rw [nI_clamp (by omega), wI_I, eX]
      refine wp_rIe (mo_through (o := 0) ac20 an20 (by decide) (by decide) R1 V.lt bX) (wp_isC ac21 (wp_inA an21 rfl (by omega) (by omega) ?_))
      rw [nm_or, go1_16 V r, wI_s]
      have g20 : up2 f1 (m + 21) r (nI (go1 n X r)) (m + 20) r = nI (X r) := by rw [up2_a (by omega), eX]
      have g21 : up2 f1 (m + 21) r (nI (go1 n X r)) (m + 21) r = nI (go1 n X r) := up2_s
      generalize up2 f1 (m + 21) r (nI (go1 n X r)) = g at g20 g21 ih
      cases z : nws n X r with
      | true =>
        rw [z, Bool.true_or] at ih
        refine wp_bf n10 ?_
        rw [r_Mo_settles_72, r_Mo_settles_76, nI_add]
        exact ih
      | false =>
        rw [z, Bool.false_or] at ih
        refine wp_bt rfl (wp_isC mc (wp_nnR ar21 (wp_isC ac21 (wp_inA an21 rfl (by omega) (by omega) (wp_isC mc (wp_nnR ar20 (wp_isC ac20 (wp_inA an20 rfl (by omega) (by omega) ?_))))))))
        rw [wI_I, g20, g21]
        refine wp_bi (nI_eq (by omega) (by omega)) (fun y => ?_) (fun y => ?_)
        · rw [decide_eq_false (fun w => w y)] at ih
          rw [r_Mo_settles_76, nI_add]
          exact ih
        · rw [decide_eq_true y] at ih
          rw [r_Mo_settles_72, r_Mo_settles_76, nI_add]
          exact ih
  exact L1 16 0 f rfl R (fun i hi => absurd hi (Nat.not_lt_zero i)) ZX.rf
theorem m_settles (C : MSH h m) (F : MF f m S) (W : WS S) (a : Int32) : ∃ f', ev M_Mo_settles 0 0 [some (.ref m), some (.int a), none, none, none] [] (wI h f) = some (some (.int (sSett S a)), wI h f') ∧ MX m f f' := by
  have mc := C.1
  have ar18 : hR h m 38 = some (m + 18) := (C.2 17 (by decide)).1
  have an18 : hN h (m + 18) = 80 := (C.2 17 (by decide)).2.1
  have ac18 : hC h (m + 18) = 20 := (C.2 17 (by decide)).2.2
  have ar20 : hR h m 40 = some (m + 20) := (C.2 19 (by decide)).1
  have an20 : hN h (m + 20) = 16 := (C.2 19 (by decide)).2.1
  have ac20 : hC h (m + 20) = 20 := (C.2 19 (by decide)).2.2
  have hv : aV S ≤ 4 := W.2.2.1.1.2.1
  have hr5 : aR S ≤ 5 := W.2.2.1.1.2.2.2.1
  have ra := mo_rel C F W a
  rw [r_Mo_settles_0]
  unfold sSett
  cases za : inN a (aR S) with
  | none =>
    rw [za] at ra
    exact ⟨f, wp_e (wp_isC mc (wp_rIe ra (wp_bt rfl (wp_s ⟨rfl, rfl⟩)))), MX.rf⟩
  | some k =>
    rw [za] at ra
    obtain ⟨ea, k1, -⟩ := inN_s za
    subst ea
    dsimp only [on]
    obtain ⟨f0, l1, l2, l3⟩ := mo_L C F W
    obtain ⟨R, V⟩ := l2 k k1
    generalize aG S k = G at *
    generalize aW S = n at *
    have L : ∀ q d f1, d + q = 5 → (∀ j, j < d → stl n (gos n G j) = false) → RF f1 (m + 20) 0 (gos n G d) → ZX m f0 f1 → wp (ev M_Mo_settles 0 33 [some (.ref m), none, some (.int (nI d)), some (.int (nI 1)), none] [] (wI h f1)) (fun v h' => v = some (Value.int (nI (ngo n G 16))) ∧ ∃ f', h' = wI h f' ∧ ZX m f0 f') := by
      intro q
      induction q with
      | zero =>
        intro d f1 hd hs R1 t
        have := hs 4 (by omega)
        rw [stl_4 V] at this
        cases this
      | succ q ih =>
        intro d f1 hd hs R1 t
        rw [r_Mo_settles_33]
        refine wp_bf n10 (mo_go C (V.gos d) (fun f2 R2 t2 => ?_) R1)
        cases z : nws n (gos n G d) 16 with
        | false =>
          have st : stl n (gos n G d) = true := (stl_or (V.gos d)).mpr (nws_t.mp z)
          rw [ngo_e (by omega) hs st, r_Mo_settles_33]
          exact wp_bt rfl (wp_s ⟨rfl, f2, rfl, t.tr t2⟩)
        | true =>
          refine ih (d + 1) f2 (by omega) (fun j hj => ?_) R2 (t.tr t2)
          by_cases e : j = d
          · subst e
            cases w : stl n (gos n G j) with
            | false => rfl
            | true =>
              have := nws_t.mpr ((stl_or (V.gos j)).mp w)
              rw [z] at this; cases this
          · exact hs j (by omega)
    have L0 : ∀ q i f1, i + q = 16 → (∀ r, r < i → f1 (m + 20) r = nI (G r)) → ZX m f0 f1 → wp (ev M_Mo_settles 0 11 [some (.ref m), some (.int (nI k)), some (.int (nI i)), none, none] [] (wI h f1)) (fun v h' => v = some (Value.int (nI (ngo n G 16))) ∧ ∃ f', h' = wI h f' ∧ ZX m f0 f') := by
      intro q
      induction q with
      | zero =>
        intro i f1 hi e1 t
        have : i = 16 := by omega
        subst this
        rw [r_Mo_settles_11]
        exact wp_bf (by decide) (L 5 0 f1 rfl (fun j hj => by omega) (fun r hr => by rw [Nat.zero_add]; exact e1 r hr) t)
      | succ q ih =>
        intro i f1 hi e1 t
        have ih := ih (i + 1) (up2 f1 (m + 20) i (nI (G i))) (by omega) (fun r hr => by
          by_cases z : r = i
          · rw [z, up2_s]
          · rw [up2_k z]; exact e1 r (by omega)) (t.tr (fun b h1 _ => up2_a h1))
        have eG : f1 (m + 18) (16 * k + i) = nI (G i) := by rw [t _ (by omega) (by omega)]; exact R i (by omega)
        rw [r_Mo_settles_11]
        refine wp_bt (by rw [nI_ltI (by omega) (by decide)]; omega) (wp_isC mc (wp_nnR ar20 (wp_isC mc (wp_nnR ar18 (wp_isC ac18 (wp_inA (n := 16 * k + i) an18 (by rw [pk_mul, nI_add]) (by omega) (by omega) (wp_isC ac20 (wp_inA an20 rfl (by omega) (by omega) ?_))))))))
        rw [show (nI 16 * nI k + nI i).toNatClampNeg = 16 * k + i by rw [pk_mul, nI_add, nI_clamp (by omega)], nI_clamp (by omega), wI_I, eG, wI_s, nI_add]
        exact ih
    obtain ⟨v, h', w1, w2, f', w3, w4⟩ := L0 16 0 f0 rfl (fun r hr => absurd hr (Nat.not_lt_zero r)) ZX.rf
    subst w2
    subst w3
    exact ⟨f', wp_e (wp_isC mc (wp_rIe ra (wp_bf n10 (wp_isC mc (wp_rVe l1 (wp_of w1 ⟨rfl, rfl⟩)))))), l3.tr w4.M⟩
/-! parts -/
/-- rows that point into the set are taken in, one behind the other -/
def bwd (G : Nat → Nat) (s : Nat) : Nat → Nat
  | 0 => s
  | i + 1 => bwd G s i ||| (if G i &&& bwd G s i = 0 then 0 else 2 ^ i)
theorem bwd_lt {n s : Nat} {G : Nat → Nat} (hs : s < 2 ^ n) : ∀ i, i ≤ n → bwd G s i < 2 ^ n
  | 0, _ => hs
  | i + 1, h => by
    refine Nat.or_lt_two_pow (bwd_lt hs i (by omega)) ?_
    split
    · exact Nat.two_pow_pos n
    · exact Nat.pow_lt_pow_right (by decide) (by omega)
theorem bwd_s {s : Nat} {G : Nat → Nat} : ∀ i, sbs s (bwd G s i)
  | 0 => fun _ h => h
  | i + 1 => fun k h => sbs_or k (bwd_s i k h)
theorem bwd_m {s : Nat} {G : Nat → Nat} {i : Nat} : ∀ d, sbs (bwd G s i) (bwd G s (i + d))
  | 0 => fun _ h => h
  | d + 1 => fun k h => sbs_or k (bwd_m d k h)
theorem and_ne {a b : Nat} : ¬ a &&& b = 0 ↔ ∃ c, a.testBit c = true ∧ b.testBit c = true := by
  constructor
  · intro h
    obtain ⟨c, hc⟩ := Nat.exists_testBit_of_ne_zero h
    rw [Nat.testBit_and, Bool.and_eq_true] at hc
    exact ⟨c, hc⟩
  · rintro ⟨c, h1, h2⟩ e
    have : (a &&& b).testBit c = true := by rw [Nat.testBit_and, h1, h2]; rfl
    rw [e, Nat.zero_testBit] at this
    cases this
theorem sy_t {n : Nat} {G : Nat → Nat} (V : GW n G) {r c : Nat} : (sy n G r).testBit c = true ↔ (G r).testBit c = true ∨ (G c).testBit r = true := by
  show (if _ then _ else _ : Nat).testBit c = true ↔ _
  by_cases z : r < n
  · rw [if_pos z]
    unfold jn
    rw [if_neg (by decide), if_neg (by decide), if_neg (by decide), if_neg (by decide), Nat.testBit_or, Bool.or_eq_true, cs_t]
    constructor
    · rintro (h | ⟨-, h⟩)
      · exact Or.inl h
      · exact Or.inr h
    · rintro (h | h)
      · exact Or.inl h
      · exact Or.inr ⟨(V.in h).1, h⟩
  · rw [if_neg z, Nat.zero_testBit]
    constructor
    · intro h; cases h
    · rintro (h | h)
      · exact absurd (V.in h).1 z
      · exact absurd (V.in h).2 z
/-- a set closed both ways holds what hangs together with each of its own -/
theorem cl_sy {n T s : Nat} {G : Nat → Nat} (V : GW n G) (hc : ∀ r c, (G r).testBit c = true → (T.testBit r = true ↔ T.testBit c = true)) (hs : sbs s T) : ∀ k, sbs (rch n (sy n G) s k) T
  | 0 => hs
  | k + 1 => by
    intro c h
    have ih := cl_sy V hc hs k
    have h : (rch n (sy n G) s k ||| sf n (sy n G) (rch n (sy n G) s k)).testBit c = true := h
    rw [Nat.testBit_or, Bool.or_eq_true, sf_t] at h
    rcases h with h | ⟨r, -, h2, h3⟩
    · exact ih c h
    · rcases (sy_t V).mp h3 with h4 | h4
      · exact (hc r c h4).mp (ih r h2)
      · exact (hc c r h4).mpr (ih r h2)
theorem bwd_T {n T s : Nat} {G : Nat → Nat} (hc : ∀ r c, (G r).testBit c = true → (T.testBit r = true ↔ T.testBit c = true)) (hs : sbs s T) : ∀ i, sbs (bwd G s i) T
  | 0 => hs
  | i + 1 => by
    intro c h
    have ih := bwd_T (n := n) hc hs i
    have h : (bwd G s i ||| (if G i &&& bwd G s i = 0 then 0 else 2 ^ i)).testBit c = true := h
    rw [Nat.testBit_or, Bool.or_eq_true] at h
    rcases h with h | h
    · exact ih c h
    · by_cases z : G i &&& bwd G s i = 0
      · rw [if_pos z, Nat.zero_testBit] at h; cases h
      · rw [if_neg z, Nat.testBit_two_pow] at h
        have := of_decide_eq_true h
        subst this
        obtain ⟨d, h1, h2⟩ := and_ne.mp z
        exact (hc i d h1).mpr (ih d h2)
theorem rch_sy {n i : Nat} {G : Nat → Nat} (V : GW n G) (hi : i < n) : ∀ r c, (G r).testBit c = true → ((rch n (sy n G) (2 ^ i) n).testBit r = true ↔ (rch n (sy n G) (2 ^ i) n).testBit c = true) := by
  intro r c h
  have hp := Nat.two_pow_pos i
  have cl := rch_c (s := 2 ^ i) V.sy (by omega) (Nat.pow_lt_pow_right (by decide) hi)
  have cl := or_e.mp cl
  constructor
  · intro h1
    exact cl c (sf_t.mpr ⟨r, (V.in h).1, h1, (sy_t V).mpr (Or.inl h)⟩)
  · intro h1
    exact cl r (sf_t.mpr ⟨c, (V.in h).2, h1, (sy_t V).mpr (Or.inr h)⟩)
theorem m_parts (C : MSH h m) (F : MF f m S) (W : WS S) (a : Int32) : ∃ f', ev M_Mo_parts 0 0 [some (.ref m), some (.int a), none, none, none, none, none, none] [] (wI h f) = some (some (.int (sParts S a)), wI h f') ∧ MX m f f' := by
  have mc := C.1
  have ar18 : hR h m 38 = some (m + 18) := (C.2 17 (by decide)).1
  have an18 : hN h (m + 18) = 80 := (C.2 17 (by decide)).2.1
  have ac18 : hC h (m + 18) = 20 := (C.2 17 (by decide)).2.2
  have hv : aV S ≤ 4 := W.2.2.1.1.2.1
  have hr5 : aR S ≤ 5 := W.2.2.1.1.2.2.2.1
  have ra := mo_rel C F W a
  rw [r_Mo_parts_0]
  unfold sParts
  cases za : inN a (aR S) with
  | none =>
    rw [za] at ra
    exact ⟨f, wp_e (wp_isC mc (wp_rIe ra (wp_bt rfl (wp_s ⟨rfl, rfl⟩)))), MX.rf⟩
  | some k =>
    rw [za] at ra
    obtain ⟨ea, k1, -⟩ := inN_s za
    subst ea
    dsimp only [on]
    obtain ⟨f', l1, l2, l3⟩ := mo_L C F W
    obtain ⟨R, V⟩ := l2 k k1
    have wd := mo_wide C (l3.F F).2.2.1.1 hv (h := h)
    have h16 : aW S ≤ 16 := lv_p hv
    have hn : 2 ^ aV S = aW S := rfl
    generalize aG S k = G at *
    generalize aW S = n at *
    have up16 : ∀ x, x < 2 ^ n → x < 2 ^ 16 := fun x hx => Nat.lt_of_lt_of_le hx (Nat.pow_le_pow_right (by decide) h16)
    -- the backward rows
    have LB : ∀ (me nn i w s : Nat) q j, j + q = n → s < 2 ^ n → ev M_Mo_parts 0 50 [some (.ref m), some (.int (nI k)), some (.int (nI me)), some (.int (nI nn)), some (.int (nI i)), some (.int (nI (bwd G s j))), some (.int (nI w)), some (.int (nI j))] [] (wI h f') = ev M_Mo_parts 0 32 [some (.ref m), some (.int (nI k)), some (.int (nI me)), some (.int (nI nn)), some (.int (nI i)), some (.int (nI (bwd G s n))), some (.int (nI w)), none] [] (wI h f') := by
      intro me nn i w s q
      induction q with
      | zero =>
        intro j hj hs
        have : j = n := by omega
        rw [r_Mo_parts_50, this, wd]
        show isC (wI h f') m 13 (br (nI n < nI (2 ^ aV S)) _ _) = _
        unfold isC br
        rw [if_pos (show hC (wI h f') m = 13 from mc), if_neg (by rw [hn, nI_ltI (by omega) (by omega)]; omega)]
      | succ q ih =>
        intro j hj hs
        have ih := ih (j + 1) (by omega) hs
        have b1 := up16 _ (bwd_lt (G := G) hs j (by omega))
        rw [r_Mo_parts_50, wd]
        show isC (wI h f') m 13 (br (nI j < nI (2 ^ aV S)) (isC (wI h f') m 13 (nnR (hR (wI h f') m 38) _)) _) = _
        rw [show hR (wI h f') m 38 = some (m + 18) from ar18]
        show isC (wI h f') m 13 (br (nI j < nI (2 ^ aV S)) (isC (wI h f') m 13 (isC (wI h f') (m + 18) 20 (inA (wI h f') (m + 18) (nI 16 * nI k + nI j) (br ((hI (wI h f') (m + 18) ((nI 16 * nI k + nI j).toNatClampNeg)) &&& nI (bwd G s j) = nI 0) _ _)))) _) = _
        have ei : (nI 16 * nI k + nI j).toNatClampNeg = 16 * k + j := by rw [pk_mul, nI_add, nI_clamp (by omega)]
        have ni : ¬ (nI 16 * nI k + nI j < 0 ∨ hN (wI h f') (m + 18) ≤ (nI 16 * nI k + nI j).toNatClampNeg) := by
          rw [ei, show hN (wI h f') (m + 18) = 80 from an18, pk_mul, nI_add]
          rintro (z | z)
          · exact nI_pos (by omega) z
          · omega
        unfold isC inA br
        rw [if_pos (show hC (wI h f') m = 13 from mc), if_pos (by rw [hn, nI_ltI (by omega) (by omega)]; omega), if_pos (show hC (wI h f') m = 13 from mc), if_pos (show hC (wI h f') (m + 18) = 20 from ac18), if_neg ni, ei, wI_I, R j (by omega), nm_and]
        have b2 : G j &&& bwd G s j < 2 ^ 16 := Nat.lt_of_le_of_lt Nat.and_le_left (V.lt j)
        have eb' : bwd G s (j + 1) = bwd G s j ||| (if G j &&& bwd G s j = 0 then 0 else 2 ^ j) := rfl
        by_cases z : G j &&& bwd G s j = 0
        · rw [if_pos z] at eb'
          rw [if_pos (by rw [nI_eq (by omega) (by decide)]; exact z), r_Mo_parts_72, nm_or, nI_add, ← eb']
          exact ih
        · rw [if_neg z] at eb'
          rw [if_neg (by rw [nI_eq (by omega) (by decide)]; exact z), r_Mo_parts_72, nm_one (by omega), nm_or, nI_add, ← eb']
          exact ih
    -- one set
    have LS : ∀ (me nn i : Nat), i < n → ∀ q s w, 17 ≤ bc s + q → s < 2 ^ n → w < 2 ^ n → w ≠ s → sbs (2 ^ i) s → sbs s (rch n (sy n G) (2 ^ i) n) → ev M_Mo_parts 0 32 [some (.ref m), some (.int (nI k)), some (.int (nI me)), some (.int (nI nn)), some (.int (nI i)), some (.int (nI s)), some (.int (nI w)), none] [] (wI h f') = ev M_Mo_parts 0 82 [some (.ref m), some (.int (nI k)), some (.int (nI (me ||| rch n (sy n G) (2 ^ i) n))), some (.int (nI nn)), some (.int (nI i)), none, none, none] [] (wI h f') := by
      intro me nn i hi q
      induction q with
      | zero =>
        intro s w hq hs hw ne h1 h2
        have := bc_le s
        omega
      | succ q ih =>
        intro s w hq hs hw ne h1 h2
        have T := rch_sy V hi
        have b1 := up16 s hs
        have b2 := up16 w hw
        have hs2 : s ||| sf n G s < 2 ^ n := Nat.or_lt_two_pow hs (sf_lt V.2.1)
        have hs3 : bwd G (s ||| sf n G s) n < 2 ^ n := bwd_lt hs2 n (Nat.le_refl _)
        have sT2 : sbs (s ||| sf n G s) (rch n (sy n G) (2 ^ i) n) := by
          intro c hc
          rw [Nat.testBit_or, Bool.or_eq_true, sf_t] at hc
          rcases hc with hc | ⟨r, -, h3, h4⟩
          · exact h2 c hc
          · exact (T r c h4).mp (h2 r h3)
        have sT3 := bwd_T (n := n) T sT2 n
        have up : sbs s (bwd G (s ||| sf n G s) n) := fun c hc => bwd_s n c (sbs_or c hc)
        have step : ev M_Mo_parts 0 32 [some (.ref m), some (.int (nI k)), some (.int (nI me)), some (.int (nI nn)), some (.int (nI i)), some (.int (nI s)), some (.int (nI w)), none] [] (wI h f') = ev M_Mo_parts 0 32 [some (.ref m), some (.int (nI k)), some (.int (nI me)), some (.int (nI nn)), some (.int (nI i)), some (.int (nI (bwd G (s ||| sf n G s) n))), some (.int (nI s)), none] [] (wI h f') := by
          rw [r_Mo_parts_32]
          have th := mo_through (h := h) (f := f') (o := 16 * k) (s := s) ac18 an18 (by omega) (by decide) R V.lt b1
          unfold br isC
          rw [if_neg (by rw [nI_eq (by omega) (by omega)]; exact fun e => ne e.symm), if_pos (show hC (wI h f') m = 13 from mc), show hR (wI h f') m 38 = some (m + 18) from ar18]
          show rI (ev M_Mo_through 0 0 [some (.int (nI s)), some (.ref (m + 18)), some (.int (nI 16 * nI k)), none, none] [] (wI h f')) _ = _
          rw [pk_mul, th]
          show ev M_Mo_parts 0 50 [some (.ref m), some (.int (nI k)), some (.int (nI me)), some (.int (nI nn)), some (.int (nI i)), some (.int (nI s ||| nI (sf 16 G s))), some (.int (nI s)), some (.int (nI 0))] [] (wI h f') = _
          rw [sf_16 V, nm_or]
          exact LB me nn i s _ n 0 (by omega) hs2
        rw [step]
        by_cases e : bwd G (s ||| sf n G s) n = s
        · -- it is closed
          have hc : ∀ r c, (G r).testBit c = true → (s.testBit r = true ↔ s.testBit c = true) := by
            intro r c hrc
            constructor
            · intro hr
              rw [← e]
              refine bwd_s n c ?_
              rw [Nat.testBit_or, Bool.or_eq_true]
              exact Or.inr (sf_t.mpr ⟨r, (V.in hrc).1, hr, hrc⟩)
            · intro hcs
              have hrn := (V.in hrc).1
              rw [← e]
              have : (bwd G (s ||| sf n G s) (r + 1)).testBit r = true := by
                show (bwd G (s ||| sf n G s) r ||| (if G r &&& bwd G (s ||| sf n G s) r = 0 then 0 else 2 ^ r)).testBit r = true
                rw [if_neg (and_ne.mpr ⟨c, hrc, bwd_s r c (sbs_or c hcs)⟩), Nat.testBit_or, Nat.testBit_two_pow_self, Bool.or_true]
              have mo := bwd_m (s := s ||| sf n G s) (G := G) (i := r + 1) (n - (r + 1)) r this
              rw [show r + 1 + (n - (r + 1)) = n by omega] at mo
              exact mo
          have eT : s = rch n (sy n G) (2 ^ i) n := sbs_eq h2 (cl_sy V hc h1 n)
          rw [e, r_Mo_parts_32]
          unfold br
          rw [if_pos rfl, nm_or, eT]
        · have g := sbs_bc (up16 _ hs3) up (Ne.symm e)
          exact ih _ s (by omega) hs3 hs (Ne.symm e) (fun c hc => up c (h1 c hc)) sT3
    have L : ∀ q i, i + q = n → ev M_Mo_parts 0 15 [some (.ref m), some (.int (nI k)), some (.int (nI (met n (sy n G) i))), some (.int (nI (sm (fun i => if (met n (sy n G) i).testBit i then 0 else 1) i))), some (.int (nI i)), none, none, none] [] (wI h f') = some (some (.int (nI (sm (fun i => if (met n (sy n G) i).testBit i then 0 else 1) n))), wI h f') := by
      intro q
      induction q with
      | zero =>
        intro i hi
        have : i = n := by omega
        rw [r_Mo_parts_15, this]
        exact wp_e (wp_isC mc (wp_rIe wd (wp_bf (by rw [hn, nI_ltI (by omega) (by omega)]; omega) (wp_s ⟨rfl, rfl⟩))))
      | succ q ih =>
        intro i hi
        have ih := ih (i + 1) (by omega)
        rw [sm.eq_2, met] at ih
        have b1 := up16 _ (met_lt V.sy i (by omega))
        rw [r_Mo_parts_15]
        refine wp_e (wp_isC mc (wp_rIe wd (wp_bt (by rw [hn, nI_ltI (by omega) (by omega)]; omega) (wp_rIe (mo_isOf _ (by omega) (by omega)) ?_))))
        have hp := Nat.two_pow_pos i
        have hs : 2 ^ i < 2 ^ n := Nat.pow_lt_pow_right (by decide) (by omega)
        cases z : (met n (sy n G) i).testBit i with
        | false =>
          rw [z, if_neg (by decide), if_neg (by decide)] at ih
          refine wp_bt rfl ?_
          have b2 := bc_le (2 ^ i)
          rw [nm_one (by omega), nI_add, LS (met n (sy n G) i) _ i (by omega) (17 - bc (2 ^ i)) (2 ^ i) 0 (by omega) hs (Nat.two_pow_pos n) (by omega) (fun _ h => h) (fun c hc => (rch_p V.sy).mpr ⟨0, Nat.zero_le _, by
            rw [Nat.testBit_two_pow] at hc
            exact (show i = c from of_decide_eq_true hc)⟩), r_Mo_parts_82, nI_add]
          exact wp_of ih ⟨rfl, rfl⟩
        | true =>
          rw [z, if_pos rfl, if_pos rfl] at ih
          refine wp_bf n10 ?_
          rw [r_Mo_parts_82, nI_add]
          exact wp_of ih ⟨rfl, rfl⟩
    exact ⟨f', wp_e (wp_isC mc (wp_rIe ra (wp_bf n10 (wp_isC mc (wp_rVe l1 (wp_of (L n 0 (by omega)) ⟨rfl, rfl⟩)))))), l3⟩
end
