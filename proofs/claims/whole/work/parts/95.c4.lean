/-! The constructors: the class's object. -/
theorem b_it {h : MH} {r i : Nat} {K : MH → MRes} {Q : Option Value → MH → Prop} (hr : r < hT h) (cr : hC h r = 25) (nr : hN h r = 3) (hi : i < 3) (H : ∀ h2, Stq r i h h2 12 98 → BS h2 (hT h) → wp (K h2) Q) : wp (rV (ev M_Box_init 0 0 [some (.ref (hT h)), none] [] (nw h 1 3)) fun h3 => isC h3 r 25 (inA h3 r (nI i) (isC h3 (hT h) 1 (K (sR h3 r (Int32.toNatClampNeg (nI i)) (hT h)))))) Q := by
  obtain ⟨h3, e, W, G, -⟩ := nwB h
  have er := W.2.2 r hr
  refine wp_rVe e (wp_isC (by rw [er.1]; exact cr) (wp_inA (by rw [er.2.1]; exact nr) rfl hi (by omega) (wp_isC G.1 ?_)))
  rw [nI_clamp (by omega)]
  obtain ⟨S, U⟩ := W.st (x := r) (s := i) hr
  exact H _ S (G.q (fun b h1 _ => U b h1))
/-- the signs' text -/
def StrS (h : MH) (s1 v1 : Nat) : Prop := hR h 0 1001 = some s1 ∧ hC h s1 = 30 ∧ hR h s1 0 = some v1 ∧ hR h v1 77 = some 1 ∧ 30 ≤ hC h v1 ∧ hN h v1 = 11
theorem StrS.q {h h' : MH} {s0 v0 : Nat} (w : StrS h s0 v0) (e0 : Se h h' 0) (e1 : Se h h' s0) (e2 : Se h h' v0) : StrS h' s0 v0 := by
  obtain ⟨w1, w2, w3, w4, w5, w6⟩ := w
  exact ⟨by rw [e0.2.2.1]; exact w1, by rw [e1.1]; exact w2, by rw [e1.2.2.1]; exact w3, by rw [e2.2.2.1]; exact w4, by rw [e2.1]; exact w5, by rw [e2.2.1]; exact w6⟩
def S00 : Abs := anw (fun _ => 0) Pn0 (fun _ => []) 0
theorem WP0 : WPn Pn0 (fun _ => []) := (LI_0 (len := 0)).W
theorem WS0 : WS S00 := WS_anw (fun _ => by decide) WP0 (by decide)
theorem PNF0 {f : Nat → Nat → Int32} {g : Nat → Nat → Int64} {p : Nat} (e : f p 0 = nI 3 ∧ f p 1 = nI 0 ∧ f p 2 = nI 0 ∧ f p 3 = nI 0 ∧ f p 4 = nI 0 ∧ f p 5 = nI 0 ∧ f p 10 = nI 0 ∧ f (p + 1) 1 = nI 0) : PNF f g p (vNr Pn0) 1 Pn0 := by
  obtain ⟨e0, e1, e2, e3, e4, e5, e10, e11⟩ := e
  exact ⟨e0, e1, e2, e3, e4, e5, e10, fun i c hc => (by cases hc), ⟨e11, fun i c hc => (by cases hc)⟩, fun k hk => absurd hk (Nat.not_lt_zero k), fun w => absurd w (by decide)⟩
/-- how far the object is made: cells, room, the references it has -/
def Sto (x : Nat) (h0 : MH) (o n : Nat) (l : List (Nat × Nat)) (h : MH) : Prop := hT h = x + o ∧ hS h ≤ hS h0 + n ∧ hC h x = 12 ∧ (hI h x = fun _ => 0) ∧ (∀ b, b < x → Se h0 h b) ∧ ∀ p, p ∈ l → hR h x p.1 = some (x + p.2)
theorem Sto.s {x o n k m sl : Nat} {h0 h h2 : MH} {l : List (Nat × Nat)} (a : Sto x h0 o n l h) (s : Stq x sl h h2 k m) (hd : ∀ p, p ∈ l → p.1 ≠ sl) (ho : 0 < o) : Sto x h0 (o + k) (n + m) (l ++ [(sl, o)]) h2 := by
  obtain ⟨a1, a2, a3, a4, a5, a6⟩ := a
  obtain ⟨s1, s2, s3, s4⟩ := id s
  refine ⟨by omega, by omega, by rw [s3.2.1]; exact a3, by rw [s3.2.2.2.1]; exact a4, fun b hb => (a5 b hb).tr (s.e b (by omega) (by omega)), fun p hp => ?_⟩
  rw [s4]
  rcases List.mem_append.mp hp with z | z
  · rw [if_neg (hd p z)]; exact a6 p z
  · rw [List.mem_singleton.mp z, if_pos rfl, a1]
theorem Sto.r {x o n k m r i : Nat} {h0 h h2 : MH} {l : List (Nat × Nat)} (a : Sto x h0 o n l h) (s : Stq r i h h2 k m) (hr : x < r) (ho : 0 < o) : Sto x h0 (o + k) (n + m) l h2 := by
  obtain ⟨a1, a2, a3, a4, a5, a6⟩ := a
  obtain ⟨s1, s2, s3, s4⟩ := id s
  have e := s.e x (by omega) (by omega)
  exact ⟨by omega, by omega, by rw [e.1]; exact a3, by rw [e.2.2.2.1]; exact a4, fun b hb => (a5 b hb).tr (s.e b (by omega) (by omega)), fun p hp => by rw [e.2.2.1]; exact a6 p hp⟩
def Zp (h : MH) (p : Nat) : Prop := hI h p 0 = nI 3 ∧ hI h p 1 = nI 0 ∧ hI h p 2 = nI 0 ∧ hI h p 3 = nI 0 ∧ hI h p 4 = nI 0 ∧ hI h p 5 = nI 0 ∧ hI h p 10 = nI 0 ∧ hI h (p + 1) 1 = nI 0
theorem Zp.q {h h' : MH} {p : Nat} (z : Zp h p) (e0 : Se h h' p) (e1 : Se h h' (p + 1)) : Zp h' p := by
  unfold Zp at z ⊢
  rw [e0.2.2.2.1, e1.2.2.2.1]; exact z
def B1 (x : Nat) (h : MH) : Prop := hC h (x + 1) = 21 ∧ hN h (x + 1) = 1600 ∧ PS h (x + 2) ∧ Zp h (x + 2)
def B2 (x : Nat) (h : MH) : Prop := PS h (x + 19) ∧ hC h (x + 36) = 6 ∧ hR h (x + 36) 2 = some (x + 37) ∧ hC h (x + 37) = 8 ∧ hR h (x + 37) 4 = some (x + 38) ∧ hC h (x + 38) = 22 ∧ hN h (x + 38) = 18 ∧ (∀ j, j < 18 → hL h (x + 38) j = lN (KW j)) ∧ hI h (x + 36) 0 = nI 0 ∧ hI h (x + 36) 1 = mI 1
def RS0 (h : MH) (t : Nat) : Prop := hC h t = 7 ∧ hR h t 0 = some (t + 1) ∧ hC h (t + 1) = 24 ∧ hN h (t + 1) = 5 ∧ (∀ k, k < 5 → hR h (t + 1) k = some (t + 5 + 2 * k) ∧ GS h (t + 5 + 2 * k)) ∧ hR h t 3 = some (t + 2) ∧ hC h (t + 2) = 24 ∧ hN h (t + 2) = 16 ∧ (∀ i, i < 16 → hR h (t + 2) i = some (t + 15 + 2 * i) ∧ GS h (t + 15 + 2 * i)) ∧ hR h t 4 = some (t + 3) ∧ GS h (t + 3)
def B3 (x : Nat) (h : MH) : Prop := RS0 h (x + 39) ∧ HS h (x + 86)
def B4 (x : Nat) (h : MH) : Prop := (hC h (x + 131) = 25 ∧ hN h (x + 131) = 3 ∧ ∀ k, k < 3 → hR h (x + 131) k = some (x + 132 + 12 * k) ∧ BS h (x + 132 + 12 * k)) ∧ IS h (x + 168) ∧ hI h (x + 168) 0 = nI 0 ∧ TS h (x + 184)
def B5 (x : Nat) (h : MH) : Prop := TS h (x + 199) ∧ GS h (x + 214)
def B6 (x : Nat) (h : MH) : Prop := SS h (x + 216) ∧ hC h (x + 221) = 20 ∧ hN h (x + 221) = 16
theorem B1.q {x : Nat} {h h' : MH} (B : B1 x h) (m : ∀ b, x < b → b < x + 19 → Se h h' b) : B1 x h' := by
  obtain ⟨b1, b2, b3, b4⟩ := B
  have e := m (x + 1) (by omega) (by omega)
  exact ⟨by rw [e.1]; exact b1, by rw [e.2.1]; exact b2, b3.q (fun b h1 h2 => m b (by omega) (by omega)), b4.q (m _ (by omega) (by omega)) (m _ (by omega) (by omega))⟩
theorem B2.q {x : Nat} {h h' : MH} (B : B2 x h) (m : ∀ b, x < b → b < x + 39 → Se h h' b) : B2 x h' := by
  obtain ⟨b1, b2, b3, b4, b5, b6, b7, b8, b9, b10⟩ := B
  have e6 := m (x + 36) (by omega) (by omega)
  have e7 := m (x + 37) (by omega) (by omega)
  have e8 := m (x + 38) (by omega) (by omega)
  exact ⟨b1.q (fun b h1 h2 => m b (by omega) (by omega)), by rw [e6.1]; exact b2, by rw [e6.2.2.1]; exact b3, by rw [e7.1]; exact b4, by rw [e7.2.2.1]; exact b5, by rw [e8.1]; exact b6, by rw [e8.2.1]; exact b7, fun j hj => by rw [e8.2.2.2.2]; exact b8 j hj, by rw [e6.2.2.2.1]; exact b9, by rw [e6.2.2.2.1]; exact b10⟩
theorem RS0.q {t : Nat} {h h' : MH} (T : RS0 h t) (m : ∀ b, t ≤ b → b < t + 47 → Se h h' b) : RS0 h' t := by
  obtain ⟨r1, r2, r3, r4, r5, r6, r7, r8, r9, r10, r11⟩ := T
  have e0 := m t (by omega) (by omega)
  have e1 := m (t + 1) (by omega) (by omega)
  have e2 := m (t + 2) (by omega) (by omega)
  exact ⟨by rw [e0.1]; exact r1, by rw [e0.2.2.1]; exact r2, by rw [e1.1]; exact r3, by rw [e1.2.1]; exact r4, fun k hk => ⟨by rw [e1.2.2.1]; exact (r5 k hk).1, (r5 k hk).2.q (fun b h1 h2 => m b (by omega) (by omega))⟩, by rw [e0.2.2.1]; exact r6, by rw [e2.1]; exact r7, by rw [e2.2.1]; exact r8, fun i hi => ⟨by rw [e2.2.2.1]; exact (r9 i hi).1, (r9 i hi).2.q (fun b h1 h2 => m b (by omega) (by omega))⟩, by rw [e0.2.2.1]; exact r10, r11.q (fun b h1 h2 => m b (by omega) (by omega))⟩
theorem B3.q {x : Nat} {h h' : MH} (B : B3 x h) (m : ∀ b, x < b → b < x + 131 → Se h h' b) : B3 x h' := ⟨B.1.q (fun b h1 h2 => m b (by omega) (by omega)), B.2.q (fun b h1 h2 => m b (by omega) (by omega))⟩
theorem B4.q {x : Nat} {h h' : MH} (B : B4 x h) (m : ∀ b, x < b → b < x + 199 → Se h h' b) : B4 x h' := by
  obtain ⟨⟨b1, b2, b3⟩, b4, b5, b6⟩ := B
  have e := m (x + 131) (by omega) (by omega)
  exact ⟨⟨by rw [e.1]; exact b1, by rw [e.2.1]; exact b2, fun k hk => ⟨by rw [e.2.2.1]; exact (b3 k hk).1, (b3 k hk).2.q (fun b h1 h2 => m b (by omega) (by omega))⟩⟩, b4.q (fun b h1 h2 => m b (by omega) (by omega)), by rw [(m (x + 168) (by omega) (by omega)).2.2.2.1]; exact b5, b6.q (fun b h1 h2 => m b (by omega) (by omega))⟩
theorem B5.q {x : Nat} {h h' : MH} (B : B5 x h) (m : ∀ b, x < b → b < x + 216 → Se h h' b) : B5 x h' := ⟨B.1.q (fun b h1 h2 => m b (by omega) (by omega)), B.2.q (fun b h1 h2 => m b (by omega) (by omega))⟩
theorem pt_0 {x : Nat} {hh h0 : MH} {Q : Option Value → MH → Prop} (A0 : Sto x hh 1 0 [] h0) (K : ∀ h', Sto x hh 19 2323 [(0, 1), (2, 2)] h' → B1 x h' → wp (ev M_PT_init 0 12 [some (.ref x), none] [] h') Q) : wp (ev M_PT_init 0 0 [some (.ref x), none] [] h0) Q := by
  have H0 := A0.1
  rw [r_PT_init_0]
  refine wp_okN rfl (by decide) (wp_isC (by rw [(nw_e (by have := A0.1; omega)).1]; exact A0.2.2.1) ?_)
  obtain ⟨S1, C1, N1, L1⟩ := arr_S (h := h0) (x := x) (s := 0) (tag := 21) (n := 1600) (by have := A0.1; omega)
  have A1 := A0.s S1 (by decide) (by decide)
  try dsimp only
  generalize sR (nw h0 21 1600) x 0 (hT h0) = h1 at *
  rw [A0.1] at C1 N1 L1
  obtain ⟨k2, e2, W2, G2, Z2⟩ := nwP h1
  refine wp_rVe e2 (wp_isC (by rw [(W2.2.2 x (by have := A1.1; omega)).1]; exact A1.2.2.1) ?_)
  obtain ⟨S2, U2⟩ := W2.st (x := x) (s := 2) (by have := A1.1; omega)
  have A2 := A1.s S2 (by decide) (by decide)
  try dsimp only
  generalize sR k2 x 2 (hT h1) = h2 at *
  rw [A1.1] at U2
  have H1 := A1.1
  have H2 := A2.1
  rw [H1] at G2 Z2
  have e : ∀ b, x < b → b < x + 2 → Se h1 h2 b := fun b w1 w2 => S2.e b (by omega) (by omega)
  have e1 := e (x + 1) (by omega) (by omega)
  have Z2 : Zp k2 (x + 2) := Z2
  exact K h2 A2 ⟨by rw [e1.1]; exact C1, by rw [e1.2.1]; exact N1, G2.q (fun b w1 w2 => U2 b (by omega)), Z2.q (U2 _ (by omega)) (U2 _ (by omega))⟩
theorem pt_12 {x : Nat} {hh h0 : MH} {Q : Option Value → MH → Prop} {s0 v0 : Nat} (w : StrW hh s0 v0) (ht : 0 < x ∧ s0 < x ∧ v0 < x) (A0 : Sto x hh 19 2323 [(0, 1), (2, 2)] h0) (Q1 : B1 x h0) (K : ∀ h', Sto x hh 39 3079 [(0, 1), (2, 2), (3, 19), (4, 36)] h' → B1 x h' → B2 x h' → wp (ev M_PT_init 0 23 [some (.ref x), none] [] h') Q) : wp (ev M_PT_init 0 12 [some (.ref x), none] [] h0) Q := by
  have H0 := A0.1
  rw [r_PT_init_12]
  obtain ⟨k1, e1, W1, G1, Z1⟩ := nwP h0
  refine wp_rVe e1 (wp_isC (by rw [(W1.2.2 x (by have := A0.1; omega)).1]; exact A0.2.2.1) ?_)
  obtain ⟨S1, U1⟩ := W1.st (x := x) (s := 3) (by have := A0.1; omega)
  have A1 := A0.s S1 (by decide) (by decide)
  try dsimp only
  generalize sR k1 x 3 (hT h0) = h1 at *
  rw [A0.1] at U1
  have w1 : StrW h1 s0 v0 := w.q (A1.2.2.2.2.1 _ (by omega)) (A1.2.2.2.2.1 _ (by omega)) (A1.2.2.2.2.1 _ (by omega))
  obtain ⟨k2, e2, W2, R1, R2, R3, R4, R5, R6, R7, R8, R9⟩ := nwRd w1 (by have := A1.1; omega)
  refine wp_rVe e2 (wp_isC (by rw [(W2.2.2 x (by have := A1.1; omega)).1]; exact A1.2.2.1) ?_)
  obtain ⟨S2, U2⟩ := W2.st (x := x) (s := 4) (by have := A1.1; omega)
  have A2 := A1.s S2 (by decide) (by decide)
  try dsimp only
  generalize sR k2 x 4 (hT h1) = h2 at *
  rw [A1.1] at U2
  have H1 := A1.1
  have H2 := A2.1
  rw [H0] at G1
  rw [H1] at R1 R2 R3 R4 R5 R6 R7 R8 R9
  have e6 := U2 (x + 36) (by omega)
  have e7 := U2 (x + 37) (by omega)
  have e8 := U2 (x + 38) (by omega)
  refine K h2 A2 (Q1.q (fun b w1 w2 => (S1.e b (by omega) (by omega)).tr (S2.e b (by omega) (by omega)))) ⟨?_, by rw [e6.1]; exact R1, by rw [e6.2.2.1]; exact R2, by rw [e7.1]; exact R3, by rw [e7.2.2.1]; exact R4, by rw [e8.1]; exact R5, by rw [e8.2.1]; exact R6, fun j hj => by rw [e8.2.2.2.2]; exact R7 j hj, by rw [e6.2.2.2.1]; exact R8, by rw [e6.2.2.2.1]; exact R9⟩
  exact G1.q (fun b w1 w2 => (U1 b (by omega)).tr (S2.e b (by omega) (by omega)))
theorem pt_23 {x : Nat} {hh h0 : MH} {Q : Option Value → MH → Prop} (A0 : Sto x hh 39 3079 [(0, 1), (2, 2), (3, 19), (4, 36)] h0) (Q1 : B1 x h0) (Q2 : B2 x h0) (K : ∀ h', Sto x hh 131 4308 [(0, 1), (2, 2), (3, 19), (4, 36), (5, 39), (6, 86)] h' → B1 x h' → B2 x h' → B3 x h' → wp (ev M_PT_init 0 34 [some (.ref x), none] [] h') Q) : wp (ev M_PT_init 0 23 [some (.ref x), none] [] h0) Q := by
  have H0 := A0.1
  rw [r_PT_init_23]
  obtain ⟨k1, e1, W1, G1⟩ := nwRl h0
  refine wp_rVe e1 (wp_isC (by rw [(W1.2.2 x (by have := A0.1; omega)).1]; exact A0.2.2.1) ?_)
  obtain ⟨S1, U1⟩ := W1.st (x := x) (s := 5) (by have := A0.1; omega)
  have A1 := A0.s S1 (by decide) (by decide)
  try dsimp only
  generalize sR k1 x 5 (hT h0) = h1 at *
  rw [A0.1] at U1
  obtain ⟨k2, e2, W2, G2, -⟩ := nwH h1
  refine wp_rVe e2 (wp_isC (by rw [(W2.2.2 x (by have := A1.1; omega)).1]; exact A1.2.2.1) ?_)
  obtain ⟨S2, U2⟩ := W2.st (x := x) (s := 6) (by have := A1.1; omega)
  have A2 := A1.s S2 (by decide) (by decide)
  try dsimp only
  generalize sR k2 x 6 (hT h1) = h2 at *
  rw [A1.1] at U2
  have H1 := A1.1
  have H2 := A2.1
  rw [H0] at G1
  rw [H1] at G2
  have G1 : RS0 k1 (x + 39) := G1
  have e : ∀ b, x < b → b < x + 39 → Se h0 h2 b := fun b w1 w2 => (S1.e b (by omega) (by omega)).tr (S2.e b (by omega) (by omega))
  exact K h2 A2 (Q1.q (fun b w1 w2 => e b w1 (by omega))) (Q2.q (fun b w1 w2 => e b w1 w2)) ⟨G1.q (fun b w1 w2 => (U1 b (by omega)).tr (S2.e b (by omega) (by omega))), G2.q (fun b w1 w2 => U2 b (by omega))⟩
theorem pt_34 {x : Nat} {hh h0 : MH} {Q : Option Value → MH → Prop} (A0 : Sto x hh 131 4308 [(0, 1), (2, 2), (3, 19), (4, 36), (5, 39), (6, 86)] h0) (Q1 : B1 x h0) (Q2 : B2 x h0) (Q3 : B3 x h0) (K : ∀ h', Sto x hh 199 6024 [(0, 1), (2, 2), (3, 19), (4, 36), (5, 39), (6, 86), (7, 131), (8, 168), (9, 184)] h' → B1 x h' → B2 x h' → B3 x h' → B4 x h' → wp (ev M_PT_init 0 65 [some (.ref x), none] [] h') Q) : wp (ev M_PT_init 0 34 [some (.ref x), none] [] h0) Q := by
  have H0 := A0.1
  rw [r_PT_init_34]
  refine wp_okN rfl (by decide) (wp_isC (by rw [(nw_e (by have := A0.1; omega)).1]; exact A0.2.2.1) ?_)
  obtain ⟨S1, C1, N1, L1⟩ := arr_S (h := h0) (x := x) (s := 7) (tag := 25) (n := 3) (by have := A0.1; omega)
  have A1 := A0.s S1 (by decide) (by decide)
  try dsimp only
  generalize sR (nw h0 25 3) x 7 (hT h0) = h1 at *
  rw [A0.1] at C1 N1 L1
  have H1 := A1.1
  have b1 : hR h1 x 7 = some (x + 131) := A1.2.2.2.2.2 (7, 131) (by decide)
  have y1 : hC h1 (x + 131) = 25 := C1
  have u1 : hN h1 (x + 131) = 3 := N1
  rw [r_PT_init_41]
  refine wp_bt (by decide) (wp_isC A1.2.2.1 (wp_nnR b1 (b_it (K := fun h => ev M_PT_init 0 52 [some (.ref x), some (.int (nI 0))] [] h) (r := x + 131) (i := 0) (by omega) y1 u1 (by decide) (fun h2 S2 G2 => ?_))))
  show wp (ev M_PT_init 0 52 [some (.ref x), some (.int (nI 0))] [] h2) _
  rw [r_PT_init_52, nI_add]
  have A2 := A1.r S2 (by omega) (by decide)
  rw [H1] at G2
  have H2 := A2.1
  have b2 : hR h2 x 7 = some (x + 131) := A2.2.2.2.2.2 (7, 131) (by decide)
  have y2 : hC h2 (x + 131) = 25 := by rw [S2.2.2.1.2.1]; exact y1
  have u2 : hN h2 (x + 131) = 3 := by rw [S2.2.2.1.2.2.1]; exact u1
  rw [r_PT_init_41]
  refine wp_bt (by decide) (wp_isC A2.2.2.1 (wp_nnR b2 (b_it (K := fun h => ev M_PT_init 0 52 [some (.ref x), some (.int (nI 1))] [] h) (r := x + 131) (i := 1) (by omega) y2 u2 (by decide) (fun h3 S3 G3 => ?_))))
  show wp (ev M_PT_init 0 52 [some (.ref x), some (.int (nI 1))] [] h3) _
  rw [r_PT_init_52, nI_add]
  have A3 := A2.r S3 (by omega) (by decide)
  rw [H2] at G3
  have H3 := A3.1
  have b3 : hR h3 x 7 = some (x + 131) := A3.2.2.2.2.2 (7, 131) (by decide)
  have y3 : hC h3 (x + 131) = 25 := by rw [S3.2.2.1.2.1]; exact y2
  have u3 : hN h3 (x + 131) = 3 := by rw [S3.2.2.1.2.2.1]; exact u2
  rw [r_PT_init_41]
  refine wp_bt (by decide) (wp_isC A3.2.2.1 (wp_nnR b3 (b_it (K := fun h => ev M_PT_init 0 52 [some (.ref x), some (.int (nI 2))] [] h) (r := x + 131) (i := 2) (by omega) y3 u3 (by decide) (fun h4 S4 G4 => ?_))))
  show wp (ev M_PT_init 0 52 [some (.ref x), some (.int (nI 2))] [] h4) _
  rw [r_PT_init_52, nI_add]
  have A4 := A3.r S4 (by omega) (by decide)
  rw [H3] at G4
  have H4 := A4.1
  rw [r_PT_init_41]
  refine wp_bf (by decide) ?_
  obtain ⟨k5, e5, W5, G5, I5⟩ := nwI h4
  refine wp_rVe e5 (wp_isC (by rw [(W5.2.2 x (by have := A4.1; omega)).1]; exact A4.2.2.1) ?_)
  obtain ⟨S5, U5⟩ := W5.st (x := x) (s := 8) (by have := A4.1; omega)
  have A5 := A4.s S5 (by decide) (by decide)
  try dsimp only
  generalize sR k5 x 8 (hT h4) = h5 at *
  rw [A4.1] at U5
  obtain ⟨k6, e6, W6, G6, -⟩ := nwT h5
  refine wp_rVe e6 (wp_isC (by rw [(W6.2.2 x (by have := A5.1; omega)).1]; exact A5.2.2.1) ?_)
  obtain ⟨S6, U6⟩ := W6.st (x := x) (s := 9) (by have := A5.1; omega)
  have A6 := A5.s S6 (by decide) (by decide)
  try dsimp only
  generalize sR k6 x 9 (hT h5) = h6 at *
  rw [A5.1] at U6
  have H5 := A5.1
  have H6 := A6.1
  rw [H4] at G5 I5
  rw [H5] at G6
  have e46 : ∀ b, x < b → b < x + 168 → Se h4 h6 b := fun b w1 w2 => (S5.e b (by omega) (by omega)).tr (S6.e b (by omega) (by omega))
  have e36 : ∀ b, x < b → b < x + 156 → b ≠ x + 131 → Se h3 h6 b := fun b w1 w2 w3 => (S4.e b (by omega) w3).tr (e46 b w1 (by omega))
  have e26 : ∀ b, x < b → b < x + 144 → b ≠ x + 131 → Se h2 h6 b := fun b w1 w2 w3 => (S3.e b (by omega) w3).tr (e36 b w1 (by omega) w3)
  have e06 : ∀ b, x < b → b < x + 131 → Se h0 h6 b := fun b w1 w2 => ((S1.e b (by omega) (by omega)).tr (S2.e b (by omega) (by omega))).tr (e26 b w1 (by omega) (by omega))
  have e131 := e46 (x + 131) (by omega) (by omega)
  refine K h6 A6 (Q1.q (fun b w1 w2 => e06 b w1 (by omega))) (Q2.q (fun b w1 w2 => e06 b w1 (by omega))) (Q3.q (fun b w1 w2 => e06 b w1 (by omega))) ⟨⟨by rw [e131.1, S4.2.2.1.2.1]; exact y3, by rw [e131.2.1, S4.2.2.1.2.2.1]; exact u3, fun k hk => ?_⟩, G5.q (fun b w1 w2 => (U5 b (by omega)).tr (S6.e b (by omega) (by omega))), ?_, G6.q (fun b w1 w2 => U6 b (by omega))⟩
  · rw [e131.2.2.1, S4.2.2.2, H3]
    rcases (show k = 0 ∨ k = 1 ∨ k = 2 by omega) with e | e | e <;> subst e
    · rw [if_neg (by decide), S3.2.2.2, if_neg (by decide), S2.2.2.2, if_pos rfl, H1]
      exact ⟨rfl, G2.q (fun b w1 w2 => e26 b (by omega) (by omega) (by omega))⟩
    · rw [if_neg (by decide), S3.2.2.2, if_pos rfl, H2]
      exact ⟨rfl, G3.q (fun b w1 w2 => e36 b (by omega) (by omega) (by omega))⟩
    · rw [if_pos rfl]
      exact ⟨rfl, G4.q (fun b w1 w2 => e46 b (by omega) (by omega))⟩
  · rw [((U5 (x + 168) (by omega)).tr (S6.e (x + 168) (by omega) (by omega))).2.2.2.1, I5]; rfl
theorem pt_65 {x : Nat} {hh h0 : MH} {Q : Option Value → MH → Prop} (A0 : Sto x hh 199 6024 [(0, 1), (2, 2), (3, 19), (4, 36), (5, 39), (6, 86), (7, 131), (8, 168), (9, 184)] h0) (Q1 : B1 x h0) (Q2 : B2 x h0) (Q3 : B3 x h0) (Q4 : B4 x h0) (K : ∀ h', Sto x hh 216 7163 [(0, 1), (2, 2), (3, 19), (4, 36), (5, 39), (6, 86), (7, 131), (8, 168), (9, 184), (10, 199), (11, 214)] h' → B1 x h' → B2 x h' → B3 x h' → B4 x h' → B5 x h' → wp (ev M_PT_init 0 76 [some (.ref x), none] [] h') Q) : wp (ev M_PT_init 0 65 [some (.ref x), none] [] h0) Q := by
  have H0 := A0.1
  rw [r_PT_init_65]
  obtain ⟨k1, e1, W1, G1, -⟩ := nwT h0
  refine wp_rVe e1 (wp_isC (by rw [(W1.2.2 x (by have := A0.1; omega)).1]; exact A0.2.2.1) ?_)
  obtain ⟨S1, U1⟩ := W1.st (x := x) (s := 10) (by have := A0.1; omega)
  have A1 := A0.s S1 (by decide) (by decide)
  try dsimp only
  generalize sR k1 x 10 (hT h0) = h1 at *
  rw [A0.1] at U1
  obtain ⟨k2, e2, W2, G2⟩ := nwG h1
  refine wp_rVe e2 (wp_isC (by rw [(W2.2.2 x (by have := A1.1; omega)).1]; exact A1.2.2.1) ?_)
  obtain ⟨S2, U2⟩ := W2.st (x := x) (s := 11) (by have := A1.1; omega)
  have A2 := A1.s S2 (by decide) (by decide)
  try dsimp only
  generalize sR k2 x 11 (hT h1) = h2 at *
  rw [A1.1] at U2
  have H1 := A1.1
  have H2 := A2.1
  rw [H0] at G1
  rw [H1] at G2
  have e : ∀ b, x < b → b < x + 199 → Se h0 h2 b := fun b w1 w2 => (S1.e b (by omega) (by omega)).tr (S2.e b (by omega) (by omega))
  exact K h2 A2 (Q1.q (fun b w1 w2 => e b w1 (by omega))) (Q2.q (fun b w1 w2 => e b w1 (by omega))) (Q3.q (fun b w1 w2 => e b w1 (by omega))) (Q4.q e) ⟨G1.q (fun b w1 w2 => (U1 b (by omega)).tr (S2.e b (by omega) (by omega))), G2.q (fun b w1 w2 => U2 b (by omega))⟩
theorem pt_76 {x : Nat} {hh h0 : MH} {Q : Option Value → MH → Prop} (A0 : Sto x hh 216 7163 [(0, 1), (2, 2), (3, 19), (4, 36), (5, 39), (6, 86), (7, 131), (8, 168), (9, 184), (10, 199), (11, 214)] h0) (Q1 : B1 x h0) (Q2 : B2 x h0) (Q3 : B3 x h0) (Q4 : B4 x h0) (Q5 : B5 x h0) (K : ∀ h', Sto x hh 222 7217 [(0, 1), (2, 2), (3, 19), (4, 36), (5, 39), (6, 86), (7, 131), (8, 168), (9, 184), (10, 199), (11, 214), (12, 216), (13, 221)] h' → B1 x h' → B2 x h' → B3 x h' → B4 x h' → B5 x h' → B6 x h' → wp (ev M_PT_init 0 86 [some (.ref x), none] [] h') Q) : wp (ev M_PT_init 0 76 [some (.ref x), none] [] h0) Q := by
  have H0 := A0.1
  rw [r_PT_init_76]
  obtain ⟨k1, e1, W1, G1, -⟩ := nwSt h0
  refine wp_rVe e1 (wp_isC (by rw [(W1.2.2 x (by have := A0.1; omega)).1]; exact A0.2.2.1) ?_)
  obtain ⟨S1, U1⟩ := W1.st (x := x) (s := 12) (by have := A0.1; omega)
  have A1 := A0.s S1 (by decide) (by decide)
  try dsimp only
  generalize sR k1 x 12 (hT h0) = h1 at *
  rw [A0.1] at U1
  refine wp_okN rfl (by decide) (wp_isC (by rw [(nw_e (by have := A1.1; omega)).1]; exact A1.2.2.1) ?_)
  obtain ⟨S2, C2, N2, L2⟩ := arr_S (h := h1) (x := x) (s := 13) (tag := 20) (n := 16) (by have := A1.1; omega)
  have A2 := A1.s S2 (by decide) (by decide)
  try dsimp only
  generalize sR (nw h1 20 16) x 13 (hT h1) = h2 at *
  rw [A1.1] at C2 N2 L2
  have H1 := A1.1
  have H2 := A2.1
  rw [H0] at G1
  have e : ∀ b, x < b → b < x + 216 → Se h0 h2 b := fun b w1 w2 => (S1.e b (by omega) (by omega)).tr (S2.e b (by omega) (by omega))
  exact K h2 A2 (Q1.q (fun b w1 w2 => e b w1 (by omega))) (Q2.q (fun b w1 w2 => e b w1 (by omega))) (Q3.q (fun b w1 w2 => e b w1 (by omega))) (Q4.q (fun b w1 w2 => e b w1 (by omega))) (Q5.q e) ⟨G1.q (fun b w1 w2 => (U1 b (by omega)).tr (S2.e b (by omega) (by omega))), C2, N2⟩
theorem pt_86 {x s1 v1 : Nat} {hh h : MH} (A : Sto x hh 222 7217 [(0, 1), (2, 2), (3, 19), (4, 36), (5, 39), (6, 86), (7, 131), (8, 168), (9, 184), (10, 199), (11, 214), (12, 216), (13, 221)] h) (Q1 : B1 x h) (Q2 : B2 x h) (Q3 : B3 x h) (Q4 : B4 x h) (Q5 : B5 x h) (Q6 : B6 x h) (ws : StrS hh s1 v1) (ht : 0 < x ∧ s1 < x ∧ v1 < x) : wp (ev M_PT_init 0 86 [some (.ref x), none] [] h) (fun v h' => v = none ∧ ∃ H f', h' = wI H f' ∧ hT H = x + 222 ∧ hS H ≤ hS hh + 9000 ∧ CSH H x (x + 2) (x + 19) s1 v1 ∧ CF f' (hL H) x (x + 2) S00 ∧ ∀ b, b < x → Se hh (wI H f') b) := by
  rw [r_PT_init_86]
  have wS : StrS h s1 v1 := ws.q (A.2.2.2.2.1 _ (by omega)) (A.2.2.2.2.1 _ (by omega)) (A.2.2.2.2.1 _ (by omega))
  obtain ⟨q11, q12, q13, Z⟩ := Q1
  obtain ⟨q21, R1, R2, R3, R4, R5, R6, R7, R8, R9⟩ := Q2
  obtain ⟨⟨g0, g1, g2, g3, g4, g5, g6, g7, g8, g9, g10⟩, hh6⟩ := Q3
  obtain ⟨⟨y1, y2, y3⟩, ii, tm, t1⟩ := Q4
  have sq : ∀ b, b ≠ x + 39 → Se h (sR h (x + 39) 2 (x + 2)) b := fun b hb => sR_e hb
  have u39 : ∀ k, k ≠ 2 → hR (sR h (x + 39) 2 (x + 2)) (x + 39) k = hR h (x + 39) k := fun k hk => by
    show up2 (hR h) (x + 39) 2 (some (x + 2)) (x + 39) k = _
    rw [up2_k hk]
  have RSH : RS (sR h (x + 39) 2 (x + 2)) (x + 39) (x + 2) := by
    refine ⟨g0, by rw [u39 _ (by decide)]; exact g1, g2, g3, fun k hk => ⟨by rw [(sq (x + 39 + 1) (by omega)).2.2.1]; exact (g4 k hk).1, (g4 k hk).2.q (fun b w1 w2 => sq b (by omega))⟩, by rw [u39 _ (by decide)]; exact g5, g6, g7, fun k hk => ⟨by rw [(sq (x + 39 + 2) (by omega)).2.2.1]; exact (g8 k hk).1, (g8 k hk).2.q (fun b w1 w2 => sq b (by omega))⟩, by rw [u39 _ (by decide)]; exact g9, g10.q (fun b w1 w2 => sq b (by omega)), ?_⟩
    show up2 (hR h) (x + 39) 2 (some (x + 2)) (x + 39) 2 = _
    rw [up2_s]
  have ex := sq x (by omega)
  have C : CSH (sR h (x + 39) 2 (x + 2)) x (x + 2) (x + 19) s1 v1 := by
    refine ⟨⟨A.2.2.1, by rw [ex.2.2.1]; exact A.2.2.2.2.2 (0, 1) (by decide), by rw [ex.2.2.1]; exact A.2.2.2.2.2 (2, 2) (by decide), by rw [ex.2.2.1]; exact A.2.2.2.2.2 (3, 19) (by decide), by rw [ex.2.2.1]; exact A.2.2.2.2.2 (4, 36) (by decide), by rw [ex.2.2.1]; exact A.2.2.2.2.2 (5, 39) (by decide), by rw [ex.2.2.1]; exact A.2.2.2.2.2 (6, 86) (by decide), by rw [ex.2.2.1]; exact A.2.2.2.2.2 (7, 131) (by decide), by rw [ex.2.2.1]; exact A.2.2.2.2.2 (8, 168) (by decide), by rw [ex.2.2.1]; exact A.2.2.2.2.2 (9, 184) (by decide), by rw [ex.2.2.1]; exact A.2.2.2.2.2 (10, 199) (by decide), by rw [ex.2.2.1]; exact A.2.2.2.2.2 (11, 214) (by decide), by rw [ex.2.2.1]; exact A.2.2.2.2.2 (12, 216) (by decide), by rw [ex.2.2.1]; exact A.2.2.2.2.2 (13, 221) (by decide)⟩, q13.q (fun b w1 w2 => sq b (by omega)), q21.q (fun b w1 w2 => sq b (by omega)), RSH, hh6.q (fun b w1 w2 => sq b (by omega)), ⟨y1, y2, fun b hb => ⟨by rw [(sq (x + 131) (by omega)).2.2.1]; exact (y3 b hb).1, (y3 b hb).2.q (fun b w1 w2 => sq b (by omega))⟩⟩, ii.q (fun b w1 w2 => sq b (by omega)), t1.q (fun b w1 w2 => sq b (by omega)), Q5.1.q (fun b w1 w2 => sq b (by omega)), Q5.2.q (fun b w1 w2 => sq b (by omega)), Q6.1.q (fun b w1 w2 => sq b (by omega)), ⟨Q6.2.1, Q6.2.2, q11, q12⟩, ⟨R1, by rw [(sq (x + 36) (by omega)).2.2.1]; exact R2, R3, by rw [(sq (x + 37) (by omega)).2.2.1]; exact R4, R5, R6⟩, wS.q (sq _ (by omega)) (sq _ (by omega)) (sq _ (by omega)), ⟨by omega, by omega, by omega⟩, Or.inl ⟨rfl, rfl⟩⟩
  obtain ⟨f', a1, a2, a3, a4, a5, a6, a7, a8, a9⟩ := pt_anew (h := h) (f := hI h) (t := 0) (q := Pn0) (cx := fun _ => []) C WP0 (PNF0 Z) tm
  refine wp_isC A.2.2.1 (wp_rVe a1 (wp_s ⟨rfl, _, f', rfl, A.1, by show hS h ≤ _; have := A.2.1; omega, C, ?_, fun b hb => ?_⟩))
  · refine CF_anw ?_ ?_ ?_ (fun j hj => R7 j hj) (PNF0 ?_) a2 a3 a4 a5 a6 a7
    · rw [a8 1 (by decide), A.2.2.2.1]; rfl
    · rw [a9 _ (by omega) (by omega)]; exact R8
    · rw [a9 _ (by omega) (by omega)]; exact R9
    · rw [a9 (x + 2) (by omega) (by omega), a9 (x + 2 + 1) (by omega) (by omega)]; exact Z
  · have e := A.2.2.2.2.1 b hb
    refine ⟨e.1, e.2.1, ?_, ?_, e.2.2.2.2⟩
    · show up2 (hR h) (x + 39) 2 (some (x + 2)) b = _
      rw [up2_a (by omega)]; exact e.2.2.1
    · show f' b = hI hh b
      rw [a9 b (by omega) (by omega)]; exact e.2.2.2.1
theorem mkPT {h0 : MH} {x s0 v0 s1 v1 : Nat} (T0 : hT h0 = x + 1) (c0 : hC h0 x = 12) (i0 : hI h0 x = fun _ => 0) (w : StrW h0 s0 v0) (ws : StrS h0 s1 v1) (ht : 0 < x ∧ s0 < x ∧ v0 < x ∧ s1 < x ∧ v1 < x) : ∃ H f', ev M_PT_init 0 0 [some (.ref x), none] [] h0 = some (none, wI H f') ∧ hT H = x + 222 ∧ hS H ≤ hS h0 + 9000 ∧ CSH H x (x + 2) (x + 19) s1 v1 ∧ CF f' (hL H) x (x + 2) S00 ∧ ∀ b, b < x → Se h0 (wI H f') b := by
  have A0 : Sto x h0 1 0 [] h0 := ⟨T0, Nat.le_refl _, c0, i0, fun _ _ => Se.rf, fun p hp => (by cases hp)⟩
  have key := pt_0 A0 (fun h1 A1 P1 => pt_12 w ⟨ht.1, ht.2.1, ht.2.2.1⟩ A1 P1 (fun h2 A2 P1 P2 => pt_23 A2 P1 P2 (fun h3 A3 P1 P2 P3 => pt_34 A3 P1 P2 P3 (fun h4 A4 P1 P2 P3 P4 => pt_65 A4 P1 P2 P3 P4 (fun h5 A5 P1 P2 P3 P4 P5 => pt_76 A5 P1 P2 P3 P4 P5 (fun h6 A6 P1 P2 P3 P4 P5 P6 => pt_86 A6 P1 P2 P3 P4 P5 P6 ws ⟨ht.1, ht.2.2.2.1, ht.2.2.2.2⟩))))))
  obtain ⟨v, h', e, e2, H, f', e3, r⟩ := key
  subst e2; subst e3; exact ⟨H, f', e, r⟩
