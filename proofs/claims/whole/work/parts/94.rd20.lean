/-! The plain form: store. -/
section
variable {h : MH} {f f0 : Nat → Nat → Int32} {g g0 : Nat → Nat → Int64} {m : Nat} {b : Nat → Nat} {len : Nat} {s : Ps} {cx : Nat → List Nat} {S : Abs}
/-- a fault: all but the text stays -/
theorem MF_fail {f' : Nat → Nat → Int32} {c p : Nat} (F : MF f m S) (W : WS S) (A : ∀ a i, ¬ Tw m a i → ¬ (a = m ∧ (i = 1 ∨ i = 2 ∨ i = 9 ∨ i = 10)) → f' a i = f a i) (e1 : f' m 1 = nI 0) (e9 : f' m 9 = nI c) (e10 : f' m 10 = nI p) : MF f' m (aT S, 0, c, some p, aQ S, aX S, aD S, aK S, aS S, aB S, aL S, aE S, aM S) := by
  obtain ⟨⟨a1, a2⟩, ⟨b1, b2⟩, ⟨p1, p2, p3, p4⟩, ⟨d1, d2, d3, d4⟩, r1, n1, ⟨h1, h2, h3⟩, ⟨i1, i2⟩, ⟨j1, j2, j3⟩, k1⟩ := F
  have n5 : aR S ≤ 5 := W.2.2.1.1.2.2.2.1
  have k320 : (vKs (aQ S)).length ≤ 320 := W.2.2.1.1.2.2.2.2.2.2.2.2.1.1
  have lo : ∀ a, m + 2 ≤ a → a ≤ m + 7 → f' a 0 = f a 0 := fun a w1 w2 => A a 0 (by unfold Tw; omega) (by omega)
  have md : ∀ a k, a = m + 9 ∨ a = m + 10 ∨ a = m + 11 → k < 5 → f' a k = f a k := fun a k w1 w2 => A a k (by unfold Tw; omega) (by omega)
  have hi : ∀ a, m + 15 < a → f' a = f a := fun a w => funext fun i => A a i (by unfold Tw; omega) (by omega)
  have sl : ∀ k, 33 < k → f' m k = f m k := fun k w => A m k (by unfold Tw; omega) (by omega)
  refine ⟨⟨e1, fun i hi => absurd hi (Nat.not_lt_zero i)⟩, ⟨e9, e10⟩, ⟨by rw [lo _ (by omega) (by omega)]; exact p1, by rw [lo _ (by omega) (by omega)]; exact p2, fun k hk => ?_, fun k hk => ?_⟩, ⟨by rw [lo _ (by omega) (by omega)]; exact d1, by rw [lo _ (by omega) (by omega)]; exact d2, by rw [lo _ (by omega) (by omega)]; exact d3, fun i k hk => ?_⟩, fun k hk hz r hr => ?_, fun i hi2 => by rw [hi _ (by omega)]; exact n1 i hi2, ⟨by rw [sl _ (by decide)]; exact h1, by rw [sl _ (by decide)]; exact h2, fun k i hk hi2 => by rw [hi _ (by omega)]; exact h3 k i hk hi2⟩, ⟨by rw [sl _ (by decide)]; exact i1, fun i e he => by rw [hi _ (by omega)]; exact i2 i e he⟩, ⟨by rw [sl _ (by decide)]; exact j1, by rw [sl _ (by decide)]; exact j2, fun i e he => ?_⟩, fun b hb => ⟨by rw [hi _ (by omega)]; exact (k1 b hb).1, fun t ht i hi2 => by rw [hi _ (by omega)]; exact (k1 b hb).2 t ht i hi2⟩⟩
  · have hk : k < aR S := hk
    rw [md _ k (by omega) (by omega)]; exact p3 k hk
  · have hk : k < aR S := hk
    obtain ⟨o, o1, o2, o3, o4⟩ := p4 k hk
    refine ⟨o, by rw [md _ k (by omega) (by omega)]; exact o1, by rw [md _ k (by omega) (by omega)]; exact o2, o3, fun z i c hc => ?_⟩
    have z : (vTd (aQ S)).testBit k = false := z
    rw [z, if_neg (by decide)] at o3
    have := (List.getElem?_eq_some_iff.mp hc).1
    have this : i < (aX S k).length := this
    rw [A (m + 13) (o + i) (by unfold Tw; omega) (by omega)]; exact o4 z i c hc
  · have := (List.getElem?_eq_some_iff.mp hk).1
    have this : i < (vKs (aQ S)).length := this
    rw [A (m + 14) i (by unfold Tw; omega) (by omega)]; exact d4 i k hk
  · have hk : k < aR S := hk
    rw [A (m + 12) (16 * k + r) (by unfold Tw; omega) (by omega)]; exact r1 k hk hz r hr
  · rw [hi (m + 28) (by omega), hi (m + 29) (by omega), hi (m + 30) (by omega), hi (m + 31) (by omega), hi (m + 32) (by omega), hi (m + 33) (by omega)]
    exact j3 i e he
theorem m_store (C : MSH h m) (F : MF f m S) (W : WS S) : (yF (rdS S) = 0 → WPn (yN (rdS S)) (spl (vXs (yN (rdS S))) [])) ∧ ∃ f' g', ev M_Mo_store 0 0 [some (.ref m), none] [] (wI h f) = some (some (.int (sStore S)), wI (wL h g') f') ∧ MF f' m (uStore S) ∧ Fr m (m + 39) f f' ∧ ∀ a, a < m ∨ m + 39 ≤ a → g' a = hL h a := by
  have mc := C.1
  have ar2 : hR h m 12 = some (m + 2) := (C.2 1 (by decide)).1
  have an2 : hN h (m + 2) = 2 := (C.2 1 (by decide)).2.1
  have ac2 : hC h (m + 2) = 20 := (C.2 1 (by decide)).2.2
  have ar3 : hR h m 13 = some (m + 3) := (C.2 2 (by decide)).1
  have an3 : hN h (m + 3) = 2 := (C.2 2 (by decide)).2.1
  have ac3 : hC h (m + 3) = 20 := (C.2 2 (by decide)).2.2
  have ar4 : hR h m 14 = some (m + 4) := (C.2 3 (by decide)).1
  have an4 : hN h (m + 4) = 2 := (C.2 3 (by decide)).2.1
  have ac4 : hC h (m + 4) = 20 := (C.2 3 (by decide)).2.2
  have ar5 : hR h m 15 = some (m + 5) := (C.2 4 (by decide)).1
  have an5 : hN h (m + 5) = 2 := (C.2 4 (by decide)).2.1
  have ac5 : hC h (m + 5) = 20 := (C.2 4 (by decide)).2.2
  have ar6 : hR h m 16 = some (m + 6) := (C.2 5 (by decide)).1
  have an6 : hN h (m + 6) = 2 := (C.2 5 (by decide)).2.1
  have ac6 : hC h (m + 6) = 20 := (C.2 5 (by decide)).2.2
  have ar7 : hR h m 17 = some (m + 7) := (C.2 6 (by decide)).1
  have an7 : hN h (m + 7) = 2 := (C.2 6 (by decide)).2.1
  have ac7 : hC h (m + 7) = 20 := (C.2 6 (by decide)).2.2
  have ar9 : hR h m 19 = some (m + 9) := (C.2 8 (by decide)).1
  have an9 : hN h (m + 9) = 10 := (C.2 8 (by decide)).2.1
  have ac9 : hC h (m + 9) = 20 := (C.2 8 (by decide)).2.2
  have ar10 : hR h m 20 = some (m + 10) := (C.2 9 (by decide)).1
  have an10 : hN h (m + 10) = 10 := (C.2 9 (by decide)).2.1
  have ac10 : hC h (m + 10) = 20 := (C.2 9 (by decide)).2.2
  have ar11 : hR h m 21 = some (m + 11) := (C.2 10 (by decide)).1
  have an11 : hN h (m + 11) = 10 := (C.2 10 (by decide)).2.1
  have ac11 : hC h (m + 11) = 20 := (C.2 10 (by decide)).2.2
  have ar12 : hR h m 22 = some (m + 12) := (C.2 11 (by decide)).1
  have an12 : hN h (m + 12) = 160 := (C.2 11 (by decide)).2.1
  have ac12 : hC h (m + 12) = 20 := (C.2 11 (by decide)).2.2
  have ar13 : hR h m 23 = some (m + 13) := (C.2 12 (by decide)).1
  have an13 : hN h (m + 13) = 520 := (C.2 12 (by decide)).2.1
  have ac13 : hC h (m + 13) = 20 := (C.2 12 (by decide)).2.2
  have ar14 : hR h m 24 = some (m + 14) := (C.2 13 (by decide)).1
  have an14 : hN h (m + 14) = 660 := (C.2 13 (by decide)).2.1
  have ac14 : hC h (m + 14) = 20 := (C.2 13 (by decide)).2.2
  have rd := mr_readAll (Q := fun v e => v = none ∧ ∃ f' g', e = wI (wL h g') f' ∧ (∀ a i, ¬ Tw m a i → ¬ (a = m ∧ (i = 1 ∨ i = 2)) → f' a i = f a i) ∧ f' m 1 = nI 0 ∧ (∀ a, a ≠ m → a ≠ m + 8 → g' a = hL h a) ∧ ((yF (rdS S) = 0 ∧ ∃ cx, LI (aN S) cx (rdS S) ∧ LM f' g' m (aT S) (aN S) cx (rdS S)) ∨ (yF (rdS S) ≠ 0 ∧ RE f' g' f' g' m (yF (rdS S)) (yP (rdS S))))) (g := hL h) C W.1.2 W.1.1 F.1.1 F.1.2 (fun f' g' a b c d => ⟨rfl, f', g', rfl, a, b, c, d⟩)
  obtain ⟨v, hh, e1, e2, f3, g3, e3, A, B, Gc, D⟩ := rd
  subst e2; subst e3
  have e1 : ev M_Mo_readAll 0 0 [some (.ref m)] [] (wI h f) = some (none, wI (wL h g3) f3) := e1
  have frm : ∀ a, a < m ∨ m + 39 ≤ a → f3 a = f a := fun a ha => funext fun i => A a i (by unfold Tw; omega) (by omega)
  unfold sStore uStore
  generalize rdS S = t at *
  rcases D with ⟨y1, cx, L, M⟩ | ⟨y1, y2⟩
  · rw [if_pos y1, if_pos y1]
    obtain ⟨⟨O, dp, R⟩, ⟨q2, q3, q4, q5, qk⟩, FG⟩ := M
    have ecx := spl_cx L.2.2.2.2.2.2
    rw [ecx]
    refine ⟨fun _ => L.W, ?_⟩
    have WP := L.W
    have n5 := L.2.2.1.2.1
    have m7 := R.2.1
    have m8 := R.2.2.1
    obtain ⟨X1, X2⟩ := R.2.2.2.2.2.1
    obtain ⟨K1, K2⟩ := R.2.2.2.2.2.2.1
    obtain ⟨U1, -⟩ := R.2.2.2.2.2.2.2.1
    have lk : (vKs (yN t)).length ≤ 320 := WP.1.2.2.2.2.2.2.2.2.1.1
    have lx : (fxs (vXs (yN t))).length ≤ 256 := Nat.le_trans (fxs_n _) WP.1.2.2.2.2.2.2.2.2.2.1.1
    generalize hf4 : up2 (up2 f3 m 9 (nI 0)) m 10 (mI 1) = f4 at *
    have o4 : ∀ a, a ≠ m → f4 a = f3 a := fun a ha => by rw [← hf4, up2_a ha, up2_a ha]
    obtain ⟨h2, a2, b2, -, d2⟩ := mr_half (h := h) (g := g3) (f := f4) (r := m + 2) (n := 1) ac2 an2 rfl (by decide)
    obtain ⟨h3, a3, b3, -, d3⟩ := mr_half (h := h) (g := g3) (f := h2) (r := m + 3) (n := 1) ac3 an3 rfl (by decide)
    obtain ⟨h4, a4, b4, -, d4⟩ := mr_half (h := h) (g := g3) (f := h3) (r := m + 4) (n := 1) ac4 an4 rfl (by decide)
    obtain ⟨h5, a5, b5, -, d5⟩ := mr_half (h := h) (g := g3) (f := h4) (r := m + 5) (n := 1) ac5 an5 rfl (by decide)
    obtain ⟨h6, a6, b6, -, d6⟩ := mr_half (h := h) (g := g3) (f := h5) (r := m + 6) (n := 1) ac6 an6 rfl (by decide)
    obtain ⟨h7, a7, b7, -, d7⟩ := mr_half (h := h) (g := g3) (f := h6) (r := m + 7) (n := 1) ac7 an7 rfl (by decide)
    obtain ⟨h9, a9, b9, -, d9⟩ := mr_half (h := h) (g := g3) (f := h7) (r := m + 9) (n := 5) ac9 an9 rfl (by decide)
    obtain ⟨h10, a10, b10, -, d10⟩ := mr_half (h := h) (g := g3) (f := h9) (r := m + 10) (n := 5) ac10 an10 rfl (by decide)
    obtain ⟨h11, a11, b11, -, d11⟩ := mr_half (h := h) (g := g3) (f := h10) (r := m + 11) (n := 5) ac11 an11 rfl (by decide)
    obtain ⟨h12, a12, b12, -, d12⟩ := mr_half (h := h) (g := g3) (f := h11) (r := m + 12) (n := 80) ac12 an12 rfl (by decide)
    obtain ⟨h13, a13, b13, -, d13⟩ := mr_half (h := h) (g := g3) (f := h12) (r := m + 13) (n := 260) ac13 an13 rfl (by decide)
    obtain ⟨h14, a14, b14, -, d14⟩ := mr_half (h := h) (g := g3) (f := h13) (r := m + 14) (n := 330) ac14 an14 rfl (by decide)
    have w2 : h14 (m + 2) 0 = nI (vLv (yN t)) := by simp (disch := omega) only [d3, d4, d5, d6, d7, d9, d10, d11, d12, d13, d14]; rw [b2 0 (by decide), o4 _ (by omega)]; exact q2
    have w3 : h14 (m + 3) 0 = nI (vNr (yN t)) := by simp (disch := omega) only [d4, d5, d6, d7, d9, d10, d11, d12, d13, d14]; rw [b3 0 (by decide), d2 _ (by omega), o4 _ (by omega)]; exact q3
    have w4 : h14 (m + 4) 0 = nI (vDr (yN t)) := by simp (disch := omega) only [d5, d6, d7, d9, d10, d11, d12, d13, d14]; rw [b4 0 (by decide), d3 _ (by omega), d2 _ (by omega), o4 _ (by omega)]; exact q4
    have w5 : h14 (m + 5) 0 = nI (vDw (yN t)) := by simp (disch := omega) only [d6, d7, d9, d10, d11, d12, d13, d14]; rw [b5 0 (by decide), d4 _ (by omega), d3 _ (by omega), d2 _ (by omega), o4 _ (by omega)]; exact q5
    have w6 : h14 (m + 6) 0 = nI (vKs (yN t)).length := by simp (disch := omega) only [d7, d9, d10, d11, d12, d13, d14]; rw [b6 0 (by decide), d5 _ (by omega), d4 _ (by omega), d3 _ (by omega), d2 _ (by omega), o4 _ (by omega)]; exact K1
    have w7 : h14 (m + 7) 0 = nI (vUn (yN t)) := by simp (disch := omega) only [d9, d10, d11, d12, d13, d14]; rw [b7 0 (by decide), d6 _ (by omega), d5 _ (by omega), d4 _ (by omega), d3 _ (by omega), d2 _ (by omega), o4 _ (by omega)]; exact U1
    have w9 : ∀ k, k < 5 → h14 (m + 9) k = f3 (m + 9) (5 + k) := fun k hk => by simp (disch := omega) only [d10, d11, d12, d13, d14]; rw [b9 k hk, d7 _ (by omega), d6 _ (by omega), d5 _ (by omega), d4 _ (by omega), d3 _ (by omega), d2 _ (by omega), o4 _ (by omega)]
    have w10 : ∀ k, k < 5 → h14 (m + 10) k = f3 (m + 10) (5 + k) := fun k hk => by simp (disch := omega) only [d11, d12, d13, d14]; rw [b10 k hk, d9 _ (by omega), d7 _ (by omega), d6 _ (by omega), d5 _ (by omega), d4 _ (by omega), d3 _ (by omega), d2 _ (by omega), o4 _ (by omega)]
    have w11 : ∀ k, k < 5 → h14 (m + 11) k = f3 (m + 11) (5 + k) := fun k hk => by simp (disch := omega) only [d12, d13, d14]; rw [b11 k hk, d10 _ (by omega), d9 _ (by omega), d7 _ (by omega), d6 _ (by omega), d5 _ (by omega), d4 _ (by omega), d3 _ (by omega), d2 _ (by omega), o4 _ (by omega)]
    have w12 : ∀ k, k < 80 → h14 (m + 12) k = f3 (m + 12) (80 + k) := fun k hk => by simp (disch := omega) only [d13, d14]; rw [b12 k hk, d11 _ (by omega), d10 _ (by omega), d9 _ (by omega), d7 _ (by omega), d6 _ (by omega), d5 _ (by omega), d4 _ (by omega), d3 _ (by omega), d2 _ (by omega), o4 _ (by omega)]
    have w13 : ∀ k, k < 260 → h14 (m + 13) k = f3 (m + 13) (260 + k) := fun k hk => by rw [d14 _ (by omega), b13 k hk, d12 _ (by omega), d11 _ (by omega), d10 _ (by omega), d9 _ (by omega), d7 _ (by omega), d6 _ (by omega), d5 _ (by omega), d4 _ (by omega), d3 _ (by omega), d2 _ (by omega), o4 _ (by omega)]
    have w14 : ∀ k, k < 330 → h14 (m + 14) k = f3 (m + 14) (330 + k) := fun k hk => by rw [b14 k hk, d13 _ (by omega), d12 _ (by omega), d11 _ (by omega), d10 _ (by omega), d9 _ (by omega), d7 _ (by omega), d6 _ (by omega), d5 _ (by omega), d4 _ (by omega), d3 _ (by omega), d2 _ (by omega), o4 _ (by omega)]
    have wo : ∀ a, a ≤ m ∨ m + 14 < a → h14 a = f4 a := fun a ha => by simp (disch := omega) only [d2, d3, d4, d5, d6, d7, d9, d10, d11, d12, d13, d14]
    have told : ∀ k, k < vNr (yN t) → (vTd (yN t)).testBit k = true → RF h14 (m + 12) (16 * k) (vGr (yN t) k) := fun k hk hb r hr => by
      rw [w12 _ (by omega), ← Nat.add_assoc]; exact (qk k hk).2.2.2 hb r hr
    obtain ⟨hn, na, nb, nc, n36, n37, n57, n50, no, ns⟩ := mr_now (g := g3) (nr := vNr (yN t)) (td := vTd (yN t)) (dw := vDw (yN t)) (G := vGr (yN t)) C n5 (fun k hk => by rw [w9 k (by omega)]; exact (qk k hk).2.1) w3 w5 told
    have th := mr_there (f := hn) (g := g3) (nr := vNr (yN t)) (Q := fun v e => v = some (Value.int (nI (vNr (yN t)))) ∧ ∃ f', e = wI (wL h g3) f' ∧ (∀ j, j < 3 → f' (m + 38) j = nI 0) ∧ ∀ a, a ≠ m + 38 → f' a = hn a) C n5 (by rw [no _ (by omega) (by omega)]; exact w3) (fun f' a b => ⟨rfl, f', rfl, a, b⟩)
    obtain ⟨v, hh, t1, t2, f', t3, t4, t5⟩ := th
    subst t2; subst t3
    have go := na _ (wp_of (Q := fun a e => a = some (Value.int (nI (vNr (yN t)))) ∧ e = wI (wL h g3) f') t1 ⟨rfl, rfl⟩)
    have z4 : ∀ k, k ≠ 9 → k ≠ 10 → f4 m k = f3 m k := fun k k1 k2 => by rw [← hf4, up2_k k2, up2_k k1]
    have v9 : f4 m 9 = nI 0 := by rw [← hf4, up2_k (by decide), up2_s]
    have v10 : f4 m 10 = mI 1 := by rw [← hf4, up2_s]
    have fo : ∀ a, m + 1 < a → a < m + 15 → f' a = h14 a := fun a u1 u2 => by rw [t5 _ (by omega), no _ (by omega) (by omega)]
    have fs : ∀ k, k ≠ 36 → k ≠ 37 → k ≠ 57 → k ≠ 50 → f' m k = f4 m k := fun k u1 u2 u3 u4 => by rw [t5 _ (by omega), ns k u1 u2 u3 u4, wo m (by omega)]
    refine ⟨f', g3, wp_e ?_, ?_, fun a ha => ?_, fun a ha => Gc a (by omega) (by omega)⟩
    · rw [r_Mo_store_0]
      refine wp_isC mc (wp_rVe e1 (wp_isC mc (wp_isC mc ?_)))
      rw [wI_I, m7, wI_s]
      refine wp_isC mc (wp_isC mc ?_)
      rw [wI_I, up2_k (by decide), m8, wI_s, hf4]
      refine wp_isC mc ?_
      rw [wI_I, z4 _ (by decide) (by decide), m7]
      refine wp_bf (by decide) ?_
      refine wp_isC mc (wp_nnR ar2 (wp_rVe a2 ?_))
      refine wp_isC mc (wp_nnR ar3 (wp_rVe a3 ?_))
      refine wp_isC mc (wp_nnR ar4 (wp_rVe a4 ?_))
      refine wp_isC mc (wp_nnR ar5 (wp_rVe a5 ?_))
      refine wp_isC mc (wp_nnR ar6 (wp_rVe a6 ?_))
      refine wp_isC mc (wp_nnR ar7 (wp_rVe a7 ?_))
      refine wp_isC mc (wp_nnR ar9 (wp_rVe a9 ?_))
      refine wp_isC mc (wp_nnR ar10 (wp_rVe a10 ?_))
      refine wp_isC mc (wp_nnR ar11 (wp_rVe a11 ?_))
      refine wp_isC mc (wp_nnR ar12 (wp_rVe a12 ?_))
      refine wp_isC mc (wp_nnR ar13 (wp_rVe a13 ?_))
      exact wp_isC mc (wp_nnR ar14 (wp_rVe a14 go))
    · refine ⟨⟨by rw [fs _ (by decide) (by decide) (by decide) (by decide), z4 _ (by decide) (by decide)]; exact B, fun i hi => absurd hi (Nat.not_lt_zero i)⟩, ⟨by rw [fs _ (by decide) (by decide) (by decide) (by decide)]; exact v9, by rw [fs _ (by decide) (by decide) (by decide) (by decide)]; exact v10⟩, ⟨by rw [fo _ (by omega) (by omega)]; exact w2, by rw [fo _ (by omega) (by omega)]; exact w3, fun k hk => ?_, fun k hk => ?_⟩, ⟨by rw [fo _ (by omega) (by omega)]; exact w4, by rw [fo _ (by omega) (by omega)]; exact w6, by rw [fo _ (by omega) (by omega)]; exact w7, fun i k hk => ?_⟩, fun k hk hz r hr => ?_, fun i hi => ?_, ⟨by rw [t5 _ (by omega)]; exact n36, by rw [t5 _ (by omega)]; exact n37, fun k i hk hi => absurd hk (Nat.not_lt_zero k)⟩, ⟨by rw [t5 _ (by omega)]; exact n50, fun i e he => (by cases he)⟩, ⟨by rw [t5 _ (by omega)]; exact n57, ?_, fun i e he => (by cases he)⟩, fun b hb => ⟨t4 b hb, fun s hs => (by cases hs)⟩⟩
      · have hk : k < vNr (yN t) := hk
        rw [fo _ (by omega) (by omega), w9 k (by omega)]; exact (qk k hk).2.1
      · have hk : k < vNr (yN t) := hk
        obtain ⟨o, o1, o2, o3, o4'⟩ := (qk k hk).2.2.1
        have oc := L.2.2.2.2.2.2.2.2 k
        have el : (if (vTd (yN t)).testBit k then 0 else (cx k).length) = (cx k).length := by
          cases z : (vTd (yN t)).testBit k with
          | false => rfl
          | true =>
            rw [oc (fun w => by rw [z] at w; cases w.2)]; rfl
        refine ⟨o, by rw [fo _ (by omega) (by omega), w10 k (by omega)]; exact o1, ?_, ?_, fun z i c hc => ?_⟩
        · show f' (m + 11) k = nI (if (vTd (yN t)).testBit k then 0 else (cx k).length)
          rw [el, fo _ (by omega) (by omega), w11 k (by omega)]; exact o2
        · show o + (if (vTd (yN t)).testBit k then 0 else (cx k).length) ≤ 260
          rw [el]; omega
        · have hc : (cx k)[i]? = some c := hc
          have := o4' i c hc
          have l1 := (List.getElem?_eq_some_iff.mp this).1
          rw [fo _ (by omega) (by omega), w13 _ (by omega)]; exact X2 (o + i) c this
      · have hk : (vKs (yN t))[i]? = some k := hk
        have l1 := (List.getElem?_eq_some_iff.mp hk).1
        rw [fo _ (by omega) (by omega), w14 i (by omega)]; exact K2 i k hk
      · have hk : k < vNr (yN t) := hk
        rw [fo _ (by omega) (by omega)]; exact told k hk hz r hr
      · show f' (m + 16) i = nI (sv (iA (yN t), vDw (yN t)) i)
        rw [t5 _ (by omega)]
        unfold sv
        by_cases e : i < 80
        · rw [if_pos e, nb i e]
          show nI _ = nI ((if (vTd (yN t)).testBit (i / 16) then vGr (yN t) (i / 16) else fun _ => 0) (i % 16))
          cases z : (vTd (yN t)).testBit (i / 16) with
          | false => rw [if_neg (fun w => by cases w.2), if_neg (by decide)]
          | true =>
            have hk : i / 16 < vNr (yN t) := by
              by_cases w : i / 16 < vNr (yN t)
              · exact w
              · have := Nat.testBit_lt_two_pow (x := vTd (yN t)) (i := i / 16) (Nat.lt_of_lt_of_le L.2.2.1.2.2.1 (Nat.pow_le_pow_right (by decide) (by omega)))
                rw [this] at z; cases z
            rw [if_pos ⟨hk, rfl⟩, if_pos rfl]
        · rw [if_neg e, show i = 80 by omega]; exact nc
      · show f' m 58 = nI (aM S)
        rw [fs _ (by decide) (by decide) (by decide) (by decide), z4 _ (by decide) (by decide), A m 58 (by unfold Tw; omega) (by omega)]
        exact F.2.2.2.2.2.2.2.2.1.2.1
    · rw [t5 _ (by omega), no _ (by omega) (by omega), wo _ (by omega), o4 _ (by omega)]; exact frm a ha
  · rw [if_neg y1, if_neg y1]
    refine ⟨fun w => absurd w y1, ?_⟩
    have m7 := y2.1
    have m8 := y2.2.2.1
    have cp := y2.2.1
    refine ⟨up2 (up2 f3 m 9 (nI (yF t))) m 10 (nI (yP t)), g3, wp_e ?_, ?_, fun a ha => by rw [up2_a (by omega), up2_a (by omega)]; exact frm a ha, fun a ha => Gc a (by omega) (by omega)⟩
    · rw [r_Mo_store_0]
      refine wp_isC mc (wp_rVe e1 (wp_isC mc (wp_isC mc ?_)))
      rw [wI_I, m7, wI_s]
      refine wp_isC mc (wp_isC mc ?_)
      rw [wI_I, up2_k (by decide), m8, wI_s]
      refine wp_isC mc ?_
      rw [wI_I, up2_k (by decide), up2_k (by decide), m7]
      exact wp_bt (by rw [nI_ltI (by decide) (by omega)]; exact cp.1) (wp_s ⟨rfl, rfl⟩)
    · refine MF_fail F W (fun a i u1 u2 => ?_) (by rw [up2_k (by decide), up2_k (by decide)]; exact B) (by rw [up2_k (by decide), up2_s]) up2_s
      by_cases e : a = m
      · subst e
        rw [up2_k (by omega), up2_k (by omega)]; exact A a i u1 (by omega)
      · rw [up2_a e, up2_a e]; exact A a i u1 (by omega)
end
