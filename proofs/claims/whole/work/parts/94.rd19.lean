/-! The plain form: a text stored, put together. -/
/-- the cells as reading begins -/
def rA (f : Nat → Nat → Int32) (m : Nat) (n : Int32) : Nat → Nat → Int32 := up2 (up2 (up2 (up2 (up2 (up2 (up2 (up2 (up2 (up2 (up2 (up2 (up2 (up2 (up2 (up2 (up2 f m 2 n) m 1 (nI 0)) m 3 (nI 0)) m 7 (nI 0)) m 8 (mI 1)) (m + 2) 1 (nI 3)) (m + 3) 1 (nI 0)) (m + 4) 1 (nI 0)) (m + 5) 1 (nI 0)) (m + 6) 1 (nI 0)) (m + 7) 1 (nI 0)) m 25 (nI 0)) m 26 (nI 0)) m 27 (nI 0)) m 28 (nI 0)) m 29 (nI 0)) m 30 (nI 0)
section
variable {h : MH} {f f0 : Nat → Nat → Int32} {g g0 : Nat → Nat → Int64} {m : Nat} {b : Nat → Nat} {len : Nat} {s : Ps} {cx : Nat → List Nat} {S : Abs}
theorem LI_0 : LI len (fun _ => []) Ps0 := by
  refine ⟨⟨rfl, Nat.zero_le _⟩, ⟨by decide, by decide⟩, ⟨by decide, by decide, by decide, by decide, by decide⟩, fun k hk => absurd hk (Nat.not_lt_zero k), fun k hk => absurd hk (Nat.not_lt_zero k), Or.inl ⟨rfl, rfl⟩, rfl, fun k hk => absurd hk (Nat.not_lt_zero k), fun _ _ => rfl⟩
theorem mr_readAll {Q : Option Value → MH → Prop} (C : MSH h m) (hb : ∀ i, b i < 256) (hl : len ≤ 1600) (f1 : f m 1 = nI len) (ft : ∀ i, i < len → f (m + 1) i = nI (b i)) (K : ∀ f' g', (∀ a i, ¬ Tw m a i → ¬ (a = m ∧ (i = 1 ∨ i = 2)) → f' a i = f a i) → f' m 1 = nI 0 → (∀ a, a ≠ m → a ≠ m + 8 → g' a = g a) → ((yF (cRead b len) = 0 ∧ ∃ cx, LI len cx (cRead b len) ∧ LM f' g' m b len cx (cRead b len)) ∨ (yF (cRead b len) ≠ 0 ∧ RE f' g' f' g' m (yF (cRead b len)) (yP (cRead b len)))) → Q none (wI (wL h g') f')) : wp (ev M_Mo_readAll 0 0 [some (.ref m)] [] (wI (wL h g) f)) Q := by
  have mc := C.1
  have ar2 : hR h m 12 = some (m + 2) := (C.2 1 (by decide)).1
  have an2 : hN h (m + 2) = 2 := (C.2 1 (by decide)).2.1
  have ac2 : hC h (m + 2) = 20 := (C.2 1 (by decide)).2.2
  have ar3 : hR h m 13 = some (m + 3) := (C.2 2 (by decide)).1
  have an3 : hN h (m + 3) = 2 := (C.2 2 (by decide)).2.1
  have ac3 : hC h (m + 3) = 20 := (C.2 2 (by decide)).2.2
  have ar4 : hR h m 14 = some (m + 4) := (C.2 3 (by decide)).1
  have an4 : hN h (m + 4) = 2 := (C.2 3 (by decide)).2.1
  have ac4 : hC h (m + 4) = 20 := (C.2 3 (by decide)).2.2
  have ar5 : hR h m 15 = some (m + 5) := (C.2 4 (by decide)).1
  have an5 : hN h (m + 5) = 2 := (C.2 4 (by decide)).2.1
  have ac5 : hC h (m + 5) = 20 := (C.2 4 (by decide)).2.2
  have ar6 : hR h m 16 = some (m + 6) := (C.2 5 (by decide)).1
  have an6 : hN h (m + 6) = 2 := (C.2 5 (by decide)).2.1
  have ac6 : hC h (m + 6) = 20 := (C.2 5 (by decide)).2.2
  have ar7 : hR h m 17 = some (m + 7) := (C.2 6 (by decide)).1
  have an7 : hN h (m + 7) = 2 := (C.2 6 (by decide)).2.1
  have ac7 : hC h (m + 7) = 20 := (C.2 6 (by decide)).2.2
  have c1 : (nI 1).toNatClampNeg = 1 := rfl
  have kA : ∀ {k : Nat}, k ≠ 1 → k ≠ 2 → k ≠ 3 → k ≠ 7 → k ≠ 8 → k < 25 ∨ 30 < k → rA f m (nI len) m k = f m k := fun {k} h1 h2 h3 h4 h5 h6 => by unfold rA; simp (disch := omega) only [up2_a, up2_k, up2_s]
  have aA : ∀ {a : Nat}, a < m ∨ a = m + 1 ∨ m + 7 < a → rA f m (nI len) a = f a := fun {a} ha => by unfold rA; simp (disch := omega) only [up2_a, up2_k, up2_s]
  have bA : ∀ {a i : Nat}, m + 2 ≤ a → a ≤ m + 7 → i ≠ 1 → rA f m (nI len) a i = f a i := fun {a i} h1 h2 h3 => by
    have : a = m + 2 ∨ a = m + 3 ∨ a = m + 4 ∨ a = m + 5 ∨ a = m + 6 ∨ a = m + 7 := by omega
    rcases this with e | e | e | e | e | e <;> subst e <;> (unfold rA; simp (disch := omega) only [up2_a, up2_k, up2_s])
  have v2 : rA f m (nI len) m 2 = nI len := by unfold rA; simp (disch := omega) only [up2_a, up2_k, up2_s]
  have v1 : rA f m (nI len) m 1 = nI 0 := by unfold rA; simp (disch := omega) only [up2_a, up2_k, up2_s]
  have v3 : rA f m (nI len) m 3 = nI 0 := by unfold rA; simp (disch := omega) only [up2_a, up2_k, up2_s]
  have v7 : rA f m (nI len) m 7 = nI 0 := by unfold rA; simp (disch := omega) only [up2_a, up2_k, up2_s]
  have v8 : rA f m (nI len) m 8 = mI 1 := by unfold rA; simp (disch := omega) only [up2_a, up2_k, up2_s]
  have v25 : rA f m (nI len) m 25 = nI 0 := by unfold rA; simp (disch := omega) only [up2_a, up2_k, up2_s]
  have v26 : rA f m (nI len) m 26 = nI 0 := by unfold rA; simp (disch := omega) only [up2_a, up2_k, up2_s]
  have v27 : rA f m (nI len) m 27 = nI 0 := by unfold rA; simp (disch := omega) only [up2_a, up2_k, up2_s]
  have v28 : rA f m (nI len) m 28 = nI 0 := by unfold rA; simp (disch := omega) only [up2_a, up2_k, up2_s]
  have v29 : rA f m (nI len) m 29 = nI 0 := by unfold rA; simp (disch := omega) only [up2_a, up2_k, up2_s]
  have v30 : rA f m (nI len) m 30 = nI 0 := by unfold rA; simp (disch := omega) only [up2_a, up2_k, up2_s]
  have x2 : rA f m (nI len) (m + 2) 1 = nI 3 := by unfold rA; simp (disch := omega) only [up2_a, up2_k, up2_s]
  have x3 : rA f m (nI len) (m + 3) 1 = nI 0 := by unfold rA; simp (disch := omega) only [up2_a, up2_k, up2_s]
  have x4 : rA f m (nI len) (m + 4) 1 = nI 0 := by unfold rA; simp (disch := omega) only [up2_a, up2_k, up2_s]
  have x5 : rA f m (nI len) (m + 5) 1 = nI 0 := by unfold rA; simp (disch := omega) only [up2_a, up2_k, up2_s]
  have x6 : rA f m (nI len) (m + 6) 1 = nI 0 := by unfold rA; simp (disch := omega) only [up2_a, up2_k, up2_s]
  have x7 : rA f m (nI len) (m + 7) 1 = nI 0 := by unfold rA; simp (disch := omega) only [up2_a, up2_k, up2_s]
  have B : MB (rA f m (nI len)) m b len := ⟨v2, hl, hb, fun i hi => by rw [aA (by omega)]; exact ft i hi⟩
  obtain ⟨f2, g2, a2, t2, G2⟩ := mo_goOn (g := g) C B (Nat.zero_le _) v3
  obtain ⟨G1, G3, G4⟩ := G2
  have M0 : LM f2 g2 m b len (fun _ => []) Ps0 := by
    refine ⟨⟨[], 0, ?_⟩, ?_, ?_⟩
    · exact ⟨B.c (G3 _ (by decide)) (G1 _ (by omega)), by rw [G3 _ (by decide)]; exact v7, by rw [G3 _ (by decide)]; exact v8, ⟨Nat.zero_le _, t2⟩, True.intro, ⟨by rw [G3 _ (by decide)]; exact v25, fun i c hc => (by cases hc)⟩, ⟨by rw [G1 _ (by omega)]; exact x6, fun i c hc => (by cases hc)⟩, ⟨by rw [G1 _ (by omega)]; exact x7, by rw [G3 _ (by decide)]; exact v26⟩, FR.rf⟩
    · exact ⟨by rw [G1 _ (by omega)]; exact x2, by rw [G1 _ (by omega)]; exact x3, by rw [G1 _ (by omega)]; exact x4, by rw [G1 _ (by omega)]; exact x5, fun k hk => absurd hk (Nat.not_lt_zero k)⟩
    · exact ⟨by rw [G3 _ (by decide)]; exact v27, by rw [G3 _ (by decide)]; exact v28, by rw [G3 _ (by decide)]; exact v29, by rw [G3 _ (by decide)]; exact v30⟩
  obtain ⟨v, hh, e1, e2, f3, g3, e3, T3, r3⟩ := mr_lines C hl 1600 Ps0 f2 g2 (fun _ => []) LI_0 M0 (by show len ≤ 0 + 1600; omega)
  subst e2; subst e3
  have Kq := K f3 g3 (fun a i h1 h2 => by
    rw [T3.1 a i h1]
    unfold Tw at h1
    by_cases e : a = m
    · subst e
      rw [G3 i (by omega), kA (by omega) (by omega) (by omega) (by omega) (by omega) (by omega)]
    · rw [G1 a e]
      by_cases e2 : m + 2 ≤ a ∧ a ≤ m + 7
      · exact bA e2.1 e2.2 (by omega)
      · rw [aA (by omega)]) (by rw [T3.1 m 1 (by unfold Tw; omega), G3 _ (by decide)]; exact v1) (fun a h1 h2 => by rw [T3.2 a h1 h2, G4 a h1]) r3
  rw [r_Mo_readAll_0]
  refine wp_isC mc (wp_isC mc ?_)
  rw [wI_I, f1, wI_s]
  refine wp_isC mc ?_
  rw [wI_s]
  refine wp_isC mc ?_
  rw [wI_s]
  refine wp_isC mc ?_
  rw [wI_s]
  refine wp_isC mc ?_
  rw [wI_s]
  refine wp_isC mc (wp_nnR ar2 (wp_isC ac2 (wp_inA (n := 1) an2 rfl (by decide) (by decide) ?_)))
  rw [c1, wI_s]
  refine wp_isC mc (wp_nnR ar3 (wp_isC ac3 (wp_inA (n := 1) an3 rfl (by decide) (by decide) ?_)))
  rw [wI_s]
  refine wp_isC mc (wp_nnR ar4 (wp_isC ac4 (wp_inA (n := 1) an4 rfl (by decide) (by decide) ?_)))
  rw [wI_s]
  refine wp_isC mc (wp_nnR ar5 (wp_isC ac5 (wp_inA (n := 1) an5 rfl (by decide) (by decide) ?_)))
  rw [wI_s]
  refine wp_isC mc (wp_nnR ar6 (wp_isC ac6 (wp_inA (n := 1) an6 rfl (by decide) (by decide) ?_)))
  rw [wI_s]
  refine wp_isC mc (wp_nnR ar7 (wp_isC ac7 (wp_inA (n := 1) an7 rfl (by decide) (by decide) ?_)))
  rw [wI_s]
  refine wp_isC mc ?_
  rw [wI_s]
  refine wp_isC mc ?_
  rw [wI_s]
  refine wp_isC mc (wp_isZ (by decide) ?_)
  rw [wI_s]
  refine wp_isC mc (wp_isZ (by decide) ?_)
  rw [wI_s]
  refine wp_isC mc (wp_isZ (by decide) ?_)
  rw [wI_s]
  refine wp_isC mc (wp_isZ (by decide) ?_)
  rw [wI_s]
  exact wp_isC mc (wp_rVe a2 (wp_of e1 Kq))
/-- the told ones' rows as they are at first -/
theorem mr_now {nr td dw : Nat} {G : Nat → Rw} (C : MSH h m) (hn : nr ≤ 5) (f9 : ∀ k, k < nr → f (m + 9) k = nI (td.testBit k).toNat) (f3 : f (m + 3) 0 = nI nr) (f5 : f (m + 5) 0 = nI dw) (fr : ∀ k, k < nr → td.testBit k = true → RF f (m + 12) (16 * k) (G k)) : ∃ f', (∀ Q : Option Value → MH → Prop, wp (ev M_Mo_store 0 110 [some (.ref m), some (.int (nI 0))] [] (wI (wL h g) f')) Q → wp (ev M_Mo_store 0 54 [some (.ref m), some (.int (nI 0))] [] (wI (wL h g) f)) Q) ∧ (∀ i, i < 80 → f' (m + 16) i = nI (if i / 16 < nr ∧ td.testBit (i / 16) = true then G (i / 16) (i % 16) else 0)) ∧ f' (m + 16) 80 = nI dw ∧ f' m 36 = nI 0 ∧ f' m 37 = nI 0 ∧ f' m 57 = nI 0 ∧ f' m 50 = nI 0 ∧ (∀ a, a ≠ m → a ≠ m + 16 → f' a = f a) ∧ ∀ k, k ≠ 36 → k ≠ 37 → k ≠ 57 → k ≠ 50 → f' m k = f m k := by
  have mc := C.1
  have ar3 : hR h m 13 = some (m + 3) := (C.2 2 (by decide)).1
  have an3 : hN h (m + 3) = 2 := (C.2 2 (by decide)).2.1
  have ac3 : hC h (m + 3) = 20 := (C.2 2 (by decide)).2.2
  have ar5 : hR h m 15 = some (m + 5) := (C.2 4 (by decide)).1
  have an5 : hN h (m + 5) = 2 := (C.2 4 (by decide)).2.1
  have ac5 : hC h (m + 5) = 20 := (C.2 4 (by decide)).2.2
  have ar9 : hR h m 19 = some (m + 9) := (C.2 8 (by decide)).1
  have an9 : hN h (m + 9) = 10 := (C.2 8 (by decide)).2.1
  have ac9 : hC h (m + 9) = 20 := (C.2 8 (by decide)).2.2
  have ar12 : hR h m 22 = some (m + 12) := (C.2 11 (by decide)).1
  have an12 : hN h (m + 12) = 160 := (C.2 11 (by decide)).2.1
  have ac12 : hC h (m + 12) = 20 := (C.2 11 (by decide)).2.2
  have ar16 : hR h m 34 = some (m + 16) := (C.2 15 (by decide)).1
  have an16 : hN h (m + 16) = 81 := (C.2 15 (by decide)).2.1
  have ac16 : hC h (m + 16) = 20 := (C.2 15 (by decide)).2.2
  have L : ∀ k j f1, j + k = 80 → (∀ a, a ≠ m + 16 → f1 a = f a) → (∀ i, i < j → f1 (m + 16) i = nI (if i / 16 < nr ∧ td.testBit (i / 16) = true then G (i / 16) (i % 16) else 0)) → ∃ f', (∀ Q : Option Value → MH → Prop, wp (ev M_Mo_store 0 110 [some (.ref m), some (.int (nI 0))] [] (wI (wL h g) f')) Q → wp (ev M_Mo_store 0 54 [some (.ref m), some (.int (nI j))] [] (wI (wL h g) f1)) Q) ∧ (∀ i, i < 80 → f' (m + 16) i = nI (if i / 16 < nr ∧ td.testBit (i / 16) = true then G (i / 16) (i % 16) else 0)) ∧ f' (m + 16) 80 = nI dw ∧ f' m 36 = nI 0 ∧ f' m 37 = nI 0 ∧ f' m 57 = nI 0 ∧ f' m 50 = nI 0 ∧ (∀ a, a ≠ m → a ≠ m + 16 → f' a = f a) ∧ ∀ k, k ≠ 36 → k ≠ 37 → k ≠ 57 → k ≠ 50 → f' m k = f m k := by
    intro k
    induction k with
    | zero =>
      intro j f1 hj h1 h2
      have : j = 80 := by omega
      subst this
      refine ⟨up2 (up2 (up2 (up2 (up2 f1 (m + 16) 80 (nI dw)) m 36 (nI 0)) m 37 (nI 0)) m 57 (nI 0)) m 50 (nI 0), fun Q w => ?_, fun i hi => ?_, ?_, ?_, ?_, ?_, ?_, fun a ha hb => ?_, fun k k1 k2 k3 k4 => ?_⟩
      · rw [r_Mo_store_54]
        refine wp_bf (by decide) (wp_isC mc (wp_nnR ar16 (wp_isC mc (wp_nnR ar5 (wp_isC ac5 (wp_inA (n := 0) an5 rfl (by decide) (by decide) (wp_isC ac16 (wp_inA (n := 80) an16 rfl (by decide) (by decide) ?_))))))))
        rw [nI_clamp (by decide), nI_clamp (by decide), wI_I, h1 _ (by omega), f5, wI_s]
        refine wp_isC mc ?_
        rw [wI_s]
        refine wp_isC mc ?_
        rw [wI_s]
        refine wp_isC mc ?_
        rw [wI_s]
        refine wp_isC mc ?_
        rw [wI_s]
        exact w
      · rw [up2_a (by omega), up2_a (by omega), up2_a (by omega), up2_a (by omega), up2_k (by omega)]; exact h2 i hi
      · rw [up2_a (by omega), up2_a (by omega), up2_a (by omega), up2_a (by omega), up2_s]
      · rw [up2_k (by decide), up2_k (by decide), up2_k (by decide), up2_s]
      · rw [up2_k (by decide), up2_k (by decide), up2_s]
      · rw [up2_k (by decide), up2_s]
      · rw [up2_s]
      · rw [up2_a ha, up2_a ha, up2_a ha, up2_a ha, up2_a hb]; exact h1 a hb
      · rw [up2_k k4, up2_k k3, up2_k k2, up2_k k1, up2_a (by omega)]; rw [h1 _ (by omega)]
    | succ k ih =>
      intro j f1 hj h1 h2
      obtain ⟨f', a1, a2⟩ := ih (j + 1) (up2 f1 (m + 16) j (nI (if j / 16 < nr ∧ td.testBit (j / 16) = true then G (j / 16) (j % 16) else 0))) (by omega) (fun a ha => by rw [up2_a ha]; exact h1 a ha) (fun i hi => by
        by_cases e : i = j
        · rw [e, up2_s]
        · rw [up2_k e]; exact h2 i (by omega))
      refine ⟨f', fun Q w => ?_, a2⟩
      have w := a1 Q w
      have dv : nI j / nI 16 = nI (j / 16) := pk_div (by omega) (by decide) (by decide)
      have p84 : ∀ v, v = nI (if j / 16 < nr ∧ td.testBit (j / 16) = true then G (j / 16) (j % 16) else 0) → wp (ev M_Mo_store 0 84 [some (.ref m), some (.int (nI j))] [(.int v), (.int (nI j)), (.ref (m + 16))] (wI (wL h g) f1)) Q := fun v hv => by
        rw [r_Mo_store_84]
        refine wp_isC ac16 (wp_inA an16 rfl (by omega) (by omega) ?_)
        rw [nI_clamp (by omega), wI_s, nI_add, hv]
        exact w
      have p82 : ¬ (j / 16 < nr ∧ td.testBit (j / 16) = true) → wp (ev M_Mo_store 0 82 [some (.ref m), some (.int (nI j))] [(.int (nI j)), (.ref (m + 16))] (wI (wL h g) f1)) Q := fun z => by
        rw [r_Mo_store_82]
        exact p84 _ (by rw [if_neg z])
      rw [r_Mo_store_54]
      refine wp_bt (by rw [nI_ltI (by omega) (by decide)]; omega) (wp_isC mc (wp_nnR ar16 (wp_isC mc (wp_nnR ar9 (wp_nz (by decide) (wp_isC ac9 ?_))))))
      rw [dv]
      refine wp_inA an9 rfl (by omega) (by omega) ?_
      rw [nI_clamp (by omega), wI_I, h1 (m + 9) (by omega)]
      by_cases z : j / 16 < nr
      · rw [f9 _ z]
        cases tb : td.testBit (j / 16) with
        | false => exact wp_bf (by decide) (p82 (fun y => by rw [tb] at y; cases y.2))
        | true =>
          refine wp_bt rfl (wp_nz (by decide) (wp_isC mc (wp_nnR ar3 (wp_isC ac3 (wp_inA (n := 0) an3 rfl (by decide) (by decide) ?_)))))
          rw [nI_clamp (by decide), h1 (m + 3) (by omega), f3]
          refine wp_bt (by rw [nI_ltI (by omega) (by omega)]; exact z) (wp_isC mc (wp_nnR ar12 (wp_isC ac12 (wp_inA an12 rfl (by omega) (by omega) ?_))))
          rw [nI_clamp (by omega), h1 (m + 12) (by omega)]
          refine p84 _ ?_
          rw [if_pos ⟨z, tb⟩]
          have := fr _ z tb (j % 16) (Nat.mod_lt _ (by decide))
          rw [← this]
          congr 1
          omega
      · refine wp_br (fun _ => wp_nz (by decide) (wp_isC mc (wp_nnR ar3 (wp_isC ac3 (wp_inA (n := 0) an3 rfl (by decide) (by decide) ?_))))) (fun _ => p82 (fun y => z y.1))
        rw [nI_clamp (by decide), h1 (m + 3) (by omega), f3]
        exact wp_bf (by rw [nI_ltI (by omega) (by omega)]; exact z) (p82 (fun y => z y.1))
  exact L 80 0 f (by omega) (fun _ _ => rfl) (fun i hi => by omega)
theorem mr_there {nr : Nat} {Q : Option Value → MH → Prop} (C : MSH h m) (hn : nr ≤ 5) (f3 : f (m + 3) 0 = nI nr) (K : ∀ f', (∀ j, j < 3 → f' (m + 38) j = nI 0) → (∀ a, a ≠ m + 38 → f' a = f a) → Q (some (.int (nI nr))) (wI (wL h g) f')) : wp (ev M_Mo_store 0 110 [some (.ref m), some (.int (nI 0))] [] (wI (wL h g) f)) Q := by
  have mc := C.1
  have ar3 : hR h m 13 = some (m + 3) := (C.2 2 (by decide)).1
  have an3 : hN h (m + 3) = 2 := (C.2 2 (by decide)).2.1
  have ac3 : hC h (m + 3) = 20 := (C.2 2 (by decide)).2.2
  have ar38 : hR h m 63 = some (m + 38) := (C.2 37 (by decide)).1
  have an38 : hN h (m + 38) = 3 := (C.2 37 (by decide)).2.1
  have ac38 : hC h (m + 38) = 23 := (C.2 37 (by decide)).2.2
  have L : ∀ k j f1, j + k = 3 → (∀ a, a ≠ m + 38 → f1 a = f a) → (∀ i, i < j → f1 (m + 38) i = nI 0) → wp (ev M_Mo_store 0 110 [some (.ref m), some (.int (nI j))] [] (wI (wL h g) f1)) Q := by
    intro k
    induction k with
    | zero =>
      intro j f1 hj h1 h2
      have : j = 3 := by omega
      subst this
      rw [r_Mo_store_110]
      refine wp_bf (by decide) (wp_isC mc (wp_nnR ar3 (wp_isC ac3 (wp_inA (n := 0) an3 rfl (by decide) (by decide) ?_))))
      rw [nI_clamp (by decide), wI_I, h1 _ (by omega), f3]
      exact wp_s (K f1 h2 h1)
    | succ k ih =>
      intro j f1 hj h1 h2
      rw [r_Mo_store_110]
      refine wp_bt (by rw [nI_ltI (by omega) (by decide)]; omega) (wp_isC mc (wp_nnR ar38 (wp_isC ac38 (wp_inA an38 rfl (by omega) (by omega) ?_))))
      rw [nI_clamp (by omega), wI_s, nI_add]
      refine ih (j + 1) _ (by omega) (fun a ha => by rw [up2_a ha]; exact h1 a ha) (fun i hi => ?_)
      by_cases e : i = j
      · rw [e, up2_s]; rfl
      · rw [up2_k e]; exact h2 i (by omega)
  exact L 3 0 f (by omega) (fun _ _ => rfl) (fun i hi => by omega)
end
