/-! The constructors: cells made. -/
def Se (h h' : MH) (a : Nat) : Prop := hC h' a = hC h a ∧ hN h' a = hN h a ∧ hR h' a = hR h a ∧ hI h' a = hI h a ∧ hL h' a = hL h a
theorem Se.tr {h h1 h2 : MH} {a : Nat} (x : Se h h1 a) (y : Se h1 h2 a) : Se h h2 a := ⟨y.1.trans x.1, y.2.1.trans x.2.1, y.2.2.1.trans x.2.2.1, y.2.2.2.1.trans x.2.2.2.1, y.2.2.2.2.trans x.2.2.2.2⟩
theorem Se.rf {h : MH} {a : Nat} : Se h h a := ⟨rfl, rfl, rfl, rfl, rfl⟩
theorem nw_e {h : MH} {t n b : Nat} (hb : b < hT h) : Se h (nw h t n) b := ⟨up1_a (by omega), up1_a (by omega), up1_a (by omega), up1_a (by omega), up1_a (by omega)⟩
theorem sR_e {h : MH} {a k v b : Nat} (hb : b ≠ a) : Se h (sR h a k v) b := ⟨rfl, rfl, up2_a hb, rfl, rfl⟩
theorem nw_C {h : MH} {t n : Nat} : hC (nw h t n) (hT h) = t := up1_s
theorem nw_N {h : MH} {t n : Nat} : hN (nw h t n) (hT h) = n := up1_s
theorem nw_I {h : MH} {t n : Nat} : hI (nw h t n) (hT h) = fun _ => 0 := up1_s
theorem nw_L {h : MH} {t n : Nat} : hL (nw h t n) (hT h) = fun _ => 0 := up1_s
/-- cells are made, those that were stay -/
def New (h h' : MH) (n s : Nat) : Prop := hT h' = hT h + n ∧ hS h' ≤ hS h + s ∧ ∀ b, b < hT h → Se h h' b
/-- the object x goes on being made -/
def Ch (x : Nat) (h h' : MH) : Prop := hT h ≤ hT h' ∧ hC h' x = hC h x ∧ hN h' x = hN h x ∧ hI h' x = hI h x ∧ hL h' x = hL h x ∧ ∀ b, b < hT h → b ≠ x → Se h h' b
theorem Ch.tr {x : Nat} {h h1 h2 : MH} (a : Ch x h h1) (b : Ch x h1 h2) : Ch x h h2 := ⟨Nat.le_trans a.1 b.1, b.2.1.trans a.2.1, b.2.2.1.trans a.2.2.1, b.2.2.2.1.trans a.2.2.2.1, b.2.2.2.2.1.trans a.2.2.2.2.1, fun y h1 h2 => (a.2.2.2.2.2 y h1 h2).tr (b.2.2.2.2.2 y (Nat.lt_of_lt_of_le h1 a.1) h2)⟩
theorem Ch.rf {x : Nat} {h : MH} : Ch x h h := ⟨Nat.le_refl _, rfl, rfl, rfl, rfl, fun _ _ _ => Se.rf⟩
def Stq (x s : Nat) (h h2 : MH) (n sl : Nat) : Prop := hT h2 = hT h + n ∧ hS h2 ≤ hS h + sl ∧ Ch x h h2 ∧ ∀ k, hR h2 x k = if k = s then some (hT h) else hR h x k
theorem New.st {h h1 : MH} {n sl x s : Nat} (N : New h h1 n sl) (hx : x < hT h) : Stq x s h (sR h1 x s (hT h)) n sl ∧ ∀ b, hT h ≤ b → Se h1 (sR h1 x s (hT h)) b := by
  obtain ⟨n1, n2, n3⟩ := N
  have e := n3 x hx
  refine ⟨⟨n1, n2, ⟨by show hT h ≤ hT h1; omega, e.1, e.2.1, e.2.2.2.1, e.2.2.2.2, fun b h1 h2 => (n3 b h1).tr (sR_e h2)⟩, fun k => ?_⟩, fun b hb => sR_e (by omega)⟩
  show up2 (hR h1) x s (some (hT h)) x k = _
  rw [up2_i, e.2.2.1]
theorem New.nw {h : MH} {t n : Nat} : New h (nw h t n) 1 n := ⟨rfl, Nat.le_refl _, fun b hb => nw_e hb⟩
/-- an array is made, and kept -/
theorem arr_S {h : MH} {x s tag n : Nat} (hx : x < hT h) : Stq x s h (sR (nw h tag n) x s (hT h)) 1 n ∧ hC (sR (nw h tag n) x s (hT h)) (hT h) = tag ∧ hN (sR (nw h tag n) x s (hT h)) (hT h) = n ∧ hL (sR (nw h tag n) x s (hT h)) (hT h) = fun _ => 0 :=
  ⟨(New.st New.nw hx).1, nw_C (t := tag) (n := n), nw_N (t := tag) (n := n), nw_L (t := tag) (n := n)⟩
/-- the whole object -/
theorem Ch.nw {h h' : MH} {t n k s : Nat} (c : Ch (hT h) (nw h t n) h') (hT' : hT h' = hT h + k) (hS' : hS h' ≤ hS h + s) : New h h' k s := ⟨hT', hS', fun b hb => (nw_e hb).tr (c.2.2.2.2.2 b (by show b < hT h + 1; omega) (by omega))⟩
theorem GS.q {h h' : MH} {g : Nat} (T : GS h g) (m : ∀ b, g ≤ b → b < g + 2 → Se h h' b) : GS h' g := by
  obtain ⟨t1, t2, t3, t4⟩ := T
  have e0 := m g (by omega) (by omega)
  have e1 := m (g + 1) (by omega) (by omega)
  exact ⟨by rw [e0.1]; exact t1, by rw [e0.2.2.1]; exact t2, by rw [e1.1]; exact t3, by rw [e1.2.1]; exact t4⟩
theorem nwG (h : MH) : ∃ h', ev M_Grid_init 0 0 [some (.ref (hT h))] [] (nw h 3 2) = some (none, h') ∧ New h h' 2 18 ∧ GS h' (hT h) := by
  obtain ⟨S1, C1, N1, -⟩ := arr_S (h := nw h 3 2) (x := hT h) (s := 0) (tag := 20) (n := 16) (by show hT h < hT h + 1; omega)
  refine ⟨_, ?_, S1.2.2.1.nw (by rw [S1.1]; rfl) (by have := S1.2.1; have e : hS (nw h 3 2) = hS h + 2 := rfl; omega), ?_⟩
  · rw [r_Grid_init_0]
    exact wp_e (wp_okN rfl (by decide) (wp_isC (by rw [(nw_e (h := nw h 3 2) (show hT h < hT h + 1 by omega)).1]; exact nw_C) (wp_s ⟨rfl, rfl⟩)))
  · exact ⟨by rw [S1.2.2.1.2.1]; exact nw_C, by rw [S1.2.2.2, if_pos rfl]; rfl, C1, N1⟩
/-- one grid more in a row of grids -/
theorem g_it {h : MH} {r i N : Nat} {K : MH → MRes} {Q : Option Value → MH → Prop} (hr : r < hT h) (cr : hC h r = 24) (nr : hN h r = N) (hi : i < N) (hN : N < 100) (H : ∀ h2, Stq r i h h2 2 18 → GS h2 (hT h) → wp (K h2) Q) : wp (rV (ev M_Grid_init 0 0 [some (.ref (hT h))] [] (nw h 3 2)) fun h3 => isC h3 r 24 (inA h3 r (nI i) (isC h3 (hT h) 3 (K (sR h3 r (Int32.toNatClampNeg (nI i)) (hT h)))))) Q := by
  obtain ⟨h3, e, W, G⟩ := nwG h
  have er := W.2.2 r hr
  refine wp_rVe e (wp_isC (by rw [er.1]; exact cr) (wp_inA (by rw [er.2.1]; exact nr) rfl hi (by omega) (wp_isC G.1 ?_)))
  rw [nI_clamp (by omega)]
  obtain ⟨S, U⟩ := W.st (x := r) (s := i) hr
  exact H _ S (G.q (fun b h1 _ => U b h1))
/-- a row of grids is made -/
def GA (r : Nat) (h h' : MH) (n : Nat) : Prop := hT h' = hT h + 2 * n ∧ hS h' ≤ hS h + 18 * n ∧ Ch r h h' ∧ ∀ k, k < n → hR h' r k = some (hT h + 2 * k) ∧ GS h' (hT h + 2 * k)
theorem GA.s {r n : Nat} {h h1 h2 : MH} (hr : r < hT h) (a : GA r h h1 n) (s : Stq r n h1 h2 2 18) (g : GS h2 (hT h1)) : GA r h h2 (n + 1) := by
  obtain ⟨a1, a2, a3, a4⟩ := a
  obtain ⟨s1, s2, s3, s4⟩ := s
  refine ⟨by omega, by omega, a3.tr s3, fun k hk => ?_⟩
  rw [s4]
  by_cases z : k = n
  · rw [if_pos z, z, ← a1]; exact ⟨rfl, g⟩
  · rw [if_neg z]
    obtain ⟨b1, b2⟩ := a4 k (by omega)
    exact ⟨b1, b2.q (fun b h1 h2 => s3.2.2.2.2.2 b (by omega) (by omega))⟩
theorem g_loop {run : Nat → MH → MRes} {x r N : Nat} {h : MH} {Q : Option Value → MH → Prop} (hNN : N < 100) (hr : r < hT h) (cr : hC h r = 24) (nr : hN h r = N) (st : ∀ i h1, i < N → GA r h h1 i → wp (rV (ev M_Grid_init 0 0 [some (.ref (hT h1))] [] (nw h1 3 2)) fun h3 => isC h3 r 24 (inA h3 r (nI i) (isC h3 (hT h1) 3 (run (i + 1) (sR h3 r (Int32.toNatClampNeg (nI i)) (hT h1)))))) Q → wp (run i h1) Q) (fin : ∀ h', GA r h h' N → wp (run N h') Q) : wp (run 0 h) Q := by
  have L : ∀ k i h1, i + k = N → GA r h h1 i → wp (run i h1) Q := by
    intro k
    induction k with
    | zero => intro i h1 hi a; rw [show i = N by omega] at a ⊢; exact fin h1 a
    | succ k ih =>
      intro i h1 hi a
      have hr1 : r < hT h1 := by have := a.1; omega
      refine st i h1 (by omega) a (g_it hr1 (by rw [a.2.2.1.2.1]; exact cr) (by rw [a.2.2.1.2.2.1]; exact nr) (by omega) hNN (fun h2 s g => ih (i + 1) h2 (by omega) (a.s hr s g)))
  exact L N 0 h (by omega) ⟨rfl, Nat.le_refl _, Ch.rf, fun k hk => absurd hk (Nat.not_lt_zero k)⟩
theorem TS.q {h h' : MH} {t : Nat} (T : TS h t) (m : ∀ b, t ≤ b → b < t + 15 → Se h h' b) : TS h' t := by
  obtain ⟨t1, t2, t3, t4, t5, t6, t7, t8, t9, t10, t11, t12, t13, t14⟩ := T
  have mC : ∀ b, t ≤ b → b < t + 15 → hC h' b = hC h b := fun b h1 h2 => (m b h1 h2).1
  have mN : ∀ b, t ≤ b → b < t + 15 → hN h' b = hN h b := fun b h1 h2 => (m b h1 h2).2.1
  have mR : ∀ b, t ≤ b → b < t + 15 → hR h' b = hR h b := fun b h1 h2 => (m b h1 h2).2.2.1
  refine ⟨by rw [mC _ (by omega) (by omega)]; exact t1, by rw [mR _ (by omega) (by omega)]; exact t2, by rw [mC _ (by omega) (by omega)]; exact t3, by rw [mN _ (by omega) (by omega)]; exact t4, fun l hl => ⟨by rw [mR _ (by omega) (by omega)]; exact (t5 l hl).1, (t5 l hl).2.q (fun b h1 h2 => m b (by omega) (by omega))⟩, by rw [mR _ (by omega) (by omega)]; exact t6, by rw [mC _ (by omega) (by omega)]; exact t7, by rw [mN _ (by omega) (by omega)]; exact t8, by rw [mR _ (by omega) (by omega)]; exact t9, by rw [mC _ (by omega) (by omega)]; exact t10, by rw [mN _ (by omega) (by omega)]; exact t11, by rw [mR _ (by omega) (by omega)]; exact t12, by rw [mC _ (by omega) (by omega)]; exact t13, by rw [mN _ (by omega) (by omega)]; exact t14⟩
theorem SS.q {h h' : MH} {t : Nat} (T : SS h t) (m : ∀ b, t ≤ b → b < t + 5 → Se h h' b) : SS h' t := by
  obtain ⟨t1, t2, t3, t4, t5⟩ := T
  have e := m t (by omega) (by omega)
  exact ⟨by rw [e.1]; exact t1, by rw [e.2.2.1]; exact t2, by rw [e.2.2.1]; exact t3, t4.q (fun b h1 h2 => m b (by omega) (by omega)), t5.q (fun b h1 h2 => m b (by omega) (by omega))⟩
theorem BS.q {h h' : MH} {b : Nat} (T : BS h b) (m : ∀ a, b ≤ a → a < b + 12 → Se h h' a) : BS h' b := by
  obtain ⟨t1, t2, t3, t4, t5⟩ := T
  have e := m b (by omega) (by omega)
  have e1 := m (b + 1) (by omega) (by omega)
  exact ⟨by rw [e.1]; exact t1, by rw [e.2.2.1]; exact t2, by rw [e1.1]; exact t3, by rw [e1.2.1]; exact t4, fun k hk => ⟨by rw [e1.2.2.1]; exact (t5 k hk).1, (t5 k hk).2.q (fun c h1 h2 => m c (by omega) (by omega))⟩⟩
theorem HS.q {h h' : MH} {z : Nat} (T : HS h z) (m : ∀ a, z ≤ a → a < z + 45 → Se h h' a) : HS h' z := by
  obtain ⟨z1, z2, z3, z4, z5, z6, z7, z8, z9, z10, z11, z12, z13, z14⟩ := T
  have mC : ∀ b, z ≤ b → b < z + 45 → hC h' b = hC h b := fun b h1 h2 => (m b h1 h2).1
  have mN : ∀ b, z ≤ b → b < z + 45 → hN h' b = hN h b := fun b h1 h2 => (m b h1 h2).2.1
  have mR : ∀ b, z ≤ b → b < z + 45 → hR h' b = hR h b := fun b h1 h2 => (m b h1 h2).2.2.1
  exact ⟨by rw [mC _ (by omega) (by omega)]; exact z1, by rw [mR _ (by omega) (by omega)]; exact z2, by rw [mC _ (by omega) (by omega)]; exact z3, by rw [mN _ (by omega) (by omega)]; exact z4, by rw [mR _ (by omega) (by omega)]; exact z5, by rw [mC _ (by omega) (by omega)]; exact z6, by rw [mN _ (by omega) (by omega)]; exact z7, fun i hi => ⟨by rw [mR _ (by omega) (by omega)]; exact (z8 i hi).1, by rw [mC _ (by omega) (by omega)]; exact (z8 i hi).2.1, by rw [mN _ (by omega) (by omega)]; exact (z8 i hi).2.2⟩, by rw [mR _ (by omega) (by omega)]; exact z9, by rw [mC _ (by omega) (by omega)]; exact z10, by rw [mN _ (by omega) (by omega)]; exact z11, by rw [mR _ (by omega) (by omega)]; exact z12, by rw [mC _ (by omega) (by omega)]; exact z13, by rw [mN _ (by omega) (by omega)]; exact z14⟩
theorem IS.q {h h' : MH} {s : Nat} (T : IS h s) (m : ∀ a, s ≤ a → a < s + 16 → Se h h' a) : IS h' s := by
  obtain ⟨i1, i4, j4, i5, c5, n5, i6, c6, n6, i7, c7, n7, i8, c8, n8, i9, c9, n9, i10, c10, n10, i11, c11, n11, i13, j13, i14, j14, i15, j15⟩ := T
  have mC : ∀ b, s ≤ b → b < s + 16 → hC h' b = hC h b := fun b h1 h2 => (m b h1 h2).1
  have mN : ∀ b, s ≤ b → b < s + 16 → hN h' b = hN h b := fun b h1 h2 => (m b h1 h2).2.1
  have hs := (m s (by omega) (by omega)).2.2.1
  have G : ∀ g, s ≤ g → g + 2 ≤ s + 16 → GS h g → GS h' g := fun g h1 h2 T => T.q (fun b h3 h4 => m b (by omega) (by omega))
  exact ⟨by rw [mC _ (by omega) (by omega)]; exact i1, by rw [hs]; exact i4, G _ (by omega) (by omega) j4, by rw [hs]; exact i5, by rw [mC _ (by omega) (by omega)]; exact c5, by rw [mN _ (by omega) (by omega)]; exact n5, by rw [hs]; exact i6, by rw [mC _ (by omega) (by omega)]; exact c6, by rw [mN _ (by omega) (by omega)]; exact n6, by rw [hs]; exact i7, by rw [mC _ (by omega) (by omega)]; exact c7, by rw [mN _ (by omega) (by omega)]; exact n7, by rw [hs]; exact i8, by rw [mC _ (by omega) (by omega)]; exact c8, by rw [mN _ (by omega) (by omega)]; exact n8, by rw [hs]; exact i9, by rw [mC _ (by omega) (by omega)]; exact c9, by rw [mN _ (by omega) (by omega)]; exact n9, by rw [hs]; exact i10, by rw [mC _ (by omega) (by omega)]; exact c10, by rw [mN _ (by omega) (by omega)]; exact n10, by rw [hs]; exact i11, by rw [mC _ (by omega) (by omega)]; exact c11, by rw [mN _ (by omega) (by omega)]; exact n11, by rw [hs]; exact i13, G _ (by omega) (by omega) j13, by rw [hs]; exact i14, G _ (by omega) (by omega) j14, by rw [hs]; exact i15, G _ (by omega) (by omega) j15⟩
theorem PS.q {h h' : MH} {p : Nat} (T : PS h p) (m : ∀ a, p ≤ a → a < p + 17 → Se h h' a) : PS h' p := by
  obtain ⟨p1, p2, p3, p4, p5, p6, p7, p8, p9, p10, p11, p12, p13, p14, p15, p16, p17, p18, p19⟩ := T
  have mC : ∀ b, p ≤ b → b < p + 17 → hC h' b = hC h b := fun b h1 h2 => (m b h1 h2).1
  have mN : ∀ b, p ≤ b → b < p + 17 → hN h' b = hN h b := fun b h1 h2 => (m b h1 h2).2.1
  have mR : ∀ b, p ≤ b → b < p + 17 → hR h' b = hR h b := fun b h1 h2 => (m b h1 h2).2.2.1
  exact ⟨by rw [mC _ (by omega) (by omega)]; exact p1, by rw [mR _ (by omega) (by omega)]; exact p2, by rw [mC _ (by omega) (by omega)]; exact p3, by rw [mR _ (by omega) (by omega)]; exact p4, by rw [mC _ (by omega) (by omega)]; exact p5, by rw [mN _ (by omega) (by omega)]; exact p6, by rw [mR _ (by omega) (by omega)]; exact p7, by rw [mC _ (by omega) (by omega)]; exact p8, by rw [mN _ (by omega) (by omega)]; exact p9, by rw [mR _ (by omega) (by omega)]; exact p10, by rw [mC _ (by omega) (by omega)]; exact p11, by rw [mN _ (by omega) (by omega)]; exact p12, by rw [mR _ (by omega) (by omega)]; exact p13, by rw [mC _ (by omega) (by omega)]; exact p14, by rw [mN _ (by omega) (by omega)]; exact p15, fun k hk => ⟨by rw [mR _ (by omega) (by omega)]; exact (p16 k hk).1, (p16 k hk).2.q (fun b h1 h2 => m b (by omega) (by omega))⟩, by rw [mR _ (by omega) (by omega)]; exact p17, by rw [mC _ (by omega) (by omega)]; exact p18, by rw [mN _ (by omega) (by omega)]; exact p19⟩
