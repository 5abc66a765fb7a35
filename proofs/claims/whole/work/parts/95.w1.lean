/-! The law's loop. -/
theorem MF.o {f f' : Nat → Nat → Int32} {m : Nat} {S : Abs} (F : MF f m S) (x : ∀ b, m ≤ b → b < m + 39 → f' b = f b) : MF f' m S := by
  obtain ⟨⟨a1, a2⟩, ⟨b1, b2⟩, c1, ⟨d1, d2, d3, d4⟩, e1, g1, ⟨h1, h2, h3⟩, ⟨i1, i2⟩, ⟨j1, j2, j3⟩, k1⟩ := F
  have s : f' m = f m := x m (by omega) (by omega)
  refine ⟨⟨by rw [s]; exact a1, fun i hi => by rw [x _ (by omega) (by omega)]; exact a2 i hi⟩, ⟨by rw [s]; exact b1, by rw [s]; exact b2⟩, c1.o (fun b hb => x b (by omega) (by omega)), ⟨by rw [x _ (by omega) (by omega)]; exact d1, by rw [x _ (by omega) (by omega)]; exact d2, by rw [x _ (by omega) (by omega)]; exact d3, fun i k hk => by rw [x _ (by omega) (by omega)]; exact d4 i k hk⟩, fun k hk hz r hr => by rw [x _ (by omega) (by omega)]; exact e1 k hk hz r hr, fun i hi => by rw [x _ (by omega) (by omega)]; exact g1 i hi, ⟨by rw [s]; exact h1, by rw [s]; exact h2, fun k i hk hi => by rw [x _ (by omega) (by omega)]; exact h3 k i hk hi⟩, ⟨by rw [s]; exact i1, fun i e he => by rw [x _ (by omega) (by omega)]; exact i2 i e he⟩, ⟨by rw [s]; exact j1, by rw [s]; exact j2, fun i e he => ?_⟩, fun b hb => ⟨by rw [x _ (by omega) (by omega)]; exact (k1 b hb).1, fun t ht i hi => by rw [x _ (by omega) (by omega)]; exact (k1 b hb).2 t ht i hi⟩⟩
  rw [x (m + 28) (by omega) (by omega), x (m + 29) (by omega) (by omega), x (m + 30) (by omega) (by omega), x (m + 31) (by omega) (by omega), x (m + 32) (by omega) (by omega), x (m + 33) (by omega) (by omega)]
  exact j3 i e he

theorem CF.o {x pa pb : Nat} {f f' : Nat → Nat → Int32} {g : Nat → Nat → Int64} {S : Abs} (F : CF f g x pa S) (o : ∀ y, x ≤ y → y < x + 222 → f' y = f y) (hp : (pa = x + 2 ∧ pb = x + 19) ∨ (pa = x + 19 ∧ pb = x + 2)) (hr : aR S ≤ 5) : CF f' g x pa S := by
  obtain ⟨⟨t1, t2⟩, ⟨l1, l2⟩, ⟨r1, r2⟩, w, n1, ⟨g1, g2⟩, ⟨old, rl, tn, sb, sa, h1, h2⟩, bx, sg⟩ := F
  refine ⟨⟨?_, ?_⟩, ⟨?_, ?_⟩, ⟨?_, ?_⟩, w, ?_, ⟨?_, ?_⟩, ⟨old, rl, tn, sb, sa, ?_, h2⟩, ?_, ?_⟩
  · rw [o x (by omega) (by omega)]; exact t1
  · intro i hi; rw [o (x + 1) (by omega) (by omega)]; exact t2 i hi
  · rw [o x (by omega) (by omega)]; exact l1
  · intro i e he; rw [o (x + 221) (by omega) (by omega)]; exact l2 i e he
  · rw [o (x + 36) (by omega) (by omega)]; exact r1
  · rw [o (x + 36) (by omega) (by omega)]; exact r2
  · obtain ⟨y0, y1, y2, y3, y4, y5, y6, y7, y8, y9, y10⟩ := n1
    have e0 := o pa (by omega) (by omega)
    have e1 := o (pa + 1) (by omega) (by omega)
    have e2 := o (pa + 1 + 1) (by omega) (by omega)
    have e6 := o (pa + 6) (by omega) (by omega)
    refine ⟨by rw [e0]; exact y0, by rw [e0]; exact y1, by rw [e0]; exact y2, by rw [e0]; exact y3, by rw [e0]; exact y4, by rw [e0]; exact y5, by rw [e0]; exact y6, fun i c hc => by rw [e6]; exact y7 i c hc, ⟨by rw [e1]; exact y8.1, fun i c hc => by rw [e2]; exact y8.2 i c hc⟩, fun k hk => ⟨?_, fun r hr => ?_⟩, y10⟩
    · rw [o (pa + 7 + 2 * k) (by omega) (by omega)]; exact (y9 k hk).1
    · rw [o (pa + 7 + 2 * k + 1) (by omega) (by omega)]; exact (y9 k hk).2 r hr
  · rw [o (x + 39) (by omega) (by omega)]; exact g1
  · intro k hk
    exact ⟨by rw [o (x + 44 + 2 * k) (by omega) (by omega)]; exact (g2 k hk).1, fun r hr => by rw [o (x + 44 + 2 * k + 1) (by omega) (by omega)]; exact (g2 k hk).2 r hr⟩
  · obtain ⟨a1, a2, a3, a4, a5, a6, a7⟩ := h1
    have ez := o (x + 86) (by omega) (by omega)
    refine ⟨by rw [ez]; exact a1, by rw [ez]; exact a2, by rw [ez]; exact a3, a4, a5, a6, fun k hk => ?_⟩
    obtain ⟨c1, c2, c3, c4⟩ := a7 k hk
    have hm : (old + k) % 40 < 40 := Nat.mod_lt _ (by decide)
    refine ⟨by rw [o (x + 86 + 1) (by omega) (by omega)]; exact c1, by rw [o (x + 86 + 43) (by omega) (by omega)]; exact c2, by rw [o (x + 86 + 44) (by omega) (by omega)]; exact c3, fun r hr hs => by rw [o (x + 86 + 3 + (old + k) % 40) (by omega) (by omega)]; exact c4 r hr hs⟩
  · intro b hb
    obtain ⟨b1, b2⟩ := bx b hb
    have eb := o (x + 132 + 12 * b) (by omega) (by omega)
    refine ⟨by rw [eb]; exact b1, fun s hs => ⟨by rw [eb]; exact (b2 s hs).1, fun k hk => ?_⟩⟩
    have := (b2 s hs).2 k hk
    exact ⟨by rw [o (x + 134 + 12 * b + 2 * k) (by omega) (by omega)]; exact this.1, fun r hr => by rw [o (x + 134 + 12 * b + 2 * k + 1) (by omega) (by omega)]; exact this.2 r hr⟩
  · obtain ⟨t0, t1, t2, t3, t4, t5⟩ := sg
    refine ⟨by rw [o (x + 168) (by omega) (by omega)]; exact t0, by rw [o (x + 168) (by omega) (by omega)]; exact t1, by rw [o (x + 168) (by omega) (by omega)]; exact t2, by rw [o (x + 168) (by omega) (by omega)]; exact t3, fun z => ⟨?_, fun r hr => ?_⟩, fun i e he => ?_⟩
    · rw [o (x + 168 + 1) (by omega) (by omega)]; exact (t4 z).1
    · rw [o (x + 168 + 1 + 1) (by omega) (by omega)]; exact (t4 z).2 r hr
    · rw [o (x + 168 + 3) (by omega) (by omega), o (x + 168 + 4) (by omega) (by omega), o (x + 168 + 5) (by omega) (by omega), o (x + 168 + 6) (by omega) (by omega), o (x + 168 + 7) (by omega) (by omega), o (x + 168 + 8) (by omega) (by omega), o (x + 168 + 9) (by omega) (by omega)]
      exact t5 i e he

theorem FX.r {x pa pb : Nat} {f f' : Nat → Nat → Int32} (a : FX x pa f f') (hp : (pa = x + 2 ∧ pb = x + 19) ∨ (pa = x + 19 ∧ pb = x + 2)) : Fr x (x + 222) f f' := fun y hy => a.1 y (by unfold Scr; omega) (by omega)
/-- both forms hold the same state, over the script -/
def LV (h : MH) (f : Nat → Nat → Int32) (b L x s1 v1 pa pb : Nat) (xs : Nat → Int32) (S : Abs) : Prop := CSH h x pa pb s1 v1 ∧ CF f (hL h) x pa S ∧ MSH h (x + 222) ∧ MF f (x + 222) S ∧ WS S ∧ (hC h b = 99 ∧ hN h b = L ∧ b < x ∧ ∀ k, f b k = xs k) ∧ (f s1 1 = nI 0 ∧ ∀ j, j < 11 → f v1 (100 + j) = nI (tx1.getD j 0))
theorem LV.go {h : MH} {f f1 f2 : Nat → Nat → Int32} {b L x s1 v1 pa pb : Nat} {xs : Nat → Int32} {S S' : Abs} (V : LV h f b L x s1 v1 pa pb xs S) (F1 : CF f1 (hL h) x pa S') (R1 : Fr x (x + 222) f f1) (M2 : MF f2 (x + 222) S') (R2 : Fr (x + 222) (x + 261) f1 f2) (W : WS S') : LV h f2 b L x s1 v1 pa pb xs S' := by
  obtain ⟨v1', v2, v3, v4, v5, ⟨v6, v7, v8, v9⟩, v10, v11⟩ := V
  have sx := v1'.2.2.2.2.2.2.2.2.2.2.2.2.2.2.1
  have e : ∀ a, a < x → f2 a = f a := fun a ha => (R2 a (by omega)).trans (R1 a (by omega))
  exact ⟨v1', F1.o (fun y h1 h2 => R2 y (by omega)) v1'.2.2.2.2.2.2.2.2.2.2.2.2.2.2.2 W.2.2.1.1.2.2.2.1, v3, M2, W, ⟨v6, v7, v8, fun k => by rw [e _ v8]; exact v9 k⟩, by rw [e _ sx.1]; exact v10, fun j hj => by rw [e _ sx.2.1]; exact v11 j hj⟩
theorem law_end {L i : Nat} (hL : L ≤ 3072) (hi : i ≤ 4000) : nI L - nI 6 < nI i ↔ L < i + 6 := by
  by_cases z : 6 ≤ L
  · rw [pk_sub z, nI_ltI (by omega) (by omega)]; omega
  · have n : nI L - nI 6 < nI 0 := by
      have : L = 0 ∨ L = 1 ∨ L = 2 ∨ L = 3 ∨ L = 4 ∨ L = 5 := by omega
      rcases this with e | e | e | e | e | e <;> subst e <;> decide
    exact ⟨fun _ => by omega, fun _ => Int32.lt_of_lt_of_le n (Int32.not_lt.mp (nI_pos (by omega)))⟩
section
variable {h : MH} {f : Nat → Nat → Int32} {b L x s1 v1 pa pb i : Nat} {xs : Nat → Int32} {S : Abs} {Q : Option Value → MH → Prop}

theorem lc_feed (V : LV h f b L x s1 v1 pa pb xs S) (A1 A2 A3 A4 A5 : Int32) : ∃ y f1 f2 S', ev M_PT_feed 0 0 [some (.ref x), some (.int A1), some (.int A2), some (.int A3), some (.int A4), some (.int A5)] [] (wI h f) = some (some (.int y), wI h f1) ∧ ev M_Mo_feed 0 0 [some (.ref (x + 222)), some (.int A1), some (.int A2), some (.int A3), some (.int A4), some (.int A5)] [] (wI h f1) = some (some (.int y), wI h f2) ∧ LV h f2 b L x s1 v1 pa pb xs S' ∧ f1 b = f b := by
  obtain ⟨C, F, MC, M, W, ⟨-, -, hb, -⟩, -⟩ := id V
  obtain ⟨f1, e1, F1, R1⟩ := c_feed C F W A1 A2 A3 A4 A5
  obtain ⟨f2, e2, M2, R2⟩ := m_feed MC (M.o (fun a h1 _ => R1 a (Or.inr h1))) W A1 A2 A3 A4 A5
  exact ⟨_, f1, f2, _, e1, e2, V.go F1 R1 M2 R2 (WS_feed W), R1 b (Or.inl hb)⟩
theorem lc_end (V : LV h f b L x s1 v1 pa pb xs S) (A1 : Int32) : ∃ y f1 f2 S', ev M_PT_end 0 0 [some (.ref x), some (.int A1)] [] (wI h f) = some (some (.int y), wI h f1) ∧ ev M_Mo_end 0 0 [some (.ref (x + 222)), some (.int A1)] [] (wI h f1) = some (some (.int y), wI h f2) ∧ LV h f2 b L x s1 v1 pa pb xs S' ∧ f1 b = f b := by
  obtain ⟨C, F, MC, M, W, ⟨-, -, hb, -⟩, -⟩ := id V
  obtain ⟨f1, e1, F1, R1⟩ := c_end C F W A1
  obtain ⟨f2, e2, M2, R2⟩ := m_end MC (M.o (fun a h1 _ => R1 a (Or.inr h1))) W A1
  exact ⟨_, f1, f2, _, e1, e2, V.go F1 R1 M2 R2 (WS_end W), R1 b (Or.inl hb)⟩
theorem lc_fault (V : LV h f b L x s1 v1 pa pb xs S) (A1 : Int32) : ∃ y f1 f2 S', ev M_PT_fault 0 0 [some (.ref x), some (.int A1)] [] (wI h f) = some (some (.int y), wI h f1) ∧ ev M_Mo_fault 0 0 [some (.ref (x + 222)), some (.int A1)] [] (wI h f1) = some (some (.int y), wI h f2) ∧ LV h f2 b L x s1 v1 pa pb xs S' ∧ f1 b = f b := by
  obtain ⟨C, F, MC, M, W, ⟨-, -, hb, -⟩, -⟩ := id V
  exact ⟨_, f, f, S, c_fault C F W A1, m_fault MC M A1, V, rfl⟩
theorem lc_relation (V : LV h f b L x s1 v1 pa pb xs S) (A1 A2 : Int32) : ∃ y f1 f2 S', ev M_PT_relation 0 0 [some (.ref x), some (.int A1), some (.int A2), none] [] (wI h f) = some (some (.int y), wI h f1) ∧ ev M_Mo_relation2 0 0 [some (.ref (x + 222)), some (.int A1), some (.int A2)] [] (wI h f1) = some (some (.int y), wI h f2) ∧ LV h f2 b L x s1 v1 pa pb xs S' ∧ f1 b = f b := by
  obtain ⟨C, F, MC, M, W, ⟨-, -, hb, -⟩, -⟩ := id V
  obtain ⟨f1, e1, X1⟩ := c_relation C F W A1 A2
  have hp := C.2.2.2.2.2.2.2.2.2.2.2.2.2.2.2
  have R1 := X1.r hp
  obtain ⟨f2, e2, X2⟩ := m_relation MC (M.o (fun a h1 _ => R1 a (Or.inr h1))) W A1 A2
  exact ⟨_, f1, f2, S, e1, e2, V.go (X1.F hp W.2.2.1.1.2.2.2.1 F) R1 (X2.F (M.o (fun a h1 _ => R1 a (Or.inr h1)))) X2.fr W, R1 b (Or.inl hb)⟩
theorem lc_has (V : LV h f b L x s1 v1 pa pb xs S) (A1 A2 A3 : Int32) : ∃ y f1 f2 S', ev M_PT_has 0 0 [some (.ref x), some (.int A1), some (.int A2), some (.int A3)] [] (wI h f) = some (some (.int y), wI h f1) ∧ ev M_Mo_has 0 0 [some (.ref (x + 222)), some (.int A1), some (.int A2), some (.int A3)] [] (wI h f1) = some (some (.int y), wI h f2) ∧ LV h f2 b L x s1 v1 pa pb xs S' ∧ f1 b = f b := by
  obtain ⟨C, F, MC, M, W, ⟨-, -, hb, -⟩, -⟩ := id V
  have e1 := pt_has C F W A1 A2 A3
  obtain ⟨f2, e2, X2⟩ := m_has MC M W A1 A2 A3
  exact ⟨_, f, f2, S, e1, e2, V.go F (fun _ _ => rfl) (X2.F M) X2.fr W, rfl⟩
theorem lc_put (V : LV h f b L x s1 v1 pa pb xs S) (A1 A2 A3 : Int32) : ∃ y f1 f2 S', ev M_PT_put 0 0 [some (.ref x), some (.int A1), some (.int A2), some (.int A3)] [] (wI h f) = some (some (.int y), wI h f1) ∧ ev M_Mo_put 0 0 [some (.ref (x + 222)), some (.int A1), some (.int A2), some (.int A3)] [] (wI h f1) = some (some (.int y), wI h f2) ∧ LV h f2 b L x s1 v1 pa pb xs S' ∧ f1 b = f b := by
  obtain ⟨C, F, MC, M, W, ⟨-, -, hb, -⟩, -⟩ := id V
  obtain ⟨f1, e1, F1, W1, R1⟩ := c_put C F W A1 A2 A3
  obtain ⟨f2, e2, M2, R2⟩ := m_put MC (M.o (fun a h1 _ => R1 a (Or.inr h1))) W A1 A2 A3
  exact ⟨_, f1, f2, _, e1, e2, V.go F1 R1 M2 R2 W1, R1 b (Or.inl hb)⟩
theorem lc_take (V : LV h f b L x s1 v1 pa pb xs S) (A1 A2 A3 : Int32) : ∃ y f1 f2 S', ev M_PT_take 0 0 [some (.ref x), some (.int A1), some (.int A2), some (.int A3)] [] (wI h f) = some (some (.int y), wI h f1) ∧ ev M_Mo_take 0 0 [some (.ref (x + 222)), some (.int A1), some (.int A2), some (.int A3)] [] (wI h f1) = some (some (.int y), wI h f2) ∧ LV h f2 b L x s1 v1 pa pb xs S' ∧ f1 b = f b := by
  obtain ⟨C, F, MC, M, W, ⟨-, -, hb, -⟩, -⟩ := id V
  obtain ⟨f1, e1, F1, W1, R1⟩ := c_take C F W A1 A2 A3
  obtain ⟨f2, e2, M2, R2⟩ := m_take MC (M.o (fun a h1 _ => R1 a (Or.inr h1))) W A1 A2 A3
  exact ⟨_, f1, f2, _, e1, e2, V.go F1 R1 M2 R2 W1, R1 b (Or.inl hb)⟩
theorem lc_become (V : LV h f b L x s1 v1 pa pb xs S) (A1 A2 A3 A4 : Int32) : ∃ y f1 f2 S', ev M_PT_become 0 0 [some (.ref x), some (.int A1), some (.int A2), some (.int A3), some (.int A4)] [] (wI h f) = some (some (.int y), wI h f1) ∧ ev M_Mo_become 0 0 [some (.ref (x + 222)), some (.int A1), some (.int A2), some (.int A3), some (.int A4), none] [] (wI h f1) = some (some (.int y), wI h f2) ∧ LV h f2 b L x s1 v1 pa pb xs S' ∧ f1 b = f b := by
  obtain ⟨C, F, MC, M, W, ⟨-, -, hb, -⟩, -⟩ := id V
  obtain ⟨f1, e1, F1, W1, R1⟩ := c_become C F W A1 A2 A3 A4
  obtain ⟨f2, e2, M2, R2⟩ := m_become MC (M.o (fun a h1 _ => R1 a (Or.inr h1))) W A1 A2 A3 A4
  exact ⟨_, f1, f2, _, e1, e2, V.go F1 R1 M2 R2 W1, R1 b (Or.inl hb)⟩
theorem lc_sift (V : LV h f b L x s1 v1 pa pb xs S) (A1 : Int32) : ∃ y f1 f2 S', ev M_PT_sift 0 0 [some (.ref x), some (.int A1), none] [] (wI h f) = some (some (.int y), wI h f1) ∧ ev M_Mo_sift 0 0 [some (.ref (x + 222)), some (.int A1), none, none] [] (wI h f1) = some (some (.int y), wI h f2) ∧ LV h f2 b L x s1 v1 pa pb xs S' ∧ f1 b = f b := by
  obtain ⟨C, F, MC, M, W, ⟨-, -, hb, -⟩, -⟩ := id V
  obtain ⟨f1, e1, F1, W1, R1⟩ := c_sift C F W A1
  obtain ⟨f2, e2, M2, R2⟩ := m_sift MC (M.o (fun a h1 _ => R1 a (Or.inr h1))) W A1
  exact ⟨_, f1, f2, _, e1, e2, V.go F1 R1 M2 R2 W1, R1 b (Or.inl hb)⟩
theorem lc_drift (V : LV h f b L x s1 v1 pa pb xs S) : ∃ y f1 f2 S', ev M_PT_drift 0 0 [some (.ref x), none, none] [] (wI h f) = some (some (.int y), wI h f1) ∧ ev M_Mo_drift 0 0 [some (.ref (x + 222)), none, none] [] (wI h f1) = some (some (.int y), wI h f2) ∧ LV h f2 b L x s1 v1 pa pb xs S' ∧ f1 b = f b := by
  obtain ⟨C, F, MC, M, W, ⟨-, -, hb, -⟩, -⟩ := id V
  obtain ⟨f1, e1, F1, W1, R1⟩ := c_drift C F W 
  obtain ⟨f2, e2, M2, R2⟩ := m_drift MC (M.o (fun a h1 _ => R1 a (Or.inr h1))) W 
  exact ⟨_, f1, f2, _, e1, e2, V.go F1 R1 M2 R2 W1, R1 b (Or.inl hb)⟩
theorem lc_undo (V : LV h f b L x s1 v1 pa pb xs S) : ∃ y f1 f2 S', ev M_PT_undo 0 0 [some (.ref x), none] [] (wI h f) = some (some (.int y), wI h f1) ∧ ev M_Mo_undo 0 0 [some (.ref (x + 222))] [] (wI h f1) = some (some (.int y), wI h f2) ∧ LV h f2 b L x s1 v1 pa pb xs S' ∧ f1 b = f b := by
  obtain ⟨C, F, MC, M, W, ⟨-, -, hb, -⟩, -⟩ := id V
  obtain ⟨f1, e1, F1, R1⟩ := c_undo C F W 
  obtain ⟨f2, e2, M2, R2⟩ := m_undo MC (M.o (fun a h1 _ => R1 a (Or.inr h1))) W 
  exact ⟨_, f1, f2, _, e1, e2, V.go F1 R1 M2 R2 (WS_undo W), R1 b (Or.inl hb)⟩
theorem lc_redo (V : LV h f b L x s1 v1 pa pb xs S) : ∃ y f1 f2 S', ev M_PT_redo 0 0 [some (.ref x), none] [] (wI h f) = some (some (.int y), wI h f1) ∧ ev M_Mo_redo 0 0 [some (.ref (x + 222))] [] (wI h f1) = some (some (.int y), wI h f2) ∧ LV h f2 b L x s1 v1 pa pb xs S' ∧ f1 b = f b := by
  obtain ⟨C, F, MC, M, W, ⟨-, -, hb, -⟩, -⟩ := id V
  obtain ⟨f1, e1, F1, R1⟩ := c_redo C F W 
  obtain ⟨f2, e2, M2, R2⟩ := m_redo MC (M.o (fun a h1 _ => R1 a (Or.inr h1))) W 
  exact ⟨_, f1, f2, _, e1, e2, V.go F1 R1 M2 R2 (WS_redo W), R1 b (Or.inl hb)⟩
theorem lc_bit (V : LV h f b L x s1 v1 pa pb xs S) (A1 A2 : Int32) : ∃ y f1 f2 S', ev M_PT_bit 0 0 [some (.ref x), some (.int A1), some (.int A2)] [] (wI h f) = some (some (.int y), wI h f1) ∧ ev M_Mo_bit 0 0 [some (.ref (x + 222)), some (.int A1), some (.int A2)] [] (wI h f1) = some (some (.int y), wI h f2) ∧ LV h f2 b L x s1 v1 pa pb xs S' ∧ f1 b = f b := by
  obtain ⟨C, F, MC, M, W, ⟨-, -, hb, -⟩, -⟩ := id V
  obtain ⟨f1, e1, X1⟩ := c_bit C F W A1 A2
  have hp := C.2.2.2.2.2.2.2.2.2.2.2.2.2.2.2
  have R1 := X1.r hp
  obtain ⟨f2, e2, X2⟩ := m_bit MC (M.o (fun a h1 _ => R1 a (Or.inr h1))) W A1 A2
  exact ⟨_, f1, f2, S, e1, e2, V.go (X1.F hp W.2.2.1.1.2.2.2.1 F) R1 (X2.F (M.o (fun a h1 _ => R1 a (Or.inr h1)))) X2.fr W, R1 b (Or.inl hb)⟩
theorem lc_rank (V : LV h f b L x s1 v1 pa pb xs S) (A1 A2 : Int32) : ∃ y f1 f2 S', ev M_PT_rank 0 0 [some (.ref x), some (.int A1), some (.int A2)] [] (wI h f) = some (some (.int y), wI h f1) ∧ ev M_Mo_rank 0 0 [some (.ref (x + 222)), some (.int A1), some (.int A2)] [] (wI h f1) = some (some (.int y), wI h f2) ∧ LV h f2 b L x s1 v1 pa pb xs S' ∧ f1 b = f b := by
  obtain ⟨C, F, MC, M, W, ⟨-, -, hb, -⟩, -⟩ := id V
  obtain ⟨f1, e1, X1⟩ := c_rank C F W A1 A2
  have hp := C.2.2.2.2.2.2.2.2.2.2.2.2.2.2.2
  have R1 := X1.r hp
  obtain ⟨f2, e2, X2⟩ := m_rank MC (M.o (fun a h1 _ => R1 a (Or.inr h1))) W A1 A2
  exact ⟨_, f1, f2, S, e1, e2, V.go (X1.F hp W.2.2.1.1.2.2.2.1 F) R1 (X2.F (M.o (fun a h1 _ => R1 a (Or.inr h1)))) X2.fr W, R1 b (Or.inl hb)⟩
theorem lc_child (V : LV h f b L x s1 v1 pa pb xs S) (A1 A2 A3 : Int32) : ∃ y f1 f2 S', ev M_PT_child 0 0 [some (.ref x), some (.int A1), some (.int A2), some (.int A3)] [] (wI h f) = some (some (.int y), wI h f1) ∧ ev M_Mo_child 0 0 [some (.ref (x + 222)), some (.int A1), some (.int A2), some (.int A3)] [] (wI h f1) = some (some (.int y), wI h f2) ∧ LV h f2 b L x s1 v1 pa pb xs S' ∧ f1 b = f b := by
  obtain ⟨C, F, MC, M, W, ⟨-, -, hb, -⟩, -⟩ := id V
  obtain ⟨f1, e1, X1⟩ := c_child C F W A1 A2 A3
  have hp := C.2.2.2.2.2.2.2.2.2.2.2.2.2.2.2
  have R1 := X1.r hp
  obtain ⟨f2, e2, X2⟩ := m_child MC (M.o (fun a h1 _ => R1 a (Or.inr h1))) W A1 A2 A3
  exact ⟨_, f1, f2, S, e1, e2, V.go (X1.F hp W.2.2.1.1.2.2.2.1 F) R1 (X2.F (M.o (fun a h1 _ => R1 a (Or.inr h1)))) X2.fr W, R1 b (Or.inl hb)⟩
theorem lc_place (V : LV h f b L x s1 v1 pa pb xs S) (A1 A2 A3 : Int32) : ∃ y f1 f2 S', ev M_PT_place 0 0 [some (.ref x), some (.int A1), some (.int A2), some (.int A3)] [] (wI h f) = some (some (.int y), wI h f1) ∧ ev M_Mo_place 0 0 [some (.ref (x + 222)), some (.int A1), some (.int A2), some (.int A3)] [] (wI h f1) = some (some (.int y), wI h f2) ∧ LV h f2 b L x s1 v1 pa pb xs S' ∧ f1 b = f b := by
  obtain ⟨C, F, MC, M, W, ⟨-, -, hb, -⟩, -⟩ := id V
  obtain ⟨f1, e1, X1⟩ := c_place C F W A1 A2 A3
  have hp := C.2.2.2.2.2.2.2.2.2.2.2.2.2.2.2
  have R1 := X1.r hp
  obtain ⟨f2, e2, X2⟩ := m_place MC (M.o (fun a h1 _ => R1 a (Or.inr h1))) W A1 A2 A3
  exact ⟨_, f1, f2, S, e1, e2, V.go (X1.F hp W.2.2.1.1.2.2.2.1 F) R1 (X2.F (M.o (fun a h1 _ => R1 a (Or.inr h1)))) X2.fr W, R1 b (Or.inl hb)⟩
theorem lc_blocks (V : LV h f b L x s1 v1 pa pb xs S) (A1 A2 : Int32) : ∃ y f1 f2 S', ev M_PT_blocks 0 0 [some (.ref x), some (.int A1), some (.int A2)] [] (wI h f) = some (some (.int y), wI h f1) ∧ ev M_Mo_blocks 0 0 [some (.ref (x + 222)), some (.int A1), some (.int A2), none, none] [] (wI h f1) = some (some (.int y), wI h f2) ∧ LV h f2 b L x s1 v1 pa pb xs S' ∧ f1 b = f b := by
  obtain ⟨C, F, MC, M, W, ⟨-, -, hb, -⟩, -⟩ := id V
  obtain ⟨f1, e1, X1⟩ := c_blocks C F W A1 A2
  have hp := C.2.2.2.2.2.2.2.2.2.2.2.2.2.2.2
  have R1 := X1.r hp
  obtain ⟨f2, e2, X2⟩ := m_blocks MC (M.o (fun a h1 _ => R1 a (Or.inr h1))) W A1 A2
  exact ⟨_, f1, f2, S, e1, e2, V.go (X1.F hp W.2.2.1.1.2.2.2.1 F) R1 (X2.F (M.o (fun a h1 _ => R1 a (Or.inr h1)))) X2.fr W, R1 b (Or.inl hb)⟩
theorem lc_row (V : LV h f b L x s1 v1 pa pb xs S) (A1 A2 : Int32) : ∃ y f1 f2 S', ev M_PT_row 0 0 [some (.ref x), some (.int A1), some (.int A2)] [] (wI h f) = some (some (.int y), wI h f1) ∧ ev M_Mo_row 0 0 [some (.ref (x + 222)), some (.int A1), some (.int A2)] [] (wI h f1) = some (some (.int y), wI h f2) ∧ LV h f2 b L x s1 v1 pa pb xs S' ∧ f1 b = f b := by
  obtain ⟨C, F, MC, M, W, ⟨-, -, hb, -⟩, -⟩ := id V
  obtain ⟨f1, e1, F1, R1⟩ := c_row C F W A1 A2
  obtain ⟨f2, e2, M2, R2⟩ := m_row MC (M.o (fun a h1 _ => R1 a (Or.inr h1))) W A1 A2
  exact ⟨_, f1, f2, _, e1, e2, V.go F1 R1 M2 R2 (WS_lays W), R1 b (Or.inl hb)⟩
theorem lc_column (V : LV h f b L x s1 v1 pa pb xs S) (A1 A2 : Int32) : ∃ y f1 f2 S', ev M_PT_column 0 0 [some (.ref x), some (.int A1), some (.int A2)] [] (wI h f) = some (some (.int y), wI h f1) ∧ ev M_Mo_column 0 0 [some (.ref (x + 222)), some (.int A1), some (.int A2)] [] (wI h f1) = some (some (.int y), wI h f2) ∧ LV h f2 b L x s1 v1 pa pb xs S' ∧ f1 b = f b := by
  obtain ⟨C, F, MC, M, W, ⟨-, -, hb, -⟩, -⟩ := id V
  obtain ⟨f1, e1, F1, R1⟩ := c_column C F W A1 A2
  obtain ⟨f2, e2, M2, R2⟩ := m_column MC (M.o (fun a h1 _ => R1 a (Or.inr h1))) W A1 A2
  exact ⟨_, f1, f2, _, e1, e2, V.go F1 R1 M2 R2 (WS_lays W), R1 b (Or.inl hb)⟩
theorem lc_rect (V : LV h f b L x s1 v1 pa pb xs S) (A1 A2 A3 A4 A5 : Int32) : ∃ y f1 f2 S', ev M_PT_rect 0 0 [some (.ref x), some (.int A1), some (.int A2), some (.int A3), some (.int A4), some (.int A5)] [] (wI h f) = some (some (.int y), wI h f1) ∧ ev M_Mo_rect 0 0 [some (.ref (x + 222)), some (.int A1), some (.int A2), some (.int A3), some (.int A4), some (.int A5), none, none, none] [] (wI h f1) = some (some (.int y), wI h f2) ∧ LV h f2 b L x s1 v1 pa pb xs S' ∧ f1 b = f b := by
  obtain ⟨C, F, MC, M, W, ⟨-, -, hb, -⟩, -⟩ := id V
  obtain ⟨f1, e1, X1⟩ := c_rect C F W A1 A2 A3 A4 A5
  have hp := C.2.2.2.2.2.2.2.2.2.2.2.2.2.2.2
  have R1 := X1.r hp
  obtain ⟨f2, e2, X2⟩ := m_rect MC (M.o (fun a h1 _ => R1 a (Or.inr h1))) W A1 A2 A3 A4 A5
  exact ⟨_, f1, f2, S, e1, e2, V.go (X1.F hp W.2.2.1.1.2.2.2.1 F) R1 (X2.F (M.o (fun a h1 _ => R1 a (Or.inr h1)))) X2.fr W, R1 b (Or.inl hb)⟩
theorem lc_looks (V : LV h f b L x s1 v1 pa pb xs S) (A1 A2 A3 A4 A5 : Int32) : ∃ y f1 f2 S', ev M_PT_looks 0 0 [some (.ref x), some (.int A1), some (.int A2), some (.int A3), some (.int A4), some (.int A5)] [] (wI h f) = some (some (.int y), wI h f1) ∧ ev M_Mo_looks 0 0 [some (.ref (x + 222)), some (.int A1), some (.int A2), some (.int A3), some (.int A4), some (.int A5), none, none, none] [] (wI h f1) = some (some (.int y), wI h f2) ∧ LV h f2 b L x s1 v1 pa pb xs S' ∧ f1 b = f b := by
  obtain ⟨C, F, MC, M, W, ⟨-, -, hb, -⟩, -⟩ := id V
  obtain ⟨f1, e1, X1⟩ := c_looks C F W A1 A2 A3 A4 A5
  have hp := C.2.2.2.2.2.2.2.2.2.2.2.2.2.2.2
  have R1 := X1.r hp
  obtain ⟨f2, e2, X2⟩ := m_looks MC (M.o (fun a h1 _ => R1 a (Or.inr h1))) W A1 A2 A3 A4 A5
  exact ⟨_, f1, f2, S, e1, e2, V.go (X1.F hp W.2.2.1.1.2.2.2.1 F) R1 (X2.F (M.o (fun a h1 _ => R1 a (Or.inr h1)))) X2.fr W, R1 b (Or.inl hb)⟩
theorem lc_walks (V : LV h f b L x s1 v1 pa pb xs S) (A1 A2 : Int32) : ∃ y f1 f2 S', ev M_PT_walks 0 0 [some (.ref x), some (.int A1), some (.int A2)] [] (wI h f) = some (some (.int y), wI h f1) ∧ ev M_Mo_walks 0 0 [some (.ref (x + 222)), some (.int A1), some (.int A2), none, none, none, none] [] (wI h f1) = some (some (.int y), wI h f2) ∧ LV h f2 b L x s1 v1 pa pb xs S' ∧ f1 b = f b := by
  obtain ⟨C, F, MC, M, W, ⟨-, -, hb, -⟩, -⟩ := id V
  obtain ⟨f1, e1, X1⟩ := c_walks C F W A1 A2
  have hp := C.2.2.2.2.2.2.2.2.2.2.2.2.2.2.2
  have R1 := X1.r hp
  obtain ⟨f2, e2, X2⟩ := m_walks MC (M.o (fun a h1 _ => R1 a (Or.inr h1))) W A1 A2
  exact ⟨_, f1, f2, S, e1, e2, V.go (X1.F hp W.2.2.1.1.2.2.2.1 F) R1 (X2.F (M.o (fun a h1 _ => R1 a (Or.inr h1)))) X2.fr W, R1 b (Or.inl hb)⟩
theorem lc_products (V : LV h f b L x s1 v1 pa pb xs S) (A1 A2 : Int32) : ∃ y f1 f2 S', ev M_PT_products 0 0 [some (.ref x), some (.int A1), some (.int A2)] [] (wI h f) = some (some (.int y), wI h f1) ∧ ev M_Mo_products 0 0 [some (.ref (x + 222)), some (.int A1), some (.int A2), none, none, none, none, none] [] (wI h f1) = some (some (.int y), wI h f2) ∧ LV h f2 b L x s1 v1 pa pb xs S' ∧ f1 b = f b := by
  obtain ⟨C, F, MC, M, W, ⟨-, -, hb, -⟩, -⟩ := id V
  obtain ⟨f1, e1, X1⟩ := c_products C F W A1 A2
  have hp := C.2.2.2.2.2.2.2.2.2.2.2.2.2.2.2
  have R1 := X1.r hp
  obtain ⟨f2, e2, X2⟩ := m_products MC (M.o (fun a h1 _ => R1 a (Or.inr h1))) W A1 A2
  exact ⟨_, f1, f2, S, e1, e2, V.go (X1.F hp W.2.2.1.1.2.2.2.1 F) R1 (X2.F (M.o (fun a h1 _ => R1 a (Or.inr h1)))) X2.fr W, R1 b (Or.inl hb)⟩
theorem lc_would (V : LV h f b L x s1 v1 pa pb xs S) (A1 A2 A3 A4 : Int32) : ∃ y f1 f2 S', ev M_PT_would 0 0 [some (.ref x), some (.int A1), some (.int A2), some (.int A3), some (.int A4)] [] (wI h f) = some (some (.int y), wI h f1) ∧ ev M_Mo_would 0 0 [some (.ref (x + 222)), some (.int A1), some (.int A2), some (.int A3), some (.int A4)] [] (wI h f1) = some (some (.int y), wI h f2) ∧ LV h f2 b L x s1 v1 pa pb xs S' ∧ f1 b = f b := by
  obtain ⟨C, F, MC, M, W, ⟨-, -, hb, -⟩, -⟩ := id V
  obtain ⟨f1, e1, X1⟩ := c_would C F W A1 A2 A3 A4
  have hp := C.2.2.2.2.2.2.2.2.2.2.2.2.2.2.2
  have R1 := X1.r hp
  obtain ⟨f2, e2, X2⟩ := m_would MC (M.o (fun a h1 _ => R1 a (Or.inr h1))) W A1 A2 A3 A4
  exact ⟨_, f1, f2, S, e1, e2, V.go (X1.F hp W.2.2.1.1.2.2.2.1 F) R1 (X2.F (M.o (fun a h1 _ => R1 a (Or.inr h1)))) X2.fr W, R1 b (Or.inl hb)⟩
theorem lc_pair (V : LV h f b L x s1 v1 pa pb xs S) (A1 A2 A3 : Int32) : ∃ y f1 f2 S', ev M_PT_pair 0 0 [some (.ref x), some (.int A1), some (.int A2), some (.int A3), none] [] (wI h f) = some (some (.int y), wI h f1) ∧ ev M_Mo_pair 0 0 [some (.ref (x + 222)), some (.int A1), some (.int A2), some (.int A3), none, none, none] [] (wI h f1) = some (some (.int y), wI h f2) ∧ LV h f2 b L x s1 v1 pa pb xs S' ∧ f1 b = f b := by
  obtain ⟨C, F, MC, M, W, ⟨-, -, hb, -⟩, -⟩ := id V
  obtain ⟨f1, e1, X1⟩ := c_pair C F W A1 A2 A3
  have hp := C.2.2.2.2.2.2.2.2.2.2.2.2.2.2.2
  have R1 := X1.r hp
  obtain ⟨f2, e2, X2⟩ := m_pair MC (M.o (fun a h1 _ => R1 a (Or.inr h1))) W A1 A2 A3
  exact ⟨_, f1, f2, S, e1, e2, V.go (X1.F hp W.2.2.1.1.2.2.2.1 F) R1 (X2.F (M.o (fun a h1 _ => R1 a (Or.inr h1)))) X2.fr W, R1 b (Or.inl hb)⟩
theorem lc_unlike (V : LV h f b L x s1 v1 pa pb xs S) (A1 A2 : Int32) : ∃ y f1 f2 S', ev M_PT_unlike 0 0 [some (.ref x), some (.int A1), some (.int A2), none] [] (wI h f) = some (some (.int y), wI h f1) ∧ ev M_Mo_unlike 0 0 [some (.ref (x + 222)), some (.int A1), some (.int A2), none, none] [] (wI h f1) = some (some (.int y), wI h f2) ∧ LV h f2 b L x s1 v1 pa pb xs S' ∧ f1 b = f b := by
  obtain ⟨C, F, MC, M, W, ⟨-, -, hb, -⟩, -⟩ := id V
  obtain ⟨f1, e1, X1⟩ := c_unlike C F W A1 A2
  have hp := C.2.2.2.2.2.2.2.2.2.2.2.2.2.2.2
  have R1 := X1.r hp
  obtain ⟨f2, e2, X2⟩ := m_unlike MC (M.o (fun a h1 _ => R1 a (Or.inr h1))) W A1 A2
  exact ⟨_, f1, f2, S, e1, e2, V.go (X1.F hp W.2.2.1.1.2.2.2.1 F) R1 (X2.F (M.o (fun a h1 _ => R1 a (Or.inr h1)))) X2.fr W, R1 b (Or.inl hb)⟩
theorem lc_within (V : LV h f b L x s1 v1 pa pb xs S) (A1 A2 : Int32) : ∃ y f1 f2 S', ev M_PT_within 0 0 [some (.ref x), some (.int A1), some (.int A2)] [] (wI h f) = some (some (.int y), wI h f1) ∧ ev M_Mo_within 0 0 [some (.ref (x + 222)), some (.int A1), some (.int A2), none, none] [] (wI h f1) = some (some (.int y), wI h f2) ∧ LV h f2 b L x s1 v1 pa pb xs S' ∧ f1 b = f b := by
  obtain ⟨C, F, MC, M, W, ⟨-, -, hb, -⟩, -⟩ := id V
  obtain ⟨f1, e1, X1⟩ := c_within C F W A1 A2
  have hp := C.2.2.2.2.2.2.2.2.2.2.2.2.2.2.2
  have R1 := X1.r hp
  obtain ⟨f2, e2, X2⟩ := m_within MC (M.o (fun a h1 _ => R1 a (Or.inr h1))) W A1 A2
  exact ⟨_, f1, f2, S, e1, e2, V.go (X1.F hp W.2.2.1.1.2.2.2.1 F) R1 (X2.F (M.o (fun a h1 _ => R1 a (Or.inr h1)))) X2.fr W, R1 b (Or.inl hb)⟩
theorem lc_busiest (V : LV h f b L x s1 v1 pa pb xs S) (A1 A2 : Int32) : ∃ y f1 f2 S', ev M_PT_busiest 0 0 [some (.ref x), some (.int A1), some (.int A2), none, none, none, none, none] [] (wI h f) = some (some (.int y), wI h f1) ∧ ev M_Mo_busiest 0 0 [some (.ref (x + 222)), some (.int A1), some (.int A2), none, none, none, none] [] (wI h f1) = some (some (.int y), wI h f2) ∧ LV h f2 b L x s1 v1 pa pb xs S' ∧ f1 b = f b := by
  obtain ⟨C, F, MC, M, W, ⟨-, -, hb, -⟩, -⟩ := id V
  obtain ⟨f1, e1, X1⟩ := c_busiest C F W A1 A2
  have hp := C.2.2.2.2.2.2.2.2.2.2.2.2.2.2.2
  have R1 := X1.r hp
  obtain ⟨f2, e2, X2⟩ := m_busiest MC (M.o (fun a h1 _ => R1 a (Or.inr h1))) W A1 A2
  exact ⟨_, f1, f2, S, e1, e2, V.go (X1.F hp W.2.2.1.1.2.2.2.1 F) R1 (X2.F (M.o (fun a h1 _ => R1 a (Or.inr h1)))) X2.fr W, R1 b (Or.inl hb)⟩
theorem lc_densest (V : LV h f b L x s1 v1 pa pb xs S) (A1 A2 A3 : Int32) : ∃ y f1 f2 S', ev M_PT_densest 0 0 [some (.ref x), some (.int A1), some (.int A2), some (.int A3), none, none, none, none, none] [] (wI h f) = some (some (.int y), wI h f1) ∧ ev M_Mo_densest 0 0 [some (.ref (x + 222)), some (.int A1), some (.int A2), some (.int A3), none, none, none, none, none, none, none] [] (wI h f1) = some (some (.int y), wI h f2) ∧ LV h f2 b L x s1 v1 pa pb xs S' ∧ f1 b = f b := by
  obtain ⟨C, F, MC, M, W, ⟨-, -, hb, -⟩, -⟩ := id V
  obtain ⟨f1, e1, X1⟩ := c_densest C F W A1 A2 A3
  have hp := C.2.2.2.2.2.2.2.2.2.2.2.2.2.2.2
  have R1 := X1.r hp
  obtain ⟨f2, e2, X2⟩ := m_densest MC (M.o (fun a h1 _ => R1 a (Or.inr h1))) W A1 A2 A3
  exact ⟨_, f1, f2, S, e1, e2, V.go (X1.F hp W.2.2.1.1.2.2.2.1 F) R1 (X2.F (M.o (fun a h1 _ => R1 a (Or.inr h1)))) X2.fr W, R1 b (Or.inl hb)⟩
theorem lc_reached (V : LV h f b L x s1 v1 pa pb xs S) (A1 A2 : Int32) : ∃ y f1 f2 S', ev M_PT_reached 0 0 [some (.ref x), some (.int A1), some (.int A2)] [] (wI h f) = some (some (.int y), wI h f1) ∧ ev M_Mo_reached 0 0 [some (.ref (x + 222)), some (.int A1), some (.int A2)] [] (wI h f1) = some (some (.int y), wI h f2) ∧ LV h f2 b L x s1 v1 pa pb xs S' ∧ f1 b = f b := by
  obtain ⟨C, F, MC, M, W, ⟨-, -, hb, -⟩, -⟩ := id V
  obtain ⟨f1, e1, X1⟩ := c_reached C F W A1 A2
  have hp := C.2.2.2.2.2.2.2.2.2.2.2.2.2.2.2
  have R1 := X1.r hp
  obtain ⟨f2, e2, X2⟩ := m_reached MC (M.o (fun a h1 _ => R1 a (Or.inr h1))) W A1 A2
  exact ⟨_, f1, f2, S, e1, e2, V.go (X1.F hp W.2.2.1.1.2.2.2.1 F) R1 (X2.F (M.o (fun a h1 _ => R1 a (Or.inr h1)))) X2.fr W, R1 b (Or.inl hb)⟩
theorem lc_far (V : LV h f b L x s1 v1 pa pb xs S) (A1 A2 A3 : Int32) : ∃ y f1 f2 S', ev M_PT_far 0 0 [some (.ref x), some (.int A1), some (.int A2), some (.int A3)] [] (wI h f) = some (some (.int y), wI h f1) ∧ ev M_Mo_far 0 0 [some (.ref (x + 222)), some (.int A1), some (.int A2), some (.int A3), none, none] [] (wI h f1) = some (some (.int y), wI h f2) ∧ LV h f2 b L x s1 v1 pa pb xs S' ∧ f1 b = f b := by
  obtain ⟨C, F, MC, M, W, ⟨-, -, hb, -⟩, -⟩ := id V
  obtain ⟨f1, e1, X1⟩ := c_far C F W A1 A2 A3
  have hp := C.2.2.2.2.2.2.2.2.2.2.2.2.2.2.2
  have R1 := X1.r hp
  obtain ⟨f2, e2, X2⟩ := m_far MC (M.o (fun a h1 _ => R1 a (Or.inr h1))) W A1 A2 A3
  exact ⟨_, f1, f2, S, e1, e2, V.go (X1.F hp W.2.2.1.1.2.2.2.1 F) R1 (X2.F (M.o (fun a h1 _ => R1 a (Or.inr h1)))) X2.fr W, R1 b (Or.inl hb)⟩
theorem lc_mutual (V : LV h f b L x s1 v1 pa pb xs S) (A1 A2 : Int32) : ∃ y f1 f2 S', ev M_PT_mutual 0 0 [some (.ref x), some (.int A1), some (.int A2)] [] (wI h f) = some (some (.int y), wI h f1) ∧ ev M_Mo_mutual 0 0 [some (.ref (x + 222)), some (.int A1), some (.int A2), none, none, none] [] (wI h f1) = some (some (.int y), wI h f2) ∧ LV h f2 b L x s1 v1 pa pb xs S' ∧ f1 b = f b := by
  obtain ⟨C, F, MC, M, W, ⟨-, -, hb, -⟩, -⟩ := id V
  obtain ⟨f1, e1, X1⟩ := c_mutual C F W A1 A2
  have hp := C.2.2.2.2.2.2.2.2.2.2.2.2.2.2.2
  have R1 := X1.r hp
  obtain ⟨f2, e2, X2⟩ := m_mutual MC (M.o (fun a h1 _ => R1 a (Or.inr h1))) W A1 A2
  exact ⟨_, f1, f2, S, e1, e2, V.go (X1.F hp W.2.2.1.1.2.2.2.1 F) R1 (X2.F (M.o (fun a h1 _ => R1 a (Or.inr h1)))) X2.fr W, R1 b (Or.inl hb)⟩
theorem lc_closure (V : LV h f b L x s1 v1 pa pb xs S) (A1 : Int32) : ∃ y f1 f2 S', ev M_PT_closure 0 0 [some (.ref x), some (.int A1)] [] (wI h f) = some (some (.int y), wI h f1) ∧ ev M_Mo_closure 0 0 [some (.ref (x + 222)), some (.int A1), none, none, none, none] [] (wI h f1) = some (some (.int y), wI h f2) ∧ LV h f2 b L x s1 v1 pa pb xs S' ∧ f1 b = f b := by
  obtain ⟨C, F, MC, M, W, ⟨-, -, hb, -⟩, -⟩ := id V
  obtain ⟨f1, e1, X1⟩ := c_closure C F W A1
  have hp := C.2.2.2.2.2.2.2.2.2.2.2.2.2.2.2
  have R1 := X1.r hp
  obtain ⟨f2, e2, X2⟩ := m_closure MC (M.o (fun a h1 _ => R1 a (Or.inr h1))) W A1
  exact ⟨_, f1, f2, S, e1, e2, V.go (X1.F hp W.2.2.1.1.2.2.2.1 F) R1 (X2.F (M.o (fun a h1 _ => R1 a (Or.inr h1)))) X2.fr W, R1 b (Or.inl hb)⟩
theorem lc_settles (V : LV h f b L x s1 v1 pa pb xs S) (A1 : Int32) : ∃ y f1 f2 S', ev M_PT_settles 0 0 [some (.ref x), some (.int A1)] [] (wI h f) = some (some (.int y), wI h f1) ∧ ev M_Mo_settles 0 0 [some (.ref (x + 222)), some (.int A1), none, none, none] [] (wI h f1) = some (some (.int y), wI h f2) ∧ LV h f2 b L x s1 v1 pa pb xs S' ∧ f1 b = f b := by
  obtain ⟨C, F, MC, M, W, ⟨-, -, hb, -⟩, -⟩ := id V
  obtain ⟨f1, e1, X1⟩ := c_settles C F W A1
  have hp := C.2.2.2.2.2.2.2.2.2.2.2.2.2.2.2
  have R1 := X1.r hp
  obtain ⟨f2, e2, X2⟩ := m_settles MC (M.o (fun a h1 _ => R1 a (Or.inr h1))) W A1
  exact ⟨_, f1, f2, S, e1, e2, V.go (X1.F hp W.2.2.1.1.2.2.2.1 F) R1 (X2.F (M.o (fun a h1 _ => R1 a (Or.inr h1)))) X2.fr W, R1 b (Or.inl hb)⟩
theorem lc_parts (V : LV h f b L x s1 v1 pa pb xs S) (A1 : Int32) : ∃ y f1 f2 S', ev M_PT_parts 0 0 [some (.ref x), some (.int A1)] [] (wI h f) = some (some (.int y), wI h f1) ∧ ev M_Mo_parts 0 0 [some (.ref (x + 222)), some (.int A1), none, none, none, none, none, none] [] (wI h f1) = some (some (.int y), wI h f2) ∧ LV h f2 b L x s1 v1 pa pb xs S' ∧ f1 b = f b := by
  obtain ⟨C, F, MC, M, W, ⟨-, -, hb, -⟩, -⟩ := id V
  obtain ⟨f1, e1, X1⟩ := c_parts C F W A1
  have hp := C.2.2.2.2.2.2.2.2.2.2.2.2.2.2.2
  have R1 := X1.r hp
  obtain ⟨f2, e2, X2⟩ := m_parts MC (M.o (fun a h1 _ => R1 a (Or.inr h1))) W A1
  exact ⟨_, f1, f2, S, e1, e2, V.go (X1.F hp W.2.2.1.1.2.2.2.1 F) R1 (X2.F (M.o (fun a h1 _ => R1 a (Or.inr h1)))) X2.fr W, R1 b (Or.inl hb)⟩
theorem lc_is (V : LV h f b L x s1 v1 pa pb xs S) (A1 A2 : Int32) : ∃ y f1 f2 S', ev M_PT_is 0 0 [some (.ref x), some (.int A1), some (.int A2)] [] (wI h f) = some (some (.int y), wI h f1) ∧ ev M_Mo_is 0 0 [some (.ref (x + 222)), some (.int A1), some (.int A2), none, none] [] (wI h f1) = some (some (.int y), wI h f2) ∧ LV h f2 b L x s1 v1 pa pb xs S' ∧ f1 b = f b := by
  obtain ⟨C, F, MC, M, W, ⟨-, -, hb, -⟩, -⟩ := id V
  obtain ⟨f1, e1, X1⟩ := c_is C F W A1 A2
  have hp := C.2.2.2.2.2.2.2.2.2.2.2.2.2.2.2
  have R1 := X1.r hp
  obtain ⟨f2, e2, X2⟩ := m_is MC (M.o (fun a h1 _ => R1 a (Or.inr h1))) W A1 A2
  exact ⟨_, f1, f2, S, e1, e2, V.go (X1.F hp W.2.2.1.1.2.2.2.1 F) R1 (X2.F (M.o (fun a h1 _ => R1 a (Or.inr h1)))) X2.fr W, R1 b (Or.inl hb)⟩
theorem lc_law (V : LV h f b L x s1 v1 pa pb xs S) (A1 A2 : Int32) : ∃ y f1 f2 S', ev M_PT_law 0 0 [some (.ref x), some (.int A1), some (.int A2), none] [] (wI h f) = some (some (.int y), wI h f1) ∧ ev M_Mo_law 0 0 [some (.ref (x + 222)), some (.int A1), some (.int A2)] [] (wI h f1) = some (some (.int y), wI h f2) ∧ LV h f2 b L x s1 v1 pa pb xs S' ∧ f1 b = f b := by
  obtain ⟨C, F, MC, M, W, ⟨-, -, hb, -⟩, -⟩ := id V
  obtain ⟨f1, e1, X1⟩ := c_law C F W A1 A2
  have hp := C.2.2.2.2.2.2.2.2.2.2.2.2.2.2.2
  have R1 := X1.r hp
  obtain ⟨f2, e2, X2⟩ := m_law MC (M.o (fun a h1 _ => R1 a (Or.inr h1))) W A1 A2
  exact ⟨_, f1, f2, S, e1, e2, V.go (X1.F hp W.2.2.1.1.2.2.2.1 F) R1 (X2.F (M.o (fun a h1 _ => R1 a (Or.inr h1)))) X2.fr W, R1 b (Or.inl hb)⟩
theorem lc_odds (V : LV h f b L x s1 v1 pa pb xs S) (A1 A2 : Int32) : ∃ y f1 f2 S', ev M_PT_odds 0 0 [some (.ref x), some (.int A1), some (.int A2), none, none, none] [] (wI h f) = some (some (.int y), wI h f1) ∧ ev M_Mo_odds 0 0 [some (.ref (x + 222)), some (.int A1), some (.int A2), none, none, none] [] (wI h f1) = some (some (.int y), wI h f2) ∧ LV h f2 b L x s1 v1 pa pb xs S' ∧ f1 b = f b := by
  obtain ⟨C, F, MC, M, W, ⟨-, -, hb, -⟩, -⟩ := id V
  exact ⟨_, f, f, S, c_odds C F W A1 A2, m_odds MC M W A1 A2, V, rfl⟩
theorem lc_lies (V : LV h f b L x s1 v1 pa pb xs S) (A1 : Int32) : ∃ y f1 f2 S', ev M_PT_lies 0 0 [some (.ref x), some (.int A1)] [] (wI h f) = some (some (.int y), wI h f1) ∧ ev M_Mo_lies 0 0 [some (.ref (x + 222)), some (.int A1)] [] (wI h f1) = some (some (.int y), wI h f2) ∧ LV h f2 b L x s1 v1 pa pb xs S' ∧ f1 b = f b := by
  obtain ⟨C, F, MC, M, W, ⟨-, -, hb, -⟩, -⟩ := id V
  exact ⟨_, f, f, S, c_lies C F W A1, m_lies MC M W A1, V, rfl⟩
theorem lc_untell (V : LV h f b L x s1 v1 pa pb xs S) (A1 : Int32) : ∃ y f1 f2 S', ev M_PT_untell 0 0 [some (.ref x), some (.int A1)] [] (wI h f) = some (some (.int y), wI h f1) ∧ ev M_Mo_untell 0 0 [some (.ref (x + 222)), some (.int A1)] [] (wI h f1) = some (some (.int y), wI h f2) ∧ LV h f2 b L x s1 v1 pa pb xs S' ∧ f1 b = f b := by
  obtain ⟨C, F, MC, M, W, ⟨-, -, hb, -⟩, -⟩ := id V
  obtain ⟨f1, e1, F1, R1⟩ := c_untell C F W A1
  obtain ⟨f2, e2, M2, R2⟩ := m_untell MC (M.o (fun a h1 _ => R1 a (Or.inr h1))) W A1
  exact ⟨_, f1, f2, _, e1, e2, V.go F1 R1 M2 R2 (WS_untell W), R1 b (Or.inl hb)⟩
theorem lc_later (V : LV h f b L x s1 v1 pa pb xs S) (A1 : Int32) : ∃ y f1 f2 S', ev M_PT_later 0 0 [some (.ref x), some (.int A1)] [] (wI h f) = some (some (.int y), wI h f1) ∧ ev M_Mo_later 0 0 [some (.ref (x + 222)), some (.int A1)] [] (wI h f1) = some (some (.int y), wI h f2) ∧ LV h f2 b L x s1 v1 pa pb xs S' ∧ f1 b = f b := by
  obtain ⟨C, F, MC, M, W, ⟨-, -, hb, -⟩, -⟩ := id V
  obtain ⟨f1, e1, F1, R1⟩ := c_later C F W A1
  obtain ⟨f2, e2, M2, R2⟩ := m_later MC (M.o (fun a h1 _ => R1 a (Or.inr h1))) W A1
  exact ⟨_, f1, f2, _, e1, e2, V.go F1 R1 M2 R2 (WS_later W), R1 b (Or.inl hb)⟩
theorem lc_fits (V : LV h f b L x s1 v1 pa pb xs S) (A1 : Int32) : ∃ y f1 f2 S', ev M_PT_fits 0 0 [some (.ref x), some (.int A1)] [] (wI h f) = some (some (.int y), wI h f1) ∧ ev M_Mo_fits 0 0 [some (.ref (x + 222)), some (.int A1), none, none] [] (wI h f1) = some (some (.int y), wI h f2) ∧ LV h f2 b L x s1 v1 pa pb xs S' ∧ f1 b = f b := by
  obtain ⟨C, F, MC, M, W, ⟨-, -, hb, -⟩, -⟩ := id V
  obtain ⟨f1, e1, X1⟩ := c_fits C F W A1
  have hp := C.2.2.2.2.2.2.2.2.2.2.2.2.2.2.2
  have R1 := X1.r hp
  obtain ⟨f2, e2, X2⟩ := m_fits MC (M.o (fun a h1 _ => R1 a (Or.inr h1))) W A1
  exact ⟨_, f1, f2, S, e1, e2, V.go (X1.F hp W.2.2.1.1.2.2.2.1 F) R1 (X2.F (M.o (fun a h1 _ => R1 a (Or.inr h1)))) X2.fr W, R1 b (Or.inl hb)⟩
theorem lc_fit (V : LV h f b L x s1 v1 pa pb xs S) (A1 A2 : Int32) : ∃ y f1 f2 S', ev M_PT_fit 0 0 [some (.ref x), some (.int A1), some (.int A2)] [] (wI h f) = some (some (.int y), wI h f1) ∧ ev M_Mo_fit 0 0 [some (.ref (x + 222)), some (.int A1), some (.int A2), none, none] [] (wI h f1) = some (some (.int y), wI h f2) ∧ LV h f2 b L x s1 v1 pa pb xs S' ∧ f1 b = f b := by
  obtain ⟨C, F, MC, M, W, ⟨-, -, hb, -⟩, -⟩ := id V
  obtain ⟨f1, e1, X1⟩ := c_fit C F W A1 A2
  have hp := C.2.2.2.2.2.2.2.2.2.2.2.2.2.2.2
  have R1 := X1.r hp
  obtain ⟨f2, e2, X2⟩ := m_fit MC (M.o (fun a h1 _ => R1 a (Or.inr h1))) W A1 A2
  exact ⟨_, f1, f2, S, e1, e2, V.go (X1.F hp W.2.2.1.1.2.2.2.1 F) R1 (X2.F (M.o (fun a h1 _ => R1 a (Or.inr h1)))) X2.fr W, R1 b (Or.inl hb)⟩
theorem lc_ask (V : LV h f b L x s1 v1 pa pb xs S) (A1 A2 A3 : Int32) : ∃ y f1 f2 S', ev M_PT_ask 0 0 [some (.ref x), some (.int A1), some (.int A2), some (.int A3)] [] (wI h f) = some (some (.int y), wI h f1) ∧ ev M_Mo_ask 0 0 [some (.ref (x + 222)), some (.int A1), some (.int A2), some (.int A3), none, none, none, none, none] [] (wI h f1) = some (some (.int y), wI h f2) ∧ LV h f2 b L x s1 v1 pa pb xs S' ∧ f1 b = f b := by
  obtain ⟨C, F, MC, M, W, ⟨-, -, hb, -⟩, -⟩ := id V
  obtain ⟨f1, e1, X1⟩ := c_ask C F W A1 A2 A3
  have hp := C.2.2.2.2.2.2.2.2.2.2.2.2.2.2.2
  have R1 := X1.r hp
  obtain ⟨f2, e2, X2⟩ := m_ask MC (M.o (fun a h1 _ => R1 a (Or.inr h1))) W A1 A2 A3
  exact ⟨_, f1, f2, S, e1, e2, V.go (X1.F hp W.2.2.1.1.2.2.2.1 F) R1 (X2.F (M.o (fun a h1 _ => R1 a (Or.inr h1)))) X2.fr W, R1 b (Or.inl hb)⟩
theorem lc_image (V : LV h f b L x s1 v1 pa pb xs S) (A1 : Int32) : ∃ y f1 f2 S', ev M_PT_image 0 0 [some (.ref x), some (.int A1)] [] (wI h f) = some (some (.int y), wI h f1) ∧ ev M_Mo_image 0 0 [some (.ref (x + 222)), some (.int A1), none] [] (wI h f1) = some (some (.int y), wI h f2) ∧ LV h f2 b L x s1 v1 pa pb xs S' ∧ f1 b = f b := by
  obtain ⟨C, F, MC, M, W, ⟨-, -, hb, -⟩, -⟩ := id V
  obtain ⟨f1, e1, F1, R1⟩ := c_image C F W A1
  obtain ⟨f2, e2, M2, R2⟩ := m_image MC (M.o (fun a h1 _ => R1 a (Or.inr h1))) W A1
  exact ⟨_, f1, f2, _, e1, e2, V.go F1 R1 M2 R2 (WS_img W), R1 b (Or.inl hb)⟩
theorem lc_back (V : LV h f b L x s1 v1 pa pb xs S) (A1 : Int32) : ∃ y f1 f2 S', ev M_PT_back 0 0 [some (.ref x), some (.int A1)] [] (wI h f) = some (some (.int y), wI h f1) ∧ ev M_Mo_back 0 0 [some (.ref (x + 222)), some (.int A1), none] [] (wI h f1) = some (some (.int y), wI h f2) ∧ LV h f2 b L x s1 v1 pa pb xs S' ∧ f1 b = f b := by
  obtain ⟨C, F, MC, M, W, ⟨-, -, hb, -⟩, -⟩ := id V
  obtain ⟨f1, e1, F1, R1⟩ := c_back C F W A1
  obtain ⟨f2, e2, M2, R2⟩ := m_back MC (M.o (fun a h1 _ => R1 a (Or.inr h1))) W A1
  exact ⟨_, f1, f2, _, e1, e2, V.go F1 R1 M2 R2 (WS_back W), R1 b (Or.inl hb)⟩
theorem lc_about (V : LV h f b L x s1 v1 pa pb xs S) (A1 : Int32) : ∃ y f1 f2 S', ev M_PT_about 0 0 [some (.ref x), some (.int A1)] [] (wI h f) = some (some (.int y), wI h f1) ∧ ev M_Mo_about 0 0 [some (.ref (x + 222)), some (.int A1)] [] (wI h f1) = some (some (.int y), wI h f2) ∧ LV h f2 b L x s1 v1 pa pb xs S' ∧ f1 b = f b := by
  obtain ⟨C, F, MC, M, W, ⟨-, -, hb, -⟩, -⟩ := id V
  exact ⟨_, f, f, S, c_about C F W A1, m_about MC M W A1, V, rfl⟩
theorem lc_seen (V : LV h f b L x s1 v1 pa pb xs S) (A1 A2 A3 : Int32) (is : Bool) : ∃ y f1 f2 S', ev M_PT_seen 0 0 [some (.ref x), some (.int A1), some (.int A2), some (.int A3), some (.int (nI is.toNat))] [] (wI h f) = some (some (.int y), wI h f1) ∧ ev M_Mo_seen 0 0 [some (.ref (x + 222)), some (.int A1), some (.int A2), some (.int A3), some (.int (nI is.toNat))] [] (wI h f1) = some (some (.int y), wI h f2) ∧ LV h f2 b L x s1 v1 pa pb xs S' ∧ f1 b = f b := by
  obtain ⟨C, F, MC, M, W, ⟨-, -, hb, -⟩, -⟩ := id V
  obtain ⟨f1, e1, F1, R1⟩ := c_seen C F W A1 A2 A3 is
  obtain ⟨f2, e2, M2, R2⟩ := m_seen MC (M.o (fun a h1 _ => R1 a (Or.inr h1))) W A1 A2 A3 is
  exact ⟨_, f1, f2, _, e1, e2, V.go F1 R1 M2 R2 (WS_seen W), R1 b (Or.inl hb)⟩
end
