/-! The law, from its entry. -/
theorem RS.q {h h' : MH} {q p : Nat} (T : RS h q p) (m : ∀ a, q ≤ a → a < q + 47 → Se h h' a) : RS h' q p := by
  obtain ⟨r1, r2, r3, r4, r5, r6, r7, r8, r9, r10, r11, r12⟩ := T
  have e0 := m q (by omega) (by omega)
  have e1 := m (q + 1) (by omega) (by omega)
  have e2 := m (q + 2) (by omega) (by omega)
  exact ⟨by rw [e0.1]; exact r1, by rw [e0.2.2.1]; exact r2, by rw [e1.1]; exact r3, by rw [e1.2.1]; exact r4, fun k hk => ⟨by rw [e1.2.2.1]; exact (r5 k hk).1, (r5 k hk).2.q (fun b h1 h2 => m b (by omega) (by omega))⟩, by rw [e0.2.2.1]; exact r6, by rw [e2.1]; exact r7, by rw [e2.2.1]; exact r8, fun i hi => ⟨by rw [e2.2.2.1]; exact (r9 i hi).1, (r9 i hi).2.q (fun b h1 h2 => m b (by omega) (by omega))⟩, by rw [e0.2.2.1]; exact r10, r11.q (fun b h1 h2 => m b (by omega) (by omega)), by rw [e0.2.2.1]; exact r12⟩
theorem CSH.q {h h' : MH} {x pa pb s1 v1 : Nat} (C : CSH h x pa pb s1 v1) (m : ∀ a, a < x + 222 → Se h h' a) : CSH h' x pa pb s1 v1 := by
  obtain ⟨⟨c0, q0, q2, q3, q4, q5, q6, q7, q8, q9, q10, q11, q12, q13⟩, PA, PB, RSH, HSH, ⟨bC, bN, bR⟩, ISH, TSH, TSH2, GSH, SSH, ⟨lC, lN1, tC, tN⟩, ⟨rC, rR1, sC, sR1, wC, wN⟩, ⟨st1, st2, st3, st4, st5, st6⟩, ⟨sx1, sx2, x0⟩, PP⟩ := C
  have e := m x (by omega)
  have mC : ∀ a, a < x + 222 → hC h' a = hC h a := fun a ha => (m a ha).1
  have mN : ∀ a, a < x + 222 → hN h' a = hN h a := fun a ha => (m a ha).2.1
  have mR : ∀ a, a < x + 222 → hR h' a = hR h a := fun a ha => (m a ha).2.2.1
  refine ⟨⟨by rw [e.1]; exact c0, by rw [e.2.2.1]; exact q0, by rw [e.2.2.1]; exact q2, by rw [e.2.2.1]; exact q3, by rw [e.2.2.1]; exact q4, by rw [e.2.2.1]; exact q5, by rw [e.2.2.1]; exact q6, by rw [e.2.2.1]; exact q7, by rw [e.2.2.1]; exact q8, by rw [e.2.2.1]; exact q9, by rw [e.2.2.1]; exact q10, by rw [e.2.2.1]; exact q11, by rw [e.2.2.1]; exact q12, by rw [e.2.2.1]; exact q13⟩, PA.q (fun b h1 h2 => m b (by omega)), PB.q (fun b h1 h2 => m b (by omega)), RSH.q (fun b h1 h2 => m b (by omega)), HSH.q (fun b h1 h2 => m b (by omega)), ⟨by rw [mC _ (by omega)]; exact bC, by rw [mN _ (by omega)]; exact bN, fun b hb => ⟨by rw [mR _ (by omega)]; exact (bR b hb).1, (bR b hb).2.q (fun c h1 h2 => m c (by omega))⟩⟩, ISH.q (fun b h1 h2 => m b (by omega)), TSH.q (fun b h1 h2 => m b (by omega)), TSH2.q (fun b h1 h2 => m b (by omega)), GSH.q (fun b h1 h2 => m b (by omega)), SSH.q (fun b h1 h2 => m b (by omega)), ⟨by rw [mC _ (by omega)]; exact lC, by rw [mN _ (by omega)]; exact lN1, by rw [mC _ (by omega)]; exact tC, by rw [mN _ (by omega)]; exact tN⟩, ⟨by rw [mC _ (by omega)]; exact rC, by rw [mR _ (by omega)]; exact rR1, by rw [mC _ (by omega)]; exact sC, by rw [mR _ (by omega)]; exact sR1, by rw [mC _ (by omega)]; exact wC, by rw [mN _ (by omega)]; exact wN⟩, ⟨by rw [mR _ (by omega)]; exact st1, by rw [mC _ (by omega)]; exact st2, by rw [mR _ (by omega)]; exact st3, by rw [mR _ (by omega)]; exact st4, by rw [mC _ (by omega)]; exact st5, by rw [mN _ (by omega)]; exact st6⟩, ⟨sx1, sx2, x0⟩, PP⟩
theorem CF.g {f : Nat → Nat → Int32} {g g' : Nat → Nat → Int64} {x pa : Nat} {S : Abs} (F : CF f g x pa S) (e : g' (x + 38) = g (x + 38)) : CF f g' x pa S := by
  obtain ⟨c1, c2, c3, c4, ⟨y0, y1, y2, y3, y4, y5, y6, y7, y8, y9, y10⟩, c6⟩ := F
  exact ⟨c1, c2, c3, fun j hj => by rw [e]; exact c4 j hj, ⟨y0, y1, y2, y3, y4, y5, y6, y7, y8, y9, fun w => absurd w (by decide)⟩, c6⟩
/-- store, on both sides -/
theorem law_store {b L x s1 v1 pa pb : Nat} {xs : Nat → Int32} {h : MH} {f : Nat → Nat → Int32} {S : Abs} (V : LV h f b L x s1 v1 pa pb xs S) : ∃ (h2 : MH) (f1 f2 : Nat → Nat → Int32) (pa2 pb2 : Nat) (S' : Abs) (y : Int32) (h1 : MH), ev M_PT_store 0 0 [some (.ref x), none, none] [] (wI h f) = some (some (.int y), h1) ∧ hC h1 (x + 222) = 13 ∧ ev M_Mo_store 0 0 [some (.ref (x + 222)), none] [] h1 = some (some (.int y), wI h2 f2) ∧ LV h2 f2 b L x s1 v1 pa2 pb2 xs S' ∧ hT h2 = hT h ∧ hS h2 = hS h := by
  obtain ⟨C, F, MC, M, W, ⟨bC, bN, hb, bX⟩, vs, vv⟩ := V
  have sx := C.2.2.2.2.2.2.2.2.2.2.2.2.2.2.1
  have hP := (m_store MC M W).1
  obtain ⟨h', pa', pb', e1, C1, F1, W1, ⟨t1, t2, t3, t4⟩, fr⟩ := c_store (h := wI h f) (x := x) C F W vs vv hP
  have MC1 : MSH h' (x + 222) := by
    refine ⟨by rw [t3]; exact MC.1, fun i hi => ⟨?_, by rw [t4]; exact (MC.2 i hi).2.1, by rw [t3]; exact (MC.2 i hi).2.2⟩⟩
    rw [(fr (x + 222) (by omega)).2.2]; exact (MC.2 i hi).1
  have M1 : MF (hI h') (x + 222) S := M.o (fun a h1 _ => (fr a (by omega)).1)
  obtain ⟨f2, g2, e2, M2, R2, G2⟩ := (m_store MC1 M1 W).2
  have eb : ∀ a, a < x → f2 a = f a := fun a ha => (R2 a (by omega)).trans (fr a (by omega)).1
  have hr := W1.2.2.1.1.2.2.2.1
  refine ⟨wL h' g2, f, f2, pa', pb', uStore S, sStore S, h', e1, by rw [t3]; exact MC.1, e2, ⟨C1, ?_, MC1, M2, W1, ⟨?_, ?_, hb, fun k => ?_⟩, ?_, fun j hj => ?_⟩, t1, t2⟩
  · have F2 : CF f2 (hL h') x pa' (uStore S) := F1.o (fun y h1 h2 => R2 y (by omega)) C1.2.2.2.2.2.2.2.2.2.2.2.2.2.2.2 hr
    exact F2.g (G2 (x + 38) (by omega))
  · show hC h' b = 99
    rw [t3]; exact bC
  · show hN h' b = L
    rw [t4]; exact bN
  · rw [eb b hb]; exact bX k
  · rw [eb s1 sx.1]; exact vs
  · rw [eb v1 sx.2.1]; exact vv j hj
theorem pureLaw : PureLaw := by
  intro T b L xs s0 s1 v0 v1 fm hLL hb hs0 hs1 hv0 hv1 d1 d2 d3 d4 d5 d6
  obtain ⟨h, eh⟩ : ∃ h, h = h00 T b L xs s0 s1 v0 v1 fm := ⟨_, rfl⟩
  have hTT : hT h = T := by rw [eh]; rfl
  have hSS : hS h = 0 := by rw [eh]; rfl
  have R0 : ∀ a k, hR h a k = if a = 0 ∧ k = 1000 then some s0 else if a = 0 ∧ k = 1001 then some s1 else if a = 0 ∧ k = 1002 then fm else if k = 77 ∧ (a = v0 ∨ a = v1) then some 1 else if a = s0 ∧ k = 0 then some v0 else if a = s1 ∧ k = 0 then some v1 else none := fun a k => by rw [eh]; rfl
  have C0 : ∀ a, hC h a = if a = b then 99 else if a = s0 ∨ a = s1 then 30 else if a = v0 ∨ a = v1 then 31 else 0 := fun a => by rw [eh]; rfl
  have N0 : ∀ a, hN h a = if a = b then L else if a = v0 then 85 else if a = v1 then 11 else 0 := fun a => by rw [eh]; rfl
  have I0 : ∀ a k, hI h a k = if a = b then xs k else if a = v0 ∧ 100 ≤ k then nI (tx0.getD (k - 100) 0) else if a = v1 ∧ 100 ≤ k then nI (tx1.getD (k - 100) 0) else 0 := fun a k => by rw [eh]; rfl
  rw [← eh]
  have cv : ∀ v, v ≠ b → (v = v0 ∨ v = v1) → 30 ≤ hC h v := fun v h1 h2 => by
    rw [C0, if_neg h1]
    by_cases z : v = s0 ∨ v = s1
    · rw [if_pos z]; decide
    · rw [if_neg z, if_pos h2]; decide
  have w : StrW h s0 v0 := by
    refine ⟨by rw [R0, if_pos ⟨rfl, rfl⟩], by rw [C0, if_neg (by omega), if_pos (Or.inl rfl)], ?_, ?_, cv v0 (by omega) (Or.inl rfl), by rw [N0, if_neg (by omega), if_pos rfl], ?_, fun j hj => ?_⟩
    · rw [R0, if_neg (by omega), if_neg (by omega), if_neg (by omega), if_neg (by omega), if_pos ⟨rfl, rfl⟩]
    · rw [R0, if_neg (by omega), if_neg (by omega), if_neg (by omega), if_pos ⟨rfl, Or.inl rfl⟩]
    · rw [I0, if_neg (by omega), if_neg (by omega), if_neg (by omega)]; rfl
    · rw [I0, if_neg (by omega), if_pos ⟨rfl, by omega⟩, Nat.add_sub_cancel_left]
  have ws : StrS h s1 v1 := by
    refine ⟨by rw [R0, if_neg (by omega), if_pos ⟨rfl, rfl⟩], by rw [C0, if_neg (by omega), if_pos (Or.inr rfl)], ?_, ?_, cv v1 (by omega) (Or.inr rfl), by rw [N0, if_neg (by omega), if_neg (by omega), if_pos rfl]⟩
    · rw [R0, if_neg (by omega), if_neg (by omega), if_neg (by omega), if_neg (by omega), if_neg (by omega), if_pos ⟨rfl, rfl⟩]
    · rw [R0, if_neg (by omega), if_neg (by omega), if_neg (by omega), if_pos ⟨rfl, Or.inr rfl⟩]
  have n1 : ∀ a, a < T → Se h (nw h 12 15) a := fun a ha => nw_e (by omega)
  obtain ⟨H, f1, e1, tH, sH, CH, FH, bH⟩ := mkPT (h0 := nw h 12 15) (x := T) (s0 := s0) (v0 := v0) (s1 := s1) (v1 := v1) (by show hT h + 1 = _; omega) (by rw [← hTT]; exact nw_C) (by rw [← hTT]; exact nw_I) (w.q (n1 _ (by omega)) (n1 _ hs0) (n1 _ hv0)) (ws.q (n1 _ (by omega)) (n1 _ hs1) (n1 _ hv1)) (by omega)
  have n2 : ∀ a, a < T + 222 → Se (wI H f1) (nw (wI H f1) 13 64) a := fun a ha => nw_e (by show a < hT H; omega)
  have c2 : hT (wI H f1) = T + 222 := tH
  obtain ⟨h4, e4, t4, s4, b4, MC, MM⟩ := mkMo (h0 := nw (wI H f1) 13 64) (m := T + 222) (by show hT H + 1 = _; omega) (by rw [← c2]; exact nw_C) (by rw [← c2]; exact nw_I)
  have z4 : ∀ a, a < T + 222 → Se (wI H f1) h4 a := fun a ha => (n2 a ha).tr (b4 a ha)
  have z0 : ∀ a, a < T → Se h h4 a := fun a ha => ((n1 a ha).tr (bH a ha)).tr (z4 a (by omega))
  have C4 : CSH h4 T (T + 2) (T + 19) s1 v1 := CSH.q (h := wI H f1) CH z4
  have F4 : CF (hI h4) (hL h4) T (T + 2) S00 := by
    have q : CF (hI h4) (hL H) T (T + 2) S00 := FH.o (fun y w1 w2 => (z4 y w2).2.2.2.1) (Or.inl ⟨rfl, rfl⟩) (by decide)
    exact q.g (z4 (T + 38) (by omega)).2.2.2.2
  have V : LV h4 (hI h4) b L T s1 v1 (T + 2) (T + 19) xs S00 := by
    refine ⟨C4, F4, MC, MM, WS0, ⟨?_, ?_, hb, fun k => ?_⟩, ?_, fun j hj => ?_⟩
    · rw [(z0 b hb).1, C0, if_pos rfl]
    · rw [(z0 b hb).2.1, N0, if_pos rfl]
    · rw [(z0 b hb).2.2.2.1, I0, if_pos rfl]
    · rw [(z0 s1 hs1).2.2.2.1, I0, if_neg (by omega), if_neg (by omega), if_neg (by omega)]; rfl
    · rw [(z0 v1 hv1).2.2.2.1, I0, if_neg (by omega), if_neg (by omega), if_pos ⟨rfl, by omega⟩, Nat.add_sub_cancel_left]
  have sN : hS (nw h 12 15) = hS h + 15 := rfl
  have sM : hS (nw (wI H f1) 13 64) = hS H + 64 := rfl
  have lp := law_loop (Q := fun v h' => v = some (Value.int (nI 1)) ∧ hT h' ≤ T + 600000 ∧ hS h' ≤ 7302250) hLL (fun h f pa pb S V => law_store V) 513 0 h4 (hI h4) (T + 2) (T + 19) S00 (by omega) (by omega) V (fun h' f' q1 q2 => ⟨rfl, by show hT h' ≤ _; omega, by show hS h' ≤ _; omega⟩)
  have key : wp (ev M_Law_law 0 0 [some (.ref b), none, none, none] [] h) (fun v h' => v = some (Value.int (nI 1)) ∧ hT h' ≤ T + 600000 ∧ hS h' ≤ 7302250) := by
    rw [r_Law_law_0]
    try dsimp only
    rw [hTT]
    refine wp_rVe e1 ?_
    try dsimp only
    rw [c2]
    refine wp_rVe e4 ?_
    exact lp
  obtain ⟨v, h', q1, q2, q3⟩ := key
  subst q2
  exact ⟨h', q1, q3⟩
