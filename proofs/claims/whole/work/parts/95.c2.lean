/-! The constructors, object by object, on (by wip/whole/gen95.py). -/
theorem nwF (h : MH) : ∃ h', ev M_Formula_init 0 0 [some (.ref (hT h))] [] (nw h 2 3) = some (none, h') ∧ New h h' 3 355 ∧ (hC h' (hT h) = 2 ∧ hR h' (hT h) 0 = some (hT h + 1) ∧ hC h' (hT h + 1) = 20 ∧ hN h' (hT h + 1) = 320 ∧ hR h' (hT h) 2 = some (hT h + 2) ∧ hC h' (hT h + 2) = 20 ∧ hN h' (hT h + 2) = 32) ∧ hI h' (hT h) = fun _ => 0 := by
  obtain ⟨h', e, a, b, c, d⟩ := mkF (h0 := nw h 2 3) (t := hT h) rfl nw_C
  exact ⟨h', e, c.nw a (by have q : hS (nw h 2 3) = hS h + 3 := rfl; omega), ⟨c.2.1.trans nw_C, d⟩, c.2.2.2.1.trans nw_I⟩
theorem nwSt (h : MH) : ∃ h', ev M_Steps_init 0 0 [some (.ref (hT h))] [] (nw h 10 2) = some (none, h') ∧ New h h' 5 38 ∧ (SS h' (hT h)) ∧ hI h' (hT h) = fun _ => 0 := by
  obtain ⟨h', e, a, b, c, d⟩ := mkSt (h0 := nw h 10 2) (t := hT h) rfl nw_C
  exact ⟨h', e, c.nw a (by have q : hS (nw h 10 2) = hS h + 2 := rfl; omega), d, c.2.2.2.1.trans nw_I⟩
theorem nwT (h : MH) : ∃ h', ev M_Tree_init 0 0 [some (.ref (hT h)), none] [] (nw h 11 6) = some (none, h') ∧ New h h' 15 1121 ∧ (TS h' (hT h)) ∧ hI h' (hT h) = fun _ => 0 := by
  obtain ⟨h', e, a, b, c, d⟩ := mkT (h0 := nw h 11 6) (t := hT h) rfl nw_C
  exact ⟨h', e, c.nw a (by have q : hS (nw h 11 6) = hS h + 6 := rfl; omega), d, c.2.2.2.1.trans nw_I⟩
theorem nwB (h : MH) : ∃ h', ev M_Box_init 0 0 [some (.ref (hT h)), none] [] (nw h 1 3) = some (none, h') ∧ New h h' 12 98 ∧ (BS h' (hT h)) ∧ hI h' (hT h) = fun _ => 0 := by
  obtain ⟨h', e, a, b, c, d⟩ := mkB (h0 := nw h 1 3) (t := hT h) rfl nw_C
  exact ⟨h', e, c.nw a (by have q : hS (nw h 1 3) = hS h + 3 := rfl; omega), d, c.2.2.2.1.trans nw_I⟩
theorem nwI (h : MH) : ∃ h', ev M_Sightings_init 0 0 [some (.ref (hT h))] [] (nw h 9 16) = some (none, h') ∧ New h h' 16 298 ∧ (IS h' (hT h)) ∧ hI h' (hT h) = fun _ => 0 := by
  obtain ⟨h', e, a, b, c, d⟩ := mkI (h0 := nw h 9 16) (t := hT h) rfl nw_C
  exact ⟨h', e, c.nw a (by have q : hS (nw h 9 16) = hS h + 16 := rfl; omega), d, c.2.2.2.1.trans nw_I⟩
theorem mkP {h0 : MH} {t : Nat} (T0 : hT h0 = t + 1) (c0 : hC h0 t = 5) : ∃ h', ev M_Plan_init 0 0 [some (.ref t), none] [] h0 = some (none, h') ∧ hT h' = t + 17 ∧ hS h' ≤ hS h0 + 712 ∧ ((∀ b, b < t → Se h0 h' b) ∧ PS h' t ∧ (hI h' t 0 = nI 3 ∧ hI h' t 1 = nI 0 ∧ hI h' t 2 = nI 0 ∧ hI h' t 3 = nI 0 ∧ hI h' t 4 = nI 0 ∧ hI h' t 5 = nI 0 ∧ hI h' t 10 = nI 0 ∧ hI h' (t + 1) 1 = nI 0)) := by
  suffices key : wp (ev M_Plan_init 0 0 [some (.ref t), none] [] h0) (fun v h' => v = none ∧ hT h' = t + 17 ∧ hS h' ≤ hS h0 + 712 ∧ ((∀ b, b < t → Se h0 h' b) ∧ PS h' t ∧ (hI h' t 0 = nI 3 ∧ hI h' t 1 = nI 0 ∧ hI h' t 2 = nI 0 ∧ hI h' t 3 = nI 0 ∧ hI h' t 4 = nI 0 ∧ hI h' t 5 = nI 0 ∧ hI h' t 10 = nI 0 ∧ hI h' (t + 1) 1 = nI 0))) by
    obtain ⟨v, h', e, e2, r⟩ := key
    subst e2; exact ⟨h', e, r⟩
  rw [r_Plan_init_0]
  obtain ⟨k1, e1, W1, G1⟩ := nwF h0
  refine wp_rVe e1 (wp_isC (by rw [(W1.2.2 t (by omega)).1]; exact c0) ?_)
  obtain ⟨S1, U1⟩ := W1.st (x := t) (s := 6) (by omega)
  try dsimp only
  generalize sR k1 t 6 (hT h0) = h1 at *
  have c1 : hC h1 t = 5 := S1.2.2.1.2.1.trans c0
  have T1 : hT h1 = t + 4 := by have := S1.1; omega
  have f1 := S1.2.2.2
  have z1 := S1.2.1
  refine wp_okN rfl (by decide) (wp_isC (by rw [(nw_e (by omega)).1]; exact c1) ?_)
  obtain ⟨S2, C2, N2, L2⟩ := arr_S (h := h1) (x := t) (s := 7) (tag := 22) (n := 5) (by omega)
  try dsimp only
  generalize sR (nw h1 22 5) t 7 (hT h1) = h2 at *
  rw [T1] at C2 N2 L2
  have c2 : hC h2 t = 5 := S2.2.2.1.2.1.trans c1
  have T2 : hT h2 = t + 5 := by have := S2.1; omega
  have f2 := S2.2.2.2
  have z2 := S2.2.1
  rw [r_Plan_init_12]
  refine wp_okN rfl (by decide) (wp_isC (by rw [(nw_e (by omega)).1]; exact c2) ?_)
  obtain ⟨S3, C3, N3, L3⟩ := arr_S (h := h2) (x := t) (s := 8) (tag := 24) (n := 5) (by omega)
  try dsimp only
  generalize sR (nw h2 24 5) t 8 (hT h2) = h3 at *
  rw [T2] at C3 N3 L3
  have c3 : hC h3 t = 5 := S3.2.2.1.2.1.trans c2
  have T3 : hT h3 = t + 6 := by have := S3.1; omega
  have f3 := S3.2.2.2
  have z3 := S3.2.1
  refine wp_okN rfl (by decide) (wp_isC (by rw [(nw_e (by omega)).1]; exact c3) ?_)
  obtain ⟨S4, C4, N4, L4⟩ := arr_S (h := h3) (x := t) (s := 9) (tag := 20) (n := 256) (by omega)
  try dsimp only
  generalize sR (nw h3 20 256) t 9 (hT h3) = h4 at *
  rw [T3] at C4 N4 L4
  have c4 : hC h4 t = 5 := S4.2.2.1.2.1.trans c3
  have T4 : hT h4 = t + 7 := by have := S4.1; omega
  have f4 := S4.2.2.2
  have z4 := S4.2.1
  rw [r_Plan_init_21]
  rw [T0] at G1 U1
  have X4 : Ch t h4 h4 := Ch.rf
  have X3 : Ch t h3 h4 := S4.2.2.1.tr X4
  have X2 : Ch t h2 h4 := S3.2.2.1.tr X3
  have X1 : Ch t h1 h4 := S2.2.2.1.tr X2
  have X0 : Ch t h0 h4 := S1.2.2.1.tr X1
  have cr : hC h4 (t + 5) = 24 := by rw [(X3.2.2.2.2.2 (t + 5) (by omega) (by omega)).1]; exact C3
  have nr : hN h4 (t + 5) = 5 := by rw [(X3.2.2.2.2.2 (t + 5) (by omega) (by omega)).2.1]; exact N3
  have rr : hR h4 t 8 = some (t + 5) := by rw [f4, if_neg (by decide), f3, if_pos rfl, T2]
  refine g_loop (run := fun i h => ev M_Plan_init 0 24 [some (.ref t), some (.int (nI i))] [] h) (x := t) (r := t + 5) (N := 5) (h := h4) (by decide) (by omega) cr nr (fun i q hi a w => ?_) (fun h' a => ?_)
  · have ex := a.e t (by omega) (by omega)
    show wp (ev M_Plan_init 0 24 [some (.ref t), some (.int (nI i))] [] q) _
    rw [r_Plan_init_24]
    simp only [r_Plan_init_35, nI_add]
    refine wp_bt (by rw [nI_ltI (by omega) (by decide)]; omega) (wp_isC (by rw [ex.1]; exact c4) (wp_nnR (by rw [ex.2.2.1]; exact rr) w))
  have ex := a.e t (by omega) (by omega)
  obtain ⟨a1, a2, a3, a4⟩ := id a
  rw [T4] at a1 a4
  show wp (ev M_Plan_init 0 24 [some (.ref t), some (.int (nI 5))] [] h') _
  rw [r_Plan_init_24]
  refine wp_bf (by decide) ?_
  have et : ∀ b, t < b → b < t + 4 → Se k1 h' b := fun b w1 w2 => ((U1 b (by omega)).tr (X1.2.2.2.2.2 b (by omega) (by omega))).tr (a.e b (by omega) (by omega))
  have e1 := et (t + 1) (by omega) (by omega)
  have e2 := et (t + 2) (by omega) (by omega)
  have e3 := et (t + 3) (by omega) (by omega)
  obtain ⟨⟨g0, g1, g2, g3, g4, g5, g6⟩, -⟩ := G1
  have P : PS h' t := ⟨by rw [ex.1]; exact c4, by rw [ex.2.2.1, f4, if_neg (by decide), f3, if_neg (by decide), f2, if_neg (by decide), f1, if_pos rfl, T0], by rw [e1.1]; exact g0, by rw [e1.2.2.1]; exact g1, by rw [e2.1]; exact g2, by rw [e2.2.1]; exact g3, by rw [e1.2.2.1]; exact g4, by rw [e3.1]; exact g5, by rw [e3.2.1]; exact g6, by rw [ex.2.2.1, f4, if_neg (by decide), f3, if_neg (by decide), f2, if_pos rfl, T1], by rw [((X2.2.2.2.2.2 (t + 4) (by omega) (by omega)).tr (a.e (t + 4) (by omega) (by omega))).1]; exact C2, by rw [((X2.2.2.2.2.2 (t + 4) (by omega) (by omega)).tr (a.e (t + 4) (by omega) (by omega))).2.1]; exact N2, by rw [ex.2.2.1, f4, if_neg (by decide), f3, if_pos rfl, T2], by rw [a3.2.1]; exact cr, by rw [a3.2.2.1]; exact nr, a4, by rw [ex.2.2.1, f4, if_pos rfl, T3], by rw [(Se.rf.tr (a.e (t + 6) (by omega) (by omega))).1]; exact C4, by rw [(Se.rf.tr (a.e (t + 6) (by omega) (by omega))).2.1]; exact N4⟩
  have cl := pl_clear (h := h') (f := hI h') (p := t) P.1 P.2.1 P.2.2.1
  refine wp_isC P.1 (wp_rVe cl (wp_s ⟨rfl, by show hT h' = _; omega, by show hS h' ≤ _; omega, fun b hb => ?_, P, ?_⟩))
  · have e := (X0.2.2.2.2.2 b (by omega) (by omega)).tr (a.e b (by omega) (by omega))
    refine e.tr ⟨rfl, rfl, rfl, ?_, rfl⟩
    show up2 (up2 (up2 (up2 (up2 (up2 (up2 (up2 (hI h') t 0 (nI 3)) t 1 (nI 0)) t 2 (nI 0)) t 3 (nI 0)) t 4 (nI 0)) t 5 (nI 0)) t 10 (nI 0)) (t + 1) 1 (nI 0) b = hI h' b
    simp (disch := omega) only [up2_a]
  · show up2 (up2 (up2 (up2 (up2 (up2 (up2 (up2 (hI h') t 0 (nI 3)) t 1 (nI 0)) t 2 (nI 0)) t 3 (nI 0)) t 4 (nI 0)) t 5 (nI 0)) t 10 (nI 0)) (t + 1) 1 (nI 0) t 0 = nI 3 ∧ _
    rw [wI_I]
    refine ⟨?_, ?_, ?_, ?_, ?_, ?_, ?_, ?_⟩ <;> simp (disch := omega) only [up2_a, up2_k, up2_s]
theorem nwP (h : MH) : ∃ h', ev M_Plan_init 0 0 [some (.ref (hT h)), none] [] (nw h 5 11) = some (none, h') ∧ New h h' 17 723 ∧ PS h' (hT h) ∧ (hI h' (hT h) 0 = nI 3 ∧ hI h' (hT h) 1 = nI 0 ∧ hI h' (hT h) 2 = nI 0 ∧ hI h' (hT h) 3 = nI 0 ∧ hI h' (hT h) 4 = nI 0 ∧ hI h' (hT h) 5 = nI 0 ∧ hI h' (hT h) 10 = nI 0 ∧ hI h' (hT h + 1) 1 = nI 0) := by
  obtain ⟨h', e, a, b, c, d, f⟩ := mkP (h0 := nw h 5 11) (t := hT h) rfl nw_C
  exact ⟨h', e, ⟨a, by have q : hS (nw h 5 11) = hS h + 11 := rfl; omega, fun y hy => (nw_e hy).tr (c y hy)⟩, d, f⟩
theorem mkRl {h0 : MH} {t : Nat} (T0 : hT h0 = t + 1) (c0 : hC h0 t = 7) : ∃ h', ev M_Relations_init 0 0 [some (.ref t), none] [] h0 = some (none, h') ∧ hT h' = t + 47 ∧ hS h' ≤ hS h0 + 417 ∧ Ch t h0 h' ∧ (hR h' t 0 = some (t + 1) ∧ hC h' (t + 1) = 24 ∧ hN h' (t + 1) = 5 ∧ (∀ k, k < 5 → hR h' (t + 1) k = some (t + 5 + 2 * k) ∧ GS h' (t + 5 + 2 * k)) ∧ hR h' t 3 = some (t + 2) ∧ hC h' (t + 2) = 24 ∧ hN h' (t + 2) = 16 ∧ (∀ i, i < 16 → hR h' (t + 2) i = some (t + 15 + 2 * i) ∧ GS h' (t + 15 + 2 * i)) ∧ hR h' t 4 = some (t + 3) ∧ GS h' (t + 3)) := by
  suffices key : wp (ev M_Relations_init 0 0 [some (.ref t), none] [] h0) (fun v h' => v = none ∧ hT h' = t + 47 ∧ hS h' ≤ hS h0 + 417 ∧ Ch t h0 h' ∧ (hR h' t 0 = some (t + 1) ∧ hC h' (t + 1) = 24 ∧ hN h' (t + 1) = 5 ∧ (∀ k, k < 5 → hR h' (t + 1) k = some (t + 5 + 2 * k) ∧ GS h' (t + 5 + 2 * k)) ∧ hR h' t 3 = some (t + 2) ∧ hC h' (t + 2) = 24 ∧ hN h' (t + 2) = 16 ∧ (∀ i, i < 16 → hR h' (t + 2) i = some (t + 15 + 2 * i) ∧ GS h' (t + 15 + 2 * i)) ∧ hR h' t 4 = some (t + 3) ∧ GS h' (t + 3))) by
    obtain ⟨v, h', e, e2, r⟩ := key
    subst e2; exact ⟨h', e, r⟩
  rw [r_Relations_init_0]
  refine wp_okN rfl (by decide) (wp_isC (by rw [(nw_e (by omega)).1]; exact c0) ?_)
  obtain ⟨S1, C1, N1, L1⟩ := arr_S (h := h0) (x := t) (s := 0) (tag := 24) (n := 5) (by omega)
  try dsimp only
  generalize sR (nw h0 24 5) t 0 (hT h0) = h1 at *
  rw [T0] at C1 N1 L1
  have c1 : hC h1 t = 7 := S1.2.2.1.2.1.trans c0
  have T1 : hT h1 = t + 2 := by have := S1.1; omega
  have f1 := S1.2.2.2
  have z1 := S1.2.1
  refine wp_okN rfl (by decide) (wp_isC (by rw [(nw_e (by omega)).1]; exact c1) ?_)
  obtain ⟨S2, C2, N2, L2⟩ := arr_S (h := h1) (x := t) (s := 3) (tag := 24) (n := 16) (by omega)
  try dsimp only
  generalize sR (nw h1 24 16) t 3 (hT h1) = h2 at *
  rw [T1] at C2 N2 L2
  have c2 : hC h2 t = 7 := S2.2.2.1.2.1.trans c1
  have T2 : hT h2 = t + 3 := by have := S2.1; omega
  have f2 := S2.2.2.2
  have z2 := S2.2.1
  rw [r_Relations_init_11]
  obtain ⟨k3, e3, W3, G3⟩ := nwG h2
  refine wp_rVe e3 (wp_isC (by rw [(W3.2.2 t (by omega)).1]; exact c2) ?_)
  obtain ⟨S3, U3⟩ := W3.st (x := t) (s := 4) (by omega)
  try dsimp only
  generalize sR k3 t 4 (hT h2) = h3 at *
  have c3 : hC h3 t = 7 := S3.2.2.1.2.1.trans c2
  have T3 : hT h3 = t + 5 := by have := S3.1; omega
  have f3 := S3.2.2.2
  have z3 := S3.2.1
  rw [T2] at G3 U3
  have X3 : Ch t h3 h3 := Ch.rf
  have X2 : Ch t h2 h3 := S3.2.2.1.tr X3
  have X1 : Ch t h1 h3 := S2.2.2.1.tr X2
  have X0 : Ch t h0 h3 := S1.2.2.1.tr X1
  have cr : hC h3 (t + 1) = 24 := by rw [(X1.2.2.2.2.2 (t + 1) (by omega) (by omega)).1]; exact C1
  have nr : hN h3 (t + 1) = 5 := by rw [(X1.2.2.2.2.2 (t + 1) (by omega) (by omega)).2.1]; exact N1
  have rr : hR h3 t 0 = some (t + 1) := by rw [f3, if_neg (by decide), f2, if_neg (by decide), f1, if_pos rfl, T0]
  refine g_loop (run := fun i h => ev M_Relations_init 0 19 [some (.ref t), some (.int (nI i))] [] h) (x := t) (r := t + 1) (N := 5) (h := h3) (by decide) (by omega) cr nr (fun i q hi a w => ?_) (fun h' a => ?_)
  · have ex := a.e t (by omega) (by omega)
    show wp (ev M_Relations_init 0 19 [some (.ref t), some (.int (nI i))] [] q) _
    rw [r_Relations_init_19]
    simp only [r_Relations_init_30, nI_add]
    refine wp_bt (by rw [nI_ltI (by omega) (by decide)]; omega) (wp_isC (by rw [ex.1]; exact c3) (wp_nnR (by rw [ex.2.2.1]; exact rr) w))
  have ex := a.e t (by omega) (by omega)
  obtain ⟨a1, a2, a3, a4⟩ := id a
  rw [T3] at a1 a4
  show wp (ev M_Relations_init 0 19 [some (.ref t), some (.int (nI 5))] [] h') _
  rw [r_Relations_init_19]
  refine wp_bf (by decide) ?_
  have e2 := (X2.2.2.2.2.2 (t + 2) (by omega) (by omega)).tr (a.e (t + 2) (by omega) (by omega))
  have ct : hC h' t = 7 := by rw [ex.1]; exact c3
  have cr2 : hC h' (t + 2) = 24 := by rw [e2.1]; exact C2
  have nr2 : hN h' (t + 2) = 16 := by rw [e2.2.1]; exact N2
  have rr2 : hR h' t 3 = some (t + 2) := by rw [ex.2.2.1, f3, if_neg (by decide), f2, if_pos rfl, T1]
  have q3 : GS h' (t + 3) := (G3.q (fun b w1 w2 => U3 b (by omega))).q (fun b w1 w2 => a.e b (by omega) (by omega))
  refine g_loop (run := fun i h => ev M_Relations_init 0 35 [some (.ref t), some (.int (nI i))] [] h) (x := t) (r := t + 2) (N := 16) (h := h') (by decide) (by omega) cr2 nr2 (fun i q hi d w => ?_) (fun h'' d => ?_)
  · have ey := d.e t (by omega) (by omega)
    show wp (ev M_Relations_init 0 35 [some (.ref t), some (.int (nI i))] [] q) _
    rw [r_Relations_init_35]
    simp only [r_Relations_init_46, nI_add]
    refine wp_bt (by rw [nI_ltI (by omega) (by decide)]; omega) (wp_isC (by rw [ey.1]; exact ct) (wp_nnR (by rw [ey.2.2.1]; exact rr2) w))
  have ey := d.e t (by omega) (by omega)
  have e1 := d.e (t + 1) (by omega) (by omega)
  obtain ⟨d1, d2, d3, d4⟩ := id d
  have ha : hT h' = t + 15 := by omega
  rw [ha] at d1 d4
  show wp (ev M_Relations_init 0 35 [some (.ref t), some (.int (nI 16))] [] h'') _
  rw [r_Relations_init_35]
  refine wp_bf (by decide) (wp_s ⟨rfl, by omega, by omega, ⟨by omega, ey.1.trans (ex.1.trans X0.2.1), ey.2.1.trans (ex.2.1.trans X0.2.2.1), ey.2.2.2.1.trans (ex.2.2.2.1.trans X0.2.2.2.1), ey.2.2.2.2.trans (ex.2.2.2.2.trans X0.2.2.2.2.1), fun b w1 w2 => ((X0.2.2.2.2.2 b w1 w2).tr (a.e b (by omega) (by omega))).tr (d.e b (by omega) (by omega))⟩, by rw [ey.2.2.1, ex.2.2.1]; exact rr, by rw [e1.1, a3.2.1]; exact cr, by rw [e1.2.1, a3.2.2.1]; exact nr, fun k hk => ⟨by rw [e1.2.2.1]; exact (a4 k hk).1, (a4 k hk).2.q (fun b w1 w2 => d.e b (by omega) (by omega))⟩, by rw [ey.2.2.1]; exact rr2, by rw [d3.2.1]; exact cr2, by rw [d3.2.2.1]; exact nr2, d4, ?_, q3.q (fun b w1 w2 => d.e b (by omega) (by omega))⟩)
  rw [ey.2.2.1, ex.2.2.1, f3, if_pos rfl, T2]
theorem nwRl (h : MH) : ∃ h', ev M_Relations_init 0 0 [some (.ref (hT h)), none] [] (nw h 7 5) = some (none, h') ∧ New h h' 47 422 ∧ (hC h' (hT h) = 7 ∧ hR h' (hT h) 0 = some (hT h + 1) ∧ hC h' (hT h + 1) = 24 ∧ hN h' (hT h + 1) = 5 ∧ (∀ k, k < 5 → hR h' (hT h + 1) k = some (hT h + 5 + 2 * k) ∧ GS h' (hT h + 5 + 2 * k)) ∧ hR h' (hT h) 3 = some (hT h + 2) ∧ hC h' (hT h + 2) = 24 ∧ hN h' (hT h + 2) = 16 ∧ (∀ i, i < 16 → hR h' (hT h + 2) i = some (hT h + 15 + 2 * i) ∧ GS h' (hT h + 15 + 2 * i)) ∧ hR h' (hT h) 4 = some (hT h + 3) ∧ GS h' (hT h + 3)) := by
  obtain ⟨h', e, a, b, c, d⟩ := mkRl (h0 := nw h 7 5) (t := hT h) rfl nw_C
  exact ⟨h', e, c.nw a (by have q : hS (nw h 7 5) = hS h + 5 := rfl; omega), c.2.1.trans nw_C, d⟩
theorem New.rows {h : MH} {t n k : Nat} : New h (nwRows h t n k) (1 + n) (n + n * k) := by
  refine ⟨by show hT h + 1 + n = _; omega, by show hS h + n + n * k ≤ _; omega, fun b hb => ⟨?_, ?_, ?_, ?_, ?_⟩⟩
  · show (if b = hT h then t else if hT h < b ∧ b < hT h + 1 + n then 20 else hC h b) = _
    rw [if_neg (by omega), if_neg (by omega)]
  · show (if b = hT h then n else if hT h < b ∧ b < hT h + 1 + n then k else hN h b) = _
    rw [if_neg (by omega), if_neg (by omega)]
  · show (if b = hT h then _ else if hT h < b ∧ b < hT h + 1 + n then _ else hR h b) = _
    rw [if_neg (by omega), if_neg (by omega)]
  · show (if hT h ≤ b ∧ b < hT h + 1 + n then _ else hI h b) = _
    rw [if_neg (by omega)]
  · show (if hT h ≤ b ∧ b < hT h + 1 + n then _ else hL h b) = _
    rw [if_neg (by omega)]
theorem rows_c {h : MH} {t n k : Nat} : hC (nwRows h t n k) (hT h) = t ∧ hN (nwRows h t n k) (hT h) = n ∧ ∀ i, i < n → hR (nwRows h t n k) (hT h) i = some (hT h + 1 + i) ∧ hC (nwRows h t n k) (hT h + 1 + i) = 20 ∧ hN (nwRows h t n k) (hT h + 1 + i) = k := by
  refine ⟨if_pos rfl, if_pos rfl, fun i hi => ⟨?_, ?_, ?_⟩⟩
  · show (if hT h = hT h then (fun i => if i < n then some (hT h + 1 + i) else none) else _) i = _
    rw [if_pos rfl]; exact if_pos hi
  · show (if hT h + 1 + i = hT h then t else if hT h < hT h + 1 + i ∧ hT h + 1 + i < hT h + 1 + n then 20 else _) = 20
    rw [if_neg (by omega), if_pos (by omega)]
  · show (if hT h + 1 + i = hT h then n else if hT h < hT h + 1 + i ∧ hT h + 1 + i < hT h + 1 + n then k else _) = k
    rw [if_neg (by omega), if_pos (by omega)]
theorem mkH {h0 : MH} {t : Nat} (T0 : hT h0 = t + 1) (c0 : hC h0 t = 4) : ∃ h', ev M_History_init 0 0 [some (.ref t)] [] h0 = some (none, h') ∧ hT h' = t + 45 ∧ hS h' ≤ hS h0 + 800 ∧ Ch t h0 h' ∧ HS h' t := by
  suffices key : wp (ev M_History_init 0 0 [some (.ref t)] [] h0) (fun v h' => v = none ∧ hT h' = t + 45 ∧ hS h' ≤ hS h0 + 800 ∧ Ch t h0 h' ∧ HS h' t) by
    obtain ⟨v, h', e, e2, r⟩ := key
    subst e2; exact ⟨h', e, r⟩
  rw [r_History_init_0]
  refine wp_okN rfl (by decide) (wp_isC (by rw [(nw_e (by omega)).1]; exact c0) ?_)
  obtain ⟨S1, C1, N1, L1⟩ := arr_S (h := h0) (x := t) (s := 3) (tag := 20) (n := 40) (by omega)
  try dsimp only
  generalize sR (nw h0 20 40) t 3 (hT h0) = h1 at *
  rw [T0] at C1 N1 L1
  have c1 : hC h1 t = 4 := S1.2.2.1.2.1.trans c0
  have T1 : hT h1 = t + 2 := by have := S1.1; omega
  have f1 := S1.2.2.2
  have z1 := S1.2.1
  have W2 := New.rows (h := h1) (t := 26) (n := 40) (k := 16)
  obtain ⟨rc1, rc2, rc3⟩ := rows_c (h := h1) (t := 26) (n := 40) (k := 16)
  refine wp_okN rfl (by decide) (wp_okN rfl (by decide) (wp_isC (by rw [(W2.2.2 t (by omega)).1]; exact c1) ?_))
  obtain ⟨S2, U2⟩ := W2.st (x := t) (s := 4) (by omega)
  try dsimp only
  generalize nwRows h1 26 40 16 = k2 at *
  generalize sR k2 t 4 (hT h1) = h2 at *
  have c2 : hC h2 t = 4 := S2.2.2.1.2.1.trans c1
  have T2 : hT h2 = t + 43 := by have := S2.1; omega
  have f2 := S2.2.2.2
  have z2 := S2.2.1
  rw [T1] at rc1 rc2 rc3 U2
  rw [r_History_init_12]
  refine wp_okN rfl (by decide) (wp_isC (by rw [(nw_e (by omega)).1]; exact c2) ?_)
  obtain ⟨S3, C3, N3, L3⟩ := arr_S (h := h2) (x := t) (s := 5) (tag := 20) (n := 40) (by omega)
  try dsimp only
  generalize sR (nw h2 20 40) t 5 (hT h2) = h3 at *
  rw [T2] at C3 N3 L3
  have c3 : hC h3 t = 4 := S3.2.2.1.2.1.trans c2
  have T3 : hT h3 = t + 44 := by have := S3.1; omega
  have f3 := S3.2.2.2
  have z3 := S3.2.1
  refine wp_okN rfl (by decide) (wp_isC (by rw [(nw_e (by omega)).1]; exact c3) ?_)
  obtain ⟨S4, C4, N4, L4⟩ := arr_S (h := h3) (x := t) (s := 6) (tag := 20) (n := 40) (by omega)
  try dsimp only
  generalize sR (nw h3 20 40) t 6 (hT h3) = h4 at *
  rw [T3] at C4 N4 L4
  have c4 : hC h4 t = 4 := S4.2.2.1.2.1.trans c3
  have T4 : hT h4 = t + 45 := by have := S4.1; omega
  have f4 := S4.2.2.2
  have z4 := S4.2.1
  rw [r_History_init_21]
  have X4 : Ch t h4 h4 := Ch.rf
  have X3 : Ch t h3 h4 := S4.2.2.1.tr X4
  have X2 : Ch t h2 h4 := S3.2.2.1.tr X3
  have X1 : Ch t h1 h4 := S2.2.2.1.tr X2
  have X0 : Ch t h0 h4 := S1.2.2.1.tr X1
  have er : ∀ b, t + 2 ≤ b → b < t + 43 → Se k2 h4 b := fun b w1 w2 => (U2 b (by omega)).tr (X2.2.2.2.2.2 b (by omega) (by omega))
  have e2 := er (t + 2) (by omega) (by omega)
  exact wp_s ⟨rfl, T4, by omega, X0, c4, by rw [f4, if_neg (by decide), f3, if_neg (by decide), f2, if_neg (by decide), f1, if_pos rfl, T0], by rw [(X1.2.2.2.2.2 (t + 1) (by omega) (by omega)).1]; exact C1, by rw [(X1.2.2.2.2.2 (t + 1) (by omega) (by omega)).2.1]; exact N1, by rw [f4, if_neg (by decide), f3, if_neg (by decide), f2, if_pos rfl, T1], by rw [e2.1]; exact rc1, by rw [e2.2.1]; exact rc2, fun i hi => ⟨by rw [e2.2.2.1]; exact (rc3 i hi).1, by rw [(er (t + 3 + i) (by omega) (by omega)).1]; exact (rc3 i hi).2.1, by rw [(er (t + 3 + i) (by omega) (by omega)).2.1]; exact (rc3 i hi).2.2⟩, by rw [f4, if_neg (by decide), f3, if_pos rfl, T2], by rw [(X3.2.2.2.2.2 (t + 43) (by omega) (by omega)).1]; exact C3, by rw [(X3.2.2.2.2.2 (t + 43) (by omega) (by omega)).2.1]; exact N3, by rw [f4, if_pos rfl, T3], C4, N4⟩
theorem nwH (h : MH) : ∃ h', ev M_History_init 0 0 [some (.ref (hT h))] [] (nw h 4 7) = some (none, h') ∧ New h h' 45 807 ∧ (HS h' (hT h)) ∧ hI h' (hT h) = fun _ => 0 := by
  obtain ⟨h', e, a, b, c, d⟩ := mkH (h0 := nw h 4 7) (t := hT h) rfl nw_C
  exact ⟨h', e, c.nw a (by have q : hS (nw h 4 7) = hS h + 7 := rfl; omega), d, c.2.2.2.1.trans nw_I⟩
