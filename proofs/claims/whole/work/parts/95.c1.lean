/-! The constructors, object by object (by wip/whole/gen95.py). -/
theorem Stq.e {x s n sl : Nat} {h h2 : MH} (S : Stq x s h h2 n sl) (b : Nat) (h1 : b < hT h) (h3 : b ≠ x) : Se h h2 b := S.2.2.1.2.2.2.2.2 b h1 h3
theorem GA.e {r n : Nat} {h h2 : MH} (S : GA r h h2 n) (b : Nat) (h1 : b < hT h) (h3 : b ≠ r) : Se h h2 b := S.2.2.1.2.2.2.2.2 b h1 h3
theorem mkF {h0 : MH} {t : Nat} (T0 : hT h0 = t + 1) (c0 : hC h0 t = 2) : ∃ h', ev M_Formula_init 0 0 [some (.ref t)] [] h0 = some (none, h') ∧ hT h' = t + 3 ∧ hS h' ≤ hS h0 + 352 ∧ Ch t h0 h' ∧ (hR h' t 0 = some (t + 1) ∧ hC h' (t + 1) = 20 ∧ hN h' (t + 1) = 320 ∧ hR h' t 2 = some (t + 2) ∧ hC h' (t + 2) = 20 ∧ hN h' (t + 2) = 32) := by
  suffices key : wp (ev M_Formula_init 0 0 [some (.ref t)] [] h0) (fun v h' => v = none ∧ hT h' = t + 3 ∧ hS h' ≤ hS h0 + 352 ∧ Ch t h0 h' ∧ (hR h' t 0 = some (t + 1) ∧ hC h' (t + 1) = 20 ∧ hN h' (t + 1) = 320 ∧ hR h' t 2 = some (t + 2) ∧ hC h' (t + 2) = 20 ∧ hN h' (t + 2) = 32)) by
    obtain ⟨v, h', e, e2, r⟩ := key
    subst e2; exact ⟨h', e, r⟩
  rw [r_Formula_init_0]
  refine wp_okN rfl (by decide) (wp_isC (by rw [(nw_e (by omega)).1]; exact c0) ?_)
  obtain ⟨S1, C1, N1, L1⟩ := arr_S (h := h0) (x := t) (s := 0) (tag := 20) (n := 320) (by omega)
  try dsimp only
  generalize sR (nw h0 20 320) t 0 (hT h0) = h1 at *
  rw [T0] at C1 N1 L1
  have c1 : hC h1 t = 2 := S1.2.2.1.2.1.trans c0
  have T1 : hT h1 = t + 2 := by have := S1.1; omega
  have f1 := S1.2.2.2
  have z1 := S1.2.1
  refine wp_okN rfl (by decide) (wp_isC (by rw [(nw_e (by omega)).1]; exact c1) ?_)
  obtain ⟨S2, C2, N2, L2⟩ := arr_S (h := h1) (x := t) (s := 2) (tag := 20) (n := 32) (by omega)
  try dsimp only
  generalize sR (nw h1 20 32) t 2 (hT h1) = h2 at *
  rw [T1] at C2 N2 L2
  have c2 : hC h2 t = 2 := S2.2.2.1.2.1.trans c1
  have T2 : hT h2 = t + 3 := by have := S2.1; omega
  have f2 := S2.2.2.2
  have z2 := S2.2.1
  rw [r_Formula_init_11]
  have X2 : Ch t h2 h2 := Ch.rf
  have X1 : Ch t h1 h2 := S2.2.2.1.tr X2
  have X0 : Ch t h0 h2 := S1.2.2.1.tr X1
  refine wp_s ⟨rfl, T2, by omega, X0, by rw [f2, if_neg (by decide), f1, if_pos rfl, T0], ?_, ?_, by rw [f2, if_pos rfl, T1], C2, N2⟩
  · rw [(X1.2.2.2.2.2 (t + 1) (by omega) (by omega)).1]; exact C1
  · rw [(X1.2.2.2.2.2 (t + 1) (by omega) (by omega)).2.1]; exact N1
theorem mkSt {h0 : MH} {t : Nat} (T0 : hT h0 = t + 1) (c0 : hC h0 t = 10) : ∃ h', ev M_Steps_init 0 0 [some (.ref t)] [] h0 = some (none, h') ∧ hT h' = t + 5 ∧ hS h' ≤ hS h0 + 36 ∧ Ch t h0 h' ∧ SS h' t := by
  suffices key : wp (ev M_Steps_init 0 0 [some (.ref t)] [] h0) (fun v h' => v = none ∧ hT h' = t + 5 ∧ hS h' ≤ hS h0 + 36 ∧ Ch t h0 h' ∧ SS h' t) by
    obtain ⟨v, h', e, e2, r⟩ := key
    subst e2; exact ⟨h', e, r⟩
  rw [r_Steps_init_0]
  obtain ⟨k1, e1, W1, G1⟩ := nwG h0
  refine wp_rVe e1 (wp_isC (by rw [(W1.2.2 t (by omega)).1]; exact c0) ?_)
  obtain ⟨S1, U1⟩ := W1.st (x := t) (s := 0) (by omega)
  try dsimp only
  generalize sR k1 t 0 (hT h0) = h1 at *
  have c1 : hC h1 t = 10 := S1.2.2.1.2.1.trans c0
  have T1 : hT h1 = t + 3 := by have := S1.1; omega
  have f1 := S1.2.2.2
  have z1 := S1.2.1
  obtain ⟨k2, e2, W2, G2⟩ := nwG h1
  refine wp_rVe e2 (wp_isC (by rw [(W2.2.2 t (by omega)).1]; exact c1) ?_)
  obtain ⟨S2, U2⟩ := W2.st (x := t) (s := 1) (by omega)
  try dsimp only
  generalize sR k2 t 1 (hT h1) = h2 at *
  have c2 : hC h2 t = 10 := S2.2.2.1.2.1.trans c1
  have T2 : hT h2 = t + 5 := by have := S2.1; omega
  have f2 := S2.2.2.2
  have z2 := S2.2.1
  rw [r_Steps_init_13]
  rw [T0] at G1 U1
  rw [T1] at G2 U2
  have X2 : Ch t h2 h2 := Ch.rf
  have X1 : Ch t h1 h2 := S2.2.2.1.tr X2
  have X0 : Ch t h0 h2 := S1.2.2.1.tr X1
  exact wp_s ⟨rfl, T2, by omega, X0, c2, by rw [f2, if_neg (by decide), f1, if_pos rfl, T0], by rw [f2, if_pos rfl, T1], ((G1.q (fun b w1 w2 => U1 b (by omega))).q (fun b w1 w2 => (X1.2.2.2.2.2 b (by omega) (by omega)))), ((G2.q (fun b w1 w2 => U2 b (by omega))).q (fun b w1 w2 => Se.rf))⟩
theorem mkT {h0 : MH} {t : Nat} (T0 : hT h0 = t + 1) (c0 : hC h0 t = 11) : ∃ h', ev M_Tree_init 0 0 [some (.ref t), none] [] h0 = some (none, h') ∧ hT h' = t + 15 ∧ hS h' ≤ hS h0 + 1115 ∧ Ch t h0 h' ∧ TS h' t := by
  suffices key : wp (ev M_Tree_init 0 0 [some (.ref t), none] [] h0) (fun v h' => v = none ∧ hT h' = t + 15 ∧ hS h' ≤ hS h0 + 1115 ∧ Ch t h0 h' ∧ TS h' t) by
    obtain ⟨v, h', e, e2, r⟩ := key
    subst e2; exact ⟨h', e, r⟩
  rw [r_Tree_init_0]
  refine wp_okN rfl (by decide) (wp_isC (by rw [(nw_e (by omega)).1]; exact c0) ?_)
  obtain ⟨S1, C1, N1, L1⟩ := arr_S (h := h0) (x := t) (s := 0) (tag := 24) (n := 5) (by omega)
  try dsimp only
  generalize sR (nw h0 24 5) t 0 (hT h0) = h1 at *
  rw [T0] at C1 N1 L1
  have c1 : hC h1 t = 11 := S1.2.2.1.2.1.trans c0
  have T1 : hT h1 = t + 2 := by have := S1.1; omega
  have f1 := S1.2.2.2
  have z1 := S1.2.1
  refine wp_okN rfl (by decide) (wp_isC (by rw [(nw_e (by omega)).1]; exact c1) ?_)
  obtain ⟨S2, C2, N2, L2⟩ := arr_S (h := h1) (x := t) (s := 1) (tag := 20) (n := 340) (by omega)
  try dsimp only
  generalize sR (nw h1 20 340) t 1 (hT h1) = h2 at *
  rw [T1] at C2 N2 L2
  have c2 : hC h2 t = 11 := S2.2.2.1.2.1.trans c1
  have T2 : hT h2 = t + 3 := by have := S2.1; omega
  have f2 := S2.2.2.2
  have z2 := S2.2.1
  rw [r_Tree_init_11]
  refine wp_okN rfl (by decide) (wp_isC (by rw [(nw_e (by omega)).1]; exact c2) ?_)
  obtain ⟨S3, C3, N3, L3⟩ := arr_S (h := h2) (x := t) (s := 2) (tag := 20) (n := 340) (by omega)
  try dsimp only
  generalize sR (nw h2 20 340) t 2 (hT h2) = h3 at *
  rw [T2] at C3 N3 L3
  have c3 : hC h3 t = 11 := S3.2.2.1.2.1.trans c2
  have T3 : hT h3 = t + 4 := by have := S3.1; omega
  have f3 := S3.2.2.2
  have z3 := S3.2.1
  refine wp_okN rfl (by decide) (wp_isC (by rw [(nw_e (by omega)).1]; exact c3) ?_)
  obtain ⟨S4, C4, N4, L4⟩ := arr_S (h := h3) (x := t) (s := 3) (tag := 20) (n := 340) (by omega)
  try dsimp only
  generalize sR (nw h3 20 340) t 3 (hT h3) = h4 at *
  rw [T3] at C4 N4 L4
  have c4 : hC h4 t = 11 := S4.2.2.1.2.1.trans c3
  have T4 : hT h4 = t + 5 := by have := S4.1; omega
  have f4 := S4.2.2.2
  have z4 := S4.2.1
  rw [r_Tree_init_20]
  have X4 : Ch t h4 h4 := Ch.rf
  have X3 : Ch t h3 h4 := S4.2.2.1.tr X4
  have X2 : Ch t h2 h4 := S3.2.2.1.tr X3
  have X1 : Ch t h1 h4 := S2.2.2.1.tr X2
  have X0 : Ch t h0 h4 := S1.2.2.1.tr X1
  have cr : hC h4 (t + 1) = 24 := by rw [(X1.2.2.2.2.2 (t + 1) (by omega) (by omega)).1]; exact C1
  have nr : hN h4 (t + 1) = 5 := by rw [(X1.2.2.2.2.2 (t + 1) (by omega) (by omega)).2.1]; exact N1
  have rr : hR h4 t 0 = some (t + 1) := by rw [f4, if_neg (by decide), f3, if_neg (by decide), f2, if_neg (by decide), f1, if_pos rfl, T0]
  refine g_loop (run := fun i h => ev M_Tree_init 0 23 [some (.ref t), some (.int (nI i))] [] h) (x := t) (r := t + 1) (N := 5) (h := h4) (by decide) (by omega) cr nr (fun i q hi a w => ?_) (fun h' a => ?_)
  · have ex := a.e t (by omega) (by omega)
    show wp (ev M_Tree_init 0 23 [some (.ref t), some (.int (nI i))] [] q) _
    rw [r_Tree_init_23]
    simp only [r_Tree_init_34, nI_add]
    refine wp_bf (by rw [nI_ltI (by decide) (by omega)]; omega) (wp_isC (by rw [ex.1]; exact c4) (wp_nnR (by rw [ex.2.2.1]; exact rr) w))
  have ex := a.e t (by omega) (by omega)
  obtain ⟨a1, a2, a3, a4⟩ := id a
  rw [T4] at a1 a4
  show wp (ev M_Tree_init 0 23 [some (.ref t), some (.int (nI 5))] [] h') _
  rw [r_Tree_init_23]
  refine wp_bt (by decide) ?_
  exact wp_s ⟨rfl, by omega, by omega, ⟨by omega, ex.1.trans (X0).2.1, ex.2.1.trans (X0).2.2.1, ex.2.2.2.1.trans (X0).2.2.2.1, ex.2.2.2.2.trans (X0).2.2.2.2.1, fun b w1 w2 => ((X0).2.2.2.2.2 b w1 w2).tr (a.e b (by omega) (by omega))⟩, by rw [ex.1]; exact c4, by rw [ex.2.2.1, f4, if_neg (by decide), f3, if_neg (by decide), f2, if_neg (by decide), f1, if_pos rfl, T0], by rw [a3.2.1]; exact cr, by rw [a3.2.2.1]; exact nr, a4, by rw [ex.2.2.1, f4, if_neg (by decide), f3, if_neg (by decide), f2, if_pos rfl, T1], by rw [((X2.2.2.2.2.2 (t + 2) (by omega) (by omega)).tr (a.e (t + 2) (by omega) (by omega))).1]; exact C2, by rw [((X2.2.2.2.2.2 (t + 2) (by omega) (by omega)).tr (a.e (t + 2) (by omega) (by omega))).2.1]; exact N2, by rw [ex.2.2.1, f4, if_neg (by decide), f3, if_pos rfl, T2], by rw [((X3.2.2.2.2.2 (t + 3) (by omega) (by omega)).tr (a.e (t + 3) (by omega) (by omega))).1]; exact C3, by rw [((X3.2.2.2.2.2 (t + 3) (by omega) (by omega)).tr (a.e (t + 3) (by omega) (by omega))).2.1]; exact N3, by rw [ex.2.2.1, f4, if_pos rfl, T3], by rw [(Se.rf.tr (a.e (t + 4) (by omega) (by omega))).1]; exact C4, by rw [(Se.rf.tr (a.e (t + 4) (by omega) (by omega))).2.1]; exact N4⟩
theorem mkB {h0 : MH} {t : Nat} (T0 : hT h0 = t + 1) (c0 : hC h0 t = 1) : ∃ h', ev M_Box_init 0 0 [some (.ref t), none] [] h0 = some (none, h') ∧ hT h' = t + 12 ∧ hS h' ≤ hS h0 + 95 ∧ Ch t h0 h' ∧ BS h' t := by
  suffices key : wp (ev M_Box_init 0 0 [some (.ref t), none] [] h0) (fun v h' => v = none ∧ hT h' = t + 12 ∧ hS h' ≤ hS h0 + 95 ∧ Ch t h0 h' ∧ BS h' t) by
    obtain ⟨v, h', e, e2, r⟩ := key
    subst e2; exact ⟨h', e, r⟩
  rw [r_Box_init_0]
  refine wp_okN rfl (by decide) (wp_isC (by rw [(nw_e (by omega)).1]; exact c0) ?_)
  obtain ⟨S1, C1, N1, L1⟩ := arr_S (h := h0) (x := t) (s := 2) (tag := 24) (n := 5) (by omega)
  try dsimp only
  generalize sR (nw h0 24 5) t 2 (hT h0) = h1 at *
  rw [T0] at C1 N1 L1
  have c1 : hC h1 t = 1 := S1.2.2.1.2.1.trans c0
  have T1 : hT h1 = t + 2 := by have := S1.1; omega
  have f1 := S1.2.2.2
  have z1 := S1.2.1
  have X1 : Ch t h1 h1 := Ch.rf
  have X0 : Ch t h0 h1 := S1.2.2.1.tr X1
  have cr : hC h1 (t + 1) = 24 := by rw [Se.rf.1]; exact C1
  have nr : hN h1 (t + 1) = 5 := by rw [Se.rf.2.1]; exact N1
  have rr : hR h1 t 2 = some (t + 1) := by rw [f1, if_pos rfl, T0]
  refine g_loop (run := fun i h => ev M_Box_init 0 9 [some (.ref t), some (.int (nI i))] [] h) (x := t) (r := t + 1) (N := 5) (h := h1) (by decide) (by omega) cr nr (fun i q hi a w => ?_) (fun h' a => ?_)
  · have ex := a.e t (by omega) (by omega)
    show wp (ev M_Box_init 0 9 [some (.ref t), some (.int (nI i))] [] q) _
    rw [r_Box_init_9]
    simp only [r_Box_init_20, nI_add]
    refine wp_bt (by rw [nI_ltI (by omega) (by decide)]; omega) (wp_isC (by rw [ex.1]; exact c1) (wp_nnR (by rw [ex.2.2.1]; exact rr) w))
  have ex := a.e t (by omega) (by omega)
  obtain ⟨a1, a2, a3, a4⟩ := id a
  rw [T1] at a1 a4
  show wp (ev M_Box_init 0 9 [some (.ref t), some (.int (nI 5))] [] h') _
  rw [r_Box_init_9]
  refine wp_bf (by decide) ?_
  exact wp_s ⟨rfl, by omega, by omega, ⟨by omega, ex.1.trans (X0).2.1, ex.2.1.trans (X0).2.2.1, ex.2.2.2.1.trans (X0).2.2.2.1, ex.2.2.2.2.trans (X0).2.2.2.2.1, fun b w1 w2 => ((X0).2.2.2.2.2 b w1 w2).tr (a.e b (by omega) (by omega))⟩, by rw [ex.1]; exact c1, by rw [ex.2.2.1, f1, if_pos rfl, T0], by rw [a3.2.1]; exact cr, by rw [a3.2.2.1]; exact nr, a4⟩
theorem mkI {h0 : MH} {t : Nat} (T0 : hT h0 = t + 1) (c0 : hC h0 t = 9) : ∃ h', ev M_Sightings_init 0 0 [some (.ref t)] [] h0 = some (none, h') ∧ hT h' = t + 16 ∧ hS h' ≤ hS h0 + 282 ∧ Ch t h0 h' ∧ IS h' t := by
  suffices key : wp (ev M_Sightings_init 0 0 [some (.ref t)] [] h0) (fun v h' => v = none ∧ hT h' = t + 16 ∧ hS h' ≤ hS h0 + 282 ∧ Ch t h0 h' ∧ IS h' t) by
    obtain ⟨v, h', e, e2, r⟩ := key
    subst e2; exact ⟨h', e, r⟩
  rw [r_Sightings_init_0]
  obtain ⟨k1, e1, W1, G1⟩ := nwG h0
  refine wp_rVe e1 (wp_isC (by rw [(W1.2.2 t (by omega)).1]; exact c0) ?_)
  obtain ⟨S1, U1⟩ := W1.st (x := t) (s := 4) (by omega)
  try dsimp only
  generalize sR k1 t 4 (hT h0) = h1 at *
  have c1 : hC h1 t = 9 := S1.2.2.1.2.1.trans c0
  have T1 : hT h1 = t + 3 := by have := S1.1; omega
  have f1 := S1.2.2.2
  have z1 := S1.2.1
  refine wp_okN rfl (by decide) (wp_isC (by rw [(nw_e (by omega)).1]; exact c1) ?_)
  obtain ⟨S2, C2, N2, L2⟩ := arr_S (h := h1) (x := t) (s := 5) (tag := 20) (n := 30) (by omega)
  try dsimp only
  generalize sR (nw h1 20 30) t 5 (hT h1) = h2 at *
  rw [T1] at C2 N2 L2
  have c2 : hC h2 t = 9 := S2.2.2.1.2.1.trans c1
  have T2 : hT h2 = t + 4 := by have := S2.1; omega
  have f2 := S2.2.2.2
  have z2 := S2.2.1
  rw [r_Sightings_init_12]
  refine wp_okN rfl (by decide) (wp_isC (by rw [(nw_e (by omega)).1]; exact c2) ?_)
  obtain ⟨S3, C3, N3, L3⟩ := arr_S (h := h2) (x := t) (s := 6) (tag := 20) (n := 30) (by omega)
  try dsimp only
  generalize sR (nw h2 20 30) t 6 (hT h2) = h3 at *
  rw [T2] at C3 N3 L3
  have c3 : hC h3 t = 9 := S3.2.2.1.2.1.trans c2
  have T3 : hT h3 = t + 5 := by have := S3.1; omega
  have f3 := S3.2.2.2
  have z3 := S3.2.1
  refine wp_okN rfl (by decide) (wp_isC (by rw [(nw_e (by omega)).1]; exact c3) ?_)
  obtain ⟨S4, C4, N4, L4⟩ := arr_S (h := h3) (x := t) (s := 7) (tag := 20) (n := 30) (by omega)
  try dsimp only
  generalize sR (nw h3 20 30) t 7 (hT h3) = h4 at *
  rw [T3] at C4 N4 L4
  have c4 : hC h4 t = 9 := S4.2.2.1.2.1.trans c3
  have T4 : hT h4 = t + 6 := by have := S4.1; omega
  have f4 := S4.2.2.2
  have z4 := S4.2.1
  rw [r_Sightings_init_21]
  refine wp_okN rfl (by decide) (wp_isC (by rw [(nw_e (by omega)).1]; exact c4) ?_)
  obtain ⟨S5, C5, N5, L5⟩ := arr_S (h := h4) (x := t) (s := 8) (tag := 20) (n := 30) (by omega)
  try dsimp only
  generalize sR (nw h4 20 30) t 8 (hT h4) = h5 at *
  rw [T4] at C5 N5 L5
  have c5 : hC h5 t = 9 := S5.2.2.1.2.1.trans c4
  have T5 : hT h5 = t + 7 := by have := S5.1; omega
  have f5 := S5.2.2.2
  have z5 := S5.2.1
  refine wp_okN rfl (by decide) (wp_isC (by rw [(nw_e (by omega)).1]; exact c5) ?_)
  obtain ⟨S6, C6, N6, L6⟩ := arr_S (h := h5) (x := t) (s := 9) (tag := 23) (n := 30) (by omega)
  try dsimp only
  generalize sR (nw h5 23 30) t 9 (hT h5) = h6 at *
  rw [T5] at C6 N6 L6
  have c6 : hC h6 t = 9 := S6.2.2.1.2.1.trans c5
  have T6 : hT h6 = t + 8 := by have := S6.1; omega
  have f6 := S6.2.2.2
  have z6 := S6.2.1
  rw [r_Sightings_init_30]
  refine wp_okN rfl (by decide) (wp_isC (by rw [(nw_e (by omega)).1]; exact c6) ?_)
  obtain ⟨S7, C7, N7, L7⟩ := arr_S (h := h6) (x := t) (s := 10) (tag := 20) (n := 30) (by omega)
  try dsimp only
  generalize sR (nw h6 20 30) t 10 (hT h6) = h7 at *
  rw [T6] at C7 N7 L7
  have c7 : hC h7 t = 9 := S7.2.2.1.2.1.trans c6
  have T7 : hT h7 = t + 9 := by have := S7.1; omega
  have f7 := S7.2.2.2
  have z7 := S7.2.1
  refine wp_okN rfl (by decide) (wp_isC (by rw [(nw_e (by omega)).1]; exact c7) ?_)
  obtain ⟨S8, C8, N8, L8⟩ := arr_S (h := h7) (x := t) (s := 11) (tag := 20) (n := 30) (by omega)
  try dsimp only
  generalize sR (nw h7 20 30) t 11 (hT h7) = h8 at *
  rw [T7] at C8 N8 L8
  have c8 : hC h8 t = 9 := S8.2.2.1.2.1.trans c7
  have T8 : hT h8 = t + 10 := by have := S8.1; omega
  have f8 := S8.2.2.2
  have z8 := S8.2.1
  rw [r_Sightings_init_39]
  obtain ⟨k9, e9, W9, G9⟩ := nwG h8
  refine wp_rVe e9 (wp_isC (by rw [(W9.2.2 t (by omega)).1]; exact c8) ?_)
  obtain ⟨S9, U9⟩ := W9.st (x := t) (s := 13) (by omega)
  try dsimp only
  generalize sR k9 t 13 (hT h8) = h9 at *
  have c9 : hC h9 t = 9 := S9.2.2.1.2.1.trans c8
  have T9 : hT h9 = t + 12 := by have := S9.1; omega
  have f9 := S9.2.2.2
  have z9 := S9.2.1
  obtain ⟨k10, e10, W10, G10⟩ := nwG h9
  refine wp_rVe e10 (wp_isC (by rw [(W10.2.2 t (by omega)).1]; exact c9) ?_)
  obtain ⟨S10, U10⟩ := W10.st (x := t) (s := 14) (by omega)
  try dsimp only
  generalize sR k10 t 14 (hT h9) = h10 at *
  have c10 : hC h10 t = 9 := S10.2.2.1.2.1.trans c9
  have T10 : hT h10 = t + 14 := by have := S10.1; omega
  have f10 := S10.2.2.2
  have z10 := S10.2.1
  rw [r_Sightings_init_50]
  obtain ⟨k11, e11, W11, G11⟩ := nwG h10
  refine wp_rVe e11 (wp_isC (by rw [(W11.2.2 t (by omega)).1]; exact c10) ?_)
  obtain ⟨S11, U11⟩ := W11.st (x := t) (s := 15) (by omega)
  try dsimp only
  generalize sR k11 t 15 (hT h10) = h11 at *
  have c11 : hC h11 t = 9 := S11.2.2.1.2.1.trans c10
  have T11 : hT h11 = t + 16 := by have := S11.1; omega
  have f11 := S11.2.2.2
  have z11 := S11.2.1
  rw [T0] at G1 U1
  rw [T8] at G9 U9
  rw [T9] at G10 U10
  rw [T10] at G11 U11
  have X11 : Ch t h11 h11 := Ch.rf
  have X10 : Ch t h10 h11 := S11.2.2.1.tr X11
  have X9 : Ch t h9 h11 := S10.2.2.1.tr X10
  have X8 : Ch t h8 h11 := S9.2.2.1.tr X9
  have X7 : Ch t h7 h11 := S8.2.2.1.tr X8
  have X6 : Ch t h6 h11 := S7.2.2.1.tr X7
  have X5 : Ch t h5 h11 := S6.2.2.1.tr X6
  have X4 : Ch t h4 h11 := S5.2.2.1.tr X5
  have X3 : Ch t h3 h11 := S4.2.2.1.tr X4
  have X2 : Ch t h2 h11 := S3.2.2.1.tr X3
  have X1 : Ch t h1 h11 := S2.2.2.1.tr X2
  have X0 : Ch t h0 h11 := S1.2.2.1.tr X1
  exact wp_s ⟨rfl, T11, by omega, X0, c11, by rw [f11, if_neg (by decide), f10, if_neg (by decide), f9, if_neg (by decide), f8, if_neg (by decide), f7, if_neg (by decide), f6, if_neg (by decide), f5, if_neg (by decide), f4, if_neg (by decide), f3, if_neg (by decide), f2, if_neg (by decide), f1, if_pos rfl, T0], ((G1.q (fun b w1 w2 => U1 b (by omega))).q (fun b w1 w2 => (X1.2.2.2.2.2 b (by omega) (by omega)))), by rw [f11, if_neg (by decide), f10, if_neg (by decide), f9, if_neg (by decide), f8, if_neg (by decide), f7, if_neg (by decide), f6, if_neg (by decide), f5, if_neg (by decide), f4, if_neg (by decide), f3, if_neg (by decide), f2, if_pos rfl, T1], by rw [(X2.2.2.2.2.2 (t + 3) (by omega) (by omega)).1]; exact C2, by rw [(X2.2.2.2.2.2 (t + 3) (by omega) (by omega)).2.1]; exact N2, by rw [f11, if_neg (by decide), f10, if_neg (by decide), f9, if_neg (by decide), f8, if_neg (by decide), f7, if_neg (by decide), f6, if_neg (by decide), f5, if_neg (by decide), f4, if_neg (by decide), f3, if_pos rfl, T2], by rw [(X3.2.2.2.2.2 (t + 4) (by omega) (by omega)).1]; exact C3, by rw [(X3.2.2.2.2.2 (t + 4) (by omega) (by omega)).2.1]; exact N3, by rw [f11, if_neg (by decide), f10, if_neg (by decide), f9, if_neg (by decide), f8, if_neg (by decide), f7, if_neg (by decide), f6, if_neg (by decide), f5, if_neg (by decide), f4, if_pos rfl, T3], by rw [(X4.2.2.2.2.2 (t + 5) (by omega) (by omega)).1]; exact C4, by rw [(X4.2.2.2.2.2 (t + 5) (by omega) (by omega)).2.1]; exact N4, by rw [f11, if_neg (by decide), f10, if_neg (by decide), f9, if_neg (by decide), f8, if_neg (by decide), f7, if_neg (by decide), f6, if_neg (by decide), f5, if_pos rfl, T4], by rw [(X5.2.2.2.2.2 (t + 6) (by omega) (by omega)).1]; exact C5, by rw [(X5.2.2.2.2.2 (t + 6) (by omega) (by omega)).2.1]; exact N5, by rw [f11, if_neg (by decide), f10, if_neg (by decide), f9, if_neg (by decide), f8, if_neg (by decide), f7, if_neg (by decide), f6, if_pos rfl, T5], by rw [(X6.2.2.2.2.2 (t + 7) (by omega) (by omega)).1]; exact C6, by rw [(X6.2.2.2.2.2 (t + 7) (by omega) (by omega)).2.1]; exact N6, by rw [f11, if_neg (by decide), f10, if_neg (by decide), f9, if_neg (by decide), f8, if_neg (by decide), f7, if_pos rfl, T6], by rw [(X7.2.2.2.2.2 (t + 8) (by omega) (by omega)).1]; exact C7, by rw [(X7.2.2.2.2.2 (t + 8) (by omega) (by omega)).2.1]; exact N7, by rw [f11, if_neg (by decide), f10, if_neg (by decide), f9, if_neg (by decide), f8, if_pos rfl, T7], by rw [(X8.2.2.2.2.2 (t + 9) (by omega) (by omega)).1]; exact C8, by rw [(X8.2.2.2.2.2 (t + 9) (by omega) (by omega)).2.1]; exact N8, by rw [f11, if_neg (by decide), f10, if_neg (by decide), f9, if_pos rfl, T8], ((G9.q (fun b w1 w2 => U9 b (by omega))).q (fun b w1 w2 => (X9.2.2.2.2.2 b (by omega) (by omega)))), by rw [f11, if_neg (by decide), f10, if_pos rfl, T9], ((G10.q (fun b w1 w2 => U10 b (by omega))).q (fun b w1 w2 => (X10.2.2.2.2.2 b (by omega) (by omega)))), by rw [f11, if_pos rfl, T10], ((G11.q (fun b w1 w2 => U11 b (by omega))).q (fun b w1 w2 => Se.rf))⟩
