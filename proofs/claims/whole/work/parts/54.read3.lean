/-! The reader: units, nots; what a derived one is. -/
section
variable {h : MH} {R p tp s1 v1 : Nat} {f0 : Nat → Nat → Int32} {g0 : Nat → Nat → Int64} {b : Nat → Nat} {len m : Nat} {s : Ps} {hp : MH}
theorem RX_un {x : Nat} (D : RDS h R p tp s1 v1) (X : RX h R p tp s1 v1 f0 g0 b len m s hp) (hx : x ≤ 30) : hI hp p 5 = nI (vUn (yN s)) ∧ RX h R p tp s1 v1 f0 g0 b len m (zN s (uUn (yN s) x)) (sI hp p 5 (nI x)) := by
  obtain ⟨f, g, rfl, x1, x2, x3, x4, x5, x6, x7, x8⟩ := X
  obtain ⟨y0, y1, y2, y3, y4, y5, y6, y7, y8, y9, y10⟩ := id x3
  obtain ⟨b1, b2, b3, b4, b5, b6, b7, b8, b9, b10, b11⟩ := id x5
  refine ⟨y5, ?_⟩
  rw [wI_s]
  refine RX_pl D x1 x2 x4 x6 x7 x8 (fun a ha => by rw [up2_a (by omega)]) ?_ ⟨b1, b2, b3, b4, b5, b6, b7, hx, b9, b10, b11⟩
  · refine ⟨?_, ?_, ?_, ?_, ?_, ?_, ?_, ?_, ⟨?_, ?_⟩, ?_, y10⟩
    · simp (disch := omega) only [wI_I, wI_s, nI_add, pk_mul, nI_ltI, nI_leI, nI_eq, nI_clamp, nm_or, nm_and, nm_xor, nm_nd, nm_one, nm_shr, nm_b2, Bool.false_eq_true, Bool.true_eq_false, not_false_eq_true, not_true_eq_false, reduceCtorEq, up2_a, up2_k, up2_s, gw_o]; exact y0
    · simp (disch := omega) only [wI_I, wI_s, nI_add, pk_mul, nI_ltI, nI_leI, nI_eq, nI_clamp, nm_or, nm_and, nm_xor, nm_nd, nm_one, nm_shr, nm_b2, Bool.false_eq_true, Bool.true_eq_false, not_false_eq_true, not_true_eq_false, reduceCtorEq, up2_a, up2_k, up2_s, gw_o]; exact y1
    · simp (disch := omega) only [wI_I, wI_s, nI_add, pk_mul, nI_ltI, nI_leI, nI_eq, nI_clamp, nm_or, nm_and, nm_xor, nm_nd, nm_one, nm_shr, nm_b2, Bool.false_eq_true, Bool.true_eq_false, not_false_eq_true, not_true_eq_false, reduceCtorEq, up2_a, up2_k, up2_s, gw_o]; exact y2
    · simp (disch := omega) only [wI_I, wI_s, nI_add, pk_mul, nI_ltI, nI_leI, nI_eq, nI_clamp, nm_or, nm_and, nm_xor, nm_nd, nm_one, nm_shr, nm_b2, Bool.false_eq_true, Bool.true_eq_false, not_false_eq_true, not_true_eq_false, reduceCtorEq, up2_a, up2_k, up2_s, gw_o]; exact y3
    · simp (disch := omega) only [wI_I, wI_s, nI_add, pk_mul, nI_ltI, nI_leI, nI_eq, nI_clamp, nm_or, nm_and, nm_xor, nm_nd, nm_one, nm_shr, nm_b2, Bool.false_eq_true, Bool.true_eq_false, not_false_eq_true, not_true_eq_false, reduceCtorEq, up2_a, up2_k, up2_s, gw_o]; exact y4
    · exact up2_s
    · simp (disch := omega) only [wI_I, wI_s, nI_add, pk_mul, nI_ltI, nI_leI, nI_eq, nI_clamp, nm_or, nm_and, nm_xor, nm_nd, nm_one, nm_shr, nm_b2, Bool.false_eq_true, Bool.true_eq_false, not_false_eq_true, not_true_eq_false, reduceCtorEq, up2_a, up2_k, up2_s, gw_o]; exact y6
    · intro i c hc; simp (disch := omega) only [wI_I, wI_s, nI_add, pk_mul, nI_ltI, nI_leI, nI_eq, nI_clamp, nm_or, nm_and, nm_xor, nm_nd, nm_one, nm_shr, nm_b2, Bool.false_eq_true, Bool.true_eq_false, not_false_eq_true, not_true_eq_false, reduceCtorEq, up2_a, up2_k, up2_s, gw_o]; exact y7 i c hc
    · simp (disch := omega) only [wI_I, wI_s, nI_add, pk_mul, nI_ltI, nI_leI, nI_eq, nI_clamp, nm_or, nm_and, nm_xor, nm_nd, nm_one, nm_shr, nm_b2, Bool.false_eq_true, Bool.true_eq_false, not_false_eq_true, not_true_eq_false, reduceCtorEq, up2_a, up2_k, up2_s, gw_o]; exact y8.1
    · intro i c hc; simp (disch := omega) only [wI_I, wI_s, nI_add, pk_mul, nI_ltI, nI_leI, nI_eq, nI_clamp, nm_or, nm_and, nm_xor, nm_nd, nm_one, nm_shr, nm_b2, Bool.false_eq_true, Bool.true_eq_false, not_false_eq_true, not_true_eq_false, reduceCtorEq, up2_a, up2_k, up2_s, gw_o]; exact y8.2 i c hc
    · intro k hk
      exact GF_up2 (by omega) (by omega) (y9 k hk)
theorem RX_dr {x : Nat} (D : RDS h R p tp s1 v1) (X : RX h R p tp s1 v1 f0 g0 b len m s hp) (hx : x ≤ 100) : hI hp p 3 = nI (vDr (yN s)) ∧ RX h R p tp s1 v1 f0 g0 b len m (zN s (uDr (yN s) x)) (sI hp p 3 (nI x)) := by
  obtain ⟨f, g, rfl, x1, x2, x3, x4, x5, x6, x7, x8⟩ := X
  obtain ⟨y0, y1, y2, y3, y4, y5, y6, y7, y8, y9, y10⟩ := id x3
  obtain ⟨b1, b2, b3, b4, b5, b6, b7, b8, b9, b10, b11⟩ := id x5
  refine ⟨y3, ?_⟩
  rw [wI_s]
  refine RX_pl D x1 x2 x4 x6 x7 x8 (fun a ha => by rw [up2_a (by omega)]) ?_ ⟨b1, b2, b3, b4, b5, hx, b7, b8, b9, b10, b11⟩
  · refine ⟨?_, ?_, ?_, ?_, ?_, ?_, ?_, ?_, ⟨?_, ?_⟩, ?_, y10⟩
    · simp (disch := omega) only [wI_I, wI_s, nI_add, pk_mul, nI_ltI, nI_leI, nI_eq, nI_clamp, nm_or, nm_and, nm_xor, nm_nd, nm_one, nm_shr, nm_b2, Bool.false_eq_true, Bool.true_eq_false, not_false_eq_true, not_true_eq_false, reduceCtorEq, up2_a, up2_k, up2_s, gw_o]; exact y0
    · simp (disch := omega) only [wI_I, wI_s, nI_add, pk_mul, nI_ltI, nI_leI, nI_eq, nI_clamp, nm_or, nm_and, nm_xor, nm_nd, nm_one, nm_shr, nm_b2, Bool.false_eq_true, Bool.true_eq_false, not_false_eq_true, not_true_eq_false, reduceCtorEq, up2_a, up2_k, up2_s, gw_o]; exact y1
    · simp (disch := omega) only [wI_I, wI_s, nI_add, pk_mul, nI_ltI, nI_leI, nI_eq, nI_clamp, nm_or, nm_and, nm_xor, nm_nd, nm_one, nm_shr, nm_b2, Bool.false_eq_true, Bool.true_eq_false, not_false_eq_true, not_true_eq_false, reduceCtorEq, up2_a, up2_k, up2_s, gw_o]; exact y2
    · exact up2_s
    · simp (disch := omega) only [wI_I, wI_s, nI_add, pk_mul, nI_ltI, nI_leI, nI_eq, nI_clamp, nm_or, nm_and, nm_xor, nm_nd, nm_one, nm_shr, nm_b2, Bool.false_eq_true, Bool.true_eq_false, not_false_eq_true, not_true_eq_false, reduceCtorEq, up2_a, up2_k, up2_s, gw_o]; exact y4
    · simp (disch := omega) only [wI_I, wI_s, nI_add, pk_mul, nI_ltI, nI_leI, nI_eq, nI_clamp, nm_or, nm_and, nm_xor, nm_nd, nm_one, nm_shr, nm_b2, Bool.false_eq_true, Bool.true_eq_false, not_false_eq_true, not_true_eq_false, reduceCtorEq, up2_a, up2_k, up2_s, gw_o]; exact y5
    · simp (disch := omega) only [wI_I, wI_s, nI_add, pk_mul, nI_ltI, nI_leI, nI_eq, nI_clamp, nm_or, nm_and, nm_xor, nm_nd, nm_one, nm_shr, nm_b2, Bool.false_eq_true, Bool.true_eq_false, not_false_eq_true, not_true_eq_false, reduceCtorEq, up2_a, up2_k, up2_s, gw_o]; exact y6
    · intro i c hc; simp (disch := omega) only [wI_I, wI_s, nI_add, pk_mul, nI_ltI, nI_leI, nI_eq, nI_clamp, nm_or, nm_and, nm_xor, nm_nd, nm_one, nm_shr, nm_b2, Bool.false_eq_true, Bool.true_eq_false, not_false_eq_true, not_true_eq_false, reduceCtorEq, up2_a, up2_k, up2_s, gw_o]; exact y7 i c hc
    · simp (disch := omega) only [wI_I, wI_s, nI_add, pk_mul, nI_ltI, nI_leI, nI_eq, nI_clamp, nm_or, nm_and, nm_xor, nm_nd, nm_one, nm_shr, nm_b2, Bool.false_eq_true, Bool.true_eq_false, not_false_eq_true, not_true_eq_false, reduceCtorEq, up2_a, up2_k, up2_s, gw_o]; exact y8.1
    · intro i c hc; simp (disch := omega) only [wI_I, wI_s, nI_add, pk_mul, nI_ltI, nI_leI, nI_eq, nI_clamp, nm_or, nm_and, nm_xor, nm_nd, nm_one, nm_shr, nm_b2, Bool.false_eq_true, Bool.true_eq_false, not_false_eq_true, not_true_eq_false, reduceCtorEq, up2_a, up2_k, up2_s, gw_o]; exact y8.2 i c hc
    · intro k hk
      exact GF_up2 (by omega) (by omega) (y9 k hk)
theorem RX_dw {x : Nat} (D : RDS h R p tp s1 v1) (X : RX h R p tp s1 v1 f0 g0 b len m s hp) (hx : x ≤ 999) : hI hp p 4 = nI (vDw (yN s)) ∧ RX h R p tp s1 v1 f0 g0 b len m (zN s (uDw (yN s) x)) (sI hp p 4 (nI x)) := by
  obtain ⟨f, g, rfl, x1, x2, x3, x4, x5, x6, x7, x8⟩ := X
  obtain ⟨y0, y1, y2, y3, y4, y5, y6, y7, y8, y9, y10⟩ := id x3
  obtain ⟨b1, b2, b3, b4, b5, b6, b7, b8, b9, b10, b11⟩ := id x5
  refine ⟨y4, ?_⟩
  rw [wI_s]
  refine RX_pl D x1 x2 x4 x6 x7 x8 (fun a ha => by rw [up2_a (by omega)]) ?_ ⟨b1, b2, b3, b4, b5, b6, hx, b8, b9, b10, b11⟩
  · refine ⟨?_, ?_, ?_, ?_, ?_, ?_, ?_, ?_, ⟨?_, ?_⟩, ?_, y10⟩
    · simp (disch := omega) only [wI_I, wI_s, nI_add, pk_mul, nI_ltI, nI_leI, nI_eq, nI_clamp, nm_or, nm_and, nm_xor, nm_nd, nm_one, nm_shr, nm_b2, Bool.false_eq_true, Bool.true_eq_false, not_false_eq_true, not_true_eq_false, reduceCtorEq, up2_a, up2_k, up2_s, gw_o]; exact y0
    · simp (disch := omega) only [wI_I, wI_s, nI_add, pk_mul, nI_ltI, nI_leI, nI_eq, nI_clamp, nm_or, nm_and, nm_xor, nm_nd, nm_one, nm_shr, nm_b2, Bool.false_eq_true, Bool.true_eq_false, not_false_eq_true, not_true_eq_false, reduceCtorEq, up2_a, up2_k, up2_s, gw_o]; exact y1
    · simp (disch := omega) only [wI_I, wI_s, nI_add, pk_mul, nI_ltI, nI_leI, nI_eq, nI_clamp, nm_or, nm_and, nm_xor, nm_nd, nm_one, nm_shr, nm_b2, Bool.false_eq_true, Bool.true_eq_false, not_false_eq_true, not_true_eq_false, reduceCtorEq, up2_a, up2_k, up2_s, gw_o]; exact y2
    · simp (disch := omega) only [wI_I, wI_s, nI_add, pk_mul, nI_ltI, nI_leI, nI_eq, nI_clamp, nm_or, nm_and, nm_xor, nm_nd, nm_one, nm_shr, nm_b2, Bool.false_eq_true, Bool.true_eq_false, not_false_eq_true, not_true_eq_false, reduceCtorEq, up2_a, up2_k, up2_s, gw_o]; exact y3
    · exact up2_s
    · simp (disch := omega) only [wI_I, wI_s, nI_add, pk_mul, nI_ltI, nI_leI, nI_eq, nI_clamp, nm_or, nm_and, nm_xor, nm_nd, nm_one, nm_shr, nm_b2, Bool.false_eq_true, Bool.true_eq_false, not_false_eq_true, not_true_eq_false, reduceCtorEq, up2_a, up2_k, up2_s, gw_o]; exact y5
    · simp (disch := omega) only [wI_I, wI_s, nI_add, pk_mul, nI_ltI, nI_leI, nI_eq, nI_clamp, nm_or, nm_and, nm_xor, nm_nd, nm_one, nm_shr, nm_b2, Bool.false_eq_true, Bool.true_eq_false, not_false_eq_true, not_true_eq_false, reduceCtorEq, up2_a, up2_k, up2_s, gw_o]; exact y6
    · intro i c hc; simp (disch := omega) only [wI_I, wI_s, nI_add, pk_mul, nI_ltI, nI_leI, nI_eq, nI_clamp, nm_or, nm_and, nm_xor, nm_nd, nm_one, nm_shr, nm_b2, Bool.false_eq_true, Bool.true_eq_false, not_false_eq_true, not_true_eq_false, reduceCtorEq, up2_a, up2_k, up2_s, gw_o]; exact y7 i c hc
    · simp (disch := omega) only [wI_I, wI_s, nI_add, pk_mul, nI_ltI, nI_leI, nI_eq, nI_clamp, nm_or, nm_and, nm_xor, nm_nd, nm_one, nm_shr, nm_b2, Bool.false_eq_true, Bool.true_eq_false, not_false_eq_true, not_true_eq_false, reduceCtorEq, up2_a, up2_k, up2_s, gw_o]; exact y8.1
    · intro i c hc; simp (disch := omega) only [wI_I, wI_s, nI_add, pk_mul, nI_ltI, nI_leI, nI_eq, nI_clamp, nm_or, nm_and, nm_xor, nm_nd, nm_one, nm_shr, nm_b2, Bool.false_eq_true, Bool.true_eq_false, not_false_eq_true, not_true_eq_false, reduceCtorEq, up2_a, up2_k, up2_s, gw_o]; exact y8.2 i c hc
    · intro k hk
      exact GF_up2 (by omega) (by omega) (y9 k hk)
theorem RX_ln {x : Nat} (D : RDS h R p tp s1 v1) (X : RX h R p tp s1 v1 f0 g0 b len m s hp) (hx : x < 128) : hI hp R 4 = nI (yL s) ∧ RX h R p tp s1 v1 f0 g0 b len m (zL s x) (sI hp R 4 (nI x)) := by
  obtain ⟨f, g, rfl, x1, x2, x3, x4, x5, x6, x7, x8⟩ := X
  obtain ⟨d1, d2, d3, d4, d5, d6, d7, d8, d9, d10⟩ := D
  refine ⟨x2.2.2.1, ?_⟩
  rw [wI_s]
  refine ⟨up2 f R 4 (nI x), g, rfl, ?_, ?_, ?_, ⟨x4.1, x4.2.1, x4.2.2.1, hx, x4.2.2.2.2⟩, x5, fun a h1 h2 h3 => (up2_a h1).trans (x6 a h1 h2 h3), x7, x8⟩
  · obtain ⟨u1, u2, u3, u4, u5, u6, u7⟩ := x1
    refine ⟨?_, u2, u3, fun i hi => ?_, ?_, fun j hj => ?_, u7⟩
    · simp (disch := omega) only [wI_I, wI_s, nI_add, pk_mul, nI_ltI, nI_leI, nI_eq, nI_clamp, nm_or, nm_and, nm_xor, nm_nd, nm_one, nm_shr, nm_b2, Bool.false_eq_true, Bool.true_eq_false, not_false_eq_true, not_true_eq_false, reduceCtorEq, up2_a, up2_k, up2_s, gw_o]; exact u1
    · simp (disch := omega) only [wI_I, wI_s, nI_add, pk_mul, nI_ltI, nI_leI, nI_eq, nI_clamp, nm_or, nm_and, nm_xor, nm_nd, nm_one, nm_shr, nm_b2, Bool.false_eq_true, Bool.true_eq_false, not_false_eq_true, not_true_eq_false, reduceCtorEq, up2_a, up2_k, up2_s, gw_o]; exact u4 i hi
    · simp (disch := omega) only [wI_I, wI_s, nI_add, pk_mul, nI_ltI, nI_leI, nI_eq, nI_clamp, nm_or, nm_and, nm_xor, nm_nd, nm_one, nm_shr, nm_b2, Bool.false_eq_true, Bool.true_eq_false, not_false_eq_true, not_true_eq_false, reduceCtorEq, up2_a, up2_k, up2_s, gw_o]; exact u5
    · simp (disch := omega) only [wI_I, wI_s, nI_add, pk_mul, nI_ltI, nI_leI, nI_eq, nI_clamp, nm_or, nm_and, nm_xor, nm_nd, nm_one, nm_shr, nm_b2, Bool.false_eq_true, Bool.true_eq_false, not_false_eq_true, not_true_eq_false, reduceCtorEq, up2_a, up2_k, up2_s, gw_o]; exact u6 j hj
  · obtain ⟨u1, u2, u3, u4, u5, u6⟩ := x2
    refine ⟨?_, ?_, ?_, ?_, fun z => ?_, fun z => ?_⟩
    · simp (disch := omega) only [wI_I, wI_s, nI_add, pk_mul, nI_ltI, nI_leI, nI_eq, nI_clamp, nm_or, nm_and, nm_xor, nm_nd, nm_one, nm_shr, nm_b2, Bool.false_eq_true, Bool.true_eq_false, not_false_eq_true, not_true_eq_false, reduceCtorEq, up2_a, up2_k, up2_s, gw_o]; exact u1
    · simp (disch := omega) only [wI_I, wI_s, nI_add, pk_mul, nI_ltI, nI_leI, nI_eq, nI_clamp, nm_or, nm_and, nm_xor, nm_nd, nm_one, nm_shr, nm_b2, Bool.false_eq_true, Bool.true_eq_false, not_false_eq_true, not_true_eq_false, reduceCtorEq, up2_a, up2_k, up2_s, gw_o]; exact u2
    · exact up2_s
    · simp (disch := omega) only [wI_I, wI_s, nI_add, pk_mul, nI_ltI, nI_leI, nI_eq, nI_clamp, nm_or, nm_and, nm_xor, nm_nd, nm_one, nm_shr, nm_b2, Bool.false_eq_true, Bool.true_eq_false, not_false_eq_true, not_true_eq_false, reduceCtorEq, up2_a, up2_k, up2_s, gw_o]; exact u4
    · obtain ⟨w1, w2, w3, w4, w5, w6⟩ := u5 z
      refine ⟨?_, ?_, ?_, ?_, fun k => ?_, w6⟩
      · simp (disch := omega) only [wI_I, wI_s, nI_add, pk_mul, nI_ltI, nI_leI, nI_eq, nI_clamp, nm_or, nm_and, nm_xor, nm_nd, nm_one, nm_shr, nm_b2, Bool.false_eq_true, Bool.true_eq_false, not_false_eq_true, not_true_eq_false, reduceCtorEq, up2_a, up2_k, up2_s, gw_o]; exact w1
      · simp (disch := omega) only [wI_I, wI_s, nI_add, pk_mul, nI_ltI, nI_leI, nI_eq, nI_clamp, nm_or, nm_and, nm_xor, nm_nd, nm_one, nm_shr, nm_b2, Bool.false_eq_true, Bool.true_eq_false, not_false_eq_true, not_true_eq_false, reduceCtorEq, up2_a, up2_k, up2_s, gw_o]; exact w2
      · simp (disch := omega) only [wI_I, wI_s, nI_add, pk_mul, nI_ltI, nI_leI, nI_eq, nI_clamp, nm_or, nm_and, nm_xor, nm_nd, nm_one, nm_shr, nm_b2, Bool.false_eq_true, Bool.true_eq_false, not_false_eq_true, not_true_eq_false, reduceCtorEq, up2_a, up2_k, up2_s, gw_o]; exact w3
      · simp (disch := omega) only [wI_I, wI_s, nI_add, pk_mul, nI_ltI, nI_leI, nI_eq, nI_clamp, nm_or, nm_and, nm_xor, nm_nd, nm_one, nm_shr, nm_b2, Bool.false_eq_true, Bool.true_eq_false, not_false_eq_true, not_true_eq_false, reduceCtorEq, up2_a, up2_k, up2_s, gw_o]; exact w4
      · simp (disch := omega) only [wI_I, wI_s, nI_add, pk_mul, nI_ltI, nI_leI, nI_eq, nI_clamp, nm_or, nm_and, nm_xor, nm_nd, nm_one, nm_shr, nm_b2, Bool.false_eq_true, Bool.true_eq_false, not_false_eq_true, not_true_eq_false, reduceCtorEq, up2_a, up2_k, up2_s, gw_o]; exact w5 k
    · obtain ⟨w1, w2⟩ := u6 z
      refine ⟨?_, ?_⟩
      · simp (disch := omega) only [wI_I, wI_s, nI_add, pk_mul, nI_ltI, nI_leI, nI_eq, nI_clamp, nm_or, nm_and, nm_xor, nm_nd, nm_one, nm_shr, nm_b2, Bool.false_eq_true, Bool.true_eq_false, not_false_eq_true, not_true_eq_false, reduceCtorEq, up2_a, up2_k, up2_s, gw_o]; exact w1
      · simp (disch := omega) only [wI_I, wI_s, nI_add, pk_mul, nI_ltI, nI_leI, nI_eq, nI_clamp, nm_or, nm_and, nm_xor, nm_nd, nm_one, nm_shr, nm_b2, Bool.false_eq_true, Bool.true_eq_false, not_false_eq_true, not_true_eq_false, reduceCtorEq, up2_a, up2_k, up2_s, gw_o]; exact w2
  · obtain ⟨y0, y1, y2, y3, y4, y5, y6, y7, y8, y9, y10⟩ := x3
    have h5 := x5.2.2.2.1
    refine ⟨?_, ?_, ?_, ?_, ?_, ?_, ?_, ?_, ⟨?_, ?_⟩, ?_, y10⟩
    · simp (disch := omega) only [wI_I, wI_s, nI_add, pk_mul, nI_ltI, nI_leI, nI_eq, nI_clamp, nm_or, nm_and, nm_xor, nm_nd, nm_one, nm_shr, nm_b2, Bool.false_eq_true, Bool.true_eq_false, not_false_eq_true, not_true_eq_false, reduceCtorEq, up2_a, up2_k, up2_s, gw_o]; exact y0
    · simp (disch := omega) only [wI_I, wI_s, nI_add, pk_mul, nI_ltI, nI_leI, nI_eq, nI_clamp, nm_or, nm_and, nm_xor, nm_nd, nm_one, nm_shr, nm_b2, Bool.false_eq_true, Bool.true_eq_false, not_false_eq_true, not_true_eq_false, reduceCtorEq, up2_a, up2_k, up2_s, gw_o]; exact y1
    · simp (disch := omega) only [wI_I, wI_s, nI_add, pk_mul, nI_ltI, nI_leI, nI_eq, nI_clamp, nm_or, nm_and, nm_xor, nm_nd, nm_one, nm_shr, nm_b2, Bool.false_eq_true, Bool.true_eq_false, not_false_eq_true, not_true_eq_false, reduceCtorEq, up2_a, up2_k, up2_s, gw_o]; exact y2
    · simp (disch := omega) only [wI_I, wI_s, nI_add, pk_mul, nI_ltI, nI_leI, nI_eq, nI_clamp, nm_or, nm_and, nm_xor, nm_nd, nm_one, nm_shr, nm_b2, Bool.false_eq_true, Bool.true_eq_false, not_false_eq_true, not_true_eq_false, reduceCtorEq, up2_a, up2_k, up2_s, gw_o]; exact y3
    · simp (disch := omega) only [wI_I, wI_s, nI_add, pk_mul, nI_ltI, nI_leI, nI_eq, nI_clamp, nm_or, nm_and, nm_xor, nm_nd, nm_one, nm_shr, nm_b2, Bool.false_eq_true, Bool.true_eq_false, not_false_eq_true, not_true_eq_false, reduceCtorEq, up2_a, up2_k, up2_s, gw_o]; exact y4
    · simp (disch := omega) only [wI_I, wI_s, nI_add, pk_mul, nI_ltI, nI_leI, nI_eq, nI_clamp, nm_or, nm_and, nm_xor, nm_nd, nm_one, nm_shr, nm_b2, Bool.false_eq_true, Bool.true_eq_false, not_false_eq_true, not_true_eq_false, reduceCtorEq, up2_a, up2_k, up2_s, gw_o]; exact y5
    · simp (disch := omega) only [wI_I, wI_s, nI_add, pk_mul, nI_ltI, nI_leI, nI_eq, nI_clamp, nm_or, nm_and, nm_xor, nm_nd, nm_one, nm_shr, nm_b2, Bool.false_eq_true, Bool.true_eq_false, not_false_eq_true, not_true_eq_false, reduceCtorEq, up2_a, up2_k, up2_s, gw_o]; exact y6
    · intro i c hc; simp (disch := omega) only [wI_I, wI_s, nI_add, pk_mul, nI_ltI, nI_leI, nI_eq, nI_clamp, nm_or, nm_and, nm_xor, nm_nd, nm_one, nm_shr, nm_b2, Bool.false_eq_true, Bool.true_eq_false, not_false_eq_true, not_true_eq_false, reduceCtorEq, up2_a, up2_k, up2_s, gw_o]; exact y7 i c hc
    · simp (disch := omega) only [wI_I, wI_s, nI_add, pk_mul, nI_ltI, nI_leI, nI_eq, nI_clamp, nm_or, nm_and, nm_xor, nm_nd, nm_one, nm_shr, nm_b2, Bool.false_eq_true, Bool.true_eq_false, not_false_eq_true, not_true_eq_false, reduceCtorEq, up2_a, up2_k, up2_s, gw_o]; exact y8.1
    · intro i c hc; simp (disch := omega) only [wI_I, wI_s, nI_add, pk_mul, nI_ltI, nI_leI, nI_eq, nI_clamp, nm_or, nm_and, nm_xor, nm_nd, nm_one, nm_shr, nm_b2, Bool.false_eq_true, Bool.true_eq_false, not_false_eq_true, not_true_eq_false, reduceCtorEq, up2_a, up2_k, up2_s, gw_o]; exact y8.2 i c hc
    · intro k hk; exact GF_up2 (by omega) (by omega) (y9 k hk)
theorem RX_lf {x : Nat} (D : RDS h R p tp s1 v1) (X : RX h R p tp s1 v1 f0 g0 b len m s hp) (hx : x ≤ 30) : hI hp R 5 = nI (yV s) ∧ RX h R p tp s1 v1 f0 g0 b len m (zV s x) (sI hp R 5 (nI x)) := by
  obtain ⟨f, g, rfl, x1, x2, x3, x4, x5, x6, x7, x8⟩ := X
  obtain ⟨d1, d2, d3, d4, d5, d6, d7, d8, d9, d10⟩ := D
  refine ⟨x2.2.2.2.1, ?_⟩
  rw [wI_s]
  refine ⟨up2 f R 5 (nI x), g, rfl, ?_, ?_, ?_, ⟨x4.1, x4.2.1, x4.2.2.1, x4.2.2.2.1, hx⟩, x5, fun a h1 h2 h3 => (up2_a h1).trans (x6 a h1 h2 h3), x7, x8⟩
  · obtain ⟨u1, u2, u3, u4, u5, u6, u7⟩ := x1
    refine ⟨?_, u2, u3, fun i hi => ?_, ?_, fun j hj => ?_, u7⟩
    · simp (disch := omega) only [wI_I, wI_s, nI_add, pk_mul, nI_ltI, nI_leI, nI_eq, nI_clamp, nm_or, nm_and, nm_xor, nm_nd, nm_one, nm_shr, nm_b2, Bool.false_eq_true, Bool.true_eq_false, not_false_eq_true, not_true_eq_false, reduceCtorEq, up2_a, up2_k, up2_s, gw_o]; exact u1
    · simp (disch := omega) only [wI_I, wI_s, nI_add, pk_mul, nI_ltI, nI_leI, nI_eq, nI_clamp, nm_or, nm_and, nm_xor, nm_nd, nm_one, nm_shr, nm_b2, Bool.false_eq_true, Bool.true_eq_false, not_false_eq_true, not_true_eq_false, reduceCtorEq, up2_a, up2_k, up2_s, gw_o]; exact u4 i hi
    · simp (disch := omega) only [wI_I, wI_s, nI_add, pk_mul, nI_ltI, nI_leI, nI_eq, nI_clamp, nm_or, nm_and, nm_xor, nm_nd, nm_one, nm_shr, nm_b2, Bool.false_eq_true, Bool.true_eq_false, not_false_eq_true, not_true_eq_false, reduceCtorEq, up2_a, up2_k, up2_s, gw_o]; exact u5
    · simp (disch := omega) only [wI_I, wI_s, nI_add, pk_mul, nI_ltI, nI_leI, nI_eq, nI_clamp, nm_or, nm_and, nm_xor, nm_nd, nm_one, nm_shr, nm_b2, Bool.false_eq_true, Bool.true_eq_false, not_false_eq_true, not_true_eq_false, reduceCtorEq, up2_a, up2_k, up2_s, gw_o]; exact u6 j hj
  · obtain ⟨u1, u2, u3, u4, u5, u6⟩ := x2
    refine ⟨?_, ?_, ?_, ?_, fun z => ?_, fun z => ?_⟩
    · simp (disch := omega) only [wI_I, wI_s, nI_add, pk_mul, nI_ltI, nI_leI, nI_eq, nI_clamp, nm_or, nm_and, nm_xor, nm_nd, nm_one, nm_shr, nm_b2, Bool.false_eq_true, Bool.true_eq_false, not_false_eq_true, not_true_eq_false, reduceCtorEq, up2_a, up2_k, up2_s, gw_o]; exact u1
    · simp (disch := omega) only [wI_I, wI_s, nI_add, pk_mul, nI_ltI, nI_leI, nI_eq, nI_clamp, nm_or, nm_and, nm_xor, nm_nd, nm_one, nm_shr, nm_b2, Bool.false_eq_true, Bool.true_eq_false, not_false_eq_true, not_true_eq_false, reduceCtorEq, up2_a, up2_k, up2_s, gw_o]; exact u2
    · simp (disch := omega) only [wI_I, wI_s, nI_add, pk_mul, nI_ltI, nI_leI, nI_eq, nI_clamp, nm_or, nm_and, nm_xor, nm_nd, nm_one, nm_shr, nm_b2, Bool.false_eq_true, Bool.true_eq_false, not_false_eq_true, not_true_eq_false, reduceCtorEq, up2_a, up2_k, up2_s, gw_o]; exact u3
    · exact up2_s
    · obtain ⟨w1, w2, w3, w4, w5, w6⟩ := u5 z
      refine ⟨?_, ?_, ?_, ?_, fun k => ?_, w6⟩
      · simp (disch := omega) only [wI_I, wI_s, nI_add, pk_mul, nI_ltI, nI_leI, nI_eq, nI_clamp, nm_or, nm_and, nm_xor, nm_nd, nm_one, nm_shr, nm_b2, Bool.false_eq_true, Bool.true_eq_false, not_false_eq_true, not_true_eq_false, reduceCtorEq, up2_a, up2_k, up2_s, gw_o]; exact w1
      · simp (disch := omega) only [wI_I, wI_s, nI_add, pk_mul, nI_ltI, nI_leI, nI_eq, nI_clamp, nm_or, nm_and, nm_xor, nm_nd, nm_one, nm_shr, nm_b2, Bool.false_eq_true, Bool.true_eq_false, not_false_eq_true, not_true_eq_false, reduceCtorEq, up2_a, up2_k, up2_s, gw_o]; exact w2
      · simp (disch := omega) only [wI_I, wI_s, nI_add, pk_mul, nI_ltI, nI_leI, nI_eq, nI_clamp, nm_or, nm_and, nm_xor, nm_nd, nm_one, nm_shr, nm_b2, Bool.false_eq_true, Bool.true_eq_false, not_false_eq_true, not_true_eq_false, reduceCtorEq, up2_a, up2_k, up2_s, gw_o]; exact w3
      · simp (disch := omega) only [wI_I, wI_s, nI_add, pk_mul, nI_ltI, nI_leI, nI_eq, nI_clamp, nm_or, nm_and, nm_xor, nm_nd, nm_one, nm_shr, nm_b2, Bool.false_eq_true, Bool.true_eq_false, not_false_eq_true, not_true_eq_false, reduceCtorEq, up2_a, up2_k, up2_s, gw_o]; exact w4
      · simp (disch := omega) only [wI_I, wI_s, nI_add, pk_mul, nI_ltI, nI_leI, nI_eq, nI_clamp, nm_or, nm_and, nm_xor, nm_nd, nm_one, nm_shr, nm_b2, Bool.false_eq_true, Bool.true_eq_false, not_false_eq_true, not_true_eq_false, reduceCtorEq, up2_a, up2_k, up2_s, gw_o]; exact w5 k
    · obtain ⟨w1, w2⟩ := u6 z
      refine ⟨?_, ?_⟩
      · simp (disch := omega) only [wI_I, wI_s, nI_add, pk_mul, nI_ltI, nI_leI, nI_eq, nI_clamp, nm_or, nm_and, nm_xor, nm_nd, nm_one, nm_shr, nm_b2, Bool.false_eq_true, Bool.true_eq_false, not_false_eq_true, not_true_eq_false, reduceCtorEq, up2_a, up2_k, up2_s, gw_o]; exact w1
      · simp (disch := omega) only [wI_I, wI_s, nI_add, pk_mul, nI_ltI, nI_leI, nI_eq, nI_clamp, nm_or, nm_and, nm_xor, nm_nd, nm_one, nm_shr, nm_b2, Bool.false_eq_true, Bool.true_eq_false, not_false_eq_true, not_true_eq_false, reduceCtorEq, up2_a, up2_k, up2_s, gw_o]; exact w2
  · obtain ⟨y0, y1, y2, y3, y4, y5, y6, y7, y8, y9, y10⟩ := x3
    have h5 := x5.2.2.2.1
    refine ⟨?_, ?_, ?_, ?_, ?_, ?_, ?_, ?_, ⟨?_, ?_⟩, ?_, y10⟩
    · simp (disch := omega) only [wI_I, wI_s, nI_add, pk_mul, nI_ltI, nI_leI, nI_eq, nI_clamp, nm_or, nm_and, nm_xor, nm_nd, nm_one, nm_shr, nm_b2, Bool.false_eq_true, Bool.true_eq_false, not_false_eq_true, not_true_eq_false, reduceCtorEq, up2_a, up2_k, up2_s, gw_o]; exact y0
    · simp (disch := omega) only [wI_I, wI_s, nI_add, pk_mul, nI_ltI, nI_leI, nI_eq, nI_clamp, nm_or, nm_and, nm_xor, nm_nd, nm_one, nm_shr, nm_b2, Bool.false_eq_true, Bool.true_eq_false, not_false_eq_true, not_true_eq_false, reduceCtorEq, up2_a, up2_k, up2_s, gw_o]; exact y1
    · simp (disch := omega) only [wI_I, wI_s, nI_add, pk_mul, nI_ltI, nI_leI, nI_eq, nI_clamp, nm_or, nm_and, nm_xor, nm_nd, nm_one, nm_shr, nm_b2, Bool.false_eq_true, Bool.true_eq_false, not_false_eq_true, not_true_eq_false, reduceCtorEq, up2_a, up2_k, up2_s, gw_o]; exact y2
    · simp (disch := omega) only [wI_I, wI_s, nI_add, pk_mul, nI_ltI, nI_leI, nI_eq, nI_clamp, nm_or, nm_and, nm_xor, nm_nd, nm_one, nm_shr, nm_b2, Bool.false_eq_true, Bool.true_eq_false, not_false_eq_true, not_true_eq_false, reduceCtorEq, up2_a, up2_k, up2_s, gw_o]; exact y3
    · simp (disch := omega) only [wI_I, wI_s, nI_add, pk_mul, nI_ltI, nI_leI, nI_eq, nI_clamp, nm_or, nm_and, nm_xor, nm_nd, nm_one, nm_shr, nm_b2, Bool.false_eq_true, Bool.true_eq_false, not_false_eq_true, not_true_eq_false, reduceCtorEq, up2_a, up2_k, up2_s, gw_o]; exact y4
    · simp (disch := omega) only [wI_I, wI_s, nI_add, pk_mul, nI_ltI, nI_leI, nI_eq, nI_clamp, nm_or, nm_and, nm_xor, nm_nd, nm_one, nm_shr, nm_b2, Bool.false_eq_true, Bool.true_eq_false, not_false_eq_true, not_true_eq_false, reduceCtorEq, up2_a, up2_k, up2_s, gw_o]; exact y5
    · simp (disch := omega) only [wI_I, wI_s, nI_add, pk_mul, nI_ltI, nI_leI, nI_eq, nI_clamp, nm_or, nm_and, nm_xor, nm_nd, nm_one, nm_shr, nm_b2, Bool.false_eq_true, Bool.true_eq_false, not_false_eq_true, not_true_eq_false, reduceCtorEq, up2_a, up2_k, up2_s, gw_o]; exact y6
    · intro i c hc; simp (disch := omega) only [wI_I, wI_s, nI_add, pk_mul, nI_ltI, nI_leI, nI_eq, nI_clamp, nm_or, nm_and, nm_xor, nm_nd, nm_one, nm_shr, nm_b2, Bool.false_eq_true, Bool.true_eq_false, not_false_eq_true, not_true_eq_false, reduceCtorEq, up2_a, up2_k, up2_s, gw_o]; exact y7 i c hc
    · simp (disch := omega) only [wI_I, wI_s, nI_add, pk_mul, nI_ltI, nI_leI, nI_eq, nI_clamp, nm_or, nm_and, nm_xor, nm_nd, nm_one, nm_shr, nm_b2, Bool.false_eq_true, Bool.true_eq_false, not_false_eq_true, not_true_eq_false, reduceCtorEq, up2_a, up2_k, up2_s, gw_o]; exact y8.1
    · intro i c hc; simp (disch := omega) only [wI_I, wI_s, nI_add, pk_mul, nI_ltI, nI_leI, nI_eq, nI_clamp, nm_or, nm_and, nm_xor, nm_nd, nm_one, nm_shr, nm_b2, Bool.false_eq_true, Bool.true_eq_false, not_false_eq_true, not_true_eq_false, reduceCtorEq, up2_a, up2_k, up2_s, gw_o]; exact y8.2 i c hc
    · intro k hk; exact GF_up2 (by omega) (by omega) (y9 k hk)
theorem RX_B (X : RX h R p tp s1 v1 f0 g0 b len m s hp) : TFB len s ∧ PNB m (yN s) ∧ len ≤ 1600 := by
  obtain ⟨f, g, rfl, x1, x2, x3, x4, x5, x6, x7, x8⟩ := X
  exact ⟨x4, x5, x1.2.1⟩
end
theorem zM_le {b : Nat → Nat} {len lo hi : Nat} {s : Ps} (h : lo ≤ hi) : lo ≤ (zM b len lo hi s).1 ∧ (zM b len lo hi s).1 ≤ hi := by
  unfold zM
  split
  · split
    · exact ⟨Nat.le_refl _, h⟩
    · rename_i z; exact ⟨by show lo ≤ nv b len (yI s); omega, by show nv b len (yI s) ≤ hi; omega⟩
  · exact ⟨Nat.le_refl _, h⟩
section
variable {h : MH} {R p tp s1 v1 : Nat} {f0 : Nat → Nat → Int32} {g0 : Nat → Nat → Int64} {b : Nat → Nat} {len m : Nat}
theorem rd_unit {x : Int32} {d : Nat} {B : Ps → Ps} (D : RDS h R p tp s1 v1) (HB : Does h R p tp s1 v1 f0 g0 b len m (fun hp => ev M_Reader_readBracket d 0 [some (.ref R), some (.int x)] [] hp) B) : Does h R p tp s1 v1 f0 g0 b len m (fun hp => ev M_Reader_readUnit d 0 [some (.ref R), some (.int x)] [] hp) (zUn b len B) := by
  intro s hp X
  obtain ⟨a1, a2, a3, a4, a5, a6, a7, a8, a9⟩ := RX_sh D X
  obtain ⟨-, B2, -⟩ := RX_B X
  have hu := B2.2.2.2.2.2.2.2.1
  show wp (ev M_Reader_readUnit d 0 [some (.ref R), some (.int x)] [] hp) _
  rw [r_Reader_readUnit_0]
  refine wp_isC a1 (wp_nnR a3 (wp_isC a5 ?_))
  unfold zUn
  by_cases q : vUn (yN s) < 30
  · obtain ⟨u1, X1⟩ := RX_un (x := vUn (yN s) + 1) D X (by omega)
    rw [u1, if_pos q]
    refine wp_bt (by rw [nI_ltI (by omega) (by decide)]; exact q) (wp_isC a1 (wp_nnR a3 (wp_isC a5 (wp_isC a5 ?_))))
    rw [u1, nI_add]
    have ek : kq b len (zN s (uUn (yN s) (vUn (yN s) + 1))) = kq b len s := rfl
    rw [← ek]
    generalize zN s (uUn (yN s) (vUn (yN s) + 1)) = s at X1
    generalize sI hp p 5 (nI _) = hp at X1
    obtain ⟨a1, a2, a3, a4, a5, a6, a7, a8, a9⟩ := RX_sh D X1
    show wp (isC hp R 6 _) _
    refine wp_isC a1 (wp_nnR a2 (wp_isC a4 ?_))
    rw [a8]
    by_cases q1 : kq b len s = 3
    · rw [if_pos q1]
      refine wp_bt (by rw [q1]) (wp_isC a1 (wp_nnR a3 (wp_isC a5 (wp_nnR a6 (wp_isC a1 (wp_rI (rd_num D X1 (by decide) (by decide)) ?_))))))
      rintro v h1 ⟨e1, X2⟩
      refine ⟨_, e1, ?_⟩
      obtain ⟨b1, b2, b3, b4, b5, b6, b7, b8, b9⟩ := RX_sh D X2
      have hz := zM_le (b := b) (len := len) (s := s) (show 0 ≤ 9999 by decide)
      refine wp_isC b7 ?_
      refine wp_rV (P := fun r h' => r = none ∧ RX h R p tp s1 v1 f0 g0 b len m (zK (0, (zM b len 0 9999 s).1) (zM b len 0 9999 s).2) h') ?_ ?_
      · rw [r_Formula_addNumber_0]
        refine wp_isC b7 (wp_rV (rd_addK (k := (0, (zM b len 0 9999 s).1)) D X2 (Or.inl ⟨rfl, by show (zM b len 0 9999 s).1 < 10000; omega⟩)) ?_)
        rintro v h3 ⟨e1, X3⟩
        exact ⟨e1, wp_s ⟨rfl, X3⟩⟩
      · rintro v h3 ⟨e1, X3⟩
        exact ⟨e1, wp_s ⟨rfl, X3⟩⟩
    rw [if_neg q1]
    refine wp_bf (by rw [kq_eq (by decide)]; exact q1) ?_
    by_cases q2 : kq b len s = 40
    · rw [if_pos q2]
      refine wp_bt (by rw [q2]) (wp_isC a1 (wp_rV (HB _ _ X1) ?_))
      rintro v h3 ⟨e1, X3⟩
      exact ⟨e1, wp_s ⟨rfl, X3⟩⟩
    rw [if_neg q2]
    refine wp_bf (by rw [kq_eq (by decide)]; exact q2) ?_
    have body : (kq b len s = 115 ∨ kq b len s = 116 ∨ kq b len s = 117) → wp (ev M_Reader_readUnit d 30 [some (.ref R), none] [] hp) (fun r h' => r = none ∧ RX h R p tp s1 v1 f0 g0 b len m (zS b len (zK (1, kq b len s - 115) s)) h') := by
      intro hz
      rw [r_Reader_readUnit_30]
      refine wp_isC a1 (wp_nnR a3 (wp_isC a5 (wp_nnR a6 (wp_isC a1 (wp_nnR a2 (wp_isC a4 (wp_isC a7 ?_)))))))
      rw [a8]
      have ek : nI (kq b len s) = kC (1, kq b len s - 115) := by
        show _ = nI (115 + (kq b len s - 115))
        rw [show 115 + (kq b len s - 115) = kq b len s by omega]
      rw [ek]
      refine wp_rV (rd_addK D X1 (Or.inr (Or.inl ⟨rfl, by show kq b len s - 115 < 3; omega⟩))) ?_
      rintro v h3 ⟨e1, X3⟩
      refine ⟨e1, ?_⟩
      obtain ⟨b1, b2, b3, b4, b5, b6, b7, b8, b9⟩ := RX_sh D X3
      refine wp_isC b1 (wp_nnR b2 (wp_isC b4 (wp_rV (rd_step D X3) ?_)))
      rintro v h4 ⟨e1, X4⟩
      exact ⟨e1, wp_s ⟨rfl, X4⟩⟩
    by_cases q3 : kq b len s = 115
    · rw [if_pos (Or.inl q3)]
      exact wp_bt (by rw [q3]) (body (Or.inl q3))
    refine wp_bf (by rw [kq_eq (by decide)]; exact q3) ?_
    by_cases q4 : kq b len s = 116
    · rw [if_pos (Or.inr (Or.inl q4))]
      exact wp_bt (by rw [q4]) (body (Or.inr (Or.inl q4)))
    refine wp_bf (by rw [kq_eq (by decide)]; exact q4) ?_
    by_cases q5 : kq b len s = 117
    · rw [if_pos (Or.inr (Or.inr q5))]
      exact wp_bt (by rw [q5]) (body (Or.inr (Or.inr q5)))
    refine wp_bf (by rw [kq_eq (by decide)]; exact q5) ?_
    rw [if_neg (by rintro (z | z | z); exact q3 z; exact q4 z; exact q5 z)]
    refine wp_isC a1 (wp_rV (rd_fail D X1 (by decide) (by decide)) ?_)
    rintro v h3 ⟨e1, X3⟩
    exact ⟨e1, wp_s ⟨rfl, X3⟩⟩
  · obtain ⟨u1, -⟩ := RX_un (x := 0) D X (by omega)
    rw [u1, if_neg q]
    refine wp_bf (by rw [nI_ltI (by omega) (by decide)]; exact q) (wp_isC a1 (wp_rV (rd_fail D X (by decide) (by decide)) ?_))
    rintro v h3 ⟨e1, X3⟩
    exact ⟨e1, wp_s ⟨rfl, X3⟩⟩
theorem rd_e (D : RDS h R p tp s1 v1) : ∀ n d, d + n = 7 → Does h R p tp s1 v1 f0 g0 b len m (fun hp => ev M_Reader_readNots d 0 [some (.ref R), some (.int (nI d))] [] hp) (zD b len n).1 ∧ Does h R p tp s1 v1 f0 g0 b len m (fun hp => ev M_Reader_readOrs d 0 [some (.ref R), some (.int (nI d)), none] [] hp) (zD b len n).2 := by
  intro n
  induction n with
  | zero =>
    intro d hd
    have HB : Does h R p tp s1 v1 f0 g0 b len m (fun hp => ev M_Reader_readBracket d 0 [some (.ref R), some (.int (nI d))] [] hp) (zB b len 0) := by
      intro s hp X
      obtain ⟨a1, a2, a3, a4, a5, a6, a7, a8, a9⟩ := RX_sh D X
      show wp (ev M_Reader_readBracket d 0 [some (.ref R), some (.int (nI d))] [] hp) _
      rw [r_Reader_readBracket_0]
      refine wp_bt (by rw [nI_ltI (by decide) (by omega)]; omega) (wp_isC a1 (wp_rV (rd_fail D X (by decide) (by decide)) ?_))
      rintro v h3 ⟨e1, X3⟩
      exact ⟨e1, wp_s ⟨rfl, X3⟩⟩
    have HC := rd_cmp D (rd_unit D HB)
    have HN : Does h R p tp s1 v1 f0 g0 b len m (fun hp => ev M_Reader_readNots d 0 [some (.ref R), some (.int (nI d))] [] hp) (zD b len 0).1 := by
      intro s hp X
      obtain ⟨a1, a2, a3, a4, a5, a6, a7, a8, a9⟩ := RX_sh D X
      show wp (ev M_Reader_readNots d 0 [some (.ref R), some (.int (nI d))] [] hp) _
      rw [r_Reader_readNots_0]
      refine wp_isC a1 (wp_nnR a2 (wp_isC a4 ?_))
      rw [a8]
      show wp _ (fun r h' => r = none ∧ RX h R p tp s1 v1 f0 g0 b len m (if kq b len s = 114 then zF b len 2 s else zC b len (zUn b len (zF b len 2)) s) h')
      by_cases q : kq b len s = 114
      · rw [if_pos q]
        refine wp_bt (by rw [q]) (wp_bt (by rw [nI_ltI (by decide) (by omega)]; omega) (wp_isC a1 (wp_rV (rd_fail D X (by decide) (by decide)) ?_)))
        rintro v h3 ⟨e1, X3⟩
        exact ⟨e1, wp_s ⟨rfl, X3⟩⟩
      · rw [if_neg q]
        refine wp_bf (by rw [kq_eq (by decide)]; exact q) (wp_isC a1 (wp_rV (HC _ _ X) ?_))
        rintro v h3 ⟨e1, X3⟩
        exact ⟨e1, wp_s ⟨rfl, X3⟩⟩
    exact ⟨HN, by rw [zD_2]; exact rd_ors D (rd_ands D HN)⟩
  | succ n ih =>
    intro d hd
    obtain ⟨I1, I2⟩ := ih (d + 1) (by omega)
    have HB : Does h R p tp s1 v1 f0 g0 b len m (fun hp => ev M_Reader_readBracket d 0 [some (.ref R), some (.int (nI d))] [] hp) (zB b len (n + 1)) := by
      intro s hp X
      obtain ⟨a1, a2, a3, a4, a5, a6, a7, a8, a9⟩ := RX_sh D X
      show wp (ev M_Reader_readBracket d 0 [some (.ref R), some (.int (nI d))] [] hp) _
      rw [r_Reader_readBracket_0]
      refine wp_bf (by rw [nI_ltI (by decide) (by omega)]; omega) (wp_isC a1 (wp_nnR a2 (wp_isC a4 (wp_rV (rd_step D X) ?_))))
      rintro v h1 ⟨e1, X1⟩
      refine ⟨e1, ?_⟩
      obtain ⟨b1, b2, b3, b4, b5, b6, b7, b8, b9⟩ := RX_sh D X1
      refine wp_isC b1 ?_
      rw [if_pos (by omega), nI_add]
      refine wp_rV (I2 _ _ X1) ?_
      rintro v h2 ⟨e1, X2⟩
      refine ⟨e1, ?_⟩
      obtain ⟨b1, b2, b3, b4, b5, b6, b7, b8, b9⟩ := RX_sh D X2
      refine wp_isC b1 (wp_rV (rd_expect D X2 (by decide)) ?_)
      rintro v h3 ⟨e1, X3⟩
      exact ⟨e1, wp_s ⟨rfl, X3⟩⟩
    have HC := rd_cmp D (rd_unit D HB)
    have HN : Does h R p tp s1 v1 f0 g0 b len m (fun hp => ev M_Reader_readNots d 0 [some (.ref R), some (.int (nI d))] [] hp) (zD b len (n + 1)).1 := by
      intro s hp X
      obtain ⟨a1, a2, a3, a4, a5, a6, a7, a8, a9⟩ := RX_sh D X
      show wp (ev M_Reader_readNots d 0 [some (.ref R), some (.int (nI d))] [] hp) _
      rw [r_Reader_readNots_0]
      refine wp_isC a1 (wp_nnR a2 (wp_isC a4 ?_))
      rw [a8]
      show wp _ (fun r h' => r = none ∧ RX h R p tp s1 v1 f0 g0 b len m (if kq b len s = 114 then zK (3, 0) ((zD b len n).1 (zS b len s)) else zC b len (zUn b len (zB b len (n + 1))) s) h')
      by_cases q : kq b len s = 114
      · rw [if_pos q]
        refine wp_bt (by rw [q]) (wp_bf (by rw [nI_ltI (by decide) (by omega)]; omega) (wp_isC a1 (wp_nnR a2 (wp_isC a4 (wp_rV (rd_step D X) ?_)))))
        rintro v h1 ⟨e1, X1⟩
        refine ⟨e1, ?_⟩
        obtain ⟨b1, b2, b3, b4, b5, b6, b7, b8, b9⟩ := RX_sh D X1
        refine wp_isC b1 ?_
        rw [if_pos (by omega), nI_add]
        refine wp_rV (I1 _ _ X1) ?_
        rintro v h2 ⟨e1, X2⟩
        refine ⟨e1, ?_⟩
        obtain ⟨b1, b2, b3, b4, b5, b6, b7, b8, b9⟩ := RX_sh D X2
        refine wp_isC b1 (wp_nnR b3 (wp_isC b5 (wp_nnR b6 (wp_isC b7 (wp_rV (rd_addK (k := (3, 0)) D X2 (Or.inr (Or.inr (Or.inr rfl)))) ?_)))))
        rintro v h3 ⟨e1, X3⟩
        exact ⟨e1, wp_s ⟨rfl, X3⟩⟩
      · rw [if_neg q]
        refine wp_bf (by rw [kq_eq (by decide)]; exact q) (wp_isC a1 (wp_rV (HC _ _ X) ?_))
        rintro v h3 ⟨e1, X3⟩
        exact ⟨e1, wp_s ⟨rfl, X3⟩⟩
    exact ⟨HN, by rw [zD_2]; exact rd_ors D (rd_ands D HN)⟩
end
/-! what a derived one is -/
def zLf (b : Nat → Nat) (len : Nat) (c : Option Nat) (s : Ps) : Ps := if yV s < 30 then (match c with
  | none => zF b len 5 s
  | some c => zS b len (zX c (zV s (yV s + 1)))) else zF b len 2 s
/-- which one has the name at hand -/
def fnd (b : Nat → Nat) (len : Nat) (s : Ps) : Option Nat := ff (fun k => decide (vNm (yN s) k = wv b len (yI s))) (vNr (yN s))
def zXl (b : Nat → Nat) (len k1 w1 k2 w2 : Nat) (A : Ps → Ps) : Nat → Ps → Ps
  | 0, s => s
  | n + 1, s => if kq b len s = k1 ∨ kq b len s = k2 then zXl b len k1 w1 k2 w2 A n (zX (20 + if kq b len s = k1 then w1 else w2) (A (zS b len s))) else s
def zMt (b : Nat → Nat) (len : Nat) (O : Ps → Ps) (s : Ps) : Ps := zXl b len 109 1 110 3 O 1600 (O s)
def zJn (b : Nat → Nat) (len : Nat) (O : Ps → Ps) (s : Ps) : Ps := zXl b len 107 0 108 2 (zMt b len O) 1600 (zMt b len O s)
def zOn (b : Nat → Nat) (len : Nat) (P : (Ps → Ps) × (Ps → Ps)) (s : Ps) : Ps := if kq b len s = 4 then zLf b len (fnd b len s) s else if kq b len s = 40 then zE b len 41 (P.2 (zS b len s)) else if kq b len s = 111 then zX 12 (P.1 (zS b len s)) else if kq b len s = 112 then zLf b len (some 10) s else if kq b len s = 113 then zLf b len (some 11) s else zF b len 2 s
def zJ (b : Nat → Nat) (len : Nat) : Nat → (Ps → Ps) × (Ps → Ps)
  | 0 => (zF b len 2, zJn b len (zF b len 2))
  | D + 1 => (zOn b len (zJ b len D), zJn b len (zOn b len (zJ b len D)))
theorem zJ_2 (b : Nat → Nat) (len D : Nat) : (zJ b len D).2 = zJn b len (zJ b len D).1 := by cases D <;> rfl
