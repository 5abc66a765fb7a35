/-! The reader: relations, lines, the whole text. -/
theorem zX_F {c : Nat} {s : Ps} : yF (zX c s) = yF s := by unfold zX; split <;> rfl
theorem zFn_N (name : Nat) (td : Bool) (s : Ps) : vNr (yN (zFn name td s)) = vNr (yN s) + 1 ∧ vLv (yN (zFn name td s)) = vLv (yN s) ∧ yF (zFn name td s) = yF s ∧ yI (zFn name td s) = yI s ∧ (vNm (yN (zFn name td s)) = fun k => if k = vNr (yN s) then name else vNm (yN s) k) := by
  cases td
  · refine ⟨rfl, ?_, ?_, ?_, rfl⟩
    · show vLv (yN (zX _ s)) = _; unfold zX; split <;> rfl
    · show yF (zX _ s) = _; unfold zX; split <;> rfl
    · show yI (zX _ s) = _; unfold zX; split <;> rfl
  · exact ⟨rfl, rfl, rfl, rfl, rfl⟩
def zSl (b : Nat → Nat) (len j : Nat) (s : Ps) : Ps := zS b len (zL (if (yL s).testBit j then zF b len 2 s else s) (yL s ||| 2 ^ j))
def zLv (b : Nat → Nat) (len : Nat) (s : Ps) : Ps := if 0 < vNr (yN s) then zF b len 2 s else zN (zM b len 1 4 (zSl b len 0 s)).2 (uLv (yN (zM b len 1 4 (zSl b len 0 s)).2) (zM b len 1 4 (zSl b len 0 s)).1)
def zDr (b : Nat → Nat) (len : Nat) (s : Ps) : Ps := zN (zM b len 0 100 (zSl b len 5 s)).2 (uDr (yN (zM b len 0 100 (zSl b len 5 s)).2) (zM b len 0 100 (zSl b len 5 s)).1)
def zDw (b : Nat → Nat) (len : Nat) (s : Ps) : Ps := zN (zM b len 0 999 (zSl b len 6 s)).2 (uDw (yN (zM b len 0 999 (zSl b len 6 s)).2) (zM b len 0 999 (zSl b len 6 s)).1)
def zLn (b : Nat → Nat) (len : Nat) (s : Ps) : Ps := if kq b len s = 100 then zLv b len s else if kq b len s = 101 then zRl b len s else if kq b len s = 104 then (zD b len 7).2 (zSl b len 4 s) else if kq b len s = 105 then zDr b len s else if kq b len s = 106 then zDw b len s else zF b len 2 s
def zLs (b : Nat → Nat) (len : Nat) : Nat → Ps → Ps
  | 0, s => s
  | k + 1, s => if yF s = 0 ∧ kq b len s ≠ 2 then zLs b len k (zE b len 59 (zLn b len s)) else s
def Pn0 : Pn := (3, 0, 0, 0, 0, 0, [], [], fun _ => 0, fun _ _ => 0)
def Ps0 : Ps := (0, 0, 0, 0, 0, Pn0)
/-- what the class reads -/
def cRead (b : Nat → Nat) (len : Nat) : Ps := zLs b len 1600 Ps0
theorem kpSl {b : Nat → Nat} {len j : Nat} {s : Ps} : Keep s (zSl b len j s) := by
  unfold zSl
  refine Keep.tr ?_ kpS
  by_cases q : (yL s).testBit j = true
  · rw [if_pos q]
    have k : Keep s (zF b len 2 s) := kpF
    exact k
  · rw [if_neg q]; exact ⟨rfl, rfl, rfl, rfl, rfl⟩
theorem kpK {k : Kp} {s : Ps} : Keep s (zK k s) := by unfold zK; split <;> exact ⟨rfl, rfl, rfl, rfl, rfl⟩
theorem kpO {b : Nat → Nat} {len k w : Nat} {A : Ps → Ps} (hA : ∀ s, Keep s (A s)) : ∀ n s, Keep s (zO b len k w A n s)
  | 0, s => Keep.rf
  | n + 1, s => by
    show Keep s (if _ then _ else _)
    by_cases q : kq b len s = k
    · rw [if_pos q]; exact ((kpS.tr (hA _)).tr kpK).tr (kpO hA n _)
    · rw [if_neg q]; exact Keep.rf
theorem kpT {b : Nat → Nat} {len : Nat} {A : Ps → Ps} (hA : ∀ s, Keep s (A s)) : ∀ n s, Keep s (zT b len A n s)
  | 0, s => Keep.rf
  | n + 1, s => by
    show Keep s (if _ then _ else _)
    by_cases q : kq b len s = 42 ∨ kq b len s = 47 ∨ kq b len s = 37
    · rw [if_pos q]; exact ((kpS.tr (hA _)).tr kpK).tr (kpT hA n _)
    · rw [if_neg q]; exact Keep.rf
theorem kpA {b : Nat → Nat} {len : Nat} {A : Ps → Ps} (hA : ∀ s, Keep s (A s)) : ∀ n s, Keep s (zA b len A n s)
  | 0, s => Keep.rf
  | n + 1, s => by
    show Keep s (if _ then _ else _)
    by_cases q : kq b len s = 43 ∨ kq b len s = 45
    · rw [if_pos q]; exact ((kpS.tr (hA _)).tr kpK).tr (kpA hA n _)
    · rw [if_neg q]; exact Keep.rf
theorem kpC {b : Nat → Nat} {len : Nat} {U : Ps → Ps} (hU : ∀ s, Keep s (U s)) (s : Ps) : Keep s (zC b len U s) := by
  have hT : ∀ s, Keep s (zTm b len U s) := fun s => (hU s).tr (kpT hU 1600 _)
  have hS : ∀ s, Keep s (zSm b len U s) := fun s => (hT s).tr (kpA hT 1600 _)
  unfold zC
  by_cases q : kq b len (zSm b len U s) = 60 ∨ kq b len (zSm b len U s) = 62 ∨ kq b len (zSm b len U s) = 61
  · rw [if_pos q]; exact (((hS s).tr kpS).tr (hS _)).tr kpK
  · rw [if_neg q]; exact hS s
theorem kpUn {b : Nat → Nat} {len : Nat} {B : Ps → Ps} (hB : ∀ s, Keep s (B s)) (s : Ps) : Keep s (zUn b len B s) := by
  have h0 : Keep s (zN s (uUn (yN s) (vUn (yN s) + 1))) := ⟨rfl, rfl, rfl, rfl, rfl⟩
  unfold zUn
  by_cases q : vUn (yN s) < 30
  · rw [if_pos q]
    by_cases q1 : kq b len s = 3
    · rw [if_pos q1]; exact (h0.tr kpM).tr kpK
    rw [if_neg q1]
    by_cases q2 : kq b len s = 40
    · rw [if_pos q2]; exact h0.tr (hB _)
    rw [if_neg q2]
    by_cases q3 : kq b len s = 115 ∨ kq b len s = 116 ∨ kq b len s = 117
    · rw [if_pos q3]; exact (h0.tr kpK).tr kpS
    rw [if_neg q3]; exact h0.tr kpF
  · rw [if_neg q]; exact kpF
theorem kpOr {b : Nat → Nat} {len : Nat} {N : Ps → Ps} (hN : ∀ s, Keep s (N s)) (s : Ps) : Keep s (zOr b len N s) := by
  have hA : ∀ s, Keep s (zAnd b len N s) := fun s => (hN s).tr (kpO hN 1600 _)
  exact (hA s).tr (kpO hA 1600 _)
theorem kpD {b : Nat → Nat} {len : Nat} : ∀ D, (∀ s, Keep s ((zD b len D).1 s)) ∧ (∀ s, Keep s ((zD b len D).2 s)) ∧ (∀ s, Keep s (zB b len D s))
  | 0 => by
    have h1 : ∀ s, Keep s ((zD b len 0).1 s) := fun s => by
      show Keep s (if _ then _ else _)
      by_cases q : kq b len s = 114
      · rw [if_pos q]; exact kpF
      · rw [if_neg q]; exact kpC (kpUn (fun _ => kpF)) s
    exact ⟨h1, by rw [zD_2]; exact kpOr h1, fun _ => kpF⟩
  | D + 1 => by
    obtain ⟨i1, i2, i3⟩ := kpD (b := b) (len := len) D
    have hB : ∀ s, Keep s (zB b len (D + 1) s) := fun s => (kpS.tr (i2 _)).tr kpE
    have h1 : ∀ s, Keep s ((zD b len (D + 1)).1 s) := fun s => by
      show Keep s (if _ then _ else _)
      by_cases q : kq b len s = 114
      · rw [if_pos q]; exact (kpS.tr (i1 _)).tr kpK
      · rw [if_neg q]; exact kpC (kpUn hB) s
    exact ⟨h1, by rw [zD_2]; exact kpOr h1, hB⟩
section
variable {h : MH} {R p tp s1 v1 : Nat} {f0 : Nat → Nat → Int32} {g0 : Nat → Nat → Int64} {b : Nat → Nat} {len m : Nat} {s : Ps} {hp : MH}
theorem rd_fin {x : Int64} {name : Nat} {td : Bool} (D : RDS h R p tp s1 v1) (X : RX h R p tp s1 v1 f0 g0 b len (vNr (yN s) + 1) s hp) (hx : yF s = 0 → x = lN name) : wp (ev M_Plan_finish 0 0 [some (.ref p), some (.long x), none, some (.int (nI td.toNat))] [] hp) (fun r h' => r = none ∧ RX h R p tp s1 v1 f0 g0 b len (vNr (yN s) + 1) (zFn name td s) h') := by
  have h5 : vNr (yN s) + 1 ≤ 5 := (RX_B X).2.1.2.2.2.1
  obtain ⟨a1, a2, a3, a4, a5, a6, a7, a8, a9⟩ := RX_sh D X
  have nr : ∀ s' hp', RX h R p tp s1 v1 f0 g0 b len (vNr (yN s) + 1) s' hp' → hI hp' p 1 = nI (vNr (yN s')) := by
    intro s' hp' X
    obtain ⟨f, g, rfl, x1, x2, x3, -⟩ := X
    exact x3.2.1
  have full : ev M_Plan_isFull 0 0 [some (.ref p)] [] hp = some (some (.int (nI 0)), hp) := by
    rw [r_Plan_isFull_0]
    apply wp_e
    refine wp_isC a5 ?_
    rw [nr s hp X]
    exact wp_bt (by rw [nI_ltI (by omega) (by decide)]; omega) (wp_isZ (by decide) (wp_s ⟨rfl, rfl⟩))
  have fin : ∀ s' hp', vNr (yN s') = vNr (yN s) → vNm (yN s') = vNm (yN s) → yF s' = yF s → RX h R p tp s1 v1 f0 g0 b len (vNr (yN s) + 1) s' hp' → wp (ev M_Plan_finish 0 23 [some (.ref p), some (.long x), none, none] [] hp') (fun r h' => r = none ∧ RX h R p tp s1 v1 f0 g0 b len (vNr (yN s) + 1) (zN s' (uNr (uNm (yN s') (fun k => if k = vNr (yN s) then name else vNm (yN s) k)) (vNr (yN s) + 1))) h') := by
    intro s' hp' e1 e2 e3 X
    obtain ⟨f, g, rfl, x1, x2, x3, x4, x5, x6, x7, x8⟩ := X
    obtain ⟨p1, p2, p3, p4, p5, p6, p7, p8, p9, p10, p11, p12, p13, p14, p15, p16, p17, p18, p19⟩ := id D.2.2.2.2.1
    obtain ⟨y0, y1, y2, y3, y4, y5, y6, y7, y8, y9, y10⟩ := id x3
    obtain ⟨b1, b2, b3, b4, b5, b6, b7, b8, b9, b10, b11⟩ := id x5
    obtain ⟨d1, d2, d3, d4, d5, d6, d7, d8, d9, d10⟩ := D
    rw [e1] at y1
    rw [r_Plan_finish_23]
    refine wp_isC p1 (wp_nnR p10 (wp_isC p1 (wp_isC p11 ?_)))
    rw [wI_I, y1, nI_clamp (by omega), wIL_s]
    refine wp_inA p12 rfl (by omega) (by omega) (wp_isC p1 (wp_isC p1 ?_))
    rw [wI_I, y1, nI_add, wI_s]
    refine wp_s ⟨rfl, up2 f p 1 (nI (vNr (yN s) + 1)), up2 g (p + 4) (vNr (yN s)) x, rfl, ?_, ?_, ?_, x4, ⟨b1, b2, Nat.le_refl _, b4, b5, b6, b7, b8, b9, b10, b11⟩, fun a h1 h2 h3 => (up2_a (by omega)).trans (x6 a h1 h2 h3), fun a h1 h2 h3 => (up2_a (by omega)).trans (x7 a h1 h2 h3), (up2_a (by omega)).trans x8⟩
    · obtain ⟨u1, u2, u3, u4, u5, u6, u7⟩ := x1
      exact ⟨by rw [up2_a (by omega)]; exact u1, u2, u3, fun i hi => by rw [up2_a (by omega)]; exact u4 i hi, by rw [up2_a (by omega)]; exact u5, fun j hj => by rw [up2_a (by omega)]; exact u6 j hj, fun j hj => by rw [up2_a (by omega)]; exact u7 j hj⟩
    · obtain ⟨u1, u2, u3, u4, u5, u6⟩ := x2
      refine ⟨by rw [up2_a (by omega)]; exact u1, by rw [up2_a (by omega)]; exact u2, by rw [up2_a (by omega)]; exact u3, by rw [up2_a (by omega)]; exact u4, fun z => ?_, fun z => ?_⟩
      · obtain ⟨w1, w2, w3, w4, w5, w6⟩ := u5 z
        exact ⟨by rw [up2_a (by omega)]; exact w1, by rw [up2_a (by omega)]; exact w2, by rw [up2_a (by omega)]; exact w3, by rw [up2_a (by omega)]; exact w4, fun k => by rw [up2_a (by omega)]; exact w5 k, fun k => by rw [up2_a (by omega)]; exact w6 k⟩
      · obtain ⟨w1, w2⟩ := u6 z
        exact ⟨by rw [up2_a (by omega)]; exact w1, by rw [up2_a (by omega)]; exact w2⟩
    · refine ⟨?_, ?_, ?_, ?_, ?_, ?_, ?_, ?_, ⟨?_, ?_⟩, ?_, ?_⟩
      · simp (disch := omega) only [wI_I, wI_s, nI_add, pk_mul, nI_ltI, nI_leI, nI_eq, nI_clamp, nm_or, nm_and, nm_xor, nm_nd, nm_one, nm_shr, nm_b2, Bool.false_eq_true, Bool.true_eq_false, not_false_eq_true, not_true_eq_false, reduceCtorEq, up2_a, up2_k, up2_s, gw_o]; exact y0
      · exact up2_s
      · simp (disch := omega) only [wI_I, wI_s, nI_add, pk_mul, nI_ltI, nI_leI, nI_eq, nI_clamp, nm_or, nm_and, nm_xor, nm_nd, nm_one, nm_shr, nm_b2, Bool.false_eq_true, Bool.true_eq_false, not_false_eq_true, not_true_eq_false, reduceCtorEq, up2_a, up2_k, up2_s, gw_o]; exact y2
      · simp (disch := omega) only [wI_I, wI_s, nI_add, pk_mul, nI_ltI, nI_leI, nI_eq, nI_clamp, nm_or, nm_and, nm_xor, nm_nd, nm_one, nm_shr, nm_b2, Bool.false_eq_true, Bool.true_eq_false, not_false_eq_true, not_true_eq_false, reduceCtorEq, up2_a, up2_k, up2_s, gw_o]; exact y3
      · simp (disch := omega) only [wI_I, wI_s, nI_add, pk_mul, nI_ltI, nI_leI, nI_eq, nI_clamp, nm_or, nm_and, nm_xor, nm_nd, nm_one, nm_shr, nm_b2, Bool.false_eq_true, Bool.true_eq_false, not_false_eq_true, not_true_eq_false, reduceCtorEq, up2_a, up2_k, up2_s, gw_o]; exact y4
      · simp (disch := omega) only [wI_I, wI_s, nI_add, pk_mul, nI_ltI, nI_leI, nI_eq, nI_clamp, nm_or, nm_and, nm_xor, nm_nd, nm_one, nm_shr, nm_b2, Bool.false_eq_true, Bool.true_eq_false, not_false_eq_true, not_true_eq_false, reduceCtorEq, up2_a, up2_k, up2_s, gw_o]; exact y5
      · simp (disch := omega) only [wI_I, wI_s, nI_add, pk_mul, nI_ltI, nI_leI, nI_eq, nI_clamp, nm_or, nm_and, nm_xor, nm_nd, nm_one, nm_shr, nm_b2, Bool.false_eq_true, Bool.true_eq_false, not_false_eq_true, not_true_eq_false, reduceCtorEq, up2_a, up2_k, up2_s, gw_o]; exact y6
      · intro i c hc; simp (disch := omega) only [wI_I, wI_s, nI_add, pk_mul, nI_ltI, nI_leI, nI_eq, nI_clamp, nm_or, nm_and, nm_xor, nm_nd, nm_one, nm_shr, nm_b2, Bool.false_eq_true, Bool.true_eq_false, not_false_eq_true, not_true_eq_false, reduceCtorEq, up2_a, up2_k, up2_s, gw_o]; exact y7 i c hc
      · simp (disch := omega) only [wI_I, wI_s, nI_add, pk_mul, nI_ltI, nI_leI, nI_eq, nI_clamp, nm_or, nm_and, nm_xor, nm_nd, nm_one, nm_shr, nm_b2, Bool.false_eq_true, Bool.true_eq_false, not_false_eq_true, not_true_eq_false, reduceCtorEq, up2_a, up2_k, up2_s, gw_o]; exact y8.1
      · intro i c hc; simp (disch := omega) only [wI_I, wI_s, nI_add, pk_mul, nI_ltI, nI_leI, nI_eq, nI_clamp, nm_or, nm_and, nm_xor, nm_nd, nm_one, nm_shr, nm_b2, Bool.false_eq_true, Bool.true_eq_false, not_false_eq_true, not_true_eq_false, reduceCtorEq, up2_a, up2_k, up2_s, gw_o]; exact y8.2 i c hc
      · intro k hk
        exact GF_up2 (by omega) (by omega) (y9 k hk)
      · intro z k hk
        have z : yF s' = 0 := z
        have hk : k < vNr (yN s) + 1 := hk
        show _ = lN (if k = vNr (yN s) then name else vNm (yN s) k)
        by_cases e : k = vNr (yN s)
        · rw [if_pos e, e, up2_s]; exact hx (e3 ▸ z)
        · rw [if_neg e, up2_k e, ← e2]; exact y10 z k (by omega)
  rw [r_Plan_finish_0]
  refine wp_isC a5 (wp_rIe full (wp_bt rfl ?_))
  cases td with
  | false =>
    refine wp_bt rfl (wp_isC a5 (wp_isC a5 ?_))
    rw [nr s hp X, nI_add]
    refine wp_rV (rd_addX D X (by omega)) ?_
    rintro v h3 ⟨e1, X3⟩
    refine ⟨e1, ?_⟩
    have kx : Keep s (zX (30 + vNr (yN s)) s) := kpX
    exact fin _ _ kx.2.1 kx.1 zX_F X3
  | true =>
    refine wp_bf (by decide) (wp_isC a5 (wp_isC a5 (wp_isC a5 ?_)))
    have X1 : RX h R p tp s1 v1 f0 g0 b len (vNr (yN s) + 1) (zN s (uTd (yN s) (vTd (yN s) ||| 2 ^ vNr (yN s)))) (sI hp p 2 (nI (vTd (yN s) ||| 2 ^ vNr (yN s)))) ∧ hI hp p 2 = nI (vTd (yN s)) := by
      obtain ⟨f, g, rfl, x1, x2, x3, x4, x5, x6, x7, x8⟩ := X
      obtain ⟨y0, y1, y2, y3, y4, y5, y6, y7, y8, y9, y10⟩ := id x3
      obtain ⟨b1, b2, b3, b4, b5, b6, b7, b8, b9, b10, b11⟩ := id x5
      refine ⟨?_, y2⟩
      rw [wI_s]
      refine RX_pl D x1 x2 x4 x6 x7 x8 (fun a ha => by rw [up2_a (by omega)]) ?_ ⟨b1, b2, b3, b4, ?_, b6, b7, b8, b9, b10, b11⟩
      · refine ⟨?_, ?_, ?_, ?_, ?_, ?_, ?_, ?_, ⟨?_, ?_⟩, ?_, y10⟩
        · simp (disch := omega) only [wI_I, wI_s, nI_add, pk_mul, nI_ltI, nI_leI, nI_eq, nI_clamp, nm_or, nm_and, nm_xor, nm_nd, nm_one, nm_shr, nm_b2, Bool.false_eq_true, Bool.true_eq_false, not_false_eq_true, not_true_eq_false, reduceCtorEq, up2_a, up2_k, up2_s, gw_o]; exact y0
        · simp (disch := omega) only [wI_I, wI_s, nI_add, pk_mul, nI_ltI, nI_leI, nI_eq, nI_clamp, nm_or, nm_and, nm_xor, nm_nd, nm_one, nm_shr, nm_b2, Bool.false_eq_true, Bool.true_eq_false, not_false_eq_true, not_true_eq_false, reduceCtorEq, up2_a, up2_k, up2_s, gw_o]; exact y1
        · exact up2_s
        · simp (disch := omega) only [wI_I, wI_s, nI_add, pk_mul, nI_ltI, nI_leI, nI_eq, nI_clamp, nm_or, nm_and, nm_xor, nm_nd, nm_one, nm_shr, nm_b2, Bool.false_eq_true, Bool.true_eq_false, not_false_eq_true, not_true_eq_false, reduceCtorEq, up2_a, up2_k, up2_s, gw_o]; exact y3
        · simp (disch := omega) only [wI_I, wI_s, nI_add, pk_mul, nI_ltI, nI_leI, nI_eq, nI_clamp, nm_or, nm_and, nm_xor, nm_nd, nm_one, nm_shr, nm_b2, Bool.false_eq_true, Bool.true_eq_false, not_false_eq_true, not_true_eq_false, reduceCtorEq, up2_a, up2_k, up2_s, gw_o]; exact y4
        · simp (disch := omega) only [wI_I, wI_s, nI_add, pk_mul, nI_ltI, nI_leI, nI_eq, nI_clamp, nm_or, nm_and, nm_xor, nm_nd, nm_one, nm_shr, nm_b2, Bool.false_eq_true, Bool.true_eq_false, not_false_eq_true, not_true_eq_false, reduceCtorEq, up2_a, up2_k, up2_s, gw_o]; exact y5
        · simp (disch := omega) only [wI_I, wI_s, nI_add, pk_mul, nI_ltI, nI_leI, nI_eq, nI_clamp, nm_or, nm_and, nm_xor, nm_nd, nm_one, nm_shr, nm_b2, Bool.false_eq_true, Bool.true_eq_false, not_false_eq_true, not_true_eq_false, reduceCtorEq, up2_a, up2_k, up2_s, gw_o]; exact y6
        · intro i c hc; simp (disch := omega) only [wI_I, wI_s, nI_add, pk_mul, nI_ltI, nI_leI, nI_eq, nI_clamp, nm_or, nm_and, nm_xor, nm_nd, nm_one, nm_shr, nm_b2, Bool.false_eq_true, Bool.true_eq_false, not_false_eq_true, not_true_eq_false, reduceCtorEq, up2_a, up2_k, up2_s, gw_o]; exact y7 i c hc
        · simp (disch := omega) only [wI_I, wI_s, nI_add, pk_mul, nI_ltI, nI_leI, nI_eq, nI_clamp, nm_or, nm_and, nm_xor, nm_nd, nm_one, nm_shr, nm_b2, Bool.false_eq_true, Bool.true_eq_false, not_false_eq_true, not_true_eq_false, reduceCtorEq, up2_a, up2_k, up2_s, gw_o]; exact y8.1
        · intro i c hc; simp (disch := omega) only [wI_I, wI_s, nI_add, pk_mul, nI_ltI, nI_leI, nI_eq, nI_clamp, nm_or, nm_and, nm_xor, nm_nd, nm_one, nm_shr, nm_b2, Bool.false_eq_true, Bool.true_eq_false, not_false_eq_true, not_true_eq_false, reduceCtorEq, up2_a, up2_k, up2_s, gw_o]; exact y8.2 i c hc
        · intro k hk
          exact GF_up2 (by omega) (by omega) (y9 k hk)
      · show vTd (yN s) ||| 2 ^ vNr (yN s) < 2 ^ 5
        exact Nat.or_lt_two_pow (by have := b5; omega) (Nat.pow_lt_pow_right (by decide) (by omega))
    rw [nr s hp X, X1.2, nm_one (by omega), nm_or]
    exact fin _ _ rfl rfl rfl X1.1
theorem rd_rel (D : RDS h R p tp s1 v1) (X : RX h R p tp s1 v1 f0 g0 b len (vNr (yN s)) s hp) (hn : NMB (yN s)) : wp (ev M_Reader_readRelation 0 0 [some (.ref R), none, none, none, none] [] hp) (fun r h' => r = none ∧ RX h R p tp s1 v1 f0 g0 b len (vNr (yN (zRl b len s))) (zRl b len s) h' ∧ NMB (yN (zRl b len s))) := by
  obtain ⟨a1, a2, a3, a4, a5, a6, a7, a8, a9⟩ := RX_sh D X
  have h5 : vNr (yN s) ≤ 5 := (RX_B X).2.1.2.2.2.1
  have full : ev M_Plan_isFull 0 0 [some (.ref p)] [] hp = some (some (.int (nI (decide (5 ≤ vNr (yN s))).toNat)), hp) := by
    have e : hI hp p 1 = nI (vNr (yN s)) := by obtain ⟨f, g, rfl, x1, x2, x3, -⟩ := X; exact x3.2.1
    rw [r_Plan_isFull_0]
    apply wp_e
    refine wp_isC a5 ?_
    rw [e]
    by_cases q : vNr (yN s) < 5
    · rw [decide_eq_false (by omega)]
      exact wp_bt (by rw [nI_ltI (by omega) (by decide)]; omega) (wp_isZ (by decide) (wp_s ⟨rfl, rfl⟩))
    · rw [decide_eq_true (by omega)]
      exact wp_bf (by rw [nI_ltI (by omega) (by decide)]; omega) (wp_isZ (by decide) (wp_s ⟨rfl, rfl⟩))
  rw [r_Reader_readRelation_0]
  refine wp_isC a1 (wp_nnR a3 (wp_isC a5 (wp_rIe full ?_)))
  unfold zRl
  by_cases q : vNr (yN s) < 5
  · rw [if_pos q, decide_eq_false (by omega)]
    refine wp_bt rfl (wp_isC a1 (wp_nnR a2 (wp_isC a4 (wp_rV (rd_step D X) ?_))))
    rintro v h1 ⟨e1, X1⟩
    refine ⟨e1, ?_⟩
    have k1 : Keep s (zS b len s) := kpS
    have nm1 : NMB (yN (zS b len s)) := NMs_k _ _ k1 hn
    obtain ⟨b1, b2, b3, b4, b5, b6, b7, b8, b9⟩ := RX_sh D X1
    refine wp_isC b1 (wp_nnR b2 (wp_isC b4 (wp_isC b1 (wp_rV (rd_nn D X1 nm1) ?_))))
    rintro v h2 ⟨e1, X2⟩
    refine ⟨e1, ?_⟩
    have k2 : Keep s (zNn b len (zS b len s)) := k1.tr kpN
    have nm2 : NMB (yN (zNn b len (zS b len s))) := NMs_k _ _ k2 hn
    have hnm : yF (zNn b len (zS b len s)) = 0 → hL h1 (R + 1) 3 = lN (wv b len (yI (zS b len s))) ∧ wv b len (yI (zS b len s)) < 2 ^ 63 := by
      intro z
      by_cases q4 : kq b len (zS b len s) = 4
      · exact ⟨(RX_nm X1 q4).2.2.1, (RX_nm X1 q4).2.2.2⟩
      · exfalso
        have : zNn b len (zS b len s) = zF b len 2 (zS b len s) := if_neg q4
        rw [this] at z
        unfold zF at z
        by_cases w : yF (zS b len s) = 0
        · rw [if_pos w] at z
          have z : (if kd b len (yI (zS b len s)) = 1 then 1 else 2) = 0 := z
          split at z <;> cases z
        · rw [if_neg w] at z; exact w z
    generalize zNn b len (zS b len s) = t at X2 k2 nm2 hnm
    generalize wv b len (yI (zS b len s)) = w at hnm
    obtain ⟨c1, c2, c3, c4, c5, c6, c7, c8, c9⟩ := RX_sh D X2
    have en : vNr (yN t) = vNr (yN s) := k2.2.1
    have kb : Keep2 t (zRb b len t) := kpRb
    have sb2 := st_Rb (b := b) (len := len) t
    have fin : ∀ (td : Bool) hp', td = decide (kq b len t = 102) → RX h R p tp s1 v1 f0 g0 b len (vNr (yN t) + 1) (zRb b len t) hp' → wp (ev M_Reader_readRelation 0 47 [some (.ref R), some (.long (hL h1 (R + 1) 3)), none, some (.int (nI td.toNat)), none] [] hp') (fun r h' => r = none ∧ RX h R p tp s1 v1 f0 g0 b len (vNr (yN (zFn (if yF (zRb b len t) = 0 then w else 0) (decide (kq b len t = 102)) (zRb b len t)))) (zFn (if yF (zRb b len t) = 0 then w else 0) (decide (kq b len t = 102)) (zRb b len t)) h' ∧ NMB (yN (zFn (if yF (zRb b len t) = 0 then w else 0) (decide (kq b len t = 102)) (zRb b len t)))) := by
      intro td hp' etd X4
      have en2 : vNr (yN (zRb b len t)) = vNr (yN t) := kb.2.1
      have hf : yF (zRb b len t) = 0 → yF t = 0 := fun z => by
        by_cases w : yF t = 0
        · exact w
        · rw [(sb2 w).1] at z; exact z
      have hw : (if yF (zRb b len t) = 0 then w else 0) < 2 ^ 63 := by
        split
        · rename_i z; exact (hnm (hf z)).2
        · decide
      obtain ⟨b1, b2, b3, b4, b5, b6, b7, b8, b9⟩ := RX_sh D X4
      rw [← en2] at X4
      rw [r_Reader_readRelation_47]
      refine wp_isC b1 (wp_nnR b3 (wp_isC b5 (wp_rV (rd_fin (name := if yF (zRb b len t) = 0 then w else 0) (td := td) D X4 (fun z => by rw [if_pos z]; exact (hnm (hf z)).1)) ?_)))
      rintro v h3 ⟨e1, X5⟩
      refine ⟨e1, wp_s ⟨rfl, ?_, ?_⟩⟩
      · rw [(zFn_N _ _ _).1, ← etd]; exact X5
      · intro k hk
        rw [(zFn_N _ _ _).2.2.2.2]
        rw [(zFn_N _ _ _).1] at hk
        show (if k = vNr (yN (zRb b len t)) then _ else vNm (yN (zRb b len t)) k) < _
        by_cases e : k = vNr (yN (zRb b len t))
        · rw [if_pos e]; exact hw
        · rw [if_neg e, kb.1]; exact nm2 k (by omega)
    have r26 : ∀ td : Bool, td = decide (kq b len t = 102) → wp (ev M_Reader_readRelation 0 26 [some (.ref R), some (.long (hL h1 (R + 1) 3)), none, none, none] [(.int (nI td.toNat))] h2) (fun r h' => r = none ∧ RX h R p tp s1 v1 f0 g0 b len (vNr (yN (zFn (if yF (zRb b len t) = 0 then w else 0) (decide (kq b len t = 102)) (zRb b len t)))) (zFn (if yF (zRb b len t) = 0 then w else 0) (decide (kq b len t = 102)) (zRb b len t)) h' ∧ NMB (yN (zFn (if yF (zRb b len t) = 0 then w else 0) (decide (kq b len t = 102)) (zRb b len t)))) := by
      intro td etd
      rw [r_Reader_readRelation_26]
      refine wp_isC c1 (wp_nnR c3 (wp_isC c5 (wp_rR (rd_begin D (by rw [en]; exact X2) (by omega)) ?_)))
      rintro v h3 ⟨e1, X3⟩
      refine ⟨_, e1, ?_⟩
      have kg : Keep2 t (zBg t) := ⟨rfl, rfl, rfl, rfl⟩
      obtain ⟨b1, b2, b3, b4, b5, b6, b7, b8, b9⟩ := RX_sh D X3
      by_cases z : kq b len t = 102
      · have etd2 : td = true := by rw [etd, decide_eq_true z]
        have erb : zRb b len t = zPr b len (zS b len (zBg t)) := if_pos z
        rw [erb] at fin ⊢
        rw [etd2] at etd ⊢
        refine wp_bf (by decide) (wp_isC b1 (wp_nnR b2 (wp_isC b4 (wp_rV (rd_step D X3) ?_))))
        rintro v h4 ⟨e1, X4⟩
        refine ⟨e1, ?_⟩
        obtain ⟨b1, b2, b3, b4, b5, b6, b7, b8, b9⟩ := RX_sh D X4
        have ks : Keep (zBg t) (zS b len (zBg t)) := kpS
        have e5 : vNr (yN (zS b len (zBg t))) = vNr (yN t) := ks.2.1
        have pr := rd_pairs (s := zS b len (zBg t)) D (by rw [e5]; exact X4)
        rw [e5] at pr
        refine wp_isC b1 (wp_rV pr ?_)
        rintro v h5 ⟨e1, X5⟩
        exact ⟨e1, fin true _ etd X5⟩
      · have etd2 : td = false := by rw [etd, decide_eq_false z]
        have erb : zRb b len t = (zJ b len 6).2 (zE b len 103 (zBg t)) := if_neg z
        rw [erb] at fin ⊢
        rw [etd2] at etd ⊢
        refine wp_bt rfl (wp_isC b1 (wp_rV (rd_expect D X3 (by decide)) ?_))
        rintro v h4 ⟨e1, X4⟩
        refine ⟨e1, ?_⟩
        obtain ⟨b1, b2, b3, b4, b5, b6, b7, b8, b9⟩ := RX_sh D X4
        have ke : Keep (zBg t) (zE b len 103 (zBg t)) := kpE
        have nm3 : NMs (zE b len 103 (zBg t)) := NMs_k _ _ ke (show NMs (zBg t) from nm2)
        refine wp_isC b1 (wp_rV ((rd_x D 6 0 (by decide)).2 _ _ nm3 X4) ?_)
        rintro v h5 ⟨e1, X5⟩
        exact ⟨e1, fin false _ etd X5⟩
    refine wp_isC c1 (wp_nnR c2 (wp_isC c4 ?_))
    rw [c8]
    by_cases z : kq b len t = 102
    · exact wp_bt (by rw [z]) (r26 true (decide_eq_true z).symm)
    · exact wp_bf (by rw [kq_eq (by decide)]; exact z) (r26 false (decide_eq_false z).symm)
  · rw [if_neg q, decide_eq_true (by omega)]
    refine wp_bf (by decide) (wp_isC a1 (wp_rV (rd_fail D X (by decide) (by decide)) ?_))
    rintro v h3 ⟨e1, X3⟩
    have k : Keep s (zF b len 2 s) := kpF
    refine ⟨e1, wp_s ⟨rfl, ?_, NMs_k _ _ k hn⟩⟩
    rw [k.2.1]; exact X3
end
