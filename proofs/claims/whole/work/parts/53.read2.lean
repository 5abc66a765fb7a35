/-! The reader: parts laid down; the formula of keep. -/
section
variable {h : MH} {R p tp s1 v1 : Nat} {f0 : Nat → Nat → Int32} {g0 : Nat → Nat → Int64} {b : Nat → Nat} {len m : Nat} {s : Ps} {hp : MH}
/-- what stays when only a plan's own cells change -/
theorem RX_pl {f f' : Nat → Nat → Int32} {g : Nat → Nat → Int64} {q : Pn} (D : RDS h R p tp s1 v1) (x1 : SCF f g (R + 1) tp s1 v1 b len) (x2 : TFF f g R b len s) (x4 : TFB len s) (x6 : FRD R p f0 f) (x7 : FRD R p g0 g) (x8 : g (R + 2) = g0 (R + 2)) (fr : ∀ a, a < p ∨ p + 17 ≤ a → f' a = f a) (n1 : PNF f' g p m (yF s) q) (n2 : PNB m q) : RX h R p tp s1 v1 f0 g0 b len m (zN s q) (wI (wL h g) f') := by
  obtain ⟨d1, d2, d3, d4, d5, d6, d7, d8, d9, d10⟩ := D
  refine ⟨f', g, rfl, ?_, ?_, n1, x4, n2, fun a h1 h2 h3 => (fr a h3).trans (x6 a h1 h2 h3), x7, x8⟩
  · obtain ⟨u1, u2, u3, u4, u5, u6, u7⟩ := x1
    exact ⟨by rw [fr _ (by omega)]; exact u1, u2, u3, fun i hi => by rw [fr _ (by omega)]; exact u4 i hi, by rw [fr _ (by omega)]; exact u5, fun j hj => by rw [fr _ (by omega)]; exact u6 j hj, u7⟩
  · obtain ⟨u1, u2, u3, u4, u5, u6⟩ := x2
    refine ⟨by rw [fr _ (by omega)]; exact u1, by rw [fr _ (by omega)]; exact u2, by rw [fr _ (by omega)]; exact u3, by rw [fr _ (by omega)]; exact u4, fun z => ?_, fun z => ?_⟩
    · obtain ⟨w1, w2, w3, w4, w5, w6⟩ := u5 z
      exact ⟨by rw [fr _ (by omega)]; exact w1, by rw [fr _ (by omega)]; exact w2, by rw [fr _ (by omega)]; exact w3, by rw [fr _ (by omega)]; exact w4, fun k => by rw [fr _ (by omega)]; exact w5 k, w6⟩
    · obtain ⟨w1, w2⟩ := u6 z
      exact ⟨by rw [fr _ (by omega)]; exact w1, by rw [fr _ (by omega)]; exact w2⟩
theorem LF_app {f : Nat → Nat → Int32} {a c : Nat} {xs : List Nat} (L : LF f a xs) : LF (up2 f a xs.length (nI c)) a (xs ++ [c]) := by
  intro i d hd
  rcases app1 hd with ⟨q, q2⟩ | ⟨q, q2⟩
  · rw [up2_k (by omega)]; exact L i d q2
  · rw [q, q2, up2_s]
theorem rd_addX {c : Nat} (D : RDS h R p tp s1 v1) (X : RX h R p tp s1 v1 f0 g0 b len m s hp) (hc : c < 40) : wp (ev M_Plan_addPart 0 0 [some (.ref p), some (.int (nI c))] [] hp) (fun r h' => r = none ∧ RX h R p tp s1 v1 f0 g0 b len m (zX c s) h') := by
  obtain ⟨f, g, rfl, x1, x2, x3, x4, x5, x6, x7, x8⟩ := X
  obtain ⟨p1, p2, p3, p4, p5, p6, p7, p8, p9, p10, p11, p12, p13, p14, p15, p16, p17, p18, p19⟩ := id D.2.2.2.2.1
  obtain ⟨y0, y1, y2, y3, y4, y5, y6, y7, y8, y9, y10⟩ := id x3
  obtain ⟨b1, b2, b3, b4, b5, b6, b7, b8, b9, b10, b11⟩ := id x5
  unfold zX
  rw [r_Plan_addPart_0]
  refine wp_isC p1 ?_
  rw [wI_I, y6]
  by_cases q : (vXs (yN s)).length < 256
  · rw [if_pos q]
    refine wp_bt (by rw [nI_ltI (by omega) (by decide)]; exact q) ?_
    repeat (first | refine wp_isC (by assumption) ?_ | refine wp_nnR (by assumption) ?_ | refine wp_inA (by assumption) rfl (by omega) (by omega) ?_ | refine wp_isZ (by first | decide | exact b01z _) ?_ | refine wp_bt (by (first | (simp (disch := omega) only [wI_I, wI_s, nI_add, pk_mul, nI_ltI, nI_leI, nI_eq, nI_clamp, nm_or, nm_and, nm_xor, nm_nd, nm_one, nm_shr, nm_b2, Bool.false_eq_true, Bool.true_eq_false, not_false_eq_true, not_true_eq_false, reduceCtorEq, y6]; done) | (simp (disch := omega) only [wI_I, wI_s, nI_add, pk_mul, nI_ltI, nI_leI, nI_eq, nI_clamp, nm_or, nm_and, nm_xor, nm_nd, nm_one, nm_shr, nm_b2, Bool.false_eq_true, Bool.true_eq_false, not_false_eq_true, not_true_eq_false, reduceCtorEq, y6]; omega) | omega)) ?_ | refine wp_bf (by (first | (simp (disch := omega) only [wI_I, wI_s, nI_add, pk_mul, nI_ltI, nI_leI, nI_eq, nI_clamp, nm_or, nm_and, nm_xor, nm_nd, nm_one, nm_shr, nm_b2, Bool.false_eq_true, Bool.true_eq_false, not_false_eq_true, not_true_eq_false, reduceCtorEq, y6]; done) | (simp (disch := omega) only [wI_I, wI_s, nI_add, pk_mul, nI_ltI, nI_leI, nI_eq, nI_clamp, nm_or, nm_and, nm_xor, nm_nd, nm_one, nm_shr, nm_b2, Bool.false_eq_true, Bool.true_eq_false, not_false_eq_true, not_true_eq_false, reduceCtorEq, y6]; omega) | omega)) ?_ | refine wp_nz (by first | decide | exact nz_n (by omega) (by omega)) ?_ | (simp (disch := omega) only [wI_I, wI_s, nI_add, pk_mul, nI_ltI, nI_leI, nI_eq, nI_clamp, nm_or, nm_and, nm_xor, nm_nd, nm_one, nm_shr, nm_b2, Bool.false_eq_true, Bool.true_eq_false, not_false_eq_true, not_true_eq_false, reduceCtorEq, up2_a, up2_k, up2_s, gw_o, y6]))
    refine wp_s ⟨rfl, RX_pl D x1 x2 x4 x6 x7 x8 (fun a ha => by rw [up2_a (by omega), up2_a (by omega)]) ?_ ?_⟩
    · refine ⟨?_, ?_, ?_, ?_, ?_, ?_, ?_, ?_, ⟨?_, ?_⟩, ?_, y10⟩
      · simp (disch := omega) only [wI_I, wI_s, nI_add, pk_mul, nI_ltI, nI_leI, nI_eq, nI_clamp, nm_or, nm_and, nm_xor, nm_nd, nm_one, nm_shr, nm_b2, Bool.false_eq_true, Bool.true_eq_false, not_false_eq_true, not_true_eq_false, reduceCtorEq, up2_a, up2_k, up2_s, gw_o]; exact y0
      · simp (disch := omega) only [wI_I, wI_s, nI_add, pk_mul, nI_ltI, nI_leI, nI_eq, nI_clamp, nm_or, nm_and, nm_xor, nm_nd, nm_one, nm_shr, nm_b2, Bool.false_eq_true, Bool.true_eq_false, not_false_eq_true, not_true_eq_false, reduceCtorEq, up2_a, up2_k, up2_s, gw_o]; exact y1
      · simp (disch := omega) only [wI_I, wI_s, nI_add, pk_mul, nI_ltI, nI_leI, nI_eq, nI_clamp, nm_or, nm_and, nm_xor, nm_nd, nm_one, nm_shr, nm_b2, Bool.false_eq_true, Bool.true_eq_false, not_false_eq_true, not_true_eq_false, reduceCtorEq, up2_a, up2_k, up2_s, gw_o]; exact y2
      · simp (disch := omega) only [wI_I, wI_s, nI_add, pk_mul, nI_ltI, nI_leI, nI_eq, nI_clamp, nm_or, nm_and, nm_xor, nm_nd, nm_one, nm_shr, nm_b2, Bool.false_eq_true, Bool.true_eq_false, not_false_eq_true, not_true_eq_false, reduceCtorEq, up2_a, up2_k, up2_s, gw_o]; exact y3
      · simp (disch := omega) only [wI_I, wI_s, nI_add, pk_mul, nI_ltI, nI_leI, nI_eq, nI_clamp, nm_or, nm_and, nm_xor, nm_nd, nm_one, nm_shr, nm_b2, Bool.false_eq_true, Bool.true_eq_false, not_false_eq_true, not_true_eq_false, reduceCtorEq, up2_a, up2_k, up2_s, gw_o]; exact y4
      · simp (disch := omega) only [wI_I, wI_s, nI_add, pk_mul, nI_ltI, nI_leI, nI_eq, nI_clamp, nm_or, nm_and, nm_xor, nm_nd, nm_one, nm_shr, nm_b2, Bool.false_eq_true, Bool.true_eq_false, not_false_eq_true, not_true_eq_false, reduceCtorEq, up2_a, up2_k, up2_s, gw_o]; exact y5
      · show _ = nI (vXs (yN s) ++ [c]).length
        rw [up2_s, List.length_append]; rfl
      · intro i d hd
        rw [up2_a (by omega)]
        exact LF_app y7 i d hd
      · simp (disch := omega) only [wI_I, wI_s, nI_add, pk_mul, nI_ltI, nI_leI, nI_eq, nI_clamp, nm_or, nm_and, nm_xor, nm_nd, nm_one, nm_shr, nm_b2, Bool.false_eq_true, Bool.true_eq_false, not_false_eq_true, not_true_eq_false, reduceCtorEq, up2_a, up2_k, up2_s, gw_o]; exact y8.1
      · intro i k hk; simp (disch := omega) only [wI_I, wI_s, nI_add, pk_mul, nI_ltI, nI_leI, nI_eq, nI_clamp, nm_or, nm_and, nm_xor, nm_nd, nm_one, nm_shr, nm_b2, Bool.false_eq_true, Bool.true_eq_false, not_false_eq_true, not_true_eq_false, reduceCtorEq, up2_a, up2_k, up2_s, gw_o]; exact y8.2 i k hk
      · intro k hk
        exact GF_up2 (by omega) (by omega) (GF_up2 (by omega) (by omega) (y9 k hk))
    · refine ⟨b1, b2, b3, b4, b5, b6, b7, b8, b9, ⟨?_, ?_⟩, b11⟩
      · show (vXs (yN s) ++ [c]).length ≤ 256
        rw [List.length_append]; show _ + 1 ≤ 256; omega
      · intro d hd
        rcases List.mem_append.mp hd with z | z
        · exact b10.2 d z
        · have : d = c := by simpa using z
          omega
  · rw [if_neg q]
    refine wp_bf (by rw [nI_ltI (by omega) (by decide)]; exact q) (wp_s ⟨rfl, f, g, rfl, x1, x2, x3, x4, x5, x6, x7, x8⟩)
theorem rd_addK {k : Kp} (D : RDS h R p tp s1 v1) (X : RX h R p tp s1 v1 f0 g0 b len m s hp) (hk : kpo k) : wp (ev M_Formula_addPart 0 0 [some (.ref (p + 1)), some (.int (kC k))] [] hp) (fun r h' => r = none ∧ RX h R p tp s1 v1 f0 g0 b len m (zK k s) h') := by
  obtain ⟨f, g, rfl, x1, x2, x3, x4, x5, x6, x7, x8⟩ := X
  obtain ⟨p1, p2, p3, p4, p5, p6, p7, p8, p9, p10, p11, p12, p13, p14, p15, p16, p17, p18, p19⟩ := id D.2.2.2.2.1
  obtain ⟨y0, y1, y2, y3, y4, y5, y6, y7, y8, y9, y10⟩ := id x3
  obtain ⟨b1, b2, b3, b4, b5, b6, b7, b8, b9, b10, b11⟩ := id x5
  have k1 := y8.1
  unfold zK
  rw [r_Formula_addPart_0]
  refine wp_isC p3 ?_
  rw [wI_I, k1]
  by_cases q : (vKs (yN s)).length < 320
  · rw [if_pos q]
    refine wp_bt (by rw [nI_ltI (by omega) (by decide)]; exact q) ?_
    repeat (first | refine wp_isC (by assumption) ?_ | refine wp_nnR (by assumption) ?_ | refine wp_inA (by assumption) rfl (by omega) (by omega) ?_ | refine wp_isZ (by first | decide | exact b01z _) ?_ | refine wp_bt (by (first | (simp (disch := omega) only [wI_I, wI_s, nI_add, pk_mul, nI_ltI, nI_leI, nI_eq, nI_clamp, nm_or, nm_and, nm_xor, nm_nd, nm_one, nm_shr, nm_b2, Bool.false_eq_true, Bool.true_eq_false, not_false_eq_true, not_true_eq_false, reduceCtorEq, k1]; done) | (simp (disch := omega) only [wI_I, wI_s, nI_add, pk_mul, nI_ltI, nI_leI, nI_eq, nI_clamp, nm_or, nm_and, nm_xor, nm_nd, nm_one, nm_shr, nm_b2, Bool.false_eq_true, Bool.true_eq_false, not_false_eq_true, not_true_eq_false, reduceCtorEq, k1]; omega) | omega)) ?_ | refine wp_bf (by (first | (simp (disch := omega) only [wI_I, wI_s, nI_add, pk_mul, nI_ltI, nI_leI, nI_eq, nI_clamp, nm_or, nm_and, nm_xor, nm_nd, nm_one, nm_shr, nm_b2, Bool.false_eq_true, Bool.true_eq_false, not_false_eq_true, not_true_eq_false, reduceCtorEq, k1]; done) | (simp (disch := omega) only [wI_I, wI_s, nI_add, pk_mul, nI_ltI, nI_leI, nI_eq, nI_clamp, nm_or, nm_and, nm_xor, nm_nd, nm_one, nm_shr, nm_b2, Bool.false_eq_true, Bool.true_eq_false, not_false_eq_true, not_true_eq_false, reduceCtorEq, k1]; omega) | omega)) ?_ | refine wp_nz (by first | decide | exact nz_n (by omega) (by omega)) ?_ | (simp (disch := omega) only [wI_I, wI_s, nI_add, pk_mul, nI_ltI, nI_leI, nI_eq, nI_clamp, nm_or, nm_and, nm_xor, nm_nd, nm_one, nm_shr, nm_b2, Bool.false_eq_true, Bool.true_eq_false, not_false_eq_true, not_true_eq_false, reduceCtorEq, up2_a, up2_k, up2_s, gw_o, k1]))
    refine wp_s ⟨rfl, RX_pl D x1 x2 x4 x6 x7 x8 (fun a ha => by rw [up2_a (by omega), up2_a (by omega)]) ?_ ?_⟩
    · refine ⟨?_, ?_, ?_, ?_, ?_, ?_, ?_, ?_, ⟨?_, ?_⟩, ?_, y10⟩
      · simp (disch := omega) only [wI_I, wI_s, nI_add, pk_mul, nI_ltI, nI_leI, nI_eq, nI_clamp, nm_or, nm_and, nm_xor, nm_nd, nm_one, nm_shr, nm_b2, Bool.false_eq_true, Bool.true_eq_false, not_false_eq_true, not_true_eq_false, reduceCtorEq, up2_a, up2_k, up2_s, gw_o]; exact y0
      · simp (disch := omega) only [wI_I, wI_s, nI_add, pk_mul, nI_ltI, nI_leI, nI_eq, nI_clamp, nm_or, nm_and, nm_xor, nm_nd, nm_one, nm_shr, nm_b2, Bool.false_eq_true, Bool.true_eq_false, not_false_eq_true, not_true_eq_false, reduceCtorEq, up2_a, up2_k, up2_s, gw_o]; exact y1
      · simp (disch := omega) only [wI_I, wI_s, nI_add, pk_mul, nI_ltI, nI_leI, nI_eq, nI_clamp, nm_or, nm_and, nm_xor, nm_nd, nm_one, nm_shr, nm_b2, Bool.false_eq_true, Bool.true_eq_false, not_false_eq_true, not_true_eq_false, reduceCtorEq, up2_a, up2_k, up2_s, gw_o]; exact y2
      · simp (disch := omega) only [wI_I, wI_s, nI_add, pk_mul, nI_ltI, nI_leI, nI_eq, nI_clamp, nm_or, nm_and, nm_xor, nm_nd, nm_one, nm_shr, nm_b2, Bool.false_eq_true, Bool.true_eq_false, not_false_eq_true, not_true_eq_false, reduceCtorEq, up2_a, up2_k, up2_s, gw_o]; exact y3
      · simp (disch := omega) only [wI_I, wI_s, nI_add, pk_mul, nI_ltI, nI_leI, nI_eq, nI_clamp, nm_or, nm_and, nm_xor, nm_nd, nm_one, nm_shr, nm_b2, Bool.false_eq_true, Bool.true_eq_false, not_false_eq_true, not_true_eq_false, reduceCtorEq, up2_a, up2_k, up2_s, gw_o]; exact y4
      · simp (disch := omega) only [wI_I, wI_s, nI_add, pk_mul, nI_ltI, nI_leI, nI_eq, nI_clamp, nm_or, nm_and, nm_xor, nm_nd, nm_one, nm_shr, nm_b2, Bool.false_eq_true, Bool.true_eq_false, not_false_eq_true, not_true_eq_false, reduceCtorEq, up2_a, up2_k, up2_s, gw_o]; exact y5
      · simp (disch := omega) only [wI_I, wI_s, nI_add, pk_mul, nI_ltI, nI_leI, nI_eq, nI_clamp, nm_or, nm_and, nm_xor, nm_nd, nm_one, nm_shr, nm_b2, Bool.false_eq_true, Bool.true_eq_false, not_false_eq_true, not_true_eq_false, reduceCtorEq, up2_a, up2_k, up2_s, gw_o]; exact y6
      · intro i c hc; simp (disch := omega) only [wI_I, wI_s, nI_add, pk_mul, nI_ltI, nI_leI, nI_eq, nI_clamp, nm_or, nm_and, nm_xor, nm_nd, nm_one, nm_shr, nm_b2, Bool.false_eq_true, Bool.true_eq_false, not_false_eq_true, not_true_eq_false, reduceCtorEq, up2_a, up2_k, up2_s, gw_o]; exact y7 i c hc
      · show _ = nI (vKs (yN s) ++ [k]).length
        rw [up2_s, List.length_append]; rfl
      · intro i d hd
        rw [up2_a (by omega)]
        rcases app1 hd with ⟨q, q2⟩ | ⟨q, q2⟩
        · rw [up2_k (by omega)]; exact y8.2 i d q2
        · rw [q, q2, up2_s]
      · intro k hk
        exact GF_up2 (by omega) (by omega) (GF_up2 (by omega) (by omega) (y9 k hk))
    · refine ⟨b1, b2, b3, b4, b5, b6, b7, b8, ⟨?_, ?_⟩, b10, b11⟩
      · show (vKs (yN s) ++ [k]).length ≤ 320
        rw [List.length_append]; show _ + 1 ≤ 320; omega
      · intro d hd
        rcases List.mem_append.mp hd with z | z
        · exact b9.2 d z
        · have : d = k := by simpa using z
          rw [this]; exact hk
  · rw [if_neg q]
    refine wp_bf (by rw [nI_ltI (by omega) (by decide)]; exact q) (wp_s ⟨rfl, f, g, rfl, x1, x2, x3, x4, x5, x6, x7, x8⟩)
end
/-! the formula, by levels -/
def zT (b : Nat → Nat) (len : Nat) (U : Ps → Ps) : Nat → Ps → Ps
  | 0, s => s
  | k + 1, s => if kq b len s = 42 ∨ kq b len s = 47 ∨ kq b len s = 37 then zT b len U k (zK (2, if kq b len s = 42 then 2 else if kq b len s = 47 then 3 else 4) (U (zS b len s))) else s
def zTm (b : Nat → Nat) (len : Nat) (U : Ps → Ps) (s : Ps) : Ps := zT b len U 1600 (U s)
def zA (b : Nat → Nat) (len : Nat) (T : Ps → Ps) : Nat → Ps → Ps
  | 0, s => s
  | k + 1, s => if kq b len s = 43 ∨ kq b len s = 45 then zA b len T k (zK (2, if kq b len s = 43 then 0 else 1) (T (zS b len s))) else s
def zSm (b : Nat → Nat) (len : Nat) (U : Ps → Ps) (s : Ps) : Ps := zA b len (zTm b len U) 1600 (zTm b len U s)
def zC (b : Nat → Nat) (len : Nat) (U : Ps → Ps) (s : Ps) : Ps := if kq b len (zSm b len U s) = 60 ∨ kq b len (zSm b len U s) = 62 ∨ kq b len (zSm b len U s) = 61 then zK (2, if kq b len (zSm b len U s) = 60 then 5 else if kq b len (zSm b len U s) = 62 then 6 else 7) (zSm b len U (zS b len (zSm b len U s))) else zSm b len U s
def zO (b : Nat → Nat) (len : Nat) (k w : Nat) (A : Ps → Ps) : Nat → Ps → Ps
  | 0, s => s
  | n + 1, s => if kq b len s = k then zO b len k w A n (zK (2, w) (A (zS b len s))) else s
def zAnd (b : Nat → Nat) (len : Nat) (N : Ps → Ps) (s : Ps) : Ps := zO b len 109 8 N 1600 (N s)
def zOr (b : Nat → Nat) (len : Nat) (N : Ps → Ps) (s : Ps) : Ps := zO b len 107 9 (zAnd b len N) 1600 (zAnd b len N s)
def zUn (b : Nat → Nat) (len : Nat) (B : Ps → Ps) (s : Ps) : Ps := if vUn (yN s) < 30 then
    (if kq b len s = 3 then zK (0, (zM b len 0 9999 (zN s (uUn (yN s) (vUn (yN s) + 1)))).1) (zM b len 0 9999 (zN s (uUn (yN s) (vUn (yN s) + 1)))).2
     else if kq b len s = 40 then B (zN s (uUn (yN s) (vUn (yN s) + 1)))
     else if kq b len s = 115 ∨ kq b len s = 116 ∨ kq b len s = 117 then zS b len (zK (1, kq b len s - 115) (zN s (uUn (yN s) (vUn (yN s) + 1))))
     else zF b len 2 (zN s (uUn (yN s) (vUn (yN s) + 1)))) else zF b len 2 s
/-- nots, and the whole, so many brackets and nots deep at most -/
def zD (b : Nat → Nat) (len : Nat) : Nat → (Ps → Ps) × (Ps → Ps)
  | 0 => (fun s => if kq b len s = 114 then zF b len 2 s else zC b len (zUn b len (zF b len 2)) s, zOr b len (fun s => if kq b len s = 114 then zF b len 2 s else zC b len (zUn b len (zF b len 2)) s))
  | D + 1 => (fun s => if kq b len s = 114 then zK (3, 0) ((zD b len D).1 (zS b len s)) else zC b len (zUn b len (fun s => zE b len 41 ((zD b len D).2 (zS b len s)))) s, zOr b len (fun s => if kq b len s = 114 then zK (3, 0) ((zD b len D).1 (zS b len s)) else zC b len (zUn b len (fun s => zE b len 41 ((zD b len D).2 (zS b len s)))) s))
def zB (b : Nat → Nat) (len : Nat) : Nat → Ps → Ps
  | 0 => zF b len 2
  | D + 1 => fun s => zE b len 41 ((zD b len D).2 (zS b len s))
theorem zD_2 (b : Nat → Nat) (len D : Nat) : (zD b len D).2 = zOr b len (zD b len D).1 := by cases D <;> rfl
theorem zD_1 (b : Nat → Nat) (len D : Nat) (s : Ps) (hn : kq b len s ≠ 114) : (zD b len D).1 s = zC b len (zUn b len (zB b len D)) s := by
  cases D with
  | zero => show (if _ then _ else _) = _; rw [if_neg hn]; rfl
  | succ D => show (if _ then _ else _) = _; rw [if_neg hn]; rfl
/-- a method of the reader does what U says -/
def Does (h : MH) (R p tp s1 v1 : Nat) (f0 : Nat → Nat → Int32) (g0 : Nat → Nat → Int64) (b : Nat → Nat) (len m : Nat) (call : MH → MRes) (U : Ps → Ps) : Prop := ∀ s hp, RX h R p tp s1 v1 f0 g0 b len m s hp → wp (call hp) (fun r h' => r = none ∧ RX h R p tp s1 v1 f0 g0 b len m (U s) h')
section
variable {h : MH} {R p tp s1 v1 : Nat} {f0 : Nat → Nat → Int32} {g0 : Nat → Nat → Int64} {b : Nat → Nat} {len m : Nat}
theorem kq_eq {s : Ps} {k : Nat} (hk : k < 200) : nI (kq b len s) = nI k ↔ kq b len s = k := nI_eq (by have := kq_lt (b := b) (len := len) (s := s); omega) (by omega)
theorem rd_term {x : Int32} {d : Nat} {U : Ps → Ps} (D : RDS h R p tp s1 v1) (HU : Does h R p tp s1 v1 f0 g0 b len m (fun hp => ev M_Reader_readUnit d 0 [some (.ref R), some (.int x)] [] hp) U) : Does h R p tp s1 v1 f0 g0 b len m (fun hp => ev M_Reader_readTerm d 0 [some (.ref R), some (.int x), none, none] [] hp) (zTm b len U) := by
  have L : ∀ k i s hp, i + k = 1600 → RX h R p tp s1 v1 f0 g0 b len m s hp → wp (ev M_Reader_readTerm d 10 [some (.ref R), some (.int x), some (.int (nI (kq b len s))), some (.int (nI i))] [] hp) (fun r h' => r = none ∧ RX h R p tp s1 v1 f0 g0 b len m (zT b len U k s) h') := by
    intro k
    induction k with
    | zero =>
      intro i s hp hi X
      rw [r_Reader_readTerm_10]
      refine wp_bf (by rw [nI_ltI (by omega) (by decide)]; omega) (wp_s ⟨rfl, X⟩)
    | succ k ih =>
      intro i s hp hi X
      obtain ⟨a1, a2, a3, a4, a5, a6, a7, a8, a9⟩ := RX_sh D X
      have body : ∀ o, o < 10 → nI (kq b len s) = nI (sgC o) → wp (ev M_Reader_readTerm d 23 [some (.ref R), some (.int x), some (.int (nI (kq b len s))), some (.int (nI i))] [] hp) (fun r h' => r = none ∧ RX h R p tp s1 v1 f0 g0 b len m (zT b len U k (zK (2, o) (U (zS b len s)))) h') := by
        intro o ho eo
        rw [r_Reader_readTerm_23]
        refine wp_isC a1 (wp_nnR a2 (wp_isC a4 (wp_rV (rd_step D X) ?_)))
        rintro v h1 ⟨e1, X1⟩
        refine ⟨e1, ?_⟩
        obtain ⟨b1, b2, b3, b4, b5, b6, b7, b8, b9⟩ := RX_sh D X1
        refine wp_isC b1 (wp_rV (HU _ _ X1) ?_)
        rintro v h2 ⟨e1, X2⟩
        refine ⟨e1, ?_⟩
        obtain ⟨b1, b2, b3, b4, b5, b6, b7, b8, b9⟩ := RX_sh D X2
        refine wp_isC b1 (wp_nnR b3 (wp_isC b5 (wp_nnR b6 (wp_isC b7 ?_))))
        have ek : nI (kq b len s) = kC (2, o) := eo
        rw [ek]
        refine wp_rV (rd_addK D X2 (Or.inr (Or.inr (Or.inl ⟨rfl, ho⟩)))) ?_
        rintro v h3 ⟨e1, X3⟩
        refine ⟨e1, ?_⟩
        obtain ⟨b1, b2, b3, b4, b5, b6, b7, b8, b9⟩ := RX_sh D X3
        refine wp_isC b1 (wp_nnR b2 (wp_isC b4 ?_))
        rw [b8, nI_add]
        exact ih (i + 1) _ _ (by omega) X3
      rw [r_Reader_readTerm_10]
      refine wp_bt (by rw [nI_ltI (by omega) (by decide)]; omega) ?_
      rw [zT]
      by_cases q1 : kq b len s = 42
      · rw [if_pos (Or.inl q1), if_pos q1]
        exact wp_bt (by rw [q1]) (body 2 (by decide) (by rw [q1]; rfl))
      refine wp_bf (by rw [kq_eq (by decide)]; exact q1) ?_
      by_cases q2 : kq b len s = 47
      · rw [if_pos (Or.inr (Or.inl q2)), if_neg q1, if_pos q2]
        exact wp_bt (by rw [q2]) (body 3 (by decide) (by rw [q2]; rfl))
      refine wp_bf (by rw [kq_eq (by decide)]; exact q2) ?_
      by_cases q3 : kq b len s = 37
      · rw [if_pos (Or.inr (Or.inr q3)), if_neg q1, if_neg q2]
        exact wp_bt (by rw [q3]) (body 4 (by decide) (by rw [q3]; rfl))
      refine wp_bf (by rw [kq_eq (by decide)]; exact q3) ?_
      rw [if_neg (by rintro (z | z | z); exact q1 z; exact q2 z; exact q3 z)]
      exact wp_s ⟨rfl, X⟩
  intro s hp X
  obtain ⟨a1, a2, a3, a4, a5, a6, a7, a8, a9⟩ := RX_sh D X
  show wp (ev M_Reader_readTerm d 0 [some (.ref R), some (.int x), none, none] [] hp) _
  rw [r_Reader_readTerm_0]
  refine wp_isC a1 (wp_rV (HU _ _ X) ?_)
  rintro v h1 ⟨e1, X1⟩
  refine ⟨e1, ?_⟩
  obtain ⟨b1, b2, b3, b4, b5, b6, b7, b8, b9⟩ := RX_sh D X1
  refine wp_isC b1 (wp_nnR b2 (wp_isC b4 ?_))
  rw [b8]
  exact L 1600 0 _ _ (by omega) X1
theorem rd_sum {x : Int32} {d : Nat} {U : Ps → Ps} (D : RDS h R p tp s1 v1) (HU : Does h R p tp s1 v1 f0 g0 b len m (fun hp => ev M_Reader_readUnit d 0 [some (.ref R), some (.int x)] [] hp) U) : Does h R p tp s1 v1 f0 g0 b len m (fun hp => ev M_Reader_readSum d 0 [some (.ref R), some (.int x), none, none] [] hp) (zSm b len U) := by
  have HT := rd_term D HU
  have L : ∀ k i s hp, i + k = 1600 → RX h R p tp s1 v1 f0 g0 b len m s hp → wp (ev M_Reader_readSum d 10 [some (.ref R), some (.int x), some (.int (nI (kq b len s))), some (.int (nI i))] [] hp) (fun r h' => r = none ∧ RX h R p tp s1 v1 f0 g0 b len m (zA b len (zTm b len U) k s) h') := by
    intro k
    induction k with
    | zero =>
      intro i s hp hi X
      rw [r_Reader_readSum_10]
      refine wp_bf (by rw [nI_ltI (by omega) (by decide)]; omega) (wp_s ⟨rfl, X⟩)
    | succ k ih =>
      intro i s hp hi X
      obtain ⟨a1, a2, a3, a4, a5, a6, a7, a8, a9⟩ := RX_sh D X
      have body : ∀ o, o < 10 → nI (kq b len s) = nI (sgC o) → wp (ev M_Reader_readSum d 20 [some (.ref R), some (.int x), some (.int (nI (kq b len s))), some (.int (nI i))] [] hp) (fun r h' => r = none ∧ RX h R p tp s1 v1 f0 g0 b len m (zA b len (zTm b len U) k (zK (2, o) (zTm b len U (zS b len s)))) h') := by
        intro o ho eo
        rw [r_Reader_readSum_20]
        refine wp_isC a1 (wp_nnR a2 (wp_isC a4 (wp_rV (rd_step D X) ?_)))
        rintro v h1 ⟨e1, X1⟩
        refine ⟨e1, ?_⟩
        obtain ⟨b1, b2, b3, b4, b5, b6, b7, b8, b9⟩ := RX_sh D X1
        refine wp_isC b1 (wp_rV (HT _ _ X1) ?_)
        rintro v h2 ⟨e1, X2⟩
        refine ⟨e1, ?_⟩
        obtain ⟨b1, b2, b3, b4, b5, b6, b7, b8, b9⟩ := RX_sh D X2
        refine wp_isC b1 (wp_nnR b3 (wp_isC b5 (wp_nnR b6 (wp_isC b7 ?_))))
        have ek : nI (kq b len s) = kC (2, o) := eo
        rw [ek]
        refine wp_rV (rd_addK D X2 (Or.inr (Or.inr (Or.inl ⟨rfl, ho⟩)))) ?_
        rintro v h3 ⟨e1, X3⟩
        refine ⟨e1, ?_⟩
        obtain ⟨b1, b2, b3, b4, b5, b6, b7, b8, b9⟩ := RX_sh D X3
        refine wp_isC b1 (wp_nnR b2 (wp_isC b4 ?_))
        rw [b8, nI_add]
        exact ih (i + 1) _ _ (by omega) X3
      rw [r_Reader_readSum_10]
      refine wp_bt (by rw [nI_ltI (by omega) (by decide)]; omega) ?_
      rw [zA]
      by_cases q1 : kq b len s = 43
      · rw [if_pos (Or.inl q1), if_pos q1]
        exact wp_bt (by rw [q1]) (body 0 (by decide) (by rw [q1]; rfl))
      refine wp_bf (by rw [kq_eq (by decide)]; exact q1) ?_
      by_cases q2 : kq b len s = 45
      · rw [if_pos (Or.inr q2), if_neg q1]
        exact wp_bt (by rw [q2]) (body 1 (by decide) (by rw [q2]; rfl))
      refine wp_bf (by rw [kq_eq (by decide)]; exact q2) ?_
      rw [if_neg (by rintro (z | z); exact q1 z; exact q2 z)]
      exact wp_s ⟨rfl, X⟩
  intro s hp X
  obtain ⟨a1, a2, a3, a4, a5, a6, a7, a8, a9⟩ := RX_sh D X
  show wp (ev M_Reader_readSum d 0 [some (.ref R), some (.int x), none, none] [] hp) _
  rw [r_Reader_readSum_0]
  refine wp_isC a1 (wp_rV (HT _ _ X) ?_)
  rintro v h1 ⟨e1, X1⟩
  refine ⟨e1, ?_⟩
  obtain ⟨b1, b2, b3, b4, b5, b6, b7, b8, b9⟩ := RX_sh D X1
  refine wp_isC b1 (wp_nnR b2 (wp_isC b4 ?_))
  rw [b8]
  exact L 1600 0 _ _ (by omega) X1
theorem rd_cmp {x : Int32} {d : Nat} {U : Ps → Ps} (D : RDS h R p tp s1 v1) (HU : Does h R p tp s1 v1 f0 g0 b len m (fun hp => ev M_Reader_readUnit d 0 [some (.ref R), some (.int x)] [] hp) U) : Does h R p tp s1 v1 f0 g0 b len m (fun hp => ev M_Reader_readCompared d 0 [some (.ref R), some (.int x), none] [] hp) (zC b len U) := by
  have HS := rd_sum D HU
  intro s hp X
  obtain ⟨a1, a2, a3, a4, a5, a6, a7, a8, a9⟩ := RX_sh D X
  show wp (ev M_Reader_readCompared d 0 [some (.ref R), some (.int x), none] [] hp) _
  rw [r_Reader_readCompared_0]
  refine wp_isC a1 (wp_rV (HS _ _ X) ?_)
  rintro v h1 ⟨e1, X⟩
  refine ⟨e1, ?_⟩
  unfold zC
  generalize zSm b len U s = s at X
  obtain ⟨a1, a2, a3, a4, a5, a6, a7, a8, a9⟩ := RX_sh D X
  refine wp_isC a1 (wp_nnR a2 (wp_isC a4 ?_))
  rw [a8]
  have body : ∀ o, o < 10 → nI (kq b len s) = nI (sgC o) → wp (ev M_Reader_readCompared d 17 [some (.ref R), some (.int x), some (.int (nI (kq b len s)))] [] h1) (fun r h' => r = none ∧ RX h R p tp s1 v1 f0 g0 b len m (zK (2, o) (zSm b len U (zS b len s))) h') := by
    intro o ho eo
    rw [r_Reader_readCompared_17]
    refine wp_isC a1 (wp_nnR a2 (wp_isC a4 (wp_rV (rd_step D X) ?_)))
    rintro v h1 ⟨e1, X1⟩
    refine ⟨e1, ?_⟩
    obtain ⟨b1, b2, b3, b4, b5, b6, b7, b8, b9⟩ := RX_sh D X1
    refine wp_isC b1 (wp_rV (HS _ _ X1) ?_)
    rintro v h2 ⟨e1, X2⟩
    refine ⟨e1, ?_⟩
    obtain ⟨b1, b2, b3, b4, b5, b6, b7, b8, b9⟩ := RX_sh D X2
    refine wp_isC b1 (wp_nnR b3 (wp_isC b5 (wp_nnR b6 (wp_isC b7 ?_))))
    have ek : nI (kq b len s) = kC (2, o) := eo
    rw [ek]
    refine wp_rV (rd_addK D X2 (Or.inr (Or.inr (Or.inl ⟨rfl, ho⟩)))) ?_
    rintro v h3 ⟨e1, X3⟩
    exact ⟨e1, wp_s ⟨rfl, X3⟩⟩
  by_cases q1 : kq b len s = 60
  · rw [if_pos (Or.inl q1), if_pos q1]
    exact wp_bt (by rw [q1]) (body 5 (by decide) (by rw [q1]; rfl))
  refine wp_bf (by rw [kq_eq (by decide)]; exact q1) ?_
  by_cases q2 : kq b len s = 62
  · rw [if_pos (Or.inr (Or.inl q2)), if_neg q1, if_pos q2]
    exact wp_bt (by rw [q2]) (body 6 (by decide) (by rw [q2]; rfl))
  refine wp_bf (by rw [kq_eq (by decide)]; exact q2) ?_
  by_cases q3 : kq b len s = 61
  · rw [if_pos (Or.inr (Or.inr q3)), if_neg q1, if_neg q2]
    exact wp_bt (by rw [q3]) (body 7 (by decide) (by rw [q3]; rfl))
  refine wp_bf (by rw [kq_eq (by decide)]; exact q3) ?_
  rw [if_neg (by rintro (z | z | z); exact q1 z; exact q2 z; exact q3 z)]
  exact wp_s ⟨rfl, X⟩
theorem rd_ands {x : Int32} {d : Nat} {N : Ps → Ps} (D : RDS h R p tp s1 v1) (HN : Does h R p tp s1 v1 f0 g0 b len m (fun hp => ev M_Reader_readNots d 0 [some (.ref R), some (.int x)] [] hp) N) : Does h R p tp s1 v1 f0 g0 b len m (fun hp => ev M_Reader_readAnds d 0 [some (.ref R), some (.int x), none] [] hp) (fun s => zO b len 109 8 N 1600 (N s)) := by
  have L : ∀ k i s hp, i + k = 1600 → RX h R p tp s1 v1 f0 g0 b len m s hp → wp (ev M_Reader_readAnds d 6 [some (.ref R), some (.int x), some (.int (nI i))] [] hp) (fun r h' => r = none ∧ RX h R p tp s1 v1 f0 g0 b len m (zO b len 109 8 N k s) h') := by
    intro k
    induction k with
    | zero =>
      intro i s hp hi X
      rw [r_Reader_readAnds_6]
      refine wp_bf (by rw [nI_ltI (by omega) (by decide)]; omega) (wp_s ⟨rfl, X⟩)
    | succ k ih =>
      intro i s hp hi X
      obtain ⟨a1, a2, a3, a4, a5, a6, a7, a8, a9⟩ := RX_sh D X
      rw [r_Reader_readAnds_6]
      refine wp_bt (by rw [nI_ltI (by omega) (by decide)]; omega) (wp_isC a1 (wp_nnR a2 (wp_isC a4 ?_)))
      rw [a8, zO]
      by_cases q1 : kq b len s = 109
      · rw [if_pos q1]
        refine wp_bt (by rw [q1]) (wp_isC a1 (wp_nnR a2 (wp_isC a4 (wp_rV (rd_step D X) ?_))))
        rintro v h1 ⟨e1, X1⟩
        refine ⟨e1, ?_⟩
        obtain ⟨b1, b2, b3, b4, b5, b6, b7, b8, b9⟩ := RX_sh D X1
        refine wp_isC b1 (wp_rV (HN _ _ X1) ?_)
        rintro v h2 ⟨e1, X2⟩
        refine ⟨e1, ?_⟩
        obtain ⟨b1, b2, b3, b4, b5, b6, b7, b8, b9⟩ := RX_sh D X2
        refine wp_isC b1 (wp_nnR b3 (wp_isC b5 (wp_nnR b6 (wp_isC b7 ?_))))
        refine wp_rV (rd_addK (k := (2, 8)) D X2 (Or.inr (Or.inr (Or.inl ⟨rfl, by decide⟩)))) ?_
        rintro v h3 ⟨e1, X3⟩
        refine ⟨e1, ?_⟩
        rw [nI_add]
        exact ih (i + 1) _ _ (by omega) X3
      · rw [if_neg q1]
        exact wp_bf (by rw [kq_eq (by decide)]; exact q1) (wp_s ⟨rfl, X⟩)
  intro s hp X
  obtain ⟨a1, a2, a3, a4, a5, a6, a7, a8, a9⟩ := RX_sh D X
  show wp (ev M_Reader_readAnds d 0 [some (.ref R), some (.int x), none] [] hp) _
  rw [r_Reader_readAnds_0]
  refine wp_isC a1 (wp_rV (HN _ _ X) ?_)
  rintro v h1 ⟨e1, X1⟩
  exact ⟨e1, L 1600 0 _ _ (by omega) X1⟩
theorem rd_ors {x : Int32} {d : Nat} {N : Ps → Ps} (D : RDS h R p tp s1 v1) (HN : Does h R p tp s1 v1 f0 g0 b len m (fun hp => ev M_Reader_readAnds d 0 [some (.ref R), some (.int x), none] [] hp) N) : Does h R p tp s1 v1 f0 g0 b len m (fun hp => ev M_Reader_readOrs d 0 [some (.ref R), some (.int x), none] [] hp) (fun s => zO b len 107 9 N 1600 (N s)) := by
  have L : ∀ k i s hp, i + k = 1600 → RX h R p tp s1 v1 f0 g0 b len m s hp → wp (ev M_Reader_readOrs d 6 [some (.ref R), some (.int x), some (.int (nI i))] [] hp) (fun r h' => r = none ∧ RX h R p tp s1 v1 f0 g0 b len m (zO b len 107 9 N k s) h') := by
    intro k
    induction k with
    | zero =>
      intro i s hp hi X
      rw [r_Reader_readOrs_6]
      refine wp_bf (by rw [nI_ltI (by omega) (by decide)]; omega) (wp_s ⟨rfl, X⟩)
    | succ k ih =>
      intro i s hp hi X
      obtain ⟨a1, a2, a3, a4, a5, a6, a7, a8, a9⟩ := RX_sh D X
      rw [r_Reader_readOrs_6]
      refine wp_bt (by rw [nI_ltI (by omega) (by decide)]; omega) (wp_isC a1 (wp_nnR a2 (wp_isC a4 ?_)))
      rw [a8, zO]
      by_cases q1 : kq b len s = 107
      · rw [if_pos q1]
        refine wp_bt (by rw [q1]) (wp_isC a1 (wp_nnR a2 (wp_isC a4 (wp_rV (rd_step D X) ?_))))
        rintro v h1 ⟨e1, X1⟩
        refine ⟨e1, ?_⟩
        obtain ⟨b1, b2, b3, b4, b5, b6, b7, b8, b9⟩ := RX_sh D X1
        refine wp_isC b1 (wp_rV (HN _ _ X1) ?_)
        rintro v h2 ⟨e1, X2⟩
        refine ⟨e1, ?_⟩
        obtain ⟨b1, b2, b3, b4, b5, b6, b7, b8, b9⟩ := RX_sh D X2
        refine wp_isC b1 (wp_nnR b3 (wp_isC b5 (wp_nnR b6 (wp_isC b7 ?_))))
        refine wp_rV (rd_addK (k := (2, 9)) D X2 (Or.inr (Or.inr (Or.inl ⟨rfl, by decide⟩)))) ?_
        rintro v h3 ⟨e1, X3⟩
        refine ⟨e1, ?_⟩
        rw [nI_add]
        exact ih (i + 1) _ _ (by omega) X3
      · rw [if_neg q1]
        exact wp_bf (by rw [kq_eq (by decide)]; exact q1) (wp_s ⟨rfl, X⟩)
  intro s hp X
  obtain ⟨a1, a2, a3, a4, a5, a6, a7, a8, a9⟩ := RX_sh D X
  show wp (ev M_Reader_readOrs d 0 [some (.ref R), some (.int x), none] [] hp) _
  rw [r_Reader_readOrs_0]
  refine wp_isC a1 (wp_rV (HN _ _ X) ?_)
  rintro v h1 ⟨e1, X1⟩
  exact ⟨e1, L 1600 0 _ _ (by omega) X1⟩
end
