/-! The reader: what is read so far, step by step, as the class does it. -/
abbrev Pn : Type := Nat × Nat × Nat × Nat × Nat × Nat × List Kp × List Nat × (Nat → Nat) × (Nat → Rw)
/-- levels, relations, told, drift, draw, units, formula, parts, names, grids -/
def vLv (q : Pn) : Nat := q.1
def vNr (q : Pn) : Nat := q.2.1
def vTd (q : Pn) : Nat := q.2.2.1
def vDr (q : Pn) : Nat := q.2.2.2.1
def vDw (q : Pn) : Nat := q.2.2.2.2.1
def vUn (q : Pn) : Nat := q.2.2.2.2.2.1
def vKs (q : Pn) : List Kp := q.2.2.2.2.2.2.1
def vXs (q : Pn) : List Nat := q.2.2.2.2.2.2.2.1
def vNm (q : Pn) : Nat → Nat := q.2.2.2.2.2.2.2.2.1
def vGr (q : Pn) : Nat → Rw := q.2.2.2.2.2.2.2.2.2
def uLv (q : Pn) (x : Nat) : Pn := (x, vNr q, vTd q, vDr q, vDw q, vUn q, vKs q, vXs q, vNm q, vGr q)
def uNr (q : Pn) (x : Nat) : Pn := (vLv q, x, vTd q, vDr q, vDw q, vUn q, vKs q, vXs q, vNm q, vGr q)
def uTd (q : Pn) (x : Nat) : Pn := (vLv q, vNr q, x, vDr q, vDw q, vUn q, vKs q, vXs q, vNm q, vGr q)
def uDr (q : Pn) (x : Nat) : Pn := (vLv q, vNr q, vTd q, x, vDw q, vUn q, vKs q, vXs q, vNm q, vGr q)
def uDw (q : Pn) (x : Nat) : Pn := (vLv q, vNr q, vTd q, vDr q, x, vUn q, vKs q, vXs q, vNm q, vGr q)
def uUn (q : Pn) (x : Nat) : Pn := (vLv q, vNr q, vTd q, vDr q, vDw q, x, vKs q, vXs q, vNm q, vGr q)
def uKs (q : Pn) (x : List Kp) : Pn := (vLv q, vNr q, vTd q, vDr q, vDw q, vUn q, x, vXs q, vNm q, vGr q)
def uXs (q : Pn) (x : List Nat) : Pn := (vLv q, vNr q, vTd q, vDr q, vDw q, vUn q, vKs q, x, vNm q, vGr q)
def uNm (q : Pn) (x : Nat → Nat) : Pn := (vLv q, vNr q, vTd q, vDr q, vDw q, vUn q, vKs q, vXs q, x, vGr q)
def uGr (q : Pn) (x : Nat → Rw) : Pn := (vLv q, vNr q, vTd q, vDr q, vDw q, vUn q, vKs q, vXs q, vNm q, x)
abbrev Ps : Type := Nat × Nat × Nat × Nat × Nat × Pn
/-- where the token at hand was begun, the fault, its place, lines told, leaves, the plan -/
def yI (s : Ps) : Nat := s.1
def yF (s : Ps) : Nat := s.2.1
def yP (s : Ps) : Nat := s.2.2.1
def yL (s : Ps) : Nat := s.2.2.2.1
def yV (s : Ps) : Nat := s.2.2.2.2.1
def yN (s : Ps) : Pn := s.2.2.2.2.2
def zI (s : Ps) (x : Nat) : Ps := (x, yF s, yP s, yL s, yV s, yN s)
def zL (s : Ps) (x : Nat) : Ps := (yI s, yF s, yP s, x, yV s, yN s)
def zV (s : Ps) (x : Nat) : Ps := (yI s, yF s, yP s, yL s, x, yN s)
def zN (s : Ps) (x : Pn) : Ps := (yI s, yF s, yP s, yL s, yV s, x)
def kq (b : Nat → Nat) (len : Nat) (s : Ps) : Nat := if yF s = 0 then kd b len (yI s) else 1
def zS (b : Nat → Nat) (len : Nat) (s : Ps) : Ps := if yF s = 0 then zI s (nx b len (yI s)) else s
def zF (b : Nat → Nat) (len c : Nat) (s : Ps) : Ps := if yF s = 0 then (yI s, if kd b len (yI s) = 1 then 1 else c, pl b len (yI s), yL s, yV s, yN s) else s
def zE (b : Nat → Nat) (len k : Nat) (s : Ps) : Ps := if kq b len s = k then zS b len s else zF b len 2 s
def zX (c : Nat) (s : Ps) : Ps := if (vXs (yN s)).length < 256 then zN s (uXs (yN s) (vXs (yN s) ++ [c])) else s
def zK (k : Kp) (s : Ps) : Ps := if (vKs (yN s)).length < 320 then zN s (uKs (yN s) (vKs (yN s) ++ [k])) else s
def zM (b : Nat → Nat) (len lo hi : Nat) (s : Ps) : Nat × Ps := if kq b len s = 3 then (if nv b len (yI s) < lo ∨ hi < nv b len (yI s) then (lo, zF b len 4 s) else (nv b len (yI s), zS b len s)) else (lo, zF b len 2 s)
/-! cells -/
def PNF (f : Nat → Nat → Int32) (g : Nat → Nat → Int64) (p m fl : Nat) (q : Pn) : Prop := f p 0 = nI (vLv q) ∧ f p 1 = nI (vNr q) ∧ f p 2 = nI (vTd q) ∧ f p 3 = nI (vDr q) ∧ f p 4 = nI (vDw q) ∧ f p 5 = nI (vUn q) ∧ f p 10 = nI (vXs q).length ∧ LF f (p + 6) (vXs q) ∧ KF f (p + 1) (vKs q) ∧ (∀ k, k < m → GF f (p + 7 + 2 * k) (2 ^ vLv q) (vGr q k)) ∧ (fl = 0 → ∀ k, k < vNr q → g (p + 4) k = lN (vNm q k))
def PNB (m : Nat) (q : Pn) : Prop := 1 ≤ vLv q ∧ vLv q ≤ 4 ∧ vNr q ≤ m ∧ m ≤ 5 ∧ vTd q < 32 ∧ vDr q ≤ 100 ∧ vDw q ≤ 999 ∧ vUn q ≤ 30 ∧ ((vKs q).length ≤ 320 ∧ ∀ k, k ∈ vKs q → kpo k) ∧ ((vXs q).length ≤ 256 ∧ ∀ c, c ∈ vXs q → c < 40) ∧ ∀ k, k < m → GW (2 ^ vLv q) (vGr q k)
def TFF (f : Nat → Nat → Int32) (g : Nat → Nat → Int64) (R : Nat) (b : Nat → Nat) (len : Nat) (s : Ps) : Prop := f R 0 = nI (yF s) ∧ f R 1 = (if yF s = 0 then mI 1 else nI (yP s)) ∧ f R 4 = nI (yL s) ∧ f R 5 = nI (yV s) ∧ (yF s = 0 → f (R + 1) 8 = nI 0 ∧ TKF f g (R + 1) b len (yI s)) ∧ (yF s ≠ 0 → f (R + 1) 8 = nI 1 ∧ f (R + 1) 0 = nI 1)
def TFB (len : Nat) (s : Ps) : Prop := yI s ≤ len ∧ yF s ≤ 5 ∧ yP s ≤ 1600 ∧ yL s < 128 ∧ yV s ≤ 30
/-- the reader's cells -/
def RDS (h : MH) (R p tp s1 v1 : Nat) : Prop := hC h R = 6 ∧ hR h R 2 = some (R + 1) ∧ hR h R 3 = some p ∧ SCS h (R + 1) tp s1 v1 ∧ PS h p ∧ (p + 17 ≤ R ∨ R + 3 ≤ p) ∧ (tp < p ∨ p + 17 ≤ tp) ∧ (tp < R ∨ R + 3 ≤ tp) ∧ (s1 < p ∧ s1 < R) ∧ (v1 < p ∧ v1 < R)
def FRD (R p : Nat) {α : Type} (f f' : Nat → Nat → α) : Prop := ∀ a, a ≠ R → a ≠ R + 1 → a < p ∨ p + 17 ≤ a → f' a = f a
theorem FRD.tr {α : Type} {R p : Nat} {f g k : Nat → Nat → α} (a : FRD R p f g) (b : FRD R p g k) : FRD R p f k := fun x h1 h2 h3 => (b x h1 h2 h3).trans (a x h1 h2 h3)
theorem FRD.rf {α : Type} {R p : Nat} {f : Nat → Nat → α} : FRD R p f f := fun _ _ _ _ => rfl
/-- the heap while the reader works -/
def RX (h : MH) (R p tp s1 v1 : Nat) (f0 : Nat → Nat → Int32) (g0 : Nat → Nat → Int64) (b : Nat → Nat) (len m : Nat) (s : Ps) (hp : MH) : Prop := ∃ f g, hp = wI (wL h g) f ∧ SCF f g (R + 1) tp s1 v1 b len ∧ TFF f g R b len s ∧ PNF f g p m (yF s) (yN s) ∧ TFB len s ∧ PNB m (yN s) ∧ FRD R p f0 f ∧ FRD R p g0 g ∧ g (R + 2) = g0 (R + 2)
theorem RX_sh {h : MH} {R p tp s1 v1 : Nat} {f0 : Nat → Nat → Int32} {g0 : Nat → Nat → Int64} {b : Nat → Nat} {len m : Nat} {s : Ps} {hp : MH} (D : RDS h R p tp s1 v1) (X : RX h R p tp s1 v1 f0 g0 b len m s hp) :
    hC hp R = 6 ∧ hR hp R 2 = some (R + 1) ∧ hR hp R 3 = some p ∧ hC hp (R + 1) = 8 ∧ hC hp p = 5 ∧ hR hp p 6 = some (p + 1) ∧ hC hp (p + 1) = 2 ∧ hI hp (R + 1) 0 = nI (kq b len s) ∧ hI hp R 0 = nI (yF s) := by
  obtain ⟨f, g, rfl, x1, x2, x3, x4, x5, x6, x7⟩ := X
  obtain ⟨d1, d2, d3, d4, d5, -⟩ := D
  refine ⟨d1, d2, d3, d4.1, d5.1, d5.2.1, d5.2.2.1, ?_, x2.1⟩
  show f (R + 1) 0 = _
  unfold kq
  by_cases q : yF s = 0
  · rw [if_pos q]; exact (x2.2.2.2.2.1 q).2.1
  · rw [if_neg q]; exact (x2.2.2.2.2.2 q).2
theorem kq_lt {b : Nat → Nat} {len : Nat} {s : Ps} : kq b len s < 200 := by
  unfold kq; split
  · exact kd_lt
  · decide
section
variable {h : MH} {R p tp s1 v1 : Nat} {f0 : Nat → Nat → Int32} {g0 : Nat → Nat → Int64} {b : Nat → Nat} {len m : Nat} {s : Ps} {hp : MH}
theorem rd_step (D : RDS h R p tp s1 v1) (X : RX h R p tp s1 v1 f0 g0 b len m s hp) : wp (ev M_Scanner_step 0 0 [some (.ref (R + 1))] [] hp) (fun r h' => r = none ∧ RX h R p tp s1 v1 f0 g0 b len m (zS b len s) h') := by
  obtain ⟨f, g, rfl, x1, x2, x3, x4, x5, x6, x7, x8⟩ := X
  obtain ⟨d1, d2, d3, d4, d5, d6, d7, d8, d9, d10⟩ := D
  unfold zS
  by_cases q : yF s = 0
  · rw [if_pos q]
    obtain ⟨e1, e2⟩ := x2.2.2.2.2.1 q
    refine wp_w (sc_step d4 x1 (nx_le x4.1) e2.2.2.1 e1) ?_
    rintro r h' ⟨f', g', r1, r2, r3, r4, r5⟩
    refine ⟨r1, f', g', r2, ?_, ⟨?_, ?_, ?_, ?_, fun _ => ⟨by rw [r4.2.2]; exact e1, r3⟩, fun z => absurd q z⟩, ?_, ⟨nx_le x4.1, x4.2⟩, x5, ?_, ?_, ?_⟩
    · obtain ⟨u1, u2, u3, u4, u5, u6, u7⟩ := r4.F d4 x1
      exact ⟨u1, u2, u3, u4, u5, u6, fun j hj => by rw [r5 _ (by omega)]; exact u7 j hj⟩
    · rw [r4.1 _ (by omega)]; exact x2.1
    · rw [r4.1 _ (by omega)]; exact x2.2.1
    · rw [r4.1 _ (by omega)]; exact x2.2.2.1
    · rw [r4.1 _ (by omega)]; exact x2.2.2.2.1
    · obtain ⟨y0, y1, y2, y3, y4, y5, y6, y7, y8, y9, y10⟩ := x3
      refine ⟨?_, ?_, ?_, ?_, ?_, ?_, ?_, ?_, ⟨?_, ?_⟩, ?_, ?_⟩
      · rw [r4.1 _ (by omega)]; exact y0
      · rw [r4.1 _ (by omega)]; exact y1
      · rw [r4.1 _ (by omega)]; exact y2
      · rw [r4.1 _ (by omega)]; exact y3
      · rw [r4.1 _ (by omega)]; exact y4
      · rw [r4.1 _ (by omega)]; exact y5
      · rw [r4.1 _ (by omega)]; exact y6
      · intro i c hc; rw [r4.1 _ (by omega)]; exact y7 i c hc
      · rw [r4.1 _ (by omega)]; exact y8.1
      · intro i c hc; rw [r4.1 _ (by omega)]; exact y8.2 i c hc
      · intro k hk
        have h5 := x5.2.2.2.1
        exact ⟨by rw [r4.1 _ (by omega)]; exact (y9 k hk).1, fun r hr => by rw [r4.1 _ (by omega)]; exact (y9 k hk).2 r hr⟩
      · intro z k hk; rw [r5 _ (by omega)]; exact y10 z k hk
    · exact fun a h1 h2 h3 => (r4.1 a h2).trans (x6 a h1 h2 h3)
    · exact fun a h1 h2 h3 => (r5 a h2).trans (x7 a h1 h2 h3)
    · rw [r5 _ (by omega)]; exact x8
  · rw [if_neg q]
    obtain ⟨e1, e2⟩ := x2.2.2.2.2.2 q
    rw [r_Scanner_step_0]
    refine wp_isC d4.1 (wp_bf (by rw [wI_I, e1]; decide) ?_)
    exact wp_s ⟨rfl, f, g, rfl, x1, x2, x3, x4, x5, x6, x7, x8⟩
theorem rd_fail {c : Nat} (D : RDS h R p tp s1 v1) (X : RX h R p tp s1 v1 f0 g0 b len m s hp) (hc : c ≤ 5) (hc0 : 0 < c) : wp (ev M_Reader_fail 0 0 [some (.ref R), some (.int (nI c))] [] hp) (fun r h' => r = none ∧ RX h R p tp s1 v1 f0 g0 b len m (zF b len c s) h') := by
  obtain ⟨a1, a2, a3, a4, a5, a6, a7, a8, a9⟩ := RX_sh D X
  unfold zF
  rw [r_Reader_fail_0]
  by_cases q : yF s = 0
  · rw [if_pos q]
    obtain ⟨f, g, rfl, x1, x2, x3, x4, x5, x6, x7, x8⟩ := X
    obtain ⟨d1, d2, d3, d4, d5, d6, d7, d8, d9, d10⟩ := D
    obtain ⟨e1, e2⟩ := x2.2.2.2.2.1 q
    have hk : kq b len s = kd b len (yI s) := if_pos q
    rw [hk] at a8
    have hkl := kd_lt (b := b) (len := len) (i := yI s)
    have hpl := pl_le (b := b) x4.1
    have hl := x1.2.1
    have fin : ∀ y, y = (if kd b len (yI s) = 1 then 1 else c) → wp (ev M_Reader_fail 0 13 [some (.ref R), none] [(.int (nI y)), (.ref R)] (wI (wL h g) f)) (fun r h' => r = none ∧ RX h R p tp s1 v1 f0 g0 b len m (yI s, if kd b len (yI s) = 1 then 1 else c, pl b len (yI s), yL s, yV s, yN s) h') := by
      intro y hy
      have hy0 : y ≠ 0 := by rw [hy]; split <;> omega
      have hy5 : y ≤ 5 := by rw [hy]; split <;> omega
      rw [r_Reader_fail_13]
      refine wp_isC d1 (wp_isC d1 (wp_nnR d2 (wp_isC d4.1 (wp_isC d1 (wp_isC d1 (wp_nnR d2 (wp_isC d4.1 ?_)))))))
      refine wp_rVe (h := wI (wL h g) (up2 (up2 (up2 (up2 f R 0 (nI y)) R 1 (nI (pl b len (yI s)))) (R + 1) 8 (nI 1)) (R + 1) 0 (nI 1))) ?_ ?_
      · rw [r_Scanner_halt_0]
        apply wp_e
        refine wp_isC d4.1 (wp_isZ (by decide) (wp_isC d4.1 (wp_s ⟨rfl, ?_⟩)))
        rw [wI_s, wI_I, up2_a (by omega), e2.2.1]
        rfl
      · refine wp_s ⟨rfl, _, g, rfl, ?_, ⟨?_, ?_, ?_, ?_, ?_, ?_⟩, ?_, ⟨x4.1, ?_, ?_, x4.2.2.2.1, x4.2.2.2.2⟩, x5, ?_, x7, x8⟩
        · obtain ⟨u1, u2, u3, u4, u5, u6, u7⟩ := x1
          refine ⟨?_, u2, u3, fun i hi => ?_, ?_, fun j hj => ?_, u7⟩
          · simp (disch := omega) only [wI_I, wI_s, nI_add, pk_mul, nI_ltI, nI_leI, nI_eq, nI_clamp, nm_or, nm_and, nm_xor, nm_nd, nm_one, nm_shr, nm_b2, Bool.false_eq_true, Bool.true_eq_false, not_false_eq_true, not_true_eq_false, reduceCtorEq, up2_a, up2_k, up2_s, gw_o]; exact u1
          · simp (disch := omega) only [wI_I, wI_s, nI_add, pk_mul, nI_ltI, nI_leI, nI_eq, nI_clamp, nm_or, nm_and, nm_xor, nm_nd, nm_one, nm_shr, nm_b2, Bool.false_eq_true, Bool.true_eq_false, not_false_eq_true, not_true_eq_false, reduceCtorEq, up2_a, up2_k, up2_s, gw_o]; exact u4 i hi
          · simp (disch := omega) only [wI_I, wI_s, nI_add, pk_mul, nI_ltI, nI_leI, nI_eq, nI_clamp, nm_or, nm_and, nm_xor, nm_nd, nm_one, nm_shr, nm_b2, Bool.false_eq_true, Bool.true_eq_false, not_false_eq_true, not_true_eq_false, reduceCtorEq, up2_a, up2_k, up2_s, gw_o]; exact u5
          · simp (disch := omega) only [wI_I, wI_s, nI_add, pk_mul, nI_ltI, nI_leI, nI_eq, nI_clamp, nm_or, nm_and, nm_xor, nm_nd, nm_one, nm_shr, nm_b2, Bool.false_eq_true, Bool.true_eq_false, not_false_eq_true, not_true_eq_false, reduceCtorEq, up2_a, up2_k, up2_s, gw_o]; exact u6 j hj
        · show _ = nI (if kd b len (yI s) = 1 then 1 else c)
          rw [← hy]
          simp (disch := omega) only [wI_I, wI_s, nI_add, pk_mul, nI_ltI, nI_leI, nI_eq, nI_clamp, nm_or, nm_and, nm_xor, nm_nd, nm_one, nm_shr, nm_b2, Bool.false_eq_true, Bool.true_eq_false, not_false_eq_true, not_true_eq_false, reduceCtorEq, up2_a, up2_k, up2_s, gw_o]
        · show _ = if (if kd b len (yI s) = 1 then 1 else c) = 0 then mI 1 else nI (pl b len (yI s))
          rw [← hy, if_neg hy0]
          simp (disch := omega) only [wI_I, wI_s, nI_add, pk_mul, nI_ltI, nI_leI, nI_eq, nI_clamp, nm_or, nm_and, nm_xor, nm_nd, nm_one, nm_shr, nm_b2, Bool.false_eq_true, Bool.true_eq_false, not_false_eq_true, not_true_eq_false, reduceCtorEq, up2_a, up2_k, up2_s, gw_o]
        · simp (disch := omega) only [wI_I, wI_s, nI_add, pk_mul, nI_ltI, nI_leI, nI_eq, nI_clamp, nm_or, nm_and, nm_xor, nm_nd, nm_one, nm_shr, nm_b2, Bool.false_eq_true, Bool.true_eq_false, not_false_eq_true, not_true_eq_false, reduceCtorEq, up2_a, up2_k, up2_s, gw_o]; exact x2.2.2.1
        · simp (disch := omega) only [wI_I, wI_s, nI_add, pk_mul, nI_ltI, nI_leI, nI_eq, nI_clamp, nm_or, nm_and, nm_xor, nm_nd, nm_one, nm_shr, nm_b2, Bool.false_eq_true, Bool.true_eq_false, not_false_eq_true, not_true_eq_false, reduceCtorEq, up2_a, up2_k, up2_s, gw_o]; exact x2.2.2.2.1
        · intro z; exfalso
          have z : (if kd b len (yI s) = 1 then 1 else c) = 0 := z
          rw [← hy] at z; exact hy0 z
        · intro z
          constructor
          · simp (disch := omega) only [wI_I, wI_s, nI_add, pk_mul, nI_ltI, nI_leI, nI_eq, nI_clamp, nm_or, nm_and, nm_xor, nm_nd, nm_one, nm_shr, nm_b2, Bool.false_eq_true, Bool.true_eq_false, not_false_eq_true, not_true_eq_false, reduceCtorEq, up2_a, up2_k, up2_s, gw_o]
          · simp (disch := omega) only [wI_I, wI_s, nI_add, pk_mul, nI_ltI, nI_leI, nI_eq, nI_clamp, nm_or, nm_and, nm_xor, nm_nd, nm_one, nm_shr, nm_b2, Bool.false_eq_true, Bool.true_eq_false, not_false_eq_true, not_true_eq_false, reduceCtorEq, up2_a, up2_k, up2_s, gw_o]
        · obtain ⟨y0, y1, y2, y3, y4, y5, y6, y7, y8, y9, y10⟩ := x3
          refine ⟨?_, ?_, ?_, ?_, ?_, ?_, ?_, ?_, ⟨?_, ?_⟩, ?_, ?_⟩
          · simp (disch := omega) only [wI_I, wI_s, nI_add, pk_mul, nI_ltI, nI_leI, nI_eq, nI_clamp, nm_or, nm_and, nm_xor, nm_nd, nm_one, nm_shr, nm_b2, Bool.false_eq_true, Bool.true_eq_false, not_false_eq_true, not_true_eq_false, reduceCtorEq, up2_a, up2_k, up2_s, gw_o]; exact y0
          · simp (disch := omega) only [wI_I, wI_s, nI_add, pk_mul, nI_ltI, nI_leI, nI_eq, nI_clamp, nm_or, nm_and, nm_xor, nm_nd, nm_one, nm_shr, nm_b2, Bool.false_eq_true, Bool.true_eq_false, not_false_eq_true, not_true_eq_false, reduceCtorEq, up2_a, up2_k, up2_s, gw_o]; exact y1
          · simp (disch := omega) only [wI_I, wI_s, nI_add, pk_mul, nI_ltI, nI_leI, nI_eq, nI_clamp, nm_or, nm_and, nm_xor, nm_nd, nm_one, nm_shr, nm_b2, Bool.false_eq_true, Bool.true_eq_false, not_false_eq_true, not_true_eq_false, reduceCtorEq, up2_a, up2_k, up2_s, gw_o]; exact y2
          · simp (disch := omega) only [wI_I, wI_s, nI_add, pk_mul, nI_ltI, nI_leI, nI_eq, nI_clamp, nm_or, nm_and, nm_xor, nm_nd, nm_one, nm_shr, nm_b2, Bool.false_eq_true, Bool.true_eq_false, not_false_eq_true, not_true_eq_false, reduceCtorEq, up2_a, up2_k, up2_s, gw_o]; exact y3
          · simp (disch := omega) only [wI_I, wI_s, nI_add, pk_mul, nI_ltI, nI_leI, nI_eq, nI_clamp, nm_or, nm_and, nm_xor, nm_nd, nm_one, nm_shr, nm_b2, Bool.false_eq_true, Bool.true_eq_false, not_false_eq_true, not_true_eq_false, reduceCtorEq, up2_a, up2_k, up2_s, gw_o]; exact y4
          · simp (disch := omega) only [wI_I, wI_s, nI_add, pk_mul, nI_ltI, nI_leI, nI_eq, nI_clamp, nm_or, nm_and, nm_xor, nm_nd, nm_one, nm_shr, nm_b2, Bool.false_eq_true, Bool.true_eq_false, not_false_eq_true, not_true_eq_false, reduceCtorEq, up2_a, up2_k, up2_s, gw_o]; exact y5
          · simp (disch := omega) only [wI_I, wI_s, nI_add, pk_mul, nI_ltI, nI_leI, nI_eq, nI_clamp, nm_or, nm_and, nm_xor, nm_nd, nm_one, nm_shr, nm_b2, Bool.false_eq_true, Bool.true_eq_false, not_false_eq_true, not_true_eq_false, reduceCtorEq, up2_a, up2_k, up2_s, gw_o]; exact y6
          · intro i c hc; simp (disch := omega) only [wI_I, wI_s, nI_add, pk_mul, nI_ltI, nI_leI, nI_eq, nI_clamp, nm_or, nm_and, nm_xor, nm_nd, nm_one, nm_shr, nm_b2, Bool.false_eq_true, Bool.true_eq_false, not_false_eq_true, not_true_eq_false, reduceCtorEq, up2_a, up2_k, up2_s, gw_o]; exact y7 i c hc
          · simp (disch := omega) only [wI_I, wI_s, nI_add, pk_mul, nI_ltI, nI_leI, nI_eq, nI_clamp, nm_or, nm_and, nm_xor, nm_nd, nm_one, nm_shr, nm_b2, Bool.false_eq_true, Bool.true_eq_false, not_false_eq_true, not_true_eq_false, reduceCtorEq, up2_a, up2_k, up2_s, gw_o]; exact y8.1
          · intro i c hc; simp (disch := omega) only [wI_I, wI_s, nI_add, pk_mul, nI_ltI, nI_leI, nI_eq, nI_clamp, nm_or, nm_and, nm_xor, nm_nd, nm_one, nm_shr, nm_b2, Bool.false_eq_true, Bool.true_eq_false, not_false_eq_true, not_true_eq_false, reduceCtorEq, up2_a, up2_k, up2_s, gw_o]; exact y8.2 i c hc
          · intro k hk
            have h5 := x5.2.2.2.1
            (repeat (refine GF_up2 (by omega) (by omega) ?_)); exact y9 k hk
          · intro z
            have z : (if kd b len (yI s) = 1 then 1 else c) = 0 := z
            rw [← hy] at z; exact absurd z hy0
        · show (if kd b len (yI s) = 1 then 1 else c) ≤ 5
          rw [← hy]; exact hy5
        · show pl b len (yI s) ≤ 1600
          omega
        · intro a h1 h2 h3
          simp (disch := omega) only [wI_I, wI_s, nI_add, pk_mul, nI_ltI, nI_leI, nI_eq, nI_clamp, nm_or, nm_and, nm_xor, nm_nd, nm_one, nm_shr, nm_b2, Bool.false_eq_true, Bool.true_eq_false, not_false_eq_true, not_true_eq_false, reduceCtorEq, up2_a, up2_k, up2_s, gw_o]; exact x6 a h1 h2 h3
    refine wp_isC a1 (wp_bt (by rw [a9, q]) (wp_isC a1 (wp_nnR a2 (wp_isC a4 ?_))))
    rw [a8]
    by_cases z : kd b len (yI s) = 1
    · rw [if_pos z] at fin ⊢
      exact wp_bt (by rw [z]) (fin 1 rfl)
    · rw [if_neg z] at fin ⊢
      exact wp_bf (by rw [nI_eq (by omega) (by decide)]; exact z) (fin c rfl)
  · rw [if_neg q]
    have h5 : yF s ≤ 5 := by obtain ⟨f, g, -, -, -, -, x4, -⟩ := X; exact x4.2.1
    refine wp_isC a1 (wp_bf (by rw [a9, nI_eq (by omega) (by decide)]; exact q) ?_)
    exact wp_s ⟨rfl, X⟩
theorem rd_expect {k : Nat} (D : RDS h R p tp s1 v1) (X : RX h R p tp s1 v1 f0 g0 b len m s hp) (hk : k < 200) : wp (ev M_Reader_expect 0 0 [some (.ref R), some (.int (nI k))] [] hp) (fun r h' => r = none ∧ RX h R p tp s1 v1 f0 g0 b len m (zE b len k s) h') := by
  obtain ⟨a1, a2, a3, a4, a5, a6, a7, a8, a9⟩ := RX_sh D X
  have hk2 := kq_lt (b := b) (len := len) (s := s)
  unfold zE
  rw [r_Reader_expect_0]
  refine wp_isC a1 (wp_nnR a2 (wp_isC a4 ?_))
  rw [a8]
  by_cases q : kq b len s = k
  · rw [if_pos q]
    refine wp_bt (by rw [q]) (wp_isC a1 (wp_nnR a2 (wp_isC a4 (wp_rV (rd_step D X) ?_))))
    rintro v h' ⟨e1, e2⟩
    exact ⟨e1, wp_s ⟨rfl, e2⟩⟩
  · rw [if_neg q]
    refine wp_bf (by rw [nI_eq (by omega) (by omega)]; exact q) (wp_isC a1 (wp_rV (rd_fail D X (by decide) (by decide)) ?_))
    rintro v h' ⟨e1, e2⟩
    exact ⟨e1, wp_s ⟨rfl, e2⟩⟩
theorem rd_num {lo hi : Nat} (D : RDS h R p tp s1 v1) (X : RX h R p tp s1 v1 f0 g0 b len m s hp) (hl : lo ≤ 9999) (hh : hi ≤ 9999) : wp (ev M_Reader_readNumber 0 0 [some (.ref R), some (.int (nI lo)), some (.int (nI hi)), none] [] hp) (fun r h' => r = some (.int (nI (zM b len lo hi s).1)) ∧ RX h R p tp s1 v1 f0 g0 b len m (zM b len lo hi s).2 h') := by
  obtain ⟨a1, a2, a3, a4, a5, a6, a7, a8, a9⟩ := RX_sh D X
  have hk2 := kq_lt (b := b) (len := len) (s := s)
  unfold zM
  rw [r_Reader_readNumber_0]
  simp only [r_Reader_readNumber_20]
  refine wp_isC a1 (wp_nnR a2 (wp_isC a4 (wp_isC a1 (wp_nnR a2 (wp_isC a4 ?_)))))
  rw [a8]
  by_cases q : kq b len s = 3
  · rw [if_pos q]
    refine wp_bt (by rw [q]) ?_
    have hz : yF s = 0 ∧ kd b len (yI s) = 3 := by
      unfold kq at q
      by_cases z : yF s = 0
      · rw [if_pos z] at q; exact ⟨z, q⟩
      · rw [if_neg z] at q; cases q
    have hn : hI hp (R + 1) 2 = nI (nv b len (yI s)) ∧ nv b len (yI s) < 2 ^ 31 := by
      obtain ⟨f, g, rfl, x1, x2, -⟩ := X
      have := (x2.2.2.2.2.1 hz.1).2.2.2.2.1 hz.2
      refine ⟨this, ?_⟩
      -- a number has at most four digits
      have hk := hz.2
      unfold kd at hk
      by_cases w1 : len ≤ pl b len (yI s)
      · rw [if_pos w1] at hk; cases hk
      rw [if_neg w1] at hk
      by_cases w2 : isLe (bt b len (pl b len (yI s))) = true
      · rw [if_pos w2] at hk
        split at hk
        · cases hk
        · rcases kwf_r (w := wv b len (yI s)) 18 with w | w <;> omega
      rw [if_neg w2] at hk
      by_cases w3 : isDi (bt b len (pl b len (yI s))) = true
      · rw [if_pos w3] at hk
        by_cases w4 : 4 < nx b len (yI s) - pl b len (yI s) ∨ isLe (bt b len (nx b len (yI s))) = true
        · rw [if_pos w4] at hk; cases hk
        · have en : nx b len (yI s) = rn (pDi b len) 1600 (pl b len (yI s)) := by unfold nx; rw [if_neg w1, if_neg w2, if_pos w3]
          have hlt := nvv_lt (b := b) (i := pl b len (yI s)) (nx b len (yI s) - pl b len (yI s)) (fun j hj => by
            have h1 := rn_in (p := pDi b len) 1600 (pl b len (yI s)) (pl b len (yI s) + j) (by omega) (by rw [← en]; omega)
            unfold pDi bt at h1
            split at h1
            · exact h1
            · cases h1)
          have h10 : 10 ^ (nx b len (yI s) - pl b len (yI s)) ≤ 10 ^ 4 := Nat.pow_le_pow_right (by decide) (by omega)
          have : nv b len (yI s) < 10 ^ 4 := Nat.lt_of_lt_of_le hlt h10
          omega
      · rw [if_neg w3] at hk
        split at hk
        · rename_i w; have := isSi_r w; omega
        · cases hk
    rw [hn.1]
    by_cases z : nv b len (yI s) < lo ∨ hi < nv b len (yI s)
    · rw [if_pos z]
      by_cases z1 : nv b len (yI s) < lo
      · refine wp_bt (by rw [nI_ltI hn.2 (by omega)]; exact z1) (wp_isC a1 (wp_rV (rd_fail D X (by decide) (by decide)) ?_))
        rintro v h' ⟨e1, e2⟩
        exact ⟨e1, wp_s ⟨rfl, e2⟩⟩
      · refine wp_bf (by rw [nI_ltI hn.2 (by omega)]; exact z1) (wp_bt (by rw [nI_ltI (by omega) hn.2]; omega) (wp_isC a1 (wp_rV (rd_fail D X (by decide) (by decide)) ?_)))
        rintro v h' ⟨e1, e2⟩
        exact ⟨e1, wp_s ⟨rfl, e2⟩⟩
    · rw [if_neg z]
      refine wp_bf (by rw [nI_ltI hn.2 (by omega)]; omega) (wp_bf (by rw [nI_ltI (by omega) hn.2]; omega) (wp_isC a1 (wp_nnR a2 (wp_isC a4 (wp_rV (rd_step D X) ?_)))))
      rintro v h' ⟨e1, e2⟩
      exact ⟨e1, wp_s ⟨rfl, e2⟩⟩
  · rw [if_neg q]
    refine wp_bf (by rw [nI_eq (by omega) (by omega)]; exact q) (wp_isC a1 (wp_rV (rd_fail D X (by decide) (by decide)) ?_))
    rintro v h' ⟨e1, e2⟩
    exact ⟨e1, wp_s ⟨rfl, e2⟩⟩
end
