/-! The reader: a fault stays; names, pairs, relations, lines. -/
theorem wp_rR {r : MRes} {k : Nat → MH → MRes} {Q P : Option Value → MH → Prop} (e : wp r P) (H : ∀ v h, P v h → ∃ x, v = some (.ref x) ∧ wp (k x h) Q) : wp (rR r k) Q := by
  obtain ⟨a, b, e1, e2⟩ := e
  obtain ⟨x, e3, e4⟩ := H _ _ e2
  subst e3; subst e1; exact e4
/-- with a fault nothing moves the fault -/
def Stk (U : Ps → Ps) : Prop := ∀ s, yF s ≠ 0 → yF (U s) = yF s ∧ yP (U s) = yP s
theorem Stk.c {U V : Ps → Ps} (u : Stk U) (v : Stk V) : Stk (fun s => V (U s)) := fun s h => by
  have h1 := u s h
  have h2 := v (U s) (by rw [h1.1]; exact h)
  exact ⟨h2.1.trans h1.1, h2.2.trans h1.2⟩
theorem st_S {b : Nat → Nat} {len : Nat} : Stk (zS b len) := fun s h => by
  show yF (if yF s = 0 then _ else s) = _ ∧ _
  rw [show zS b len s = s from if_neg h, if_neg h]; exact ⟨rfl, rfl⟩
theorem st_F {b : Nat → Nat} {len c : Nat} : Stk (zF b len c) := fun s h => by
  rw [show zF b len c s = s from if_neg h]; exact ⟨rfl, rfl⟩
theorem st_if {c : Ps → Prop} [∀ s, Decidable (c s)] {U V : Ps → Ps} (u : Stk U) (v : Stk V) : Stk (fun s => if c s then U s else V s) := fun s h => by
  by_cases q : c s
  · simp only [if_pos q]; exact u s h
  · simp only [if_neg q]; exact v s h
theorem st_id : Stk (fun s => s) := fun _ _ => ⟨rfl, rfl⟩
theorem st_E {b : Nat → Nat} {len c : Nat} : Stk (zE b len c) := st_if st_S st_F
theorem st_X {c : Nat} : Stk (zX c) := st_if (fun _ _ => ⟨rfl, rfl⟩) st_id
theorem st_K {c : Kp} : Stk (zK c) := st_if (fun _ _ => ⟨rfl, rfl⟩) st_id
theorem st_M {b : Nat → Nat} {len lo hi : Nat} : Stk (fun s => (zM b len lo hi s).2) := fun s h => by
  show yF (zM b len lo hi s).2 = _ ∧ yP (zM b len lo hi s).2 = _
  unfold zM
  by_cases q : kq b len s = 3
  · rw [if_pos q]
    by_cases z : nv b len (yI s) < lo ∨ hi < nv b len (yI s)
    · rw [if_pos z]; exact st_F s h
    · rw [if_neg z]; exact st_S s h
  · rw [if_neg q]; exact st_F s h
theorem st_Lf {b : Nat → Nat} {len : Nat} {c : Option Nat} : Stk (zLf b len c) := fun s h => by
  unfold zLf
  by_cases q : yV s < 30
  · rw [if_pos q]
    cases c with
    | none => exact st_F s h
    | some c =>
      have h1 := st_X (c := c) (zV s (yV s + 1)) h
      have h2 := st_S (b := b) (len := len) (zX c (zV s (yV s + 1))) (by rw [h1.1]; exact h)
      exact ⟨h2.1.trans h1.1, h2.2.trans h1.2⟩
  · rw [if_neg q]; exact st_F s h
theorem st_Xl {b : Nat → Nat} {len k1 w1 k2 w2 : Nat} {A : Ps → Ps} (a : Stk A) : ∀ n, Stk (zXl b len k1 w1 k2 w2 A n)
  | 0 => st_id
  | n + 1 => fun s h => by
    show yF (if _ then _ else _) = _ ∧ yP (if _ then _ else _) = _
    by_cases q : kq b len s = k1 ∨ kq b len s = k2
    · rw [if_pos q]
      have h1 := ((st_S (b := b) (len := len)).c a) s h
      have h2 := st_X (c := 20 + if kq b len s = k1 then w1 else w2) (A (zS b len s)) (by rw [h1.1]; exact h)
      have h3 := st_Xl (b := b) (len := len) (k1 := k1) (w1 := w1) (k2 := k2) (w2 := w2) a n (zX (20 + if kq b len s = k1 then w1 else w2) (A (zS b len s))) (by rw [h2.1, h1.1]; exact h)
      exact ⟨h3.1.trans (h2.1.trans h1.1), h3.2.trans (h2.2.trans h1.2)⟩
    · rw [if_neg q]; exact ⟨rfl, rfl⟩
theorem st_Jn {b : Nat → Nat} {len : Nat} {O : Ps → Ps} (o : Stk O) : Stk (zJn b len O) := by
  have m : Stk (zMt b len O) := o.c (st_Xl o 1600)
  exact m.c (st_Xl m 1600)
theorem st_J {b : Nat → Nat} {len : Nat} : ∀ D, Stk (zJ b len D).1 ∧ Stk (zJ b len D).2
  | 0 => ⟨st_F, st_Jn st_F⟩
  | D + 1 => by
    obtain ⟨i1, i2⟩ := st_J (b := b) (len := len) D
    have h1 : Stk (zOn b len (zJ b len D)) := by
      intro s h
      unfold zOn
      by_cases q1 : kq b len s = 4
      · rw [if_pos q1]; exact st_Lf s h
      rw [if_neg q1]
      by_cases q2 : kq b len s = 40
      · rw [if_pos q2]; exact ((st_S.c i2).c st_E) s h
      rw [if_neg q2]
      by_cases q3 : kq b len s = 111
      · rw [if_pos q3]; exact ((st_S.c i1).c st_X) s h
      rw [if_neg q3]
      by_cases q4 : kq b len s = 112
      · rw [if_pos q4]; exact st_Lf s h
      rw [if_neg q4]
      by_cases q5 : kq b len s = 113
      · rw [if_pos q5]; exact st_Lf s h
      rw [if_neg q5]; exact st_F s h
    exact ⟨h1, st_Jn h1⟩
/-! the formula -/
theorem st_T {b : Nat → Nat} {len : Nat} {U : Ps → Ps} (u : Stk U) : ∀ n, Stk (zT b len U n)
  | 0 => st_id
  | n + 1 => fun s h => by
    show yF (if _ then _ else _) = _ ∧ yP (if _ then _ else _) = _
    by_cases q : kq b len s = 42 ∨ kq b len s = 47 ∨ kq b len s = 37
    · rw [if_pos q]
      exact (((st_S.c u).c st_K).c (st_T u n)) s h
    · rw [if_neg q]; exact ⟨rfl, rfl⟩
theorem st_A {b : Nat → Nat} {len : Nat} {U : Ps → Ps} (u : Stk U) : ∀ n, Stk (zA b len U n)
  | 0 => st_id
  | n + 1 => fun s h => by
    show yF (if _ then _ else _) = _ ∧ yP (if _ then _ else _) = _
    by_cases q : kq b len s = 43 ∨ kq b len s = 45
    · rw [if_pos q]
      exact (((st_S.c u).c st_K).c (st_A u n)) s h
    · rw [if_neg q]; exact ⟨rfl, rfl⟩
theorem st_O {b : Nat → Nat} {len k w : Nat} {U : Ps → Ps} (u : Stk U) : ∀ n, Stk (zO b len k w U n)
  | 0 => st_id
  | n + 1 => fun s h => by
    show yF (if _ then _ else _) = _ ∧ yP (if _ then _ else _) = _
    by_cases q : kq b len s = k
    · rw [if_pos q]
      exact (((st_S.c u).c st_K).c (st_O u n)) s h
    · rw [if_neg q]; exact ⟨rfl, rfl⟩
theorem st_Tm {b : Nat → Nat} {len : Nat} {U : Ps → Ps} (u : Stk U) : Stk (zTm b len U) := u.c (st_T u 1600)
theorem st_Sm {b : Nat → Nat} {len : Nat} {U : Ps → Ps} (u : Stk U) : Stk (zSm b len U) := (st_Tm u).c (st_A (st_Tm u) 1600)
theorem st_C {b : Nat → Nat} {len : Nat} {U : Ps → Ps} (u : Stk U) : Stk (zC b len U) := fun s h => by
  unfold zC
  by_cases q : kq b len (zSm b len U s) = 60 ∨ kq b len (zSm b len U s) = 62 ∨ kq b len (zSm b len U s) = 61
  · rw [if_pos q]
    exact ((((st_Sm u).c st_S).c (st_Sm u)).c st_K) s h
  · rw [if_neg q]; exact st_Sm u s h
theorem st_And {b : Nat → Nat} {len : Nat} {U : Ps → Ps} (u : Stk U) : Stk (zAnd b len U) := u.c (st_O u 1600)
theorem st_Or {b : Nat → Nat} {len : Nat} {U : Ps → Ps} (u : Stk U) : Stk (zOr b len U) := (st_And u).c (st_O (st_And u) 1600)
theorem st_Un {b : Nat → Nat} {len : Nat} {B : Ps → Ps} (u : Stk B) : Stk (zUn b len B) := fun s h => by
  unfold zUn
  by_cases q : vUn (yN s) < 30
  · rw [if_pos q]
    by_cases q1 : kq b len s = 3
    · rw [if_pos q1]
      exact (st_M.c st_K) (zN s (uUn (yN s) (vUn (yN s) + 1))) h
    rw [if_neg q1]
    by_cases q2 : kq b len s = 40
    · rw [if_pos q2]; exact u (zN s (uUn (yN s) (vUn (yN s) + 1))) h
    rw [if_neg q2]
    by_cases q3 : kq b len s = 115 ∨ kq b len s = 116 ∨ kq b len s = 117
    · rw [if_pos q3]; exact (st_K.c st_S) (zN s (uUn (yN s) (vUn (yN s) + 1))) h
    rw [if_neg q3]; exact st_F (zN s (uUn (yN s) (vUn (yN s) + 1))) h
  · rw [if_neg q]; exact st_F s h
theorem st_D {b : Nat → Nat} {len : Nat} : ∀ D, Stk (zD b len D).1 ∧ Stk (zD b len D).2 ∧ Stk (zB b len D)
  | 0 => by
    have h1 : Stk (zD b len 0).1 := st_if st_F (st_C (st_Un st_F))
    exact ⟨h1, by rw [zD_2]; exact st_Or h1, st_F⟩
  | D + 1 => by
    obtain ⟨i1, i2, i3⟩ := st_D (b := b) (len := len) D
    have hB : Stk (zB b len (D + 1)) := (st_S.c i2).c st_E
    have h1 : Stk (zD b len (D + 1)).1 := st_if ((st_S.c i1).c st_K) (st_C (st_Un hB))
    exact ⟨h1, by rw [zD_2]; exact st_Or h1, hB⟩
/-! names, pairs -/
def zNn (b : Nat → Nat) (len : Nat) (s : Ps) : Ps := if kq b len s = 4 then (if fnd b len s = none then zS b len s else zF b len 3 s) else zF b len 2 s
theorem st_Nn {b : Nat → Nat} {len : Nat} : Stk (zNn b len) := st_if (st_if st_S st_F) st_F
theorem kpN {b : Nat → Nat} {len : Nat} {s : Ps} : Keep s (zNn b len s) := by
  unfold zNn
  by_cases q : kq b len s = 4
  · rw [if_pos q]
    by_cases z : fnd b len s = none
    · rw [if_pos z]; exact kpS
    · rw [if_neg z]; exact kpF
  · rw [if_neg q]; exact kpF
def zBg (s : Ps) : Ps := zN s (uGr (yN s) (fun k => if k = vNr (yN s) then (fun _ => 0) else vGr (yN s) k))
def zAd (r c : Nat) (s : Ps) : Ps := zN s (uGr (yN s) (fun k => if k = vNr (yN s) then (fun j => if j = r then vGr (yN s) (vNr (yN s)) r ||| 2 ^ c else vGr (yN s) (vNr (yN s)) j) else vGr (yN s) k))
def zPl (b : Nat → Nat) (len n : Nat) : Nat → Ps → Ps
  | 0, s => s
  | k + 1, s => if kq b len s = 3 then zPl b len n k (zAd (zM b len 0 n s).1 (zM b len 0 n (zM b len 0 n s).2).1 (zM b len 0 n (zM b len 0 n s).2).2) else s
def zPr (b : Nat → Nat) (len : Nat) (s : Ps) : Ps := if kq b len (zPl b len (2 ^ vLv (yN s) - 1) 40 s) = 3 then zF b len 2 (zPl b len (2 ^ vLv (yN s) - 1) 40 s) else zPl b len (2 ^ vLv (yN s) - 1) 40 s
/-- all but grids stays -/
def Keep2 (s s' : Ps) : Prop := vNm (yN s') = vNm (yN s) ∧ vNr (yN s') = vNr (yN s) ∧ vLv (yN s') = vLv (yN s) ∧ vTd (yN s') = vTd (yN s)
theorem Keep.k2 {s s' : Ps} (k : Keep s s') : Keep2 s s' := ⟨k.1, k.2.1, k.2.2.1, k.2.2.2.2⟩
theorem Keep2.tr {s t u : Ps} (a : Keep2 s t) (b : Keep2 t u) : Keep2 s u := ⟨b.1.trans a.1, b.2.1.trans a.2.1, b.2.2.1.trans a.2.2.1, b.2.2.2.trans a.2.2.2⟩
theorem kpM {b : Nat → Nat} {len lo hi : Nat} {s : Ps} : Keep s (zM b len lo hi s).2 := by
  unfold zM
  by_cases q : kq b len s = 3
  · rw [if_pos q]
    by_cases z : nv b len (yI s) < lo ∨ hi < nv b len (yI s)
    · rw [if_pos z]; exact kpF
    · rw [if_neg z]; exact kpS
  · rw [if_neg q]; exact kpF
theorem kpAd {r c : Nat} {s : Ps} : Keep2 s (zAd r c s) := ⟨rfl, rfl, rfl, rfl⟩
theorem kpPl {b : Nat → Nat} {len n : Nat} : ∀ k s, Keep2 s (zPl b len n k s)
  | 0, s => ⟨rfl, rfl, rfl, rfl⟩
  | k + 1, s => by
    rw [zPl]
    by_cases q : kq b len s = 3
    · rw [if_pos q]
      have k1 : Keep s (zM b len 0 n s).2 := kpM
      have k2 : Keep (zM b len 0 n s).2 (zM b len 0 n (zM b len 0 n s).2).2 := kpM
      generalize zM b len 0 n (zM b len 0 n s).2 = w at *
      generalize zM b len 0 n s = u at *
      exact ((k1.tr k2).k2.tr kpAd).tr (kpPl k _)
    · rw [if_neg q]; exact ⟨rfl, rfl, rfl, rfl⟩
theorem kpPr {b : Nat → Nat} {len : Nat} {s : Ps} : Keep2 s (zPr b len s) := by
  unfold zPr
  by_cases q : kq b len (zPl b len (2 ^ vLv (yN s) - 1) 40 s) = 3
  · rw [if_pos q]; exact (kpPl 40 s).tr kpF.k2
  · rw [if_neg q]; exact kpPl 40 s
theorem st_Pl {b : Nat → Nat} {len n : Nat} : ∀ k, Stk (zPl b len n k)
  | 0 => st_id
  | k + 1 => fun s h => by
    show yF (if _ then _ else _) = _ ∧ yP (if _ then _ else _) = _
    by_cases q : kq b len s = 3
    · rw [if_pos q]
      have k1 := st_M (b := b) (len := len) (lo := 0) (hi := n) s h
      have k2 := st_M (b := b) (len := len) (lo := 0) (hi := n) (zM b len 0 n s).2 (by rw [k1.1]; exact h)
      dsimp only at k1 k2
      generalize zM b len 0 n (zM b len 0 n s).2 = w at *
      generalize zM b len 0 n s = u at *
      have h3 := st_Pl (b := b) (len := len) (n := n) k (zAd u.1 w.1 w.2) (by
        show yF w.2 ≠ 0
        rw [k2.1, k1.1]; exact h)
      exact ⟨h3.1.trans (k2.1.trans k1.1), h3.2.trans (k2.2.trans k1.2)⟩
    · rw [if_neg q]; exact ⟨rfl, rfl⟩
theorem st_Pr {b : Nat → Nat} {len : Nat} : Stk (zPr b len) := fun s h => by
  unfold zPr
  by_cases q : kq b len (zPl b len (2 ^ vLv (yN s) - 1) 40 s) = 3
  · rw [if_pos q]; exact ((st_Pl 40).c st_F) s h
  · rw [if_neg q]; exact st_Pl 40 s h
/-- a relation finished -/
def zFn (name : Nat) (td : Bool) (s : Ps) : Ps := zN (if td then zN s (uTd (yN s) (vTd (yN s) ||| 2 ^ vNr (yN s))) else zX (30 + vNr (yN s)) s) (uNr (uNm (yN (if td then zN s (uTd (yN s) (vTd (yN s) ||| 2 ^ vNr (yN s))) else zX (30 + vNr (yN s)) s)) (fun k => if k = vNr (yN s) then name else vNm (yN s) k)) (vNr (yN s) + 1))
def zRb (b : Nat → Nat) (len : Nat) (s : Ps) : Ps := if kq b len s = 102 then zPr b len (zS b len (zBg s)) else (zJ b len 6).2 (zE b len 103 (zBg s))
def zRl (b : Nat → Nat) (len : Nat) (s : Ps) : Ps := if vNr (yN s) < 5 then zFn (if yF (zRb b len (zNn b len (zS b len s))) = 0 then wv b len (yI (zS b len s)) else 0) (decide (kq b len (zNn b len (zS b len s)) = 102)) (zRb b len (zNn b len (zS b len s))) else zF b len 2 s
theorem kpRb {b : Nat → Nat} {len : Nat} {s : Ps} : Keep2 s (zRb b len s) := by
  unfold zRb
  have h0 : Keep2 s (zBg s) := ⟨rfl, rfl, rfl, rfl⟩
  by_cases q : kq b len s = 102
  · rw [if_pos q]; exact (h0.tr kpS.k2).tr kpPr
  · rw [if_neg q]; exact (h0.tr kpE.k2).tr (kpJ 6 _).2.k2
theorem st_Rb {b : Nat → Nat} {len : Nat} : Stk (zRb b len) := fun s h => by
  unfold zRb
  by_cases q : kq b len s = 102
  · rw [if_pos q]; exact (st_S.c st_Pr) (zBg s) h
  · rw [if_neg q]; exact (st_E.c (st_J 6).2) (zBg s) h
section
variable {h : MH} {R p tp s1 v1 : Nat} {f0 : Nat → Nat → Int32} {g0 : Nat → Nat → Int64} {b : Nat → Nat} {len m : Nat} {s : Ps} {hp : MH}
theorem rd_nn (D : RDS h R p tp s1 v1) (X : RX h R p tp s1 v1 f0 g0 b len m s hp) (hn : NMB (yN s)) : wp (ev M_Reader_readNewName 0 0 [some (.ref R)] [] hp) (fun r h' => r = none ∧ RX h R p tp s1 v1 f0 g0 b len m (zNn b len s) h') := by
  obtain ⟨a1, a2, a3, a4, a5, a6, a7, a8, a9⟩ := RX_sh D X
  rw [r_Reader_readNewName_0]
  refine wp_isC a1 (wp_nnR a2 (wp_isC a4 ?_))
  rw [a8]
  unfold zNn
  by_cases q : kq b len s = 4
  · rw [if_pos q]
    obtain ⟨n1, n2, n3, n4⟩ := RX_nm X q
    refine wp_bt (by rw [q]) (wp_isC a1 (wp_nnR a3 (wp_isC a1 (wp_nnR a2 (wp_isC a4 (wp_isC a5 ?_))))))
    rw [n3]
    refine wp_rIe (rd_find D X n1 n4 hn) ?_
    have hlt : ∀ k, fnd b len s = some k → k < 2 ^ 31 := fun k hk => by
      have := ff_lt hk
      have B := (RX_B X).2.1
      have := B.2.2.1
      have := B.2.2.2.1
      omega
    by_cases z : fnd b len s = none
    · rw [if_pos z]
      refine wp_bt (by show oI (fnd b len s) = mI 1; rw [z]; rfl) (wp_isC a1 (wp_nnR a2 (wp_isC a4 (wp_rV (rd_step D X) ?_))))
      rintro v h3 ⟨e1, X3⟩
      exact ⟨e1, wp_s ⟨rfl, X3⟩⟩
    · rw [if_neg z]
      refine wp_bf (by show ¬ oI (fnd b len s) = mI 1; rw [oI_m1 hlt]; exact z) (wp_isC a1 (wp_rV (rd_fail D X (by decide) (by decide)) ?_))
      rintro v h3 ⟨e1, X3⟩
      exact ⟨e1, wp_s ⟨rfl, X3⟩⟩
  · rw [if_neg q]
    refine wp_bf (by rw [kq_eq (by decide)]; exact q) (wp_isC a1 (wp_rV (rd_fail D X (by decide) (by decide)) ?_))
    rintro v h3 ⟨e1, X3⟩
    exact ⟨e1, wp_s ⟨rfl, X3⟩⟩
theorem GW.z {n : Nat} (h : n ≤ 16) : GW n (fun _ => 0) := ⟨h, fun _ => Nat.two_pow_pos n, fun _ _ => rfl⟩
theorem PN_gw {f : Nat → Nat → Int32} {g : Nat → Nat → Int64} {m fl : Nat} {q : Pn} {G : Rw} (k : Nat) (hk : k < 5) (x3 : PNF f g p m fl q) (hm : m ≤ 5) (hkm : m ≤ k + 1) : PNF (gw f (p + 7 + 2 * k) (2 ^ vLv q) G) g p (k + 1) fl (uGr q (fun j => if j = k then G else vGr q j)) ↔ (∀ j, j < k → GF f (p + 7 + 2 * j) (2 ^ vLv q) (vGr q j)) := by
  obtain ⟨y0, y1, y2, y3, y4, y5, y6, y7, y8, y9, y10⟩ := x3
  constructor
  · intro z j hj
    have := z.2.2.2.2.2.2.2.2.2.1 j (by omega)
    have e : vGr (uGr q (fun j => if j = k then G else vGr q j)) j = vGr q j := if_neg (by omega)
    rw [e] at this
    exact ⟨by rw [← gw_o (f := f) (g := p + 7 + 2 * k) (n := 2 ^ vLv q) (G := G) (a := p + 7 + 2 * j) (by omega) (by omega)]; exact this.1, fun r hr => by rw [← gw_o (f := f) (g := p + 7 + 2 * k) (n := 2 ^ vLv q) (G := G) (a := p + 7 + 2 * j + 1) (by omega) (by omega)]; exact this.2 r hr⟩
  · intro z
    refine ⟨?_, ?_, ?_, ?_, ?_, ?_, ?_, ?_, ⟨?_, ?_⟩, ?_, y10⟩
    · simp (disch := omega) only [wI_I, wI_s, nI_add, pk_mul, nI_ltI, nI_leI, nI_eq, nI_clamp, nm_or, nm_and, nm_xor, nm_nd, nm_one, nm_shr, nm_b2, Bool.false_eq_true, Bool.true_eq_false, not_false_eq_true, not_true_eq_false, reduceCtorEq, up2_a, up2_k, up2_s, gw_o]; exact y0
    · simp (disch := omega) only [wI_I, wI_s, nI_add, pk_mul, nI_ltI, nI_leI, nI_eq, nI_clamp, nm_or, nm_and, nm_xor, nm_nd, nm_one, nm_shr, nm_b2, Bool.false_eq_true, Bool.true_eq_false, not_false_eq_true, not_true_eq_false, reduceCtorEq, up2_a, up2_k, up2_s, gw_o]; exact y1
    · simp (disch := omega) only [wI_I, wI_s, nI_add, pk_mul, nI_ltI, nI_leI, nI_eq, nI_clamp, nm_or, nm_and, nm_xor, nm_nd, nm_one, nm_shr, nm_b2, Bool.false_eq_true, Bool.true_eq_false, not_false_eq_true, not_true_eq_false, reduceCtorEq, up2_a, up2_k, up2_s, gw_o]; exact y2
    · simp (disch := omega) only [wI_I, wI_s, nI_add, pk_mul, nI_ltI, nI_leI, nI_eq, nI_clamp, nm_or, nm_and, nm_xor, nm_nd, nm_one, nm_shr, nm_b2, Bool.false_eq_true, Bool.true_eq_false, not_false_eq_true, not_true_eq_false, reduceCtorEq, up2_a, up2_k, up2_s, gw_o]; exact y3
    · simp (disch := omega) only [wI_I, wI_s, nI_add, pk_mul, nI_ltI, nI_leI, nI_eq, nI_clamp, nm_or, nm_and, nm_xor, nm_nd, nm_one, nm_shr, nm_b2, Bool.false_eq_true, Bool.true_eq_false, not_false_eq_true, not_true_eq_false, reduceCtorEq, up2_a, up2_k, up2_s, gw_o]; exact y4
    · simp (disch := omega) only [wI_I, wI_s, nI_add, pk_mul, nI_ltI, nI_leI, nI_eq, nI_clamp, nm_or, nm_and, nm_xor, nm_nd, nm_one, nm_shr, nm_b2, Bool.false_eq_true, Bool.true_eq_false, not_false_eq_true, not_true_eq_false, reduceCtorEq, up2_a, up2_k, up2_s, gw_o]; exact y5
    · simp (disch := omega) only [wI_I, wI_s, nI_add, pk_mul, nI_ltI, nI_leI, nI_eq, nI_clamp, nm_or, nm_and, nm_xor, nm_nd, nm_one, nm_shr, nm_b2, Bool.false_eq_true, Bool.true_eq_false, not_false_eq_true, not_true_eq_false, reduceCtorEq, up2_a, up2_k, up2_s, gw_o]; exact y6
    · intro i c hc; simp (disch := omega) only [wI_I, wI_s, nI_add, pk_mul, nI_ltI, nI_leI, nI_eq, nI_clamp, nm_or, nm_and, nm_xor, nm_nd, nm_one, nm_shr, nm_b2, Bool.false_eq_true, Bool.true_eq_false, not_false_eq_true, not_true_eq_false, reduceCtorEq, up2_a, up2_k, up2_s, gw_o]; exact y7 i c hc
    · simp (disch := omega) only [wI_I, wI_s, nI_add, pk_mul, nI_ltI, nI_leI, nI_eq, nI_clamp, nm_or, nm_and, nm_xor, nm_nd, nm_one, nm_shr, nm_b2, Bool.false_eq_true, Bool.true_eq_false, not_false_eq_true, not_true_eq_false, reduceCtorEq, up2_a, up2_k, up2_s, gw_o]; exact y8.1
    · intro i c hc; simp (disch := omega) only [wI_I, wI_s, nI_add, pk_mul, nI_ltI, nI_leI, nI_eq, nI_clamp, nm_or, nm_and, nm_xor, nm_nd, nm_one, nm_shr, nm_b2, Bool.false_eq_true, Bool.true_eq_false, not_false_eq_true, not_true_eq_false, reduceCtorEq, up2_a, up2_k, up2_s, gw_o]; exact y8.2 i c hc
    · intro j hj
      show GF _ _ _ (if j = k then G else vGr q j)
      by_cases e : j = k
      · rw [if_pos e, e]; exact gw_f
      · rw [if_neg e]; exact gw_F (by omega) (z j (by omega))
theorem rd_begin (D : RDS h R p tp s1 v1) (X : RX h R p tp s1 v1 f0 g0 b len (vNr (yN s)) s hp) (h5 : vNr (yN s) < 5) : wp (ev M_Plan_begin 0 0 [some (.ref p), none] [] hp) (fun r h' => r = some (.ref (p + 7 + 2 * vNr (yN s))) ∧ RX h R p tp s1 v1 f0 g0 b len (vNr (yN s) + 1) (zBg s) h') := by
  obtain ⟨f, g, rfl, x1, x2, x3, x4, x5, x6, x7, x8⟩ := X
  obtain ⟨p1, p2, p3, p4, p5, p6, p7, p8, p9, p10, p11, p12, p13, p14, p15, p16, p17, p18, p19⟩ := id D.2.2.2.2.1
  obtain ⟨y0, y1, y2, y3, y4, y5, y6, y7, y8, y9, y10⟩ := id x3
  obtain ⟨b1, b2, b3, b4, b5, b6, b7, b8, b9, b10, b11⟩ := id x5
  obtain ⟨t1, t2⟩ := p16 (vNr (yN s)) h5
  have hn := lv_p b2
  rw [r_Plan_begin_0]
  refine wp_isC p1 (wp_nnR p13 (wp_isC p1 (wp_isC p14 ?_)))
  rw [wI_I, y1, if_neg (show ¬ nI 4 < nI (vNr (yN s)) by rw [nI_ltI (by decide) (by omega)]; omega), nI_clamp (by omega)]
  refine wp_inA p15 rfl (by omega) (by omega) (wp_nnR t1 (wp_isC p1 (wp_rIe (pl_size p1 y0 b2) (wp_isC t2.1 (wp_rVe (gq_clear t2 hn) ?_)))))
  refine wp_s ⟨rfl, RX_pl (m := vNr (yN s) + 1) D x1 x2 x4 x6 x7 x8 (fun a ha => gw_o (by omega) (by omega)) ((PN_gw _ h5 x3 b4 (by omega)).mpr (fun j hj => y9 j hj)) ⟨b1, b2, Nat.le_succ _, by omega, b5, b6, b7, b8, b9, b10, ?_⟩⟩
  intro k hk
  show GW _ (if k = vNr (yN s) then _ else _)
  by_cases e : k = vNr (yN s)
  · rw [if_pos e]; exact GW.z hn
  · rw [if_neg e]; exact b11 k (by omega)
theorem rd_add {r c : Nat} (D : RDS h R p tp s1 v1) (X : RX h R p tp s1 v1 f0 g0 b len (vNr (yN s) + 1) s hp) (hr : r < 2 ^ vLv (yN s)) (hc : c < 2 ^ vLv (yN s)) : wp (ev M_Grid_add 0 0 [some (.ref (p + 7 + 2 * vNr (yN s))), some (.int (nI r)), some (.int (nI c))] [] hp) (fun v h' => v = none ∧ RX h R p tp s1 v1 f0 g0 b len (vNr (yN s) + 1) (zAd r c s) h') := by
  obtain ⟨f, g, rfl, x1, x2, x3, x4, x5, x6, x7, x8⟩ := X
  obtain ⟨p1, p2, p3, p4, p5, p6, p7, p8, p9, p10, p11, p12, p13, p14, p15, p16, p17, p18, p19⟩ := id D.2.2.2.2.1
  obtain ⟨y0, y1, y2, y3, y4, y5, y6, y7, y8, y9, y10⟩ := id x3
  obtain ⟨b1, b2, b3, b4, b5, b6, b7, b8, b9, b10, b11⟩ := id x5
  obtain ⟨t1, t2⟩ := p16 (vNr (yN s)) (by omega)
  have V := b11 (vNr (yN s)) (by omega)
  refine wp_of (gq_add t2 (y9 _ (by omega)) V hr hc) ⟨rfl, RX_pl (m := vNr (yN s) + 1) D x1 x2 x4 x6 x7 x8 (fun a ha => gw_o (by omega) (by omega)) ((PN_gw _ (by omega) x3 b4 (by omega)).mpr (fun j hj => y9 j (by omega))) ⟨b1, b2, b3, b4, b5, b6, b7, b8, b9, b10, ?_⟩⟩
  intro k hk
  show GW _ (if k = vNr (yN s) then _ else _)
  by_cases e : k = vNr (yN s)
  · rw [if_pos e]
    refine ⟨V.1, fun j => ?_, fun j hj => ?_⟩
    · dsimp only
      split
      · exact Nat.or_lt_two_pow (V.2.1 r) (Nat.pow_lt_pow_right (by decide) hc)
      · exact V.2.1 j
    · dsimp only
      rw [if_neg (show ¬ j = r by have hj : 2 ^ vLv (yN s) ≤ j := hj; omega)]; exact V.2.2 j hj
  · rw [if_neg e]; exact b11 k hk
theorem rd_pairs (D : RDS h R p tp s1 v1) (X : RX h R p tp s1 v1 f0 g0 b len (vNr (yN s) + 1) s hp) : wp (ev M_Reader_readPairs 0 0 [some (.ref R), some (.ref (p + 7 + 2 * vNr (yN s))), none, none, none, none] [] hp) (fun v h' => v = none ∧ RX h R p tp s1 v1 f0 g0 b len (vNr (yN s) + 1) (zPr b len s) h') := by
  obtain ⟨-, B2, -⟩ := RX_B X
  have hl4 := B2.2.1
  have hnr : vNr (yN s) + 1 ≤ 5 := B2.2.2.2.1
  have hn := lv_p hl4
  have hp0 := Nat.two_pow_pos (vLv (yN s))
  have key : ∀ N, N = vNr (yN s) → ∀ lv, lv = vLv (yN s) → ∀ k i s' hp', i + k = 40 → vNr (yN s') = N → vLv (yN s') = lv → RX h R p tp s1 v1 f0 g0 b len (N + 1) s' hp' → wp (ev M_Reader_readPairs 0 9 [some (.ref R), some (.ref (p + 7 + 2 * N)), some (.int (nI (2 ^ lv - 1))), some (.int (nI i)), none, none] [] hp') (fun v h' => v = none ∧ RX h R p tp s1 v1 f0 g0 b len (N + 1) (if kq b len (zPl b len (2 ^ lv - 1) k s') = 3 then zF b len 2 (zPl b len (2 ^ lv - 1) k s') else zPl b len (2 ^ lv - 1) k s') h') := by
    intro N eN lv elv
    rw [← elv] at hl4 hn hp0
    have fin : ∀ s' hp', RX h R p tp s1 v1 f0 g0 b len (N + 1) s' hp' → wp (ev M_Reader_readPairs 0 34 [some (.ref R), none, none, none, none, none] [] hp') (fun v h' => v = none ∧ RX h R p tp s1 v1 f0 g0 b len (N + 1) (if kq b len s' = 3 then zF b len 2 s' else s') h') := by
      intro s' hp' X
      obtain ⟨a1, a2, a3, a4, a5, a6, a7, a8, a9⟩ := RX_sh D X
      rw [r_Reader_readPairs_34]
      refine wp_isC a1 (wp_nnR a2 (wp_isC a4 ?_))
      rw [a8]
      by_cases q : kq b len s' = 3
      · rw [if_pos q]
        refine wp_bt (by rw [q]) (wp_isC a1 (wp_rV (rd_fail D X (by decide) (by decide)) ?_))
        rintro v h3 ⟨e1, X3⟩
        exact ⟨e1, wp_s ⟨rfl, X3⟩⟩
      · rw [if_neg q]
        exact wp_bf (by rw [kq_eq (by decide)]; exact q) (wp_s ⟨rfl, X⟩)
    intro k
    induction k with
    | zero =>
      intro i s' hp' hi e1 e2 X
      rw [r_Reader_readPairs_9]
      exact wp_bf (by rw [nI_ltI (by omega) (by decide)]; omega) (fin s' hp' X)
    | succ k ih =>
      intro i s' hp' hi e1 e2 X
      obtain ⟨a1, a2, a3, a4, a5, a6, a7, a8, a9⟩ := RX_sh D X
      rw [r_Reader_readPairs_9]
      refine wp_bt (by rw [nI_ltI (by omega) (by decide)]; omega) (wp_isC a1 (wp_nnR a2 (wp_isC a4 ?_)))
      rw [a8, zPl]
      by_cases q : kq b len s' = 3
      · rw [if_pos q]
        refine wp_bt (by rw [q]) (wp_isC a1 (wp_rI (rd_num D X (by decide) (by omega)) ?_))
        rintro v h1 ⟨f1, X1⟩
        refine ⟨_, f1, ?_⟩
        obtain ⟨b1, b2, b3, b4, b5, b6, b7, b8, b9⟩ := RX_sh D X1
        refine wp_isC b1 (wp_rI (rd_num D X1 (by decide) (by omega)) ?_)
        rintro v h2 ⟨f1, X2⟩
        refine ⟨_, f1, ?_⟩
        have k1 : Keep s' (zM b len 0 (2 ^ lv - 1) (zM b len 0 (2 ^ lv - 1) s').2).2 := kpM.tr kpM
        have c1 := zM_le (b := b) (len := len) (s := s') (show 0 ≤ 2 ^ lv - 1 by omega)
        have c2 := zM_le (b := b) (len := len) (s := (zM b len 0 (2 ^ lv - 1) s').2) (show 0 ≤ 2 ^ lv - 1 by omega)
        have en : vNr (yN (zM b len 0 (2 ^ lv - 1) (zM b len 0 (2 ^ lv - 1) s').2).2) = N := k1.2.1.trans e1
        have el : vLv (yN (zM b len 0 (2 ^ lv - 1) (zM b len 0 (2 ^ lv - 1) s').2).2) = lv := k1.2.2.1.trans e2
        have t2 := (D.2.2.2.2.1.2.2.2.2.2.2.2.2.2.2.2.2.2.2.2.1 N (by omega)).2.1
        have t3 : hC h2 (p + 7 + 2 * N) = 3 := by
          obtain ⟨f, g, rfl, -⟩ := X2; exact t2
        have ad := rd_add (s := (zM b len 0 (2 ^ lv - 1) (zM b len 0 (2 ^ lv - 1) s').2).2) (r := (zM b len 0 (2 ^ lv - 1) s').1) (c := (zM b len 0 (2 ^ lv - 1) (zM b len 0 (2 ^ lv - 1) s').2).1) D (by rw [en]; exact X2) (by rw [el]; omega) (by rw [el]; omega)
        rw [en] at ad
        refine wp_isC t3 (wp_rV ad ?_)
        rintro v h3 ⟨f1, X3⟩
        refine ⟨f1, ?_⟩
        rw [nI_add]
        exact ih (i + 1) _ _ (by omega) en el X3
      · rw [if_neg q]
        exact wp_bf (by rw [kq_eq (by decide)]; exact q) (fin s' hp' X)
  obtain ⟨a1, a2, a3, a4, a5, a6, a7, a8, a9⟩ := RX_sh D X
  have sz : ev M_Plan_size 0 0 [some (.ref p)] [] hp = some (some (.int (nI (2 ^ vLv (yN s)))), hp) := by
    obtain ⟨f, g, rfl, x1, x2, x3, -⟩ := X
    exact pl_size a5 x3.1 hl4
  rw [r_Reader_readPairs_0]
  refine wp_isC a1 (wp_nnR a3 (wp_isC a5 (wp_rIe sz ?_)))
  rw [nm_m1 hp0]
  exact key _ rfl _ rfl 40 0 s hp (by omega) rfl rfl X
end
