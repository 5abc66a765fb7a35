/-! What the text of a derived one gives. -/
def fxs (l : List Nat) : List Nat := l.filter (fun c => decide (c < 30))
theorem fxs_a (l : List Nat) {c : Nat} (h : c < 30) : fxs (l ++ [c]) = fxs l ++ [c] := by
  unfold fxs
  rw [List.filter_append]
  simp [h]
theorem fxs_m (l : List Nat) {c : Nat} (h : 30 ≤ c) : fxs (l ++ [c]) = fxs l := by
  unfold fxs
  rw [List.filter_append]
  simp
  omega
theorem fxs_n (l : List Nat) : (fxs l).length ≤ l.length := List.length_filter_le _ _
section
variable {b : Nat → Nat} {len : Nat}
theorem kq_0 {s : Ps} (h : yF s = 0) : kq b len s = kd b len (yI s) := if_pos h
theorem kq_F {s : Ps} (h : yF s ≠ 0) : kq b len s = 1 := if_neg h
theorem zS_0 {s : Ps} (h : yF s = 0) : zS b len s = (nx b len (yI s), 0, yP s, yL s, yV s, yN s) := by
  unfold zS
  rw [if_pos h]
  unfold zI
  rw [h]
theorem zF_0 {s : Ps} {c : Nat} (h : yF s = 0) : zF b len c s = (yI s, if kd b len (yI s) = 1 then 1 else c, pl b len (yI s), yL s, yV s, yN s) := if_pos h
theorem zF_n {s : Ps} {c : Nat} (hc : 0 < c) : yF (zF b len c s) ≠ 0 := by
  by_cases h : yF s = 0
  · rw [zF_0 h]
    show (if _ then 1 else c) ≠ 0
    split <;> omega
  · rw [(st_F s h).1]; exact h
theorem kq_2 {s : Ps} (h : yF s = 0) (hl : len ≤ yI s) : kq b len s = 2 := by rw [kq_0 h, kd_2 hl]
theorem zX_o {c : Nat} {s : Ps} (h : (vXs (yN s)).length < 256) : zX c s = (yI s, yF s, yP s, yL s, yV s, uXs (yN s) (vXs (yN s) ++ [c])) := if_pos h
theorem kq_X {c : Nat} {s : Ps} : kq b len (zX c s) = kq b len s := by
  unfold zX
  split <;> rfl
theorem yI_X {c : Nat} {s : Ps} : yI (zX c s) = yI s := by
  unfold zX
  split <;> rfl
def gdX (len : Nat) (s : Ps) : Prop := yF s = 0 ∧ yI s ≤ len ∧ (vXs (yN s)).length ≤ 7 * yV s
/-- what a reading that found no fault has done -/
def PX (len nr K M : Nat) (s s' : Ps) : Prop := (yI s ≤ yI s' ∧ yI s' ≤ len) ∧ ∃ l cs, s' = (yI s', 0, yP s, yL s, yV s + l, uXs (yN s) (vXs (yN s) ++ cs)) ∧ (1 ≤ l ∧ yV s + l ≤ 30) ∧ cs.length + 1 ≤ M * l ∧ (∀ c, c ∈ cs → c < 30) ∧ ∀ e rest, e + K ≤ 16 → xsg nr rest (e + 1) → xsg nr (cs ++ rest) e
theorem PX.F {nr K M : Nat} {s s' : Ps} (p : PX len nr K M s s') : yF s' = 0 := by
  obtain ⟨-, l, cs, e, -⟩ := p
  rw [e]; rfl
theorem PX.N {nr K M : Nat} {s s' : Ps} (p : PX len nr K M s s') : vNr (yN s') = vNr (yN s) ∧ vNm (yN s') = vNm (yN s) ∧ vKs (yN s') = vKs (yN s) ∧ vUn (yN s') = vUn (yN s) := by
  obtain ⟨-, l, cs, e, -⟩ := p
  rw [e]; exact ⟨rfl, rfl, rfl, rfl⟩
theorem PX.gd {nr K M : Nat} {s s' : Ps} (g : gdX len s) (p : PX len nr K M s s') (hM : M ≤ 7) : gdX len s' ∧ yV s' ≤ 30 ∧ (vXs (yN s')).length < 7 * yV s' := by
  have pF := p.F
  obtain ⟨⟨p1, p2⟩, l, cs, e, ⟨l1, l2⟩, h1, h2, h3⟩ := p
  have hm : M * l ≤ 7 * l := Nat.mul_le_mul_right l hM
  have hx : (vXs (yN s')).length = (vXs (yN s)).length + cs.length := by rw [e]; exact List.length_append
  have hv : yV s' = yV s + l := by rw [e]; rfl
  have g3 := g.2.2
  refine ⟨⟨pF, p2, by rw [hx, hv]; omega⟩, by rw [hv]; exact l2, by rw [hx, hv]; omega⟩
theorem PX.mo {nr K K' M : Nat} {s s' : Ps} (p : PX len nr K M s s') (h : K ≤ K') : PX len nr K' M s s' := by
  obtain ⟨p1, l, cs, e, q1, q2, q3, q4⟩ := p
  exact ⟨p1, l, cs, e, q1, q2, q3, fun e rest h1 h2 => q4 e rest (by omega) h2⟩
theorem PX.fr {nr K M i : Nat} {s s' : Ps} (h : yI s ≤ i) (p : PX len nr K M (i, 0, yP s, yL s, yV s, yN s) s') : PX len nr K M s s' := by
  obtain ⟨⟨p1, p2⟩, l, cs, e, q⟩ := p
  exact ⟨⟨Nat.le_trans h p1, p2⟩, l, cs, e, q⟩
theorem PX.st {nr K M : Nat} {s t s' : Ps} (p : PX len nr K M s s') (e : s = t) : PX len nr K M t s' := by subst e; exact p
theorem PX.tk {nr K M i : Nat} {s s' : Ps} (p : PX len nr K M s s') (h : yI s' ≤ i) (h2 : i ≤ len) : PX len nr K M s (i, 0, yP s', yL s', yV s', yN s') := by
  obtain ⟨⟨p1, p2⟩, l, cs, e, q⟩ := p
  refine ⟨⟨Nat.le_trans p1 h, h2⟩, l, cs, ?_, q⟩
  show (i, 0, yP s', yL s', yV s', yN s') = (i, 0, yP s, yL s, yV s + l, uXs (yN s) (vXs (yN s) ++ cs))
  have a1 : yP s' = yP s := by rw [e]; rfl
  have a2 : yL s' = yL s := by rw [e]; rfl
  have a3 : yV s' = yV s + l := by rw [e]; rfl
  have a4 : yN s' = uXs (yN s) (vXs (yN s) ++ cs) := by rw [e]; rfl
  rw [a1, a2, a3, a4]
theorem PX.j {nr K M c i : Nat} {s0 s1 s2 : Ps} (g0 : gdX len s0) (p : PX len nr (K + 1) M s0 s1) (hi : yI s1 ≤ i) (q : PX len nr K M (i, 0, yP s1, yL s1, yV s1, yN s1) s2) (hM : M ≤ 7) (hc : 20 ≤ c ∧ c ≤ 23) : PX len nr (K + 1) M s0 (zX c s2) := by
  have g1 := (PX.gd g0 p hM)
  have g2 := PX.gd (s := (i, 0, yP s1, yL s1, yV s1, yN s1)) ⟨rfl, Nat.le_trans q.1.1 q.1.2, g1.1.2.2⟩ q hM
  have hx : (vXs (yN s2)).length < 256 := by have := g2.2.1; have := g2.2.2; omega
  have q0 := q.F
  obtain ⟨⟨p1, p2⟩, l, cs, e, ⟨l1, l2⟩, h1, h2, h3⟩ := p
  obtain ⟨⟨q1, q2⟩, l', cs', e', ⟨l1', l2'⟩, h1', h2', h3'⟩ := q
  have a1 : yP s1 = yP s0 := by rw [e]; rfl
  have a2 : yL s1 = yL s0 := by rw [e]; rfl
  have a3 : yV s1 = yV s0 + l := by rw [e]; rfl
  have a4 : yN s1 = uXs (yN s0) (vXs (yN s0) ++ cs) := by rw [e]; rfl
  have b1 : yP s2 = yP s1 := by rw [e']; rfl
  have b2 : yL s2 = yL s1 := by rw [e']; rfl
  have b3 : yV s2 = yV s1 + l' := by rw [e']; rfl
  have b4 : yN s2 = uXs (yN s1) (vXs (yN s1) ++ cs') := by rw [e']; rfl
  have l2' : yV s1 + l' ≤ 30 := l2'
  have q1 : i ≤ yI s2 := q1
  rw [zX_o hx, q0]
  refine ⟨⟨by show yI s0 ≤ yI s2; omega, q2⟩, l + l', cs ++ (cs' ++ [c]), ?_, ⟨by omega, by omega⟩, ?_, ?_, ?_⟩
  · show (yI s2, 0, yP s2, yL s2, yV s2, uXs (yN s2) (vXs (yN s2) ++ [c])) = (yI s2, 0, yP s0, yL s0, yV s0 + (l + l'), uXs (yN s0) (vXs (yN s0) ++ (cs ++ (cs' ++ [c]))))
    rw [b1, b2, b3, b4, a1, a2, a3, a4, Nat.add_assoc]
    show (yI s2, 0, yP s0, yL s0, yV s0 + (l + l'), uXs (yN s0) (vXs (yN s0) ++ cs ++ cs' ++ [c])) = _
    rw [List.append_assoc, List.append_assoc]
  · rw [List.length_append, List.length_append, List.length_singleton, Nat.mul_add]; omega
  · intro x hx
    rcases List.mem_append.mp hx with z | z
    · exact h2 x z
    · rcases List.mem_append.mp z with z | z
      · exact h2' x z
      · have := List.mem_singleton.mp z; omega
  · intro e rest he hr
    rw [List.append_assoc, List.append_assoc]
    refine h3 e _ (by omega) (h3' (e + 1) _ (by omega) ?_)
    exact Or.inr (Or.inr ⟨hc.1, hc.2, by omega, hr⟩)
theorem px_l {k1 w1 k2 w2 nr K M : Nat} {A : Ps → Ps} {T : Nat → Prop} (hl : len ≤ 1600) (hk : k1 ≠ 1 ∧ k1 ≠ 2 ∧ k2 ≠ 1 ∧ k2 ≠ 2) (hw : w1 ≤ 3 ∧ w2 ≤ 3) (st : Stk A) (HA : ∀ s, gdX len s → vNr (yN s) = nr → yF (A s) = 0 → PX len nr K M s (A s) ∧ T (kq b len (A s))) (hM : M ≤ 7) : ∀ n s0 s, gdX len s0 → vNr (yN s0) = nr → PX len nr (K + 1) M s0 s → T (kq b len s) → len ≤ yI s + n → yF (zXl b len k1 w1 k2 w2 A n s) = 0 →
    PX len nr (K + 1) M s0 (zXl b len k1 w1 k2 w2 A n s) ∧ T (kq b len (zXl b len k1 w1 k2 w2 A n s)) ∧ kq b len (zXl b len k1 w1 k2 w2 A n s) ≠ k1 ∧ kq b len (zXl b len k1 w1 k2 w2 A n s) ≠ k2 := by
  intro n
  induction n with
  | zero =>
    intro s0 s g0 n0 p t hn _
    rw [zXl]
    have := kq_2 (b := b) p.F (show len ≤ yI s by omega)
    exact ⟨p, t, by omega, by omega⟩
  | succ n ih =>
    intro s0 s g0 n0 p t hn hf
    rw [zXl] at hf ⊢
    by_cases z : kq b len s = k1 ∨ kq b len s = k2
    · rw [if_pos z] at hf ⊢
      have z2 : kd b len (yI s) ≠ 2 := by rw [← kq_0 p.F]; omega
      have hs := nx_s z2
      have eS := zS_0 (b := b) (len := len) p.F
      have gs := (PX.gd g0 p hM).1
      have hnx : nx b len (yI s) ≤ len := nx_le gs.2.1
      have fA : yF (A (zS b len s)) = 0 := by
        apply Classical.byContradiction
        intro q
        have e1 := (st_X (c := 20 + if kq b len s = k1 then w1 else w2) _ q).1
        have e2 := (st_Xl (b := b) (len := len) (k1 := k1) (w1 := w1) (k2 := k2) (w2 := w2) st n (zX (20 + if kq b len s = k1 then w1 else w2) (A (zS b len s))) (by rw [e1]; exact q)).1
        rw [e2, e1] at hf; exact q hf
      obtain ⟨q1, q2⟩ := HA (zS b len s) (by rw [eS]; exact ⟨rfl, hnx, gs.2.2⟩) (by rw [eS]; show vNr (yN s) = nr; rw [p.N.1]; exact n0) fA
      have hc : 20 ≤ 20 + (if kq b len s = k1 then w1 else w2) ∧ 20 + (if kq b len s = k1 then w1 else w2) ≤ 23 := by split <;> omega
      have p2 := PX.j (c := 20 + if kq b len s = k1 then w1 else w2) g0 p (Nat.le_of_lt hs) (q1.st eS) hM hc
      refine ih s0 _ g0 n0 p2 (by rw [kq_X]; exact q2) ?_ hf
      rw [yI_X]
      have := q1.1.1
      rw [eS] at this ⊢
      have this : nx b len (yI s) ≤ _ := this
      omega
    · rw [if_neg z] at hf ⊢
      exact ⟨p, t, by omega, by omega⟩
theorem px_mt {nr K M : Nat} {O : Ps → Ps} (hl : len ≤ 1600) (st : Stk O) (HO : ∀ s, gdX len s → vNr (yN s) = nr → yF (O s) = 0 → PX len nr K M s (O s)) (hM : M ≤ 7) (s : Ps) (g : gdX len s) (n : vNr (yN s) = nr) (hf : yF (zMt b len O s) = 0) : PX len nr (K + 1) M s (zMt b len O s) ∧ kq b len (zMt b len O s) ≠ 109 ∧ kq b len (zMt b len O s) ≠ 110 := by
  have fO : yF (O s) = 0 := by
    apply Classical.byContradiction
    intro q
    have e := (st_Xl (b := b) (len := len) (k1 := 109) (w1 := 1) (k2 := 110) (w2 := 3) st 1600 (O s) q).1
    unfold zMt at hf
    rw [e] at hf; exact q hf
  have p := HO s g n fO
  have := px_l (b := b) (k1 := 109) (w1 := 1) (k2 := 110) (w2 := 3) (T := fun _ => True) hl (by decide) (by decide) st (fun s g n f => ⟨HO s g n f, True.intro⟩) hM 1600 s (O s) g n (p.mo (by omega)) True.intro (by omega) hf
  exact ⟨this.1, this.2.2⟩
theorem px_jn {nr K M : Nat} {O : Ps → Ps} (hl : len ≤ 1600) (st : Stk O) (HO : ∀ s, gdX len s → vNr (yN s) = nr → yF (O s) = 0 → PX len nr K M s (O s)) (hM : M ≤ 7) (s : Ps) (g : gdX len s) (n : vNr (yN s) = nr) (hf : yF (zJn b len O s) = 0) : PX len nr (K + 2) M s (zJn b len O s) ∧ ∀ k, 107 ≤ k → k ≤ 110 → kq b len (zJn b len O s) ≠ k := by
  have stM : Stk (zMt b len O) := st.c (st_Xl st 1600)
  have fO : yF (zMt b len O s) = 0 := by
    apply Classical.byContradiction
    intro q
    have e := (st_Xl (b := b) (len := len) (k1 := 107) (w1 := 0) (k2 := 108) (w2 := 2) stM 1600 (zMt b len O s) q).1
    unfold zJn at hf
    rw [e] at hf; exact q hf
  obtain ⟨p, t⟩ := px_mt hl st HO hM s g n fO
  have := px_l (b := b) (k1 := 107) (w1 := 0) (k2 := 108) (w2 := 2) (T := fun k => k ≠ 109 ∧ k ≠ 110) hl (by decide) (by decide) stM (fun s g n f => px_mt hl st HO hM s g n f) hM 1600 s (zMt b len O s) g n (p.mo (by omega)) t (by omega) hf
  refine ⟨this.1, fun k h1 h2 e => ?_⟩
  have t1 := this.2.1
  have t2 := this.2.2
  have e : kq b len (zXl b len 107 0 108 2 (zMt b len O) 1600 (zMt b len O s)) = k := e
  omega
theorem px_lf {nr K M : Nat} {c : Option Nat} {s : Ps} (g : gdX len s) (hc : ∀ k, c = some k → k < nr ∨ k = 10 ∨ k = 11) (hn : nr ≤ 5) (hK : 1 ≤ K) (hM : 2 ≤ M) (hf : yF (zLf b len c s) = 0) : PX len nr K M s (zLf b len c s) := by
  unfold zLf at hf ⊢
  by_cases z : yV s < 30
  · rw [if_pos z] at hf ⊢
    cases c with
    | none => exact absurd hf (zF_n (by decide))
    | some c =>
      have hc := hc c rfl
      have g3 := g.2.2
      show PX len nr K M s (zS b len (zX c (zV s (yV s + 1))))
      rw [zX_o (s := zV s (yV s + 1)) (by show (vXs (yN s)).length < 256; omega), zS_0 (by exact g.1)]
      refine ⟨⟨?_, nx_le g.2.1⟩, 1, [c], rfl, ⟨by omega, by omega⟩, by simp; omega, fun x hx => by have := List.mem_singleton.mp hx; omega, fun e rest h1 h2 => Or.inl ⟨hc, by omega, h2⟩⟩
      exact Nat.le_trans pl_ge nx_ge
  · rw [if_neg z] at hf
    exact absurd hf (zF_n (by decide))
theorem zE_f {k : Nat} {s : Ps} (hf : yF (zE b len k s) = 0) : yF s = 0 ∧ kq b len s = k := by
  unfold zE at hf
  by_cases z : kq b len s = k
  · rw [if_pos z] at hf
    refine ⟨?_, z⟩
    apply Classical.byContradiction
    intro q
    rw [(st_S s q).1] at hf; exact q hf
  · rw [if_neg z] at hf; exact absurd hf (zF_n (by decide))
theorem px_J (hl : len ≤ 1600) : ∀ D, D ≤ 6 → ∀ s, gdX len s → vNr (yN s) ≤ 5 → (yF ((zJ b len D).1 s) = 0 → PX len (vNr (yN s)) (2 * D) (D + 1) s ((zJ b len D).1 s)) ∧ (yF ((zJ b len D).2 s) = 0 → PX len (vNr (yN s)) (2 * D + 2) (D + 1) s ((zJ b len D).2 s) ∧ ∀ k, 107 ≤ k → k ≤ 110 → kq b len ((zJ b len D).2 s) ≠ k) := by
  have up : ∀ D, D ≤ 6 → (∀ s, gdX len s → vNr (yN s) ≤ 5 → (yF ((zJ b len D).1 s) = 0 → PX len (vNr (yN s)) (2 * D) (D + 1) s ((zJ b len D).1 s))) → ∀ s, gdX len s → vNr (yN s) ≤ 5 → (yF ((zJ b len D).1 s) = 0 → PX len (vNr (yN s)) (2 * D) (D + 1) s ((zJ b len D).1 s)) ∧ (yF ((zJ b len D).2 s) = 0 → PX len (vNr (yN s)) (2 * D + 2) (D + 1) s ((zJ b len D).2 s) ∧ ∀ k, 107 ≤ k → k ≤ 110 → kq b len ((zJ b len D).2 s) ≠ k) := by
    intro D hD H s g n
    refine ⟨H s g n, fun hf => ?_⟩
    rw [zJ_2] at hf ⊢
    exact px_jn hl (st_J D).1 (fun t gt nt ft => by rw [← nt]; exact H t gt (by omega) ft) (by omega) s g rfl hf
  intro D
  induction D with
  | zero =>
    intro hD
    exact up 0 hD (fun s g n hf => absurd hf (zF_n (by decide)))
  | succ D ih =>
    intro hD
    have ih := ih (by omega)
    refine up (D + 1) hD (fun s g n hf => ?_)
    have hf : yF (zOn b len (zJ b len D) s) = 0 := hf
    show PX len (vNr (yN s)) (2 * (D + 1)) (D + 1 + 1) s (zOn b len (zJ b len D) s)
    have eS := zS_0 (b := b) (len := len) g.1
    have g1 : gdX len (zS b len s) := by rw [eS]; exact ⟨rfl, nx_le g.2.1, g.2.2⟩
    have hi : yI s ≤ nx b len (yI s) := Nat.le_trans pl_ge nx_ge
    have up2 : ∀ {l : Nat}, 1 ≤ l → (D + 1) * l + 1 ≤ (D + 1 + 1) * l := fun {l} hl => by rw [Nat.add_mul (D + 1) 1 l]; omega
    unfold zOn at hf ⊢
    by_cases z1 : kq b len s = 4
    · rw [if_pos z1] at hf ⊢
      exact px_lf g (fun k hk => Or.inl (ff_lt hk)) n (by omega) (by omega) hf
    rw [if_neg z1] at hf ⊢
    by_cases z2 : kq b len s = 40
    · rw [if_pos z2] at hf ⊢
      obtain ⟨f2, k2⟩ := zE_f hf
      have p := ((ih (zS b len s) g1 (by rw [eS]; exact n)).2 f2).1
      unfold zE
      rw [if_pos k2, zS_0 f2]
      generalize (zJ b len D).2 (zS b len s) = s2 at *
      rw [eS] at p
      have p2 := (PX.fr hi p).tk (i := nx b len (yI s2)) (Nat.le_trans pl_ge nx_ge) (nx_le p.1.2)
      obtain ⟨a1, l, cs, a2, a3, a4, a5, a6⟩ := p2
      have := up2 a3.1
      exact ⟨a1, l, cs, a2, a3, by omega, a5, fun e rest h1 h2 => a6 e rest (by omega) h2⟩
    rw [if_neg z2] at hf ⊢
    by_cases z3 : kq b len s = 111
    · rw [if_pos z3] at hf ⊢
      rw [zX_F] at hf
      have p := (ih (zS b len s) g1 (by rw [eS]; exact n)).1 hf
      have gg := PX.gd g1 p (by omega)
      generalize (zJ b len D).1 (zS b len s) = s2 at *
      rw [eS] at p
      have p2 := PX.fr hi p
      obtain ⟨a1, l, cs, a2, a3, a4, a5, a6⟩ := p2
      have := up2 a3.1
      have c1 : yP s2 = yP s := by rw [a2]; rfl
      have c2 : yL s2 = yL s := by rw [a2]; rfl
      have c3 : yV s2 = yV s + l := by rw [a2]; rfl
      have c4 : yN s2 = uXs (yN s) (vXs (yN s) ++ cs) := by rw [a2]; rfl
      rw [zX_o (by have := gg.2.1; have := gg.2.2; omega), hf]
      refine ⟨a1, l, cs ++ [12], ?_, a3, by rw [List.length_append, List.length_singleton]; omega, fun x hx => ?_, fun e rest h1 h2 => ?_⟩
      · show (yI s2, 0, yP s2, yL s2, yV s2, uXs (yN s2) (vXs (yN s2) ++ [12])) = (yI s2, 0, yP s, yL s, yV s + l, uXs (yN s) (vXs (yN s) ++ (cs ++ [12])))
        rw [c1, c2, c3, c4]
        show (yI s2, 0, yP s, yL s, yV s + l, uXs (yN s) (vXs (yN s) ++ cs ++ [12])) = _
        rw [List.append_assoc]
      · rcases List.mem_append.mp hx with z | z
        · exact a5 x z
        · have := List.mem_singleton.mp z; omega
      · rw [List.append_assoc]
        exact a6 e _ (by omega) (Or.inr (Or.inl ⟨rfl, by omega, h2⟩))
    rw [if_neg z3] at hf ⊢
    by_cases z4 : kq b len s = 112
    · rw [if_pos z4] at hf ⊢
      exact px_lf g (fun k hk => by injection hk with e; omega) n (by omega) (by omega) hf
    rw [if_neg z4] at hf ⊢
    by_cases z5 : kq b len s = 113
    · rw [if_pos z5] at hf ⊢
      exact px_lf g (fun k hk => by injection hk with e; omega) n (by omega) (by omega) hf
    rw [if_neg z5] at hf
    exact absurd hf (zF_n (by decide))
end
