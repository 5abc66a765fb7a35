/-! What the text of the formula gives. -/
/-- which sign it is, how it binds -/
def sgn (k : Nat) : Option Nat := if k = 42 then some 2 else if k = 47 then some 3 else if k = 37 then some 4 else if k = 43 then some 0 else if k = 45 then some 1 else if k = 60 then some 5 else if k = 62 then some 6 else if k = 61 then some 7 else if k = 109 then some 8 else if k = 107 then some 9 else none
def bwS (w : Nat) : Nat := if w < 2 then 5 else if w < 5 then 6 else if w < 8 then 4 else if w = 8 then 2 else 1
def sgl (L k : Nat) : Option Nat := match sgn k with
  | some w => if bwS w = L then some w else none
  | none => none
theorem sgn_w {k w : Nat} (h : sgn k = some w) : w < 10 ∧ k ≠ 1 ∧ k ≠ 2 ∧ k ≠ 41 ∧ k ≠ 40 ∧ k ≠ 114 := by
  unfold sgn at h
  repeat' split at h
  all_goals first
    | (injection h with e; omega)
    | cases h
theorem sgl_w {L k w : Nat} (h : sgl L k = some w) : sgn k = some w ∧ bwS w = L := by
  unfold sgl at h
  split at h
  · rename_i w' e
    by_cases z : bwS w' = L
    · rw [if_pos z] at h; injection h with e2; subst e2; exact ⟨e, z⟩
    · rw [if_neg z] at h; cases h
  · cases h
theorem sgl_i {k w : Nat} (h : sgn k = some w) : sgl (bwS w) k = some w := by
  unfold sgl; rw [h]; exact if_pos rfl
theorem sgl_6 : ∀ k : Fin 200, sgl 6 k.val = if k.val = 42 ∨ k.val = 47 ∨ k.val = 37 then some (if k.val = 42 then 2 else if k.val = 47 then 3 else 4) else none := by decide +kernel
theorem sgl_5 : ∀ k : Fin 200, sgl 5 k.val = if k.val = 43 ∨ k.val = 45 then some (if k.val = 43 then 0 else 1) else none := by decide +kernel
theorem sgl_4 : ∀ k : Fin 200, sgl 4 k.val = if k.val = 60 ∨ k.val = 62 ∨ k.val = 61 then some (if k.val = 60 then 5 else if k.val = 62 then 6 else 7) else none := by decide +kernel
theorem sgl_2 : ∀ k : Fin 200, sgl 2 k.val = if k.val = 109 then some 8 else none := by decide +kernel
theorem sgl_1 : ∀ k : Fin 200, sgl 1 k.val = if k.val = 107 then some 9 else none := by decide +kernel
def zG (b : Nat → Nat) (len L : Nat) (A : Ps → Ps) : Nat → Ps → Ps
  | 0, s => s
  | n + 1, s => match sgl L (kq b len s) with
    | some w => zG b len L A n (zK (2, w) (A (zS b len s)))
    | none => s
section
variable {b : Nat → Nat} {len : Nat}
theorem zG_y {L n w : Nat} {A : Ps → Ps} {s : Ps} (h : sgl L (kq b len s) = some w) : zG b len L A (n + 1) s = zG b len L A n (zK (2, w) (A (zS b len s))) := by rw [zG, h]
theorem zG_n {L n : Nat} {A : Ps → Ps} {s : Ps} (h : sgl L (kq b len s) = none) : zG b len L A (n + 1) s = s := by rw [zG, h]
theorem zT_G {U : Ps → Ps} : ∀ n s, zT b len U n s = zG b len 6 U n s
  | 0, s => rfl
  | n + 1, s => by
    have e := sgl_6 ⟨kq b len s, kq_lt⟩
    rw [zT]
    by_cases z : kq b len s = 42 ∨ kq b len s = 47 ∨ kq b len s = 37
    · rw [if_pos z] at e ⊢
      rw [zG_y e]; exact zT_G n _
    · rw [if_neg z] at e ⊢
      rw [zG_n e]
theorem zA_G {U : Ps → Ps} : ∀ n s, zA b len U n s = zG b len 5 U n s
  | 0, s => rfl
  | n + 1, s => by
    have e := sgl_5 ⟨kq b len s, kq_lt⟩
    rw [zA]
    by_cases z : kq b len s = 43 ∨ kq b len s = 45
    · rw [if_pos z] at e ⊢
      rw [zG_y e]; exact zA_G n _
    · rw [if_neg z] at e ⊢
      rw [zG_n e]
theorem zO_G2 {U : Ps → Ps} : ∀ n s, zO b len 109 8 U n s = zG b len 2 U n s
  | 0, s => rfl
  | n + 1, s => by
    have e := sgl_2 ⟨kq b len s, kq_lt⟩
    rw [zO]
    by_cases z : kq b len s = 109
    · rw [if_pos z] at e ⊢
      rw [zG_y e]; exact zO_G2 n _
    · rw [if_neg z] at e ⊢
      rw [zG_n e]
theorem zO_G1 {U : Ps → Ps} : ∀ n s, zO b len 107 9 U n s = zG b len 1 U n s
  | 0, s => rfl
  | n + 1, s => by
    have e := sgl_1 ⟨kq b len s, kq_lt⟩
    rw [zO]
    by_cases z : kq b len s = 107
    · rw [if_pos z] at e ⊢
      rw [zG_y e]; exact zO_G1 n _
    · rw [if_neg z] at e ⊢
      rw [zG_n e]
theorem zTm_G {U : Ps → Ps} : zTm b len U = fun s => zG b len 6 U 1600 (U s) := funext fun s => zT_G 1600 (U s)
theorem zSm_G {U : Ps → Ps} : zSm b len U = fun s => zG b len 5 (zTm b len U) 1600 (zTm b len U s) := funext fun s => zA_G 1600 (zTm b len U s)
theorem zAnd_G {U : Ps → Ps} : zAnd b len U = fun s => zG b len 2 U 1600 (U s) := funext fun s => zO_G2 1600 (U s)
theorem zOr_G {U : Ps → Ps} : zOr b len U = fun s => zG b len 1 (zAnd b len U) 1600 (zAnd b len U s) := funext fun s => zO_G1 1600 (zAnd b len U s)
theorem zC_y {U : Ps → Ps} {s : Ps} {w : Nat} (h : sgl 4 (kq b len (zSm b len U s)) = some w) : zC b len U s = zK (2, w) (zSm b len U (zS b len (zSm b len U s))) := by
  have e := sgl_4 ⟨kq b len (zSm b len U s), kq_lt⟩
  unfold zC
  rw [h] at e
  by_cases z : kq b len (zSm b len U s) = 60 ∨ kq b len (zSm b len U s) = 62 ∨ kq b len (zSm b len U s) = 61
  · rw [if_pos z] at e ⊢
    injection e with e
    rw [e]
  · rw [if_neg z] at e; cases e
theorem zC_n {U : Ps → Ps} {s : Ps} (h : sgl 4 (kq b len (zSm b len U s)) = none) : zC b len U s = zSm b len U s := by
  have e := sgl_4 ⟨kq b len (zSm b len U s), kq_lt⟩
  unfold zC
  rw [h] at e
  by_cases z : kq b len (zSm b len U s) = 60 ∨ kq b len (zSm b len U s) = 62 ∨ kq b len (zSm b len U s) = 61
  · rw [if_pos z] at e; cases e
  · rw [if_neg z]
theorem st_G {L : Nat} {A : Ps → Ps} (a : Stk A) : ∀ n, Stk (zG b len L A n)
  | 0 => fun _ _ => ⟨rfl, rfl⟩
  | n + 1 => fun s h => by
    cases z : sgl L (kq b len s) with
    | none => rw [zG_n z]; exact ⟨rfl, rfl⟩
    | some w =>
      rw [zG_y z]
      exact (((st_S (b := b) (len := len)).c a).c (st_K (c := (2, w)))).c (st_G a n) s h
theorem zK_o {k : Kp} {s : Ps} (h : (vKs (yN s)).length < 320) : zK k s = (yI s, yF s, yP s, yL s, yV s, uKs (yN s) (vKs (yN s) ++ [k])) := if_pos h
theorem kq_K {k : Kp} {s : Ps} : kq b len (zK k s) = kq b len s := by
  unfold zK
  split <;> rfl
theorem yI_K {k : Kp} {s : Ps} : yI (zK k s) = yI s := by
  unfold zK
  split <;> rfl
theorem zK_F {k : Kp} {s : Ps} : yF (zK k s) = yF s := by unfold zK; split <;> rfl
def gdK (len : Nat) (s : Ps) : Prop := yF s = 0 ∧ yI s ≤ len ∧ (vKs (yN s)).length ≤ 9 * vUn (yN s) ∧ vUn (yN s) ≤ 30
def PK (len M : Nat) (s s' : Ps) : Prop := (yI s ≤ yI s' ∧ yI s' ≤ len) ∧ ∃ u ks, s' = (yI s', 0, yP s, yL s, yV s, uUn (uKs (yN s) (vKs (yN s) ++ ks)) (vUn (yN s) + u)) ∧ (1 ≤ u ∧ vUn (yN s) + u ≤ 30) ∧ ks.length + 1 ≤ M * u ∧ ∀ e rest, e + u ≤ 32 → kok rest (e + 1) → kok (ks ++ rest) e
theorem PK.F {M : Nat} {s s' : Ps} (p : PK len M s s') : yF s' = 0 := by
  obtain ⟨-, l, cs, e, -⟩ := p
  rw [e]; rfl
theorem PK.N {M : Nat} {s s' : Ps} (p : PK len M s s') : vXs (yN s') = vXs (yN s) ∧ yV s' = yV s := by
  obtain ⟨-, l, cs, e, -⟩ := p
  rw [e]; exact ⟨rfl, rfl⟩
theorem PK.gd {M : Nat} {s s' : Ps} (g : gdK len s) (p : PK len M s s') (hM : M ≤ 9) : gdK len s' ∧ (vKs (yN s')).length < 9 * vUn (yN s') := by
  have pF := p.F
  obtain ⟨⟨p1, p2⟩, l, cs, e, ⟨l1, l2⟩, h1, h2⟩ := p
  have hm : M * l ≤ 9 * l := Nat.mul_le_mul_right l hM
  have hx : (vKs (yN s')).length = (vKs (yN s)).length + cs.length := by rw [e]; exact List.length_append
  have hv : vUn (yN s') = vUn (yN s) + l := by rw [e]; rfl
  have g3 := g.2.2.1
  refine ⟨⟨pF, p2, by rw [hx, hv]; omega, by rw [hv]; exact l2⟩, by rw [hx, hv]; omega⟩
theorem PK.fr {M i : Nat} {s s' : Ps} (h : yI s ≤ i) (p : PK len M (i, 0, yP s, yL s, yV s, yN s) s') : PK len M s s' := by
  obtain ⟨⟨p1, p2⟩, l, cs, e, q⟩ := p
  exact ⟨⟨Nat.le_trans h p1, p2⟩, l, cs, e, q⟩
theorem PK.st {M : Nat} {s t s' : Ps} (p : PK len M s s') (e : s = t) : PK len M t s' := by subst e; exact p
theorem PK.j {M w i : Nat} {s0 s1 s2 : Ps} (g0 : gdK len s0) (p : PK len M s0 s1) (hi : yI s1 ≤ i) (q : PK len M (i, 0, yP s1, yL s1, yV s1, yN s1) s2) (hM : M ≤ 9) (hw : w < 10) : PK len M s0 (zK (2, w) s2) := by
  have g1 := (PK.gd g0 p hM)
  have g2 := PK.gd (s := (i, 0, yP s1, yL s1, yV s1, yN s1)) ⟨rfl, Nat.le_trans q.1.1 q.1.2, g1.1.2.2⟩ q hM
  have hx : (vKs (yN s2)).length < 320 := by have := g2.1.2.2.2; have := g2.2; omega
  have q0 := q.F
  obtain ⟨⟨p1, p2⟩, l, cs, e, ⟨l1, l2⟩, h1, h3⟩ := p
  obtain ⟨⟨q1, q2⟩, l', cs', e', ⟨l1', l2'⟩, h1', h3'⟩ := q
  have a1 : yP s1 = yP s0 := by rw [e]; rfl
  have a2 : yL s1 = yL s0 := by rw [e]; rfl
  have a3 : yV s1 = yV s0 := by rw [e]; rfl
  have a4 : yN s1 = uUn (uKs (yN s0) (vKs (yN s0) ++ cs)) (vUn (yN s0) + l) := by rw [e]; rfl
  have b1 : yP s2 = yP s1 := by rw [e']; rfl
  have b2 : yL s2 = yL s1 := by rw [e']; rfl
  have b3 : yV s2 = yV s1 := by rw [e']; rfl
  have b4 : yN s2 = uUn (uKs (yN s1) (vKs (yN s1) ++ cs')) (vUn (yN s1) + l') := by rw [e']; rfl
  have l2' : vUn (yN s1) + l' ≤ 30 := l2'
  have a5 : vUn (yN s1) = vUn (yN s0) + l := by rw [a4]; rfl
  have q1 : i ≤ yI s2 := q1
  rw [zK_o hx, q0]
  refine ⟨⟨by show yI s0 ≤ yI s2; omega, q2⟩, l + l', cs ++ (cs' ++ [(2, w)]), ?_, ⟨by omega, by omega⟩, ?_, ?_⟩
  · show (yI s2, 0, yP s2, yL s2, yV s2, uKs (yN s2) (vKs (yN s2) ++ [(2, w)])) = (yI s2, 0, yP s0, yL s0, yV s0, uUn (uKs (yN s0) (vKs (yN s0) ++ (cs ++ (cs' ++ [(2, w)])))) (vUn (yN s0) + (l + l')))
    rw [b1, b2, b3, b4, a1, a2, a3, a4]
    show (yI s2, 0, yP s0, yL s0, yV s0, uUn (uKs (yN s0) (vKs (yN s0) ++ cs ++ cs' ++ [(2, w)])) (vUn (yN s0) + l + l')) = _
    rw [List.append_assoc, List.append_assoc, Nat.add_assoc]
  · rw [List.length_append, List.length_append, List.length_singleton, Nat.mul_add]; omega
  · intro e rest he hr
    rw [List.append_assoc, List.append_assoc]
    refine h3 e _ (by omega) (h3' (e + 1) _ (by omega) ?_)
    exact ⟨Or.inr (Or.inr (Or.inl ⟨rfl, hw⟩)), Or.inr (Or.inl ⟨rfl, by omega, hr⟩)⟩
theorem pk_l {L M : Nat} {A : Ps → Ps} (st : Stk A) (HA : ∀ s, gdK len s → yF (A s) = 0 → PK len M s (A s)) (hM : M ≤ 9) : ∀ n s0 s, gdK len s0 → PK len M s0 s → yF (zG b len L A n s) = 0 → PK len M s0 (zG b len L A n s) := by
  intro n
  induction n with
  | zero => intro s0 s g0 p hf; exact p
  | succ n ih =>
    intro s0 s g0 p hf
    cases z : sgl L (kq b len s) with
    | none => rw [zG_n z]; exact p
    | some w =>
      rw [zG_y z] at hf ⊢
      have sw := sgn_w (sgl_w z).1
      have z2 : kd b len (yI s) ≠ 2 := by rw [← kq_0 p.F]; exact sw.2.2.1
      have hs := nx_s z2
      have eS := zS_0 (b := b) (len := len) p.F
      have gs := (PK.gd g0 p hM).1
      have fA : yF (A (zS b len s)) = 0 := by
        apply Classical.byContradiction
        intro q
        have e1 := (st_K (c := (2, w)) _ q).1
        have e2 := (st_G (b := b) (len := len) (L := L) st n (zK (2, w) (A (zS b len s))) (by rw [e1]; exact q)).1
        rw [e2, e1] at hf; exact q hf
      have q1 := HA (zS b len s) (by rw [eS]; exact ⟨rfl, nx_le gs.2.1, gs.2.2⟩) fA
      exact ih s0 _ g0 (PK.j g0 p (Nat.le_of_lt hs) (q1.st eS) hM sw.1) hf
theorem pk_g {L M : Nat} {A : Ps → Ps} (st : Stk A) (HA : ∀ s, gdK len s → yF (A s) = 0 → PK len M s (A s)) (hM : M ≤ 9) (s : Ps) (g : gdK len s) (hf : yF (zG b len L A 1600 (A s)) = 0) : PK len M s (zG b len L A 1600 (A s)) := by
  have fA : yF (A s) = 0 := by
    apply Classical.byContradiction
    intro q
    have e2 := (st_G (b := b) (len := len) (L := L) st 1600 (A s) q).1
    rw [e2] at hf; exact q hf
  exact pk_l st HA hM 1600 s (A s) g (HA s g fA) hf
theorem pk_Tm {M : Nat} {U : Ps → Ps} (st : Stk U) (HA : ∀ s, gdK len s → yF (U s) = 0 → PK len M s (U s)) (hM : M ≤ 9) (s : Ps) (g : gdK len s) (hf : yF (zTm b len U s) = 0) : PK len M s (zTm b len U s) := by
  rw [zTm_G] at hf ⊢
  exact pk_g st HA hM s g hf
theorem pk_Sm {M : Nat} {U : Ps → Ps} (st : Stk U) (HA : ∀ s, gdK len s → yF (U s) = 0 → PK len M s (U s)) (hM : M ≤ 9) (s : Ps) (g : gdK len s) (hf : yF (zSm b len U s) = 0) : PK len M s (zSm b len U s) := by
  rw [zSm_G] at hf ⊢
  exact pk_g (st_Tm st) (fun s g f => pk_Tm st HA hM s g f) hM s g hf
theorem pk_C {M : Nat} {U : Ps → Ps} (st : Stk U) (HA : ∀ s, gdK len s → yF (U s) = 0 → PK len M s (U s)) (hM : M ≤ 9) (s : Ps) (g : gdK len s) (hf : yF (zC b len U s) = 0) : PK len M s (zC b len U s) := by
  cases z : sgl 4 (kq b len (zSm b len U s)) with
  | none =>
    rw [zC_n z] at hf ⊢
    exact pk_Sm st HA hM s g hf
  | some w =>
    rw [zC_y z] at hf ⊢
    rw [zK_F] at hf
    have sw := sgn_w (sgl_w z).1
    have f1 : yF (zSm b len U s) = 0 := by
      apply Classical.byContradiction
      intro q
      rw [kq_F q] at z
      exact sw.2.1 (kq_F q)
    have p := pk_Sm st HA hM s g f1
    have gs := (PK.gd g p hM).1
    have eS := zS_0 (b := b) (len := len) f1
    have z2 : kd b len (yI (zSm b len U s)) ≠ 2 := by rw [← kq_0 f1]; exact sw.2.2.1
    have q1 := pk_Sm (b := b) st HA hM (zS b len (zSm b len U s)) (by rw [eS]; exact ⟨rfl, nx_le gs.2.1, gs.2.2⟩) hf
    exact PK.j g p (Nat.le_of_lt (nx_s z2)) (q1.st eS) hM sw.1
theorem pk_Or {M : Nat} {N : Ps → Ps} (st : Stk N) (HA : ∀ s, gdK len s → yF (N s) = 0 → PK len M s (N s)) (hM : M ≤ 9) : (∀ s, gdK len s → yF (zAnd b len N s) = 0 → PK len M s (zAnd b len N s)) ∧ ∀ s, gdK len s → yF (zOr b len N s) = 0 → PK len M s (zOr b len N s) := by
  have a : ∀ s, gdK len s → yF (zAnd b len N s) = 0 → PK len M s (zAnd b len N s) := fun s g hf => by
    rw [zAnd_G] at hf ⊢
    exact pk_g st HA hM s g hf
  refine ⟨a, fun s g hf => ?_⟩
  rw [zOr_G] at hf ⊢
  exact pk_g (st_And st) a hM s g hf
theorem zM_o {lo hi : Nat} {s : Ps} (hf : yF s = 0) (hk : kd b len (yI s) = 3) (h : ¬ (nv b len (yI s) < lo ∨ hi < nv b len (yI s))) : zM b len lo hi s = (nv b len (yI s), zS b len s) := by
  unfold zM
  rw [if_pos (by rw [kq_0 hf]; exact hk), if_neg h]
theorem nv_lt {i : Nat} (hk : kd b len i = 3) : nv b len i ≤ 9999 := by
  unfold kd at hk
  by_cases z1 : len ≤ pl b len i
  · rw [if_pos z1] at hk; omega
  rw [if_neg z1] at hk
  by_cases z2 : isLe (bt b len (pl b len i)) = true
  · rw [if_pos z2] at hk
    split at hk
    · omega
    · rcases kwf_r (w := wv b len i) 18 with e | e <;> omega
  rw [if_neg z2] at hk
  by_cases z3 : isDi (bt b len (pl b len i)) = true
  · rw [if_pos z3] at hk
    by_cases z4 : 4 < nx b len i - pl b len i ∨ isLe (bt b len (nx b len i)) = true
    · rw [if_pos z4] at hk; omega
    · have en : nx b len i = rn (pDi b len) 1600 (pl b len i) := by unfold nx; rw [if_neg z1, if_neg z2, if_pos z3]
      have := nvv_lt (b := b) (i := pl b len i) (nx b len i - pl b len i) (fun j hj => by
        have := rn_in (p := pDi b len) 1600 (pl b len i) (pl b len i + j) (by omega) (by rw [← en]; omega)
        exact (pDi_b this).2)
      have p8 : 10 ^ (nx b len i - pl b len i) ≤ 10 ^ 4 := Nat.pow_le_pow_right (by decide) (by omega)
      unfold nv
      omega
  · rw [if_neg z3] at hk
    split at hk
    · rename_i w; have := isSi_r w; omega
    · omega
/-- one more unit -/
def zU1 (s : Ps) : Ps := zN s (uUn (yN s) (vUn (yN s) + 1))
theorem zUn_3 {B : Ps → Ps} {s : Ps} (g : gdK len s) (hu : vUn (yN s) < 30) (hk : kd b len (yI s) = 3) : zUn b len B s = (nx b len (yI s), 0, yP s, yL s, yV s, uUn (uKs (yN s) (vKs (yN s) ++ [(0, nv b len (yI s))])) (vUn (yN s) + 1)) := by
  have n9 := nv_lt hk
  have f1 : yF (zU1 s) = 0 := g.1
  have m := zM_o (b := b) (len := len) (lo := 0) (hi := 9999) (s := zU1 s) f1 hk (by show ¬ (nv b len (yI s) < 0 ∨ 9999 < nv b len (yI s)); omega)
  unfold zUn
  rw [if_pos hu, if_pos (by rw [kq_0 g.1]; exact hk)]
  show zK (0, (zM b len 0 9999 (zU1 s)).1) (zM b len 0 9999 (zU1 s)).2 = _
  have g3 := g.2.2.1
  rw [m, zS_0 f1]
  exact zK_o (by show (vKs (yN s)).length < 320; omega)
theorem zUn_a {B : Ps → Ps} {s : Ps} {j : Nat} (g : gdK len s) (hu : vUn (yN s) < 30) (hk : kd b len (yI s) = 115 + j) (hj : j < 3) : zUn b len B s = (nx b len (yI s), 0, yP s, yL s, yV s, uUn (uKs (yN s) (vKs (yN s) ++ [(1, j)])) (vUn (yN s) + 1)) := by
  have ek := kq_0 (b := b) (len := len) g.1
  have g3 := g.2.2.1
  unfold zUn
  rw [if_pos hu, ek, if_neg (by omega), if_neg (by omega), if_pos (by omega), hk, Nat.add_sub_cancel_left]
  show zS b len (zK (1, j) (zU1 s)) = _
  rw [zK_o (s := zU1 s) (by show (vKs (yN s)).length < 320; omega)]
  exact zS_0 (by exact g.1)
theorem pk_Un {M : Nat} {B : Ps → Ps} {s : Ps} (hM : 2 ≤ M) (g : gdK len s) (HB : kd b len (yI s) = 40 → vUn (yN s) < 30 → yF (B (zU1 s)) = 0 → PK len M s (B (zU1 s))) (hf : yF (zUn b len B s) = 0) : PK len M s (zUn b len B s) := by
  have ek := kq_0 (b := b) (len := len) g.1
  by_cases hu : vUn (yN s) < 30
  · by_cases k3 : kd b len (yI s) = 3
    · rw [zUn_3 g hu k3]
      have n9 := nv_lt k3
      exact ⟨⟨Nat.le_trans pl_ge nx_ge, nx_le g.2.1⟩, 1, [(0, nv b len (yI s))], rfl, ⟨by omega, by omega⟩, by simp; omega, fun e rest h1 h2 => ⟨Or.inl ⟨rfl, by show nv b len (yI s) < 10000; omega⟩, Or.inl ⟨by show 0 < 2; omega, by omega, h2⟩⟩⟩
    by_cases k40 : kd b len (yI s) = 40
    · have e : zUn b len B s = B (zU1 s) := by unfold zUn; rw [if_pos hu, ek, if_neg k3, if_pos k40]; rfl
      rw [e] at hf ⊢
      exact HB k40 hu hf
    by_cases ka : kd b len (yI s) = 115 ∨ kd b len (yI s) = 116 ∨ kd b len (yI s) = 117
    · rw [zUn_a (j := kd b len (yI s) - 115) g hu (by omega) (by omega)]
      exact ⟨⟨Nat.le_trans pl_ge nx_ge, nx_le g.2.1⟩, 1, [(1, kd b len (yI s) - 115)], rfl, ⟨by omega, by omega⟩, by simp; omega, fun e rest h1 h2 => ⟨Or.inr (Or.inl ⟨rfl, by show kd b len (yI s) - 115 < 3; omega⟩), Or.inl ⟨by show 1 < 2; omega, by omega, h2⟩⟩⟩
    · have e : zUn b len B s = zF b len 2 (zU1 s) := by unfold zUn; rw [if_pos hu, ek, if_neg k3, if_neg k40, if_neg ka]; rfl
      rw [e] at hf
      exact absurd hf (zF_n (by decide))
  · have e : zUn b len B s = zF b len 2 s := by unfold zUn; rw [if_neg hu]
    rw [e] at hf
    exact absurd hf (zF_n (by decide))
theorem zD_n0 {s : Ps} (hk : kq b len s = 114) : (zD b len 0).1 s = zF b len 2 s := if_pos hk
theorem zD_n1 {D : Nat} {s : Ps} (hk : kq b len s = 114) : (zD b len (D + 1)).1 s = zK (3, 0) ((zD b len D).1 (zS b len s)) := if_pos hk
theorem pk_D : ∀ D, D ≤ 7 → (∀ s, gdK len s → yF ((zD b len D).1 s) = 0 → PK len (D + 2) s ((zD b len D).1 s)) ∧ (∀ s, gdK len s → yF ((zD b len D).2 s) = 0 → PK len (D + 2) s ((zD b len D).2 s)) ∧ (∀ s, gdK len s → vUn (yN s) < 30 → kd b len (yI s) = 40 → yF (zB b len D (zU1 s)) = 0 → PK len (D + 2) s (zB b len D (zU1 s))) := by
  have up : ∀ {D l : Nat}, 1 ≤ l → (D + 2) * l + 1 ≤ (D + 1 + 2) * l := fun {D l} hl => by rw [show D + 1 + 2 = D + 2 + 1 from rfl, Nat.add_mul (D + 2) 1 l]; omega
  have fin : ∀ D, D ≤ 7 → (∀ s, gdK len s → vUn (yN s) < 30 → kd b len (yI s) = 40 → yF (zB b len D (zU1 s)) = 0 → PK len (D + 2) s (zB b len D (zU1 s))) → (∀ s, gdK len s → kq b len s = 114 → yF ((zD b len D).1 s) = 0 → PK len (D + 2) s ((zD b len D).1 s)) → (∀ s, gdK len s → yF ((zD b len D).1 s) = 0 → PK len (D + 2) s ((zD b len D).1 s)) ∧ (∀ s, gdK len s → yF ((zD b len D).2 s) = 0 → PK len (D + 2) s ((zD b len D).2 s)) := by
    intro D hD HB HN
    have H1 : ∀ s, gdK len s → yF ((zD b len D).1 s) = 0 → PK len (D + 2) s ((zD b len D).1 s) := fun s g hf => by
      by_cases z : kq b len s = 114
      · exact HN s g z hf
      · rw [zD_1 b len D s z] at hf ⊢
        exact pk_C (st_Un (st_D D).2.2) (fun s g f => pk_Un (by omega) g (fun h1 h2 h3 => HB s g h2 h1 h3) f) (by omega) s g hf
    refine ⟨H1, fun s g hf => ?_⟩
    rw [zD_2] at hf ⊢
    exact (pk_Or (st_D D).1 H1 (by omega)).2 s g hf
  intro D
  induction D with
  | zero =>
    intro hD
    have HB : ∀ s, gdK len s → vUn (yN s) < 30 → kd b len (yI s) = 40 → yF (zB b len 0 (zU1 s)) = 0 → PK len (0 + 2) s (zB b len 0 (zU1 s)) := fun s g _ _ hf => absurd hf (zF_n (by decide))
    obtain ⟨a1, a2⟩ := fin 0 hD HB (fun s g hk hf => by rw [zD_n0 hk] at hf; exact absurd hf (zF_n (by decide)))
    exact ⟨a1, a2, HB⟩
  | succ D ih =>
    intro hD
    obtain ⟨i1, i2, -⟩ := ih (by omega)
    have HB : ∀ s, gdK len s → vUn (yN s) < 30 → kd b len (yI s) = 40 → yF (zB b len (D + 1) (zU1 s)) = 0 → PK len (D + 1 + 2) s (zB b len (D + 1) (zU1 s)) := fun s g hu k40 hf => by
      have f1 : yF (zU1 s) = 0 := g.1
      have g3 := g.2.2.1
      have eS := zS_0 (b := b) (len := len) f1
      have hf : yF (zE b len 41 ((zD b len D).2 (zS b len (zU1 s)))) = 0 := hf
      show PK len (D + 1 + 2) s (zE b len 41 ((zD b len D).2 (zS b len (zU1 s))))
      obtain ⟨f2, k2⟩ := zE_f hf
      have p := i2 (zS b len (zU1 s)) (by rw [eS]; exact ⟨rfl, nx_le g.2.1, by show (vKs (yN s)).length ≤ 9 * (vUn (yN s) + 1); omega, hu⟩) f2
      unfold zE
      rw [if_pos k2, zS_0 f2]
      generalize (zD b len D).2 (zS b len (zU1 s)) = s2 at *
      rw [eS] at p
      obtain ⟨⟨p1, p2⟩, l, cs, e, ⟨l1, l2⟩, h1, h3⟩ := p
      have a1 : yP s2 = yP s := by rw [e]; rfl
      have a2 : yL s2 = yL s := by rw [e]; rfl
      have a3 : yV s2 = yV s := by rw [e]; rfl
      have a4 : yN s2 = uUn (uKs (yN s) (vKs (yN s) ++ cs)) (vUn (yN s) + (l + 1)) := by rw [e, Nat.add_comm l 1, ← Nat.add_assoc]; rfl
      have l2 : vUn (yN s) + 1 + l ≤ 30 := l2
      have p1 : nx b len (yI s) ≤ yI s2 := p1
      have q1 : yI s ≤ nx b len (yI s) := Nat.le_trans pl_ge nx_ge
      have q2 : yI s2 ≤ nx b len (yI s2) := Nat.le_trans pl_ge nx_ge
      refine ⟨⟨by show yI s ≤ nx b len (yI s2); omega, nx_le p2⟩, l + 1, cs, ?_, ⟨by omega, by omega⟩, ?_, fun e rest h1 h2 => h3 e rest (by omega) h2⟩
      · show (nx b len (yI s2), 0, yP s2, yL s2, yV s2, yN s2) = (nx b len (yI s2), 0, yP s, yL s, yV s, uUn (uKs (yN s) (vKs (yN s) ++ cs)) (vUn (yN s) + (l + 1)))
        rw [a1, a2, a3, a4]
      · have := up (D := D) l1
        rw [Nat.mul_add]; omega
    have HN : ∀ s, gdK len s → kq b len s = 114 → yF ((zD b len (D + 1)).1 s) = 0 → PK len (D + 1 + 2) s ((zD b len (D + 1)).1 s) := fun s g hk hf => by
      rw [zD_n1 hk] at hf ⊢
      rw [zK_F] at hf
      have eS := zS_0 (b := b) (len := len) g.1
      have g1 : gdK len (zS b len s) := by rw [eS]; exact ⟨rfl, nx_le g.2.1, g.2.2⟩
      have p := i1 (zS b len s) g1 hf
      have gg := PK.gd g1 p (by omega)
      generalize (zD b len D).1 (zS b len s) = s2 at *
      rw [eS] at p
      obtain ⟨a1, l, cs, a2, a3, a4, a6⟩ := PK.fr (s := s) (Nat.le_trans pl_ge nx_ge) p
      have := up (D := D) a3.1
      have c1 : yP s2 = yP s := by rw [a2]; rfl
      have c2 : yL s2 = yL s := by rw [a2]; rfl
      have c3 : yV s2 = yV s := by rw [a2]; rfl
      have c4 : yN s2 = uUn (uKs (yN s) (vKs (yN s) ++ cs)) (vUn (yN s) + l) := by rw [a2]; rfl
      rw [zK_o (by have := gg.1.2.2.2; have := gg.2; omega), hf]
      refine ⟨a1, l, cs ++ [(3, 0)], ?_, a3, by rw [List.length_append, List.length_singleton]; omega, fun e rest h1 h2 => ?_⟩
      · show (yI s2, 0, yP s2, yL s2, yV s2, uKs (yN s2) (vKs (yN s2) ++ [(3, 0)])) = (yI s2, 0, yP s, yL s, yV s, uUn (uKs (yN s) (vKs (yN s) ++ (cs ++ [(3, 0)]))) (vUn (yN s) + l))
        rw [c1, c2, c3, c4]
        show (yI s2, 0, yP s, yL s, yV s, uUn (uKs (yN s) (vKs (yN s) ++ cs ++ [(3, 0)])) (vUn (yN s) + l)) = _
        rw [List.append_assoc]
      · rw [List.append_assoc]
        exact a6 e _ (by omega) ⟨Or.inr (Or.inr (Or.inr rfl)), Or.inr (Or.inr ⟨rfl, by omega, h2⟩)⟩
    obtain ⟨a1, a2⟩ := fin (D + 1) hD HB HN
    exact ⟨a1, a2, HB⟩
end
