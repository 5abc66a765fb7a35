/-! The plain form's reader: joined ones. -/
/-- ahead of a sign; a z is done; ahead of a z -/
def cX (h : MH) (m : Nat) (Q : Option Value → MH → Prop) (f : Nat → Nat → Int32) (g : Nat → Nat → Int64) : Prop := wp (ev M_Mo_x 0 11 [some (.ref m), some (.int (nI 1)), none] [] (wI (wL h g) f)) Q
def cT (h : MH) (m : Nat) (Q : Option Value → MH → Prop) (f : Nat → Nat → Int32) (g : Nat → Nat → Int64) : Prop := wp (ev M_Mo_turnsDone 0 1 [some (.ref m)] [] (wI (wL h g) f)) (fun v H => v = none ∧ wp (ev M_Mo_x 0 11 [some (.ref m), some (.int (nI 1)), none] [] H) Q)
def cZ (h : MH) (m : Nat) (Q : Option Value → MH → Prop) (f : Nat → Nat → Int32) (g : Nat → Nat → Int64) : Prop := wp (ev M_Mo_z 0 3 [some (.ref m), some (.int (nI 1))] [] (wI (wL h g) f)) (fun v H => v = none ∧ wp (ev M_Mo_x 0 11 [some (.ref m), some (.int (nI 1)), none] [] H) Q)
def mcs (r : List Nat) : List Int32 := (r.map (fun c => nI (mcd c))).reverse
theorem mcs_c (c : Nat) (r : List Nat) : mcs (c :: r) = mcs r ++ [nI (mcd c)] := by unfold mcs; rw [List.map_cons, List.reverse_cons]
theorem mcs_a (r : List Nat) (c : Nat) : mcs (r ++ [c]) = nI (mcd c) :: mcs r := by unfold mcs; rw [List.map_append, List.reverse_append]; rfl
def okr (L : Nat) (r : List Nat) : Prop := ∀ c, c ∈ r → (20 ≤ c ∧ c ≤ 23) ∧ L ≤ tgt (nI (mcd c))
def wlx (L : Nat) (x : Int32) : Prop := tgt x < L ∧ ¬ x = nI 24
theorem LstP.w {P R : Int32 → Prop} {O : List Int32} (a : LstP O P) (i : ∀ x, P x → R x) : LstP O R := by
  rcases a with z | ⟨O', x, z, hx⟩
  · exact Or.inl z
  · exact Or.inr ⟨O', x, z, i x hx⟩
section
variable {h : MH} {f f0 : Nat → Nat → Int32} {g g0 : Nat → Nat → Int64} {m : Nat} {b : Nat → Nat} {len i : Nat} {O : List Int32} {dp d : Nat} {cs : List Nat} {ks : List Kp} {un lv nr : Nat} {nm : Nat → Nat} {s : Ps} {Q : Option Value → MH → Prop}
theorem me_x {on : Int32} {c p : Nat} (C : MSH h m) (R : RE f0 g0 f g m c p) (q : Q none (wI (wL h g) f)) : wp (ev M_Mo_x 0 11 [some (.ref m), some (.int on), none] [] (wI (wL h g) f)) Q := by
  have mc := C.1
  have t : wp (ev M_Mo_x 0 76 [some (.ref m), none, none] [] (wI (wL h g) f)) Q := by
    rw [r_Mo_x_76]
    refine wp_isC mc (wp_rIe (me_good C R) (wp_bt rfl ?_))
    rw [r_Mo_x_86]
    exact wp_isC mc (wp_rIe (me_good C R) (wp_bt rfl (wp_s q)))
  rw [r_Mo_x_11]
  by_cases z : on = nI 0
  · exact wp_bt z t
  · exact wp_bf z (wp_isC mc (wp_rIe (me_good C R) (wp_bt rfl t)))
/-- signs are done down to the open ones -/
theorem mr_closes {L : Nat} (C : MSH h m) (hL : L < 10) (hs : LstP O (fun x => tgt x < L)) : ∀ r cs f, okr L r → cs.length + r.length < 260 → RR f0 g0 f g m b len i (O ++ mcs r) dp cs ks un lv → ∃ f', ev M_Mo_closesTo 0 0 [some (.ref m), some (.int (nI L))] [] (wI (wL h g) f) = some (none, wI (wL h g) f') ∧ RR f0 g0 f' g m b len i O dp (cs ++ r) ks un lv := by
  intro r
  induction r with
  | nil =>
    intro cs f _ _ R
    have R : RR f0 g0 f g m b len i (O ++ []) dp cs ks un lv := R
    rw [List.append_nil] at R
    rw [List.append_nil]
    exact ⟨f, by rw [r_Mo_closesTo_0]; exact mr_closeStop C R hs hL, R⟩
  | cons c r ih =>
    intro cs f ok hl R
    rw [mcs_c, ← List.append_assoc] at R
    rw [List.length_cons] at hl
    obtain ⟨f1, a1, R1⟩ := mr_closePop (least := L) C R (by omega) (ok c (List.mem_cons_self ..)).2
    obtain ⟨f2, a2, R2⟩ := ih (cs ++ [c]) f1 (fun x hx => ok x (List.mem_cons_of_mem _ hx)) (by rw [len_1]; omega) R1
    refine ⟨f2, ?_, by rw [List.append_assoc] at R2; exact R2⟩
    rw [r_Mo_closesTo_0] at a2 ⊢
    exact wp_e (a1 _ (wp_of a2 ⟨rfl, rfl⟩))
theorem mr_join (C : MSH h m) (R : RR f0 g0 f g m b len i O dp cs ks un lv) : ev M_Mo_joinHere 0 0 [some (.ref m)] [] (wI (wL h g) f) = some (some (.int (if kd b len i = 107 then nI 20 else if kd b len i = 108 then nI 21 else if kd b len i = 109 then nI 22 else if kd b len i = 110 then nI 23 else mI 1)), wI (wL h g) f) := by
  have mc := C.1
  have w1 : ev M_Mo_isWord 0 0 [some (.ref m), some (.long (lN 28530)), none] [] (wI (wL h g) f) = _ := mr_word C R (j := 7) (by decide)
  have w2 : ev M_Mo_isWord 0 0 [some (.ref m), some (.long (lN 1818588019)), none] [] (wI (wL h g) f) = _ := mr_word C R (j := 8) (by decide)
  have w3 : ev M_Mo_isWord 0 0 [some (.ref m), some (.long (lN 6385252)), none] [] (wI (wL h g) f) = _ := mr_word C R (j := 9) (by decide)
  have w4 : ev M_Mo_isWord 0 0 [some (.ref m), some (.long (lN 1952998766)), none] [] (wI (wL h g) f) = _ := mr_word C R (j := 10) (by decide)
  rw [r_Mo_joinHere_0]
  refine wp_e (wp_isC mc (wp_rIe w1 ?_))
  by_cases z1 : kd b len i = 107
  · rw [decide_eq_true (show kd b len i = 100 + 7 from z1), if_pos z1]
    exact wp_bf n10 (wp_s ⟨rfl, rfl⟩)
  rw [decide_eq_false (show ¬ kd b len i = 100 + 7 from z1), if_neg z1]
  refine wp_bt rfl (wp_isC mc (wp_rIe w2 ?_))
  by_cases z2 : kd b len i = 108
  · rw [decide_eq_true (show kd b len i = 100 + 8 from z2), if_pos z2]
    exact wp_bf n10 (wp_s ⟨rfl, rfl⟩)
  rw [decide_eq_false (show ¬ kd b len i = 100 + 8 from z2), if_neg z2]
  refine wp_bt rfl (wp_isC mc (wp_rIe w3 ?_))
  by_cases z3 : kd b len i = 109
  · rw [decide_eq_true (show kd b len i = 100 + 9 from z3), if_pos z3]
    exact wp_bf n10 (wp_s ⟨rfl, rfl⟩)
  rw [decide_eq_false (show ¬ kd b len i = 100 + 9 from z3), if_neg z3]
  refine wp_bt rfl (wp_isC mc (wp_rIe w4 ?_))
  by_cases z4 : kd b len i = 110
  · rw [decide_eq_true (show kd b len i = 100 + 10 from z4), if_pos z4]
    exact wp_bf n10 (wp_s ⟨rfl, rfl⟩)
  rw [decide_eq_false (show ¬ kd b len i = 100 + 10 from z4), if_neg z4]
  exact wp_bt rfl (wp_s ⟨rfl, rfl⟩)
/-- which sign it is -/
def jcd (k : Nat) : Nat := if k = 107 then 20 else if k = 108 then 22 else if k = 109 then 21 else 23
theorem sTk.push2 {x : Int32} (s : sTk f m O dp) (hO : O.length < 160) : sTk (up2 (up2 f (m + 15) O.length x) m 32 (nI (O.length + 1))) m (O ++ [x]) dp := by
  obtain ⟨s1, s2, s3, s4⟩ := s
  refine ⟨by rw [up2_s, len_1], by rw [up2_k (by decide), up2_a (by omega)]; exact s2, fun i c hc => ?_, by rw [len_1]; omega⟩
  rw [up2_a (by omega)]
  rcases lst_c hc with z | ⟨z, y⟩
  · have := (List.getElem?_eq_some_iff.mp z).1
    rw [up2_k (by omega)]; exact s3 i c z
  · rw [z, y, up2_s]
/-- a sign of joining is read: what binds as tightly is done, it waits, a z is next -/
theorem mr_xsign {L : Nat} {r : List Nat} (C : MSH h m) (R : RR f0 g0 f g m b len i (O ++ mcs r) dp cs ks un lv) (hk : 107 ≤ kd b len i ∧ kd b len i ≤ 110) (hL : tgt (nI (mcd (jcd (kd b len i)))) = L) (ok : okr L r) (hs : LstP O (fun x => tgt x < L)) (hl : cs.length + r.length < 260) (hO : O.length < 150)
    (K : ∀ f' g', RR f0 g0 f' g' m b len (nx b len i) (O ++ [nI (mcd (jcd (kd b len i)))]) dp (cs ++ r) ks un lv → cZ h m Q f' g') : cX h m Q f g := by
  have mc := C.1
  have ar15 : hR h m 31 = some (m + 15) := (C.2 14 (by decide)).1
  have an15 : hN h (m + 15) = 160 := (C.2 14 (by decide)).2.1
  have ac15 : hC h (m + 15) = 20 := (C.2 14 (by decide)).2.2
  have jn := mr_join C R
  have ej : (if kd b len i = 107 then nI 20 else if kd b len i = 108 then nI 21 else if kd b len i = 109 then nI 22 else if kd b len i = 110 then nI 23 else mI 1) = nI (mcd (jcd (kd b len i))) := by
    have : kd b len i = 107 ∨ kd b len i = 108 ∨ kd b len i = 109 ∨ kd b len i = 110 := by omega
    rcases this with z | z | z | z <;> rw [z] <;> rfl
  have nj : ¬ nI (mcd (jcd (kd b len i))) = mI 1 := by
    have : kd b len i = 107 ∨ kd b len i = 108 ∨ kd b len i = 109 ∨ kd b len i = 110 := by omega
    rcases this with z | z | z | z <;> rw [z] <;> decide
  rw [ej] at jn
  generalize nI (mcd (jcd (kd b len i))) = x at *
  have tl := tgt_le x
  obtain ⟨f1, a1, R1⟩ := mr_closes (g := g) C (show L < 10 by omega) hs r cs f ok hl R
  have s := R1.2.2.2.2.1
  have R2 : RR f0 g0 (up2 (up2 f1 (m + 15) O.length x) m 32 (nI (O.length + 1))) g m b len i (O ++ [x]) dp (cs ++ r) ks un lv := R1.st (fun a h1 h2 => by rw [up2_a h1, up2_a h2]) (fun k h1 _ => by rw [up2_k h1, up2_a (by omega)]) (s.push2 (by omega))
  obtain ⟨f3, g3, a3, R3⟩ := mr_goOn C R2
  have kz := K f3 g3 R3
  unfold cX
  rw [r_Mo_x_11]
  refine wp_bf n10 (wp_isC mc (wp_rIe (mr_good C R) (wp_bf n10 (wp_isC mc (wp_rIe jn (wp_bf nj (wp_rIe (mo_tight _ _) (wp_isC mc ?_))))))))
  rw [hL]
  refine wp_rVe a1 (wp_isC mc (wp_nnR ar15 (wp_isC mc ?_)))
  rw [wI_I, s.1]
  refine wp_isC ac15 (wp_inA an15 rfl (by omega) (by omega) ?_)
  rw [nI_clamp (by omega), wI_s]
  refine wp_isC mc (wp_isC mc ?_)
  rw [wI_I, up2_a (by omega), s.1, nI_add, wI_s]
  refine wp_isC mc (wp_rVe a3 (wp_isC mc ?_))
  rw [r_Mo_z_0]
  refine wp_rV kz (fun v H w => ⟨w.1, ?_⟩)
  rw [r_Mo_x_74]; exact w.2
/-- a reading that goes from ahead of a z to ahead of a sign -/
def AR (h : MH) (f0 : Nat → Nat → Int32) (g0 : Nat → Nat → Int64) (m : Nat) (b : Nat → Nat) (len nr : Nat) (nm : Nat → Nat) (d L : Nat) (A : Ps → Ps) : Prop := ∀ (Q : Option Value → MH → Prop) (s : Ps) (O : List Int32) (f : Nat → Nat → Int32) (g : Nat → Nat → Int64), gdM len nr nm s → yV s ≤ 30 → RM f0 g0 f g m b len O d s → O.length + 1 ≤ 3 * d + L → LstP O (wlx L) →
  (∀ f' g' r cs, yF (A s) = 0 → okr L r → RR f0 g0 f' g' m b len (yI (A s)) (O ++ mcs r) d cs (vKs (yN (A s))) (vUn (yN (A s))) (yV (A s)) → cs ++ r = fxs (vXs (yN (A s))) → cX h m Q f' g') →
  (∀ f' g', yF (A s) ≠ 0 → RE f0 g0 f' g' m (yF (A s)) (yP (A s)) → Q none (wI (wL h g') f')) → cZ h m Q f g
theorem mr_loop {L k1 w1 k2 w2 M K : Nat} {A : Ps → Ps} (C : MSH h m) (hd : d ≤ 6) (hL : (L = 2 ∧ k1 = 109 ∧ w1 = 1 ∧ k2 = 110 ∧ w2 = 3) ∨ (L = 1 ∧ k1 = 107 ∧ w1 = 0 ∧ k2 = 108 ∧ w2 = 2)) (st : Stk A) (HA : AR h f0 g0 m b len nr nm d (L + 1) A) (PA : ∀ s, gdX len s → vNr (yN s) = nr → yF (A s) = 0 → PX len nr K M s (A s)) (hM : M ≤ 7) (hO : O.length + 1 ≤ 3 * d + L) (hs : LstP O (wlx L)) : ∀ n s f g r cs, gdM len nr nm s → yV s ≤ 30 → len ≤ yI s + n → okr L r → RR f0 g0 f g m b len (yI s) (O ++ mcs r) d cs (vKs (yN s)) (vUn (yN s)) (yV s) → cs ++ r = fxs (vXs (yN s)) →
    (∀ f' g' r cs, yF (zXl b len k1 w1 k2 w2 A n s) = 0 → okr L r → RR f0 g0 f' g' m b len (yI (zXl b len k1 w1 k2 w2 A n s)) (O ++ mcs r) d cs (vKs (yN (zXl b len k1 w1 k2 w2 A n s))) (vUn (yN (zXl b len k1 w1 k2 w2 A n s))) (yV (zXl b len k1 w1 k2 w2 A n s)) → cs ++ r = fxs (vXs (yN (zXl b len k1 w1 k2 w2 A n s))) → cX h m Q f' g') →
    (∀ f' g', yF (zXl b len k1 w1 k2 w2 A n s) ≠ 0 → RE f0 g0 f' g' m (yF (zXl b len k1 w1 k2 w2 A n s)) (yP (zXl b len k1 w1 k2 w2 A n s)) → Q none (wI (wL h g') f')) → cX h m Q f g := by
  intro n
  induction n with
  | zero =>
    intro s f g r cs G hv hn ok R ec K1 K2
    exact K1 f g r cs G.1.1 ok R ec
  | succ n ih =>
    intro s f g r cs G hv hn ok R ec K1 K2
    rw [zXl] at K1 K2
    have ek := kq_0 (b := b) (len := len) G.1.1
    by_cases z : kq b len s = k1 ∨ kq b len s = k2
    · rw [if_pos z] at K1 K2
      generalize hc : (20 + if kq b len s = k1 then w1 else w2) = c at K1 K2
      rw [ek] at z hc
      have hj : jcd (kd b len (yI s)) = c ∧ tgt (nI (mcd c)) = L ∧ 107 ≤ kd b len (yI s) ∧ kd b len (yI s) ≤ 110 ∧ 20 ≤ c ∧ c ≤ 23 := by
        rcases hL with ⟨e1, e2, e3, e4, e5⟩ | ⟨e1, e2, e3, e4, e5⟩ <;> subst e1 <;> subst e2 <;> subst e3 <;> subst e4 <;> subst e5 <;> rcases z with z | z <;> rw [z] at hc ⊢ <;> subst hc <;> decide
      obtain ⟨hj1, hj2, hj3, hj4, hj5⟩ := hj
      have hs1 := nx_s (b := b) (len := len) (i := yI s) (by omega)
      have eS := zS_0 (b := b) (len := len) G.1.1
      have gx := G.1.2.2
      have lc : cs.length + r.length ≤ (vXs (yN s)).length := by
        have := fxs_n (vXs (yN s))
        rw [← ec, List.length_append] at this; exact this
      have G1 : gdM len nr nm (zS b len s) := by rw [eS]; exact ⟨⟨rfl, nx_le G.1.2.1, gx⟩, G.2.1, G.2.2⟩
      refine mr_xsign (L := L) (r := r) C R ⟨hj3, hj4⟩ (by rw [hj1]; exact hj2) ok (hs.w (fun x hx => hx.1)) (by omega) (by omega) (fun f1 g1 R1 => ?_)
      rw [hj1, ec] at R1
      have tl := tgt_le (nI (mcd c))
      refine HA Q (zS b len s) (O ++ [nI (mcd c)]) f1 g1 G1 (by rw [eS]; exact hv) (by rw [eS]; exact R1) (by rw [len_1]; omega) (Or.inr ⟨O, _, rfl, by omega, ?_⟩) (fun f2 g2 r2 cs2 fA ok2 R2 ec2 => ?_) (fun f2 g2 fA R2 => ?_)
      · rcases (show c = 20 ∨ c = 21 ∨ c = 22 ∨ c = 23 by omega) with y | y | y | y <;> rw [y] <;> decide
      · have p := PA _ G1.1 G1.2.1 fA
        have gg := PX.gd G1.1 p hM
        have hx : (vXs (yN (A (zS b len s)))).length < 256 := by have := gg.2.1; have := gg.2.2; omega
        have hyi : nx b len (yI s) ≤ yI (A (zS b len s)) := by have := p.1.1; rw [eS] at this ⊢; exact this
        have nn := p.N
        refine ih (zX c (A (zS b len s))) f2 g2 (r2 ++ [c]) cs2 ?_ ?_ ?_ ?_ ?_ ?_ K1 K2
        · rw [zX_o hx]
          refine ⟨⟨gg.1.1, gg.1.2.1, ?_⟩, nn.1.trans G1.2.1, nn.2.1.trans G1.2.2⟩
          show (vXs (yN (A (zS b len s))) ++ [c]).length ≤ 7 * yV (A (zS b len s))
          rw [len_1]; exact gg.2.2
        · rw [zX_o hx]; exact gg.2.1
        · rw [yI_X]; omega
        · intro x hx
          rcases List.mem_append.mp hx with y | y
          · exact ⟨(ok2 x y).1, by have := (ok2 x y).2; omega⟩
          · rw [List.mem_singleton.mp y]; exact ⟨hj5, by omega⟩
        · rw [zX_o hx, mcs_a]
          rw [List.append_assoc] at R2
          exact R2
        · rw [zX_o hx, ← List.append_assoc, ec2]
          exact (fxs_a _ (by omega)).symm
      · have e1 := st_X (c := c) _ fA
        have e2 := st_Xl (b := b) (len := len) (k1 := k1) (w1 := w1) (k2 := k2) (w2 := w2) st n (zX c (A (zS b len s))) (by rw [e1.1]; exact fA)
        refine K2 f2 g2 (by rw [e2.1, e1.1]; exact fA) ?_
        rw [e2.1, e2.2, e1.1, e1.2]; exact R2
    · rw [if_neg z] at K1 K2
      exact K1 f g r cs G.1.1 ok R ec
theorem mr_lvl {L k1 w1 k2 w2 M K : Nat} {A : Ps → Ps} (C : MSH h m) (hl : len ≤ 1600) (hd : d ≤ 6) (hL : (L = 2 ∧ k1 = 109 ∧ w1 = 1 ∧ k2 = 110 ∧ w2 = 3) ∨ (L = 1 ∧ k1 = 107 ∧ w1 = 0 ∧ k2 = 108 ∧ w2 = 2)) (st : Stk A) (HA : AR h f0 g0 m b len nr nm d (L + 1) A) (PA : ∀ s, gdX len s → vNr (yN s) = nr → yF (A s) = 0 → PX len nr K M s (A s)) (hM : M ≤ 7) : AR h f0 g0 m b len nr nm d L (fun s => zXl b len k1 w1 k2 w2 A 1600 (A s)) := by
  intro Q s O f g G hv R hO hs K1 K2
  refine HA Q s O f g G hv R (by omega) (hs.w (fun x hx => ⟨by have := hx.1; omega, hx.2⟩)) (fun f1 g1 r cs fA ok R1 ec => ?_) (fun f1 g1 fA R1 => ?_)
  · have p := PA s G.1 G.2.1 fA
    have gg := PX.gd G.1 p hM
    exact mr_loop C hd hL st HA PA hM hO hs 1600 (A s) f1 g1 r cs ⟨gg.1, p.N.1.trans G.2.1, p.N.2.1.trans G.2.2⟩ gg.2.1 (by omega) (fun x hx => ⟨(ok x hx).1, by have := (ok x hx).2; omega⟩) R1 ec K1 K2
  · have e2 := st_Xl (b := b) (len := len) (k1 := k1) (w1 := w1) (k2 := k2) (w2 := w2) st 1600 (A s) fA
    refine K2 f1 g1 (by rw [e2.1]; exact fA) ?_
    rw [e2.1, e2.2]; exact R1
end
