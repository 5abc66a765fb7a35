/-! The plain form's reader: a relation. -/
section
variable {h : MH} {f f0 : Nat → Nat → Int32} {g g0 : Nat → Nat → Int64} {m : Nat} {b : Nat → Nat} {len i : Nat} {O : List Int32} {dp d : Nat} {cs : List Nat} {ks : List Kp} {un lv nr : Nat} {nm : Nat → Nat} {s : Ps} {Q : Option Value → MH → Prop}
/-- the end of a relation -/
theorem mr_r96 {x : Int64} (C : MSH h m) (e3 : f (m + 3) 1 = nI nr) (hn : nr < 5) : ev M_Mo_relation1 0 96 [some (.ref m), some (.int (nI nr)), some (.long x), none, none] [] (wI (wL h g) f) = some (none, wI (wL h (up2 g (m + 8) (5 + nr) x)) (up2 (up2 f (m + 11) (5 + nr) (f m 25 - f (m + 10) (5 + nr))) (m + 3) 1 (nI (nr + 1)))) := by
  have mc := C.1
  have ar3 : hR h m 13 = some (m + 3) := (C.2 2 (by decide)).1
  have an3 : hN h (m + 3) = 2 := (C.2 2 (by decide)).2.1
  have ac3 : hC h (m + 3) = 20 := (C.2 2 (by decide)).2.2
  have ar8 : hR h m 18 = some (m + 8) := (C.2 7 (by decide)).1
  have an8 : hN h (m + 8) = 10 := (C.2 7 (by decide)).2.1
  have ac8 : hC h (m + 8) = 22 := (C.2 7 (by decide)).2.2
  have ar10 : hR h m 20 = some (m + 10) := (C.2 9 (by decide)).1
  have an10 : hN h (m + 10) = 10 := (C.2 9 (by decide)).2.1
  have ac10 : hC h (m + 10) = 20 := (C.2 9 (by decide)).2.2
  have ar11 : hR h m 21 = some (m + 11) := (C.2 10 (by decide)).1
  have an11 : hN h (m + 11) = 10 := (C.2 10 (by decide)).2.1
  have ac11 : hC h (m + 11) = 20 := (C.2 10 (by decide)).2.2
  rw [r_Mo_relation1_96]
  refine wp_e (wp_isC mc (wp_nnR ar11 (wp_isC mc (wp_isC mc (wp_nnR ar10 (wp_isC ac10 ?_))))))
  simp only [nI_add]
  refine wp_inA an10 rfl (by omega) (by omega) (wp_isC ac11 (wp_inA an11 rfl (by omega) (by omega) ?_))
  rw [nI_clamp (by omega), wI_I, wI_s]
  refine wp_isC mc (wp_nnR ar8 (wp_isC ac8 (wp_inA an8 rfl (by omega) (by omega) ?_)))
  rw [wIL_s]
  refine wp_isC mc (wp_nnR ar3 (wp_isC ac3 (wp_inA (n := 1) an3 rfl (by decide) (by decide) (wp_isC ac3 (wp_inA (n := 1) an3 rfl (by decide) (by decide) ?_)))))
  rw [show (nI 1).toNatClampNeg = 1 from rfl, wI_I, up2_a (by omega), e3, nI_add, wI_s]
  exact wp_s ⟨rfl, rfl⟩
/-- the rows are cleared -/
theorem mr_r39 {x : Int64} (C : MSH h m) (hn : nr < 5) : ∀ k r f, r + k = 16 → ∃ f', (∀ Q : Option Value → MH → Prop, wp (ev M_Mo_relation1 0 39 [some (.ref m), some (.int (nI nr)), some (.long x), none, some (.int (nI 16))] [] (wI (wL h g) f')) Q → wp (ev M_Mo_relation1 0 39 [some (.ref m), some (.int (nI nr)), some (.long x), none, some (.int (nI r))] [] (wI (wL h g) f)) Q) ∧ (∀ j, r ≤ j → j < 16 → f' (m + 12) (80 + 16 * nr + j) = nI 0) ∧ (∀ a, a ≠ m + 12 → f' a = f a) ∧ ∀ j, j < 80 + 16 * nr + r → f' (m + 12) j = f (m + 12) j := by
  have mc := C.1
  have ar12 : hR h m 22 = some (m + 12) := (C.2 11 (by decide)).1
  have an12 : hN h (m + 12) = 160 := (C.2 11 (by decide)).2.1
  have ac12 : hC h (m + 12) = 20 := (C.2 11 (by decide)).2.2
  intro k
  induction k with
  | zero =>
    intro r f hr
    exact ⟨f, fun Q w => by rw [show r = 16 by omega]; exact w, fun j h1 h2 => by omega, fun _ _ => rfl, fun _ _ => rfl⟩
  | succ k ih =>
    intro r f hr
    obtain ⟨f', a1, a2, a3, a4⟩ := ih (r + 1) (up2 f (m + 12) (80 + 16 * nr + r) (nI 0)) (by omega)
    refine ⟨f', fun Q w => ?_, fun j h1 h2 => ?_, fun a ha => by rw [a3 a ha, up2_a ha], fun j hj => by rw [a4 j (by omega), up2_k (by omega)]⟩
    · have w := a1 Q w
      rw [r_Mo_relation1_39]
      refine wp_bt (by rw [nI_ltI (by omega) (by decide)]; omega) (wp_isC mc (wp_nnR ar12 (wp_isC ac12 ?_)))
      simp only [pk_mul, nI_add]
      refine wp_inA an12 rfl (by omega) (by omega) ?_
      rw [nI_clamp (by omega), wI_s]
      exact w
    · by_cases z : j = r
      · rw [z, a4 _ (by omega), up2_s]
      · exact a2 j (by omega) h2
theorem mr_takesY {j : Nat} (C : MSH h m) (R : RQ f0 g0 f g m b len i O dp cs ks un lv) (hj : j < 18) (z : kd b len i = 100 + j) : ∃ f' g', ev M_Mo_takes 0 0 [some (.ref m), some (.long (lN (KW j))), none] [] (wI (wL h g) f) = some (some (.int (nI 1)), wI (wL h g') f') ∧ RQ f0 g0 f' g' m b len (nx b len i) O dp cs ks un lv := by
  have mc := C.1
  have w := mq_word C R hj
  rw [decide_eq_true z] at w
  obtain ⟨f', g', a1, R1⟩ := mq_goOn C R
  refine ⟨f', g', ?_, R1⟩
  rw [r_Mo_takes_0]
  exact wp_e (wp_isC mc (wp_rIe w (wp_bf n10 (wp_isC mc (wp_rVe a1 (wp_isZ (by decide) (wp_s ⟨rfl, rfl⟩)))))))
theorem mr_takesN {j : Nat} (C : MSH h m) (R : RQ f0 g0 f g m b len i O dp cs ks un lv) (hj : j < 18) (z : ¬ kd b len i = 100 + j) : ev M_Mo_takes 0 0 [some (.ref m), some (.long (lN (KW j))), none] [] (wI (wL h g) f) = some (some (.int (nI 0)), wI (wL h g) f) := by
  have mc := C.1
  have w := mq_word C R hj
  rw [decide_eq_false z] at w
  rw [r_Mo_takes_0]
  exact wp_e (wp_isC mc (wp_rIe w (wp_bt rfl (wp_isZ (by decide) (wp_s ⟨rfl, rfl⟩)))))
theorem RE.o {c p : Nat} {f' : Nat → Nat → Int32} {g' : Nat → Nat → Int64} (R : RE f0 g0 f g m c p) (e : f' m = f m) : RE f' g' f' g' m c p := ⟨by rw [e]; exact R.1, R.2.1, by rw [e]; exact R.2.2.1, R.2.2.2.1, FR.rf⟩
/-- all behind the word rel -/
def zR2 (b : Nat → Nat) (len : Nat) (s : Ps) : Ps := zFn (if yF (zRb b len (zNn b len s)) = 0 then wv b len (yI s) else 0) (decide (kq b len (zNn b len s) = 102)) (zRb b len (zNn b len s))
theorem zR2_F {t : Ps} (e : zNn b len s = t) (ht : yF t ≠ 0) : yF (zR2 b len s) = yF t ∧ yP (zR2 b len s) = yP t := by
  unfold zR2
  rw [e]
  have q := st_Rb (b := b) (len := len) t ht
  have p := zFn_P (if yF (zRb b len t) = 0 then wv b len (yI s) else 0) (decide (kq b len t = 102)) (zRb b len t)
  exact ⟨p.1.trans q.1, p.2.trans q.2⟩
theorem TR.gg {f1 : Nat → Nat → Int32} {g1 : Nat → Nat → Int64} {k : Nat} {x : Int64} (t : TR m f f1 g g1) : TR m f f1 g (up2 g1 (m + 8) k x) := ⟨t.1, fun a h1 h2 => by rw [up2_a h2]; exact t.2 a h1 h2⟩
theorem mr_rel1 {cx : Nat → List Nat} (C : MSH h m) (hl : len ≤ 1600) (L : LI len cx s) (M : LM f g m b len cx s) (hn : vNr (yN s) < 5) : ∃ f' g', ev M_Mo_relation1 0 0 [some (.ref m), none, none, none, none] [] (wI (wL h g) f) = some (none, wI (wL h g') f') ∧ LRs f g f' g' m b len (zR2 b len s) := by
  have mc := C.1
  have ar3 : hR h m 13 = some (m + 3) := (C.2 2 (by decide)).1
  have an3 : hN h (m + 3) = 2 := (C.2 2 (by decide)).2.1
  have ac3 : hC h (m + 3) = 20 := (C.2 2 (by decide)).2.2
  have ar8 : hR h m 18 = some (m + 8) := (C.2 7 (by decide)).1
  have an8 : hN h (m + 8) = 10 := (C.2 7 (by decide)).2.1
  have ac8 : hC h (m + 8) = 22 := (C.2 7 (by decide)).2.2
  have ar9 : hR h m 19 = some (m + 9) := (C.2 8 (by decide)).1
  have an9 : hN h (m + 9) = 10 := (C.2 8 (by decide)).2.1
  have ac9 : hC h (m + 9) = 20 := (C.2 8 (by decide)).2.2
  have ar10 : hR h m 20 = some (m + 10) := (C.2 9 (by decide)).1
  have an10 : hN h (m + 10) = 10 := (C.2 9 (by decide)).2.1
  have ac10 : hC h (m + 10) = 20 := (C.2 9 (by decide)).2.2
  obtain ⟨⟨O, dp, R⟩, ⟨p2, p3, p4, p5, pk⟩, FG⟩ := M
  have hf := L.1.1
  have ek := kq_0 (b := b) (len := len) hf
  obtain ⟨-, r2, -, ⟨r4, t1, t2, t3, t4, t5⟩, -⟩ := id R
  have q1 : f m 5 = nI 1 ↔ kd b len (yI s) = 4 ∨ 100 ≤ kd b len (yI s) := by rw [t3]; exact srt_1 _
  have E : NMm f g m (vNr (yN s)) (vNm (yN s)) := ⟨p3, fun k hk => ⟨(pk k hk).1, L.2.2.2.1 k hk⟩, L.2.2.1.2.1⟩
  generalize hnr : vNr (yN s) = nr at *
  -- a fault at the name
  have bad : ∀ c, 0 < c → c ≤ 5 → zNn b len s = zF b len c s → ∃ f' g', wp (isC (wI (wL h g) f) m 13 (rV (ev M_Mo_wrong 0 0 [some (.ref m), some (.int (nI c))] [] (wI (wL h g) f)) fun h6 =>
             ev M_Mo_relation1 0 27 [some (.ref m), some (.int (nI nr)), none, none, none] [] h6)) (fun a e => a = none ∧ e = wI (wL h g') f') ∧ LRs f g f' g' m b len (zR2 b len s) := fun c c1 c2 e => by
    obtain ⟨f', a1, a2, a3⟩ := mq_wrongS (s := s) (c := c) C hf R c1 c2
    have z := zR2_F e a2
    refine ⟨f', g, wp_isC mc (wp_rVe a1 ?_), a3.fr.T, Or.inr ⟨by rw [z.1]; exact a2, by rw [z.1, z.2]; exact a3.bs⟩⟩
    rw [r_Mo_relation1_27]
    refine wp_isC mc ?_
    rw [wI_I, a3.1]
    exact wp_bt (by rw [nI_ltI (by decide) (by have := a3.2.1; omega)]; exact a3.2.1.1) (wp_s ⟨rfl, rfl⟩)
  have head : ∀ {P : Option Value → MH → Prop}, wp (br (f m 5 = (nI 1))
      (isC (wI (wL h g) f) m 13 (rI (ev M_Mo_isOwn 0 0 [some (.ref m)] [] (wI (wL h g) f)) fun y3 h2 =>
       br (y3 = (nI 0))
         (isC h2 m 13 (
          isC h2 m 13 (rI (ev M_Mo_relNamed 0 0 [some (.ref m), some (.long (hL h2 m 11)), none, none] [] h2) fun y5 h4 =>
          br (y5 = (mI 1))
            (ev M_Mo_relation1 0 27 [some (.ref m), some (.int (nI nr)), none, none, none] [] h4)
            (isC h4 m 13 (rV (ev M_Mo_wrong 0 0 [some (.ref m), some (.int (nI 3))] [] h4) fun h6 =>
             ev M_Mo_relation1 0 27 [some (.ref m), some (.int (nI nr)), none, none, none] [] h6)))))
         (ev M_Mo_relation1 0 13 [some (.ref m), some (.int (nI nr)), none, none, none] [] h2)))
      (ev M_Mo_relation1 0 13 [some (.ref m), some (.int (nI nr)), none, none, none] [] (wI (wL h g) f))) P → wp (ev M_Mo_relation1 0 0 [some (.ref m), none, none, none, none] [] (wI (wL h g) f)) P := fun {P} w => by
    rw [r_Mo_relation1_0]
    refine wp_isC mc (wp_nnR ar3 (wp_isC ac3 (wp_inA (n := 1) an3 rfl (by decide) (by decide) (wp_isC mc ?_))))
    rw [show (nI 1).toNatClampNeg = 1 from rfl, wI_I, p3]
    exact w
  by_cases z4 : kd b len (yI s) = 4
  · have hw := wv_lt (yI s) r4 (Or.inl z4)
    have nmd := mr_named (h := h) C E FR.rf hw
    have g11 : hL (wI (wL h g) f) m 11 = lN (wv b len (yI s)) := t5 (Or.inl z4)
    have own := mq_own C R (Or.inl z4)
    rw [decide_eq_false (show ¬ 100 ≤ kd b len (yI s) by omega)] at own
    have efn : fnd b len s = ff (fun k => decide (vNm (yN s) k = wv b len (yI s))) nr := by unfold fnd; rw [hnr]
    rw [← efn] at nmd
    cases hfn : fnd b len s with
    | some k =>
      have eN : zNn b len s = zF b len 3 s := by unfold zNn; rw [if_pos (by rw [ek]; exact z4), if_neg (by rw [hfn]; exact fun w => by cases w)]
      obtain ⟨f', g', a1, a2⟩ := bad 3 (by decide) (by decide) eN
      have hk : k < nr := ff_lt (by rw [← efn]; exact hfn)
      refine ⟨f', g', wp_e (head (wp_bt (q1.mpr (Or.inl z4)) (wp_isC mc (wp_rIe own (wp_bt rfl (wp_isC mc (wp_isC mc ?_))))))), a2⟩
      rw [g11]
      rw [hfn] at nmd
      refine wp_rIe nmd (wp_bf (fun e => ?_) a1)
      have e : nI k = mI 1 := e
      have := nI_pos (n := k) (by omega)
      rw [e] at this; exact this mI_neg
    | none =>
      have eN : zNn b len s = zS b len s := by unfold zNn; rw [if_pos (by rw [ek]; exact z4), if_pos hfn]
      have eS := zS_0 (b := b) (len := len) hf
      obtain ⟨f1, g1, a1, R1⟩ := mq_goOn C R
      have F1 := R1.fr
      obtain ⟨f2, b1, b2, b3, b4⟩ := mr_r39 (g := g1) (x := lN (wv b len (yI s))) C hn 16 0 f1 (by decide)
      have e25 : f2 m 25 = nI (fxs (vXs (yN s))).length := by rw [b3 _ (by omega)]; exact R1.2.2.2.2.2.1.1
      -- codes begin here, nothing is told yet
      generalize hf3 : up2 (up2 f2 (m + 10) (5 + nr) (nI (fxs (vXs (yN s))).length)) (m + 9) (5 + nr) (nI 0) = f3 at *
      have o3 : ∀ a, a ≠ m + 9 → a ≠ m + 10 → a ≠ m + 12 → f3 a = f1 a := fun a h1 h2 h3 => by rw [← hf3, up2_a h1, up2_a h2, b3 a h3]
      have T3 : TR m f f3 g g1 := by
        rw [← hf3]
        refine TR.u (TR.u (TR.tr F1.T ?_) (by unfold Tw; omega)) (by unfold Tw; omega)
        refine ⟨fun a i hx => ?_, fun _ _ _ => rfl⟩
        unfold Tw at hx
        by_cases e : a = m + 12
        · subst e; exact b4 i (by omega)
        · rw [b3 a e]
      have R3 : RN f3 g1 f3 g1 m b len O dp (zBg (zS b len s)) := by
        rw [eS]
        exact RQ.o R1 (fun a ha => o3 a (by omega) (by omega) (by omega)) (fun k _ => by rw [o3 m (by omega) (by omega) (by omega)]) rfl
      have x9 : f3 (m + 9) (5 + nr) = nI 0 := by rw [← hf3, up2_s]
      have x10 : f3 (m + 10) (5 + nr) = nI (fxs (vXs (yN s))).length := by rw [← hf3, up2_a (by omega), up2_s]
      have y9 : ∀ j, j < 5 + nr → f3 (m + 9) j = f (m + 9) j := fun j hj => by rw [← hf3, up2_k (by omega), up2_a (by omega), b3 _ (by omega), F1.1 _ (by omega) (by omega) (by omega) (by omega) (by omega) (by omega)]
      have y10 : ∀ j, j < 5 + nr → f3 (m + 10) j = f (m + 10) j := fun j hj => by rw [← hf3, up2_a (by omega), up2_k (by omega), b3 _ (by omega), F1.1 _ (by omega) (by omega) (by omega) (by omega) (by omega) (by omega)]
      have y12 : ∀ j, j < 80 + 16 * nr → f3 (m + 12) j = f (m + 12) j := fun j hj => by rw [← hf3, up2_a (by omega), up2_a (by omega), b4 j (by omega), F1.1 _ (by omega) (by omega) (by omega) (by omega) (by omega) (by omega)]
      have x12 : RF f3 (m + 12) (80 + 16 * nr) (fun _ => 0) := fun r hr => by rw [← hf3, up2_a (by omega), up2_a (by omega)]; exact b2 r (by omega) hr
      have yo : ∀ a, a = m + 2 ∨ a = m + 3 ∨ a = m + 4 ∨ a = m + 5 ∨ a = m + 11 → f3 a = f a := fun a ha => by rw [o3 a (by omega) (by omega) (by omega), F1.1 _ (by omega) (by omega) (by omega) (by omega) (by omega) (by omega)]
      have ym : ∀ k, 26 < k → k < 31 → f3 m k = f m k := fun k h1 h2 => by rw [o3 m (by omega) (by omega) (by omega), F1.2.1 k (by omega) (by omega) (by omega) (by omega) (by omega)]
      have yg : ∀ a, a ≠ m → g1 a = g a := F1.2.2.2.2.2.2
      -- up to the next word
      have pre : ∀ {P : Option Value → MH → Prop}, wp (rI (ev M_Mo_takes 0 0 [some (.ref m), some (.long (lN 6840691)), none] [] (wI (wL h g1) f3)) fun y8 h7 =>
       br (y8 = (nI 0))
         (isC h7 m 13 (rI (ev M_Mo_takes 0 0 [some (.ref m), some (.long (lN 26995)), none] [] h7) fun y10 h9 =>
          br (y10 = (nI 0))
            (isC h9 m 13 (rV (ev M_Mo_wrong 0 0 [some (.ref m), some (.int (nI 2))] [] h9) fun h11 =>
             ev M_Mo_relation1 0 96 [some (.ref m), some (.int (nI nr)), some (.long (lN (wv b len (yI s)))), none, none] [] h11))
            (isC h9 m 13 (rV (ev M_Mo_x 0 0 [some (.ref m), none, none] [] h9) fun h12 =>
             ev M_Mo_relation1 0 96 [some (.ref m), some (.int (nI nr)), some (.long (lN (wv b len (yI s)))), none, none] [] h12))))
         (isC h7 m 13 (nnR (hR h7 m 19) fun r13 =>
          isC h7 r13 20 (inA h7 r13 (nI (5 + nr)) (
          isC (sI h7 r13 (Int32.toNatClampNeg (nI (5 + nr))) (nI 1)) m 13 (rV (ev M_Mo_pairs 0 0 [some (.ref m), some (.int (nI nr)), none, none, none] [] (sI h7 r13 (Int32.toNatClampNeg (nI (5 + nr))) (nI 1))) fun h15 =>
          ev M_Mo_relation1 0 96 [some (.ref m), some (.int (nI nr)), some (.long (lN (wv b len (yI s)))), none, none] [] h15)))))) P → wp (ev M_Mo_relation1 0 0 [some (.ref m), none, none, none, none] [] (wI (wL h g) f)) P := fun {P} w => by
        refine head (wp_bt (q1.mpr (Or.inl z4)) (wp_isC mc (wp_rIe own (wp_bt rfl (wp_isC mc (wp_isC mc ?_))))))
        rw [g11]
        rw [hfn] at nmd
        refine wp_rIe nmd (wp_bt rfl ?_)
        rw [r_Mo_relation1_27]
        refine wp_isC mc ?_
        rw [wI_I, r2]
        refine wp_bf (by decide) (wp_isC mc (wp_isC mc (wp_rVe a1 ?_)))
        rw [g11]
        refine b1 _ ?_
        rw [r_Mo_relation1_39]
        refine wp_bf (by decide) (wp_isC mc (wp_nnR ar10 (wp_isC mc (wp_isC ac10 ?_))))
        simp only [nI_add]
        refine wp_inA an10 rfl (by omega) (by omega) ?_
        rw [nI_clamp (by omega), wI_I, e25, wI_s]
        refine wp_isC mc (wp_nnR ar9 (wp_isC ac9 (wp_inA an9 rfl (by omega) (by omega) ?_)))
        rw [wI_s, hf3]
        rw [nI_clamp (by omega)] at w
        exact wp_isC mc w
      have e32 : f3 (m + 3) 1 = nI nr := by rw [yo _ (by omega)]; exact p3
      have ek2 : kq b len (zS b len s) = kd b len (nx b len (yI s)) := by rw [eS]; exact kq_0 rfl
      have e5 : zS b len (zBg (zS b len s)) = (nx b len (nx b len (yI s)), 0, yP s, yL s, yV s, uGr (yN s) (fun k => if k = vNr (yN s) then (fun _ => 0) else vGr (yN s) k)) := by rw [eS]; exact zS_0 rfl
      have hi2 : nx b len (yI s) ≤ len := nx_le L.1.2
      have hi3 : nx b len (nx b len (yI s)) ≤ len := nx_le hi2
      generalize hw' : wv b len (yI s) = w at *
      -- cells at the end
      have fin : ∀ (f6 : Nat → Nat → Int32) (g6 : Nat → Nat → Int64), f6 (m + 3) 1 = nI nr → ev M_Mo_relation1 0 96 [some (.ref m), some (.int (nI nr)), some (.long (lN w)), none, none] [] (wI (wL h g6) f6) = some (none, wI (wL h (up2 g6 (m + 8) (5 + nr) (lN w))) (up2 (up2 f6 (m + 11) (5 + nr) (f6 m 25 - f6 (m + 10) (5 + nr))) (m + 3) 1 (nI (nr + 1)))) := fun f6 g6 e => mr_r96 C e hn
      have T7 : ∀ {f6 : Nat → Nat → Int32} {g6 : Nat → Nat → Int64} {v v' : Int32}, TR m f f6 g g6 → TR m f (up2 (up2 f6 (m + 11) (5 + nr) v) (m + 3) 1 v') g (up2 g6 (m + 8) (5 + nr) (lN w)) := fun {f6 g6 v v'} t => (((t.u (by unfold Tw; omega)).u (by unfold Tw; omega)).gg)
      have old : ∀ {f6 : Nat → Nat → Int32} {g6 : Nat → Nat → Int64} {v v' : Int32} {q' : Pn} {cx' : Nat → List Nat} {cs' : List Nat} (k : Nat), k < nr → (∀ a, a ≠ m → g6 a = g1 a) → f6 (m + 9) (5 + k) = f3 (m + 9) (5 + k) → f6 (m + 10) (5 + k) = f3 (m + 10) (5 + k) → f6 (m + 11) = f3 (m + 11) → (∀ j, j < 80 + 16 * nr → f6 (m + 12) j = f3 (m + 12) j) → (∃ l, cs' = fxs (vXs (yN s)) ++ l) → vNm q' k = vNm (yN s) k → (vTd q').testBit k = (vTd (yN s)).testBit k → vGr q' k = vGr (yN s) k → cx' k = cx k → PLk (up2 (up2 f6 (m + 11) (5 + nr) v) (m + 3) 1 v') (up2 g6 (m + 8) (5 + nr) (lN w)) m cs' q' cx' k := fun {f6 g6 v v' q' cx' cs'} k hk h1 h2 h3 h4 h5 h6 h7 h8 h9 h10 => by
        refine (pk k hk).c ?_ ?_ ?_ ?_ ?_ h6 h7 h8 h9 h10
        · rw [up2_k (by omega), h1 _ (by omega), yg _ (by omega)]
        · rw [up2_a (by omega), up2_a (by omega), h2, y9 _ (by omega)]
        · rw [up2_a (by omega), up2_a (by omega), h3, y10 _ (by omega)]
        · rw [up2_a (by omega), up2_k (by omega), h4, yo _ (by omega)]
        · intro r hr
          rw [up2_a (by omega), up2_a (by omega), h5 _ (by omega), y12 _ (by omega)]
      by_cases k2 : kd b len (nx b len (yI s)) = 100 + 2
      · have eR : zRb b len (zNn b len s) = zPr b len (zS b len (zBg (zS b len s))) := by rw [eN]; unfold zRb; rw [if_pos (by rw [ek2]; exact k2)]
        have eT : zR2 b len s = zFn (if yF (zPr b len (zS b len (zBg (zS b len s)))) = 0 then w else 0) true (zPr b len (zS b len (zBg (zS b len s)))) := by
          unfold zR2
          rw [eR, hw', eN, decide_eq_true (by rw [ek2]; exact k2)]
        obtain ⟨f4, g4, a4, R4⟩ := mr_takesY (j := 2) C R3 (by decide) (by rw [eS]; exact k2)
        have a4 : ev M_Mo_takes 0 0 [some (.ref m), some (.long (lN 6840691)), none] [] (wI (wL h g1) f3) = some (some (.int (nI 1)), wI (wL h g4) f4) := a4
        have F4 := R4.fr
        have R5 : RN (up2 f4 (m + 9) (5 + nr) (nI 1)) g4 (up2 f4 (m + 9) (5 + nr) (nI 1)) g4 m b len O dp (zS b len (zBg (zS b len s))) := by
          rw [e5]
          rw [eS] at R4
          exact RQ.o R4 (fun a ha => up2_a (by omega)) (fun k _ => by rw [up2_a (by omega)]) rfl
        have c4 : ∀ a, a ≠ m → a ≠ m + 6 → a ≠ m + 7 → a ≠ m + 13 → a ≠ m + 14 → a ≠ m + 15 → f4 a = f3 a := F4.1
        obtain ⟨f6, g6, a6, P6, o6⟩ := mr_pairs (nr := nr) (s := zS b len (zBg (zS b len s))) C (by rw [e5]; exact L.2.2.1.1.2) hn (by rw [e5]; rfl) (by rw [e5]; exact hnr) R5 (by rw [e5, up2_a (by omega), c4 _ (by omega) (by omega) (by omega) (by omega) (by omega) (by omega), yo _ (by omega)]; exact p2) (by
          rw [e5]
          intro r hr
          rw [up2_a (by omega), c4 _ (by omega) (by omega) (by omega) (by omega) (by omega) (by omega), x12 r hr]
          show nI 0 = nI ((if nr = vNr (yN s) then (fun _ => 0) else vGr (yN s) nr) r)
          rw [if_pos hnr.symm]) (by
          rw [e5]
          show GW (2 ^ vLv (yN s)) (if nr = vNr (yN s) then (fun _ => 0) else vGr (yN s) nr)
          rw [if_pos hnr.symm]; exact GW.z (lv_p L.2.2.1.1.2))
        have d6 : ∀ a, a ≠ m → a ≠ m + 6 → a ≠ m + 7 → a ≠ m + 9 → a ≠ m + 12 → a ≠ m + 13 → a ≠ m + 14 → a ≠ m + 15 → f6 a = f3 a := fun a h1 h2 h3 h4 h5 h6 h7 h8 => by rw [P6.1 a h1 h2 h3 h5 h6 h7 h8, up2_a h4, c4 a h1 h2 h3 h6 h7 h8]
        have e63 : f6 (m + 3) 1 = nI nr := by rw [d6 _ (by omega) (by omega) (by omega) (by omega) (by omega) (by omega) (by omega) (by omega)]; exact e32
        have dg : ∀ a, a ≠ m → g6 a = g1 a := fun a ha => by rw [P6.2.2.2.2.2.2.2 a ha, F4.2.2.2.2.2.2 a ha]
        refine ⟨up2 (up2 f6 (m + 11) (5 + nr) (f6 m 25 - f6 (m + 10) (5 + nr))) (m + 3) 1 (nI (nr + 1)), up2 g6 (m + 8) (5 + nr) (lN w), wp_e (pre (wp_rIe a4 (wp_bf n10 (wp_isC mc (wp_nnR ar9 (wp_isC ac9 (wp_inA an9 rfl (by omega) (by omega) ?_))))))), T7 (TR.tr (TR.u (TR.tr T3 F4.T) (by unfold Tw; omega)) P6.T), ?_⟩
        · rw [nI_clamp (by omega), wI_s]
          exact wp_isC mc (wp_rVe a6 (wp_of (fin f6 g6 e63) ⟨rfl, rfl⟩))
        · rw [eT]
          rcases o6 with ⟨y1, y2, y3, y4⟩ | ⟨y1, y2⟩
          · left
            rw [if_pos y1]
            have pp := pp_Pr (b := b) (s := zS b len (zBg (zS b len s))) (by rw [e5]; exact hi3) y1
            obtain ⟨⟨-, pi⟩, G, pe, pG⟩ := pp
            generalize hs3 : zPr b len (zS b len (zBg (zS b len s))) = s3 at *
            rw [e5] at pe pG
            have pe : s3 = (yI s3, 0, yP s, yL s, yV s, uGr (yN s) G) := pe
            have eG : vGr (yN s3) = G := by rw [pe]; rfl
            have eV : vLv (yN s3) = vLv (yN s) := by rw [pe]; rfl
            have eX : vXs (yN s3) = vXs (yN s) := by rw [pe]; rfl
            have eNr : vNr (yN s3) = nr := by rw [pe]; exact hnr
            have hG : ∀ k, k ≠ vNr (yN s) → G k = vGr (yN s) k := fun k hk => by
              rw [pG k hk]
              show (if k = vNr (yN s) then _ else vGr (yN s) k) = _
              rw [if_neg hk]
            have LL := LI_t (name := w) L (by omega) pe pi hG (by rw [← eV, ← eG, hnr]; exact y4) hw
            have m25 : f6 m 25 = nI (fxs (vXs (yN s))).length := by rw [← eX]; exact y2.2.2.2.2.2.1.1
            have m10 : f6 (m + 10) (5 + nr) = nI (fxs (vXs (yN s))).length := by rw [d6 _ (by omega) (by omega) (by omega) (by omega) (by omega) (by omega) (by omega) (by omega)]; exact x10
            have m11 : f6 m 25 - f6 (m + 10) (5 + nr) = nI 0 := by rw [m25, m10, pk_sub (Nat.le_refl _), Nat.sub_self]
            have cn : cx nr = [] := L.2.2.2.2.2.2.2.2 nr (by omega)
            refine ⟨LL.1.1, cx, LL, ⟨O, dp, ?_⟩, ?_, ?_⟩
            · exact RQ.o y2 (fun a ha => by rw [up2_a (by omega), up2_a (by omega)]) (fun k _ => by rw [up2_a (by omega), up2_a (by omega)]) (up2_a (by omega))
            · rw [zFn_t, pe]
              refine ⟨?_, ?_, ?_, ?_, fun k hk => ?_⟩
              · rw [up2_a (by omega), up2_a (by omega), d6 _ (by omega) (by omega) (by omega) (by omega) (by omega) (by omega) (by omega) (by omega), yo _ (by omega)]; exact p2
              · rw [up2_s]; show nI (nr + 1) = nI (vNr (yN s) + 1); rw [hnr]
              · rw [up2_a (by omega), up2_a (by omega), d6 _ (by omega) (by omega) (by omega) (by omega) (by omega) (by omega) (by omega) (by omega), yo _ (by omega)]; exact p4
              · rw [up2_a (by omega), up2_a (by omega), d6 _ (by omega) (by omega) (by omega) (by omega) (by omega) (by omega) (by omega) (by omega), yo _ (by omega)]; exact p5
              · have hk : k < vNr (yN s) + 1 := hk
                by_cases z : k = nr
                · subst z
                  refine ⟨?_, ?_, ⟨(fxs (vXs (yN s))).length, ?_, ?_, ?_, ?_⟩, fun _ r hr => ?_⟩
                  · rw [up2_s]
                    show lN w = lN (if k = vNr (yN s) then w else vNm (yN s) k)
                    rw [if_pos hnr.symm]
                  · rw [up2_a (by omega), up2_a (by omega), P6.1 _ (by omega) (by omega) (by omega) (by omega) (by omega) (by omega) (by omega), up2_s]
                    show nI 1 = nI ((vTd (yN s) ||| 2 ^ vNr (yN s)).testBit k).toNat
                    rw [tb_or, if_pos hnr.symm]; rfl
                  · rw [up2_a (by omega), up2_a (by omega)]; exact m10
                  · rw [up2_a (by omega), up2_s, m11, cn]; rfl
                  · rw [cn]; exact Nat.le_refl _
                  · intro i c hc; rw [cn] at hc; cases hc
                  · rw [up2_a (by omega), up2_a (by omega), y3 r hr, eG]; rfl
                · refine old k (by omega) dg ?_ ?_ ?_ ?_ ⟨[], (List.append_nil _).symm⟩ ?_ ?_ (hG k (by omega)) rfl
                  · rw [P6.1 _ (by omega) (by omega) (by omega) (by omega) (by omega) (by omega) (by omega), up2_k (by omega), c4 _ (by omega) (by omega) (by omega) (by omega) (by omega) (by omega)]
                  · rw [d6 _ (by omega) (by omega) (by omega) (by omega) (by omega) (by omega) (by omega) (by omega)]
                  · rw [d6 _ (by omega) (by omega) (by omega) (by omega) (by omega) (by omega) (by omega) (by omega)]
                  · intro j hj
                    rw [P6.2.2.2.2.1 j hj, up2_a (by omega), c4 _ (by omega) (by omega) (by omega) (by omega) (by omega) (by omega)]
                  · show (if k = vNr (yN s) then w else vNm (yN s) k) = _
                    rw [if_neg (by omega)]
                  · show (vTd (yN s) ||| 2 ^ vNr (yN s)).testBit k = _
                    rw [tb_or, if_neg (by omega)]
            · have eL : yL (zFn w true s3) = yL s := by rw [zFn_t, pe]; rfl
              rw [eL]
              have q : ∀ k, 26 < k → k < 31 → up2 (up2 f6 (m + 11) (5 + nr) (f6 m 25 - f6 (m + 10) (5 + nr))) (m + 3) 1 (nI (nr + 1)) m k = f m k := fun k h1 h2 => by rw [up2_a (by omega), up2_a (by omega), P6.2.1 k (by omega) (by omega) (by omega) (by omega) (by omega), up2_a (by omega), F4.2.1 k (by omega) (by omega) (by omega) (by omega) (by omega)]; exact ym k h1 h2
              exact ⟨by rw [q _ (by decide) (by decide)]; exact FG.1, by rw [q _ (by decide) (by decide)]; exact FG.2.1, by rw [q _ (by decide) (by decide)]; exact FG.2.2.1, by rw [q _ (by decide) (by decide)]; exact FG.2.2.2⟩
          · right
            have z := zFn_P (if yF (zPr b len (zS b len (zBg (zS b len s)))) = 0 then w else 0) true (zPr b len (zS b len (zBg (zS b len s))))
            rw [z.1, z.2]
            exact ⟨y1, y2.o (by rw [up2_a (by omega), up2_a (by omega)])⟩
      · have tN := mr_takesN (j := 2) C R3 (by decide) (by rw [eS]; exact k2)
        have tN : ev M_Mo_takes 0 0 [some (.ref m), some (.long (lN 6840691)), none] [] (wI (wL h g1) f3) = some (some (.int (nI 0)), wI (wL h g1) f3) := tN
        have eR : zRb b len (zNn b len s) = (zJ b len 6).2 (zE b len 103 (zBg (zS b len s))) := by rw [eN]; unfold zRb; rw [if_neg (by rw [ek2]; exact k2)]
        have ek3 : kq b len (zBg (zS b len s)) = kd b len (nx b len (yI s)) := by rw [eS]; exact kq_0 rfl
        have eT : zR2 b len s = zFn (if yF ((zJ b len 6).2 (zE b len 103 (zBg (zS b len s)))) = 0 then w else 0) false ((zJ b len 6).2 (zE b len 103 (zBg (zS b len s)))) := by
          unfold zR2
          rw [eR, hw', eN, decide_eq_false (by rw [ek2]; exact k2)]
        rw [eT]
        by_cases k3 : kd b len (nx b len (yI s)) = 100 + 3
        · have eE : zE b len 103 (zBg (zS b len s)) = zS b len (zBg (zS b len s)) := if_pos (by rw [ek3]; exact k3)
          rw [eE]
          obtain ⟨f4, g4, a4, R4⟩ := mr_takesY (j := 3) C R3 (by decide) (by rw [eS]; exact k3)
          have a4 : ev M_Mo_takes 0 0 [some (.ref m), some (.long (lN 26995)), none] [] (wI (wL h g1) f3) = some (some (.int (nI 1)), wI (wL h g4) f4) := a4
          have F4 := R4.fr
          have R5 : RN f4 g4 f4 g4 m b len O dp (zS b len (zBg (zS b len s))) := by
            rw [e5]
            rw [eS] at R4
            exact R4.bs
          have c4 : ∀ a, a ≠ m → a ≠ m + 6 → a ≠ m + 7 → a ≠ m + 13 → a ≠ m + 14 → a ≠ m + 15 → f4 a = f3 a := F4.1
          have E4 : NMm f4 g4 m nr (vNm (yN s)) := ⟨by rw [c4 _ (by omega) (by omega) (by omega) (by omega) (by omega) (by omega)]; exact e32, fun k hk => ⟨by rw [F4.2.2.2.2.2.2 _ (by omega), yg _ (by omega)]; exact (E.2.1 k hk).1, (E.2.1 k hk).2⟩, E.2.2⟩
          have G5 : gdM len nr (vNm (yN s)) (zS b len (zBg (zS b len s))) := by
            rw [e5]; exact ⟨⟨rfl, hi3, L.2.1.2⟩, hnr, rfl⟩
          obtain ⟨f6, g6, a6, o6⟩ := mq_x C E4 hl G5 (by rw [e5]; exact L.2.1.1) R5
          have F6 : FR m f4 f6 g4 g6 := by
            rcases o6 with ⟨-, y⟩ | ⟨-, y⟩
            · exact RQ.fr y
            · exact RE.fr y
          have F46 := F4.tr F6
          have d6 : ∀ a, a ≠ m → a ≠ m + 6 → a ≠ m + 7 → a ≠ m + 13 → a ≠ m + 14 → a ≠ m + 15 → f6 a = f3 a := F46.1
          have e63 : f6 (m + 3) 1 = nI nr := by rw [d6 _ (by omega) (by omega) (by omega) (by omega) (by omega) (by omega)]; exact e32
          have dg : ∀ a, a ≠ m → g6 a = g1 a := F46.2.2.2.2.2.2
          refine ⟨_, _, wp_e (pre (wp_rIe tN (wp_bt rfl (wp_isC mc (wp_rIe a4 (wp_bf n10 (wp_isC mc (wp_rVe a6 (wp_of (fin f6 g6 e63) ⟨rfl, rfl⟩))))))))), T7 (TR.tr T3 F46.T), ?_⟩
          rcases o6 with ⟨y1, y2⟩ | ⟨y1, y2⟩
          · left
            rw [if_pos y1]
            have p := ((px_J hl 6 (by omega) (zS b len (zBg (zS b len s))) G5.1 (by rw [G5.2.1]; exact E.2.2)).2 y1).1
            obtain ⟨⟨-, pi⟩, l, cs, pe, ⟨pl1, pl2⟩, pc, p30, px⟩ := p
            generalize hs3 : (zJ b len 6).2 (zS b len (zBg (zS b len s))) = s3 at *
            rw [e5] at pe pl2 px
            have pe : s3 = (yI s3, 0, yP s, yL s, yV s + l, uXs (uGr (yN s) (fun k => if k = vNr (yN s) then (fun _ => 0) else vGr (yN s) k)) (vXs (yN s) ++ cs)) := pe
            have hx : xsg (vNr (yN s)) cs 0 := by
              have := px 0 [] (by decide) rfl
              rw [List.append_nil] at this; exact this
            have eX : vXs (yN s3) = vXs (yN s) ++ cs := by rw [pe]; rfl
            have LL := LI_d (name := w) L (by omega) pe pi pl2 pc p30 hx hw
            have lx : (vXs (yN s3)).length < 256 := by
              rw [eX, List.length_append]
              have := L.2.1.2
              have pl2 : yV s + l ≤ 30 := pl2
              omega
            have efx : fxs (vXs (yN s) ++ cs) = fxs (vXs (yN s)) ++ cs := fxs_b cs _ p30
            have m25 : f6 m 25 = nI ((fxs (vXs (yN s))).length + cs.length) := by rw [← List.length_append, ← efx, ← eX]; exact y2.2.2.2.2.2.1.1
            have m10 : f6 (m + 10) (5 + nr) = nI (fxs (vXs (yN s))).length := by rw [d6 _ (by omega) (by omega) (by omega) (by omega) (by omega) (by omega)]; exact x10
            have m11 : f6 m 25 - f6 (m + 10) (5 + nr) = nI cs.length := by rw [m25, m10, pk_sub (by omega), Nat.add_sub_cancel_left]
            have eF : zFn w false s3 = (yI s3, 0, yP s, yL s, yV s + l, uNr (uNm (uXs (uGr (yN s) (fun k => if k = vNr (yN s) then (fun _ => 0) else vGr (yN s) k)) (vXs (yN s) ++ cs ++ [30 + vNr (yN s)])) (fun k => if k = vNr (yN s) then w else vNm (yN s) k)) (vNr (yN s) + 1)) := by rw [zFn_d w s3 lx]; rw [pe]; rfl
            have ef2 : fxs (vXs (yN s) ++ cs ++ [30 + vNr (yN s)]) = fxs (vXs (yN s)) ++ cs := by rw [fxs_m _ (by omega), efx]
            refine ⟨by rw [eF]; rfl, _, LL, ⟨[], 0, ?_⟩, ?_, ?_⟩
            · rw [eF]
              show RQ _ _ _ _ m b len (yI s3) [] 0 (fxs (vXs (yN s) ++ cs ++ [30 + vNr (yN s)])) (vKs (yN s)) (vUn (yN s)) (yV s + l)
              rw [ef2]
              have y3 : RQ f4 g4 f6 g6 m b len (yI s3) [] 0 (fxs (vXs (yN s3))) (vKs (yN s3)) (vUn (yN s3)) (yV s3) := y2
              have k1 : vKs (yN s3) = vKs (yN s) := by rw [pe]; rfl
              have k2 : vUn (yN s3) = vUn (yN s) := by rw [pe]; rfl
              have k3 : yV s3 = yV s + l := by rw [pe]; rfl
              rw [eX, efx, k1, k2, k3] at y3
              exact RQ.o y3 (fun a ha => by rw [up2_a (by omega), up2_a (by omega)]) (fun k _ => by rw [up2_a (by omega), up2_a (by omega)]) (up2_a (by omega))
            · rw [eF]
              refine ⟨?_, ?_, ?_, ?_, fun k hk => ?_⟩
              · rw [up2_a (by omega), up2_a (by omega), d6 _ (by omega) (by omega) (by omega) (by omega) (by omega) (by omega), yo _ (by omega)]; exact p2
              · rw [up2_s]; show nI (nr + 1) = nI (vNr (yN s) + 1); rw [hnr]
              · rw [up2_a (by omega), up2_a (by omega), d6 _ (by omega) (by omega) (by omega) (by omega) (by omega) (by omega), yo _ (by omega)]; exact p4
              · rw [up2_a (by omega), up2_a (by omega), d6 _ (by omega) (by omega) (by omega) (by omega) (by omega) (by omega), yo _ (by omega)]; exact p5
              · have hk : k < vNr (yN s) + 1 := hk
                show PLk _ _ m (fxs (vXs (yN s) ++ cs ++ [30 + vNr (yN s)])) _ _ k
                rw [ef2]
                by_cases z : k = nr
                · subst z
                  have tbn : (vTd (yN s)).testBit k = false := by
                    have := tb_hi L.2.2.1.2.2.1
                    rw [hnr] at this; exact this
                  have ecx : (fun k => if k = vNr (yN s) then cs else cx k) k = cs := if_pos hnr.symm
                  refine ⟨?_, ?_, ⟨(fxs (vXs (yN s))).length, ?_, ?_, ?_, ?_⟩, fun tz r hr => ?_⟩
                  · rw [up2_s]
                    show lN w = lN (if k = vNr (yN s) then w else vNm (yN s) k)
                    rw [if_pos hnr.symm]
                  · rw [up2_a (by omega), up2_a (by omega), d6 _ (by omega) (by omega) (by omega) (by omega) (by omega) (by omega), x9]
                    show nI 0 = nI ((vTd (yN s)).testBit k).toNat
                    rw [tbn]; rfl
                  · rw [up2_a (by omega), up2_a (by omega)]; exact m10
                  · rw [up2_a (by omega), up2_s, m11, ecx]
                  · rw [ecx, List.length_append]; exact Nat.le_refl _
                  · intro i c hc
                    rw [ecx] at hc
                    rw [List.getElem?_append_right (by omega), Nat.add_sub_cancel_left]; exact hc
                  · have tz : (vTd (yN s)).testBit k = true := tz
                    rw [tbn] at tz; cases tz
                · refine old k (by omega) dg ?_ ?_ ?_ ?_ ⟨cs, rfl⟩ ?_ rfl ?_ (if_neg (by omega))
                  · rw [d6 _ (by omega) (by omega) (by omega) (by omega) (by omega) (by omega)]
                  · rw [d6 _ (by omega) (by omega) (by omega) (by omega) (by omega) (by omega)]
                  · rw [d6 _ (by omega) (by omega) (by omega) (by omega) (by omega) (by omega)]
                  · intro j hj
                    rw [d6 _ (by omega) (by omega) (by omega) (by omega) (by omega) (by omega)]
                  · show (if k = vNr (yN s) then w else vNm (yN s) k) = _
                    rw [if_neg (by omega)]
                  · show (if k = vNr (yN s) then (fun _ => 0) else vGr (yN s) k) = _
                    rw [if_neg (by omega)]
            · have eL : yL (zFn w false s3) = yL s := by rw [eF]; rfl
              rw [eL]
              have q : ∀ k, 26 < k → k < 31 → up2 (up2 f6 (m + 11) (5 + nr) (f6 m 25 - f6 (m + 10) (5 + nr))) (m + 3) 1 (nI (nr + 1)) m k = f m k := fun k h1 h2 => by rw [up2_a (by omega), up2_a (by omega), F46.2.1 k (by omega) (by omega) (by omega) (by omega) (by omega)]; exact ym k h1 h2
              exact ⟨by rw [q _ (by decide) (by decide)]; exact FG.1, by rw [q _ (by decide) (by decide)]; exact FG.2.1, by rw [q _ (by decide) (by decide)]; exact FG.2.2.1, by rw [q _ (by decide) (by decide)]; exact FG.2.2.2⟩
          · right
            have z := zFn_P (if yF ((zJ b len 6).2 (zS b len (zBg (zS b len s)))) = 0 then w else 0) false ((zJ b len 6).2 (zS b len (zBg (zS b len s))))
            rw [z.1, z.2]
            exact ⟨y1, y2.o (by rw [up2_a (by omega), up2_a (by omega)])⟩
        · have tN3 := mr_takesN (j := 3) C R3 (by decide) (by rw [eS]; exact k3)
          have tN3 : ev M_Mo_takes 0 0 [some (.ref m), some (.long (lN 26995)), none] [] (wI (wL h g1) f3) = some (some (.int (nI 0)), wI (wL h g1) f3) := tN3
          have eE : zE b len 103 (zBg (zS b len s)) = zF b len 2 (zBg (zS b len s)) := if_neg (by rw [ek3]; exact k3)
          rw [eE]
          obtain ⟨f6, a6, a7, a8⟩ := mq_wrongS (s := zBg (zS b len s)) (c := 2) C (by rw [eS]; rfl) R3 (by decide) (by decide)
          have e63 : f6 (m + 3) 1 = nI nr := by rw [a8.fr.1 _ (by omega) (by omega) (by omega) (by omega) (by omega) (by omega)]; exact e32
          refine ⟨_, _, wp_e (pre (wp_rIe tN (wp_bt rfl (wp_isC mc (wp_rIe tN3 (wp_bt rfl (wp_isC mc (wp_rVe a6 (wp_of (fin f6 g1 e63) ⟨rfl, rfl⟩))))))))), T7 (TR.tr T3 a8.fr.T), Or.inr ?_⟩
          have q := (st_J (b := b) (len := len) 6).2 (zF b len 2 (zBg (zS b len s))) a7
          have z := zFn_P (if yF ((zJ b len 6).2 (zF b len 2 (zBg (zS b len s)))) = 0 then w else 0) false ((zJ b len 6).2 (zF b len 2 (zBg (zS b len s))))
          rw [z.1, z.2, q.1, q.2]
          exact ⟨a7, a8.o (by rw [up2_a (by omega), up2_a (by omega)])⟩
  · have eN : zNn b len s = zF b len 2 s := by unfold zNn; rw [if_neg (by rw [ek]; exact z4)]
    obtain ⟨f', g', a1, a2⟩ := bad 2 (by decide) (by decide) eN
    have a3 : wp (ev M_Mo_relation1 0 13 [some (.ref m), some (.int (nI nr)), none, none, none] [] (wI (wL h g) f)) (fun a e => a = none ∧ e = wI (wL h g') f') := by
      rw [r_Mo_relation1_13]; exact a1
    refine ⟨f', g', wp_e (head (wp_bi q1 (fun z => ?_) (fun z => a3))), a2⟩
    have own := mq_own C R z
    rw [decide_eq_true (show 100 ≤ kd b len (yI s) by omega)] at own
    exact wp_isC mc (wp_rIe own (wp_bf n10 a3))
end
