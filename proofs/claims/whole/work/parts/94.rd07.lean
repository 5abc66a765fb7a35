/-! The plain form's reader: a whole derived one. -/
/-- a reading that goes from ahead of a z to its end -/
def OneR (h : MH) (f0 : Nat → Nat → Int32) (g0 : Nat → Nat → Int64) (m : Nat) (b : Nat → Nat) (len nr : Nat) (nm : Nat → Nat) (d : Nat) (A : Ps → Ps) : Prop := ∀ (Q : Option Value → MH → Prop) (s : Ps) (O : List Int32) (f : Nat → Nat → Int32) (g : Nat → Nat → Int64), gdM len nr nm s → yV s ≤ 30 → RM f0 g0 f g m b len O d s → O.length ≤ 3 * d + 2 →
  (∀ f' g', yF (A s) = 0 → RM f0 g0 f' g' m b len O d (A s) → cT h m Q f' g') →
  (∀ f' g', yF (A s) ≠ 0 → RE f0 g0 f' g' m (yF (A s)) (yP (A s)) → Q none (wI (wL h g') f')) → cZ h m Q f g
section
variable {h : MH} {f f0 : Nat → Nat → Int32} {g g0 : Nat → Nat → Int64} {m : Nat} {b : Nat → Nat} {len i : Nat} {O : List Int32} {dp d : Nat} {cs : List Nat} {ks : List Kp} {un lv nr : Nat} {nm : Nat → Nat} {s : Ps} {Q : Option Value → MH → Prop}
theorem OneR.A {A : Ps → Ps} (C : MSH h m) (o : OneR h f0 g0 m b len nr nm d A) : AR h f0 g0 m b len nr nm d 3 A := by
  intro Q s O f g G hv R hO hs K1 K2
  refine o Q s O f g G hv R (by omega) (fun f1 g1 fA R1 => ?_) K2
  have st := mr_turnStop C R1 (hs.w (fun x hx => hx.2))
  have R2 : RR f0 g0 f1 g1 m b len (yI (A s)) (O ++ mcs []) d (fxs (vXs (yN (A s)))) (vKs (yN (A s))) (vUn (yN (A s))) (yV (A s)) := by
    show RR f0 g0 f1 g1 m b len (yI (A s)) (O ++ []) d (fxs (vXs (yN (A s)))) (vKs (yN (A s))) (vUn (yN (A s))) (yV (A s))
    rw [List.append_nil]; exact R1
  exact wp_of st ⟨rfl, K1 f1 g1 [] _ fA (fun x hx => by cases hx) R2 (List.append_nil _)⟩
/-- a z ends with a fault -/
theorem me_z {on : Int32} {c p : Nat} (C : MSH h m) (R : RE f0 g0 f g m c p) (q : Q none (wI (wL h g) f)) : wp (ev M_Mo_z 0 3 [some (.ref m), some (.int on)] [] (wI (wL h g) f)) (fun v H => v = none ∧ wp (ev M_Mo_x 0 11 [some (.ref m), some (.int (nI 1)), none] [] H) Q) := by
  have mc := C.1
  have t : wp (ev M_Mo_z 0 36 [some (.ref m), none] [] (wI (wL h g) f)) (fun v H => v = none ∧ wp (ev M_Mo_x 0 11 [some (.ref m), some (.int (nI 1)), none] [] H) Q) := by
    rw [r_Mo_z_36]
    refine wp_isC mc (wp_rIe (me_good C R) (wp_bt rfl ?_))
    rw [r_Mo_z_42]
    exact wp_isC mc (wp_rIe (me_good C R) (wp_bt rfl (wp_s ⟨rfl, me_x C R q⟩)))
  rw [r_Mo_z_3]
  by_cases z : on = nI 0
  · exact wp_bt z t
  · exact wp_bf z (wp_isC mc (wp_rIe (me_good C R) (wp_bt rfl t)))
theorem one_0 (C : MSH h m) (hd : d = 6) : OneR h f0 g0 m b len nr nm d (zF b len 2) := by
  intro Q s O f g G hv R hO K1 K2
  have mc := C.1
  obtain ⟨f1, a1, a2, a3⟩ := mr_wrongS (c := 2) C G.1.1 R (by decide) (by decide)
  have s2 := R.2.2.2.2.1.2.1
  unfold cZ
  rw [r_Mo_z_3]
  refine wp_bf n10 (wp_isC mc (wp_rIe (mr_good C R) (wp_bf n10 (wp_isC mc ?_))))
  rw [wI_I, s2]
  refine wp_bt (by rw [nI_ltI (by decide) (by omega)]; omega) (wp_isC mc (wp_rVe a1 ?_))
  rw [r_Mo_z_16]
  refine wp_isC mc (wp_rIe (me_word C a3) (wp_bt rfl (wp_isC mc (wp_rIe (me_mark C a3) (wp_bt rfl (me_z C a3 (K2 _ _ a2 a3)))))))
theorem brk_a (O r : List Int32) : ((O ++ [nI 40]) ++ r).any (fun x => decide (x = nI 40)) = true := by
  rw [List.any_append, List.any_append]
  have : [nI 40].any (fun x => decide (x = nI 40)) = true := by decide
  rw [this, Bool.or_true, Bool.true_or]
theorem brk_n {L : Nat} : ∀ r : List Nat, okr L r → (mcs r).any (fun x => decide (x = nI 40)) = false
  | [], _ => rfl
  | c :: r, ok => by
    rw [mcs_c, List.any_append, brk_n r (fun x hx => ok x (List.mem_cons_of_mem _ hx))]
    have := (ok c (List.mem_cons_self ..)).1
    rcases (show c = 20 ∨ c = 21 ∨ c = 22 ∨ c = 23 by omega) with y | y | y | y <;> rw [y] <;> decide
/-- no sign of joining is there: the rest of x -/
theorem mr_xend {r : List Nat} {L : Nat} (C : MSH h m) (R : RR f0 g0 f g m b len i O dp cs ks un lv) (hk : ∀ k, 107 ≤ k → k ≤ 110 → kd b len i ≠ k) (hb : kd b len i = 41 → O.any (fun x => decide (x = nI 40)) = false) (K : wp (ev M_Mo_x 0 76 [some (.ref m), none, none] [] (wI (wL h g) f)) Q) : cX h m Q f g := by
  have mc := C.1
  have jn := mr_join C R
  rw [if_neg (hk 107 (by decide) (by decide)), if_neg (hk 108 (by decide) (by decide)), if_neg (hk 109 (by decide) (by decide)), if_neg (hk 110 (by decide) (by decide))] at jn
  have fin : wp (ev M_Mo_x 0 71 [some (.ref m), none, none] [] (wI (wL h g) f)) Q := by
    rw [r_Mo_x_71, r_Mo_x_74, r_Mo_x_11]
    exact wp_bt rfl K
  unfold cX
  rw [r_Mo_x_11]
  refine wp_bf n10 (wp_isC mc (wp_rIe (mr_good C R) (wp_bf n10 (wp_isC mc (wp_rIe jn (wp_bt rfl (wp_isC mc (wp_rIe (mr_mark C R (c := 41) (by decide) (by decide)) ?_))))))))
  by_cases z : kd b len i = 41
  · rw [decide_eq_true z]
    refine wp_bf n10 (wp_isC mc (wp_rIe (mr_bracket C R) ?_))
    rw [hb z]
    exact wp_bt rfl fin
  · rw [decide_eq_false z]
    exact wp_bt rfl fin
theorem one_s {D : Nat} (C : MSH h m) (E : NMm f0 g0 m nr nm) (hl : len ≤ 1600) (hd : d + (D + 1) = 6) (ih1 : OneR h f0 g0 m b len nr nm (d + 1) (zJ b len D).1) (ih2 : AR h f0 g0 m b len nr nm (d + 1) 1 (zJ b len D).2) : OneR h f0 g0 m b len nr nm d (zOn b len (zJ b len D)) := by
  intro Q s O f g G hv R hO K1 K2
  have mc := C.1
  have ek := kq_0 (b := b) (len := len) G.1.1
  have eS := zS_0 (b := b) (len := len) G.1.1
  have gx := G.1.2.2
  have G1 : gdM len nr nm (zS b len s) := by rw [eS]; exact ⟨⟨rfl, nx_le G.1.2.1, gx⟩, G.2.1, G.2.2⟩
  have s2 := R.2.2.2.2.1.2.1
  have n5 : vNr (yN (zS b len s)) ≤ 5 := by rw [G1.2.1]; exact E.2.2
  have w11 : ev M_Mo_isWord 0 0 [some (.ref m), some (.long (lN 1650549611)), none] [] (wI (wL h g) f) = _ := mr_word C R (j := 11) (by decide)
  have m40 := mr_mark C R (c := 40) (by decide) (by decide)
  unfold cZ
  rw [r_Mo_z_3]
  refine wp_bf n10 (wp_isC mc (wp_rIe (mr_good C R) (wp_bf n10 (wp_isC mc ?_))))
  rw [wI_I, s2]
  refine wp_bf (by rw [nI_ltI (by decide) (by omega)]; omega) ?_
  rw [r_Mo_z_16]
  refine wp_isC mc (wp_rIe w11 ?_)
  by_cases z11 : kd b len (yI s) = 100 + 11
  · rw [decide_eq_true z11]
    have ez : zOn b len (zJ b len D) s = zX 12 ((zJ b len D).1 (zS b len s)) := by unfold zOn; rw [ek, if_neg (by omega), if_neg (by omega), if_pos z11]
    rw [ez] at K1 K2
    obtain ⟨f1, g1, a1, R1⟩ := mr_openUp (x := nI 24) C R (by omega)
    refine wp_bf n10 (wp_isC mc (wp_rVe a1 ?_))
    refine ih1 Q (zS b len s) (O ++ [nI 24]) f1 g1 G1 (by rw [eS]; exact hv) (by rw [eS]; exact R1) (by rw [len_1]; omega) (fun f2 g2 fA R2 => ?_) (fun f2 g2 fA R2 => ?_)
    · have p := ((px_J hl D (by omega) (zS b len s) G1.1 n5).1 fA)
      have gg := PX.gd G1.1 p (by omega)
      have hx : (vXs (yN ((zJ b len D).1 (zS b len s)))).length < 256 := by have := gg.2.1; have := gg.2.2; omega
      have hx2 := fxs_n (vXs (yN ((zJ b len D).1 (zS b len s))))
      obtain ⟨f3, a3, R3⟩ := mr_turnPop C R2 (by omega) (by omega)
      refine a3 _ (K1 f3 g2 (by rw [zX_F]; exact fA) ?_)
      rw [zX_o hx]
      show RR f0 g0 f3 g2 m b len _ O d (fxs (vXs (yN ((zJ b len D).1 (zS b len s))) ++ [12])) _ _ _
      rw [fxs_a _ (by decide)]; exact R3
    · have e1 := st_X (c := 12) _ fA
      exact K2 f2 g2 (by rw [e1.1]; exact fA) (by rw [e1.1, e1.2]; exact R2)
  rw [decide_eq_false z11]
  refine wp_bt rfl (wp_isC mc (wp_rIe m40 ?_))
  by_cases z40 : kd b len (yI s) = 40
  · rw [decide_eq_true z40]
    have ez : zOn b len (zJ b len D) s = zE b len 41 ((zJ b len D).2 (zS b len s)) := by unfold zOn; rw [ek, if_neg (by omega), if_pos z40]
    rw [ez] at K1 K2
    obtain ⟨f1, g1, a1, R1⟩ := mr_openUp (x := nI 40) C R (by omega)
    refine wp_bf n10 (wp_isC mc (wp_rVe a1 ?_))
    have lb : LstP (O ++ [nI 40]) (wlx 1) := Or.inr ⟨O, _, rfl, by decide, by decide⟩
    refine ih2 Q (zS b len s) (O ++ [nI 40]) f1 g1 G1 (by rw [eS]; exact hv) (by rw [eS]; exact R1) (by rw [len_1]; omega) lb (fun f2 g2 r cs fA ok R2 ec => ?_) (fun f2 g2 fA R2 => ?_)
    · obtain ⟨p, tk⟩ := ((px_J hl D (by omega) (zS b len s) G1.1 n5).2 fA)
      have gg := PX.gd G1.1 p (by omega)
      have ek2 := kq_0 (b := b) (len := len) fA
      have hx2 := fxs_n (vXs (yN ((zJ b len D).2 (zS b len s))))
      rw [← ec, List.length_append] at hx2
      have hlc : cs.length + r.length < 260 := by have := gg.2.1; have := gg.2.2; omega
      by_cases z41 : kd b len (yI ((zJ b len D).2 (zS b len s))) = 41
      · have ez2 : zE b len 41 ((zJ b len D).2 (zS b len s)) = zS b len ((zJ b len D).2 (zS b len s)) := if_pos (by rw [ek2]; exact z41)
        rw [ez2, zS_0 fA] at K1
        generalize (zJ b len D).2 (zS b len s) = t at *
        have jn := mr_join C R2
        rw [if_neg (by omega), if_neg (by omega), if_neg (by omega), if_neg (by omega)] at jn
        have mk := mr_mark C R2 (c := 41) (by decide) (by decide)
        rw [decide_eq_true z41] at mk
        have br := mr_bracket C R2
        rw [brk_a] at br
        obtain ⟨f3, a3, R3⟩ := mr_closes (g := g2) C (show 1 < 10 by decide) (lb.w (fun x hx => hx.1)) r cs f2 ok hlc R2
        rw [ec] at R3
        have s := R3.2.2.2.2.1
        have R4 : RR f0 g0 (up2 (up2 f3 m 32 (nI O.length)) m 33 (nI d)) g2 m b len (yI t) O d (fxs (vXs (yN t))) (vKs (yN t)) (vUn (yN t)) (yV t) := R3.st (fun a h1 _ => by rw [up2_a h1, up2_a h1]) (fun k h1 h2 => by rw [up2_k h2, up2_k h1]) (s.pop (by rw [up2_k (by decide), up2_s]) up2_s (by rw [up2_a (by omega), up2_a (by omega)]))
        obtain ⟨f5, g5, a5, R5⟩ := mr_goOn C R4
        have ct := K1 f5 g5 rfl R5
        have s1 := s.1
        rw [len_1] at s1
        unfold cX
        rw [r_Mo_x_11]
        refine wp_bf n10 (wp_isC mc (wp_rIe (mr_good C R2) (wp_bf n10 (wp_isC mc (wp_rIe jn (wp_bt rfl (wp_isC mc (wp_rIe mk (wp_bf n10 (wp_isC mc (wp_rIe br (wp_bf n10 (wp_isC mc (wp_rVe a3 (wp_isC mc (wp_isC mc ?_))))))))))))))))
        rw [wI_I, s1, nm_m1 (by omega), Nat.add_sub_cancel, wI_s]
        refine wp_isC mc (wp_isC mc ?_)
        rw [wI_I, up2_k (by decide), s.2.1, nm_m1 (by omega), Nat.add_sub_cancel, wI_s]
        refine wp_isC mc (wp_rVe a5 (wp_isC mc ?_))
        rw [r_Mo_turnsDone_0]
        refine wp_rV ct (fun v H w => ⟨w.1, ?_⟩)
        rw [r_Mo_x_74]; exact w.2
      · have ez2 : zE b len 41 ((zJ b len D).2 (zS b len s)) = zF b len 2 ((zJ b len D).2 (zS b len s)) := if_neg (by rw [ek2]; exact z41)
        rw [ez2] at K2
        generalize (zJ b len D).2 (zS b len s) = t at *
        obtain ⟨f3, a3, a4, a5⟩ := mr_wrongS (c := 2) C fA R2 (by decide) (by decide)
        have br := mr_bracket C R2
        rw [brk_a] at br
        refine mr_xend (r := r) (L := 1) C R2 (fun k h1 h2 => by rw [← ek2]; exact tk k h1 h2) (fun w => absurd w z41) ?_
        rw [r_Mo_x_76]
        refine wp_isC mc (wp_rIe (mr_good C R2) (wp_bf n10 (wp_isC mc (wp_rIe br (wp_bf n10 (wp_isC mc (wp_rVe a3 ?_)))))))
        rw [r_Mo_x_86]
        exact wp_isC mc (wp_rIe (me_good C a5) (wp_bt rfl (wp_s (K2 _ _ a4 a5))))
    · have e1 := st_E (b := b) (len := len) (c := 41) _ fA
      exact K2 f2 g2 (by rw [e1.1]; exact fA) (by rw [e1.1, e1.2]; exact R2)
  rw [decide_eq_false z40]
  have ez : zOn b len (zJ b len D) s = zLe b len s := by
    unfold zOn zLe
    by_cases z4 : kq b len s = 4
    · rw [if_pos z4, if_pos z4]
    · rw [if_neg z4, if_neg z4, ek, if_neg z40, if_neg z11]
  rw [ez] at K1 K2
  obtain ⟨f1, g1, a1, R1⟩ := mr_leaf C E G R hv
  refine wp_bt rfl ?_
  rw [r_Mo_z_3]
  refine wp_bt rfl ?_
  rw [r_Mo_z_36]
  refine wp_isC mc (wp_rIe (mr_good C R) (wp_bf n10 (wp_isC mc (wp_rVe a1 ?_))))
  rw [r_Mo_z_42]
  rcases R1 with ⟨y1, y2⟩ | ⟨y1, y2⟩
  · refine wp_isC mc (wp_rIe (mr_good C y2) (wp_bf n10 (wp_isC mc ?_)))
    rw [r_Mo_turnsDone_0]
    exact wp_rV (K1 f1 g1 y1 y2) (fun v H w => ⟨w.1, wp_s ⟨rfl, w.2⟩⟩)
  · exact wp_isC mc (wp_rIe (me_good C y2) (wp_bt rfl (wp_s ⟨rfl, me_x C y2 (K2 _ _ y1 y2)⟩)))
theorem joinR {D : Nat} (C : MSH h m) (E : NMm f0 g0 m nr nm) (hl : len ≤ 1600) (hd : d + D = 6) (o : OneR h f0 g0 m b len nr nm d (zJ b len D).1) : AR h f0 g0 m b len nr nm d 1 (zJ b len D).2 := by
  have PO : ∀ s, gdX len s → vNr (yN s) = nr → yF ((zJ b len D).1 s) = 0 → PX len nr (2 * D) (D + 1) s ((zJ b len D).1 s) := fun s g n f => by
    have := (px_J hl D (by omega) s g (by rw [n]; exact E.2.2)).1 f
    rw [n] at this; exact this
  have a2 : AR h f0 g0 m b len nr nm d 2 (zMt b len (zJ b len D).1) := mr_lvl (L := 2) C hl (by omega) (Or.inl ⟨rfl, rfl, rfl, rfl, rfl⟩) (st_J D).1 (o.A C) PO (by omega)
  have PM : ∀ s, gdX len s → vNr (yN s) = nr → yF (zMt b len (zJ b len D).1 s) = 0 → PX len nr (2 * D + 1) (D + 1) s (zMt b len (zJ b len D).1 s) := fun s g n f => (px_mt hl (st_J D).1 PO (by omega) s g n f).1
  have a1 : AR h f0 g0 m b len nr nm d 1 (zJn b len (zJ b len D).1) := mr_lvl (L := 1) C hl (by omega) (Or.inr ⟨rfl, rfl, rfl, rfl, rfl⟩) ((st_J D).1.c (st_Xl (st_J D).1 1600)) a2 PM (by omega)
  rw [zJ_2]; exact a1
theorem allR (C : MSH h m) (E : NMm f0 g0 m nr nm) (hl : len ≤ 1600) : ∀ D d, d + D = 6 → OneR h f0 g0 m b len nr nm d (zJ b len D).1 ∧ AR h f0 g0 m b len nr nm d 1 (zJ b len D).2
  | 0, d, hd => by
    have o := one_0 (h := h) (f0 := f0) (g0 := g0) (b := b) (len := len) (nr := nr) (nm := nm) (d := d) C (by omega)
    exact ⟨o, joinR (D := 0) C E hl hd o⟩
  | D + 1, d, hd => by
    obtain ⟨i1, i2⟩ := allR C E hl D (d + 1) (by omega)
    have o := one_s C E hl hd i1 i2
    exact ⟨o, joinR (D := D + 1) C E hl hd o⟩
/-- the whole of a derived one -/
theorem mr_x (C : MSH h m) (E : NMm f0 g0 m nr nm) (hl : len ≤ 1600) (G : gdM len nr nm s) (hv : yV s ≤ 30) (R : RM f0 g0 f g m b len O dp s) : ∃ f' g', ev M_Mo_x 0 0 [some (.ref m), none, none] [] (wI (wL h g) f) = some (none, wI (wL h g') f') ∧ Res f0 g0 f' g' m b len [] 0 ((zJ b len 6).2 s) := by
  have mc := C.1
  have key : wp (ev M_Mo_x 0 0 [some (.ref m), none, none] [] (wI (wL h g) f)) (fun a e => a = none ∧ ∃ f' g', e = wI (wL h g') f' ∧ Res f0 g0 f' g' m b len [] 0 ((zJ b len 6).2 s)) := by
    have n5 : vNr (yN s) ≤ 5 := by rw [G.2.1]; exact E.2.2
    have R1 : RM f0 g0 (up2 (up2 f m 32 (nI 0)) m 33 (nI 0)) g m b len [] 0 s := RR.st R (fun a h1 _ => by rw [up2_a h1, up2_a h1]) (fun k h1 h2 => by rw [up2_k h2, up2_k h1]) ⟨by rw [up2_k (by decide), up2_s]; rfl, up2_s, fun i c hc => (by cases hc), by decide⟩
    have a := (allR (h := h) (f0 := f0) (g0 := g0) (b := b) (len := len) (nr := nr) (nm := nm) C E hl 6 0 (by decide)).2
    have z := a (fun a e => a = none ∧ ∃ f' g', e = wI (wL h g') f' ∧ Res f0 g0 f' g' m b len [] 0 ((zJ b len 6).2 s)) s [] _ g G hv R1 (by decide) (Or.inl rfl) (fun f2 g2 r cs fA ok R2 ec => ?_) (fun f2 g2 fA R2 => ⟨rfl, f2, g2, rfl, Or.inr ⟨fA, R2⟩⟩)
    · rw [r_Mo_x_0]
      refine wp_isC mc ?_
      rw [wI_s]
      refine wp_isC mc ?_
      rw [wI_s]
      refine wp_isC mc ?_
      rw [r_Mo_z_0]
      exact wp_rV z (fun v H w => w)
    · obtain ⟨p, tk⟩ := ((px_J hl 6 (by omega) s G.1 n5).2 fA)
      have gg := PX.gd G.1 p (by omega)
      have ek2 := kq_0 (b := b) (len := len) fA
      have hx2 := fxs_n (vXs (yN ((zJ b len 6).2 s)))
      rw [← ec, List.length_append] at hx2
      have hlc : cs.length + r.length < 260 := by have := gg.2.1; have := gg.2.2; omega
      generalize (zJ b len 6).2 s = t at *
      have bn := brk_n r ok
      have br := mr_bracket C R2
      have e0 : [] ++ mcs r = mcs r := rfl
      rw [e0, bn] at br
      obtain ⟨f3, a3, R3⟩ := mr_closes (O := []) (g := g2) C (show 1 < 10 by decide) (Or.inl rfl) r cs f2 ok hlc R2
      rw [ec] at R3
      refine mr_xend (r := r) (L := 1) C R2 (fun k h1 h2 => by rw [← ek2]; exact tk k h1 h2) (fun _ => bn) ?_
      rw [r_Mo_x_76]
      refine wp_isC mc (wp_rIe (mr_good C R2) (wp_bf n10 (wp_isC mc (wp_rIe br (wp_bt rfl ?_)))))
      rw [r_Mo_x_86]
      exact wp_isC mc (wp_rIe (mr_good C R2) (wp_bf n10 (wp_isC mc (wp_rVe a3 (wp_s ⟨rfl, f3, g2, rfl, Or.inl ⟨fA, R3⟩⟩)))))
  obtain ⟨v, hh, e1, e2, f', g', e3, e4⟩ := key
  subst e2; subst e3
  exact ⟨f', g', e1, e4⟩
end
