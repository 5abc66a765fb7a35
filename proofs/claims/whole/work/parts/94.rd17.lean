/-! The plain form's reader: lines. -/
section
variable {h : MH} {f f0 : Nat → Nat → Int32} {g g0 : Nat → Nat → Int64} {m : Nat} {b : Nat → Nat} {len i : Nat} {O : List Int32} {dp d : Nat} {cs : List Nat} {ks : List Kp} {un lv nr : Nat} {nm : Nat → Nat} {s : Ps} {Q : Option Value → MH → Prop} {cx : Nat → List Nat}
theorem PLC.fr {f' : Nat → Nat → Int32} {g' : Nat → Nat → Int64} {q : Pn} (P : PLC f g m cx q) (F : FR m f f' g g') : PLC f' g' m cx q := by
  obtain ⟨p2, p3, p4, p5, pk⟩ := P
  have c : ∀ a, a ≠ m → a ≠ m + 6 → a ≠ m + 7 → a ≠ m + 13 → a ≠ m + 14 → a ≠ m + 15 → f' a = f a := F.1
  refine ⟨by rw [c _ (by omega) (by omega) (by omega) (by omega) (by omega) (by omega)]; exact p2, by rw [c _ (by omega) (by omega) (by omega) (by omega) (by omega) (by omega)]; exact p3, by rw [c _ (by omega) (by omega) (by omega) (by omega) (by omega) (by omega)]; exact p4, by rw [c _ (by omega) (by omega) (by omega) (by omega) (by omega) (by omega)]; exact p5, fun k hk => (pk k hk).c ?_ ?_ ?_ ?_ ?_ ⟨[], (List.append_nil _).symm⟩ rfl rfl rfl rfl⟩
  · rw [F.2.2.2.2.2.2 _ (by omega)]
  · rw [c _ (by omega) (by omega) (by omega) (by omega) (by omega) (by omega)]
  · rw [c _ (by omega) (by omega) (by omega) (by omega) (by omega) (by omega)]
  · rw [c _ (by omega) (by omega) (by omega) (by omega) (by omega) (by omega)]
  · intro r hr; rw [c _ (by omega) (by omega) (by omega) (by omega) (by omega) (by omega)]
theorem FLG.fr {f' : Nat → Nat → Int32} {g' : Nat → Nat → Int64} {l : Nat} (P : FLG f m l) (F : FR m f f' g g') : FLG f' m l :=
  ⟨by rw [F.2.1 _ (by decide) (by decide) (by decide) (by decide) (by decide)]; exact P.1, by rw [F.2.1 _ (by decide) (by decide) (by decide) (by decide) (by decide)]; exact P.2.1, by rw [F.2.1 _ (by decide) (by decide) (by decide) (by decide) (by decide)]; exact P.2.2.1, by rw [F.2.1 _ (by decide) (by decide) (by decide) (by decide) (by decide)]; exact P.2.2.2⟩
theorem LI.onw (L : LI len cx s) : LI len cx (nx b len (yI s), 0, yP s, yL s, yV s, yN s) := ⟨⟨rfl, nx_le L.1.2⟩, L.2⟩
/-- behind the line's own words: the semicolon -/
theorem mr_semi {f1 : Nat → Nat → Int32} {g1 : Nat → Nat → Int64} (C : MSH h m) (r : LRs f g f1 g1 m b len s) : ∃ f' g', ev M_Mo_line 0 107 [some (.ref m)] [] (wI (wL h g1) f1) = some (none, wI (wL h g') f') ∧ LRs f g f' g' m b len (zE b len 59 s) := by
  have mc := C.1
  obtain ⟨T, ⟨hf, cx, L, ⟨O, dp, R⟩, P, F⟩ | ⟨hf, R⟩⟩ := r
  · have ek := kq_0 (b := b) (len := len) hf
    have mk := mq_mark C R (c := 59) (by decide) (by decide)
    by_cases z : kd b len (yI s) = 59
    · have ez : zE b len 59 s = zS b len s := if_pos (by rw [ek]; exact z)
      rw [decide_eq_true z] at mk
      obtain ⟨f2, g2, a2, R2⟩ := mq_goOn C R
      rw [ez, zS_0 hf]
      refine ⟨f2, g2, ?_, T.tr R2.fr.T, Or.inl ⟨rfl, cx, L.onw, ⟨O, dp, R2.bs⟩, P.fr R2.fr, F.fr R2.fr⟩⟩
      rw [r_Mo_line_107]
      refine wp_e (wp_isC mc ?_)
      rw [r_Mo_needsMark_0]
      refine wp_rV (P := fun a e => a = none ∧ e = wI (wL h g2) f2) (wp_isC mc (wp_rIe mk (wp_bf n10 ?_))) (fun v H w => ⟨w.1, wp_s ⟨rfl, w.2⟩⟩)
      rw [r_Mo_needsMark_8]
      exact wp_isC mc (wp_rIe (mq_good C R) (wp_bf n10 (wp_isC mc (wp_rVe a2 (wp_s ⟨rfl, rfl⟩)))))
    · have ez : zE b len 59 s = zF b len 2 s := if_neg (by rw [ek]; exact z)
      rw [decide_eq_false z] at mk
      obtain ⟨f2, a1, a2, a3⟩ := mq_wrongS (s := s) (c := 2) C hf R (by decide) (by decide)
      rw [ez]
      refine ⟨f2, g1, ?_, T.tr a3.fr.T, Or.inr ⟨a2, a3.bs⟩⟩
      rw [r_Mo_line_107]
      refine wp_e (wp_isC mc ?_)
      rw [r_Mo_needsMark_0]
      refine wp_rV (P := fun a e => a = none ∧ e = wI (wL h g1) f2) (wp_isC mc (wp_rIe mk (wp_bt rfl (wp_isC mc (wp_rVe a1 ?_))))) (fun v H w => ⟨w.1, wp_s ⟨rfl, w.2⟩⟩)
      rw [r_Mo_needsMark_8]
      exact wp_isC mc (wp_rIe (me_good C a3) (wp_bt rfl (wp_s ⟨rfl, rfl⟩)))
  · have q := st_E (b := b) (len := len) (c := 59) s hf
    refine ⟨f1, g1, ?_, T, Or.inr ⟨by rw [q.1]; exact hf, by rw [q.1, q.2]; exact R⟩⟩
    rw [r_Mo_line_107]
    refine wp_e (wp_isC mc ?_)
    rw [r_Mo_needsMark_0]
    refine wp_rV (P := fun a e => a = none ∧ e = wI (wL h g1) f1) (wp_isC mc (wp_rIe (me_mark C R) (wp_bt rfl (wp_isC mc (wp_rVe (me_wrong C R) ?_))))) (fun v H w => ⟨w.1, wp_s ⟨rfl, w.2⟩⟩)
    rw [r_Mo_needsMark_8]
    exact wp_isC mc (wp_rIe (me_good C R) (wp_bt rfl (wp_s ⟨rfl, rfl⟩)))
/-- a line's flag is set, its word is passed -/
theorem mr_flag {j sl : Nat} (C : MSH h m) (L : LI len cx s) (M : LM f g m b len cx s) (hj : (sl = 27 ∧ j = 0) ∨ (sl = 28 ∧ j = 4) ∨ (sl = 29 ∧ j = 5) ∨ (sl = 30 ∧ j = 6)) : ∃ f' g', ev M_Mo_goOn 0 0 [some (.ref m), none] [] (wI (wL h g) (up2 f m sl (nI 1))) = some (none, wI (wL h g') f') ∧ TR m f f' g g' ∧ LM f' g' m b len cx (nx b len (yI s), 0, yP s, yL s ||| 2 ^ j, yV s, yN s) := by
  obtain ⟨⟨O, dp, R⟩, P, F⟩ := M
  have R1 : RQ (up2 f m sl (nI 1)) g (up2 f m sl (nI 1)) g m b len (yI s) O dp (fxs (vXs (yN s))) (vKs (yN s)) (vUn (yN s)) (yV s) := RQ.o R (fun a ha => up2_a (by omega)) (fun k hk => up2_k (by omega)) rfl
  obtain ⟨f2, g2, a2, R2⟩ := mq_goOn C R1
  refine ⟨f2, g2, a2, (TR.u TR.rf (by unfold Tw; omega)).tr R2.fr.T, ⟨O, dp, R2.bs⟩, ?_, ?_⟩
  · refine PLC.fr (f := up2 f m sl (nI 1)) (g := g) ?_ R2.fr
    obtain ⟨p2, p3, p4, p5, pk⟩ := P
    refine ⟨by rw [up2_a (by omega)]; exact p2, by rw [up2_a (by omega)]; exact p3, by rw [up2_a (by omega)]; exact p4, by rw [up2_a (by omega)]; exact p5, fun k hk => (pk k hk).c rfl ?_ ?_ ?_ ?_ ⟨[], (List.append_nil _).symm⟩ rfl rfl rfl rfl⟩
    · rw [up2_a (by omega)]
    · rw [up2_a (by omega)]
    · rw [up2_a (by omega)]
    · intro r hr; rw [up2_a (by omega)]
  · refine FLG.fr (f := up2 f m sl (nI 1)) (g := g) ?_ R2.fr
    show FLG _ m (yL s ||| 2 ^ j)
    obtain ⟨l1, l2, l3, l4⟩ := F
    unfold FLG
    rw [tb_or, tb_or, tb_or, tb_or]
    rcases hj with ⟨e1, e2⟩ | ⟨e1, e2⟩ | ⟨e1, e2⟩ | ⟨e1, e2⟩ <;> subst e1 <;> subst e2
    · exact ⟨up2_s, by rw [up2_k (by decide)]; exact l2, by rw [up2_k (by decide)]; exact l3, by rw [up2_k (by decide)]; exact l4⟩
    · exact ⟨by rw [up2_k (by decide)]; exact l1, up2_s, by rw [up2_k (by decide)]; exact l3, by rw [up2_k (by decide)]; exact l4⟩
    · exact ⟨by rw [up2_k (by decide)]; exact l1, by rw [up2_k (by decide)]; exact l2, up2_s, by rw [up2_k (by decide)]; exact l4⟩
    · exact ⟨by rw [up2_k (by decide)]; exact l1, by rw [up2_k (by decide)]; exact l2, by rw [up2_k (by decide)]; exact l3, up2_s⟩
theorem LI.fl {j : Nat} (L : LI len cx s) : LI len cx (nx b len (yI s), 0, yP s, yL s ||| 2 ^ j, yV s, yN s) := by
  refine ⟨⟨rfl, nx_le L.1.2⟩, L.2.1, L.2.2.1, L.2.2.2.1, L.2.2.2.2.1, ?_, L.2.2.2.2.2.2⟩
  rcases L.2.2.2.2.2.1 with z | ⟨z1, z2⟩
  · exact Or.inl z
  · refine Or.inr ⟨?_, z2⟩
    show (yL s ||| 2 ^ j).testBit 4 = true
    rw [tb_or, z1]; split <;> rfl
/-- a number at hand is told: cell m + w takes it -/
theorem mr_told {lo hi w : Nat} (C : MSH h m) (L : LI len cx s) (M : LM f g m b len cx s) (h1 : lo ≤ hi) (h2 : hi ≤ 9999) (hw : w = 2 ∨ w = 4 ∨ w = 5) (U : Nat → Pn) (hU : ∀ x, lo ≤ x → x ≤ hi → LI len cx (nx b len (yI s), 0, yP s, yL s, yV s, U x) ∧ vXs (U x) = vXs (yN s) ∧ vKs (U x) = vKs (yN s) ∧ vUn (U x) = vUn (yN s) ∧ ∀ f' g', PLC f' g' m cx (yN s) → PLC (up2 f' (m + w) 1 (nI x)) g' m cx (U x)) :
    ∃ f' g' v, ev M_Mo_number 0 0 [some (.ref m), some (.int (nI lo)), some (.int (nI hi)), none] [] (wI (wL h g) f) = some (some (.int v), wI (wL h g') f') ∧ LRs f g (up2 f' (m + w) 1 v) g' m b len (zN (zM b len lo hi s).2 (U (zM b len lo hi s).1)) := by
  obtain ⟨⟨O, dp, R⟩, P, F⟩ := M
  obtain ⟨f1, g1, v, a1, F1, o1⟩ := mr_num (lo := lo) (hi := hi) C L.1.1 R (by omega) h2
  refine ⟨f1, g1, v, a1, TR.u F1.T (by unfold Tw; omega), ?_⟩
  rcases o1 with ⟨y1, y2, y3⟩ | ⟨y1, y2⟩
  · obtain ⟨-, ez⟩ := zM_f y1
    obtain ⟨u1, u2, u3, u4, u5⟩ := hU (zM b len lo hi s).1 (zM_le h1).1 (zM_le h1).2
    have eS := zS_0 (b := b) (len := len) L.1.1
    rw [ez, eS] at y3 ⊢
    subst y2
    generalize (zM b len lo hi s).1 = x at *
    refine Or.inl ⟨rfl, cx, u1, ⟨O, dp, ?_⟩, u5 f1 g1 (P.fr F1), ?_⟩
    · show RQ _ _ _ _ m b len (nx b len (yI s)) O dp (fxs (vXs (U x))) (vKs (U x)) (vUn (U x)) (yV s)
      rw [u2, u3, u4]
      exact RQ.o y3 (fun a ha => up2_a (by omega)) (fun k _ => by rw [up2_a (by omega)]) rfl
    · show FLG _ m (yL s)
      have F2 := F.fr F1
      have e : ∀ k, up2 f1 (m + w) 1 (nI x) m k = f1 m k := fun k => by rw [up2_a (by omega)]
      exact ⟨by rw [e]; exact F2.1, by rw [e]; exact F2.2.1, by rw [e]; exact F2.2.2.1, by rw [e]; exact F2.2.2.2⟩
  · exact Or.inr ⟨y1, y2.o (by rw [up2_a (by omega)])⟩
theorem mr_line (C : MSH h m) (hl : len ≤ 1600) (L : LI len cx s) (M : LM f g m b len cx s) : ∃ f' g', ev M_Mo_line 0 0 [some (.ref m)] [] (wI (wL h g) f) = some (none, wI (wL h g') f') ∧ LRs f g f' g' m b len (zE b len 59 (zLn b len s)) := by
  have mc := C.1
  have ar2 : hR h m 12 = some (m + 2) := (C.2 1 (by decide)).1
  have an2 : hN h (m + 2) = 2 := (C.2 1 (by decide)).2.1
  have ac2 : hC h (m + 2) = 20 := (C.2 1 (by decide)).2.2
  have ar3 : hR h m 13 = some (m + 3) := (C.2 2 (by decide)).1
  have an3 : hN h (m + 3) = 2 := (C.2 2 (by decide)).2.1
  have ac3 : hC h (m + 3) = 20 := (C.2 2 (by decide)).2.2
  have ar4 : hR h m 14 = some (m + 4) := (C.2 3 (by decide)).1
  have an4 : hN h (m + 4) = 2 := (C.2 3 (by decide)).2.1
  have ac4 : hC h (m + 4) = 20 := (C.2 3 (by decide)).2.2
  have ar5 : hR h m 15 = some (m + 5) := (C.2 4 (by decide)).1
  have an5 : hN h (m + 5) = 2 := (C.2 4 (by decide)).2.1
  have ac5 : hC h (m + 5) = 20 := (C.2 4 (by decide)).2.2
  have hf := L.1.1
  have ek := kq_0 (b := b) (len := len) hf
  obtain ⟨⟨O, dp, R⟩, ⟨p2, p3, p4, p5, pk⟩, l1, l2, l3, l4⟩ := id M
  have n5 := L.2.2.1.2.1
  have w0 : ev M_Mo_isWord 0 0 [some (.ref m), some (.long (lN 119183033855091)), none] [] (wI (wL h g) f) = _ := mq_word C R (j := 0) (by decide)
  have w1 : ev M_Mo_isWord 0 0 [some (.ref m), some (.long (lN 7497068)), none] [] (wI (wL h g) f) = _ := mq_word C R (j := 1) (by decide)
  have w4 : ev M_Mo_isWord 0 0 [some (.ref m), some (.long (lN 1801807216)), none] [] (wI (wL h g) f) = _ := mq_word C R (j := 4) (by decide)
  have w5 : ev M_Mo_isWord 0 0 [some (.ref m), some (.long (lN 431416239732)), none] [] (wI (wL h g) f) = _ := mq_word C R (j := 5) (by decide)
  have w6 : ev M_Mo_isWord 0 0 [some (.ref m), some (.long (lN 1685217655)), none] [] (wI (wL h g) f) = _ := mq_word C R (j := 6) (by decide)
  -- it is enough to come to the semicolon
  suffices key : ∀ P : Option Value → MH → Prop, (∀ f1 g1, LRs f g f1 g1 m b len (zLn b len s) → wp (ev M_Mo_line 0 107 [some (.ref m)] [] (wI (wL h g1) f1)) P) → wp (ev M_Mo_line 0 0 [some (.ref m)] [] (wI (wL h g) f)) P by
    obtain ⟨v, hh, e1, e2, f', g', e3, e4⟩ := key (fun a e => a = none ∧ ∃ f' g', e = wI (wL h g') f' ∧ LRs f g f' g' m b len (zE b len 59 (zLn b len s))) (fun f1 g1 r => by
      obtain ⟨f', g', a1, a2⟩ := mr_semi C r
      exact wp_of a1 ⟨rfl, f', g', rfl, a2⟩)
    subst e2; subst e3
    exact ⟨f', g', e1, e4⟩
  intro P K
  -- no line begins so
  have bad : ∀ t : Ps, yF (zLn b len s) = yF (zF b len 2 s) → yP (zLn b len s) = yP (zF b len 2 s) → wp (ev M_Mo_line 0 103 [some (.ref m)] [] (wI (wL h g) f)) P := fun _ e1 e2 => by
    obtain ⟨f1, a1, a2, a3⟩ := mq_wrongS (s := s) (c := 2) C hf R (by decide) (by decide)
    rw [r_Mo_line_103]
    exact wp_isC mc (wp_rVe a1 (K f1 g ⟨a3.fr.T, Or.inr ⟨by rw [e1]; exact a2, by rw [e1, e2]; exact a3.bs⟩⟩))
  have s81 : (kd b len (yI s) = 106 → (yL s).testBit 6 = true) → wp (ev M_Mo_line 0 103 [some (.ref m)] [] (wI (wL h g) f)) P → wp (ev M_Mo_line 0 81 [some (.ref m)] [] (wI (wL h g) f)) P := fun c w => by
    rw [r_Mo_line_81]
    refine wp_isC mc (wp_rIe w6 ?_)
    by_cases z : kd b len (yI s) = 100 + 6
    · rw [decide_eq_true z]
      refine wp_bf n10 (wp_isC mc (wp_bf ?_ w))
      rw [wI_I, l4, c z]; exact n10
    · rw [decide_eq_false z]; exact wp_bt rfl w
  have s59 : (kd b len (yI s) = 105 → (yL s).testBit 5 = true) → wp (ev M_Mo_line 0 81 [some (.ref m)] [] (wI (wL h g) f)) P → wp (ev M_Mo_line 0 59 [some (.ref m)] [] (wI (wL h g) f)) P := fun c w => by
    rw [r_Mo_line_59]
    refine wp_isC mc (wp_rIe w5 ?_)
    by_cases z : kd b len (yI s) = 100 + 5
    · rw [decide_eq_true z]
      refine wp_bf n10 (wp_isC mc (wp_bf ?_ w))
      rw [wI_I, l3, c z]; exact n10
    · rw [decide_eq_false z]; exact wp_bt rfl w
  have s43 : (kd b len (yI s) = 104 → (yL s).testBit 4 = true) → wp (ev M_Mo_line 0 59 [some (.ref m)] [] (wI (wL h g) f)) P → wp (ev M_Mo_line 0 43 [some (.ref m)] [] (wI (wL h g) f)) P := fun c w => by
    rw [r_Mo_line_43]
    refine wp_isC mc (wp_rIe w4 ?_)
    by_cases z : kd b len (yI s) = 100 + 4
    · rw [decide_eq_true z]
      refine wp_bf n10 (wp_isC mc (wp_bf ?_ w))
      rw [wI_I, l2, c z]; exact n10
    · rw [decide_eq_false z]; exact wp_bt rfl w
  have s27 : (kd b len (yI s) = 101 → vNr (yN s) = 5) → wp (ev M_Mo_line 0 43 [some (.ref m)] [] (wI (wL h g) f)) P → wp (ev M_Mo_line 0 27 [some (.ref m)] [] (wI (wL h g) f)) P := fun c w => by
    rw [r_Mo_line_27]
    refine wp_isC mc (wp_rIe w1 ?_)
    by_cases z : kd b len (yI s) = 100 + 1
    · rw [decide_eq_true z]
      refine wp_bf n10 (wp_isC mc (wp_nnR ar3 (wp_isC ac3 (wp_inA (n := 1) an3 rfl (by decide) (by decide) (wp_bf ?_ w)))))
      rw [show (nI 1).toNatClampNeg = 1 from rfl, wI_I, p3, c z]; decide
    · rw [decide_eq_false z]; exact wp_bt rfl w
  have s0 : (kd b len (yI s) = 100 → (yL s).testBit 0 = true ∨ vNr (yN s) ≠ 0) → wp (ev M_Mo_line 0 27 [some (.ref m)] [] (wI (wL h g) f)) P → wp (ev M_Mo_line 0 0 [some (.ref m)] [] (wI (wL h g) f)) P := fun c w => by
    rw [r_Mo_line_0]
    refine wp_isC mc (wp_rIe w0 ?_)
    by_cases z : kd b len (yI s) = 100 + 0
    · rw [decide_eq_true z]
      refine wp_bf n10 (wp_isC mc ?_)
      rw [wI_I, l1]
      cases hb : (yL s).testBit 0 with
      | true => exact wp_bf n10 w
      | false =>
        rcases c z with y | y
        · rw [y] at hb; cases hb
        · refine wp_bt rfl (wp_isC mc (wp_nnR ar3 (wp_isC ac3 (wp_inA (n := 1) an3 rfl (by decide) (by decide) (wp_bf ?_ w)))))
          rw [show (nI 1).toNatClampNeg = 1 from rfl, p3, nI_eq (by omega) (by decide)]; exact y
    · rw [decide_eq_false z]; exact wp_bt rfl w
  have kr := kd_r (b := b) (len := len) (yI s)
  have n1 : ¬ nI 1 = nI 0 := n10
  by_cases z0 : kd b len (yI s) = 100
  · have eL : zLn b len s = zLv b len s := by unfold zLn; rw [if_pos (by rw [ek]; exact z0)]
    by_cases v0 : 0 < vNr (yN s)
    · have e : zLn b len s = zF b len 2 s := by rw [eL]; unfold zLv; rw [if_pos v0]
      exact s0 (fun _ => Or.inr (by omega)) (s27 (by omega) (s43 (by omega) (s59 (by omega) (s81 (by omega) (bad s (by rw [e]) (by rw [e]))))))
    · have e : zLn b len s = zN (zM b len 1 4 (zSl b len 0 s)).2 (uLv (yN (zM b len 1 4 (zSl b len 0 s)).2) (zM b len 1 4 (zSl b len 0 s)).1) := by rw [eL]; unfold zLv; rw [if_neg v0]
      cases hb : (yL s).testBit 0 with
      | true =>
        have q := zSl_F (b := b) (len := len) (s := s) hb
        have nq : yF (zSl b len 0 s) ≠ 0 := by rw [q.1]; exact zF_n (by decide)
        have q2 := st_M (b := b) (len := len) (lo := 1) (hi := 4) (zSl b len 0 s) nq
        exact s0 (fun _ => Or.inl hb) (s27 (by omega) (s43 (by omega) (s59 (by omega) (s81 (by omega) (bad s (by rw [e]; exact q2.1.trans q.1) (by rw [e]; exact q2.2.trans q.2))))))
      | false =>
        have eS := zSl_0 (b := b) (len := len) hf hb
        obtain ⟨f1, g1, a1, T1, M1⟩ := mr_flag (j := 0) (sl := 27) C L M (Or.inl ⟨rfl, rfl⟩)
        have L1 := L.fl (b := b) (j := 0)
        obtain ⟨f2, g2, v, a2, r2⟩ := mr_told (lo := 1) (hi := 4) (w := 2) C L1 M1 (by decide) (by decide) (Or.inl rfl) (fun x => uLv (yN s) x) (fun x h1 h2 => by
          refine ⟨⟨⟨rfl, nx_le L1.1.2⟩, L.2.1, ⟨⟨h1, h2⟩, L.2.2.1.2⟩, L.2.2.2.1, fun k hk => ?_, L1.2.2.2.2.2.1, L.2.2.2.2.2.2⟩, rfl, rfl, rfl, fun f' g' pp => ?_⟩
          · have hk : k < vNr (yN s) := hk
            omega
          · obtain ⟨q2, q3, q4, q5, qk⟩ := pp
            refine ⟨up2_s, by rw [up2_a (by omega)]; exact q3, by rw [up2_a (by omega)]; exact q4, by rw [up2_a (by omega)]; exact q5, fun k hk => ?_⟩
            have hk : k < vNr (yN s) := hk
            omega)
        rw [r_Mo_line_0]
        refine wp_isC mc (wp_rIe w0 ?_)
        rw [decide_eq_true (show kd b len (yI s) = 100 + 0 from z0)]
        refine wp_bf n10 (wp_isC mc ?_)
        rw [wI_I, l1, hb]
        refine wp_bt rfl (wp_isC mc (wp_nnR ar3 (wp_isC ac3 (wp_inA (n := 1) an3 rfl (by decide) (by decide) (wp_bt ?_ (wp_isC mc (wp_isZ (by decide) ?_)))))))
        · rw [show (nI 1).toNatClampNeg = 1 from rfl, p3, show vNr (yN s) = 0 by omega]
        · rw [wI_s]
          refine wp_isC mc (wp_rVe a1 (wp_isC mc (wp_nnR ar2 (wp_isC mc (wp_rIe a2 (wp_isC ac2 (wp_inA (n := 1) an2 rfl (by decide) (by decide) ?_)))))))
          rw [show (nI 1).toNatClampNeg = 1 from rfl, wI_s]
          refine K _ _ ⟨T1.tr r2.1, ?_⟩
          have ee : zLn b len s = zN (zM b len 1 4 (nx b len (yI s), 0, yP s, yL s ||| 2 ^ 0, yV s, yN s)).2 (uLv (yN s) (zM b len 1 4 (nx b len (yI s), 0, yP s, yL s ||| 2 ^ 0, yV s, yN s)).1) := by
            rw [e, eS]
            have kp : Keep (nx b len (yI s), 0, yP s, yL s ||| 2 ^ 0, yV s, yN s) (zM b len 1 4 (nx b len (yI s), 0, yP s, yL s ||| 2 ^ 0, yV s, yN s)).2 := kpM
            have eN : yN (zM b len 1 4 (nx b len (yI s), 0, yP s, yL s ||| 2 ^ 0, yV s, yN s)).2 = yN s := by
              unfold zM zS zF zI
              repeat' split
              all_goals rfl
            rw [eN]
          rw [ee]; exact r2.2
  by_cases z1 : kd b len (yI s) = 101
  · by_cases v5 : vNr (yN s) < 5
    · have e : zLn b len s = zR2 b len (zS b len s) := by
        unfold zLn
        rw [if_neg (by rw [ek]; exact z0), if_pos (by rw [ek]; exact z1)]
        unfold zRl
        rw [if_pos v5]; rfl
      have eS := zS_0 (b := b) (len := len) hf
      obtain ⟨f1, g1, a1, R1⟩ := mq_goOn C R
      have L1 : LI len cx (zS b len s) := by rw [eS]; exact L.onw
      have M1 : LM f1 g1 m b len cx (zS b len s) := by
        rw [eS]; exact ⟨⟨O, dp, R1.bs⟩, M.2.1.fr R1.fr, M.2.2.fr R1.fr⟩
      obtain ⟨f2, g2, a2, T2, r2⟩ := mr_rel1 C hl L1 M1 (by rw [eS]; exact v5)
      refine s0 (fun w => absurd w z0) ?_
      rw [r_Mo_line_27]
      refine wp_isC mc (wp_rIe w1 ?_)
      rw [decide_eq_true (show kd b len (yI s) = 100 + 1 from z1)]
      refine wp_bf n10 (wp_isC mc (wp_nnR ar3 (wp_isC ac3 (wp_inA (n := 1) an3 rfl (by decide) (by decide) (wp_bt ?_ (wp_isC mc (wp_rVe a1 (wp_isC mc (wp_rVe a2 (K f2 g2 ⟨R1.fr.T.tr T2, ?_⟩))))))))))
      · rw [show (nI 1).toNatClampNeg = 1 from rfl, wI_I, p3, nI_ltI (by omega) (by decide)]; exact v5
      · rw [e]; exact r2
    · have e : zLn b len s = zF b len 2 s := by
        unfold zLn
        rw [if_neg (by rw [ek]; exact z0), if_pos (by rw [ek]; exact z1)]
        unfold zRl
        rw [if_neg v5]
      exact s0 (fun w => absurd w z0) (s27 (by omega) (s43 (by omega) (s59 (by omega) (s81 (by omega) (bad s (by rw [e]) (by rw [e]))))))
  by_cases z4 : kd b len (yI s) = 104
  · have e : zLn b len s = (zD b len 7).2 (zSl b len 4 s) := by
      unfold zLn
      rw [if_neg (by rw [ek]; exact z0), if_neg (by rw [ek]; exact z1), if_pos (by rw [ek]; exact z4)]
    cases hb : (yL s).testBit 4 with
    | true =>
      have q := zSl_F (b := b) (len := len) (s := s) hb
      have nq : yF (zSl b len 4 s) ≠ 0 := by rw [q.1]; exact zF_n (by decide)
      have q2 := (st_D (b := b) (len := len) 7).2.1 (zSl b len 4 s) nq
      exact s0 (fun w => absurd w z0) (s27 (fun w => absurd w z1) (s43 (fun _ => hb) (s59 (by omega) (s81 (by omega) (bad s (by rw [e]; exact q2.1.trans q.1) (by rw [e]; exact q2.2.trans q.2))))))
    | false =>
      have eS := zSl_0 (b := b) (len := len) hf hb
      obtain ⟨f1, g1, a1, T1, ⟨O1, dp1, R1⟩, P1, F1⟩ := mr_flag (j := 4) (sl := 28) C L M (Or.inr (Or.inl ⟨rfl, rfl⟩))
      have L1 := L.fl (b := b) (j := 4)
      have k0 : vKs (yN s) = [] ∧ vUn (yN s) = 0 := by
        rcases L.2.2.2.2.2.1 with w | ⟨w, -⟩
        · exact w
        · rw [hb] at w; cases w
      have G1 : gdK len (nx b len (yI s), 0, yP s, yL s ||| 2 ^ 4, yV s, yN s) := ⟨rfl, L1.1.2, by show (vKs (yN s)).length ≤ 9 * vUn (yN s); rw [k0.1]; exact Nat.zero_le _, by show vUn (yN s) ≤ 30; omega⟩
      obtain ⟨f2, g2, a2, r2⟩ := mq_formula C hl G1 R1
      rw [eS] at e
      refine s0 (fun w => absurd w z0) (s27 (fun w => absurd w z1) ?_)
      rw [r_Mo_line_43]
      refine wp_isC mc (wp_rIe w4 ?_)
      rw [decide_eq_true (show kd b len (yI s) = 100 + 4 from z4)]
      refine wp_bf n10 (wp_isC mc ?_)
      rw [wI_I, l2, hb]
      refine wp_bt rfl (wp_isC mc (wp_isZ (by decide) ?_))
      rw [wI_s]
      refine wp_isC mc (wp_rVe a1 (wp_isC mc (wp_rVe a2 (K f2 g2 ?_))))
      rw [e]
      rcases r2 with ⟨y1, y2⟩ | ⟨y1, y2⟩
      · have p := (pk_D (b := b) 7 (by decide)).2.1 _ G1 y1
        have gg := PK.gd G1 p (by decide)
        obtain ⟨⟨-, pi⟩, u, kk, pe, ⟨u1, u2⟩, pc, pw⟩ := p
        have hkok : kok kk 0 := by
          have := pw 0 [] (by have u2 : vUn (yN s) + u ≤ 30 := u2; omega) rfl
          rw [List.append_nil] at this; exact this
        have F2 : FR m f1 f2 g1 g2 := RQ.fr y2
        have y3 := RQ.bs y2
        generalize (zD b len 7).2 (nx b len (yI s), 0, yP s, yL s ||| 2 ^ 4, yV s, yN s) = t at *
        have pe : t = (yI t, 0, yP s, yL s ||| 2 ^ 4, yV s, uUn (uKs (yN s) (vKs (yN s) ++ kk)) (vUn (yN s) + u)) := pe
        refine ⟨T1.tr F2.T, Or.inl ⟨y1, cx, ?_, ⟨[], 0, y3⟩, ?_, ?_⟩⟩
        · have g1 := gg.1.2.2.1
          have g2' := gg.1.2.2.2
          have ekk : vKs (yN t) = kk := by rw [pe]; show vKs (yN s) ++ kk = kk; rw [k0.1]; rfl
          have ell : yL t = yL s ||| 2 ^ 4 := by rw [pe]; rfl
          refine ⟨⟨y1, pi⟩, by rw [pe]; exact L.2.1, by rw [pe]; exact L.2.2.1, by rw [pe]; exact L.2.2.2.1, by rw [pe]; exact L.2.2.2.2.1, Or.inr ⟨?_, by rw [ekk]; exact hkok, by omega, g2'⟩, by rw [pe]; exact L.2.2.2.2.2.2⟩
          rw [ell, tb_or, if_pos rfl]
        · have := P1.fr F2
          rw [pe]; exact this
        · have := F1.fr F2
          rw [pe]; exact this
      · exact ⟨T1.tr (RE.fr y2).T, Or.inr ⟨y1, RE.bs y2⟩⟩
  by_cases z5 : kd b len (yI s) = 105
  · have e : zLn b len s = zDr b len s := by
      unfold zLn
      rw [if_neg (by rw [ek]; exact z0), if_neg (by rw [ek]; exact z1), if_neg (by rw [ek]; exact z4), if_pos (by rw [ek]; exact z5)]
    cases hb : (yL s).testBit 5 with
    | true =>
      have q := zSl_F (b := b) (len := len) (s := s) hb
      have nq : yF (zSl b len 5 s) ≠ 0 := by rw [q.1]; exact zF_n (by decide)
      have q2 := st_M (b := b) (len := len) (lo := 0) (hi := 100) (zSl b len 5 s) nq
      exact s0 (fun w => absurd w z0) (s27 (fun w => absurd w z1) (s43 (fun w => absurd w z4) (s59 (fun _ => hb) (s81 (by omega) (bad s (by rw [e]; exact q2.1.trans q.1) (by rw [e]; exact q2.2.trans q.2))))))
    | false =>
      have eS := zSl_0 (b := b) (len := len) hf hb
      obtain ⟨f1, g1, a1, T1, M1⟩ := mr_flag (j := 5) (sl := 29) C L M (Or.inr (Or.inr (Or.inl ⟨rfl, rfl⟩)))
      have L1 := L.fl (b := b) (j := 5)
      obtain ⟨f2, g2, v, a2, r2⟩ := mr_told (lo := 0) (hi := 100) (w := 4) C L1 M1 (by decide) (by decide) (Or.inr (Or.inl rfl)) (fun x => uDr (yN s) x) (fun x h1 h2 => by
        refine ⟨⟨⟨rfl, nx_le L1.1.2⟩, L.2.1, ⟨L.2.2.1.1, L.2.2.1.2.1, L.2.2.1.2.2.1, h2, L.2.2.1.2.2.2.2⟩, L.2.2.2.1, L.2.2.2.2.1, L1.2.2.2.2.2.1, L.2.2.2.2.2.2⟩, rfl, rfl, rfl, fun f' g' pp => ?_⟩
        obtain ⟨q2, q3, q4, q5, qk⟩ := pp
        refine ⟨by rw [up2_a (by omega)]; exact q2, by rw [up2_a (by omega)]; exact q3, up2_s, by rw [up2_a (by omega)]; exact q5, fun k hk => (qk k hk).c rfl ?_ ?_ ?_ ?_ ⟨[], (List.append_nil _).symm⟩ rfl rfl rfl rfl⟩
        · rw [up2_a (by omega)]
        · rw [up2_a (by omega)]
        · rw [up2_a (by omega)]
        · intro r hr; rw [up2_a (by omega)])
      refine s0 (fun w => absurd w z0) (s27 (fun w => absurd w z1) (s43 (fun w => absurd w z4) ?_))
      rw [r_Mo_line_59]
      refine wp_isC mc (wp_rIe w5 ?_)
      rw [decide_eq_true (show kd b len (yI s) = 100 + 5 from z5)]
      refine wp_bf n10 (wp_isC mc ?_)
      rw [wI_I, l3, hb]
      refine wp_bt rfl (wp_isC mc (wp_isZ (by decide) ?_))
      rw [wI_s]
      refine wp_isC mc (wp_rVe a1 (wp_isC mc (wp_nnR ar4 (wp_isC mc (wp_rIe a2 (wp_isC ac4 (wp_inA (n := 1) an4 rfl (by decide) (by decide) ?_)))))))
      rw [show (nI 1).toNatClampNeg = 1 from rfl, wI_s]
      refine K _ _ ⟨T1.tr r2.1, ?_⟩
      have ee : zLn b len s = zN (zM b len 0 100 (nx b len (yI s), 0, yP s, yL s ||| 2 ^ 5, yV s, yN s)).2 (uDr (yN s) (zM b len 0 100 (nx b len (yI s), 0, yP s, yL s ||| 2 ^ 5, yV s, yN s)).1) := by
        rw [e]
        unfold zDr
        rw [eS]
        have eN : yN (zM b len 0 100 (nx b len (yI s), 0, yP s, yL s ||| 2 ^ 5, yV s, yN s)).2 = yN s := by
          unfold zM zS zF zI
          repeat' split
          all_goals rfl
        rw [eN]
      rw [ee]; exact r2.2
  by_cases z6 : kd b len (yI s) = 106
  · have e : zLn b len s = zDw b len s := by
      unfold zLn
      rw [if_neg (by rw [ek]; exact z0), if_neg (by rw [ek]; exact z1), if_neg (by rw [ek]; exact z4), if_neg (by rw [ek]; exact z5), if_pos (by rw [ek]; exact z6)]
    cases hb : (yL s).testBit 6 with
    | true =>
      have q := zSl_F (b := b) (len := len) (s := s) hb
      have nq : yF (zSl b len 6 s) ≠ 0 := by rw [q.1]; exact zF_n (by decide)
      have q2 := st_M (b := b) (len := len) (lo := 0) (hi := 999) (zSl b len 6 s) nq
      exact s0 (fun w => absurd w z0) (s27 (fun w => absurd w z1) (s43 (fun w => absurd w z4) (s59 (fun w => absurd w z5) (s81 (fun _ => hb) (bad s (by rw [e]; exact q2.1.trans q.1) (by rw [e]; exact q2.2.trans q.2))))))
    | false =>
      have eS := zSl_0 (b := b) (len := len) hf hb
      obtain ⟨f1, g1, a1, T1, M1⟩ := mr_flag (j := 6) (sl := 30) C L M (Or.inr (Or.inr (Or.inr ⟨rfl, rfl⟩)))
      have L1 := L.fl (b := b) (j := 6)
      obtain ⟨f2, g2, v, a2, r2⟩ := mr_told (lo := 0) (hi := 999) (w := 5) C L1 M1 (by decide) (by decide) (Or.inr (Or.inr rfl)) (fun x => uDw (yN s) x) (fun x h1 h2 => by
        refine ⟨⟨⟨rfl, nx_le L1.1.2⟩, L.2.1, ⟨L.2.2.1.1, L.2.2.1.2.1, L.2.2.1.2.2.1, L.2.2.1.2.2.2.1, h2⟩, L.2.2.2.1, L.2.2.2.2.1, L1.2.2.2.2.2.1, L.2.2.2.2.2.2⟩, rfl, rfl, rfl, fun f' g' pp => ?_⟩
        obtain ⟨q2, q3, q4, q5, qk⟩ := pp
        refine ⟨by rw [up2_a (by omega)]; exact q2, by rw [up2_a (by omega)]; exact q3, by rw [up2_a (by omega)]; exact q4, up2_s, fun k hk => (qk k hk).c rfl ?_ ?_ ?_ ?_ ⟨[], (List.append_nil _).symm⟩ rfl rfl rfl rfl⟩
        · rw [up2_a (by omega)]
        · rw [up2_a (by omega)]
        · rw [up2_a (by omega)]
        · intro r hr; rw [up2_a (by omega)])
      refine s0 (fun w => absurd w z0) (s27 (fun w => absurd w z1) (s43 (fun w => absurd w z4) (s59 (fun w => absurd w z5) ?_)))
      rw [r_Mo_line_81]
      refine wp_isC mc (wp_rIe w6 ?_)
      rw [decide_eq_true (show kd b len (yI s) = 100 + 6 from z6)]
      refine wp_bf n10 (wp_isC mc ?_)
      rw [wI_I, l4, hb]
      refine wp_bt rfl (wp_isC mc (wp_isZ (by decide) ?_))
      rw [wI_s]
      refine wp_isC mc (wp_rVe a1 (wp_isC mc (wp_nnR ar5 (wp_isC mc (wp_rIe a2 (wp_isC ac5 (wp_inA (n := 1) an5 rfl (by decide) (by decide) ?_)))))))
      rw [show (nI 1).toNatClampNeg = 1 from rfl, wI_s]
      refine K _ _ ⟨T1.tr r2.1, ?_⟩
      have ee : zLn b len s = zN (zM b len 0 999 (nx b len (yI s), 0, yP s, yL s ||| 2 ^ 6, yV s, yN s)).2 (uDw (yN s) (zM b len 0 999 (nx b len (yI s), 0, yP s, yL s ||| 2 ^ 6, yV s, yN s)).1) := by
        rw [e]
        unfold zDw
        rw [eS]
        have eN : yN (zM b len 0 999 (nx b len (yI s), 0, yP s, yL s ||| 2 ^ 6, yV s, yN s)).2 = yN s := by
          unfold zM zS zF zI
          repeat' split
          all_goals rfl
        rw [eN]
      rw [ee]; exact r2.2
  have e : zLn b len s = zF b len 2 s := by
    unfold zLn
    rw [if_neg (by rw [ek]; exact z0), if_neg (by rw [ek]; exact z1), if_neg (by rw [ek]; exact z4), if_neg (by rw [ek]; exact z5), if_neg (by rw [ek]; exact z6)]
  exact s0 (fun w => absurd w z0) (s27 (fun w => absurd w z1) (s43 (fun w => absurd w z4) (s59 (fun w => absurd w z5) (s81 (fun w => absurd w z6) (bad s (by rw [e]) (by rw [e]))))))
end
