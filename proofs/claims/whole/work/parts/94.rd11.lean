/-! The plain form's reader: the whole formula. -/
theorem brk_k {L : Nat} : ∀ r : List Kp, okk L r → (mks r).any (fun x => decide (x = nI 40)) = false
  | [], _ => rfl
  | c :: r, ok => by
    rw [mks_c, List.any_append, brk_k r (fun x hx => ok x (List.mem_cons_of_mem _ hx))]
    have := (bdI_k (ok c (List.mem_cons_self ..)).1).2.2
    show (false || (decide (mkc c = nI 40) || false)) = false
    rw [decide_eq_false this]; rfl
section
variable {h : MH} {f f0 : Nat → Nat → Int32} {g g0 : Nat → Nat → Int64} {m : Nat} {b : Nat → Nat} {len i : Nat} {O : List Int32} {dp d : Nat} {cs : List Nat} {ks : List Kp} {un lv nr : Nat} {nm : Nat → Nat} {s : Ps} {Q : Option Value → MH → Prop}
theorem me_u44 {x : Int32} {c p : Nat} (C : MSH h m) (R : RE f0 g0 f g m c p) : ev M_Mo_unit 0 44 [some (.ref m), none, some (.int x)] [] (wI (wL h g) f) = some (none, wI (wL h g) f) := by
  rw [r_Mo_unit_44]
  refine wp_e (wp_isC C.1 ?_)
  rw [wI_I, R.1]
  exact wp_bt (by rw [nI_ltI (by decide) (by have := R.2.1; omega)]; exact R.2.1.1) (wp_s ⟨rfl, rfl⟩)
theorem me_u123 {x : Int32} {c p : Nat} (C : MSH h m) (R : RE f0 g0 f g m c p) : ev M_Mo_unit 0 123 [some (.ref m), none, some (.int x)] [] (wI (wL h g) f) = some (none, wI (wL h g) f) := by
  rw [r_Mo_unit_123]
  refine wp_e (wp_isC C.1 ?_)
  rw [wI_I, R.1]
  exact wp_bt (by rw [nI_ltI (by decide) (by have := R.2.1; omega)]; exact R.2.1.1) (wp_s ⟨rfl, rfl⟩)
/-- one more unit is counted -/
theorem RR.un1 (R : RR f0 g0 f g m b len i O dp cs ks un lv) : RR f0 g0 (up2 f (m + 7) 1 (nI (un + 1))) g m b len i O dp cs ks (un + 1) lv :=
  R.kc (fun a _ h2 _ => up2_a h2) (by rw [up2_a (by omega)]) (by rw [up2_k (by decide)]) (fun i _ => by rw [up2_a (by omega)]) ⟨by rw [up2_a (by omega)]; exact R.2.2.2.2.2.2.1.1, fun i k hk => by rw [up2_a (by omega)]; exact R.2.2.2.2.2.2.1.2 i k hk⟩ up2_s
/-- the last steps of a unit -/
theorem mr_u123 {k : Kp} {x : Int32} (C : MSH h m) (R : RR f0 g0 f g m b len i O dp cs ks un lv) (hl : ks.length < 330) (hx : (x = mI 1 ∧ f m 6 = mkc k) ∨ (¬ x = mI 1 ∧ mI 10 - x = mkc k)) : ∃ f' g', ev M_Mo_unit 0 123 [some (.ref m), none, some (.int x)] [] (wI (wL h g) f) = some (none, wI (wL h g') f') ∧ RR f0 g0 f' g' m b len (nx b len i) O dp cs (ks ++ [k]) (un + 1) lv := by
  have mc := C.1
  have ar7 : hR h m 17 = some (m + 7) := (C.2 6 (by decide)).1
  have an7 : hN h (m + 7) = 2 := (C.2 6 (by decide)).2.1
  have ac7 : hC h (m + 7) = 20 := (C.2 6 (by decide)).2.2
  have e7 := R.2.2.2.2.2.2.2.1.1
  obtain ⟨f2, a2, R2⟩ := mr_keepLays (k := k) C R.un1 hl
  obtain ⟨f3, g3, a3, R3⟩ := mr_goOn C R2
  refine ⟨f3, g3, ?_, R3⟩
  have fin : wp (ev M_Mo_unit 0 146 [some (.ref m), none, none] [(.int (mkc k)), (.ref m)] (wI (wL h g) (up2 f (m + 7) 1 (nI (un + 1))))) (fun a e => a = none ∧ e = wI (wL h g3) f3) := by
    rw [r_Mo_unit_146]
    exact wp_isC mc (wp_rVe a2 (wp_isC mc (wp_rVe a3 (wp_s ⟨rfl, rfl⟩))))
  rw [r_Mo_unit_123]
  refine wp_e (wp_isC mc ?_)
  rw [wI_I, R.2.1]
  refine wp_bf (by decide) (wp_isC mc (wp_nnR ar7 (wp_isC ac7 (wp_inA (n := 1) an7 rfl (by decide) (by decide) (wp_isC ac7 (wp_inA (n := 1) an7 rfl (by decide) (by decide) ?_))))))
  rw [show (nI 1).toNatClampNeg = 1 from rfl, e7, nI_add, wI_s]
  rcases hx with ⟨x1, x2⟩ | ⟨x1, x2⟩
  · refine wp_bt x1 (wp_isC mc ?_)
    rw [wI_I, up2_a (by omega), x2]; exact fin
  · refine wp_bf x1 ?_
    rw [x2]; exact fin
/-- ahead of a unit that isn't a not -/
theorem mr_uHead (C : MSH h m) (R : RR f0 g0 f g m b len i O dp cs ks un lv) (hn : kd b len i = 114 → ∃ O' x, O = O' ++ [x] ∧ 4 ≤ bdI x) {P : Option Value → MH → Prop} (K : wp (ev M_Mo_unit 0 28 [some (.ref m), none, some (.int (nI 0))] [] (wI (wL h g) f)) P) : wp (ev M_Mo_unit 0 3 [some (.ref m), some (.int (nI 1)), none] [] (wI (wL h g) f)) P := by
  have mc := C.1
  have w14 : ev M_Mo_isWord 0 0 [some (.ref m), some (.long (lN 7237492)), none] [] (wI (wL h g) f) = _ := mr_word C R (j := 14) (by decide)
  have K18 : wp (ev M_Mo_unit 0 18 [some (.ref m), none, none] [] (wI (wL h g) f)) P := by
    rw [r_Mo_unit_18, r_Mo_unit_20]
    exact wp_bt rfl K
  rw [r_Mo_unit_3]
  refine wp_bf n10 (wp_isC mc (wp_rIe (mr_good C R) (wp_bf n10 (wp_isC mc (wp_rIe w14 ?_)))))
  by_cases z : kd b len i = 100 + 14
  · rw [decide_eq_true z]
    obtain ⟨O', x, e, hx⟩ := hn z
    subst e
    exact wp_bf n10 (wp_isC mc (wp_rIe (mr_mayN C R hx) (wp_bt rfl K18)))
  · rw [decide_eq_false z]
    exact wp_bt rfl K18
/-- a unit -/
theorem mr_unitA {D : Nat} (C : MSH h m) (hd : d + D = 7) (ih : ∀ D', D = D' + 1 → AK h f0 g0 m b len (d + 1) 1 1 (zD b len D').2) : AK h f0 g0 m b len d 7 7 (zUn b len (zB b len D)) := by
  intro Q s O f g G R hO hs hn K1 K2
  have mc := C.1
  have ar7 : hR h m 17 = some (m + 7) := (C.2 6 (by decide)).1
  have an7 : hN h (m + 7) = 2 := (C.2 6 (by decide)).2.1
  have ac7 : hC h (m + 7) = 20 := (C.2 6 (by decide)).2.2
  have ek := kq_0 (b := b) (len := len) G.1
  have gx := G.2.2.1
  have gu := G.2.2.2
  have e7 := R.2.2.2.2.2.2.2.1.1
  have s2 := R.2.2.2.2.1.2.1
  have t5 := R.2.2.2.1.2
  have full := mr_full C R gu
  have m40 := mr_mark C R (c := 40) (by decide) (by decide)
  -- a unit that is told at once
  have good : ∀ k : Kp, zUn b len (zB b len D) s = (nx b len (yI s), 0, yP s, yL s, yV s, uUn (uKs (yN s) (vKs (yN s) ++ [k])) (vUn (yN s) + 1)) → ∀ f' g', RR f0 g0 f' g' m b len (nx b len (yI s)) O d (fxs (vXs (yN s))) (vKs (yN s) ++ [k]) (vUn (yN s) + 1) (yV s) → (∀ w, sgn (kd b len (nx b len (yI s))) = some w → 7 ≤ bwS w → False) → cF h m Q f' g' := fun k e f' g' R' en => by
    rw [e] at K1
    refine K1 f' g' [] (vKs (yN s) ++ [k]) rfl (fun x hx => by cases hx) (fun w hw hb => (en w hw hb).elim) ?_ (List.append_nil _)
    show RR f0 g0 f' g' m b len (nx b len (yI s)) (O ++ []) d (fxs (vXs (yN s))) (vKs (yN s) ++ [k]) (vUn (yN s) + 1) (yV s)
    rw [List.append_nil]; exact R'
  have no7 : ∀ k w, sgn k = some w → 7 ≤ bwS w → False := fun k w _ hb => by
    unfold bwS at hb
    repeat' split at hb
    all_goals omega
  -- a fault
  have bad : ∀ t : Ps, yF t = 0 → yI t = yI s → zUn b len (zB b len D) s = zF b len 2 t → ∃ f', ev M_Mo_wrong 0 0 [some (.ref m), some (.int (nI 2))] [] (wI (wL h g) f) = some (none, wI (wL h g) f') ∧ (∃ c p, RE f0 g0 f' g m c p) ∧ wp (ev M_Mo_formula 0 11 [some (.ref m), some (.int (nI 1)), none] [] (wI (wL h g) f')) Q := fun t ht hi e => by
    rw [e] at K2
    obtain ⟨f', a1, a2, a3⟩ := mr_wrongS (s := t) (c := 2) C ht (by rw [hi]; exact R) (by decide) (by decide)
    exact ⟨f', a1, ⟨_, _, a3⟩, me_f C a3 (K2 f' g a2 a3)⟩
  unfold cU
  refine mr_uHead C R (hn (by decide)) ?_
  rw [r_Mo_unit_28]
  refine wp_isC mc (wp_rIe m40 ?_)
  by_cases k40 : kd b len (yI s) = 40
  · rw [decide_eq_true k40]
    refine wp_bf n10 (wp_isC mc (wp_rIe full ?_))
    have badGo : ∀ t : Ps, yF t = 0 → yI t = yI s → zUn b len (zB b len D) s = zF b len 2 t → wp (ev M_Mo_unit 0 40 [some (.ref m), none, some (.int (nI 0))] [] (wI (wL h g) f)) (fun v H => v = none ∧ wp (ev M_Mo_formula 0 11 [some (.ref m), some (.int (nI 1)), none] [] H) Q) := fun t ht hi e => by
      obtain ⟨f', a1, ⟨c, p, a2⟩, a3⟩ := bad t ht hi e
      rw [r_Mo_unit_40]
      exact wp_isC mc (wp_rVe a1 (wp_of (me_u44 C a2) ⟨rfl, a3⟩))
    by_cases hu : vUn (yN s) = 30
    · rw [decide_eq_true hu]
      refine wp_bf n10 (badGo s G.1 rfl ?_)
      unfold zUn; rw [if_neg (by omega)]
    · rw [decide_eq_false hu]
      refine wp_bt rfl (wp_isC mc ?_)
      rw [wI_I, s2]
      have eU : zUn b len (zB b len D) s = zB b len D (zU1 s) := by unfold zUn; rw [if_pos (by omega), ek, if_neg (by omega), if_pos k40]; rfl
      cases D with
      | zero => exact wp_bt (by rw [nI_ltI (by decide) (by omega)]; omega) (badGo (zU1 s) G.1 rfl eU)
      | succ D =>
        refine wp_bf (by rw [nI_ltI (by decide) (by omega)]; omega) ?_
        have ih := ih D rfl
        have eU : zUn b len (zB b len (D + 1)) s = zE b len 41 ((zD b len D).2 (zS b len (zU1 s))) := eU
        rw [eU] at K1 K2
        have eS := zS_0 (b := b) (len := len) (s := zU1 s) G.1
        obtain ⟨f2, g2, a2, R2⟩ := mr_openUp (x := nI 40) C R.un1 (by omega)
        have G1 : gdK len (zS b len (zU1 s)) := by rw [eS]; exact ⟨rfl, nx_le G.2.1, by show (vKs (yN s)).length ≤ 9 * (vUn (yN s) + 1); omega, by show vUn (yN s) + 1 ≤ 30; omega⟩
        rw [decide_eq_true k40] at m40
        have mk2 := mr_mark C R.un1 (c := 40) (by decide) (by decide)
        rw [r_Mo_unit_44]
        refine wp_isC mc ?_
        rw [wI_I, R.2.1]
        refine wp_bf (by decide) (wp_bt rfl (wp_isC mc (wp_rIe m40 (wp_bf n10 ?_))))
        rw [r_Mo_unit_55, r_Mo_unit_59]
        refine wp_isC mc (wp_rIe m40 (wp_bf n10 (wp_isC mc (wp_nnR ar7 (wp_isC ac7 (wp_inA (n := 1) an7 rfl (by decide) (by decide) (wp_isC ac7 (wp_inA (n := 1) an7 rfl (by decide) (by decide) ?_))))))))
        rw [show (nI 1).toNatClampNeg = 1 from rfl, wI_I, e7, nI_add, wI_s, r_Mo_unit_73]
        refine wp_bf n10 (wp_bt rfl ?_)
        rw [r_Mo_unit_82]
        refine wp_isC mc (wp_rVe a2 ?_)
        rw [r_Mo_unit_84]
        have lb : LstP (O ++ [nI 40]) (fun x => bdI x < 1) := Or.inr ⟨O, _, rfl, by decide⟩
        refine ih Q (zS b len (zU1 s)) (O ++ [nI 40]) f2 g2 G1 (by rw [eS]; exact R2) (by rw [len_1]; omega) lb (fun w => absurd w (by decide)) (fun f3 g3 r ks fA ok en R3 ec => ?_) (fun f3 g3 fA R3 => ?_)
        · have p := (pk_D D (by omega)).2.1 _ G1 fA
          have gg := PK.gd G1 p (by omega)
          have ek2 := kq_0 (b := b) (len := len) fA
          have gl : ks.length + r.length = (vKs (yN ((zD b len D).2 (zS b len (zU1 s))))).length := by rw [← ec, List.length_append]
          have hlc : ks.length + r.length < 330 := by have := gg.1.2.2.2; have := gg.2; omega
          by_cases z41 : kd b len (yI ((zD b len D).2 (zS b len (zU1 s)))) = 41
          · have ez2 : zE b len 41 ((zD b len D).2 (zS b len (zU1 s))) = zS b len ((zD b len D).2 (zS b len (zU1 s))) := if_pos (by rw [ek2]; exact z41)
            rw [ez2, zS_0 fA] at K1
            generalize (zD b len D).2 (zS b len (zU1 s)) = t at *
            have sg := mr_sign C R3
            have mk := mr_mark C R3 (c := 41) (by decide) (by decide)
            rw [decide_eq_true z41] at mk
            have br := mr_bracket C R3
            rw [brk_a] at br
            obtain ⟨f4, a4, R4⟩ := mr_fcl (g := g3) C (show 1 < 10 by decide) lb (by omega) r ks f3 ok hlc (by omega) R3
            rw [ec] at R4
            have st := R4.2.2.2.2.1
            have R5 : RR f0 g0 (up2 (up2 f4 m 32 (nI O.length)) m 33 (nI d)) g3 m b len (yI t) O d (fxs (vXs (yN t))) (vKs (yN t)) (vUn (yN t)) (yV t) := R4.st (fun a h1 _ => by rw [up2_a h1, up2_a h1]) (fun k h1 h2 => by rw [up2_k h2, up2_k h1]) (st.pop (by rw [up2_k (by decide), up2_s]) up2_s (by rw [up2_a (by omega), up2_a (by omega)]))
            obtain ⟨f6, g6, a6, R6⟩ := mr_goOn C R5
            have ct : cF h m Q f6 g6 := K1 f6 g6 [] (vKs (yN t)) rfl (fun x hx => by cases hx) (fun w hw hb => (no7 _ w hw hb).elim) (by
              show RR f0 g0 f6 g6 m b len (nx b len (yI t)) (O ++ []) d (fxs (vXs (yN t))) (vKs (yN t)) (vUn (yN t)) (yV t)
              rw [List.append_nil]; exact R6) (List.append_nil _)
            have s1 := st.1
            rw [len_1] at s1
            unfold cF at ct ⊢
            rw [r_Mo_formula_11 m (nI 1) (wI (wL h g3) f3)]
            refine wp_bf n10 (wp_isC mc (wp_rIe (mr_good C R3) (wp_bf n10 (wp_isC mc (wp_rIe sg (wp_isC mc (wp_rIe mk (wp_bf n10 (wp_isC mc (wp_rIe br (wp_bf n10 (wp_isC mc (wp_rVe a4 (wp_isC mc (wp_isC mc ?_)))))))))))))))
            rw [wI_I, s1, nm_m1 (by omega), Nat.add_sub_cancel, wI_s]
            refine wp_isC mc (wp_isC mc ?_)
            rw [wI_I, up2_k (by decide), st.2.1, nm_m1 (by omega), Nat.add_sub_cancel, wI_s]
            refine wp_isC mc (wp_rVe a6 ?_)
            rw [r_Mo_formula_81]; exact ct
          · have ez2 : zE b len 41 ((zD b len D).2 (zS b len (zU1 s))) = zF b len 2 ((zD b len D).2 (zS b len (zU1 s))) := if_neg (by rw [ek2]; exact z41)
            rw [ez2] at K2
            generalize (zD b len D).2 (zS b len (zU1 s)) = t at *
            obtain ⟨f4, a3, a4, a5⟩ := mr_wrongS (c := 2) C fA R3 (by decide) (by decide)
            have br := mr_bracket C R3
            rw [brk_a] at br
            refine mr_fend (r := r) C R3 (ok.w (Nat.zero_le _)) en (fun w => absurd w z41) ?_
            rw [r_Mo_formula_83]
            refine wp_isC mc (wp_rIe (mr_good C R3) (wp_bf n10 (wp_isC mc (wp_rIe br (wp_bf n10 (wp_isC mc (wp_rVe a3 ?_)))))))
            rw [r_Mo_formula_93]
            exact wp_isC mc (wp_rIe (me_good C a5) (wp_bt rfl (wp_s (K2 _ _ a4 a5))))
        · have e1 := st_E (b := b) (len := len) (c := 41) _ fA
          exact K2 f3 g3 (by rw [e1.1]; exact fA) (by rw [e1.1, e1.2]; exact R3)
  rw [decide_eq_false k40] at m40 ⊢
  refine wp_bt rfl ?_
  rw [r_Mo_unit_44]
  refine wp_isC mc ?_
  rw [wI_I, R.2.1]
  refine wp_bf (by decide) (wp_bt rfl (wp_isC mc (wp_rIe m40 (wp_bt rfl ?_))))
  rw [r_Mo_unit_59]
  refine wp_isC mc (wp_rIe m40 (wp_bt rfl ?_))
  rw [r_Mo_unit_73]
  refine wp_bt rfl ?_
  rw [r_Mo_unit_84, r_Mo_unit_3]
  refine wp_bt rfl ?_
  have badGo : ∀ x, (∃ t : Ps, yF t = 0 ∧ yI t = yI s ∧ zUn b len (zB b len D) s = zF b len 2 t) → wp (ev M_Mo_unit 0 119 [some (.ref m), none, some (.int x)] [] (wI (wL h g) f)) (fun v H => v = none ∧ wp (ev M_Mo_formula 0 11 [some (.ref m), some (.int (nI 1)), none] [] H) Q) := fun x ⟨t, ht, hi, e⟩ => by
    obtain ⟨f', a1, ⟨c, p, a2⟩, a3⟩ := bad t ht hi e
    rw [r_Mo_unit_119]
    exact wp_isC mc (wp_rVe a1 (wp_of (me_u123 C a2) ⟨rfl, a3⟩))
  have q2 : f m 5 = nI 2 ↔ kd b len (yI s) = 3 := by rw [t5.2.2.1]; exact srt_2 _
  have go115 : ∀ (x : Int32) (k : Kp), (vUn (yN s) < 30 → zUn b len (zB b len D) s = (nx b len (yI s), 0, yP s, yL s, yV s, uUn (uKs (yN s) (vKs (yN s) ++ [k])) (vUn (yN s) + 1))) → ((x = mI 1 ∧ f m 6 = mkc k) ∨ (¬ x = mI 1 ∧ mI 10 - x = mkc k)) → wp (ev M_Mo_unit 0 115 [some (.ref m), none, some (.int x)] [] (wI (wL h g) f)) (fun v H => v = none ∧ wp (ev M_Mo_formula 0 11 [some (.ref m), some (.int (nI 1)), none] [] H) Q) := fun x k e hx => by
    rw [r_Mo_unit_115]
    refine wp_isC mc (wp_rIe full ?_)
    by_cases hu : vUn (yN s) = 30
    · rw [decide_eq_true hu]
      refine wp_bf n10 (badGo x ⟨s, G.1, rfl, ?_⟩)
      unfold zUn; rw [if_neg (by omega)]
    · rw [decide_eq_false hu]
      obtain ⟨f', g', a1, R1⟩ := mr_u123 (k := k) (x := x) C R (by omega) hx
      exact wp_bt rfl (wp_of a1 ⟨rfl, good k (e (by omega)) f' g' R1 (fun w hw hb => no7 _ w hw hb)⟩)
  have go106 : ∀ j, j < 3 → kd b len (yI s) = 115 + j → wp (ev M_Mo_unit 0 106 [some (.ref m), none, none] [(.int (nI j))] (wI (wL h g) f)) (fun v H => v = none ∧ wp (ev M_Mo_formula 0 11 [some (.ref m), some (.int (nI 1)), none] [] H) Q) := fun j hj hk => by
    have nj : ¬ nI j = mI 1 := by rcases (show j = 0 ∨ j = 1 ∨ j = 2 by omega) with y | y | y <;> rw [y] <;> decide
    have ej : mI 10 - nI j = mkc (1, j) := by rcases (show j = 0 ∨ j = 1 ∨ j = 2 by omega) with y | y | y <;> rw [y] <;> decide
    rw [r_Mo_unit_106]
    exact wp_isC mc (wp_bi q2 (fun z => by omega) (fun _ => wp_bf nj (go115 (nI j) (1, j) (fun hu => zUn_a G hu hk hj) (Or.inr ⟨nj, ej⟩))))
  have w15 : ev M_Mo_isWord 0 0 [some (.ref m), some (.long (lN 7499639)), none] [] (wI (wL h g) f) = _ := mr_word C R (j := 15) (by decide)
  have w16 : ev M_Mo_isWord 0 0 [some (.ref m), some (.long (lN 109330212154734)), none] [] (wI (wL h g) f) = _ := mr_word C R (j := 16) (by decide)
  have w17 : ev M_Mo_isWord 0 0 [some (.ref m), some (.long (lN 1835101817)), none] [] (wI (wL h g) f) = _ := mr_word C R (j := 17) (by decide)
  rw [r_Mo_unit_86]
  refine wp_isC mc (wp_rIe w15 ?_)
  by_cases z15 : kd b len (yI s) = 100 + 15
  · rw [decide_eq_true z15]
    exact wp_bf n10 (go106 0 (by decide) z15)
  rw [decide_eq_false z15]
  refine wp_bt rfl (wp_isC mc (wp_rIe w16 ?_))
  by_cases z16 : kd b len (yI s) = 100 + 16
  · rw [decide_eq_true z16]
    exact wp_bf n10 (go106 1 (by decide) z16)
  rw [decide_eq_false z16]
  refine wp_bt rfl (wp_isC mc (wp_rIe w17 ?_))
  by_cases z17 : kd b len (yI s) = 100 + 17
  · rw [decide_eq_true z17]
    exact wp_bf n10 (go106 2 (by decide) z17)
  rw [decide_eq_false z17]
  refine wp_bt rfl ?_
  rw [r_Mo_unit_106]
  refine wp_isC mc (wp_bi q2 (fun z3 => ?_) (fun z3 => wp_bt rfl (badGo _ ?_)))
  · exact go115 (mI 1) (0, nv b len (yI s)) (fun hu => zUn_3 G hu z3) (Or.inl ⟨rfl, t5.2.2.2.1 z3⟩)
  · by_cases hu : vUn (yN s) < 30
    · refine ⟨zU1 s, G.1, rfl, ?_⟩
      unfold zUn; rw [if_pos hu, ek, if_neg z3, if_neg k40, if_neg (by omega)]; rfl
    · refine ⟨s, G.1, rfl, ?_⟩
      unfold zUn; rw [if_neg hu]
end
