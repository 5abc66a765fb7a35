/-! The plain form's reader: the formula, put together. -/
section
variable {h : MH} {f f0 : Nat → Nat → Int32} {g g0 : Nat → Nat → Int64} {m : Nat} {b : Nat → Nat} {len i : Nat} {O : List Int32} {dp d : Nat} {cs : List Nat} {ks : List Kp} {un lv nr : Nat} {nm : Nat → Nat} {s : Ps} {Q : Option Value → MH → Prop}
theorem mr_cmp {M : Nat} {U : Ps → Ps} (C : MSH h m) (hd : d ≤ 7) (st : Stk U) (HA : AK h f0 g0 m b len d 5 5 (zSm b len U)) (PA : ∀ s, gdK len s → yF (zSm b len U s) = 0 → PK len M s (zSm b len U s)) (hM : M ≤ 9) : AK h f0 g0 m b len d 4 4 (zC b len U) := by
  intro Q s O f g G R hO hs hn K1 K2
  have stS := st_Sm (b := b) (len := len) st
  refine HA Q s O f g G R (by omega) (hs.w (fun x hx => by omega)) (fun _ => hn (by omega)) (fun f1 g1 r ks fA ok en R1 ec => ?_) (fun f1 g1 fA R1 => ?_)
  · have p := PA s G fA
    have gg := PK.gd G p hM
    have ek := kq_0 (b := b) (len := len) fA
    cases z : sgl 4 (kq b len (zSm b len U s)) with
    | none =>
      rw [zC_n z] at K1
      refine K1 f1 g1 r ks fA (ok.w (by omega)) (fun w hw hb => ?_) R1 ec
      by_cases e : bwS w = 4
      · have := sgl_i hw
        rw [e, ← ek, z] at this; cases this
      · exact en w hw (by omega)
    | some w =>
      rw [zC_y z] at K1 K2
      obtain ⟨sg, bwe⟩ := sgl_w z
      rw [ek] at sg
      have sw := sgn_w sg
      have eS := zS_0 (b := b) (len := len) fA
      have G1 : gdK len (zS b len (zSm b len U s)) := by rw [eS]; exact ⟨rfl, nx_le gg.1.2.1, gg.1.2.2⟩
      have kk : kps (2, w) := Or.inl ⟨rfl, sw.1⟩
      have bk1 : bdI (mkc (2, w)) = 4 := (bdI_k kk).1.trans bwe
      have gl : ks.length + r.length = (vKs (yN (zSm b len U s))).length := by rw [← ec, List.length_append]
      have hlc : ks.length + r.length < 330 := by have := gg.1.2.2.2; have := gg.2; omega
      refine mr_fsign (w := w) (r := r) C R1 sg (by rw [bwe]; exact ok.w (by omega)) (fun _ k hk => (ok k hk).2) (by rw [bwe]; exact hs) hlc (by omega) (by omega) (fun f2 g2 R2 => ?_)
      rw [ec] at R2
      refine HA Q (zS b len (zSm b len U s)) (O ++ [mkc (2, w)]) f2 g2 G1 (by rw [eS]; exact R2) (by rw [len_1]; omega) (Or.inr ⟨O, _, rfl, by show bdI (mkc (2, w)) < 5; rw [bk1]; decide⟩) (fun _ _ => ⟨O, _, rfl, by rw [bk1]; decide⟩) (fun f3 g3 r2 ks2 fB ok2 en2 R3 ec2 => ?_) (fun f3 g3 fB R3 => ?_)
      · have p2 := PA _ G1 fB
        have gg2 := PK.gd G1 p2 hM
        have hx : (vKs (yN (zSm b len U (zS b len (zSm b len U s))))).length < 320 := by have := gg2.1.2.2.2; have := gg2.2; omega
        refine K1 f3 g3 (r2 ++ [(2, w)]) ks2 (by rw [zK_F]; exact fB) ?_ ?_ ?_ ?_
        · intro x hx
          rcases List.mem_append.mp hx with y | y
          · exact ⟨(ok2 x y).1, by have := (ok2 x y).2; omega⟩
          · rw [List.mem_singleton.mp y]; exact ⟨kk, by show 4 ≤ bwS w; omega⟩
        · rw [yI_K]
          intro w' hw' hb'
          by_cases e : bwS w' = 4
          · exact ⟨e, hasr_5 (fun c hc => (ok2 c hc).2) bwe⟩
          · have := (en2 w' hw' (by omega)).1
            omega
        · rw [zK_o hx, mks_a, nots_a]
          rw [List.append_assoc] at R3
          exact R3
        · rw [zK_o hx, ← List.append_assoc, ec2]; rfl
      · have e1 := st_K (c := (2, w)) _ fB
        refine K2 f3 g3 (by rw [e1.1]; exact fB) ?_
        rw [e1.1, e1.2]; exact R3
  · have e : zC b len U s = zSm b len U s := zC_n (by rw [kq_F fA]; decide)
    rw [e] at K2
    exact K2 f1 g1 fA R1
/-- nots -/
theorem mr_nots {D : Nat} (C : MSH h m) (hd : d + D = 7) (HC : AK h f0 g0 m b len d 4 4 (zC b len (zUn b len (zB b len D)))) (ih : ∀ D', D = D' + 1 → AK h f0 g0 m b len (d + 1) 4 3 (zD b len D').1) : AK h f0 g0 m b len d 4 3 (zD b len D).1 := by
  intro Q s O f g G R hO hs hn K1 K2
  have mc := C.1
  have ek := kq_0 (b := b) (len := len) G.1
  by_cases z : kd b len (yI s) = 100 + 14
  · have w14 : ev M_Mo_isWord 0 0 [some (.ref m), some (.long (lN 7237492)), none] [] (wI (wL h g) f) = _ := mr_word C R (j := 14) (by decide)
    rw [decide_eq_true z] at w14
    have s2 := R.2.2.2.2.1.2.1
    have m40 := mr_mark C R (c := 40) (by decide) (by decide)
    rw [decide_eq_false (by omega)] at m40
    unfold cU
    rw [r_Mo_unit_3]
    refine wp_bf n10 (wp_isC mc (wp_rIe (mr_good C R) (wp_bf n10 (wp_isC mc (wp_rIe w14 (wp_bf n10 (wp_isC mc (wp_rIe (mr_mayY C R hs) (wp_bf n10 ?_)))))))))
    rw [r_Mo_unit_20]
    refine wp_bf n10 (wp_isC mc ?_)
    rw [wI_I, s2]
    cases D with
    | zero =>
      have e : (zD b len 0).1 s = zF b len 2 s := zD_n0 (by rw [ek]; exact z)
      rw [e] at K2
      obtain ⟨f', a1, a2, a3⟩ := mr_wrongS (c := 2) C G.1 R (by decide) (by decide)
      refine wp_bt (by rw [nI_ltI (by decide) (by omega)]; omega) ?_
      rw [r_Mo_unit_40]
      exact wp_isC mc (wp_rVe a1 (wp_of (me_u44 C a3) ⟨rfl, me_f C a3 (K2 f' g a2 a3)⟩))
    | succ D =>
      have ih := ih D rfl
      have e : (zD b len (D + 1)).1 s = zK (3, 0) ((zD b len D).1 (zS b len s)) := zD_n1 (by rw [ek]; exact z)
      rw [e] at K1 K2
      have eS := zS_0 (b := b) (len := len) G.1
      have G1 : gdK len (zS b len s) := by rw [eS]; exact ⟨rfl, nx_le G.2.1, G.2.2⟩
      obtain ⟨f2, g2, a2, R2⟩ := mr_openUp (x := mI 30) C R (by omega)
      refine wp_bf (by rw [nI_ltI (by decide) (by omega)]; omega) ?_
      rw [r_Mo_unit_28]
      refine wp_isC mc (wp_rIe m40 (wp_bt rfl ?_))
      rw [r_Mo_unit_44]
      refine wp_isC mc ?_
      rw [wI_I, R.2.1]
      refine wp_bf (by decide) (wp_bf n10 ?_)
      rw [r_Mo_unit_55, r_Mo_unit_59]
      refine wp_isC mc (wp_rIe m40 (wp_bt rfl ?_))
      rw [r_Mo_unit_73]
      refine wp_bf n10 (wp_bf n10 ?_)
      rw [r_Mo_unit_82]
      refine wp_isC mc (wp_rVe a2 ?_)
      rw [r_Mo_unit_84]
      refine ih Q (zS b len s) (O ++ [mI 30]) f2 g2 G1 (by rw [eS]; exact R2) (by rw [len_1]; omega) (Or.inr ⟨O, _, rfl, by decide⟩) (fun w => absurd w (by decide)) (fun f3 g3 r ks fA ok en R3 ec => ?_) (fun f3 g3 fA R3 => ?_)
      · have p := (pk_D D (by omega)).1 _ G1 fA
        have gg := PK.gd G1 p (by omega)
        have hx : (vKs (yN ((zD b len D).1 (zS b len s)))).length < 320 := by have := gg.1.2.2.2; have := gg.2; omega
        refine K1 f3 g3 (r ++ [(3, 0)]) ks (by rw [zK_F]; exact fA) ?_ ?_ ?_ ?_
        · intro x hx
          rcases List.mem_append.mp hx with y | y
          · exact ok x y
          · rw [List.mem_singleton.mp y]; exact ⟨Or.inr rfl, Nat.le_refl _⟩
        · rw [yI_K]
          intro w' hw' hb'
          obtain ⟨q1, q2⟩ := en w' hw' hb'
          exact ⟨q1, hasr_a q2⟩
        · rw [zK_o hx, mks_a, nots_a]
          rw [List.append_assoc] at R3
          have en : d + (nots r + if (3, 0).1 = 3 then 1 else 0) = d + 1 + nots r := by
            show d + (nots r + 1) = d + 1 + nots r
            omega
          rw [en]
          exact R3
        · rw [zK_o hx, ← List.append_assoc, ec]; rfl
      · have e1 := st_K (c := (3, 0)) _ fA
        refine K2 f3 g3 (by rw [e1.1]; exact fA) ?_
        rw [e1.1, e1.2]; exact R3
  · have e : (zD b len D).1 s = zC b len (zUn b len (zB b len D)) s := zD_1 b len D s (by rw [ek]; exact z)
    rw [e] at K1 K2
    refine HC Q s O f g G R (by omega) hs (fun _ w => absurd w z) (fun f1 g1 r ks fA ok en R1 ec => K1 f1 g1 r ks fA (ok.w (by omega)) (fun w hw hb => en w hw ?_) R1 ec) K2
    have : bwS w ≠ 3 := by
      unfold bwS
      repeat' split
      all_goals decide
    omega
theorem allK (C : MSH h m) (hl : len ≤ 1600) : ∀ D d, d + D = 7 → AK h f0 g0 m b len d 4 3 (zD b len D).1 ∧ AK h f0 g0 m b len d 1 1 (zD b len D).2 := by
  have key : ∀ D d, d + D = 7 → (∀ D', D = D' + 1 → AK h f0 g0 m b len (d + 1) 4 3 (zD b len D').1 ∧ AK h f0 g0 m b len (d + 1) 1 1 (zD b len D').2) → AK h f0 g0 m b len d 4 3 (zD b len D).1 ∧ AK h f0 g0 m b len d 1 1 (zD b len D).2 := by
    intro D d hd ih
    obtain ⟨p1, p2, p3⟩ := pk_D (b := b) (len := len) D (by omega)
    have stU : Stk (zUn b len (zB b len D)) := st_Un (st_D D).2.2
    have pU : ∀ s, gdK len s → yF (zUn b len (zB b len D) s) = 0 → PK len (D + 2) s (zUn b len (zB b len D) s) := fun s g f => pk_Un (by omega) g (fun h1 h2 h3 => p3 s g h2 h1 h3) f
    have aU := mr_unitA (h := h) (f0 := f0) (g0 := g0) (b := b) (len := len) C hd (fun D' e => (ih D' e).2)
    have aT : AK h f0 g0 m b len d 6 6 (zTm b len (zUn b len (zB b len D))) := by
      rw [zTm_G]; exact mr_glvl (L := 6) C hl (by omega) (by omega) (by omega) stU aU pU (by omega)
    have aS : AK h f0 g0 m b len d 5 5 (zSm b len (zUn b len (zB b len D))) := by
      rw [zSm_G]; exact mr_glvl (L := 5) C hl (by omega) (by omega) (by omega) (st_Tm stU) aT (fun s g f => pk_Tm stU pU (by omega) s g f) (by omega)
    have aC := mr_cmp C (by omega) stU aS (fun s g f => pk_Sm stU pU (by omega) s g f) (by omega)
    have aN := mr_nots C hd aC (fun D' e => (ih D' e).1)
    have aA : AK h f0 g0 m b len d 2 2 (zAnd b len (zD b len D).1) := by
      rw [zAnd_G]; exact mr_glvl (L := 2) C hl (by omega) (by omega) (by omega) (st_D D).1 aN p1 (by omega)
    refine ⟨aN, ?_⟩
    rw [zD_2, zOr_G]
    exact mr_glvl (L := 1) C hl (by omega) (by omega) (by omega) (st_And (st_D D).1) aA (pk_Or (st_D D).1 p1 (by omega)).1 (by omega)
  intro D
  induction D with
  | zero => exact fun d hd => key 0 d hd (fun D' e => by omega)
  | succ D ih =>
    intro d hd
    refine key (D + 1) d hd (fun D' e => ?_)
    have : D' = D := by omega
    subst this
    exact ih (d + 1) (by omega)
/-- the whole formula -/
theorem mr_formula (C : MSH h m) (hl : len ≤ 1600) (G : gdK len s) (R : RM f0 g0 f g m b len O dp s) : ∃ f' g', ev M_Mo_formula 0 0 [some (.ref m), none, none] [] (wI (wL h g) f) = some (none, wI (wL h g') f') ∧ Res f0 g0 f' g' m b len [] 0 ((zD b len 7).2 s) := by
  have mc := C.1
  have key : wp (ev M_Mo_formula 0 0 [some (.ref m), none, none] [] (wI (wL h g) f)) (fun a e => a = none ∧ ∃ f' g', e = wI (wL h g') f' ∧ Res f0 g0 f' g' m b len [] 0 ((zD b len 7).2 s)) := by
    have R1 : RM f0 g0 (up2 (up2 f m 32 (nI 0)) m 33 (nI 0)) g m b len [] 0 s := RR.st R (fun a h1 _ => by rw [up2_a h1, up2_a h1]) (fun k h1 h2 => by rw [up2_k h2, up2_k h1]) ⟨by rw [up2_k (by decide), up2_s]; rfl, up2_s, fun i c hc => (by cases hc), by decide⟩
    have a := (allK (h := h) (f0 := f0) (g0 := g0) (b := b) (len := len) C hl 7 0 (by decide)).2
    have z := a (fun a e => a = none ∧ ∃ f' g', e = wI (wL h g') f' ∧ Res f0 g0 f' g' m b len [] 0 ((zD b len 7).2 s)) s [] _ g G R1 (by decide) (Or.inl rfl) (fun w => absurd w (by decide)) (fun f2 g2 r ks fA ok en R2 ec => ?_) (fun f2 g2 fA R2 => ⟨rfl, f2, g2, rfl, Or.inr ⟨fA, R2⟩⟩)
    · rw [r_Mo_formula_0]
      refine wp_isC mc ?_
      rw [wI_s]
      refine wp_isC mc ?_
      rw [wI_s]
      refine wp_isC mc ?_
      rw [r_Mo_unit_0]
      exact wp_rV z (fun v H w => w)
    · have p := (pk_D 7 (by omega)).2.1 _ G fA
      have gg := PK.gd G p (by omega)
      have gl : ks.length + r.length = (vKs (yN ((zD b len 7).2 s))).length := by rw [← ec, List.length_append]
      have hlc : ks.length + r.length < 330 := by have := gg.1.2.2.2; have := gg.2; omega
      generalize (zD b len 7).2 s = t at *
      have bn := brk_k r ok
      have br := mr_bracket C R2
      have e0 : [] ++ mks r = mks r := rfl
      rw [e0, bn] at br
      obtain ⟨f3, a3, R3⟩ := mr_fcl (O := []) (g := g2) C (show 1 < 10 by decide) (Or.inl rfl) (by omega) r ks f2 ok hlc (by omega) R2
      rw [ec] at R3
      refine mr_fend (O := []) (r := r) C R2 (ok.w (Nat.zero_le _)) en (fun _ => bn) ?_
      rw [r_Mo_formula_83]
      refine wp_isC mc (wp_rIe (mr_good C R2) (wp_bf n10 (wp_isC mc (wp_rIe br (wp_bt rfl ?_)))))
      rw [r_Mo_formula_93]
      exact wp_isC mc (wp_rIe (mr_good C R2) (wp_bf n10 (wp_isC mc (wp_rVe a3 (wp_s ⟨rfl, f3, g2, rfl, Or.inl ⟨fA, R3⟩⟩)))))
  obtain ⟨v, hh, e1, e2, f', g', e3, e4⟩ := key
  subst e2; subst e3
  exact ⟨f', g', e1, e4⟩
end
