/-! The plain form's reader: derived ones. -/
/-- the plain form at the class's state -/
def RM (f0 : Nat → Nat → Int32) (g0 : Nat → Nat → Int64) (f : Nat → Nat → Int32) (g : Nat → Nat → Int64) (m : Nat) (b : Nat → Nat) (len : Nat) (O : List Int32) (d : Nat) (s : Ps) : Prop := RR f0 g0 f g m b len (yI s) O d (fxs (vXs (yN s))) (vKs (yN s)) (vUn (yN s)) (yV s)
/-- what a piece of reading ends in -/
def Res (f0 : Nat → Nat → Int32) (g0 : Nat → Nat → Int64) (f : Nat → Nat → Int32) (g : Nat → Nat → Int64) (m : Nat) (b : Nat → Nat) (len : Nat) (O : List Int32) (d : Nat) (s : Ps) : Prop := (yF s = 0 ∧ RM f0 g0 f g m b len O d s) ∨ (yF s ≠ 0 ∧ RE f0 g0 f g m (yF s) (yP s))
/-- names told in the text -/
def NMm (f0 : Nat → Nat → Int32) (g0 : Nat → Nat → Int64) (m nr : Nat) (nm : Nat → Nat) : Prop := f0 (m + 3) 1 = nI nr ∧ (∀ k, k < nr → g0 (m + 8) (5 + k) = lN (nm k) ∧ nm k < 2 ^ 63) ∧ nr ≤ 5
def gdM (len nr : Nat) (nm : Nat → Nat) (s : Ps) : Prop := gdX len s ∧ vNr (yN s) = nr ∧ vNm (yN s) = nm
section
variable {h : MH} {f f0 : Nat → Nat → Int32} {g g0 : Nat → Nat → Int64} {m : Nat} {b : Nat → Nat} {len i : Nat} {O : List Int32} {dp d : Nat} {cs : List Nat} {ks : List Kp} {un lv nr : Nat} {nm : Nat → Nat} {s : Ps} {Q : Option Value → MH → Prop}
theorem mr_wrongS {c : Nat} (C : MSH h m) (hf : yF s = 0) (R : RR f0 g0 f g m b len (yI s) O dp cs ks un lv) (h1 : 0 < c) (h2 : c ≤ 5) : ∃ f', ev M_Mo_wrong 0 0 [some (.ref m), some (.int (nI c))] [] (wI (wL h g) f) = some (none, wI (wL h g) f') ∧ yF (zF b len c s) ≠ 0 ∧ RE f0 g0 f' g m (yF (zF b len c s)) (yP (zF b len c s)) := by
  obtain ⟨f', a1, a2⟩ := mr_wrong C R h1 h2
  refine ⟨f', a1, zF_n h1, ?_⟩
  rw [zF_0 hf]; exact a2
theorem mr_named {w : Nat} (C : MSH h m) (E : NMm f0 g0 m nr nm) (F : FR m f0 f g0 g) (hw : w < 2 ^ 63) : ev M_Mo_relNamed 0 0 [some (.ref m), some (.long (lN w)), none, none] [] (wI (wL h g) f) = some (some (.int (oI (ff (fun k => decide (nm k = w)) nr))), wI (wL h g) f) := by
  have mc := C.1
  have ar3 : hR h m 13 = some (m + 3) := (C.2 2 (by decide)).1
  have an3 : hN h (m + 3) = 2 := (C.2 2 (by decide)).2.1
  have ac3 : hC h (m + 3) = 20 := (C.2 2 (by decide)).2.2
  have ar8 : hR h m 18 = some (m + 8) := (C.2 7 (by decide)).1
  have an8 : hN h (m + 8) = 10 := (C.2 7 (by decide)).2.1
  have ac8 : hC h (m + 8) = 22 := (C.2 7 (by decide)).2.2
  obtain ⟨e1, e2, e3⟩ := E
  have f3 : f (m + 3) 1 = nI nr := by rw [F.1 _ (by omega) (by omega) (by omega) (by omega) (by omega) (by omega)]; exact e1
  have g8 : ∀ k, k < nr → g (m + 8) (5 + k) = lN (nm k) := fun k hk => by rw [F.2.2.2.2.2.2 _ (by omega)]; exact (e2 k hk).1
  have L : ∀ k i, i + k = nr → ff (fun k => decide (nm k = w)) i = none → ev M_Mo_relNamed 0 3 [some (.ref m), some (.long (lN w)), none, some (.int (nI i))] [] (wI (wL h g) f) = some (some (.int (oI (ff (fun k => decide (nm k = w)) nr))), wI (wL h g) f) := by
    intro k
    induction k with
    | zero =>
      intro i hi hf
      rw [r_Mo_relNamed_3]
      refine wp_e (wp_isC mc (wp_nnR ar3 (wp_isC ac3 (wp_inA (n := 1) an3 rfl (by decide) (by decide) ?_))))
      rw [show (nI 1).toNatClampNeg = 1 from rfl, wI_I, f3]
      refine wp_bf (by rw [nI_ltI (by omega) (by omega)]; omega) (wp_s ⟨?_, rfl⟩)
      rw [show nr = i by omega, hf]; rfl
    | succ k ih =>
      intro i hi hf2
      have ef := ff_n hf2
      rw [r_Mo_relNamed_3]
      refine wp_e (wp_isC mc (wp_nnR ar3 (wp_isC ac3 (wp_inA (n := 1) an3 rfl (by decide) (by decide) ?_))))
      rw [show (nI 1).toNatClampNeg = 1 from rfl, wI_I, f3]
      refine wp_bt (by rw [nI_ltI (by omega) (by omega)]; omega) (wp_isC mc (wp_nnR ar8 (wp_isC ac8 ?_)))
      rw [nI_add]
      refine wp_inA an8 rfl (by omega) (by omega) ?_
      rw [nI_clamp (by omega), show hL (wI (wL h g) f) (m + 8) (5 + i) = g (m + 8) (5 + i) from rfl, g8 i (by omega)]
      by_cases q : nm i = w
      · rw [if_pos (decide_eq_true q)] at ef
        rw [ff_some ef (show i + 1 ≤ nr by omega)]
        exact wp_bt ((lg_c _ _).mpr (by rw [q])) (wp_s ⟨rfl, rfl⟩)
      · rw [if_neg (by rw [decide_eq_false q]; decide)] at ef
        refine wp_bf (fun z => q ((pk_lEQ (e2 i (by omega)).2 hw).mp ((lg_c _ _).mp z))) ?_
        rw [nI_add]
        exact wp_of (ih (i + 1) (by omega) ef) ⟨rfl, rfl⟩
  rw [r_Mo_relNamed_0]
  exact L nr 0 (by omega) rfl
/-- a name, same or all -/
def zLe (b : Nat → Nat) (len : Nat) (s : Ps) : Ps := if kq b len s = 4 then zLf b len (fnd b len s) s else if kq b len s = 112 then zLf b len (some 10) s else if kq b len s = 113 then zLf b len (some 11) s else zF b len 2 s
theorem me_leaf43 {x : Int32} {c p : Nat} (C : MSH h m) (R : RE f0 g0 f g m c p) : wp (ev M_Mo_leaf 0 43 [some (.ref m), some (.int x), none] [] (wI (wL h g) f)) (fun a e => a = none ∧ e = wI (wL h g) f) := by
  have mc := C.1
  rw [r_Mo_leaf_43]
  refine wp_isC mc (wp_rIe (me_good C R) (wp_bt rfl ?_))
  rw [r_Mo_leaf_55]
  refine wp_isC mc (wp_rIe (me_good C R) (wp_bt rfl ?_))
  rw [r_Mo_leaf_65]
  refine wp_isC mc ?_
  rw [wI_I, R.1]
  exact wp_bt (by rw [nI_ltI (by decide) (by have := R.2.1; omega)]; exact R.2.1.1) (wp_s ⟨rfl, rfl⟩)
theorem mr_leaf65 {c : Nat} (C : MSH h m) (G : gdX len s) (R : RM f0 g0 f g m b len O dp s) (hv : yV s < 30) (hc : c < 30) : ∃ f' g', wp (ev M_Mo_leaf 0 65 [some (.ref m), some (.int (nI (mcd c))), none] [] (wI (wL h g) f)) (fun a e => a = none ∧ e = wI (wL h g') f') ∧ Res f0 g0 f' g' m b len O dp (zS b len (zX c (zV s (yV s + 1)))) := by
  have mc := C.1
  have g3 := G.2.2
  have hx : (vXs (yN s)).length < 256 := by omega
  have l26 := R.2.2.2.2.2.2.2.1.2
  have R1 : RR f0 g0 (up2 f m 26 (nI (yV s + 1))) g m b len (yI s) O dp (fxs (vXs (yN s))) (vKs (yN s)) (vUn (yN s)) (yV s + 1) := R.xc (fun a h1 _ => up2_a h1) (fun k _ h2 => up2_k h2) (fun i _ => by rw [up2_a (by omega)]) ⟨by rw [up2_k (by decide)]; exact R.2.2.2.2.2.1.1, fun i c hc => by rw [up2_a (by omega)]; exact R.2.2.2.2.2.1.2 i c hc⟩ up2_s
  obtain ⟨f2, a1, R2⟩ := mr_lays (c := c) C R1 (by have := fxs_n (vXs (yN s)); omega)
  obtain ⟨f3, g3, a3, R3⟩ := mr_goOn C R2
  refine ⟨f3, g3, ?_, Or.inl ?_⟩
  · rw [r_Mo_leaf_65]
    refine wp_isC mc ?_
    rw [wI_I, R.2.1]
    refine wp_bf (by decide) (wp_isC mc (wp_isC mc ?_))
    rw [l26, nI_add, wI_s]
    exact wp_isC mc (wp_rVe a1 (wp_isC mc (wp_rVe a3 (wp_s ⟨rfl, rfl⟩))))
  · rw [zX_o (s := zV s (yV s + 1)) hx, zS_0 (by exact G.1)]
    refine ⟨rfl, ?_⟩
    show RR f0 g0 f3 g3 m b len (nx b len (yI s)) O dp (fxs (vXs (yN s) ++ [c])) (vKs (yN s)) (vUn (yN s)) (yV s + 1)
    rw [fxs_a _ hc]; exact R3
theorem mr_leaf (C : MSH h m) (E : NMm f0 g0 m nr nm) (G : gdM len nr nm s) (R : RM f0 g0 f g m b len O dp s) (hv : yV s ≤ 30) : ∃ f' g', ev M_Mo_leaf 0 0 [some (.ref m), none, none] [] (wI (wL h g) f) = some (none, wI (wL h g') f') ∧ Res f0 g0 f' g' m b len O dp (zLe b len s) := by
  have mc := C.1
  obtain ⟨G, n1, n2⟩ := G
  have ek := kq_0 (b := b) (len := len) G.1
  obtain ⟨-, r2, -, ⟨r4, r5⟩, -, -, -, ⟨-, l26⟩, r15⟩ := id R
  have t3 := r5.2.2.1
  have w12 : ev M_Mo_isWord 0 0 [some (.ref m), some (.long (lN 1935764837)), none] [] (wI (wL h g) f) = _ := mr_word C R (j := 12) (by decide)
  have w13 : ev M_Mo_isWord 0 0 [some (.ref m), some (.long (lN 6384748)), none] [] (wI (wL h g) f) = _ := mr_word C R (j := 13) (by decide)
  have q1 : f m 5 = nI 1 ↔ kd b len (yI s) = 4 ∨ 100 ≤ kd b len (yI s) := by rw [t3]; exact srt_1 _
  have kr := kd_r (b := b) (len := len) (yI s)
  -- a fault at once
  have bad : ∀ x, zLe b len s = zF b len 2 s → wp (ev M_Mo_leaf 0 39 [some (.ref m), some (.int x), none] [] (wI (wL h g) f)) (fun a e => a = none ∧ ∃ f' g', e = wI (wL h g') f' ∧ Res f0 g0 f' g' m b len O dp (zLe b len s)) := fun x e => by
    obtain ⟨f', a1, a2, a3⟩ := mr_wrongS (c := 2) C G.1 R (by decide) (by decide)
    rw [r_Mo_leaf_39, e]
    exact wp_isC mc (wp_rVe a1 (wp_w (me_leaf43 C a3) (fun a e w => ⟨w.1, f', g, w.2, Or.inr ⟨a2, a3⟩⟩)))
  -- what is told is same or all
  have known : ∀ c, c = 10 ∨ c = 11 → zLe b len s = zLf b len (some c) s → wp (ev M_Mo_leaf 0 34 [some (.ref m), some (.int (nI c)), none] [] (wI (wL h g) f)) (fun a e => a = none ∧ ∃ f' g', e = wI (wL h g') f' ∧ Res f0 g0 f' g' m b len O dp (zLe b len s)) := fun c hc e => by
    rw [r_Mo_leaf_34]
    refine wp_isC mc ?_
    rw [wI_I, l26]
    refine wp_bi (nI_eq (by omega) (by decide)) (fun z => bad _ ?_) (fun z => ?_)
    · rw [e]; exact if_neg (by omega)
    · obtain ⟨f', g', a1, a2⟩ := mr_leaf65 (c := c) C G R (by omega) (by omega)
      have em : nI (mcd c) = nI c := by rcases hc with z | z <;> rw [z] <;> rfl
      rw [em] at a1
      have ez : zLe b len s = zS b len (zX c (zV s (yV s + 1))) := by rw [e]; exact if_pos (by omega)
      have nn : ¬ nI c = mI 1 := by rcases hc with z | z <;> rw [z] <;> decide
      rw [r_Mo_leaf_43, ez]
      refine wp_isC mc (wp_rIe (mr_good C R) (wp_bf n10 (wp_bf nn ?_)))
      rw [r_Mo_leaf_55]
      exact wp_isC mc (wp_rIe (mr_good C R) (wp_bf n10 (wp_bf nn (wp_w a1 (fun a e w => ⟨w.1, f', g', w.2, a2⟩)))))
  have key : wp (ev M_Mo_leaf 0 0 [some (.ref m), none, none] [] (wI (wL h g) f)) (fun a e => a = none ∧ ∃ f' g', e = wI (wL h g') f' ∧ Res f0 g0 f' g' m b len O dp (zLe b len s)) := by
    rw [r_Mo_leaf_0]
    refine wp_isC mc (wp_rIe w12 ?_)
    by_cases z12 : kd b len (yI s) = 100 + 12
    · rw [decide_eq_true z12]
      refine wp_bf n10 ?_
      have ez : zLe b len s = zLf b len (some 10) s := by unfold zLe; rw [ek, if_neg (by omega), if_pos z12]
      have kn := known 10 (Or.inl rfl) ez
      rw [r_Mo_leaf_14]
      refine wp_isC mc (wp_bt (q1.mpr (by omega)) (wp_isC mc (wp_rIe (mr_own C R (by omega)) ?_)))
      rw [decide_eq_true (show 100 ≤ kd b len (yI s) by omega)]
      refine wp_bf n10 ?_
      rw [r_Mo_leaf_25, r_Mo_leaf_27]
      exact wp_bf (by decide) kn
    · rw [decide_eq_false z12]
      refine wp_bt rfl (wp_isC mc (wp_rIe w13 ?_))
      by_cases z13 : kd b len (yI s) = 100 + 13
      · rw [decide_eq_true z13]
        refine wp_bf n10 ?_
        have ez : zLe b len s = zLf b len (some 11) s := by unfold zLe; rw [ek, if_neg (by omega), if_neg z12, if_pos z13]
        have kn := known 11 (Or.inr rfl) ez
        rw [r_Mo_leaf_14]
        refine wp_isC mc (wp_bt (q1.mpr (by omega)) (wp_isC mc (wp_rIe (mr_own C R (by omega)) ?_)))
        rw [decide_eq_true (show 100 ≤ kd b len (yI s) by omega)]
        refine wp_bf n10 ?_
        rw [r_Mo_leaf_25, r_Mo_leaf_27]
        exact wp_bf (by decide) kn
      · rw [decide_eq_false z13]
        refine wp_bt rfl ?_
        by_cases z4 : kd b len (yI s) = 4
        · have ez : zLe b len s = zLf b len (fnd b len s) s := by unfold zLe; rw [ek, if_pos z4]
          have hw := wv_lt (yI s) r4 (Or.inl z4)
          have nmd := mr_named (h := h) C E r15 hw
          have efn : fnd b len s = ff (fun k => decide (nm k = wv b len (yI s))) nr := by unfold fnd; rw [n1, n2]
          rw [← efn] at nmd
          have g11 : hL (wI (wL h g) f) m 11 = lN (wv b len (yI s)) := r5.2.2.2.2 (Or.inl z4)
          rw [r_Mo_leaf_14]
          refine wp_isC mc (wp_bt (q1.mpr (Or.inl z4)) (wp_isC mc (wp_rIe (mr_own C R (Or.inl z4)) ?_)))
          rw [decide_eq_false (show ¬ 100 ≤ kd b len (yI s) by omega)]
          refine wp_bt rfl ?_
          rw [r_Mo_leaf_27]
          refine wp_bt rfl (wp_bf n10 ?_)
          rw [r_Mo_leaf_34]
          refine wp_isC mc ?_
          rw [wI_I, l26]
          refine wp_bi (nI_eq (by omega) (by decide)) (fun z => bad _ ?_) (fun z => ?_)
          · rw [ez]; exact if_neg (by omega)
          · rw [r_Mo_leaf_43]
            refine wp_isC mc (wp_rIe (mr_good C R) (wp_bf n10 (wp_bt rfl (wp_isC mc (wp_isC mc ?_)))))
            rw [g11]
            refine wp_rIe nmd ?_
            rw [r_Mo_leaf_55, ez]
            refine wp_isC mc (wp_rIe (mr_good C R) (wp_bf n10 ?_))
            unfold zLf
            rw [if_pos (show yV s < 30 by omega)]
            cases hfn : fnd b len s with
            | none =>
              obtain ⟨f', a1, a2, a3⟩ := mr_wrongS (c := 5) C G.1 R (by decide) (by decide)
              refine wp_bt rfl (wp_isC mc (wp_rVe a1 ?_))
              rw [r_Mo_leaf_65]
              refine wp_isC mc ?_
              rw [wI_I, a3.1]
              exact wp_bt (by rw [nI_ltI (by decide) (by have := a3.2.1; omega)]; exact a3.2.1.1) (wp_s ⟨rfl, f', g, rfl, Or.inr ⟨a2, a3⟩⟩)
            | some c =>
              have hc : c < nr := ff_lt (by rw [← efn]; exact hfn)
              have := E.2.2
              have em : nI (mcd c) = nI c := by unfold mcd; rw [if_neg (by omega), if_neg (by omega), if_neg (by omega)]
              obtain ⟨f', g', a1, a2⟩ := mr_leaf65 (c := c) C G R (by omega) (by omega)
              rw [em] at a1
              refine wp_bf (fun e => ?_) (wp_w a1 (fun a e w => ⟨w.1, f', g', w.2, a2⟩))
              have e : nI c = mI 1 := e
              have := nI_pos (n := c) (by omega)
              rw [e] at this; exact this mI_neg
        · have ez : zLe b len s = zF b len 2 s := by unfold zLe; rw [ek, if_neg z4, if_neg z12, if_neg z13]
          have bd := bad (mI 1) ez
          rw [r_Mo_leaf_14]
          refine wp_isC mc (wp_bi q1 (fun y => ?_) (fun y => ?_))
          · refine wp_isC mc (wp_rIe (mr_own C R y) ?_)
            rw [decide_eq_true (show 100 ≤ kd b len (yI s) by omega)]
            refine wp_bf n10 ?_
            rw [r_Mo_leaf_25, r_Mo_leaf_27]
            exact wp_bt rfl (wp_bt rfl bd)
          · rw [r_Mo_leaf_25, r_Mo_leaf_27]
            exact wp_bt rfl (wp_bt rfl bd)
  obtain ⟨v, hh, e1, e2, f', g', e3, e4⟩ := key
  subst e2; subst e3
  exact ⟨f', g', e1, e4⟩
end
