/-! The class's methods: sifting, one relation, its bits. -/
/-- row r with the pairs ahead of column c sifted -/
def fc (D : Nat → Nat → Bool) (G : Rw) (r : Nat) : Nat → Nat
  | 0 => G r
  | c + 1 => if ((G r).testBit c && D r c) = true then fc D G r c ^^^ 2 ^ c else fc D G r c
def drp (ks : List Kp) (m r c : Nat) : Bool := decide (kept (nI r) (nI c) (nI m) ks = nI 0)
def sft (n : Nat) (ks : List Kp) (G : Rw) : Rw := fun r => if r < n then fc (drp ks (ct n G)) G r n else 0
def sfm (D : Nat → Nat → Bool) (n : Nat) (G : Rw) (r c : Nat) : Rw := fun k => if k < r then fc D G k n else if k = r then fc D G r c else G k
theorem fc_lt {D : Nat → Nat → Bool} {G : Rw} {r n : Nat} (h : G r < 2 ^ n) : ∀ c, c ≤ n → fc D G r c < 2 ^ n
  | 0, _ => h
  | c + 1, hc => by
    rw [fc]
    split
    · exact Nat.xor_lt_two_pow (fc_lt h c (by omega)) (Nat.pow_lt_pow_right (by decide) (by omega))
    · exact fc_lt h c (by omega)
theorem GW.sft {n : Nat} {ks : List Kp} {G : Rw} (V : GW n G) : GW n (sft n ks G) := by
  refine ⟨V.1, fun r => ?_, fun r hr => ?_⟩
  · show (if r < n then _ else _) < _
    split
    · exact fc_lt (V.2.1 r) n (Nat.le_refl _)
    · exact Nat.two_pow_pos n
  · show (if r < n then _ else _) = 0
    rw [if_neg (by omega)]
theorem GW.sfm {D : Nat → Nat → Bool} {n r c : Nat} {G : Rw} (V : GW n G) (hr : r ≤ n) (hc : c ≤ n) (hrc : r < n ∨ c = 0) : GW n (sfm D n G r c) := by
  refine ⟨V.1, fun k => ?_, fun k hk => ?_⟩
  · show (if k < r then _ else if k = r then _ else _) < _
    split
    · exact fc_lt (V.2.1 k) n (Nat.le_refl _)
    split
    · exact fc_lt (V.2.1 r) c hc
    · exact V.2.1 k
  · show (if k < r then _ else if k = r then _ else _) = 0
    rw [if_neg (by omega)]
    split
    · rename_i e
      have : c = 0 := by omega
      subst this
      show G r = 0
      rw [← e]; exact V.2.2 k hk
    · exact V.2.2 k hk
def FM (x pa : Nat) (f f' : Nat → Nat → Int32) : Prop := ∀ a, a ≠ x + 214 → a ≠ x + 215 → a ≠ pa + 3 → f' a = f a
theorem FM.rf {x pa : Nat} {f : Nat → Nat → Int32} : FM x pa f f := fun _ _ _ _ => rfl
theorem FM.tr {x pa : Nat} {f g k : Nat → Nat → Int32} (a : FM x pa f g) (b : FM x pa g k) : FM x pa f k := fun y h1 h2 h3 => (b y h1 h2 h3).trans (a y h1 h2 h3)
theorem FM.gw {x pa n : Nat} {f : Nat → Nat → Int32} {G : Rw} : FM x pa f (gw f (x + 214) n G) := fun y h1 h2 _ => gw_o h1 h2
theorem FM.fx {x pa : Nat} {f g : Nat → Nat → Int32} (hp : pa = x + 2 ∨ pa = x + 19) (a : FM x pa f g) : FX x pa f g := ⟨fun y h1 h2 => a y (fun e => h1 (by unfold Scr; omega)) (fun e => h1 (by unfold Scr; omega)) (fun e => h1 (by unfold Scr; omega)), fun k _ => by rw [a _ (by omega) (by omega) (by omega)]⟩
section
variable {h : MH} {f : Nat → Nat → Int32} {x pa pb s1 v1 : Nat} {S : Abs}
theorem PPa (C : CSH h x pa pb s1 v1) : pa = x + 2 ∨ pa = x + 19 := by
  have := C.2.2.2.2.2.2.2.2.2.2.2.2.2.2.2
  omega
theorem pt_sift {o : Nat} {G : Rw} (C : CSH h x pa pb s1 v1) (F : CF f (hL h) x pa S) (W : WS S) (g2 : GS h o) (d : x + 216 ≤ o ∨ o + 1 < x + 214) (d2 : o ≠ pa + 3 ∧ o + 1 ≠ pa + 3) (g3 : GF f o (aW S) G) (g4 : GW (aW S) G) :
    ∃ f', ev M_PT_siftInto 0 0 [some (.ref x), some (.ref (x + 214)), some (.ref o), none, none, none] [] (wI h f) = some (none, wI h f') ∧ GF f' (x + 214) (aW S) (sft (aW S) (vKs (aQ S)) G) ∧ FM x pa f f' := by
  obtain ⟨⟨c0, q0, q2, q3, q4, q5, q6, q7, q8, q9, q10, q11, q12, q13⟩, PA, PB, RSH, HSH, ⟨bC, bN, bR⟩, ISH, TSH, TSH2, GSH, SSH, ⟨lC, lN1, tC, tN⟩, ⟨rC, rR1, sC, sR1, wC, wN⟩, STR, ⟨sx1, sx2, x0⟩, PP⟩ := id C
  obtain ⟨⟨ft1, ft2⟩, ⟨fl1, fl2⟩, ⟨fe1, fe2⟩, fkw, fpn, ⟨fg1, fg2⟩, fhist, fbx, fsg⟩ := id F
  obtain ⟨⟨ws1, ws2⟩, ⟨ws3, ws4⟩, wpn, ⟨ws5, ws6, ws7⟩, ws8, ⟨ws9, ws10⟩, ⟨ws11, ws12⟩, ws13⟩ := id W
  have p1 := PA.1
  have r1 := RSH.1
  have r2 := RSH.2.1
  have r3 := RSH.2.2.1
  have r4 := RSH.2.2.2.1
  have hv1 : 1 ≤ aV S := wpn.1.1
  have hv4 : aV S ≤ 4 := wpn.1.2.1
  have hr5 : aR S ≤ 5 := wpn.1.2.2.2.1
  have hn16 : aW S ≤ 16 := lv_p hv4
  have fp0 : f pa 0 = nI (aV S) := fpn.1
  have fp1 : f pa 1 = nI (aR S) := fpn.2.1
  have gSH := GSH.1
  have tSH := TSH.1
  have sSH := SSH.1
  have iSH := ISH.1
  have hSH := HSH.1
  have hpa := PPa C
  obtain ⟨pp1, pp2, pp3, pp4, pp5, pp6, pp7, pp8, pp9, -⟩ := id PA
  have FSh : FS h (pa + 1) := ⟨pp3, pp4, pp5, pp6, pp7, pp8, pp9⟩
  have hks := wpn.1.2.2.2.2.2.2.2.2.1.1
  have hkk := wpn.2.2.2.2
  have go := g2.1
  generalize hD : drp (vKs (aQ S)) (ct (aW S) G) = D
  have L2 : ∀ r, r < aW S → ∀ k c f1, c + k = aW S → GF f1 (x + 214) (aW S) (sfm D (aW S) G r c) → FM x pa f f1 → ∃ f2, ev M_PT_siftInto 0 16 [some (.ref x), some (.ref (x + 214)), some (.ref o), some (.int (nI (ct (aW S) G))), some (.int (nI r)), some (.int (nI c))] [] (wI h f1) = ev M_PT_siftInto 0 9 [some (.ref x), some (.ref (x + 214)), some (.ref o), some (.int (nI (ct (aW S) G))), some (.int (nI (r + 1))), none] [] (wI h f2) ∧ GF f2 (x + 214) (aW S) (sfm D (aW S) G r (aW S)) ∧ FM x pa f f2 := by
    intro r hr k
    induction k with
    | zero =>
      intro c f1 hc gm fm
      have o1 : f1 o 1 = nI (aW S) := by rw [fm o (by omega) (by omega) d2.1]; exact g3.1
      have hcW : c = aW S := by omega
      refine ⟨f1, ?_, by rw [← hcW]; rw [hcW] at gm ⊢; exact gm, fm⟩
      rw [r_PT_siftInto_16]
      unfold isC br
      rw [if_pos (show hC (wI h f1) o = 3 from go), if_neg, nI_add]
      rw [wI_I, o1, nI_ltI (by omega) (by omega)]; omega
    | succ k ih =>
      intro c f1 hc gm fm
      have o1 : f1 o 1 = nI (aW S) := by rw [fm o (by omega) (by omega) d2.1]; exact g3.1
      have g3' : GF f1 o (aW S) G := ⟨o1, fun j hj => by rw [fm (o + 1) (by omega) (by omega) d2.2]; exact g3.2 j hj⟩
      have hh := gq_holds g2 g3' g4 hr (show c < aW S by omega)
      have kf : KF f1 (pa + 1) (vKs (aQ S)) := by
        have := fpn.2.2.2.2.2.2.2.2.1
        exact ⟨by rw [fm _ (by omega) (by omega) (by omega)]; exact this.1, fun i c hc => by rw [fm _ (by omega) (by omega) (by omega)]; exact this.2 i c hc⟩
      rw [r_PT_siftInto_16]
      have e0 : ∀ X Y : MRes, isC (wI h f1) o 3 (br (nI c < hI (wI h f1) o 1) X Y) = X := fun X Y => by
        unfold isC br
        rw [if_pos (show hC (wI h f1) o = 3 from go), if_pos]
        rw [wI_I, o1, nI_ltI (by omega) (by omega)]; omega
      rw [e0]
      have e1 : ∀ X : MRes, isC (wI h f1) o 3 X = X := fun X => if_pos go
      rw [e1, hh]
      simp only [r_PT_siftInto_38, nI_add]
      cases z : (G r).testBit c with
      | false =>
        have es : sfm D (aW S) G r c = sfm D (aW S) G r (c + 1) := by
          funext k
          show (if k < r then _ else if k = r then fc D G r c else G k) = (if k < r then _ else if k = r then fc D G r (c + 1) else G k)
          have e : fc D G r (c + 1) = fc D G r c := by rw [fc, z, Bool.false_and]; exact if_neg (by decide)
          rw [e]
        rw [es] at gm
        exact ih (c + 1) f1 (by omega) gm fm
      | true =>
        obtain ⟨f2, w1, w2⟩ := fo_work (r := nI r) (c := nI c) (m := nI (ct (aW S) G)) FSh hks kf hkk
        have fm2 : FM x pa f1 f2 := fun a h1 h2 h3 => w2 a (by omega)
        have gm2 : GF f2 (x + 214) (aW S) (sfm D (aW S) G r c) := w2.F (by omega) gm
        have step : (rI (some (some (Value.int (nI true.toNat)), wI h f1)) fun y2 h1 => br (y2 = nI 0) (ev M_PT_siftInto 0 16 [some (.ref x), some (.ref (x + 214)), some (.ref o), some (.int (nI (ct (aW S) G))), some (.int (nI r)), some (.int (nI (c + 1)))] [] h1) (isC h1 x 12 (nnR (hR h1 x 2) fun r3 => isC h1 r3 5 (nnR (hR h1 r3 6) fun r4 => isC h1 r4 2 (rI (ev M_Formula_work 0 0 [some (.ref r4), some (.int (nI r)), some (.int (nI c)), some (.int (nI (ct (aW S) G))), none, none, none] [] h1) fun y6 h5 => br (y6 = nI 0) (isC h5 (x + 214) 3 (rV (ev M_Grid_turn 0 0 [some (.ref (x + 214)), some (.int (nI r)), some (.int (nI c))] [] h5) fun h7 => ev M_PT_siftInto 0 16 [some (.ref x), some (.ref (x + 214)), some (.ref o), some (.int (nI (ct (aW S) G))), some (.int (nI r)), some (.int (nI (c + 1)))] [] h7)) (ev M_PT_siftInto 0 16 [some (.ref x), some (.ref (x + 214)), some (.ref o), some (.int (nI (ct (aW S) G))), some (.int (nI r)), some (.int (nI (c + 1)))] [] h5)))))) = (br (kept (nI r) (nI c) (nI (ct (aW S) G)) (vKs (aQ S)) = nI 0) (isC (wI h f2) (x + 214) 3 (rV (ev M_Grid_turn 0 0 [some (.ref (x + 214)), some (.int (nI r)), some (.int (nI c))] [] (wI h f2)) fun h7 => ev M_PT_siftInto 0 16 [some (.ref x), some (.ref (x + 214)), some (.ref o), some (.int (nI (ct (aW S) G))), some (.int (nI r)), some (.int (nI (c + 1)))] [] h7)) (ev M_PT_siftInto 0 16 [some (.ref x), some (.ref (x + 214)), some (.ref o), some (.int (nI (ct (aW S) G))), some (.int (nI r)), some (.int (nI (c + 1)))] [] (wI h f2))) := by
          show br (nI 1 = nI 0) _ _ = _
          unfold br
          rw [if_neg n10]
          unfold isC
          rw [if_pos (show hC (wI h f1) x = 12 from c0), show hR (wI h f1) x 2 = some pa from q2]
          show (if hC (wI h f1) pa = 5 then _ else _) = _
          rw [if_pos (show hC (wI h f1) pa = 5 from p1), show hR (wI h f1) pa 6 = some (pa + 1) from pp2]
          show (if hC (wI h f1) (pa + 1) = 2 then _ else _) = _
          rw [if_pos (show hC (wI h f1) (pa + 1) = 2 from pp3), w1]
          rfl
        rw [step]
        have eD : D r c = decide (kept (nI r) (nI c) (nI (ct (aW S) G)) (vKs (aQ S)) = nI 0) := by rw [← hD]; rfl
        by_cases q : kept (nI r) (nI c) (nI (ct (aW S) G)) (vKs (aQ S)) = nI 0
        · rw [decide_eq_true q] at eD
          have gt := gq_turn GSH gm2 (GW.sfm g4 (by omega) (by omega) (Or.inl hr)) hr (show c < aW S by omega)
          have es : (fun k => if k = r then sfm D (aW S) G r c r ^^^ 2 ^ c else sfm D (aW S) G r c k) = sfm D (aW S) G r (c + 1) := by
            funext k
            show (if k = r then (if r < r then _ else if r = r then fc D G r c else G r) ^^^ 2 ^ c else (if k < r then _ else if k = r then _ else _)) = (if k < r then _ else if k = r then fc D G r (c + 1) else G k)
            by_cases e : k = r
            · rw [if_pos e, if_neg (Nat.lt_irrefl r), if_pos rfl, if_neg (by omega), if_pos e, fc, z, eD]; rfl
            · rw [if_neg e, if_neg e, if_neg e]
          rw [es] at gt
          obtain ⟨f3, i1, i2, i3⟩ := ih (c + 1) (gw f2 (x + 214) (aW S) (sfm D (aW S) G r (c + 1))) (by omega) gw_f ((fm.tr fm2).tr FM.gw)
          refine ⟨f3, ?_, i2, i3⟩
          rw [← i1]
          unfold br isC
          rw [if_pos q, if_pos (show hC (wI h f2) (x + 214) = 3 from gSH), gt]
          rfl
        · rw [decide_eq_false q] at eD
          have es : sfm D (aW S) G r c = sfm D (aW S) G r (c + 1) := by
            funext k
            show (if k < r then _ else if k = r then fc D G r c else G k) = (if k < r then _ else if k = r then fc D G r (c + 1) else G k)
            have e : fc D G r (c + 1) = fc D G r c := by rw [fc, eD, Bool.and_false]; exact if_neg (by decide)
            rw [e]
          rw [es] at gm2
          obtain ⟨f3, i1, i2, i3⟩ := ih (c + 1) f2 (by omega) gm2 (fm.tr fm2)
          refine ⟨f3, ?_, i2, i3⟩
          rw [← i1]
          unfold br
          rw [if_neg q]
  have L1 : ∀ k r f1, r + k = aW S → GF f1 (x + 214) (aW S) (sfm D (aW S) G r 0) → FM x pa f f1 → ∃ f2, ev M_PT_siftInto 0 9 [some (.ref x), some (.ref (x + 214)), some (.ref o), some (.int (nI (ct (aW S) G))), some (.int (nI r)), none] [] (wI h f1) = some (none, wI h f2) ∧ GF f2 (x + 214) (aW S) (sfm D (aW S) G (aW S) 0) ∧ FM x pa f f2 := by
    intro k
    induction k with
    | zero =>
      intro r f1 hr gm fm
      have o1 : f1 o 1 = nI (aW S) := by rw [fm o (by omega) (by omega) d2.1]; exact g3.1
      have e : r = aW S := by omega
      refine ⟨f1, ?_, by rw [e] at gm; exact gm, fm⟩
      rw [r_PT_siftInto_9]
      apply wp_e
      refine wp_isC go (wp_bf (by rw [wI_I, o1, nI_ltI (by omega) (by omega)]; omega) (wp_s ⟨rfl, rfl⟩))
    | succ k ih =>
      intro r f1 hr gm fm
      have o1 : f1 o 1 = nI (aW S) := by rw [fm o (by omega) (by omega) d2.1]; exact g3.1
      obtain ⟨f2, e1, e2, e3⟩ := L2 r (by omega) (aW S) 0 f1 (by omega) gm fm
      have es : sfm D (aW S) G r (aW S) = sfm D (aW S) G (r + 1) 0 := by
        funext k
        show (if k < r then _ else if k = r then fc D G r (aW S) else G k) = (if k < r + 1 then fc D G k (aW S) else if k = r + 1 then G (r + 1) else G k)
        by_cases z : k < r
        · rw [if_pos z, if_pos (by omega)]
        · rw [if_neg z]
          by_cases z2 : k = r
          · rw [if_pos z2, if_pos (by omega), z2]
          · rw [if_neg z2, if_neg (by omega)]
            by_cases z3 : k = r + 1
            · rw [if_pos z3, z3]
            · rw [if_neg z3]
      rw [es] at e2
      obtain ⟨f3, i1, i2, i3⟩ := ih (r + 1) f2 (by omega) e2 e3
      refine ⟨f3, ?_, i2, i3⟩
      rw [r_PT_siftInto_9]
      apply wp_e
      refine wp_isC go (wp_bt (by rw [wI_I, o1, nI_ltI (by omega) (by omega)]; omega) ?_)
      rw [e1]
      exact wp_of i1 ⟨rfl, rfl⟩
  have e0 : sfm D (aW S) G 0 0 = G := by
    funext k
    show (if k < 0 then _ else if k = 0 then G 0 else G k) = G k
    rw [if_neg (by omega)]
    by_cases e : k = 0
    · rw [if_pos e, e]
    · rw [if_neg e]
  obtain ⟨f2, e1, e2, e3⟩ := L1 (aW S) 0 (gw f (x + 214) (aW S) G) (by omega) (by rw [e0]; exact gw_f) FM.gw
  have es : ∀ r, r < 16 → sfm D (aW S) G (aW S) 0 r = sft (aW S) (vKs (aQ S)) G r := by
    intro r _
    show (if r < aW S then _ else if r = aW S then G (aW S) else G r) = if r < aW S then fc (drp (vKs (aQ S)) (ct (aW S) G)) G r (aW S) else 0
    rw [hD]
    by_cases z : r < aW S
    · rw [if_pos z, if_pos z]
    · rw [if_neg z, if_neg z]
      split
      · exact g4.2.2 _ (Nat.le_refl _)
      · exact g4.2.2 _ (by omega)
  refine ⟨f2, ?_, ⟨e2.1, fun r hr => by rw [← es r hr]; exact e2.2 r hr⟩, e3⟩
  rw [r_PT_siftInto_0]
  apply wp_e
  refine wp_isC go (wp_rIe (gq_count g2 g3 g4) (wp_isC gSH (wp_rVe (gq_copy GSH g2 (by omega) g3) ?_)))
  exact wp_of e1 ⟨rfl, rfl⟩
end
