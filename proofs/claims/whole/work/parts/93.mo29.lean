/-! The plain form: images; the first relation as told, blocks counted, one pair turned. -/
theorem MF.b {m : Nat} {f f' : Nat → Nat → Int32} {S : Abs} {bx : Nat → Option Sd} (F : MF f m S) (o : ∀ b, b ≠ m + 37 → b ≠ m + 38 → f' b = f b) (e : ∀ b, b < 3 → f' (m + 38) b = nI (bx b).isSome.toNat ∧ ∀ s, bx b = some s → ∀ i, i < 81 → f' (m + 37) (81 * b + i) = nI (sv s i)) : MF f' m (bB S bx) := by
  obtain ⟨⟨a1, a2⟩, ⟨b1, b2⟩, c1, ⟨d1, d2, d3, d4⟩, e1', g1, ⟨h1, h2, h3⟩, ⟨i1, i2⟩, ⟨j1, j2, j3⟩, k1⟩ := F
  have om := o m (by omega) (by omega)
  refine ⟨⟨by rw [om]; exact a1, fun i hi => by rw [o _ (by omega) (by omega)]; exact a2 i hi⟩, ⟨by rw [om]; exact b1, by rw [om]; exact b2⟩, c1.o (fun b hb => o b (by omega) (by omega)), ⟨by rw [o _ (by omega) (by omega)]; exact d1, by rw [o _ (by omega) (by omega)]; exact d2, by rw [o _ (by omega) (by omega)]; exact d3, fun i k hk => by rw [o _ (by omega) (by omega)]; exact d4 i k hk⟩, fun k hk hz r hr => by rw [o _ (by omega) (by omega)]; exact e1' k hk hz r hr, fun i hi => by rw [o _ (by omega) (by omega)]; exact g1 i hi, ⟨by rw [om]; exact h1, by rw [om]; exact h2, fun k i hk hi => by rw [o _ (by omega) (by omega)]; exact h3 k i hk hi⟩, ⟨by rw [om]; exact i1, fun i e he => by rw [o _ (by omega) (by omega)]; exact i2 i e he⟩, ⟨by rw [om]; exact j1, by rw [om]; exact j2, fun i e he => ?_⟩, e⟩
  rw [o (m + 28) (by omega) (by omega), o (m + 29) (by omega) (by omega), o (m + 30) (by omega) (by omega), o (m + 31) (by omega) (by omega), o (m + 32) (by omega) (by omega), o (m + 33) (by omega) (by omega)]
  exact j3 i e he
section
variable {h : MH} {f : Nat → Nat → Int32} {m : Nat} {S : Abs}
theorem m_image (C : MSH h m) (F : MF f m S) (W : WS S) (b : Int32) : ∃ f', ev M_Mo_image 0 0 [some (.ref m), some (.int b), none] [] (wI h f) = some (some (.int (sImg S b)), wI h f') ∧ MF f' m (uImg S b) ∧ Fr m (m + 39) f f' := by
  have mc := C.1
  have ar16 : hR h m 34 = some (m + 16) := (C.2 15 (by decide)).1
  have an16 : hN h (m + 16) = 81 := (C.2 15 (by decide)).2.1
  have ac16 : hC h (m + 16) = 20 := (C.2 15 (by decide)).2.2
  have ar37 : hR h m 62 = some (m + 37) := (C.2 36 (by decide)).1
  have an37 : hN h (m + 37) = 243 := (C.2 36 (by decide)).2.1
  have ac37 : hC h (m + 37) = 20 := (C.2 36 (by decide)).2.2
  have ar38 : hR h m 63 = some (m + 38) := (C.2 37 (by decide)).1
  have an38 : hN h (m + 38) = 3 := (C.2 37 (by decide)).2.1
  have ac38 : hC h (m + 38) = 23 := (C.2 37 (by decide)).2.2
  have rb := mo_in0 (x := b) (n := 2) (wI h f) (by decide)
  rw [show 2 + 1 = 3 from rfl] at rb
  have hN' := F.2.2.2.2.2.1
  have hB := F.2.2.2.2.2.2.2.2.2
  rw [r_Mo_image_0]
  unfold sImg uImg
  cases zb : inN b 3 with
  | none =>
    rw [zb] at rb
    exact ⟨f, wp_e (wp_rIe rb (wp_bt rfl (wp_s ⟨rfl, rfl⟩))), F, Fr.rf⟩
  | some k =>
    rw [zb] at rb
    obtain ⟨eb', k1, -⟩ := inN_s zb
    subst eb'
    dsimp only [on]
    have L : ∀ q i g, i + q = 81 → (∀ x, x ≠ m + 37 → g x = up2 f (m + 38) k (nI 1) x) → (∀ j, j < i → g (m + 37) (81 * k + j) = nI (sv (aS S (aD S)) j)) → (∀ j, j < 81 * k ∨ 81 * k + 81 ≤ j → g (m + 37) j = f (m + 37) j) → ∃ g', ev M_Mo_image 0 15 [some (.ref m), some (.int (nI k)), some (.int (nI i))] [] (wI h g) = some (some (.int (nI (tc (aW S) (vTd (aQ S)) (aG S) (aR S)))), wI h g') ∧ MF g' m (bB (bH S (aD S) (aK S) (aS S)) (fun j => if j = k then some (aS S (aD S)) else aB S j)) ∧ Fr m (m + 39) f g' := by
      intro q
      induction q with
      | zero =>
        intro i g hi o e1 e2
        have : i = 81 := by omega
        subst this
        have og : ∀ x, x ≠ m + 37 → x ≠ m + 38 → g x = f x := fun x h1 h2 => by rw [o x h1, up2_a h2]
        have MG : MF g m (bB S (fun j => if j = k then some (aS S (aD S)) else aB S j)) := F.b og (fun c hc => by
          rw [o (m + 38) (by omega)]
          by_cases z : c = k
          · subst z
            rw [up2_s]
            refine ⟨by rw [if_pos rfl]; rfl, fun s hs i hi => ?_⟩
            rw [if_pos rfl] at hs
            have hs : aS S (aD S) = s := by injection hs
            rw [← hs]; exact e1 i hi
          · rw [up2_k z]
            refine ⟨by rw [if_neg z]; exact (hB c hc).1, fun s hs i hi => ?_⟩
            rw [if_neg z] at hs
            rw [e2 _ (by omega)]
            exact (hB c hc).2 s hs i hi)
        have pa := mo_pairsAll (h := h) (f := g) (n := aW S) C W.2.2.1.1.2.2.2.1 MG.2.2.1.2.1 MG.2.2.1.2.2.1 MG.now (fun k hk => ((W.2.2.2.1.2.2 _ W.2.2.2.1.1).2 k).1 hk)
        have et := tc_G (aQ S) (aX S) (aS S (aD S)).1 (aW S)
        refine ⟨g, wp_e ?_, MG, fun x hx => og x (by omega) (by omega)⟩
        rw [r_Mo_image_15]
        refine wp_bf (by decide) (wp_isC mc (wp_rIe pa (wp_s ⟨?_, rfl⟩)))
        exact congrArg (fun z => some (Value.int (nI z))) et
      | succ q ih =>
        intro i g hi o e1 e2
        obtain ⟨g', i1, i2⟩ := ih (i + 1) (up2 g (m + 37) (81 * k + i) (nI (sv (aS S (aD S)) i))) (by omega) (fun x hx => by rw [up2_a hx]; exact o x hx) (fun j hj => by
          by_cases z : j = i
          · rw [z, up2_s]
          · rw [up2_k (by omega)]; exact e1 j (by omega)) (fun j hj => by rw [up2_k (by omega)]; exact e2 j hj)
        refine ⟨g', wp_e ?_, i2⟩
        rw [r_Mo_image_15]
        refine wp_bt (by rw [nI_ltI (by omega) (by decide)]; omega) (wp_isC mc (wp_nnR ar37 (wp_isC mc (wp_nnR ar16 (wp_isC ac16 (wp_inA an16 rfl (by omega) (by omega) (wp_isC ac37 (wp_inA (n := 81 * k + i) an37 (by rw [pk_mul, nI_add]) (by omega) (by omega) ?_))))))))
        rw [show (nI 81 * nI k + nI i).toNatClampNeg = 81 * k + i by rw [pk_mul, nI_add, nI_clamp (by omega)], nI_clamp (by omega), wI_I, o (m + 16) (by omega), up2_a (by omega), hN' i (by omega), wI_s, nI_add]
        exact wp_of i1 ⟨rfl, rfl⟩
    obtain ⟨g', i1, i2, i3⟩ := L 81 0 (up2 f (m + 38) k (nI 1)) rfl (fun _ _ => rfl) (fun j hj => absurd hj (Nat.not_lt_zero j)) (fun j _ => by rw [up2_a (by omega)])
    refine ⟨g', wp_e (wp_rIe rb (wp_bf n10 (wp_isC mc (wp_nnR ar38 (wp_isC ac38 (wp_inA an38 rfl (by omega) (by omega) ?_)))))), i2, i3⟩
    rw [nI_clamp (by omega), show (nI 1 &&& 1) = nI 1 from rfl, wI_s]
    exact wp_of i1 ⟨rfl, rfl⟩
theorem m_back (C : MSH h m) (F : MF f m S) (W : WS S) (b : Int32) : ∃ f', ev M_Mo_back 0 0 [some (.ref m), some (.int b), none] [] (wI h f) = some (some (.int (sBack S b)), wI h f') ∧ MF f' m (uBack S b) ∧ Fr m (m + 39) f f' := by
  have mc := C.1
  have ar16 : hR h m 34 = some (m + 16) := (C.2 15 (by decide)).1
  have an16 : hN h (m + 16) = 81 := (C.2 15 (by decide)).2.1
  have ac16 : hC h (m + 16) = 20 := (C.2 15 (by decide)).2.2
  have ar37 : hR h m 62 = some (m + 37) := (C.2 36 (by decide)).1
  have an37 : hN h (m + 37) = 243 := (C.2 36 (by decide)).2.1
  have ac37 : hC h (m + 37) = 20 := (C.2 36 (by decide)).2.2
  have ar38 : hR h m 63 = some (m + 38) := (C.2 37 (by decide)).1
  have an38 : hN h (m + 38) = 3 := (C.2 37 (by decide)).2.1
  have ac38 : hC h (m + 38) = 23 := (C.2 37 (by decide)).2.2
  have rb := mo_in0 (x := b) (n := 2) (wI h f) (by decide)
  rw [show 2 + 1 = 3 from rfl] at rb
  have hB := F.2.2.2.2.2.2.2.2.2
  rw [r_Mo_back_0]
  unfold sBack uBack
  cases zb : inN b 3 with
  | none =>
    rw [zb] at rb
    exact ⟨f, wp_e (wp_rIe rb (wp_bt rfl (wp_s ⟨rfl, rfl⟩))), F, Fr.rf⟩
  | some k =>
    rw [zb] at rb
    obtain ⟨eb', k1, -⟩ := inN_s zb
    subst eb'
    dsimp only [on]
    obtain ⟨b1, b2⟩ := hB k k1
    cases zs : aB S k with
    | none =>
      rw [zs] at b1
      refine ⟨f, wp_e (wp_rIe rb (wp_bf n10 (wp_isC mc (wp_nnR ar38 (wp_isC ac38 (wp_inA an38 rfl (by omega) (by omega) ?_)))))), F, Fr.rf⟩
      rw [nI_clamp (by omega), wI_I, b1]
      exact wp_bt rfl (wp_s ⟨rfl, rfl⟩)
    | some s =>
      rw [zs] at b1
      have b2 := b2 s zs
      dsimp only
      have L : ∀ q i g, i + q = 81 → (∀ x, x ≠ m + 16 → g x = f x) → (∀ j, j < i → g (m + 16) j = nI (sv s j)) → ∃ g', ev M_Mo_back 0 15 [some (.ref m), some (.int (nI k)), some (.int (nI i))] [] (wI h g) = some (some (.int (nI (tc (aW S) (vTd (aQ S)) (gA (aQ S) (aX S) s.1) (aR S)))), wI h g') ∧ MF g' m (bH S 0 0 (fun _ => s)) ∧ Fr m (m + 39) f g' := by
        intro q
        induction q with
        | zero =>
          intro i g hi o e1
          have : i = 81 := by omega
          subst this
          have MG : MF (up2 (up2 g m 36 (nI 0)) m 37 (nI 0)) m (bH S 0 0 (fun _ => s)) := F.h (fun x h1 h2 _ => by rw [up2_a h1, up2_a h1]; exact o x h2) (fun x h1 h2 => by rw [up2_k h2, up2_k h1, o m (by omega)]) (fun j hj => by rw [up2_a (by omega), up2_a (by omega)]; exact e1 j hj) (by rw [up2_k (by decide), up2_s]) up2_s (fun j i hj _ => absurd hj (Nat.not_lt_zero j))
          have pa := mo_pairsAll (h := h) (f := up2 (up2 g m 36 (nI 0)) m 37 (nI 0)) (n := aW S) C W.2.2.1.1.2.2.2.1 MG.2.2.1.2.1 MG.2.2.1.2.2.1 MG.now (fun k' hk' => ((W.2.2.2.2.1 k s zs).2 k').1 hk')
          have et := tc_G (aQ S) (aX S) s.1 (aW S)
          refine ⟨_, wp_e ?_, MG, fun x hx => by rw [up2_a (by omega), up2_a (by omega)]; exact o x (by omega)⟩
          rw [r_Mo_back_15]
          refine wp_bf (by decide) (wp_isC mc ?_)
          rw [wI_s]
          refine wp_isC mc ?_
          rw [wI_s]
          refine wp_isC mc (wp_rIe pa (wp_s ⟨?_, rfl⟩))
          exact congrArg (fun z => some (Value.int (nI z))) et
        | succ q ih =>
          intro i g hi o e1
          obtain ⟨g', i1, i2⟩ := ih (i + 1) (up2 g (m + 16) i (nI (sv s i))) (by omega) (fun x hx => by rw [up2_a hx]; exact o x hx) (fun j hj => by
            by_cases z : j = i
            · rw [z, up2_s]
            · rw [up2_k z]; exact e1 j (by omega))
          refine ⟨g', wp_e ?_, i2⟩
          rw [r_Mo_back_15]
          refine wp_bt (by rw [nI_ltI (by omega) (by decide)]; omega) (wp_isC mc (wp_nnR ar16 (wp_isC mc (wp_nnR ar37 (wp_isC ac37 (wp_inA (n := 81 * k + i) an37 (by rw [pk_mul, nI_add]) (by omega) (by omega) (wp_isC ac16 (wp_inA an16 rfl (by omega) (by omega) ?_))))))))
          rw [show (nI 81 * nI k + nI i).toNatClampNeg = 81 * k + i by rw [pk_mul, nI_add, nI_clamp (by omega)], nI_clamp (by omega), wI_I, o (m + 37) (by omega), b2 i (by omega), wI_s, nI_add]
          exact wp_of i1 ⟨rfl, rfl⟩
      obtain ⟨g', i1, i2, i3⟩ := L 81 0 f rfl (fun _ _ => rfl) (fun j hj => absurd hj (Nat.not_lt_zero j))
      refine ⟨g', wp_e (wp_rIe rb (wp_bf n10 (wp_isC mc (wp_nnR ar38 (wp_isC ac38 (wp_inA an38 rfl (by omega) (by omega) ?_)))))), i2, i3⟩
      rw [nI_clamp (by omega), wI_I, b1]
      exact wp_bf n10 (wp_of i1 ⟨rfl, rfl⟩)
/-! the first relation -/
theorem alK_0 {n td N : Nat} {cx : Nat → List Nat} {A : Nat → Rw} (hN : 0 < N) : alK n td cx A N 0 = if td.testBit 0 then A 0 else (xw n (fun _ _ => 0) (cx 0) []).headD (fun _ => 0) := by
  induction N with
  | zero => omega
  | succ N ih =>
    show (if 0 = N then _ else alK n td cx A N 0) = _
    by_cases z : 0 = N
    · subst z; rw [if_pos rfl]; rfl
    · rw [if_neg z]; exact ih (by omega)
theorem aG0_W (W : WS S) (k : Nat) : GW (aW S) (aG0 S) := by
  have P := W.2.2.1
  exact gA_W P (iA_W (s := 0) P.1 P.2.1 (by decide)) 0
theorem mo_first (C : MSH h m) (F : MF f m S) (W : WS S) : ∃ f', ev M_Mo_laysFirst 0 0 [some (.ref m), none] [] (wI h f) = some (none, wI h f') ∧ (0 < aR S → RF f' (m + 34) 0 (aG0 S)) ∧ MX m f f' := by
  have mc := C.1
  have ar3 : hR h m 13 = some (m + 3) := (C.2 2 (by decide)).1
  have an3 : hN h (m + 3) = 2 := (C.2 2 (by decide)).2.1
  have ac3 : hC h (m + 3) = 20 := (C.2 2 (by decide)).2.2
  have ar9 : hR h m 19 = some (m + 9) := (C.2 8 (by decide)).1
  have an9 : hN h (m + 9) = 10 := (C.2 8 (by decide)).2.1
  have ac9 : hC h (m + 9) = 20 := (C.2 8 (by decide)).2.2
  have ar12 : hR h m 22 = some (m + 12) := (C.2 11 (by decide)).1
  have an12 : hN h (m + 12) = 160 := (C.2 11 (by decide)).2.1
  have ac12 : hC h (m + 12) = 20 := (C.2 11 (by decide)).2.2
  have ar18 : hR h m 38 = some (m + 18) := (C.2 17 (by decide)).1
  have an18 : hN h (m + 18) = 80 := (C.2 17 (by decide)).2.1
  have ac18 : hC h (m + 18) = 20 := (C.2 17 (by decide)).2.2
  have ar34 : hR h m 59 = some (m + 34) := (C.2 33 (by decide)).1
  have an34 : hN h (m + 34) = 16 := (C.2 33 (by decide)).2.1
  have ac34 : hC h (m + 34) = 20 := (C.2 33 (by decide)).2.2
  have hr5 : aR S ≤ 5 := W.2.2.1.1.2.2.2.1
  have L0 : ∀ q i g, i + q = 16 → (∀ x, x ≠ m + 34 → g x = f x) → ∃ g', ev M_Mo_laysFirst 0 3 [some (.ref m), some (.int (nI i))] [] (wI h g) = some (none, wI h g') ∧ (0 < aR S → RF g' (m + 34) 0 (aG0 S)) ∧ MX m f g' := by
    intro q
    induction q with
    | zero =>
      intro i g hi o
      have : i = 16 := by omega
      subst this
      have xg : MX m f g := ⟨fun x _ _ h3 => o x (by omega), fun k _ _ => by rw [o m (by omega)]⟩
      have FG := xg.F F
      have g3 : g (m + 3) 0 = nI (aR S) := FG.2.2.1.2.1
      by_cases z : aR S = 0
      · refine ⟨g, wp_e ?_, fun w => by omega, xg⟩
        rw [r_Mo_laysFirst_3]
        refine wp_bf (by decide) (wp_isC mc (wp_nnR ar3 (wp_isC ac3 (wp_inA (n := 0) an3 rfl (by decide) (by decide) ?_))))
        rw [show (nI 0).toNatClampNeg = 0 from rfl, wI_I, g3, z]
        exact wp_bt rfl (wp_s ⟨rfl, rfl⟩)
      · obtain ⟨g1, l1, l2, l3⟩ := mo_L C FG W
        have F1 := l3.F FG
        have t9 : g1 (m + 9) 0 = nI ((vTd (aQ S)).testBit 0).toNat := F1.2.2.1.2.2.1 0 (by show 0 < aR S; omega)
        have R0 := (l2 0 (by omega)).1
        have val : ∀ r, r < 16 → ((vTd (aQ S)).testBit 0 = true → g1 (m + 12) r = nI (aG0 S r)) ∧ ((vTd (aQ S)).testBit 0 = false → g1 (m + 18) r = nI (aG0 S r)) := by
          intro r hr
          have e0 : aG0 S = if (vTd (aQ S)).testBit 0 then iA (aQ S) 0 else (xw (2 ^ vLv (aQ S)) (fun _ _ => 0) (aX S 0) []).headD (fun _ => 0) := alK_0 (show 0 < vNr (aQ S) from Nat.pos_of_ne_zero z)
          have e1 : aG S 0 = if (vTd (aQ S)).testBit 0 then (aS S (aD S)).1 0 else (xw (2 ^ vLv (aQ S)) (fun _ _ => 0) (aX S 0) []).headD (fun _ => 0) := alK_0 (show 0 < vNr (aQ S) from Nat.pos_of_ne_zero z)
          constructor
          · intro ht
            have := F1.2.2.2.2.1 0 (by show 0 < aR S; omega) ht r hr
            rw [Nat.mul_zero, Nat.zero_add] at this
            rw [this, e0, if_pos ht]
            unfold iA
            rw [if_pos ht]
          · intro ht
            have := R0 r hr
            rw [Nat.mul_zero, Nat.zero_add] at this
            rw [this, e1, e0, ht, if_neg (by decide), if_neg (by decide)]
        have L1 : ∀ q i g', i + q = 16 → (∀ x, x ≠ m + 34 → g' x = g1 x) → (∀ r, r < i → g' (m + 34) r = nI (aG0 S r)) → ∃ f', ev M_Mo_laysFirst 0 24 [some (.ref m), some (.int (nI i))] [] (wI h g') = some (none, wI h f') ∧ RF f' (m + 34) 0 (aG0 S) ∧ ∀ x, x ≠ m + 34 → f' x = g1 x := by
          intro q
          induction q with
          | zero =>
            intro i g' hi o' e'
            have : i = 16 := by omega
            subst this
            refine ⟨g', ?_, fun r hr => by rw [Nat.zero_add]; exact e' r hr, o'⟩
            rw [r_Mo_laysFirst_24]
            exact wp_e (wp_bf (by decide) (wp_s ⟨rfl, rfl⟩))
          | succ q ih =>
            intro i g' hi o' e'
            obtain ⟨f', i1, i2⟩ := ih (i + 1) (up2 g' (m + 34) i (nI (aG0 S i))) (by omega) (fun x hx => by rw [up2_a hx]; exact o' x hx) (fun r hr => by
              by_cases w : r = i
              · rw [w, up2_s]
              · rw [up2_k w]; exact e' r (by omega))
            refine ⟨f', wp_e ?_, i2⟩
            have fin : wp (ev M_Mo_laysFirst 0 46 [some (.ref m), some (.int (nI i))] [(.int (nI (aG0 S i))), (.int (nI i)), (.ref (m + 34))] (wI h g')) (fun a b => a = none ∧ b = wI h f') := by
              rw [r_Mo_laysFirst_46]
              refine wp_isC ac34 (wp_inA an34 rfl (by omega) (by omega) ?_)
              rw [nI_clamp (by omega), wI_s, nI_add]
              exact wp_of i1 ⟨rfl, rfl⟩
            obtain ⟨v1, v2⟩ := val i (by omega)
            rw [r_Mo_laysFirst_24]
            refine wp_bt (by rw [nI_ltI (by omega) (by decide)]; omega) (wp_isC mc (wp_nnR ar34 (wp_isC mc (wp_nnR ar9 (wp_isC ac9 (wp_inA (n := 0) an9 rfl (by decide) (by decide) ?_))))))
            rw [show (nI 0).toNatClampNeg = 0 from rfl, wI_I, o' (m + 9) (by omega), t9]
            cases ht : (vTd (aQ S)).testBit 0 with
            | true =>
              refine wp_bt rfl (wp_isC mc (wp_nnR ar12 (wp_isC ac12 (wp_inA an12 rfl (by omega) (by omega) ?_))))
              rw [nI_clamp (by omega), o' (m + 12) (by omega), v1 ht]
              exact fin
            | false =>
              refine wp_bf (Ne.symm n10) (wp_isC mc (wp_nnR ar18 (wp_isC ac18 (wp_inA an18 rfl (by omega) (by omega) ?_))))
              rw [nI_clamp (by omega), o' (m + 18) (by omega), v2 ht]
              exact fin
        obtain ⟨f', i1, i2, i3⟩ := L1 16 0 g1 rfl (fun _ _ => rfl) (fun r hr => absurd hr (Nat.not_lt_zero r))
        refine ⟨f', wp_e ?_, fun _ => i2, xg.tr (l3.tr ⟨fun x _ _ h3 => i3 x (by omega), fun k _ _ => by rw [i3 m (by omega)]⟩)⟩
        rw [r_Mo_laysFirst_3]
        refine wp_bf (by decide) (wp_isC mc (wp_nnR ar3 (wp_isC ac3 (wp_inA (n := 0) an3 rfl (by decide) (by decide) ?_))))
        rw [show (nI 0).toNatClampNeg = 0 from rfl, wI_I, g3]
        exact wp_bf (by rw [nI_eq (by omega) (by decide)]; exact z) (wp_isC mc (wp_rVe l1 (wp_of i1 ⟨rfl, rfl⟩)))
    | succ q ih =>
      intro i g hi o
      obtain ⟨g', i1, i2⟩ := ih (i + 1) (up2 g (m + 34) i (nI 0)) (by omega) (fun x hx => by rw [up2_a hx]; exact o x hx)
      refine ⟨g', wp_e ?_, i2⟩
      rw [r_Mo_laysFirst_3]
      refine wp_bt (by rw [nI_ltI (by omega) (by decide)]; omega) (wp_isC mc (wp_nnR ar34 (wp_isC ac34 (wp_inA an34 rfl (by omega) (by omega) ?_))))
      rw [nI_clamp (by omega), wI_s, nI_add]
      exact wp_of i1 ⟨rfl, rfl⟩
  rw [r_Mo_laysFirst_0]
  exact L0 16 0 f rfl (fun _ _ => rfl)
end
