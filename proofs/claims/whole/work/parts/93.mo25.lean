/-! The plain form: acts kept, undone, done again. -/
theorem MF.h {m d k : Nat} {f f' : Nat → Nat → Int32} {S : Abs} {st : Nat → Sd} (F : MF f m S) (o : ∀ b, b ≠ m → b ≠ m + 16 → b ≠ m + 17 → f' b = f b) (s : ∀ k, k ≠ 36 → k ≠ 37 → f' m k = f m k) (e1 : ∀ i, i < 81 → f' (m + 16) i = nI (sv (st d) i)) (e2 : f' m 36 = nI d) (e3 : f' m 37 = nI (k - d)) (e4 : ∀ j i, j < k → i < 81 → f' (m + 17) (81 * j + i) = nI (sv (st (if j < d then j else j + 1)) i)) : MF f' m (bH S d k st) := by
  obtain ⟨⟨a1, a2⟩, ⟨b1, b2⟩, c1, ⟨d1, d2, d3, d4⟩, e1', -, -, ⟨i1, i2⟩, ⟨j1, j2, j3⟩, k1⟩ := F
  refine ⟨⟨by rw [s _ (by decide) (by decide)]; exact a1, fun i hi => by rw [o _ (by omega) (by omega) (by omega)]; exact a2 i hi⟩, ⟨by rw [s _ (by decide) (by decide)]; exact b1, by rw [s _ (by decide) (by decide)]; exact b2⟩, c1.o (fun b hb => o b (by omega) (by omega) (by omega)), ⟨by rw [o _ (by omega) (by omega) (by omega)]; exact d1, by rw [o _ (by omega) (by omega) (by omega)]; exact d2, by rw [o _ (by omega) (by omega) (by omega)]; exact d3, fun i k hk => by rw [o _ (by omega) (by omega) (by omega)]; exact d4 i k hk⟩, fun k hk hz r hr => by rw [o _ (by omega) (by omega) (by omega)]; exact e1' k hk hz r hr, e1, ⟨e2, e3, e4⟩, ⟨by rw [s _ (by decide) (by decide)]; exact i1, fun i e he => by rw [o _ (by omega) (by omega) (by omega)]; exact i2 i e he⟩, ⟨by rw [s _ (by decide) (by decide)]; exact j1, by rw [s _ (by decide) (by decide)]; exact j2, fun i e he => ?_⟩, fun b hb => ⟨by rw [o _ (by omega) (by omega) (by omega)]; exact (k1 b hb).1, fun t ht i hi => by rw [o _ (by omega) (by omega) (by omega)]; exact (k1 b hb).2 t ht i hi⟩⟩
  rw [o (m + 28) (by omega) (by omega) (by omega), o (m + 29) (by omega) (by omega) (by omega), o (m + 30) (by omega) (by omega) (by omega), o (m + 31) (by omega) (by omega) (by omega), o (m + 32) (by omega) (by omega) (by omega), o (m + 33) (by omega) (by omega) (by omega)]
  exact j3 i e he
section
variable {h : MH} {f : Nat → Nat → Int32} {m : Nat} {S : Abs}
/-- what is dropped when forty acts are kept -/
def cD (S : Abs) : Nat := if aD S = 40 then 1 else 0
def HX (m : Nat) (f f' : Nat → Nat → Int32) : Prop := (∀ b, b ≠ m → b ≠ m + 17 → f' b = f b) ∧ ∀ k, k ≠ 36 → k ≠ 37 → f' m k = f m k
theorem HX.tr {m : Nat} {f g k : Nat → Nat → Int32} (x : HX m f g) (y : HX m g k) : HX m f k := ⟨fun b h1 h2 => (y.1 b h1 h2).trans (x.1 b h1 h2), fun j h1 h2 => (y.2 j h1 h2).trans (x.2 j h1 h2)⟩
theorem HX.rf {m : Nat} {f : Nat → Nat → Int32} : HX m f f := ⟨fun _ _ _ => rfl, fun _ _ _ => rfl⟩
theorem HX.u {m k : Nat} {f : Nat → Nat → Int32} {v : Int32} : HX m f (up2 f (m + 17) k v) := ⟨fun b _ h2 => up2_a h2, fun k _ _ => by rw [up2_a (by omega)]⟩
theorem mo_keep2 {D : Nat} {A : Nat → Nat} (C : MSH h m) (hD : D < 40) (e36 : f m 36 = nI D) (eN : ∀ i, i < 81 → f (m + 16) i = nI (A i)) : ∃ f', ev M_Mo_keeps 0 29 [some (.ref m), none] [] (wI h f) = some (none, wI h f') ∧ f' m 36 = nI (D + 1) ∧ f' m 37 = nI 0 ∧ (∀ i, i < 81 → f' (m + 17) (81 * D + i) = nI (A i)) ∧ (∀ i, i < 81 * D → f' (m + 17) i = f (m + 17) i) ∧ HX m f f' := by
  have mc := C.1
  have ar16 : hR h m 34 = some (m + 16) := (C.2 15 (by decide)).1
  have an16 : hN h (m + 16) = 81 := (C.2 15 (by decide)).2.1
  have ac16 : hC h (m + 16) = 20 := (C.2 15 (by decide)).2.2
  have ar17 : hR h m 35 = some (m + 17) := (C.2 16 (by decide)).1
  have an17 : hN h (m + 17) = 3240 := (C.2 16 (by decide)).2.1
  have ac17 : hC h (m + 17) = 20 := (C.2 16 (by decide)).2.2
  have L : ∀ q i f1, i + q = 81 → (∀ j, j < i → f1 (m + 17) (81 * D + j) = nI (A j)) → (∀ j, j < 81 * D → f1 (m + 17) j = f (m + 17) j) → (∀ b, b ≠ m + 17 → f1 b = f b) → ∃ f', ev M_Mo_keeps 0 32 [some (.ref m), some (.int (nI i))] [] (wI h f1) = some (none, wI h f') ∧ f' m 36 = nI (D + 1) ∧ f' m 37 = nI 0 ∧ (∀ i, i < 81 → f' (m + 17) (81 * D + i) = nI (A i)) ∧ (∀ i, i < 81 * D → f' (m + 17) i = f (m + 17) i) ∧ HX m f f' := by
    intro q
    induction q with
    | zero =>
      intro i f1 hi e1 e2 o
      have : i = 81 := by omega
      subst this
      refine ⟨up2 (up2 f1 m 36 (nI (D + 1))) m 37 (nI 0), wp_e ?_, by rw [up2_k (by decide), up2_s], up2_s, fun i hi => by rw [up2_a (by omega), up2_a (by omega)]; exact e1 i hi, fun i hi => by rw [up2_a (by omega), up2_a (by omega)]; exact e2 i hi, ⟨fun b h1 h2 => by rw [up2_a h1, up2_a h1]; exact o b h2, fun k h1 h2 => by rw [up2_k h2, up2_k h1, o m (by omega)]⟩⟩
      rw [r_Mo_keeps_32]
      refine wp_bf (by decide) (wp_isC mc (wp_isC mc ?_))
      rw [wI_I, o m (by omega), e36, nI_add, wI_s]
      refine wp_isC mc ?_
      rw [wI_s]
      exact wp_s ⟨rfl, rfl⟩
    | succ q ih =>
      intro i f1 hi e1 e2 o
      obtain ⟨f', i1, i2⟩ := ih (i + 1) (up2 f1 (m + 17) (81 * D + i) (nI (A i))) (by omega) (fun j hj => by
        by_cases z : j = i
        · rw [z, up2_s]
        · rw [up2_k (by omega)]; exact e1 j (by omega)) (fun j hj => by rw [up2_k (by omega)]; exact e2 j hj) (fun b hb => by rw [up2_a hb]; exact o b hb)
      refine ⟨f', wp_e ?_, i2⟩
      rw [r_Mo_keeps_32]
      refine wp_bt (by rw [nI_ltI (by omega) (by decide)]; omega) (wp_isC mc (wp_nnR ar17 (wp_isC mc (wp_isC mc (wp_nnR ar16 (wp_isC ac16 (wp_inA an16 rfl (by omega) (by omega) (wp_isC ac17 ?_))))))))
      rw [wI_I, o m (by omega), e36, pk_mul, nI_add]
      refine wp_inA an17 rfl (by omega) (by omega) ?_
      rw [nI_clamp (by omega), nI_clamp (by omega), o (m + 16) (by omega), eN i (by omega), wI_s, nI_add]
      exact wp_of i1 ⟨rfl, rfl⟩
  rw [r_Mo_keeps_29]
  exact L 81 0 f rfl (fun j hj => absurd hj (Nat.not_lt_zero j)) (fun _ _ => rfl) (fun _ _ => rfl)
theorem mo_keeps (C : MSH h m) (F : MF f m S) (W : WS S) : ∃ f', ev M_Mo_keeps 0 0 [some (.ref m), none] [] (wI h f) = some (none, wI h f') ∧ f' m 36 = nI (aD S - cD S + 1) ∧ f' m 37 = nI 0 ∧ (∀ k i, k < aD S - cD S + 1 → i < 81 → f' (m + 17) (81 * k + i) = nI (sv (aS S (k + cD S)) i)) ∧ HX m f f' := by
  have mc := C.1
  have ar17 : hR h m 35 = some (m + 17) := (C.2 16 (by decide)).1
  have an17 : hN h (m + 17) = 3240 := (C.2 16 (by decide)).2.1
  have ac17 : hC h (m + 17) = 20 := (C.2 16 (by decide)).2.2
  obtain ⟨h1, h2, h3⟩ := F.2.2.2.2.2.2.1
  have hN := F.2.2.2.2.2.1
  have hd := W.2.2.2.1.1
  have hk := W.2.2.2.1.2.1
  rw [r_Mo_keeps_0]
  by_cases z : aD S = 40
  · have ec : cD S = 1 := if_pos z
    -- the rows are moved
    have L : ∀ q i f1, i + q = 3159 → (∀ j, j < i → f1 (m + 17) j = f (m + 17) (j + 81)) → (∀ j, i ≤ j → f1 (m + 17) j = f (m + 17) j) → (∀ b, b ≠ m + 17 → f1 b = f b) → ∃ f', ev M_Mo_keeps 0 7 [some (.ref m), some (.int (nI (81 + i)))] [] (wI h f1) = some (none, wI h f') ∧ f' m 36 = nI (aD S - cD S + 1) ∧ f' m 37 = nI 0 ∧ (∀ k i, k < aD S - cD S + 1 → i < 81 → f' (m + 17) (81 * k + i) = nI (sv (aS S (k + cD S)) i)) ∧ HX m f f' := by
      intro q
      induction q with
      | zero =>
        intro i f1 hi e1 e2 o
        have : i = 3159 := by omega
        subst this
        obtain ⟨f', k1, k2, k3, k4, k5, k6⟩ := mo_keep2 (f := up2 f1 m 36 (nI 39)) (D := 39) (A := sv (aS S (aD S))) C (by decide) up2_s (fun i hi => by rw [up2_a (by omega), o _ (by omega)]; exact hN i hi)
        refine ⟨f', wp_e ?_, by rw [k2, ec, z], k3, fun k i hk hi => ?_, (show HX m f (up2 f1 m 36 (nI 39)) from ⟨fun b h1 h2 => by rw [up2_a h1]; exact o b h2, fun k h1 _ => by rw [up2_k h1, o m (by omega)]⟩).tr k6⟩
        · rw [r_Mo_keeps_7]
          refine wp_bf (by rw [nI_ltI (by omega) (by decide)]; omega) (wp_isC mc (wp_isC mc ?_))
          rw [wI_I, o m (by omega), h1, z, nm_m1 (by decide), wI_s]
          exact wp_of k1 ⟨rfl, rfl⟩
        · rw [ec, z] at hk
          rw [ec]
          by_cases w : k = 39
          · subst w
            rw [k4 i hi, z]
          · rw [k5 (81 * k + i) (by omega), up2_a (by omega), e1 _ (by omega), show 81 * k + i + 81 = 81 * (k + 1) + i by omega, h3 (k + 1) i (by omega) hi, if_pos (by omega)]
      | succ q ih =>
        intro i f1 hi e1 e2 o
        obtain ⟨f', i1, i2⟩ := ih (i + 1) (up2 f1 (m + 17) i (f (m + 17) (i + 81))) (by omega) (fun j hj => by
          by_cases w : j = i
          · rw [w, up2_s]
          · rw [up2_k w]; exact e1 j (by omega)) (fun j hj => by rw [up2_k (by omega)]; exact e2 j (by omega)) (fun b hb => by rw [up2_a hb]; exact o b hb)
        refine ⟨f', wp_e ?_, i2⟩
        rw [r_Mo_keeps_7]
        refine wp_bt (by rw [nI_ltI (by omega) (by decide)]; omega) (wp_isC mc (wp_nnR ar17 (wp_isC mc (wp_nnR ar17 (wp_isC ac17 (wp_inA an17 rfl (by omega) (by omega) (wp_isC ac17 ?_)))))))
        rw [pk_sub (by omega), show 81 + i - 81 = i by omega]
        refine wp_inA an17 rfl (by omega) (by omega) ?_
        rw [nI_clamp (by omega), nI_clamp (by omega), wI_I, e2 (81 + i) (by omega), Nat.add_comm 81 i, wI_s, nI_add, show i + 81 + 1 = 81 + (i + 1) by omega]
        exact wp_of i1 ⟨rfl, rfl⟩
    obtain ⟨f', i1, i2⟩ := L 3159 0 f rfl (fun j hj => absurd hj (Nat.not_lt_zero j)) (fun _ _ => rfl) (fun _ _ => rfl)
    refine ⟨f', wp_e (wp_isC mc ?_), i2⟩
    rw [wI_I, h1, z]
    exact wp_bt rfl (wp_of i1 ⟨rfl, rfl⟩)
  · have ec : cD S = 0 := if_neg z
    obtain ⟨f', k1, k2, k3, k4, k5, k6⟩ := mo_keep2 (f := f) (D := aD S) (A := sv (aS S (aD S))) C (by omega) h1 hN
    refine ⟨f', wp_e (wp_isC mc ?_), by rw [k2, ec]; rfl, k3, fun k i hk hi => ?_, k6⟩
    · rw [wI_I, h1]
      exact wp_bf (by rw [nI_eq (by omega) (by decide)]; exact z) (wp_of k1 ⟨rfl, rfl⟩)
    · rw [ec] at hk ⊢
      by_cases w : k = aD S
      · subst w; rw [k4 i hi]; rfl
      · rw [k5 _ (by omega), h3 k i (by omega) hi, if_pos (by omega)]; rfl
/-- an act: kept, then the state at hand changed -/
theorem MF.push {f f1 f' : Nat → Nat → Int32} {s : Sd} (F : MF f m S) (e1 : f1 m 36 = nI (aD S - cD S + 1)) (e2 : f1 m 37 = nI 0) (e3 : ∀ k i, k < aD S - cD S + 1 → i < 81 → f1 (m + 17) (81 * k + i) = nI (sv (aS S (k + cD S)) i)) (x : HX m f f1) (o : ∀ b, b ≠ m + 16 → f' b = f1 b) (n : ∀ i, i < 81 → f' (m + 16) i = nI (sv s i)) : MF f' m (push S s) := by
  show MF f' m (bH S (aD S - cD S + 1) (aD S - cD S + 1) (fun k => if k = aD S - cD S + 1 then s else aS S (k + cD S)))
  refine F.h (fun b h1 h2 h3 => by rw [o b h2]; exact x.1 b h1 h3) (fun k h1 h2 => by rw [o m (by omega)]; exact x.2 k h1 h2) (fun i hi => ?_) (by rw [o m (by omega)]; exact e1) (by rw [o m (by omega), Nat.sub_self]; exact e2) (fun j i hj hi => ?_)
  · rw [if_pos rfl]
    exact n i hi
  · rw [if_pos hj, o (m + 17) (by omega), if_neg (by omega)]
    exact e3 j i hj hi
theorem mo_exch {d : Nat} {A B : Nat → Nat} (C : MSH h m) (hd : d < 40) (eN : ∀ i, i < 81 → f (m + 16) i = nI (A i)) (eP : ∀ i, i < 81 → f (m + 17) (81 * d + i) = nI (B i)) : ∃ f', ev M_Mo_exchanges 0 0 [some (.ref m), some (.int (nI d)), none, none] [] (wI h f) = some (none, wI h f') ∧ (∀ i, i < 81 → f' (m + 16) i = nI (B i)) ∧ (∀ i, i < 81 → f' (m + 17) (81 * d + i) = nI (A i)) ∧ (∀ b, b ≠ m + 16 → b ≠ m + 17 → f' b = f b) ∧ ∀ j, j < 81 * d ∨ 81 * d + 81 ≤ j → f' (m + 17) j = f (m + 17) j := by
  have mc := C.1
  have ar16 : hR h m 34 = some (m + 16) := (C.2 15 (by decide)).1
  have an16 : hN h (m + 16) = 81 := (C.2 15 (by decide)).2.1
  have ac16 : hC h (m + 16) = 20 := (C.2 15 (by decide)).2.2
  have ar17 : hR h m 35 = some (m + 17) := (C.2 16 (by decide)).1
  have an17 : hN h (m + 17) = 3240 := (C.2 16 (by decide)).2.1
  have ac17 : hC h (m + 17) = 20 := (C.2 16 (by decide)).2.2
  have L : ∀ q i f1, i + q = 81 → (∀ j, j < i → f1 (m + 16) j = nI (B j) ∧ f1 (m + 17) (81 * d + j) = nI (A j)) → (∀ j, i ≤ j → j < 81 → f1 (m + 16) j = nI (A j) ∧ f1 (m + 17) (81 * d + j) = nI (B j)) → (∀ b, b ≠ m + 16 → b ≠ m + 17 → f1 b = f b) → (∀ j, j < 81 * d ∨ 81 * d + 81 ≤ j → f1 (m + 17) j = f (m + 17) j) → ∃ f', ev M_Mo_exchanges 0 3 [some (.ref m), some (.int (nI d)), some (.int (nI i)), none] [] (wI h f1) = some (none, wI h f') ∧ (∀ i, i < 81 → f' (m + 16) i = nI (B i)) ∧ (∀ i, i < 81 → f' (m + 17) (81 * d + i) = nI (A i)) ∧ (∀ b, b ≠ m + 16 → b ≠ m + 17 → f' b = f b) ∧ ∀ j, j < 81 * d ∨ 81 * d + 81 ≤ j → f' (m + 17) j = f (m + 17) j := by
    intro q
    induction q with
    | zero =>
      intro i f1 hi e1 e2 o p
      have : i = 81 := by omega
      subst this
      refine ⟨f1, ?_, fun i hi => (e1 i hi).1, fun i hi => (e1 i hi).2, o, p⟩
      rw [r_Mo_exchanges_3]
      exact wp_e (wp_bf (by decide) (wp_s ⟨rfl, rfl⟩))
    | succ q ih =>
      intro i f1 hi e1 e2 o p
      obtain ⟨f', i1, i2⟩ := ih (i + 1) (up2 (up2 f1 (m + 17) (81 * d + i) (nI (A i))) (m + 16) i (nI (B i))) (by omega) (fun j hj => by
        by_cases w : j = i
        · subst w
          exact ⟨up2_s, by rw [up2_a (by omega), up2_s]⟩
        · rw [up2_k w, up2_a (by omega), up2_a (by omega), up2_k (by omega)]; exact e1 j (by omega)) (fun j h1 h2 => by
        rw [up2_k (by omega), up2_a (by omega), up2_a (by omega), up2_k (by omega)]; exact e2 j (by omega) h2) (fun b h1 h2 => by rw [up2_a h1, up2_a h2]; exact o b h1 h2) (fun j hj => by rw [up2_a (by omega), up2_k (by omega)]; exact p j hj)
      refine ⟨f', wp_e ?_, i2⟩
      obtain ⟨x1, x2⟩ := e2 i (Nat.le_refl _) (by omega)
      have ei : (nI 81 * nI d + nI i).toNatClampNeg = 81 * d + i := by rw [pk_mul, nI_add, nI_clamp (by omega)]
      rw [r_Mo_exchanges_3]
      refine wp_bt (by rw [nI_ltI (by omega) (by decide)]; omega) (wp_isC mc (wp_nnR ar17 (wp_isC ac17 (wp_inA (n := 81 * d + i) an17 (by rw [pk_mul, nI_add]) (by omega) (by omega) (wp_isC mc (wp_nnR ar17 (wp_isC mc (wp_nnR ar16 (wp_isC ac16 (wp_inA an16 rfl (by omega) (by omega) (wp_isC ac17 (wp_inA (n := 81 * d + i) an17 (by rw [pk_mul, nI_add]) (by omega) (by omega) ?_))))))))))))
      rw [ei, nI_clamp (by omega), wI_I, x1, x2, wI_s]
      refine wp_isC mc (wp_nnR ar16 (wp_isC ac16 (wp_inA an16 rfl (by omega) (by omega) ?_)))
      rw [wI_s, nI_add]
      exact wp_of i1 ⟨rfl, rfl⟩
  rw [r_Mo_exchanges_0]
  exact L 81 0 f rfl (fun j hj => absurd hj (Nat.not_lt_zero j)) (fun j _ hj => ⟨eN j hj, eP j hj⟩) (fun _ _ _ => rfl) (fun _ _ => rfl)
theorem m_undo (C : MSH h m) (F : MF f m S) (W : WS S) : ∃ f', ev M_Mo_undo 0 0 [some (.ref m)] [] (wI h f) = some (some (.int (nI (decide (aD S ≠ 0)).toNat)), wI h f') ∧ MF f' m (uUndo S) ∧ Fr m (m + 39) f f' := by
  have mc := C.1
  obtain ⟨h1, h2, h3⟩ := F.2.2.2.2.2.2.1
  have hN := F.2.2.2.2.2.1
  have hd := W.2.2.2.1.1
  have hk := W.2.2.2.1.2.1
  rw [r_Mo_undo_0]
  unfold uUndo
  by_cases z : aD S = 0
  · rw [if_pos z, decide_eq_false (fun w => w z)]
    refine ⟨f, wp_e (wp_isC mc ?_), F, Fr.rf⟩
    rw [wI_I, h1, z]
    exact wp_bt rfl (wp_isZ (by decide) (wp_s ⟨rfl, rfl⟩))
  · rw [if_neg z, decide_eq_true z]
    have g16 : (up2 (up2 f m 36 (nI (aD S - 1))) m 37 (nI (aK S - aD S + 1))) (m + 16) = f (m + 16) := by rw [up2_a (by omega), up2_a (by omega)]
    have g17 : (up2 (up2 f m 36 (nI (aD S - 1))) m 37 (nI (aK S - aD S + 1))) (m + 17) = f (m + 17) := by rw [up2_a (by omega), up2_a (by omega)]
    obtain ⟨f', x1, x2, x3, x4, x5⟩ := mo_exch (h := h) (f := up2 (up2 f m 36 (nI (aD S - 1))) m 37 (nI (aK S - aD S + 1))) (d := aD S - 1) (A := sv (aS S (aD S))) (B := sv (aS S (aD S - 1))) C (by omega) (fun i hi => by rw [g16]; exact hN i hi) (fun i hi => by rw [g17, h3 (aD S - 1) i (by omega) hi, if_pos (by omega)])
    refine ⟨f', wp_e (wp_isC mc ?_), ?_, fun b hb => by rw [x4 b (by omega) (by omega), up2_a (by omega), up2_a (by omega)]⟩
    · rw [wI_I, h1]
      refine wp_bf (by rw [nI_eq (by omega) (by decide)]; exact z) (wp_isC mc (wp_isC mc ?_))
      rw [nm_m1 (by omega), wI_s]
      refine wp_isC mc (wp_isC mc ?_)
      rw [wI_I, up2_k (by decide), h2, nI_add, wI_s]
      refine wp_isC mc (wp_isC mc ?_)
      rw [wI_I, up2_k (by decide), up2_s]
      exact wp_rVe x1 (wp_isZ (by decide) (wp_s ⟨rfl, rfl⟩))
    · show MF f' m (bH S (aD S - 1) (aK S) (aS S))
      refine F.h (fun b b1 b2 b3 => by rw [x4 b b2 b3, up2_a b1, up2_a b1]) (fun k b1 b2 => by rw [x4 m (by omega) (by omega), up2_k b2, up2_k b1]) x2 (by rw [x4 m (by omega) (by omega), up2_k (by decide), up2_s]) (by rw [x4 m (by omega) (by omega), up2_s]; congr 1; omega) (fun j i hj hi => ?_)
      by_cases w : j = aD S - 1
      · rw [if_neg (by omega), w, x3 i hi, show aD S - 1 + 1 = aD S by omega]
      · rw [x5 (81 * j + i) (by omega), g17, h3 j i hj hi]
        by_cases y : j < aD S - 1
        · rw [if_pos y, if_pos (by omega)]
        · rw [if_neg y, if_neg (by omega)]
theorem m_redo (C : MSH h m) (F : MF f m S) (W : WS S) : ∃ f', ev M_Mo_redo 0 0 [some (.ref m)] [] (wI h f) = some (some (.int (nI (decide (aD S ≠ aK S)).toNat)), wI h f') ∧ MF f' m (uRedo S) ∧ Fr m (m + 39) f f' := by
  have mc := C.1
  obtain ⟨h1, h2, h3⟩ := F.2.2.2.2.2.2.1
  have hN := F.2.2.2.2.2.1
  have hd := W.2.2.2.1.1
  have hk := W.2.2.2.1.2.1
  rw [r_Mo_redo_0]
  unfold uRedo
  by_cases z : aD S = aK S
  · rw [if_pos z, decide_eq_false (fun w => w z)]
    refine ⟨f, wp_e (wp_isC mc ?_), F, Fr.rf⟩
    rw [wI_I, h2, z, Nat.sub_self]
    exact wp_bt rfl (wp_isZ (by decide) (wp_s ⟨rfl, rfl⟩))
  · rw [if_neg z, decide_eq_true z]
    have g16 : (up2 f m 37 (nI (aK S - aD S - 1))) (m + 16) = f (m + 16) := by rw [up2_a (by omega)]
    have g17 : (up2 f m 37 (nI (aK S - aD S - 1))) (m + 17) = f (m + 17) := by rw [up2_a (by omega)]
    obtain ⟨f', x1, x2, x3, x4, x5⟩ := mo_exch (h := h) (f := up2 f m 37 (nI (aK S - aD S - 1))) (d := aD S) (A := sv (aS S (aD S))) (B := sv (aS S (aD S + 1))) C (by omega) (fun i hi => by rw [g16]; exact hN i hi) (fun i hi => by rw [g17, h3 (aD S) i (by omega) hi, if_neg (by omega)])
    have e36 : f' m 36 = nI (aD S) := by rw [x4 m (by omega) (by omega), up2_k (by decide)]; exact h1
    refine ⟨up2 f' m 36 (nI (aD S + 1)), wp_e (wp_isC mc ?_), ?_, fun b hb => by rw [up2_a (by omega), x4 b (by omega) (by omega), up2_a (by omega)]⟩
    · rw [wI_I, h2]
      refine wp_bf (by rw [nI_eq (by omega) (by decide)]; omega) (wp_isC mc (wp_isC mc ?_))
      rw [nm_m1 (by omega), wI_s]
      refine wp_isC mc (wp_isC mc ?_)
      rw [wI_I, up2_k (by decide), h1]
      refine wp_rVe x1 (wp_isC mc (wp_isC mc ?_))
      rw [wI_I, e36, nI_add, wI_s]
      exact wp_isZ (by decide) (wp_s ⟨rfl, rfl⟩)
    · show MF _ m (bH S (aD S + 1) (aK S) (aS S))
      refine F.h (fun b b1 b2 b3 => by rw [up2_a b1, x4 b b2 b3, up2_a b1]) (fun k b1 b2 => by rw [up2_k b1, x4 m (by omega) (by omega), up2_k b2]) (fun i hi => by rw [up2_a (by omega)]; exact x2 i hi) up2_s (by rw [up2_k (by decide), x4 m (by omega) (by omega), up2_s]; exact congrArg nI (by omega)) (fun j i hj hi => ?_)
      rw [up2_a (by omega)]
      by_cases w : j = aD S
      · rw [if_pos (by omega), w, x3 i hi]
      · rw [x5 (81 * j + i) (by omega), g17, h3 j i hj hi]
        by_cases y : j < aD S
        · rw [if_pos y, if_pos (by omega)]
        · rw [if_neg y, if_neg (by omega)]
end
