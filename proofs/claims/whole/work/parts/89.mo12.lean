/-! The plain form: what is seen, the time. -/
def SE (f : Nat → Nat → Int32) (m : Nat) (l : List Sn) : Prop := ∀ i e, l[i]? = some e → f (m + 28) i = nI e.1 ∧ f (m + 29) i = nI e.2.1 ∧ f (m + 30) i = nI e.2.2.1 ∧ f (m + 31) i = nI e.2.2.2.1.toNat ∧ f (m + 32) i = nI e.2.2.2.2.1 ∧ f (m + 33) i = oI e.2.2.2.2.2
theorem MF.e {m : Nat} {f f' : Nat → Nat → Int32} {S : Abs} {l : List Sn} {t : Nat} (F : MF f m S) (o : ∀ b, b ≠ m → b < m + 28 ∨ m + 33 < b → f' b = f b) (s : ∀ k, k ≠ 57 → k ≠ 58 → f' m k = f m k) (e1 : f' m 57 = nI l.length) (e2 : f' m 58 = nI t) (e3 : SE f' m l) : MF f' m (bM (bE S l) t) := by
  obtain ⟨⟨a1, a2⟩, ⟨b1, b2⟩, c1, ⟨d1, d2, d3, d4⟩, e1', g1, ⟨h1, h2, h3⟩, ⟨i1, i2⟩, -, k1⟩ := F
  exact ⟨⟨by rw [s _ (by decide) (by decide)]; exact a1, fun i hi => by rw [o _ (by omega) (by omega)]; exact a2 i hi⟩, ⟨by rw [s _ (by decide) (by decide)]; exact b1, by rw [s _ (by decide) (by decide)]; exact b2⟩, c1.o (fun b hb => o b (by omega) (by omega)), ⟨by rw [o _ (by omega) (by omega)]; exact d1, by rw [o _ (by omega) (by omega)]; exact d2, by rw [o _ (by omega) (by omega)]; exact d3, fun i k hk => by rw [o _ (by omega) (by omega)]; exact d4 i k hk⟩, fun k hk hz r hr => by rw [o _ (by omega) (by omega)]; exact e1' k hk hz r hr, fun i hi => by rw [o _ (by omega) (by omega)]; exact g1 i hi, ⟨by rw [s _ (by decide) (by decide)]; exact h1, by rw [s _ (by decide) (by decide)]; exact h2, fun k i hk hi => by rw [o _ (by omega) (by omega)]; exact h3 k i hk hi⟩, ⟨by rw [s _ (by decide) (by decide)]; exact i1, fun i e he => by rw [o _ (by omega) (by omega)]; exact i2 i e he⟩, ⟨e1, e2, e3⟩, fun b hb => ⟨by rw [o _ (by omega) (by omega)]; exact (k1 b hb).1, fun t ht i hi => by rw [o _ (by omega) (by omega)]; exact (k1 b hb).2 t ht i hi⟩⟩
section
variable {h : MH} {f : Nat → Nat → Int32} {m : Nat} {S : Abs}
theorem m_later (C : MSH h m) (F : MF f m S) (W : WS S) (b : Int32) : ∃ f', ev M_Mo_later 0 0 [some (.ref m), some (.int b)] [] (wI h f) = some (some (.int (sLater S b)), wI h f') ∧ MF f' m (uLater S b) ∧ Fr m (m + 39) f f' := by
  have mc := C.1
  obtain ⟨j1, j2, j3⟩ := F.2.2.2.2.2.2.2.2.1
  have hm := W.2.2.2.2.2.2.2
  have r1 := mo_in0 (x := b) (n := 1000) (wI h f) (by decide)
  rw [r_Mo_later_0]
  unfold sLater uLater
  cases z : inN b 1001 with
  | none =>
    rw [z] at r1
    exact ⟨f, wp_e (wp_rIe r1 (wp_bt rfl (wp_s ⟨rfl, rfl⟩))), F, Fr.rf⟩
  | some k =>
    rw [z] at r1
    obtain ⟨e, k1, k2⟩ := inN_s z
    subst e
    show ∃ f', _ = some (some (Value.int (if aM S + k ≤ 100000 then nI (aM S + k) else mI 1)), _) ∧ MF f' m (if aM S + k ≤ 100000 then bM (bE S (aE S)) (aM S + k) else S) ∧ _
    by_cases y : aM S + k ≤ 100000
    · rw [if_pos y, if_pos y]
      refine ⟨up2 f m 58 (nI (aM S + k)), wp_e (wp_rIe r1 (wp_bf n10 (wp_isC mc ?_))), F.e (fun b h1 _ => up2_a h1) (fun k _ hk => up2_k hk) (by rw [up2_k (by decide)]; exact j1) up2_s (fun i e he => ?_), Fr.u2 (by omega) (by omega)⟩
      · rw [wI_I, j2, nI_add]
        refine wp_bf (by rw [nI_ltI (by decide) (by omega)]; omega) (wp_isC mc (wp_isC mc ?_))
        rw [wI_s]
        exact wp_isC mc (wp_s ⟨by rw [wI_I, up2_s], rfl⟩)
      · rw [up2_a (by omega), up2_a (by omega), up2_a (by omega), up2_a (by omega), up2_a (by omega), up2_a (by omega)]; exact j3 i e he
    · rw [if_neg y, if_neg y]
      refine ⟨f, wp_e (wp_rIe r1 (wp_bf n10 (wp_isC mc ?_))), F, Fr.rf⟩
      rw [wI_I, j2, nI_add]
      exact wp_bt (by rw [nI_ltI (by decide) (by omega)]; omega) (wp_s ⟨rfl, rfl⟩)
theorem m_untell (C : MSH h m) (F : MF f m S) (W : WS S) (i : Int32) : ∃ f', ev M_Mo_untell 0 0 [some (.ref m), some (.int i)] [] (wI h f) = some (some (.int (nI (utOk (aE S) i).toNat)), wI h f') ∧ MF f' m (uUntell S i) ∧ Fr m (m + 39) f f' := by
  have mc := C.1
  have ar33 : hR h m 56 = some (m + 33) := (C.2 32 (by decide)).1
  have an33 : hN h (m + 33) = 30 := (C.2 32 (by decide)).2.1
  have ac33 : hC h (m + 33) = 20 := (C.2 32 (by decide)).2.2
  obtain ⟨j1, j2, j3⟩ := F.2.2.2.2.2.2.2.2.1
  obtain ⟨⟨v1, v2⟩, -⟩ := W.2.2.2.2.2.2.1
  have r1 := mo_in1 (x := i) (n := (aE S).length) (wI h f) (by omega)
  rw [r_Mo_untell_0]
  unfold uUntell
  cases z : inN i (aE S).length with
  | none =>
    rw [z] at r1
    have e : utOk (aE S) i = false := by
      unfold utOk
      rcases inN_n z (by omega) with q | ⟨q, q2⟩
      · rw [if_pos q]
      · obtain ⟨j, hj, e⟩ := nI_of q
        subst e
        rw [nI_ltI hj (by omega)] at q2
        rw [if_neg q, nI_clamp hj, List.getElem?_eq_none (by omega)]
    rw [e, if_neg (by decide)]
    refine ⟨f, wp_e (wp_isC mc ?_), F, Fr.rf⟩
    rw [wI_I, j1]
    exact wp_rIe r1 (wp_bt rfl (wp_isZ (by decide) (wp_s ⟨rfl, rfl⟩)))
  | some j =>
    rw [z] at r1
    obtain ⟨e, k1, k2⟩ := inN_s z
    subst e
    have he := List.getElem?_eq_getElem k1
    have hp : ¬ nI j < nI 0 := nI_pos k2
    have eu : utOk (aE S) (nI j) = ((aE S)[j]).2.2.2.2.2.isNone := by
      unfold utOk
      rw [if_neg hp, nI_clamp k2, he]
    have fj := (j3 j _ he).2.2.2.2.2
    have bnd := (v2 _ (List.getElem_mem k1)).2.2.2.2
    have iff := oI_m1 (o := ((aE S)[j]).2.2.2.2.2) (fun k hk => by have := bnd k hk; omega)
    rw [eu]
    cases y : ((aE S)[j]).2.2.2.2.2 with
    | none =>
      rw [y] at fj
      have fj : f (m + 33) j = mI 1 := fj
      show ∃ f', _ = some (some (Value.int (nI 1)), _) ∧ MF f' m (bM (bE S (ut (aM S) (aE S) (nI j).toNatClampNeg)) (aM S)) ∧ _
      rw [nI_clamp k2]
      refine ⟨up2 f (m + 33) j (nI (aM S)), wp_e (wp_isC mc ?_), F.e (fun b h1 h2 => up2_a (by omega)) (fun k _ _ => by rw [up2_a (by omega)]) (by rw [up2_a (by omega), ut_len]; exact j1) (by rw [up2_a (by omega)]; exact j2) (fun i e he2 => ?_), Fr.u2 (by omega) (by omega)⟩
      · rw [wI_I, j1]
        refine wp_rIe r1 (wp_bf n10 (wp_isC mc (wp_nnR ar33 (wp_isC ac33 (wp_inA an33 rfl (by omega) (by omega) ?_)))))
        rw [wI_I, fj]
        refine wp_bt rfl (wp_isC mc (wp_nnR ar33 (wp_isC mc (wp_isC ac33 (wp_inA an33 rfl (by omega) (by omega) (wp_isZ (by decide) (wp_s ⟨rfl, ?_⟩)))))))
        rw [j2, wI_s]
      · rw [ut_get] at he2
        rw [up2_a (by omega), up2_a (by omega), up2_a (by omega), up2_a (by omega), up2_a (by omega)]
        by_cases w : i = j
        · rw [if_pos w, w, he] at he2
          cases he2
          rw [w, up2_s]
          obtain ⟨x1, x2, x3, x4, x5, -⟩ := j3 j _ he
          exact ⟨x1, x2, x3, x4, x5, rfl⟩
        · rw [if_neg w] at he2
          rw [up2_k w]
          exact j3 i e he2
    | some t =>
      rw [y] at fj iff
      show ∃ f', _ = some (some (Value.int (nI 0)), _) ∧ MF f' m S ∧ _
      refine ⟨f, wp_e (wp_isC mc ?_), F, Fr.rf⟩
      rw [wI_I, j1]
      refine wp_rIe r1 (wp_bf n10 (wp_isC mc (wp_nnR ar33 (wp_isC ac33 (wp_inA an33 rfl (by omega) (by omega) ?_)))))
      rw [nI_clamp k2, wI_I, fj]
      exact wp_bf (fun w => by have := iff.mp w; cases this) (wp_isZ (by decide) (wp_s ⟨rfl, rfl⟩))
end
