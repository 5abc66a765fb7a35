/-! The plain form: rows and columns laid down. -/
theorem MX.fr {m : Nat} {f f' : Nat → Nat → Int32} (x : MX m f f') : Fr m (m + 39) f f' := fun b hb => x.1 b (by omega) (by omega) (by omega)
theorem MF.l {m : Nat} {f f' : Nat → Nat → Int32} {S : Abs} {l : List Nat} (F : MF f m S) (o : ∀ b, b ≠ m → b ≠ m + 27 → f' b = f b) (s : ∀ k, k ≠ 50 → f' m k = f m k) (e1 : f' m 50 = nI l.length) (e2 : ∀ i e, l[i]? = some e → f' (m + 27) i = nI e) : MF f' m (bL S l) := by
  obtain ⟨⟨a1, a2⟩, ⟨b1, b2⟩, c1, ⟨d1, d2, d3, d4⟩, e1', g1, ⟨h1, h2, h3⟩, -, ⟨j1, j2, j3⟩, k1⟩ := F
  refine ⟨⟨by rw [s _ (by decide)]; exact a1, fun i hi => by rw [o _ (by omega) (by omega)]; exact a2 i hi⟩, ⟨by rw [s _ (by decide)]; exact b1, by rw [s _ (by decide)]; exact b2⟩, c1.o (fun b hb => o b (by omega) (by omega)), ⟨by rw [o _ (by omega) (by omega)]; exact d1, by rw [o _ (by omega) (by omega)]; exact d2, by rw [o _ (by omega) (by omega)]; exact d3, fun i k hk => by rw [o _ (by omega) (by omega)]; exact d4 i k hk⟩, fun k hk hz r hr => by rw [o _ (by omega) (by omega)]; exact e1' k hk hz r hr, fun i hi => by rw [o _ (by omega) (by omega)]; exact g1 i hi, ⟨by rw [s _ (by decide)]; exact h1, by rw [s _ (by decide)]; exact h2, fun k i hk hi => by rw [o _ (by omega) (by omega)]; exact h3 k i hk hi⟩, ⟨e1, e2⟩, ⟨by rw [s _ (by decide)]; exact j1, by rw [s _ (by decide)]; exact j2, fun i e he => ?_⟩, fun b hb => ⟨by rw [o _ (by omega) (by omega)]; exact (k1 b hb).1, fun t ht i hi => by rw [o _ (by omega) (by omega)]; exact (k1 b hb).2 t ht i hi⟩⟩
  rw [o (m + 28) (by omega) (by omega), o (m + 29) (by omega) (by omega), o (m + 30) (by omega) (by omega), o (m + 31) (by omega) (by omega), o (m + 32) (by omega) (by omega), o (m + 33) (by omega) (by omega)]
  exact j3 i e he
section
variable {h : MH} {f : Nat → Nat → Int32} {m : Nat} {S : Abs}
theorem mo_down {s : Nat} (C : MSH h m) (hs : s < 2 ^ 16) : ∃ f', ev M_Mo_laysDown 0 0 [some (.ref m), some (.int (nI s)), none] [] (wI h f) = some (some (.int (nI (nds s 16).length)), wI h f') ∧ f' m 50 = nI (nds s 16).length ∧ (∀ i e, (nds s 16)[i]? = some e → f' (m + 27) i = nI e) ∧ (∀ b, b ≠ m → b ≠ m + 27 → f' b = f b) ∧ ∀ k, k ≠ 50 → f' m k = f m k := by
  have mc := C.1
  have ar27 : hR h m 49 = some (m + 27) := (C.2 26 (by decide)).1
  have an27 : hN h (m + 27) = 16 := (C.2 26 (by decide)).2.1
  have ac27 : hC h (m + 27) = 20 := (C.2 26 (by decide)).2.2
  have L : ∀ q i f1, i + q = 16 → f1 m 50 = nI (nds s i).length → (∀ j e, (nds s i)[j]? = some e → f1 (m + 27) j = nI e) → ∃ f', ev M_Mo_laysDown 0 6 [some (.ref m), some (.int (nI s)), some (.int (nI i))] [] (wI h f1) = some (some (.int (nI (nds s 16).length)), wI h f') ∧ f' m 50 = nI (nds s 16).length ∧ (∀ i e, (nds s 16)[i]? = some e → f' (m + 27) i = nI e) ∧ (∀ b, b ≠ m → b ≠ m + 27 → f' b = f1 b) ∧ ∀ k, k ≠ 50 → f' m k = f1 m k := by
    intro q
    induction q with
    | zero =>
      intro i f1 hi e1 e2
      have : i = 16 := by omega
      subst this
      refine ⟨f1, ?_, e1, e2, fun _ _ _ => rfl, fun _ _ => rfl⟩
      rw [r_Mo_laysDown_6]
      exact wp_e (wp_bf (by decide) (wp_isC mc (wp_s ⟨by rw [wI_I, e1], rfl⟩)))
    | succ q ih =>
      intro i f1 hi e1 e2
      have hl := nds_len s i
      have of := mo_isOf (a := s) (k := i) (wI h f1) (by omega) (by omega)
      cases z : s.testBit i with
      | false =>
        have en : nds s (i + 1) = nds s i := by rw [nds, z, if_neg (by decide), List.append_nil]
        obtain ⟨f', i1, i2⟩ := ih (i + 1) f1 (by omega) (by rw [en]; exact e1) (by rw [en]; exact e2)
        refine ⟨f', wp_e ?_, i2⟩
        rw [z] at of
        rw [r_Mo_laysDown_6]
        refine wp_bt (by rw [nI_ltI (by omega) (by decide)]; omega) (wp_rIe of (wp_bt rfl ?_))
        rw [r_Mo_laysDown_27, nI_add]
        exact wp_of i1 ⟨rfl, rfl⟩
      | true =>
        have en : nds s (i + 1) = nds s i ++ [i] := by rw [nds, z, if_pos rfl]
        obtain ⟨f', i1, i2, i3, i4, i5⟩ := ih (i + 1) (up2 (up2 f1 (m + 27) (nds s i).length (nI i)) m 50 (nI ((nds s i).length + 1))) (by omega) (by rw [up2_s, en, List.length_append]; rfl) (fun j e he => by
          rw [en] at he
          rw [up2_a (by omega)]
          rcases app1 he with ⟨w, w2⟩ | ⟨w, w2⟩
          · rw [up2_k (by omega)]; exact e2 j e w2
          · rw [w, w2, up2_s])
        refine ⟨f', wp_e ?_, i2, i3, fun b h1 h2 => by rw [i4 b h1 h2, up2_a h1, up2_a h2], fun k hk => by rw [i5 k hk, up2_k hk, up2_a (by omega)]⟩
        rw [z] at of
        rw [r_Mo_laysDown_6]
        refine wp_bt (by rw [nI_ltI (by omega) (by decide)]; omega) (wp_rIe of (wp_bf n10 (wp_isC mc (wp_nnR ar27 (wp_isC mc (wp_isC ac27 ?_))))))
        rw [wI_I, e1]
        refine wp_inA an27 rfl (by omega) (by omega) ?_
        rw [nI_clamp (by omega), wI_s]
        refine wp_isC mc (wp_isC mc ?_)
        rw [wI_I, up2_a (by omega), e1, nI_add, wI_s, r_Mo_laysDown_27, nI_add]
        exact wp_of i1 ⟨rfl, rfl⟩
  obtain ⟨f', i1, i2, i3, i4, i5⟩ := L 16 0 (up2 f m 50 (nI 0)) rfl up2_s (fun j e he => by cases he)
  refine ⟨f', wp_e ?_, i2, i3, fun b h1 h2 => by rw [i4 b h1 h2, up2_a h1], fun k hk => by rw [i5 k hk, up2_k hk]⟩
  rw [r_Mo_laysDown_0]
  refine wp_isC mc ?_
  rw [wI_s]
  exact wp_of i1 ⟨rfl, rfl⟩
theorem MF.l0 (F : MF f m S) : MF (up2 f m 50 (nI 0)) m (bL S []) := F.l (fun b h1 _ => up2_a h1) (fun k hk => up2_k hk) up2_s (fun i e he => by cases he)
theorem m_row (C : MSH h m) (F : MF f m S) (W : WS S) (a b : Int32) : ∃ f', ev M_Mo_row 0 0 [some (.ref m), some (.int a), some (.int b)] [] (wI h f) = some (some (.int (sLay S a b (rowK S))), wI h f') ∧ MF f' m (bL S (lays S a b (rowK S))) ∧ Fr m (m + 39) f f' := by
  have mc := C.1
  have ar18 : hR h m 38 = some (m + 18) := (C.2 17 (by decide)).1
  have an18 : hN h (m + 18) = 80 := (C.2 17 (by decide)).2.1
  have ac18 : hC h (m + 18) = 20 := (C.2 17 (by decide)).2.2
  have F0 := F.l0
  have W0 : WS (bL S []) := WS_l W (Nat.zero_le _) (fun e he => by cases he)
  have fr0 : Fr m (m + 39) f (up2 f m 50 (nI 0)) := Fr.u2 (by omega) (by omega)
  have ra := mo_rel C F0 W0 a
  have rb := mo_node C F0 W0 b
  rw [show aR (bL S []) = aR S from rfl] at ra
  rw [show aW (bL S []) = aW S from rfl] at rb
  rw [r_Mo_row_0]
  unfold sLay lays
  cases za : inN a (aR S) with
  | none =>
    rw [za] at ra
    exact ⟨_, wp_e (wp_isC mc (wp_isC mc (wp_rIe ra (wp_bt rfl (wp_s ⟨rfl, rfl⟩))))), F0, fr0⟩
  | some k =>
    rw [za] at ra
    cases zb : inN b (aW S) with
    | none =>
      rw [zb] at rb
      exact ⟨_, wp_e (wp_isC mc (wp_isC mc (wp_rIe ra (wp_bf n10 (wp_isC mc (wp_rIe rb (wp_bt rfl (wp_s ⟨rfl, rfl⟩)))))))), F0, fr0⟩
    | some i =>
      rw [zb] at rb
      obtain ⟨e1, k1, -⟩ := inN_s za
      obtain ⟨e2, k2, -⟩ := inN_s zb
      subst e1
      subst e2
      obtain ⟨f1, l1, l2, l3⟩ := mo_L C F0 W0
      have h16 : aW S ≤ 16 := lv_p W.2.2.1.1.2.1
      have h5 : aR S ≤ 5 := W.2.2.1.1.2.2.2.1
      obtain ⟨R, V⟩ := l2 k k1
      have R : RF f1 (m + 18) (16 * k) (aG S k) := R
      have V : GW (aW S) (aG S k) := V
      obtain ⟨f2, d1, d2, d3, d4, d5⟩ := mo_down (h := h) (f := f1) C (V.lt i)
      refine ⟨f2, wp_e (wp_isC mc (wp_isC mc (wp_rIe ra (wp_bf n10 (wp_isC mc (wp_rIe rb (wp_bf n10 (wp_isC mc (wp_rVe l1 (wp_isC mc (wp_nnR ar18 (wp_isC ac18 (wp_inA (n := 16 * k + i) an18 (by rw [pk_mul, nI_add]) (by omega) (by omega) (wp_isC mc ?_)))))))))))))), (l3.F F0).l d4 d5 d2 d3, fr0.tr (l3.fr.tr (fun b hb => d4 b (by omega) (by omega)))⟩
      rw [show (nI 16 * nI k + nI i).toNatClampNeg = 16 * k + i by rw [pk_mul, nI_add, nI_clamp (by omega)], wI_I, R i (by omega)]
      exact wp_rIe d1 (wp_s ⟨rfl, rfl⟩)
end
