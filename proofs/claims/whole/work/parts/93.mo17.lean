/-! The plain form: reports on a tree's bits. -/
theorem sm_ls (w : Eb → Nat) : ∀ Q : List Eb, sm (fun i => w (eb Q i)) Q.length = ls w Q
  | [] => rfl
  | e :: Q => by
    show sm _ (Q.length + 1) = w e + ls w Q
    rw [Nat.add_comm Q.length 1, sm_a, ← sm_ls w Q]
    show (0 + w e) + _ = _
    rw [Nat.zero_add]
    congr 1
    apply sm_c
    intro k _
    show w (eb (e :: Q) (1 + k)) = w (eb Q k)
    rw [Nat.add_comm 1 k]
    rfl
theorem ct_pos {v : Nat} {G : Nat → Nat} (V : GW (2 ^ v) G) : 0 < ct (2 ^ v) G ↔ ∃ i j, (G i).testBit j = true := by
  unfold ct
  rw [sm_pos]
  constructor
  · rintro ⟨i, -, h⟩
    obtain ⟨j, hj⟩ := Nat.exists_testBit_of_ne_zero ((bc_pos (V.lt i)).mp h)
    exact ⟨i, j, hj⟩
  · rintro ⟨i, j, h⟩
    refine ⟨i, (V.in h).1, (bc_pos (V.lt i)).mpr (fun z => ?_)⟩
    rw [z, Nat.zero_testBit] at h
    cases h
theorem fl_z {v l r : Nat} {G : Nat → Nat} (V : GW (2 ^ v) G) (h : ct (2 ^ v) G = 0) : fl v G l r = 0 := by
  by_cases z : fl v G l r = 0
  · exact z
  · obtain ⟨c, hc⟩ := Nat.exists_testBit_of_ne_zero z
    obtain ⟨i, j, -, -, h3⟩ := (fl_t V).mp hc
    have := (ct_pos V).mpr ⟨i, j, h3⟩
    omega
theorem nb_z {v : Nat} {G : Nat → Nat} (V : GW (2 ^ v) G) (h : ct (2 ^ v) G = 0) : nb v G = 4 := by
  unfold nb
  rw [sm_0]
  intro k _
  have : ct (2 ^ (k + 1)) (fl v G (k + 1)) = 0 := sm_0 (fun r _ => by
    show bc (fl v G (k + 1) r) = 0
    rw [fl_z V h, bc_0])
  rw [this]
theorem fl_0 {v : Nat} {G : Nat → Nat} (V : GW (2 ^ v) G) : ct (2 ^ 0) (fl v G 0) = if 0 < ct (2 ^ v) G then 1 else 0 := by
  have X := (fl_W V (Nat.zero_le v)).2.1 0
  have e : ct (2 ^ 0) (fl v G 0) = bc (fl v G 0 0) := by
    show 0 + bc (fl v G 0 0) = _
    rw [Nat.zero_add]
  rw [e]
  have X : fl v G 0 0 < 2 := X
  by_cases z : fl v G 0 0 = 0
  · rw [z, bc_0, if_neg]
    intro w
    obtain ⟨i, j, h⟩ := (ct_pos V).mp w
    have hb := V.in h
    have : (fl v G 0 0).testBit 0 = true := (fl_t V).mpr ⟨i, j, by rw [Nat.sub_zero]; exact Nat.div_eq_of_lt hb.1, by rw [Nat.sub_zero]; exact Nat.div_eq_of_lt hb.2, h⟩
    rw [z, Nat.zero_testBit] at this
    cases this
  · have x1 : fl v G 0 0 = 1 := by omega
    have : (fl v G 0 0).testBit 0 = true := by rw [x1]; rfl
    obtain ⟨i, j, -, -, h⟩ := (fl_t V).mp this
    rw [x1, if_pos ((ct_pos V).mpr ⟨i, j, h⟩)]
    decide
section
variable {h : MH} {f : Nat → Nat → Int32} {m : Nat} {S : Abs}
theorem bQ_len (W : WS S) (k : Nat) : (bQ S k).length ≤ 340 := QI_len (bits_I W.2.2.1.1.1 W.2.2.1.1.2.1) W.2.2.1.1.2.1
theorem bQ_ok (W : WS S) (k : Nat) : ∀ e, e ∈ bQ S k → okQ (aV S) e := (bits_I W.2.2.1.1.1 W.2.2.1.1.2.1).2.1
theorem aG_W (W : WS S) (k : Nat) : GW (aW S) (aG S k) := gA_W W.2.2.1 (W.2.2.2.1.2.2 _ W.2.2.2.1.1) k
theorem bQ_nb (W : WS S) (k : Nat) : nb (aV S) (aG S k) = (bQ S k).length := nb_len (aG_W W k) W.2.2.1.1.1 W.2.2.1.1.2.1
theorem mo_isBit (C : MSH h m) (F : MF f m S) (W : WS S) (a b : Int32) (K : Nat → Nat → Int32) : ∃ f', MX m f f' ∧ ((ev M_Mo_isBit 0 0 [some (.ref m), some (.int a), some (.int b)] [] (wI h f) = some (some (.int (nI 0)), wI h f') ∧ (on (inN a (aR S)) fun k => on (inN b (nb (aV S) (aG S k))) fun j => K k j) = mI 1) ∨
    (ev M_Mo_isBit 0 0 [some (.ref m), some (.int a), some (.int b)] [] (wI h f) = some (some (.int (nI 1)), wI h f') ∧ ∃ k j, a = nI k ∧ b = nI j ∧ k < aR S ∧ j < (bQ S k).length ∧ QM f' m (aV S) (fb (aV S) (aG S k)) (bQ S k) ∧ (on (inN a (aR S)) fun k => on (inN b (nb (aV S) (aG S k))) fun j => K k j) = K k j)) := by
  have mc := C.1
  cases za : inN a (aR S) with
  | none =>
    refine ⟨f, MX.rf, Or.inl ⟨?_, rfl⟩⟩
    rw [r_Mo_isBit_0]
    exact wp_e (wp_isC mc (wp_rIe (mo_LR0 C F W za) (wp_bt rfl (wp_isZ (by decide) (wp_s ⟨rfl, rfl⟩)))))
  | some k =>
    obtain ⟨e1, k1, -⟩ := inN_s za
    subst e1
    obtain ⟨f', l1, l2, l3, l4⟩ := mo_LR C F W k1
    have hl := bQ_len W k
    have en := bQ_nb W k
    have r1 := mo_in1 (x := b) (n := (bQ S k).length) (wI h f') (by omega)
    refine ⟨f', l4, ?_⟩
    rw [r_Mo_isBit_0]
    dsimp only [on]
    rw [en]
    cases zb : inN b (bQ S k).length with
    | none =>
      rw [zb] at r1
      refine Or.inl ⟨?_, rfl⟩
      refine wp_e (wp_isC mc (wp_rIe l1 (wp_bf n10 (wp_isC mc ?_))))
      rw [wI_I, l3.1]
      exact wp_rIe r1 (wp_bt rfl (wp_isZ (by decide) (wp_s ⟨rfl, rfl⟩)))
    | some j =>
      rw [zb] at r1
      obtain ⟨e2, j1, -⟩ := inN_s zb
      refine Or.inr ⟨?_, k, j, rfl, e2, k1, j1, l3, rfl⟩
      refine wp_e (wp_isC mc (wp_rIe l1 (wp_bf n10 (wp_isC mc ?_))))
      rw [wI_I, l3.1]
      exact wp_rIe r1 (wp_bf n10 (wp_isZ (by decide) (wp_s ⟨rfl, rfl⟩)))
theorem m_bit (C : MSH h m) (F : MF f m S) (W : WS S) (a b : Int32) : ∃ f', ev M_Mo_bit 0 0 [some (.ref m), some (.int a), some (.int b)] [] (wI h f) = some (some (.int (sBit S a b)), wI h f') ∧ MX m f f' := by
  have mc := C.1
  have ar25 : hR h m 46 = some (m + 25) := (C.2 24 (by decide)).1
  have an25 : hN h (m + 25) = 340 := (C.2 24 (by decide)).2.1
  have ac25 : hC h (m + 25) = 20 := (C.2 24 (by decide)).2.2
  rw [r_Mo_bit_0]
  obtain ⟨f', x, ⟨e1, y⟩ | ⟨e1, k, j, ea, eb', k1, j1, Q, y⟩⟩ := mo_isBit C F W a b (fun k j => nI (fb (aV S) (aG S k) (eb (bQ S k) j)).toNat)
  · have y : sBit S a b = mI 1 := y
    rw [y]
    exact ⟨f', wp_e (wp_isC mc (wp_rIe e1 (wp_bt rfl (wp_s ⟨rfl, rfl⟩)))), x⟩
  · have y : sBit S a b = nI (fb (aV S) (aG S k) (eb (bQ S k) j)).toNat := y
    rw [y]
    have hl := bQ_len W k
    subst ea
    subst eb'
    refine ⟨f', wp_e (wp_isC mc (wp_rIe e1 (wp_bf n10 (wp_isC mc (wp_nnR ar25 (wp_isC ac25 (wp_inA an25 rfl (by omega) (by omega) (wp_s ⟨?_, rfl⟩)))))))), x⟩
    rw [nI_clamp (by omega), wI_I, (Q.2 j _ (eb_at j1)).2.2.2]
theorem mo_rankOf {k j : Nat} (C : MSH h m) (W : WS S) (Q : QM f m (aV S) (fb (aV S) (aG S k)) (bQ S k)) (hj : j < (bQ S k).length) : ev M_Mo_rankOf 0 0 [some (.ref m), some (.int (nI j)), none, none] [] (wI h f) = some (some (.int (nI (rnk S k j))), wI h f) := by
  have mc := C.1
  have ar25 : hR h m 46 = some (m + 25) := (C.2 24 (by decide)).1
  have an25 : hN h (m + 25) = 340 := (C.2 24 (by decide)).2.1
  have ac25 : hC h (m + 25) = 20 := (C.2 24 (by decide)).2.2
  have hl := bQ_len W k
  have L : ∀ q i, i + q = j + 1 → ev M_Mo_rankOf 0 5 [some (.ref m), some (.int (nI j)), some (.int (nI (sm (fun i => (fb (aV S) (aG S k) (eb (bQ S k) i)).toNat) i))), some (.int (nI i))] [] (wI h f) = some (some (.int (nI (rnk S k j))), wI h f) := by
    intro q
    induction q with
    | zero =>
      intro i hi
      have : i = j + 1 := by omega
      subst this
      rw [r_Mo_rankOf_5]
      exact wp_e (wp_bt (by rw [nI_ltI (by omega) (by omega)]; omega) (wp_s ⟨rfl, rfl⟩))
    | succ q ih =>
      intro i hi
      rw [r_Mo_rankOf_5]
      refine wp_e (wp_bf (by rw [nI_ltI (by omega) (by omega)]; omega) (wp_isC mc (wp_nnR ar25 (wp_isC ac25 (wp_inA an25 rfl (by omega) (by omega) ?_)))))
      rw [nI_clamp (by omega), wI_I, (Q.2 i _ (eb_at (by omega))).2.2.2, nI_add, nI_add]
      exact wp_of (ih (i + 1) (by omega)) ⟨rfl, rfl⟩
  rw [r_Mo_rankOf_0]
  exact L (j + 1) 0 (by omega)
theorem m_rank (C : MSH h m) (F : MF f m S) (W : WS S) (a b : Int32) : ∃ f', ev M_Mo_rank 0 0 [some (.ref m), some (.int a), some (.int b)] [] (wI h f) = some (some (.int (sRank S a b)), wI h f') ∧ MX m f f' := by
  have mc := C.1
  rw [r_Mo_rank_0]
  obtain ⟨f', x, ⟨e1, y⟩ | ⟨e1, k, j, ea, eb', k1, j1, Q, y⟩⟩ := mo_isBit C F W a b (fun k j => nI (rnk S k j))
  · have y : sRank S a b = mI 1 := y
    rw [y]
    exact ⟨f', wp_e (wp_isC mc (wp_rIe e1 (wp_bt rfl (wp_s ⟨rfl, rfl⟩)))), x⟩
  · have y : sRank S a b = nI (rnk S k j) := y
    rw [y]
    subst ea
    subst eb'
    exact ⟨f', wp_e (wp_isC mc (wp_rIe e1 (wp_bf n10 (wp_isC mc (wp_rIe (mo_rankOf C W Q j1) (wp_s ⟨rfl, rfl⟩)))))), x⟩
theorem m_child (C : MSH h m) (F : MF f m S) (W : WS S) (a b c : Int32) : ∃ f', ev M_Mo_child 0 0 [some (.ref m), some (.int a), some (.int b), some (.int c)] [] (wI h f) = some (some (.int (sChild S a b c)), wI h f') ∧ MX m f f' := by
  have mc := C.1
  have ar2 : hR h m 12 = some (m + 2) := (C.2 1 (by decide)).1
  have an2 : hN h (m + 2) = 2 := (C.2 1 (by decide)).2.1
  have ac2 : hC h (m + 2) = 20 := (C.2 1 (by decide)).2.2
  have ar22 : hR h m 43 = some (m + 22) := (C.2 21 (by decide)).1
  have an22 : hN h (m + 22) = 340 := (C.2 21 (by decide)).2.1
  have ac22 : hC h (m + 22) = 20 := (C.2 21 (by decide)).2.2
  have ar25 : hR h m 46 = some (m + 25) := (C.2 24 (by decide)).1
  have an25 : hN h (m + 25) = 340 := (C.2 24 (by decide)).2.1
  have ac25 : hC h (m + 25) = 20 := (C.2 24 (by decide)).2.2
  have hv : aV S ≤ 4 := W.2.2.1.1.2.1
  rw [r_Mo_child_0]
  unfold sChild
  cases zc : inN c 4 with
  | none =>
    obtain ⟨f', x, ⟨e1, y⟩ | ⟨e1, k, j, ea, eb', k1, j1, Q, y⟩⟩ := mo_isBit C F W a b (fun k j => nI 0)
    · exact ⟨f', wp_e (wp_isC mc (wp_rIe e1 (wp_bt rfl (wp_s ⟨rfl, rfl⟩)))), x⟩
    · have r1 := mo_in0 (x := c) (n := 3) (wI h f') (by decide)
      rw [show 3 + 1 = 4 from rfl, zc] at r1
      exact ⟨f', wp_e (wp_isC mc (wp_rIe e1 (wp_bf n10 (wp_rIe r1 (wp_bt rfl (wp_s ⟨rfl, rfl⟩)))))), x⟩
  | some w =>
    obtain ⟨ec, w1, -⟩ := inN_s zc
    subst ec
    dsimp only [on]
    obtain ⟨f', x, ⟨e1, y⟩ | ⟨e1, k, j, ea, eb', k1, j1, Q, y⟩⟩ := mo_isBit C F W a b (fun k j => if fb (aV S) (aG S k) (eb (bQ S k) j) = false ∨ (eb (bQ S k) j).1 = aV S then mI 1 else nI (4 * rnk S k j + w))
    · dsimp only [on] at y
      rw [y]
      exact ⟨f', wp_e (wp_isC mc (wp_rIe e1 (wp_bt rfl (wp_s ⟨rfl, rfl⟩)))), x⟩
    · have r1 := mo_in0 (x := nI w) (n := 3) (wI h f') (by decide)
      rw [show 3 + 1 = 4 from rfl, zc] at r1
      dsimp only [on] at y
      rw [y]
      have hl := bQ_len W k
      have ok := bQ_ok W k _ (List.mem_of_getElem? (eb_at j1))
      have o2 := ok.2.1
      obtain ⟨q1, -, -, q4⟩ := Q.2 j _ (eb_at j1)
      have F1 := x.F F
      subst ea
      subst eb'
      refine ⟨f', wp_e (wp_isC mc (wp_rIe e1 (wp_bf n10 (wp_rIe r1 (wp_bf n10 (wp_isC mc (wp_nnR ar25 (wp_isC ac25 (wp_inA an25 rfl (by omega) (by omega) ?_))))))))), x⟩
      rw [nI_clamp (by omega), wI_I, q4]
      cases z : fb (aV S) (aG S k) (eb (bQ S k) j) with
      | false =>
        rw [if_pos (Or.inl rfl)]
        exact wp_bf (Ne.symm n10) (wp_s ⟨rfl, rfl⟩)
      | true =>
        refine wp_bt rfl (wp_isC mc (wp_nnR ar22 (wp_isC ac22 (wp_inA an22 rfl (by omega) (by omega) (wp_isC mc (wp_nnR ar2 (wp_isC ac2 (wp_inA (n := 0) an2 rfl (by decide) (by decide) ?_))))))))
        rw [q1, show (nI 0).toNatClampNeg = 0 from rfl, F1.2.2.1.1]
        by_cases u : (eb (bQ S k) j).1 = aV S
        · rw [if_pos (Or.inr u)]
          exact wp_bf (by rw [nI_ltI (by omega) (by omega)]; omega) (wp_s ⟨rfl, rfl⟩)
        · rw [if_neg (by rintro (u1 | u1); cases u1; exact u u1)]
          refine wp_bt (by rw [nI_ltI (by omega) (by omega)]; omega) (wp_isC mc (wp_rIe (mo_rankOf C W Q j1) (wp_s ⟨?_, rfl⟩)))
          rw [pk_mul, nI_add]
theorem m_place (C : MSH h m) (F : MF f m S) (W : WS S) (a b c : Int32) : ∃ f', ev M_Mo_place 0 0 [some (.ref m), some (.int a), some (.int b), some (.int c)] [] (wI h f) = some (some (.int (sPlace S a b c)), wI h f') ∧ MX m f f' := by
  have mc := C.1
  have ar22 : hR h m 43 = some (m + 22) := (C.2 21 (by decide)).1
  have an22 : hN h (m + 22) = 340 := (C.2 21 (by decide)).2.1
  have ac22 : hC h (m + 22) = 20 := (C.2 21 (by decide)).2.2
  have ar23 : hR h m 44 = some (m + 23) := (C.2 22 (by decide)).1
  have an23 : hN h (m + 23) = 340 := (C.2 22 (by decide)).2.1
  have ac23 : hC h (m + 23) = 20 := (C.2 22 (by decide)).2.2
  have ar24 : hR h m 45 = some (m + 24) := (C.2 23 (by decide)).1
  have an24 : hN h (m + 24) = 340 := (C.2 23 (by decide)).2.1
  have ac24 : hC h (m + 24) = 20 := (C.2 23 (by decide)).2.2
  rw [r_Mo_place_0]
  obtain ⟨f', x, ⟨e1, y⟩ | ⟨e1, k, j, ea, eb', k1, j1, Q, y⟩⟩ := mo_isBit C F W a b (fun k j => if c = nI 0 then nI (eb (bQ S k) j).1 else if c = nI 1 then nI ((eb (bQ S k) j).2.1 * 2 ^ (aV S - (eb (bQ S k) j).1)) else if c = nI 2 then nI ((eb (bQ S k) j).2.2 * 2 ^ (aV S - (eb (bQ S k) j).1)) else mI 1)
  · have y : sPlace S a b c = mI 1 := y
    rw [y]
    exact ⟨f', wp_e (wp_isC mc (wp_rIe e1 (wp_bt rfl (wp_s ⟨rfl, rfl⟩)))), x⟩
  · have y : sPlace S a b c = if c = nI 0 then nI (eb (bQ S k) j).1 else if c = nI 1 then nI ((eb (bQ S k) j).2.1 * 2 ^ (aV S - (eb (bQ S k) j).1)) else if c = nI 2 then nI ((eb (bQ S k) j).2.2 * 2 ^ (aV S - (eb (bQ S k) j).1)) else mI 1 := y
    rw [y]
    have hl := bQ_len W k
    subst ea
    subst eb'
    obtain ⟨q1, q2, q3, -⟩ := Q.2 j _ (eb_at j1)
    refine ⟨f', wp_e (wp_isC mc (wp_rIe e1 (wp_bf n10 ?_))), x⟩
    by_cases z : c = nI 0
    · rw [if_pos z]
      refine wp_bt z (wp_isC mc (wp_nnR ar22 (wp_isC ac22 (wp_inA an22 rfl (by omega) (by omega) (wp_s ⟨?_, rfl⟩)))))
      rw [nI_clamp (by omega), wI_I, q1]
    · rw [if_neg z]
      refine wp_bf z ?_
      by_cases z1 : c = nI 1
      · rw [if_pos z1]
        refine wp_bt z1 (wp_isC mc (wp_nnR ar23 (wp_isC ac23 (wp_inA an23 rfl (by omega) (by omega) (wp_s ⟨?_, rfl⟩)))))
        rw [nI_clamp (by omega), wI_I, q2]
      · rw [if_neg z1]
        refine wp_bf z1 ?_
        by_cases z2 : c = nI 2
        · rw [if_pos z2]
          refine wp_bt z2 (wp_isC mc (wp_nnR ar24 (wp_isC ac24 (wp_inA an24 rfl (by omega) (by omega) (wp_s ⟨?_, rfl⟩)))))
          rw [nI_clamp (by omega), wI_I, q3]
        · rw [if_neg z2]
          exact wp_bf z2 (wp_s ⟨rfl, rfl⟩)
theorem m_blocks (C : MSH h m) (F : MF f m S) (W : WS S) (a b : Int32) : ∃ f', ev M_Mo_blocks 0 0 [some (.ref m), some (.int a), some (.int b), none, none] [] (wI h f) = some (some (.int (sBlk S a b)), wI h f') ∧ MX m f f' := by
  have mc := C.1
  have ar2 : hR h m 12 = some (m + 2) := (C.2 1 (by decide)).1
  have an2 : hN h (m + 2) = 2 := (C.2 1 (by decide)).2.1
  have ac2 : hC h (m + 2) = 20 := (C.2 1 (by decide)).2.2
  have ar18 : hR h m 38 = some (m + 18) := (C.2 17 (by decide)).1
  have an18 : hN h (m + 18) = 80 := (C.2 17 (by decide)).2.1
  have ac18 : hC h (m + 18) = 20 := (C.2 17 (by decide)).2.2
  have ar22 : hR h m 43 = some (m + 22) := (C.2 21 (by decide)).1
  have an22 : hN h (m + 22) = 340 := (C.2 21 (by decide)).2.1
  have ac22 : hC h (m + 22) = 20 := (C.2 21 (by decide)).2.2
  have ar25 : hR h m 46 = some (m + 25) := (C.2 24 (by decide)).1
  have an25 : hN h (m + 25) = 340 := (C.2 24 (by decide)).2.1
  have ac25 : hC h (m + 25) = 20 := (C.2 24 (by decide)).2.2
  have hv : aV S ≤ 4 := W.2.2.1.1.2.1
  have hv1 : 1 ≤ aV S := W.2.2.1.1.1
  have hr5 : aR S ≤ 5 := W.2.2.1.1.2.2.2.1
  rw [r_Mo_blocks_0]
  have r1 := mo_in0 (x := b) (n := aV S) (wI h f) (by omega)
  unfold sBlk
  have c0 : (wI h f).2.2.2.2.1 (m + 2) 0 = nI (aV S) := F.2.2.1.1
  cases zb : inN b (aV S + 1) with
  | none =>
    rw [zb] at r1
    refine ⟨f, wp_e (wp_isC mc (wp_nnR ar2 (wp_isC ac2 (wp_inA (n := 0) an2 rfl (by decide) (by decide) ?_)))), MX.rf⟩
    rw [nI_clamp (by decide), wI_I, F.2.2.1.1]
    refine wp_rIe r1 (wp_bt rfl (wp_s ⟨?_, rfl⟩))
    cases inN a (aR S) <;> rfl
  | some l =>
    rw [zb] at r1
    obtain ⟨eb', l1, -⟩ := inN_s zb
    subst eb'
    cases za : inN a (aR S) with
    | none =>
      refine ⟨f, wp_e (wp_isC mc (wp_nnR ar2 (wp_isC ac2 (wp_inA (n := 0) an2 rfl (by decide) (by decide) ?_)))), MX.rf⟩
      rw [nI_clamp (by decide), wI_I, F.2.2.1.1]
      exact wp_rIe r1 (wp_bf n10 (wp_isC mc (wp_rIe (mo_LR0 C F W za) (wp_bt rfl (wp_s ⟨rfl, rfl⟩)))))
    | some k =>
      obtain ⟨ea, k1, -⟩ := inN_s za
      subst ea
      obtain ⟨f', t1, t2, t3, t4⟩ := mo_LR C F W k1
      obtain ⟨R, V⟩ := t2 k k1
      have hl := bQ_len W k
      refine ⟨f', wp_e (wp_isC mc (wp_nnR ar2 (wp_isC ac2 (wp_inA (n := 0) an2 rfl (by decide) (by decide) ?_)))), t4⟩
      rw [nI_clamp (by decide), wI_I, F.2.2.1.1]
      refine wp_rIe r1 (wp_bf n10 (wp_isC mc (wp_rIe t1 (wp_bf n10 ?_))))
      dsimp only [on]
      by_cases z : l = 0
      · subst z
        rw [fl_0 V]
        refine wp_bt rfl (wp_isC mc (wp_nnR ar18 ?_))
        rw [pk_mul]
        refine wp_rIe (mo_manyIn ac18 an18 (by omega) (by decide) R V.lt) ?_
        rw [ct_16 V]
        have hc : ct (aW S) (aG S k) ≤ aW S * 16 := sm_le (fun r _ => bc_le _)
        have hw : aW S ≤ 16 := lv_p hv
        refine wp_bi (nI_ltI (by decide) (by omega)) (fun y => ?_) (fun y => ?_)
        · rw [if_pos (show 0 < ct (2 ^ aV S) (aG S k) from y)]; exact wp_s ⟨rfl, rfl⟩
        · rw [if_neg (show ¬ 0 < ct (2 ^ aV S) (aG S k) from y)]; exact wp_s ⟨rfl, rfl⟩
      · refine wp_bf (by rw [nI_eq (by omega) (by decide)]; exact z) ?_
        have L : ∀ q i, i + q = (bQ S k).length → ev M_Mo_blocks 0 32 [some (.ref m), none, some (.int (nI l)), some (.int (nI (sm (fun i => wl (fun r c => ((fl (aV S) (aG S k) l r).testBit c).toNat) l (eb (bQ S k) i)) i))), some (.int (nI i))] [] (wI h f') = some (some (.int (nI (sm (fun i => wl (fun r c => ((fl (aV S) (aG S k) l r).testBit c).toNat) l (eb (bQ S k) i)) (bQ S k).length))), wI h f') := by
          intro q
          induction q with
          | zero =>
            intro i hi
            have : i = (bQ S k).length := by omega
            rw [r_Mo_blocks_32]
            refine wp_e (wp_isC mc ?_)
            rw [wI_I, t3.1, this]
            exact wp_bf (by rw [nI_ltI (by omega) (by omega)]; omega) (wp_s ⟨rfl, rfl⟩)
          | succ q ih =>
            intro i hi
            have ih := ih (i + 1) (by omega)
            rw [sm] at ih
            obtain ⟨q1, -, -, q4⟩ := t3.2 i _ (eb_at (by omega))
            have ok := bQ_ok W k _ (List.mem_of_getElem? (eb_at (Q := bQ S k) (i := i) (by omega)))
            have o2 := ok.2.1
            rw [r_Mo_blocks_32]
            refine wp_e (wp_isC mc ?_)
            rw [wI_I, t3.1]
            refine wp_bt (by rw [nI_ltI (by omega) (by omega)]; omega) (wp_isC mc (wp_nnR ar22 (wp_isC ac22 (wp_inA an22 rfl (by omega) (by omega) ?_))))
            rw [nI_clamp (by omega), q1]
            refine wp_bi (nI_eq (by omega) (by omega)) (fun y => ?_) (fun y => ?_)
            · refine wp_isC mc (wp_nnR ar25 (wp_isC ac25 (wp_inA an25 rfl (by omega) (by omega) ?_)))
              rw [q4, r_Mo_blocks_50, nI_add, nI_add]
              have e : wl (fun r c => ((fl (aV S) (aG S k) l r).testBit c).toNat) l (eb (bQ S k) i) = (fb (aV S) (aG S k) (eb (bQ S k) i)).toNat := by
                unfold wl fb; rw [if_pos y, y]
              rw [e] at ih
              exact wp_of ih ⟨rfl, rfl⟩
            · rw [r_Mo_blocks_50, nI_add, nI_add]
              have e : wl (fun r c => ((fl (aV S) (aG S k) l r).testBit c).toNat) l (eb (bQ S k) i) = 0 := by
                unfold wl; rw [if_neg y]
              rw [e] at ih
              exact wp_of ih ⟨rfl, rfl⟩
        have fin := L (bQ S k).length 0 (by omega)
        rw [sm_ls (wl (fun r c => ((fl (aV S) (aG S k) l r).testBit c).toNat) l) (bQ S k), show bQ S k = bits (aV S) (fb (aV S) (aG S k)) from rfl, on_l V hv1 hv (by omega) (by omega)] at fin
        exact wp_of fin ⟨rfl, rfl⟩
theorem m_law (C : MSH h m) (F : MF f m S) (W : WS S) (a b : Int32) : ∃ f', ev M_Mo_law 0 0 [some (.ref m), some (.int a), some (.int b)] [] (wI h f) = some (some (.int (sLaw S a b)), wI h f') ∧ MX m f f' := by
  have mc := C.1
  have ar2 : hR h m 12 = some (m + 2) := (C.2 1 (by decide)).1
  have an2 : hN h (m + 2) = 2 := (C.2 1 (by decide)).2.1
  have ac2 : hC h (m + 2) = 20 := (C.2 1 (by decide)).2.2
  have ar18 : hR h m 38 = some (m + 18) := (C.2 17 (by decide)).1
  have an18 : hN h (m + 18) = 80 := (C.2 17 (by decide)).2.1
  have ac18 : hC h (m + 18) = 20 := (C.2 17 (by decide)).2.2
  have hv : aV S ≤ 4 := W.2.2.1.1.2.1
  have hw : aW S ≤ 16 := lv_p hv
  have hr5 : aR S ≤ 5 := W.2.2.1.1.2.2.2.1
  rw [r_Mo_law_0]
  have r1 := mo_isIn b (nI (aV S)) (nI 6) (wI h f)
  unfold sLaw
  by_cases zb : ¬ b < nI (aV S) ∧ ¬ nI 6 < b
  · rw [decide_eq_true zb] at r1
    cases za : inN a (aR S) with
    | none =>
      refine ⟨f, wp_e (wp_isC mc (wp_nnR ar2 (wp_isC ac2 (wp_inA (n := 0) an2 rfl (by decide) (by decide) ?_)))), MX.rf⟩
      rw [nI_clamp (by decide), wI_I, F.2.2.1.1]
      exact wp_rIe r1 (wp_bf n10 (wp_isC mc (wp_rIe (mo_LR0 C F W za) (wp_bt rfl (wp_s ⟨rfl, rfl⟩)))))
    | some k =>
      obtain ⟨ea, k1, -⟩ := inN_s za
      subst ea
      obtain ⟨f', t1, t2, t3, t4⟩ := mo_LR C F W k1
      obtain ⟨R, V⟩ := t2 k k1
      have F1 := t4.F F
      have hc : ct (aW S) (aG S k) ≤ aW S * 16 := sm_le (fun r _ => bc_le _)
      refine ⟨f', wp_e (wp_isC mc (wp_nnR ar2 (wp_isC ac2 (wp_inA (n := 0) an2 rfl (by decide) (by decide) ?_)))), t4⟩
      rw [nI_clamp (by decide), wI_I, F.2.2.1.1]
      refine wp_rIe r1 (wp_bf n10 (wp_isC mc (wp_rIe t1 (wp_bf n10 (wp_isC mc (wp_nnR ar18 ?_))))))
      rw [pk_mul]
      refine wp_rIe (mo_manyIn ac18 an18 (by omega) (by decide) R V.lt) ?_
      rw [ct_16 V]
      dsimp only [on]
      rw [if_neg zb.1, if_neg zb.2]
      refine wp_bi (nI_eq (by omega) (by decide)) (fun y => ?_) (fun y => ?_)
      · rw [if_pos y, nb_z V y]; exact wp_s ⟨rfl, rfl⟩
      · rw [if_neg y, bQ_nb W k]
        refine wp_isC mc (wp_isC mc (wp_nnR ar2 (wp_isC ac2 (wp_inA (n := 0) an2 rfl (by decide) (by decide) (wp_s ⟨?_, rfl⟩)))))
        rw [wI_I, t3.1, F1.2.2.1.1]
  · rw [decide_eq_false zb] at r1
    refine ⟨f, wp_e (wp_isC mc (wp_nnR ar2 (wp_isC ac2 (wp_inA (n := 0) an2 rfl (by decide) (by decide) ?_)))), MX.rf⟩
    rw [nI_clamp (by decide), wI_I, F.2.2.1.1]
    refine wp_rIe r1 (wp_bt rfl (wp_s ⟨?_, rfl⟩))
    cases inN a (aR S) with
    | none => rfl
    | some k =>
      dsimp only [on]
      by_cases y : b < nI (aV S)
      · rw [if_pos y]
      · by_cases y2 : nI 6 < b
        · rw [if_neg y, if_pos y2]
        · exact absurd ⟨y, y2⟩ zb
theorem m_looks (C : MSH h m) (F : MF f m S) (W : WS S) (a b c d e : Int32) : ∃ f', ev M_Mo_looks 0 0 [some (.ref m), some (.int a), some (.int b), some (.int c), some (.int d), some (.int e), none, none, none] [] (wI h f) = some (some (.int (sLooks S a b c d e)), wI h f') ∧ MX m f f' := by
  have mc := C.1
  have ar2 : hR h m 12 = some (m + 2) := (C.2 1 (by decide)).1
  have an2 : hN h (m + 2) = 2 := (C.2 1 (by decide)).2.1
  have ac2 : hC h (m + 2) = 20 := (C.2 1 (by decide)).2.2
  have ar18 : hR h m 38 = some (m + 18) := (C.2 17 (by decide)).1
  have an18 : hN h (m + 18) = 80 := (C.2 17 (by decide)).2.1
  have ac18 : hC h (m + 18) = 20 := (C.2 17 (by decide)).2.2
  have ar22 : hR h m 43 = some (m + 22) := (C.2 21 (by decide)).1
  have an22 : hN h (m + 22) = 340 := (C.2 21 (by decide)).2.1
  have ac22 : hC h (m + 22) = 20 := (C.2 21 (by decide)).2.2
  have ar23 : hR h m 44 = some (m + 23) := (C.2 22 (by decide)).1
  have an23 : hN h (m + 23) = 340 := (C.2 22 (by decide)).2.1
  have ac23 : hC h (m + 23) = 20 := (C.2 22 (by decide)).2.2
  have ar24 : hR h m 45 = some (m + 24) := (C.2 23 (by decide)).1
  have an24 : hN h (m + 24) = 340 := (C.2 23 (by decide)).2.1
  have ac24 : hC h (m + 24) = 20 := (C.2 23 (by decide)).2.2
  have pr := mo_isRect C F W a b c d e
  rw [r_Mo_looks_0]
  unfold sLooks
  rcases rc_cases S a b c d e (fun k i j l r => nI (sm (fun m => (mt (aV S) i j l r (eb (bQ S k) m)).toNat) (bQ S k).length)) with ⟨z, y⟩ | ⟨z, k, i, j, l, r, ea, eb', ec, ed, ee, k1, k2, k3, k4, k5, k6, k7, y⟩
  · rw [y]
    rw [z] at pr
    exact ⟨f, wp_e (wp_isC mc (wp_rIe pr (wp_bt rfl (wp_s ⟨rfl, rfl⟩)))), MX.rf⟩
  · rw [y]
    rw [z] at pr
    subst ea
    subst eb'
    subst ec
    subst ed
    subst ee
    obtain ⟨f', t1, t2, t3, t4⟩ := mo_LR C F W k1
    have F1 := t4.F F
    have hv : aV S ≤ 4 := W.2.2.1.1.2.1
    have h16 : aW S ≤ 16 := lv_p hv
    have hl := bQ_len W k
    refine ⟨f', wp_e (wp_isC mc (wp_rIe pr (wp_bf n10 (wp_isC mc (wp_rIe t1 ?_))))), t4⟩
    have L : ∀ q n, n + q = (bQ S k).length → ev M_Mo_looks 0 19 [some (.ref m), none, some (.int (nI i)), some (.int (nI j)), some (.int (nI l)), some (.int (nI r)), some (.int (nI (sm (fun m => (mt (aV S) i j l r (eb (bQ S k) m)).toNat) n))), some (.int (nI n)), none] [] (wI h f') = some (some (.int (nI (sm (fun m => (mt (aV S) i j l r (eb (bQ S k) m)).toNat) (bQ S k).length))), wI h f') := by
      intro q
      induction q with
      | zero =>
        intro n hn
        have : n = (bQ S k).length := by omega
        rw [r_Mo_looks_19]
        refine wp_e (wp_isC mc ?_)
        rw [wI_I, t3.1, this]
        exact wp_bf (by rw [nI_ltI (by omega) (by omega)]; omega) (wp_s ⟨rfl, rfl⟩)
      | succ q ih =>
        intro n hn
        have ih := ih (n + 1) (by omega)
        rw [sm] at ih
        obtain ⟨q1, q2, q3, -⟩ := t3.2 n _ (eb_at (by omega))
        have ok := bQ_ok W k _ (List.mem_of_getElem? (eb_at (Q := bQ S k) (i := n) (by omega)))
        have hs := okQ_sh ok
        have o2 := ok.2.1
        have hp : 2 ^ aV S ≤ 16 := h16
        have hpp := Nat.two_pow_pos (aV S - (eb (bQ S k) n).1)
        rw [r_Mo_looks_19]
        simp only [r_Mo_looks_63]
        refine wp_e (wp_isC mc ?_)
        rw [wI_I, t3.1]
        refine wp_bt (by rw [nI_ltI (by omega) (by omega)]; omega) (wp_isC mc (wp_rIe (mo_wide C F1.2.2.1.1 hv) (wp_isC mc (wp_nnR ar22 (wp_isC ac22 (wp_inA an22 rfl (by omega) (by omega) (wp_isC mc (wp_nnR ar23 (wp_isC ac23 (wp_inA an23 rfl (by omega) (by omega) ?_))))))))))
        rw [nI_clamp (by omega), wI_I, q1, q2, nm_shr (by omega) (by omega), show 2 ^ aV S / 2 ^ (eb (bQ S k) n).1 = 2 ^ (aV S - (eb (bQ S k) n).1) from Nat.pow_div o2 (by decide)]
        have no : ∀ (hz : mt (aV S) i j l r (eb (bQ S k) n) = false), wp (ev M_Mo_looks 0 65 [some (.ref m), none, some (.int (nI i)), some (.int (nI j)), some (.int (nI l)), some (.int (nI r)), none, some (.int (nI n)), none] [(.int (nI 0)), (.int (nI (sm (fun m => (mt (aV S) i j l r (eb (bQ S k) m)).toNat) n)))] (wI h f')) (fun a b => a = some (Value.int (nI (sm (fun m => (mt (aV S) i j l r (eb (bQ S k) m)).toNat) (bQ S k).length))) ∧ b = wI h f') := fun hz => by
          rw [hz] at ih
          rw [r_Mo_looks_65, nI_add, nI_add]
          exact wp_of ih ⟨rfl, rfl⟩
        refine wp_bi (nI_ltI (by omega) (by omega)) (fun y1 => no (by unfold mt; rw [decide_eq_false (show ¬ (eb (bQ S k) n).2.1 * 2 ^ (aV S - (eb (bQ S k) n).1) ≤ j by omega)]; rfl)) (fun y1 => ?_)
        refine wp_isC mc (wp_nnR ar23 (wp_isC ac23 (wp_inA an23 rfl (by omega) (by omega) ?_)))
        rw [q2, nI_add]
        refine wp_bi (nI_ltI (by omega) (by omega)) (fun y2 => ?_) (fun y2 => no (by unfold mt; rw [decide_eq_false (show ¬ i < (eb (bQ S k) n).2.1 * 2 ^ (aV S - (eb (bQ S k) n).1) + 2 ^ (aV S - (eb (bQ S k) n).1) from y2)]; simp))
        refine wp_isC mc (wp_nnR ar24 (wp_isC ac24 (wp_inA an24 rfl (by omega) (by omega) ?_)))
        rw [q3]
        refine wp_bi (nI_ltI (by omega) (by omega)) (fun y3 => no (by unfold mt; rw [decide_eq_false (show ¬ (eb (bQ S k) n).2.2 * 2 ^ (aV S - (eb (bQ S k) n).1) ≤ r by omega)]; simp)) (fun y3 => ?_)
        refine wp_isC mc (wp_nnR ar24 (wp_isC ac24 (wp_inA an24 rfl (by omega) (by omega) ?_)))
        rw [q3, nI_add]
        refine wp_bi (nI_ltI (by omega) (by omega)) (fun y4 => ?_) (fun y4 => no (by unfold mt; rw [decide_eq_false (show ¬ l < (eb (bQ S k) n).2.2 * 2 ^ (aV S - (eb (bQ S k) n).1) + 2 ^ (aV S - (eb (bQ S k) n).1) from y4)]; simp))
        have hz : mt (aV S) i j l r (eb (bQ S k) n) = true := by
          unfold mt
          rw [decide_eq_true (show (eb (bQ S k) n).2.1 * 2 ^ (aV S - (eb (bQ S k) n).1) ≤ j by omega), decide_eq_true y2, decide_eq_true (show (eb (bQ S k) n).2.2 * 2 ^ (aV S - (eb (bQ S k) n).1) ≤ r by omega), decide_eq_true y4]
          rfl
        rw [hz] at ih
        rw [r_Mo_looks_65, nI_add, nI_add]
        exact wp_of ih ⟨rfl, rfl⟩
    exact wp_of (L (bQ S k).length 0 (by omega)) ⟨rfl, rfl⟩
end
