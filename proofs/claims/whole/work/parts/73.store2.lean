/-! The class's methods: a new beginning, a text stored. -/
theorem pt_anew {h : MH} {f : Nat → Nat → Int32} {x pa pb s1 v1 t : Nat} {q : Pn} {cx : Nat → List Nat} (C : CSH (sR h (x + 39) 2 pa) x pa pb s1 v1) (P : WPn q cx) (N : PNF f (hL h) pa (vNr q) 1 q) (tm : f (x + 168) 0 = nI t) :
    ∃ f', ev M_PT_startAnew 0 0 [some (.ref x), none] [] (wI h f) = some (none, wI (sR h (x + 39) 2 pa) f') ∧ f' (x + 39) 1 = nI (vDw q) ∧ (∀ k, k < vNr q → GF f' (x + 44 + 2 * k) (2 ^ vLv q) (gA q cx (iA q) k)) ∧ HF f' (x + 86) 0 0 0 (fun _ => none) (fun _ _ => 0) (fun _ => 0) (fun _ => 0) ∧ (∀ b, b < 3 → f' (x + 132 + 12 * b) 0 = nI 0) ∧ ISF f' (x + 168) (vLv q) (gA q cx (iA q) 0) (decide (0 < vNr q)) [] t ∧ f' x 14 = nI 0 ∧ (∀ k, k ≠ 14 → f' x k = f x k) ∧ ∀ a, a ≠ x → a < x + 39 ∨ x + 184 ≤ a → f' a = f a := by
  obtain ⟨⟨c0, q0, q2, q3, q4, q5, q6, q7, q8, q9, q10, q11, q12, q13⟩, PA, PB, RSH, HSH, ⟨bC, bN, bR⟩, ISH, TSH, TSH2, GSH, SSH, ⟨lC, lN1, tC, tN⟩, ⟨rC, rR1, sC, sR1, wC, wN⟩, STR, ⟨sx1, sx2, x0⟩, PP⟩ := id C
  have hpa := PPa C
  obtain ⟨y0, y1, y2, y3, y4, y5, y6, y7, y8, y9, y10⟩ := id N
  obtain ⟨b, px1, px2, px3, px4⟩ := id P
  have hr5 : vNr q ≤ 5 := b.2.2.2.1
  have p1 := PA.1
  have r1 := RSH.1
  have r2 := RSH.2.1
  have r3 := RSH.2.2.1
  have r4 := RSH.2.2.2.1
  have hSH := HSH.1
  have iSH := ISH.1
  have hxR : ∀ a k, a ≠ x + 39 → hR h a k = hR (sR h (x + 39) 2 pa) a k := fun a k ha => by
    show _ = up2 (hR h) (x + 39) 2 (some pa) a k
    rw [up2_a ha]
  have q2' : hR (wI h f) x 2 = some pa := (hxR x 2 (by omega)).trans q2
  have q5' : hR (wI h f) x 5 = some (x + 39) := (hxR x 5 (by omega)).trans q5
  -- relations begun
  have RB : ∃ f1, ev M_Relations_begin 0 0 [some (.ref (x + 39)), some (.ref pa), none] [] (wI h f) = some (none, wI (sR h (x + 39) 2 pa) f1) ∧ f1 (x + 39) 1 = nI (vDw q) ∧ (∀ k, k < vNr q → GF f1 (x + 44 + 2 * k) (2 ^ vLv q) (gA q cx (iA q) k)) ∧ Fr (x + 39) (x + 86) f f1 := by
    have S0 : ∃ S : Abs, aQ S = q ∧ aX S = cx := ⟨(fun _ => 0, 0, 0, none, q, cx, 0, 0, fun _ => (fun _ _ => 0, 0), fun _ => none, [], [], 0), rfl, rfl⟩
    obtain ⟨S, eQ, eX⟩ := S0
    have L : ∀ k i f1, i + k = vNr q → f1 (x + 39) 1 = nI (vDw q) → Fr (x + 39) (x + 86) f f1 → (∀ j, j < i → GF f1 (x + 44 + 2 * j) (2 ^ vLv q) (vGr q j)) → ∃ f2, ev M_Relations_begin 0 10 [some (.ref (x + 39)), some (.ref pa), some (.int (nI i))] [] (wI (sR h (x + 39) 2 pa) f1) = some (none, wI (sR h (x + 39) 2 pa) f2) ∧ f2 (x + 39) 1 = nI (vDw q) ∧ (∀ k, k < vNr q → GF f2 (x + 44 + 2 * k) (2 ^ vLv q) (gA q cx (iA q) k)) ∧ Fr (x + 39) (x + 86) f f2 := by
      intro k
      induction k with
      | zero =>
        intro i f1 hi e1 fr hg
        have e : i = vNr q := by omega
        rw [e] at hg ⊢
        have dr := pt_derive (S := S) (h := sR h (x + 39) 2 pa) (f := f1) (A0 := vGr q) (A := iA q) C (by rw [eQ, eX]; exact P) (by show f1 pa 0 = nI (vLv (aQ S)); rw [eQ, fr _ (by omega)]; exact y0) (by rw [eQ, fr _ (by omega)]; exact y6) (by rw [eQ]; intro i c hc; rw [fr _ (by omega)]; exact y7 i c hc) (fun k hk => by
          have hk : k < vNr (aQ S) := hk
          rw [eQ] at hk
          show GF f1 (x + 44 + 2 * k) (2 ^ vLv (aQ S)) (vGr q k) ∧ GW (2 ^ vLv (aQ S)) (vGr q k)
          rw [eQ]
          exact ⟨hg k hk, b.2.2.2.2.2.2.2.2.2.2 k hk⟩) (fun k hk => by
          rw [eQ] at hk
          show _ = if _ then _ else _
          rw [if_pos hk])
        obtain ⟨f2, d1, d2, d3⟩ := dr
        refine ⟨f2, ?_, by rw [d3 _ (by omega)]; exact e1, fun k hk => ?_, fr.tr (d3.up (by omega) (by omega))⟩
        · rw [r_Relations_begin_10]
          apply wp_e
          refine wp_isC p1 ?_
          rw [wI_I, fr _ (by omega), y1]
          exact wp_bf (by rw [nI_ltI (by omega) (by omega)]; omega) (wp_isC r1 (wp_rVe d1 (wp_s ⟨rfl, rfl⟩)))
        · have := d2 k (by show k < vNr (aQ S); rw [eQ]; exact hk)
          have e2 : aW S = 2 ^ vLv q := by show 2 ^ vLv (aQ S) = _; rw [eQ]
          rw [eQ, eX, e2] at this
          exact this
      | succ k ih =>
        intro i f1 hi e1 fr hg
        obtain ⟨t1, t2⟩ := RSH.2.2.2.2.1 i (by omega)
        obtain ⟨u1, u2⟩ := PA.2.2.2.2.2.2.2.2.2.2.2.2.2.2.2.1 i (by omega)
        have p13 := PA.2.2.2.2.2.2.2.2.2.2.2.2.1
        have p14 := PA.2.2.2.2.2.2.2.2.2.2.2.2.2.1
        have p15 := PA.2.2.2.2.2.2.2.2.2.2.2.2.2.2.1
        have t3 := t2.1
        have gi : GF f1 (pa + 7 + 2 * i) (2 ^ vLv q) (vGr q i) := fr.F (by omega) (y9 i (by omega))
        obtain ⟨f2, i1, i2, i3, i4⟩ := ih (i + 1) (gw f1 (x + 44 + 2 * i) (2 ^ vLv q) (vGr q i)) (by omega) (by rw [gw_o (by omega) (by omega)]; exact e1) (fr.tr (Fr.gw (by omega) (by omega))) (fun j hj => by
          by_cases e : j = i
          · rw [e]; exact gw_f
          · exact gw_F (by omega) (hg j (by omega)))
        refine ⟨f2, ?_, i2, i3, i4⟩
        rw [r_Relations_begin_10]
        apply wp_e
        refine wp_isC p1 ?_
        rw [wI_I, fr _ (by omega), y1]
        refine wp_bt (by rw [nI_ltI (by omega) (by omega)]; omega) ?_
        repeat (first | refine wp_isC (by assumption) ?_ | refine wp_nnR (by assumption) ?_ | refine wp_inA (by assumption) rfl (by omega) (by omega) ?_ | refine wp_isZ (by first | decide | exact b01z _) ?_ | refine wp_bt (by (first | (simp (disch := omega) only [wI_I, wI_s, nI_add, pk_mul, nI_ltI, nI_leI, nI_eq, nI_clamp, nm_or, nm_and, nm_xor, nm_nd, nm_one, nm_shr, nm_b2, Bool.false_eq_true, Bool.true_eq_false, not_false_eq_true, not_true_eq_false, reduceCtorEq]; done) | (simp (disch := omega) only [wI_I, wI_s, nI_add, pk_mul, nI_ltI, nI_leI, nI_eq, nI_clamp, nm_or, nm_and, nm_xor, nm_nd, nm_one, nm_shr, nm_b2, Bool.false_eq_true, Bool.true_eq_false, not_false_eq_true, not_true_eq_false, reduceCtorEq]; omega) | omega)) ?_ | refine wp_bf (by (first | (simp (disch := omega) only [wI_I, wI_s, nI_add, pk_mul, nI_ltI, nI_leI, nI_eq, nI_clamp, nm_or, nm_and, nm_xor, nm_nd, nm_one, nm_shr, nm_b2, Bool.false_eq_true, Bool.true_eq_false, not_false_eq_true, not_true_eq_false, reduceCtorEq]; done) | (simp (disch := omega) only [wI_I, wI_s, nI_add, pk_mul, nI_ltI, nI_leI, nI_eq, nI_clamp, nm_or, nm_and, nm_xor, nm_nd, nm_one, nm_shr, nm_b2, Bool.false_eq_true, Bool.true_eq_false, not_false_eq_true, not_true_eq_false, reduceCtorEq]; omega) | omega)) ?_ | refine wp_nz (by first | decide | exact nz_n (by omega) (by omega)) ?_ | (simp (disch := omega) only [wI_I, wI_s, nI_add, pk_mul, nI_ltI, nI_leI, nI_eq, nI_clamp, nm_or, nm_and, nm_xor, nm_nd, nm_one, nm_shr, nm_b2, Bool.false_eq_true, Bool.true_eq_false, not_false_eq_true, not_true_eq_false, reduceCtorEq, up2_a, up2_k, up2_s, gw_o]))
        refine wp_rVe (gq_copy t2 u2 (by omega) gi) ?_
        exact wp_of i1 ⟨rfl, rfl⟩
    obtain ⟨f2, i1, i2, i3, i4⟩ := L (vNr q) 0 (up2 f (x + 39) 1 (nI (vDw q))) (by omega) up2_s (Fr.u2 (by omega) (by omega)) (fun j hj => by omega)
    refine ⟨f2, ?_, i2, i3, i4⟩
    rw [r_Relations_begin_0]
    apply wp_e
    refine wp_isC r1 ?_
    rw [show sR (wI h f) (x + 39) 2 pa = wI (sR h (x + 39) 2 pa) f from rfl]
    refine wp_isC p1 (wp_isC r1 ?_)
    rw [wI_I, y4, wI_s]
    exact wp_of i1 ⟨rfl, rfl⟩
  obtain ⟨f1, a1, a2, a3, a4⟩ := RB
  generalize hf2 : up2 (up2 (up2 f1 (x + 86) 0 (nI 0)) (x + 86) 1 (nI 0)) (x + 86) 2 (nI 0) = f2
  have o2 : ∀ a, a ≠ x + 86 → f2 a = f1 a := fun a ha => by rw [← hf2, up2_a ha, up2_a ha, up2_a ha]
  generalize hf3 : up2 (up2 (up2 f2 (x + 132) 0 (nI 0)) (x + 144) 0 (nI 0)) (x + 156) 0 (nI 0) = f3
  have o3 : ∀ a, a ≠ x + 132 → a ≠ x + 144 → a ≠ x + 156 → f3 a = f2 a := fun a h1 h2 h3 => by rw [← hf3, up2_a h3, up2_a h2, up2_a h1]
  have g3 : ∀ k, k < vNr q → GF f3 (x + 44 + 2 * k) (2 ^ vLv q) (gA q cx (iA q) k) := fun k hk => ⟨by rw [o3 _ (by omega) (by omega) (by omega), o2 _ (by omega)]; exact (a3 k hk).1, fun r hr => by rw [o3 _ (by omega) (by omega) (by omega), o2 _ (by omega)]; exact (a3 k hk).2 r hr⟩
  obtain ⟨n', G', hg, hG⟩ : ∃ n' G', GF f3 (x + 44) n' G' ∧ (0 < vNr q → n' = 2 ^ vLv q ∧ G' = gA q cx (iA q) 0) := by
    by_cases z : 0 < vNr q
    · exact ⟨2 ^ vLv q, _, g3 0 z, fun _ => ⟨rfl, rfl⟩⟩
    · obtain ⟨n', G', w⟩ := GF_sur f3 (x + 44)
      exact ⟨n', G', w, fun w => absurd w z⟩
  have fb : ∀ a, a ≠ x → a < x + 39 ∨ x + 168 ≤ a → f3 a = f a := fun a h0 ha => by rw [o3 a (by omega) (by omega) (by omega), o2 a (by omega), a4 a (by omega)]
  obtain ⟨d0, d1⟩ := RSH.2.2.2.2.1 0 (by decide)
  have sb := sg_begin (h := sR h (x + 39) 2 pa) (f := f3) (s := x + 168) (p := pa) (g := x + 44) (n := n') (lv := vLv q) (nr := vNr q) (G := G') ISH p1 (by rw [fb _ (by omega) (by omega)]; exact y0) (by rw [fb _ (by omega) (by omega)]; exact y1) hr5 d1 (by omega) (by omega) hg
  generalize hf4 : gw (up2 (up2 (up2 f3 (x + 168) 1 (nI 0)) (x + 168) 2 (nI (decide (0 < vNr q)).toNat)) (x + 168) 3 (nI (vLv q))) (x + 168 + 1) n' G' = f4 at sb
  have o4 : ∀ a, a ≠ x + 168 → a ≠ x + 169 → a ≠ x + 170 → f4 a = f3 a := fun a h1 h2 h3 => by rw [← hf4, gw_o (by omega) (by omega), up2_a h1, up2_a h1, up2_a h1]
  refine ⟨up2 f4 x 14 (nI 0), ?_, ?_, ?_, ?_, ?_, ?_, up2_s, ?_, ?_⟩
  · rw [r_PT_startAnew_0]
    apply wp_e
    refine wp_isC c0 (wp_nnR q5' (wp_isC c0 (wp_nnR q2' (wp_isC r1 (wp_rVe a1 (wp_isC c0 (wp_nnR q6 (wp_isC hSH (wp_rVe (hs_forget hSH) ?_)))))))))
    rw [hf2]
    have bx : ∀ i f, i < 3 → ev M_PT_startAnew 0 11 [some (.ref x), some (.int (nI i))] [] (wI (sR h (x + 39) 2 pa) f) = ev M_PT_startAnew 0 11 [some (.ref x), some (.int (nI (i + 1)))] [] (wI (sR h (x + 39) 2 pa) (up2 f (x + 132 + 12 * i) 0 (nI 0))) := by
      intro i f hi
      obtain ⟨b1, b2⟩ := bR i hi
      rw [r_PT_startAnew_11]
      have e1 : ∀ X Y : MRes, br (nI i < nI 3) X Y = X := fun X Y => if_pos (by rw [nI_ltI (by omega) (by decide)]; exact hi)
      rw [e1, nI_clamp (by omega)]
      unfold isC
      rw [if_pos (show hC (wI (sR h (x + 39) 2 pa) f) x = 12 from c0), show hR (wI (sR h (x + 39) 2 pa) f) x 7 = some (x + 131) from q7]
      show (if hC (wI (sR h (x + 39) 2 pa) f) (x + 131) = 25 then inA _ _ _ (nnR (hR (wI (sR h (x + 39) 2 pa) f) (x + 131) i) _) else none) = _
      rw [if_pos (show hC (wI (sR h (x + 39) 2 pa) f) (x + 131) = 25 from bC), show hR (wI (sR h (x + 39) 2 pa) f) (x + 131) i = some (x + 132 + 12 * i) from b1]
      have e2 : ∀ X : MRes, inA (wI (sR h (x + 39) 2 pa) f) (x + 131) (nI i) X = X := fun X => by
        unfold inA; rw [if_neg]
        rw [show hN (wI (sR h (x + 39) 2 pa) f) (x + 131) = 3 from bN]; exact nI_in hi (by decide)
      rw [e2]
      show (if hC (wI (sR h (x + 39) 2 pa) f) (x + 132 + 12 * i) = 1 then _ else none) = _
      rw [if_pos (show hC (wI (sR h (x + 39) 2 pa) f) (x + 132 + 12 * i) = 1 from b2.1)]
      unfold isZ
      rw [if_pos (by decide), nI_add]
      rfl
    rw [bx 0 f2 (by decide), bx 1 _ (by decide), bx 2 _ (by decide), r_PT_startAnew_11]
    rw [show up2 (up2 (up2 f2 (x + 132 + 12 * 0) 0 (nI 0)) (x + 132 + 12 * 1) 0 (nI 0)) (x + 132 + 12 * 2) 0 (nI 0) = f3 from hf3]
    refine wp_bf (by decide) (wp_isC c0 (wp_nnR q8 (wp_isC c0 (wp_nnR q2 (wp_isC c0 (wp_nnR q5 (wp_isC r1 (wp_nnR r2 (wp_isC r3 (wp_inA (n := 0) r4 rfl (by decide) (by decide) ?_))))))))))
    refine wp_nnR d0 (wp_isC iSH (wp_rVe sb (wp_isC c0 (wp_s ⟨rfl, rfl⟩))))
  · rw [up2_a (by omega), o4 _ (by omega) (by omega) (by omega), o3 _ (by omega) (by omega) (by omega), o2 _ (by omega)]; exact a2
  · intro k hk
    exact GF_up2 (by omega) (by omega) ⟨by rw [o4 _ (by omega) (by omega) (by omega)]; exact (g3 k hk).1, fun r hr => by rw [o4 _ (by omega) (by omega) (by omega)]; exact (g3 k hk).2 r hr⟩
  · have ez : up2 f4 x 14 (nI 0) (x + 86) = f2 (x + 86) := by rw [up2_a (by omega), o4 _ (by omega) (by omega) (by omega), o3 _ (by omega) (by omega) (by omega)]
    refine ⟨by rw [ez, ← hf2, up2_k (by decide), up2_k (by decide), up2_s], by rw [ez, ← hf2, up2_k (by decide), up2_s], by rw [ez, ← hf2, up2_s], by decide, by decide, by decide, fun k hk => by omega⟩
  · intro b hb
    rw [up2_a (by omega), o4 _ (by omega) (by omega) (by omega), ← hf3]
    have : b = 0 ∨ b = 1 ∨ b = 2 := by omega
    rcases this with z | z | z <;> subst z
    · rw [up2_a (by omega), up2_a (by omega), show x + 132 + 12 * 0 = x + 132 from rfl, up2_s]
    · rw [up2_a (by omega), show x + 132 + 12 * 1 = x + 144 from rfl, up2_s]
    · rw [show x + 132 + 12 * 2 = x + 156 from rfl, up2_s]
  · have es : ∀ k, up2 f4 x 14 (nI 0) (x + 168) k = f4 (x + 168) k := fun k => by rw [up2_a (by omega)]
    refine ⟨?_, ?_, ?_, ?_, fun z => ?_, fun i e he => by cases he⟩
    · rw [es, ← hf4, gw_o (by omega) (by omega), up2_k (by decide), up2_k (by decide), up2_k (by decide), fb _ (by omega) (by omega)]; exact tm
    · rw [es, ← hf4, gw_o (by omega) (by omega), up2_k (by decide), up2_k (by decide), up2_s]; rfl
    · rw [es, ← hf4, gw_o (by omega) (by omega), up2_k (by decide), up2_s]
    · rw [es, ← hf4, gw_o (by omega) (by omega), up2_s]
    · obtain ⟨z1, z2⟩ := hG (of_decide_eq_true z)
      rw [← z1, ← z2]
      refine GF_up2 (by omega) (by omega) ?_
      rw [← hf4]; exact gw_f
  · intro k hk
    rw [up2_k hk, o4 _ (by omega) (by omega) (by omega), o3 _ (by omega) (by omega) (by omega), o2 _ (by omega), a4 _ (by omega)]
  · intro a h1 h2
    rw [up2_a h1, o4 _ (by omega) (by omega) (by omega), o3 _ (by omega) (by omega) (by omega), o2 _ (by omega), a4 _ (by omega)]
