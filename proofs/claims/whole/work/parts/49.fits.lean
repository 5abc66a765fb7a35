/-! Which pairs fit: gathered, counted, found; the best block. -/
theorem dstep {f : Nat → Nat → Int32} {g n i : Nat} {v : Int32} {D F : Rw} (hi : i < 16) (hv : v = nI (D i)) : up2 (gw f g n (fun r => if r < i then D r else F r)) (g + 1) i v = gw f g n (fun r => if r < i + 1 then D r else F r) := by
  rw [hv, gw_u hi]
  apply gw_c
  intro r _
  ((repeat' split) <;> (try dsimp only) <;> (repeat' split) <;> (first | rfl | (exfalso; omega) | (subst_vars; rfl) | (subst_vars; exfalso; omega)))
theorem sg_drop {h : MH} {f : Nat → Nat → Int32} {s v tm i : Nat} {a : Bool} {G F : Rw} {se : List Sn} {e : Sn} (S : IS h s) (I : ISF f s v G true se tm) (V : GW (2 ^ v) G) (hv : v ≤ 4) (hi : se[i]? = some e) (hs : se.length ≤ 30) (hl : e.1 ≤ v) (hb : e.2.1 < 2 ^ (2 * e.1)) (fa : f s 12 = nI a.toNat) (FF : GF f (s + 10) (2 ^ v) F) (FW : GW (2 ^ v) F) :
    ev M_Sightings_dropUnfit 0 0 [some (.ref s), some (.int (nI i)), none, none, none, none, none, none, none, none, none, none, none] [] (wI h f) = some (none, wI h (gw (up2 f s 12 (nI (a && fz (nI (cb v e.1 G e.2.1)) e).toNat)) (s + 10) (2 ^ v) (du v G e F))) := by
  obtain ⟨i1, i4, j4, i5, c5, n5, i6, c6, n6, i7, c7, n7, i8, c8, n8, i9, c9, n9, i10, c10, n10, i11, c11, n11, i13, j13, -⟩ := id S
  obtain ⟨t0, t1, t2, t3, t4, t5⟩ := id I
  obtain ⟨w1, w2, w3, w4, w5, w6, w7⟩ := t5 i e hi
  have hil : i < se.length := (List.getElem?_eq_some_iff.mp hi).1
  have hn := lv_p hv
  obtain ⟨g1, g2, g3, g4⟩ := id j4
  obtain ⟨d1, d2, d3, d4⟩ := id j13
  have FG := t4 rfl
  have hp0 := Nat.two_pow_pos (v - e.1)
  have hb2 : e.2.1 / 2 ^ e.1 < 2 ^ 16 := by
    have := Nat.div_le_self e.2.1 (2 ^ e.1)
    have h8 : 2 ^ (2 * e.1) ≤ 2 ^ 8 := Nat.pow_le_pow_right (by decide) (by omega)
    omega
  have hb8 : e.2.1 < 2 ^ 31 := by
    have h8 : 2 ^ (2 * e.1) ≤ 2 ^ 8 := Nat.pow_le_pow_right (by decide) (by omega)
    omega
  have L : ∀ (fA fL fM : Bool) (f : Nat → Nat → Int32), GF f (s + 1) (2 ^ v) G → ∀ k i, i + k = 2 ^ v → ev M_Sightings_dropUnfit 0 83 [some (.ref s), none, some (.int (nI fA.toNat)), some (.int (nI fL.toNat)), some (.int (nI fM.toNat)), none, some (.int (nI (v - e.1))), some (.int (nI (e.2.1 / 2 ^ e.1))), none, some (.int (nI (cmk v e.1 e.2.1))), some (.int (nI i)), none, none] [] (wI h (gw f (s + 10) (2 ^ v) (fun r => if r < i then dur v fA fL fM e G F r else F r))) = some (none, wI h (gw f (s + 10) (2 ^ v) (dur v fA fL fM e G F))) := by
    intro fA fL fM f FG k
    induction k with
    | zero =>
      intro i hi
      have f1 := (gw_f (f := f) (g := s + 10) (n := 2 ^ v) (G := fun r => if r < i then dur v fA fL fM e G F r else F r)).1
      rw [r_Sightings_dropUnfit_83]
      apply wp_e
      repeat (first | refine wp_isC (by assumption) ?_ | refine wp_nnR (by assumption) ?_ | refine wp_inA (by assumption) rfl (by omega) (by omega) ?_ | refine wp_isZ (by first | decide | exact b01z _) ?_ | refine wp_bt (by (first | (simp (disch := omega) only [wI_I, wI_s, nI_add, pk_mul, nI_ltI, nI_leI, nI_eq, nI_clamp, nm_or, nm_and, nm_xor, nm_nd, nm_one, nm_shr, nm_b2, Bool.false_eq_true, Bool.true_eq_false, not_false_eq_true, not_true_eq_false, reduceCtorEq, f1]; done) | (simp (disch := omega) only [wI_I, wI_s, nI_add, pk_mul, nI_ltI, nI_leI, nI_eq, nI_clamp, nm_or, nm_and, nm_xor, nm_nd, nm_one, nm_shr, nm_b2, Bool.false_eq_true, Bool.true_eq_false, not_false_eq_true, not_true_eq_false, reduceCtorEq, f1]; omega) | omega)) ?_ | refine wp_bf (by (first | (simp (disch := omega) only [wI_I, wI_s, nI_add, pk_mul, nI_ltI, nI_leI, nI_eq, nI_clamp, nm_or, nm_and, nm_xor, nm_nd, nm_one, nm_shr, nm_b2, Bool.false_eq_true, Bool.true_eq_false, not_false_eq_true, not_true_eq_false, reduceCtorEq, f1]; done) | (simp (disch := omega) only [wI_I, wI_s, nI_add, pk_mul, nI_ltI, nI_leI, nI_eq, nI_clamp, nm_or, nm_and, nm_xor, nm_nd, nm_one, nm_shr, nm_b2, Bool.false_eq_true, Bool.true_eq_false, not_false_eq_true, not_true_eq_false, reduceCtorEq, f1]; omega) | omega)) ?_ | refine wp_nz (by first | decide | exact nz_n (by omega) (by omega)) ?_ | (simp (disch := omega) only [wI_I, wI_s, nI_add, pk_mul, nI_ltI, nI_leI, nI_eq, nI_clamp, nm_or, nm_and, nm_xor, nm_nd, nm_one, nm_shr, nm_b2, Bool.false_eq_true, Bool.true_eq_false, not_false_eq_true, not_true_eq_false, reduceCtorEq, up2_a, up2_k, up2_s, gw_o, f1]))
      refine wp_s ⟨rfl, congrArg (wI h) (gw_c fun r _ => ?_)⟩
      by_cases q : r < i
      · rw [if_pos q]
      · rw [if_neg q]
        have := FW.2.2 r (by omega)
        unfold dur nd; rw [this]; simp
    | succ k ih =>
      intro i hi
      have ih := ih (i + 1) (by omega)
      have f1 := (gw_f (f := f) (g := s + 10) (n := 2 ^ v) (G := fun r => if r < i then dur v fA fL fM e G F r else F r)).1
      have f2 := (gw_f (f := f) (g := s + 10) (n := 2 ^ v) (G := fun r => if r < i then dur v fA fL fM e G F r else F r)).2 i (by omega)
      rw [show (fun r => if r < i then dur v fA fL fM e G F r else F r) i = F i from if_neg (by omega)] at f2
      have f3 : gw f (s + 10) (2 ^ v) (fun r => if r < i then dur v fA fL fM e G F r else F r) (s + 1 + 1) i = nI (G i) := by rw [gw_o (by omega) (by omega)]; exact FG.2 i (by omega)
      have key : ev M_Sightings_dropUnfit 0 97 [some (.ref s), none, some (.int (nI fA.toNat)), some (.int (nI fL.toNat)), some (.int (nI fM.toNat)), none, some (.int (nI (v - e.1))), some (.int (nI (e.2.1 / 2 ^ e.1))), none, some (.int (nI (cmk v e.1 e.2.1))), some (.int (nI i)), none, none] [(.int (nI (ibk v e.1 e.2.1 i)))] (wI h (gw f (s + 10) (2 ^ v) (fun r => if r < i then dur v fA fL fM e G F r else F r))) = some (none, wI h (gw f (s + 10) (2 ^ v) (dur v fA fL fM e G F))) := by
        rw [r_Sightings_dropUnfit_97]
        simp only [r_Sightings_dropUnfit_106, r_Sightings_dropUnfit_120, r_Sightings_dropUnfit_135]
        apply wp_e
        generalize hI : ibk v e.1 e.2.1 i = B at *
        cases fA <;> cases fL <;> cases fM <;>
          ((repeat (first | refine wp_bt rfl ?_ | refine wp_bf (by decide) ?_ | refine wp_isC (by assumption) ?_ | refine wp_nnR (by assumption) ?_ | refine wp_inA (by assumption) rfl (by omega) (by omega) ?_)) <;>
           (simp (disch := omega) only [wI_I, wI_s, nI_clamp, f2, f3, nI_add]) <;>
           (rw [dstep (by omega) (by
              unfold dur
              simp only [hI, and_or3, nm_nd, nm_and, nm_or, nm_a0, if_true, Bool.false_eq_true, if_false, Nat.zero_or, Nat.or_zero, Nat.and_zero, Nat.and_or_distrib_left])]) <;>
           exact wp_of ih ⟨rfl, rfl⟩)
      rw [r_Sightings_dropUnfit_83]
      apply wp_e
      repeat (first | refine wp_isC (by assumption) ?_ | refine wp_nnR (by assumption) ?_ | refine wp_inA (by assumption) rfl (by omega) (by omega) ?_ | refine wp_isZ (by first | decide | exact b01z _) ?_ | refine wp_bt (by (first | (simp (disch := omega) only [wI_I, wI_s, nI_add, pk_mul, nI_ltI, nI_leI, nI_eq, nI_clamp, nm_or, nm_and, nm_xor, nm_nd, nm_one, nm_shr, nm_b2, Bool.false_eq_true, Bool.true_eq_false, not_false_eq_true, not_true_eq_false, reduceCtorEq, f1]; done) | (simp (disch := omega) only [wI_I, wI_s, nI_add, pk_mul, nI_ltI, nI_leI, nI_eq, nI_clamp, nm_or, nm_and, nm_xor, nm_nd, nm_one, nm_shr, nm_b2, Bool.false_eq_true, Bool.true_eq_false, not_false_eq_true, not_true_eq_false, reduceCtorEq, f1]; omega) | omega)) ?_ | refine wp_bf (by (first | (simp (disch := omega) only [wI_I, wI_s, nI_add, pk_mul, nI_ltI, nI_leI, nI_eq, nI_clamp, nm_or, nm_and, nm_xor, nm_nd, nm_one, nm_shr, nm_b2, Bool.false_eq_true, Bool.true_eq_false, not_false_eq_true, not_true_eq_false, reduceCtorEq, f1]; done) | (simp (disch := omega) only [wI_I, wI_s, nI_add, pk_mul, nI_ltI, nI_leI, nI_eq, nI_clamp, nm_or, nm_and, nm_xor, nm_nd, nm_one, nm_shr, nm_b2, Bool.false_eq_true, Bool.true_eq_false, not_false_eq_true, not_true_eq_false, reduceCtorEq, f1]; omega) | omega)) ?_ | refine wp_nz (by first | decide | exact nz_n (by omega) (by omega)) ?_ | (simp (disch := omega) only [wI_I, wI_s, nI_add, pk_mul, nI_ltI, nI_leI, nI_eq, nI_clamp, nm_or, nm_and, nm_xor, nm_nd, nm_one, nm_shr, nm_b2, Bool.false_eq_true, Bool.true_eq_false, not_false_eq_true, not_true_eq_false, reduceCtorEq, up2_a, up2_k, up2_s, gw_o, f1]))
      have hi2 := Nat.div_le_self i (2 ^ (v - e.1))
      by_cases q : i / 2 ^ (v - e.1) = e.2.1 / 2 ^ e.1
      · rw [show ibk v e.1 e.2.1 i = cmk v e.1 e.2.1 from if_pos q] at key
        exact wp_bt (by rw [q]) (wp_of key ⟨rfl, rfl⟩)
      · rw [show ibk v e.1 e.2.1 i = 0 from if_neg q] at key
        exact wp_bf (by rw [nI_eq (by omega) (by omega)]; exact q) (wp_of key ⟨rfl, rfl⟩)
  have fw := fun x => sg_fw (x := x) S I hi hs
  have key : ev M_Sightings_dropUnfit 0 79 [some (.ref s), none, some (.int (nI (fz (nI (cb v e.1 G e.2.1)) e).toNat)), some (.int (nI (fz (nI (cb v e.1 G e.2.1) - nI 1) e).toNat)), some (.int (nI (fz (nI (cb v e.1 G e.2.1 + 1)) e).toNat)), none, some (.int (nI (v - e.1))), some (.int (nI (e.2.1 / 2 ^ e.1))), none, some (.int (nI (cmk v e.1 e.2.1))), none, none, none] [(.int (nI (a && fz (nI (cb v e.1 G e.2.1)) e).toNat)), (.ref s)] (wI h f) = some (none, wI h (gw (up2 f s 12 (nI (a && fz (nI (cb v e.1 G e.2.1)) e).toNat)) (s + 10) (2 ^ v) (du v G e F))) := by
    rw [r_Sightings_dropUnfit_79]
    apply wp_e
    repeat (first | refine wp_isC (by assumption) ?_ | refine wp_nnR (by assumption) ?_ | refine wp_inA (by assumption) rfl (by omega) (by omega) ?_ | refine wp_isZ (by first | decide | exact b01z _) ?_ | refine wp_bt (by (first | (simp (disch := omega) only [wI_I, wI_s, nI_add, pk_mul, nI_ltI, nI_leI, nI_eq, nI_clamp, nm_or, nm_and, nm_xor, nm_nd, nm_one, nm_shr, nm_b2, Bool.false_eq_true, Bool.true_eq_false, not_false_eq_true, not_true_eq_false, reduceCtorEq]; done) | (simp (disch := omega) only [wI_I, wI_s, nI_add, pk_mul, nI_ltI, nI_leI, nI_eq, nI_clamp, nm_or, nm_and, nm_xor, nm_nd, nm_one, nm_shr, nm_b2, Bool.false_eq_true, Bool.true_eq_false, not_false_eq_true, not_true_eq_false, reduceCtorEq]; omega) | omega)) ?_ | refine wp_bf (by (first | (simp (disch := omega) only [wI_I, wI_s, nI_add, pk_mul, nI_ltI, nI_leI, nI_eq, nI_clamp, nm_or, nm_and, nm_xor, nm_nd, nm_one, nm_shr, nm_b2, Bool.false_eq_true, Bool.true_eq_false, not_false_eq_true, not_true_eq_false, reduceCtorEq]; done) | (simp (disch := omega) only [wI_I, wI_s, nI_add, pk_mul, nI_ltI, nI_leI, nI_eq, nI_clamp, nm_or, nm_and, nm_xor, nm_nd, nm_one, nm_shr, nm_b2, Bool.false_eq_true, Bool.true_eq_false, not_false_eq_true, not_true_eq_false, reduceCtorEq]; omega) | omega)) ?_ | refine wp_nz (by first | decide | exact nz_n (by omega) (by omega)) ?_ | (simp (disch := omega) only [wI_I, wI_s, nI_add, pk_mul, nI_ltI, nI_leI, nI_eq, nI_clamp, nm_or, nm_and, nm_xor, nm_nd, nm_one, nm_shr, nm_b2, Bool.false_eq_true, Bool.true_eq_false, not_false_eq_true, not_true_eq_false, reduceCtorEq, up2_a, up2_k, up2_s, gw_o]))
    have FF' : GF (up2 f s 12 (nI (a && fz (nI (cb v e.1 G e.2.1)) e).toNat)) (s + 10) (2 ^ v) F := GF_up2 (by omega) (by omega) FF
    have FG' : GF (up2 f s 12 (nI (a && fz (nI (cb v e.1 G e.2.1)) e).toNat)) (s + 1) (2 ^ v) G := GF_up2 (by omega) (by omega) FG
    have := L (fz (nI (cb v e.1 G e.2.1)) e) (fz (nI (cb v e.1 G e.2.1) - nI 1) e) (fz (nI (cb v e.1 G e.2.1 + 1)) e) _ FG' (2 ^ v) 0 (by omega)
    rw [gw_c (H := F) (fun r _ => if_neg (by omega)), gw_s FF'] at this
    exact wp_of this ⟨rfl, rfl⟩
  rw [r_Sightings_dropUnfit_0]
  apply wp_e
  refine wp_isC i1 (wp_nnR i8 (wp_isC c8 (wp_inA n8 rfl (by omega) (by omega) (wp_isC i1 ?_))))
  rw [wI_I, nI_clamp (by omega), w4]
  refine wp_rIe (fw _) ?_
  refine wp_isC i1 (wp_nnR i8 (wp_isC c8 (wp_inA n8 rfl (by omega) (by omega) (wp_isC i1 ?_))))
  rw [wI_I, w4]
  refine wp_rIe (fw _) ?_
  refine wp_isC i1 (wp_nnR i8 (wp_isC c8 (wp_inA n8 rfl (by omega) (by omega) (wp_isC i1 ?_))))
  rw [wI_I, w4, nI_add]
  refine wp_rIe (fw _) ?_
  refine wp_isC i1 (wp_nnR i5 (wp_isC c5 (wp_inA n5 rfl (by omega) (by omega) (wp_isC i1 (wp_isC i1 (wp_nnR i6 (wp_isC c6 (wp_inA n6 rfl (by omega) (by omega) (wp_isC i1 (wp_nnR i6 (wp_isC c6 (wp_inA n6 rfl (by omega) (by omega) (wp_isC i1 ?_)))))))))))))
  simp only [wI_I, w1, w2, t3, fa]
  simp only [pk_sub hl, cmk_eq hv hl, nm_shr (show e.1 < 32 by omega) hb8, r_Sightings_dropUnfit_77]
  cases a with
  | false => exact wp_bt rfl (wp_of key ⟨rfl, rfl⟩)
  | true =>
    refine wp_bf (by decide) ?_
    rw [Bool.true_and] at key
    rw [Bool.true_and]
    cases z : fz (nI (cb v e.1 G e.2.1)) e with
    | false => rw [z] at key; exact wp_bt rfl (wp_of key ⟨rfl, rfl⟩)
    | true => rw [z] at key; exact wp_bf (by decide) (wp_of key ⟨rfl, rfl⟩)
