/-! Two grids joined, one changed over. -/
def jn (w n : Nat) (G H : Nat → Nat) (r : Nat) : Nat :=
  if w = 0 then G r ||| H r else if w = 1 then G r &&& H r else if w = 2 then nd (G r) (H r) else if w = 3 then sf n H (G r) else G r ||| cs n H r
theorem gq_join {h : MH} {f : Nat → Nat → Int32} {g o p n w : Nat} {G H : Nat → Nat} (S : GS h g) (So : GS h o) (Sp : GS h p) (d : g + 1 < o ∨ o + 1 < g) (d2 : g + 1 < p ∨ p + 1 < g) (F : GF f o n G) (F2 : GF f p n H) (V : GW n G) (V2 : GW n H) (hw : w ≤ 4) :
    ev M_Grid_join 0 0 [some (.ref g), some (.int (nI w)), some (.ref o), some (.ref p), none, none] [] (wI h f) = some (none, wI h (gw f g n (fun r => if r < n then jn w n G H r else 0))) := by
  have v1 := V.1
  have L : ∀ k i, i + k = n → ev M_Grid_join 0 7 [some (.ref g), some (.int (nI w)), some (.ref o), some (.ref p), some (.int (nI i)), none] [] (wI h (gw f g n (gn n i (jn w n G H)))) = some (none, wI h (gw f g n (gn n n (jn w n G H)))) := by
    obtain ⟨s1, s2, s3, s4⟩ := id S
    obtain ⟨t1, t2, t3, t4⟩ := id So
    obtain ⟨u1, u2, u3, u4⟩ := id Sp
    intro k
    induction k with
    | zero =>
      intro i hi
      have f1 := (gw_f (f := f) (g := g) (n := n) (G := gn n i (jn w n G H))).1
      rw [r_Grid_join_7]
      apply wp_e
      repeat (first | refine wp_isC (by assumption) ?_ | refine wp_nnR (by assumption) ?_ | refine wp_inA (by assumption) rfl (by omega) (by omega) ?_ | refine wp_isZ (by decide) ?_ | refine wp_bt (by (first | (simp (disch := omega) only [wI_I, wI_s, nI_add, pk_mul, nI_ltI, nI_leI, nI_eq, nI_clamp, nm_or, nm_and, nm_xor, nm_nd, nm_one, nm_shr, nm_b2, Bool.false_eq_true, Bool.true_eq_false, not_false_eq_true, not_true_eq_false, reduceCtorEq, f1]; done) | (simp (disch := omega) only [wI_I, wI_s, nI_add, pk_mul, nI_ltI, nI_leI, nI_eq, nI_clamp, nm_or, nm_and, nm_xor, nm_nd, nm_one, nm_shr, nm_b2, Bool.false_eq_true, Bool.true_eq_false, not_false_eq_true, not_true_eq_false, reduceCtorEq, f1]; omega) | omega)) ?_ | refine wp_bf (by (first | (simp (disch := omega) only [wI_I, wI_s, nI_add, pk_mul, nI_ltI, nI_leI, nI_eq, nI_clamp, nm_or, nm_and, nm_xor, nm_nd, nm_one, nm_shr, nm_b2, Bool.false_eq_true, Bool.true_eq_false, not_false_eq_true, not_true_eq_false, reduceCtorEq, f1]; done) | (simp (disch := omega) only [wI_I, wI_s, nI_add, pk_mul, nI_ltI, nI_leI, nI_eq, nI_clamp, nm_or, nm_and, nm_xor, nm_nd, nm_one, nm_shr, nm_b2, Bool.false_eq_true, Bool.true_eq_false, not_false_eq_true, not_true_eq_false, reduceCtorEq, f1]; omega) | omega)) ?_)
      rw [show i = n by omega]
      exact wp_s ⟨rfl, rfl⟩
    | succ k ih =>
      intro i hi
      have f1 := (gw_f (f := f) (g := g) (n := n) (G := gn n i (jn w n G H))).1
      have Fo := gw_F (n := n) (G := gn n i (jn w n G H)) d F
      have Fp := gw_F (n := n) (G := gn n i (jn w n G H)) d2 F2
      have fo := Fo.2 i (by omega)
      have fp := Fp.2 i (by omega)
      have ih := ih (i + 1) (by omega)
      have hG := V.lt i
      rw [r_Grid_join_7]
      simp only [r_Grid_join_71]
      apply wp_e
      repeat (first | refine wp_isC (by assumption) ?_ | refine wp_nnR (by assumption) ?_ | refine wp_inA (by assumption) rfl (by omega) (by omega) ?_ | refine wp_isZ (by decide) ?_ | refine wp_bt (by (first | (simp (disch := omega) only [wI_I, wI_s, nI_add, pk_mul, nI_ltI, nI_leI, nI_eq, nI_clamp, nm_or, nm_and, nm_xor, nm_nd, nm_one, nm_shr, nm_b2, Bool.false_eq_true, Bool.true_eq_false, not_false_eq_true, not_true_eq_false, reduceCtorEq, f1]; done) | (simp (disch := omega) only [wI_I, wI_s, nI_add, pk_mul, nI_ltI, nI_leI, nI_eq, nI_clamp, nm_or, nm_and, nm_xor, nm_nd, nm_one, nm_shr, nm_b2, Bool.false_eq_true, Bool.true_eq_false, not_false_eq_true, not_true_eq_false, reduceCtorEq, f1]; omega) | omega)) ?_ | refine wp_bf (by (first | (simp (disch := omega) only [wI_I, wI_s, nI_add, pk_mul, nI_ltI, nI_leI, nI_eq, nI_clamp, nm_or, nm_and, nm_xor, nm_nd, nm_one, nm_shr, nm_b2, Bool.false_eq_true, Bool.true_eq_false, not_false_eq_true, not_true_eq_false, reduceCtorEq, f1]; done) | (simp (disch := omega) only [wI_I, wI_s, nI_add, pk_mul, nI_ltI, nI_leI, nI_eq, nI_clamp, nm_or, nm_and, nm_xor, nm_nd, nm_one, nm_shr, nm_b2, Bool.false_eq_true, Bool.true_eq_false, not_false_eq_true, not_true_eq_false, reduceCtorEq, f1]; omega) | omega)) ?_)
      simp (disch := omega) only [wI_I, wI_s, nI_add, pk_mul, nI_ltI, nI_leI, nI_eq, nI_clamp, nm_or, nm_and, nm_xor, nm_nd, nm_one, nm_shr, nm_b2, Bool.false_eq_true, Bool.true_eq_false, not_false_eq_true, not_true_eq_false, reduceCtorEq, fo]
      by_cases w0 : w = 0
      · repeat (first | refine wp_isC (by assumption) ?_ | refine wp_nnR (by assumption) ?_ | refine wp_inA (by assumption) rfl (by omega) (by omega) ?_ | refine wp_isZ (by decide) ?_ | refine wp_bt (by (first | (simp (disch := omega) only [wI_I, wI_s, nI_add, pk_mul, nI_ltI, nI_leI, nI_eq, nI_clamp, nm_or, nm_and, nm_xor, nm_nd, nm_one, nm_shr, nm_b2, Bool.false_eq_true, Bool.true_eq_false, not_false_eq_true, not_true_eq_false, reduceCtorEq, w0]; done) | (simp (disch := omega) only [wI_I, wI_s, nI_add, pk_mul, nI_ltI, nI_leI, nI_eq, nI_clamp, nm_or, nm_and, nm_xor, nm_nd, nm_one, nm_shr, nm_b2, Bool.false_eq_true, Bool.true_eq_false, not_false_eq_true, not_true_eq_false, reduceCtorEq, w0]; omega) | omega)) ?_ | refine wp_bf (by (first | (simp (disch := omega) only [wI_I, wI_s, nI_add, pk_mul, nI_ltI, nI_leI, nI_eq, nI_clamp, nm_or, nm_and, nm_xor, nm_nd, nm_one, nm_shr, nm_b2, Bool.false_eq_true, Bool.true_eq_false, not_false_eq_true, not_true_eq_false, reduceCtorEq, w0]; done) | (simp (disch := omega) only [wI_I, wI_s, nI_add, pk_mul, nI_ltI, nI_leI, nI_eq, nI_clamp, nm_or, nm_and, nm_xor, nm_nd, nm_one, nm_shr, nm_b2, Bool.false_eq_true, Bool.true_eq_false, not_false_eq_true, not_true_eq_false, reduceCtorEq, w0]; omega) | omega)) ?_)
        simp (disch := omega) only [wI_I, wI_s, nI_add, pk_mul, nI_ltI, nI_leI, nI_eq, nI_clamp, nm_or, nm_and, nm_xor, nm_nd, nm_one, nm_shr, nm_b2, Bool.false_eq_true, Bool.true_eq_false, not_false_eq_true, not_true_eq_false, reduceCtorEq, fo, fp]
        rw [gn_u (by omega) v1 (by unfold jn; rw [if_pos w0])]
        exact wp_of ih ⟨rfl, rfl⟩
      refine wp_bf (by (first | (simp (disch := omega) only [wI_I, wI_s, nI_add, pk_mul, nI_ltI, nI_leI, nI_eq, nI_clamp, nm_or, nm_and, nm_xor, nm_nd, nm_one, nm_shr, nm_b2, Bool.false_eq_true, Bool.true_eq_false, not_false_eq_true, not_true_eq_false, reduceCtorEq]; done) | (simp (disch := omega) only [wI_I, wI_s, nI_add, pk_mul, nI_ltI, nI_leI, nI_eq, nI_clamp, nm_or, nm_and, nm_xor, nm_nd, nm_one, nm_shr, nm_b2, Bool.false_eq_true, Bool.true_eq_false, not_false_eq_true, not_true_eq_false, reduceCtorEq]; omega) | omega)) ?_
      by_cases w1 : w = 1
      · repeat (first | refine wp_isC (by assumption) ?_ | refine wp_nnR (by assumption) ?_ | refine wp_inA (by assumption) rfl (by omega) (by omega) ?_ | refine wp_isZ (by decide) ?_ | refine wp_bt (by (first | (simp (disch := omega) only [wI_I, wI_s, nI_add, pk_mul, nI_ltI, nI_leI, nI_eq, nI_clamp, nm_or, nm_and, nm_xor, nm_nd, nm_one, nm_shr, nm_b2, Bool.false_eq_true, Bool.true_eq_false, not_false_eq_true, not_true_eq_false, reduceCtorEq, w1]; done) | (simp (disch := omega) only [wI_I, wI_s, nI_add, pk_mul, nI_ltI, nI_leI, nI_eq, nI_clamp, nm_or, nm_and, nm_xor, nm_nd, nm_one, nm_shr, nm_b2, Bool.false_eq_true, Bool.true_eq_false, not_false_eq_true, not_true_eq_false, reduceCtorEq, w1]; omega) | omega)) ?_ | refine wp_bf (by (first | (simp (disch := omega) only [wI_I, wI_s, nI_add, pk_mul, nI_ltI, nI_leI, nI_eq, nI_clamp, nm_or, nm_and, nm_xor, nm_nd, nm_one, nm_shr, nm_b2, Bool.false_eq_true, Bool.true_eq_false, not_false_eq_true, not_true_eq_false, reduceCtorEq, w1]; done) | (simp (disch := omega) only [wI_I, wI_s, nI_add, pk_mul, nI_ltI, nI_leI, nI_eq, nI_clamp, nm_or, nm_and, nm_xor, nm_nd, nm_one, nm_shr, nm_b2, Bool.false_eq_true, Bool.true_eq_false, not_false_eq_true, not_true_eq_false, reduceCtorEq, w1]; omega) | omega)) ?_)
        simp (disch := omega) only [wI_I, wI_s, nI_add, pk_mul, nI_ltI, nI_leI, nI_eq, nI_clamp, nm_or, nm_and, nm_xor, nm_nd, nm_one, nm_shr, nm_b2, Bool.false_eq_true, Bool.true_eq_false, not_false_eq_true, not_true_eq_false, reduceCtorEq, fo, fp]
        rw [gn_u (by omega) v1 (by unfold jn; rw [if_neg w0, if_pos w1])]
        exact wp_of ih ⟨rfl, rfl⟩
      refine wp_bf (by (first | (simp (disch := omega) only [wI_I, wI_s, nI_add, pk_mul, nI_ltI, nI_leI, nI_eq, nI_clamp, nm_or, nm_and, nm_xor, nm_nd, nm_one, nm_shr, nm_b2, Bool.false_eq_true, Bool.true_eq_false, not_false_eq_true, not_true_eq_false, reduceCtorEq]; done) | (simp (disch := omega) only [wI_I, wI_s, nI_add, pk_mul, nI_ltI, nI_leI, nI_eq, nI_clamp, nm_or, nm_and, nm_xor, nm_nd, nm_one, nm_shr, nm_b2, Bool.false_eq_true, Bool.true_eq_false, not_false_eq_true, not_true_eq_false, reduceCtorEq]; omega) | omega)) ?_
      by_cases w2 : w = 2
      · repeat (first | refine wp_isC (by assumption) ?_ | refine wp_nnR (by assumption) ?_ | refine wp_inA (by assumption) rfl (by omega) (by omega) ?_ | refine wp_isZ (by decide) ?_ | refine wp_bt (by (first | (simp (disch := omega) only [wI_I, wI_s, nI_add, pk_mul, nI_ltI, nI_leI, nI_eq, nI_clamp, nm_or, nm_and, nm_xor, nm_nd, nm_one, nm_shr, nm_b2, Bool.false_eq_true, Bool.true_eq_false, not_false_eq_true, not_true_eq_false, reduceCtorEq, w2]; done) | (simp (disch := omega) only [wI_I, wI_s, nI_add, pk_mul, nI_ltI, nI_leI, nI_eq, nI_clamp, nm_or, nm_and, nm_xor, nm_nd, nm_one, nm_shr, nm_b2, Bool.false_eq_true, Bool.true_eq_false, not_false_eq_true, not_true_eq_false, reduceCtorEq, w2]; omega) | omega)) ?_ | refine wp_bf (by (first | (simp (disch := omega) only [wI_I, wI_s, nI_add, pk_mul, nI_ltI, nI_leI, nI_eq, nI_clamp, nm_or, nm_and, nm_xor, nm_nd, nm_one, nm_shr, nm_b2, Bool.false_eq_true, Bool.true_eq_false, not_false_eq_true, not_true_eq_false, reduceCtorEq, w2]; done) | (simp (disch := omega) only [wI_I, wI_s, nI_add, pk_mul, nI_ltI, nI_leI, nI_eq, nI_clamp, nm_or, nm_and, nm_xor, nm_nd, nm_one, nm_shr, nm_b2, Bool.false_eq_true, Bool.true_eq_false, not_false_eq_true, not_true_eq_false, reduceCtorEq, w2]; omega) | omega)) ?_)
        simp (disch := omega) only [wI_I, wI_s, nI_add, pk_mul, nI_ltI, nI_leI, nI_eq, nI_clamp, nm_or, nm_and, nm_xor, nm_nd, nm_one, nm_shr, nm_b2, Bool.false_eq_true, Bool.true_eq_false, not_false_eq_true, not_true_eq_false, reduceCtorEq, fo, fp]
        rw [gn_u (by omega) v1 (by unfold jn; rw [if_neg w0, if_neg w1, if_pos w2])]
        exact wp_of ih ⟨rfl, rfl⟩
      refine wp_bf (by (first | (simp (disch := omega) only [wI_I, wI_s, nI_add, pk_mul, nI_ltI, nI_leI, nI_eq, nI_clamp, nm_or, nm_and, nm_xor, nm_nd, nm_one, nm_shr, nm_b2, Bool.false_eq_true, Bool.true_eq_false, not_false_eq_true, not_true_eq_false, reduceCtorEq]; done) | (simp (disch := omega) only [wI_I, wI_s, nI_add, pk_mul, nI_ltI, nI_leI, nI_eq, nI_clamp, nm_or, nm_and, nm_xor, nm_nd, nm_one, nm_shr, nm_b2, Bool.false_eq_true, Bool.true_eq_false, not_false_eq_true, not_true_eq_false, reduceCtorEq]; omega) | omega)) ?_
      by_cases w3 : w = 3
      · repeat (first | refine wp_isC (by assumption) ?_ | refine wp_nnR (by assumption) ?_ | refine wp_inA (by assumption) rfl (by omega) (by omega) ?_ | refine wp_isZ (by decide) ?_ | refine wp_bt (by (first | (simp (disch := omega) only [wI_I, wI_s, nI_add, pk_mul, nI_ltI, nI_leI, nI_eq, nI_clamp, nm_or, nm_and, nm_xor, nm_nd, nm_one, nm_shr, nm_b2, Bool.false_eq_true, Bool.true_eq_false, not_false_eq_true, not_true_eq_false, reduceCtorEq, w3]; done) | (simp (disch := omega) only [wI_I, wI_s, nI_add, pk_mul, nI_ltI, nI_leI, nI_eq, nI_clamp, nm_or, nm_and, nm_xor, nm_nd, nm_one, nm_shr, nm_b2, Bool.false_eq_true, Bool.true_eq_false, not_false_eq_true, not_true_eq_false, reduceCtorEq, w3]; omega) | omega)) ?_ | refine wp_bf (by (first | (simp (disch := omega) only [wI_I, wI_s, nI_add, pk_mul, nI_ltI, nI_leI, nI_eq, nI_clamp, nm_or, nm_and, nm_xor, nm_nd, nm_one, nm_shr, nm_b2, Bool.false_eq_true, Bool.true_eq_false, not_false_eq_true, not_true_eq_false, reduceCtorEq, w3]; done) | (simp (disch := omega) only [wI_I, wI_s, nI_add, pk_mul, nI_ltI, nI_leI, nI_eq, nI_clamp, nm_or, nm_and, nm_xor, nm_nd, nm_one, nm_shr, nm_b2, Bool.false_eq_true, Bool.true_eq_false, not_false_eq_true, not_true_eq_false, reduceCtorEq, w3]; omega) | omega)) ?_)
        refine wp_rIe (gq_step Sp Fp V2 hG) ?_
        repeat (first | refine wp_isC (by assumption) ?_ | refine wp_nnR (by assumption) ?_ | refine wp_inA (by assumption) rfl (by omega) (by omega) ?_ | refine wp_isZ (by decide) ?_ | refine wp_bt (by (first | (simp (disch := omega) only [wI_I, wI_s, nI_add, pk_mul, nI_ltI, nI_leI, nI_eq, nI_clamp, nm_or, nm_and, nm_xor, nm_nd, nm_one, nm_shr, nm_b2, Bool.false_eq_true, Bool.true_eq_false, not_false_eq_true, not_true_eq_false, reduceCtorEq]; done) | (simp (disch := omega) only [wI_I, wI_s, nI_add, pk_mul, nI_ltI, nI_leI, nI_eq, nI_clamp, nm_or, nm_and, nm_xor, nm_nd, nm_one, nm_shr, nm_b2, Bool.false_eq_true, Bool.true_eq_false, not_false_eq_true, not_true_eq_false, reduceCtorEq]; omega) | omega)) ?_ | refine wp_bf (by (first | (simp (disch := omega) only [wI_I, wI_s, nI_add, pk_mul, nI_ltI, nI_leI, nI_eq, nI_clamp, nm_or, nm_and, nm_xor, nm_nd, nm_one, nm_shr, nm_b2, Bool.false_eq_true, Bool.true_eq_false, not_false_eq_true, not_true_eq_false, reduceCtorEq]; done) | (simp (disch := omega) only [wI_I, wI_s, nI_add, pk_mul, nI_ltI, nI_leI, nI_eq, nI_clamp, nm_or, nm_and, nm_xor, nm_nd, nm_one, nm_shr, nm_b2, Bool.false_eq_true, Bool.true_eq_false, not_false_eq_true, not_true_eq_false, reduceCtorEq]; omega) | omega)) ?_)
        simp (disch := omega) only [wI_I, wI_s, nI_add, pk_mul, nI_ltI, nI_leI, nI_eq, nI_clamp, nm_or, nm_and, nm_xor, nm_nd, nm_one, nm_shr, nm_b2, Bool.false_eq_true, Bool.true_eq_false, not_false_eq_true, not_true_eq_false, reduceCtorEq]
        rw [gn_u (by omega) v1 (by unfold jn; rw [if_neg w0, if_neg w1, if_neg w2, if_pos w3])]
        exact wp_of ih ⟨rfl, rfl⟩
      refine wp_bf (by (first | (simp (disch := omega) only [wI_I, wI_s, nI_add, pk_mul, nI_ltI, nI_leI, nI_eq, nI_clamp, nm_or, nm_and, nm_xor, nm_nd, nm_one, nm_shr, nm_b2, Bool.false_eq_true, Bool.true_eq_false, not_false_eq_true, not_true_eq_false, reduceCtorEq]; done) | (simp (disch := omega) only [wI_I, wI_s, nI_add, pk_mul, nI_ltI, nI_leI, nI_eq, nI_clamp, nm_or, nm_and, nm_xor, nm_nd, nm_one, nm_shr, nm_b2, Bool.false_eq_true, Bool.true_eq_false, not_false_eq_true, not_true_eq_false, reduceCtorEq]; omega) | omega)) ?_
      repeat (first | refine wp_isC (by assumption) ?_ | refine wp_nnR (by assumption) ?_ | refine wp_inA (by assumption) rfl (by omega) (by omega) ?_ | refine wp_isZ (by decide) ?_ | refine wp_bt (by (first | (simp (disch := omega) only [wI_I, wI_s, nI_add, pk_mul, nI_ltI, nI_leI, nI_eq, nI_clamp, nm_or, nm_and, nm_xor, nm_nd, nm_one, nm_shr, nm_b2, Bool.false_eq_true, Bool.true_eq_false, not_false_eq_true, not_true_eq_false, reduceCtorEq]; done) | (simp (disch := omega) only [wI_I, wI_s, nI_add, pk_mul, nI_ltI, nI_leI, nI_eq, nI_clamp, nm_or, nm_and, nm_xor, nm_nd, nm_one, nm_shr, nm_b2, Bool.false_eq_true, Bool.true_eq_false, not_false_eq_true, not_true_eq_false, reduceCtorEq]; omega) | omega)) ?_ | refine wp_bf (by (first | (simp (disch := omega) only [wI_I, wI_s, nI_add, pk_mul, nI_ltI, nI_leI, nI_eq, nI_clamp, nm_or, nm_and, nm_xor, nm_nd, nm_one, nm_shr, nm_b2, Bool.false_eq_true, Bool.true_eq_false, not_false_eq_true, not_true_eq_false, reduceCtorEq]; done) | (simp (disch := omega) only [wI_I, wI_s, nI_add, pk_mul, nI_ltI, nI_leI, nI_eq, nI_clamp, nm_or, nm_and, nm_xor, nm_nd, nm_one, nm_shr, nm_b2, Bool.false_eq_true, Bool.true_eq_false, not_false_eq_true, not_true_eq_false, reduceCtorEq]; omega) | omega)) ?_)
      refine wp_rIe (gq_with Sp Fp V2 (by omega)) ?_
      repeat (first | refine wp_isC (by assumption) ?_ | refine wp_nnR (by assumption) ?_ | refine wp_inA (by assumption) rfl (by omega) (by omega) ?_ | refine wp_isZ (by decide) ?_ | refine wp_bt (by (first | (simp (disch := omega) only [wI_I, wI_s, nI_add, pk_mul, nI_ltI, nI_leI, nI_eq, nI_clamp, nm_or, nm_and, nm_xor, nm_nd, nm_one, nm_shr, nm_b2, Bool.false_eq_true, Bool.true_eq_false, not_false_eq_true, not_true_eq_false, reduceCtorEq]; done) | (simp (disch := omega) only [wI_I, wI_s, nI_add, pk_mul, nI_ltI, nI_leI, nI_eq, nI_clamp, nm_or, nm_and, nm_xor, nm_nd, nm_one, nm_shr, nm_b2, Bool.false_eq_true, Bool.true_eq_false, not_false_eq_true, not_true_eq_false, reduceCtorEq]; omega) | omega)) ?_ | refine wp_bf (by (first | (simp (disch := omega) only [wI_I, wI_s, nI_add, pk_mul, nI_ltI, nI_leI, nI_eq, nI_clamp, nm_or, nm_and, nm_xor, nm_nd, nm_one, nm_shr, nm_b2, Bool.false_eq_true, Bool.true_eq_false, not_false_eq_true, not_true_eq_false, reduceCtorEq]; done) | (simp (disch := omega) only [wI_I, wI_s, nI_add, pk_mul, nI_ltI, nI_leI, nI_eq, nI_clamp, nm_or, nm_and, nm_xor, nm_nd, nm_one, nm_shr, nm_b2, Bool.false_eq_true, Bool.true_eq_false, not_false_eq_true, not_true_eq_false, reduceCtorEq]; omega) | omega)) ?_)
      simp (disch := omega) only [wI_I, wI_s, nI_add, pk_mul, nI_ltI, nI_leI, nI_eq, nI_clamp, nm_or, nm_and, nm_xor, nm_nd, nm_one, nm_shr, nm_b2, Bool.false_eq_true, Bool.true_eq_false, not_false_eq_true, not_true_eq_false, reduceCtorEq]
      rw [gn_u (by omega) v1 (by unfold jn; rw [if_neg w0, if_neg w1, if_neg w2, if_neg w3])]
      exact wp_of ih ⟨rfl, rfl⟩
  have s1 := S.1
  have t1 := So.1
  have f1 := F.1
  rw [r_Grid_join_0]
  apply wp_e
  repeat (first | refine wp_isC (by assumption) ?_ | refine wp_nnR (by assumption) ?_ | refine wp_inA (by assumption) rfl (by omega) (by omega) ?_ | refine wp_isZ (by decide) ?_ | refine wp_bt (by (first | (simp (disch := omega) only [wI_I, wI_s, nI_add, pk_mul, nI_ltI, nI_leI, nI_eq, nI_clamp, nm_or, nm_and, nm_xor, nm_nd, nm_one, nm_shr, nm_b2, Bool.false_eq_true, Bool.true_eq_false, not_false_eq_true, not_true_eq_false, reduceCtorEq]; done) | (simp (disch := omega) only [wI_I, wI_s, nI_add, pk_mul, nI_ltI, nI_leI, nI_eq, nI_clamp, nm_or, nm_and, nm_xor, nm_nd, nm_one, nm_shr, nm_b2, Bool.false_eq_true, Bool.true_eq_false, not_false_eq_true, not_true_eq_false, reduceCtorEq]; omega) | omega)) ?_ | refine wp_bf (by (first | (simp (disch := omega) only [wI_I, wI_s, nI_add, pk_mul, nI_ltI, nI_leI, nI_eq, nI_clamp, nm_or, nm_and, nm_xor, nm_nd, nm_one, nm_shr, nm_b2, Bool.false_eq_true, Bool.true_eq_false, not_false_eq_true, not_true_eq_false, reduceCtorEq]; done) | (simp (disch := omega) only [wI_I, wI_s, nI_add, pk_mul, nI_ltI, nI_leI, nI_eq, nI_clamp, nm_or, nm_and, nm_xor, nm_nd, nm_one, nm_shr, nm_b2, Bool.false_eq_true, Bool.true_eq_false, not_false_eq_true, not_true_eq_false, reduceCtorEq]; omega) | omega)) ?_)
  simp (disch := omega) only [wI_I, wI_s, nI_add, pk_mul, nI_ltI, nI_leI, nI_eq, nI_clamp, nm_or, nm_and, nm_xor, nm_nd, nm_one, nm_shr, nm_b2, Bool.false_eq_true, Bool.true_eq_false, not_false_eq_true, not_true_eq_false, reduceCtorEq, f1]
  refine wp_rVe (gq_clear S v1) ?_
  rw [gn_0 (J := jn w n G H), ← gn_n (J := jn w n G H)]
  exact wp_of (L n 0 (by omega)) ⟨rfl, rfl⟩
theorem gq_over {h : MH} {f : Nat → Nat → Int32} {g o n : Nat} {G : Nat → Nat} (S : GS h g) (So : GS h o) (d : g + 1 < o ∨ o + 1 < g) (F : GF f o n G) (V : GW n G) :
    ev M_Grid_changeOver 0 0 [some (.ref g), some (.ref o), none] [] (wI h f) = some (none, wI h (gw f g n (fun r => if r < n then cs n G r else 0))) := by
  have v1 := V.1
  have L : ∀ k i, i + k = n → ev M_Grid_changeOver 0 7 [some (.ref g), some (.ref o), some (.int (nI i))] [] (wI h (gw f g n (gn n i (cs n G)))) = some (none, wI h (gw f g n (gn n n (cs n G)))) := by
    obtain ⟨s1, s2, s3, s4⟩ := id S
    obtain ⟨t1, t2, t3, t4⟩ := id So
    intro k
    induction k with
    | zero =>
      intro i hi
      have f1 := (gw_f (f := f) (g := g) (n := n) (G := gn n i (cs n G))).1
      rw [r_Grid_changeOver_7]
      apply wp_e
      repeat (first | refine wp_isC (by assumption) ?_ | refine wp_nnR (by assumption) ?_ | refine wp_inA (by assumption) rfl (by omega) (by omega) ?_ | refine wp_isZ (by decide) ?_ | refine wp_bt (by (first | (simp (disch := omega) only [wI_I, wI_s, nI_add, pk_mul, nI_ltI, nI_leI, nI_eq, nI_clamp, nm_or, nm_and, nm_xor, nm_nd, nm_one, nm_shr, nm_b2, Bool.false_eq_true, Bool.true_eq_false, not_false_eq_true, not_true_eq_false, reduceCtorEq, f1]; done) | (simp (disch := omega) only [wI_I, wI_s, nI_add, pk_mul, nI_ltI, nI_leI, nI_eq, nI_clamp, nm_or, nm_and, nm_xor, nm_nd, nm_one, nm_shr, nm_b2, Bool.false_eq_true, Bool.true_eq_false, not_false_eq_true, not_true_eq_false, reduceCtorEq, f1]; omega) | omega)) ?_ | refine wp_bf (by (first | (simp (disch := omega) only [wI_I, wI_s, nI_add, pk_mul, nI_ltI, nI_leI, nI_eq, nI_clamp, nm_or, nm_and, nm_xor, nm_nd, nm_one, nm_shr, nm_b2, Bool.false_eq_true, Bool.true_eq_false, not_false_eq_true, not_true_eq_false, reduceCtorEq, f1]; done) | (simp (disch := omega) only [wI_I, wI_s, nI_add, pk_mul, nI_ltI, nI_leI, nI_eq, nI_clamp, nm_or, nm_and, nm_xor, nm_nd, nm_one, nm_shr, nm_b2, Bool.false_eq_true, Bool.true_eq_false, not_false_eq_true, not_true_eq_false, reduceCtorEq, f1]; omega) | omega)) ?_)
      rw [show i = n by omega]
      exact wp_s ⟨rfl, rfl⟩
    | succ k ih =>
      intro i hi
      have f1 := (gw_f (f := f) (g := g) (n := n) (G := gn n i (cs n G))).1
      have Fo := gw_F (n := n) (G := gn n i (cs n G)) d F
      have ih := ih (i + 1) (by omega)
      rw [r_Grid_changeOver_7]
      apply wp_e
      repeat (first | refine wp_isC (by assumption) ?_ | refine wp_nnR (by assumption) ?_ | refine wp_inA (by assumption) rfl (by omega) (by omega) ?_ | refine wp_isZ (by decide) ?_ | refine wp_bt (by (first | (simp (disch := omega) only [wI_I, wI_s, nI_add, pk_mul, nI_ltI, nI_leI, nI_eq, nI_clamp, nm_or, nm_and, nm_xor, nm_nd, nm_one, nm_shr, nm_b2, Bool.false_eq_true, Bool.true_eq_false, not_false_eq_true, not_true_eq_false, reduceCtorEq, f1]; done) | (simp (disch := omega) only [wI_I, wI_s, nI_add, pk_mul, nI_ltI, nI_leI, nI_eq, nI_clamp, nm_or, nm_and, nm_xor, nm_nd, nm_one, nm_shr, nm_b2, Bool.false_eq_true, Bool.true_eq_false, not_false_eq_true, not_true_eq_false, reduceCtorEq, f1]; omega) | omega)) ?_ | refine wp_bf (by (first | (simp (disch := omega) only [wI_I, wI_s, nI_add, pk_mul, nI_ltI, nI_leI, nI_eq, nI_clamp, nm_or, nm_and, nm_xor, nm_nd, nm_one, nm_shr, nm_b2, Bool.false_eq_true, Bool.true_eq_false, not_false_eq_true, not_true_eq_false, reduceCtorEq, f1]; done) | (simp (disch := omega) only [wI_I, wI_s, nI_add, pk_mul, nI_ltI, nI_leI, nI_eq, nI_clamp, nm_or, nm_and, nm_xor, nm_nd, nm_one, nm_shr, nm_b2, Bool.false_eq_true, Bool.true_eq_false, not_false_eq_true, not_true_eq_false, reduceCtorEq, f1]; omega) | omega)) ?_)
      refine wp_rIe (gq_with So Fo V (by omega)) ?_
      repeat (first | refine wp_isC (by assumption) ?_ | refine wp_nnR (by assumption) ?_ | refine wp_inA (by assumption) rfl (by omega) (by omega) ?_ | refine wp_isZ (by decide) ?_ | refine wp_bt (by (first | (simp (disch := omega) only [wI_I, wI_s, nI_add, pk_mul, nI_ltI, nI_leI, nI_eq, nI_clamp, nm_or, nm_and, nm_xor, nm_nd, nm_one, nm_shr, nm_b2, Bool.false_eq_true, Bool.true_eq_false, not_false_eq_true, not_true_eq_false, reduceCtorEq]; done) | (simp (disch := omega) only [wI_I, wI_s, nI_add, pk_mul, nI_ltI, nI_leI, nI_eq, nI_clamp, nm_or, nm_and, nm_xor, nm_nd, nm_one, nm_shr, nm_b2, Bool.false_eq_true, Bool.true_eq_false, not_false_eq_true, not_true_eq_false, reduceCtorEq]; omega) | omega)) ?_ | refine wp_bf (by (first | (simp (disch := omega) only [wI_I, wI_s, nI_add, pk_mul, nI_ltI, nI_leI, nI_eq, nI_clamp, nm_or, nm_and, nm_xor, nm_nd, nm_one, nm_shr, nm_b2, Bool.false_eq_true, Bool.true_eq_false, not_false_eq_true, not_true_eq_false, reduceCtorEq]; done) | (simp (disch := omega) only [wI_I, wI_s, nI_add, pk_mul, nI_ltI, nI_leI, nI_eq, nI_clamp, nm_or, nm_and, nm_xor, nm_nd, nm_one, nm_shr, nm_b2, Bool.false_eq_true, Bool.true_eq_false, not_false_eq_true, not_true_eq_false, reduceCtorEq]; omega) | omega)) ?_)
      simp (disch := omega) only [wI_I, wI_s, nI_add, pk_mul, nI_ltI, nI_leI, nI_eq, nI_clamp, nm_or, nm_and, nm_xor, nm_nd, nm_one, nm_shr, nm_b2, Bool.false_eq_true, Bool.true_eq_false, not_false_eq_true, not_true_eq_false, reduceCtorEq]
      rw [gn_u (by omega) v1 rfl]
      exact wp_of ih ⟨rfl, rfl⟩
  have s1 := S.1
  have t1 := So.1
  have f1 := F.1
  rw [r_Grid_changeOver_0]
  apply wp_e
  repeat (first | refine wp_isC (by assumption) ?_ | refine wp_nnR (by assumption) ?_ | refine wp_inA (by assumption) rfl (by omega) (by omega) ?_ | refine wp_isZ (by decide) ?_ | refine wp_bt (by (first | (simp (disch := omega) only [wI_I, wI_s, nI_add, pk_mul, nI_ltI, nI_leI, nI_eq, nI_clamp, nm_or, nm_and, nm_xor, nm_nd, nm_one, nm_shr, nm_b2, Bool.false_eq_true, Bool.true_eq_false, not_false_eq_true, not_true_eq_false, reduceCtorEq]; done) | (simp (disch := omega) only [wI_I, wI_s, nI_add, pk_mul, nI_ltI, nI_leI, nI_eq, nI_clamp, nm_or, nm_and, nm_xor, nm_nd, nm_one, nm_shr, nm_b2, Bool.false_eq_true, Bool.true_eq_false, not_false_eq_true, not_true_eq_false, reduceCtorEq]; omega) | omega)) ?_ | refine wp_bf (by (first | (simp (disch := omega) only [wI_I, wI_s, nI_add, pk_mul, nI_ltI, nI_leI, nI_eq, nI_clamp, nm_or, nm_and, nm_xor, nm_nd, nm_one, nm_shr, nm_b2, Bool.false_eq_true, Bool.true_eq_false, not_false_eq_true, not_true_eq_false, reduceCtorEq]; done) | (simp (disch := omega) only [wI_I, wI_s, nI_add, pk_mul, nI_ltI, nI_leI, nI_eq, nI_clamp, nm_or, nm_and, nm_xor, nm_nd, nm_one, nm_shr, nm_b2, Bool.false_eq_true, Bool.true_eq_false, not_false_eq_true, not_true_eq_false, reduceCtorEq]; omega) | omega)) ?_)
  simp (disch := omega) only [wI_I, wI_s, nI_add, pk_mul, nI_ltI, nI_leI, nI_eq, nI_clamp, nm_or, nm_and, nm_xor, nm_nd, nm_one, nm_shr, nm_b2, Bool.false_eq_true, Bool.true_eq_false, not_false_eq_true, not_true_eq_false, reduceCtorEq, f1]
  refine wp_rVe (gq_clear S v1) ?_
  rw [gn_0 (J := cs n G), ← gn_n (J := cs n G)]
  exact wp_of (L n 0 (by omega)) ⟨rfl, rfl⟩
/-- how many pairs lie in rows a .. and under a mask -/
def ci (G : Nat → Nat) (M a m : Nat) : Nat := sm (fun j => bc (G (a + j) &&& M)) m
theorem gq_in_l {h : MH} {f : Nat → Nat → Int32} {g n a M t : Nat} {G : Nat → Nat} (S : GS h g) (F : GF f g n G) (V : GW n G) (ht : t < n) (ha : a ≤ t) : ∀ k i, i + k = t + 1 - a →
    ev M_Grid_countIn 0 17 [some (.ref g), none, some (.int (nI t)), none, none, some (.int (nI M)), some (.int (nI (ci G M a i))), some (.int (nI (a + i)))] [] (wI h f) = some (some (.int (nI (ci G M a (t + 1 - a)))), wI h f) := by
  obtain ⟨s1, s2, s3, s4⟩ := S
  obtain ⟨f1, f2⟩ := F
  have v1 := V.1
  intro k
  induction k with
  | zero =>
    intro i hi
    rw [r_Grid_countIn_17]
    apply wp_e
    repeat (first | refine wp_isC (by assumption) ?_ | refine wp_nnR (by assumption) ?_ | refine wp_inA (by assumption) rfl (by omega) (by omega) ?_ | refine wp_isZ (by decide) ?_ | refine wp_bt (by (first | (simp (disch := omega) only [wI_I, wI_s, nI_add, pk_mul, nI_ltI, nI_leI, nI_eq, nI_clamp, nm_or, nm_and, nm_xor, nm_nd, nm_one, nm_shr, nm_b2, Bool.false_eq_true, Bool.true_eq_false, not_false_eq_true, not_true_eq_false, reduceCtorEq, f1]; done) | (simp (disch := omega) only [wI_I, wI_s, nI_add, pk_mul, nI_ltI, nI_leI, nI_eq, nI_clamp, nm_or, nm_and, nm_xor, nm_nd, nm_one, nm_shr, nm_b2, Bool.false_eq_true, Bool.true_eq_false, not_false_eq_true, not_true_eq_false, reduceCtorEq, f1]; omega) | omega)) ?_ | refine wp_bf (by (first | (simp (disch := omega) only [wI_I, wI_s, nI_add, pk_mul, nI_ltI, nI_leI, nI_eq, nI_clamp, nm_or, nm_and, nm_xor, nm_nd, nm_one, nm_shr, nm_b2, Bool.false_eq_true, Bool.true_eq_false, not_false_eq_true, not_true_eq_false, reduceCtorEq, f1]; done) | (simp (disch := omega) only [wI_I, wI_s, nI_add, pk_mul, nI_ltI, nI_leI, nI_eq, nI_clamp, nm_or, nm_and, nm_xor, nm_nd, nm_one, nm_shr, nm_b2, Bool.false_eq_true, Bool.true_eq_false, not_false_eq_true, not_true_eq_false, reduceCtorEq, f1]; omega) | omega)) ?_)
    refine wp_s ⟨?_, rfl⟩
    rw [show i = t + 1 - a by omega]
  | succ k ih =>
    intro i hi
    rw [r_Grid_countIn_17]
    apply wp_e
    repeat (first | refine wp_isC (by assumption) ?_ | refine wp_nnR (by assumption) ?_ | refine wp_inA (by assumption) rfl (by omega) (by omega) ?_ | refine wp_isZ (by decide) ?_ | refine wp_bt (by (first | (simp (disch := omega) only [wI_I, wI_s, nI_add, pk_mul, nI_ltI, nI_leI, nI_eq, nI_clamp, nm_or, nm_and, nm_xor, nm_nd, nm_one, nm_shr, nm_b2, Bool.false_eq_true, Bool.true_eq_false, not_false_eq_true, not_true_eq_false, reduceCtorEq, f1]; done) | (simp (disch := omega) only [wI_I, wI_s, nI_add, pk_mul, nI_ltI, nI_leI, nI_eq, nI_clamp, nm_or, nm_and, nm_xor, nm_nd, nm_one, nm_shr, nm_b2, Bool.false_eq_true, Bool.true_eq_false, not_false_eq_true, not_true_eq_false, reduceCtorEq, f1]; omega) | omega)) ?_ | refine wp_bf (by (first | (simp (disch := omega) only [wI_I, wI_s, nI_add, pk_mul, nI_ltI, nI_leI, nI_eq, nI_clamp, nm_or, nm_and, nm_xor, nm_nd, nm_one, nm_shr, nm_b2, Bool.false_eq_true, Bool.true_eq_false, not_false_eq_true, not_true_eq_false, reduceCtorEq, f1]; done) | (simp (disch := omega) only [wI_I, wI_s, nI_add, pk_mul, nI_ltI, nI_leI, nI_eq, nI_clamp, nm_or, nm_and, nm_xor, nm_nd, nm_one, nm_shr, nm_b2, Bool.false_eq_true, Bool.true_eq_false, not_false_eq_true, not_true_eq_false, reduceCtorEq, f1]; omega) | omega)) ?_)
    simp (disch := omega) only [wI_I, wI_s, nI_add, pk_mul, nI_ltI, nI_leI, nI_eq, nI_clamp, nm_or, nm_and, nm_xor, nm_nd, nm_one, nm_shr, nm_b2, Bool.false_eq_true, Bool.true_eq_false, not_false_eq_true, not_true_eq_false, reduceCtorEq, f2]
    refine wp_rIe (i_bc _ (Nat.lt_of_le_of_lt Nat.and_le_left (V.lt (a + i)))) ?_
    simp (disch := omega) only [wI_I, wI_s, nI_add, pk_mul, nI_ltI, nI_leI, nI_eq, nI_clamp, nm_or, nm_and, nm_xor, nm_nd, nm_one, nm_shr, nm_b2, Bool.false_eq_true, Bool.true_eq_false, not_false_eq_true, not_true_eq_false, reduceCtorEq]
    exact wp_of (ih (i + 1) (by omega)) ⟨rfl, rfl⟩
theorem nm_mx {a : Nat} (h : a < 2 ^ 31) : (if nI 0 < nI a then nI a else nI 0) = nI a := by
  by_cases q : a = 0
  · subst q; rfl
  · rw [if_pos]; rw [nI_ltI (by omega) h]; omega
theorem gq_in {h : MH} {f : Nat → Nat → Int32} {g n a t l r : Nat} {G : Nat → Nat} (S : GS h g) (F : GF f g n G) (V : GW n G) (ht : t < n) (ha : a ≤ t) (hr : r < 16) (hl : l ≤ r) :
    ev M_Grid_countIn 0 0 [some (.ref g), some (.int (nI a)), some (.int (nI t)), some (.int (nI l)), some (.int (nI r)), none, none, none] [] (wI h f) = some (some (.int (nI (ci G (2 ^ (r + 1) - 2 ^ l) a (t + 1 - a)))), wI h f) := by
  have v1 := V.1
  rw [r_Grid_countIn_0, nI_add, nm_one (by omega), nm_one (by omega), pk_sub (Nat.pow_le_pow_right (by decide) (by omega)), nm_mx (by omega)]
  exact gq_in_l S F V ht ha _ 0 (Nat.zero_add _)
/-- pairs in a block -/
def ib (G : Nat → Nat) (a c s : Nat) : Nat := ci G (2 ^ (c + s) - 2 ^ c) a s
/-- pairs in block b of level l among v levels -/
def cb (v l : Nat) (G : Nat → Nat) (b : Nat) : Nat := ib G (b / 2 ^ l * 2 ^ (v - l)) (b % 2 ^ l * 2 ^ (v - l)) (2 ^ (v - l))
theorem bk_in {v l b : Nat} (hl : l ≤ v) (hb : b < 2 ^ (2 * l)) : b / 2 ^ l * 2 ^ (v - l) + 2 ^ (v - l) ≤ 2 ^ v ∧ b % 2 ^ l * 2 ^ (v - l) + 2 ^ (v - l) ≤ 2 ^ v := by
  have e : 2 ^ v = 2 ^ l * 2 ^ (v - l) := by rw [← Nat.pow_add]; congr 1; omega
  have h1 : b / 2 ^ l < 2 ^ l := by
    rw [Nat.div_lt_iff_lt_mul (Nat.two_pow_pos l), ← Nat.pow_add]
    rw [show l + l = 2 * l by omega]; exact hb
  have h2 : b % 2 ^ l < 2 ^ l := Nat.mod_lt _ (Nat.two_pow_pos l)
  constructor
  · rw [e, ← Nat.succ_mul]; exact Nat.mul_le_mul_right _ h1
  · rw [e, ← Nat.succ_mul]; exact Nat.mul_le_mul_right _ h2
theorem lv_p {v : Nat} (h : v ≤ 4) : 2 ^ v ≤ 16 := Nat.le_trans (Nat.pow_le_pow_right (by decide) h) (by decide)
theorem gq_blk {h : MH} {f : Nat → Nat → Int32} {g v l b : Nat} {G : Nat → Nat} (S : GS h g) (F : GF f g (2 ^ v) G) (V : GW (2 ^ v) G) (hv : v ≤ 4) (hl : l ≤ v) (hb : b < 2 ^ (2 * l)) :
    ev M_Grid_countInBlock 0 0 [some (.ref g), some (.int (nI b)), some (.int (nI l)), some (.int (nI v)), none, none, none] [] (wI h f) = some (some (.int (nI (cb v l G b))), wI h f) := by
  obtain ⟨k1, k2⟩ := bk_in hl hb
  have hp := lv_p hv
  have hs := Nat.two_pow_pos (v - l)
  have hb2 : b < 2 ^ 31 := Nat.lt_of_lt_of_le hb (Nat.pow_le_pow_right (by decide) (by omega))
  have hl2 := Nat.two_pow_pos l
  have s1 := S.1
  rw [r_Grid_countInBlock_0]
  have e1 : nI 1 <<< ((nI v - nI l) &&& 31) = nI (2 ^ (v - l)) := by rw [pk_sub hl, nm_one (by omega)]
  have e2 : nI b >>> (nI l &&& 31) = nI (b / 2 ^ l) := nm_shr (by omega) hb2
  have e3 : nI b &&& (nI 1 <<< (nI l &&& 31) - nI 1) = nI (b % 2 ^ l) := by
    rw [nm_one (by omega), pk_sub hl2, nm_and, Nat.and_two_pow_sub_one_eq_mod]
  simp only [e1, e2, e3, pk_mul, nI_add, pk_sub (show 1 ≤ b / 2 ^ l * 2 ^ (v - l) + 2 ^ (v - l) by omega), pk_sub (show 1 ≤ b % 2 ^ l * 2 ^ (v - l) + 2 ^ (v - l) by omega)]
  apply wp_e
  repeat (first | refine wp_isC (by assumption) ?_ | refine wp_nnR (by assumption) ?_ | refine wp_inA (by assumption) rfl (by omega) (by omega) ?_ | refine wp_isZ (by decide) ?_ | refine wp_bt (by (first | (simp (disch := omega) only [wI_I, wI_s, nI_add, pk_mul, nI_ltI, nI_leI, nI_eq, nI_clamp, nm_or, nm_and, nm_xor, nm_nd, nm_one, nm_shr, nm_b2, Bool.false_eq_true, Bool.true_eq_false, not_false_eq_true, not_true_eq_false, reduceCtorEq]; done) | (simp (disch := omega) only [wI_I, wI_s, nI_add, pk_mul, nI_ltI, nI_leI, nI_eq, nI_clamp, nm_or, nm_and, nm_xor, nm_nd, nm_one, nm_shr, nm_b2, Bool.false_eq_true, Bool.true_eq_false, not_false_eq_true, not_true_eq_false, reduceCtorEq]; omega) | omega)) ?_ | refine wp_bf (by (first | (simp (disch := omega) only [wI_I, wI_s, nI_add, pk_mul, nI_ltI, nI_leI, nI_eq, nI_clamp, nm_or, nm_and, nm_xor, nm_nd, nm_one, nm_shr, nm_b2, Bool.false_eq_true, Bool.true_eq_false, not_false_eq_true, not_true_eq_false, reduceCtorEq]; done) | (simp (disch := omega) only [wI_I, wI_s, nI_add, pk_mul, nI_ltI, nI_leI, nI_eq, nI_clamp, nm_or, nm_and, nm_xor, nm_nd, nm_one, nm_shr, nm_b2, Bool.false_eq_true, Bool.true_eq_false, not_false_eq_true, not_true_eq_false, reduceCtorEq]; omega) | omega)) ?_)
  refine wp_rIe (gq_in S F V (by omega) (by omega) (by omega) (by omega)) ?_
  refine wp_s ⟨?_, rfl⟩
  unfold cb ib
  rw [show b % 2 ^ l * 2 ^ (v - l) + 2 ^ (v - l) - 1 + 1 = b % 2 ^ l * 2 ^ (v - l) + 2 ^ (v - l) by omega, show b / 2 ^ l * 2 ^ (v - l) + 2 ^ (v - l) - 1 + 1 - b / 2 ^ l * 2 ^ (v - l) = 2 ^ (v - l) by omega]
/-- the first place where F is greatest -/
def am (F : Nat → Nat) : Nat → Nat
  | 0 => 0
  | k + 1 => if k = 0 ∨ F (am F k) < F k then k else am F k
theorem ci_le (G : Nat → Nat) (M a m : Nat) : ci G M a m ≤ m * 16 := sm_le (fun k _ => bc_le _)
theorem cb_le {v l : Nat} {G : Nat → Nat} {b : Nat} (hv : v ≤ 4) : cb v l G b ≤ 256 := by
  have := ci_le G (2 ^ (b % 2 ^ l * 2 ^ (v - l) + 2 ^ (v - l)) - 2 ^ (b % 2 ^ l * 2 ^ (v - l))) (b / 2 ^ l * 2 ^ (v - l)) (2 ^ (v - l))
  have h2 := lv_p (v := v - l) (by omega)
  unfold cb ib; omega
theorem mI_lt {a : Nat} (h : a < 2 ^ 31) : mI 1 < nI a := by
  have e : mI 1 = -1 := rfl
  rw [e, Int32.lt_iff_toInt_lt, nI_toInt h]
  have : (-1 : Int32).toInt = -1 := by decide
  omega
theorem gq_full {h : MH} {f : Nat → Nat → Int32} {g v l : Nat} {G : Nat → Nat} (S : GS h g) (F : GF f g (2 ^ v) G) (V : GW (2 ^ v) G) (hv : v ≤ 4) (hl : l ≤ v) :
    ev M_Grid_fullestBlock 0 0 [some (.ref g), some (.int (nI l)), some (.int (nI v)), none, none, none, none] [] (wI h f) = some (some (.int (nI (am (cb v l G) (2 ^ (2 * l))))), wI h f) := by
  have s1 := S.1
  have hp : 2 ^ (2 * l) ≤ 256 := Nat.le_trans (Nat.pow_le_pow_right (by decide) (show 2 * l ≤ 8 by omega)) (by decide)
  have L : ∀ k i, i + k = 2 ^ (2 * l) → ev M_Grid_fullestBlock 0 7 [some (.ref g), some (.int (nI l)), some (.int (nI v)), some (.int (nI (am (cb v l G) i))), some (.int (if i = 0 then mI 1 else nI (cb v l G (am (cb v l G) i)))), some (.int (nI i)), none] [] (wI h f) = some (some (.int (nI (am (cb v l G) (2 ^ (2 * l))))), wI h f) := by
    intro k
    induction k with
    | zero =>
      intro i hi
      rw [r_Grid_fullestBlock_7]
      apply wp_e
      repeat (first | refine wp_isC (by assumption) ?_ | refine wp_nnR (by assumption) ?_ | refine wp_inA (by assumption) rfl (by omega) (by omega) ?_ | refine wp_isZ (by decide) ?_ | refine wp_bt (by (first | (simp (disch := omega) only [wI_I, wI_s, nI_add, pk_mul, nI_ltI, nI_leI, nI_eq, nI_clamp, nm_or, nm_and, nm_xor, nm_nd, nm_one, nm_shr, nm_b2, Bool.false_eq_true, Bool.true_eq_false, not_false_eq_true, not_true_eq_false, reduceCtorEq]; done) | (simp (disch := omega) only [wI_I, wI_s, nI_add, pk_mul, nI_ltI, nI_leI, nI_eq, nI_clamp, nm_or, nm_and, nm_xor, nm_nd, nm_one, nm_shr, nm_b2, Bool.false_eq_true, Bool.true_eq_false, not_false_eq_true, not_true_eq_false, reduceCtorEq]; omega) | omega)) ?_ | refine wp_bf (by (first | (simp (disch := omega) only [wI_I, wI_s, nI_add, pk_mul, nI_ltI, nI_leI, nI_eq, nI_clamp, nm_or, nm_and, nm_xor, nm_nd, nm_one, nm_shr, nm_b2, Bool.false_eq_true, Bool.true_eq_false, not_false_eq_true, not_true_eq_false, reduceCtorEq]; done) | (simp (disch := omega) only [wI_I, wI_s, nI_add, pk_mul, nI_ltI, nI_leI, nI_eq, nI_clamp, nm_or, nm_and, nm_xor, nm_nd, nm_one, nm_shr, nm_b2, Bool.false_eq_true, Bool.true_eq_false, not_false_eq_true, not_true_eq_false, reduceCtorEq]; omega) | omega)) ?_)
      rw [show i = 2 ^ (2 * l) by omega]
      exact wp_s ⟨rfl, rfl⟩
    | succ k ih =>
      intro i hi
      have ih := ih (i + 1) (by omega)
      rw [if_neg (by omega), am] at ih
      have hc := cb_le (l := l) (G := G) (b := i) hv
      have hc2 := cb_le (l := l) (G := G) (b := am (cb v l G) i) hv
      rw [r_Grid_fullestBlock_7]
      apply wp_e
      simp only [r_Grid_fullestBlock_28]
      repeat (first | refine wp_isC (by assumption) ?_ | refine wp_nnR (by assumption) ?_ | refine wp_inA (by assumption) rfl (by omega) (by omega) ?_ | refine wp_isZ (by decide) ?_ | refine wp_bt (by (first | (simp (disch := omega) only [wI_I, wI_s, nI_add, pk_mul, nI_ltI, nI_leI, nI_eq, nI_clamp, nm_or, nm_and, nm_xor, nm_nd, nm_one, nm_shr, nm_b2, Bool.false_eq_true, Bool.true_eq_false, not_false_eq_true, not_true_eq_false, reduceCtorEq]; done) | (simp (disch := omega) only [wI_I, wI_s, nI_add, pk_mul, nI_ltI, nI_leI, nI_eq, nI_clamp, nm_or, nm_and, nm_xor, nm_nd, nm_one, nm_shr, nm_b2, Bool.false_eq_true, Bool.true_eq_false, not_false_eq_true, not_true_eq_false, reduceCtorEq]; omega) | omega)) ?_ | refine wp_bf (by (first | (simp (disch := omega) only [wI_I, wI_s, nI_add, pk_mul, nI_ltI, nI_leI, nI_eq, nI_clamp, nm_or, nm_and, nm_xor, nm_nd, nm_one, nm_shr, nm_b2, Bool.false_eq_true, Bool.true_eq_false, not_false_eq_true, not_true_eq_false, reduceCtorEq]; done) | (simp (disch := omega) only [wI_I, wI_s, nI_add, pk_mul, nI_ltI, nI_leI, nI_eq, nI_clamp, nm_or, nm_and, nm_xor, nm_nd, nm_one, nm_shr, nm_b2, Bool.false_eq_true, Bool.true_eq_false, not_false_eq_true, not_true_eq_false, reduceCtorEq]; omega) | omega)) ?_)
      refine wp_rIe (gq_blk S F V hv hl (by omega)) ?_
      by_cases q : i = 0
      · rw [if_pos q]
        rw [if_pos (Or.inl q)] at ih
        refine wp_bt (mI_lt (by omega)) ?_
        simp (disch := omega) only [wI_I, wI_s, nI_add, pk_mul, nI_ltI, nI_leI, nI_eq, nI_clamp, nm_or, nm_and, nm_xor, nm_nd, nm_one, nm_shr, nm_b2, Bool.false_eq_true, Bool.true_eq_false, not_false_eq_true, not_true_eq_false, reduceCtorEq]
        exact wp_of ih ⟨rfl, rfl⟩
      · rw [if_neg q]
        by_cases q2 : cb v l G (am (cb v l G) i) < cb v l G i
        · rw [if_pos (Or.inr q2)] at ih
          refine wp_bt (by (first | (simp (disch := omega) only [wI_I, wI_s, nI_add, pk_mul, nI_ltI, nI_leI, nI_eq, nI_clamp, nm_or, nm_and, nm_xor, nm_nd, nm_one, nm_shr, nm_b2, Bool.false_eq_true, Bool.true_eq_false, not_false_eq_true, not_true_eq_false, reduceCtorEq]; done) | (simp (disch := omega) only [wI_I, wI_s, nI_add, pk_mul, nI_ltI, nI_leI, nI_eq, nI_clamp, nm_or, nm_and, nm_xor, nm_nd, nm_one, nm_shr, nm_b2, Bool.false_eq_true, Bool.true_eq_false, not_false_eq_true, not_true_eq_false, reduceCtorEq]; omega) | omega)) ?_
          simp (disch := omega) only [wI_I, wI_s, nI_add, pk_mul, nI_ltI, nI_leI, nI_eq, nI_clamp, nm_or, nm_and, nm_xor, nm_nd, nm_one, nm_shr, nm_b2, Bool.false_eq_true, Bool.true_eq_false, not_false_eq_true, not_true_eq_false, reduceCtorEq]
          exact wp_of ih ⟨rfl, rfl⟩
        · rw [if_neg (by omega)] at ih
          refine wp_bf (by (first | (simp (disch := omega) only [wI_I, wI_s, nI_add, pk_mul, nI_ltI, nI_leI, nI_eq, nI_clamp, nm_or, nm_and, nm_xor, nm_nd, nm_one, nm_shr, nm_b2, Bool.false_eq_true, Bool.true_eq_false, not_false_eq_true, not_true_eq_false, reduceCtorEq]; done) | (simp (disch := omega) only [wI_I, wI_s, nI_add, pk_mul, nI_ltI, nI_leI, nI_eq, nI_clamp, nm_or, nm_and, nm_xor, nm_nd, nm_one, nm_shr, nm_b2, Bool.false_eq_true, Bool.true_eq_false, not_false_eq_true, not_true_eq_false, reduceCtorEq]; omega) | omega)) ?_
          simp (disch := omega) only [wI_I, wI_s, nI_add, pk_mul, nI_ltI, nI_leI, nI_eq, nI_clamp, nm_or, nm_and, nm_xor, nm_nd, nm_one, nm_shr, nm_b2, Bool.false_eq_true, Bool.true_eq_false, not_false_eq_true, not_true_eq_false, reduceCtorEq]
          exact wp_of ih ⟨rfl, rfl⟩
  rw [r_Grid_fullestBlock_0]
  exact L _ 0 (Nat.zero_add _)
