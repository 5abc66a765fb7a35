/-! The class's methods: relations made and sifted; drift. -/
section
variable {h : MH} {f : Nat → Nat → Int32} {x pa pb s1 v1 : Nat} {S : Abs}
theorem c_put (C : CSH h x pa pb s1 v1) (F : CF f (hL h) x pa S) (W : WS S) (a b c : Int32) : ∃ f', ev M_PT_put 0 0 [some (.ref x), some (.int a), some (.int b), some (.int c)] [] (wI h f) = some (some (.int (sTurn S a b c false)), wI h f') ∧ CF f' (hL h) x pa (uTurn S a b c false) ∧ WS (uTurn S a b c false) ∧ Fr x (x + 222) f f' := by
  obtain ⟨f', e1, e2⟩ := pt_turn C F W a b c false
  refine ⟨f', ?_, e2⟩
  rw [r_PT_put_0]
  exact wp_e (wp_isC C.1.1 (wp_rIe e1 (wp_s ⟨rfl, rfl⟩)))
theorem c_take (C : CSH h x pa pb s1 v1) (F : CF f (hL h) x pa S) (W : WS S) (a b c : Int32) : ∃ f', ev M_PT_take 0 0 [some (.ref x), some (.int a), some (.int b), some (.int c)] [] (wI h f) = some (some (.int (sTurn S a b c true)), wI h f') ∧ CF f' (hL h) x pa (uTurn S a b c true) ∧ WS (uTurn S a b c true) ∧ Fr x (x + 222) f f' := by
  obtain ⟨f', e1, e2⟩ := pt_turn C F W a b c true
  refine ⟨f', ?_, e2⟩
  rw [r_PT_take_0]
  exact wp_e (wp_isC C.1.1 (wp_rIe e1 (wp_s ⟨rfl, rfl⟩)))
/-- what is made of two, if they are there -/
def twN (S : Abs) (w a b : Int32) : Option Rw := match inN w 5 with
  | some m => (match inN a (aR S) with
    | some k => (match inN b (aR S) with
      | some j => some (jnG m (aW S) (aG S k) (aG S j))
      | none => none)
    | none => none)
  | none => none
def sBec (S : Abs) (a w b c : Int32) : Int32 := match tdN S a with
  | some _ => (match twN S w b c with
    | some B => nI (ct (aW S) B)
    | none => mI 1)
  | none => mI 1
def uBec (S : Abs) (a w b c : Int32) : Abs := match tdN S a with
  | some k => (match twN S w b c with
    | some B => nxt S k B
    | none => S)
  | none => S
theorem twN_s {w a b : Int32} {B : Rw} (z : twN S w a b = some B) : ∃ m k j, inN w 5 = some m ∧ inN a (aR S) = some k ∧ inN b (aR S) = some j ∧ B = jnG m (aW S) (aG S k) (aG S j) := by
  unfold twN at z
  cases z0 : inN w 5 with
  | none => rw [z0] at z; cases z
  | some m =>
  rw [z0] at z; dsimp only at z
  cases z1 : inN a (aR S) with
  | none => rw [z1] at z; cases z
  | some k =>
  rw [z1] at z; dsimp only at z
  cases z2 : inN b (aR S) with
  | none => rw [z2] at z; cases z
  | some j =>
  rw [z2] at z; dsimp only at z
  exact ⟨m, k, j, rfl, rfl, rfl, by cases z; rfl⟩
theorem twN_n {w a b : Int32} (z : twN S w a b = none) : ((inN w 5).isSome && ((inN a (aR S)).isSome && (inN b (aR S)).isSome)) = false := by
  unfold twN at z
  cases z0 : inN w 5 with
  | none => rfl
  | some m =>
  rw [z0] at z; dsimp only at z
  cases z1 : inN a (aR S) with
  | none => rfl
  | some k =>
  rw [z1] at z; dsimp only at z
  cases z2 : inN b (aR S) with
  | none => rfl
  | some j => rw [z2] at z; cases z
theorem c_become (C : CSH h x pa pb s1 v1) (F : CF f (hL h) x pa S) (W : WS S) (a w b c : Int32) : ∃ f', ev M_PT_become 0 0 [some (.ref x), some (.int a), some (.int w), some (.int b), some (.int c)] [] (wI h f) = some (some (.int (sBec S a w b c)), wI h f') ∧ CF f' (hL h) x pa (uBec S a w b c) ∧ WS (uBec S a w b c) ∧ Fr x (x + 222) f f' := by
  obtain ⟨⟨c0, q0, q2, q3, q4, q5, q6, q7, q8, q9, q10, q11, q12, q13⟩, PA, PB, RSH, HSH, ⟨bC, bN, bR⟩, ISH, TSH, TSH2, GSH, SSH, ⟨lC, lN1, tC, tN⟩, ⟨rC, rR1, sC, sR1, wC, wN⟩, STR, ⟨sx1, sx2, x0⟩, PP⟩ := id C
  obtain ⟨⟨ft1, ft2⟩, ⟨fl1, fl2⟩, ⟨fe1, fe2⟩, fkw, fpn, ⟨fg1, fg2⟩, fhist, fbx, fsg⟩ := id F
  obtain ⟨⟨ws1, ws2⟩, ⟨ws3, ws4⟩, wpn, ⟨ws5, ws6, ws7⟩, ws8, ⟨ws9, ws10⟩, ⟨ws11, ws12⟩, ws13⟩ := id W
  have p1 := PA.1
  have r1 := RSH.1
  have r2 := RSH.2.1
  have r3 := RSH.2.2.1
  have r4 := RSH.2.2.2.1
  have hv1 : 1 ≤ aV S := wpn.1.1
  have hv4 : aV S ≤ 4 := wpn.1.2.1
  have hr5 : aR S ≤ 5 := wpn.1.2.2.2.1
  have hn16 : aW S ≤ 16 := lv_p hv4
  have fp0 : f pa 0 = nI (aV S) := fpn.1
  have fp1 : f pa 1 = nI (aR S) := fpn.2.1
  have gSH := GSH.1
  have tSH := TSH.1
  have sSH := SSH.1
  have iSH := ISH.1
  have hSH := HSH.1
  have hpa := PPa C
  rw [r_PT_become_0]
  cases z : tdN S a with
  | none =>
    have es : sBec S a w b c = mI 1 := by unfold sBec; rw [z]
    have eu : uBec S a w b c = S := by unfold uBec; rw [z]
    rw [es, eu]
    refine ⟨f, wp_e (wp_isC c0 (wp_rIe (pt_isTold C F W _) ?_)), F, W, Fr.rf⟩
    rw [z]
    exact wp_bt rfl (wp_s ⟨rfl, rfl⟩)
  | some k =>
  obtain ⟨y, ht⟩ := tdN_s z
  obtain ⟨k1, k2, k3⟩ := inN_s y
  subst k1
  obtain ⟨f1, b1, b2, b3, b4⟩ := pt_two C F W w b c
  have F1 := b2.F PP hr5 F
  have frm : Fr x (x + 222) f f1 := fun y hy => b3 y (by omega) (by omega) (by omega)
  cases z1 : twN S w b c with
  | none =>
    have es : sBec S (nI k) w b c = mI 1 := by unfold sBec; rw [z]; dsimp only; rw [z1]
    have eu : uBec S (nI k) w b c = S := by unfold uBec; rw [z]; dsimp only; rw [z1]
    rw [es, eu]
    rw [twN_n z1] at b1
    refine ⟨f1, wp_e (wp_isC c0 (wp_rIe (pt_isTold C F W _) ?_)), F1, W, frm⟩
    rw [z]
    exact wp_bf n10 (wp_isC c0 (wp_rIe b1 (wp_bt rfl (wp_s ⟨rfl, rfl⟩))))
  | some B =>
    have es : sBec S (nI k) w b c = nI (ct (aW S) B) := by unfold sBec; rw [z]; dsimp only; rw [z1]
    have eu : uBec S (nI k) w b c = nxt S k B := by unfold uBec; rw [z]; dsimp only; rw [z1]
    rw [es, eu]
    obtain ⟨m, i, j, m1, m2, m3, m4⟩ := twN_s z1
    have gm := b4 m i j m1 m2 m3
    rw [← m4] at gm
    rw [m1, m2, m3] at b1
    obtain ⟨-, -, -, i4⟩ := pt_rl C F W (inN_s m2).2.1
    obtain ⟨-, -, -, j4⟩ := pt_rl C F W (inN_s m3).2.1
    obtain ⟨f', t1, t2, t3, t4, t5⟩ := pt_do (B := B) C F1 W k2 ht gm (by rw [m4]; exact GW.jnG i4 j4)
    have sd : f1 (x + 39) 1 = nI (aS S (aD S)).2 := by rw [b3 _ (by omega) (by omega) (by omega)]; exact fg1
    obtain ⟨g1, g2, -, -⟩ := pt_rl C F W k2
    have g5 := g2.1
    refine ⟨f', wp_e (wp_isC c0 (wp_rIe (pt_isTold C F W _) ?_)), t2, t3, frm.tr (t4.up (by omega) (by omega))⟩
    rw [z]
    refine wp_bf n10 (wp_isC c0 (wp_rIe b1 (wp_bf n10 ?_)))
    repeat (first | refine wp_isC (by assumption) ?_ | refine wp_nnR (by assumption) ?_ | refine wp_inA (by assumption) rfl (by omega) (by omega) ?_ | refine wp_isZ (by first | decide | exact b01z _) ?_ | refine wp_bt (by (first | (simp (disch := omega) only [wI_I, wI_s, nI_add, pk_mul, nI_ltI, nI_leI, nI_eq, nI_clamp, nm_or, nm_and, nm_xor, nm_nd, nm_one, nm_shr, nm_b2, Bool.false_eq_true, Bool.true_eq_false, not_false_eq_true, not_true_eq_false, reduceCtorEq, sd]; done) | (simp (disch := omega) only [wI_I, wI_s, nI_add, pk_mul, nI_ltI, nI_leI, nI_eq, nI_clamp, nm_or, nm_and, nm_xor, nm_nd, nm_one, nm_shr, nm_b2, Bool.false_eq_true, Bool.true_eq_false, not_false_eq_true, not_true_eq_false, reduceCtorEq, sd]; omega) | omega)) ?_ | refine wp_bf (by (first | (simp (disch := omega) only [wI_I, wI_s, nI_add, pk_mul, nI_ltI, nI_leI, nI_eq, nI_clamp, nm_or, nm_and, nm_xor, nm_nd, nm_one, nm_shr, nm_b2, Bool.false_eq_true, Bool.true_eq_false, not_false_eq_true, not_true_eq_false, reduceCtorEq, sd]; done) | (simp (disch := omega) only [wI_I, wI_s, nI_add, pk_mul, nI_ltI, nI_leI, nI_eq, nI_clamp, nm_or, nm_and, nm_xor, nm_nd, nm_one, nm_shr, nm_b2, Bool.false_eq_true, Bool.true_eq_false, not_false_eq_true, not_true_eq_false, reduceCtorEq, sd]; omega) | omega)) ?_ | refine wp_nz (by first | decide | exact nz_n (by omega) (by omega)) ?_ | (simp (disch := omega) only [wI_I, wI_s, nI_add, pk_mul, nI_ltI, nI_leI, nI_eq, nI_clamp, nm_or, nm_and, nm_xor, nm_nd, nm_one, nm_shr, nm_b2, Bool.false_eq_true, Bool.true_eq_false, not_false_eq_true, not_true_eq_false, reduceCtorEq, up2_a, up2_k, up2_s, gw_o, sd]))
    refine wp_rVe t1 ?_
    repeat (first | refine wp_isC (by assumption) ?_ | refine wp_nnR (by assumption) ?_ | refine wp_inA (by assumption) rfl (by omega) (by omega) ?_ | refine wp_isZ (by first | decide | exact b01z _) ?_ | refine wp_bt (by (first | (simp (disch := omega) only [wI_I, wI_s, nI_add, pk_mul, nI_ltI, nI_leI, nI_eq, nI_clamp, nm_or, nm_and, nm_xor, nm_nd, nm_one, nm_shr, nm_b2, Bool.false_eq_true, Bool.true_eq_false, not_false_eq_true, not_true_eq_false, reduceCtorEq]; done) | (simp (disch := omega) only [wI_I, wI_s, nI_add, pk_mul, nI_ltI, nI_leI, nI_eq, nI_clamp, nm_or, nm_and, nm_xor, nm_nd, nm_one, nm_shr, nm_b2, Bool.false_eq_true, Bool.true_eq_false, not_false_eq_true, not_true_eq_false, reduceCtorEq]; omega) | omega)) ?_ | refine wp_bf (by (first | (simp (disch := omega) only [wI_I, wI_s, nI_add, pk_mul, nI_ltI, nI_leI, nI_eq, nI_clamp, nm_or, nm_and, nm_xor, nm_nd, nm_one, nm_shr, nm_b2, Bool.false_eq_true, Bool.true_eq_false, not_false_eq_true, not_true_eq_false, reduceCtorEq]; done) | (simp (disch := omega) only [wI_I, wI_s, nI_add, pk_mul, nI_ltI, nI_leI, nI_eq, nI_clamp, nm_or, nm_and, nm_xor, nm_nd, nm_one, nm_shr, nm_b2, Bool.false_eq_true, Bool.true_eq_false, not_false_eq_true, not_true_eq_false, reduceCtorEq]; omega) | omega)) ?_ | refine wp_nz (by first | decide | exact nz_n (by omega) (by omega)) ?_ | (simp (disch := omega) only [wI_I, wI_s, nI_add, pk_mul, nI_ltI, nI_leI, nI_eq, nI_clamp, nm_or, nm_and, nm_xor, nm_nd, nm_one, nm_shr, nm_b2, Bool.false_eq_true, Bool.true_eq_false, not_false_eq_true, not_true_eq_false, reduceCtorEq, up2_a, up2_k, up2_s, gw_o]))
    exact wp_rIe t5 (wp_s ⟨rfl, rfl⟩)
def sSift (S : Abs) (a : Int32) : Int32 := on (tdN S a) fun k => nI (ct (aW S) (aG S k)) - nI (ct (aW S) (sft (aW S) (vKs (aQ S)) (aG S k)))
def uSift (S : Abs) (a : Int32) : Abs := match tdN S a with
  | some k => nxt S k (sft (aW S) (vKs (aQ S)) (aG S k))
  | none => S
theorem c_sift (C : CSH h x pa pb s1 v1) (F : CF f (hL h) x pa S) (W : WS S) (a : Int32) : ∃ f', ev M_PT_sift 0 0 [some (.ref x), some (.int a), none] [] (wI h f) = some (some (.int (sSift S a)), wI h f') ∧ CF f' (hL h) x pa (uSift S a) ∧ WS (uSift S a) ∧ Fr x (x + 222) f f' := by
  obtain ⟨⟨c0, q0, q2, q3, q4, q5, q6, q7, q8, q9, q10, q11, q12, q13⟩, PA, PB, RSH, HSH, ⟨bC, bN, bR⟩, ISH, TSH, TSH2, GSH, SSH, ⟨lC, lN1, tC, tN⟩, ⟨rC, rR1, sC, sR1, wC, wN⟩, STR, ⟨sx1, sx2, x0⟩, PP⟩ := id C
  obtain ⟨⟨ft1, ft2⟩, ⟨fl1, fl2⟩, ⟨fe1, fe2⟩, fkw, fpn, ⟨fg1, fg2⟩, fhist, fbx, fsg⟩ := id F
  obtain ⟨⟨ws1, ws2⟩, ⟨ws3, ws4⟩, wpn, ⟨ws5, ws6, ws7⟩, ws8, ⟨ws9, ws10⟩, ⟨ws11, ws12⟩, ws13⟩ := id W
  have p1 := PA.1
  have r1 := RSH.1
  have r2 := RSH.2.1
  have r3 := RSH.2.2.1
  have r4 := RSH.2.2.2.1
  have hv1 : 1 ≤ aV S := wpn.1.1
  have hv4 : aV S ≤ 4 := wpn.1.2.1
  have hr5 : aR S ≤ 5 := wpn.1.2.2.2.1
  have hn16 : aW S ≤ 16 := lv_p hv4
  have fp0 : f pa 0 = nI (aV S) := fpn.1
  have fp1 : f pa 1 = nI (aR S) := fpn.2.1
  have gSH := GSH.1
  have tSH := TSH.1
  have sSH := SSH.1
  have iSH := ISH.1
  have hSH := HSH.1
  have hpa := PPa C
  rw [r_PT_sift_0]
  cases z : tdN S a with
  | none =>
    have es : sSift S a = mI 1 := by unfold sSift; rw [z]; rfl
    have eu : uSift S a = S := by unfold uSift; rw [z]
    rw [es, eu]
    refine ⟨f, wp_e (wp_isC c0 (wp_rIe (pt_isTold C F W _) ?_)), F, W, Fr.rf⟩
    rw [z]
    exact wp_bt rfl (wp_s ⟨rfl, rfl⟩)
  | some k =>
  obtain ⟨y, ht⟩ := tdN_s z
  obtain ⟨k1, k2, k3⟩ := inN_s y
  subst k1
  have es : sSift S (nI k) = nI (ct (aW S) (aG S k)) - nI (ct (aW S) (sft (aW S) (vKs (aQ S)) (aG S k))) := by unfold sSift; rw [z]; rfl
  have eu : uSift S (nI k) = nxt S k (sft (aW S) (vKs (aQ S)) (aG S k)) := by unfold uSift; rw [z]
  rw [es, eu]
  obtain ⟨g1, g2, g3, g4⟩ := pt_rl C F W k2
  have g5 := g2.1
  obtain ⟨f1, b1, b2, b3⟩ := pt_sift C F W g2 (by omega) (by omega) g3 g4
  have F1 := (b3.fx hpa).F PP hr5 F
  have frm : Fr x (x + 222) f f1 := fun y hy => b3 y (by omega) (by omega) (by omega)
  obtain ⟨f', t1, t2, t3, t4, t5⟩ := pt_do (B := sft (aW S) (vKs (aQ S)) (aG S k)) C F1 W k2 ht b2 (GW.sft g4)
  have sd : f1 (x + 39) 1 = nI (aS S (aD S)).2 := by rw [b3 _ (by omega) (by omega) (by omega)]; exact fg1
  refine ⟨f', wp_e (wp_isC c0 (wp_rIe (pt_isTold C F W _) ?_)), t2, t3, frm.tr (t4.up (by omega) (by omega))⟩
  rw [z]
  refine wp_bf n10 ?_
  repeat (first | refine wp_isC (by assumption) ?_ | refine wp_nnR (by assumption) ?_ | refine wp_inA (by assumption) rfl (by omega) (by omega) ?_ | refine wp_isZ (by first | decide | exact b01z _) ?_ | refine wp_bt (by (first | (simp (disch := omega) only [wI_I, wI_s, nI_add, pk_mul, nI_ltI, nI_leI, nI_eq, nI_clamp, nm_or, nm_and, nm_xor, nm_nd, nm_one, nm_shr, nm_b2, Bool.false_eq_true, Bool.true_eq_false, not_false_eq_true, not_true_eq_false, reduceCtorEq]; done) | (simp (disch := omega) only [wI_I, wI_s, nI_add, pk_mul, nI_ltI, nI_leI, nI_eq, nI_clamp, nm_or, nm_and, nm_xor, nm_nd, nm_one, nm_shr, nm_b2, Bool.false_eq_true, Bool.true_eq_false, not_false_eq_true, not_true_eq_false, reduceCtorEq]; omega) | omega)) ?_ | refine wp_bf (by (first | (simp (disch := omega) only [wI_I, wI_s, nI_add, pk_mul, nI_ltI, nI_leI, nI_eq, nI_clamp, nm_or, nm_and, nm_xor, nm_nd, nm_one, nm_shr, nm_b2, Bool.false_eq_true, Bool.true_eq_false, not_false_eq_true, not_true_eq_false, reduceCtorEq]; done) | (simp (disch := omega) only [wI_I, wI_s, nI_add, pk_mul, nI_ltI, nI_leI, nI_eq, nI_clamp, nm_or, nm_and, nm_xor, nm_nd, nm_one, nm_shr, nm_b2, Bool.false_eq_true, Bool.true_eq_false, not_false_eq_true, not_true_eq_false, reduceCtorEq]; omega) | omega)) ?_ | refine wp_nz (by first | decide | exact nz_n (by omega) (by omega)) ?_ | (simp (disch := omega) only [wI_I, wI_s, nI_add, pk_mul, nI_ltI, nI_leI, nI_eq, nI_clamp, nm_or, nm_and, nm_xor, nm_nd, nm_one, nm_shr, nm_b2, Bool.false_eq_true, Bool.true_eq_false, not_false_eq_true, not_true_eq_false, reduceCtorEq, up2_a, up2_k, up2_s, gw_o]))
  refine wp_rIe (gq_count g2 g3 g4) ?_
  repeat (first | refine wp_isC (by assumption) ?_ | refine wp_nnR (by assumption) ?_ | refine wp_inA (by assumption) rfl (by omega) (by omega) ?_ | refine wp_isZ (by first | decide | exact b01z _) ?_ | refine wp_bt (by (first | (simp (disch := omega) only [wI_I, wI_s, nI_add, pk_mul, nI_ltI, nI_leI, nI_eq, nI_clamp, nm_or, nm_and, nm_xor, nm_nd, nm_one, nm_shr, nm_b2, Bool.false_eq_true, Bool.true_eq_false, not_false_eq_true, not_true_eq_false, reduceCtorEq]; done) | (simp (disch := omega) only [wI_I, wI_s, nI_add, pk_mul, nI_ltI, nI_leI, nI_eq, nI_clamp, nm_or, nm_and, nm_xor, nm_nd, nm_one, nm_shr, nm_b2, Bool.false_eq_true, Bool.true_eq_false, not_false_eq_true, not_true_eq_false, reduceCtorEq]; omega) | omega)) ?_ | refine wp_bf (by (first | (simp (disch := omega) only [wI_I, wI_s, nI_add, pk_mul, nI_ltI, nI_leI, nI_eq, nI_clamp, nm_or, nm_and, nm_xor, nm_nd, nm_one, nm_shr, nm_b2, Bool.false_eq_true, Bool.true_eq_false, not_false_eq_true, not_true_eq_false, reduceCtorEq]; done) | (simp (disch := omega) only [wI_I, wI_s, nI_add, pk_mul, nI_ltI, nI_leI, nI_eq, nI_clamp, nm_or, nm_and, nm_xor, nm_nd, nm_one, nm_shr, nm_b2, Bool.false_eq_true, Bool.true_eq_false, not_false_eq_true, not_true_eq_false, reduceCtorEq]; omega) | omega)) ?_ | refine wp_nz (by first | decide | exact nz_n (by omega) (by omega)) ?_ | (simp (disch := omega) only [wI_I, wI_s, nI_add, pk_mul, nI_ltI, nI_leI, nI_eq, nI_clamp, nm_or, nm_and, nm_xor, nm_nd, nm_one, nm_shr, nm_b2, Bool.false_eq_true, Bool.true_eq_false, not_false_eq_true, not_true_eq_false, reduceCtorEq, up2_a, up2_k, up2_s, gw_o]))
  refine wp_rVe b1 ?_
  repeat (first | refine wp_isC (by assumption) ?_ | refine wp_nnR (by assumption) ?_ | refine wp_inA (by assumption) rfl (by omega) (by omega) ?_ | refine wp_isZ (by first | decide | exact b01z _) ?_ | refine wp_bt (by (first | (simp (disch := omega) only [wI_I, wI_s, nI_add, pk_mul, nI_ltI, nI_leI, nI_eq, nI_clamp, nm_or, nm_and, nm_xor, nm_nd, nm_one, nm_shr, nm_b2, Bool.false_eq_true, Bool.true_eq_false, not_false_eq_true, not_true_eq_false, reduceCtorEq, sd]; done) | (simp (disch := omega) only [wI_I, wI_s, nI_add, pk_mul, nI_ltI, nI_leI, nI_eq, nI_clamp, nm_or, nm_and, nm_xor, nm_nd, nm_one, nm_shr, nm_b2, Bool.false_eq_true, Bool.true_eq_false, not_false_eq_true, not_true_eq_false, reduceCtorEq, sd]; omega) | omega)) ?_ | refine wp_bf (by (first | (simp (disch := omega) only [wI_I, wI_s, nI_add, pk_mul, nI_ltI, nI_leI, nI_eq, nI_clamp, nm_or, nm_and, nm_xor, nm_nd, nm_one, nm_shr, nm_b2, Bool.false_eq_true, Bool.true_eq_false, not_false_eq_true, not_true_eq_false, reduceCtorEq, sd]; done) | (simp (disch := omega) only [wI_I, wI_s, nI_add, pk_mul, nI_ltI, nI_leI, nI_eq, nI_clamp, nm_or, nm_and, nm_xor, nm_nd, nm_one, nm_shr, nm_b2, Bool.false_eq_true, Bool.true_eq_false, not_false_eq_true, not_true_eq_false, reduceCtorEq, sd]; omega) | omega)) ?_ | refine wp_nz (by first | decide | exact nz_n (by omega) (by omega)) ?_ | (simp (disch := omega) only [wI_I, wI_s, nI_add, pk_mul, nI_ltI, nI_leI, nI_eq, nI_clamp, nm_or, nm_and, nm_xor, nm_nd, nm_one, nm_shr, nm_b2, Bool.false_eq_true, Bool.true_eq_false, not_false_eq_true, not_true_eq_false, reduceCtorEq, up2_a, up2_k, up2_s, gw_o, sd]))
  refine wp_rVe t1 ?_
  repeat (first | refine wp_isC (by assumption) ?_ | refine wp_nnR (by assumption) ?_ | refine wp_inA (by assumption) rfl (by omega) (by omega) ?_ | refine wp_isZ (by first | decide | exact b01z _) ?_ | refine wp_bt (by (first | (simp (disch := omega) only [wI_I, wI_s, nI_add, pk_mul, nI_ltI, nI_leI, nI_eq, nI_clamp, nm_or, nm_and, nm_xor, nm_nd, nm_one, nm_shr, nm_b2, Bool.false_eq_true, Bool.true_eq_false, not_false_eq_true, not_true_eq_false, reduceCtorEq]; done) | (simp (disch := omega) only [wI_I, wI_s, nI_add, pk_mul, nI_ltI, nI_leI, nI_eq, nI_clamp, nm_or, nm_and, nm_xor, nm_nd, nm_one, nm_shr, nm_b2, Bool.false_eq_true, Bool.true_eq_false, not_false_eq_true, not_true_eq_false, reduceCtorEq]; omega) | omega)) ?_ | refine wp_bf (by (first | (simp (disch := omega) only [wI_I, wI_s, nI_add, pk_mul, nI_ltI, nI_leI, nI_eq, nI_clamp, nm_or, nm_and, nm_xor, nm_nd, nm_one, nm_shr, nm_b2, Bool.false_eq_true, Bool.true_eq_false, not_false_eq_true, not_true_eq_false, reduceCtorEq]; done) | (simp (disch := omega) only [wI_I, wI_s, nI_add, pk_mul, nI_ltI, nI_leI, nI_eq, nI_clamp, nm_or, nm_and, nm_xor, nm_nd, nm_one, nm_shr, nm_b2, Bool.false_eq_true, Bool.true_eq_false, not_false_eq_true, not_true_eq_false, reduceCtorEq]; omega) | omega)) ?_ | refine wp_nz (by first | decide | exact nz_n (by omega) (by omega)) ?_ | (simp (disch := omega) only [wI_I, wI_s, nI_add, pk_mul, nI_ltI, nI_leI, nI_eq, nI_clamp, nm_or, nm_and, nm_xor, nm_nd, nm_one, nm_shr, nm_b2, Bool.false_eq_true, Bool.true_eq_false, not_false_eq_true, not_true_eq_false, reduceCtorEq, up2_a, up2_k, up2_s, gw_o]))
  exact wp_rIe t5 (wp_s ⟨rfl, rfl⟩)
/-! drift -/
def sdN (S : Abs) : Nat := ((aS S (aD S)).2 * 137 + 71) % 1000
def drN (S : Abs) : Option Nat := if aR S = 0 ∨ vDr (aQ S) ≤ sdN S % 100 then none else if (vTd (aQ S)).testBit (sdN S % aR S) then some (sdN S % aR S) else none
def uDrift (S : Abs) : Abs := push S (setA (aS S (aD S)).1 (drN S) (flp (aG S (sdN S % aR S)) (sdN S / 16 % aW S) (sdN S % aW S)), sdN S)
theorem pt_drTo (C : CSH h x pa pb s1 v1) (F : CF f (hL h) x pa S) (W : WS S) : ev M_PT_driftsTo 0 0 [some (.ref x), some (.int (nI (sdN S))), none] [] (wI h f) = some (some (.int (oI (drN S))), wI h f) := by
  obtain ⟨⟨c0, q0, q2, q3, q4, q5, q6, q7, q8, q9, q10, q11, q12, q13⟩, PA, PB, RSH, HSH, ⟨bC, bN, bR⟩, ISH, TSH, TSH2, GSH, SSH, ⟨lC, lN1, tC, tN⟩, ⟨rC, rR1, sC, sR1, wC, wN⟩, STR, ⟨sx1, sx2, x0⟩, PP⟩ := id C
  obtain ⟨⟨ft1, ft2⟩, ⟨fl1, fl2⟩, ⟨fe1, fe2⟩, fkw, fpn, ⟨fg1, fg2⟩, fhist, fbx, fsg⟩ := id F
  obtain ⟨⟨ws1, ws2⟩, ⟨ws3, ws4⟩, wpn, ⟨ws5, ws6, ws7⟩, ws8, ⟨ws9, ws10⟩, ⟨ws11, ws12⟩, ws13⟩ := id W
  have p1 := PA.1
  have r1 := RSH.1
  have r2 := RSH.2.1
  have r3 := RSH.2.2.1
  have r4 := RSH.2.2.2.1
  have hv1 : 1 ≤ aV S := wpn.1.1
  have hv4 : aV S ≤ 4 := wpn.1.2.1
  have hr5 : aR S ≤ 5 := wpn.1.2.2.2.1
  have hn16 : aW S ≤ 16 := lv_p hv4
  have fp0 : f pa 0 = nI (aV S) := fpn.1
  have fp1 : f pa 1 = nI (aR S) := fpn.2.1
  have gSH := GSH.1
  have tSH := TSH.1
  have sSH := SSH.1
  have iSH := ISH.1
  have hSH := HSH.1
  have hsd : sdN S < 1000 := Nat.mod_lt _ (by decide)
  have fd : f pa 3 = nI (vDr (aQ S)) := fpn.2.2.2.1
  have hd : vDr (aQ S) ≤ 100 := wpn.1.2.2.2.2.2.1
  have hm100 : sdN S % 100 < 100 := Nat.mod_lt _ (by decide)
  rw [r_PT_driftsTo_0]
  apply wp_e
  unfold drN
  refine wp_isC c0 (wp_nnR q2 (wp_isC p1 ?_))
  rw [wI_I, fp1]
  by_cases r0 : aR S = 0
  · rw [if_pos (Or.inl r0)]
    exact wp_bt (by rw [r0]) (wp_s ⟨rfl, rfl⟩)
  refine wp_bf (by rw [nI_eq (by omega) (by decide)]; exact r0) (wp_nz (by decide) (wp_isC c0 (wp_nnR q2 (wp_isC p1 ?_))))
  rw [fd, pk_rem (by omega) (by decide) (by decide)]
  by_cases q : vDr (aQ S) ≤ sdN S % 100
  · rw [if_pos (Or.inr q)]
    exact wp_bf (by rw [nI_ltI (by omega) (by omega)]; omega) (wp_s ⟨rfl, rfl⟩)
  rw [if_neg (by omega)]
  have hm : sdN S % aR S < aR S := Nat.mod_lt _ (by omega)
  have td : vTd (aQ S) < 2 ^ 31 := Nat.lt_trans wpn.1.2.2.2.2.1 (by decide)
  refine wp_bt (by rw [nI_ltI (by omega) (by omega)]; omega) (wp_isC c0 (wp_nnR q2 (wp_isC p1 ?_)))
  rw [fp1]
  refine wp_nz (nI_ne0 (by omega) (by omega)) (wp_isC c0 (wp_nnR q2 (wp_isC p1 ?_)))
  rw [pk_rem (by omega) (by omega) (by omega)]
  refine wp_rIe (pl_told p1 fpn.2.2.1 td (by omega)) ?_
  cases (vTd (aQ S)).testBit (sdN S % aR S) with
  | false => exact wp_bt rfl (wp_s ⟨rfl, rfl⟩)
  | true => exact wp_bf n10 (wp_s ⟨rfl, rfl⟩)
theorem drN_s {k : Nat} (z : drN S = some k) : k = sdN S % aR S ∧ 0 < aR S ∧ (vTd (aQ S)).testBit k = true := by
  unfold drN at z
  by_cases q : aR S = 0 ∨ vDr (aQ S) ≤ sdN S % 100
  · rw [if_pos q] at z; cases z
  rw [if_neg q] at z
  by_cases q2 : (vTd (aQ S)).testBit (sdN S % aR S) = true
  · rw [if_pos q2] at z; cases z; exact ⟨rfl, by omega, q2⟩
  · rw [if_neg q2] at z; cases z
theorem c_drift (C : CSH h x pa pb s1 v1) (F : CF f (hL h) x pa S) (W : WS S) : ∃ f', ev M_PT_drift 0 0 [some (.ref x), none, none] [] (wI h f) = some (some (.int (oI (drN S))), wI h f') ∧ CF f' (hL h) x pa (uDrift S) ∧ WS (uDrift S) ∧ Fr x (x + 222) f f' := by
  obtain ⟨⟨c0, q0, q2, q3, q4, q5, q6, q7, q8, q9, q10, q11, q12, q13⟩, PA, PB, RSH, HSH, ⟨bC, bN, bR⟩, ISH, TSH, TSH2, GSH, SSH, ⟨lC, lN1, tC, tN⟩, ⟨rC, rR1, sC, sR1, wC, wN⟩, STR, ⟨sx1, sx2, x0⟩, PP⟩ := id C
  obtain ⟨⟨ft1, ft2⟩, ⟨fl1, fl2⟩, ⟨fe1, fe2⟩, fkw, fpn, ⟨fg1, fg2⟩, fhist, fbx, fsg⟩ := id F
  obtain ⟨⟨ws1, ws2⟩, ⟨ws3, ws4⟩, wpn, ⟨ws5, ws6, ws7⟩, ws8, ⟨ws9, ws10⟩, ⟨ws11, ws12⟩, ws13⟩ := id W
  have p1 := PA.1
  have r1 := RSH.1
  have r2 := RSH.2.1
  have r3 := RSH.2.2.1
  have r4 := RSH.2.2.2.1
  have hv1 : 1 ≤ aV S := wpn.1.1
  have hv4 : aV S ≤ 4 := wpn.1.2.1
  have hr5 : aR S ≤ 5 := wpn.1.2.2.2.1
  have hn16 : aW S ≤ 16 := lv_p hv4
  have fp0 : f pa 0 = nI (aV S) := fpn.1
  have fp1 : f pa 1 = nI (aR S) := fpn.2.1
  have gSH := GSH.1
  have tSH := TSH.1
  have sSH := SSH.1
  have iSH := ISH.1
  have hSH := HSH.1
  have hpa := PPa C
  have hsd : sdN S < 1000 := Nat.mod_lt _ (by decide)
  have hs0 := (ws7 _ ws5).1
  have esd : ((nI (aS S (aD S)).2 * nI 137 + nI 71) - (nI (aS S (aD S)).2 * nI 137 + nI 71) / nI 1000 * nI 1000) = nI (sdN S) := by
    rw [pk_mul, nI_add, pk_rem (by omega) (by decide) (by decide)]; rfl
  have hW : WS (uDrift S) := by
    unfold uDrift
    refine WS_push W ?_
    cases z : drN S with
    | none => exact ⟨hsd, (ws7 _ ws5).2⟩
    | some k =>
      obtain ⟨e, r0, ht⟩ := drN_s z
      have hm : sdN S % aR S < aR S := Nat.mod_lt _ r0
      obtain ⟨-, -, -, g4⟩ := pt_rl C F W hm
      have w0 : 0 < aW S := Nat.two_pow_pos _
      exact WSd_set W ht (g4.flp (Nat.mod_lt _ w0) (Nat.mod_lt _ w0)) hsd
  rw [r_PT_drift_0]
  cases z : drN S with
  | none =>
    obtain ⟨n', G', hg⟩ := GF_sur f (x + 214)
    obtain ⟨f', e1, e2, e3⟩ := pt_perform (rel := none) (v := sdN S) (B := G') C F W hg.2 (fun j hj => by cases hj)
    have eu : uDrift S = push S (setA (aS S (aD S)).1 none G', sdN S) := by unfold uDrift; rw [z]; rfl
    refine ⟨f', wp_e ?_, by rw [eu]; exact e2, hW, e3.up (by omega) (by omega)⟩
    refine wp_isC c0 (wp_nnR q5 (wp_isC r1 (wp_nz (by decide) (wp_isC c0 ?_))))
    rw [wI_I, fg1, esd]
    refine wp_rIe (pt_drTo C F W) ?_
    rw [z, r_PT_drift_41]
    exact wp_bt rfl (wp_isC c0 (wp_nnR q11 (wp_isC c0 (wp_rVe e1 (wp_s ⟨rfl, rfl⟩)))))
  | some k =>
    obtain ⟨e, r0, ht⟩ := drN_s z
    have hm : sdN S % aR S < aR S := Nat.mod_lt _ r0
    rw [← e] at hm
    obtain ⟨g1, g2, g3, g4⟩ := pt_rl C F W hm
    have g5 := g2.1
    have w0 : 0 < aW S := Nat.two_pow_pos _
    have m1 : sdN S / 16 % aW S < aW S := Nat.mod_lt _ w0
    have m2 : sdN S % aW S < aW S := Nat.mod_lt _ w0
    have e1 := gq_copy GSH g2 (by omega) g3
    have e2 := gq_turn (f := gw f (x + 214) (aW S) (aG S k)) GSH gw_f g4 m1 m2
    rw [gw_gw] at e2
    have fx : FX x pa f (gw f (x + 214) (aW S) (flp (aG S k) (sdN S / 16 % aW S) (sdN S % aW S))) := FX.made
    have F' := fx.F PP hr5 F
    obtain ⟨f', t1, t2, t3⟩ := pt_perform (rel := some k) (v := sdN S) (B := flp (aG S k) (sdN S / 16 % aW S) (sdN S % aW S)) C F' W gw_f.2 (fun j hj => by cases hj; exact ⟨hm, ht, g4.flp m1 m2⟩)
    have eu : uDrift S = push S (setA (aS S (aD S)).1 (some k) (flp (aG S k) (sdN S / 16 % aW S) (sdN S % aW S)), sdN S) := by unfold uDrift; rw [z, ← e]
    have fp0' : gw f (x + 214) (aW S) (aG S k) pa 0 = nI (aV S) := by rw [gw_o (by omega) (by omega)]; exact fp0
    refine ⟨f', wp_e ?_, by rw [eu]; exact t2, hW, (Fr.gw (lo := x) (hi := x + 222) (by omega) (by omega)).tr (t3.up (by omega) (by omega))⟩
    refine wp_isC c0 (wp_nnR q5 (wp_isC r1 (wp_nz (by decide) (wp_isC c0 ?_))))
    rw [wI_I, fg1, esd]
    refine wp_rIe (pt_drTo C F W) ?_
    rw [z]
    refine wp_bf (by show ¬ nI k = mI 1; intro w; have := nI_pos (n := k) (by omega); rw [w] at this; exact this mI_neg) ?_
    show wp (isC (wI h f) x 12 (nnR (hR (wI h f) x 11) fun r4 => isC (wI h f) x 12 (nnR (hR (wI h f) x 5) fun r5 => isC (wI h f) r5 7 (nnR (hR (wI h f) r5 0) fun r6 => isC (wI h f) r6 24 (inA (wI h f) r6 (nI k) (nnR (hR (wI h f) r6 (Int32.toNatClampNeg (nI k))) fun r7 => _)))))) _
    repeat (first | refine wp_isC (by assumption) ?_ | refine wp_nnR (by assumption) ?_ | refine wp_inA (by assumption) rfl (by omega) (by omega) ?_ | refine wp_isZ (by first | decide | exact b01z _) ?_ | refine wp_bt (by (first | (simp (disch := omega) only [wI_I, wI_s, nI_add, pk_mul, nI_ltI, nI_leI, nI_eq, nI_clamp, nm_or, nm_and, nm_xor, nm_nd, nm_one, nm_shr, nm_b2, Bool.false_eq_true, Bool.true_eq_false, not_false_eq_true, not_true_eq_false, reduceCtorEq]; done) | (simp (disch := omega) only [wI_I, wI_s, nI_add, pk_mul, nI_ltI, nI_leI, nI_eq, nI_clamp, nm_or, nm_and, nm_xor, nm_nd, nm_one, nm_shr, nm_b2, Bool.false_eq_true, Bool.true_eq_false, not_false_eq_true, not_true_eq_false, reduceCtorEq]; omega) | omega)) ?_ | refine wp_bf (by (first | (simp (disch := omega) only [wI_I, wI_s, nI_add, pk_mul, nI_ltI, nI_leI, nI_eq, nI_clamp, nm_or, nm_and, nm_xor, nm_nd, nm_one, nm_shr, nm_b2, Bool.false_eq_true, Bool.true_eq_false, not_false_eq_true, not_true_eq_false, reduceCtorEq]; done) | (simp (disch := omega) only [wI_I, wI_s, nI_add, pk_mul, nI_ltI, nI_leI, nI_eq, nI_clamp, nm_or, nm_and, nm_xor, nm_nd, nm_one, nm_shr, nm_b2, Bool.false_eq_true, Bool.true_eq_false, not_false_eq_true, not_true_eq_false, reduceCtorEq]; omega) | omega)) ?_ | refine wp_nz (by first | decide | exact nz_n (by omega) (by omega)) ?_ | (simp (disch := omega) only [wI_I, wI_s, nI_add, pk_mul, nI_ltI, nI_leI, nI_eq, nI_clamp, nm_or, nm_and, nm_xor, nm_nd, nm_one, nm_shr, nm_b2, Bool.false_eq_true, Bool.true_eq_false, not_false_eq_true, not_true_eq_false, reduceCtorEq, up2_a, up2_k, up2_s, gw_o]))
    refine wp_rVe e1 (wp_isC c0 (wp_nnR q11 (wp_nz (by decide) (wp_isC c0 (wp_nnR q2 (wp_isC p1 (wp_rIe (pl_size p1 fp0' hv4) ?_)))))))
    refine wp_nz (nI_ne0 w0 (by show aW S < _; omega)) (wp_isC c0 (wp_nnR q2 (wp_isC p1 (wp_rIe (pl_size p1 fp0' hv4) ?_))))
    refine wp_nz (nI_ne0 w0 (by show aW S < _; omega)) (wp_isC gSH ?_)
    have h16 : sdN S / 16 < 1000 := Nat.lt_of_le_of_lt (Nat.div_le_self _ _) hsd
    rw [pk_div (by omega) (by decide) (by decide), show nI (2 ^ aV S) = nI (aW S) from rfl, pk_rem (by omega) w0 (by omega), pk_rem (by omega) w0 (by omega)]
    refine wp_rVe e2 ?_
    rw [r_PT_drift_41]
    exact wp_isC c0 (wp_nnR q11 (wp_isC c0 (wp_rVe t1 (wp_s ⟨rfl, rfl⟩))))
end
