/-! The plain form: odds, what is told of the whole. -/
section
variable {h : MH} {f : Nat → Nat → Int32} {m : Nat} {S : Abs}
theorem mo_common : ∀ (N a b : Nat), b ≤ N → a < 2 ^ 31 → b < 2 ^ 31 → ev M_Mo_common 0 5 [none, none, some (.int (nI a)), some (.int (nI b)), none] [] h = some (some (.int (nI (Nat.gcd a b))), h) := by
  intro N
  induction N with
  | zero =>
    intro a b hb ha hb2
    have : b = 0 := by omega
    subst this
    rw [r_Mo_common_5, Nat.gcd_zero_right]
    exact wp_e (wp_bt rfl (wp_s ⟨rfl, rfl⟩))
  | succ N ih =>
    intro a b hb ha hb2
    rw [r_Mo_common_5]
    apply wp_e
    refine wp_bi (nI_eq hb2 (by decide)) (fun z => ?_) (fun z => ?_)
    · rw [z, Nat.gcd_zero_right]; exact wp_s ⟨rfl, rfl⟩
    · have hm := Nat.mod_lt a (show 0 < b by omega)
      refine wp_nz (by rw [show (0 : Int32) = nI 0 from rfl, nI_eq hb2 (by decide)]; exact z) ?_
      rw [pk_rem ha (by omega) hb2]
      have := ih b (a % b) (by omega) hb2 (by omega)
      have e : Nat.gcd b (a % b) = Nat.gcd a b := by rw [Nat.gcd_comm b (a % b), ← Nat.gcd_rec, Nat.gcd_comm]
      rw [e] at this
      exact wp_of this ⟨rfl, rfl⟩
theorem m_odds (C : MSH h m) (F : MF f m S) (W : WS S) (n p : Int32) : ev M_Mo_odds 0 0 [some (.ref m), some (.int n), some (.int p), none, none, none] [] (wI h f) = some (some (.int (sOdds S n p)), wI h f) := by
  have mc := C.1
  have ar4 : hR h m 14 = some (m + 4) := (C.2 3 (by decide)).1
  have an4 : hN h (m + 4) = 2 := (C.2 3 (by decide)).2.1
  have ac4 : hC h (m + 4) = 20 := (C.2 3 (by decide)).2.2
  have rn := mo_in0 (x := n) (n := 4) (wI h f) (by decide)
  have rp := mo_in0 (x := p) (n := 1) (wI h f) (by decide)
  rw [show 4 + 1 = 5 from rfl] at rn
  rw [show 1 + 1 = 2 from rfl] at rp
  have hd : vDr (aQ S) ≤ 100 := W.2.2.1.1.2.2.2.2.2.1
  have f4 : f (m + 4) 0 = nI (vDr (aQ S)) := F.2.2.2.1.1
  rw [r_Mo_odds_0]
  unfold sOdds
  cases zn : inN n 5 with
  | none =>
    rw [zn] at rn
    exact wp_e (wp_rIe rn (wp_bt rfl (wp_s ⟨rfl, rfl⟩)))
  | some k =>
    rw [zn] at rn
    obtain ⟨en, k1, -⟩ := inN_s zn
    subst en
    dsimp only [on]
    cases zp : inN p 2 with
    | none =>
      rw [zp] at rp
      exact wp_e (wp_rIe rn (wp_bf n10 (wp_rIe rp (wp_bt rfl (wp_s ⟨rfl, rfl⟩)))))
    | some t =>
      rw [zp] at rp
      obtain ⟨ep, t1, -⟩ := inN_s zp
      subst ep
      dsimp only
      generalize vDr (aQ S) = d at *
      have b1 : ∀ i, i ≤ 4 → (100 - d) ^ i ≤ 100000000 := fun i hi => Nat.le_trans (Nat.pow_le_pow_left (show 100 - d ≤ 100 by omega) i) (Nat.le_trans (Nat.pow_le_pow_right (by decide) hi) (by decide))
      have b2 : ∀ i, i ≤ 4 → 100 ^ i ≤ 100000000 := fun i hi => Nat.le_trans (Nat.pow_le_pow_right (by decide) hi) (by decide)
      have L : ∀ q i, i + q = k → ev M_Mo_odds 0 19 [some (.ref m), some (.int (nI k)), some (.int (nI t)), some (.int (nI ((100 - d) ^ i))), some (.int (nI (100 ^ i))), some (.int (nI i))] [] (wI h f) = some (some (.int (nI (odd d k t))), wI h f) := by
        intro q
        induction q with
        | zero =>
          intro i hi
          have : i = k := by omega
          subst this
          have c1 := b1 i (by omega)
          have c2 := b2 i (by omega)
          have c0 : 0 < 100 ^ i := Nat.pow_pos (by decide)
          have cm := mo_common (h := wI h f) ((100 - d) ^ i) (100 ^ i) ((100 - d) ^ i) (Nat.le_refl _) (by omega) (by omega)
          have cg : 0 < Nat.gcd (100 ^ i) ((100 - d) ^ i) := Nat.gcd_pos_of_pos_left _ c0
          have cl : Nat.gcd (100 ^ i) ((100 - d) ^ i) ≤ 100 ^ i := Nat.le_of_dvd c0 (Nat.gcd_dvd_left _ _)
          have fin : ∀ x, x < 2 ^ 31 → x / Nat.gcd (100 ^ i) ((100 - d) ^ i) = odd d i t → wp (ev M_Mo_odds 0 43 [none, none, none, some (.int (nI ((100 - d) ^ i))), some (.int (nI (100 ^ i))), none] [(.int (nI x))] (wI h f)) (fun a b => a = some (Value.int (nI (odd d i t))) ∧ b = wI h f) := by
            intro x hx ex
            rw [r_Mo_odds_43, r_Mo_common_0]
            refine wp_rIe cm (wp_nz (by rw [show (0 : Int32) = nI 0 from rfl, nI_eq (by omega) (by decide)]; omega) (wp_s ⟨?_, rfl⟩))
            rw [pk_div hx cg (by omega), ex]
          rw [r_Mo_odds_19]
          refine wp_e (wp_bf (by rw [nI_ltI (by omega) (by omega)]; omega) ?_)
          refine wp_bi (nI_eq (by omega) (by decide)) (fun z => ?_) (fun z => ?_)
          · exact fin _ (by omega) (by unfold odd; rw [if_pos z])
          · exact fin _ (by omega) (by unfold odd; rw [if_neg z])
        | succ q ih =>
          intro i hi
          have ih := ih (i + 1) (by omega)
          rw [Nat.pow_succ, Nat.pow_succ] at ih
          rw [r_Mo_odds_19]
          refine wp_e (wp_bt (by rw [nI_ltI (by omega) (by omega)]; omega) (wp_isC mc (wp_nnR ar4 (wp_isC ac4 (wp_inA (n := 0) an4 rfl (by decide) (by decide) ?_)))))
          rw [show (nI 0).toNatClampNeg = 0 from rfl, wI_I, f4, pk_sub hd, pk_mul, pk_mul, nI_add]
          exact wp_of ih ⟨rfl, rfl⟩
      exact wp_e (wp_rIe rn (wp_bf n10 (wp_rIe rp (wp_bf n10 (wp_of (L k 0 (by omega)) ⟨rfl, rfl⟩)))))
theorem mo_told {t : Nat} (C : MSH h m) (F : MF f m S) (W : WS S) : ev M_Mo_toldSet 0 0 [some (.ref m), none, none] [] (wI h f) = some (some (.int (nI (vTd (aQ S)))), wI h f) := by
  have mc := C.1
  have ar3 : hR h m 13 = some (m + 3) := (C.2 2 (by decide)).1
  have an3 : hN h (m + 3) = 2 := (C.2 2 (by decide)).2.1
  have ac3 : hC h (m + 3) = 20 := (C.2 2 (by decide)).2.2
  have ar9 : hR h m 19 = some (m + 9) := (C.2 8 (by decide)).1
  have an9 : hN h (m + 9) = 10 := (C.2 8 (by decide)).2.1
  have ac9 : hC h (m + 9) = 20 := (C.2 8 (by decide)).2.2
  have hr5 : aR S ≤ 5 := W.2.2.1.1.2.2.2.1
  have f3 : f (m + 3) 0 = nI (aR S) := F.2.2.1.2.1
  have f9 := F.2.2.1.2.2.1
  have hl : vTd (aQ S) < 2 ^ aR S := W.2.2.1.2.1
  have L : ∀ q i, i + q = aR S → ev M_Mo_toldSet 0 5 [some (.ref m), some (.int (nI (vTd (aQ S) % 2 ^ i))), some (.int (nI i))] [] (wI h f) = some (some (.int (nI (vTd (aQ S)))), wI h f) := by
    intro q
    induction q with
    | zero =>
      intro i hi
      have : i = aR S := by omega
      rw [r_Mo_toldSet_5, this, Nat.mod_eq_of_lt hl]
      refine wp_e (wp_isC mc (wp_nnR ar3 (wp_isC ac3 (wp_inA (n := 0) an3 rfl (by decide) (by decide) ?_))))
      rw [show (nI 0).toNatClampNeg = 0 from rfl, wI_I, f3]
      exact wp_bf (by rw [nI_ltI (by omega) (by omega)]; omega) (wp_s ⟨rfl, rfl⟩)
    | succ q ih =>
      intro i hi
      have ih := ih (i + 1) (by omega)
      rw [r_Mo_toldSet_5]
      refine wp_e (wp_isC mc (wp_nnR ar3 (wp_isC ac3 (wp_inA (n := 0) an3 rfl (by decide) (by decide) ?_))))
      rw [show (nI 0).toNatClampNeg = 0 from rfl, wI_I, f3]
      refine wp_bt (by rw [nI_ltI (by omega) (by omega)]; omega) (wp_isC mc (wp_nnR ar9 (wp_isC ac9 (wp_inA an9 rfl (by omega) (by omega) ?_))))
      rw [nI_clamp (by omega), f9 i (by omega)]
      have hp : 2 ^ i ≤ 2 ^ 5 := Nat.pow_le_pow_right (by decide) (by omega)
      have hb : ((vTd (aQ S)).testBit i).toNat ≤ 1 := Bool.toNat_le _
      have hm : ((vTd (aQ S)).testBit i).toNat * 2 ^ i ≤ 2 ^ 5 := by
        cases (vTd (aQ S)).testBit i with
        | true => show 1 * 2 ^ i ≤ 2 ^ 5; omega
        | false => show 0 * 2 ^ i ≤ 2 ^ 5; omega
      rw [nm_shl (by omega) (by omega), nm_or, nI_add]
      have e : vTd (aQ S) % 2 ^ i ||| ((vTd (aQ S)).testBit i).toNat * 2 ^ i = vTd (aQ S) % 2 ^ (i + 1) := by
        apply Nat.eq_of_testBit_eq
        intro j
        rw [Nat.testBit_or, Nat.testBit_mod_two_pow, Nat.testBit_mod_two_pow]
        cases z : (vTd (aQ S)).testBit i with
        | true =>
          show (_ || (1 * 2 ^ i).testBit j) = _
          rw [Nat.one_mul, Nat.testBit_two_pow]
          by_cases w : j = i
          · subst w
            rw [z, decide_eq_true rfl, decide_eq_true (Nat.lt_succ_self j), Bool.or_true]; rfl
          · rw [decide_eq_false (Ne.symm w), Bool.or_false]
            by_cases y : j < i
            · rw [decide_eq_true y, decide_eq_true (show j < i + 1 by omega)]
            · rw [decide_eq_false y, decide_eq_false (show ¬ j < i + 1 by omega)]
        | false =>
          show (_ || (0 * 2 ^ i).testBit j) = _
          rw [Nat.zero_mul, Nat.zero_testBit, Bool.or_false]
          by_cases w : j = i
          · subst w
            rw [z, Bool.and_false, Bool.and_false]
          · by_cases y : j < i
            · rw [decide_eq_true y, decide_eq_true (show j < i + 1 by omega)]
            · rw [decide_eq_false y, decide_eq_false (show ¬ j < i + 1 by omega)]
      rw [e]
      exact wp_of ih ⟨rfl, rfl⟩
  rw [r_Mo_toldSet_0]
  have := L (aR S) 0 (by omega)
  rw [Nat.pow_zero, Nat.mod_one] at this
  exact this
theorem mo_pairsAll {nr td n : Nat} {A : Nat → Rw} (C : MSH h m) (hr5 : nr ≤ 5) (f3 : f (m + 3) 0 = nI nr) (f9 : ∀ k, k < nr → f (m + 9) k = nI (td.testBit k).toNat) (N : ∀ k, k < 5 → RF f (m + 16) (16 * k) (A k)) (V : ∀ k, td.testBit k = true → GW n (A k)) : ev M_Mo_pairsAll 0 0 [some (.ref m), none, none] [] (wI h f) = some (some (.int (nI (tc n td A nr))), wI h f) := by
  have mc := C.1
  have ar3 : hR h m 13 = some (m + 3) := (C.2 2 (by decide)).1
  have an3 : hN h (m + 3) = 2 := (C.2 2 (by decide)).2.1
  have ac3 : hC h (m + 3) = 20 := (C.2 2 (by decide)).2.2
  have ar9 : hR h m 19 = some (m + 9) := (C.2 8 (by decide)).1
  have an9 : hN h (m + 9) = 10 := (C.2 8 (by decide)).2.1
  have ac9 : hC h (m + 9) = 20 := (C.2 8 (by decide)).2.2
  have ar16 : hR h m 34 = some (m + 16) := (C.2 15 (by decide)).1
  have an16 : hN h (m + 16) = 81 := (C.2 15 (by decide)).2.1
  have ac16 : hC h (m + 16) = 20 := (C.2 15 (by decide)).2.2
  have L : ∀ q i, i + q = nr → ev M_Mo_pairsAll 0 5 [some (.ref m), some (.int (nI (sm (fun k => if td.testBit k then ct n (A k) else 0) i))), some (.int (nI i))] [] (wI h f) = some (some (.int (nI (tc n td A nr))), wI h f) := by
    intro q
    induction q with
    | zero =>
      intro i hi
      have : i = nr := by omega
      rw [r_Mo_pairsAll_5, this]
      refine wp_e (wp_isC mc (wp_nnR ar3 (wp_isC ac3 (wp_inA (n := 0) an3 rfl (by decide) (by decide) ?_))))
      rw [show (nI 0).toNatClampNeg = 0 from rfl, wI_I, f3]
      exact wp_bf (by rw [nI_ltI (by omega) (by omega)]; omega) (wp_s ⟨rfl, rfl⟩)
    | succ q ih =>
      intro i hi
      have ih := ih (i + 1) (by omega)
      rw [sm] at ih
      rw [r_Mo_pairsAll_5]
      refine wp_e (wp_isC mc (wp_nnR ar3 (wp_isC ac3 (wp_inA (n := 0) an3 rfl (by decide) (by decide) ?_))))
      rw [show (nI 0).toNatClampNeg = 0 from rfl, wI_I, f3]
      refine wp_bt (by rw [nI_ltI (by omega) (by omega)]; omega) (wp_isC mc (wp_nnR ar9 (wp_isC ac9 (wp_inA an9 rfl (by omega) (by omega) ?_))))
      rw [nI_clamp (by omega), f9 i (by omega)]
      cases z : td.testBit i with
      | true =>
        have V := V i z
        rw [z, if_pos rfl] at ih
        refine wp_bt rfl (wp_isC mc (wp_nnR ar16 ?_))
        rw [pk_mul]
        refine wp_rIe (mo_manyIn ac16 an16 (by omega) (by decide) (N i (by omega)) V.lt) ?_
        rw [ct_16 V, r_Mo_pairsAll_27, nI_add, nI_add]
        exact wp_of ih ⟨rfl, rfl⟩
      | false =>
        rw [z, if_neg (by decide)] at ih
        refine wp_bf (Ne.symm n10) ?_
        rw [r_Mo_pairsAll_27, nI_add, nI_add]
        exact wp_of ih ⟨rfl, rfl⟩
  rw [r_Mo_pairsAll_0]
  exact L nr 0 (by omega)
theorem tc_G (q : Pn) (cx : Nat → List Nat) (A : Nat → Rw) (n : Nat) : tc n (vTd q) A (vNr q) = tc n (vTd q) (gA q cx A) (vNr q) := by
  unfold tc
  apply sm_c
  intro k hk
  by_cases z : (vTd q).testBit k = true
  · rw [if_pos z, if_pos z, gA_t hk z]
  · rw [if_neg z, if_neg z]
theorem mo_all (C : MSH h m) (F : MF f m S) (W : WS S) : ev M_Mo_pairsAll 0 0 [some (.ref m), none, none] [] (wI h f) = some (some (.int (nI (tc (aW S) (vTd (aQ S)) (aG S) (aR S)))), wI h f) := by
  have := mo_pairsAll (n := aW S) C W.2.2.1.1.2.2.2.1 F.2.2.1.2.1 F.2.2.1.2.2.1 F.now (fun k hk => ((W.2.2.2.1.2.2 _ W.2.2.2.1.1).2 k).1 hk)
  rw [this]
  have e := tc_G (aQ S) (aX S) (aS S (aD S)).1 (aW S)
  exact congrArg (fun z => some (some (Value.int (nI z)), wI h f)) e
theorem m_about (C : MSH h m) (F : MF f m S) (W : WS S) (w : Int32) : ev M_Mo_about 0 0 [some (.ref m), some (.int w)] [] (wI h f) = some (some (.int (sAbout S w)), wI h f) := by
  have mc := C.1
  have ar2 : hR h m 12 = some (m + 2) := (C.2 1 (by decide)).1
  have an2 : hN h (m + 2) = 2 := (C.2 1 (by decide)).2.1
  have ac2 : hC h (m + 2) = 20 := (C.2 1 (by decide)).2.2
  have ar3 : hR h m 13 = some (m + 3) := (C.2 2 (by decide)).1
  have an3 : hN h (m + 3) = 2 := (C.2 2 (by decide)).2.1
  have ac3 : hC h (m + 3) = 20 := (C.2 2 (by decide)).2.2
  have ar4 : hR h m 14 = some (m + 4) := (C.2 3 (by decide)).1
  have an4 : hN h (m + 4) = 2 := (C.2 3 (by decide)).2.1
  have ac4 : hC h (m + 4) = 20 := (C.2 3 (by decide)).2.2
  have ar7 : hR h m 17 = some (m + 7) := (C.2 6 (by decide)).1
  have an7 : hN h (m + 7) = 2 := (C.2 6 (by decide)).2.1
  have ac7 : hC h (m + 7) = 20 := (C.2 6 (by decide)).2.2
  have ar16 : hR h m 34 = some (m + 16) := (C.2 15 (by decide)).1
  have an16 : hN h (m + 16) = 81 := (C.2 15 (by decide)).2.1
  have ac16 : hC h (m + 16) = 20 := (C.2 15 (by decide)).2.2
  have hv : aV S ≤ 4 := W.2.2.1.1.2.1
  have f2 : f (m + 2) 0 = nI (aV S) := F.2.2.1.1
  have f3 : f (m + 3) 0 = nI (aR S) := F.2.2.1.2.1
  have f4 : f (m + 4) 0 = nI (vDr (aQ S)) := F.2.2.2.1.1
  have f7 : f (m + 7) 0 = nI (vUn (aQ S)) := F.2.2.2.1.2.2.1
  have f16 : f (m + 16) 80 = nI (aS S (aD S)).2 := F.2.2.2.2.2.1 80 (by decide)
  have g1 : f m 1 = nI (aN S) := F.1.1
  have g36 : f m 36 = nI (aD S) := F.2.2.2.2.2.2.1.1
  have g37 : f m 37 = nI (aK S - aD S) := F.2.2.2.2.2.2.1.2.1
  have g50 : f m 50 = nI (aL S).length := F.2.2.2.2.2.2.2.1.1
  have g57 : f m 57 = nI (aE S).length := F.2.2.2.2.2.2.2.2.1.1
  have g58 : f m 58 = nI (aM S) := F.2.2.2.2.2.2.2.2.1.2.1
  have z80 : (nI 80).toNatClampNeg = 80 := nI_clamp (by decide)
  rw [r_Mo_about_0]
  unfold sAbout
  cases z : inN w 14 with
  | none =>
    have ne : ∀ t, t < 14 → ¬ w = nI t := fun t ht e => by rw [e, inN_k (by omega) ht] at z; cases z
    exact wp_e (wp_bf (ne 0 (by decide)) (wp_bf (ne 1 (by decide)) (wp_bf (ne 2 (by decide)) (wp_bf (ne 3 (by decide)) (wp_bf (ne 4 (by decide)) (wp_bf (ne 5 (by decide)) (wp_bf (ne 6 (by decide)) (wp_bf (ne 7 (by decide)) (wp_bf (ne 8 (by decide)) (wp_bf (ne 9 (by decide)) (wp_bf (ne 10 (by decide)) (wp_bf (ne 11 (by decide)) (wp_bf (ne 12 (by decide)) (wp_bf (ne 13 (by decide)) (wp_s ⟨rfl, rfl⟩)))))))))))))))
  | some t =>
    obtain ⟨e, t1, -⟩ := inN_s z
    subst e
    clear z
    have ct : t = 0 ∨ t = 1 ∨ t = 2 ∨ t = 3 ∨ t = 4 ∨ t = 5 ∨ t = 6 ∨ t = 7 ∨ t = 8 ∨ t = 9 ∨ t = 10 ∨ t = 11 ∨ t = 12 ∨ t = 13 := by omega
    apply wp_e
    dsimp only [on]
    have wd := mo_wide C f2 hv (h := h)
    have td := mo_told (t := 0) C F W
    have pa := mo_all C F W
    rcases ct with e | e | e | e | e | e | e | e | e | e | e | e | e | e <;> subst e <;>
      (repeat (first | refine wp_bt (by decide) ?_ | refine wp_bf (by decide) ?_ | refine wp_isC (by assumption) ?_ | refine wp_nnR (by assumption) ?_ | refine wp_inA (n := 0) (by assumption) rfl (by decide) (by decide) ?_ | refine wp_inA (n := 80) (by assumption) rfl (by decide) (by decide) ?_ | refine wp_rIe wd ?_ | refine wp_rIe td ?_ | refine wp_rIe pa ?_)) <;>
      (refine wp_s ⟨?_, rfl⟩) <;>
      (first | rfl | (rw [wI_I]; simp only [z80, show (nI 0).toNatClampNeg = 0 from rfl, f2, f3, f4, f7, f16, g1, g36, g37, g50, g57, g58]; rfl))
end
