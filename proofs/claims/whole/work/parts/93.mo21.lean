/-! The plain form: the busiest, the densest, whether a relation is so. -/
/-- the greatest so far -/
def amv (F : Nat → Nat) (k : Nat) : Nat := if k = 0 then 0 else F (am F k)
theorem am_1 {F : Nat → Nat} {k : Nat} (h : amv F k < F k) : am F (k + 1) = k ∧ amv F (k + 1) = F k := by
  have e : am F (k + 1) = k := by
    show (if _ then _ else _) = _
    rw [if_pos]
    by_cases z : k = 0
    · exact Or.inl z
    · unfold amv at h; rw [if_neg z] at h; exact Or.inr h
  refine ⟨e, ?_⟩
  unfold amv
  rw [if_neg (by omega), e]
theorem am_2 {F : Nat → Nat} {k : Nat} (h : ¬ amv F k < F k) : am F (k + 1) = am F k ∧ amv F (k + 1) = amv F k := by
  by_cases z : k = 0
  · subst z
    unfold amv at h
    rw [if_pos rfl] at h
    refine ⟨rfl, ?_⟩
    show F 0 = 0
    omega
  · have e : am F (k + 1) = am F k := by
      show (if _ then _ else _) = _
      rw [if_neg]
      rintro (w | w)
      · exact z w
      · unfold amv at h; rw [if_neg z] at h; exact h w
    refine ⟨e, ?_⟩
    unfold amv
    rw [if_neg (by omega), if_neg z, e]
theorem amv_le {F : Nat → Nat} {b : Nat} (h : ∀ k, F k ≤ b) (k : Nat) : amv F k ≤ b := by
  unfold amv; split
  · exact Nat.zero_le _
  · exact h _
section
variable {h : MH} {f : Nat → Nat → Int32} {m : Nat} {S : Abs}
theorem m_busiest (C : MSH h m) (F : MF f m S) (W : WS S) (a t : Int32) : ∃ f', ev M_Mo_busiest 0 0 [some (.ref m), some (.int a), some (.int t), none, none, none, none] [] (wI h f) = some (some (.int (sBusy S a t)), wI h f') ∧ MX m f f' := by
  have mc := C.1
  have ar18 : hR h m 38 = some (m + 18) := (C.2 17 (by decide)).1
  have an18 : hN h (m + 18) = 80 := (C.2 17 (by decide)).2.1
  have ac18 : hC h (m + 18) = 20 := (C.2 17 (by decide)).2.2
  have hv : aV S ≤ 4 := W.2.2.1.1.2.1
  have hw : aW S ≤ 16 := lv_p hv
  have hr5 : aR S ≤ 5 := W.2.2.1.1.2.2.2.1
  have ra := mo_rel C F W a
  have rt := mo_in0 (x := t) (n := 1) (wI h f) (by decide)
  rw [show 1 + 1 = 2 from rfl] at rt
  rw [r_Mo_busiest_0]
  unfold sBusy
  cases za : inN a (aR S) with
  | none =>
    rw [za] at ra
    exact ⟨f, wp_e (wp_isC mc (wp_rIe ra (wp_bt rfl (wp_s ⟨rfl, rfl⟩)))), MX.rf⟩
  | some k =>
    rw [za] at ra
    obtain ⟨ea, k1, -⟩ := inN_s za
    subst ea
    dsimp only [on]
    cases zt : inN t 2 with
    | none =>
      rw [zt] at rt
      exact ⟨f, wp_e (wp_isC mc (wp_rIe ra (wp_bf n10 (wp_rIe rt (wp_bt rfl (wp_s ⟨rfl, rfl⟩)))))), MX.rf⟩
    | some t' =>
      rw [zt] at rt
      obtain ⟨et, t1', -⟩ := inN_s zt
      subst et
      obtain ⟨f', l1, l2, l3⟩ := mo_L C F W
      obtain ⟨R, V⟩ := l2 k k1
      have wd := mo_wide C (l3.F F).2.2.1.1 hv (h := h)
      dsimp only
      generalize aG S k = G at R V
      have hn : 2 ^ aV S = aW S := rfl
      generalize aW S = n at *
      have hF : ∀ k, bzf n G t' k ≤ 16 := fun k => bc_le _
      have L : ∀ q i, i + q = n → ev M_Mo_busiest 0 20 [some (.ref m), some (.int (nI k)), some (.int (nI t')), some (.int (nI (am (bzf n G t') i))), some (.int (nI (amv (bzf n G t') i))), some (.int (nI i)), none] [] (wI h f') = some (some (.int (nI (am (bzf n G t') n))), wI h f') := by
        intro q
        induction q with
        | zero =>
          intro i hi
          have : i = n := by omega
          subst this
          rw [r_Mo_busiest_20]
          exact wp_e (wp_isC mc (wp_rIe wd (wp_bf (by rw [hn, nI_ltI (by omega) (by omega)]; omega) (wp_s ⟨rfl, rfl⟩))))
        | succ q ih =>
          intro i hi
          have ih := ih (i + 1) (by omega)
          have hb := amv_le hF i
          have hb2 := hF i
          have fin : ∀ s, s < 2 ^ 16 → bc s = bzf n G t' i → wp (ev M_Mo_busiest 0 40 [some (.ref m), some (.int (nI k)), some (.int (nI t')), some (.int (nI (am (bzf n G t') i))), some (.int (nI (amv (bzf n G t') i))), some (.int (nI i)), none] [(.int (nI s))] (wI h f')) (fun a b => a = some (Value.int (nI (am (bzf n G t') n))) ∧ b = wI h f') := by
            intro s hs es
            rw [r_Mo_busiest_40]
            refine wp_rIe (mo_bitsIn _ hs) ?_
            rw [es]
            refine wp_bi (nI_ltI (by omega) (by omega)) (fun y => ?_) (fun y => ?_)
            · rw [r_Mo_busiest_51, nI_add]
              obtain ⟨e1, e2⟩ := am_1 y
              rw [e1, e2] at ih
              exact wp_of ih ⟨rfl, rfl⟩
            · rw [r_Mo_busiest_51, nI_add]
              obtain ⟨e1, e2⟩ := am_2 y
              rw [e1, e2] at ih
              exact wp_of ih ⟨rfl, rfl⟩
          rw [r_Mo_busiest_20]
          refine wp_e (wp_isC mc (wp_rIe wd (wp_bt (by rw [hn, nI_ltI (by omega) (by omega)]; omega) ?_)))
          refine wp_bi (nI_eq (by omega) (by decide)) (fun y => ?_) (fun y => ?_)
          · refine wp_isC mc (wp_nnR ar18 (wp_isC ac18 (wp_inA (n := 16 * k + i) an18 (by rw [pk_mul, nI_add]) (by omega) (by omega) ?_)))
            rw [show (nI 16 * nI k + nI i).toNatClampNeg = 16 * k + i by rw [pk_mul, nI_add, nI_clamp (by omega)], wI_I, R i (by omega)]
            exact fin (G i) (V.lt i) (by unfold bzf; rw [if_pos y])
          · refine wp_isC mc (wp_rIe (mo_columnSet C (by omega) (by omega) R V.lt) ?_)
            rw [cs_16 V]
            exact fin _ (Nat.lt_of_lt_of_le cs_lt (Nat.pow_le_pow_right (by decide) hw)) (by unfold bzf; rw [if_neg y])
      exact ⟨f', wp_e (wp_isC mc (wp_rIe ra (wp_bf n10 (wp_rIe rt (wp_bf n10 (wp_isC mc (wp_rVe l1 (wp_of (L n 0 (by omega)) ⟨rfl, rfl⟩)))))))), l3⟩
theorem m_densest (C : MSH h m) (F : MF f m S) (W : WS S) (a l t : Int32) : ∃ f', ev M_Mo_densest 0 0 [some (.ref m), some (.int a), some (.int l), some (.int t), none, none, none, none, none, none, none] [] (wI h f) = some (some (.int (sDens S a l t)), wI h f') ∧ MX m f f' := by
  have mc := C.1
  have ar2 : hR h m 12 = some (m + 2) := (C.2 1 (by decide)).1
  have an2 : hN h (m + 2) = 2 := (C.2 1 (by decide)).2.1
  have ac2 : hC h (m + 2) = 20 := (C.2 1 (by decide)).2.2
  have ar18 : hR h m 38 = some (m + 18) := (C.2 17 (by decide)).1
  have an18 : hN h (m + 18) = 80 := (C.2 17 (by decide)).2.1
  have ac18 : hC h (m + 18) = 20 := (C.2 17 (by decide)).2.2
  have hv : aV S ≤ 4 := W.2.2.1.1.2.1
  have hw : aW S ≤ 16 := lv_p hv
  have hr5 : aR S ≤ 5 := W.2.2.1.1.2.2.2.1
  have ra := mo_rel C F W a
  have rl := mo_in0 (x := l) (n := aV S) (wI h f) (by omega)
  have rt := mo_in0 (x := t) (n := 2) (wI h f) (by decide)
  rw [show 2 + 1 = 3 from rfl] at rt
  have f2 : f (m + 2) 0 = nI (aV S) := F.2.2.1.1
  rw [r_Mo_densest_0]
  unfold sDens
  cases za : inN a (aR S) with
  | none =>
    rw [za] at ra
    exact ⟨f, wp_e (wp_isC mc (wp_rIe ra (wp_bt rfl (wp_s ⟨rfl, rfl⟩)))), MX.rf⟩
  | some k =>
    rw [za] at ra
    obtain ⟨ea, k1, -⟩ := inN_s za
    subst ea
    dsimp only [on]
    cases zl : inN l (aV S + 1) with
    | none =>
      rw [zl] at rl
      refine ⟨f, wp_e (wp_isC mc (wp_rIe ra (wp_bf n10 (wp_isC mc (wp_nnR ar2 (wp_isC ac2 (wp_inA (n := 0) an2 rfl (by decide) (by decide) ?_))))))), MX.rf⟩
      rw [show (nI 0).toNatClampNeg = 0 from rfl, wI_I, f2]
      exact wp_rIe rl (wp_bt rfl (wp_s ⟨rfl, rfl⟩))
    | some l' =>
      rw [zl] at rl
      obtain ⟨el, l1', -⟩ := inN_s zl
      subst el
      dsimp only
      cases zt : inN t 3 with
      | none =>
        rw [zt] at rt
        refine ⟨f, wp_e (wp_isC mc (wp_rIe ra (wp_bf n10 (wp_isC mc (wp_nnR ar2 (wp_isC ac2 (wp_inA (n := 0) an2 rfl (by decide) (by decide) ?_))))))), MX.rf⟩
        rw [show (nI 0).toNatClampNeg = 0 from rfl, wI_I, f2]
        exact wp_rIe rl (wp_bf n10 (wp_rIe rt (wp_bt rfl (wp_s ⟨rfl, rfl⟩))))
      | some t' =>
        rw [zt] at rt
        obtain ⟨et, t1', -⟩ := inN_s zt
        subst et
        obtain ⟨f', l1, l2, l3⟩ := mo_L C F W
        obtain ⟨R, V⟩ := l2 k k1
        have wd := mo_wide C (l3.F F).2.2.1.1 hv (h := h)
        dsimp only
        unfold dBlk
        generalize aG S k = G at R V
        have V : GW (2 ^ aV S) G := V
        have hlv : l' ≤ aV S := by omega
        have hs2 : 2 ^ (aV S - l') ≤ 2 ^ aV S := Nat.pow_le_pow_right (by decide) (by omega)
        have ep : 2 ^ l' * 2 ^ (aV S - l') = 2 ^ aV S := by rw [← Nat.pow_add]; congr 1; omega
        have sp := Nat.two_pow_pos (aV S - l')
        have lp := Nat.two_pow_pos l'
        have hw : 2 ^ aV S ≤ 16 := hw
        generalize hs : 2 ^ (aV S - l') = s at *
        have hF : ∀ b, cb (aV S) l' G b ≤ 256 := fun b => cb_le hv
        have e2l : 2 ^ (2 * l') = 2 ^ l' * 2 ^ l' := by rw [← Nat.pow_add]; congr 1; omega
        have L : ∀ q i, i + q = 2 ^ l' → ev M_Mo_densest 0 35 [some (.ref m), some (.int (nI k)), none, some (.int (nI t')), some (.int (nI s)), some (.int (nI (am (cb (aV S) l' G) (2 ^ l' * i) / 2 ^ l' * s))), some (.int (nI (am (cb (aV S) l' G) (2 ^ l' * i) % 2 ^ l' * s))), some (.int (nI (amv (cb (aV S) l' G) (2 ^ l' * i)))), some (.int (nI (i * s))), none, none] [] (wI h f') = some (some (.int (if t' = 0 then nI (am (cb (aV S) l' G) (2 ^ (2 * l')) / 2 ^ l' * s) else if t' = 1 then nI (am (cb (aV S) l' G) (2 ^ (2 * l')) % 2 ^ l' * s) else nI (cb (aV S) l' G (am (cb (aV S) l' G) (2 ^ (2 * l')))))), wI h f') := by
          intro q
          induction q with
          | zero =>
            intro i hi
            have : i = 2 ^ l' := by omega
            rw [r_Mo_densest_35, this, ep]
            refine wp_e (wp_isC mc (wp_rIe wd (wp_bf (by rw [nI_ltI (by omega) (by omega)]; omega) ?_)))
            rw [← e2l]
            refine wp_bi (nI_eq (by omega) (by decide)) (fun y => ?_) (fun y => ?_)
            · rw [if_pos y]; exact wp_s ⟨rfl, rfl⟩
            · rw [if_neg y]
              refine wp_bi (nI_eq (by omega) (by decide)) (fun y1 => ?_) (fun y1 => ?_)
              · rw [if_pos y1]; exact wp_s ⟨rfl, rfl⟩
              · rw [if_neg y1]
                refine wp_s ⟨?_, rfl⟩
                have := Nat.two_pow_pos (2 * l')
                unfold amv
                rw [if_neg (by omega)]
          | succ q ih =>
            intro i hi
            have il : i < 2 ^ l' := by omega
            have bi : i * s + s ≤ 2 ^ aV S := by have := blk_le il hlv; rw [hs] at this; exact this
            have LI : ∀ p c, c + p = 2 ^ l' → ev M_Mo_densest 0 42 [some (.ref m), some (.int (nI k)), none, some (.int (nI t')), some (.int (nI s)), some (.int (nI (am (cb (aV S) l' G) (2 ^ l' * i + c) / 2 ^ l' * s))), some (.int (nI (am (cb (aV S) l' G) (2 ^ l' * i + c) % 2 ^ l' * s))), some (.int (nI (amv (cb (aV S) l' G) (2 ^ l' * i + c)))), some (.int (nI (i * s))), some (.int (nI (c * s))), none] [] (wI h f') = some (some (.int (if t' = 0 then nI (am (cb (aV S) l' G) (2 ^ (2 * l')) / 2 ^ l' * s) else if t' = 1 then nI (am (cb (aV S) l' G) (2 ^ (2 * l')) % 2 ^ l' * s) else nI (cb (aV S) l' G (am (cb (aV S) l' G) (2 ^ (2 * l')))))), wI h f') := by
              intro p
              induction p with
              | zero =>
                intro c hc
                have : c = 2 ^ l' := by omega
                rw [r_Mo_densest_42, this, ep]
                refine wp_e (wp_isC mc (wp_rIe wd (wp_bf (by rw [nI_ltI (by omega) (by omega)]; omega) ?_)))
                rw [nI_add, ← Nat.succ_mul]
                have := ih (i + 1) (by omega)
                rw [Nat.mul_add, Nat.mul_one] at this
                exact wp_of this ⟨rfl, rfl⟩
              | succ p ihp =>
                intro c hc
                have cl : c < 2 ^ l' := by omega
                have bc' : c * s + s ≤ 2 ^ aV S := by have := blk_le cl hlv; rw [hs] at this; exact this
                have ihp := ihp (c + 1) (by omega)
                rw [← Nat.add_assoc, Nat.succ_mul] at ihp
                have ed : (2 ^ l' * i + c) / 2 ^ l' = i := by rw [Nat.mul_add_div lp, Nat.div_eq_of_lt cl, Nat.add_zero]
                have em : (2 ^ l' * i + c) % 2 ^ l' = c := by rw [Nat.mul_add_mod, Nat.mod_eq_of_lt cl]
                have ecb : cb (aV S) l' G (2 ^ l' * i + c) = ib G (i * s) (c * s) s := by unfold cb; rw [ed, em, hs]
                have b1 := hF (2 ^ l' * i + c)
                have b2 := amv_le hF (2 ^ l' * i + c)
                rw [r_Mo_densest_42]
                refine wp_e (wp_isC mc (wp_rIe wd (wp_bt (by rw [nI_ltI (by omega) (by omega)]; omega) (wp_isC mc (wp_nnR ar18 ?_)))))
                rw [pk_mul]
                refine wp_rIe (mo_inBlock ac18 an18 (by omega) (by decide) R V.lt (by omega) (by omega)) ?_
                rw [← ecb]
                refine wp_bi (nI_ltI (by omega) (by omega)) (fun y => ?_) (fun y => ?_)
                · obtain ⟨e1, e2⟩ := am_1 y
                  rw [e1, e2, ed, em] at ihp
                  rw [r_Mo_densest_67, nI_add]
                  exact wp_of ihp ⟨rfl, rfl⟩
                · obtain ⟨e1, e2⟩ := am_2 y
                  rw [e1, e2] at ihp
                  rw [r_Mo_densest_67, nI_add]
                  exact wp_of ihp ⟨rfl, rfl⟩
            rw [r_Mo_densest_35]
            refine wp_e (wp_isC mc (wp_rIe wd (wp_bt (by rw [nI_ltI (by omega) (by omega)]; omega) ?_)))
            have := LI (2 ^ l') 0 (by omega)
            rw [Nat.zero_mul] at this
            exact wp_of this ⟨rfl, rfl⟩
        refine ⟨f', wp_e (wp_isC mc (wp_rIe ra (wp_bf n10 (wp_isC mc (wp_nnR ar2 (wp_isC ac2 (wp_inA (n := 0) an2 rfl (by decide) (by decide) ?_))))))), l3⟩
        rw [show (nI 0).toNatClampNeg = 0 from rfl, wI_I, f2]
        refine wp_rIe rl (wp_bf n10 (wp_rIe rt (wp_bf n10 (wp_isC mc (wp_rVe l1 (wp_isC mc (wp_rIe wd ?_)))))))
        rw [nm_shr (by omega) (by omega), Nat.pow_div hlv (by decide), hs]
        have := L (2 ^ l') 0 (by omega)
        rw [Nat.zero_mul, Nat.mul_zero] at this
        have z0 : am (cb (aV S) l' G) 0 = 0 := rfl
        rw [z0, Nat.zero_div, Nat.zero_mod, Nat.zero_mul] at this
        exact wp_of this ⟨rfl, rfl⟩
theorem mx_iff {F : Nat → Nat} {b : Nat} : ∀ {k : Nat}, mx F k ≤ b ↔ ∀ i, i < k → F i ≤ b
  | 0 => by simp [mx]
  | k + 1 => by
    have ih := mx_iff (F := F) (b := b) (k := k)
    rw [mx]
    constructor
    · intro h i hi
      by_cases z : mx F k < F k
      · rw [if_pos z] at h
        by_cases e : i = k
        · rw [e]; exact h
        · exact ih.mp (by omega) i (by omega)
      · rw [if_neg z] at h
        by_cases e : i = k
        · rw [e]; omega
        · exact ih.mp h i (by omega)
    · intro h
      have h1 := ih.mpr (fun i hi => h i (by omega))
      have h2 := h k (by omega)
      split <;> omega
theorem mn_iff {F : Nat → Nat} {a b : Nat} (hb : a ≤ b) : ∀ {k : Nat}, a ≤ mn F b k ↔ ∀ i, i < k → a ≤ F i
  | 0 => by simp [mn, hb]
  | k + 1 => by
    have ih := mn_iff (F := F) hb (k := k)
    rw [mn]
    constructor
    · intro h i hi
      by_cases z : F k < mn F b k
      · rw [if_pos z] at h
        by_cases e : i = k
        · rw [e]; exact h
        · exact ih.mp (by omega) i (by omega)
      · rw [if_neg z] at h
        by_cases e : i = k
        · rw [e]; omega
        · exact ih.mp h i (by omega)
    · intro h
      have h1 := ih.mpr (fun i hi => h i (by omega))
      have h2 := h k (by omega)
      split <;> omega
/-- whether one is so in a row -/
def so6 (n : Nat) (G : Rw) (t r : Nat) : Bool := if t = 0 then (G r).testBit r else if t = 1 then decide (G r = cs n G r) else if t = 2 then decide (nd (sf n G (G r)) (G r) = 0) else if t = 3 then decide (bc (G r) < 2) else if t = 4 then decide (bc (cs n G r) < 2) else decide (G r ≠ 0)
theorem so6_all {n : Nat} {G : Rw} {t : Nat} (V : GW n G) (hn : 1 ≤ n) : isB6 n G t = allb (so6 n G t) n := by
  unfold isB6
  by_cases z0 : t = 0
  · rw [if_pos z0]; exact allb_c (fun k hk => by unfold so6; rw [if_pos z0])
  rw [if_neg z0]
  by_cases z1 : t = 1
  · rw [if_pos z1]; exact allb_c (fun k hk => by unfold so6; rw [if_neg z0, if_pos z1])
  rw [if_neg z1]
  by_cases z2 : t = 2
  · rw [if_pos z2]; exact allb_c (fun k hk => by unfold so6; rw [if_neg z0, if_neg z1, if_pos z2, jnG_e V V (by decide)]; rfl)
  rw [if_neg z2]
  have dc : ∀ {P : Prop} [Decidable P] (p : Nat → Bool), (P ↔ ∀ k, k < n → p k = true) → decide P = allb p n := fun {P} _ p hp => by
    cases w : allb p n with
    | true => exact decide_eq_true (hp.mpr (allb_t.mp w))
    | false => exact decide_eq_false (fun x => by rw [allb_t.mpr (hp.mp x)] at w; cases w)
  by_cases z3 : t = 3
  · rw [if_pos z3]
    refine dc _ ?_
    rw [mx_iff]
    refine forall_congr' (fun k => forall_congr' (fun hk => ?_))
    unfold so6
    rw [if_neg z0, if_neg z1, if_neg z2, if_pos z3, decide_eq_true_eq]; omega
  rw [if_neg z3]
  by_cases z4 : t = 4
  · rw [if_pos z4]
    refine dc _ ?_
    rw [mx_iff]
    refine forall_congr' (fun k => forall_congr' (fun hk => ?_))
    unfold so6
    rw [if_neg z0, if_neg z1, if_neg z2, if_neg z3, if_pos z4, decide_eq_true_eq]; omega
  rw [if_neg z4]
  refine dc _ ?_
  rw [mn_iff hn]
  refine forall_congr' (fun k => forall_congr' (fun hk => ?_))
  unfold so6
  rw [if_neg z0, if_neg z1, if_neg z2, if_neg z3, if_neg z4, decide_eq_true_eq]
  exact bc_pos (V.lt k)
theorem mo_isSo {k n t r : Nat} {G : Rw} (C : MSH h m) (hk : k < 5) (ht : t < 6) (hr : r < n) (R : RF f (m + 18) (16 * k) G) (V : GW n G) : ev M_Mo_isSoIn 0 0 [some (.ref m), some (.int (nI k)), some (.int (nI t)), some (.int (nI r)), none] [] (wI h f) = some (some (.int (nI (so6 n G t r).toNat)), wI h f) := by
  have mc := C.1
  have ar18 : hR h m 38 = some (m + 18) := (C.2 17 (by decide)).1
  have an18 : hN h (m + 18) = 80 := (C.2 17 (by decide)).2.1
  have ac18 : hC h (m + 18) = 20 := (C.2 17 (by decide)).2.2
  have h16 := V.1
  have hcs : cs n G r < 2 ^ 16 := Nat.lt_of_lt_of_le cs_lt (Nat.pow_le_pow_right (by decide) h16)
  have cl := mo_columnSet (h := h) C hk (show r < 16 by omega) R V.lt
  rw [cs_16 V] at cl
  have hG := V.lt r
  rw [r_Mo_isSoIn_0]
  refine wp_e (wp_isC mc (wp_nnR ar18 (wp_isC ac18 (wp_inA (n := 16 * k + r) an18 (by rw [pk_mul, nI_add]) (by omega) (by omega) ?_))))
  rw [show (nI 16 * nI k + nI r).toNatClampNeg = 16 * k + r by rw [pk_mul, nI_add, nI_clamp (by omega)], wI_I, R r (by omega)]
  unfold so6
  have fin : ∀ (P : Prop) [Decidable P] (c : Prop) [Decidable c], (c ↔ P) → wp (br c (isZ (nI 1) (some (some (Value.int (nI 1)), wI h f))) (isZ (nI 0) (some (some (Value.int (nI 0)), wI h f)))) (fun a b => a = some (Value.int (nI (decide P).toNat)) ∧ b = wI h f) := fun P _ c _ e => by
    refine wp_bi e (fun z => ?_) (fun z => ?_)
    · rw [decide_eq_true z]; exact wp_isZ (by decide) (wp_s ⟨rfl, rfl⟩)
    · rw [decide_eq_false z]; exact wp_isZ (by decide) (wp_s ⟨rfl, rfl⟩)
  refine wp_bi (nI_eq (by omega) (by decide)) (fun z0 => ?_) (fun z0 => ?_)
  · rw [if_pos z0]
    exact wp_rIe (mo_isOf _ (by omega) (by omega)) (wp_isZ (b01z _) (wp_s ⟨rfl, rfl⟩))
  rw [if_neg z0]
  refine wp_bi (nI_eq (by omega) (by decide)) (fun z1 => ?_) (fun z1 => ?_)
  · rw [if_pos z1]
    exact wp_isC mc (wp_rIe cl (fin _ _ (nI_eq (by omega) (by omega))))
  rw [if_neg z1]
  refine wp_bi (nI_eq (by omega) (by decide)) (fun z2 => ?_) (fun z2 => ?_)
  · rw [if_pos z2]
    refine wp_isC mc (wp_nnR ar18 ?_)
    rw [pk_mul]
    refine wp_rIe (mo_through ac18 an18 (by omega) (by decide) R V.lt hG) ?_
    rw [sf_16 V, nm_nd]
    have := nd_le (sf n G (G r)) (G r) (m := 16) (sf_lt V.lt)
    exact fin _ _ (nI_eq (by omega) (by decide))
  rw [if_neg z2]
  refine wp_bi (nI_eq (by omega) (by decide)) (fun z3 => ?_) (fun z3 => ?_)
  · rw [if_pos z3]
    have := bc_le (G r)
    exact wp_rIe (mo_bitsIn _ hG) (fin _ _ (nI_ltI (by omega) (by decide)))
  rw [if_neg z3]
  refine wp_bi (nI_eq (by omega) (by decide)) (fun z4 => ?_) (fun z4 => ?_)
  · rw [if_pos z4]
    have := bc_le (cs n G r)
    exact wp_isC mc (wp_rIe cl (wp_rIe (mo_bitsIn _ hcs) (fin _ _ (nI_ltI (by omega) (by decide)))))
  rw [if_neg z4]
  refine wp_bi (nI_eq (by omega) (by decide)) (fun z => ?_) (fun z => ?_)
  · rw [decide_eq_false (fun w => w z)]; exact wp_isZ (by decide) (wp_s ⟨rfl, rfl⟩)
  · rw [decide_eq_true z]; exact wp_isZ (by decide) (wp_s ⟨rfl, rfl⟩)
theorem m_is (C : MSH h m) (F : MF f m S) (W : WS S) (a t : Int32) : ∃ f', ev M_Mo_is 0 0 [some (.ref m), some (.int a), some (.int t), none, none] [] (wI h f) = some (some (.int (sIs S a t)), wI h f') ∧ MX m f f' := by
  have mc := C.1
  have hv : aV S ≤ 4 := W.2.2.1.1.2.1
  have hw : aW S ≤ 16 := lv_p hv
  have hr5 : aR S ≤ 5 := W.2.2.1.1.2.2.2.1
  have ra := mo_rel C F W a
  have rt := mo_in0 (x := t) (n := 5) (wI h f) (by decide)
  rw [show 5 + 1 = 6 from rfl] at rt
  rw [r_Mo_is_0]
  unfold sIs
  cases za : inN a (aR S) with
  | none =>
    rw [za] at ra
    exact ⟨f, wp_e (wp_isC mc (wp_rIe ra (wp_bt rfl (wp_s ⟨rfl, rfl⟩)))), MX.rf⟩
  | some k =>
    rw [za] at ra
    obtain ⟨ea, k1, -⟩ := inN_s za
    subst ea
    dsimp only [on]
    cases zt : inN t 6 with
    | none =>
      rw [zt] at rt
      exact ⟨f, wp_e (wp_isC mc (wp_rIe ra (wp_bf n10 (wp_rIe rt (wp_bt rfl (wp_s ⟨rfl, rfl⟩)))))), MX.rf⟩
    | some t' =>
      rw [zt] at rt
      obtain ⟨et, t1', -⟩ := inN_s zt
      subst et
      obtain ⟨f', l1, l2, l3⟩ := mo_L C F W
      obtain ⟨R, V⟩ := l2 k k1
      have wd := mo_wide C (l3.F F).2.2.1.1 hv (h := h)
      have n1 : 1 ≤ aW S := Nat.two_pow_pos _
      dsimp only
      rw [so6_all V n1]
      generalize aG S k = G at R V
      have hn : 2 ^ aV S = aW S := rfl
      generalize aW S = n at *
      have L : ∀ q i, i + q = n → ev M_Mo_is 0 18 [some (.ref m), some (.int (nI k)), some (.int (nI t')), some (.int (nI (allb (so6 n G t') i).toNat)), some (.int (nI i))] [] (wI h f') = some (some (.int (nI (allb (so6 n G t') n).toNat)), wI h f') := by
        intro q
        induction q with
        | zero =>
          intro i hi
          have : i = n := by omega
          rw [r_Mo_is_18, this]
          exact wp_e (wp_isC mc (wp_rIe wd (wp_bf (by rw [hn, nI_ltI (by omega) (by omega)]; omega) (wp_rIe (mo_truth _ _) (wp_s ⟨rfl, rfl⟩)))))
        | succ q ih =>
          intro i hi
          have ih := ih (i + 1) (by omega)
          rw [allb] at ih
          have so := mo_isSo (h := h) (f := f') C (show k < 5 by omega) t1' (show i < n by omega) R V
          rw [r_Mo_is_18]
          refine wp_e (wp_isC mc (wp_rIe wd (wp_bt (by rw [hn, nI_ltI (by omega) (by omega)]; omega) ?_)))
          cases z : allb (so6 n G t') i with
          | false =>
            rw [z, Bool.false_and] at ih
            refine wp_bt rfl ?_
            rw [r_Mo_is_33, r_Mo_is_35, nI_add]
            exact wp_of ih ⟨rfl, rfl⟩
          | true =>
            rw [z, Bool.true_and] at ih
            refine wp_bf n10 (wp_isC mc (wp_rIe so ?_))
            cases y : so6 n G t' i with
            | false =>
              rw [y] at ih
              refine wp_bt rfl ?_
              rw [r_Mo_is_33, r_Mo_is_35, nI_add]
              exact wp_of ih ⟨rfl, rfl⟩
            | true =>
              rw [y] at ih
              refine wp_bf n10 ?_
              rw [r_Mo_is_35, nI_add]
              exact wp_of ih ⟨rfl, rfl⟩
      exact ⟨f', wp_e (wp_isC mc (wp_rIe ra (wp_bf n10 (wp_rIe rt (wp_bf n10 (wp_isC mc (wp_rVe l1 (wp_of (L n 0 (by omega)) ⟨rfl, rfl⟩)))))))), l3⟩
end
