/-! The plain form: what fits. -/
/-- the j-th to be turned: none, then pair by pair -/
def tI (j : Nat) : Int32 := if j = 0 then mI 1 else nI (j - 1)
theorem tI_1 (j : Nat) : tI j + nI 1 = nI j := by
  unfold tI
  by_cases z : j = 0
  · rw [if_pos z, z]; rfl
  · rw [if_neg z, nI_add, show j - 1 + 1 = j by omega]
theorem tI_s (j : Nat) : tI (j + 1) = nI j := by
  unfold tI; rw [if_neg (by omega), Nat.add_sub_cancel]
theorem isIn_b {x y s : Nat} (hs : 0 < s) (hx : x < 2 ^ 30) (hy : y * s + s < 2 ^ 30) : decide (¬ nI x < nI (y * s) ∧ ¬ nI (y * s) + nI s - nI 1 < nI x) = decide (x / s = y) := by
  rw [nI_add, nm_m1 (by omega)]
  by_cases z : x / s = y
  · rw [decide_eq_true z]
    obtain ⟨h1, h2⟩ := (div_i hs).mp z
    exact decide_eq_true ⟨by rw [nI_ltI (by omega) (by omega)]; omega, by rw [nI_ltI (by omega) (by omega)]; omega⟩
  · rw [decide_eq_false z]
    refine decide_eq_false (fun w => z ((div_i hs).mpr ?_))
    obtain ⟨w1, w2⟩ := w
    rw [nI_ltI (by omega) (by omega)] at w1 w2
    omega
section
variable {h : MH} {f : Nat → Nat → Int32} {m : Nat} {S : Abs}
theorem mo_countBy {v l b j : Nat} {G : Rw} (C : MSH h m) (hv : v ≤ 4) (f2 : f (m + 2) 0 = nI v) (R : RF f (m + 34) 0 G) (V : GW (2 ^ v) G) (hl : l ≤ v) (hb : b < 2 ^ (2 * l)) (hj : j ≤ 2 ^ v * 2 ^ v) : ev M_Mo_countBy 0 0 [some (.ref m), some (.int (tI j)), some (.int (nI l)), some (.int (nI b)), none, none, none, none, none, none] [] (wI h f) = some (some (.int (nI (tn v G l b j))), wI h f) := by
  have mc := C.1
  have ar34 : hR h m 59 = some (m + 34) := (C.2 33 (by decide)).1
  have an34 : hN h (m + 34) = 16 := (C.2 33 (by decide)).2.1
  have ac34 : hC h (m + 34) = 20 := (C.2 33 (by decide)).2.2
  have h16 := lv_p hv
  have hp := Nat.two_pow_pos v
  have hs := Nat.two_pow_pos (v - l)
  have hlp := Nat.two_pow_pos l
  have wd := mo_wide (h := h) (f := f) C f2 hv
  obtain ⟨bk1, bk2⟩ := bk_in hl hb
  have hb2 : 2 ^ (2 * l) ≤ 2 ^ 8 := Nat.pow_le_pow_right (by decide) (by omega)
  have hnn : 2 ^ v * 2 ^ v ≤ 16 * 16 := Nat.mul_le_mul h16 h16
  have es : nI (2 ^ v) >>> (nI l &&& 31) = nI (2 ^ (v - l)) := by rw [nm_shr (by omega) (by omega), Nat.pow_div hl (by decide)]
  have eb1 : nI b >>> (nI l &&& 31) = nI (b / 2 ^ l) := nm_shr (by omega) (by omega)
  have eb2 : nI b &&& (nI 1 <<< (nI l &&& 31) - nI 1) = nI (b % 2 ^ l) := by rw [nm_one (by omega), nm_m1 hlp, nm_and, Nat.and_two_pow_sub_one_eq_mod]
  have ib' := mo_inBlock (h := h) (f := f) (o := 0) (r := b / 2 ^ l * 2 ^ (v - l)) (c := b % 2 ^ l * 2 ^ (v - l)) (s := 2 ^ (v - l)) ac34 an34 (by decide) (by decide) R V.lt (by omega) (by omega)
  have hcb : cb v l G b ≤ 256 := cb_le hv
  have ib' : ev M_Mo_inBlock 0 0 [some (.ref (m + 34)), some (.int (nI 0)), some (.int (nI (b / 2 ^ l * 2 ^ (v - l)))), some (.int (nI (b % 2 ^ l * 2 ^ (v - l)))), some (.int (nI (2 ^ (v - l)))), none, none, none] [] (wI h f) = some (some (.int (nI (cb v l G b))), wI h f) := ib'
  rw [r_Mo_countBy_0]
  refine wp_e (wp_isC mc (wp_rIe wd (wp_isC mc (wp_nnR ar34 ?_))))
  rw [es, eb1, eb2, pk_mul, pk_mul]
  refine wp_rIe ib' ?_
  unfold tn tI
  by_cases z : j = 0
  · rw [if_pos z, if_pos z]
    exact wp_bt (by decide) (wp_s ⟨rfl, rfl⟩)
  · rw [if_neg z, if_neg z]
    have hj1 : j - 1 < 2 ^ v * 2 ^ v := by omega
    have hr : (j - 1) / 2 ^ v < 2 ^ v := Nat.div_lt_of_lt_mul hj1
    have hc : (j - 1) % 2 ^ v < 2 ^ v := Nat.mod_lt _ hp
    have nz0 : ¬ nI (2 ^ v) = 0 := by rw [show (0 : Int32) = nI 0 from rfl, nI_eq (by omega) (by decide)]; omega
    refine wp_bf (nI_pos (by omega)) (wp_isC mc (wp_rIe wd (wp_nz nz0 (wp_isC mc (wp_rIe wd (wp_nz nz0 ?_))))))
    rw [pk_rem (a := j - 1) (by omega) hp (by omega), pk_div (a := j - 1) (by omega) hp (by omega)]
    refine wp_rIe (mo_isIn _ _ _ _) ?_
    generalize (j - 1) / 2 ^ v = r at *
    generalize (j - 1) % 2 ^ v = c at *
    rw [isIn_b hs (by omega) (by omega)]
    unfold inb
    by_cases y1 : r / 2 ^ (v - l) = b / 2 ^ l
    · rw [decide_eq_true y1]
      refine wp_bf n10 (wp_rIe (mo_isIn _ _ _ _) ?_)
      rw [isIn_b hs (by omega) (by omega)]
      by_cases y2 : c / 2 ^ (v - l) = b % 2 ^ l
      · rw [decide_eq_true y2]
        have eG : f (m + 34) r = nI (G r) := by have := R r (by omega); rw [Nat.zero_add] at this; exact this
        refine wp_bf n10 (wp_isC mc (wp_nnR ar34 (wp_isC ac34 (wp_inA an34 rfl (by omega) (by omega) ?_))))
        rw [nI_clamp (by omega), wI_I, eG]
        refine wp_rIe (mo_isOf _ (by omega) (Nat.lt_of_lt_of_le (V.lt r) (by decide))) ?_
        rw [if_pos (show (true && true) = true from rfl)]
        cases zb : (G r).testBit c with
        | false =>
          rw [if_neg (by decide)]
          exact wp_bt rfl (wp_s ⟨by rw [nI_add], rfl⟩)
        | true =>
          rw [if_pos rfl]
          have := cb_ge (l := l) (b := b) V (by unfold inb; rw [decide_eq_true y1, decide_eq_true y2]; rfl) zb
          exact wp_bf n10 (wp_s ⟨by rw [nm_m1 this], rfl⟩)
      · rw [decide_eq_false y2, if_neg (by decide)]
        exact wp_bt rfl (wp_s ⟨rfl, rfl⟩)
    · rw [decide_eq_false y1, if_neg (by simp)]
      exact wp_bt rfl (wp_s ⟨rfl, rfl⟩)
theorem tn_le {v l b j : Nat} {G : Rw} (hv : v ≤ 4) : tn v G l b j ≤ 257 := by
  have := cb_le (l := l) (G := G) (b := b) hv
  unfold tn
  split
  · omega
  · split
    · split <;> omega
    · omega
theorem mo_doesCount {i : Nat} {e : Sn} {k : Int32} (C : MSH h m) (F : MF f m S) (W : WS S) (hi : (aE S)[i]? = some e) : ev M_Mo_doesCount 0 0 [some (.ref m), some (.int (nI i)), some (.int k)] [] (wI h f) = some (some (.int (nI (cn k e).toNat)), wI h f) := by
  have mc := C.1
  have ar32 : hR h m 55 = some (m + 32) := (C.2 31 (by decide)).1
  have an32 : hN h (m + 32) = 30 := (C.2 31 (by decide)).2.1
  have ac32 : hC h (m + 32) = 20 := (C.2 31 (by decide)).2.2
  have ar33 : hR h m 56 = some (m + 33) := (C.2 32 (by decide)).1
  have an33 : hN h (m + 33) = 30 := (C.2 32 (by decide)).2.1
  have ac33 : hC h (m + 33) = 20 := (C.2 32 (by decide)).2.2
  have hl : i < (aE S).length := (List.getElem?_eq_some_iff.mp hi).1
  have v1 := W.2.2.2.2.2.2.1.1.1
  obtain ⟨-, -, -, -, w5, w6⟩ := F.2.2.2.2.2.2.2.2.1.2.2 i e hi
  have ht := (W.2.2.2.2.2.2.1.1.2 e (List.mem_of_getElem? hi)).2.2.2.2
  rw [r_Mo_doesCount_0]
  refine wp_e (wp_isC mc (wp_nnR ar32 (wp_isC ac32 (wp_inA an32 rfl (by omega) (by omega) ?_))))
  rw [nI_clamp (by omega), wI_I, w5]
  unfold cn
  by_cases z : k < nI e.2.2.2.2.1
  · rw [decide_eq_true z]
    exact wp_bt z (wp_isZ (by decide) (wp_s ⟨rfl, rfl⟩))
  · rw [decide_eq_false z]
    refine wp_bf z (wp_isC mc (wp_nnR ar33 (wp_isC ac33 (wp_inA an33 rfl (by omega) (by omega) ?_))))
    rw [w6]
    cases y : e.2.2.2.2.2 with
    | none =>
      refine wp_bt rfl ?_
      rw [r_Mo_doesCount_19]
      exact wp_isZ (by decide) (wp_s ⟨rfl, rfl⟩)
    | some u =>
      have hu := ht u y
      have ne : ¬ nI u = mI 1 := fun w => by
        have a1 : (nI u).toInt = u := nI_toInt (by omega)
        have a2 : (mI 1).toInt = -1 := by decide
        rw [w, a2] at a1; omega
      refine wp_bf ne (wp_isC mc (wp_nnR ar33 (wp_isC ac33 (wp_inA an33 rfl (by omega) (by omega) ?_))))
      rw [w6, y]
      show wp (br (k < nI u) _ _) (fun a b => a = some (Value.int (nI (!false && decide (k < nI u)).toNat)) ∧ _)
      by_cases x : k < nI u
      · rw [decide_eq_true x, r_Mo_doesCount_19]
        exact wp_bt x (wp_isZ (by decide) (wp_s ⟨rfl, rfl⟩))
      · rw [decide_eq_false x]
        exact wp_bf x (wp_isZ (by decide) (wp_s ⟨rfl, rfl⟩))
theorem mo_fitsBy {j : Nat} {k : Int32} {G : Rw} (C : MSH h m) (F : MF f m S) (W : WS S) (R : RF f (m + 34) 0 G) (V : GW (aW S) G) (hj : j ≤ aW S * aW S) : ev M_Mo_fitsBy 0 0 [some (.ref m), some (.int (tI j)), some (.int k), none] [] (wI h f) = some (some (.int (nI (fbj (aV S) G k (aE S) j).toNat)), wI h f) := by
  have mc := C.1
  have ar28 : hR h m 51 = some (m + 28) := (C.2 27 (by decide)).1
  have an28 : hN h (m + 28) = 30 := (C.2 27 (by decide)).2.1
  have ac28 : hC h (m + 28) = 20 := (C.2 27 (by decide)).2.2
  have ar29 : hR h m 52 = some (m + 29) := (C.2 28 (by decide)).1
  have an29 : hN h (m + 29) = 30 := (C.2 28 (by decide)).2.1
  have ac29 : hC h (m + 29) = 20 := (C.2 28 (by decide)).2.2
  have ar30 : hR h m 53 = some (m + 30) := (C.2 29 (by decide)).1
  have an30 : hN h (m + 30) = 30 := (C.2 29 (by decide)).2.1
  have ac30 : hC h (m + 30) = 20 := (C.2 29 (by decide)).2.2
  have ar31 : hR h m 54 = some (m + 31) := (C.2 30 (by decide)).1
  have an31 : hN h (m + 31) = 30 := (C.2 30 (by decide)).2.1
  have ac31 : hC h (m + 31) = 20 := (C.2 30 (by decide)).2.2
  have hv : aV S ≤ 4 := W.2.2.1.1.2.1
  have v1 := W.2.2.2.2.2.2.1.1.1
  have g57 : f m 57 = nI (aE S).length := F.2.2.2.2.2.2.2.2.1.1
  have L : ∀ (rest : List Sn) i, (aE S).drop i = rest → i ≤ (aE S).length → ev M_Mo_fitsBy 0 3 [some (.ref m), some (.int (tI j)), some (.int k), some (.int (nI i))] [] (wI h f) = some (some (.int (nI (fbj (aV S) G k rest j).toNat)), wI h f) := by
    intro rest
    induction rest with
    | nil =>
      intro i hd hi
      have hi2 : (aE S).length ≤ i := List.drop_eq_nil_iff.mp hd
      rw [r_Mo_fitsBy_3]
      refine wp_e (wp_isC mc ?_)
      rw [wI_I, g57]
      exact wp_bf (by rw [nI_ltI (by omega) (by omega)]; omega) (wp_isZ (by decide) (wp_s ⟨rfl, rfl⟩))
    | cons e rest ih =>
      intro i hd hi
      have hi2 : i < (aE S).length := by
        by_cases z : i < (aE S).length
        · exact z
        · rw [List.drop_eq_nil_iff.mpr (by omega)] at hd; cases hd
      have he : (aE S)[i]? = some e := by
        have := congrArg (fun l => l[0]?) hd
        simp at this
        exact this
      have hd2 : (aE S).drop (i + 1) = rest := by
        have := congrArg List.tail hd
        simpa using this
      have ih := ih (i + 1) hd2 (by omega)
      obtain ⟨w1, w2, w3, w4, -, -⟩ := F.2.2.2.2.2.2.2.2.1.2.2 i e he
      obtain ⟨x1, x2, x3, -, -⟩ := W.2.2.2.2.2.2.1.1.2 e (List.mem_of_getElem? he)
      have dc := mo_doesCount (k := k) C F W he
      have cbb := mo_countBy (h := h) (j := j) (l := e.1) (b := e.2.1) C hv F.2.2.1.1 R V x1 x2 hj
      have tl := tn_le (G := G) (l := e.1) (b := e.2.1) (j := j) hv
      have ef : fbj (aV S) G k (e :: rest) j = ((!cn k e || fz (nI (tn (aV S) G e.1 e.2.1 j)) e) && fbj (aV S) G k rest j) := rfl
      rw [ef]
      rw [r_Mo_fitsBy_3]
      refine wp_e (wp_isC mc ?_)
      rw [wI_I, g57]
      refine wp_bt (by rw [nI_ltI (by omega) (by omega)]; omega) (wp_isC mc (wp_rIe dc ?_))
      cases zc : cn k e with
      | false =>
        refine wp_bt rfl ?_
        rw [r_Mo_fitsBy_46, nI_add]
        exact wp_of ih ⟨by rw [Bool.not_false, Bool.true_or, Bool.true_and], rfl⟩
      | true =>
        refine wp_bf n10 (wp_isC mc (wp_nnR ar28 (wp_isC ac28 (wp_inA an28 rfl (by omega) (by omega) (wp_isC mc (wp_nnR ar29 (wp_isC ac29 (wp_inA an29 rfl (by omega) (by omega) (wp_isC mc ?_)))))))))
        rw [nI_clamp (by omega), wI_I, w1, w2]
        refine wp_rIe cbb (wp_isC mc (wp_nnR ar30 (wp_isC ac30 (wp_inA an30 rfl (by omega) (by omega) ?_))))
        rw [wI_I, w3]
        have fin : ∀ x : Bool, x = decide (nI (tn (aV S) G e.1 e.2.1 j) = nI e.2.2.1) → wp (ev M_Mo_fitsBy 0 32 [some (.ref m), some (.int (tI j)), some (.int k), some (.int (nI i))] [(.int (nI x.toNat))] (wI h f)) (fun a b => a = some (Value.int (nI ((!true || fz (nI (tn (aV S) G e.1 e.2.1 j)) e) && fbj (aV S) G k rest j).toNat)) ∧ b = wI h f) := by
          intro x hx
          have ez : fz (nI (tn (aV S) G e.1 e.2.1 j)) e = (x == e.2.2.2.1) := by unfold fz; rw [hx]
          rw [ez, r_Mo_fitsBy_32]
          refine wp_isC mc (wp_nnR ar31 (wp_isC ac31 (wp_inA an31 rfl (by omega) (by omega) ?_)))
          rw [nI_clamp (by omega), wI_I, w4]
          simp only [r_Mo_fitsBy_42, r_Mo_fitsBy_46, nI_add]
          cases x <;> cases e.2.2.2.1 <;> first
            | exact wp_bt rfl (wp_bt rfl (wp_of ih ⟨rfl, rfl⟩))
            | exact wp_bf (by decide) (wp_bt rfl (wp_of ih ⟨rfl, rfl⟩))
            | exact wp_bt rfl (wp_bf (by decide) (wp_isZ (by decide) (wp_s ⟨rfl, rfl⟩)))
            | exact wp_bf (by decide) (wp_bf (by decide) (wp_isZ (by decide) (wp_s ⟨rfl, rfl⟩)))
        by_cases y : nI (tn (aV S) G e.1 e.2.1 j) = nI e.2.2.1
        · exact wp_bt y (fin true (decide_eq_true y).symm)
        · exact wp_bf y (fin false (decide_eq_false y).symm)
  rw [r_Mo_fitsBy_0]
  exact L (aE S) 0 rfl (Nat.zero_le _)
theorem mo_last (C : MSH h m) (F : MF f m S) (W : WS S) : ev M_Mo_lastPair 0 0 [some (.ref m)] [] (wI h f) = some (some (.int (if aR S = 0 then mI 2 else nI (aW S * aW S - 1))), wI h f) := by
  have mc := C.1
  have ar3 : hR h m 13 = some (m + 3) := (C.2 2 (by decide)).1
  have an3 : hN h (m + 3) = 2 := (C.2 2 (by decide)).2.1
  have ac3 : hC h (m + 3) = 20 := (C.2 2 (by decide)).2.2
  have hv : aV S ≤ 4 := W.2.2.1.1.2.1
  have hr5 : aR S ≤ 5 := W.2.2.1.1.2.2.2.1
  have g3 : f (m + 3) 0 = nI (aR S) := F.2.2.1.2.1
  have wd := mo_wide (h := h) (f := f) C F.2.2.1.1 hv
  have hp : 0 < aW S * aW S := Nat.mul_pos (Nat.two_pow_pos _) (Nat.two_pow_pos _)
  rw [r_Mo_lastPair_0]
  refine wp_e (wp_isC mc (wp_nnR ar3 (wp_isC ac3 (wp_inA (n := 0) an3 rfl (by decide) (by decide) ?_))))
  rw [show (nI 0).toNatClampNeg = 0 from rfl, wI_I, g3]
  refine wp_bi (nI_eq (by omega) (by decide)) (fun z => ?_) (fun z => ?_)
  · rw [if_pos z]; exact wp_s ⟨rfl, rfl⟩
  · rw [if_neg z]
    refine wp_isC mc (wp_rIe wd (wp_isC mc (wp_rIe wd (wp_s ⟨?_, rfl⟩))))
    rw [pk_mul]
    exact congrArg (fun x => some (Value.int x)) (nm_m1 hp)
theorem last_lt {n j : Nat} (hn : 0 < n) (h : n ≤ 256) (hj : j ≤ n) : ¬ nI (n - 1) < tI j := by
  unfold tI
  by_cases z : j = 0
  · rw [if_pos z]
    intro w
    rw [Int32.lt_iff_toInt_lt, nI_toInt (by omega)] at w
    have : (mI 1).toInt = -1 := by decide
    omega
  · rw [if_neg z, nI_ltI (by omega) (by omega)]; omega
/-- how many of the first ones fit -/
def fcn (v : Nat) (G : Rw) (k : Int32) (se : List Sn) (j : Nat) : Nat := sm (fun j => (fbj v G k se j).toNat) j
theorem fcn_all {v : Nat} {G : Rw} {k : Int32} {se : List Sn} (hv : v ≤ 4) (V : GW (2 ^ v) G) : fcn v G k se (2 ^ v * 2 ^ v + 1) = ct (2 ^ v) (ft v G k se).2 + (ft v G k se).1.toNat := by
  have hp := Nat.two_pow_pos v
  unfold fcn
  rw [sm_1, ft_0, ct_2 (ft_W hv), Nat.add_comm]
  congr 1
  unfold s2
  rw [← sm_nn hp (fun r c => (((ft v G k se).2 r).testBit c).toNat)]
  apply sm_c
  intro t ht
  have hr : t / 2 ^ v < 2 ^ v := Nat.div_lt_of_lt_mul ht
  have hc : t % 2 ^ v < 2 ^ v := Nat.mod_lt _ hp
  show (fbj v G k se (t + 1)).toNat = (((ft v G k se).2 (t / 2 ^ v)).testBit (t % 2 ^ v)).toNat
  rw [ft_t V hr hc, Nat.div_add_mod]
theorem m_fits (C : MSH h m) (F : MF f m S) (W : WS S) (k : Int32) : ∃ f', ev M_Mo_fits 0 0 [some (.ref m), some (.int k), none, none] [] (wI h f) = some (some (.int (sFits S k)), wI h f') ∧ MX m f f' := by
  have mc := C.1
  have hv : aV S ≤ 4 := W.2.2.1.1.2.1
  have h16 : aW S ≤ 16 := lv_p hv
  obtain ⟨f', l1, l2, l3⟩ := mo_first C F W
  have F1 := l3.F F
  have la := mo_last C F1 W
  refine ⟨f', ?_, l3⟩
  rw [r_Mo_fits_0]
  unfold sFits
  by_cases z : aR S = 0
  · rw [if_pos z] at la ⊢
    refine wp_e (wp_isC mc (wp_rVe l1 ?_))
    rw [r_Mo_fits_7]
    exact wp_isC mc (wp_rIe la (wp_bt (by decide) (wp_s ⟨rfl, rfl⟩)))
  · rw [if_neg z] at la ⊢
    have R := l2 (by omega)
    have V := aG0_W W 0
    have hnn : aW S * aW S ≤ 16 * 16 := Nat.mul_le_mul h16 h16
    have hp : 0 < aW S * aW S := Nat.mul_pos (Nat.two_pow_pos _) (Nat.two_pow_pos _)
    have L : ∀ q j, j + q = aW S * aW S + 1 → ev M_Mo_fits 0 7 [some (.ref m), some (.int k), some (.int (nI (fcn (aV S) (aG0 S) k (aE S) j))), some (.int (tI j))] [] (wI h f') = some (some (.int (nI (fcn (aV S) (aG0 S) k (aE S) (aW S * aW S + 1)))), wI h f') := by
      intro q
      induction q with
      | zero =>
        intro j hj
        have : j = aW S * aW S + 1 := by omega
        rw [r_Mo_fits_7, this, tI_s]
        exact wp_e (wp_isC mc (wp_rIe la (wp_bt (by rw [nI_ltI (by omega) (by omega)]; omega) (wp_s ⟨rfl, rfl⟩))))
      | succ q ih =>
        intro j hj
        have ih := ih (j + 1) (by omega)
        have fb' := mo_fitsBy (j := j) (k := k) C F1 W R V (by omega)
        have e : fcn (aV S) (aG0 S) k (aE S) (j + 1) = fcn (aV S) (aG0 S) k (aE S) j + (fbj (aV S) (aG0 S) k (aE S) j).toNat := rfl
        rw [e, tI_s] at ih
        rw [r_Mo_fits_7]
        refine wp_e (wp_isC mc (wp_rIe la (wp_bf (last_lt hp (by omega) (by omega)) (wp_isC mc (wp_rIe fb' (wp_rIe (mo_truth _ _) ?_))))))
        rw [tI_1, nI_add]
        exact wp_of ih ⟨rfl, rfl⟩
    refine wp_e (wp_isC mc (wp_rVe l1 (wp_of (L (aW S * aW S + 1) 0 (by omega)) ⟨?_, rfl⟩)))
    have := fcn_all (k := k) (se := aE S) hv V
    exact congrArg (fun x => some (Value.int (nI x))) this
end
