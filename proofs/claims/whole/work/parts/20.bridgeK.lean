/-! Rows of rows; copies; constants; ends. -/
theorem vr_outer (c : ClassId) (N h0 : Nat) : ∀ i : Nat, Jvm.Free.Multi.outerC c N h0 i = arrV c N (fun j => va_rf (if j < i then some (h0 + 1 + j) else none))
  | 0 => by
    show ({ cls := c, slots := Array.replicate N .null, vm := .none } : Cell) = _
    rw [arrV_new]
    refine congrArg (arrV c N) (funext fun j => ?_)
    simp [va_rf]
  | i + 1 => by
    show (Jvm.Free.Multi.outerC c N h0 i).setSlot i (.ref (h0 + 1 + i)) = _
    rw [vr_outer c N h0 i, arrV_store]
    refine congrArg (arrV c N) (funext fun j => ?_)
    by_cases e : j = i
    · subst e
      simp [updV, va_rf]
    · by_cases h : j < i
      · simp [updV, e, h, Nat.lt_succ_of_lt h]
      · simp [updV, e, h, show ¬ j < i + 1 by omega]
section
variable {M d i pc : Nat} {t : Mth} {K : Nat → MLoc → List Value → MH → MRes} {rec : MRec} {inf : List Nat} {ls : MLoc} {st : List Value} {h : MH} {rv : Option Value} {h' : MH}
theorem g_multianewarray (idx dm : Nat) (hPg : Pg M = some t) (hok : okE t i (.multianewarray idx dm, pc, inf) = true) (hK : KG M d i t K) (hrec : RG rec) (hr : stp K rec M d (.multianewarray idx dm) inf ls st h = some (rv, h')) : Gd M d pc ls st h rv h' := by
  have hdg : decode t.2.1 pc = .ok (.multianewarray idx dm, 4) := of_decide_eq_true (okE_dec hok)
  have hn : pcN t.code (i + 1) = pc + 4 := eq_of_beq (okE_nx hok)
  have hsp := okE_sp hok
  rcases inf with _ | ⟨tag, _ | ⟨j, _ | ⟨w, _ | ⟨z, l⟩⟩⟩⟩ <;> try (cases hsp; done)
  have hsp : (decide (dm = 2) && decide (tag = 26) && okW j w (.classLink t.1.cls idx "[[I")) = true := hsp
  simp only [Bool.and_eq_true, decide_eq_true_eq] at hsp
  obtain ⟨⟨hdm, htg⟩, hw⟩ := hsp
  subst hdm
  subst htg
  obtain ⟨k, s1, rfl, hr1⟩ := pI_inv (k := fun k st => pI st fun n st => okN k fun K' => okN n fun N => K 0 ls (.ref (hT h) :: st) (nwRows h 26 N K')) hr
  obtain ⟨n, s2, rfl, hr2⟩ := pI_inv hr1
  obtain ⟨hk1, hk2, hr3⟩ := okN_inv hr2
  obtain ⟨hn1, hn2, hr4⟩ := okN_inv hr3
  generalize hNe : n.toNatClampNeg = N at hn2 hr4
  generalize hKe : k.toNatClampNeg = K' at hk2 hr4
  have hTr : hT (nwRows h 26 N K') = hT h + (1 + N) := by show hT h + 1 + N = _; omega
  have hSr : hS (nwRows h 26 N K') = hS h + (N + N * K') := by show hS h + N + N * K' = _; omega
  refine Gd.alloc hPg (hK.nxt hn hr4) (kc' := 1 + N) (ks := N + N * K') hTr hSr fun p l e R s m args below meth c base D dA H locs cells slots Q lsr h0 cx hl hH ho hb hS hbT hc1 hc2 kk => ?_
  obtain ⟨hx, hcode, hr', hml, hown, hts, hKx, hlocks, hnm, hfr, hlo, hbs, hd⟩ := id cx
  have hTH : H.size = hT h := hH.1.symm
  intro T hTe Xs
  obtain ⟨vm₁, cA, comp, -, fA, fC, hO, -, X', step⟩ := Xs.multianewarray2F hx hown (ty := .int) (hts _ (okW_in hw)) hKx.2.2.2.2 (hts (.arrayClass .int) (okW_in (j := 1) (i := 54) (by decide +kernel))) (g := F0 m pc lsr (.int k :: .int n :: s2)) rfl (by rw [hcode]; exact hdg) rfl hn1 hk1
    (by rw [hNe]; exact Nat.le_trans (Nat.mul_le_mul hn2 (Nat.le_refl 4)) (Nat.le_of_ble_eq_true rfl)) (by rw [hKe]; exact Nat.le_trans (Nat.mul_le_mul hk2 (show componentBytes .int ≤ 8 by decide)) (Nat.le_of_ble_eq_true rfl)) (by rw [hKe]; exact Nat.le_trans hk2 (Nat.le_of_ble_eq_true rfl)) (by decide) (by decide) (by rw [hNe]; exact hc1) (by rw [hNe, hKe]; exact hc2)
  have ec20 : comp = dA 20 := Option.some.inj (fC.symm.trans (hKx.1.2 0 (dA 20, .int) rfl).2)
  have ec26 : cA = dA 26 := Option.some.inj (fA.symm.trans (hKx.1.2 6 (dA 26, .array .int) rfl).2)
  subst ec20
  subst ec26
  rw [hNe, hKe] at X' step
  generalize hF : Jvm.Free.Multi.fill (T.setVm vm₁) (dA 26) (dA 20) N K' (defaultValue .int) N = F at X' step
  have hTh : (T.setVm vm₁).heap = H := hTe
  obtain ⟨f1, f2, -, -⟩ := Jvm.Free.Multi.fill_facts (T.setVm vm₁) (dA 26) (dA 20) N K' (defaultValue .int) N
  rw [hF, hTh] at f1 f2
  have hold : ∀ x : Nat, x < H.size → F.heap[x]? = H[x]? := fun x hx => by
    have := Jvm.Free.Multi.fill_old (T.setVm vm₁) (dA 26) (dA 20) N K' (defaultValue .int) (a := x) (by rw [hTh]; exact hx) N
    rw [hF, hTh] at this
    exact this
  have hrow : ∀ j : Nat, j < N → F.heap[H.size + 1 + j]? = some (arrV (dA 20) K' (fun _ => .int 0)) := fun j hj => by
    have := Jvm.Free.Multi.fill_inner (T.setVm vm₁) (dA 26) (dA 20) N K' (defaultValue .int) N j hj
    rw [hF, hTh] at this
    rw [this, ← arrV_new]
    rfl
  rw [vr_outer] at f2
  have hFz : F.heap.size = H.size + 1 + N := by rw [f1]
  have hHr : HRn base D dA (nwRows h 26 N K') F.heap := by
    refine ⟨by rw [hTr, hFz, hTH]; omega, fun a ha hc => ?_⟩
    by_cases e1 : a = hT h
    · right
      have ec : hC (nwRows h 26 N K') a = 26 := by show (if a = hT h then 26 else _) = 26; rw [if_pos e1]
      have en : hN (nwRows h 26 N K') a = N := by show (if a = hT h then N else _) = N; rw [if_pos e1]
      rw [ec, en]
      refine ⟨by omega, by omega, ?_⟩
      have er : hR (nwRows h 26 N K') a = fun i => if i < N then some (hT h + 1 + i) else none := by show (if a = hT h then _ else _) = _; rw [if_pos e1]
      have ev : val (nwRows h 26 N K') a 26 = fun j => va_rf (if j < N then some (H.size + 1 + j) else none) := by
        funext j
        show va_rf (hR (nwRows h 26 N K') a j) = _
        rw [er, hTH]
      rw [ev, e1, ← hTH, f2]
    · by_cases e2 : hT h < a ∧ a < hT h + 1 + N
      · right
        have ec : hC (nwRows h 26 N K') a = 20 := by show (if a = hT h then 26 else if hT h < a ∧ a < hT h + 1 + N then 20 else _) = 20; rw [if_neg e1, if_pos e2]
        have en : hN (nwRows h 26 N K') a = K' := by show (if a = hT h then N else if hT h < a ∧ a < hT h + 1 + N then K' else _) = K'; rw [if_neg e1, if_pos e2]
        rw [ec, en]
        refine ⟨by omega, by omega, ?_⟩
        have := hrow (a - (H.size + 1)) (by omega)
        rw [show H.size + 1 + (a - (H.size + 1)) = a by omega] at this
        have ei : hI (nwRows h 26 N K') a = fun _ => 0 := by show (if hT h ≤ a ∧ a < hT h + 1 + N then _ else _) = _; rw [if_pos (by omega)]
        have ev : val (nwRows h 26 N K') a 20 = fun j => .int 0 := by
          funext j
          show Value.int (hI (nwRows h 26 N K') a j) = _
          rw [ei]
        rw [this, ev]
      · have ec : hC (nwRows h 26 N K') a = hC h a := by show (if a = hT h then 26 else if hT h < a ∧ a < hT h + 1 + N then 20 else _) = _; rw [if_neg e1, if_neg e2]
        have en : hN (nwRows h 26 N K') a = hN h a := by show (if a = hT h then N else if hT h < a ∧ a < hT h + 1 + N then K' else _) = _; rw [if_neg e1, if_neg e2]
        have hm2 := hH.2 a ha (by rw [← ec]; exact hc)
        have hlt : a < H.size := by
          rcases hm2 with ⟨-, q, -, cell, g1, -⟩ | ⟨-, -, g1⟩
          · exact (Array.getElem?_eq_some_iff.mp g1).1
          · exact (Array.getElem?_eq_some_iff.mp g1).1
        refine hm2.kept ec en (fun t k => ?_) (hold a hlt)
        have i1 : hI (nwRows h 26 N K') a = hI h a := by show (if hT h ≤ a ∧ a < hT h + 1 + N then _ else _) = _; rw [if_neg (by omega)]
        have i2 : hL (nwRows h 26 N K') a = hL h a := by show (if hT h ≤ a ∧ a < hT h + 1 + N then _ else _) = _; rw [if_neg (by omega)]
        have i3 : hR (nwRows h 26 N K') a = hR h a := by show (if a = hT h then _ else if hT h < a ∧ a < hT h + 1 + N then _ else _) = _; rw [if_neg e1, if_neg e2]
        unfold val
        rw [i1, i2, i3]
  have hSbr : Sb base h (nwRows h 26 N K') := fun a ha => by
    refine ⟨?_, ?_, ?_, ?_, ?_⟩
    · show (if a = hT h then 26 else if hT h < a ∧ a < hT h + 1 + N then 20 else _) = _; rw [if_neg (by omega), if_neg (by omega)]
    · show (if a = hT h then N else if hT h < a ∧ a < hT h + 1 + N then K' else _) = _; rw [if_neg (by omega), if_neg (by omega)]
    · show (if hT h ≤ a ∧ a < hT h + 1 + N then _ else _) = _; rw [if_neg (by omega)]
    · show (if hT h ≤ a ∧ a < hT h + 1 + N then _ else _) = _; rw [if_neg (by omega)]
    · show (if a = hT h then _ else if hT h < a ∧ a < hT h + 1 + N then _ else _) = _; rw [if_neg (by omega), if_neg (by omega)]
  obtain ⟨t', a1, b1⟩ := kk F.heap hHr hSbr (hS.grow (by omega) hold) F rfl (by
    have e1 : cells + 1 + N = cells + (1 + N) := by omega
    have e2 : slots + N + N * K' = slots + (N + N * K') := by omega
    rw [← e1, ← e2]
    exact X')
  refine ⟨t', step t' ?_, b1⟩
  rw [show T.heap.size = hT h by rw [hTe, hTH]]
  exact a1
end
