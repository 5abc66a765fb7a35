/-! Fields and arrays, as the small machine has them. -/
section
variable {M d i pc : Nat} {t : Mth} {K : Nat → MLoc → List Value → MH → MRes} {rec : MRec} {inf : List Nat} {ls : MLoc} {st : List Value} {h : MH} {rv : Option Value} {h' : MH}
theorem g_getS {idx k j w a : Nat} {v : Value} {n ds : String} (hPg : Pg M = some t) (hw : okW j w (.fieldLink t.1.cls idx "java/lang/String" n ds) = true) (hdg : decode t.2.1 pc = .ok (.getfield idx, 3)) (hc : hC h a = 30)
    (hv : ∀ base s h0, Old base s h0 → Sb base h0 h → a < base → va_OF "java/lang/String" n ds v a (Ab base) s s.heap) (g : Gd M d (pc + 3) ls (v :: st) h rv h') : Gd M d pc ls (.ref a :: st) h rv h' := by
  refine Gd.read hPg g fun p l e R s m args below meth c base D dA H locs cells slots Q lsr h0 cx hl hH ho hb hS kk => ?_
  obtain ⟨hx, hcode, hr, hml, hown, hts, hK, hlocks, hnm, hfr, hlo, hbs, hd⟩ := id cx
  have ha : a < base := by
    rcases Nat.lt_or_ge a base with q | q
    · exact q
    · rcases hH.2 a q (by omega) with ⟨-, q', h3, -⟩ | ⟨-, h3, -⟩
      · rw [hc] at h3
        have := vwCl_lt h3
        omega
      · omega
  exact vk_getf hx hcode (hv base s h0 ho hb ha) hS hown (hts _ (okW_in hw)) (fun _ h => h) hdg kk
theorem g_getfield (idx : Nat) (hPg : Pg M = some t) (hok : okE t i (.getfield idx, pc, inf) = true) (hK : KG M d i t K) (hrec : RG rec) (hr : stp K rec M d (.getfield idx) inf ls st h = some (rv, h')) : Gd M d pc ls st h rv h' := by
  have hdg : decode t.2.1 pc = .ok (.getfield idx, 3) := of_decide_eq_true (okE_dec hok)
  have hn : pcN t.code (i + 1) = pc + 3 := eq_of_beq (okE_nx hok)
  have hsp := okE_sp hok
  rcases inf with _ | ⟨tag, _ | ⟨k, _ | ⟨kd, _ | ⟨j, _ | ⟨w, _ | ⟨z, l⟩⟩⟩⟩⟩⟩
  · cases hsp
  · cases hsp
  · cases hsp
  · cases hsp
  · cases hsp
  · have hsq : (if tag = 30 then (decide (t.1.cls = "java/lang/String") && (if k = 0 then decide (kd = 2) && okW j w (.fieldLink t.1.cls idx "java/lang/String" "value" "[B") else decide (k = 1) && decide (kd = 0) && okW j w (.fieldLink t.1.cls idx "java/lang/String" "coder" "B"))) else okFl t.1.cls idx tag k kd j w) = true := hsp
    obtain ⟨a, s1, rfl, hr2⟩ := pR_inv (k := fun a st => getF h a tag k kd fun v => K 0 ls (v :: st) h) hr
    unfold getF at hr2
    obtain ⟨hc, hr3⟩ := isC_inv hr2
    by_cases ht : tag = 30
    · rw [if_pos ht] at hsq
      subst ht
      simp only [Bool.and_eq_true, decide_eq_true_eq] at hsq
      obtain ⟨hcl, hsq⟩ := hsq
      by_cases hk0 : k = 0
      · rw [if_pos hk0] at hsq
        simp only [Bool.and_eq_true, decide_eq_true_eq] at hsq
        obtain ⟨rfl, hw⟩ := hsq
        subst hk0
        obtain ⟨r, hR, hr4⟩ := nnR_inv hr3
        refine g_getS (k := 0) (v := .ref r) hPg hw hdg hc (fun base s h0 ho hb ha => ?_) (hK.nxt hn hr4)
        have := (ho.sb hb).2.2.2.1 a ha hc
        rw [hR] at this
        exact this.1
      · rw [if_neg hk0] at hsq
        simp only [Bool.and_eq_true, decide_eq_true_eq] at hsq
        obtain ⟨⟨rfl, rfl⟩, hw⟩ := hsq
        exact g_getS (k := 1) (v := .int (hI h a 1)) hPg hw hdg hc (fun base s h0 ho hb ha => ((ho.sb hb).2.2.2.1 a ha hc).2.1) (hK.nxt hn hr3)
    · rw [if_neg ht] at hsq
      have hkd : kdTy (tyOf tag k) = kd := by
        unfold okFl at hsq
        cases hq : vwCl[tag - 1]? with
        | none => rw [hq] at hsq; cases hsq
        | some q =>
          rw [hq] at hsq
          simp only [Bool.and_eq_true, decide_eq_true_eq] at hsq
          exact hsq.1.2
      refine g_get hPg hsq hdg hc (hK.nxt hn ?_)
      unfold val
      rw [hkd]
      match kd, hr3 with
      | 0, hr3 => exact hr3
      | 1, hr3 => exact hr3
      | n + 2, hr3 =>
        obtain ⟨r, hR, hr4⟩ := nnR_inv hr3
        rw [hR]
        exact hr4
  · cases hsp
theorem g_putfield (idx : Nat) (hPg : Pg M = some t) (hok : okE t i (.putfield idx, pc, inf) = true) (hK : KG M d i t K) (hrec : RG rec) (hr : stp K rec M d (.putfield idx) inf ls st h = some (rv, h')) : Gd M d pc ls st h rv h' := by
  have hdg : decode t.2.1 pc = .ok (.putfield idx, 3) := of_decide_eq_true (okE_dec hok)
  have hn : pcN t.code (i + 1) = pc + 3 := eq_of_beq (okE_nx hok)
  have hsp := okE_sp hok
  rcases inf with _ | ⟨tag, _ | ⟨k, _ | ⟨kd, _ | ⟨j, _ | ⟨w, _ | ⟨z, l⟩⟩⟩⟩⟩⟩
  · cases hsp
  · cases hsp
  · cases hsp
  · cases hsp
  · cases hsp
  · have hsp : okPf t.1.cls t.1.name idx tag k kd j w = true := hsp
    have hr : putF h tag k kd st (fun st h => K 0 ls st h) = some (rv, h') := hr
    have hty : okKd tag k kd = true := by
      have hsp2 := hsp
      unfold okPf at hsp2
      cases hq : vwCl[tag - 1]? with
      | none => rw [hq] at hsp2; cases hsp2
      | some q =>
        rw [hq] at hsp2
        simp only [Bool.and_eq_true] at hsp2
        exact hsp2.1.2
    clear hok
    rcases kd with _ | _ | _ | n
    · have hty : tyOf tag k = .int := of_decide_eq_true hty
      obtain ⟨x, s1, rfl, hr⟩ := pI_inv (k := fun x st => pR st fun a st => isC h a tag (K 0 ls st (sI h a k x))) hr
      obtain ⟨a, s2, rfl, hr⟩ := pR_inv hr
      obtain ⟨hc, hr⟩ := isC_inv hr
      exact g_put (v := .int x) (h1 := sI h a k x) hPg hsp hdg hc rfl rfl rfl rfl (fun q hq t k => val_sI_ne hq t k) (fun j => val_sI (by rw [hty]; rfl) j) (fun base ha => Sb.sI ha) (by rw [hty]; rfl) (by rw [hty]; rfl) (hK.nxt hn hr)
    · have hty : tyOf tag k = .long := of_decide_eq_true hty
      obtain ⟨x, s1, rfl, hr⟩ := pL_inv (k := fun x st => pR st fun a st => isC h a tag (K 0 ls st (sL h a k x))) hr
      obtain ⟨a, s2, rfl, hr⟩ := pR_inv hr
      obtain ⟨hc, hr⟩ := isC_inv hr
      exact g_put (v := .long x) (h1 := sL h a k x) hPg hsp hdg hc rfl rfl rfl rfl (fun q hq t k => val_sL_ne hq t k) (fun j => val_sL (by rw [hty]; rfl) j) (fun base ha => Sb.sL ha) (by rw [hty]; rfl) (by rw [hty]; rfl) (hK.nxt hn hr)
    · have hty : kdTy (tyOf tag k) = 2 := of_decide_eq_true hty
      obtain ⟨x, s1, rfl, hr⟩ := pR_inv (k := fun x st => pR st fun a st => isC h a tag (K 0 ls st (sR h a k x))) hr
      obtain ⟨a, s2, rfl, hr⟩ := pR_inv hr
      obtain ⟨hc, hr⟩ := isC_inv hr
      refine g_put (v := .ref x) (h1 := sR h a k x) hPg hsp hdg hc rfl rfl rfl rfl (fun q hq t k => val_sR_ne hq t k) (fun j => val_sR hty j) (fun base ha => Sb.sR ha) ?_ ?_ (hK.nxt hn hr)
      · cases hz : tyOf tag k <;> rfl
      · cases hz : tyOf tag k <;> rw [hz] at hty <;> first | rfl | cases hty
    · have hty : tyOf tag k = .boolean := of_decide_eq_true hty
      obtain ⟨x, s1, rfl, hr⟩ := pI_inv (k := fun x st => pR st fun a st => isC h a tag (isZ x (K 0 ls st (sI h a k x)))) hr
      obtain ⟨a, s2, rfl, hr⟩ := pR_inv hr
      obtain ⟨hc, hr⟩ := isC_inv hr
      obtain ⟨hz, hr⟩ := isZ_inv hr
      refine g_put (v := .int x) (h1 := sI h a k x) hPg hsp hdg hc rfl rfl rfl rfl (fun q hq t k => val_sI_ne hq t k) (fun j => val_sI (by rw [hty]; rfl) j) (fun base ha => Sb.sI ha) ?_ ?_ (hK.nxt hn hr)
      · rw [hty]; show Value.int (x &&& 1) = _; rw [hz]
      · rw [hty]
        have h01 : x = 0 ∨ x = 1 := by
          have := pk_andE x (m := 1) 1 (by decide)
          obtain ⟨q, hq, e⟩ := this
          rw [hz] at e
          have : q = 0 ∨ q = 1 := by omega
          rcases this with rfl | rfl
          · left; exact e
          · right; exact e
        rcases h01 with rfl | rfl <;> decide
  · cases hsp
end
