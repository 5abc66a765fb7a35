/-! Calls, kind by kind. -/
def slotsOf (h : MH) : Nat := hS h
theorem gtb_good {w : Cond} (h : w ∈ gtb) : w ∈ gtb ∧ ((w.onTables && w.keeps) = true ∨ ∃ ty, w = .arrayClass ty) := ⟨h, good_of_word (List.mem_filter.mp h).2⟩
def bwOf (t : Mth) : ByteArray := match t.2.2.2.2.2.2.1 with
  | c1 :: c2 :: _ => bw c1 c2
  | _ => ⟨#[]⟩
/-- what is known of every method that is called -/
def Mts : Prop := ∀ M t, Pg M = some t → t.2.2.2.2.2.2.1 ≠ [] → okMt t = true ∧ t.2.1 = bwOf t
theorem code_in {t : Mth} {c1 c2 s1 s2 i1 i2 e1 e2 n1 n2 n : Nat} (hp : t.2.2.2.2.2.2.1 = [c1, c2, s1, s2, i1, i2, e1, e2, n1, n2, n]) (hm : okMt t = true) (hb : t.2.1 = bwOf t) : Cond.code t.1 t.2.1 t.2.2.1 t.2.2.2.1 ∈ gtb ∧ pcN t.code 0 = 0 ∧ t.2.2.1 ≤ 30 ∧ okW n1 n2 (.initialized t.1.cls) = true ∧ t.1.cls ≠ "java/lang/invoke/MethodHandle" ∧ t.1.cls ≠ "java/lang/invoke/VarHandle" ∧ (parseMethodDescriptor t.1.desc).map (fun d => d.parameters.length) = some n ∧ plainName t.1.cls = true ∧ (s1 = 99 ∨ okW s1 s2 (.static t.1) = true) ∧ (i1 = 99 ∨ okW i1 i2 (.instanceMethod t.1) = true) ∧ (e1 = 99 ∨ okW e1 e2 (.selects t.1.cls t.1 t.1) = true) := by
  obtain ⟨y, by', mL, rt, lb, lv, ps, cd⟩ := t
  dsimp only at hp hb ⊢
  subst hp
  have hbq : by' = bw c1 c2 := hb
  unfold okMt at hm
  simp only [Bool.and_eq_true, Bool.or_eq_true, decide_eq_true_eq] at hm
  obtain ⟨⟨⟨⟨⟨⟨⟨⟨⟨⟨h1, h2⟩, h3⟩, h4⟩, h5⟩, h6⟩, h7⟩, h8⟩, h9⟩, h10⟩, h11⟩ := hm
  refine ⟨?_, h2, h3, h4, h5, h6, h7, h8, h9, h10, h11⟩
  cases hw : wd c1 c2 with
  | none => rw [hw] at h1; cases h1
  | some w =>
    rw [hw] at h1
    cases w <;> try (cases h1; done)
    rename_i y' b' m' r'
    have h1 : (decide (y' = y) && decide (m' = mL) && decide (r' = rt)) = true := h1
    simp only [Bool.and_eq_true, decide_eq_true_eq] at h1
    obtain ⟨⟨rfl, rfl⟩, rfl⟩ := h1
    have hb2 : by' = b' := by
      rw [hbq]
      unfold bw
      rw [hw]
    subst hb2
    exact List.mem_filter.mpr ⟨wd_mem hw, rfl⟩
section
variable {M d i pc : Nat} {t : Mth} {K : Nat → MLoc → List Value → MH → MRes} {rec : MRec} {inf : List Nat} {ls : MLoc} {st : List Value} {h : MH} {rv : Option Value} {h' : MH}
/-- a call's level lies below its caller's -/
theorem lvl_lt {lb lsx lv lvs dd e : Nat} (hl : (if dd = 0 then decide (lb + lsx * 8 < lv) else if dd = 1 then decide (lb < lv) && decide (lsx = lvs) else decide (lb < lv + lvs) && decide (lsx = lvs)) = true) (he : (dd = 0 ∧ e = 0) ∨ (dd = 1 ∧ e = d) ∨ (2 ≤ dd ∧ d < 8 ∧ e = d + 1)) : lb + lsx * (8 - e) + 1 ≤ lv + lvs * (8 - d) := by
  rcases he with ⟨h1, h2⟩ | ⟨h1, h2⟩ | ⟨h1, h2, h3⟩
  · subst h1; subst h2
    have hl : lb + lsx * 8 < lv := of_decide_eq_true hl
    have : 0 ≤ lvs * (8 - d) := Nat.zero_le _
    omega
  · subst h1; subst h2
    have hl : (decide (lb < lv) && decide (lsx = lvs)) = true := hl
    simp only [Bool.and_eq_true, decide_eq_true_eq] at hl
    rw [hl.2]
    omega
  · rw [if_neg (by omega), if_neg (by omega)] at hl
    simp only [Bool.and_eq_true, decide_eq_true_eq] at hl
    rw [hl.2, h3]
    have e1 : 8 - d = (8 - (d + 1)) + 1 := by omega
    rw [e1, Nat.mul_add, Nat.mul_one]
    omega
theorem g_call0 {idx mid n rk nl tag dd nest j w : Nat} (hmt : Mts) (hPg : Pg M = some t) (hoc : okCal t.2.2.2.2.1 t.1.cls idx 0 mid n rk nl tag dd nest j w t.2.2.2.2.2.1 = true) (hdg : decode t.2.1 pc = .ok (.invokestatic idx, 3)) (hrec : RG rec) (hK : ∀ st h rv h', K 0 ls st h = some (rv, h') → Gd M d (pc + 3) ls st h rv h')
    (hr : callF rec d [0, mid, n, rk, nl, tag, dd, nest, j, w] st h (fun st h => K 0 ls st h) = some (rv, h')) : Gd M d pc ls st h rv h' := by
  unfold okCal at hoc
  split at hoc
  · rename_i y by' maxL rt lb lsx c1 c2 s1 s2 i1 i2 e1 e2 n1 n2 na cd hmid
    obtain ⟨hmt1, hmt2⟩ := hmt mid _ hmid (by exact List.cons_ne_nil _ _)
    obtain ⟨hcode, hpc0, hmax, hini, hy1, hy2, hpar, hplain, hst, hins, hsel⟩ := code_in rfl hmt1 hmt2
    dsimp only at hcode hpc0 hmax hini hy1 hy2 hpar hplain hst hins hsel
    simp only [Bool.and_eq_true] at hoc
    obtain ⟨⟨⟨⟨hnl, hna⟩, -⟩, hlv⟩, hkd⟩ := hoc
    have hnl : maxL = nl := of_decide_eq_true hnl
    have hna : n = na := of_decide_eq_true hna
    subst hnl
    subst hna
    have hr0 : (match popn n st [] with
      | some (as, st) => fit (csum as) maxL (low (csum st) (dth dd d fun e => rtn rk (rec mid e 0 (entl as maxL) [] h) st fun st h => K 0 ls st h))
      | none => none) = some (rv, h') := hr
    cases hpop : popn n st [] with
    | none => rw [hpop] at hr0; cases hr0
    | some q =>
      obtain ⟨as, rest⟩ := q
      rw [hpop] at hr0
      dsimp only at hr0
      obtain ⟨xs, hx1, hx2, hx3⟩ := popn_inv n st [] as rest hpop
      rw [List.append_nil] at hx1
      have hxs : xs = as.reverse := by rw [hx1, List.reverse_reverse]
      have hlen : as.length = n := by rw [hx1, List.length_reverse]; exact hx3
      rw [hxs] at hx2
      subst hx2
      obtain ⟨hfit, hr3⟩ := fit_inv hr0
      obtain ⟨hlow, hr4⟩ := low_inv hr3
      obtain ⟨e, hr5, hee⟩ := dth_inv hr4
      obtain ⟨rv1, h1, hrun, hr6⟩ := rtn_inv hr5
      have g1 := hrec _ _ _ _ _ _ _ _ hrun _ hmid
      rw [hpc0] at g1
      have hlvl := lvl_lt (d := d) hlv hee
      refine Gd.call (as := as) (rest := rest) hPg g1.1 g1.2.1 (hK _ _ _ _ hr6) fun p l e' R s m args below meth c base D dA H locs cells slots lsr h0 cx hl hH ho hS hc1 hc2 => ?_
      obtain ⟨hx, hcod, hr', hml, hown, hts, hKx, hlocks, hnm, hfr, hlo, hbs, hd⟩ := id cx
      have hle8 : e ≤ 8 := by omega
      have hM := met_of hmid hplain hfit hle8 g1 l base D dA
      have hPc : ∀ U : State, U.heap = H → s.WarmedH U.vm → Pcm base D dA as h as.toArray U := fun U hU hW => ⟨rfl, by rw [hU]; exact Nat.le_trans hbs hS.1, by rw [hU]; exact hH, hKx.moved hW, ho.to hW.alike (fun _ _ _ _ hr => vk_R.warm hW hr) (fun q hq1 hq2 => by rw [hU]; exact hS.2.1 q hq1 hq2)⟩
      have hroom : (rmOf (y, by', maxL, rt, lb, lsx, [c1, c2, s1, s2, i1, i2, e1, e2, n1, n2, n], cd) e (hT h1 - hT h) (slotsOf h1 - slotsOf h)).frames + 1 ≤ R.frames ∧ 8 + (maxL + 11) + (rmOf (y, by', maxL, rt, lb, lsx, [c1, c2, s1, s2, i1, i2, e1, e2, n1, n2, n], cd) e (hT h1 - hT h) (slotsOf h1 - slotsOf h)).locals ≤ R.locals := by
        refine ⟨?_, ?_⟩
        · show lb + lsx * (8 - e) + 1 ≤ R.frames
          exact Nat.le_trans hlvl hfr
        · show 8 + (maxL + 11) + 60 * (lb + lsx * (8 - e)) ≤ R.locals
          have hlo : 60 * (t.2.2.2.2.1 + t.2.2.2.2.2.1 * (8 - d)) ≤ R.locals := hlo
          omega
      have hcat : 2 * (F0 m pc lsr (as.reverse ++ rest)).monitorRoom + (rest.map fun v => v.category).sum ≤ 8 := by
        rw [← csum_eq]
        show 2 * 0 + _ ≤ 8
        omega
      simp only [decide_eq_true_eq] at hkd
      have hst := hst.resolve_left hkd.2
      have cb := callB_of (R := R) (rm := rmOf (y, by', maxL, rt, lb, lsx, [c1, c2, s1, s2, i1, i2, e1, e2, n1, n2, n], cd) e (hT h1 - hT h) (slotsOf h1 - slotsOf h)) (ws := MW (y, by', maxL, rt, lb, lsx, [c1, c2, s1, s2, i1, i2, e1, e2, n1, n2, n], cd)) (y := y) (bytes := by') (maxL := maxL) (ret := rt) (own := t.1.cls) (index := idx) n hts (fun w hw => (List.mem_cons.mp hw).elim (fun e => by rw [e]; exact gtb_good hcode) gtb_good) rfl rfl rfl (hts _ (okW_in hini)) (hts _ (okW_in hkd.1)) ⟨hy1, hy2, hpar⟩ hroom
      exact va_runS (g := F0 m pc lsr (as.reverse ++ rest)) (rest := rest) (Ts := gtb) ⟨hx, hcod, hml, hown, hts⟩ hM ⟨cb, hts _ (okW_in hst)⟩ ⟨Pcm.blind base D dA as h, hPc⟩ rfl hlen hl.1 rfl hcat hdg ⟨hc1, hc2⟩
  · cases hoc
theorem g_call1 {idx mid n rk nl tag dd nest j w : Nat} (hmt : Mts) (hPg : Pg M = some t) (hoc : okCal t.2.2.2.2.1 t.1.cls idx 1 mid n rk nl tag dd nest j w t.2.2.2.2.2.1 = true) (hdg : decode t.2.1 pc = .ok (.invokevirtual idx, 3)) (hrec : RG rec) (hK : ∀ st h rv h', K 0 ls st h = some (rv, h') → Gd M d (pc + 3) ls st h rv h')
    (hr : callF rec d [1, mid, n, rk, nl, tag, dd, nest, j, w] st h (fun st h => K 0 ls st h) = some (rv, h')) : Gd M d pc ls st h rv h' := by
  unfold okCal at hoc
  split at hoc
  · rename_i y by' maxL rt lb lsx c1 c2 s1 s2 i1 i2 e1 e2 n1 n2 na cd hmid
    obtain ⟨hmt1, hmt2⟩ := hmt mid _ hmid (by exact List.cons_ne_nil _ _)
    obtain ⟨hcode, hpc0, hmax, hini, hy1, hy2, hpar, hplain, hst, hins, hsel⟩ := code_in rfl hmt1 hmt2
    dsimp only at hcode hpc0 hmax hini hy1 hy2 hpar hplain hst hins hsel
    simp only [Bool.and_eq_true] at hoc
    obtain ⟨⟨⟨⟨hnl, hna⟩, -⟩, hlv⟩, hkd⟩ := hoc
    have hnl : maxL = nl := of_decide_eq_true hnl
    have hna : n = na := of_decide_eq_true hna
    subst hnl
    subst hna
    have hr0 : (match popn n st [] with
      | some (as, st) => pR st fun a st => isC h a tag (fit (1 + csum as) maxL (low (csum st) (dth dd d fun e => rtn rk (rec mid e 0 (entl (.ref a :: as) maxL) [] h) st fun st h => K 0 ls st h)))
      | none => none) = some (rv, h') := hr
    cases hpop : popn n st [] with
    | none => rw [hpop] at hr0; cases hr0
    | some q =>
      obtain ⟨as, rest⟩ := q
      rw [hpop] at hr0
      dsimp only at hr0
      obtain ⟨xs, hx1, hx2, hx3⟩ := popn_inv n st [] as rest hpop
      rw [List.append_nil] at hx1
      have hxs : xs = as.reverse := by rw [hx1, List.reverse_reverse]
      have hlen : as.length = n := by rw [hx1, List.length_reverse]; exact hx3
      rw [hxs] at hx2
      subst hx2
      obtain ⟨a, rest2, hrest, hr1⟩ := pR_inv hr0
      subst hrest
      obtain ⟨htag, hr2⟩ := isC_inv hr1
      obtain ⟨hfit, hr3⟩ := fit_inv hr2
      obtain ⟨hlow, hr4⟩ := low_inv hr3
      obtain ⟨e, hr5, hee⟩ := dth_inv hr4
      obtain ⟨rv1, h1, hrun, hr6⟩ := rtn_inv hr5
      have g1 := hrec _ _ _ _ _ _ _ _ hrun _ hmid
      rw [hpc0] at g1
      have hlvl := lvl_lt (d := d) hlv hee
      refine Gd.call (as := (.ref a :: as)) (rest := rest2) hPg g1.1 g1.2.1 (hK _ _ _ _ hr6) fun p l e' R s m args below meth c base D dA H locs cells slots lsr h0 cx hl hH ho hS hc1 hc2 => ?_
      obtain ⟨hx, hcod, hr', hml, hown, hts, hKx, hlocks, hnm, hfr, hlo, hbs, hd⟩ := id cx
      have hle8 : e ≤ 8 := by omega
      have hM := met_of hmid hplain (show csum (.ref a :: as) ≤ maxL from hfit) hle8 g1 l base D dA
      have hPc : ∀ U : State, U.heap = H → s.WarmedH U.vm → Pcm base D dA (.ref a :: as) h (.ref a :: as).toArray U := fun U hU hW => ⟨rfl, by rw [hU]; exact Nat.le_trans hbs hS.1, by rw [hU]; exact hH, hKx.moved hW, ho.to hW.alike (fun _ _ _ _ hr => vk_R.warm hW hr) (fun q hq1 hq2 => by rw [hU]; exact hS.2.1 q hq1 hq2)⟩
      have hroom : (rmOf (y, by', maxL, rt, lb, lsx, [c1, c2, s1, s2, i1, i2, e1, e2, n1, n2, n], cd) e (hT h1 - hT h) (slotsOf h1 - slotsOf h)).frames + 1 ≤ R.frames ∧ 8 + (maxL + 11) + (rmOf (y, by', maxL, rt, lb, lsx, [c1, c2, s1, s2, i1, i2, e1, e2, n1, n2, n], cd) e (hT h1 - hT h) (slotsOf h1 - slotsOf h)).locals ≤ R.locals := by
        refine ⟨?_, ?_⟩
        · show lb + lsx * (8 - e) + 1 ≤ R.frames
          exact Nat.le_trans hlvl hfr
        · show 8 + (maxL + 11) + 60 * (lb + lsx * (8 - e)) ≤ R.locals
          have hlo : 60 * (t.2.2.2.2.1 + t.2.2.2.2.2.1 * (8 - d)) ≤ R.locals := hlo
          omega
      have hcat : 2 * (F0 m pc lsr (as.reverse ++ .ref a :: rest2)).monitorRoom + (rest2.map fun v => v.category).sum ≤ 8 := by
        rw [← csum_eq]
        show 2 * 0 + _ ≤ 8
        omega
      simp only [decide_eq_true_eq] at hkd
      obtain ⟨⟨⟨hk1, hk2⟩, hk3⟩, hk4⟩ := hkd
      have hins := hins.resolve_left hk2
      have hsel := hsel.resolve_left hk3
      have cb := callB_of (R := R) (rm := rmOf (y, by', maxL, rt, lb, lsx, [c1, c2, s1, s2, i1, i2, e1, e2, n1, n2, n], cd) e (hT h1 - hT h) (slotsOf h1 - slotsOf h)) (ws := MW (y, by', maxL, rt, lb, lsx, [c1, c2, s1, s2, i1, i2, e1, e2, n1, n2, n], cd)) (y := y) (bytes := by') (maxL := maxL) (ret := rt) (own := t.1.cls) (index := idx) n hts (fun w hw => (List.mem_cons.mp hw).elim (fun e => by rw [e]; exact gtb_good hcode) gtb_good) rfl rfl rfl (hts _ (okW_in hini)) (hts _ (okW_in hk1)) ⟨hy1, hy2, hpar⟩ hroom
      have hrc : ∃ cellB : Cell, H[a]? = some cellB ∧ cellB.vm.isStatics = false ∧ s.vm.findClass y.cls = some cellB.cls := by
        cases hq : vwCl[tag - 1]? with
        | some q =>
          obtain ⟨C, T, N⟩ := q
          rw [hq] at hk4
          have hk4 : (decide (C = y.cls) && decide (1 ≤ tag) && decide (tag ≤ 13)) = true := hk4
          simp only [Bool.and_eq_true, decide_eq_true_eq] at hk4
          obtain ⟨⟨hC1, hC2⟩, hC3⟩ := hk4
          have haB := ab_of (h0 := h) (h := h) ho (Sb.rf base h) htag hC2 (by omega)
          obtain ⟨cell, q1, q2, q3, -⟩ := hH.obj haB htag hC2 hq
          refine ⟨cell, q1, by rw [q3]; rfl, ?_⟩
          rw [q2, ← hC1]
          exact (hKx.1.1 (tag - 1) _ hq).2.1
        | none =>
          rw [hq] at hk4
          have hk4 : (decide (tag = 30) && decide (y.cls = "java/lang/String")) = true := hk4
          simp only [Bool.and_eq_true, decide_eq_true_eq] at hk4
          rw [hk4.1] at htag
          have ha := old_of hH htag (by omega)
          obtain ⟨-, -, cell, q1, q2, q3, q4⟩ := ho.2.2.2.1 a ha htag
          refine ⟨cell, ?_, q2, by rw [hk4.2]; exact q3⟩
          rw [hS.2.1 a (by omega) (Nat.not_le.mpr ha)]
          exact q1
      exact va_runV (C := y.cls) (g := F0 m pc lsr (as.reverse ++ .ref a :: rest2)) (rest := rest2) (Ts := gtb) ⟨hx, hcod, hml, hown, hts⟩ hM ⟨cb, hts _ (okW_in hins), hts _ (okW_in hsel)⟩ ⟨Pcm.blind base D dA (.ref a :: as) h, hrc, hPc⟩ rfl hlen hl.1 rfl hcat hdg ⟨hc1, hc2⟩
  · cases hoc
theorem g_call2 {idx mid n rk nl tag dd nest j w : Nat} (hmt : Mts) (hPg : Pg M = some t) (hoc : okCal t.2.2.2.2.1 t.1.cls idx 2 mid n rk nl tag dd nest j w t.2.2.2.2.2.1 = true) (hdg : decode t.2.1 pc = .ok (.invokespecial idx, 3)) (hrec : RG rec) (hK : ∀ st h rv h', K 0 ls st h = some (rv, h') → Gd M d (pc + 3) ls st h rv h')
    (hr : callF rec d [2, mid, n, rk, nl, tag, dd, nest, j, w] st h (fun st h => K 0 ls st h) = some (rv, h')) : Gd M d pc ls st h rv h' := by
  unfold okCal at hoc
  split at hoc
  · rename_i y by' maxL rt lb lsx c1 c2 s1 s2 i1 i2 e1 e2 n1 n2 na cd hmid
    obtain ⟨hmt1, hmt2⟩ := hmt mid _ hmid (by exact List.cons_ne_nil _ _)
    obtain ⟨hcode, hpc0, hmax, hini, hy1, hy2, hpar, hplain, hst, hins, hsel⟩ := code_in rfl hmt1 hmt2
    dsimp only at hcode hpc0 hmax hini hy1 hy2 hpar hplain hst hins hsel
    simp only [Bool.and_eq_true] at hoc
    obtain ⟨⟨⟨⟨hnl, hna⟩, -⟩, hlv⟩, hkd⟩ := hoc
    have hnl : maxL = nl := of_decide_eq_true hnl
    have hna : n = na := of_decide_eq_true hna
    subst hnl
    subst hna
    have hr0 : (match popn n st [] with
      | some (as, st) => pR st fun a st => fit (1 + csum as) maxL (low (csum st) (dth dd d fun e => rtn rk (rec mid e 0 (entl (.ref a :: as) maxL) [] h) st fun st h => K 0 ls st h))
      | none => none) = some (rv, h') := hr
    cases hpop : popn n st [] with
    | none => rw [hpop] at hr0; cases hr0
    | some q =>
      obtain ⟨as, rest⟩ := q
      rw [hpop] at hr0
      dsimp only at hr0
      obtain ⟨xs, hx1, hx2, hx3⟩ := popn_inv n st [] as rest hpop
      rw [List.append_nil] at hx1
      have hxs : xs = as.reverse := by rw [hx1, List.reverse_reverse]
      have hlen : as.length = n := by rw [hx1, List.length_reverse]; exact hx3
      rw [hxs] at hx2
      subst hx2
      obtain ⟨a, rest2, hrest, hr1⟩ := pR_inv hr0
      subst hrest
      obtain ⟨hfit, hr3⟩ := fit_inv hr1
      obtain ⟨hlow, hr4⟩ := low_inv hr3
      obtain ⟨e, hr5, hee⟩ := dth_inv hr4
      obtain ⟨rv1, h1, hrun, hr6⟩ := rtn_inv hr5
      have g1 := hrec _ _ _ _ _ _ _ _ hrun _ hmid
      rw [hpc0] at g1
      have hlvl := lvl_lt (d := d) hlv hee
      refine Gd.call (as := (.ref a :: as)) (rest := rest2) hPg g1.1 g1.2.1 (hK _ _ _ _ hr6) fun p l e' R s m args below meth c base D dA H locs cells slots lsr h0 cx hl hH ho hS hc1 hc2 => ?_
      obtain ⟨hx, hcod, hr', hml, hown, hts, hKx, hlocks, hnm, hfr, hlo, hbs, hd⟩ := id cx
      have hle8 : e ≤ 8 := by omega
      have hM := met_of hmid hplain (show csum (.ref a :: as) ≤ maxL from hfit) hle8 g1 l base D dA
      have hPc : ∀ U : State, U.heap = H → s.WarmedH U.vm → Pcm base D dA (.ref a :: as) h (.ref a :: as).toArray U := fun U hU hW => ⟨rfl, by rw [hU]; exact Nat.le_trans hbs hS.1, by rw [hU]; exact hH, hKx.moved hW, ho.to hW.alike (fun _ _ _ _ hr => vk_R.warm hW hr) (fun q hq1 hq2 => by rw [hU]; exact hS.2.1 q hq1 hq2)⟩
      have hroom : (rmOf (y, by', maxL, rt, lb, lsx, [c1, c2, s1, s2, i1, i2, e1, e2, n1, n2, n], cd) e (hT h1 - hT h) (slotsOf h1 - slotsOf h)).frames + 1 ≤ R.frames ∧ 8 + (maxL + 11) + (rmOf (y, by', maxL, rt, lb, lsx, [c1, c2, s1, s2, i1, i2, e1, e2, n1, n2, n], cd) e (hT h1 - hT h) (slotsOf h1 - slotsOf h)).locals ≤ R.locals := by
        refine ⟨?_, ?_⟩
        · show lb + lsx * (8 - e) + 1 ≤ R.frames
          exact Nat.le_trans hlvl hfr
        · show 8 + (maxL + 11) + 60 * (lb + lsx * (8 - e)) ≤ R.locals
          have hlo : 60 * (t.2.2.2.2.1 + t.2.2.2.2.2.1 * (8 - d)) ≤ R.locals := hlo
          omega
      have hcat : 2 * (F0 m pc lsr (as.reverse ++ .ref a :: rest2)).monitorRoom + (rest2.map fun v => v.category).sum ≤ 8 := by
        rw [← csum_eq]
        show 2 * 0 + _ ≤ 8
        omega
      simp only [decide_eq_true_eq] at hkd
      obtain ⟨⟨⟨hk1, hk2⟩, hk3⟩, hk4⟩ := hkd
      have hins := hins.resolve_left hk1
      subst hk3
      by_cases hne : nest = 1
      · rw [if_pos hne] at hk4
        have cn := va_cnB (R := R) (s := s) (args := args) (rm := rmOf (y, by', maxL, none, lb, lsx, [c1, c2, s1, s2, i1, i2, e1, e2, n1, n2, n], cd) e (hT h1 - hT h) (slotsOf h1 - slotsOf h)) (ws := MW (y, by', maxL, none, lb, lsx, [c1, c2, s1, s2, i1, i2, e1, e2, n1, n2, n], cd)) (y := y) (bytes := by') (maxL := maxL) (ret := none) (own := t.1.cls) (host := "PairTree") (index := idx) n hts (fun w hw => (List.mem_cons.mp hw).elim (fun e => by rw [e]; exact gtb_good hcode) gtb_good) rfl rfl rfl (hKx.2.1 _ _ _ _ (okN_in hk4)) (hts _ (okW_in hini)) ⟨hy1, hy2, hpar⟩ hroom
        exact va_runIN (g := F0 m pc lsr (as.reverse ++ .ref a :: rest2)) (rest := rest2) (Ts := gtb) ⟨hx, hcod, hml, hown, hts⟩ hM ⟨cn, hk2, hts _ (okW_in hins)⟩ ⟨Pcm.blind base D dA (.ref a :: as) h, hPc⟩ rfl hlen hl.1 rfl hcat hdg ⟨hc1, hc2⟩
      · rw [if_neg hne] at hk4
        have cb := callB_of (R := R) (rm := rmOf (y, by', maxL, none, lb, lsx, [c1, c2, s1, s2, i1, i2, e1, e2, n1, n2, n], cd) e (hT h1 - hT h) (slotsOf h1 - slotsOf h)) (ws := MW (y, by', maxL, none, lb, lsx, [c1, c2, s1, s2, i1, i2, e1, e2, n1, n2, n], cd)) (y := y) (bytes := by') (maxL := maxL) (ret := none) (own := t.1.cls) (index := idx) n hts (fun w hw => (List.mem_cons.mp hw).elim (fun e => by rw [e]; exact gtb_good hcode) gtb_good) rfl rfl rfl (hts _ (okW_in hini)) (hts _ (okW_in hk4)) ⟨hy1, hy2, hpar⟩ hroom
        exact va_runI (g := F0 m pc lsr (as.reverse ++ .ref a :: rest2)) (rest := rest2) (Ts := gtb) ⟨hx, hcod, hml, hown, hts⟩ hM ⟨cb, hk2, hts _ (okW_in hins)⟩ ⟨Pcm.blind base D dA (.ref a :: as) h, hPc⟩ rfl hlen hl.1 rfl hcat hdg ⟨hc1, hc2⟩
  · cases hoc
end
