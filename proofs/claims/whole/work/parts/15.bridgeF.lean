/-! Branches and switches. -/
section
variable {M d i pc : Nat} {t : Mth} {K : Nat → MLoc → List Value → MH → MRes} {rec : MRec} {inf : List Nat} {ls : MLoc} {st : List Value} {h : MH} {rv : Option Value} {h' : MH}
theorem g_if_icmp_eq (o : Int) (hPg : Pg M = some t) (hok : okE t i ((.if_icmp .eq o), pc, inf) = true) (hK : KG M d i t K) (hrec : RG rec) (hr : stp K rec M d (.if_icmp .eq o) inf ls st h = some (rv, h')) : Gd M d pc ls st h rv h' := by
  have hdg : decode t.2.1 pc = .ok ((.if_icmp .eq o), 3) := of_decide_eq_true (okE_dec hok)
  have hn : pcN t.code (i + 1) = pc + 3 := eq_of_beq (okE_nx hok)
  have hj : okJ t.code i pc o inf = true := okE_sp hok
  obtain ⟨y, s1, rfl, hr⟩ := pI_inv (k := fun y st => pI st fun x st => ccond .eq x y (jmp K rec M d inf ls st h) (K 0 ls st h)) hr
  obtain ⟨x, s2, rfl, hr⟩ := pI_inv hr
  rcases br_inv hr with ⟨hc, hr⟩ | ⟨hc, hr⟩
  · obtain ⟨tg, ht, g⟩ := jmp_good hPg hK hrec hj hr
    exact Gd.pure hPg g (fun p l e R s m args below meth c H locs cells slots Q lsr hx hb hl hown hts k => lv_icmp_eq hx hb hdg ht (fun _ => k) (fun q => absurd hc q))
  · obtain ⟨tg, ht⟩ := okJ_tgt hj
    exact Gd.pure hPg (hK.nxt hn hr) (fun p l e R s m args below meth c H locs cells slots Q lsr hx hb hl hown hts k => lv_icmp_eq hx hb hdg ht (fun q => absurd q hc) (fun _ => k))
theorem g_if_icmp_ne (o : Int) (hPg : Pg M = some t) (hok : okE t i ((.if_icmp .ne o), pc, inf) = true) (hK : KG M d i t K) (hrec : RG rec) (hr : stp K rec M d (.if_icmp .ne o) inf ls st h = some (rv, h')) : Gd M d pc ls st h rv h' := by
  have hdg : decode t.2.1 pc = .ok ((.if_icmp .ne o), 3) := of_decide_eq_true (okE_dec hok)
  have hn : pcN t.code (i + 1) = pc + 3 := eq_of_beq (okE_nx hok)
  have hj : okJ t.code i pc o inf = true := okE_sp hok
  obtain ⟨y, s1, rfl, hr⟩ := pI_inv (k := fun y st => pI st fun x st => ccond .ne x y (jmp K rec M d inf ls st h) (K 0 ls st h)) hr
  obtain ⟨x, s2, rfl, hr⟩ := pI_inv hr
  rcases br_inv hr with ⟨hc, hr⟩ | ⟨hc, hr⟩
  · obtain ⟨tg, ht⟩ := okJ_tgt hj
    exact Gd.pure hPg (hK.nxt hn hr) (fun p l e R s m args below meth c H locs cells slots Q lsr hx hb hl hown hts k => lv_icmp_ne hx hb hdg ht (fun q => absurd q (fun q => q hc)) (fun _ => k))
  · obtain ⟨tg, ht, g⟩ := jmp_good hPg hK hrec hj hr
    exact Gd.pure hPg g (fun p l e R s m args below meth c H locs cells slots Q lsr hx hb hl hown hts k => lv_icmp_ne hx hb hdg ht (fun _ => k) (fun q => absurd q hc))
theorem g_if_icmp_lt (o : Int) (hPg : Pg M = some t) (hok : okE t i ((.if_icmp .lt o), pc, inf) = true) (hK : KG M d i t K) (hrec : RG rec) (hr : stp K rec M d (.if_icmp .lt o) inf ls st h = some (rv, h')) : Gd M d pc ls st h rv h' := by
  have hdg : decode t.2.1 pc = .ok ((.if_icmp .lt o), 3) := of_decide_eq_true (okE_dec hok)
  have hn : pcN t.code (i + 1) = pc + 3 := eq_of_beq (okE_nx hok)
  have hj : okJ t.code i pc o inf = true := okE_sp hok
  obtain ⟨y, s1, rfl, hr⟩ := pI_inv (k := fun y st => pI st fun x st => ccond .lt x y (jmp K rec M d inf ls st h) (K 0 ls st h)) hr
  obtain ⟨x, s2, rfl, hr⟩ := pI_inv hr
  rcases br_inv hr with ⟨hc, hr⟩ | ⟨hc, hr⟩
  · obtain ⟨tg, ht, g⟩ := jmp_good hPg hK hrec hj hr
    exact Gd.pure hPg g (fun p l e R s m args below meth c H locs cells slots Q lsr hx hb hl hown hts k => lv_icmp_lt hx hb hdg ht (fun _ => k) (fun q => absurd hc q))
  · obtain ⟨tg, ht⟩ := okJ_tgt hj
    exact Gd.pure hPg (hK.nxt hn hr) (fun p l e R s m args below meth c H locs cells slots Q lsr hx hb hl hown hts k => lv_icmp_lt hx hb hdg ht (fun q => absurd q hc) (fun _ => k))
theorem g_if_icmp_ge (o : Int) (hPg : Pg M = some t) (hok : okE t i ((.if_icmp .ge o), pc, inf) = true) (hK : KG M d i t K) (hrec : RG rec) (hr : stp K rec M d (.if_icmp .ge o) inf ls st h = some (rv, h')) : Gd M d pc ls st h rv h' := by
  have hdg : decode t.2.1 pc = .ok ((.if_icmp .ge o), 3) := of_decide_eq_true (okE_dec hok)
  have hn : pcN t.code (i + 1) = pc + 3 := eq_of_beq (okE_nx hok)
  have hj : okJ t.code i pc o inf = true := okE_sp hok
  obtain ⟨y, s1, rfl, hr⟩ := pI_inv (k := fun y st => pI st fun x st => ccond .ge x y (jmp K rec M d inf ls st h) (K 0 ls st h)) hr
  obtain ⟨x, s2, rfl, hr⟩ := pI_inv hr
  rcases br_inv hr with ⟨hc, hr⟩ | ⟨hc, hr⟩
  · obtain ⟨tg, ht⟩ := okJ_tgt hj
    exact Gd.pure hPg (hK.nxt hn hr) (fun p l e R s m args below meth c H locs cells slots Q lsr hx hb hl hown hts k => lv_icmp_ge hx hb hdg ht (fun q => absurd q (fun q => Int32.not_lt.mpr q hc)) (fun _ => k))
  · obtain ⟨tg, ht, g⟩ := jmp_good hPg hK hrec hj hr
    exact Gd.pure hPg g (fun p l e R s m args below meth c H locs cells slots Q lsr hx hb hl hown hts k => lv_icmp_ge hx hb hdg ht (fun _ => k) (fun q => absurd (Int32.not_lt.mp hc) q))
theorem g_if_icmp_gt (o : Int) (hPg : Pg M = some t) (hok : okE t i ((.if_icmp .gt o), pc, inf) = true) (hK : KG M d i t K) (hrec : RG rec) (hr : stp K rec M d (.if_icmp .gt o) inf ls st h = some (rv, h')) : Gd M d pc ls st h rv h' := by
  have hdg : decode t.2.1 pc = .ok ((.if_icmp .gt o), 3) := of_decide_eq_true (okE_dec hok)
  have hn : pcN t.code (i + 1) = pc + 3 := eq_of_beq (okE_nx hok)
  have hj : okJ t.code i pc o inf = true := okE_sp hok
  obtain ⟨y, s1, rfl, hr⟩ := pI_inv (k := fun y st => pI st fun x st => ccond .gt x y (jmp K rec M d inf ls st h) (K 0 ls st h)) hr
  obtain ⟨x, s2, rfl, hr⟩ := pI_inv hr
  rcases br_inv hr with ⟨hc, hr⟩ | ⟨hc, hr⟩
  · obtain ⟨tg, ht, g⟩ := jmp_good hPg hK hrec hj hr
    exact Gd.pure hPg g (fun p l e R s m args below meth c H locs cells slots Q lsr hx hb hl hown hts k => lv_icmp_gt hx hb hdg ht (fun _ => k) (fun q => absurd hc q))
  · obtain ⟨tg, ht⟩ := okJ_tgt hj
    exact Gd.pure hPg (hK.nxt hn hr) (fun p l e R s m args below meth c H locs cells slots Q lsr hx hb hl hown hts k => lv_icmp_gt hx hb hdg ht (fun q => absurd q hc) (fun _ => k))
theorem g_if_icmp_le (o : Int) (hPg : Pg M = some t) (hok : okE t i ((.if_icmp .le o), pc, inf) = true) (hK : KG M d i t K) (hrec : RG rec) (hr : stp K rec M d (.if_icmp .le o) inf ls st h = some (rv, h')) : Gd M d pc ls st h rv h' := by
  have hdg : decode t.2.1 pc = .ok ((.if_icmp .le o), 3) := of_decide_eq_true (okE_dec hok)
  have hn : pcN t.code (i + 1) = pc + 3 := eq_of_beq (okE_nx hok)
  have hj : okJ t.code i pc o inf = true := okE_sp hok
  obtain ⟨y, s1, rfl, hr⟩ := pI_inv (k := fun y st => pI st fun x st => ccond .le x y (jmp K rec M d inf ls st h) (K 0 ls st h)) hr
  obtain ⟨x, s2, rfl, hr⟩ := pI_inv hr
  rcases br_inv hr with ⟨hc, hr⟩ | ⟨hc, hr⟩
  · obtain ⟨tg, ht⟩ := okJ_tgt hj
    exact Gd.pure hPg (hK.nxt hn hr) (fun p l e R s m args below meth c H locs cells slots Q lsr hx hb hl hown hts k => lv_icmp_le hx hb hdg ht (fun q => absurd q (fun q => Int32.not_lt.mpr q hc)) (fun _ => k))
  · obtain ⟨tg, ht, g⟩ := jmp_good hPg hK hrec hj hr
    exact Gd.pure hPg g (fun p l e R s m args below meth c H locs cells slots Q lsr hx hb hl hown hts k => lv_icmp_le hx hb hdg ht (fun _ => k) (fun q => absurd (Int32.not_lt.mp hc) q))
theorem g_ifCond_eq (o : Int) (hPg : Pg M = some t) (hok : okE t i ((.ifCond .eq o), pc, inf) = true) (hK : KG M d i t K) (hrec : RG rec) (hr : stp K rec M d (.ifCond .eq o) inf ls st h = some (rv, h')) : Gd M d pc ls st h rv h' := by
  have hdg : decode t.2.1 pc = .ok ((.ifCond .eq o), 3) := of_decide_eq_true (okE_dec hok)
  have hn : pcN t.code (i + 1) = pc + 3 := eq_of_beq (okE_nx hok)
  have hj : okJ t.code i pc o inf = true := okE_sp hok
  obtain ⟨x, s1, rfl, hr2⟩ := pI_inv (k := fun x st => ccond .eq x (nI 0) (jmp K rec M d inf ls st h) (K 0 ls st h)) hr
  rw [nI_0] at hr2
  rcases br_inv hr2 with ⟨hc, hr⟩ | ⟨hc, hr⟩
  · obtain ⟨tg, ht, g⟩ := jmp_good hPg hK hrec hj hr
    exact Gd.pure hPg g (fun p l e R s m args below meth c H locs cells slots Q lsr hx hb hl hown hts k => lv_if_eq hx hb hdg ht (fun _ => k) (fun q => absurd hc q))
  · obtain ⟨tg, ht⟩ := okJ_tgt hj
    exact Gd.pure hPg (hK.nxt hn hr) (fun p l e R s m args below meth c H locs cells slots Q lsr hx hb hl hown hts k => lv_if_eq hx hb hdg ht (fun q => absurd q hc) (fun _ => k))
theorem g_ifCond_ne (o : Int) (hPg : Pg M = some t) (hok : okE t i ((.ifCond .ne o), pc, inf) = true) (hK : KG M d i t K) (hrec : RG rec) (hr : stp K rec M d (.ifCond .ne o) inf ls st h = some (rv, h')) : Gd M d pc ls st h rv h' := by
  have hdg : decode t.2.1 pc = .ok ((.ifCond .ne o), 3) := of_decide_eq_true (okE_dec hok)
  have hn : pcN t.code (i + 1) = pc + 3 := eq_of_beq (okE_nx hok)
  have hj : okJ t.code i pc o inf = true := okE_sp hok
  obtain ⟨x, s1, rfl, hr2⟩ := pI_inv (k := fun x st => ccond .ne x (nI 0) (jmp K rec M d inf ls st h) (K 0 ls st h)) hr
  rw [nI_0] at hr2
  rcases br_inv hr2 with ⟨hc, hr⟩ | ⟨hc, hr⟩
  · obtain ⟨tg, ht⟩ := okJ_tgt hj
    exact Gd.pure hPg (hK.nxt hn hr) (fun p l e R s m args below meth c H locs cells slots Q lsr hx hb hl hown hts k => lv_if_ne hx hb hdg ht (fun q => absurd q (fun q => q hc)) (fun _ => k))
  · obtain ⟨tg, ht, g⟩ := jmp_good hPg hK hrec hj hr
    exact Gd.pure hPg g (fun p l e R s m args below meth c H locs cells slots Q lsr hx hb hl hown hts k => lv_if_ne hx hb hdg ht (fun _ => k) (fun q => absurd q hc))
theorem g_ifCond_lt (o : Int) (hPg : Pg M = some t) (hok : okE t i ((.ifCond .lt o), pc, inf) = true) (hK : KG M d i t K) (hrec : RG rec) (hr : stp K rec M d (.ifCond .lt o) inf ls st h = some (rv, h')) : Gd M d pc ls st h rv h' := by
  have hdg : decode t.2.1 pc = .ok ((.ifCond .lt o), 3) := of_decide_eq_true (okE_dec hok)
  have hn : pcN t.code (i + 1) = pc + 3 := eq_of_beq (okE_nx hok)
  have hj : okJ t.code i pc o inf = true := okE_sp hok
  obtain ⟨x, s1, rfl, hr2⟩ := pI_inv (k := fun x st => ccond .lt x (nI 0) (jmp K rec M d inf ls st h) (K 0 ls st h)) hr
  rw [nI_0] at hr2
  rcases br_inv hr2 with ⟨hc, hr⟩ | ⟨hc, hr⟩
  · obtain ⟨tg, ht, g⟩ := jmp_good hPg hK hrec hj hr
    exact Gd.pure hPg g (fun p l e R s m args below meth c H locs cells slots Q lsr hx hb hl hown hts k => lv_if_lt hx hb hdg ht (fun _ => k) (fun q => absurd hc q))
  · obtain ⟨tg, ht⟩ := okJ_tgt hj
    exact Gd.pure hPg (hK.nxt hn hr) (fun p l e R s m args below meth c H locs cells slots Q lsr hx hb hl hown hts k => lv_if_lt hx hb hdg ht (fun q => absurd q hc) (fun _ => k))
theorem g_ifCond_ge (o : Int) (hPg : Pg M = some t) (hok : okE t i ((.ifCond .ge o), pc, inf) = true) (hK : KG M d i t K) (hrec : RG rec) (hr : stp K rec M d (.ifCond .ge o) inf ls st h = some (rv, h')) : Gd M d pc ls st h rv h' := by
  have hdg : decode t.2.1 pc = .ok ((.ifCond .ge o), 3) := of_decide_eq_true (okE_dec hok)
  have hn : pcN t.code (i + 1) = pc + 3 := eq_of_beq (okE_nx hok)
  have hj : okJ t.code i pc o inf = true := okE_sp hok
  obtain ⟨x, s1, rfl, hr2⟩ := pI_inv (k := fun x st => ccond .ge x (nI 0) (jmp K rec M d inf ls st h) (K 0 ls st h)) hr
  rw [nI_0] at hr2
  rcases br_inv hr2 with ⟨hc, hr⟩ | ⟨hc, hr⟩
  · obtain ⟨tg, ht⟩ := okJ_tgt hj
    exact Gd.pure hPg (hK.nxt hn hr) (fun p l e R s m args below meth c H locs cells slots Q lsr hx hb hl hown hts k => lv_if_ge hx hb hdg ht (fun q => absurd q (fun q => Int32.not_lt.mpr q hc)) (fun _ => k))
  · obtain ⟨tg, ht, g⟩ := jmp_good hPg hK hrec hj hr
    exact Gd.pure hPg g (fun p l e R s m args below meth c H locs cells slots Q lsr hx hb hl hown hts k => lv_if_ge hx hb hdg ht (fun _ => k) (fun q => absurd (Int32.not_lt.mp hc) q))
theorem g_ifCond_gt (o : Int) (hPg : Pg M = some t) (hok : okE t i ((.ifCond .gt o), pc, inf) = true) (hK : KG M d i t K) (hrec : RG rec) (hr : stp K rec M d (.ifCond .gt o) inf ls st h = some (rv, h')) : Gd M d pc ls st h rv h' := by
  have hdg : decode t.2.1 pc = .ok ((.ifCond .gt o), 3) := of_decide_eq_true (okE_dec hok)
  have hn : pcN t.code (i + 1) = pc + 3 := eq_of_beq (okE_nx hok)
  have hj : okJ t.code i pc o inf = true := okE_sp hok
  obtain ⟨x, s1, rfl, hr2⟩ := pI_inv (k := fun x st => ccond .gt x (nI 0) (jmp K rec M d inf ls st h) (K 0 ls st h)) hr
  rw [nI_0] at hr2
  rcases br_inv hr2 with ⟨hc, hr⟩ | ⟨hc, hr⟩
  · obtain ⟨tg, ht, g⟩ := jmp_good hPg hK hrec hj hr
    exact Gd.pure hPg g (fun p l e R s m args below meth c H locs cells slots Q lsr hx hb hl hown hts k => lv_if_gt hx hb hdg ht (fun _ => k) (fun q => absurd hc q))
  · obtain ⟨tg, ht⟩ := okJ_tgt hj
    exact Gd.pure hPg (hK.nxt hn hr) (fun p l e R s m args below meth c H locs cells slots Q lsr hx hb hl hown hts k => lv_if_gt hx hb hdg ht (fun q => absurd q hc) (fun _ => k))
theorem g_ifCond_le (o : Int) (hPg : Pg M = some t) (hok : okE t i ((.ifCond .le o), pc, inf) = true) (hK : KG M d i t K) (hrec : RG rec) (hr : stp K rec M d (.ifCond .le o) inf ls st h = some (rv, h')) : Gd M d pc ls st h rv h' := by
  have hdg : decode t.2.1 pc = .ok ((.ifCond .le o), 3) := of_decide_eq_true (okE_dec hok)
  have hn : pcN t.code (i + 1) = pc + 3 := eq_of_beq (okE_nx hok)
  have hj : okJ t.code i pc o inf = true := okE_sp hok
  obtain ⟨x, s1, rfl, hr2⟩ := pI_inv (k := fun x st => ccond .le x (nI 0) (jmp K rec M d inf ls st h) (K 0 ls st h)) hr
  rw [nI_0] at hr2
  rcases br_inv hr2 with ⟨hc, hr⟩ | ⟨hc, hr⟩
  · obtain ⟨tg, ht⟩ := okJ_tgt hj
    exact Gd.pure hPg (hK.nxt hn hr) (fun p l e R s m args below meth c H locs cells slots Q lsr hx hb hl hown hts k => lv_if_le hx hb hdg ht (fun q => absurd q (fun q => Int32.not_lt.mpr q hc)) (fun _ => k))
  · obtain ⟨tg, ht, g⟩ := jmp_good hPg hK hrec hj hr
    exact Gd.pure hPg g (fun p l e R s m args below meth c H locs cells slots Q lsr hx hb hl hown hts k => lv_if_le hx hb hdg ht (fun _ => k) (fun q => absurd (Int32.not_lt.mp hc) q))
theorem g_if_icmp (q : ClassFile.Cond) (o : Int) (hPg : Pg M = some t) (hok : okE t i ((.if_icmp q o), pc, inf) = true) (hK : KG M d i t K) (hrec : RG rec) (hr : stp K rec M d (.if_icmp q o) inf ls st h = some (rv, h')) : Gd M d pc ls st h rv h' := by
  cases q
  · exact g_if_icmp_eq o hPg hok hK hrec hr
  · exact g_if_icmp_ne o hPg hok hK hrec hr
  · exact g_if_icmp_lt o hPg hok hK hrec hr
  · exact g_if_icmp_ge o hPg hok hK hrec hr
  · exact g_if_icmp_gt o hPg hok hK hrec hr
  · exact g_if_icmp_le o hPg hok hK hrec hr
theorem g_ifCond (q : ClassFile.Cond) (o : Int) (hPg : Pg M = some t) (hok : okE t i ((.ifCond q o), pc, inf) = true) (hK : KG M d i t K) (hrec : RG rec) (hr : stp K rec M d (.ifCond q o) inf ls st h = some (rv, h')) : Gd M d pc ls st h rv h' := by
  cases q
  · exact g_ifCond_eq o hPg hok hK hrec hr
  · exact g_ifCond_ne o hPg hok hK hrec hr
  · exact g_ifCond_lt o hPg hok hK hrec hr
  · exact g_ifCond_ge o hPg hok hK hrec hr
  · exact g_ifCond_gt o hPg hok hK hrec hr
  · exact g_ifCond_le o hPg hok hK hrec hr
theorem g_tableswitch (df lo hi : Int) (offs : Array Int) (hPg : Pg M = some t) (hok : okE t i (.tableswitch df lo hi offs, pc, inf) = true) (hK : KG M d i t K) (hrec : RG rec) (hr : stp K rec M d (.tableswitch df lo hi offs) inf ls st h = some (rv, h')) : Gd M d pc ls st h rv h' := by
  have hdec : okDec t.2.1 (.tableswitch df lo hi offs, pc, inf) = true := okE_dec hok
  obtain ⟨ln, hdg⟩ : ∃ ln, decode t.2.1 pc = .ok (.tableswitch df lo hi offs, ln) := by
    simp only [okDec] at hdec
    cases hd : decode t.2.1 pc with
    | error e => rw [hd] at hdec; cases hdec
    | ok q =>
      obtain ⟨a, b⟩ := q
      rw [hd] at hdec
      have : a = .tableswitch df lo hi offs := of_decide_eq_true hdec
      subst this
      exact ⟨b, rfl⟩
  cases inf with
  | nil => cases hr
  | cons d0 ts =>
    have hsp : (okTs t.code i pc (df :: offs.toList) (d0 :: ts) && decide (hi = lo + (offs.size : Int) - 1) && decide (-1000 < lo) && decide (hi < 1000)) = true := okE_sp hok
    simp only [Bool.and_eq_true, decide_eq_true_eq] at hsp
    obtain ⟨⟨⟨h1, h2⟩, h3⟩, h4⟩ := hsp
    obtain ⟨x, s1, rfl, hr⟩ := pI_inv (k := fun x st => jsw (tbk lo ts) x d0 fun t => K t ls st h) hr
    obtain ⟨hlen, hat⟩ := okTs_at _ _ h1
    have hsz : offs.size = ts.length := by simpa using hlen
    rcases jsw_tbk ts lo h3 (by omega) hr with ⟨j, tt, a, b, c⟩ | ⟨a, b⟩
    · obtain ⟨o, h5, h6⟩ := hat (j + 1) tt (by simpa using a)
      have hj : j < ts.length := (List.getElem?_eq_some_iff.mp a).1
      exact Gd.pure hPg (hK _ _ _ _ _ _ c) (fun p l e R s m args below meth c H locs cells slots Q lsr hx hb hl hown hts k => lv_tableIn hx hb hdg (by omega) (by omega) (off := o) (by
        rw [show (x.toInt - lo).toNat = j by omega]
        simpa using h5) h6 k)
    · obtain ⟨o, h5, h6⟩ := hat 0 d0 rfl
      cases h5
      exact Gd.pure hPg (hK _ _ _ _ _ _ b) (fun p l e R s m args below meth c H locs cells slots Q lsr hx hb hl hown hts k => lv_tableOut hx hb hdg (by omega) h6 k)
theorem g_lookupswitch (df : Int) (ps : Array (Int × Int)) (hPg : Pg M = some t) (hok : okE t i (.lookupswitch df ps, pc, inf) = true) (hK : KG M d i t K) (hrec : RG rec) (hr : stp K rec M d (.lookupswitch df ps) inf ls st h = some (rv, h')) : Gd M d pc ls st h rv h' := by
  have hdec : okDec t.2.1 (.lookupswitch df ps, pc, inf) = true := okE_dec hok
  obtain ⟨ln, hdg⟩ : ∃ ln, decode t.2.1 pc = .ok (.lookupswitch df ps, ln) := by
    simp only [okDec] at hdec
    cases hd : decode t.2.1 pc with
    | error e => rw [hd] at hdec; cases hdec
    | ok q =>
      obtain ⟨a, b⟩ := q
      rw [hd] at hdec
      have : a = .lookupswitch df ps := of_decide_eq_true hdec
      subst this
      exact ⟨b, rfl⟩
  cases inf with
  | nil => cases hr
  | cons d0 ts =>
    have hsp : (okTs t.code i pc (df :: ps.toList.map (fun q => q.2)) (d0 :: ts) && (ps.toList.zip (ps.toList.drop 1)).all (fun (a, next) => a.1 < next.1) && ps.toList.all (fun q => decide (-1000 < q.1) && decide (q.1 < 1000))) = true := okE_sp hok
    rw [Bool.and_eq_true, Bool.and_eq_true] at hsp
    obtain ⟨⟨h1, h2⟩, h3⟩ := hsp
    have h1' := h1
    simp only [okTs, Bool.and_eq_true, decide_eq_true_eq] at h1'
    obtain ⟨x, s1, rfl, hr⟩ := pI_inv (k := fun x st => jsw (lkk ps.toList ts) x d0 fun t => K t ls st h) hr
    obtain ⟨tt, a, b⟩ := jsw_lkk h1'.1 ps.toList ts h1'.2 h3 hr
    exact Gd.pure hPg (hK _ _ _ _ _ _ b) (fun p l e R s m args below meth c H locs cells slots Q lsr hx hb hl hown hts k => lv_lookup hx hb hdg h2 rfl a k)
end
