/-! All instructions together; stretches; runs. -/
section
variable {M d i pc : Nat} {t : Mth} {K : Nat → MLoc → List Value → MH → MRes} {rec : MRec} {inf : List Nat} {ls : MLoc} {st : List Value} {h : MH} {rv : Option Value} {h' : MH}
theorem g_objinit {idx j w a : Nat} (hPg : Pg M = some t) (hw : okW j w (.methodLink t.1.cls idx objectInit) = true) (hdg : decode t.2.1 pc = .ok (.invokespecial idx, 3)) (hlv : 1 ≤ t.2.2.2.2.1) (hlow : csum st ≤ 8) (g : Gd M d (pc + 3) ls st h rv h') : Gd M d pc ls (.ref a :: st) h rv h' := by
  refine Gd.read hPg g fun p l e R s m args below meth c base D dA H locs cells slots Q lsr h0 cx hl hH ho hb hS kk => ?_
  obtain ⟨hx, hcode, hr', hml, hown, hts, hKx, hlocks, hnm, hfr, hlo, hbs, hd⟩ := id cx
  have hlv1 : 1 ≤ lvOf t d := Nat.le_trans hlv (Nat.le_add_right _ _)
  refine W.objInit hx hcode hown (hts _ (okW_in hw)) (hts _ (okW_in (j := 1) (i := 29) (by decide +kernel))) (hts (.code objectInit ⟨#[0xb1]⟩ 1 none) (okW_in (j := 1) (i := 30) (by decide +kernel))) rfl (by show lsr.size = _; rw [hl.1, hml]) rfl hdg (by omega) (by
    rw [← csum_eq]
    show 2 * 0 + _ + 12 ≤ _
    omega) kk
theorem g_mmax {idx j w : Nat} {x y : Int32} (hPg : Pg M = some t) (hw : okW j w (.methodLink t.1.cls idx Lib.Math.max.name) = true) (hdg : decode t.2.1 pc = .ok (.invokestatic idx, 3)) (hlv : 1 ≤ t.2.2.2.2.1) (hlow : csum st ≤ 8) (g : Gd M d (pc + 3) ls (.int (if x < y then y else x) :: st) h rv h') : Gd M d pc ls (.int y :: .int x :: st) h rv h' := by
  refine Gd.alloc hPg g (kc' := 0) (ks := 0) rfl rfl fun p l e R s m args below meth c base D dA H locs cells slots Q lsr h0 cx hl hH ho hb hS hbT hc1 hc2 kk => ?_
  obtain ⟨hx, hcode, hr', hml, hown, hts, hKx, hlocks, hnm, hfr, hlo, hbs, hd⟩ := id cx
  have hlv1 : 1 ≤ lvOf t d := Nat.le_trans hlv (Nat.le_add_right _ _)
  exact va_mmax hx hcode (by rw [hl.1, hml]) hown (hts _ (okW_in hw)) (hts _ (okW_in (j := 3) (i := 0) (by decide +kernel))) (hts _ (okW_in (j := 1) (i := 18) (by decide +kernel))) (hts _ (okW_in (j := 3) (i := 1) (by decide +kernel))) (by omega) (by rw [← csum_eq]; omega) hc1 hc2 hdg (kk H hH (Sb.rf base h) hS)
theorem g_mmin {idx j w : Nat} {x y : Int32} (hPg : Pg M = some t) (hw : okW j w (.methodLink t.1.cls idx Lib.Math.min.name) = true) (hdg : decode t.2.1 pc = .ok (.invokestatic idx, 3)) (hlv : 1 ≤ t.2.2.2.2.1) (hlow : csum st ≤ 8) (g : Gd M d (pc + 3) ls (.int (if y < x then y else x) :: st) h rv h') : Gd M d pc ls (.int y :: .int x :: st) h rv h' := by
  refine Gd.alloc hPg g (kc' := 0) (ks := 0) rfl rfl fun p l e R s m args below meth c base D dA H locs cells slots Q lsr h0 cx hl hH ho hb hS hbT hc1 hc2 kk => ?_
  obtain ⟨hx, hcode, hr', hml, hown, hts, hKx, hlocks, hnm, hfr, hlo, hbs, hd⟩ := id cx
  have hlv1 : 1 ≤ lvOf t d := Nat.le_trans hlv (Nat.le_add_right _ _)
  exact va_mmin hx hcode (by rw [hl.1, hml]) hown (hts _ (okW_in hw)) (hts _ (okW_in (j := 2) (i := 237) (by decide +kernel))) (hts _ (okW_in (j := 1) (i := 18) (by decide +kernel))) (hts _ (okW_in (j := 2) (i := 238) (by decide +kernel))) (by omega) (by rw [← csum_eq]; omega) hc1 hc2 hdg (kk H hH (Sb.rf base h) hS)
theorem g_invokestatic (idx : Nat) (hmt : Mts) (hlv : 1 ≤ t.2.2.2.2.1) (hPg : Pg M = some t) (hok : okE t i (.invokestatic idx, pc, inf) = true) (hK : KG M d i t K) (hrec : RG rec) (hr : stp K rec M d (.invokestatic idx) inf ls st h = some (rv, h')) : Gd M d pc ls st h rv h' := by
  have hdg : decode t.2.1 pc = .ok (.invokestatic idx, 3) := of_decide_eq_true (okE_dec hok)
  have hn : pcN t.code (i + 1) = pc + 3 := eq_of_beq (okE_nx hok)
  have hsp := okE_sp hok
  rcases inf with _ | ⟨b, _ | ⟨j, _ | ⟨w, _ | ⟨q3, _ | ⟨q4, _ | ⟨q5, _ | ⟨q6, _ | ⟨q7, _ | ⟨q8, _ | ⟨q9, _ | ⟨z, l⟩⟩⟩⟩⟩⟩⟩⟩⟩⟩⟩ <;> try (cases hsp; done)
  · cases hr
  · have hsp : ((decide (b = 6) && okW j w (.methodLink t.1.cls idx arraycopyName)) || (decide (b = 4) && okW j w (.methodLink t.1.cls idx Lib.Math.max.name)) || (decide (b = 5) && okW j w (.methodLink t.1.cls idx Lib.Math.min.name))) = true := hsp
    simp only [Bool.and_eq_true, Bool.or_eq_true, decide_eq_true_eq] at hsp
    rcases hsp with (⟨hb6, hw⟩ | ⟨hb6, hw⟩) | ⟨hb6, hw⟩
    rotate_left
    · subst hb6
      obtain ⟨y, s1, rfl, hr1⟩ := pI_inv (k := fun y st => pI st fun x st => low (csum st) (K 0 ls (.int (if x < y then y else x) :: st) h)) hr
      obtain ⟨x, s2, rfl, hr2⟩ := pI_inv hr1
      obtain ⟨hlow, hr3⟩ := low_inv hr2
      exact g_mmax hPg hw hdg hlv hlow (hK.nxt hn hr3)
    · subst hb6
      obtain ⟨y, s1, rfl, hr1⟩ := pI_inv (k := fun y st => pI st fun x st => low (csum st) (K 0 ls (.int (if y < x then y else x) :: st) h)) hr
      obtain ⟨x, s2, rfl, hr2⟩ := pI_inv hr1
      obtain ⟨hlow, hr3⟩ := low_inv hr2
      exact g_mmin hPg hw hdg hlv hlow (hK.nxt hn hr3)
    subst hb6
    have hr : copyF h st (fun st h => K 0 ls st h) = some (rv, h') := hr
    unfold copyF at hr
    obtain ⟨n, s1, rfl, hr1⟩ := pI_inv hr
    obtain ⟨dp, s2, rfl, hr2⟩ := pI_inv hr1
    obtain ⟨b, s3, rfl, hr3⟩ := pR_inv hr2
    obtain ⟨sp, s4, rfl, hr4⟩ := pI_inv hr3
    obtain ⟨a, s5, rfl, hr5⟩ := pR_inv hr4
    obtain ⟨hca, hr6⟩ := isC_inv hr5
    obtain ⟨hcb, hr7⟩ := isC_inv hr6
    obtain ⟨hlow, hr8⟩ := low_inv hr7
    split at hr8
    · cases hr8
    · rename_i hcond
      refine g_copy hPg hw hdg (fun d => Nat.le_trans hlv (Nat.le_add_right _ _)) hlow hca hcb (fun q => hcond (Or.inr (Or.inr (Or.inl q)))) (fun q => hcond (Or.inr (Or.inl q))) (fun q => hcond (Or.inl q)) (Nat.le_of_not_lt (fun q => hcond (Or.inr (Or.inr (Or.inr (Or.inl q)))))) (Nat.le_of_not_lt (fun q => hcond (Or.inr (Or.inr (Or.inr (Or.inr q)))))) (hK.nxt hn hr8)
  · have hsp : (decide (b = 0) && okCal t.2.2.2.2.1 t.1.cls idx 0 j w q3 q4 q5 q6 q7 q8 q9 t.2.2.2.2.2.1) = true := hsp
    simp only [Bool.and_eq_true, decide_eq_true_eq] at hsp
    obtain ⟨hb0, hoc⟩ := hsp
    subst hb0
    exact g_call0 hmt hPg hoc hdg hrec (fun st h rv h' hr => hK.nxt hn hr) hr
theorem g_invokevirtual (idx : Nat) (hmt : Mts) (hPg : Pg M = some t) (hok : okE t i (.invokevirtual idx, pc, inf) = true) (hK : KG M d i t K) (hrec : RG rec) (hr : stp K rec M d (.invokevirtual idx) inf ls st h = some (rv, h')) : Gd M d pc ls st h rv h' := by
  have hdg : decode t.2.1 pc = .ok (.invokevirtual idx, 3) := of_decide_eq_true (okE_dec hok)
  have hn : pcN t.code (i + 1) = pc + 3 := eq_of_beq (okE_nx hok)
  have hsp := okE_sp hok
  rcases inf with _ | ⟨b, _ | ⟨j, _ | ⟨w, _ | ⟨q3, _ | ⟨q4, _ | ⟨q5, _ | ⟨q6, _ | ⟨q7, _ | ⟨q8, _ | ⟨q9, _ | ⟨z, l⟩⟩⟩⟩⟩⟩⟩⟩⟩⟩⟩ <;> try (cases hsp; done)
  have hsp : (decide (b = 1) && okCal t.2.2.2.2.1 t.1.cls idx 1 j w q3 q4 q5 q6 q7 q8 q9 t.2.2.2.2.2.1) = true := hsp
  simp only [Bool.and_eq_true, decide_eq_true_eq] at hsp
  obtain ⟨hb0, hoc⟩ := hsp
  subst hb0
  exact g_call1 hmt hPg hoc hdg hrec (fun st h rv h' hr => hK.nxt hn hr) hr
theorem g_invokespecial (idx : Nat) (hmt : Mts) (hlv : 1 ≤ t.2.2.2.2.1) (hPg : Pg M = some t) (hok : okE t i (.invokespecial idx, pc, inf) = true) (hK : KG M d i t K) (hrec : RG rec) (hr : stp K rec M d (.invokespecial idx) inf ls st h = some (rv, h')) : Gd M d pc ls st h rv h' := by
  have hdg : decode t.2.1 pc = .ok (.invokespecial idx, 3) := of_decide_eq_true (okE_dec hok)
  have hn : pcN t.code (i + 1) = pc + 3 := eq_of_beq (okE_nx hok)
  have hsp := okE_sp hok
  rcases inf with _ | ⟨b, _ | ⟨j, _ | ⟨w, _ | ⟨q3, _ | ⟨q4, _ | ⟨q5, _ | ⟨q6, _ | ⟨q7, _ | ⟨q8, _ | ⟨q9, _ | ⟨z, l⟩⟩⟩⟩⟩⟩⟩⟩⟩⟩⟩ <;> try (cases hsp; done)
  · have hsp : (decide (b = 3) && okW j w (.methodLink t.1.cls idx objectInit)) = true := hsp
    simp only [Bool.and_eq_true, decide_eq_true_eq] at hsp
    obtain ⟨hb6, hw⟩ := hsp
    subst hb6
    obtain ⟨a, s1, rfl, hr1⟩ := pR_inv (k := fun _ st => low (csum st) (K 0 ls st h)) hr
    obtain ⟨hlow, hr2⟩ := low_inv hr1
    exact g_objinit hPg hw hdg hlv hlow (hK.nxt hn hr2)
  · have hsp : (decide (b = 2) && okCal t.2.2.2.2.1 t.1.cls idx 2 j w q3 q4 q5 q6 q7 q8 q9 t.2.2.2.2.2.1) = true := hsp
    simp only [Bool.and_eq_true, decide_eq_true_eq] at hsp
    obtain ⟨hb0, hoc⟩ := hsp
    subst hb0
    exact g_call2 hmt hPg hoc hdg hrec (fun st h rv h' hr => hK.nxt hn hr) hr
theorem stp_good (hmt : Mts) (hlv : 1 ≤ t.2.2.2.2.1) (ins : Instr) (hPg : Pg M = some t) (hok : okE t i (ins, pc, inf) = true) (hK : KG M d i t K) (hrec : RG rec) (hr : stp K rec M d ins inf ls st h = some (rv, h')) : Gd M d pc ls st h rv h' := by
  cases ins
  case iadd => exact g_iadd hPg hok hK hrec hr
  case isub => exact g_isub hPg hok hK hrec hr
  case imul => exact g_imul hPg hok hK hrec hr
  case iand => exact g_iand hPg hok hK hrec hr
  case ior => exact g_ior hPg hok hK hrec hr
  case ixor => exact g_ixor hPg hok hK hrec hr
  case ishl => exact g_ishl hPg hok hK hrec hr
  case ishr => exact g_ishr hPg hok hK hrec hr
  case iushr => exact g_iushr hPg hok hK hrec hr
  case idiv => exact g_idiv hPg hok hK hrec hr
  case irem => exact g_irem hPg hok hK hrec hr
  case i2b => exact g_i2b hPg hok hK hrec hr
  case i2c => exact g_i2c hPg hok hK hrec hr
  case i2l => exact g_i2l hPg hok hK hrec hr
  case lshl => exact g_lshl hPg hok hK hrec hr
  case lor => exact g_lor hPg hok hK hrec hr
  case lcmp => exact g_lcmp hPg hok hK hrec hr
  case dup => exact g_dup hPg hok hK hrec hr
  case pop => exact g_pop hPg hok hK hrec hr
  case dup2 => exact g_dup2 hPg hok hK hrec hr
  case iaload => exact g_iaload hPg hok hK hrec hr
  case baload => exact g_baload hPg hok hK hrec hr
  case laload => exact g_laload hPg hok hK hrec hr
  case aaload => exact g_aaload hPg hok hK hrec hr
  case arraylength => exact g_arraylength hPg hok hK hrec hr
  case iastore => exact g_iastore hPg hok hK hrec hr
  case lastore => exact g_lastore hPg hok hK hrec hr
  case bastore => exact g_bastore hPg hok hK hrec hr
  case aastore => exact g_aastore hPg hok hK hrec hr
  case iconst a => exact g_iconst a hPg hok hK hrec hr
  case bipush a => exact g_bipush a hPg hok hK hrec hr
  case sipush a => exact g_sipush a hPg hok hK hrec hr
  case lconst a => exact g_lconst a hPg hok hK hrec hr
  case iload_n a => exact g_iload_n a hPg hok hK hrec hr
  case iload a => exact g_iload a hPg hok hK hrec hr
  case lload_n a => exact g_lload_n a hPg hok hK hrec hr
  case lload a => exact g_lload a hPg hok hK hrec hr
  case aload_n a => exact g_aload_n a hPg hok hK hrec hr
  case aload a => exact g_aload a hPg hok hK hrec hr
  case istore_n a => exact g_istore_n a hPg hok hK hrec hr
  case istore a => exact g_istore a hPg hok hK hrec hr
  case astore_n a => exact g_astore_n a hPg hok hK hrec hr
  case astore a => exact g_astore a hPg hok hK hrec hr
  case lstore_n a => exact g_lstore_n a hPg hok hK hrec hr
  case lstore a => exact g_lstore a hPg hok hK hrec hr
  case goto a => exact g_goto a hPg hok hK hrec hr
  case ifnull a => exact g_ifnull a hPg hok hK hrec hr
  case ifnonnull a => exact g_ifnonnull a hPg hok hK hrec hr
  case getfield a => exact g_getfield a hPg hok hK hrec hr
  case putfield a => exact g_putfield a hPg hok hK hrec hr
  case new a => exact g_new a hPg hok hK hrec hr
  case newarray a => exact g_newarray a hPg hok hK hrec hr
  case anewarray a => exact g_anewarray a hPg hok hK hrec hr
  case ldc a => exact g_ldc a hPg hok hK hrec hr
  case ldc_w a => exact g_ldc_w a hPg hok hK hrec hr
  case ldc2_w a => exact g_ldc2_w a hPg hok hK hrec hr
  case getstatic a => exact g_getstatic a hPg hok hK hrec hr
  case iinc a b => exact g_iinc a b hPg hok hK hrec hr
  case if_icmp a b => exact g_if_icmp a b hPg hok hK hrec hr
  case ifCond a b => exact g_ifCond a b hPg hok hK hrec hr
  case multianewarray a b => exact g_multianewarray a b hPg hok hK hrec hr
  case lookupswitch a b => exact g_lookupswitch a b hPg hok hK hrec hr
  case tableswitch a b c e => exact g_tableswitch a b c e hPg hok hK hrec hr
  case invokestatic a => exact g_invokestatic a hmt hlv hPg hok hK hrec hr
  case invokevirtual a => exact g_invokevirtual a hmt hPg hok hK hrec hr
  case invokespecial a => exact g_invokespecial a hmt hlv hPg hok hK hrec hr
  case ireturn => exact g_ireturn hPg hok hr
  case areturn => exact g_areturn hPg hok hr
  case return_ => exact g_return hPg hok hr
  case nop => exact g_nop hPg hok hrec hr
  all_goals cases hr
theorem nth_drop {α : Type} : ∀ (l : List α) (i : Nat) (a : α) (c : List α), l.drop i = a :: c → nth l i = some a ∧ l.drop (i + 1) = c
  | [], i, a, c, h => by simp at h
  | x :: l, 0, a, c, h => by
    simp only [List.drop_zero] at h
    cases h
    exact ⟨rfl, rfl⟩
  | x :: l, i + 1, a, c, h => by
    have := nth_drop l i a c (by simpa using h)
    exact ⟨this.1, by simpa using this.2⟩
theorem okC_at : ∀ (c : List Ent) (i : Nat), okC t i c = true → ∀ (j : Nat) (e : Ent), nth c j = some e → okE t (i + j) e = true
  | [], i, _, j, e, h => by cases h
  | a :: c, i, hc, 0, e, h => by
    cases h
    unfold okC at hc
    rw [Bool.and_eq_true] at hc
    exact hc.1
  | a :: c, i, hc, j + 1, e, h => by
    unfold okC at hc
    rw [Bool.and_eq_true] at hc
    have := okC_at c (i + 1) hc.2 j e h
    rw [show i + (j + 1) = i + 1 + j by omega]
    exact this
theorem blk_good (hmt : Mts) (hlv : 1 ≤ t.2.2.2.2.1) (hPg : Pg M = some t) (hok : okC t 0 t.code = true) (hrec : RG rec) : ∀ (c : List Ent) (i s : Nat) (ls : MLoc) (st : List Value) (h : MH) (rv : Option Value) (h' : MH), t.code.drop i = c → blk rec M d s c ls st h = some (rv, h') → Gd M d (pcN t.code (i + s)) ls st h rv h'
  | [], i, s, ls, st, h, rv, h', hc, hr => by
    cases s <;> cases hr
  | e :: c, i, s + 1, ls, st, h, rv, h', hc, hr => by
    have := blk_good hmt hlv hPg hok hrec c (i + 1) s ls st h rv h' (nth_drop _ _ _ _ hc).2 hr
    rw [show i + (s + 1) = i + 1 + s by omega]
    exact this
  | e :: c, i, 0, ls, st, h, rv, h', hc, hr => by
    obtain ⟨h1, h2⟩ := nth_drop _ _ _ _ hc
    have hoe := okC_at t.code 0 hok i e h1
    rw [Nat.zero_add] at hoe
    obtain ⟨ins, pc, inf⟩ := e
    have hpc : pcN t.code (i + 0) = pc := by
      rw [Nat.add_zero]
      unfold pcN
      rw [h1]
    rw [hpc]
    refine stp_good hmt hlv ins hPg hoe (K := fun s ls st h => blk rec M d s c ls st h) (fun s ls st h rv h' hr => ?_) hrec hr
    exact blk_good hmt hlv hPg hok hrec c (i + 1) s ls st h rv h' h2 hr
end
/-- what the kernel has checked of every method -/
def Oks : Prop := ∀ M t, Pg M = some t → okC t 0 t.code = true ∧ t.2.2.2.2.1 + t.2.2.2.2.2.1 * 8 ≤ 400 ∧ 1 ≤ t.2.2.2.2.1
theorem run_good (hmt : Mts) (hoks : Oks) : ∀ n : Nat, RG (runM Pg n)
  | 0, M, d, i, ls, st, h, rv, h', hr => by cases hr
  | n + 1, M, d, i, ls, st, h, rv, h', hr => by
    intro t hPg
    obtain ⟨h1, h2, h3⟩ := hoks M t hPg
    have hr : blkM Pg (runM Pg n) M d i ls st h = some (rv, h') := hr
    unfold blkM at hr
    rw [hPg] at hr
    have := blk_good hmt h3 hPg h1 (run_good hmt hoks n) t.code 0 i ls st h rv h' rfl hr
    rw [Nat.zero_add] at this
    exact this
theorem ev_good (hmt : Mts) (hoks : Oks) {M d i : Nat} {ls : MLoc} {st : List Value} {h : MH} {rv : Option Value} {h' : MH} (hr : ev M d i ls st h = some (rv, h')) : Good M d i ls st h rv h' := by
  obtain ⟨n, hn⟩ := evM_run Pg hr
  exact run_good hmt hoks n _ _ _ _ _ _ _ _ hn
