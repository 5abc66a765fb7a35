/-! Copies; constants; statics; ends. -/
theorem val_cpI {h : MH} {a b sp dp n : Nat} (j : Nat) : val (cpI h a sp b dp n) b 20 j = .int (va_cpy (hI h a) (hI h b) sp dp n j) := by
  show Value.int ((up1 (hI h) b (va_cpy (hI h a) (hI h b) sp dp n)) b j) = _
  simp [up1]
theorem val_cpI_ne {h : MH} {a b sp dp n q : Nat} (hq : q ≠ b) (t j : Nat) : val (cpI h a sp b dp n) q t j = val h q t j := by
  have e : hI (cpI h a sp b dp n) q = hI h q := by show up1 _ _ _ q = _; simp [up1, hq]
  unfold val
  rw [e]
  rfl
theorem Sb.cp {base : Nat} {h : MH} {a b sp dp n : Nat} (hb : base ≤ b) : Sb base h (cpI h a sp b dp n) := fun q hq => ⟨rfl, rfl, by show up1 _ _ _ q = _; simp [up1, show q ≠ b by omega], rfl, rfl⟩
theorem nn_cl (z : Int32) (hz : ¬ z < 0) : z.toInt = (z.toNatClampNeg : Int) := by
  have hz0 : (0 : Int) ≤ z.toInt := by
    have := Int32.not_lt.mp hz
    simpa using Int32.le_iff_toInt_le.mp this
  show z.toInt = ((z.toInt.toNat : Nat) : Int)
  omega
section
variable {M d i pc : Nat} {t : Mth} {K : Nat → MLoc → List Value → MH → MRes} {rec : MRec} {inf : List Nat} {ls : MLoc} {st : List Value} {h : MH} {rv : Option Value} {h' : MH}
theorem g_copy {idx j w a b : Nat} {sp dp n : Int32} (hPg : Pg M = some t) (hw : okW j w (.methodLink t.1.cls idx arraycopyName) = true) (hdg : decode t.2.1 pc = .ok (.invokestatic idx, 3)) (hlv : ∀ d, 1 ≤ lvOf t d) (hlow : csum st ≤ 8) (ha : hC h a = 20) (hb : hC h b = 20) (h1 : ¬ sp < 0) (h2 : ¬ dp < 0) (h3 : ¬ n < 0) (h4 : sp.toNatClampNeg + n.toNatClampNeg ≤ hN h a) (h5 : dp.toNatClampNeg + n.toNatClampNeg ≤ hN h b)
    (g : Gd M d (pc + 3) ls st (cpI h a sp.toNatClampNeg b dp.toNatClampNeg n.toNatClampNeg) rv h') : Gd M d pc ls (.int n :: .int dp :: .ref b :: .int sp :: .ref a :: st) h rv h' := by
  refine Gd.store hPg g rfl rfl fun p l e R s m args below meth c base D dA H locs cells slots Q lsr h0 cx hl hH ho hbb hS kk => ?_
  obtain ⟨hx, hcode, hr', hml, hown, hts, hKx, hlocks, hnm, hfr, hlo, hbs, hd⟩ := id cx
  have haB := ab_of ho hbb ha (by omega) (by omega)
  have hbB := ab_of ho hbb hb (by omega) (by omega)
  have hc0 := hH.arr haB ha (by omega)
  have hc1 := hH.arr hbB hb (by omega)
  intro T hT' X
  obtain ⟨-, k0, hk0, cm0, hkk0⟩ := arr_ix hKx 0 (q := (dA 20, .int)) rfl (hN h a) (val h a 20)
  obtain ⟨-, k1, hk1, cm1, hkk1⟩ := arr_ix hKx 0 (q := (dA 20, .int)) rfl (hN h b) (val h b 20)
  have hlv1 := hlv d
  obtain ⟨vm', X', step⟩ := X.arraycopy hx hown (hts _ (okW_in hw)) (hts _ (okW_in (j := 2) (i := 215) (by decide +kernel))) (hts _ (okW_in (j := 2) (i := 214) (by decide +kernel))) (hts _ (okW_in (j := 1) (i := 17) (by decide +kernel))) (src := a) (dst := b) (cs := arrV (dA 20) (hN h a) (val h a 20)) (cd := arrV (dA 20) (hN h b) (val h b 20)) (srcPos := sp) (destPos := dp) (n := n) (by rw [hT']; exact hc0) (by rw [hT']; exact hc1)
    (fun _ h => by cases h) (fun _ h => by cases h) (fun h => by cases h) (fun h => by cases h) hk0 hk1 hkk0 hkk1 (by simp [show refKind .int = false from rfl]) h1 h2 h3
    (by rw [nn_cl sp h1, nn_cl n h3, arrV_size]; omega)
    (by rw [nn_cl dp h2, nn_cl n h3, arrV_size]; omega)
    (fun vm₁ _ i hi => by
      have e : (arrV (dA 20) (hN h a) (val h a 20)).slots.getD (sp.toNatClampNeg + i) .null = .int (hI h a (sp.toNatClampNeg + i)) := by
        rw [Array.getD_eq_getD_getElem?, arrV_read _ _ (by omega)]
        rfl
      refine ⟨?_, ?_⟩
      · rw [e]; rfl
      · rw [e]; exact trivial)
    (g := F0 m pc lsr (.int n :: .int dp :: .ref b :: .int sp :: .ref a :: st)) rfl (by show lsr.size = _; rw [hl.1, hml]) (rest := st) rfl (by rw [hcode]; exact hdg) (by omega) (by
      show 2 * 0 + _ + (nativeFrameWords "java/lang/System" "arraycopy" 5 + 11) ≤ _
      have e7 : nativeFrameWords "java/lang/System" "arraycopy" 5 = 7 := by decide +kernel
      rw [e7, ← csum_eq]
      omega)
  have e1 : copied (arrV (dA 20) (hN h a) (val h a 20)) (arrV (dA 20) (hN h b) (val h b 20)) sp dp n = arrV (dA 20) (hN h b) (fun j => .int (va_cpy (hI h a) (hI h b) sp.toNatClampNeg dp.toNatClampNeg n.toNatClampNeg j)) := va_copied (fun z => .int z) (dA 20) (dA 20) (hI h a) (hI h b) h4
  rw [e1] at X' step
  have hlt : b < H.size := (Array.getElem?_eq_some_iff.mp hc1).1
  generalize hce : arrV (dA 20) (hN h b) (fun j => .int (va_cpy (hI h a) (hI h b) sp.toNatClampNeg dp.toNatClampNeg n.toNatClampNeg j)) = ce at X' step
  have hheap : ((T.setVm vm').setCell b ce).heap = H.setIfInBounds b ce := by rw [← hT']; rfl
  have oq : ∀ q : Nat, q ≠ b → (H.setIfInBounds b ce)[q]? = H[q]? := fun q hq => by simp [Array.getElem?_setIfInBounds, Ne.symm hq]
  have e2 : (H.setIfInBounds b ce)[b]? = some ce := by simp [Array.getElem?_setIfInBounds, hlt]
  have hH1 : HRn base D dA (cpI h a sp.toNatClampNeg b dp.toNatClampNeg n.toNatClampNeg) (H.setIfInBounds b ce) := by
    refine hH.upd (a := b) rfl (by simp) oq rfl rfl (fun q hq t k => val_cpI_ne hq t k) (Or.inr ⟨by show 20 ≤ hC h b; omega, by show hC h b ≤ 26; omega, ?_⟩)
    show _ = some (arrV (dA (hC h b)) (hN h b) (val (cpI h a sp.toNatClampNeg b dp.toNatClampNeg n.toNatClampNeg) b (hC h b)))
    rw [e2, hb, ← hce]
    congr 2
    funext j
    exact (val_cpI j).symm
  obtain ⟨t', a1, b1⟩ := kk _ _ hH1 (Sb.cp hbB) ⟨by simp; exact hS.1, fun q g1 g2 => by
      rw [oq q (fun e => g2 (by rw [e]; exact hbB))]
      exact hS.2.1 q g1 g2, fun q hq => by
      rcases List.mem_append.mp hq with h | h
      · exact hS.2.2 q h
      · obtain ⟨z, -, hz⟩ := List.mem_map.mp h
        rw [← hz]
        exact hbB⟩ _ hheap X'
  exact ⟨t', step t' a1, b1⟩
theorem g_ldc (idx : Nat) (hPg : Pg M = some t) (hok : okE t i (.ldc idx, pc, inf) = true) (hK : KG M d i t K) (hrec : RG rec) (hr : stp K rec M d (.ldc idx) inf ls st h = some (rv, h')) : Gd M d pc ls st h rv h' := by
  have hdg : decode t.2.1 pc = .ok (.ldc idx, 2) := of_decide_eq_true (okE_dec hok)
  have hn : pcN t.code (i + 1) = pc + 2 := eq_of_beq (okE_nx hok)
  have hsp := okE_sp hok
  rcases inf with _ | ⟨b, _ | ⟨k, _ | ⟨j, _ | ⟨w, _ | ⟨z, l⟩⟩⟩⟩⟩ <;> try (cases hsp; done)
  · have hsp : (decide (b = 98) && decide (t.1.cls = "PairTree$Scanner") && ((decide (k = 1000) && decide (idx = 13)) || (decide (k = 1001) && decide (idx = 76)))) = true := hsp
    simp only [Bool.and_eq_true, Bool.or_eq_true, decide_eq_true_eq] at hsp
    obtain ⟨⟨hb, hcl⟩, hs2⟩ := hsp
    subst hb
    have hr : nnR (hR h 0 k) (fun a => K 0 ls (.ref a :: st) h) = some (rv, h') := hr
    obtain ⟨a, hRa, hr2⟩ := nnR_inv hr
    refine Gd.read hPg (hK.nxt hn hr2) fun p l e R s m args below meth c base D dA H locs cells slots Q lsr h0 cx hl hH ho hb hS kk => ?_
    obtain ⟨hx, hcode, hr', hml, hown, hts, hKx, hlocks, hnm, hfr, hlo, hbs, hd⟩ := id cx
    rw [hcl] at hown
    have ho2 := ho.sb hb
    rcases hs2 with ⟨hk, hi⟩ | ⟨hk, hi⟩
    · rw [hi] at hdg
      exact va_ldcS hx hcode hown (ho2.2.2.2.2.2.1 a (by rw [← hk]; exact hRa)) hdg kk
    · rw [hi] at hdg
      exact va_ldcS hx hcode hown (ho2.2.2.2.2.2.2.1 a (by rw [← hk]; exact hRa)) hdg kk
  · have hsp : (decide (b ≠ 98) && okW j w (.constant t.1.cls idx (kc [b, k]))) = true := hsp
    simp only [Bool.and_eq_true, decide_eq_true_eq] at hsp
    have hr : K 0 ls (.int (kc [b, k]) :: st) h = some (rv, h') := by
      have hr3 := hr
      simp only [stp] at hr3
      split at hr3
      · rename_i heq
        exact absurd (List.cons.inj heq).1 hsp.1
      · have e : kc [b, k, j, w] = kc [b, k] := by rcases b with _ | _ | b <;> rfl
        rw [e] at hr3
        exact hr3
    exact Gd.pure hPg (hK.nxt hn hr) (fun p l e R s m args below meth c H locs cells slots Q lsr hx hb hl hown hts k => lv_ldc hx hb hown (hts _ (okW_in hsp.2)) hdg k)
theorem g_ldc_w (idx : Nat) (hPg : Pg M = some t) (hok : okE t i (.ldc_w idx, pc, inf) = true) (hK : KG M d i t K) (hrec : RG rec) (hr : stp K rec M d (.ldc_w idx) inf ls st h = some (rv, h')) : Gd M d pc ls st h rv h' := by
  have hdg : decode t.2.1 pc = .ok (.ldc_w idx, 3) := of_decide_eq_true (okE_dec hok)
  have hn : pcN t.code (i + 1) = pc + 3 := eq_of_beq (okE_nx hok)
  have hsp := okE_sp hok
  rcases inf with _ | ⟨b, _ | ⟨k, _ | ⟨j, _ | ⟨w, _ | ⟨z, l⟩⟩⟩⟩⟩ <;> try (cases hsp; done)
  have hsp : okW j w (.constant t.1.cls idx (kc [b, k])) = true := hsp
  have e : kc [b, k, j, w] = kc [b, k] := by rcases b with _ | _ | b <;> rfl
  have hr : K 0 ls (.int (kc [b, k, j, w]) :: st) h = some (rv, h') := hr
  rw [e] at hr
  exact Gd.pure hPg (hK.nxt hn hr) (fun p l e R s m args below meth c H locs cells slots Q lsr hx hb hl hown hts k => lv_ldcw hx hb hown (hts _ (okW_in hsp)) hdg k)
theorem g_ldc2_w (idx : Nat) (hPg : Pg M = some t) (hok : okE t i (.ldc2_w idx, pc, inf) = true) (hK : KG M d i t K) (hrec : RG rec) (hr : stp K rec M d (.ldc2_w idx) inf ls st h = some (rv, h')) : Gd M d pc ls st h rv h' := by
  have hdg : decode t.2.1 pc = .ok (.ldc2_w idx, 3) := of_decide_eq_true (okE_dec hok)
  have hn : pcN t.code (i + 1) = pc + 3 := eq_of_beq (okE_nx hok)
  have hsp := okE_sp hok
  rcases inf with _ | ⟨n, _ | ⟨j, _ | ⟨w, _ | ⟨z, l⟩⟩⟩⟩ <;> try (cases hsp; done)
  have hsp : okW j w (.constantLong t.1.cls idx (lN n)) = true := hsp
  have hr : K 0 ls (.long (lN n) :: st) h = some (rv, h') := hr
  exact Gd.pure hPg (hK.nxt hn hr) (fun p l e R s m args below meth c H locs cells slots Q lsr hx hb hl hown hts k => lv_ldc2 hx hb hown (hts _ (okW_in hsp)) hdg k)
theorem g_getstatic (idx : Nat) (hPg : Pg M = some t) (hok : okE t i (.getstatic idx, pc, inf) = true) (hK : KG M d i t K) (hrec : RG rec) (hr : stp K rec M d (.getstatic idx) inf ls st h = some (rv, h')) : Gd M d pc ls st h rv h' := by
  have hdg : decode t.2.1 pc = .ok (.getstatic idx, 3) := of_decide_eq_true (okE_dec hok)
  have hn : pcN t.code (i + 1) = pc + 3 := eq_of_beq (okE_nx hok)
  have hsp := okE_sp hok
  rcases inf with _ | ⟨b, _ | ⟨k, _ | ⟨z, l⟩⟩⟩ <;> try (cases hsp; done)
  have hsp : (decide (t.1.cls = "java/lang/String") && ((decide (b = 98) && decide (k = 1002) && decide (idx = 1053)) || (decide (b = 1) && decide (k = 1) && decide (idx = 38)))) = true := hsp
  simp only [Bool.and_eq_true, Bool.or_eq_true, decide_eq_true_eq] at hsp
  obtain ⟨hcl, ⟨⟨hb1, hk⟩, hi⟩ | ⟨⟨hb1, hk⟩, hi⟩⟩ := hsp
  · subst hb1
    subst hk
    have hr : anyR (hR h 0 1002) (fun v => K 0 ls (v :: st) h) = some (rv, h') := hr
    have hr2 : K 0 ls (va_rf (hR h 0 1002) :: st) h = some (rv, h') := by
      cases hq : hR h 0 1002 with
      | none => rw [hq] at hr; exact hr
      | some x => rw [hq] at hr; exact hr
    refine Gd.read hPg (hK.nxt hn hr2) fun p l e R s m args below meth c base D dA H locs cells slots Q lsr h0 cx hl hH ho hb hS kk => ?_
    obtain ⟨hx, hcode, hr', hml, hown, hts, hKx, hlocks, hnm, hfr, hlo, hbs, hd⟩ := id cx
    rw [hcl] at hown
    rw [hi] at hdg
    have ho2 := ho.sb hb
    exact va_gets hx hcode ho2.2.2.2.2.2.2.2.2 hS hown (hts (.fieldLink "java/lang/String" 1053 "jdk/internal/util/Preconditions" "SIOOBE_FORMATTER" "Ljava/util/function/BiFunction;") (okW_in (j := 1) (i := 178) (by decide +kernel))) (fun _ h => h) hdg kk
  · subst hb1
    subst hk
    have hr : K 0 ls (.int (nI 1) :: st) h = some (rv, h') := hr
    refine Gd.read hPg (hK.nxt hn hr) fun p l e R s m args below meth c base D dA H locs cells slots Q lsr h0 cx hl hH ho hb hS kk => ?_
    obtain ⟨hx, hcode, hr', hml, hown, hts, hKx, hlocks, hnm, hfr, hlo, hbs, hd⟩ := id cx
    rw [hcl] at hown
    rw [hi] at hdg
    have ho2 := ho.sb hb
    exact va_gets hx hcode (v := .int 1) ho2.2.2.2.2.2.2.2.1 hS hown (hts (.fieldLink "java/lang/String" 38 "java/lang/String" "COMPACT_STRINGS" "Z") (okW_in (j := 1) (i := 162) (by decide +kernel))) (fun _ h => h) hdg kk
/-- the method's end -/
theorem Gd.fin {rt : Option Value} (hPg : Pg M = some t)
    (hs : ∀ (p : Program) (l : Launch) (e : Env) (R : Room) (s : State) (m : MethodId) (args : Array Value) (below : List Frame) (meth : Method) (c : Code) (base : Nat) (D : va_G) (dA : Nat → ClassId) (H : Heap) (locs : List Loc) (cells slots : Nat) (lsr : Array Slot) (h0 : MH), Cx t d p R s m args meth c base D dA →
      (∀ tt : State, tt.heap = H → s.WarmedH tt.vm → Qm base D dA h0 rt h args s (.returned rt) tt) → (∀ q ∈ locs, Ab base q.base) → W p l e R s m args below meth c H locs cells slots (MQ below (Qm base D dA h0 rt h) args s cells slots (Ab base)) (F0 m pc lsr st)) : Gd M d pc ls st h rt h := by
  refine ⟨Nat.le_refl _, Nat.le_refl _, fun t' hPg' => ?_⟩
  cases hPg.symm.trans hPg'
  intro p l e R s m args below meth c base D dA H locs cells slots mc ms lsr h0 cx hl hH ho hb hS h1 h2 h3 h4
  have e1 : cells = mc := by omega
  have e2 : slots = ms := by omega
  subst e1
  subst e2
  exact hs p l e R s m args below meth c base D dA H locs cells slots lsr h0 cx (fun tt ht hw => ⟨rfl, by rw [ht]; exact hH, hb, hS.F ht⟩) (fun q hq => hS.2.2 q hq)
theorem g_ireturn (hPg : Pg M = some t) (hok : okE t i (.ireturn, pc, inf) = true) (hr : stp K rec M d .ireturn inf ls st h = some (rv, h')) : Gd M d pc ls st h rv h' := by
  have hdg : decode t.2.1 pc = .ok (.ireturn, 1) := of_decide_eq_true (okE_dec hok)
  have hsp := okE_sp hok
  rcases inf with _ | ⟨k, _ | ⟨z, l⟩⟩ <;> try (cases hsp; done)
  obtain ⟨x, s1, rfl, hr1⟩ := pI_inv (k := fun x st => match st with
      | [] => narI k x (some (some (.int x), h))
      | _ => none) hr
  cases s1 with
  | cons a b => cases hr1
  | nil =>
    have key : ∀ ty : FieldType, t.2.2.2.1 = some ty → narrow ty (.int x) = .int x → Gd M d pc ls [.int x] h (some (.int x)) h := fun ty ht hnr =>
      Gd.fin hPg fun p l e R s m args below meth c base D dA H locs cells slots lsr h0 cx hq hf => by
        obtain ⟨hx, hcode, hr', hml, hown, hts, hKx, hlocks, hnm, hfr, hlo, hbs, hd⟩ := id cx
        exact W.zret hx hcode (by rw [hr', ht]) hnr hq hf hdg hlocks
    rcases k with _ | _ | _ | k
    · have hsp : t.2.2.2.1 = some .int := of_decide_eq_true hsp
      cases hr1
      exact key _ hsp rfl
    · have hsp : t.2.2.2.1 = some .boolean := of_decide_eq_true hsp
      have hr1 : isZ x (some (some (.int x), h)) = some (rv, h') := hr1
      obtain ⟨hz, hr2⟩ := isZ_inv hr1
      cases hr2
      exact key _ hsp (by show Value.int (x &&& 1) = _; rw [hz])
    · have hsp : t.2.2.2.1 = some .byte := of_decide_eq_true hsp
      have hr1 : (if x.toInt8.toInt32 = x then some (some (.int x), h) else none) = some (rv, h') := hr1
      split at hr1
      · rename_i hz
        cases hr1
        exact key _ hsp (by show Value.int x.toInt8.toInt32 = _; rw [hz])
      · cases hr1
    · have hsp : t.2.2.2.1 = some .char := of_decide_eq_true hsp
      have hr1 : (if x.toUInt32.toUInt16.toUInt32.toInt32 = x then some (some (.int x), h) else none) = some (rv, h') := hr1
      split at hr1
      · rename_i hz
        cases hr1
        exact key _ hsp (by show Value.int x.toUInt32.toUInt16.toUInt32.toInt32 = _; rw [hz])
      · cases hr1
theorem g_areturn (hPg : Pg M = some t) (hok : okE t i (.areturn, pc, inf) = true) (hr : stp K rec M d .areturn inf ls st h = some (rv, h')) : Gd M d pc ls st h rv h' := by
  have hdg : decode t.2.1 pc = .ok (.areturn, 1) := of_decide_eq_true (okE_dec hok)
  have hsp : (∃ ty ∈ t.2.2.2.1, kdTy ty = 2) := of_decide_eq_true (okE_sp hok)
  obtain ⟨ty, hty, hkd⟩ := hsp
  obtain ⟨x, s1, rfl, hr1⟩ := pR_inv (k := fun x st => match st with
      | [] => some (some (.ref x), h)
      | _ => none) hr
  cases s1 with
  | cons a b => cases hr1
  | nil =>
    cases hr1
    refine Gd.fin hPg fun p l e R s m args below meth c base D dA H locs cells slots lsr h0 cx hq hf => ?_
    obtain ⟨hx, hcode, hr', hml, hown, hts, hKx, hlocks, hnm, hfr, hlo, hbs, hd⟩ := id cx
    refine W.aret hx hcode (rt := ty) (by rw [hr']; exact hty) ?_ (Or.inr ⟨x, rfl⟩) hq hf hdg hlocks
    cases ty <;> first | exact Or.inl ⟨_, rfl⟩ | exact Or.inr ⟨_, rfl⟩ | cases hkd
theorem g_return (hPg : Pg M = some t) (hok : okE t i (.return_, pc, inf) = true) (hr : stp K rec M d .return_ inf ls st h = some (rv, h')) : Gd M d pc ls st h rv h' := by
  have hdg : decode t.2.1 pc = .ok (.return_, 1) := of_decide_eq_true (okE_dec hok)
  have hsp : t.2.2.2.1 = none := of_decide_eq_true (okE_sp hok)
  cases st with
  | cons a b =>
    have hr : (none : MRes) = some (rv, h') := hr
    cases hr
  | nil =>
    have hr : some (none, h) = some (rv, h') := hr
    cases hr
    refine Gd.fin hPg fun p l e R s m args below meth c base D dA H locs cells slots lsr h0 cx hq hf => ?_
    obtain ⟨hx, hcode, hr', hml, hown, hts, hKx, hlocks, hnm, hfr, hlo, hbs, hd⟩ := id cx
    exact W.vret hx hcode (by rw [hr', hsp]) hq hf hdg hlocks
theorem g_nop (hPg : Pg M = some t) (hok : okE t i (.nop, pc, inf) = true) (hrec : RG rec) (hr : stp K rec M d .nop inf ls st h = some (rv, h')) : Gd M d pc ls st h rv h' := by
  rcases inf with _ | ⟨tg, m⟩
  · cases hr
  · have hsp : pcN t.code tg = pc := of_decide_eq_true (okE_sp hok)
    have hr : rec M d tg (msk m ls) st h = some (rv, h') := hr
    have := hrec _ _ _ _ _ _ _ _ hr t hPg
    rw [hsp] at this
    exact Gd.msk m this
end
