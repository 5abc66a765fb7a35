/-! The instructions that touch no heap. -/
abbrev KG (M d i : Nat) (t : Mth) (K : Nat → MLoc → List Value → MH → MRes) : Prop := ∀ s ls st h rv h', K s ls st h = some (rv, h') → Gd M d (pcN t.code (i + 1 + s)) ls st h rv h'
abbrev RG (rec : MRec) : Prop := ∀ M d i ls st h rv h', rec M d i ls st h = some (rv, h') → Good M d i ls st h rv h'
theorem KG.nxt {M d i : Nat} {t : Mth} {K : Nat → MLoc → List Value → MH → MRes} (hK : KG M d i t K) {n : Nat} (hn : pcN t.code (i + 1) = n) {ls : MLoc} {st : List Value} {h : MH} {rv : Option Value} {h' : MH} (hr : K 0 ls st h = some (rv, h')) : Gd M d n ls st h rv h' := by
  rw [← hn]
  exact hK 0 _ _ _ _ _ hr
theorem okE_dec {t : Mth} {i : Nat} {e : Ent} (h : okE t i e = true) : okDec t.2.1 e = true := by
  simp only [okE, Bool.and_eq_true] at h
  exact h.1.1
theorem okE_nx {t : Mth} {i : Nat} {e : Ent} (h : okE t i e = true) : okNx t.code i e = true := by
  simp only [okE, Bool.and_eq_true] at h
  exact h.1.2
theorem okE_sp {t : Mth} {i : Nat} {e : Ent} (h : okE t i e = true) : okSp t i e = true := by
  simp only [okE, Bool.and_eq_true] at h
  exact h.2
section
variable {M d i pc : Nat} {t : Mth} {K : Nat → MLoc → List Value → MH → MRes} {rec : MRec} {inf : List Nat} {ls : MLoc} {st : List Value} {h : MH} {rv : Option Value} {h' : MH}
theorem g_iadd  (hPg : Pg M = some t) (hok : okE t i (.iadd, pc, inf) = true) (hK : KG M d i t K) (hrec : RG rec) (hr : stp K rec M d .iadd inf ls st h = some (rv, h')) : Gd M d pc ls st h rv h' := by
  have hdg : decode t.2.1 pc = .ok (.iadd, 1) := of_decide_eq_true (okE_dec hok)
  have hn : pcN t.code (i + 1) = pc + 1 := eq_of_beq (okE_nx hok)
  obtain ⟨y, s1, rfl, hr⟩ := pI_inv (k := fun y st => pI st fun x st => K 0 ls (.int (x + y) :: st) h) hr
  obtain ⟨x, s2, rfl, hr⟩ := pI_inv hr
  exact Gd.pure hPg (hK.nxt hn hr) (fun p l e R s m args below meth c H locs cells slots Q lsr hx hb hl hown hts k => lv_iadd hx hb hdg k)
theorem g_isub  (hPg : Pg M = some t) (hok : okE t i (.isub, pc, inf) = true) (hK : KG M d i t K) (hrec : RG rec) (hr : stp K rec M d .isub inf ls st h = some (rv, h')) : Gd M d pc ls st h rv h' := by
  have hdg : decode t.2.1 pc = .ok (.isub, 1) := of_decide_eq_true (okE_dec hok)
  have hn : pcN t.code (i + 1) = pc + 1 := eq_of_beq (okE_nx hok)
  obtain ⟨y, s1, rfl, hr⟩ := pI_inv (k := fun y st => pI st fun x st => K 0 ls (.int (x - y) :: st) h) hr
  obtain ⟨x, s2, rfl, hr⟩ := pI_inv hr
  exact Gd.pure hPg (hK.nxt hn hr) (fun p l e R s m args below meth c H locs cells slots Q lsr hx hb hl hown hts k => lv_isub hx hb hdg k)
theorem g_imul  (hPg : Pg M = some t) (hok : okE t i (.imul, pc, inf) = true) (hK : KG M d i t K) (hrec : RG rec) (hr : stp K rec M d .imul inf ls st h = some (rv, h')) : Gd M d pc ls st h rv h' := by
  have hdg : decode t.2.1 pc = .ok (.imul, 1) := of_decide_eq_true (okE_dec hok)
  have hn : pcN t.code (i + 1) = pc + 1 := eq_of_beq (okE_nx hok)
  obtain ⟨y, s1, rfl, hr⟩ := pI_inv (k := fun y st => pI st fun x st => K 0 ls (.int (x * y) :: st) h) hr
  obtain ⟨x, s2, rfl, hr⟩ := pI_inv hr
  exact Gd.pure hPg (hK.nxt hn hr) (fun p l e R s m args below meth c H locs cells slots Q lsr hx hb hl hown hts k => lv_imul hx hb hdg k)
theorem g_iand  (hPg : Pg M = some t) (hok : okE t i (.iand, pc, inf) = true) (hK : KG M d i t K) (hrec : RG rec) (hr : stp K rec M d .iand inf ls st h = some (rv, h')) : Gd M d pc ls st h rv h' := by
  have hdg : decode t.2.1 pc = .ok (.iand, 1) := of_decide_eq_true (okE_dec hok)
  have hn : pcN t.code (i + 1) = pc + 1 := eq_of_beq (okE_nx hok)
  obtain ⟨y, s1, rfl, hr⟩ := pI_inv (k := fun y st => pI st fun x st => K 0 ls (.int (x &&& y) :: st) h) hr
  obtain ⟨x, s2, rfl, hr⟩ := pI_inv hr
  exact Gd.pure hPg (hK.nxt hn hr) (fun p l e R s m args below meth c H locs cells slots Q lsr hx hb hl hown hts k => lv_iand hx hb hdg k)
theorem g_ior  (hPg : Pg M = some t) (hok : okE t i (.ior, pc, inf) = true) (hK : KG M d i t K) (hrec : RG rec) (hr : stp K rec M d .ior inf ls st h = some (rv, h')) : Gd M d pc ls st h rv h' := by
  have hdg : decode t.2.1 pc = .ok (.ior, 1) := of_decide_eq_true (okE_dec hok)
  have hn : pcN t.code (i + 1) = pc + 1 := eq_of_beq (okE_nx hok)
  obtain ⟨y, s1, rfl, hr⟩ := pI_inv (k := fun y st => pI st fun x st => K 0 ls (.int (x ||| y) :: st) h) hr
  obtain ⟨x, s2, rfl, hr⟩ := pI_inv hr
  exact Gd.pure hPg (hK.nxt hn hr) (fun p l e R s m args below meth c H locs cells slots Q lsr hx hb hl hown hts k => lv_ior hx hb hdg k)
theorem g_ixor  (hPg : Pg M = some t) (hok : okE t i (.ixor, pc, inf) = true) (hK : KG M d i t K) (hrec : RG rec) (hr : stp K rec M d .ixor inf ls st h = some (rv, h')) : Gd M d pc ls st h rv h' := by
  have hdg : decode t.2.1 pc = .ok (.ixor, 1) := of_decide_eq_true (okE_dec hok)
  have hn : pcN t.code (i + 1) = pc + 1 := eq_of_beq (okE_nx hok)
  obtain ⟨y, s1, rfl, hr⟩ := pI_inv (k := fun y st => pI st fun x st => K 0 ls (.int (x ^^^ y) :: st) h) hr
  obtain ⟨x, s2, rfl, hr⟩ := pI_inv hr
  exact Gd.pure hPg (hK.nxt hn hr) (fun p l e R s m args below meth c H locs cells slots Q lsr hx hb hl hown hts k => lv_ixor hx hb hdg k)
theorem g_ishl  (hPg : Pg M = some t) (hok : okE t i (.ishl, pc, inf) = true) (hK : KG M d i t K) (hrec : RG rec) (hr : stp K rec M d .ishl inf ls st h = some (rv, h')) : Gd M d pc ls st h rv h' := by
  have hdg : decode t.2.1 pc = .ok (.ishl, 1) := of_decide_eq_true (okE_dec hok)
  have hn : pcN t.code (i + 1) = pc + 1 := eq_of_beq (okE_nx hok)
  obtain ⟨y, s1, rfl, hr⟩ := pI_inv (k := fun y st => pI st fun x st => K 0 ls (.int (x <<< (y &&& 31)) :: st) h) hr
  obtain ⟨x, s2, rfl, hr⟩ := pI_inv hr
  exact Gd.pure hPg (hK.nxt hn hr) (fun p l e R s m args below meth c H locs cells slots Q lsr hx hb hl hown hts k => lv_ishl hx hb hdg k)
theorem g_ishr  (hPg : Pg M = some t) (hok : okE t i (.ishr, pc, inf) = true) (hK : KG M d i t K) (hrec : RG rec) (hr : stp K rec M d .ishr inf ls st h = some (rv, h')) : Gd M d pc ls st h rv h' := by
  have hdg : decode t.2.1 pc = .ok (.ishr, 1) := of_decide_eq_true (okE_dec hok)
  have hn : pcN t.code (i + 1) = pc + 1 := eq_of_beq (okE_nx hok)
  obtain ⟨y, s1, rfl, hr⟩ := pI_inv (k := fun y st => pI st fun x st => K 0 ls (.int (x >>> (y &&& 31)) :: st) h) hr
  obtain ⟨x, s2, rfl, hr⟩ := pI_inv hr
  exact Gd.pure hPg (hK.nxt hn hr) (fun p l e R s m args below meth c H locs cells slots Q lsr hx hb hl hown hts k => lv_ishr hx hb hdg k)
theorem g_iushr  (hPg : Pg M = some t) (hok : okE t i (.iushr, pc, inf) = true) (hK : KG M d i t K) (hrec : RG rec) (hr : stp K rec M d .iushr inf ls st h = some (rv, h')) : Gd M d pc ls st h rv h' := by
  have hdg : decode t.2.1 pc = .ok (.iushr, 1) := of_decide_eq_true (okE_dec hok)
  have hn : pcN t.code (i + 1) = pc + 1 := eq_of_beq (okE_nx hok)
  obtain ⟨y, s1, rfl, hr⟩ := pI_inv (k := fun y st => pI st fun x st => K 0 ls (.int (x.toUInt32 >>> (y.toUInt32 &&& Int32.toUInt32 31)).toInt32 :: st) h) hr
  obtain ⟨x, s2, rfl, hr⟩ := pI_inv hr
  exact Gd.pure hPg (hK.nxt hn hr) (fun p l e R s m args below meth c H locs cells slots Q lsr hx hb hl hown hts k => lv_iushr hx hb hdg rfl k)
theorem g_idiv  (hPg : Pg M = some t) (hok : okE t i (.idiv, pc, inf) = true) (hK : KG M d i t K) (hrec : RG rec) (hr : stp K rec M d .idiv inf ls st h = some (rv, h')) : Gd M d pc ls st h rv h' := by
  have hdg : decode t.2.1 pc = .ok (.idiv, 1) := of_decide_eq_true (okE_dec hok)
  have hn : pcN t.code (i + 1) = pc + 1 := eq_of_beq (okE_nx hok)
  obtain ⟨y, s1, rfl, hr⟩ := pI_inv (k := fun y st => pI st fun x st => nz y (K 0 ls (.int (x / y) :: st) h)) hr
  obtain ⟨x, s2, rfl, hr⟩ := pI_inv hr
  obtain ⟨hz, hr⟩ := nz_inv hr
  exact Gd.pure hPg (hK.nxt hn hr) (fun p l e R s m args below meth c H locs cells slots Q lsr hx hb hl hown hts k => lv_idiv hx hb hdg hz k)
theorem g_irem  (hPg : Pg M = some t) (hok : okE t i (.irem, pc, inf) = true) (hK : KG M d i t K) (hrec : RG rec) (hr : stp K rec M d .irem inf ls st h = some (rv, h')) : Gd M d pc ls st h rv h' := by
  have hdg : decode t.2.1 pc = .ok (.irem, 1) := of_decide_eq_true (okE_dec hok)
  have hn : pcN t.code (i + 1) = pc + 1 := eq_of_beq (okE_nx hok)
  obtain ⟨y, s1, rfl, hr⟩ := pI_inv (k := fun y st => pI st fun x st => nz y (K 0 ls (.int (x - x / y * y) :: st) h)) hr
  obtain ⟨x, s2, rfl, hr⟩ := pI_inv hr
  obtain ⟨hz, hr⟩ := nz_inv hr
  exact Gd.pure hPg (hK.nxt hn hr) (fun p l e R s m args below meth c H locs cells slots Q lsr hx hb hl hown hts k => lv_irem hx hb hdg hz k)
theorem g_i2b  (hPg : Pg M = some t) (hok : okE t i (.i2b, pc, inf) = true) (hK : KG M d i t K) (hrec : RG rec) (hr : stp K rec M d .i2b inf ls st h = some (rv, h')) : Gd M d pc ls st h rv h' := by
  have hdg : decode t.2.1 pc = .ok (.i2b, 1) := of_decide_eq_true (okE_dec hok)
  have hn : pcN t.code (i + 1) = pc + 1 := eq_of_beq (okE_nx hok)
  obtain ⟨x, s1, rfl, hr⟩ := pI_inv (k := fun x st => K 0 ls (.int x.toInt8.toInt32 :: st) h) hr
  exact Gd.pure hPg (hK.nxt hn hr) (fun p l e R s m args below meth c H locs cells slots Q lsr hx hb hl hown hts k => lv_i2b hx hb hdg rfl k)
theorem g_i2c  (hPg : Pg M = some t) (hok : okE t i (.i2c, pc, inf) = true) (hK : KG M d i t K) (hrec : RG rec) (hr : stp K rec M d .i2c inf ls st h = some (rv, h')) : Gd M d pc ls st h rv h' := by
  have hdg : decode t.2.1 pc = .ok (.i2c, 1) := of_decide_eq_true (okE_dec hok)
  have hn : pcN t.code (i + 1) = pc + 1 := eq_of_beq (okE_nx hok)
  obtain ⟨x, s1, rfl, hr⟩ := pI_inv (k := fun x st => K 0 ls (.int (x.toUInt32 % 65536).toInt32 :: st) h) hr
  exact Gd.pure hPg (hK.nxt hn hr) (fun p l e R s m args below meth c H locs cells slots Q lsr hx hb hl hown hts k => lv_i2c hx hb hdg rfl k)
theorem g_i2l  (hPg : Pg M = some t) (hok : okE t i (.i2l, pc, inf) = true) (hK : KG M d i t K) (hrec : RG rec) (hr : stp K rec M d .i2l inf ls st h = some (rv, h')) : Gd M d pc ls st h rv h' := by
  have hdg : decode t.2.1 pc = .ok (.i2l, 1) := of_decide_eq_true (okE_dec hok)
  have hn : pcN t.code (i + 1) = pc + 1 := eq_of_beq (okE_nx hok)
  obtain ⟨x, s1, rfl, hr⟩ := pI_inv (k := fun x st => K 0 ls (.long x.toInt64 :: st) h) hr
  exact Gd.pure hPg (hK.nxt hn hr) (fun p l e R s m args below meth c H locs cells slots Q lsr hx hb hl hown hts k => lv_i2l hx hb hdg rfl k)
theorem g_lshl  (hPg : Pg M = some t) (hok : okE t i (.lshl, pc, inf) = true) (hK : KG M d i t K) (hrec : RG rec) (hr : stp K rec M d .lshl inf ls st h = some (rv, h')) : Gd M d pc ls st h rv h' := by
  have hdg : decode t.2.1 pc = .ok (.lshl, 1) := of_decide_eq_true (okE_dec hok)
  have hn : pcN t.code (i + 1) = pc + 1 := eq_of_beq (okE_nx hok)
  obtain ⟨y, s1, rfl, hr⟩ := pI_inv (k := fun y st => pL st fun x st => K 0 ls (.long (x <<< (y.toInt64 &&& 63)) :: st) h) hr
  obtain ⟨x, s2, rfl, hr⟩ := pL_inv hr
  exact Gd.pure hPg (hK.nxt hn hr) (fun p l e R s m args below meth c H locs cells slots Q lsr hx hb hl hown hts k => lv_lshl hx hb hdg rfl k)
theorem g_lor  (hPg : Pg M = some t) (hok : okE t i (.lor, pc, inf) = true) (hK : KG M d i t K) (hrec : RG rec) (hr : stp K rec M d .lor inf ls st h = some (rv, h')) : Gd M d pc ls st h rv h' := by
  have hdg : decode t.2.1 pc = .ok (.lor, 1) := of_decide_eq_true (okE_dec hok)
  have hn : pcN t.code (i + 1) = pc + 1 := eq_of_beq (okE_nx hok)
  obtain ⟨y, s1, rfl, hr⟩ := pL_inv (k := fun y st => pL st fun x st => K 0 ls (.long (x ||| y) :: st) h) hr
  obtain ⟨x, s2, rfl, hr⟩ := pL_inv hr
  exact Gd.pure hPg (hK.nxt hn hr) (fun p l e R s m args below meth c H locs cells slots Q lsr hx hb hl hown hts k => lv_lor hx hb hdg k)
theorem g_lcmp  (hPg : Pg M = some t) (hok : okE t i (.lcmp, pc, inf) = true) (hK : KG M d i t K) (hrec : RG rec) (hr : stp K rec M d .lcmp inf ls st h = some (rv, h')) : Gd M d pc ls st h rv h' := by
  have hdg : decode t.2.1 pc = .ok (.lcmp, 1) := of_decide_eq_true (okE_dec hok)
  have hn : pcN t.code (i + 1) = pc + 1 := eq_of_beq (okE_nx hok)
  obtain ⟨y, s1, rfl, hr⟩ := pL_inv (k := fun y st => pL st fun x st => K 0 ls (.int (lg_cmp x y) :: st) h) hr
  obtain ⟨x, s2, rfl, hr⟩ := pL_inv hr
  exact Gd.pure hPg (hK.nxt hn hr) (fun p l e R s m args below meth c H locs cells slots Q lsr hx hb hl hown hts k => W.lcmp hx hb hdg k)
theorem g_iconst (n : Int) (hPg : Pg M = some t) (hok : okE t i ((.iconst n), pc, inf) = true) (hK : KG M d i t K) (hrec : RG rec) (hr : stp K rec M d (.iconst n) inf ls st h = some (rv, h')) : Gd M d pc ls st h rv h' := by
  have hdg : decode t.2.1 pc = .ok ((.iconst n), 1) := of_decide_eq_true (okE_dec hok)
  have hn : pcN t.code (i + 1) = pc + 1 := eq_of_beq (okE_nx hok)
  have hv : Int32.ofInt n = kc inf := of_decide_eq_true (okE_sp hok)
  exact Gd.pure hPg (hK.nxt (st := .int (kc inf) :: st) hn hr) (fun p l e R s m args below meth c H locs cells slots Q lsr hx hb hl hown hts k => lv_iconst hx hb hdg hv k)
theorem g_bipush (n : Int) (hPg : Pg M = some t) (hok : okE t i ((.bipush n), pc, inf) = true) (hK : KG M d i t K) (hrec : RG rec) (hr : stp K rec M d (.bipush n) inf ls st h = some (rv, h')) : Gd M d pc ls st h rv h' := by
  have hdg : decode t.2.1 pc = .ok ((.bipush n), 2) := of_decide_eq_true (okE_dec hok)
  have hn : pcN t.code (i + 1) = pc + 2 := eq_of_beq (okE_nx hok)
  have hv : (Int8.ofInt n).toInt32 = kc inf := of_decide_eq_true (okE_sp hok)
  exact Gd.pure hPg (hK.nxt (st := .int (kc inf) :: st) hn hr) (fun p l e R s m args below meth c H locs cells slots Q lsr hx hb hl hown hts k => lv_bipush hx hb hdg hv k)
theorem g_sipush (n : Int) (hPg : Pg M = some t) (hok : okE t i ((.sipush n), pc, inf) = true) (hK : KG M d i t K) (hrec : RG rec) (hr : stp K rec M d (.sipush n) inf ls st h = some (rv, h')) : Gd M d pc ls st h rv h' := by
  have hdg : decode t.2.1 pc = .ok ((.sipush n), 3) := of_decide_eq_true (okE_dec hok)
  have hn : pcN t.code (i + 1) = pc + 3 := eq_of_beq (okE_nx hok)
  have hv : (Int16.ofInt n).toInt32 = kc inf := of_decide_eq_true (okE_sp hok)
  exact Gd.pure hPg (hK.nxt (st := .int (kc inf) :: st) hn hr) (fun p l e R s m args below meth c H locs cells slots Q lsr hx hb hl hown hts k => lv_sipush hx hb hdg hv k)
theorem g_lconst (n : Fin 2) (hPg : Pg M = some t) (hok : okE t i ((.lconst n), pc, inf) = true) (hK : KG M d i t K) (hrec : RG rec) (hr : stp K rec M d (.lconst n) inf ls st h = some (rv, h')) : Gd M d pc ls st h rv h' := by
  have hdg : decode t.2.1 pc = .ok ((.lconst n), 1) := of_decide_eq_true (okE_dec hok)
  have hn : pcN t.code (i + 1) = pc + 1 := eq_of_beq (okE_nx hok)
  exact Gd.pure hPg (hK.nxt (st := .long (lN n) :: st) hn hr) (fun p l e R s m args below meth c H locs cells slots Q lsr hx hb hl hown hts k => lv_lconst hx hb hdg rfl k)
theorem g_iload_n (n : Fin 4) (hPg : Pg M = some t) (hok : okE t i ((.iload_n n), pc, inf) = true) (hK : KG M d i t K) (hrec : RG rec) (hr : stp K rec M d (.iload_n n) inf ls st h = some (rv, h')) : Gd M d pc ls st h rv h' := by
  have hdg : decode t.2.1 pc = .ok ((.iload_n n), 1) := of_decide_eq_true (okE_dec hok)
  have hn : pcN t.code (i + 1) = pc + 1 := eq_of_beq (okE_nx hok)
  obtain ⟨x, hx1, hr⟩ := lI_inv (k := fun x => K 0 ls (.int x :: st) h) hr
  exact Gd.pure hPg (hK.nxt hn hr) (fun p l e R s m args below meth c H locs cells slots Q lsr hx hb hl hown hts k => lv_iload_n hx hb hdg rfl (hl.2.2 _ _ hx1) k)
theorem g_iload (n : Nat) (hPg : Pg M = some t) (hok : okE t i ((.iload n), pc, inf) = true) (hK : KG M d i t K) (hrec : RG rec) (hr : stp K rec M d (.iload n) inf ls st h = some (rv, h')) : Gd M d pc ls st h rv h' := by
  have hdg : decode t.2.1 pc = .ok ((.iload n), 2) := of_decide_eq_true (okE_dec hok)
  have hn : pcN t.code (i + 1) = pc + 2 := eq_of_beq (okE_nx hok)
  obtain ⟨x, hx1, hr⟩ := lI_inv (k := fun x => K 0 ls (.int x :: st) h) hr
  exact Gd.pure hPg (hK.nxt hn hr) (fun p l e R s m args below meth c H locs cells slots Q lsr hx hb hl hown hts k => lv_iload hx hb hdg (hl.2.2 _ _ hx1) k)
theorem g_lload_n (n : Fin 4) (hPg : Pg M = some t) (hok : okE t i ((.lload_n n), pc, inf) = true) (hK : KG M d i t K) (hrec : RG rec) (hr : stp K rec M d (.lload_n n) inf ls st h = some (rv, h')) : Gd M d pc ls st h rv h' := by
  have hdg : decode t.2.1 pc = .ok ((.lload_n n), 1) := of_decide_eq_true (okE_dec hok)
  have hn : pcN t.code (i + 1) = pc + 1 := eq_of_beq (okE_nx hok)
  obtain ⟨x, hx1, hr⟩ := lL_inv (k := fun x => K 0 ls (.long x :: st) h) hr
  exact Gd.pure hPg (hK.nxt hn hr) (fun p l e R s m args below meth c H locs cells slots Q lsr hx hb hl hown hts k => lv_lload_n hx hb hdg rfl (hl.2.2 _ _ hx1) k)
theorem g_lload (n : Nat) (hPg : Pg M = some t) (hok : okE t i ((.lload n), pc, inf) = true) (hK : KG M d i t K) (hrec : RG rec) (hr : stp K rec M d (.lload n) inf ls st h = some (rv, h')) : Gd M d pc ls st h rv h' := by
  have hdg : decode t.2.1 pc = .ok ((.lload n), 2) := of_decide_eq_true (okE_dec hok)
  have hn : pcN t.code (i + 1) = pc + 2 := eq_of_beq (okE_nx hok)
  obtain ⟨x, hx1, hr⟩ := lL_inv (k := fun x => K 0 ls (.long x :: st) h) hr
  exact Gd.pure hPg (hK.nxt hn hr) (fun p l e R s m args below meth c H locs cells slots Q lsr hx hb hl hown hts k => lv_lload hx hb hdg (hl.2.2 _ _ hx1) k)
theorem g_aload_n (n : Fin 4) (hPg : Pg M = some t) (hok : okE t i ((.aload_n n), pc, inf) = true) (hK : KG M d i t K) (hrec : RG rec) (hr : stp K rec M d (.aload_n n) inf ls st h = some (rv, h')) : Gd M d pc ls st h rv h' := by
  have hdg : decode t.2.1 pc = .ok ((.aload_n n), 1) := of_decide_eq_true (okE_dec hok)
  have hn : pcN t.code (i + 1) = pc + 1 := eq_of_beq (okE_nx hok)
  obtain ⟨x, hx1, hr⟩ := lR_inv (k := fun x => K 0 ls (.ref x :: st) h) hr
  exact Gd.pure hPg (hK.nxt hn hr) (fun p l e R s m args below meth c H locs cells slots Q lsr hx hb hl hown hts k => lv_aload_n hx hb hdg rfl (hl.2.2 _ _ hx1) k)
theorem g_aload (n : Nat) (hPg : Pg M = some t) (hok : okE t i ((.aload n), pc, inf) = true) (hK : KG M d i t K) (hrec : RG rec) (hr : stp K rec M d (.aload n) inf ls st h = some (rv, h')) : Gd M d pc ls st h rv h' := by
  have hdg : decode t.2.1 pc = .ok ((.aload n), 2) := of_decide_eq_true (okE_dec hok)
  have hn : pcN t.code (i + 1) = pc + 2 := eq_of_beq (okE_nx hok)
  obtain ⟨x, hx1, hr⟩ := lR_inv (k := fun x => K 0 ls (.ref x :: st) h) hr
  exact Gd.pure hPg (hK.nxt hn hr) (fun p l e R s m args below meth c H locs cells slots Q lsr hx hb hl hown hts k => lv_aload hx hb hdg (hl.2.2 _ _ hx1) k)
theorem g_istore_n (n : Fin 4) (hPg : Pg M = some t) (hok : okE t i ((.istore_n n), pc, inf) = true) (hK : KG M d i t K) (hrec : RG rec) (hr : stp K rec M d (.istore_n n) inf ls st h = some (rv, h')) : Gd M d pc ls st h rv h' := by
  have hdg : decode t.2.1 pc = .ok ((.istore_n n), 1) := of_decide_eq_true (okE_dec hok)
  have hn : pcN t.code (i + 1) = pc + 1 := eq_of_beq (okE_nx hok)
  have hb2 : (n : Nat) < t.2.2.1 := of_decide_eq_true (okE_sp hok)
  obtain ⟨x, s1, rfl, hr⟩ := pI_inv (k := fun x st => K 0 (st1 ls n (.int x)) st h) hr
  exact Gd.locs hPg (hK.nxt hn hr) (fun p l e R s m args below meth c H locs cells slots Q lsr hx hb hl k => lv_istore_n hx hb hdg rfl hl.has hb2 rfl (fun lsr' hl' => k lsr' (LR.st1 hl')))
theorem g_istore (n : Nat) (hPg : Pg M = some t) (hok : okE t i ((.istore n), pc, inf) = true) (hK : KG M d i t K) (hrec : RG rec) (hr : stp K rec M d (.istore n) inf ls st h = some (rv, h')) : Gd M d pc ls st h rv h' := by
  have hdg : decode t.2.1 pc = .ok ((.istore n), 2) := of_decide_eq_true (okE_dec hok)
  have hn : pcN t.code (i + 1) = pc + 2 := eq_of_beq (okE_nx hok)
  have hb2 : (n : Nat) < t.2.2.1 := of_decide_eq_true (okE_sp hok)
  obtain ⟨x, s1, rfl, hr⟩ := pI_inv (k := fun x st => K 0 (st1 ls n (.int x)) st h) hr
  exact Gd.locs hPg (hK.nxt hn hr) (fun p l e R s m args below meth c H locs cells slots Q lsr hx hb hl k => lv_istore hx hb hdg hl.has hb2 rfl (fun lsr' hl' => k lsr' (LR.st1 hl')))
theorem g_astore_n (n : Fin 4) (hPg : Pg M = some t) (hok : okE t i ((.astore_n n), pc, inf) = true) (hK : KG M d i t K) (hrec : RG rec) (hr : stp K rec M d (.astore_n n) inf ls st h = some (rv, h')) : Gd M d pc ls st h rv h' := by
  have hdg : decode t.2.1 pc = .ok ((.astore_n n), 1) := of_decide_eq_true (okE_dec hok)
  have hn : pcN t.code (i + 1) = pc + 1 := eq_of_beq (okE_nx hok)
  have hb2 : (n : Nat) < t.2.2.1 := of_decide_eq_true (okE_sp hok)
  obtain ⟨x, s1, rfl, hr⟩ := pR_inv (k := fun x st => K 0 (st1 ls n (.ref x)) st h) hr
  exact Gd.locs hPg (hK.nxt hn hr) (fun p l e R s m args below meth c H locs cells slots Q lsr hx hb hl k => lv_astore_n hx hb hdg rfl hl.has hb2 rfl (fun lsr' hl' => k lsr' (LR.st1 hl')))
theorem g_astore (n : Nat) (hPg : Pg M = some t) (hok : okE t i ((.astore n), pc, inf) = true) (hK : KG M d i t K) (hrec : RG rec) (hr : stp K rec M d (.astore n) inf ls st h = some (rv, h')) : Gd M d pc ls st h rv h' := by
  have hdg : decode t.2.1 pc = .ok ((.astore n), 2) := of_decide_eq_true (okE_dec hok)
  have hn : pcN t.code (i + 1) = pc + 2 := eq_of_beq (okE_nx hok)
  have hb2 : (n : Nat) < t.2.2.1 := of_decide_eq_true (okE_sp hok)
  obtain ⟨x, s1, rfl, hr⟩ := pR_inv (k := fun x st => K 0 (st1 ls n (.ref x)) st h) hr
  exact Gd.locs hPg (hK.nxt hn hr) (fun p l e R s m args below meth c H locs cells slots Q lsr hx hb hl k => lv_astore hx hb hdg hl.has hb2 rfl (fun lsr' hl' => k lsr' (LR.st1 hl')))
theorem g_lstore_n (n : Fin 4) (hPg : Pg M = some t) (hok : okE t i ((.lstore_n n), pc, inf) = true) (hK : KG M d i t K) (hrec : RG rec) (hr : stp K rec M d (.lstore_n n) inf ls st h = some (rv, h')) : Gd M d pc ls st h rv h' := by
  have hdg : decode t.2.1 pc = .ok ((.lstore_n n), 1) := of_decide_eq_true (okE_dec hok)
  have hn : pcN t.code (i + 1) = pc + 1 := eq_of_beq (okE_nx hok)
  have hb2 : (n : Nat) + 1 < t.2.2.1 := of_decide_eq_true (okE_sp hok)
  obtain ⟨x, s1, rfl, hr⟩ := pL_inv (k := fun x st => K 0 (st2 ls n (.long x)) st h) hr
  exact Gd.locs hPg (hK.nxt hn hr) (fun p l e R s m args below meth c H locs cells slots Q lsr hx hb hl k => lv_lstore_n hx hb hdg rfl hl.has hb2 rfl (fun lsr' hl' => k lsr' (LR.st2 hl')))
theorem g_lstore (n : Nat) (hPg : Pg M = some t) (hok : okE t i ((.lstore n), pc, inf) = true) (hK : KG M d i t K) (hrec : RG rec) (hr : stp K rec M d (.lstore n) inf ls st h = some (rv, h')) : Gd M d pc ls st h rv h' := by
  have hdg : decode t.2.1 pc = .ok ((.lstore n), 2) := of_decide_eq_true (okE_dec hok)
  have hn : pcN t.code (i + 1) = pc + 2 := eq_of_beq (okE_nx hok)
  have hb2 : (n : Nat) + 1 < t.2.2.1 := of_decide_eq_true (okE_sp hok)
  obtain ⟨x, s1, rfl, hr⟩ := pL_inv (k := fun x st => K 0 (st2 ls n (.long x)) st h) hr
  exact Gd.locs hPg (hK.nxt hn hr) (fun p l e R s m args below meth c H locs cells slots Q lsr hx hb hl k => lv_lstore hx hb hdg hl.has hb2 rfl (fun lsr' hl' => k lsr' (LR.st2 hl')))
theorem g_iinc (n : Nat) (z : Int) (hPg : Pg M = some t) (hok : okE t i ((.iinc n z), pc, inf) = true) (hK : KG M d i t K) (hrec : RG rec) (hr : stp K rec M d (.iinc n z) inf ls st h = some (rv, h')) : Gd M d pc ls st h rv h' := by
  have hdg : decode t.2.1 pc = .ok ((.iinc n z), 3) := of_decide_eq_true (okE_dec hok)
  have hn : pcN t.code (i + 1) = pc + 3 := eq_of_beq (okE_nx hok)
  have hsp : (decide (n < t.2.2.1) && decide (Int32.ofInt z = kc inf)) = true := okE_sp hok
  simp only [Bool.and_eq_true, decide_eq_true_eq] at hsp
  obtain ⟨x, hx1, hr⟩ := lI_inv (k := fun x => K 0 (st1 ls n (.int (x + kc inf))) st h) hr
  have hm := lvl_of ls 0 n _ hx1
  rw [Nat.zero_add] at hm
  obtain ⟨kk, hkk⟩ := List.getElem?_of_mem hm
  exact Gd.locs hPg (hK.nxt hn hr) (fun p l e R s m args below meth c H locs cells slots Q lsr hx hb hl k => lv_iinc hx hb hdg hl.has (k := kk) hkk (v := x + kc inf) (by rw [hsp.2]) hsp.1 rfl (fun lsr' hl' => k lsr' (LR.st1 hl')))
theorem g_dup  (hPg : Pg M = some t) (hok : okE t i (.dup, pc, inf) = true) (hK : KG M d i t K) (hrec : RG rec) (hr : stp K rec M d .dup inf ls st h = some (rv, h')) : Gd M d pc ls st h rv h' := by
  have hdg : decode t.2.1 pc = .ok (.dup, 1) := of_decide_eq_true (okE_dec hok)
  have hn : pcN t.code (i + 1) = pc + 1 := eq_of_beq (okE_nx hok)
  have hr : dupF st (fun st => K 0 ls st h) = some (rv, h') := hr
  unfold dupF at hr
  split at hr
  · exact Gd.pure hPg (hK.nxt hn hr) (fun p l e R s m args below meth c H locs cells slots Q lsr hx hb hl hown hts k => lv_dup hx hb hdg rfl k)
  · exact Gd.pure hPg (hK.nxt hn hr) (fun p l e R s m args below meth c H locs cells slots Q lsr hx hb hl hown hts k => lv_dup hx hb hdg rfl k)
  · cases hr
theorem g_pop  (hPg : Pg M = some t) (hok : okE t i (.pop, pc, inf) = true) (hK : KG M d i t K) (hrec : RG rec) (hr : stp K rec M d .pop inf ls st h = some (rv, h')) : Gd M d pc ls st h rv h' := by
  have hdg : decode t.2.1 pc = .ok (.pop, 1) := of_decide_eq_true (okE_dec hok)
  have hn : pcN t.code (i + 1) = pc + 1 := eq_of_beq (okE_nx hok)
  have hr : popF st (fun st => K 0 ls st h) = some (rv, h') := hr
  unfold popF at hr
  split at hr
  · exact Gd.pure hPg (hK.nxt hn hr) (fun p l e R s m args below meth c H locs cells slots Q lsr hx hb hl hown hts k => lv_pop hx hb hdg rfl k)
  · exact Gd.pure hPg (hK.nxt hn hr) (fun p l e R s m args below meth c H locs cells slots Q lsr hx hb hl hown hts k => lv_pop hx hb hdg rfl k)
  · cases hr
theorem g_dup2  (hPg : Pg M = some t) (hok : okE t i (.dup2, pc, inf) = true) (hK : KG M d i t K) (hrec : RG rec) (hr : stp K rec M d .dup2 inf ls st h = some (rv, h')) : Gd M d pc ls st h rv h' := by
  have hdg : decode t.2.1 pc = .ok (.dup2, 1) := of_decide_eq_true (okE_dec hok)
  have hn : pcN t.code (i + 1) = pc + 1 := eq_of_beq (okE_nx hok)
  have hr : dup2F st (fun st => K 0 ls st h) = some (rv, h') := hr
  unfold dup2F at hr
  split at hr
  · exact Gd.pure hPg (hK.nxt hn hr) (fun p l e R s m args below meth c H locs cells slots Q lsr hx hb hl hown hts k => lv_dup2_11 hx hb hdg rfl rfl k)
  · cases hr
theorem g_goto (o : Int) (hPg : Pg M = some t) (hok : okE t i ((.goto o), pc, inf) = true) (hK : KG M d i t K) (hrec : RG rec) (hr : stp K rec M d (.goto o) inf ls st h = some (rv, h')) : Gd M d pc ls st h rv h' := by
  have hdg : decode t.2.1 pc = .ok ((.goto o), 3) := of_decide_eq_true (okE_dec hok)
  obtain ⟨tg, ht, g⟩ := jmp_good hPg hK hrec (okE_sp hok) hr
  exact Gd.pure hPg g (fun p l e R s m args below meth c H locs cells slots Q lsr hx hb hl hown hts k => lv_goto hx hb hdg ht k)
theorem g_ifnull (o : Int) (hPg : Pg M = some t) (hok : okE t i ((.ifnull o), pc, inf) = true) (hK : KG M d i t K) (hrec : RG rec) (hr : stp K rec M d (.ifnull o) inf ls st h = some (rv, h')) : Gd M d pc ls st h rv h' := by
  have hdg : decode t.2.1 pc = .ok ((.ifnull o), 3) := of_decide_eq_true (okE_dec hok)
  have hn : pcN t.code (i + 1) = pc + 3 := eq_of_beq (okE_nx hok)
  obtain ⟨x, s1, rfl, hr⟩ := pR_inv (k := fun _ st => K 0 ls st h) hr
  exact Gd.pure hPg (hK.nxt hn hr) (fun p l e R s m args below meth c H locs cells slots Q lsr hx hb hl hown hts k => lv_ifnull hx hb hdg k)
theorem g_ifnonnull (o : Int) (hPg : Pg M = some t) (hok : okE t i ((.ifnonnull o), pc, inf) = true) (hK : KG M d i t K) (hrec : RG rec) (hr : stp K rec M d (.ifnonnull o) inf ls st h = some (rv, h')) : Gd M d pc ls st h rv h' := by
  have hdg : decode t.2.1 pc = .ok ((.ifnonnull o), 3) := of_decide_eq_true (okE_dec hok)
  have hn : pcN t.code (i + 1) = pc + 3 := eq_of_beq (okE_nx hok)
  obtain ⟨x, s1, rfl, hr⟩ := pR_inv (k := fun _ st => jmp K rec M d inf ls st h) hr
  obtain ⟨tg, ht, g⟩ := jmp_good hPg hK hrec (okE_sp hok) hr
  exact Gd.pure hPg g (fun p l e R s m args below meth c H locs cells slots Q lsr hx hb hl hown hts k => lv_ifnonnull hx hb hdg ht k)
theorem okJ_tgt {c : List Ent} {o : Int} {inf : List Nat} (h : okJ c i pc o inf = true) : ∃ tg : Nat, (pc : Int) + o = (tg : Int) := by
  unfold okJ at h
  split at h
  · exact ⟨_, of_decide_eq_true h⟩
  · exact ⟨_, of_decide_eq_true h⟩
  · cases h
end
