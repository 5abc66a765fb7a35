/-! What the small machine and the JVM hold alike, and what it is for a stretch of the one to be a stretch of the other. -/
def gtb : List Cond := lw_tbl.filter goodWord
theorem okW_in {j i : Nat} {w : Cond} (h : okW j i w = true) : w ∈ gtb := by
  simp only [okW, Bool.and_eq_true, decide_eq_true_eq] at h
  exact List.mem_filter.mpr ⟨wd_mem h.1, h.2⟩
theorem okN_in {j i : Nat} {w : Cond} (h : okN' j i w = true) : w ∈ lw_tbl := wd_mem (by simpa only [okN', decide_eq_true_eq] using h)
def val (h : MH) (a t k : Nat) : Value := match kdTy (tyOf t k) with
  | 0 => .int (hI h a k)
  | 1 => .long (hL h a k)
  | _ => va_rf (hR h a k)
def mcell (D : va_G) (dA : Nat → ClassId) (h : MH) (a : Nat) (H : Heap) : Prop :=
  (1 ≤ hC h a ∧ ∃ q : vw_C, vwCl[hC h a - 1]? = some q ∧ t_OB a (D.1 (hC h a - 1)) q.2.2 (D.2 (hC h a - 1)) H (val h a (hC h a))) ∨
  (20 ≤ hC h a ∧ hC h a ≤ 26 ∧ H[a]? = some (arrV (dA (hC h a)) (hN h a) (val h a (hC h a))))
def HRn (base : Nat) (D : va_G) (dA : Nat → ClassId) (h : MH) (H : Heap) : Prop := hT h = H.size ∧ ∀ a, base ≤ a → hC h a ≠ 0 → mcell D dA h a H
def Sb (base : Nat) (h0 h : MH) : Prop := ∀ a, a < base → hC h a = hC h0 a ∧ hN h a = hN h0 a ∧ hI h a = hI h0 a ∧ hL h a = hL h0 a ∧ hR h a = hR h0 a
theorem Sb.rf (base : Nat) (h : MH) : Sb base h h := fun _ _ => ⟨rfl, rfl, rfl, rfl, rfl⟩
theorem Sb.tr {base : Nat} {h0 h1 h2 : MH} (a : Sb base h0 h1) (b : Sb base h1 h2) : Sb base h0 h2 := fun q hq => by
  obtain ⟨a1, a2, a3, a4, a5⟩ := a q hq
  obtain ⟨b1, b2, b3, b4, b5⟩ := b q hq
  exact ⟨b1.trans a1, b2.trans a2, b3.trans a3, b4.trans a4, b5.trans a5⟩
abbrev Ab (base : Nat) : Nat → Prop := fun q => base ≤ q
/-- what lay there before: the script, the text constants, statics -/
def Old (base : Nat) (s : State) (h : MH) : Prop :=
  0 < base ∧ (∀ a, a < base → hC h a = 0 ∨ hC h a = 30 ∨ hC h a = 31 ∨ hC h a = 99) ∧
  (∀ a, a < base → hC h a = 99 → va_X a (hN h a) (hI h a) s s.heap) ∧
  (∀ a, a < base → hC h a = 30 → va_OF "java/lang/String" "value" "[B" (va_rf (hR h a 0)) a (Ab base) s s.heap ∧ va_OF "java/lang/String" "coder" "B" (.int (hI h a 1)) a (Ab base) s s.heap ∧ va_O "java/lang/String" a (Ab base) s s.heap) ∧
  (∀ a, a < base → hR h a 77 = some 1 → va_T .byte a (hN h a) (fun j => .int (hI h a (100 + j))) (Ab base) s s.heap) ∧
  (∀ r, hR h 0 1000 = some r → vk_R "PairTree$Scanner" 13 "levels rel has is keep drift draw or less and then back same all not row column many " r s) ∧
  (∀ r, hR h 0 1001 = some r → vk_R "PairTree$Scanner" 76 ";()<>=+-*/%" r s) ∧
  va_Z "java/lang/String" "COMPACT_STRINGS" "Z" (.int 1) (Ab base) s s.heap ∧
  va_Z "jdk/internal/util/Preconditions" "SIOOBE_FORMATTER" "Ljava/util/function/BiFunction;" (va_rf (hR h 0 1002)) (Ab base) s s.heap
theorem Old.sb {base : Nat} {s : State} {h0 h : MH} (o : Old base s h0) (b : Sb base h0 h) : Old base s h := by
  obtain ⟨o1, o2, o3, o4, o5, o6, o7, o8, o9⟩ := o
  have b0 := (b 0 o1).2.2.2.2
  refine ⟨o1, fun a ha => ?_, fun a ha hc => ?_, fun a ha hc => ?_, fun a ha hc => ?_, fun r hr => o6 r (by rw [← b0]; exact hr), fun r hr => o7 r (by rw [← b0]; exact hr), o8, by rw [b0]; exact o9⟩
  · rw [(b a ha).1]; exact o2 a ha
  · obtain ⟨b1, b2, b3, b4, b5⟩ := b a ha
    rw [b2, b3]; exact o3 a ha (by rw [← b1]; exact hc)
  · obtain ⟨b1, b2, b3, b4, b5⟩ := b a ha
    rw [b5, b3]; exact o4 a ha (by rw [← b1]; exact hc)
  · obtain ⟨b1, b2, b3, b4, b5⟩ := b a ha
    rw [b2, b3]; exact o5 a ha (by rw [← b5]; exact hc)
def tysA (dA : Nat → ClassId) : List (ClassId × FieldType) := [(dA 20, .int), (dA 21, .byte), (dA 22, .long), (dA 23, .boolean), (dA 24, .object "PairTree$Grid"), (dA 25, .object "PairTree$Box"), (dA 26, .array .int)]
/-- int[][] is known as the class of arrays over int[] -/
def AOA (U : State) : Prop := (Cond.arrayOver (.array .int)).before #[] U = true
theorem AOA.moved {u U : State} (hvm : u.vm.Alike U.vm) (h : AOA u) : AOA U := by
  have e : (Cond.arrayOver (.array .int)).before #[] (u.setVm U.vm) = true := by rw [Cond.arrayOver_setVmC hvm]; exact h
  exact e
def Kx (D : va_G) (dA : Nat → ClassId) (U : State) : Prop := va_K D vwCl (tysA dA) U ∧ (∀ own i y host, Cond.methodLinkNest own i y host ∈ lw_tbl → va_Nw (.methodLinkNest own i y host) U) ∧ va_AO "PairTree$Grid" U ∧ va_AO "PairTree$Box" U ∧ AOA U
abbrev lvOf (t : Mth) (d : Nat) : Nat := t.2.2.2.2.1 + t.2.2.2.2.2.1 * (8 - d)
def Cx (t : Mth) (d : Nat) (p : Program) (R : Room) (s : State) (m : MethodId) (args : Array Value) (meth : Method) (c : Code) (base : Nat) (D : va_G) (dA : Nat → ClassId) : Prop :=
  p.tables.exec = Jvm.exec ∧ c.code = t.2.1 ∧ meth.sig.returnType = t.2.2.2.1 ∧ c.maxLocals = t.2.2.1 ∧ s.vm.findClass t.1.cls = some m.cls ∧ (∀ w ∈ gtb, w.before args s = true) ∧ Kx D dA s ∧ meth.locks = false ∧ (t.1.name = "<init>" → meth.name = "<init>") ∧ lvOf t d ≤ R.frames ∧ 60 * lvOf t d ≤ R.locals ∧ base ≤ s.heap.size ∧ d ≤ 8
def Qm (base : Nat) (D : va_G) (dA : Nat → ClassId) (h0 : MH) (rv : Option Value) (h' : MH) : Array Value → State → Outcome → State → Prop := fun _ st o t =>
  o = .returned rv ∧ HRn base D dA h' t.heap ∧ Sb base h0 h' ∧ va_F (Ab base) st t
/-- from here the JVM comes to the method's end as the small machine does -/
def Gd (M d pc : Nat) (ls : MLoc) (st : List Value) (h : MH) (rv : Option Value) (h' : MH) : Prop :=
  hT h ≤ hT h' ∧ hS h ≤ hS h' ∧ ∀ (t : Mth), Pg M = some t → ∀ (p : Program) (l : Launch) (e : Env) (R : Room) (s : State) (m : MethodId) (args : Array Value) (below : List Frame) (meth : Method) (c : Code) (base : Nat) (D : va_G) (dA : Nat → ClassId) (H : Heap) (locs : List Loc) (cells slots mc ms : Nat) (lsr : Array Slot) (h0 : MH),
    Cx t d p R s m args meth c base D dA → LR t.2.2.1 ls lsr → HRn base D dA h H → Old base s h0 → Sb base h0 h → va_S (Ab base) s.heap H locs → hT h' + cells = mc + hT h → hS h' + slots = ms + hS h → mc ≤ R.cells → ms ≤ R.slots →
    W p l e R s m args below meth c H locs cells slots (MQ below (Qm base D dA h0 rv h') args s mc ms (Ab base)) (F0 m pc lsr st)
def Good (M d i : Nat) (ls : MLoc) (st : List Value) (h : MH) (rv : Option Value) (h' : MH) : Prop := ∀ t, Pg M = some t → Gd M d (pcN t.code i) ls st h rv h'
/-- an instruction that touches neither heap nor locals -/
theorem Gd.pure {M d pc pc' : Nat} {ls : MLoc} {st st' : List Value} {h : MH} {rv : Option Value} {h' : MH} {t : Mth} (hPg : Pg M = some t) (g : Gd M d pc' ls st' h rv h')
    (hs : ∀ (p : Program) (l : Launch) (e : Env) (R : Room) (s : State) (m : MethodId) (args : Array Value) (below : List Frame) (meth : Method) (c : Code) (H : Heap) (locs : List Loc) (cells slots : Nat) (Q : State → Prop) (lsr : Array Slot), p.tables.exec = Jvm.exec → c.code = t.2.1 → LR t.2.2.1 ls lsr → s.vm.findClass t.1.cls = some m.cls → (∀ w ∈ gtb, w.before args s = true) →
      W p l e R s m args below meth c H locs cells slots Q (F0 m pc' lsr st') → W p l e R s m args below meth c H locs cells slots Q (F0 m pc lsr st)) : Gd M d pc ls st h rv h' := by
  refine ⟨g.1, g.2.1, fun t' hPg' => ?_⟩
  cases hPg.symm.trans hPg'
  intro p l e R s m args below meth c base D dA H locs cells slots mc ms lsr h0 cx hl hH ho hb hS h1 h2 h3 h4
  obtain ⟨hx, hcode, hr, hml, hown, hts, hK, hlocks, hnm, hfr, hlo, hbs, hd⟩ := id cx
  exact hs p l e R s m args below meth c H locs cells slots _ lsr hx hcode hl hown hts (g.2.2 t hPg p l e R s m args below meth c base D dA H locs cells slots mc ms lsr h0 cx hl hH ho hb hS h1 h2 h3 h4)
/-- one that stores a local -/
theorem Gd.locs {M d pc pc' : Nat} {ls ls' : MLoc} {st st' : List Value} {h : MH} {rv : Option Value} {h' : MH} {t : Mth} (hPg : Pg M = some t) (g : Gd M d pc' ls' st' h rv h')
    (hs : ∀ (p : Program) (l : Launch) (e : Env) (R : Room) (s : State) (m : MethodId) (args : Array Value) (below : List Frame) (meth : Method) (c : Code) (H : Heap) (locs : List Loc) (cells slots : Nat) (Q : State → Prop) (lsr : Array Slot), p.tables.exec = Jvm.exec → c.code = t.2.1 → LR t.2.2.1 ls lsr →
      (∀ lsr', LR t.2.2.1 ls' lsr' → W p l e R s m args below meth c H locs cells slots Q (F0 m pc' lsr' st')) → W p l e R s m args below meth c H locs cells slots Q (F0 m pc lsr st)) : Gd M d pc ls st h rv h' := by
  refine ⟨g.1, g.2.1, fun t' hPg' => ?_⟩
  cases hPg.symm.trans hPg'
  intro p l e R s m args below meth c base D dA H locs cells slots mc ms lsr h0 cx hl hH ho hb hS h1 h2 h3 h4
  exact hs p l e R s m args below meth c H locs cells slots _ lsr cx.1 cx.2.1 hl (fun lsr' hl' => g.2.2 t hPg p l e R s m args below meth c base D dA H locs cells slots mc ms lsr' h0 cx hl' hH ho hb hS h1 h2 h3 h4)
theorem Gd.msk {M d pc : Nat} {ls : MLoc} {st : List Value} {h : MH} {rv : Option Value} {h' : MH} (m : List Nat) (g : Gd M d pc (msk m ls) st h rv h') : Gd M d pc ls st h rv h' :=
  ⟨g.1, g.2.1, fun t hPg p l e R s mm args below meth c base D dA H locs cells slots mc ms lsr h0 cx hl hH ho hb hS h1 h2 h3 h4 => g.2.2 t hPg p l e R s mm args below meth c base D dA H locs cells slots mc ms lsr h0 cx (hl.msk m) hH ho hb hS h1 h2 h3 h4⟩
/-! ===== what a part that ended had ===== -/
theorem pI_inv {st : List Value} {k : Int32 → List Value → MRes} {r : Option Value × MH} (h : pI st k = some r) : ∃ x s, st = .int x :: s ∧ k x s = some r := by
  cases st with
  | nil => cases h
  | cons v s => cases v <;> first | exact ⟨_, _, rfl, h⟩ | cases h
theorem pL_inv {st : List Value} {k : Int64 → List Value → MRes} {r : Option Value × MH} (h : pL st k = some r) : ∃ x s, st = .long x :: s ∧ k x s = some r := by
  cases st with
  | nil => cases h
  | cons v s => cases v <;> first | exact ⟨_, _, rfl, h⟩ | cases h
theorem pR_inv {st : List Value} {k : Nat → List Value → MRes} {r : Option Value × MH} (h : pR st k = some r) : ∃ x s, st = .ref x :: s ∧ k x s = some r := by
  cases st with
  | nil => cases h
  | cons v s => cases v <;> first | exact ⟨_, _, rfl, h⟩ | cases h
theorem lI_inv {ls : MLoc} {i : Nat} {k : Int32 → MRes} {r : Option Value × MH} (h : lI ls i k = some r) : ∃ x, nth ls i = some (some (.int x)) ∧ k x = some r := by
  unfold lI at h
  rcases hn : nth ls i with _ | _ | v
  · rw [hn] at h; cases h
  · rw [hn] at h; cases h
  · rw [hn] at h; cases v <;> first | exact ⟨_, rfl, h⟩ | cases h
theorem lL_inv {ls : MLoc} {i : Nat} {k : Int64 → MRes} {r : Option Value × MH} (h : lL ls i k = some r) : ∃ x, nth ls i = some (some (.long x)) ∧ k x = some r := by
  unfold lL at h
  rcases hn : nth ls i with _ | _ | v
  · rw [hn] at h; cases h
  · rw [hn] at h; cases h
  · rw [hn] at h; cases v <;> first | exact ⟨_, rfl, h⟩ | cases h
theorem lR_inv {ls : MLoc} {i : Nat} {k : Nat → MRes} {r : Option Value × MH} (h : lR ls i k = some r) : ∃ x, nth ls i = some (some (.ref x)) ∧ k x = some r := by
  unfold lR at h
  rcases hn : nth ls i with _ | _ | v
  · rw [hn] at h; cases h
  · rw [hn] at h; cases h
  · rw [hn] at h; cases v <;> first | exact ⟨_, rfl, h⟩ | cases h
theorem isC_inv {h : MH} {a t : Nat} {k : MRes} {r : Option Value × MH} (e : isC h a t k = some r) : hC h a = t ∧ k = some r := by
  unfold isC at e
  split at e
  · exact ⟨by assumption, e⟩
  · cases e
theorem isB_inv {h : MH} {a : Nat} {k : MRes} {r : Option Value × MH} (e : isB h a k = some r) : 30 ≤ hC h a ∧ hR h a 77 = some 1 ∧ k = some r := by
  unfold isB at e
  split at e
  · rename_i q
    exact ⟨q.1, q.2, e⟩
  · cases e
theorem inA_inv {h : MH} {a : Nat} {i : Int32} {k : MRes} {r : Option Value × MH} (e : inA h a i k = some r) : ¬ (i < 0 ∨ hN h a ≤ i.toNatClampNeg) ∧ k = some r := by
  unfold inA at e
  split at e
  · cases e
  · exact ⟨by assumption, e⟩
theorem nnR_inv {x : Option Nat} {k : Nat → MRes} {r : Option Value × MH} (e : nnR x k = some r) : ∃ y, x = some y ∧ k y = some r := by
  cases x with
  | none => cases e
  | some y => exact ⟨y, rfl, e⟩
theorem nz_inv {y : Int32} {k : MRes} {r : Option Value × MH} (e : nz y k = some r) : ¬ y = 0 ∧ k = some r := by
  unfold nz at e
  split at e
  · cases e
  · exact ⟨by assumption, e⟩
theorem isZ_inv {y : Int32} {k : MRes} {r : Option Value × MH} (e : isZ y k = some r) : y &&& 1 = y ∧ k = some r := by
  unfold isZ at e
  split at e
  · exact ⟨by assumption, e⟩
  · cases e
theorem low_inv {n : Nat} {k : MRes} {r : Option Value × MH} (e : low n k = some r) : n ≤ 8 ∧ k = some r := by
  unfold low at e
  cases hb : Nat.ble n 8 with
  | false => rw [hb] at e; cases e
  | true => rw [hb] at e; exact ⟨Nat.le_of_ble_eq_true hb, e⟩
theorem okN_inv {n : Int32} {k : Nat → MRes} {r : Option Value × MH} (e : okN n k = some r) : ¬ n < 0 ∧ n.toNatClampNeg ≤ 4096 ∧ k n.toNatClampNeg = some r := by
  unfold okN at e
  split at e
  · cases e
  · rename_i h
    exact ⟨fun q => h (Or.inl q), Nat.le_of_not_lt (fun q => h (Or.inr q)), e⟩
theorem csum_eq : ∀ l : List Value, csum l = (l.map fun v => v.category).sum
  | [] => rfl
  | v :: l => by rw [csum, csum_eq l]; rfl
