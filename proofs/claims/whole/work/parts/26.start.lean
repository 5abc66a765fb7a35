/-! From the law's entry: the small machine's start, and what its run gives. (lw_P .. lw_At as the skeleton has them.) -/
def R_law : String := "PairTreeLaw"
def lw_P (b : Addr) (xs : List Int32) (args : Array Value) (s : State) : Prop := args = #[.ref b] ∧ s.IntsAt b xs ∧ xs.length ≤ 3072 ∧ (Jvm.Cond.and given_1 narrow_1).before args s = true
def lw_Q (_ : Array Value) (s : State) (o : Outcome) (t : State) : Prop := o = .returned (some (.int 1)) ∧ Framed s o t [] 600000 7302250
def lw_Z (below : List Frame) (a : Array Value) (s : State) : State → Prop := fun t => ∃ o, t.status = .running ∧ Ended t below o ∧ lw_Q a s o t
/-- the law's own end, with 1 on the stack, nothing written that was there before, its room as the claim has it -/
theorem lw_ret {p : Program} {l : Launch} {e : Env} {s : State} {m : MethodId} {below : List Frame} {meth : Method} {c : Code} {b : Nat} (hx : p.tables.exec = Jvm.exec) (hb : c.code = code) (hr : meth.sig.returnType = ret) (hlocks : meth.locks = false) {pc : Nat} {H : Heap} {ls : Array Slot} (hdg : decode code pc = .ok (.ireturn, 1)) : W p l e room_1 s m #[Value.ref b] below meth c H [] 600000 7302250 (lw_Z below #[Value.ref b] s) (F0 m pc ls [.int 1]) := by
  intro T hT X
  obtain ⟨fs, hret, hrun, hended, hW, hframe⟩ := X.leave (v := some (.int 1)) (hlocks := hlocks) (fun h => by rw [hr] at h; cases h)
  have hmeth' : T.vm.method? m = some meth := X.method'
  refine ⟨T.setFrames fs, ?_, .returned (some (.int 1)), hrun, hended, rfl, ⟨_, rfl⟩, hW, hframe⟩
  jvm_step X.here [X.here.top, hx, hb, hdg, hmeth', hr, ret, narrow_b1]
  (try refine ⟨rfl, ?_⟩); (try refine ⟨rfl, ?_⟩)
  first | (intro acts; rw [hret _ acts rfl rfl rfl]) | rw [hret _ _ rfl rfl rfl]
  exact Steps.refl _
/-- what holds at the law's entry: the machine, the code, the tables' words (any of lw_tbl by 'hts w (by decide +kernel)'), the script of L ints xs at the cell b, what the Statement gives of the start (any of its parts by flat_of_before) -/
def lw_At (p : Program) (s : State) (m : MethodId) (meth : Method) (c : Code) (b L : Nat) (xs : Nat → Int32) : Prop :=
  p.tables.exec = Jvm.exec ∧ c.code = code ∧ meth.sig.returnType = ret ∧ c.maxLocals = 4 ∧ s.vm.findClass R_law = some m.cls ∧ (∀ w ∈ lw_tbl, w.before #[Value.ref b] s = true) ∧ va_X b L xs s s.heap ∧ b < s.heap.size ∧ meth.locks = false ∧ (Jvm.Cond.and given_1 narrow_1).before #[Value.ref b] s = true
def tx0 : List Nat := [108, 101, 118, 101, 108, 115, 32, 114, 101, 108, 32, 104, 97, 115, 32, 105, 115, 32, 107, 101, 101, 112, 32, 100, 114, 105, 102, 116, 32, 100, 114, 97, 119, 32, 111, 114, 32, 108, 101, 115, 115, 32, 97, 110, 100, 32, 116, 104, 101, 110, 32, 98, 97, 99, 107, 32, 115, 97, 109, 101, 32, 97, 108, 108, 32, 110, 111, 116, 32, 114, 111, 119, 32, 99, 111, 108, 117, 109, 110, 32, 109, 97, 110, 121, 32]
def tx1 : List Nat := [59, 40, 41, 60, 62, 61, 43, 45, 42, 47, 37]
/-- the small machine's heap at the law's entry: T cells, the script of L ints xs at b, two texts s0, s1 and their bytes v0, v1 -/
def h00 (T b L : Nat) (xs : Nat → Int32) (s0 s1 v0 v1 : Nat) (fm : Option Nat) : MH :=
  (T, 0, fun a => if a = b then 99 else if a = s0 ∨ a = s1 then 30 else if a = v0 ∨ a = v1 then 31 else 0,
   fun a => if a = b then L else if a = v0 then 85 else if a = v1 then 11 else 0,
   fun a k => if a = b then xs k else if a = v0 ∧ 100 ≤ k then nI (tx0.getD (k - 100) 0) else if a = v1 ∧ 100 ≤ k then nI (tx1.getD (k - 100) 0) else 0,
   fun _ _ => 0,
   fun a k => if a = 0 ∧ k = 1000 then some s0 else if a = 0 ∧ k = 1001 then some s1 else if a = 0 ∧ k = 1002 then fm else if k = 77 ∧ (a = v0 ∨ a = v1) then some 1 else if a = s0 ∧ k = 0 then some v0 else if a = s1 ∧ k = 0 then some v1 else none)
/-- WHAT IS LEFT TO SHOW, of the small machine alone -/
def PureLaw : Prop := ∀ (T b L : Nat) (xs : Nat → Int32) (s0 s1 v0 v1 : Nat) (fm : Option Nat), L ≤ 3072 → b < T → s0 < T → s1 < T → v0 < T → v1 < T → b ≠ s0 → b ≠ s1 → s0 ≠ s1 → b ≠ v0 → b ≠ v1 → v0 ≠ v1 →
  ∃ h', ev M_Law_law 0 0 [some (.ref b), none, none, none] [] (h00 T b L xs s0 s1 v0 v1 fm) = some (some (.int (nI 1)), h') ∧ hT h' ≤ T + 600000 ∧ hS h' ≤ 7302250
def insPl : List (Nat × Nat) := [(2, 79), (1, 38), (1, 57), (2, 46), (1, 32), (1, 142), (2, 16), (1, 148), (2, 98), (2, 187), (2, 158), (1, 24), (6, 125)]
theorem ins_all : (vwCl.zip insPl).all (fun q => okW q.2.1 q.2.2 (.instantiable q.1.1 q.1.2.2)) = true := by decide +kernel
theorem ins_in {k : Nat} {q : vw_C} (h : vwCl[k]? = some q) : Cond.instantiable q.1 q.2.2 ∈ gtb := by
  have hlt := vwCl_lt h
  obtain ⟨z, hz⟩ : ∃ z, insPl[k]? = some z := ⟨insPl[k]'(by show k < 13; exact hlt), List.getElem?_eq_getElem _⟩
  have hm : (q, z) ∈ vwCl.zip insPl := List.mem_of_getElem? (i := k) (by rw [List.getElem?_zip_eq_some]; exact ⟨h, hz⟩)
  exact okW_in (List.all_eq_true.mp ins_all _ hm)
theorem st_known {s : State} {args : Array Value} (hts : ∀ w ∈ gtb, w.before args s = true) : ∃ D : va_G, ∀ (k : Nat) (q : vw_C), vwCl[k]? = some q → u_Kn s q.1 q.2.1 q.2.2 (D.1 k) (D.2 k) := by
  have h0 : ∀ k : Nat, ∃ z : ClassId × (Nat → Nat), ∀ q : vw_C, vwCl[k]? = some q → u_Kn s q.1 q.2.1 q.2.2 z.1 z.2 := by
    intro k
    cases hq : vwCl[k]? with
    | none => exact ⟨(0, fun _ => 0), fun q h => by cases h⟩
    | some q =>
      obtain ⟨cC, iS, h⟩ := u_known (n := q.2.2) hts (ws_in k q hq) (hts _ (ins_in hq))
      exact ⟨(cC, iS), fun q' h' => by cases h'; exact h⟩
  obtain ⟨f, hf⟩ := Classical.axiomOfChoice h0
  exact ⟨(fun k => (f k).1, fun k => (f k).2), fun k q hq => hf k q hq⟩
theorem st_arrays {s : State} {args : Array Value} (hts : ∀ w ∈ lw_tbl, w.before args s = true) : ∃ dA : Nat → ClassId, ∀ (k : Nat) (q : ClassId × FieldType), (tysA dA)[k]? = some q → ArrOfT s q.1 q.2 ∧ va_RA s q.1 q.2 := by
  have prim : ∀ ty : FieldType, (∀ C, ty ≠ .object C) → (Cond.arrayClass ty).before args s = true → ∃ cA, ArrOfT s cA ty ∧ va_RA s cA ty := by
    intro ty hno h
    obtain ⟨cA, kA, comp, h1, h2, h3⟩ := Cond.arrayClass_spec (args := args) (first := s) (o := none) (s := s) (idx := []) h
    refine ⟨cA, fun n z => ⟨fun k h => (by cases h), kA, h2, comp, h3⟩, ?_⟩
    cases ty <;> first | exact h1 | exact absurd rfl (hno _)
  have obj : ∀ C : String, (Cond.arrayOver (.object C)).before args s = true → ∃ cA, ArrOfT s cA (.object C) ∧ va_RA s cA (.object C) := by
    intro C h
    obtain ⟨comp, c, k, h1, h2, h3, h4, h5⟩ := Cond.arrayOver_spec h
    exact ⟨c, fun n z => ⟨fun k h => (by cases h), k, h3, comp, h4⟩, k, comp, h3, h4, h1, h5⟩
  obtain ⟨a0, h0⟩ := prim .int (fun _ h => by cases h) (hts _ (wd_mem (j := 1) (i := 54) (by decide +kernel)))
  obtain ⟨a1, h1⟩ := prim .byte (fun _ h => by cases h) (hts _ (wd_mem (j := 1) (i := 53) (by decide +kernel)))
  obtain ⟨a2, h2⟩ := prim .long (fun _ h => by cases h) (hts _ (wd_mem (j := 1) (i := 79) (by decide +kernel)))
  obtain ⟨a3, h3⟩ := prim .boolean (fun _ h => by cases h) (hts _ (wd_mem (j := 2) (i := 156) (by decide +kernel)))
  obtain ⟨a4, h4⟩ := obj "PairTree$Grid" (hts _ (wd_mem (j := 1) (i := 56) (by decide +kernel)))
  obtain ⟨a5, h5⟩ := obj "PairTree$Box" (hts _ (wd_mem (j := 2) (i := 78) (by decide +kernel)))
  obtain ⟨a6, h6⟩ : ∃ cA, ArrOfT s cA (.array .int) ∧ va_RA s cA (.array .int) := by
    obtain ⟨comp, c, k, g1, g2, g3, g4, g5⟩ := arrayOver_specB (hts (.arrayOver (.array .int)) (wd_mem (j := 2) (i := 52) (by decide +kernel)))
    exact ⟨c, fun n z => ⟨fun k h => (by cases h), k, g3, comp, g4⟩, g5⟩
  refine ⟨fun t => if t = 20 then a0 else if t = 21 then a1 else if t = 22 then a2 else if t = 23 then a3 else if t = 24 then a4 else if t = 25 then a5 else a6, fun k q hq => ?_⟩
  match k, hq with
  | 0, hq => cases hq; exact h0
  | 1, hq => cases hq; exact h1
  | 2, hq => cases hq; exact h2
  | 3, hq => cases hq; exact h3
  | 4, hq => cases hq; exact h4
  | 5, hq => cases hq; exact h5
  | 6, hq => cases hq; exact h6
  | k + 7, hq => simp [tysA] at hq
def stTm (i : Nat) : Term := match i with
  | 0 => .string "PairTree$Scanner" 13
  | _ => .string "PairTree$Scanner" 76
def stLen : List Nat := [85, 11]
def stByt : List (List Int32) := [tx0.map nI, tx1.map nI]
theorem st_flat : ∀ i : Nat, i < 2 → (Cond.exactly (stTm i) "java/lang/String") ∈ flatC (Jvm.Cond.and given_1 narrow_1) ∧ (Cond.eq (.field (stTm i) "java/lang/String" "coder" "B") (.int 0)) ∈ flatC (Jvm.Cond.and given_1 narrow_1) ∧ (Cond.arrayOf (.field (stTm i) "java/lang/String" "value" "[B") .byte) ∈ flatC (Jvm.Cond.and given_1 narrow_1) ∧ (Cond.eq (.length (.field (stTm i) "java/lang/String" "value" "[B")) (.int (Int32.ofNat (stLen.getD i 0)))) ∈ flatC (Jvm.Cond.and given_1 narrow_1) := by decide +kernel
theorem st_flat0 : ∀ j : Nat, j < 85 → (Cond.eq (.elem (.field (stTm 0) "java/lang/String" "value" "[B") (.int (Int32.ofNat j))) (.int ((stByt.getD 0 []).getD j 0))) ∈ flatC (Jvm.Cond.and given_1 narrow_1) := by decide +kernel
theorem st_flat1 : ∀ j : Nat, j < 11 → (Cond.eq (.elem (.field (stTm 1) "java/lang/String" "value" "[B") (.int (Int32.ofNat j))) (.int ((stByt.getD 1 []).getD j 0))) ∈ flatC (Jvm.Cond.and given_1 narrow_1) := by decide +kernel
theorem st_flat2 : (Cond.not (Cond.eq (stTm 0) (stTm 1))) ∈ flatC (Jvm.Cond.and given_1 narrow_1) ∨ (Cond.not (Cond.eq (stTm 1) (stTm 0))) ∈ flatC (Jvm.Cond.and given_1 narrow_1) := by decide +kernel
theorem st_flat3 : (Cond.eq (.static "java/lang/String" "COMPACT_STRINGS" "Z") (.int 1)) ∈ flatC (Jvm.Cond.and given_1 narrow_1) ∧ (Cond.isRef (.static "jdk/internal/util/Preconditions" "SIOOBE_FORMATTER" "Ljava/util/function/BiFunction;")) ∈ flatC (Jvm.Cond.and given_1 narrow_1) := by decide +kernel
