/-! The small machine's runs have a limit, and it keeps the machine's own equation. -/
def Cq (q : Nat → MRec) (e : MRec) (F : MRec → MRes) : Prop := ∀ r, F e = some r → ∃ n, ∀ m, n ≤ m → F (q m) = some r
section
variable {q : Nat → MRec} {e : MRec}
theorem cq_const (c : MRes) : Cq q e (fun _ => c) := fun _ h => ⟨0, fun _ _ => h⟩
theorem cq_pI {k : MRec → Int32 → List Value → MRes} {st : List Value} (h : ∀ x s, Cq q e (fun rec => k rec x s)) : Cq q e (fun rec => pI st (k rec)) := by
  cases st with
  | nil => exact cq_const none
  | cons v s => cases v <;> first | exact h _ _ | exact cq_const none
theorem cq_pL {k : MRec → Int64 → List Value → MRes} {st : List Value} (h : ∀ x s, Cq q e (fun rec => k rec x s)) : Cq q e (fun rec => pL st (k rec)) := by
  cases st with
  | nil => exact cq_const none
  | cons v s => cases v <;> first | exact h _ _ | exact cq_const none
theorem cq_pR {k : MRec → Nat → List Value → MRes} {st : List Value} (h : ∀ x s, Cq q e (fun rec => k rec x s)) : Cq q e (fun rec => pR st (k rec)) := by
  cases st with
  | nil => exact cq_const none
  | cons v s => cases v <;> first | exact h _ _ | exact cq_const none
theorem cq_lI {k : MRec → Int32 → MRes} {ls : MLoc} {i : Nat} (h : ∀ x, Cq q e (fun rec => k rec x)) : Cq q e (fun rec => lI ls i (k rec)) := by
  unfold lI
  rcases nth ls i with _ | _ | v
  · exact cq_const none
  · exact cq_const none
  · cases v <;> first | exact h _ | exact cq_const none
theorem cq_lL {k : MRec → Int64 → MRes} {ls : MLoc} {i : Nat} (h : ∀ x, Cq q e (fun rec => k rec x)) : Cq q e (fun rec => lL ls i (k rec)) := by
  unfold lL
  rcases nth ls i with _ | _ | v
  · exact cq_const none
  · exact cq_const none
  · cases v <;> first | exact h _ | exact cq_const none
theorem cq_lR {k : MRec → Nat → MRes} {ls : MLoc} {i : Nat} (h : ∀ x, Cq q e (fun rec => k rec x)) : Cq q e (fun rec => lR ls i (k rec)) := by
  unfold lR
  rcases nth ls i with _ | _ | v
  · exact cq_const none
  · exact cq_const none
  · cases v <;> first | exact h _ | exact cq_const none
theorem cq_isC {k : MRec → MRes} {h : MH} {a t : Nat} (hk : Cq q e k) : Cq q e (fun rec => isC h a t (k rec)) := by
  unfold isC
  by_cases c : hC h a = t
  · simp only [c, if_true]; exact hk
  · simp only [c, if_false]; exact cq_const none
theorem cq_isB {k : MRec → MRes} {h : MH} {a : Nat} (hk : Cq q e k) : Cq q e (fun rec => isB h a (k rec)) := by
  unfold isB
  by_cases c : 30 ≤ hC h a ∧ hR h a 77 = some 1
  · simp only [c, and_self, if_true]; exact hk
  · simp only [c, if_false]; exact cq_const none
theorem cq_inA {k : MRec → MRes} {h : MH} {a : Nat} {i : Int32} (hk : Cq q e k) : Cq q e (fun rec => inA h a i (k rec)) := by
  unfold inA
  by_cases c : i < 0 ∨ hN h a ≤ i.toNatClampNeg
  · simp only [c, if_true]; exact cq_const none
  · simp only [c, if_false]; exact hk
theorem cq_nnR {k : MRec → Nat → MRes} {r : Option Nat} (h : ∀ x, Cq q e (fun rec => k rec x)) : Cq q e (fun rec => nnR r (k rec)) := by
  cases r with
  | none => exact cq_const none
  | some x => exact h x
theorem cq_anyR {k : MRec → Value → MRes} {r : Option Nat} (h : ∀ x, Cq q e (fun rec => k rec x)) : Cq q e (fun rec => anyR r (k rec)) := by
  cases r with
  | none => exact h _
  | some x => exact h _
theorem cq_nz {k : MRec → MRes} {y : Int32} (hk : Cq q e k) : Cq q e (fun rec => nz y (k rec)) := by
  unfold nz
  by_cases c : y = 0
  · simp only [c, if_true]; exact cq_const none
  · simp only [c, if_false]; exact hk
theorem cq_isZ {k : MRec → MRes} {y : Int32} (hk : Cq q e k) : Cq q e (fun rec => isZ y (k rec)) := by
  unfold isZ
  by_cases c : y &&& 1 = y
  · simp only [c, if_true]; exact hk
  · simp only [c, if_false]; exact cq_const none
theorem cq_low {k : MRec → MRes} {n : Nat} (hk : Cq q e k) : Cq q e (fun rec => low n (k rec)) := by
  unfold low
  cases Nat.ble n 8
  · exact cq_const none
  · exact hk
theorem cq_fit {k : MRec → MRes} {n m : Nat} (hk : Cq q e k) : Cq q e (fun rec => fit n m (k rec)) := by
  unfold fit
  cases Nat.ble n m
  · exact cq_const none
  · exact hk
theorem cq_okN {k : MRec → Nat → MRes} {n : Int32} (h : ∀ x, Cq q e (fun rec => k rec x)) : Cq q e (fun rec => okN n (k rec)) := by
  unfold okN
  by_cases c : n < 0 ∨ 4096 < n.toNatClampNeg
  · simp only [c, if_true]; exact cq_const none
  · simp only [c, if_false]; exact h _
theorem cq_br {a b : MRec → MRes} {c : Prop} (d : Decidable c) (ha : Cq q e a) (hb : Cq q e b) : Cq q e (fun rec => br c (a rec) (b rec)) := by
  unfold br
  by_cases h : c
  · simp only [h, if_true]; exact ha
  · simp only [h, if_false]; exact hb
theorem cq_ccond {a b : MRec → MRes} {c : ClassFile.Cond} {x y : Int32} (ha : Cq q e a) (hb : Cq q e b) : Cq q e (fun rec => ccond c x y (a rec) (b rec)) := by
  cases c <;> first | exact cq_br _ ha hb | exact cq_br _ hb ha
theorem cq_jsw {k : MRec → Nat → MRes} (l : List (Int × Nat)) {x : Int32} {d : Nat} (h : ∀ x, Cq q e (fun rec => k rec x)) : Cq q e (fun rec => jsw l x d (k rec)) := by
  induction l with
  | nil => exact h d
  | cons p l ih =>
    obtain ⟨v, t⟩ := p
    exact cq_br _ (h t) ih
theorem cq_then {a : MRec → MRes} {k : MRec → (Option Value × MH) → MRes} (ha : Cq q e a) (hk : ∀ p, Cq q e (fun rec => k rec p)) : Cq q e (fun rec => (a rec).bind (k rec)) := by
  intro r hr
  have hr : (a e).bind (k e) = some r := hr
  cases hc : a e with
  | none => rw [hc] at hr; cases hr
  | some p =>
    rw [hc] at hr
    obtain ⟨n1, h1⟩ := ha p hc
    obtain ⟨n2, h2⟩ := hk p r hr
    refine ⟨max n1 n2, fun m hm => ?_⟩
    show (a (q m)).bind (k (q m)) = some r
    rw [h1 m (by omega)]
    exact h2 m (by omega)
theorem rV_bind (r : MRes) (k : MH → MRes) : rV r k = r.bind (fun p => match p with
  | (none, h) => k h
  | _ => none) := by
  rcases r with _ | ⟨_ | v, h⟩ <;> rfl
theorem rI_bind (r : MRes) (k : Int32 → MH → MRes) : rI r k = r.bind (fun p => match p with
  | (some (.int x), h) => k x h
  | _ => none) := by
  rcases r with _ | ⟨_ | v, h⟩
  · rfl
  · rfl
  · cases v <;> rfl
theorem rR_bind (r : MRes) (k : Nat → MH → MRes) : rR r k = r.bind (fun p => match p with
  | (some (.ref x), h) => k x h
  | _ => none) := by
  rcases r with _ | ⟨_ | v, h⟩
  · rfl
  · rfl
  · cases v <;> rfl
theorem cq_rtn {a : MRec → MRes} {k : MRec → List Value → MH → MRes} {rk : Nat} {st : List Value} (ha : Cq q e a) (hk : ∀ st h, Cq q e (fun rec => k rec st h)) : Cq q e (fun rec => rtn rk (a rec) st (k rec)) := by
  unfold rtn
  match rk with
  | 0 =>
    simp only [rV_bind]
    refine cq_then (k := fun rec p => match p with | (none, h) => k rec st h | _ => none) ha ?_
    rintro ⟨_ | v, h⟩
    · exact hk _ _
    · exact cq_const none
  | 1 =>
    simp only [rI_bind]
    refine cq_then (k := fun rec p => match p with | (some (.int x), h) => k rec (.int x :: st) h | _ => none) ha ?_
    rintro ⟨_ | v, h⟩
    · exact cq_const none
    · cases v <;> first | exact hk _ _ | exact cq_const none
  | n + 2 =>
    simp only [rR_bind]
    refine cq_then (k := fun rec p => match p with | (some (.ref x), h) => k rec (.ref x :: st) h | _ => none) ha ?_
    rintro ⟨_ | v, h⟩
    · exact cq_const none
    · cases v <;> first | exact hk _ _ | exact cq_const none
theorem cq_dth {k : MRec → Nat → MRes} {dd d : Nat} (h : ∀ x, Cq q e (fun rec => k rec x)) : Cq q e (fun rec => dth dd d (k rec)) := by
  unfold dth
  match dd with
  | 0 => exact h _
  | 1 => exact h _
  | n + 2 =>
    by_cases c : d < 8
    · simp only [c, if_true]; exact h _
    · simp only [c, if_false]; exact cq_const none
theorem cq_getF {k : MRec → Value → MRes} {h : MH} {a t i kd : Nat} (hk : ∀ v, Cq q e (fun rec => k rec v)) : Cq q e (fun rec => getF h a t i kd (k rec)) := by
  unfold getF
  refine cq_isC ?_
  match kd with
  | 0 => exact hk _
  | 1 => exact hk _
  | n + 2 => exact cq_nnR fun _ => hk _
theorem cq_putF {k : MRec → List Value → MH → MRes} {h : MH} {t i kd : Nat} {st : List Value} (hk : ∀ st h, Cq q e (fun rec => k rec st h)) : Cq q e (fun rec => putF h t i kd st (k rec)) := by
  unfold putF
  match kd with
  | 0 => exact cq_pI fun _ _ => cq_pR fun _ _ => cq_isC (hk _ _)
  | 1 => exact cq_pL fun _ _ => cq_pR fun _ _ => cq_isC (hk _ _)
  | 2 => exact cq_pR fun _ _ => cq_pR fun _ _ => cq_isC (hk _ _)
  | n + 3 => exact cq_pI fun _ _ => cq_pR fun _ _ => cq_isC (cq_isZ (hk _ _))
theorem cq_aldF {k : MRec → Nat → Nat → List Value → MRes} {h : MH} {t : Nat} {st : List Value} (hk : ∀ a i st, Cq q e (fun rec => k rec a i st)) : Cq q e (fun rec => aldF h t st (k rec)) :=
  cq_pI fun _ _ => cq_pR fun _ _ => cq_isC (cq_inA (hk _ _ _))
theorem cq_newsF {k : MRec → List Value → MH → MRes} {h : MH} {t : Nat} {st : List Value} (hk : ∀ st h, Cq q e (fun rec => k rec st h)) : Cq q e (fun rec => newsF h t st (k rec)) :=
  cq_pI fun _ _ => cq_okN fun _ => hk _ _
theorem cq_copyF {k : MRec → List Value → MH → MRes} {h : MH} {st : List Value} (hk : ∀ st h, Cq q e (fun rec => k rec st h)) : Cq q e (fun rec => copyF h st (k rec)) := by
  unfold copyF
  refine cq_pI fun n _ => cq_pI fun dp _ => cq_pR fun b _ => cq_pI fun sp _ => cq_pR fun a _ => cq_isC (cq_isC (cq_low ?_))
  by_cases c : n < 0 ∨ dp < 0 ∨ sp < 0 ∨ hN h a < sp.toNatClampNeg + n.toNatClampNeg ∨ hN h b < dp.toNatClampNeg + n.toNatClampNeg
  · simp only [c, if_true]; exact cq_const none
  · simp only [c, if_false]; exact hk _ _
theorem cq_dup2F {k : MRec → List Value → MRes} {st : List Value} (hk : ∀ st, Cq q e (fun rec => k rec st)) : Cq q e (fun rec => dup2F st (k rec)) := by
  unfold dup2F
  split
  · exact hk _
  · exact cq_const none
theorem cq_dupF {k : MRec → List Value → MRes} {st : List Value} (hk : ∀ st, Cq q e (fun rec => k rec st)) : Cq q e (fun rec => dupF st (k rec)) := by
  unfold dupF
  split
  · exact hk _
  · exact hk _
  · exact cq_const none
theorem cq_popF {k : MRec → List Value → MRes} {st : List Value} (hk : ∀ st, Cq q e (fun rec => k rec st)) : Cq q e (fun rec => popF st (k rec)) := by
  unfold popF
  split
  · exact hk _
  · exact hk _
  · exact cq_const none
theorem cq_jmp (hb : ∀ M d i ls st h, Cq q e (fun rec => rec M d i ls st h)) {K : MRec → Nat → MLoc → List Value → MH → MRes} (hK : ∀ s ls st h, Cq q e (fun rec => K rec s ls st h)) {M d : Nat} {inf : List Nat} {ls : MLoc} {st : List Value} {h : MH} : Cq q e (fun rec => jmp (K rec) rec M d inf ls st h) := by
  unfold jmp
  split
  · exact hK _ _ _ _
  · exact hb _ _ _ _ _ _
  · exact cq_const none
theorem cq_callF (hb : ∀ M d i ls st h, Cq q e (fun rec => rec M d i ls st h)) {k : MRec → List Value → MH → MRes} (hk : ∀ st h, Cq q e (fun rec => k rec st h)) {d : Nat} {inf : List Nat} {st : List Value} {h : MH} : Cq q e (fun rec => callF rec d inf st h (k rec)) := by
  unfold callF
  split
  · split
    · split
      · exact cq_fit (cq_low (cq_dth fun _ => cq_rtn (hb _ _ _ _ _ _) hk))
      · exact cq_pR fun _ _ => cq_isC (cq_fit <| cq_low (cq_dth fun _ => cq_rtn (hb _ _ _ _ _ _) hk))
      · exact cq_pR fun _ _ => cq_fit <| cq_low (cq_dth fun _ => cq_rtn (hb _ _ _ _ _ _) hk)
      · exact cq_const none
    · exact cq_const none
  · exact cq_const none
set_option maxHeartbeats 4000000 in
theorem cq_stp (hb : ∀ M d i ls st h, Cq q e (fun rec => rec M d i ls st h)) {K : MRec → Nat → MLoc → List Value → MH → MRes} (hK : ∀ s ls st h, Cq q e (fun rec => K rec s ls st h)) {M d : Nat} {ins : Instr} {inf : List Nat} {ls : MLoc} {st : List Value} {h : MH} : Cq q e (fun rec => stp (K rec) rec M d ins inf ls st h) := by
  cases ins <;> dsimp only [stp] <;> first
    | exact cq_const _
    | exact hK _ _ _ _
    | exact cq_lI fun _ => hK _ _ _ _
    | exact cq_lL fun _ => hK _ _ _ _
    | exact cq_lR fun _ => hK _ _ _ _
    | exact cq_pI fun _ _ => hK _ _ _ _
    | exact cq_pL fun _ _ => hK _ _ _ _
    | exact cq_pR fun _ _ => hK _ _ _ _
    | exact cq_pI fun _ _ => cq_pI fun _ _ => hK _ _ _ _
    | exact cq_pI fun _ _ => cq_pI fun _ _ => cq_nz (hK _ _ _ _)
    | exact cq_pI fun _ _ => cq_pL fun _ _ => hK _ _ _ _
    | exact cq_pL fun _ _ => cq_pL fun _ _ => hK _ _ _ _
    | exact cq_dupF fun _ => hK _ _ _ _
    | exact cq_popF fun _ => hK _ _ _ _
    | exact cq_dup2F fun _ => hK _ _ _ _
    | exact cq_jmp hb hK
    | exact cq_pI fun _ _ => cq_ccond (cq_jmp hb hK) (hK _ _ _ _)
    | exact cq_pI fun _ _ => cq_pI fun _ _ => cq_ccond (cq_jmp hb hK) (hK _ _ _ _)
    | exact cq_pR fun _ _ => cq_jmp hb hK
    | exact cq_callF hb fun _ _ => hK _ _ _ _
    | exact cq_aldF fun _ _ _ => hK _ _ _ _
    | exact cq_pI fun _ _ => cq_aldF fun _ _ _ => hK _ _ _ _
    | exact cq_pL fun _ _ => cq_aldF fun _ _ _ => hK _ _ _ _
    | (split <;> first
        | exact cq_const _
        | exact hb _ _ _ _ _ _
        | exact hK _ _ _ _
        | exact cq_nnR fun _ => hK _ _ _ _
        | exact cq_anyR fun _ => hK _ _ _ _
        | exact cq_pI fun _ _ => cq_jsw _ fun _ => hK _ _ _ _
        | exact cq_pR fun _ _ => cq_getF fun _ => hK _ _ _ _
        | exact cq_putF fun _ _ => hK _ _ _ _
        | exact cq_newsF fun _ _ => hK _ _ _ _
        | exact cq_pI fun _ _ => cq_pI fun _ _ => cq_okN fun _ => cq_okN fun _ => hK _ _ _ _
        | exact cq_pR fun _ _ => cq_isC (hK _ _ _ _)
        | exact cq_pR fun _ _ => cq_isB (hK _ _ _ _)
        | exact cq_pI fun _ _ => cq_pR fun _ _ => cq_isB (cq_inA (hK _ _ _ _))
        | exact cq_aldF fun _ _ _ => hK _ _ _ _
        | exact cq_aldF fun _ _ _ => cq_nnR fun _ => hK _ _ _ _
        | exact cq_pI fun _ _ => cq_aldF fun _ _ _ => hK _ _ _ _
        | exact cq_pR fun _ _ => cq_aldF fun _ _ _ => cq_isC (hK _ _ _ _)
        | exact cq_copyF fun _ _ => hK _ _ _ _
        | exact cq_pI fun _ _ => cq_pI fun _ _ => cq_low (hK _ _ _ _)
        | exact cq_callF hb fun _ _ => hK _ _ _ _
        | exact cq_pR fun _ _ => cq_low (hK _ _ _ _))
theorem cq_blk (hb : ∀ M d i ls st h, Cq q e (fun rec => rec M d i ls st h)) {M d : Nat} (c : List Ent) : ∀ (s : Nat) (ls : MLoc) (st : List Value) (h : MH), Cq q e (fun rec => blk rec M d s c ls st h) := by
  induction c with
  | nil => intro s ls st h; cases s <;> exact cq_const none
  | cons a c ih =>
    intro s ls st h
    cases s with
    | zero => exact cq_stp hb (K := fun rec s ls st h => blk rec M d s c ls st h) (fun s ls st h => ih s ls st h)
    | succ s => exact ih s ls st h
theorem cq_blkM (Pg : Nat → Option Mth) (hb : ∀ M d i ls st h, Cq q e (fun rec => rec M d i ls st h)) (M d i : Nat) (ls : MLoc) (st : List Value) (h : MH) : Cq q e (fun rec => blkM Pg rec M d i ls st h) := by
  unfold blkM
  split
  · exact cq_blk hb _ _ _ _ _
  · exact cq_const none
end
theorem runM_up (Pg : Nat → Option Mth) : ∀ (n M d i : Nat) (ls : MLoc) (st : List Value) (h : MH) (r : Option Value × MH), runM Pg n M d i ls st h = some r → runM Pg (n + 1) M d i ls st h = some r := by
  intro n
  induction n with
  | zero => intro M d i ls st h r hr; cases hr
  | succ n ih =>
    intro M d i ls st h r hr
    obtain ⟨k, hk⟩ := cq_blkM (q := fun _ => runM Pg (n + 1)) (e := runM Pg n) Pg (fun M d i ls st h r hr => ⟨0, fun _ _ => ih M d i ls st h r hr⟩) M d i ls st h r hr
    exact hk k (Nat.le_refl _)
theorem runM_ge (Pg : Nat → Option Mth) {n : Nat} {M d i : Nat} {ls : MLoc} {st : List Value} {h : MH} {r : Option Value × MH} (hr : runM Pg n M d i ls st h = some r) : ∀ m, n ≤ m → runM Pg m M d i ls st h = some r := by
  intro m hm
  obtain ⟨k, rfl⟩ := Nat.exists_eq_add_of_le hm
  induction k with
  | zero => exact hr
  | succ k ih => exact runM_up Pg _ _ _ _ _ _ _ _ (ih (by omega))
theorem runM_one (Pg : Nat → Option Mth) {n m : Nat} {M d i : Nat} {ls : MLoc} {st : List Value} {h : MH} {r r' : Option Value × MH} (hr : runM Pg n M d i ls st h = some r) (hr' : runM Pg m M d i ls st h = some r') : r = r' := by
  have h1 := runM_ge Pg hr (max n m) (by omega)
  have h2 := runM_ge Pg hr' (max n m) (by omega)
  exact Option.some.inj (h1.symm.trans h2)
theorem evM_of (Pg : Nat → Option Mth) {n : Nat} {M d i : Nat} {ls : MLoc} {st : List Value} {h : MH} {r : Option Value × MH} (hr : runM Pg n M d i ls st h = some r) : evM Pg M d i ls st h = some r := by
  have e : ∃ n r, runM Pg n M d i ls st h = some r := ⟨n, r, hr⟩
  unfold evM
  rw [dif_pos e]
  exact congrArg some (runM_one Pg e.choose_spec.choose_spec hr)
theorem evM_run (Pg : Nat → Option Mth) {M d i : Nat} {ls : MLoc} {st : List Value} {h : MH} {r : Option Value × MH} (hr : evM Pg M d i ls st h = some r) : ∃ n, runM Pg n M d i ls st h = some r := by
  unfold evM at hr
  by_cases e : ∃ n r, runM Pg n M d i ls st h = some r
  · rw [dif_pos e] at hr
    refine ⟨e.choose, ?_⟩
    rw [← hr]
    exact e.choose_spec.choose_spec
  · rw [dif_neg e] at hr
    cases hr
theorem evM_eq (Pg : Nat → Option Mth) (M d i : Nat) (ls : MLoc) (st : List Value) (h : MH) : evM Pg M d i ls st h = blkM Pg (evM Pg) M d i ls st h := by
  cases hc : blkM Pg (evM Pg) M d i ls st h with
  | some r =>
    obtain ⟨n, hn⟩ := cq_blkM (q := fun n => runM Pg n) (e := evM Pg) Pg (fun M d i ls st h r hr => by
      obtain ⟨n, hn⟩ := evM_run Pg hr
      exact ⟨n, fun m hm => runM_ge Pg hn m hm⟩) M d i ls st h r hc
    exact evM_of Pg (n := n + 1) (hn n (Nat.le_refl _))
  | none =>
    cases hd : evM Pg M d i ls st h with
    | none => rfl
    | some r =>
      obtain ⟨n, hn⟩ := evM_run Pg hd
      cases n with
      | zero => cases hn
      | succ n =>
        obtain ⟨k, hk⟩ := cq_blkM (q := fun _ => evM Pg) (e := runM Pg n) Pg (fun M d i ls st h r hr => ⟨0, fun _ _ => evM_of Pg hr⟩) M d i ls st h r hn
        have := hk k (Nat.le_refl _)
        have h2 : blkM Pg (evM Pg) M d i ls st h = some r := this
        rw [hc] at h2
        cases h2
