/-! Calls: a method that the small machine runs to its end is met. -/
theorem Kx.moved {D : va_G} {dA : Nat → ClassId} {s U : State} (hW : s.WarmedH U.vm) (h : Kx D dA s) : Kx D dA U :=
  ⟨va_K.moved hW.alike h.1, fun own i y host hm => (h.2.1 own i y host hm).warmM hW, va_AO.moved hW.alike h.2.2.1, va_AO.moved hW.alike h.2.2.2.1, AOA.moved hW.alike h.2.2.2.2⟩
theorem Kx.same {D : va_G} {dA : Nat → ClassId} {s U : State} (hv : U.vm = s.vm) (h : Kx D dA s) : Kx D dA U := by
  have al : s.vm.Alike U.vm := by rw [hv]; exact Vm.Alike.refl _
  exact ⟨va_K.moved al h.1, fun own i y host hm => va_Nw.same rfl hv.symm (h.2.1 own i y host hm), va_AO.moved al h.2.2.1, va_AO.moved al h.2.2.2.1, AOA.moved al h.2.2.2.2⟩
theorem Old.to {base : Nat} {s U : State} {h : MH} (o : Old base s h) (al : s.vm.Alike U.vm) (hR : ∀ own k tx a, vk_R own k tx a s → vk_R own k tx a U) (hh : ∀ q, q < s.heap.size → ¬ Ab base q → U.heap[q]? = s.heap[q]?) : Old base U h := by
  obtain ⟨o1, o2, o3, o4, o5, o6, o7, o8, o9⟩ := o
  refine ⟨o1, o2, fun a ha hc => ?_, fun a ha hc => ?_, fun a ha hc => ?_, fun r hr => hR _ _ _ _ (o6 r hr), fun r hr => hR _ _ _ _ (o7 r hr), (o8.moved al).kept hh, (o9.moved al).kept hh⟩
  · have hx := o3 a ha hc
    have hlt : a < s.heap.size := by
      obtain ⟨scr, q1, -⟩ := hx
      exact (Array.getElem?_eq_some_iff.mp q1).1
    exact (hx.moved al).kept (hh a hlt (Nat.not_le.mpr ha))
  · obtain ⟨a1, a2, a3⟩ := o4 a ha hc
    exact ⟨(a1.moved al).kept hh, (a2.moved al).kept hh, (a3.moved al).kept hh⟩
  · exact ((o5 a ha hc).moved al).kept hh
def Pcm (base : Nat) (D : va_G) (dA : Nat → ClassId) (as : List Value) (h : MH) : Array Value → State → Prop := fun v U => v = as.toArray ∧ base ≤ U.heap.size ∧ HRn base D dA h U.heap ∧ Kx D dA U ∧ Old base U h
theorem Pcm.blind (base : Nat) (D : va_G) (dA : Nat → ClassId) (as : List Value) (h : MH) : FrameBlind (Pcm base D dA as h) := fun a U g mk q => by
  obtain ⟨q1, q2, q3, q4, q5⟩ := q
  exact ⟨q1, q2, q3, q4.same (U := U.calling g mk a) rfl, q5.to (U := U.calling g mk a) (Vm.Alike.refl U.vm) (fun _ _ _ _ hr => vk_R.same (U := U.calling g mk a) rfl hr) (fun _ _ _ => rfl)⟩
def MW (t : Mth) : List Cond := .code t.1 t.2.1 t.2.2.1 t.2.2.2.1 :: gtb
def rmOf (t : Mth) (d c s : Nat) : Room := { frames := lvOf t d, cells := c, slots := s, locals := 60 * lvOf t d }
theorem lg_sl_len : ∀ vs : List Value, (lg_sl vs).length = csum vs
  | [] => rfl
  | v :: vs => by
    have ih := lg_sl_len vs
    unfold lg_sl at ih ⊢
    rw [List.flatMap_cons, List.length_append, ih, csum]
    cases v <;> rfl
theorem met_of {M d : Nat} {t : Mth} {as : List Value} {h h1 : MH} {rv1 : Option Value} (hPg : Pg M = some t) (hpl : plainName t.1.cls = true) (hfit : csum as ≤ t.2.2.1) (hd : d ≤ 8) (g : Gd M d 0 (entl as t.2.2.1) [] h rv1 h1) (l : Launch) (base : Nat) (D : va_G) (dA : Nat → ClassId) :
    Met l t.1 (MW t) (rmOf t d (hT h1 - hT h) (hS h1 - hS h)) (Pcm base D dA as h) (Qm base D dA h rv1 h1) (hT h1 - hT h) (hS h1 - hS h) (Ab base) := by
  refine Met.ofW (cc := t.2.1) (maxL := t.2.2.1) (ret := t.2.2.2.1) hpl rfl ?_
  intro p e s m args below meth c s₁ B hml hv
  obtain ⟨rfl, hbs, hH, hKx, ho⟩ := hv
  have hts0 := atoms_spec (ws := MW t) B.pre
  have g1 := g.1
  have g2 := g.2.1
  rw [lg_entry_eq]
  refine g.2.2 t hPg p l e _ s m _ below meth c base D dA s.heap [] 0 0 _ _ _ h ⟨B.exec, B.bytes, B.returns, hml, findClass_of_methodNamed B.named, fun w hw => hts0 w (List.mem_cons_of_mem _ hw), hKx, B.notSynchronized, fun q => (name_of_methodNamed B.named B.method).1.trans q, Nat.le_refl _, Nat.le_refl _, hbs, hd⟩ (LR.entry as (by rw [lg_sl_len]; exact hfit)) hH ho (Sb.rf base h) va_S.rf (by omega) (by omega) (Nat.le_refl _) (Nat.le_refl _)
/-- behind a call the method goes on -/
theorem Gd.call {M d pc : Nat} {ls : MLoc} {st0 rest : List Value} {h h1 : MH} {rv1 rv : Option Value} {h' : MH} {t : Mth} {as : List Value} (hPg : Pg M = some t) (le1 : hT h ≤ hT h1) (le2 : hS h ≤ hS h1) (g : Gd M d (pc + 3) ls (rv1.toList ++ rest) h1 rv h')
    (hs : ∀ (p : Program) (l : Launch) (e : Env) (R : Room) (s : State) (m : MethodId) (args : Array Value) (below : List Frame) (meth : Method) (c : Code) (base : Nat) (D : va_G) (dA : Nat → ClassId) (H : Heap) (locs : List Loc) (cells slots : Nat) (lsr : Array Slot) (h0 : MH), Cx t d p R s m args meth c base D dA → LR t.2.2.1 ls lsr → HRn base D dA h H → Old base s h → va_S (Ab base) s.heap H locs → cells + (hT h1 - hT h) ≤ R.cells → slots + (hS h1 - hS h) ≤ R.slots →
      va_Run p l e R s m args below meth c H locs cells slots (hT h1 - hT h) (hS h1 - hS h) (F0 m pc lsr st0) rest (Qm base D dA h rv1 h1 as.toArray) (Ab base)) : Gd M d pc ls st0 h rv h' := by
  have g1 := g.1
  have g2 := g.2.1
  refine ⟨by omega, by omega, fun t' hPg' => ?_⟩
  cases hPg.symm.trans hPg'
  intro p l e R s m args below meth c base D dA H locs cells slots mc ms lsr h0 cx hl hH ho hb hS h1' h2 h3 h4
  intro T hT' X
  obtain ⟨v, st₀, tt, T', L, e0, X', hL, e1, e2, hq, stp⟩ := hs p l e R s m args below meth c base D dA H locs cells slots lsr h0 cx hl hH (ho.sb hb) hS (by omega) (by omega) T hT' X
  obtain ⟨hv, hH1, hb1, hz, hk⟩ := hq
  have hv : v = rv1 := by
    have := Outcome.returned.inj hv
    exact this
  subst hv
  rw [e0] at hz hk
  have hS1 : va_S (Ab base) s.heap T'.heap (locs ++ L) := ⟨Nat.le_trans hS.1 (by rw [e1]; exact hz), fun q a1 a2 => by
      rw [e1, hk q (Nat.lt_of_lt_of_le a1 hS.1) a2]
      exact hS.2.1 q a1 a2, fun q hq => by
      rcases List.mem_append.mp hq with a | a
      · exact hS.2.2 q a
      · exact hL q a⟩
  obtain ⟨t2, a1, b1⟩ := g.2.2 t hPg p l e R s m args below meth c base D dA T'.heap (locs ++ L) _ _ mc ms lsr h0 cx hl (by rw [e1]; exact hH1) ho (hb.tr hb1) hS1 (by omega) (by omega) h3 h4 T' rfl X'
  exact ⟨t2, stp t2 a1, b1⟩
theorem popn_inv : ∀ (n : Nat) (st acc as rest : List Value), popn n st acc = some (as, rest) → ∃ xs, as = xs.reverse ++ acc ∧ st = xs ++ rest ∧ xs.length = n
  | 0, st, acc, as, rest, h => by
    cases h
    exact ⟨[], rfl, rfl, rfl⟩
  | n + 1, [], acc, as, rest, h => by cases h
  | n + 1, v :: st, acc, as, rest, h => by
    obtain ⟨xs, h1, h2, h3⟩ := popn_inv n st (v :: acc) as rest h
    refine ⟨v :: xs, ?_, by rw [h2]; rfl, by simp [h3]⟩
    rw [h1]
    simp
theorem fit_inv {n m : Nat} {k : MRes} {r : Option Value × MH} (e : fit n m k = some r) : n ≤ m ∧ k = some r := by
  unfold fit at e
  cases hb : Nat.ble n m with
  | false => rw [hb] at e; cases e
  | true => rw [hb] at e; exact ⟨Nat.le_of_ble_eq_true hb, e⟩
theorem dth_inv {dd d : Nat} {k : Nat → MRes} {r : Option Value × MH} (h : dth dd d k = some r) : ∃ e, k e = some r ∧ ((dd = 0 ∧ e = 0) ∨ (dd = 1 ∧ e = d) ∨ (2 ≤ dd ∧ d < 8 ∧ e = d + 1)) := by
  rcases dd with _ | _ | dd
  · exact ⟨0, h, Or.inl ⟨rfl, rfl⟩⟩
  · exact ⟨d, h, Or.inr (Or.inl ⟨rfl, rfl⟩)⟩
  · have h : (if d < 8 then k (d + 1) else none) = some r := h
    split at h
    · exact ⟨d + 1, h, Or.inr (Or.inr ⟨by omega, by assumption, rfl⟩)⟩
    · cases h
theorem rtn_inv {rk : Nat} {a : MRes} {st : List Value} {c : List Value → MH → MRes} {r : Option Value × MH} (h : rtn rk a st c = some r) : ∃ rv1 h1, a = some (rv1, h1) ∧ c (rv1.toList ++ st) h1 = some r := by
  rcases rk with _ | _ | rk
  · have h : rV a (fun h => c st h) = some r := h
    unfold rV at h
    split at h
    · exact ⟨none, _, rfl, h⟩
    · cases h
  · have h : rI a (fun x h => c (.int x :: st) h) = some r := h
    unfold rI at h
    split at h
    · exact ⟨_, _, rfl, h⟩
    · cases h
  · have h : rR a (fun x h => c (.ref x :: st) h) = some r := h
    unfold rR at h
    split at h
    · exact ⟨_, _, rfl, h⟩
    · cases h
