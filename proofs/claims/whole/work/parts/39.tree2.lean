/-! The bits of a tree: laid down one behind the other. -/
abbrev Eb : Type := Nat × Nat × Nat
def qs (e : Eb) : List Eb := [(e.1 + 1, 2 * e.2.1, 2 * e.2.2), (e.1 + 1, 2 * e.2.1, 2 * e.2.2 + 1), (e.1 + 1, 2 * e.2.1 + 1, 2 * e.2.2), (e.1 + 1, 2 * e.2.1 + 1, 2 * e.2.2 + 1)]
def qAt (v : Nat) (p : Eb → Bool) (Q : List Eb) (e : Eb) : List Eb := if e.1 < v ∧ p e = true then Q ++ qs e else Q
def bq (v : Nat) (p : Eb → Bool) : Nat → Nat → List Eb → List Eb
  | 0, _, Q => Q
  | m + 1, k, Q => match Q[k]? with
    | none => Q
    | some e => bq v p m (k + 1) (qAt v p Q e)
def okQ (v : Nat) (e : Eb) : Prop := 1 ≤ e.1 ∧ e.1 ≤ v ∧ e.2.1 < 2 ^ e.1 ∧ e.2.2 < 2 ^ e.1
def cL (l : Nat) (Q : List Eb) : Nat := Q.countP (fun e => e.1 == l)
/-- the queue when k of it are worked off -/
def QI (v : Nat) (p : Eb → Bool) (k : Nat) (Q : List Eb) : Prop := k ≤ Q.length ∧ (∀ e, e ∈ Q → okQ v e) ∧ cL 1 Q = 4 ∧ ∀ l, 1 ≤ l → cL (l + 1) Q = 4 * (Q.take k).countP (fun e => e.1 == l && decide (l < v) && p e)
theorem cL_app (l : Nat) (P Q : List Eb) : cL l (P ++ Q) = cL l P + cL l Q := List.countP_append ..
theorem cL_qs (l : Nat) (e : Eb) : cL l (qs e) = if e.1 + 1 = l then 4 else 0 := by
  unfold cL qs
  by_cases q : e.1 + 1 = l
  · simp [q]
  · simp [q]
theorem QI_next {v : Nat} {p : Eb → Bool} {k : Nat} {Q : List Eb} {e : Eb} (I : QI v p k Q) (he : Q[k]? = some e) : QI v p (k + 1) (qAt v p Q e) := by
  obtain ⟨i1, i2, i3, i4⟩ := I
  have hk : k < Q.length := by
    rcases Nat.lt_or_ge k Q.length with h | h
    · exact h
    · rw [List.getElem?_eq_none h] at he; cases he
  have hm : e ∈ Q := List.mem_of_getElem? he
  have ho := i2 e hm
  have ht : Q.take (k + 1) = Q.take k ++ [e] := by rw [List.take_add_one, he]; rfl
  unfold qAt
  by_cases q : e.1 < v ∧ p e = true
  · rw [if_pos q]
    refine ⟨by rw [List.length_append]; omega, ?_, ?_, ?_⟩
    · intro x hx
      rcases List.mem_append.mp hx with hx | hx
      · exact i2 x hx
      · have hp : 2 ^ (e.1 + 1) = 2 * 2 ^ e.1 := by rw [Nat.pow_succ, Nat.mul_comm]
        obtain ⟨o1, o2, o3, o4⟩ := ho
        unfold qs at hx
        simp only [List.mem_cons, List.not_mem_nil, or_false] at hx
        rcases hx with rfl | rfl | rfl | rfl <;> (unfold okQ; dsimp only; rw [hp]; omega)
    · rw [cL_app, i3, cL_qs, if_neg (by have := ho.1; omega)]
    · intro l hl
      rw [cL_app, cL_qs, i4 l hl, List.take_append_of_le_length (by omega), ht, List.countP_append]
      by_cases q2 : e.1 = l
      · rw [if_pos (by omega)]
        have : List.countP (fun e => e.1 == l && decide (l < v) && p e) [e] = 1 := by
          simp only [List.countP_cons, List.countP_nil]
          rw [if_pos]
          simp only [Bool.and_eq_true, decide_eq_true_eq, beq_iff_eq]
          exact ⟨⟨q2, by omega⟩, q.2⟩
        rw [this]; omega
      · rw [if_neg (by omega)]
        have : List.countP (fun e => e.1 == l && decide (l < v) && p e) [e] = 0 := by simp [q2]
        rw [this, Nat.add_zero, Nat.add_zero]
  · rw [if_neg q]
    refine ⟨by omega, i2, i3, ?_⟩
    intro l hl
    rw [i4 l hl, ht, List.countP_append]
    have : List.countP (fun e => e.1 == l && decide (l < v) && p e) [e] = 0 := by
      by_cases q2 : e.1 = l
      · simp only [List.countP_cons, List.countP_nil]
        rw [if_neg]
        simp only [Bool.and_eq_true, decide_eq_true_eq, beq_iff_eq]
        rintro ⟨⟨a, b⟩, c⟩; exact q ⟨by omega, c⟩
      · simp [q2]
    rw [this, Nat.add_zero]
theorem len_c : ∀ {Q : List Eb}, (∀ e, e ∈ Q → 1 ≤ e.1 ∧ e.1 ≤ 4) → Q.length = cL 1 Q + cL 2 Q + cL 3 Q + cL 4 Q
  | [], _ => rfl
  | e :: Q, h => by
    have ih := len_c (Q := Q) (fun x hx => h x (List.mem_cons_of_mem _ hx))
    have he := h e List.mem_cons_self
    unfold cL at ih ⊢
    simp only [List.length_cons, List.countP_cons, ih, beq_iff_eq]
    have : e.1 = 1 ∨ e.1 = 2 ∨ e.1 = 3 ∨ e.1 = 4 := by omega
    rcases this with q | q | q | q <;> simp [q] <;> omega
theorem cP_le {p : Eb → Bool} {v k l : Nat} {Q : List Eb} : (Q.take k).countP (fun e => e.1 == l && decide (l < v) && p e) ≤ cL l Q := by
  refine Nat.le_trans (List.Sublist.countP_le (List.take_sublist k Q)) ?_
  refine List.countP_mono_left ?_
  intro e _ h
  simp only [Bool.and_eq_true] at h
  exact h.1.1
theorem QI_len {v : Nat} {p : Eb → Bool} {k : Nat} {Q : List Eb} (I : QI v p k Q) (h4 : v ≤ 4) : Q.length ≤ 340 := by
  obtain ⟨i1, i2, i3, i4⟩ := I
  have hl := len_c (Q := Q) (fun e he => ⟨(i2 e he).1, Nat.le_trans (i2 e he).2.1 h4⟩)
  have a1 := i4 1 (by omega)
  have a2 := i4 2 (by omega)
  have a3 := i4 3 (by omega)
  have b1 := cP_le (p := p) (v := v) (k := k) (l := 1) (Q := Q)
  have b2 := cP_le (p := p) (v := v) (k := k) (l := 2) (Q := Q)
  have b3 := cP_le (p := p) (v := v) (k := k) (l := 3) (Q := Q)
  simp only [Nat.reduceAdd] at a1 a2 a3
  omega
theorem QI_0 {v : Nat} {p : Eb → Bool} (h1 : 1 ≤ v) : QI v p 0 (qs (0, 0, 0)) := by
  refine ⟨Nat.zero_le _, ?_, ?_, ?_⟩
  · intro e he
    unfold qs at he
    simp only [List.mem_cons, List.not_mem_nil, or_false] at he
    rcases he with rfl | rfl | rfl | rfl <;> (unfold okQ; dsimp only; omega)
  · rw [cL_qs, if_pos rfl]
  · intro l hl; rw [cL_qs, if_neg (by show ¬ 0 + 1 = l + 1; omega)]; rfl
/-- the bits, in their row -/
def bits (v : Nat) (p : Eb → Bool) : List Eb := bq v p 341 0 (qs (0, 0, 0))
theorem bq_I {v : Nat} {p : Eb → Bool} (h4 : v ≤ 4) : ∀ m k Q, k + m = 341 → QI v p k Q → QI v p (bq v p m k Q).length (bq v p m k Q)
  | 0, k, Q, hk, I => absurd (QI_len I h4) (by have := I.1; omega)
  | m + 1, k, Q, hk, I => by
    rw [bq]
    cases e : Q[k]? with
    | none =>
      dsimp only
      have : Q.length ≤ k := List.getElem?_eq_none_iff.mp e
      rw [show Q.length = k by have := I.1; omega]; exact I
    | some e1 => exact bq_I h4 m (k + 1) _ (by omega) (QI_next I e)
theorem bits_I {v : Nat} {p : Eb → Bool} (h1 : 1 ≤ v) (h4 : v ≤ 4) : QI v p (bits v p).length (bits v p) := bq_I h4 341 0 _ (by omega) (QI_0 h1)
/-- the row of bits in the heap -/
def QF (f : Nat → Nat → Int32) (t : Nat) (Q : List Eb) : Prop := f t 4 = nI Q.length ∧ ∀ j e, Q[j]? = some e → f (t + 2) j = nI e.1 ∧ f (t + 3) j = nI e.2.1 ∧ f (t + 4) j = nI e.2.2
def FQ (t : Nat) (f f' : Nat → Nat → Int32) : Prop := (∀ a, a < t ∨ t + 5 ≤ a → f' a = f a) ∧ (∀ j, j ≠ 4 → f' t j = f t j)
theorem FQ.rf {t : Nat} {f : Nat → Nat → Int32} : FQ t f f := ⟨fun _ _ => rfl, fun _ _ => rfl⟩
theorem FQ.tr {t : Nat} {f g k : Nat → Nat → Int32} (a : FQ t f g) (b : FQ t g k) : FQ t f k := ⟨fun x hx => (b.1 x hx).trans (a.1 x hx), fun j hj => (b.2 j hj).trans (a.2 j hj)⟩
theorem FQ.fr {t : Nat} {f g : Nat → Nat → Int32} (a : FQ t f g) : Fr t (t + 5) f g := a.1
theorem FQ.F {t v : Nat} {f g : Nat → Nat → Int32} {G : Nat → Nat} (a : FQ t f g) (F : TF f t v G) : TF g t v G :=
  ⟨by rw [a.2 5 (by decide)]; exact F.1, fun l hl => a.fr.F (by omega) (F.2 l hl)⟩
theorem tr_push {h : MH} {f : Nat → Nat → Int32} {t l r c q : Nat} {Q : List Eb} (T : TS h t) (F : QF f t Q) (hq : q < 4) (hl : Q.length < 340) :
    ∃ f', (∀ P, wp (ev M_Tree_layQuarters 0 3 [some (.ref t), some (.int (nI l)), some (.int (nI r)), some (.int (nI c)), some (.int (nI (q + 1)))] [] (wI h f')) P → wp (ev M_Tree_layQuarters 0 3 [some (.ref t), some (.int (nI l)), some (.int (nI r)), some (.int (nI c)), some (.int (nI q))] [] (wI h f)) P) ∧ QF f' t (Q ++ [(l, r + q / 2, c + q % 2)]) ∧ FQ t f f' := by
  obtain ⟨t1, t2, t3, t4, t5, t6, t7, t8, t9, t10, t11, t12, t13, t14⟩ := T
  obtain ⟨f4, fe⟩ := F
  refine ⟨up2 (up2 (up2 (up2 f (t + 2) Q.length (nI l)) (t + 3) Q.length (nI (r + q / 2))) (t + 4) Q.length (nI (c + q % 2))) t 4 (nI (Q.length + 1)), ?_, ⟨?_, ?_⟩, ?_, ?_⟩
  · intro P H
    rw [r_Tree_layQuarters_3]
    have e2 : nI q / nI 2 = nI (q / 2) := pk_div (by omega) (by decide) (by decide)
    have e3 : nI q - nI q / nI 2 * nI 2 = nI (q % 2) := pk_rem (by omega) (by decide) (by decide)
    rw [e3, e2, nI_add, nI_add, nI_add]
    refine wp_bt (by (first | (simp (disch := omega) only [wI_I, wI_s, nI_add, pk_mul, nI_ltI, nI_leI, nI_eq, nI_clamp, nm_or, nm_and, nm_xor, nm_nd, nm_one, nm_shr, nm_b2, Bool.false_eq_true, Bool.true_eq_false, not_false_eq_true, not_true_eq_false, reduceCtorEq]; done) | (simp (disch := omega) only [wI_I, wI_s, nI_add, pk_mul, nI_ltI, nI_leI, nI_eq, nI_clamp, nm_or, nm_and, nm_xor, nm_nd, nm_one, nm_shr, nm_b2, Bool.false_eq_true, Bool.true_eq_false, not_false_eq_true, not_true_eq_false, reduceCtorEq]; omega) | omega)) (wp_isC t1 (wp_bt (by (first | (simp (disch := omega) only [wI_I, wI_s, nI_add, pk_mul, nI_ltI, nI_leI, nI_eq, nI_clamp, nm_or, nm_and, nm_xor, nm_nd, nm_one, nm_shr, nm_b2, Bool.false_eq_true, Bool.true_eq_false, not_false_eq_true, not_true_eq_false, reduceCtorEq, f4]; done) | (simp (disch := omega) only [wI_I, wI_s, nI_add, pk_mul, nI_ltI, nI_leI, nI_eq, nI_clamp, nm_or, nm_and, nm_xor, nm_nd, nm_one, nm_shr, nm_b2, Bool.false_eq_true, Bool.true_eq_false, not_false_eq_true, not_true_eq_false, reduceCtorEq, f4]; omega) | omega)) (wp_isC t1 (wp_nnR t6 (wp_isC t1 (wp_isC t7 (wp_inA t8 f4 hl (by omega) ?_)))))))
    have k1 : hI (sI (wI h f) (t + 2) (hI (wI h f) t 4).toNatClampNeg (nI l)) t 4 = nI Q.length := by rw [wI_s, wI_I, up2_a (by omega)]; exact f4
    refine wp_isC t1 (wp_nnR t9 (wp_isC t1 (wp_nz (by decide) (wp_isC t10 (wp_inA t11 k1 hl (by omega) ?_)))))
    have k2 : hI (sI (sI (wI h f) (t + 2) (hI (wI h f) t 4).toNatClampNeg (nI l)) (t + 3) (hI (sI (wI h f) (t + 2) (hI (wI h f) t 4).toNatClampNeg (nI l)) t 4).toNatClampNeg (nI (r + q / 2))) t 4 = nI Q.length := by rw [wI_s, wI_s, wI_I, up2_a (by omega), up2_a (by omega)]; exact f4
    refine wp_isC t1 (wp_nnR t12 (wp_isC t1 (wp_nz (by decide) (wp_isC t13 (wp_inA t14 k2 hl (by omega) (wp_isC t1 (wp_isC t1 ?_)))))))
    rw [k2, k1, wI_I, f4, nI_clamp (by omega), wI_s, wI_s, wI_s, wI_s, wI_I, up2_a (show t ≠ t + 4 by omega), up2_a (show t ≠ t + 3 by omega), up2_a (show t ≠ t + 2 by omega), f4, nI_add]
    exact H
  · rw [up2_s, List.length_append]; rfl
  · intro j e hj
    have a2 : up2 (up2 (up2 (up2 f (t + 2) Q.length (nI l)) (t + 3) Q.length (nI (r + q / 2))) (t + 4) Q.length (nI (c + q % 2))) t 4 (nI (Q.length + 1)) (t + 2) = up2 f (t + 2) Q.length (nI l) (t + 2) := by rw [up2_a (by omega), up2_a (by omega), up2_a (by omega)]
    have a3 : up2 (up2 (up2 (up2 f (t + 2) Q.length (nI l)) (t + 3) Q.length (nI (r + q / 2))) (t + 4) Q.length (nI (c + q % 2))) t 4 (nI (Q.length + 1)) (t + 3) = up2 (up2 f (t + 2) Q.length (nI l)) (t + 3) Q.length (nI (r + q / 2)) (t + 3) := by rw [up2_a (by omega), up2_a (by omega)]
    have a4 : up2 (up2 (up2 (up2 f (t + 2) Q.length (nI l)) (t + 3) Q.length (nI (r + q / 2))) (t + 4) Q.length (nI (c + q % 2))) t 4 (nI (Q.length + 1)) (t + 4) = up2 (up2 (up2 f (t + 2) Q.length (nI l)) (t + 3) Q.length (nI (r + q / 2))) (t + 4) Q.length (nI (c + q % 2)) (t + 4) := by rw [up2_a (by omega)]
    rw [a2, a3, a4, up2_i, up2_i, up2_i]
    by_cases q2 : j = Q.length
    · rw [if_pos q2, if_pos q2, if_pos q2]
      rw [q2, List.getElem?_append_right (Nat.le_refl _), Nat.sub_self] at hj
      cases hj; exact ⟨rfl, rfl, rfl⟩
    · rw [if_neg q2, if_neg q2, if_neg q2]
      have hj2 : j < Q.length := by
        have : j < (Q ++ [(l, r + q / 2, c + q % 2)]).length := (List.getElem?_eq_some_iff.mp hj).1
        rw [List.length_append] at this
        have e1 : [(l, r + q / 2, c + q % 2)].length = 1 := rfl
        omega
      rw [List.getElem?_append_left hj2] at hj
      rw [up2_a (show t + 3 ≠ t + 2 by omega), up2_a (show t + 4 ≠ t + 3 by omega), up2_a (show t + 4 ≠ t + 2 by omega)]
      exact fe j e hj
  · intro a ha
    rw [up2_a (by omega), up2_a (by omega), up2_a (by omega), up2_a (by omega)]
  · intro j hj
    rw [up2_k hj, up2_a (by omega), up2_a (by omega), up2_a (by omega)]
theorem tr_quart {h : MH} {f : Nat → Nat → Int32} {t : Nat} {e : Eb} {Q : List Eb} (T : TS h t) (F : QF f t Q) (hl : Q.length + 4 ≤ 340) :
    wp (ev M_Tree_layQuarters 0 0 [some (.ref t), some (.int (nI (e.1 + 1))), some (.int (nI (2 * e.2.1))), some (.int (nI (2 * e.2.2))), none] [] (wI h f)) (fun v h' => ∃ f', v = none ∧ h' = wI h f' ∧ QF f' t (Q ++ qs e) ∧ FQ t f f') := by
  rw [r_Tree_layQuarters_0]
  obtain ⟨f1, a1, b1, c1⟩ := tr_push (l := e.1 + 1) (r := 2 * e.2.1) (c := 2 * e.2.2) (q := 0) T F (by omega) (by omega)
  obtain ⟨f2, a2, b2, c2⟩ := tr_push (l := e.1 + 1) (r := 2 * e.2.1) (c := 2 * e.2.2) (q := 1) T b1 (by omega) (by rw [List.length_append]; show _ + 1 < 340; omega)
  obtain ⟨f3, a3, b3, c3⟩ := tr_push (l := e.1 + 1) (r := 2 * e.2.1) (c := 2 * e.2.2) (q := 2) T b2 (by omega) (by rw [List.length_append, List.length_append]; show _ + 1 + 1 < 340; omega)
  obtain ⟨f4, a4, b4, c4⟩ := tr_push (l := e.1 + 1) (r := 2 * e.2.1) (c := 2 * e.2.2) (q := 3) T b3 (by omega) (by rw [List.length_append, List.length_append, List.length_append]; show _ + 1 + 1 + 1 < 340; omega)
  apply a1; apply a2; apply a3; apply a4
  rw [r_Tree_layQuarters_3]
  refine wp_bf (by decide) (wp_s ⟨f4, rfl, rfl, ?_, ((c1.tr c2).tr c3).tr c4⟩)
  have : Q ++ qs e = Q ++ [(e.1 + 1, 2 * e.2.1 + 0 / 2, 2 * e.2.2 + 0 % 2)] ++ [(e.1 + 1, 2 * e.2.1 + 1 / 2, 2 * e.2.2 + 1 % 2)] ++ [(e.1 + 1, 2 * e.2.1 + 2 / 2, 2 * e.2.2 + 2 % 2)] ++ [(e.1 + 1, 2 * e.2.1 + 3 / 2, 2 * e.2.2 + 3 % 2)] := by
    simp only [List.append_assoc]; rfl
  rw [this]; exact b4
/-- whether a block is filled -/
def fb (v : Nat) (G : Nat → Nat) (e : Eb) : Bool := (fl v G e.1 e.2.1).testBit e.2.2
theorem tr_laid {h : MH} {f : Nat → Nat → Int32} {t j m : Nat} (T : TS h t) (f4 : f t 4 = nI m) (hj : j < m) (hm : m ≤ 340) :
    ev M_Tree_isLaid 0 0 [some (.ref t), some (.int (nI j))] [] (wI h f) = some (some (.int (nI 1)), wI h f) := by
  have t1 := T.1
  rw [r_Tree_isLaid_0]
  apply wp_e
  refine wp_bf (nI_pos (by omega)) ?_
  repeat (first | refine wp_isC (by assumption) ?_ | refine wp_nnR (by assumption) ?_ | refine wp_inA (by assumption) rfl (by omega) (by omega) ?_ | refine wp_isZ (by decide) ?_ | refine wp_bt (by (first | (simp (disch := omega) only [wI_I, wI_s, nI_add, pk_mul, nI_ltI, nI_leI, nI_eq, nI_clamp, nm_or, nm_and, nm_xor, nm_nd, nm_one, nm_shr, nm_b2, Bool.false_eq_true, Bool.true_eq_false, not_false_eq_true, not_true_eq_false, reduceCtorEq, f4]; done) | (simp (disch := omega) only [wI_I, wI_s, nI_add, pk_mul, nI_ltI, nI_leI, nI_eq, nI_clamp, nm_or, nm_and, nm_xor, nm_nd, nm_one, nm_shr, nm_b2, Bool.false_eq_true, Bool.true_eq_false, not_false_eq_true, not_true_eq_false, reduceCtorEq, f4]; omega) | omega)) ?_ | refine wp_bf (by (first | (simp (disch := omega) only [wI_I, wI_s, nI_add, pk_mul, nI_ltI, nI_leI, nI_eq, nI_clamp, nm_or, nm_and, nm_xor, nm_nd, nm_one, nm_shr, nm_b2, Bool.false_eq_true, Bool.true_eq_false, not_false_eq_true, not_true_eq_false, reduceCtorEq, f4]; done) | (simp (disch := omega) only [wI_I, wI_s, nI_add, pk_mul, nI_ltI, nI_leI, nI_eq, nI_clamp, nm_or, nm_and, nm_xor, nm_nd, nm_one, nm_shr, nm_b2, Bool.false_eq_true, Bool.true_eq_false, not_false_eq_true, not_true_eq_false, reduceCtorEq, f4]; omega) | omega)) ?_)
  exact wp_s ⟨rfl, rfl⟩
theorem tr_bit {h : MH} {f : Nat → Nat → Int32} {t v j : Nat} {G : Nat → Nat} {Q : List Eb} {e : Eb} (T : TS h t) (F : TF f t v G) (V : GW (2 ^ v) G) (h4 : v ≤ 4) (B : QF f t Q) (hQ : Q.length ≤ 340) (hj : Q[j]? = some e) (o : okQ v e) :
    ev M_Tree_bitAt 0 0 [some (.ref t), some (.int (nI j))] [] (wI h f) = some (some (.int (nI (fb v G e).toNat)), wI h f) := by
  have hj2 : j < Q.length := (List.getElem?_eq_some_iff.mp hj).1
  have e1 := tr_laid T B.1 hj2 hQ
  have e2 := tr_on (l := e.1) T F.1 h4 o.2.1
  obtain ⟨t1, t2, t3, t4, t5, t6, t7, t8, t9, t10, t11, t12, t13, t14⟩ := T
  obtain ⟨k1, k2, k3⟩ := B.2 j e hj
  obtain ⟨o1, o2, o3, o4⟩ := o
  obtain ⟨q1, q2⟩ := t5 e.1 (by omega)
  have q3 := q2.1
  have e3 := gq_holds q2 (F.2 e.1 o2) (fl_W V o2) o3 o4
  rw [r_Tree_bitAt_0]
  apply wp_e
  repeat (first | refine wp_isC (by assumption) ?_ | refine wp_nnR (by assumption) ?_ | refine wp_inA (by assumption) rfl (by omega) (by omega) ?_ | refine wp_isZ (by decide) ?_ | refine wp_bt (by (first | (simp (disch := omega) only [wI_I, wI_s, nI_add, pk_mul, nI_ltI, nI_leI, nI_eq, nI_clamp, nm_or, nm_and, nm_xor, nm_nd, nm_one, nm_shr, nm_b2, Bool.false_eq_true, Bool.true_eq_false, not_false_eq_true, not_true_eq_false, reduceCtorEq]; done) | (simp (disch := omega) only [wI_I, wI_s, nI_add, pk_mul, nI_ltI, nI_leI, nI_eq, nI_clamp, nm_or, nm_and, nm_xor, nm_nd, nm_one, nm_shr, nm_b2, Bool.false_eq_true, Bool.true_eq_false, not_false_eq_true, not_true_eq_false, reduceCtorEq]; omega) | omega)) ?_ | refine wp_bf (by (first | (simp (disch := omega) only [wI_I, wI_s, nI_add, pk_mul, nI_ltI, nI_leI, nI_eq, nI_clamp, nm_or, nm_and, nm_xor, nm_nd, nm_one, nm_shr, nm_b2, Bool.false_eq_true, Bool.true_eq_false, not_false_eq_true, not_true_eq_false, reduceCtorEq]; done) | (simp (disch := omega) only [wI_I, wI_s, nI_add, pk_mul, nI_ltI, nI_leI, nI_eq, nI_clamp, nm_or, nm_and, nm_xor, nm_nd, nm_one, nm_shr, nm_b2, Bool.false_eq_true, Bool.true_eq_false, not_false_eq_true, not_true_eq_false, reduceCtorEq]; omega) | omega)) ?_)
  refine wp_rIe e1 ?_
  repeat (first | refine wp_isC (by assumption) ?_ | refine wp_nnR (by assumption) ?_ | refine wp_inA (by assumption) rfl (by omega) (by omega) ?_ | refine wp_isZ (by decide) ?_ | refine wp_bt (by (first | (simp (disch := omega) only [wI_I, wI_s, nI_add, pk_mul, nI_ltI, nI_leI, nI_eq, nI_clamp, nm_or, nm_and, nm_xor, nm_nd, nm_one, nm_shr, nm_b2, Bool.false_eq_true, Bool.true_eq_false, not_false_eq_true, not_true_eq_false, reduceCtorEq]; done) | (simp (disch := omega) only [wI_I, wI_s, nI_add, pk_mul, nI_ltI, nI_leI, nI_eq, nI_clamp, nm_or, nm_and, nm_xor, nm_nd, nm_one, nm_shr, nm_b2, Bool.false_eq_true, Bool.true_eq_false, not_false_eq_true, not_true_eq_false, reduceCtorEq]; omega) | omega)) ?_ | refine wp_bf (by (first | (simp (disch := omega) only [wI_I, wI_s, nI_add, pk_mul, nI_ltI, nI_leI, nI_eq, nI_clamp, nm_or, nm_and, nm_xor, nm_nd, nm_one, nm_shr, nm_b2, Bool.false_eq_true, Bool.true_eq_false, not_false_eq_true, not_true_eq_false, reduceCtorEq]; done) | (simp (disch := omega) only [wI_I, wI_s, nI_add, pk_mul, nI_ltI, nI_leI, nI_eq, nI_clamp, nm_or, nm_and, nm_xor, nm_nd, nm_one, nm_shr, nm_b2, Bool.false_eq_true, Bool.true_eq_false, not_false_eq_true, not_true_eq_false, reduceCtorEq]; omega) | omega)) ?_)
  simp (disch := omega) only [wI_I, wI_s, nI_add, pk_mul, nI_ltI, nI_leI, nI_eq, nI_clamp, nm_or, nm_and, nm_xor, nm_nd, nm_one, nm_shr, nm_b2, Bool.false_eq_true, Bool.true_eq_false, not_false_eq_true, not_true_eq_false, reduceCtorEq, k1]
  refine wp_rRe e2 ?_
  repeat (first | refine wp_isC (by assumption) ?_ | refine wp_nnR (by assumption) ?_ | refine wp_inA (by assumption) rfl (by omega) (by omega) ?_ | refine wp_isZ (by decide) ?_ | refine wp_bt (by (first | (simp (disch := omega) only [wI_I, wI_s, nI_add, pk_mul, nI_ltI, nI_leI, nI_eq, nI_clamp, nm_or, nm_and, nm_xor, nm_nd, nm_one, nm_shr, nm_b2, Bool.false_eq_true, Bool.true_eq_false, not_false_eq_true, not_true_eq_false, reduceCtorEq]; done) | (simp (disch := omega) only [wI_I, wI_s, nI_add, pk_mul, nI_ltI, nI_leI, nI_eq, nI_clamp, nm_or, nm_and, nm_xor, nm_nd, nm_one, nm_shr, nm_b2, Bool.false_eq_true, Bool.true_eq_false, not_false_eq_true, not_true_eq_false, reduceCtorEq]; omega) | omega)) ?_ | refine wp_bf (by (first | (simp (disch := omega) only [wI_I, wI_s, nI_add, pk_mul, nI_ltI, nI_leI, nI_eq, nI_clamp, nm_or, nm_and, nm_xor, nm_nd, nm_one, nm_shr, nm_b2, Bool.false_eq_true, Bool.true_eq_false, not_false_eq_true, not_true_eq_false, reduceCtorEq]; done) | (simp (disch := omega) only [wI_I, wI_s, nI_add, pk_mul, nI_ltI, nI_leI, nI_eq, nI_clamp, nm_or, nm_and, nm_xor, nm_nd, nm_one, nm_shr, nm_b2, Bool.false_eq_true, Bool.true_eq_false, not_false_eq_true, not_true_eq_false, reduceCtorEq]; omega) | omega)) ?_)
  simp (disch := omega) only [wI_I, wI_s, nI_add, pk_mul, nI_ltI, nI_leI, nI_eq, nI_clamp, nm_or, nm_and, nm_xor, nm_nd, nm_one, nm_shr, nm_b2, Bool.false_eq_true, Bool.true_eq_false, not_false_eq_true, not_true_eq_false, reduceCtorEq, k2, k3]
  refine wp_rIe e3 ?_
  show wp (br (nI (fb v G e).toNat = nI 0) _ _) _
  cases fb v G e with
  | true => exact wp_bf (by decide) (wp_s ⟨rfl, rfl⟩)
  | false => exact wp_bt (by decide) (wp_s ⟨rfl, rfl⟩)
theorem tr_lay {h : MH} {t v : Nat} {G : Nat → Nat} (T : TS h t) (V : GW (2 ^ v) G) (h1 : 1 ≤ v) (h4 : v ≤ 4) : ∀ m k f Q, k + m = 341 → TF f t v G → QF f t Q → QI v (fb v G) k Q →
    wp (ev M_Tree_layBits 0 11 [some (.ref t), some (.int (nI k))] [] (wI h f)) (fun r h' => ∃ f', r = none ∧ h' = wI h f' ∧ QF f' t (bq v (fb v G) m k Q) ∧ FQ t f f') := by
  obtain ⟨t1, t2, t3, t4, t5, t6, t7, t8, t9, t10, t11, t12, t13, t14⟩ := id T
  intro m
  induction m with
  | zero => intro k f Q hk F B I; exact absurd (QI_len I h4) (by have := I.1; omega)
  | succ m ih =>
    intro k f Q hk F B I
    have hl := QI_len I h4
    have hk2 := I.1
    have b4 := B.1
    have f5 := F.1
    rw [r_Tree_layBits_11]
    simp only [r_Tree_layBits_51]
    rw [bq]
    cases e : Q[k]? with
    | none =>
      have : Q.length ≤ k := List.getElem?_eq_none_iff.mp e
      repeat (first | refine wp_isC (by assumption) ?_ | refine wp_nnR (by assumption) ?_ | refine wp_inA (by assumption) rfl (by omega) (by omega) ?_ | refine wp_isZ (by decide) ?_ | refine wp_bt (by (first | (simp (disch := omega) only [wI_I, wI_s, nI_add, pk_mul, nI_ltI, nI_leI, nI_eq, nI_clamp, nm_or, nm_and, nm_xor, nm_nd, nm_one, nm_shr, nm_b2, Bool.false_eq_true, Bool.true_eq_false, not_false_eq_true, not_true_eq_false, reduceCtorEq, b4]; done) | (simp (disch := omega) only [wI_I, wI_s, nI_add, pk_mul, nI_ltI, nI_leI, nI_eq, nI_clamp, nm_or, nm_and, nm_xor, nm_nd, nm_one, nm_shr, nm_b2, Bool.false_eq_true, Bool.true_eq_false, not_false_eq_true, not_true_eq_false, reduceCtorEq, b4]; omega) | omega)) ?_ | refine wp_bf (by (first | (simp (disch := omega) only [wI_I, wI_s, nI_add, pk_mul, nI_ltI, nI_leI, nI_eq, nI_clamp, nm_or, nm_and, nm_xor, nm_nd, nm_one, nm_shr, nm_b2, Bool.false_eq_true, Bool.true_eq_false, not_false_eq_true, not_true_eq_false, reduceCtorEq, b4]; done) | (simp (disch := omega) only [wI_I, wI_s, nI_add, pk_mul, nI_ltI, nI_leI, nI_eq, nI_clamp, nm_or, nm_and, nm_xor, nm_nd, nm_one, nm_shr, nm_b2, Bool.false_eq_true, Bool.true_eq_false, not_false_eq_true, not_true_eq_false, reduceCtorEq, b4]; omega) | omega)) ?_)
      exact wp_s ⟨f, rfl, rfl, B, FQ.rf⟩
    | some e1 =>
      have hk3 : k < Q.length := (List.getElem?_eq_some_iff.mp e).1
      obtain ⟨k1, k2, k3⟩ := B.2 k e1 e
      have o := I.2.1 e1 (List.mem_of_getElem? e)
      have I2 := QI_next I e
      have o2 := o.2.1
      have hb := tr_bit T F V h4 B hl e o
      dsimp only
      by_cases q : e1.1 < v
      · repeat (first | refine wp_isC (by assumption) ?_ | refine wp_nnR (by assumption) ?_ | refine wp_inA (by assumption) rfl (by omega) (by omega) ?_ | refine wp_isZ (by decide) ?_ | refine wp_bt (by (first | (simp (disch := omega) only [wI_I, wI_s, nI_add, pk_mul, nI_ltI, nI_leI, nI_eq, nI_clamp, nm_or, nm_and, nm_xor, nm_nd, nm_one, nm_shr, nm_b2, Bool.false_eq_true, Bool.true_eq_false, not_false_eq_true, not_true_eq_false, reduceCtorEq, b4, k1, f5]; done) | (simp (disch := omega) only [wI_I, wI_s, nI_add, pk_mul, nI_ltI, nI_leI, nI_eq, nI_clamp, nm_or, nm_and, nm_xor, nm_nd, nm_one, nm_shr, nm_b2, Bool.false_eq_true, Bool.true_eq_false, not_false_eq_true, not_true_eq_false, reduceCtorEq, b4, k1, f5]; omega) | omega)) ?_ | refine wp_bf (by (first | (simp (disch := omega) only [wI_I, wI_s, nI_add, pk_mul, nI_ltI, nI_leI, nI_eq, nI_clamp, nm_or, nm_and, nm_xor, nm_nd, nm_one, nm_shr, nm_b2, Bool.false_eq_true, Bool.true_eq_false, not_false_eq_true, not_true_eq_false, reduceCtorEq, b4, k1, f5]; done) | (simp (disch := omega) only [wI_I, wI_s, nI_add, pk_mul, nI_ltI, nI_leI, nI_eq, nI_clamp, nm_or, nm_and, nm_xor, nm_nd, nm_one, nm_shr, nm_b2, Bool.false_eq_true, Bool.true_eq_false, not_false_eq_true, not_true_eq_false, reduceCtorEq, b4, k1, f5]; omega) | omega)) ?_)
        refine wp_rIe hb ?_
        cases q2 : fb v G e1 with
        | true =>
          rw [show qAt v (fb v G) Q e1 = Q ++ qs e1 from if_pos ⟨q, q2⟩] at I2 ⊢
          have hl2 := QI_len I2 h4
          rw [List.length_append] at hl2
          refine wp_bt rfl ?_
          repeat (first | refine wp_isC (by assumption) ?_ | refine wp_nnR (by assumption) ?_ | refine wp_inA (by assumption) rfl (by omega) (by omega) ?_ | refine wp_isZ (by decide) ?_ | refine wp_bt (by (first | (simp (disch := omega) only [wI_I, wI_s, nI_add, pk_mul, nI_ltI, nI_leI, nI_eq, nI_clamp, nm_or, nm_and, nm_xor, nm_nd, nm_one, nm_shr, nm_b2, Bool.false_eq_true, Bool.true_eq_false, not_false_eq_true, not_true_eq_false, reduceCtorEq]; done) | (simp (disch := omega) only [wI_I, wI_s, nI_add, pk_mul, nI_ltI, nI_leI, nI_eq, nI_clamp, nm_or, nm_and, nm_xor, nm_nd, nm_one, nm_shr, nm_b2, Bool.false_eq_true, Bool.true_eq_false, not_false_eq_true, not_true_eq_false, reduceCtorEq]; omega) | omega)) ?_ | refine wp_bf (by (first | (simp (disch := omega) only [wI_I, wI_s, nI_add, pk_mul, nI_ltI, nI_leI, nI_eq, nI_clamp, nm_or, nm_and, nm_xor, nm_nd, nm_one, nm_shr, nm_b2, Bool.false_eq_true, Bool.true_eq_false, not_false_eq_true, not_true_eq_false, reduceCtorEq]; done) | (simp (disch := omega) only [wI_I, wI_s, nI_add, pk_mul, nI_ltI, nI_leI, nI_eq, nI_clamp, nm_or, nm_and, nm_xor, nm_nd, nm_one, nm_shr, nm_b2, Bool.false_eq_true, Bool.true_eq_false, not_false_eq_true, not_true_eq_false, reduceCtorEq]; omega) | omega)) ?_)
          simp (disch := omega) only [wI_I, wI_s, nI_add, pk_mul, nI_ltI, nI_leI, nI_eq, nI_clamp, nm_or, nm_and, nm_xor, nm_nd, nm_one, nm_shr, nm_b2, Bool.false_eq_true, Bool.true_eq_false, not_false_eq_true, not_true_eq_false, reduceCtorEq, k1, k2, k3]
          refine wp_rV (tr_quart T B (by exact hl2)) ?_
          rintro r h' ⟨f', r1, r2, r3, r4⟩
          subst r2
          refine ⟨r1, wp_w (ih (k + 1) f' _ (by omega) (r4.F F) r3 I2) ?_⟩
          rintro r h' ⟨f2, s1, s2, s3, s4⟩
          exact ⟨f2, s1, s2, s3, r4.tr s4⟩
        | false =>
          rw [show qAt v (fb v G) Q e1 = Q from if_neg (by rw [q2]; simp)] at I2 ⊢
          refine wp_bf (by decide) ?_
          simp (disch := omega) only [wI_I, wI_s, nI_add, pk_mul, nI_ltI, nI_leI, nI_eq, nI_clamp, nm_or, nm_and, nm_xor, nm_nd, nm_one, nm_shr, nm_b2, Bool.false_eq_true, Bool.true_eq_false, not_false_eq_true, not_true_eq_false, reduceCtorEq]
          exact ih (k + 1) f Q (by omega) F B I2
      · rw [show qAt v (fb v G) Q e1 = Q from if_neg (fun z => q z.1)] at I2 ⊢
        repeat (first | refine wp_isC (by assumption) ?_ | refine wp_nnR (by assumption) ?_ | refine wp_inA (by assumption) rfl (by omega) (by omega) ?_ | refine wp_isZ (by decide) ?_ | refine wp_bt (by (first | (simp (disch := omega) only [wI_I, wI_s, nI_add, pk_mul, nI_ltI, nI_leI, nI_eq, nI_clamp, nm_or, nm_and, nm_xor, nm_nd, nm_one, nm_shr, nm_b2, Bool.false_eq_true, Bool.true_eq_false, not_false_eq_true, not_true_eq_false, reduceCtorEq, b4, k1, f5]; done) | (simp (disch := omega) only [wI_I, wI_s, nI_add, pk_mul, nI_ltI, nI_leI, nI_eq, nI_clamp, nm_or, nm_and, nm_xor, nm_nd, nm_one, nm_shr, nm_b2, Bool.false_eq_true, Bool.true_eq_false, not_false_eq_true, not_true_eq_false, reduceCtorEq, b4, k1, f5]; omega) | omega)) ?_ | refine wp_bf (by (first | (simp (disch := omega) only [wI_I, wI_s, nI_add, pk_mul, nI_ltI, nI_leI, nI_eq, nI_clamp, nm_or, nm_and, nm_xor, nm_nd, nm_one, nm_shr, nm_b2, Bool.false_eq_true, Bool.true_eq_false, not_false_eq_true, not_true_eq_false, reduceCtorEq, b4, k1, f5]; done) | (simp (disch := omega) only [wI_I, wI_s, nI_add, pk_mul, nI_ltI, nI_leI, nI_eq, nI_clamp, nm_or, nm_and, nm_xor, nm_nd, nm_one, nm_shr, nm_b2, Bool.false_eq_true, Bool.true_eq_false, not_false_eq_true, not_true_eq_false, reduceCtorEq, b4, k1, f5]; omega) | omega)) ?_)
        simp (disch := omega) only [wI_I, wI_s, nI_add, pk_mul, nI_ltI, nI_leI, nI_eq, nI_clamp, nm_or, nm_and, nm_xor, nm_nd, nm_one, nm_shr, nm_b2, Bool.false_eq_true, Bool.true_eq_false, not_false_eq_true, not_true_eq_false, reduceCtorEq]
        exact ih (k + 1) f Q (by omega) F B I2
theorem tr_bits {h : MH} {f : Nat → Nat → Int32} {t v : Nat} {G : Nat → Nat} (T : TS h t) (F : TF f t v G) (V : GW (2 ^ v) G) (h1 : 1 ≤ v) (h4 : v ≤ 4) :
    wp (ev M_Tree_layBits 0 0 [some (.ref t), none] [] (wI h f)) (fun r h' => ∃ f', r = none ∧ h' = wI h f' ∧ QF f' t (bits v (fb v G)) ∧ FQ t f f') := by
  have t1 := T.1
  rw [r_Tree_layBits_0]
  have B0 : QF (up2 f t 4 (nI 0)) t [] := ⟨up2_s, fun j e hj => by cases hj⟩
  have c0 : FQ t f (up2 f t 4 (nI 0)) := ⟨fun a ha => up2_a (by omega), fun j hj => up2_k hj⟩
  refine wp_isC t1 (wp_isC t1 ?_)
  rw [wI_s]
  refine wp_rV (tr_quart (e := (0, 0, 0)) T B0 (by decide)) ?_
  rintro r h' ⟨f', r1, r2, r3, r4⟩
  subst r2
  refine ⟨r1, wp_w (tr_lay T V h1 h4 341 0 f' _ (by omega) ((c0.tr r4).F F) r3 (QI_0 h1)) ?_⟩
  rintro r h' ⟨f2, s1, s2, s3, s4⟩
  exact ⟨f2, s1, s2, s3, (c0.tr r4).tr s4⟩
