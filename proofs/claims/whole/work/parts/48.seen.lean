/-! What is seen: told, taken back; which pairs fit. -/
theorem b01z (b : Bool) : nI b.toNat &&& 1 = nI b.toNat := by cases b <;> decide
theorem nz_n {n : Nat} (h0 : 0 < n) (h : n < 2 ^ 31) : ¬ nI n = 0 := nI_ne0 h0 h
theorem GF_up2 {f : Nat → Nat → Int32} {a k g n : Nat} {v : Int32} {G : Nat → Nat} (h1 : a ≠ g) (h2 : a ≠ g + 1) (F : GF f g n G) : GF (up2 f a k v) g n G :=
  ⟨by rw [up2_a (Ne.symm h1)]; exact F.1, fun r hr => by rw [up2_a (Ne.symm h2)]; exact F.2 r hr⟩
theorem app1 {α : Type} {l : List α} {x y : α} {i : Nat} (h : (l ++ [x])[i]? = some y) : (i < l.length ∧ l[i]? = some y) ∨ (i = l.length ∧ y = x) := by
  by_cases q : i < l.length
  · left; rw [List.getElem?_append_left q] at h; exact ⟨q, h⟩
  · right
    rw [List.getElem?_append_right (by omega)] at h
    have : i - l.length = 0 := by
      by_cases z : i - l.length = 0
      · exact z
      · rw [List.getElem?_eq_none (by simp; omega)] at h; cases h
    rw [this] at h
    have e : x = y := by simpa using h
    exact ⟨by omega, e.symm⟩
abbrev Sn : Type := Nat × Nat × Nat × Bool × Nat × Option Nat
def IS (h : MH) (s : Nat) : Prop := hC h s = 9 ∧ hR h s 4 = some (s + 1) ∧ GS h (s + 1) ∧ hR h s 5 = some (s + 3) ∧ hC h (s + 3) = 20 ∧ hN h (s + 3) = 30 ∧ hR h s 6 = some (s + 4) ∧ hC h (s + 4) = 20 ∧ hN h (s + 4) = 30 ∧ hR h s 7 = some (s + 5) ∧ hC h (s + 5) = 20 ∧ hN h (s + 5) = 30 ∧ hR h s 8 = some (s + 6) ∧ hC h (s + 6) = 20 ∧ hN h (s + 6) = 30 ∧
  hR h s 9 = some (s + 7) ∧ hC h (s + 7) = 23 ∧ hN h (s + 7) = 30 ∧ hR h s 10 = some (s + 8) ∧ hC h (s + 8) = 20 ∧ hN h (s + 8) = 30 ∧ hR h s 11 = some (s + 9) ∧ hC h (s + 9) = 20 ∧ hN h (s + 9) = 30 ∧ hR h s 13 = some (s + 10) ∧ GS h (s + 10) ∧ hR h s 14 = some (s + 12) ∧ GS h (s + 12) ∧ hR h s 15 = some (s + 14) ∧ GS h (s + 14)
/-- what is seen, in the cells: the relation as it was told, whether there is one, the entries, the time -/
def ISF (f : Nat → Nat → Int32) (s v : Nat) (G : Rw) (op : Bool) (se : List Sn) (tm : Nat) : Prop := f s 0 = nI tm ∧ f s 1 = nI se.length ∧ f s 2 = nI op.toNat ∧ f s 3 = nI v ∧ (op = true → GF f (s + 1) (2 ^ v) G) ∧
  ∀ i e, se[i]? = some e → f (s + 3) i = nI e.1 ∧ f (s + 4) i = nI e.2.1 ∧ f (s + 5) i = nI e.2.2.1 ∧ f (s + 6) i = nI (cb v e.1 G e.2.1) ∧ f (s + 7) i = nI e.2.2.2.1.toNat ∧ f (s + 8) i = nI e.2.2.2.2.1 ∧ f (s + 9) i = oI e.2.2.2.2.2
theorem sg_begin {h : MH} {f : Nat → Nat → Int32} {s p g n lv nr : Nat} {G : Rw} (S : IS h s) (p1 : hC h p = 5) (f0 : f p 0 = nI lv) (f1 : f p 1 = nI nr) (hr : nr ≤ 5) (O : GS h g) (d : s + 16 ≤ g ∨ g + 1 < s) (dp : s + 16 ≤ p ∨ p < s) (F : GF f g n G) :
    ev M_Sightings_begin 0 0 [some (.ref s), some (.ref p), some (.ref g)] [] (wI h f) = some (none, wI h (gw (up2 (up2 (up2 f s 1 (nI 0)) s 2 (nI (decide (0 < nr)).toNat)) s 3 (nI lv)) (s + 1) n G)) := by
  obtain ⟨i1, i2, i3, -⟩ := id S
  have g1 := i3.1
  have key : ∀ b : Bool, ev M_Sightings_begin 0 11 [some (.ref s), some (.ref p), some (.ref g)] [(.int (nI b.toNat)), (.ref s)] (wI h (up2 f s 1 (nI 0))) = some (none, wI h (gw (up2 (up2 (up2 f s 1 (nI 0)) s 2 (nI b.toNat)) s 3 (nI lv)) (s + 1) n G)) := by
    intro b
    rw [r_Sightings_begin_11]
    apply wp_e
    repeat (first | refine wp_isC (by assumption) ?_ | refine wp_nnR (by assumption) ?_ | refine wp_inA (by assumption) rfl (by omega) (by omega) ?_ | refine wp_isZ (by first | decide | exact b01z _) ?_ | refine wp_bt (by (first | (simp (disch := omega) only [wI_I, wI_s, nI_add, pk_mul, nI_ltI, nI_leI, nI_eq, nI_clamp, nm_or, nm_and, nm_xor, nm_nd, nm_one, nm_shr, nm_b2, Bool.false_eq_true, Bool.true_eq_false, not_false_eq_true, not_true_eq_false, reduceCtorEq, f0]; done) | (simp (disch := omega) only [wI_I, wI_s, nI_add, pk_mul, nI_ltI, nI_leI, nI_eq, nI_clamp, nm_or, nm_and, nm_xor, nm_nd, nm_one, nm_shr, nm_b2, Bool.false_eq_true, Bool.true_eq_false, not_false_eq_true, not_true_eq_false, reduceCtorEq, f0]; omega) | omega)) ?_ | refine wp_bf (by (first | (simp (disch := omega) only [wI_I, wI_s, nI_add, pk_mul, nI_ltI, nI_leI, nI_eq, nI_clamp, nm_or, nm_and, nm_xor, nm_nd, nm_one, nm_shr, nm_b2, Bool.false_eq_true, Bool.true_eq_false, not_false_eq_true, not_true_eq_false, reduceCtorEq, f0]; done) | (simp (disch := omega) only [wI_I, wI_s, nI_add, pk_mul, nI_ltI, nI_leI, nI_eq, nI_clamp, nm_or, nm_and, nm_xor, nm_nd, nm_one, nm_shr, nm_b2, Bool.false_eq_true, Bool.true_eq_false, not_false_eq_true, not_true_eq_false, reduceCtorEq, f0]; omega) | omega)) ?_ | refine wp_nz (by first | decide | exact nz_n (by omega) (by omega)) ?_ | (simp (disch := omega) only [wI_I, wI_s, nI_add, pk_mul, nI_ltI, nI_leI, nI_eq, nI_clamp, nm_or, nm_and, nm_xor, nm_nd, nm_one, nm_shr, nm_b2, Bool.false_eq_true, Bool.true_eq_false, not_false_eq_true, not_true_eq_false, reduceCtorEq, up2_a, up2_k, up2_s, gw_o, f0]))
    refine wp_rVe (gq_copy i3 O (by omega) ?_) (wp_s ⟨rfl, rfl⟩)
    (repeat (refine GF_up2 (by omega) (by omega) ?_)); exact F
  rw [r_Sightings_begin_0]
  apply wp_e
  refine wp_isC i1 (wp_isC p1 ?_)
  simp (disch := omega) only [wI_I, wI_s, nI_add, pk_mul, nI_ltI, nI_leI, nI_eq, nI_clamp, nm_or, nm_and, nm_xor, nm_nd, nm_one, nm_shr, nm_b2, Bool.false_eq_true, Bool.true_eq_false, not_false_eq_true, not_true_eq_false, reduceCtorEq, up2_a, up2_k, up2_s, gw_o, f1]
  by_cases q : 0 < nr
  · refine wp_bt (by omega) ?_
    have := key true
    rw [decide_eq_true q]
    exact wp_of this ⟨rfl, rfl⟩
  · refine wp_bf (by omega) ?_
    have := key false
    rw [decide_eq_false q]
    exact wp_of this ⟨rfl, rfl⟩
theorem sg_tell {h : MH} {f : Nat → Nat → Int32} {s v tm l b m : Nat} {is : Bool} {G : Rw} {se : List Sn} (S : IS h s) (I : ISF f s v G true se tm) (V : GW (2 ^ v) G) (hv : v ≤ 4) (hl : l ≤ v) (hb : b < 2 ^ (2 * l)) (hs : se.length < 30) :
    ∃ f', ev M_Sightings_tell 0 0 [some (.ref s), some (.int (nI l)), some (.int (nI b)), some (.int (nI m)), some (.int (nI is.toNat))] [] (wI h f) = some (some (.int (nI se.length)), wI h f') ∧ ISF f' s v G true (se ++ [(l, b, m, is, tm, none)]) tm ∧ Fr s (s + 16) f f' := by
  obtain ⟨i1, i4, j4, i5, c5, n5, i6, c6, n6, i7, c7, n7, i8, c8, n8, i9, c9, n9, i10, c10, n10, i11, c11, n11, -⟩ := id S
  obtain ⟨t0, t1, t2, t3, t4, t5⟩ := id I
  have F := t4 rfl
  have g1 := j4.1
  refine ⟨up2 (up2 (up2 (up2 (up2 (up2 (up2 (up2 f (s + 3) se.length (nI l)) (s + 4) se.length (nI b)) (s + 5) se.length (nI m)) (s + 6) se.length (nI (cb v l G b))) (s + 7) se.length (nI is.toNat)) (s + 8) se.length (nI tm)) (s + 9) se.length (mI 1)) s 1 (nI (se.length + 1)), ?_, ?_, ?_⟩
  · rw [r_Sightings_tell_0]
    apply wp_e
    refine wp_isC i1 ?_
    simp (disch := omega) only [wI_I, wI_s, nI_add, pk_mul, nI_ltI, nI_leI, nI_eq, nI_clamp, nm_or, nm_and, nm_xor, nm_nd, nm_one, nm_shr, nm_b2, Bool.false_eq_true, Bool.true_eq_false, not_false_eq_true, not_true_eq_false, reduceCtorEq, up2_a, up2_k, up2_s, gw_o, t1]
    refine wp_bt (by omega) ?_
    repeat (first | refine wp_isC (by assumption) ?_ | refine wp_nnR (by assumption) ?_ | refine wp_inA (by assumption) rfl (by omega) (by omega) ?_ | refine wp_isZ (by first | decide | exact b01z _) ?_ | refine wp_bt (by (first | (simp (disch := omega) only [wI_I, wI_s, nI_add, pk_mul, nI_ltI, nI_leI, nI_eq, nI_clamp, nm_or, nm_and, nm_xor, nm_nd, nm_one, nm_shr, nm_b2, Bool.false_eq_true, Bool.true_eq_false, not_false_eq_true, not_true_eq_false, reduceCtorEq, t0, t1, t3]; done) | (simp (disch := omega) only [wI_I, wI_s, nI_add, pk_mul, nI_ltI, nI_leI, nI_eq, nI_clamp, nm_or, nm_and, nm_xor, nm_nd, nm_one, nm_shr, nm_b2, Bool.false_eq_true, Bool.true_eq_false, not_false_eq_true, not_true_eq_false, reduceCtorEq, t0, t1, t3]; omega) | omega)) ?_ | refine wp_bf (by (first | (simp (disch := omega) only [wI_I, wI_s, nI_add, pk_mul, nI_ltI, nI_leI, nI_eq, nI_clamp, nm_or, nm_and, nm_xor, nm_nd, nm_one, nm_shr, nm_b2, Bool.false_eq_true, Bool.true_eq_false, not_false_eq_true, not_true_eq_false, reduceCtorEq, t0, t1, t3]; done) | (simp (disch := omega) only [wI_I, wI_s, nI_add, pk_mul, nI_ltI, nI_leI, nI_eq, nI_clamp, nm_or, nm_and, nm_xor, nm_nd, nm_one, nm_shr, nm_b2, Bool.false_eq_true, Bool.true_eq_false, not_false_eq_true, not_true_eq_false, reduceCtorEq, t0, t1, t3]; omega) | omega)) ?_ | refine wp_nz (by first | decide | exact nz_n (by omega) (by omega)) ?_ | (simp (disch := omega) only [wI_I, wI_s, nI_add, pk_mul, nI_ltI, nI_leI, nI_eq, nI_clamp, nm_or, nm_and, nm_xor, nm_nd, nm_one, nm_shr, nm_b2, Bool.false_eq_true, Bool.true_eq_false, not_false_eq_true, not_true_eq_false, reduceCtorEq, up2_a, up2_k, up2_s, gw_o, t0, t1, t3]))
    refine wp_rIe (gq_blk j4 (f := up2 (up2 (up2 f (s + 3) se.length (nI l)) (s + 4) se.length (nI b)) (s + 5) se.length (nI m)) ?_ V hv hl hb) ?_
    · (repeat (refine GF_up2 (by omega) (by omega) ?_)); exact F
    repeat (first | refine wp_isC (by assumption) ?_ | refine wp_nnR (by assumption) ?_ | refine wp_inA (by assumption) rfl (by omega) (by omega) ?_ | refine wp_isZ (by first | decide | exact b01z _) ?_ | refine wp_bt (by (first | (simp (disch := omega) only [wI_I, wI_s, nI_add, pk_mul, nI_ltI, nI_leI, nI_eq, nI_clamp, nm_or, nm_and, nm_xor, nm_nd, nm_one, nm_shr, nm_b2, Bool.false_eq_true, Bool.true_eq_false, not_false_eq_true, not_true_eq_false, reduceCtorEq, t0, t1, t3, b01z]; done) | (simp (disch := omega) only [wI_I, wI_s, nI_add, pk_mul, nI_ltI, nI_leI, nI_eq, nI_clamp, nm_or, nm_and, nm_xor, nm_nd, nm_one, nm_shr, nm_b2, Bool.false_eq_true, Bool.true_eq_false, not_false_eq_true, not_true_eq_false, reduceCtorEq, t0, t1, t3, b01z]; omega) | omega)) ?_ | refine wp_bf (by (first | (simp (disch := omega) only [wI_I, wI_s, nI_add, pk_mul, nI_ltI, nI_leI, nI_eq, nI_clamp, nm_or, nm_and, nm_xor, nm_nd, nm_one, nm_shr, nm_b2, Bool.false_eq_true, Bool.true_eq_false, not_false_eq_true, not_true_eq_false, reduceCtorEq, t0, t1, t3, b01z]; done) | (simp (disch := omega) only [wI_I, wI_s, nI_add, pk_mul, nI_ltI, nI_leI, nI_eq, nI_clamp, nm_or, nm_and, nm_xor, nm_nd, nm_one, nm_shr, nm_b2, Bool.false_eq_true, Bool.true_eq_false, not_false_eq_true, not_true_eq_false, reduceCtorEq, t0, t1, t3, b01z]; omega) | omega)) ?_ | refine wp_nz (by first | decide | exact nz_n (by omega) (by omega)) ?_ | (simp (disch := omega) only [wI_I, wI_s, nI_add, pk_mul, nI_ltI, nI_leI, nI_eq, nI_clamp, nm_or, nm_and, nm_xor, nm_nd, nm_one, nm_shr, nm_b2, Bool.false_eq_true, Bool.true_eq_false, not_false_eq_true, not_true_eq_false, reduceCtorEq, up2_a, up2_k, up2_s, gw_o, t0, t1, t3, b01z]))
    refine wp_s ⟨?_, rfl⟩
    rw [pk_sub (by omega), Nat.add_sub_cancel]
  · refine ⟨?_, ?_, ?_, ?_, fun _ => ?_, ?_⟩
    · simp (disch := omega) only [wI_I, wI_s, nI_add, pk_mul, nI_ltI, nI_leI, nI_eq, nI_clamp, nm_or, nm_and, nm_xor, nm_nd, nm_one, nm_shr, nm_b2, Bool.false_eq_true, Bool.true_eq_false, not_false_eq_true, not_true_eq_false, reduceCtorEq, up2_a, up2_k, up2_s, gw_o]; exact t0
    · rw [up2_s, List.length_append]; rfl
    · simp (disch := omega) only [wI_I, wI_s, nI_add, pk_mul, nI_ltI, nI_leI, nI_eq, nI_clamp, nm_or, nm_and, nm_xor, nm_nd, nm_one, nm_shr, nm_b2, Bool.false_eq_true, Bool.true_eq_false, not_false_eq_true, not_true_eq_false, reduceCtorEq, up2_a, up2_k, up2_s, gw_o]; exact t2
    · simp (disch := omega) only [wI_I, wI_s, nI_add, pk_mul, nI_ltI, nI_leI, nI_eq, nI_clamp, nm_or, nm_and, nm_xor, nm_nd, nm_one, nm_shr, nm_b2, Bool.false_eq_true, Bool.true_eq_false, not_false_eq_true, not_true_eq_false, reduceCtorEq, up2_a, up2_k, up2_s, gw_o]; exact t3
    · (repeat (refine GF_up2 (by omega) (by omega) ?_)); exact F
    · intro i e he
      rcases app1 he with ⟨q, q2⟩ | ⟨q, q2⟩
      · obtain ⟨w1, w2, w3, w4, w5, w6, w7⟩ := t5 i e q2
        refine ⟨?_, ?_, ?_, ?_, ?_, ?_, ?_⟩ <;> simp (disch := omega) only [wI_I, wI_s, nI_add, pk_mul, nI_ltI, nI_leI, nI_eq, nI_clamp, nm_or, nm_and, nm_xor, nm_nd, nm_one, nm_shr, nm_b2, Bool.false_eq_true, Bool.true_eq_false, not_false_eq_true, not_true_eq_false, reduceCtorEq, up2_a, up2_k, up2_s, gw_o] <;> assumption
      · subst q; subst q2
        refine ⟨?_, ?_, ?_, ?_, ?_, ?_, ?_⟩ <;> (try simp (disch := omega) only [wI_I, wI_s, nI_add, pk_mul, nI_ltI, nI_leI, nI_eq, nI_clamp, nm_or, nm_and, nm_xor, nm_nd, nm_one, nm_shr, nm_b2, Bool.false_eq_true, Bool.true_eq_false, not_false_eq_true, not_true_eq_false, reduceCtorEq, up2_a, up2_k, up2_s, gw_o]) <;> rfl
  · intro a ha
    simp (disch := omega) only [wI_I, wI_s, nI_add, pk_mul, nI_ltI, nI_leI, nI_eq, nI_clamp, nm_or, nm_and, nm_xor, nm_nd, nm_one, nm_shr, nm_b2, Bool.false_eq_true, Bool.true_eq_false, not_false_eq_true, not_true_eq_false, reduceCtorEq, up2_a, up2_k, up2_s, gw_o]
theorem sg_tell0 {h : MH} {f : Nat → Nat → Int32} {s v tm : Nat} {x y z w : Int32} {G : Rw} {op : Bool} {se : List Sn} (S : IS h s) (I : ISF f s v G op se tm) (hs : se.length = 30) :
    ev M_Sightings_tell 0 0 [some (.ref s), some (.int x), some (.int y), some (.int z), some (.int w)] [] (wI h f) = some (some (.int (mI 1)), wI h f) := by
  obtain ⟨t0, t1, -⟩ := id I
  have i1 := S.1
  rw [r_Sightings_tell_0]
  apply wp_e
  refine wp_isC i1 ?_
  simp (disch := omega) only [wI_I, wI_s, nI_add, pk_mul, nI_ltI, nI_leI, nI_eq, nI_clamp, nm_or, nm_and, nm_xor, nm_nd, nm_one, nm_shr, nm_b2, Bool.false_eq_true, Bool.true_eq_false, not_false_eq_true, not_true_eq_false, reduceCtorEq, up2_a, up2_k, up2_s, gw_o, t1]
  refine wp_bf (by omega) (wp_s ⟨rfl, rfl⟩)
/-- an entry taken back at a time -/
def unt (tm : Nat) (e : Sn) : Sn := (e.1, e.2.1, e.2.2.1, e.2.2.2.1, e.2.2.2.2.1, some tm)
def ut (tm : Nat) : List Sn → Nat → List Sn
  | [], _ => []
  | e :: l, 0 => unt tm e :: l
  | e :: l, i + 1 => e :: ut tm l i
theorem ut_len (tm : Nat) : ∀ (l : List Sn) (i : Nat), (ut tm l i).length = l.length
  | [], _ => rfl
  | _ :: _, 0 => rfl
  | _ :: l, i + 1 => congrArg (· + 1) (ut_len tm l i)
theorem ut_get (tm : Nat) : ∀ (l : List Sn) (i j : Nat), (ut tm l i)[j]? = if j = i then (l[j]?).map (unt tm) else l[j]?
  | [], i, j => by simp [ut]
  | e :: l, 0, j => by
    cases j with
    | zero => rfl
    | succ j => rfl
  | e :: l, i + 1, j => by
    cases j with
    | zero => rfl
    | succ j =>
      show (ut tm l i)[j]? = if j + 1 = i + 1 then (l[j]?).map (unt tm) else l[j]?
      rw [ut_get tm l i j]
      by_cases q : j = i
      · rw [if_pos q, if_pos (by omega)]
      · rw [if_neg q, if_neg (by omega)]
theorem oI_m1 {o : Option Nat} (h : ∀ k, o = some k → k < 2 ^ 31) : oI o = mI 1 ↔ o = none := by
  cases o with
  | none => exact ⟨fun _ => rfl, fun _ => rfl⟩
  | some k =>
    constructor
    · intro e
      exfalso
      have e : nI k = mI 1 := e
      have h1 := nI_pos (h k rfl)
      rw [e] at h1
      exact h1 mI_neg
    · intro e; cases e
/-- whether entry x can be taken back -/
def utOk (se : List Sn) (x : Int32) : Bool := if x < nI 0 then false else match se[x.toNatClampNeg]? with
  | some e => e.2.2.2.2.2.isNone
  | none => false
theorem sg_untell {h : MH} {f : Nat → Nat → Int32} {s v tm : Nat} {x : Int32} {G : Rw} {op : Bool} {se : List Sn} (S : IS h s) (I : ISF f s v G op se tm) (hs : se.length ≤ 30) (hu : ∀ e, e ∈ se → ∀ k, e.2.2.2.2.2 = some k → k < 2 ^ 31) :
    ∃ f', ev M_Sightings_takeBack 0 0 [some (.ref s), some (.int x)] [] (wI h f) = some (some (.int (nI (utOk se x).toNat)), wI h f') ∧ ISF f' s v G op (if utOk se x then ut tm se x.toNatClampNeg else se) tm ∧ Fr s (s + 16) f f' := by
  obtain ⟨i1, i4, j4, i5, c5, n5, i6, c6, n6, i7, c7, n7, i8, c8, n8, i9, c9, n9, i10, c10, n10, i11, c11, n11, -⟩ := id S
  obtain ⟨t0, t1, t2, t3, t4, t5⟩ := id I
  by_cases q : x < nI 0
  · have e : utOk se x = false := if_pos q
    rw [e, if_neg (by decide)]
    refine ⟨f, ?_, I, Fr.rf⟩
    rw [r_Sightings_takeBack_0]
    apply wp_e
    exact wp_bt q (wp_isZ (by decide) (wp_s ⟨rfl, rfl⟩))
  · obtain ⟨j, hj, e⟩ := nI_of q
    subst e
    have eu : utOk se (nI j) = match se[j]? with
      | some e => e.2.2.2.2.2.isNone
      | none => false := by unfold utOk; rw [if_neg q, nI_clamp hj]
    rw [nI_clamp hj]
    by_cases q2 : j < se.length
    · obtain ⟨e, he⟩ : ∃ e, se[j]? = some e := ⟨_, List.getElem?_eq_getElem q2⟩
      obtain ⟨w1, w2, w3, w4, w5, w6, w7⟩ := t5 j e he
      rw [he] at eu
      have hm := oI_m1 (hu e (List.mem_of_getElem? he))
      by_cases q3 : e.2.2.2.2.2 = none
      · have eu : utOk se (nI j) = true := by rw [eu]; show e.2.2.2.2.2.isNone = true; rw [q3]; rfl
        rw [eu, if_pos rfl]
        refine ⟨up2 f (s + 9) j (nI tm), ?_, ⟨?_, ?_, ?_, ?_, fun z => GF_up2 (by omega) (by omega) (t4 z), ?_⟩, Fr.u2 (by omega) (by omega)⟩
        · rw [r_Sightings_takeBack_0]
          apply wp_e
          refine wp_bf q ?_
          repeat (first | refine wp_isC (by assumption) ?_ | refine wp_nnR (by assumption) ?_ | refine wp_inA (by assumption) rfl (by omega) (by omega) ?_ | refine wp_isZ (by first | decide | exact b01z _) ?_ | refine wp_bt (by (first | (simp (disch := omega) only [wI_I, wI_s, nI_add, pk_mul, nI_ltI, nI_leI, nI_eq, nI_clamp, nm_or, nm_and, nm_xor, nm_nd, nm_one, nm_shr, nm_b2, Bool.false_eq_true, Bool.true_eq_false, not_false_eq_true, not_true_eq_false, reduceCtorEq, t1]; done) | (simp (disch := omega) only [wI_I, wI_s, nI_add, pk_mul, nI_ltI, nI_leI, nI_eq, nI_clamp, nm_or, nm_and, nm_xor, nm_nd, nm_one, nm_shr, nm_b2, Bool.false_eq_true, Bool.true_eq_false, not_false_eq_true, not_true_eq_false, reduceCtorEq, t1]; omega) | omega)) ?_ | refine wp_bf (by (first | (simp (disch := omega) only [wI_I, wI_s, nI_add, pk_mul, nI_ltI, nI_leI, nI_eq, nI_clamp, nm_or, nm_and, nm_xor, nm_nd, nm_one, nm_shr, nm_b2, Bool.false_eq_true, Bool.true_eq_false, not_false_eq_true, not_true_eq_false, reduceCtorEq, t1]; done) | (simp (disch := omega) only [wI_I, wI_s, nI_add, pk_mul, nI_ltI, nI_leI, nI_eq, nI_clamp, nm_or, nm_and, nm_xor, nm_nd, nm_one, nm_shr, nm_b2, Bool.false_eq_true, Bool.true_eq_false, not_false_eq_true, not_true_eq_false, reduceCtorEq, t1]; omega) | omega)) ?_ | refine wp_nz (by first | decide | exact nz_n (by omega) (by omega)) ?_ | (simp (disch := omega) only [wI_I, wI_s, nI_add, pk_mul, nI_ltI, nI_leI, nI_eq, nI_clamp, nm_or, nm_and, nm_xor, nm_nd, nm_one, nm_shr, nm_b2, Bool.false_eq_true, Bool.true_eq_false, not_false_eq_true, not_true_eq_false, reduceCtorEq, up2_a, up2_k, up2_s, gw_o, t1]))
          refine wp_bt (by rw [w7, q3]; rfl) ?_
          repeat (first | refine wp_isC (by assumption) ?_ | refine wp_nnR (by assumption) ?_ | refine wp_inA (by assumption) rfl (by omega) (by omega) ?_ | refine wp_isZ (by first | decide | exact b01z _) ?_ | refine wp_bt (by (first | (simp (disch := omega) only [wI_I, wI_s, nI_add, pk_mul, nI_ltI, nI_leI, nI_eq, nI_clamp, nm_or, nm_and, nm_xor, nm_nd, nm_one, nm_shr, nm_b2, Bool.false_eq_true, Bool.true_eq_false, not_false_eq_true, not_true_eq_false, reduceCtorEq, t0]; done) | (simp (disch := omega) only [wI_I, wI_s, nI_add, pk_mul, nI_ltI, nI_leI, nI_eq, nI_clamp, nm_or, nm_and, nm_xor, nm_nd, nm_one, nm_shr, nm_b2, Bool.false_eq_true, Bool.true_eq_false, not_false_eq_true, not_true_eq_false, reduceCtorEq, t0]; omega) | omega)) ?_ | refine wp_bf (by (first | (simp (disch := omega) only [wI_I, wI_s, nI_add, pk_mul, nI_ltI, nI_leI, nI_eq, nI_clamp, nm_or, nm_and, nm_xor, nm_nd, nm_one, nm_shr, nm_b2, Bool.false_eq_true, Bool.true_eq_false, not_false_eq_true, not_true_eq_false, reduceCtorEq, t0]; done) | (simp (disch := omega) only [wI_I, wI_s, nI_add, pk_mul, nI_ltI, nI_leI, nI_eq, nI_clamp, nm_or, nm_and, nm_xor, nm_nd, nm_one, nm_shr, nm_b2, Bool.false_eq_true, Bool.true_eq_false, not_false_eq_true, not_true_eq_false, reduceCtorEq, t0]; omega) | omega)) ?_ | refine wp_nz (by first | decide | exact nz_n (by omega) (by omega)) ?_ | (simp (disch := omega) only [wI_I, wI_s, nI_add, pk_mul, nI_ltI, nI_leI, nI_eq, nI_clamp, nm_or, nm_and, nm_xor, nm_nd, nm_one, nm_shr, nm_b2, Bool.false_eq_true, Bool.true_eq_false, not_false_eq_true, not_true_eq_false, reduceCtorEq, up2_a, up2_k, up2_s, gw_o, t0]))
          exact wp_s ⟨rfl, rfl⟩
        · simp (disch := omega) only [wI_I, wI_s, nI_add, pk_mul, nI_ltI, nI_leI, nI_eq, nI_clamp, nm_or, nm_and, nm_xor, nm_nd, nm_one, nm_shr, nm_b2, Bool.false_eq_true, Bool.true_eq_false, not_false_eq_true, not_true_eq_false, reduceCtorEq, up2_a, up2_k, up2_s, gw_o]; exact t0
        · simp (disch := omega) only [wI_I, wI_s, nI_add, pk_mul, nI_ltI, nI_leI, nI_eq, nI_clamp, nm_or, nm_and, nm_xor, nm_nd, nm_one, nm_shr, nm_b2, Bool.false_eq_true, Bool.true_eq_false, not_false_eq_true, not_true_eq_false, reduceCtorEq, up2_a, up2_k, up2_s, gw_o]; rw [ut_len]; exact t1
        · simp (disch := omega) only [wI_I, wI_s, nI_add, pk_mul, nI_ltI, nI_leI, nI_eq, nI_clamp, nm_or, nm_and, nm_xor, nm_nd, nm_one, nm_shr, nm_b2, Bool.false_eq_true, Bool.true_eq_false, not_false_eq_true, not_true_eq_false, reduceCtorEq, up2_a, up2_k, up2_s, gw_o]; exact t2
        · simp (disch := omega) only [wI_I, wI_s, nI_add, pk_mul, nI_ltI, nI_leI, nI_eq, nI_clamp, nm_or, nm_and, nm_xor, nm_nd, nm_one, nm_shr, nm_b2, Bool.false_eq_true, Bool.true_eq_false, not_false_eq_true, not_true_eq_false, reduceCtorEq, up2_a, up2_k, up2_s, gw_o]; exact t3
        · intro i e' he'
          rw [ut_get] at he'
          by_cases z : i = j
          · subst z
            rw [if_pos rfl, he] at he'
            have : unt tm e = e' := by simpa using he'
            subst this
            simp (disch := omega) only [wI_I, wI_s, nI_add, pk_mul, nI_ltI, nI_leI, nI_eq, nI_clamp, nm_or, nm_and, nm_xor, nm_nd, nm_one, nm_shr, nm_b2, Bool.false_eq_true, Bool.true_eq_false, not_false_eq_true, not_true_eq_false, reduceCtorEq, up2_a, up2_k, up2_s, gw_o]
            exact ⟨w1, w2, w3, w4, w5, w6, rfl⟩
          · rw [if_neg z] at he'
            simp (disch := omega) only [wI_I, wI_s, nI_add, pk_mul, nI_ltI, nI_leI, nI_eq, nI_clamp, nm_or, nm_and, nm_xor, nm_nd, nm_one, nm_shr, nm_b2, Bool.false_eq_true, Bool.true_eq_false, not_false_eq_true, not_true_eq_false, reduceCtorEq, up2_a, up2_k, up2_s, gw_o]
            exact t5 i e' he'
      · have eu : utOk se (nI j) = false := by
          rw [eu]; show e.2.2.2.2.2.isNone = false
          cases z : e.2.2.2.2.2 with
          | none => exact absurd z q3
          | some k => rfl
        rw [eu, if_neg (by decide)]
        refine ⟨f, ?_, I, Fr.rf⟩
        rw [r_Sightings_takeBack_0]
        apply wp_e
        refine wp_bf q ?_
        repeat (first | refine wp_isC (by assumption) ?_ | refine wp_nnR (by assumption) ?_ | refine wp_inA (by assumption) rfl (by omega) (by omega) ?_ | refine wp_isZ (by first | decide | exact b01z _) ?_ | refine wp_bt (by (first | (simp (disch := omega) only [wI_I, wI_s, nI_add, pk_mul, nI_ltI, nI_leI, nI_eq, nI_clamp, nm_or, nm_and, nm_xor, nm_nd, nm_one, nm_shr, nm_b2, Bool.false_eq_true, Bool.true_eq_false, not_false_eq_true, not_true_eq_false, reduceCtorEq, t1]; done) | (simp (disch := omega) only [wI_I, wI_s, nI_add, pk_mul, nI_ltI, nI_leI, nI_eq, nI_clamp, nm_or, nm_and, nm_xor, nm_nd, nm_one, nm_shr, nm_b2, Bool.false_eq_true, Bool.true_eq_false, not_false_eq_true, not_true_eq_false, reduceCtorEq, t1]; omega) | omega)) ?_ | refine wp_bf (by (first | (simp (disch := omega) only [wI_I, wI_s, nI_add, pk_mul, nI_ltI, nI_leI, nI_eq, nI_clamp, nm_or, nm_and, nm_xor, nm_nd, nm_one, nm_shr, nm_b2, Bool.false_eq_true, Bool.true_eq_false, not_false_eq_true, not_true_eq_false, reduceCtorEq, t1]; done) | (simp (disch := omega) only [wI_I, wI_s, nI_add, pk_mul, nI_ltI, nI_leI, nI_eq, nI_clamp, nm_or, nm_and, nm_xor, nm_nd, nm_one, nm_shr, nm_b2, Bool.false_eq_true, Bool.true_eq_false, not_false_eq_true, not_true_eq_false, reduceCtorEq, t1]; omega) | omega)) ?_ | refine wp_nz (by first | decide | exact nz_n (by omega) (by omega)) ?_ | (simp (disch := omega) only [wI_I, wI_s, nI_add, pk_mul, nI_ltI, nI_leI, nI_eq, nI_clamp, nm_or, nm_and, nm_xor, nm_nd, nm_one, nm_shr, nm_b2, Bool.false_eq_true, Bool.true_eq_false, not_false_eq_true, not_true_eq_false, reduceCtorEq, up2_a, up2_k, up2_s, gw_o, t1]))
        refine wp_bf (by rw [w7, hm]; exact q3) (wp_isZ (by decide) (wp_s ⟨rfl, rfl⟩))
    · have eu : utOk se (nI j) = false := by rw [eu, List.getElem?_eq_none (by omega)]
      rw [eu, if_neg (by decide)]
      refine ⟨f, ?_, I, Fr.rf⟩
      rw [r_Sightings_takeBack_0]
      apply wp_e
      refine wp_bf q (wp_isC i1 (wp_bf ?_ (wp_isZ (by decide) (wp_s ⟨rfl, rfl⟩))))
      simp (disch := omega) only [wI_I, wI_s, nI_add, pk_mul, nI_ltI, nI_leI, nI_eq, nI_clamp, nm_or, nm_and, nm_xor, nm_nd, nm_one, nm_shr, nm_b2, Bool.false_eq_true, Bool.true_eq_false, not_false_eq_true, not_true_eq_false, reduceCtorEq, up2_a, up2_k, up2_s, gw_o, t1]
      omega
/-! fits -/
/-- whether so many in the block of an entry agree with it -/
def fz (x : Int32) (e : Sn) : Bool := decide (x = nI e.2.2.1) == e.2.2.2.1
theorem sg_fw {h : MH} {f : Nat → Nat → Int32} {s v tm i : Nat} {x : Int32} {G : Rw} {op : Bool} {se : List Sn} {e : Sn} (S : IS h s) (I : ISF f s v G op se tm) (hi : se[i]? = some e) (hs : se.length ≤ 30) :
    ev M_Sightings_fitsWith 0 0 [some (.ref s), some (.int (nI i)), some (.int x)] [] (wI h f) = some (some (.int (nI (fz x e).toNat)), wI h f) := by
  obtain ⟨i1, i4, j4, i5, c5, n5, i6, c6, n6, i7, c7, n7, i8, c8, n8, i9, c9, n9, i10, c10, n10, i11, c11, n11, -⟩ := id S
  obtain ⟨t0, t1, t2, t3, t4, t5⟩ := id I
  obtain ⟨w1, w2, w3, w4, w5, w6, w7⟩ := t5 i e hi
  have hl : i < se.length := (List.getElem?_eq_some_iff.mp hi).1
  have key : ∀ b : Bool, ev M_Sightings_fitsWith 0 10 [some (.ref s), some (.int (nI i)), none] [(.int (nI b.toNat))] (wI h f) = some (some (.int (nI (b == e.2.2.2.1).toNat)), wI h f) := by
    intro b
    rw [r_Sightings_fitsWith_10]
    apply wp_e
    refine wp_isC i1 (wp_nnR i9 (wp_isC c9 (wp_inA n9 rfl (by omega) (by omega) ?_)))
    simp (disch := omega) only [wI_I, wI_s, nI_add, pk_mul, nI_ltI, nI_leI, nI_eq, nI_clamp, nm_or, nm_and, nm_xor, nm_nd, nm_one, nm_shr, nm_b2, Bool.false_eq_true, Bool.true_eq_false, not_false_eq_true, not_true_eq_false, reduceCtorEq, up2_a, up2_k, up2_s, gw_o, w5]
    cases b <;> cases e.2.2.2.1 <;> first
      | exact wp_bt (by decide) (wp_isZ (by decide) (wp_s ⟨rfl, rfl⟩))
      | exact wp_bf (by decide) (wp_isZ (by decide) (wp_s ⟨rfl, rfl⟩))
  rw [r_Sightings_fitsWith_0]
  apply wp_e
  refine wp_isC i1 (wp_nnR i7 (wp_isC c7 (wp_inA n7 rfl (by omega) (by omega) ?_)))
  rw [wI_I, nI_clamp (by omega), w3]
  unfold fz
  by_cases q : x = nI e.2.2.1
  · rw [decide_eq_true q]
    exact wp_bt q (wp_of (key true) ⟨rfl, rfl⟩)
  · rw [decide_eq_false q]
    exact wp_bf q (wp_of (key false) ⟨rfl, rfl⟩)
/-- the columns of an entry's block in row r -/
def cmk (v l b : Nat) : Nat := (2 ^ 2 ^ (v - l) - 1) * 2 ^ (b % 2 ^ l * 2 ^ (v - l))
def ibk (v l b r : Nat) : Nat := if r / 2 ^ (v - l) = b / 2 ^ l then cmk v l b else 0
theorem cmk_lt {v l b : Nat} (hv : v ≤ 4) (hl : l ≤ v) : cmk v l b < 2 ^ 2 ^ v := by
  have h1 : b % 2 ^ l < 2 ^ l := Nat.mod_lt _ (Nat.two_pow_pos l)
  have h2 : b % 2 ^ l * 2 ^ (v - l) + 2 ^ (v - l) ≤ 2 ^ v := by
    have : (b % 2 ^ l + 1) * 2 ^ (v - l) ≤ 2 ^ l * 2 ^ (v - l) := Nat.mul_le_mul_right _ h1
    rw [← Nat.pow_add, show l + (v - l) = v by omega, Nat.add_mul, Nat.one_mul] at this
    exact this
  have h3 : cmk v l b < 2 ^ (2 ^ (v - l)) * 2 ^ (b % 2 ^ l * 2 ^ (v - l)) := by
    unfold cmk
    apply Nat.mul_lt_mul_of_pos_right _ (Nat.two_pow_pos _)
    have := Nat.two_pow_pos (2 ^ (v - l))
    omega
  rw [← Nat.pow_add] at h3
  exact Nat.lt_of_lt_of_le h3 (Nat.pow_le_pow_right (by decide) (by omega))
theorem ibk_lt {v l b r : Nat} (hv : v ≤ 4) (hl : l ≤ v) : ibk v l b r < 2 ^ 2 ^ v := by
  unfold ibk; split
  · exact cmk_lt hv hl
  · exact Nat.two_pow_pos _
theorem cmk_eq {v l b : Nat} (hv : v ≤ 4) (hl : l ≤ v) :
    (((nI 1 <<< ((nI 1 <<< (nI (v - l) &&& 31)) &&& 31)) - nI 1) <<< (((nI b &&& ((nI 1 <<< (nI l &&& 31)) - nI 1)) <<< (nI (v - l) &&& 31)) &&& 31)) = nI (cmk v l b) := by
  have h1 : b % 2 ^ l < 2 ^ l := Nat.mod_lt _ (Nat.two_pow_pos l)
  have h2 : b % 2 ^ l * 2 ^ (v - l) + 2 ^ (v - l) ≤ 2 ^ v := by
    have : (b % 2 ^ l + 1) * 2 ^ (v - l) ≤ 2 ^ l * 2 ^ (v - l) := Nat.mul_le_mul_right _ h1
    rw [← Nat.pow_add, show l + (v - l) = v by omega, Nat.add_mul, Nat.one_mul] at this
    exact this
  have h3 := lv_p hv
  have h4 := Nat.two_pow_pos (v - l)
  have h6 := cmk_lt (b := b) hv hl
  have h7 : 2 ^ 2 ^ v ≤ 2 ^ 16 := Nat.pow_le_pow_right (by decide) h3
  rw [nm_one (show v - l < 31 by omega), nm_one (show 2 ^ (v - l) < 31 by omega), nm_one (show l < 31 by omega), nm_m1 (Nat.two_pow_pos _), nm_m1 (Nat.two_pow_pos _), nm_and, Nat.and_two_pow_sub_one_eq_mod, nm_shl (by omega) (by omega), nm_shl (by omega) (by unfold cmk at h6; omega)]
  rfl
theorem and_or3 (x y z : Int32) : x &&& (y ||| z) = (x &&& y) ||| (x &&& z) := by
  apply Int32.toBitVec_inj.mp
  simp only [Int32.toBitVec_and, Int32.toBitVec_or]
  apply BitVec.eq_of_getLsbD_eq
  intro i hi
  simp only [BitVec.getLsbD_and, BitVec.getLsbD_or, Bool.and_or_distrib_left]
theorem nm_a0 (n : Nat) : nI n &&& nI 0 = nI 0 := by rw [nm_and, Nat.and_zero]
/-- what stays of a row of the fitting ones -/
def dur (v : Nat) (a l m : Bool) (e : Sn) (G F : Rw) (r : Nat) : Nat := ((if a then nd (F r) (ibk v e.1 e.2.1 r) else 0) ||| (if l then F r &&& (ibk v e.1 e.2.1 r &&& G r) else 0)) ||| (if m then F r &&& nd (ibk v e.1 e.2.1 r) (G r) else 0)
def du (v : Nat) (G : Rw) (e : Sn) (F : Rw) : Rw := dur v (fz (nI (cb v e.1 G e.2.1)) e) (fz (nI (cb v e.1 G e.2.1) - nI 1) e) (fz (nI (cb v e.1 G e.2.1 + 1)) e) e G F
theorem dur_lt {v : Nat} {a l m : Bool} {e : Sn} {G F : Rw} {r w : Nat} (h : F r < 2 ^ w) : dur v a l m e G F r < 2 ^ w := by
  have h0 := Nat.two_pow_pos w
  unfold dur
  refine Nat.or_lt_two_pow (Nat.or_lt_two_pow ?_ ?_) ?_ <;> split <;> first | exact h0 | exact nd_le _ _ h | exact Nat.lt_of_le_of_lt Nat.and_le_left h
theorem GW.du {v : Nat} {G F : Rw} {e : Sn} (V : GW (2 ^ v) F) : GW (2 ^ v) (du v G e F) := by
  refine ⟨V.1, fun r => dur_lt (V.2.1 r), fun r hr => ?_⟩
  have := V.2.2 r hr
  show dur _ _ _ _ _ _ _ _ = 0
  unfold dur nd
  rw [this]
  simp
