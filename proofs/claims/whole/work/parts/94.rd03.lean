/-! The plain form's reader: signs that wait, codes laid. -/
theorem lst_g {α : Type} (O : List α) (x : α) : (O ++ [x])[O.length]? = some x := by simp
theorem lst_l {α : Type} {O : List α} {x c : α} {i : Nat} (h : O[i]? = some c) : (O ++ [x])[i]? = some c := by
  rw [List.getElem?_append_left (List.getElem?_eq_some_iff.mp h).1]; exact h
theorem lst_c {α : Type} {O : List α} {x c : α} {i : Nat} (h : (O ++ [x])[i]? = some c) : O[i]? = some c ∨ (i = O.length ∧ c = x) := by
  have hl := (List.getElem?_eq_some_iff.mp h).1
  rw [List.length_append] at hl
  have hl : i < O.length + 1 := hl
  by_cases z : i = O.length
  · right
    rw [z, lst_g] at h
    exact ⟨z, by injection h with e; exact e.symm⟩
  · left
    rw [List.getElem?_append_left (by omega)] at h; exact h
theorem len_1 {α : Type} (O : List α) (x : α) : (O ++ [x]).length = O.length + 1 := by simp
def tgt (x : Int32) : Nat := if x = nI 40 then 0 else if x = nI 20 ∨ x = nI 21 then 1 else 2
theorem mo_tight (x : Int32) (h : MH) : ev M_Mo_tightOf 0 0 [some (.int x)] [] h = some (some (.int (nI (tgt x))), h) := by
  rw [r_Mo_tightOf_0]
  simp only [r_Mo_tightOf_12]
  unfold tgt
  apply wp_e
  by_cases z : x = nI 40
  · rw [if_pos z]; exact wp_bt z (wp_s ⟨rfl, rfl⟩)
  · rw [if_neg z]
    refine wp_bf z ?_
    by_cases z1 : x = nI 20
    · rw [if_pos (Or.inl z1)]; exact wp_bt z1 (wp_s ⟨rfl, rfl⟩)
    · refine wp_bf z1 ?_
      by_cases z2 : x = nI 21
      · rw [if_pos (Or.inr z2)]; exact wp_bt z2 (wp_s ⟨rfl, rfl⟩)
      · rw [if_neg (fun w => w.elim z1 z2)]; exact wp_bf z2 (wp_s ⟨rfl, rfl⟩)
section
variable {h : MH} {f f0 : Nat → Nat → Int32} {g g0 : Nat → Nat → Int64} {m : Nat} {b : Nat → Nat} {len i : Nat} {O : List Int32} {dp : Nat} {cs : List Nat} {ks : List Kp} {un lv : Nat}
theorem MTK.c {f f' : Nat → Nat → Int32} (T : MTK f g m b len i) (e : ∀ k, k < 7 → f' m k = f m k) : MTK f' g m b len i := ⟨by rw [e 3 (by decide)]; exact T.1, by rw [e 4 (by decide)]; exact T.2.1, by rw [e 5 (by decide)]; exact T.2.2.1, fun w => by rw [e 6 (by decide)]; exact T.2.2.2.1 w, T.2.2.2.2⟩
/-- only signs that wait change -/
theorem RR.st {f' : Nat → Nat → Int32} {O' : List Int32} {dp' : Nat} (R : RR f0 g0 f g m b len i O dp cs ks un lv) (e1 : ∀ a, a ≠ m → a ≠ m + 15 → f' a = f a) (e2 : ∀ k, k ≠ 32 → k ≠ 33 → f' m k = f m k) (s : sTk f' m O' dp') : RR f0 g0 f' g m b len i O' dp' cs ks un lv := by
  obtain ⟨r1, r2, r3, ⟨r4, r5⟩, -, ⟨r9, r10⟩, ⟨r11, r12⟩, ⟨r13, r14⟩, r15⟩ := R
  refine ⟨r1.c (e2 _ (by decide) (by decide)) (e1 _ (by omega) (by omega)), by rw [e2 _ (by decide) (by decide)]; exact r2, by rw [e2 _ (by decide) (by decide)]; exact r3, ⟨r4, r5.c (fun k hk => e2 k (by omega) (by omega))⟩, s, ⟨by rw [e2 _ (by decide) (by decide)]; exact r9, fun i c hc => by rw [e1 _ (by omega) (by omega)]; exact r10 i c hc⟩, ⟨by rw [e1 _ (by omega) (by omega)]; exact r11, fun i c hc => by rw [e1 _ (by omega) (by omega)]; exact r12 i c hc⟩, ⟨by rw [e1 _ (by omega) (by omega)]; exact r13, by rw [e2 _ (by decide) (by decide)]; exact r14⟩, r15.tr ⟨fun x h1 _ _ _ _ h6 => e1 x h1 h6, fun k _ _ _ h4 h5 => e2 k h4 h5, by rw [e1 _ (by omega) (by omega)], by rw [e1 _ (by omega) (by omega)], fun i _ => by rw [e1 _ (by omega) (by omega)], fun i _ => by rw [e1 _ (by omega) (by omega)], fun _ _ => rfl⟩⟩
/-- only codes of derived ones and leaves change -/
theorem RR.xc {f' : Nat → Nat → Int32} {cs' : List Nat} {lv' : Nat} (R : RR f0 g0 f g m b len i O dp cs ks un lv) (e1 : ∀ a, a ≠ m → a ≠ m + 13 → f' a = f a) (e2 : ∀ k, k ≠ 25 → k ≠ 26 → f' m k = f m k) (e3 : ∀ i, i < 260 → f' (m + 13) i = f (m + 13) i) (s : sXc f' m cs') (l : f' m 26 = nI lv') : RR f0 g0 f' g m b len i O dp cs' ks un lv' := by
  obtain ⟨r1, r2, r3, ⟨r4, r5⟩, ⟨r6, r7, r8, r8b⟩, -, ⟨r11, r12⟩, ⟨r13, r14⟩, r15⟩ := R
  refine ⟨r1.c (e2 _ (by decide) (by decide)) (e1 _ (by omega) (by omega)), by rw [e2 _ (by decide) (by decide)]; exact r2, by rw [e2 _ (by decide) (by decide)]; exact r3, ⟨r4, r5.c (fun k hk => e2 k (by omega) (by omega))⟩, ⟨by rw [e2 _ (by decide) (by decide)]; exact r6, by rw [e2 _ (by decide) (by decide)]; exact r7, fun i c hc => by rw [e1 _ (by omega) (by omega)]; exact r8 i c hc, r8b⟩, s, ⟨by rw [e1 _ (by omega) (by omega)]; exact r11, fun i c hc => by rw [e1 _ (by omega) (by omega)]; exact r12 i c hc⟩, ⟨by rw [e1 _ (by omega) (by omega)]; exact r13, l⟩, r15.tr ⟨fun x h1 _ _ h4 _ _ => e1 x h1 h4, fun k _ h2 h3 _ _ => e2 k h2 h3, by rw [e1 _ (by omega) (by omega)], by rw [e1 _ (by omega) (by omega)], e3, fun i _ => by rw [e1 _ (by omega) (by omega)], fun _ _ => rfl⟩⟩
/-- only codes of the formula and units change -/
theorem RR.kc {f' : Nat → Nat → Int32} {ks' : List Kp} {un' : Nat} (R : RR f0 g0 f g m b len i O dp cs ks un lv) (e1 : ∀ a, a ≠ m + 6 → a ≠ m + 7 → a ≠ m + 14 → f' a = f a) (e2 : f' (m + 6) 0 = f (m + 6) 0) (e3 : f' (m + 7) 0 = f (m + 7) 0) (e4 : ∀ i, i < 330 → f' (m + 14) i = f (m + 14) i) (s : sKc f' m ks') (l : f' (m + 7) 1 = nI un') : RR f0 g0 f' g m b len i O dp cs ks' un' lv := by
  obtain ⟨r1, r2, r3, ⟨r4, r5⟩, ⟨r6, r7, r8, r8b⟩, ⟨r9, r10⟩, -, ⟨r13, r14⟩, r15⟩ := R
  have em := e1 m (by omega) (by omega) (by omega)
  refine ⟨r1.c (by rw [em]) (e1 _ (by omega) (by omega) (by omega)), by rw [em]; exact r2, by rw [em]; exact r3, ⟨r4, r5.c (fun k hk => by rw [em])⟩, ⟨by rw [em]; exact r6, by rw [em]; exact r7, fun i c hc => by rw [e1 _ (by omega) (by omega) (by omega)]; exact r8 i c hc, r8b⟩, ⟨by rw [em]; exact r9, fun i c hc => by rw [e1 _ (by omega) (by omega) (by omega)]; exact r10 i c hc⟩, s, ⟨l, by rw [em]; exact r14⟩, r15.tr ⟨fun x _ h2 h3 _ h5 _ => e1 x h2 h3 h5, fun k _ _ _ _ _ => by rw [em], e2, e3, fun i _ => by rw [e1 _ (by omega) (by omega) (by omega)], e4, fun _ _ => rfl⟩⟩
theorem mr_lays {c : Nat} (C : MSH h m) (R : RR f0 g0 f g m b len i O dp cs ks un lv) (hl : cs.length < 260) : ∃ f', ev M_Mo_lays1 0 0 [some (.ref m), some (.int (nI (mcd c)))] [] (wI (wL h g) f) = some (none, wI (wL h g) f') ∧ RR f0 g0 f' g m b len i O dp (cs ++ [c]) ks un lv := by
  have mc := C.1
  have ar13 : hR h m 23 = some (m + 13) := (C.2 12 (by decide)).1
  have an13 : hN h (m + 13) = 520 := (C.2 12 (by decide)).2.1
  have ac13 : hC h (m + 13) = 20 := (C.2 12 (by decide)).2.2
  obtain ⟨s1, s2⟩ := R.2.2.2.2.2.1
  refine ⟨up2 (up2 f (m + 13) (260 + cs.length) (nI (mcd c))) m 25 (nI (cs.length + 1)), ?_, R.xc (fun a h1 h2 => by rw [up2_a h1, up2_a h2]) (fun k h1 h2 => by rw [up2_k h1, up2_a (by omega)]) (fun i hi => by rw [up2_a (by omega), up2_k (by omega)]) ⟨by rw [up2_s, len_1], fun i d hd => ?_⟩ (by rw [up2_k (by decide), up2_a (by omega)]; exact R.2.2.2.2.2.2.2.1.2)⟩
  · rw [r_Mo_lays1_0]
    refine wp_e (wp_isC mc ?_)
    rw [wI_I, R.2.1]
    refine wp_bf (by decide) (wp_isC mc (wp_nnR ar13 (wp_isC mc ?_)))
    rw [s1, nI_add]
    refine wp_isC ac13 (wp_inA an13 rfl (by omega) (by omega) ?_)
    rw [nI_clamp (by omega), wI_s]
    refine wp_isC mc (wp_isC mc ?_)
    rw [wI_I, up2_a (by omega), s1, nI_add, wI_s]
    exact wp_s ⟨rfl, rfl⟩
  · rw [up2_a (by omega)]
    rcases lst_c hd with z | ⟨z, y⟩
    · have := (List.getElem?_eq_some_iff.mp z).1
      rw [up2_k (by omega)]; exact s2 i d z
    · rw [z, y, up2_s]
theorem mr_keepLays {k : Kp} (C : MSH h m) (R : RR f0 g0 f g m b len i O dp cs ks un lv) (hl : ks.length < 330) : ∃ f', ev M_Mo_keepLays 0 0 [some (.ref m), some (.int (mkc k))] [] (wI (wL h g) f) = some (none, wI (wL h g) f') ∧ RR f0 g0 f' g m b len i O dp cs (ks ++ [k]) un lv := by
  have mc := C.1
  have ar6 : hR h m 16 = some (m + 6) := (C.2 5 (by decide)).1
  have an6 : hN h (m + 6) = 2 := (C.2 5 (by decide)).2.1
  have ac6 : hC h (m + 6) = 20 := (C.2 5 (by decide)).2.2
  have ar14 : hR h m 24 = some (m + 14) := (C.2 13 (by decide)).1
  have an14 : hN h (m + 14) = 660 := (C.2 13 (by decide)).2.1
  have ac14 : hC h (m + 14) = 20 := (C.2 13 (by decide)).2.2
  obtain ⟨s1, s2⟩ := R.2.2.2.2.2.2.1
  refine ⟨up2 (up2 f (m + 14) (330 + ks.length) (mkc k)) (m + 6) 1 (nI (ks.length + 1)), ?_, R.kc (fun a h1 h2 h3 => by rw [up2_a h1, up2_a h3]) (by rw [up2_k (by decide), up2_a (by omega)]) (by rw [up2_a (by omega), up2_a (by omega)]) (fun i hi => by rw [up2_a (by omega), up2_k (by omega)]) ⟨by rw [up2_s, len_1], fun i d hd => ?_⟩ (by rw [up2_a (by omega), up2_a (by omega)]; exact R.2.2.2.2.2.2.2.1.1)⟩
  · rw [r_Mo_keepLays_0]
    refine wp_e (wp_isC mc ?_)
    rw [wI_I, R.2.1]
    refine wp_bf (by decide) (wp_isC mc (wp_nnR ar14 (wp_isC mc (wp_nnR ar6 (wp_isC ac6 (wp_inA (n := 1) an6 rfl (by decide) (by decide) ?_))))))
    rw [show (nI 1).toNatClampNeg = 1 from rfl, s1, nI_add]
    refine wp_isC ac14 (wp_inA an14 rfl (by omega) (by omega) ?_)
    rw [nI_clamp (by omega), wI_s]
    refine wp_isC mc (wp_nnR ar6 (wp_isC ac6 (wp_inA (n := 1) an6 rfl (by decide) (by decide) (wp_isC ac6 (wp_inA (n := 1) an6 rfl (by decide) (by decide) ?_)))))
    rw [wI_I, up2_a (by omega), s1, nI_add, wI_s]
    exact wp_s ⟨rfl, rfl⟩
  · rw [up2_a (by omega)]
    rcases lst_c hd with z | ⟨z, y⟩
    · have := (List.getElem?_eq_some_iff.mp z).1
      rw [up2_k (by omega)]; exact s2 i d z
    · rw [z, y, up2_s]
/-- a sign is set to wait -/
theorem sTk.push {x : Int32} {d : Nat} (s : sTk f m O dp) (hO : O.length < 160) : sTk (up2 (up2 (up2 f (m + 15) O.length x) m 32 (nI (O.length + 1))) m 33 (nI d)) m (O ++ [x]) d := by
  obtain ⟨s1, s2, s3, s4⟩ := s
  refine ⟨by rw [up2_k (by decide), up2_s, len_1], up2_s, fun i c hc => ?_, by rw [len_1]; omega⟩
  rw [up2_a (by omega), up2_a (by omega)]
  rcases lst_c hc with z | ⟨z, y⟩
  · have := (List.getElem?_eq_some_iff.mp z).1
    rw [up2_k (by omega)]; exact s3 i c z
  · rw [z, y, up2_s]
theorem mr_openUp {x : Int32} (C : MSH h m) (R : RR f0 g0 f g m b len i O dp cs ks un lv) (hO : O.length < 160) : ∃ f' g', ev M_Mo_openUp 0 0 [some (.ref m), some (.int x)] [] (wI (wL h g) f) = some (none, wI (wL h g') f') ∧ RR f0 g0 f' g' m b len (nx b len i) (O ++ [x]) (dp + 1) cs ks un lv := by
  have mc := C.1
  have ar15 : hR h m 31 = some (m + 15) := (C.2 14 (by decide)).1
  have an15 : hN h (m + 15) = 160 := (C.2 14 (by decide)).2.1
  have ac15 : hC h (m + 15) = 20 := (C.2 14 (by decide)).2.2
  have s := R.2.2.2.2.1
  obtain ⟨s1, s2, s3, s4⟩ := id s
  have R1 : RR f0 g0 (up2 (up2 (up2 f (m + 15) O.length x) m 32 (nI (O.length + 1))) m 33 (nI (dp + 1))) g m b len i (O ++ [x]) (dp + 1) cs ks un lv := R.st (fun a h1 h2 => by rw [up2_a h1, up2_a h1, up2_a h2]) (fun k h1 h2 => by rw [up2_k h2, up2_k h1, up2_a (by omega)]) (s.push hO)
  obtain ⟨f', g', a1, a2⟩ := mr_goOn C R1
  refine ⟨f', g', ?_, a2⟩
  rw [r_Mo_openUp_0]
  refine wp_e (wp_isC mc (wp_nnR ar15 (wp_isC mc ?_)))
  rw [wI_I, s1]
  refine wp_isC ac15 (wp_inA an15 rfl (by omega) (by omega) ?_)
  rw [nI_clamp (by omega), wI_s]
  refine wp_isC mc (wp_isC mc ?_)
  rw [wI_I, up2_a (by omega), s1, nI_add, wI_s]
  refine wp_isC mc (wp_isC mc ?_)
  rw [wI_I, up2_k (by decide), up2_a (by omega), s2, nI_add, wI_s]
  exact wp_isC mc (wp_rVe a1 (wp_s ⟨rfl, rfl⟩))
/-- the last one that waits is taken -/
theorem sTk.pop {x : Int32} {d : Nat} {f' : Nat → Nat → Int32} (s : sTk f m (O ++ [x]) dp) (e1 : f' m 32 = nI O.length) (e2 : f' m 33 = nI d) (e3 : f' (m + 15) = f (m + 15)) : sTk f' m O d := by
  obtain ⟨s1, s2, s3, s4⟩ := s
  rw [len_1] at s4
  exact ⟨e1, e2, fun i c hc => by rw [e3]; exact s3 i c (lst_l hc), by omega⟩
/-- a run is led on to another one -/
def To (A B : MRes) : Prop := ∀ Q : Option Value → MH → Prop, wp B Q → wp A Q
theorem To.rf {A : MRes} : To A A := fun _ w => w
theorem To.tr {A B D : MRes} (x : To A B) (y : To B D) : To A D := fun Q w => x Q (y Q w)
theorem To.e {A : MRes} {v : Option Value} {h : MH} (x : To A (some (v, h))) : A = some (v, h) := wp_e (x _ (wp_s ⟨rfl, rfl⟩))
theorem tgt_le (x : Int32) : tgt x ≤ 2 := by unfold tgt; split; decide; split <;> decide
theorem mr_closePop {c least : Nat} (C : MSH h m) (R : RR f0 g0 f g m b len i (O ++ [nI (mcd c)]) dp cs ks un lv) (hl : cs.length < 260) (ht : least ≤ tgt (nI (mcd c))) : ∃ f', To (ev M_Mo_closesTo 0 1 [some (.ref m), some (.int (nI least))] [] (wI (wL h g) f)) (ev M_Mo_closesTo 0 1 [some (.ref m), some (.int (nI least))] [] (wI (wL h g) f')) ∧ RR f0 g0 f' g m b len i O dp (cs ++ [c]) ks un lv := by
  have mc := C.1
  have ar15 : hR h m 31 = some (m + 15) := (C.2 14 (by decide)).1
  have an15 : hN h (m + 15) = 160 := (C.2 14 (by decide)).2.1
  have ac15 : hC h (m + 15) = 20 := (C.2 14 (by decide)).2.2
  have s := R.2.2.2.2.1
  obtain ⟨s1, s2, s3, s4⟩ := id s
  rw [len_1] at s1 s4
  have tl := tgt_le (nI (mcd c))
  have R1 : RR f0 g0 (up2 f m 32 (nI O.length)) g m b len i O dp cs ks un lv := R.st (fun a h1 _ => up2_a h1) (fun k h1 _ => up2_k h1) (s.pop up2_s (by rw [up2_k (by decide)]; exact s2) (up2_a (by omega)))
  obtain ⟨f', a1, a2⟩ := mr_lays (c := c) C R1 hl
  refine ⟨f', fun Q w => ?_, a2⟩
  have e15 := s3 _ _ (lst_g O (nI (mcd c)))
  rw [r_Mo_closesTo_1]
  refine wp_isC mc ?_
  rw [wI_I, s1]
  refine wp_bt (by rw [nI_ltI (by decide) (by omega)]; omega) (wp_isC mc (wp_nnR ar15 (wp_isC mc ?_)))
  rw [nm_m1 (by omega), Nat.add_sub_cancel]
  refine wp_isC ac15 (wp_inA an15 rfl (by omega) (by omega) ?_)
  rw [nI_clamp (by omega), e15]
  refine wp_rIe (mo_tight _ _) (wp_bf (by rw [nI_ltI (by omega) (by omega)]; omega) (wp_isC mc (wp_isC mc ?_)))
  rw [wI_I, s1, nm_m1 (by omega), Nat.add_sub_cancel, wI_s]
  refine wp_isC mc (wp_nnR ar15 (wp_isC mc ?_))
  rw [wI_I, up2_s]
  refine wp_isC ac15 (wp_inA an15 rfl (by omega) (by omega) (wp_isC mc ?_))
  rw [nI_clamp (by omega), up2_a (by omega), e15]
  exact wp_rVe a1 w
/-- none waits, or the last one is looser -/
def LstP (O : List Int32) (P : Int32 → Prop) : Prop := O = [] ∨ ∃ O' x, O = O' ++ [x] ∧ P x
theorem mr_closeStop {least : Nat} (C : MSH h m) (R : RR f0 g0 f g m b len i O dp cs ks un lv) (hs : LstP O (fun x => tgt x < least)) (hl : least < 10) : ev M_Mo_closesTo 0 1 [some (.ref m), some (.int (nI least))] [] (wI (wL h g) f) = some (none, wI (wL h g) f) := by
  have mc := C.1
  have ar15 : hR h m 31 = some (m + 15) := (C.2 14 (by decide)).1
  have an15 : hN h (m + 15) = 160 := (C.2 14 (by decide)).2.1
  have ac15 : hC h (m + 15) = 20 := (C.2 14 (by decide)).2.2
  obtain ⟨s1, s2, s3, s4⟩ := R.2.2.2.2.1
  rw [r_Mo_closesTo_1]
  refine wp_e (wp_isC mc ?_)
  rw [wI_I, s1]
  rcases hs with z | ⟨O', x, z, hx⟩
  · rw [z]; exact wp_bf (by decide) (wp_s ⟨rfl, rfl⟩)
  · subst z
    rw [len_1] at s1 s4 ⊢
    have e15 := s3 _ _ (lst_g O' x)
    refine wp_bt (by rw [nI_ltI (by decide) (by omega)]; omega) (wp_isC mc (wp_nnR ar15 (wp_isC mc ?_)))
    rw [nm_m1 (by omega), Nat.add_sub_cancel]
    refine wp_isC ac15 (wp_inA an15 rfl (by omega) (by omega) ?_)
    rw [nI_clamp (by omega), e15]
    have tl := tgt_le x
    exact wp_rIe (mo_tight _ _) (wp_bt (by rw [nI_ltI (by omega) (by omega)]; exact hx) (wp_s ⟨rfl, rfl⟩))
theorem mr_turnPop (C : MSH h m) (R : RR f0 g0 f g m b len i (O ++ [nI 24]) (dp + 1) cs ks un lv) (hl : cs.length < 260) (hd : dp < 1000) : ∃ f', To (ev M_Mo_turnsDone 0 1 [some (.ref m)] [] (wI (wL h g) f)) (ev M_Mo_turnsDone 0 1 [some (.ref m)] [] (wI (wL h g) f')) ∧ RR f0 g0 f' g m b len i O dp (cs ++ [12]) ks un lv := by
  have mc := C.1
  have ar15 : hR h m 31 = some (m + 15) := (C.2 14 (by decide)).1
  have an15 : hN h (m + 15) = 160 := (C.2 14 (by decide)).2.1
  have ac15 : hC h (m + 15) = 20 := (C.2 14 (by decide)).2.2
  have s := R.2.2.2.2.1
  obtain ⟨s1, s2, s3, s4⟩ := id s
  rw [len_1] at s1 s4
  have R1 : RR f0 g0 (up2 (up2 f m 32 (nI O.length)) m 33 (nI dp)) g m b len i O dp cs ks un lv := R.st (fun a h1 _ => by rw [up2_a h1, up2_a h1]) (fun k h1 h2 => by rw [up2_k h2, up2_k h1]) (s.pop (by rw [up2_k (by decide), up2_s]) up2_s (by rw [up2_a (by omega), up2_a (by omega)]))
  obtain ⟨f', a1, a2⟩ := mr_lays (c := 12) C R1 hl
  have a1 : ev M_Mo_lays1 0 0 [some (.ref m), some (.int (nI 24))] [] (wI (wL h g) (up2 (up2 f m 32 (nI O.length)) m 33 (nI dp))) = some (none, wI (wL h g) f') := a1
  refine ⟨f', fun Q w => ?_, a2⟩
  have e15 := s3 _ _ (lst_g O (nI 24))
  rw [r_Mo_turnsDone_1]
  refine wp_isC mc ?_
  rw [wI_I, s1]
  refine wp_bt (by rw [nI_ltI (by decide) (by omega)]; omega) (wp_isC mc (wp_nnR ar15 (wp_isC mc ?_)))
  rw [nm_m1 (by omega), Nat.add_sub_cancel]
  refine wp_isC ac15 (wp_inA an15 rfl (by omega) (by omega) ?_)
  rw [nI_clamp (by omega), e15]
  refine wp_bt rfl (wp_isC mc (wp_isC mc ?_))
  rw [wI_s]
  refine wp_isC mc (wp_isC mc ?_)
  rw [wI_I, up2_k (by decide), s2, nm_m1 (by omega), Nat.add_sub_cancel, wI_s]
  exact wp_isC mc (wp_rVe a1 w)
theorem mr_turnStop (C : MSH h m) (R : RR f0 g0 f g m b len i O dp cs ks un lv) (hs : LstP O (fun x => ¬ x = nI 24)) : ev M_Mo_turnsDone 0 1 [some (.ref m)] [] (wI (wL h g) f) = some (none, wI (wL h g) f) := by
  have mc := C.1
  have ar15 : hR h m 31 = some (m + 15) := (C.2 14 (by decide)).1
  have an15 : hN h (m + 15) = 160 := (C.2 14 (by decide)).2.1
  have ac15 : hC h (m + 15) = 20 := (C.2 14 (by decide)).2.2
  obtain ⟨s1, s2, s3, s4⟩ := R.2.2.2.2.1
  rw [r_Mo_turnsDone_1]
  refine wp_e (wp_isC mc ?_)
  rw [wI_I, s1]
  rcases hs with z | ⟨O', x, z, hx⟩
  · rw [z]; exact wp_bf (by decide) (wp_s ⟨rfl, rfl⟩)
  · subst z
    rw [len_1] at s1 s4 ⊢
    have e15 := s3 _ _ (lst_g O' x)
    refine wp_bt (by rw [nI_ltI (by decide) (by omega)]; omega) (wp_isC mc (wp_nnR ar15 (wp_isC mc ?_)))
    rw [nm_m1 (by omega), Nat.add_sub_cancel]
    refine wp_isC ac15 (wp_inA an15 rfl (by omega) (by omega) ?_)
    rw [nI_clamp (by omega), e15]
    exact wp_bf hx (wp_s ⟨rfl, rfl⟩)
theorem mr_bracket (C : MSH h m) (R : RR f0 g0 f g m b len i O dp cs ks un lv) : ev M_Mo_hasBracket 0 0 [some (.ref m), none, none] [] (wI (wL h g) f) = some (some (.int (nI (O.any (fun x => decide (x = nI 40))).toNat)), wI (wL h g) f) := by
  have mc := C.1
  have ar15 : hR h m 31 = some (m + 15) := (C.2 14 (by decide)).1
  have an15 : hN h (m + 15) = 160 := (C.2 14 (by decide)).2.1
  have ac15 : hC h (m + 15) = 20 := (C.2 14 (by decide)).2.2
  obtain ⟨s1, s2, s3, s4⟩ := R.2.2.2.2.1
  have L : ∀ (rest : List Int32) (a : Bool) j, O.drop j = rest → j ≤ O.length → ev M_Mo_hasBracket 0 5 [some (.ref m), some (.int (nI a.toNat)), some (.int (nI j))] [] (wI (wL h g) f) = some (some (.int (nI (a || rest.any (fun x => decide (x = nI 40))).toNat)), wI (wL h g) f) := by
    intro rest
    induction rest with
    | nil =>
      intro a j hd hj
      have := List.drop_eq_nil_iff.mp hd
      rw [r_Mo_hasBracket_5]
      refine wp_e (wp_isC mc ?_)
      rw [wI_I, s1]
      refine wp_bf (by rw [nI_ltI (by omega) (by omega)]; omega) ?_
      cases a <;> exact wp_isZ (by decide) (wp_s ⟨rfl, rfl⟩)
    | cons x rest ih =>
      intro a j hd hj
      have hj2 : j < O.length := by
        by_cases z : j < O.length
        · exact z
        · rw [List.drop_eq_nil_iff.mpr (by omega)] at hd; cases hd
      have hx : O[j]? = some x := by
        have := congrArg (fun l => l[0]?) hd
        simp at this
        exact this
      have hd2 : O.drop (j + 1) = rest := by
        have := congrArg List.tail hd
        simpa using this
      have e15 := s3 j x hx
      rw [r_Mo_hasBracket_5]
      simp only [r_Mo_hasBracket_18, r_Mo_hasBracket_22, nI_add]
      refine wp_e (wp_isC mc ?_)
      rw [wI_I, s1]
      refine wp_bt (by rw [nI_ltI (by omega) (by omega)]; exact hj2) ?_
      have yes := ih true (j + 1) hd2 (by omega)
      have no := ih false (j + 1) hd2 (by omega)
      cases a with
      | true => exact wp_bf n10 (wp_of yes ⟨rfl, rfl⟩)
      | false =>
        refine wp_bt rfl (wp_isC mc (wp_nnR ar15 (wp_isC ac15 (wp_inA an15 rfl (by omega) (by omega) ?_))))
        rw [nI_clamp (by omega), e15]
        show wp _ (fun a c => a = some (Value.int (nI (false || (decide (x = nI 40) || rest.any (fun x => decide (x = nI 40)))).toNat)) ∧ _)
        by_cases z : x = nI 40
        · rw [decide_eq_true z]
          exact wp_bt z (wp_of yes ⟨rfl, rfl⟩)
        · rw [decide_eq_false z]
          exact wp_bf z (wp_of no ⟨rfl, rfl⟩)
  rw [r_Mo_hasBracket_0]
  exact L O false 0 rfl (Nat.zero_le _)
end
