/-! The plain form's reader: signs of the formula. -/
def bdI (x : Int32) : Nat := if x = nI 40 then 0 else if x = mI 29 then 1 else if x = mI 28 then 2 else if x = mI 30 then 3 else if x = mI 20 ∨ x = mI 21 then 5 else if x = mI 22 ∨ x = mI 23 ∨ x = mI 24 then 6 else 4
theorem bdI_le (x : Int32) : bdI x ≤ 6 := by
  unfold bdI
  repeat' split
  all_goals decide
theorem mo_bound (x : Int32) (h : MH) : ev M_Mo_boundOf 0 0 [some (.int x)] [] h = some (some (.int (nI (bdI x))), h) := by
  rw [r_Mo_boundOf_0]
  simp only [r_Mo_boundOf_12, r_Mo_boundOf_31, r_Mo_boundOf_43]
  unfold bdI
  apply wp_e
  by_cases z : x = nI 40
  · rw [if_pos z]; exact wp_bt z (wp_s ⟨rfl, rfl⟩)
  rw [if_neg z]
  refine wp_bf z ?_
  by_cases z : x = mI 29
  · rw [if_pos z]; exact wp_bt z (wp_bt z (wp_s ⟨rfl, rfl⟩))
  rw [if_neg z]
  refine wp_bf z ?_
  have n29 := z
  by_cases z : x = mI 28
  · rw [if_pos z]; exact wp_bt z (wp_bf n29 (wp_s ⟨rfl, rfl⟩))
  rw [if_neg z]
  refine wp_bf z ?_
  by_cases z : x = mI 30
  · rw [if_pos z]; exact wp_bt z (wp_s ⟨rfl, rfl⟩)
  rw [if_neg z]
  refine wp_bf z ?_
  by_cases z : x = mI 20
  · rw [if_pos (Or.inl z)]; exact wp_bt z (wp_s ⟨rfl, rfl⟩)
  refine wp_bf z ?_
  by_cases z1 : x = mI 21
  · rw [if_pos (Or.inr z1)]; exact wp_bt z1 (wp_s ⟨rfl, rfl⟩)
  rw [if_neg (fun w => w.elim z z1)]
  refine wp_bf z1 ?_
  by_cases y1 : x = mI 22
  · rw [if_pos (Or.inl y1)]; exact wp_bt y1 (wp_s ⟨rfl, rfl⟩)
  refine wp_bf y1 ?_
  by_cases y2 : x = mI 23
  · rw [if_pos (Or.inr (Or.inl y2))]; exact wp_bt y2 (wp_s ⟨rfl, rfl⟩)
  refine wp_bf y2 ?_
  by_cases y3 : x = mI 24
  · rw [if_pos (Or.inr (Or.inr y3))]; exact wp_bt y3 (wp_s ⟨rfl, rfl⟩)
  refine wp_bf y3 ?_
  rw [if_neg (fun w => w.elim y1 (fun w => w.elim y2 y3))]
  exact wp_s ⟨rfl, rfl⟩
/-- signs of the formula that can wait -/
def kps (k : Kp) : Prop := (k.1 = 2 ∧ k.2 < 10) ∨ k = (3, 0)
def bd (k : Kp) : Nat := if k.1 = 3 then 3 else bwS k.2
theorem kps_c {k : Kp} (h : kps k) : k = (3, 0) ∨ k = (2, 0) ∨ k = (2, 1) ∨ k = (2, 2) ∨ k = (2, 3) ∨ k = (2, 4) ∨ k = (2, 5) ∨ k = (2, 6) ∨ k = (2, 7) ∨ k = (2, 8) ∨ k = (2, 9) := by
  obtain ⟨a, c⟩ := k
  rcases h with ⟨h1, h2⟩ | h
  · have h1 : a = 2 := h1
    have h2 : c < 10 := h2
    subst h1
    have : c = 0 ∨ c = 1 ∨ c = 2 ∨ c = 3 ∨ c = 4 ∨ c = 5 ∨ c = 6 ∨ c = 7 ∨ c = 8 ∨ c = 9 := by omega
    rcases this with e | e | e | e | e | e | e | e | e | e <;> subst e <;> simp
  · exact Or.inl h
theorem bdI_k {k : Kp} (h : kps k) : bdI (mkc k) = bd k ∧ (mkc k = mI 30 ↔ k.1 = 3) ∧ ¬ mkc k = nI 40 := by
  rcases kps_c h with e | e | e | e | e | e | e | e | e | e | e <;> subst e <;> decide
def mks (r : List Kp) : List Int32 := (r.map mkc).reverse
theorem mks_c (c : Kp) (r : List Kp) : mks (c :: r) = mks r ++ [mkc c] := by unfold mks; rw [List.map_cons, List.reverse_cons]
theorem mks_a (r : List Kp) (c : Kp) : mks (r ++ [c]) = mkc c :: mks r := by unfold mks; rw [List.map_append, List.reverse_append]; rfl
def okk (L : Nat) (r : List Kp) : Prop := ∀ k, k ∈ r → kps k ∧ L ≤ bd k
def nots : List Kp → Nat
  | [] => 0
  | k :: r => nots r + if k.1 = 3 then 1 else 0
theorem nots_a (r : List Kp) (k : Kp) : nots (r ++ [k]) = nots r + if k.1 = 3 then 1 else 0 := by
  induction r with
  | nil => rfl
  | cons c r ih => show nots (r ++ [k]) + _ = nots r + _ + _; rw [ih]; omega
/-- whether a relation waits -/
def hasr : List Kp → Bool
  | [] => false
  | k :: r => if 4 < bd k then hasr r else decide (bd k = 4)
theorem hasr_a {r : List Kp} {k : Kp} (h : hasr r = true) : hasr (r ++ [k]) = true := by
  induction r with
  | nil => cases h
  | cons c r ih =>
    show (if 4 < bd c then hasr (r ++ [k]) else decide (bd c = 4)) = true
    have h : (if 4 < bd c then hasr r else decide (bd c = 4)) = true := h
    by_cases z : 4 < bd c
    · rw [if_pos z] at h ⊢; exact ih h
    · rw [if_neg z] at h ⊢; exact h
theorem hasr_5 {r : List Kp} {k : Kp} (h : ∀ c, c ∈ r → 4 < bd c) (hk : bd k = 4) : hasr (r ++ [k]) = true := by
  induction r with
  | nil => show (if 4 < bd k then _ else decide (bd k = 4)) = true; rw [if_neg (by omega)]; exact decide_eq_true hk
  | cons c r ih =>
    show (if 4 < bd c then hasr (r ++ [k]) else _) = true
    rw [if_pos (h c (List.mem_cons_self ..))]; exact ih (fun x hx => h x (List.mem_cons_of_mem _ hx))
def cF (h : MH) (m : Nat) (Q : Option Value → MH → Prop) (f : Nat → Nat → Int32) (g : Nat → Nat → Int64) : Prop := wp (ev M_Mo_formula 0 11 [some (.ref m), some (.int (nI 1)), none] [] (wI (wL h g) f)) Q
def cU (h : MH) (m : Nat) (Q : Option Value → MH → Prop) (f : Nat → Nat → Int32) (g : Nat → Nat → Int64) : Prop := wp (ev M_Mo_unit 0 3 [some (.ref m), some (.int (nI 1)), none] [] (wI (wL h g) f)) (fun v H => v = none ∧ wp (ev M_Mo_formula 0 11 [some (.ref m), some (.int (nI 1)), none] [] H) Q)
section
variable {h : MH} {f f0 : Nat → Nat → Int32} {g g0 : Nat → Nat → Int64} {m : Nat} {b : Nat → Nat} {len i : Nat} {O : List Int32} {dp d : Nat} {cs : List Nat} {ks : List Kp} {un lv nr : Nat} {nm : Nat → Nat} {s : Ps} {Q : Option Value → MH → Prop}
theorem me_f {on : Int32} {c p : Nat} (C : MSH h m) (R : RE f0 g0 f g m c p) (q : Q none (wI (wL h g) f)) : wp (ev M_Mo_formula 0 11 [some (.ref m), some (.int on), none] [] (wI (wL h g) f)) Q := by
  have mc := C.1
  have t : wp (ev M_Mo_formula 0 83 [some (.ref m), none, none] [] (wI (wL h g) f)) Q := by
    rw [r_Mo_formula_83]
    refine wp_isC mc (wp_rIe (me_good C R) (wp_bt rfl ?_))
    rw [r_Mo_formula_93]
    exact wp_isC mc (wp_rIe (me_good C R) (wp_bt rfl (wp_s q)))
  rw [r_Mo_formula_11]
  by_cases z : on = nI 0
  · exact wp_bt z t
  · exact wp_bf z (wp_isC mc (wp_rIe (me_good C R) (wp_bt rfl t)))
theorem mr_fPop {L : Nat} {k : Kp} (C : MSH h m) (hk : kps k) (R : RR f0 g0 f g m b len i (O ++ [mkc k]) (dp + if k.1 = 3 then 1 else 0) cs ks un lv) (hl : ks.length < 330) (hd : dp < 1000) (ht : L ≤ bd k) : ∃ f', To (ev M_Mo_formulaCloses 0 1 [some (.ref m), some (.int (nI L))] [] (wI (wL h g) f)) (ev M_Mo_formulaCloses 0 1 [some (.ref m), some (.int (nI L))] [] (wI (wL h g) f')) ∧ RR f0 g0 f' g m b len i O dp cs (ks ++ [k]) un lv := by
  have mc := C.1
  have ar15 : hR h m 31 = some (m + 15) := (C.2 14 (by decide)).1
  have an15 : hN h (m + 15) = 160 := (C.2 14 (by decide)).2.1
  have ac15 : hC h (m + 15) = 20 := (C.2 14 (by decide)).2.2
  have s := R.2.2.2.2.1
  obtain ⟨s1, s2, s3, s4⟩ := id s
  rw [len_1] at s1 s4
  obtain ⟨k1, k2, k3⟩ := bdI_k hk
  have tl := bdI_le (mkc k)
  have e15 := s3 _ _ (lst_g O (mkc k))
  have go : ∀ f1, RR f0 g0 f1 g m b len i O dp cs ks un lv → f1 m 32 = nI O.length → f1 (m + 15) = f (m + 15) → ∃ f', To (ev M_Mo_formulaCloses 0 34 [some (.ref m), some (.int (nI L))] [] (wI (wL h g) f1)) (ev M_Mo_formulaCloses 0 1 [some (.ref m), some (.int (nI L))] [] (wI (wL h g) f')) ∧ RR f0 g0 f' g m b len i O dp cs (ks ++ [k]) un lv := fun f1 R1 e32 eo => by
    obtain ⟨f', a1, a2⟩ := mr_keepLays (k := k) C R1 hl
    refine ⟨f', fun Q w => ?_, a2⟩
    rw [r_Mo_formulaCloses_34]
    refine wp_isC mc (wp_nnR ar15 (wp_isC mc ?_))
    rw [wI_I, e32]
    refine wp_isC ac15 (wp_inA an15 rfl (by omega) (by omega) (wp_isC mc ?_))
    rw [nI_clamp (by omega), eo, e15]
    exact wp_rVe a1 w
  have pre : ∀ Q : Option Value → MH → Prop, wp (br (mkc k = mI 30)
            (isC (wI (wL h g) (up2 f m 32 (nI O.length))) m 13 (
             isC (wI (wL h g) (up2 f m 32 (nI O.length))) m 13 (
             ev M_Mo_formulaCloses 0 34 [some (.ref m), some (.int (nI L))] [] (sI (wI (wL h g) (up2 f m 32 (nI O.length))) m 33 ((hI (wI (wL h g) (up2 f m 32 (nI O.length))) m 33) - (nI 1))))))
            (ev M_Mo_formulaCloses 0 34 [some (.ref m), some (.int (nI L))] [] (wI (wL h g) (up2 f m 32 (nI O.length))))) Q → wp (ev M_Mo_formulaCloses 0 1 [some (.ref m), some (.int (nI L))] [] (wI (wL h g) f)) Q := fun Q w => by
    rw [r_Mo_formulaCloses_1]
    refine wp_isC mc ?_
    rw [wI_I, s1]
    refine wp_bt (by rw [nI_ltI (by decide) (by omega)]; omega) (wp_isC mc (wp_nnR ar15 (wp_isC mc ?_)))
    rw [nm_m1 (by omega), Nat.add_sub_cancel]
    refine wp_isC ac15 (wp_inA an15 rfl (by omega) (by omega) ?_)
    rw [nI_clamp (by omega), e15]
    refine wp_rIe (mo_bound _ _) (wp_bf (by rw [nI_ltI (by omega) (by omega)]; omega) (wp_isC mc (wp_isC mc ?_)))
    rw [wI_I, s1, nm_m1 (by omega), Nat.add_sub_cancel, wI_s]
    refine wp_isC mc (wp_nnR ar15 (wp_isC mc ?_))
    rw [wI_I, up2_s]
    refine wp_isC ac15 (wp_inA an15 rfl (by omega) (by omega) ?_)
    rw [nI_clamp (by omega), up2_a (by omega), e15]
    exact w
  by_cases z : k.1 = 3
  · rw [if_pos z] at s2
    have R1 : RR f0 g0 (up2 (up2 f m 32 (nI O.length)) m 33 (nI dp)) g m b len i O dp cs ks un lv := R.st (fun a h1 _ => by rw [up2_a h1, up2_a h1]) (fun k h1 h2 => by rw [up2_k h2, up2_k h1]) (s.pop (by rw [up2_k (by decide), up2_s]) up2_s (by rw [up2_a (by omega), up2_a (by omega)]))
    obtain ⟨f', a1, a2⟩ := go _ R1 (by rw [up2_k (by decide), up2_s]) (by rw [up2_a (by omega), up2_a (by omega)])
    refine ⟨f', fun Q w => pre Q (wp_bt (k2.mpr z) (wp_isC mc (wp_isC mc ?_))), a2⟩
    rw [wI_I, up2_k (by decide), s2, nm_m1 (by omega), Nat.add_sub_cancel, wI_s]
    exact a1 Q w
  · rw [if_neg z] at s2
    have R1 : RR f0 g0 (up2 f m 32 (nI O.length)) g m b len i O dp cs ks un lv := R.st (fun a h1 _ => up2_a h1) (fun k h1 _ => up2_k h1) (s.pop up2_s (by rw [up2_k (by decide)]; exact s2) (up2_a (by omega)))
    obtain ⟨f', a1, a2⟩ := go _ R1 up2_s (up2_a (by omega))
    exact ⟨f', fun Q w => pre Q (wp_bf (fun e => z (k2.mp e)) (a1 Q w)), a2⟩
theorem mr_fStop {L : Nat} (C : MSH h m) (R : RR f0 g0 f g m b len i O dp cs ks un lv) (hs : LstP O (fun x => bdI x < L)) (hl : L < 10) : ev M_Mo_formulaCloses 0 1 [some (.ref m), some (.int (nI L))] [] (wI (wL h g) f) = some (none, wI (wL h g) f) := by
  have mc := C.1
  have ar15 : hR h m 31 = some (m + 15) := (C.2 14 (by decide)).1
  have an15 : hN h (m + 15) = 160 := (C.2 14 (by decide)).2.1
  have ac15 : hC h (m + 15) = 20 := (C.2 14 (by decide)).2.2
  obtain ⟨s1, s2, s3, s4⟩ := R.2.2.2.2.1
  rw [r_Mo_formulaCloses_1]
  refine wp_e (wp_isC mc ?_)
  rw [wI_I, s1]
  rcases hs with z | ⟨O', x, z, hx⟩
  · rw [z]; exact wp_bf (by decide) (wp_s ⟨rfl, rfl⟩)
  · subst z
    rw [len_1] at s1 s4 ⊢
    have e15 := s3 _ _ (lst_g O' x)
    refine wp_bt (by rw [nI_ltI (by decide) (by omega)]; omega) (wp_isC mc (wp_nnR ar15 (wp_isC mc ?_)))
    rw [nm_m1 (by omega), Nat.add_sub_cancel]
    refine wp_isC ac15 (wp_inA an15 rfl (by omega) (by omega) ?_)
    rw [nI_clamp (by omega), e15]
    have tl := bdI_le x
    exact wp_rIe (mo_bound _ _) (wp_bt (by rw [nI_ltI (by omega) (by omega)]; exact hx) (wp_s ⟨rfl, rfl⟩))
theorem mr_fcl {L : Nat} (C : MSH h m) (hL : L < 10) (hs : LstP O (fun x => bdI x < L)) (hd : dp < 500) : ∀ r ks f, okk L r → ks.length + r.length < 330 → r.length < 400 → RR f0 g0 f g m b len i (O ++ mks r) (dp + nots r) cs ks un lv → ∃ f', ev M_Mo_formulaCloses 0 0 [some (.ref m), some (.int (nI L))] [] (wI (wL h g) f) = some (none, wI (wL h g) f') ∧ RR f0 g0 f' g m b len i O dp cs (ks ++ r) un lv := by
  intro r
  induction r with
  | nil =>
    intro ks f _ _ _ R
    have R : RR f0 g0 f g m b len i (O ++ []) dp cs ks un lv := R
    rw [List.append_nil] at R
    rw [List.append_nil]
    exact ⟨f, by rw [r_Mo_formulaCloses_0]; exact mr_fStop C R hs hL, R⟩
  | cons c r ih =>
    intro ks f ok hl h4 R
    rw [mks_c, ← List.append_assoc] at R
    have R : RR f0 g0 f g m b len i (O ++ mks r ++ [mkc c]) (dp + (nots r + if c.1 = 3 then 1 else 0)) cs ks un lv := R
    rw [← Nat.add_assoc] at R
    rw [List.length_cons] at hl h4
    have nl : ∀ r : List Kp, nots r ≤ r.length := fun r => by
      induction r with
      | nil => exact Nat.le_refl _
      | cons x r ih => show nots r + (if x.1 = 3 then 1 else 0) ≤ r.length + 1; split <;> omega
    have := nl r
    obtain ⟨f1, a1, R1⟩ := mr_fPop (L := L) C (ok c (List.mem_cons_self ..)).1 R (by omega) (by omega) (ok c (List.mem_cons_self ..)).2
    obtain ⟨f2, a2, R2⟩ := ih (ks ++ [c]) f1 (fun x hx => ok x (List.mem_cons_of_mem _ hx)) (by rw [len_1]; omega) (by omega) R1
    refine ⟨f2, ?_, by rw [List.append_assoc] at R2; exact R2⟩
    rw [r_Mo_formulaCloses_0] at a2 ⊢
    exact wp_e (a1 _ (wp_of a2 ⟨rfl, rfl⟩))
theorem mr_full (C : MSH h m) (R : RR f0 g0 f g m b len i O dp cs ks un lv) (hu : un ≤ 30) : ev M_Mo_isFull 0 0 [some (.ref m)] [] (wI (wL h g) f) = some (some (.int (nI (decide (un = 30)).toNat)), wI (wL h g) f) := by
  have mc := C.1
  have ar7 : hR h m 17 = some (m + 7) := (C.2 6 (by decide)).1
  have an7 : hN h (m + 7) = 2 := (C.2 6 (by decide)).2.1
  have ac7 : hC h (m + 7) = 20 := (C.2 6 (by decide)).2.2
  have e := R.2.2.2.2.2.2.2.1.1
  rw [r_Mo_isFull_0]
  refine wp_e (wp_isC mc (wp_nnR ar7 (wp_isC ac7 (wp_inA (n := 1) an7 rfl (by decide) (by decide) ?_))))
  rw [show (nI 1).toNatClampNeg = 1 from rfl, wI_I, e]
  refine wp_bi (nI_eq (by omega) (by decide)) (fun z => ?_) (fun z => ?_)
  · rw [decide_eq_true z]; exact wp_isZ (by decide) (wp_s ⟨rfl, rfl⟩)
  · rw [decide_eq_false z]; exact wp_isZ (by decide) (wp_s ⟨rfl, rfl⟩)
theorem mr_mayY (C : MSH h m) (R : RR f0 g0 f g m b len i O dp cs ks un lv) (hs : LstP O (fun x => bdI x < 4)) : ev M_Mo_mayNot 0 0 [some (.ref m)] [] (wI (wL h g) f) = some (some (.int (nI 1)), wI (wL h g) f) := by
  have mc := C.1
  have ar15 : hR h m 31 = some (m + 15) := (C.2 14 (by decide)).1
  have an15 : hN h (m + 15) = 160 := (C.2 14 (by decide)).2.1
  have ac15 : hC h (m + 15) = 20 := (C.2 14 (by decide)).2.2
  obtain ⟨s1, s2, s3, s4⟩ := R.2.2.2.2.1
  rw [r_Mo_mayNot_0]
  simp only [r_Mo_mayNot_14]
  refine wp_e (wp_isC mc ?_)
  rw [wI_I, s1]
  rcases hs with z | ⟨O', x, z, hx⟩
  · rw [z]; exact wp_bt rfl (wp_isZ (by decide) (wp_s ⟨rfl, rfl⟩))
  · subst z
    rw [len_1] at s1 s4 ⊢
    have e15 := s3 _ _ (lst_g O' x)
    refine wp_bf (by rw [nI_eq (by omega) (by decide)]; omega) (wp_isC mc (wp_nnR ar15 (wp_isC mc ?_)))
    rw [nm_m1 (by omega), Nat.add_sub_cancel]
    refine wp_isC ac15 (wp_inA an15 rfl (by omega) (by omega) ?_)
    rw [nI_clamp (by omega), e15]
    have tl := bdI_le x
    exact wp_rIe (mo_bound _ _) (wp_bt (by rw [nI_ltI (by omega) (by omega)]; exact hx) (wp_isZ (by decide) (wp_s ⟨rfl, rfl⟩)))
theorem mr_mayN {x : Int32} (C : MSH h m) (R : RR f0 g0 f g m b len i (O ++ [x]) dp cs ks un lv) (hx : 4 ≤ bdI x) : ev M_Mo_mayNot 0 0 [some (.ref m)] [] (wI (wL h g) f) = some (some (.int (nI 0)), wI (wL h g) f) := by
  have mc := C.1
  have ar15 : hR h m 31 = some (m + 15) := (C.2 14 (by decide)).1
  have an15 : hN h (m + 15) = 160 := (C.2 14 (by decide)).2.1
  have ac15 : hC h (m + 15) = 20 := (C.2 14 (by decide)).2.2
  obtain ⟨s1, s2, s3, s4⟩ := R.2.2.2.2.1
  rw [r_Mo_mayNot_0]
  refine wp_e (wp_isC mc ?_)
  rw [wI_I, s1]
  rw [len_1] at s1 s4 ⊢
  have e15 := s3 _ _ (lst_g O x)
  refine wp_bf (by rw [nI_eq (by omega) (by decide)]; omega) (wp_isC mc (wp_nnR ar15 (wp_isC mc ?_)))
  rw [nm_m1 (by omega), Nat.add_sub_cancel]
  refine wp_isC ac15 (wp_inA an15 rfl (by omega) (by omega) ?_)
  rw [nI_clamp (by omega), e15]
  have tl := bdI_le x
  exact wp_rIe (mo_bound _ _) (wp_bf (by rw [nI_ltI (by omega) (by omega)]; omega) (wp_isZ (by decide) (wp_s ⟨rfl, rfl⟩)))
/-- a sign at hand -/
theorem mr_sign (C : MSH h m) (R : RR f0 g0 f g m b len i O dp cs ks un lv) : ev M_Mo_signHere 0 0 [some (.ref m)] [] (wI (wL h g) f) = some (some (.int (match sgn (kd b len i) with
    | some w => mI (20 + w)
    | none => mI 1)), wI (wL h g) f) := by
  have mc := C.1
  have w9 : ev M_Mo_isWord 0 0 [some (.ref m), some (.long (lN 6385252)), none] [] (wI (wL h g) f) = _ := mr_word C R (j := 9) (by decide)
  have w7 : ev M_Mo_isWord 0 0 [some (.ref m), some (.long (lN 28530)), none] [] (wI (wL h g) f) = _ := mr_word C R (j := 7) (by decide)
  have mk : ∀ c, 37 ≤ c → c ≤ 62 → ev M_Mo_isMark 0 0 [some (.ref m), some (.int (nI c))] [] (wI (wL h g) f) = some (some (.int (nI (decide (kd b len i = c)).toNat)), wI (wL h g) f) := fun c h1 h2 => mr_mark C R h1 h2
  have ym : ∀ c, 37 ≤ c → c ≤ 62 → kd b len i = c → ev M_Mo_isMark 0 0 [some (.ref m), some (.int (nI c))] [] (wI (wL h g) f) = some (some (.int (nI 1)), wI (wL h g) f) := fun c h1 h2 e => by rw [mk c h1 h2, decide_eq_true e]; rfl
  have nm : ∀ c, 37 ≤ c → c ≤ 62 → ¬ kd b len i = c → ev M_Mo_isMark 0 0 [some (.ref m), some (.int (nI c))] [] (wI (wL h g) f) = some (some (.int (nI 0)), wI (wL h g) f) := fun c h1 h2 e => by rw [mk c h1 h2, decide_eq_false e]; rfl
  generalize kd b len i = k at *
  rw [r_Mo_signHere_0]
  simp only [r_Mo_signHere_9, r_Mo_signHere_30, r_Mo_signHere_53]
  refine wp_e (wp_isC mc (wp_rIe w9 ?_))
  by_cases z9 : k = 100 + 9
  · rw [decide_eq_true z9] at w9 ⊢
    subst z9
    exact wp_bf n10 (wp_isC mc (wp_rIe w9 (wp_bf n10 (wp_s ⟨rfl, rfl⟩))))
  rw [decide_eq_false z9] at w9 ⊢
  refine wp_bt rfl (wp_isC mc (wp_rIe w7 ?_))
  by_cases z7 : k = 100 + 7
  · rw [decide_eq_true z7]
    subst z7
    exact wp_bf n10 (wp_isC mc (wp_rIe w9 (wp_bt rfl (wp_s ⟨rfl, rfl⟩))))
  rw [decide_eq_false z7]
  refine wp_bt rfl (wp_isC mc ?_)
  by_cases z1 : k = 60
  · have q := ym 60 (by decide) (by decide) z1
    subst z1
    exact wp_rIe q (wp_bf n10 (wp_isC mc (wp_rIe q (wp_bf n10 (wp_s ⟨rfl, rfl⟩)))))
  have q1 := nm 60 (by decide) (by decide) z1
  refine wp_rIe q1 (wp_bt rfl (wp_isC mc ?_))
  by_cases z2 : k = 62
  · have q := ym 62 (by decide) (by decide) z2
    subst z2
    exact wp_rIe q (wp_bf n10 (wp_isC mc (wp_rIe q1 (wp_bt rfl (wp_isC mc (wp_rIe q (wp_bf n10 (wp_s ⟨rfl, rfl⟩))))))))
  have q2 := nm 62 (by decide) (by decide) z2
  refine wp_rIe q2 (wp_bt rfl (wp_isC mc ?_))
  by_cases z3 : k = 61
  · have q := ym 61 (by decide) (by decide) z3
    subst z3
    exact wp_rIe q (wp_bf n10 (wp_isC mc (wp_rIe q1 (wp_bt rfl (wp_isC mc (wp_rIe q2 (wp_bt rfl (wp_s ⟨rfl, rfl⟩))))))))
  refine wp_rIe (nm 61 (by decide) (by decide) z3) (wp_bt rfl (wp_isC mc ?_))
  by_cases z4 : k = 43
  · have q := ym 43 (by decide) (by decide) z4
    subst z4
    exact wp_rIe q (wp_bf n10 (wp_isC mc (wp_rIe q (wp_bf n10 (wp_s ⟨rfl, rfl⟩)))))
  have q4 := nm 43 (by decide) (by decide) z4
  refine wp_rIe q4 (wp_bt rfl (wp_isC mc ?_))
  by_cases z5 : k = 45
  · have q := ym 45 (by decide) (by decide) z5
    subst z5
    exact wp_rIe q (wp_bf n10 (wp_isC mc (wp_rIe q4 (wp_bt rfl (wp_s ⟨rfl, rfl⟩)))))
  refine wp_rIe (nm 45 (by decide) (by decide) z5) (wp_bt rfl (wp_isC mc ?_))
  by_cases z6 : k = 42
  · have q := ym 42 (by decide) (by decide) z6
    subst z6
    exact wp_rIe q (wp_bf n10 (wp_s ⟨rfl, rfl⟩))
  refine wp_rIe (nm 42 (by decide) (by decide) z6) (wp_bt rfl (wp_isC mc ?_))
  by_cases z8 : k = 47
  · have q := ym 47 (by decide) (by decide) z8
    subst z8
    exact wp_rIe q (wp_bf n10 (wp_s ⟨rfl, rfl⟩))
  refine wp_rIe (nm 47 (by decide) (by decide) z8) (wp_bt rfl (wp_isC mc ?_))
  by_cases z10 : k = 37
  · have q := ym 37 (by decide) (by decide) z10
    subst z10
    exact wp_rIe q (wp_bf n10 (wp_s ⟨rfl, rfl⟩))
  refine wp_rIe (nm 37 (by decide) (by decide) z10) (wp_bt rfl ?_)
  have e : sgn k = none := by
    unfold sgn
    rw [if_neg z6, if_neg z8, if_neg z10, if_neg z4, if_neg z5, if_neg z1, if_neg z2, if_neg z3, if_neg (by omega), if_neg (by omega)]
  rw [e]
  exact wp_s ⟨rfl, rfl⟩
/-- the last of those that wait from a place on -/
theorem mr_relL {r0 : List Kp} (C : MSH h m) (R : RR f0 g0 f g m b len i (O ++ mks r0) dp cs ks un lv) : ∀ r, okk 0 r → (∃ r1, r0 = r1 ++ r) → (hasr r = true ∨ ((∀ k, k ∈ r → 4 < bd k) ∧ LstP O (fun x => bdI x < 4))) → wp (ev M_Mo_hasRelation 0 6 [some (.ref m), some (.int (nI (O.length + r.length) - nI 1))] [] (wI (wL h g) f)) (fun a e => a = some (Value.int (nI (hasr r).toNat)) ∧ e = wI (wL h g) f) := by
  have mc := C.1
  have ar15 : hR h m 31 = some (m + 15) := (C.2 14 (by decide)).1
  have an15 : hN h (m + 15) = 160 := (C.2 14 (by decide)).2.1
  have ac15 : hC h (m + 15) = 20 := (C.2 14 (by decide)).2.2
  obtain ⟨s1, s2, s3, s4⟩ := R.2.2.2.2.1
  intro r
  induction r with
  | nil =>
    intro ok hr hh
    rcases hh with hh | ⟨-, hs⟩
    · cases hh
    rw [List.length_nil, Nat.add_zero]
    have fin : ∀ x, x < nI 0 → wp (ev M_Mo_hasRelation 0 6 [some (.ref m), some (.int x)] [] (wI (wL h g) f)) (fun a e => a = some (Value.int (nI (hasr []).toNat)) ∧ e = wI (wL h g) f) := fun x hx => by
      rw [r_Mo_hasRelation_6]
      refine wp_bt hx ?_
      rw [r_Mo_hasRelation_18]
      exact wp_bt hx (wp_isZ (by decide) (wp_s ⟨rfl, rfl⟩))
    rcases hs with z | ⟨O', x, z, hx⟩
    · subst z; exact fin _ (by decide)
    · have ho : (O ++ mks r0)[O'.length]? = some x := by
        rw [z, List.append_assoc]
        simp
      have e15 := s3 _ _ ho
      have hl : O.length = O'.length + 1 := by rw [z, len_1]
      have hl2 := (List.getElem?_eq_some_iff.mp ho).1
      rw [hl, nm_m1 (by omega), Nat.add_sub_cancel]
      have tl := bdI_le x
      have nn : ¬ nI O'.length < nI 0 := nI_pos (by omega)
      rw [r_Mo_hasRelation_6]
      refine wp_bf nn (wp_isC mc (wp_nnR ar15 (wp_isC ac15 (wp_inA an15 rfl (by omega) (by omega) ?_))))
      rw [nI_clamp (by omega), wI_I, e15]
      refine wp_rIe (mo_bound _ _) (wp_bf (by rw [nI_ltI (by omega) (by omega)]; omega) ?_)
      rw [r_Mo_hasRelation_18]
      refine wp_bf nn (wp_isC mc (wp_nnR ar15 (wp_isC ac15 (wp_inA an15 rfl (by omega) (by omega) ?_))))
      rw [nI_clamp (by omega), wI_I, e15]
      exact wp_rIe (mo_bound _ _) (wp_bf (by rw [nI_eq (by omega) (by omega)]; omega) (wp_isZ (by decide) (wp_s ⟨rfl, rfl⟩)))
  | cons c r ih =>
    intro ok hr hh
    obtain ⟨r1, hr⟩ := hr
    obtain ⟨k1, -, -⟩ := bdI_k (ok c (List.mem_cons_self ..)).1
    have ho : (O ++ mks r0)[O.length + r.length]? = some (mkc c) := by
      rw [hr]
      unfold mks
      simp
    have e15 := s3 _ _ ho
    have hl2 := (List.getElem?_eq_some_iff.mp ho).1
    rw [List.length_cons, ← Nat.add_assoc, nm_m1 (by omega), Nat.add_sub_cancel]
    have tl := bdI_le (mkc c)
    have nn : ¬ nI (O.length + r.length) < nI 0 := nI_pos (by omega)
    rw [r_Mo_hasRelation_6]
    refine wp_bf nn (wp_isC mc (wp_nnR ar15 (wp_isC ac15 (wp_inA an15 rfl (by omega) (by omega) ?_))))
    rw [nI_clamp (by omega), wI_I, e15]
    refine wp_rIe (mo_bound _ _) ?_
    rw [k1]
    have eh : hasr (c :: r) = if 4 < bd c then hasr r else decide (bd c = 4) := rfl
    by_cases z : 4 < bd c
    · rw [eh, if_pos z]
      refine wp_bt (by rw [nI_ltI (by omega) (by omega)]; exact z) ?_
      have em : nI (O.length + r.length) + mI 1 = nI (O.length + r.length) - nI 1 := by
        generalize nI (O.length + r.length) = q
        rw [Int32.sub_eq_add_neg]; rfl
      rw [em]
      refine ih (fun x hx => ok x (List.mem_cons_of_mem _ hx)) ⟨r1 ++ [c], by rw [hr]; simp⟩ ?_
      rcases hh with hh | ⟨h1, h2⟩
      · rw [eh, if_pos z] at hh; exact Or.inl hh
      · exact Or.inr ⟨fun k hk => h1 k (List.mem_cons_of_mem _ hk), h2⟩
    · rw [eh, if_neg z]
      refine wp_bf (by rw [nI_ltI (by omega) (by omega)]; exact z) ?_
      have z4 : bd c = 4 := by
        rcases hh with hh | ⟨h1, -⟩
        · rw [eh, if_neg z] at hh; exact of_decide_eq_true hh
        · exact absurd (h1 c (List.mem_cons_self ..)) z
      rw [r_Mo_hasRelation_18]
      refine wp_bf nn (wp_isC mc (wp_nnR ar15 (wp_isC ac15 (wp_inA an15 rfl (by omega) (by omega) ?_))))
      rw [nI_clamp (by omega), wI_I, e15]
      refine wp_rIe (mo_bound _ _) ?_
      rw [k1, z4]
      exact wp_bt rfl (wp_isZ (by decide) (wp_s ⟨rfl, rfl⟩))
theorem mr_rel {r : List Kp} (C : MSH h m) (R : RR f0 g0 f g m b len i (O ++ mks r) dp cs ks un lv) (ok : okk 0 r) (hh : hasr r = true ∨ ((∀ k, k ∈ r → 4 < bd k) ∧ LstP O (fun x => bdI x < 4))) : ev M_Mo_hasRelation 0 0 [some (.ref m), none] [] (wI (wL h g) f) = some (some (.int (nI (hasr r).toNat)), wI (wL h g) f) := by
  have s1 := R.2.2.2.2.1.1
  have el : (O ++ mks r).length = O.length + r.length := by unfold mks; simp
  rw [r_Mo_hasRelation_0]
  refine wp_e (wp_isC C.1 ?_)
  rw [wI_I, s1, el]
  exact mr_relL C R r ok ⟨[], rfl⟩ hh
end
