/-! The plain form: the formula worked off, a relation sifted, its report. -/
theorem mo_done {h : MH} {o : Nat} {a b : Int32} (ho : o < 10) : ev M_Mo_done 0 0 [some (.int (mI (20 + o))), some (.int a), some (.int b)] [] h = some (some (.int (rk o a b)), h) := by
  have t0 : ev M_Mo_truth 0 0 [some (.int (nI 0))] [] h = some (some (.int (nI 0)), h) := mo_truth false h
  have t1 : ev M_Mo_truth 0 0 [some (.int (nI 1))] [] h = some (some (.int (nI 1)), h) := mo_truth true h
  rw [r_Mo_done_0]
  simp only [r_Mo_done_64, r_Mo_done_73, r_Mo_done_37, r_Mo_done_46, r_Mo_done_55, r_Mo_done_66, r_Mo_done_77]
  have : o = 0 ∨ o = 1 ∨ o = 2 ∨ o = 3 ∨ o = 4 ∨ o = 5 ∨ o = 6 ∨ o = 7 ∨ o = 8 ∨ o = 9 := by omega
  apply wp_e
  rcases this with q | q | q | q | q | q | q | q | q | q <;> subst q <;>
    (repeat (first | refine wp_bt (by decide) ?_ | refine wp_bf (by decide) ?_)) <;>
    first
    | exact wp_s ⟨rfl, rfl⟩
    | (by_cases z : b = nI 0
       · refine wp_bt z (wp_s ⟨?_, rfl⟩)
         simp only [rk, if_pos z]
       · refine wp_bf z (wp_nz z (wp_s ⟨?_, rfl⟩))
         simp only [rk, if_neg z])
    | (by_cases z : a < b
       · exact wp_bt z (wp_rIe t1 (wp_s ⟨by simp only [rk, b01, if_pos z], rfl⟩))
       · exact wp_bf z (wp_rIe t0 (wp_s ⟨by simp only [rk, b01, if_neg z], rfl⟩)))
    | (by_cases z : b < a
       · exact wp_bt z (wp_rIe t1 (wp_s ⟨by simp only [rk, b01, if_pos z], rfl⟩))
       · exact wp_bf z (wp_rIe t0 (wp_s ⟨by simp only [rk, b01, if_neg z], rfl⟩)))
    | (by_cases z : a = b
       · exact wp_bt z (wp_rIe t1 (wp_s ⟨by simp only [rk, b01, if_pos z], rfl⟩))
       · exact wp_bf z (wp_rIe t0 (wp_s ⟨by simp only [rk, b01, if_neg z], rfl⟩)))
    | (by_cases z : a = nI 0
       · refine wp_bt z ?_
         first
         | exact wp_rIe t0 (wp_s ⟨by simp [rk, b01, z], rfl⟩)
         | (by_cases z2 : b = nI 0
            · exact wp_bt z2 (wp_rIe t0 (wp_s ⟨by simp [rk, b01, z, z2], rfl⟩))
            · exact wp_bf z2 (wp_rIe t1 (wp_s ⟨by simp [rk, b01, z, z2], rfl⟩)))
       · refine wp_bf z ?_
         first
         | exact wp_rIe t1 (wp_s ⟨by simp [rk, b01, z], rfl⟩)
         | (by_cases z2 : b = nI 0
            · exact wp_bt z2 (wp_rIe t0 (wp_s ⟨by simp [rk, b01, z, z2], rfl⟩))
            · exact wp_bf z2 (wp_rIe t1 (wp_s ⟨by simp [rk, b01, z, z2], rfl⟩))))
theorem mI20_lt {n : Nat} (h : n < 2 ^ 31) : mI 20 < nI n := by
  rw [Int32.lt_iff_toInt_lt, nI_toInt h]
  have : (mI 20).toInt = -20 := by decide
  omega
section
variable {h : MH} {f : Nat → Nat → Int32} {m : Nat}
theorem mo_kept {ks : List Kp} {r c mm : Int32} (C : MSH h m) (hl : ks.length ≤ 330) : ∀ kt i f S, ks.drop i = kt → i ≤ ks.length → f (m + 6) 0 = nI ks.length → (∀ i k, ks[i]? = some k → f (m + 14) i = mkc k) → VF f (m + 26) S → S.length ≤ 32 → kok kt S.length →
    ∃ f', ev M_Mo_keptBy 0 12 [some (.ref m), some (.int r), some (.int c), some (.int mm), some (.int (nI S.length)), some (.int (nI i)), none] [] (wI h f) = some (some (.int ((kw r c mm kt S).headD (nI 0))), wI h f') ∧ ∀ b, b ≠ m + 26 → f' b = f b := by
  have mc := C.1
  have ar6 : hR h m 16 = some (m + 6) := (C.2 5 (by decide)).1
  have an6 : hN h (m + 6) = 2 := (C.2 5 (by decide)).2.1
  have ac6 : hC h (m + 6) = 20 := (C.2 5 (by decide)).2.2
  have ar14 : hR h m 24 = some (m + 14) := (C.2 13 (by decide)).1
  have an14 : hN h (m + 14) = 660 := (C.2 13 (by decide)).2.1
  have ac14 : hC h (m + 14) = 20 := (C.2 13 (by decide)).2.2
  have ar26 : hR h m 48 = some (m + 26) := (C.2 25 (by decide)).1
  have an26 : hN h (m + 26) = 64 := (C.2 25 (by decide)).2.1
  have ac26 : hC h (m + 26) = 20 := (C.2 25 (by decide)).2.2
  intro kt
  induction kt with
  | nil =>
    intro i f S hi hi2 k1 k2 V hS ok
    have : ks.length ≤ i := List.drop_eq_nil_iff.mp hi
    refine ⟨f, ?_, fun _ _ => rfl⟩
    cases S with
    | nil => exact absurd (show (0 : Nat) = 1 from ok) (by decide)
    | cons v S =>
      cases S with
      | cons w S => exact absurd ok (by intro e; have e2 : S.length + 1 + 1 = 1 := e; omega)
      | nil =>
        have v0 : f (m + 26) 0 = v := V.1
        rw [r_Mo_keptBy_12]
        refine wp_e (wp_isC mc (wp_nnR ar6 (wp_isC ac6 (wp_inA (n := 0) an6 rfl (by decide) (by decide) ?_))))
        rw [show (nI 0).toNatClampNeg = 0 from rfl, wI_I, k1]
        refine wp_bf (by rw [nI_ltI (by omega) (by omega)]; omega) (wp_isC mc (wp_nnR ar26 (wp_isC ac26 (wp_inA (n := 0) an26 rfl (by decide) (by decide) (wp_s ⟨?_, rfl⟩)))))
        rw [v0]
        rfl
  | cons k kt ih =>
    intro i f S hi hi2 k1 k2 V hS ok
    have hi3 : ks[i]? = some k := by
      have := List.getElem?_drop (xs := ks) (i := i) (j := 0)
      rw [hi] at this; simpa using this.symm
    have hlt : i < ks.length := (List.getElem?_eq_some_iff.mp hi3).1
    have hdr : ks.drop (i + 1) = kt := by rw [← List.drop_drop, hi]; rfl
    have kc := k2 i k hi3
    obtain ⟨o1, o2⟩ := ok
    have nx : ∀ S' : List Int32, ∀ j v, VF (up2 f (m + 26) j v) (m + 26) S' → S'.length ≤ 32 → kok kt S'.length → (∃ f', ev M_Mo_keptBy 0 90 [some (.ref m), some (.int r), some (.int c), some (.int mm), some (.int (nI S'.length)), some (.int (nI i)), none] [] (wI h (up2 f (m + 26) j v)) = some (some (.int ((kw r c mm kt S').headD (nI 0))), wI h f') ∧ ∀ b, b ≠ m + 26 → f' b = f b) := by
      intro S' j v V' hS' ok'
      obtain ⟨f', e1, e2⟩ := ih (i + 1) (up2 f (m + 26) j v) S' hdr (by omega) (by rw [up2_a (by omega)]; exact k1) (fun x y z => by rw [up2_a (by omega)]; exact k2 x y z) V' hS' ok'
      refine ⟨f', ?_, fun b hb => by rw [e2 b hb, up2_a hb]⟩
      rw [r_Mo_keptBy_90, nI_add]
      exact e1
    rw [kw]
    rcases o2 with ⟨q, q2, q3⟩ | ⟨q, q2, q3⟩ | ⟨q, q2, q3⟩
    · have ek : kw1 r c mm k S = (if k.1 = 0 then nI k.2 else if k.2 = 0 then r else if k.2 = 1 then c else mm) :: S := by
        unfold kw1
        by_cases z : k.1 = 0
        · rw [if_pos z, if_pos z]
        · rw [if_neg z, if_neg z, if_pos (by omega)]
      rw [ek]
      obtain ⟨f', e1, e2⟩ := nx _ S.length _ (VF_up (v := if k.1 = 0 then nI k.2 else if k.2 = 0 then r else if k.2 = 1 then c else mm) V) (by show S.length + 1 ≤ 32; omega) q3
      refine ⟨f', wp_e ?_, e2⟩
      have fin : wp (ev M_Mo_keptBy 0 45 [some (.ref m), some (.int r), some (.int c), some (.int mm), some (.int (nI S.length)), some (.int (nI i)), none] [(.int (if k.1 = 0 then nI k.2 else if k.2 = 0 then r else if k.2 = 1 then c else mm)), (.int (nI S.length)), (.ref (m + 26))] (wI h f)) (fun a b => a = some (Value.int ((kw r c mm kt ((if k.1 = 0 then nI k.2 else if k.2 = 0 then r else if k.2 = 1 then c else mm) :: S)).headD (nI 0))) ∧ b = wI h f') := by
        rw [r_Mo_keptBy_45]
        refine wp_isC ac26 (wp_inA an26 rfl (by omega) (by omega) ?_)
        rw [nI_clamp (by omega), wI_s, nI_add]
        exact wp_of e1 ⟨rfl, rfl⟩
      rw [r_Mo_keptBy_12]
      refine wp_isC mc (wp_nnR ar6 (wp_isC ac6 (wp_inA (n := 0) an6 rfl (by decide) (by decide) ?_)))
      rw [show (nI 0).toNatClampNeg = 0 from rfl, wI_I, k1]
      refine wp_bt (by rw [nI_ltI (by omega) (by omega)]; omega) (wp_isC mc (wp_nnR ar14 (wp_isC ac14 (wp_inA an14 rfl (by omega) (by omega) ?_))))
      rw [nI_clamp (by omega), kc]
      by_cases z : k.1 = 0
      · have em : mkc k = nI k.2 := if_pos z
        have hk : k.2 < 10000 := by unfold kpo at o1; omega
        rw [if_pos z] at fin
        rw [em, if_pos z]
        exact wp_bt (mI20_lt (by omega)) (wp_isC mc (wp_nnR ar26 (wp_bf (nI_pos (by omega)) fin)))
      · have em : mkc k = mI (10 + k.2) := by unfold mkc; rw [if_neg z, if_pos (by omega)]
        have hk : k.2 = 0 ∨ k.2 = 1 ∨ k.2 = 2 := by unfold kpo at o1; omega
        rw [if_neg z] at fin
        rw [em, if_neg z]
        rcases hk with w | w | w <;> rw [w] at fin ⊢
        · exact wp_bt (by decide) (wp_isC mc (wp_nnR ar26 (wp_bt (by decide) (wp_bt (by decide) fin))))
        · exact wp_bt (by decide) (wp_isC mc (wp_nnR ar26 (wp_bt (by decide) (wp_bf (by decide) (wp_bt (by decide) fin)))))
        · exact wp_bt (by decide) (wp_isC mc (wp_nnR ar26 (wp_bt (by decide) (wp_bf (by decide) (wp_bf (by decide) fin)))))
    · cases S with
      | nil => exact absurd q2 (by decide)
      | cons y S =>
        cases S with
        | nil => exact absurd q2 (Nat.lt_irrefl 1)
        | cons x S =>
          obtain ⟨vy, vx, V⟩ := V
          have ek : kw1 r c mm k (y :: x :: S) = rk k.2 x y :: S := by
            unfold kw1; rw [if_neg (by omega), if_neg (by omega), if_pos q]
          rw [ek]
          have hl2 : (y :: x :: S).length = S.length + 2 := rfl
          rw [hl2] at hS q3 ⊢
          have vy : f (m + 26) (S.length + 1) = y := vy
          have vx : f (m + 26) S.length = x := vx
          obtain ⟨f', e1, e2⟩ := nx _ S.length (rk k.2 x y) (VF_up V) (by show S.length + 1 ≤ 32; omega) q3
          refine ⟨f', wp_e ?_, e2⟩
          rw [r_Mo_keptBy_12]
          refine wp_isC mc (wp_nnR ar6 (wp_isC ac6 (wp_inA (n := 0) an6 rfl (by decide) (by decide) ?_)))
          rw [show (nI 0).toNatClampNeg = 0 from rfl, wI_I, k1]
          refine wp_bt (by rw [nI_ltI (by omega) (by omega)]; omega) (wp_isC mc (wp_nnR ar14 (wp_isC ac14 (wp_inA an14 rfl (by omega) (by omega) ?_))))
          rw [nI_clamp (by omega), kc]
          have hk2 : k.2 < 10 := by unfold kpo at o1; omega
          have em : mkc k = mI (20 + k.2) := by unfold mkc; rw [if_neg (by omega), if_neg (by omega), if_pos q]
          have m1 : nI (S.length + 2) + mI 1 = nI (S.length + 1) := pk_m1 _
          have m2 : nI (S.length + 1) - nI 1 = nI S.length := pk_sub (by omega)
          have hd := mo_done (h := wI h f) (a := x) (b := y) hk2
          have c1 : ¬ mI 20 < mI (20 + k.2) ∧ ¬ mI (20 + k.2) = mI 30 := by
            have : ∀ w : Fin 10, ¬ mI 20 < mI (20 + w.val) ∧ ¬ mI (20 + w.val) = mI 30 := by decide +kernel
            exact this ⟨k.2, hk2⟩
          rw [em, m1, m2]
          refine wp_bf c1.1 (wp_bf c1.2 (wp_isC mc (wp_nnR ar26 (wp_isC mc (wp_nnR ar26 (wp_isC ac26 (wp_inA an26 rfl (by omega) (by omega) (wp_isC mc (wp_nnR ar26 (wp_isC ac26 (wp_inA an26 rfl (by omega) (by omega) ?_))))))))))) 
          rw [nI_clamp (by omega), nI_clamp (by omega), vx, vy]
          refine wp_rIe hd (wp_isC ac26 (wp_inA an26 rfl (by omega) (by omega) ?_))
          rw [wI_s]
          exact wp_of e1 ⟨rfl, rfl⟩
    · cases S with
      | nil => exact absurd q2 (by decide)
      | cons y S =>
        obtain ⟨vy, V⟩ := V
        have ek : kw1 r c mm k (y :: S) = b01 (y = nI 0) :: S := by
          unfold kw1; rw [if_neg (by omega), if_neg (by omega), if_neg (by omega)]
        rw [ek]
        have hl2 : (y :: S).length = S.length + 1 := rfl
        rw [hl2] at hS q3 ⊢
        have vy : f (m + 26) S.length = y := vy
        obtain ⟨f', e1, e2⟩ := nx _ S.length (b01 (y = nI 0)) (VF_up V) (by show S.length + 1 ≤ 32; omega) q3
        refine ⟨f', wp_e ?_, e2⟩
        rw [r_Mo_keptBy_12]
        refine wp_isC mc (wp_nnR ar6 (wp_isC ac6 (wp_inA (n := 0) an6 rfl (by decide) (by decide) ?_)))
        rw [show (nI 0).toNatClampNeg = 0 from rfl, wI_I, k1]
        refine wp_bt (by rw [nI_ltI (by omega) (by omega)]; omega) (wp_isC mc (wp_nnR ar14 (wp_isC ac14 (wp_inA an14 rfl (by omega) (by omega) ?_))))
        rw [nI_clamp (by omega), kc]
        have em : mkc k = mI 30 := by unfold mkc; rw [if_neg (by omega), if_neg (by omega), if_neg (by omega)]
        have m2 : nI (S.length + 1) - nI 1 = nI S.length := pk_sub (by omega)
        have t0 : ev M_Mo_truth 0 0 [some (.int (nI 0))] [] (wI h f) = some (some (.int (nI 0)), wI h f) := mo_truth false _
        have t1 : ev M_Mo_truth 0 0 [some (.int (nI 1))] [] (wI h f) = some (some (.int (nI 1)), wI h f) := mo_truth true _
        rw [em, m2]
        refine wp_bf (by decide) (wp_bt rfl (wp_isC mc (wp_nnR ar26 (wp_isC mc (wp_nnR ar26 (wp_isC ac26 (wp_inA an26 rfl (by omega) (by omega) ?_)))))))
        rw [nI_clamp (by omega), vy]
        by_cases z : y = nI 0
        · have eb : b01 (y = nI 0) = nI 1 := if_pos z
          rw [eb] at e1 ⊢
          refine wp_bt z ?_
          rw [r_Mo_keptBy_67]
          refine wp_rIe t1 (wp_isC ac26 (wp_inA an26 rfl (by omega) (by omega) ?_))
          rw [nI_clamp (by omega), wI_s]
          exact wp_of e1 ⟨rfl, rfl⟩
        · have eb : b01 (y = nI 0) = nI 0 := if_neg z
          rw [eb] at e1 ⊢
          refine wp_bf z ?_
          rw [r_Mo_keptBy_67]
          refine wp_rIe t0 (wp_isC ac26 (wp_inA an26 rfl (by omega) (by omega) ?_))
          rw [nI_clamp (by omega), wI_s]
          exact wp_of e1 ⟨rfl, rfl⟩
theorem mo_keptBy {ks : List Kp} (C : MSH h m) (hl : ks.length ≤ 330) (k1 : f (m + 6) 0 = nI ks.length) (k2 : ∀ i k, ks[i]? = some k → f (m + 14) i = mkc k) (ok : ks ≠ [] → kok ks 0) (r c mm : Int32) : ∃ f', ev M_Mo_keptBy 0 0 [some (.ref m), some (.int r), some (.int c), some (.int mm), none, none, none] [] (wI h f) = some (some (.int (kept r c mm ks)), wI h f') ∧ ∀ b, b ≠ m + 26 → f' b = f b := by
  have mc := C.1
  have ar6 : hR h m 16 = some (m + 6) := (C.2 5 (by decide)).1
  have an6 : hN h (m + 6) = 2 := (C.2 5 (by decide)).2.1
  have ac6 : hC h (m + 6) = 20 := (C.2 5 (by decide)).2.2
  unfold kept
  by_cases z : ks = []
  · rw [if_pos z]
    refine ⟨f, ?_, fun _ _ => rfl⟩
    rw [r_Mo_keptBy_0]
    refine wp_e (wp_isC mc (wp_nnR ar6 (wp_isC ac6 (wp_inA (n := 0) an6 rfl (by decide) (by decide) ?_))))
    rw [show (nI 0).toNatClampNeg = 0 from rfl, wI_I, k1, z]
    exact wp_bt rfl (wp_s ⟨rfl, rfl⟩)
  · rw [if_neg z]
    obtain ⟨f', e1, e2⟩ := mo_kept (r := r) (c := c) (mm := mm) C hl ks 0 f [] rfl (Nat.zero_le _) k1 k2 trivial (by decide) (ok z)
    refine ⟨f', ?_, e2⟩
    rw [r_Mo_keptBy_0]
    refine wp_e (wp_isC mc (wp_nnR ar6 (wp_isC ac6 (wp_inA (n := 0) an6 rfl (by decide) (by decide) ?_))))
    rw [show (nI 0).toNatClampNeg = 0 from rfl, wI_I, k1]
    refine wp_bf (by rw [nI_eq (by omega) (by decide)]; intro w; exact z (List.length_eq_zero_iff.mp w)) (wp_of e1 ⟨rfl, rfl⟩)
end
/-! sifting -/
theorem xor_t2 (a c i : Nat) : (a ^^^ 2 ^ c).testBit i = (if i = c then !a.testBit i else a.testBit i) := by
  rw [Nat.testBit_xor, Nat.testBit_two_pow]
  by_cases z : i = c
  · rw [if_pos z, decide_eq_true z.symm, Bool.xor_true]
  · rw [if_neg z, decide_eq_false (Ne.symm z), Bool.xor_false]
theorem fc_t {D : Nat → Nat → Bool} {G : Rw} {r : Nat} : ∀ c i, (fc D G r c).testBit i = ((G r).testBit i && !(decide (i < c) && D r i))
  | 0, i => by
    show (G r).testBit i = _
    rw [decide_eq_false (Nat.not_lt_zero i)]; simp
  | c + 1, i => by
    rw [fc]
    have ih := fc_t (D := D) (G := G) (r := r) c i
    by_cases q : ((G r).testBit c && D r c) = true
    · rw [if_pos q, xor_t2, ih]
      by_cases z : i = c
      · subst z
        rw [if_pos rfl, decide_eq_false (Nat.lt_irrefl i), decide_eq_true (Nat.lt_succ_self i)]
        rw [Bool.and_eq_true] at q
        rw [q.1, q.2]; rfl
      · rw [if_neg z]
        have : decide (i < c + 1) = decide (i < c) := by
          by_cases w : i < c
          · rw [decide_eq_true w, decide_eq_true (by omega)]
          · rw [decide_eq_false w, decide_eq_false (by omega)]
        rw [this]
    · rw [if_neg q, ih]
      by_cases z : i = c
      · subst z
        rw [decide_eq_false (Nat.lt_irrefl i), decide_eq_true (Nat.lt_succ_self i)]
        cases z1 : (G r).testBit i with
        | false => rfl
        | true =>
          cases z2 : D r i with
          | false => rfl
          | true => exact absurd (by rw [z1, z2]; rfl) q
      · have : decide (i < c + 1) = decide (i < c) := by
          by_cases w : i < c
          · rw [decide_eq_true w, decide_eq_true (by omega)]
          · rw [decide_eq_false w, decide_eq_false (by omega)]
        rw [this]
def kr (D : Nat → Nat → Bool) (G : Rw) (r c : Nat) : Nat := orr (fun c => if ((G r).testBit c && !D r c) = true then 2 ^ c else 0) c
theorem kr_lt {D : Nat → Nat → Bool} {G : Rw} {r c : Nat} (h : c ≤ 16) : kr D G r c < 2 ^ 16 := by
  apply orr_lt
  intro i hi
  split
  · exact Nat.pow_lt_pow_right (by decide) (by omega)
  · decide
theorem kr_fc {D : Nat → Nat → Bool} {n : Nat} {G : Rw} (V : GW n G) (r : Nat) : kr D G r 16 = if r < n then fc D G r n else 0 := by
  have hf : kr D G r 16 = fc D G r n := by
    apply Nat.eq_of_testBit_eq
    intro i
    rw [fc_t]
    have ht : (kr D G r 16).testBit i = true ↔ i < 16 ∧ ((G r).testBit i && !D r i) = true := by
      unfold kr
      rw [orr_t]
      constructor
      · rintro ⟨j, h1, h2⟩
        by_cases q : ((G r).testBit j && !D r j) = true
        · rw [if_pos q, Nat.testBit_two_pow] at h2
          have := of_decide_eq_true h2
          subst this
          exact ⟨h1, q⟩
        · rw [if_neg q, Nat.zero_testBit] at h2; cases h2
      · rintro ⟨h1, h2⟩
        exact ⟨i, h1, by rw [if_pos h2, Nat.testBit_two_pow_self]⟩
    cases z : (G r).testBit i with
    | false =>
      rw [Bool.false_and]
      cases w : (kr D G r 16).testBit i with
      | false => rfl
      | true =>
        have := (ht.mp w).2
        rw [z, Bool.false_and] at this; cases this
    | true =>
      have hb := V.in z
      have h16 := V.1
      rw [z] at ht
      rw [decide_eq_true hb.2, Bool.true_and, Bool.true_and]
      cases w : (kr D G r 16).testBit i with
      | true => have := (ht.mp w).2; rw [Bool.true_and] at this; exact this.symm
      | false =>
        cases y : D r i with
        | true => rfl
        | false =>
          have := ht.mpr ⟨by omega, by rw [y]; rfl⟩
          rw [w] at this; cases this
  by_cases q : r < n
  · rw [if_pos q, hf]
  · rw [if_neg q]
    unfold kr
    rw [orr_z (m := 0) (by decide) (fun k _ _ => by rw [V.2.2 r (by omega), Nat.zero_testBit, Bool.false_and]; rfl)]
    rfl
/-- what sifting may write on -/
def SX (m : Nat) (f f' : Nat → Nat → Int32) : Prop := ∀ b, b ≠ m + 26 → b ≠ m + 20 → f' b = f b
theorem SX.rf {m : Nat} {f : Nat → Nat → Int32} : SX m f f := fun _ _ _ => rfl
theorem SX.tr {m : Nat} {f g k : Nat → Nat → Int32} (x : SX m f g) (y : SX m g k) : SX m f k := fun b h1 h2 => (y b h1 h2).trans (x b h1 h2)
theorem SX.M {m : Nat} {f f' : Nat → Nat → Int32} (x : SX m f f') : MX m f f' := ⟨fun b _ h2 _ => x b (by omega) (by omega), fun k _ _ => by rw [x m (by omega) (by omega)]⟩
section
variable {h : MH} {f : Nat → Nat → Int32} {m : Nat} {S : Abs}
theorem mo_sifts {k : Nat} {G : Rw} {n : Nat} {ks : List Kp} (C : MSH h m) (hl : ks.length ≤ 330) (k1 : f (m + 6) 0 = nI ks.length) (k2 : ∀ i k, ks[i]? = some k → f (m + 14) i = mkc k) (ok : ks ≠ [] → kok ks 0) (hk : k < 5) (R : RF f (m + 18) (16 * k) G) (V : GW n G) : ∃ f', ev M_Mo_sifts 0 0 [some (.ref m), some (.int (nI k)), none, none, none] [] (wI h f) = some (none, wI h f') ∧ RF f' (m + 20) 0 (sft n ks G) ∧ SX m f f' := by
  have mc := C.1
  have ar18 : hR h m 38 = some (m + 18) := (C.2 17 (by decide)).1
  have an18 : hN h (m + 18) = 80 := (C.2 17 (by decide)).2.1
  have ac18 : hC h (m + 18) = 20 := (C.2 17 (by decide)).2.2
  have ar20 : hR h m 40 = some (m + 20) := (C.2 19 (by decide)).1
  have an20 : hN h (m + 20) = 16 := (C.2 19 (by decide)).2.1
  have ac20 : hC h (m + 20) = 20 := (C.2 19 (by decide)).2.2
  have key : ∀ q r f1, r + q = 16 → (∀ s, s < r → f1 (m + 20) s = nI (kr (drp ks (ct n G)) G s 16)) → SX m f f1 → ∃ f', ev M_Mo_sifts 0 10 [some (.ref m), some (.int (nI k)), some (.int (nI (ct n G))), some (.int (nI r)), none] [] (wI h f1) = some (none, wI h f') ∧ (∀ s, s < 16 → f' (m + 20) s = nI (kr (drp ks (ct n G)) G s 16)) ∧ SX m f f' := by
    intro q
    induction q with
    | zero =>
      intro r f1 hr e1 t
      have : r = 16 := by omega
      subst this
      refine ⟨f1, ?_, e1, t⟩
      rw [r_Mo_sifts_10]
      exact wp_e (wp_bf (by decide) (wp_s ⟨rfl, rfl⟩))
    | succ q ih =>
      intro r f1 hr e1 t
      have LI : ∀ p c f1, c + p = 16 → (∀ s, s < r → f1 (m + 20) s = nI (kr (drp ks (ct n G)) G s 16)) → f1 (m + 20) r = nI (kr (drp ks (ct n G)) G r c) → SX m f f1 → ∃ f', ev M_Mo_sifts 0 21 [some (.ref m), some (.int (nI k)), some (.int (nI (ct n G))), some (.int (nI r)), some (.int (nI c))] [] (wI h f1) = some (none, wI h f') ∧ (∀ s, s < 16 → f' (m + 20) s = nI (kr (drp ks (ct n G)) G s 16)) ∧ SX m f f' := by
        intro p
        induction p with
        | zero =>
          intro c f1 hc e1 e2 t
          have : c = 16 := by omega
          subst this
          obtain ⟨f', i1, i2⟩ := ih (r + 1) f1 (by omega) (fun s hs => by
            by_cases z : s = r
            · rw [z]; exact e2
            · exact e1 s (by omega)) t
          refine ⟨f', ?_, i2⟩
          rw [r_Mo_sifts_21]
          apply wp_e
          refine wp_bf (by decide) ?_
          rw [nI_add]
          exact wp_of i1 ⟨rfl, rfl⟩
        | succ p ihp =>
          intro c f1 hc e1 e2 t
          have eR : f1 (m + 18) (16 * k + r) = nI (G r) := by rw [t _ (by omega) (by omega)]; exact R r (by omega)
          have top : ∀ {Q : Option Value → MH → Prop}, (∀ b : Bool, b = (G r).testBit c → wp (br (nI b.toNat = nI 0) (ev M_Mo_sifts 0 52 [some (.ref m), some (.int (nI k)), some (.int (nI (ct n G))), some (.int (nI r)), some (.int (nI c))] [] (wI h f1)) (isC (wI h f1) m 13 (rI (ev M_Mo_keptBy 0 0 [some (.ref m), some (.int (nI r)), some (.int (nI c)), some (.int (nI (ct n G))), none, none, none] [] (wI h f1)) fun y5 h4 =>
          br (y5 = (nI 0))
            (ev M_Mo_sifts 0 52 [some (.ref m), some (.int (nI k)), some (.int (nI (ct n G))), some (.int (nI r)), some (.int (nI c))] [] h4)
            (isC h4 m 13 (nnR (hR h4 m 40) fun r6 =>
             isC h4 r6 20 (inA h4 r6 (nI r) (
             isC h4 r6 20 (inA h4 r6 (nI r) (
             ev M_Mo_sifts 0 52 [some (.ref m), some (.int (nI k)), some (.int (nI (ct n G))), some (.int (nI r)), some (.int (nI c))] [] (sI h4 r6 (Int32.toNatClampNeg (nI r)) ((hI h4 r6 (Int32.toNatClampNeg (nI r))) ||| ((nI 1) <<< (nI c &&& 31))))))))))))) Q) → wp (ev M_Mo_sifts 0 21 [some (.ref m), some (.int (nI k)), some (.int (nI (ct n G))), some (.int (nI r)), some (.int (nI c))] [] (wI h f1)) Q := by
            intro Q H
            rw [r_Mo_sifts_21]
            refine wp_bt (by rw [nI_ltI (by omega) (by decide)]; omega) (wp_isC mc (wp_nnR ar18 (wp_isC ac18 (wp_inA (n := 16 * k + r) an18 (by rw [pk_mul, nI_add]) (by omega) (by omega) ?_))))
            rw [show (nI 16 * nI k + nI r).toNatClampNeg = 16 * k + r by rw [pk_mul, nI_add, nI_clamp (by omega)], wI_I, eR]
            exact wp_rIe (mo_isOf _ (by omega) (Nat.lt_of_lt_of_le (V.lt r) (by decide))) (H _ rfl)
          have ek : kr (drp ks (ct n G)) G r (c + 1) = kr (drp ks (ct n G)) G r c ||| (if ((G r).testBit c && !drp ks (ct n G) r c) = true then 2 ^ c else 0) := rfl
          cases z : (G r).testBit c with
          | false =>
            rw [z, Bool.false_and, if_neg (by decide), Nat.or_zero] at ek
            obtain ⟨f', i1, i2⟩ := ihp (c + 1) f1 (by omega) e1 (by rw [ek]; exact e2) t
            refine ⟨f', wp_e (top (fun b hb => ?_)), i2⟩
            rw [z] at hb
            subst hb
            refine wp_bt rfl ?_
            rw [r_Mo_sifts_52, nI_add]
            exact wp_of i1 ⟨rfl, rfl⟩
          | true =>
            obtain ⟨g, w1, w2⟩ := mo_keptBy (h := h) (f := f1) C hl (by rw [t _ (by omega) (by omega)]; exact k1) (fun i k hk => by rw [t _ (by omega) (by omega)]; exact k2 i k hk) ok (nI r) (nI c) (nI (ct n G))
            have tg : SX m f g := t.tr (fun b h1 _ => w2 b h1)
            have g20 : g (m + 20) = f1 (m + 20) := w2 _ (by omega)
            have eD : drp ks (ct n G) r c = decide (kept (nI r) (nI c) (nI (ct n G)) ks = nI 0) := rfl
            by_cases y : kept (nI r) (nI c) (nI (ct n G)) ks = nI 0
            · rw [z, eD, decide_eq_true y, Bool.true_and, if_neg (by decide), Nat.or_zero] at ek
              obtain ⟨f', i1, i2⟩ := ihp (c + 1) g (by omega) (fun s hs => by rw [g20]; exact e1 s hs) (by rw [g20, ek]; exact e2) tg
              refine ⟨f', wp_e (top (fun b hb => ?_)), i2⟩
              rw [z] at hb
              subst hb
              refine wp_bf n10 (wp_isC mc (wp_rIe w1 (wp_bt y ?_)))
              rw [r_Mo_sifts_52, nI_add]
              exact wp_of i1 ⟨rfl, rfl⟩
            · rw [z, eD, decide_eq_false y, Bool.true_and, if_pos (by decide)] at ek
              obtain ⟨f', i1, i2⟩ := ihp (c + 1) (up2 g (m + 20) r (nI (kr (drp ks (ct n G)) G r (c + 1)))) (by omega) (fun s hs => by rw [up2_k (by omega), g20]; exact e1 s hs) up2_s (tg.tr (fun b _ h2 => up2_a h2))
              refine ⟨f', wp_e (top (fun b hb => ?_)), i2⟩
              rw [z] at hb
              subst hb
              refine wp_bf n10 (wp_isC mc (wp_rIe w1 (wp_bf y (wp_isC mc (wp_nnR ar20 (wp_isC ac20 (wp_inA an20 rfl (by omega) (by omega) (wp_isC ac20 (wp_inA an20 rfl (by omega) (by omega) ?_)))))))))
              rw [nI_clamp (by omega), wI_I, g20, e2, nm_one (by omega), nm_or, ← ek, wI_s, r_Mo_sifts_52, nI_add]
              exact wp_of i1 ⟨rfl, rfl⟩
      obtain ⟨f', i1, i2⟩ := LI 16 0 (up2 f1 (m + 20) r (nI 0)) rfl (fun s hs => by rw [up2_k (by omega)]; exact e1 s hs) up2_s (t.tr (fun b _ h2 => up2_a h2))
      refine ⟨f', ?_, i2⟩
      rw [r_Mo_sifts_10]
      apply wp_e
      refine wp_bt (by rw [nI_ltI (by omega) (by decide)]; omega) (wp_isC mc (wp_nnR ar20 (wp_isC ac20 (wp_inA an20 rfl (by omega) (by omega) ?_))))
      rw [nI_clamp (by omega), wI_s]
      exact wp_of i1 ⟨rfl, rfl⟩
  obtain ⟨f', i1, i2, i3⟩ := key 16 0 f rfl (fun s hs => absurd hs (Nat.not_lt_zero s)) SX.rf
  refine ⟨f', ?_, fun r hr => ?_, i3⟩
  · rw [r_Mo_sifts_0]
    refine wp_e (wp_isC mc (wp_nnR ar18 ?_))
    rw [pk_mul]
    refine wp_rIe (mo_manyIn ac18 an18 (by omega) (by decide) R V.lt) ?_
    rw [ct_16 V]
    exact wp_of i1 ⟨rfl, rfl⟩
  · rw [Nat.zero_add, i2 r hr, kr_fc V]
    rfl
theorem m_relation (C : MSH h m) (F : MF f m S) (W : WS S) (a b : Int32) : ∃ f', ev M_Mo_relation2 0 0 [some (.ref m), some (.int a), some (.int b)] [] (wI h f) = some (some (.int (sRel S a b)), wI h f') ∧ MX m f f' := by
  have mc := C.1
  have ar9 : hR h m 19 = some (m + 9) := (C.2 8 (by decide)).1
  have an9 : hN h (m + 9) = 10 := (C.2 8 (by decide)).2.1
  have ac9 : hC h (m + 9) = 20 := (C.2 8 (by decide)).2.2
  have ar18 : hR h m 38 = some (m + 18) := (C.2 17 (by decide)).1
  have an18 : hN h (m + 18) = 80 := (C.2 17 (by decide)).2.1
  have ac18 : hC h (m + 18) = 20 := (C.2 17 (by decide)).2.2
  have ar20 : hR h m 40 = some (m + 20) := (C.2 19 (by decide)).1
  have an20 : hN h (m + 20) = 16 := (C.2 19 (by decide)).2.1
  have ac20 : hC h (m + 20) = 20 := (C.2 19 (by decide)).2.2
  have hv : aV S ≤ 4 := W.2.2.1.1.2.1
  have hr5 : aR S ≤ 5 := W.2.2.1.1.2.2.2.1
  rw [r_Mo_relation2_0]
  unfold sRel
  cases za : inN a (aR S) with
  | none => exact ⟨f, wp_e (wp_isC mc (wp_rIe (mo_LR0 C F W za) (wp_bt rfl (wp_s ⟨rfl, rfl⟩)))), MX.rf⟩
  | some k =>
    obtain ⟨ea, k1, -⟩ := inN_s za
    subst ea
    dsimp only [on]
    obtain ⟨f', t1, t2, t3, t4⟩ := mo_LR C F W k1
    obtain ⟨R, V⟩ := t2 k k1
    have F1 := t4.F F
    have hw : aW S ≤ 16 := lv_p hv
    by_cases z0 : b = nI 0
    · rw [if_pos z0]
      refine ⟨f', wp_e (wp_isC mc (wp_rIe t1 (wp_bf n10 (wp_bt z0 (wp_isC mc (wp_nnR ar9 (wp_isC ac9 (wp_inA an9 rfl (by omega) (by omega) (wp_s ⟨?_, rfl⟩))))))))), t4⟩
      rw [nI_clamp (by omega), wI_I, F1.2.2.1.2.2.1 k k1]
    rw [if_neg z0]
    by_cases z1 : b = nI 1
    · rw [if_pos z1]
      refine ⟨f', wp_e (wp_isC mc (wp_rIe t1 (wp_bf n10 (wp_bf z0 (wp_bt z1 (wp_isC mc (wp_nnR ar18 ?_))))))), t4⟩
      rw [pk_mul]
      refine wp_rIe (mo_manyIn ac18 an18 (by omega) (by decide) R V.lt) ?_
      rw [ct_16 V]
      exact wp_s ⟨rfl, rfl⟩
    rw [if_neg z1]
    by_cases z2 : b = nI 2
    · rw [if_pos z2]
      refine ⟨f', wp_e (wp_isC mc (wp_rIe t1 (wp_bf n10 (wp_bf z0 (wp_bf z1 (wp_bt z2 (wp_isC mc (wp_s ⟨?_, rfl⟩)))))))), t4⟩
      rw [wI_I, t3.1, bQ_nb W k]
    rw [if_neg z2]
    by_cases z3 : b = nI 3
    · rw [if_pos z3]
      have wd := mo_wide C F1.2.2.1.1 hv (h := h)
      refine ⟨f', wp_e (wp_isC mc (wp_rIe t1 (wp_bf n10 (wp_bf z0 (wp_bf z1 (wp_bf z2 (wp_bt z3 (wp_isC mc (wp_rIe wd (wp_isC mc (wp_rIe wd (wp_isC mc (wp_s ⟨?_, rfl⟩))))))))))))), t4⟩
      rw [wI_I, t3.1, bQ_nb W k, pk_mul]
      rfl
    rw [if_neg z3]
    by_cases z4 : b = nI 4
    · rw [if_pos z4]
      obtain ⟨-, d2, -, d4⟩ := F1.2.2.2.1
      obtain ⟨g, s1, s2, s3⟩ := mo_sifts (h := h) (f := f') C (Nat.le_trans W.2.2.1.1.2.2.2.2.2.2.2.2.1.1 (by decide)) d2 d4 W.2.2.1.2.2.2.2 (by omega) R V
      have V2 := GW.sft (ks := vKs (aQ S)) V
      refine ⟨g, wp_e (wp_isC mc (wp_rIe t1 (wp_bf n10 (wp_bf z0 (wp_bf z1 (wp_bf z2 (wp_bf z3 (wp_bt z4 (wp_isC mc (wp_rVe s1 (wp_isC mc (wp_nnR ar20 ?_)))))))))))), t4.tr s3.M⟩
      refine wp_rIe (mo_manyIn ac20 an20 (by decide) (by decide) s2 V2.lt) ?_
      rw [ct_16 V2]
      exact wp_s ⟨rfl, rfl⟩
    rw [if_neg z4]
    exact ⟨f', wp_e (wp_isC mc (wp_rIe t1 (wp_bf n10 (wp_bf z0 (wp_bf z1 (wp_bf z2 (wp_bf z3 (wp_bf z4 (wp_s ⟨rfl, rfl⟩))))))))), t4⟩
end
