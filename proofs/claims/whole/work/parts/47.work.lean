/-! A formula worked off. -/
def FS (h : MH) (a : Nat) : Prop := hC h a = 2 ∧ hR h a 0 = some (a + 1) ∧ hC h (a + 1) = 20 ∧ hN h (a + 1) = 320 ∧ hR h a 2 = some (a + 2) ∧ hC h (a + 2) = 20 ∧ hN h (a + 2) = 32
def KF (f : Nat → Nat → Int32) (a : Nat) (ks : List Kp) : Prop := f a 1 = nI ks.length ∧ ∀ i k, ks[i]? = some k → f (a + 1) i = kC k
def VF (f : Nat → Nat → Int32) (b : Nat) : List Int32 → Prop
  | [] => True
  | v :: S => f b S.length = v ∧ VF f b S
theorem VF_fr {f f' : Nat → Nat → Int32} {b : Nat} : ∀ {S : List Int32}, (∀ j, j < S.length → f' b j = f b j) → VF f b S → VF f' b S
  | [], _, _ => True.intro
  | v :: S, h, s => ⟨by rw [h S.length (Nat.lt_succ_self _)]; exact s.1, VF_fr (fun j hj => h j (Nat.lt_succ_of_lt hj)) s.2⟩
theorem VF_up {f : Nat → Nat → Int32} {b : Nat} {S : List Int32} {v : Int32} (s : VF f b S) : VF (up2 f b S.length v) b (v :: S) :=
  ⟨up2_s, VF_fr (fun j hj => up2_k (by omega)) s⟩
theorem kC_not {k : Kp} (ok : kpo k) (h : ¬ k.1 < 2) : kC k = nI 114 ↔ k.1 = 3 := by
  unfold kC
  rcases ok with ⟨q, q2⟩ | ⟨q, q2⟩ | ⟨q, q2⟩ | q
  · omega
  · omega
  · rw [if_neg (by omega), if_neg (by omega), if_pos q]
    have : k.2 = 0 ∨ k.2 = 1 ∨ k.2 = 2 ∨ k.2 = 3 ∨ k.2 = 4 ∨ k.2 = 5 ∨ k.2 = 6 ∨ k.2 = 7 ∨ k.2 = 8 ∨ k.2 = 9 := by omega
    have e : ¬ k.1 = 3 := by omega
    rcases this with z | z | z | z | z | z | z | z | z | z <;> rw [z] <;> exact ⟨fun x => absurd x (by decide), fun x => absurd x e⟩
  · rw [if_neg (by omega), if_neg (by omega), if_neg (by omega)]
    exact ⟨fun _ => q, fun _ => rfl⟩
theorem fo_loop {h : MH} {a : Nat} {ks : List Kp} {r c m : Int32} (A : FS h a) (hl : ks.length ≤ 320) : ∀ kt i f S, ks.drop i = kt → i ≤ ks.length → KF f a ks → VF f (a + 2) S → S.length ≤ 32 → kok kt S.length →
    ∃ f', ev M_Formula_work 0 10 [some (.ref a), some (.int r), some (.int c), some (.int m), some (.int (nI S.length)), some (.int (nI i)), none] [] (wI h f) = some (some (.int ((kw r c m kt S).headD (nI 0))), wI h f') ∧ Fr (a + 2) (a + 3) f f' := by
  obtain ⟨a1, a2, a3, a4, a5, a6, a7⟩ := A
  intro kt
  induction kt with
  | nil =>
    intro i f S hi hi2 K V hS ok
    have : ks.length ≤ i := List.drop_eq_nil_iff.mp hi
    have k1 := K.1
    refine ⟨f, ?_, Fr.rf⟩
    cases S with
    | nil => exact absurd (show (0 : Nat) = 1 from ok) (by decide)
    | cons v S =>
      cases S with
      | cons w S => exact absurd ok (by intro e; have e2 : S.length + 1 + 1 = 1 := e; omega)
      | nil =>
        have v0 : f (a + 2) 0 = v := V.1
        rw [r_Formula_work_10]
        apply wp_e
        repeat (first | refine wp_isC (by assumption) ?_ | refine wp_nnR (by assumption) ?_ | refine wp_inA (by assumption) rfl (by omega) (by omega) ?_ | refine wp_isZ (by decide) ?_ | refine wp_bt (by (first | (simp (disch := omega) only [wI_I, wI_s, nI_add, pk_mul, nI_ltI, nI_leI, nI_eq, nI_clamp, nm_or, nm_and, nm_xor, nm_nd, nm_one, nm_shr, nm_b2, Bool.false_eq_true, Bool.true_eq_false, not_false_eq_true, not_true_eq_false, reduceCtorEq, k1]; done) | (simp (disch := omega) only [wI_I, wI_s, nI_add, pk_mul, nI_ltI, nI_leI, nI_eq, nI_clamp, nm_or, nm_and, nm_xor, nm_nd, nm_one, nm_shr, nm_b2, Bool.false_eq_true, Bool.true_eq_false, not_false_eq_true, not_true_eq_false, reduceCtorEq, k1]; omega) | omega)) ?_ | refine wp_bf (by (first | (simp (disch := omega) only [wI_I, wI_s, nI_add, pk_mul, nI_ltI, nI_leI, nI_eq, nI_clamp, nm_or, nm_and, nm_xor, nm_nd, nm_one, nm_shr, nm_b2, Bool.false_eq_true, Bool.true_eq_false, not_false_eq_true, not_true_eq_false, reduceCtorEq, k1]; done) | (simp (disch := omega) only [wI_I, wI_s, nI_add, pk_mul, nI_ltI, nI_leI, nI_eq, nI_clamp, nm_or, nm_and, nm_xor, nm_nd, nm_one, nm_shr, nm_b2, Bool.false_eq_true, Bool.true_eq_false, not_false_eq_true, not_true_eq_false, reduceCtorEq, k1]; omega) | omega)) ?_)
        simp (disch := omega) only [wI_I, wI_s, nI_add, pk_mul, nI_ltI, nI_leI, nI_eq, nI_clamp, nm_or, nm_and, nm_xor, nm_nd, nm_one, nm_shr, nm_b2, Bool.false_eq_true, Bool.true_eq_false, not_false_eq_true, not_true_eq_false, reduceCtorEq, v0]
        exact wp_s ⟨rfl, rfl⟩
  | cons k kt ih =>
    intro i f S hi hi2 K V hS ok
    obtain ⟨k1, k2⟩ := id K
    have hi3 : ks[i]? = some k := by
      have := List.getElem?_drop (xs := ks) (i := i) (j := 0)
      rw [hi] at this; simpa using this.symm
    have hlt : i < ks.length := (List.getElem?_eq_some_iff.mp hi3).1
    have hdr : ks.drop (i + 1) = kt := by rw [← List.drop_drop, hi]; rfl
    have kc := k2 i k hi3
    obtain ⟨o1, o2⟩ := ok
    have nx : ∀ S' : List Int32, ∀ j v, VF (up2 f (a + 2) j v) (a + 2) S' → S'.length ≤ 32 → kok kt S'.length → (∃ f', ev M_Formula_work 0 10 [some (.ref a), some (.int r), some (.int c), some (.int m), some (.int (nI S'.length)), some (.int (nI (i + 1))), none] [] (wI h (up2 f (a + 2) j v)) = some (some (.int ((kw r c m kt S').headD (nI 0))), wI h f') ∧ Fr (a + 2) (a + 3) f f') := by
      intro S' j v V' hS' ok'
      obtain ⟨f', e1, e2⟩ := ih (i + 1) (up2 f (a + 2) j v) S' hdr (by omega) ⟨by rw [up2_a (by omega)]; exact k1, fun x y z => by rw [up2_a (by omega)]; exact k2 x y z⟩ V' hS' ok'
      exact ⟨f', e1, (Fr.u2 (by omega) (by omega)).tr e2⟩
    rw [kw]
    have hu := fo_unit (h := wI h f) o1
    rcases o2 with ⟨q, q2, q3⟩ | ⟨q, q2, q3⟩ | ⟨q, q2, q3⟩
    · rw [if_pos q] at hu
      have ek : kw1 r c m k S = (if k.1 = 0 then nI k.2 else if k.2 = 0 then r else if k.2 = 1 then c else m) :: S := by
        unfold kw1
        by_cases z : k.1 = 0
        · rw [if_pos z, if_pos z]
        · rw [if_neg z, if_neg z, if_pos (by omega)]
      rw [ek]
      obtain ⟨f', e1, e2⟩ := nx _ S.length _ (VF_up (v := if k.1 = 0 then nI k.2 else if k.2 = 0 then r else if k.2 = 1 then c else m) V) (by show S.length + 1 ≤ 32; omega) q3
      refine ⟨f', ?_, e2⟩
      rw [r_Formula_work_10]
      simp only [r_Formula_work_82]
      apply wp_e
      repeat (first | refine wp_isC (by assumption) ?_ | refine wp_nnR (by assumption) ?_ | refine wp_inA (by assumption) rfl (by omega) (by omega) ?_ | refine wp_isZ (by decide) ?_ | refine wp_bt (by (first | (simp (disch := omega) only [wI_I, wI_s, nI_add, pk_mul, nI_ltI, nI_leI, nI_eq, nI_clamp, nm_or, nm_and, nm_xor, nm_nd, nm_one, nm_shr, nm_b2, Bool.false_eq_true, Bool.true_eq_false, not_false_eq_true, not_true_eq_false, reduceCtorEq, k1]; done) | (simp (disch := omega) only [wI_I, wI_s, nI_add, pk_mul, nI_ltI, nI_leI, nI_eq, nI_clamp, nm_or, nm_and, nm_xor, nm_nd, nm_one, nm_shr, nm_b2, Bool.false_eq_true, Bool.true_eq_false, not_false_eq_true, not_true_eq_false, reduceCtorEq, k1]; omega) | omega)) ?_ | refine wp_bf (by (first | (simp (disch := omega) only [wI_I, wI_s, nI_add, pk_mul, nI_ltI, nI_leI, nI_eq, nI_clamp, nm_or, nm_and, nm_xor, nm_nd, nm_one, nm_shr, nm_b2, Bool.false_eq_true, Bool.true_eq_false, not_false_eq_true, not_true_eq_false, reduceCtorEq, k1]; done) | (simp (disch := omega) only [wI_I, wI_s, nI_add, pk_mul, nI_ltI, nI_leI, nI_eq, nI_clamp, nm_or, nm_and, nm_xor, nm_nd, nm_one, nm_shr, nm_b2, Bool.false_eq_true, Bool.true_eq_false, not_false_eq_true, not_true_eq_false, reduceCtorEq, k1]; omega) | omega)) ?_)
      simp (disch := omega) only [wI_I, wI_s, nI_add, pk_mul, nI_ltI, nI_leI, nI_eq, nI_clamp, nm_or, nm_and, nm_xor, nm_nd, nm_one, nm_shr, nm_b2, Bool.false_eq_true, Bool.true_eq_false, not_false_eq_true, not_true_eq_false, reduceCtorEq, kc]
      refine wp_rIe hu (wp_bf (by decide) (wp_bt (by omega) (wp_isC a1 (wp_nnR a5 ?_))))
      refine wp_rIe (fo_worth o1 q) ?_
      repeat (first | refine wp_isC (by assumption) ?_ | refine wp_nnR (by assumption) ?_ | refine wp_inA (by assumption) rfl (by omega) (by omega) ?_ | refine wp_isZ (by decide) ?_ | refine wp_bt (by (first | (simp (disch := omega) only [wI_I, wI_s, nI_add, pk_mul, nI_ltI, nI_leI, nI_eq, nI_clamp, nm_or, nm_and, nm_xor, nm_nd, nm_one, nm_shr, nm_b2, Bool.false_eq_true, Bool.true_eq_false, not_false_eq_true, not_true_eq_false, reduceCtorEq]; done) | (simp (disch := omega) only [wI_I, wI_s, nI_add, pk_mul, nI_ltI, nI_leI, nI_eq, nI_clamp, nm_or, nm_and, nm_xor, nm_nd, nm_one, nm_shr, nm_b2, Bool.false_eq_true, Bool.true_eq_false, not_false_eq_true, not_true_eq_false, reduceCtorEq]; omega) | omega)) ?_ | refine wp_bf (by (first | (simp (disch := omega) only [wI_I, wI_s, nI_add, pk_mul, nI_ltI, nI_leI, nI_eq, nI_clamp, nm_or, nm_and, nm_xor, nm_nd, nm_one, nm_shr, nm_b2, Bool.false_eq_true, Bool.true_eq_false, not_false_eq_true, not_true_eq_false, reduceCtorEq]; done) | (simp (disch := omega) only [wI_I, wI_s, nI_add, pk_mul, nI_ltI, nI_leI, nI_eq, nI_clamp, nm_or, nm_and, nm_xor, nm_nd, nm_one, nm_shr, nm_b2, Bool.false_eq_true, Bool.true_eq_false, not_false_eq_true, not_true_eq_false, reduceCtorEq]; omega) | omega)) ?_)
      simp (disch := omega) only [wI_I, wI_s, nI_add, pk_mul, nI_ltI, nI_leI, nI_eq, nI_clamp, nm_or, nm_and, nm_xor, nm_nd, nm_one, nm_shr, nm_b2, Bool.false_eq_true, Bool.true_eq_false, not_false_eq_true, not_true_eq_false, reduceCtorEq]
      exact wp_of e1 ⟨rfl, rfl⟩
    · rw [if_neg (by omega)] at hu
      cases S with
      | nil => exact absurd q2 (by decide)
      | cons y S =>
        cases S with
        | nil => exact absurd q2 (Nat.lt_irrefl 1)
        | cons x S =>
          obtain ⟨vy, vx, V⟩ := V
          have ek : kw1 r c m k (y :: x :: S) = rk k.2 x y :: S := by
            unfold kw1; rw [if_neg (by omega), if_neg (by omega), if_pos q]
          rw [ek]
          have hl2 : (y :: x :: S).length = S.length + 2 := rfl
          rw [hl2] at hS q3 ⊢
          have vy : f (a + 2) (S.length + 1) = y := vy
          obtain ⟨f', e1, e2⟩ := nx _ S.length (rk k.2 x y) (VF_up V) (by show S.length + 1 ≤ 32; omega) q3
          refine ⟨f', ?_, e2⟩
          have hn : ¬ kC k = nI 114 := fun z => by have := (kC_not o1 (by omega)).mp z; omega
          have hk2 : k.2 < 10 := by unfold kpo at o1; omega
          have hsg : kC k = nI (sgC k.2) := by unfold kC; rw [if_neg (by omega), if_neg (by omega), if_pos q]
          have hr := fo_reckon (h := wI h f) (a := x) (b := y) hk2
          have m1 : nI (S.length + 2) + mI 1 = nI (S.length + 1) := pk_m1 _
          have m2 : nI (S.length + 1) - nI 1 = nI S.length := pk_sub (by omega)
          rw [r_Formula_work_10]
          simp only [r_Formula_work_82, m1, m2]
          apply wp_e
          repeat (first | refine wp_isC (by assumption) ?_ | refine wp_nnR (by assumption) ?_ | refine wp_inA (by assumption) rfl (by omega) (by omega) ?_ | refine wp_isZ (by decide) ?_ | refine wp_bt (by (first | (simp (disch := omega) only [wI_I, wI_s, nI_add, pk_mul, nI_ltI, nI_leI, nI_eq, nI_clamp, nm_or, nm_and, nm_xor, nm_nd, nm_one, nm_shr, nm_b2, Bool.false_eq_true, Bool.true_eq_false, not_false_eq_true, not_true_eq_false, reduceCtorEq, k1]; done) | (simp (disch := omega) only [wI_I, wI_s, nI_add, pk_mul, nI_ltI, nI_leI, nI_eq, nI_clamp, nm_or, nm_and, nm_xor, nm_nd, nm_one, nm_shr, nm_b2, Bool.false_eq_true, Bool.true_eq_false, not_false_eq_true, not_true_eq_false, reduceCtorEq, k1]; omega) | omega)) ?_ | refine wp_bf (by (first | (simp (disch := omega) only [wI_I, wI_s, nI_add, pk_mul, nI_ltI, nI_leI, nI_eq, nI_clamp, nm_or, nm_and, nm_xor, nm_nd, nm_one, nm_shr, nm_b2, Bool.false_eq_true, Bool.true_eq_false, not_false_eq_true, not_true_eq_false, reduceCtorEq, k1]; done) | (simp (disch := omega) only [wI_I, wI_s, nI_add, pk_mul, nI_ltI, nI_leI, nI_eq, nI_clamp, nm_or, nm_and, nm_xor, nm_nd, nm_one, nm_shr, nm_b2, Bool.false_eq_true, Bool.true_eq_false, not_false_eq_true, not_true_eq_false, reduceCtorEq, k1]; omega) | omega)) ?_)
          simp (disch := omega) only [wI_I, wI_s, nI_add, pk_mul, nI_ltI, nI_leI, nI_eq, nI_clamp, nm_or, nm_and, nm_xor, nm_nd, nm_one, nm_shr, nm_b2, Bool.false_eq_true, Bool.true_eq_false, not_false_eq_true, not_true_eq_false, reduceCtorEq, kc]
          refine wp_rIe hu (wp_bt rfl (wp_bf hn (wp_bt (by omega) ?_)))
          repeat (first | refine wp_isC (by assumption) ?_ | refine wp_nnR (by assumption) ?_ | refine wp_inA (by assumption) rfl (by omega) (by omega) ?_ | refine wp_isZ (by decide) ?_ | refine wp_bt (by (first | (simp (disch := omega) only [wI_I, wI_s, nI_add, pk_mul, nI_ltI, nI_leI, nI_eq, nI_clamp, nm_or, nm_and, nm_xor, nm_nd, nm_one, nm_shr, nm_b2, Bool.false_eq_true, Bool.true_eq_false, not_false_eq_true, not_true_eq_false, reduceCtorEq]; done) | (simp (disch := omega) only [wI_I, wI_s, nI_add, pk_mul, nI_ltI, nI_leI, nI_eq, nI_clamp, nm_or, nm_and, nm_xor, nm_nd, nm_one, nm_shr, nm_b2, Bool.false_eq_true, Bool.true_eq_false, not_false_eq_true, not_true_eq_false, reduceCtorEq]; omega) | omega)) ?_ | refine wp_bf (by (first | (simp (disch := omega) only [wI_I, wI_s, nI_add, pk_mul, nI_ltI, nI_leI, nI_eq, nI_clamp, nm_or, nm_and, nm_xor, nm_nd, nm_one, nm_shr, nm_b2, Bool.false_eq_true, Bool.true_eq_false, not_false_eq_true, not_true_eq_false, reduceCtorEq]; done) | (simp (disch := omega) only [wI_I, wI_s, nI_add, pk_mul, nI_ltI, nI_leI, nI_eq, nI_clamp, nm_or, nm_and, nm_xor, nm_nd, nm_one, nm_shr, nm_b2, Bool.false_eq_true, Bool.true_eq_false, not_false_eq_true, not_true_eq_false, reduceCtorEq]; omega) | omega)) ?_)
          simp (disch := omega) only [wI_I, wI_s, nI_add, pk_mul, nI_ltI, nI_leI, nI_eq, nI_clamp, nm_or, nm_and, nm_xor, nm_nd, nm_one, nm_shr, nm_b2, Bool.false_eq_true, Bool.true_eq_false, not_false_eq_true, not_true_eq_false, reduceCtorEq, vx, vy, hsg]
          refine wp_rIe hr ?_
          repeat (first | refine wp_isC (by assumption) ?_ | refine wp_nnR (by assumption) ?_ | refine wp_inA (by assumption) rfl (by omega) (by omega) ?_ | refine wp_isZ (by decide) ?_ | refine wp_bt (by (first | (simp (disch := omega) only [wI_I, wI_s, nI_add, pk_mul, nI_ltI, nI_leI, nI_eq, nI_clamp, nm_or, nm_and, nm_xor, nm_nd, nm_one, nm_shr, nm_b2, Bool.false_eq_true, Bool.true_eq_false, not_false_eq_true, not_true_eq_false, reduceCtorEq]; done) | (simp (disch := omega) only [wI_I, wI_s, nI_add, pk_mul, nI_ltI, nI_leI, nI_eq, nI_clamp, nm_or, nm_and, nm_xor, nm_nd, nm_one, nm_shr, nm_b2, Bool.false_eq_true, Bool.true_eq_false, not_false_eq_true, not_true_eq_false, reduceCtorEq]; omega) | omega)) ?_ | refine wp_bf (by (first | (simp (disch := omega) only [wI_I, wI_s, nI_add, pk_mul, nI_ltI, nI_leI, nI_eq, nI_clamp, nm_or, nm_and, nm_xor, nm_nd, nm_one, nm_shr, nm_b2, Bool.false_eq_true, Bool.true_eq_false, not_false_eq_true, not_true_eq_false, reduceCtorEq]; done) | (simp (disch := omega) only [wI_I, wI_s, nI_add, pk_mul, nI_ltI, nI_leI, nI_eq, nI_clamp, nm_or, nm_and, nm_xor, nm_nd, nm_one, nm_shr, nm_b2, Bool.false_eq_true, Bool.true_eq_false, not_false_eq_true, not_true_eq_false, reduceCtorEq]; omega) | omega)) ?_)
          simp (disch := omega) only [wI_I, wI_s, nI_add, pk_mul, nI_ltI, nI_leI, nI_eq, nI_clamp, nm_or, nm_and, nm_xor, nm_nd, nm_one, nm_shr, nm_b2, Bool.false_eq_true, Bool.true_eq_false, not_false_eq_true, not_true_eq_false, reduceCtorEq]
          exact wp_of e1 ⟨rfl, rfl⟩
    · rw [if_neg (by omega)] at hu
      cases S with
      | nil => exact absurd q2 (by decide)
      | cons y S =>
        obtain ⟨vy, V⟩ := V
        have ek : kw1 r c m k (y :: S) = b01 (y = nI 0) :: S := by
          unfold kw1; rw [if_neg (by omega), if_neg (by omega), if_neg (by omega)]
        rw [ek]
        have hl2 : (y :: S).length = S.length + 1 := rfl
        rw [hl2] at hS q3 ⊢
        have hn : kC k = nI 114 := (kC_not o1 (by omega)).mpr q
        have m2 : nI (S.length + 1) - nI 1 = nI S.length := pk_sub (by omega)
        obtain ⟨f', e1, e2⟩ := nx _ S.length (b01 (y = nI 0)) (VF_up V) (by show S.length + 1 ≤ 32; omega) q3
        refine ⟨f', ?_, e2⟩
        rw [r_Formula_work_10]
        simp only [r_Formula_work_57, r_Formula_work_82, m2]
        apply wp_e
        repeat (first | refine wp_isC (by assumption) ?_ | refine wp_nnR (by assumption) ?_ | refine wp_inA (by assumption) rfl (by omega) (by omega) ?_ | refine wp_isZ (by decide) ?_ | refine wp_bt (by (first | (simp (disch := omega) only [wI_I, wI_s, nI_add, pk_mul, nI_ltI, nI_leI, nI_eq, nI_clamp, nm_or, nm_and, nm_xor, nm_nd, nm_one, nm_shr, nm_b2, Bool.false_eq_true, Bool.true_eq_false, not_false_eq_true, not_true_eq_false, reduceCtorEq, k1]; done) | (simp (disch := omega) only [wI_I, wI_s, nI_add, pk_mul, nI_ltI, nI_leI, nI_eq, nI_clamp, nm_or, nm_and, nm_xor, nm_nd, nm_one, nm_shr, nm_b2, Bool.false_eq_true, Bool.true_eq_false, not_false_eq_true, not_true_eq_false, reduceCtorEq, k1]; omega) | omega)) ?_ | refine wp_bf (by (first | (simp (disch := omega) only [wI_I, wI_s, nI_add, pk_mul, nI_ltI, nI_leI, nI_eq, nI_clamp, nm_or, nm_and, nm_xor, nm_nd, nm_one, nm_shr, nm_b2, Bool.false_eq_true, Bool.true_eq_false, not_false_eq_true, not_true_eq_false, reduceCtorEq, k1]; done) | (simp (disch := omega) only [wI_I, wI_s, nI_add, pk_mul, nI_ltI, nI_leI, nI_eq, nI_clamp, nm_or, nm_and, nm_xor, nm_nd, nm_one, nm_shr, nm_b2, Bool.false_eq_true, Bool.true_eq_false, not_false_eq_true, not_true_eq_false, reduceCtorEq, k1]; omega) | omega)) ?_)
        simp (disch := omega) only [wI_I, wI_s, nI_add, pk_mul, nI_ltI, nI_leI, nI_eq, nI_clamp, nm_or, nm_and, nm_xor, nm_nd, nm_one, nm_shr, nm_b2, Bool.false_eq_true, Bool.true_eq_false, not_false_eq_true, not_true_eq_false, reduceCtorEq, kc]
        refine wp_rIe hu (wp_bt rfl (wp_bt hn (wp_bt (by omega) ?_)))
        refine wp_isC a1 (wp_nnR a5 (wp_isC a1 (wp_nnR a5 (wp_isC a6 (wp_inA a7 rfl (by omega) (by omega) ?_)))))
        simp (disch := omega) only [wI_I, wI_s, nI_add, pk_mul, nI_ltI, nI_leI, nI_eq, nI_clamp, nm_or, nm_and, nm_xor, nm_nd, nm_one, nm_shr, nm_b2, Bool.false_eq_true, Bool.true_eq_false, not_false_eq_true, not_true_eq_false, reduceCtorEq, vy]
        by_cases z : y = nI 0
        · refine wp_bt z ?_
          rw [show b01 (y = nI 0) = nI 1 from if_pos z] at e1
          repeat (first | refine wp_isC (by assumption) ?_ | refine wp_nnR (by assumption) ?_ | refine wp_inA (by assumption) rfl (by omega) (by omega) ?_ | refine wp_isZ (by decide) ?_ | refine wp_bt (by (first | (simp (disch := omega) only [wI_I, wI_s, nI_add, pk_mul, nI_ltI, nI_leI, nI_eq, nI_clamp, nm_or, nm_and, nm_xor, nm_nd, nm_one, nm_shr, nm_b2, Bool.false_eq_true, Bool.true_eq_false, not_false_eq_true, not_true_eq_false, reduceCtorEq]; done) | (simp (disch := omega) only [wI_I, wI_s, nI_add, pk_mul, nI_ltI, nI_leI, nI_eq, nI_clamp, nm_or, nm_and, nm_xor, nm_nd, nm_one, nm_shr, nm_b2, Bool.false_eq_true, Bool.true_eq_false, not_false_eq_true, not_true_eq_false, reduceCtorEq]; omega) | omega)) ?_ | refine wp_bf (by (first | (simp (disch := omega) only [wI_I, wI_s, nI_add, pk_mul, nI_ltI, nI_leI, nI_eq, nI_clamp, nm_or, nm_and, nm_xor, nm_nd, nm_one, nm_shr, nm_b2, Bool.false_eq_true, Bool.true_eq_false, not_false_eq_true, not_true_eq_false, reduceCtorEq]; done) | (simp (disch := omega) only [wI_I, wI_s, nI_add, pk_mul, nI_ltI, nI_leI, nI_eq, nI_clamp, nm_or, nm_and, nm_xor, nm_nd, nm_one, nm_shr, nm_b2, Bool.false_eq_true, Bool.true_eq_false, not_false_eq_true, not_true_eq_false, reduceCtorEq]; omega) | omega)) ?_)
          exact wp_of e1 ⟨by rw [show b01 (y = nI 0) = nI 1 from if_pos z], rfl⟩
        · refine wp_bf z ?_
          rw [show b01 (y = nI 0) = nI 0 from if_neg z] at e1
          repeat (first | refine wp_isC (by assumption) ?_ | refine wp_nnR (by assumption) ?_ | refine wp_inA (by assumption) rfl (by omega) (by omega) ?_ | refine wp_isZ (by decide) ?_ | refine wp_bt (by (first | (simp (disch := omega) only [wI_I, wI_s, nI_add, pk_mul, nI_ltI, nI_leI, nI_eq, nI_clamp, nm_or, nm_and, nm_xor, nm_nd, nm_one, nm_shr, nm_b2, Bool.false_eq_true, Bool.true_eq_false, not_false_eq_true, not_true_eq_false, reduceCtorEq]; done) | (simp (disch := omega) only [wI_I, wI_s, nI_add, pk_mul, nI_ltI, nI_leI, nI_eq, nI_clamp, nm_or, nm_and, nm_xor, nm_nd, nm_one, nm_shr, nm_b2, Bool.false_eq_true, Bool.true_eq_false, not_false_eq_true, not_true_eq_false, reduceCtorEq]; omega) | omega)) ?_ | refine wp_bf (by (first | (simp (disch := omega) only [wI_I, wI_s, nI_add, pk_mul, nI_ltI, nI_leI, nI_eq, nI_clamp, nm_or, nm_and, nm_xor, nm_nd, nm_one, nm_shr, nm_b2, Bool.false_eq_true, Bool.true_eq_false, not_false_eq_true, not_true_eq_false, reduceCtorEq]; done) | (simp (disch := omega) only [wI_I, wI_s, nI_add, pk_mul, nI_ltI, nI_leI, nI_eq, nI_clamp, nm_or, nm_and, nm_xor, nm_nd, nm_one, nm_shr, nm_b2, Bool.false_eq_true, Bool.true_eq_false, not_false_eq_true, not_true_eq_false, reduceCtorEq]; omega) | omega)) ?_)
          exact wp_of e1 ⟨by rw [show b01 (y = nI 0) = nI 0 from if_neg z], rfl⟩
theorem fo_work {h : MH} {f : Nat → Nat → Int32} {a : Nat} {ks : List Kp} {r c m : Int32} (A : FS h a) (hl : ks.length ≤ 320) (K : KF f a ks) (ok : ks ≠ [] → kok ks 0) :
    ∃ f', ev M_Formula_work 0 0 [some (.ref a), some (.int r), some (.int c), some (.int m), none, none, none] [] (wI h f) = some (some (.int (kept r c m ks)), wI h f') ∧ Fr (a + 2) (a + 3) f f' := by
  have a1 := A.1
  have k1 := K.1
  rw [r_Formula_work_0]
  unfold kept
  cases ks with
  | nil =>
    refine ⟨f, ?_, Fr.rf⟩
    apply wp_e
    refine wp_isC a1 (wp_bt (by rw [wI_I, k1]; rfl) ?_)
    exact wp_s ⟨rfl, rfl⟩
  | cons k ks =>
    obtain ⟨f', e1, e2⟩ := fo_loop (r := r) (c := c) (m := m) A hl (k :: ks) 0 f [] rfl (Nat.zero_le _) K True.intro (by decide) (ok (by intro z; cases z))
    refine ⟨f', ?_, e2⟩
    rw [if_neg (by intro z; cases z)]
    apply wp_e
    have hl2 : (k :: ks).length = ks.length + 1 := rfl
    rw [hl2] at k1 hl
    refine wp_isC a1 (wp_bf (by rw [wI_I, k1, nI_eq (by omega) (by decide)]; omega) ?_)
    exact wp_of e1 ⟨rfl, rfl⟩
