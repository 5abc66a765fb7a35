/-! A plan's cells and the relations' cells; what is derived. -/
def PS (h : MH) (p : Nat) : Prop := hC h p = 5 ∧ hR h p 6 = some (p + 1) ∧ hC h (p + 1) = 2 ∧ hR h (p + 1) 0 = some (p + 2) ∧ hC h (p + 2) = 20 ∧ hN h (p + 2) = 320 ∧ hR h (p + 1) 2 = some (p + 3) ∧ hC h (p + 3) = 20 ∧ hN h (p + 3) = 32 ∧
  hR h p 7 = some (p + 4) ∧ hC h (p + 4) = 22 ∧ hN h (p + 4) = 5 ∧ hR h p 8 = some (p + 5) ∧ hC h (p + 5) = 24 ∧ hN h (p + 5) = 5 ∧ (∀ k, k < 5 → hR h (p + 5) k = some (p + 7 + 2 * k) ∧ GS h (p + 7 + 2 * k)) ∧ hR h p 9 = some (p + 6) ∧ hC h (p + 6) = 20 ∧ hN h (p + 6) = 256
def RS (h : MH) (q p : Nat) : Prop := hC h q = 7 ∧ hR h q 0 = some (q + 1) ∧ hC h (q + 1) = 24 ∧ hN h (q + 1) = 5 ∧ (∀ k, k < 5 → hR h (q + 1) k = some (q + 5 + 2 * k) ∧ GS h (q + 5 + 2 * k)) ∧
  hR h q 3 = some (q + 2) ∧ hC h (q + 2) = 24 ∧ hN h (q + 2) = 16 ∧ (∀ i, i < 16 → hR h (q + 2) i = some (q + 15 + 2 * i) ∧ GS h (q + 15 + 2 * i)) ∧ hR h q 4 = some (q + 3) ∧ GS h (q + 3) ∧ hR h q 2 = some p
def sameG (n : Nat) : Nat → Nat := fun r => if r < n then 2 ^ r else 0
def allG (n : Nat) : Nat → Nat := fun r => if r < n then 2 ^ n - 1 else 0
def jnG (w n : Nat) (G H : Nat → Nat) : Nat → Nat := fun r => if r < n then jn w n G H r else 0
theorem GW.sameG {n : Nat} (h : n ≤ 16) : GW n (sameG n) := by
  refine ⟨h, fun r => ?_, fun r hr => ?_⟩
  · show (if r < n then 2 ^ r else 0) < _; split
    · exact Nat.pow_lt_pow_right (by decide) (by assumption)
    · exact Nat.two_pow_pos n
  · show (if r < n then 2 ^ r else 0) = 0; rw [if_neg (by omega)]
theorem GW.allG {n : Nat} (h : n ≤ 16) : GW n (allG n) := by
  have := Nat.two_pow_pos n
  refine ⟨h, fun r => ?_, fun r hr => ?_⟩
  · show (if r < n then 2 ^ n - 1 else 0) < _; split <;> omega
  · show (if r < n then 2 ^ n - 1 else 0) = 0; rw [if_neg (by omega)]
theorem jn_lt {w n : Nat} {G H : Nat → Nat} (V : GW n G) (V2 : GW n H) (r : Nat) : jn w n G H r < 2 ^ n := by
  unfold jn
  split
  · exact Nat.or_lt_two_pow (V.2.1 r) (V2.2.1 r)
  split
  · exact Nat.lt_of_le_of_lt Nat.and_le_left (V.2.1 r)
  split
  · exact nd_le _ _ (V.2.1 r)
  split
  · exact sf_lt V2.2.1
  · exact Nat.or_lt_two_pow (V.2.1 r) cs_lt
theorem GW.jnG {w n : Nat} {G H : Nat → Nat} (V : GW n G) (V2 : GW n H) : GW n (jnG w n G H) := by
  refine ⟨V.1, fun r => ?_, fun r hr => ?_⟩
  · show (if r < n then jn w n G H r else 0) < _; split
    · exact jn_lt V V2 r
    · exact Nat.two_pow_pos n
  · show (if r < n then jn w n G H r else 0) = 0; rw [if_neg (by omega)]
abbrev Rw : Type := Nat → Nat
def xop (n : Nat) (A : Nat → Rw) (c : Nat) (S : List Rw) : List Rw :=
  if c < 5 then A c :: S else if c = 10 then sameG n :: S else if c = 11 then allG n :: S else if c = 12 then (match S with
    | g :: S => tp n g :: S
    | [] => []) else (match S with
    | b :: a :: S => jnG (c - 20) n a b :: S
    | S => S)
def dv (n : Nat) : List Nat → (Nat → Rw) → List Rw → (Nat → Rw)
  | [], A, _ => A
  | c :: cs, A, S => if 30 ≤ c then dv n cs (fun k => if k = c - 30 then S.headD (fun _ => 0) else A k) S.tail else dv n cs A (xop n A c S)
/-- the parts can be worked off: so many lie open ahead of them -/
def xok (nr : Nat) : List Nat → Nat → Prop
  | [], _ => True
  | c :: cs, d => ((c < nr ∨ c = 10 ∨ c = 11) ∧ d < 16 ∧ xok nr cs (d + 1)) ∨ (c = 12 ∧ 0 < d ∧ xok nr cs d) ∨ (20 ≤ c ∧ c ≤ 23 ∧ 1 < d ∧ xok nr cs (d - 1)) ∨ (30 ≤ c ∧ c < 30 + nr ∧ 0 < d ∧ xok nr cs (d - 1))
def SF (f : Nat → Nat → Int32) (q n : Nat) : List Rw → Prop
  | [] => True
  | g :: S => GF f (q + 15 + 2 * S.length) n g ∧ GW n g ∧ SF f q n S
theorem SF_fr {f f' : Nat → Nat → Int32} {q n : Nat} : ∀ {S : List Rw}, (∀ a, q + 15 ≤ a → a < q + 15 + 2 * S.length → f' a = f a) → SF f q n S → SF f' q n S
  | [], _, _ => True.intro
  | g :: S, h, s => by
    have el : (g :: S).length = S.length + 1 := rfl
    rw [el] at h
    refine ⟨⟨?_, ?_⟩, s.2.1, SF_fr (fun a h1 h2 => h a h1 (by omega)) s.2.2⟩
    · rw [h _ (by omega) (by omega)]; exact s.1.1
    · intro r hr; rw [h _ (by omega) (by omega)]; exact s.1.2 r hr
theorem pl_size {h : MH} {f : Nat → Nat → Int32} {p lv : Nat} (c : hC h p = 5) (e : f p 0 = nI lv) (h4 : lv ≤ 4) :
    ev M_Plan_size 0 0 [some (.ref p)] [] (wI h f) = some (some (.int (nI (2 ^ lv))), wI h f) := by
  rw [r_Plan_size_0]
  apply wp_e
  repeat (first | refine wp_isC (by assumption) ?_ | refine wp_nnR (by assumption) ?_ | refine wp_inA (by assumption) rfl (by omega) (by omega) ?_ | refine wp_isZ (by decide) ?_ | refine wp_bt (by (first | (simp (disch := omega) only [wI_I, wI_s, nI_add, pk_mul, nI_ltI, nI_leI, nI_eq, nI_clamp, nm_or, nm_and, nm_xor, nm_nd, nm_one, nm_shr, nm_b2, Bool.false_eq_true, Bool.true_eq_false, not_false_eq_true, not_true_eq_false, reduceCtorEq]; done) | (simp (disch := omega) only [wI_I, wI_s, nI_add, pk_mul, nI_ltI, nI_leI, nI_eq, nI_clamp, nm_or, nm_and, nm_xor, nm_nd, nm_one, nm_shr, nm_b2, Bool.false_eq_true, Bool.true_eq_false, not_false_eq_true, not_true_eq_false, reduceCtorEq]; omega) | omega)) ?_ | refine wp_bf (by (first | (simp (disch := omega) only [wI_I, wI_s, nI_add, pk_mul, nI_ltI, nI_leI, nI_eq, nI_clamp, nm_or, nm_and, nm_xor, nm_nd, nm_one, nm_shr, nm_b2, Bool.false_eq_true, Bool.true_eq_false, not_false_eq_true, not_true_eq_false, reduceCtorEq]; done) | (simp (disch := omega) only [wI_I, wI_s, nI_add, pk_mul, nI_ltI, nI_leI, nI_eq, nI_clamp, nm_or, nm_and, nm_xor, nm_nd, nm_one, nm_shr, nm_b2, Bool.false_eq_true, Bool.true_eq_false, not_false_eq_true, not_true_eq_false, reduceCtorEq]; omega) | omega)) ?_)
  simp (disch := omega) only [wI_I, wI_s, nI_add, pk_mul, nI_ltI, nI_leI, nI_eq, nI_clamp, nm_or, nm_and, nm_xor, nm_nd, nm_one, nm_shr, nm_b2, Bool.false_eq_true, Bool.true_eq_false, not_false_eq_true, not_true_eq_false, reduceCtorEq, e]
  exact wp_s ⟨rfl, rfl⟩
theorem rl_open {h : MH} {f : Nat → Nat → Int32} {q p lv nr c : Nat} {A : Nat → Rw} {S : List Rw} (R : RS h q p) (P : PS h p) (h4 : lv ≤ 4) (fl : f p 0 = nI lv) (hp : p + 17 ≤ q ∨ q + 47 ≤ p) (hr : nr ≤ 5)
    (FA : ∀ k, k < nr → GF f (q + 5 + 2 * k) (2 ^ lv) (A k) ∧ GW (2 ^ lv) (A k)) (FS : SF f q (2 ^ lv) S) (hc : c < nr ∨ c = 10 ∨ c = 11) (hd : S.length < 16) :
    ∃ f', ev M_Relations_openPart 0 0 [some (.ref q), some (.int (nI c)), some (.int (nI S.length))] [] (wI h f) = some (some (.int (nI (S.length + 1))), wI h f') ∧ SF f' (q) (2 ^ lv) (xop (2 ^ lv) A c S) ∧ Fr (q + 15 + 2 * S.length) (q + 17 + 2 * S.length) f f' := by
  obtain ⟨r1, r2, r3, r4, r5, r6, r7, r8, r9, r10, r11, r12⟩ := R
  obtain ⟨s1, s2⟩ := r9 S.length hd
  have s3 := s2.1
  have p1 := P.1
  have hn := lv_p h4
  have key : ∀ G, GW (2 ^ lv) G → SF (gw f (q + 15 + 2 * S.length) (2 ^ lv) G) q (2 ^ lv) (G :: S) ∧ Fr (q + 15 + 2 * S.length) (q + 17 + 2 * S.length) f (gw f (q + 15 + 2 * S.length) (2 ^ lv) G) := fun G V =>
    ⟨⟨gw_f, V, SF_fr (fun a h1 h2 => gw_o (by omega) (by omega)) FS⟩, Fr.gw (by omega) (by omega)⟩
  rw [r_Relations_openPart_0]
  simp only [r_Relations_openPart_46]
  by_cases c10 : c = 10
  · refine ⟨gw f (q + 15 + 2 * S.length) (2 ^ lv) (sameG (2 ^ lv)), ?_, ?_⟩
    · apply wp_e
      refine wp_bf (nI_pos (by omega)) (wp_bt (by (first | (simp (disch := omega) only [wI_I, wI_s, nI_add, pk_mul, nI_ltI, nI_leI, nI_eq, nI_clamp, nm_or, nm_and, nm_xor, nm_nd, nm_one, nm_shr, nm_b2, Bool.false_eq_true, Bool.true_eq_false, not_false_eq_true, not_true_eq_false, reduceCtorEq]; done) | (simp (disch := omega) only [wI_I, wI_s, nI_add, pk_mul, nI_ltI, nI_leI, nI_eq, nI_clamp, nm_or, nm_and, nm_xor, nm_nd, nm_one, nm_shr, nm_b2, Bool.false_eq_true, Bool.true_eq_false, not_false_eq_true, not_true_eq_false, reduceCtorEq]; omega) | omega)) (wp_bt (by rw [c10]) ?_))
      repeat (first | refine wp_isC (by assumption) ?_ | refine wp_nnR (by assumption) ?_ | refine wp_inA (by assumption) rfl (by omega) (by omega) ?_ | refine wp_isZ (by decide) ?_ | refine wp_bt (by (first | (simp (disch := omega) only [wI_I, wI_s, nI_add, pk_mul, nI_ltI, nI_leI, nI_eq, nI_clamp, nm_or, nm_and, nm_xor, nm_nd, nm_one, nm_shr, nm_b2, Bool.false_eq_true, Bool.true_eq_false, not_false_eq_true, not_true_eq_false, reduceCtorEq]; done) | (simp (disch := omega) only [wI_I, wI_s, nI_add, pk_mul, nI_ltI, nI_leI, nI_eq, nI_clamp, nm_or, nm_and, nm_xor, nm_nd, nm_one, nm_shr, nm_b2, Bool.false_eq_true, Bool.true_eq_false, not_false_eq_true, not_true_eq_false, reduceCtorEq]; omega) | omega)) ?_ | refine wp_bf (by (first | (simp (disch := omega) only [wI_I, wI_s, nI_add, pk_mul, nI_ltI, nI_leI, nI_eq, nI_clamp, nm_or, nm_and, nm_xor, nm_nd, nm_one, nm_shr, nm_b2, Bool.false_eq_true, Bool.true_eq_false, not_false_eq_true, not_true_eq_false, reduceCtorEq]; done) | (simp (disch := omega) only [wI_I, wI_s, nI_add, pk_mul, nI_ltI, nI_leI, nI_eq, nI_clamp, nm_or, nm_and, nm_xor, nm_nd, nm_one, nm_shr, nm_b2, Bool.false_eq_true, Bool.true_eq_false, not_false_eq_true, not_true_eq_false, reduceCtorEq]; omega) | omega)) ?_)
      rw [nI_clamp (by omega)]
      repeat (first | refine wp_isC (by assumption) ?_ | refine wp_nnR (by assumption) ?_ | refine wp_inA (by assumption) rfl (by omega) (by omega) ?_ | refine wp_isZ (by decide) ?_ | refine wp_bt (by (first | (simp (disch := omega) only [wI_I, wI_s, nI_add, pk_mul, nI_ltI, nI_leI, nI_eq, nI_clamp, nm_or, nm_and, nm_xor, nm_nd, nm_one, nm_shr, nm_b2, Bool.false_eq_true, Bool.true_eq_false, not_false_eq_true, not_true_eq_false, reduceCtorEq]; done) | (simp (disch := omega) only [wI_I, wI_s, nI_add, pk_mul, nI_ltI, nI_leI, nI_eq, nI_clamp, nm_or, nm_and, nm_xor, nm_nd, nm_one, nm_shr, nm_b2, Bool.false_eq_true, Bool.true_eq_false, not_false_eq_true, not_true_eq_false, reduceCtorEq]; omega) | omega)) ?_ | refine wp_bf (by (first | (simp (disch := omega) only [wI_I, wI_s, nI_add, pk_mul, nI_ltI, nI_leI, nI_eq, nI_clamp, nm_or, nm_and, nm_xor, nm_nd, nm_one, nm_shr, nm_b2, Bool.false_eq_true, Bool.true_eq_false, not_false_eq_true, not_true_eq_false, reduceCtorEq]; done) | (simp (disch := omega) only [wI_I, wI_s, nI_add, pk_mul, nI_ltI, nI_leI, nI_eq, nI_clamp, nm_or, nm_and, nm_xor, nm_nd, nm_one, nm_shr, nm_b2, Bool.false_eq_true, Bool.true_eq_false, not_false_eq_true, not_true_eq_false, reduceCtorEq]; omega) | omega)) ?_)
      refine wp_rIe (pl_size p1 fl h4) ?_
      repeat (first | refine wp_isC (by assumption) ?_ | refine wp_nnR (by assumption) ?_ | refine wp_inA (by assumption) rfl (by omega) (by omega) ?_ | refine wp_isZ (by decide) ?_ | refine wp_bt (by (first | (simp (disch := omega) only [wI_I, wI_s, nI_add, pk_mul, nI_ltI, nI_leI, nI_eq, nI_clamp, nm_or, nm_and, nm_xor, nm_nd, nm_one, nm_shr, nm_b2, Bool.false_eq_true, Bool.true_eq_false, not_false_eq_true, not_true_eq_false, reduceCtorEq]; done) | (simp (disch := omega) only [wI_I, wI_s, nI_add, pk_mul, nI_ltI, nI_leI, nI_eq, nI_clamp, nm_or, nm_and, nm_xor, nm_nd, nm_one, nm_shr, nm_b2, Bool.false_eq_true, Bool.true_eq_false, not_false_eq_true, not_true_eq_false, reduceCtorEq]; omega) | omega)) ?_ | refine wp_bf (by (first | (simp (disch := omega) only [wI_I, wI_s, nI_add, pk_mul, nI_ltI, nI_leI, nI_eq, nI_clamp, nm_or, nm_and, nm_xor, nm_nd, nm_one, nm_shr, nm_b2, Bool.false_eq_true, Bool.true_eq_false, not_false_eq_true, not_true_eq_false, reduceCtorEq]; done) | (simp (disch := omega) only [wI_I, wI_s, nI_add, pk_mul, nI_ltI, nI_leI, nI_eq, nI_clamp, nm_or, nm_and, nm_xor, nm_nd, nm_one, nm_shr, nm_b2, Bool.false_eq_true, Bool.true_eq_false, not_false_eq_true, not_true_eq_false, reduceCtorEq]; omega) | omega)) ?_)
      refine wp_rVe (gq_same s2 hn) ?_
      rw [nI_add]
      exact wp_s ⟨rfl, rfl⟩
    · have e : xop (2 ^ lv) A c S = sameG (2 ^ lv) :: S := by unfold xop; rw [if_neg (by omega), if_pos c10]
      rw [e]; exact key _ (GW.sameG hn)
  by_cases c11 : c = 11
  · refine ⟨gw f (q + 15 + 2 * S.length) (2 ^ lv) (allG (2 ^ lv)), ?_, ?_⟩
    · apply wp_e
      refine wp_bf (nI_pos (by omega)) (wp_bt (by (first | (simp (disch := omega) only [wI_I, wI_s, nI_add, pk_mul, nI_ltI, nI_leI, nI_eq, nI_clamp, nm_or, nm_and, nm_xor, nm_nd, nm_one, nm_shr, nm_b2, Bool.false_eq_true, Bool.true_eq_false, not_false_eq_true, not_true_eq_false, reduceCtorEq]; done) | (simp (disch := omega) only [wI_I, wI_s, nI_add, pk_mul, nI_ltI, nI_leI, nI_eq, nI_clamp, nm_or, nm_and, nm_xor, nm_nd, nm_one, nm_shr, nm_b2, Bool.false_eq_true, Bool.true_eq_false, not_false_eq_true, not_true_eq_false, reduceCtorEq]; omega) | omega)) (wp_bf (by (first | (simp (disch := omega) only [wI_I, wI_s, nI_add, pk_mul, nI_ltI, nI_leI, nI_eq, nI_clamp, nm_or, nm_and, nm_xor, nm_nd, nm_one, nm_shr, nm_b2, Bool.false_eq_true, Bool.true_eq_false, not_false_eq_true, not_true_eq_false, reduceCtorEq]; done) | (simp (disch := omega) only [wI_I, wI_s, nI_add, pk_mul, nI_ltI, nI_leI, nI_eq, nI_clamp, nm_or, nm_and, nm_xor, nm_nd, nm_one, nm_shr, nm_b2, Bool.false_eq_true, Bool.true_eq_false, not_false_eq_true, not_true_eq_false, reduceCtorEq]; omega) | omega)) (wp_bt (by rw [c11]) ?_)))
      repeat (first | refine wp_isC (by assumption) ?_ | refine wp_nnR (by assumption) ?_ | refine wp_inA (by assumption) rfl (by omega) (by omega) ?_ | refine wp_isZ (by decide) ?_ | refine wp_bt (by (first | (simp (disch := omega) only [wI_I, wI_s, nI_add, pk_mul, nI_ltI, nI_leI, nI_eq, nI_clamp, nm_or, nm_and, nm_xor, nm_nd, nm_one, nm_shr, nm_b2, Bool.false_eq_true, Bool.true_eq_false, not_false_eq_true, not_true_eq_false, reduceCtorEq]; done) | (simp (disch := omega) only [wI_I, wI_s, nI_add, pk_mul, nI_ltI, nI_leI, nI_eq, nI_clamp, nm_or, nm_and, nm_xor, nm_nd, nm_one, nm_shr, nm_b2, Bool.false_eq_true, Bool.true_eq_false, not_false_eq_true, not_true_eq_false, reduceCtorEq]; omega) | omega)) ?_ | refine wp_bf (by (first | (simp (disch := omega) only [wI_I, wI_s, nI_add, pk_mul, nI_ltI, nI_leI, nI_eq, nI_clamp, nm_or, nm_and, nm_xor, nm_nd, nm_one, nm_shr, nm_b2, Bool.false_eq_true, Bool.true_eq_false, not_false_eq_true, not_true_eq_false, reduceCtorEq]; done) | (simp (disch := omega) only [wI_I, wI_s, nI_add, pk_mul, nI_ltI, nI_leI, nI_eq, nI_clamp, nm_or, nm_and, nm_xor, nm_nd, nm_one, nm_shr, nm_b2, Bool.false_eq_true, Bool.true_eq_false, not_false_eq_true, not_true_eq_false, reduceCtorEq]; omega) | omega)) ?_)
      rw [nI_clamp (by omega)]
      repeat (first | refine wp_isC (by assumption) ?_ | refine wp_nnR (by assumption) ?_ | refine wp_inA (by assumption) rfl (by omega) (by omega) ?_ | refine wp_isZ (by decide) ?_ | refine wp_bt (by (first | (simp (disch := omega) only [wI_I, wI_s, nI_add, pk_mul, nI_ltI, nI_leI, nI_eq, nI_clamp, nm_or, nm_and, nm_xor, nm_nd, nm_one, nm_shr, nm_b2, Bool.false_eq_true, Bool.true_eq_false, not_false_eq_true, not_true_eq_false, reduceCtorEq]; done) | (simp (disch := omega) only [wI_I, wI_s, nI_add, pk_mul, nI_ltI, nI_leI, nI_eq, nI_clamp, nm_or, nm_and, nm_xor, nm_nd, nm_one, nm_shr, nm_b2, Bool.false_eq_true, Bool.true_eq_false, not_false_eq_true, not_true_eq_false, reduceCtorEq]; omega) | omega)) ?_ | refine wp_bf (by (first | (simp (disch := omega) only [wI_I, wI_s, nI_add, pk_mul, nI_ltI, nI_leI, nI_eq, nI_clamp, nm_or, nm_and, nm_xor, nm_nd, nm_one, nm_shr, nm_b2, Bool.false_eq_true, Bool.true_eq_false, not_false_eq_true, not_true_eq_false, reduceCtorEq]; done) | (simp (disch := omega) only [wI_I, wI_s, nI_add, pk_mul, nI_ltI, nI_leI, nI_eq, nI_clamp, nm_or, nm_and, nm_xor, nm_nd, nm_one, nm_shr, nm_b2, Bool.false_eq_true, Bool.true_eq_false, not_false_eq_true, not_true_eq_false, reduceCtorEq]; omega) | omega)) ?_)
      refine wp_rIe (pl_size p1 fl h4) ?_
      repeat (first | refine wp_isC (by assumption) ?_ | refine wp_nnR (by assumption) ?_ | refine wp_inA (by assumption) rfl (by omega) (by omega) ?_ | refine wp_isZ (by decide) ?_ | refine wp_bt (by (first | (simp (disch := omega) only [wI_I, wI_s, nI_add, pk_mul, nI_ltI, nI_leI, nI_eq, nI_clamp, nm_or, nm_and, nm_xor, nm_nd, nm_one, nm_shr, nm_b2, Bool.false_eq_true, Bool.true_eq_false, not_false_eq_true, not_true_eq_false, reduceCtorEq]; done) | (simp (disch := omega) only [wI_I, wI_s, nI_add, pk_mul, nI_ltI, nI_leI, nI_eq, nI_clamp, nm_or, nm_and, nm_xor, nm_nd, nm_one, nm_shr, nm_b2, Bool.false_eq_true, Bool.true_eq_false, not_false_eq_true, not_true_eq_false, reduceCtorEq]; omega) | omega)) ?_ | refine wp_bf (by (first | (simp (disch := omega) only [wI_I, wI_s, nI_add, pk_mul, nI_ltI, nI_leI, nI_eq, nI_clamp, nm_or, nm_and, nm_xor, nm_nd, nm_one, nm_shr, nm_b2, Bool.false_eq_true, Bool.true_eq_false, not_false_eq_true, not_true_eq_false, reduceCtorEq]; done) | (simp (disch := omega) only [wI_I, wI_s, nI_add, pk_mul, nI_ltI, nI_leI, nI_eq, nI_clamp, nm_or, nm_and, nm_xor, nm_nd, nm_one, nm_shr, nm_b2, Bool.false_eq_true, Bool.true_eq_false, not_false_eq_true, not_true_eq_false, reduceCtorEq]; omega) | omega)) ?_)
      refine wp_rVe (gq_all s2 hn) ?_
      rw [nI_add]
      exact wp_s ⟨rfl, rfl⟩
    · have e : xop (2 ^ lv) A c S = allG (2 ^ lv) :: S := by unfold xop; rw [if_neg (by omega), if_neg c10, if_pos c11]
      rw [e]; exact key _ (GW.allG hn)
  have hc : c < nr := by omega
  obtain ⟨a1, a2⟩ := FA c hc
  obtain ⟨s5, s6⟩ := r5 c (by omega)
  refine ⟨gw f (q + 15 + 2 * S.length) (2 ^ lv) (A c), ?_, ?_⟩
  · apply wp_e
    refine wp_bf (nI_pos (by omega)) (wp_bt (by (first | (simp (disch := omega) only [wI_I, wI_s, nI_add, pk_mul, nI_ltI, nI_leI, nI_eq, nI_clamp, nm_or, nm_and, nm_xor, nm_nd, nm_one, nm_shr, nm_b2, Bool.false_eq_true, Bool.true_eq_false, not_false_eq_true, not_true_eq_false, reduceCtorEq]; done) | (simp (disch := omega) only [wI_I, wI_s, nI_add, pk_mul, nI_ltI, nI_leI, nI_eq, nI_clamp, nm_or, nm_and, nm_xor, nm_nd, nm_one, nm_shr, nm_b2, Bool.false_eq_true, Bool.true_eq_false, not_false_eq_true, not_true_eq_false, reduceCtorEq]; omega) | omega)) (wp_bf (by (first | (simp (disch := omega) only [wI_I, wI_s, nI_add, pk_mul, nI_ltI, nI_leI, nI_eq, nI_clamp, nm_or, nm_and, nm_xor, nm_nd, nm_one, nm_shr, nm_b2, Bool.false_eq_true, Bool.true_eq_false, not_false_eq_true, not_true_eq_false, reduceCtorEq]; done) | (simp (disch := omega) only [wI_I, wI_s, nI_add, pk_mul, nI_ltI, nI_leI, nI_eq, nI_clamp, nm_or, nm_and, nm_xor, nm_nd, nm_one, nm_shr, nm_b2, Bool.false_eq_true, Bool.true_eq_false, not_false_eq_true, not_true_eq_false, reduceCtorEq]; omega) | omega)) (wp_bf (by (first | (simp (disch := omega) only [wI_I, wI_s, nI_add, pk_mul, nI_ltI, nI_leI, nI_eq, nI_clamp, nm_or, nm_and, nm_xor, nm_nd, nm_one, nm_shr, nm_b2, Bool.false_eq_true, Bool.true_eq_false, not_false_eq_true, not_true_eq_false, reduceCtorEq]; done) | (simp (disch := omega) only [wI_I, wI_s, nI_add, pk_mul, nI_ltI, nI_leI, nI_eq, nI_clamp, nm_or, nm_and, nm_xor, nm_nd, nm_one, nm_shr, nm_b2, Bool.false_eq_true, Bool.true_eq_false, not_false_eq_true, not_true_eq_false, reduceCtorEq]; omega) | omega)) (wp_bf (nI_pos (by omega)) (wp_bt (by (first | (simp (disch := omega) only [wI_I, wI_s, nI_add, pk_mul, nI_ltI, nI_leI, nI_eq, nI_clamp, nm_or, nm_and, nm_xor, nm_nd, nm_one, nm_shr, nm_b2, Bool.false_eq_true, Bool.true_eq_false, not_false_eq_true, not_true_eq_false, reduceCtorEq]; done) | (simp (disch := omega) only [wI_I, wI_s, nI_add, pk_mul, nI_ltI, nI_leI, nI_eq, nI_clamp, nm_or, nm_and, nm_xor, nm_nd, nm_one, nm_shr, nm_b2, Bool.false_eq_true, Bool.true_eq_false, not_false_eq_true, not_true_eq_false, reduceCtorEq]; omega) | omega)) ?_)))))
    repeat (first | refine wp_isC (by assumption) ?_ | refine wp_nnR (by assumption) ?_ | refine wp_inA (by assumption) rfl (by omega) (by omega) ?_ | refine wp_isZ (by decide) ?_ | refine wp_bt (by (first | (simp (disch := omega) only [wI_I, wI_s, nI_add, pk_mul, nI_ltI, nI_leI, nI_eq, nI_clamp, nm_or, nm_and, nm_xor, nm_nd, nm_one, nm_shr, nm_b2, Bool.false_eq_true, Bool.true_eq_false, not_false_eq_true, not_true_eq_false, reduceCtorEq]; done) | (simp (disch := omega) only [wI_I, wI_s, nI_add, pk_mul, nI_ltI, nI_leI, nI_eq, nI_clamp, nm_or, nm_and, nm_xor, nm_nd, nm_one, nm_shr, nm_b2, Bool.false_eq_true, Bool.true_eq_false, not_false_eq_true, not_true_eq_false, reduceCtorEq]; omega) | omega)) ?_ | refine wp_bf (by (first | (simp (disch := omega) only [wI_I, wI_s, nI_add, pk_mul, nI_ltI, nI_leI, nI_eq, nI_clamp, nm_or, nm_and, nm_xor, nm_nd, nm_one, nm_shr, nm_b2, Bool.false_eq_true, Bool.true_eq_false, not_false_eq_true, not_true_eq_false, reduceCtorEq]; done) | (simp (disch := omega) only [wI_I, wI_s, nI_add, pk_mul, nI_ltI, nI_leI, nI_eq, nI_clamp, nm_or, nm_and, nm_xor, nm_nd, nm_one, nm_shr, nm_b2, Bool.false_eq_true, Bool.true_eq_false, not_false_eq_true, not_true_eq_false, reduceCtorEq]; omega) | omega)) ?_)
    rw [nI_clamp (by omega)]
    repeat (first | refine wp_isC (by assumption) ?_ | refine wp_nnR (by assumption) ?_ | refine wp_inA (by assumption) rfl (by omega) (by omega) ?_ | refine wp_isZ (by decide) ?_ | refine wp_bt (by (first | (simp (disch := omega) only [wI_I, wI_s, nI_add, pk_mul, nI_ltI, nI_leI, nI_eq, nI_clamp, nm_or, nm_and, nm_xor, nm_nd, nm_one, nm_shr, nm_b2, Bool.false_eq_true, Bool.true_eq_false, not_false_eq_true, not_true_eq_false, reduceCtorEq]; done) | (simp (disch := omega) only [wI_I, wI_s, nI_add, pk_mul, nI_ltI, nI_leI, nI_eq, nI_clamp, nm_or, nm_and, nm_xor, nm_nd, nm_one, nm_shr, nm_b2, Bool.false_eq_true, Bool.true_eq_false, not_false_eq_true, not_true_eq_false, reduceCtorEq]; omega) | omega)) ?_ | refine wp_bf (by (first | (simp (disch := omega) only [wI_I, wI_s, nI_add, pk_mul, nI_ltI, nI_leI, nI_eq, nI_clamp, nm_or, nm_and, nm_xor, nm_nd, nm_one, nm_shr, nm_b2, Bool.false_eq_true, Bool.true_eq_false, not_false_eq_true, not_true_eq_false, reduceCtorEq]; done) | (simp (disch := omega) only [wI_I, wI_s, nI_add, pk_mul, nI_ltI, nI_leI, nI_eq, nI_clamp, nm_or, nm_and, nm_xor, nm_nd, nm_one, nm_shr, nm_b2, Bool.false_eq_true, Bool.true_eq_false, not_false_eq_true, not_true_eq_false, reduceCtorEq]; omega) | omega)) ?_)
    rw [nI_clamp (by omega)]
    repeat (first | refine wp_isC (by assumption) ?_ | refine wp_nnR (by assumption) ?_ | refine wp_inA (by assumption) rfl (by omega) (by omega) ?_ | refine wp_isZ (by decide) ?_ | refine wp_bt (by (first | (simp (disch := omega) only [wI_I, wI_s, nI_add, pk_mul, nI_ltI, nI_leI, nI_eq, nI_clamp, nm_or, nm_and, nm_xor, nm_nd, nm_one, nm_shr, nm_b2, Bool.false_eq_true, Bool.true_eq_false, not_false_eq_true, not_true_eq_false, reduceCtorEq]; done) | (simp (disch := omega) only [wI_I, wI_s, nI_add, pk_mul, nI_ltI, nI_leI, nI_eq, nI_clamp, nm_or, nm_and, nm_xor, nm_nd, nm_one, nm_shr, nm_b2, Bool.false_eq_true, Bool.true_eq_false, not_false_eq_true, not_true_eq_false, reduceCtorEq]; omega) | omega)) ?_ | refine wp_bf (by (first | (simp (disch := omega) only [wI_I, wI_s, nI_add, pk_mul, nI_ltI, nI_leI, nI_eq, nI_clamp, nm_or, nm_and, nm_xor, nm_nd, nm_one, nm_shr, nm_b2, Bool.false_eq_true, Bool.true_eq_false, not_false_eq_true, not_true_eq_false, reduceCtorEq]; done) | (simp (disch := omega) only [wI_I, wI_s, nI_add, pk_mul, nI_ltI, nI_leI, nI_eq, nI_clamp, nm_or, nm_and, nm_xor, nm_nd, nm_one, nm_shr, nm_b2, Bool.false_eq_true, Bool.true_eq_false, not_false_eq_true, not_true_eq_false, reduceCtorEq]; omega) | omega)) ?_)
    refine wp_rVe (gq_copy s2 s6 (by omega) a1) ?_
    rw [nI_add]
    exact wp_s ⟨rfl, rfl⟩
  · have e : xop (2 ^ lv) A c S = A c :: S := by unfold xop; rw [if_pos (by omega)]
    rw [e]; exact key _ a2
