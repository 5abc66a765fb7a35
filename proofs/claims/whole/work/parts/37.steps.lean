/-! Going from rows to columns. -/
def rch (n : Nat) (G : Nat → Nat) (s : Nat) : Nat → Nat
  | 0 => s
  | k + 1 => rch n G s k ||| sf n G (rch n G s k)
theorem rch_lt {n s m : Nat} {G : Nat → Nat} (h : ∀ r, G r < 2 ^ m) (hs : s < 2 ^ m) : ∀ k, rch n G s k < 2 ^ m
  | 0 => hs
  | k + 1 => Nat.or_lt_two_pow (rch_lt h hs k) (sf_lt h)
def Fr (lo hi : Nat) (f f' : Nat → Nat → Int32) : Prop := ∀ a, a < lo ∨ hi ≤ a → f' a = f a
theorem Fr.rf {lo hi : Nat} {f : Nat → Nat → Int32} : Fr lo hi f f := fun _ _ => rfl
theorem Fr.tr {lo hi : Nat} {f g k : Nat → Nat → Int32} (a : Fr lo hi f g) (b : Fr lo hi g k) : Fr lo hi f k := fun x hx => (b x hx).trans (a x hx)
theorem Fr.up {lo hi lo' hi' : Nat} {f g : Nat → Nat → Int32} (a : Fr lo hi f g) (h1 : lo' ≤ lo) (h2 : hi ≤ hi') : Fr lo' hi' f g := fun x hx => a x (by omega)
theorem Fr.gw {lo hi : Nat} {f : Nat → Nat → Int32} {g n : Nat} {G : Nat → Nat} (h1 : lo ≤ g) (h2 : g + 1 < hi) : Fr lo hi f (gw f g n G) := fun x hx => gw_o (by omega) (by omega)
theorem Fr.u2 {lo hi : Nat} {f : Nat → Nat → Int32} {a k : Nat} {v : Int32} (h1 : lo ≤ a) (h2 : a < hi) : Fr lo hi f (up2 f a k v) := fun x hx => up2_a (by omega)
theorem Fr.F {lo hi : Nat} {f f' : Nat → Nat → Int32} {g n : Nat} {G : Nat → Nat} (a : Fr lo hi f f') (h : g + 1 < lo ∨ hi ≤ g) (F : GF f g n G) : GF f' g n G := by
  constructor
  · rw [a g (by omega)]; exact F.1
  · intro r hr; rw [a (g + 1) (by omega)]; exact F.2 r hr
/-- the steps' cells -/
def SS (h : MH) (t : Nat) : Prop := hC h t = 10 ∧ hR h t 0 = some (t + 1) ∧ hR h t 1 = some (t + 3) ∧ GS h (t + 1) ∧ GS h (t + 3)
theorem sp_all {h : MH} {f : Nat → Nat → Int32} {t g n a : Nat} {G : Nat → Nat} (S : GS h g) (F : GF f g n G) (V : GW n G) (ha : a < 16) :
    ev M_Steps_allFrom 0 0 [some (.ref t), some (.ref g), some (.int (nI a)), none, none] [] (wI h f) = some (some (.int (nI (rch n G (2 ^ a) n))), wI h f) := by
  have v1 := V.1
  obtain ⟨s1, s2, s3, s4⟩ := id S
  obtain ⟨f1, f2⟩ := id F
  have hp : 2 ^ a < 2 ^ 16 := Nat.pow_lt_pow_right (by decide) ha
  have L : ∀ k i, i + k = n → ev M_Steps_allFrom 0 7 [none, some (.ref g), none, some (.int (nI (rch n G (2 ^ a) i))), some (.int (nI i))] [] (wI h f) = some (some (.int (nI (rch n G (2 ^ a) n))), wI h f) := by
    intro k
    induction k with
    | zero =>
      intro i hi
      rw [r_Steps_allFrom_7]
      apply wp_e
      repeat (first | refine wp_isC (by assumption) ?_ | refine wp_nnR (by assumption) ?_ | refine wp_inA (by assumption) rfl (by omega) (by omega) ?_ | refine wp_isZ (by decide) ?_ | refine wp_bt (by (first | (simp (disch := omega) only [wI_I, wI_s, nI_add, pk_mul, nI_ltI, nI_leI, nI_eq, nI_clamp, nm_or, nm_and, nm_xor, nm_nd, nm_one, nm_shr, nm_b2, Bool.false_eq_true, Bool.true_eq_false, not_false_eq_true, not_true_eq_false, reduceCtorEq, f1]; done) | (simp (disch := omega) only [wI_I, wI_s, nI_add, pk_mul, nI_ltI, nI_leI, nI_eq, nI_clamp, nm_or, nm_and, nm_xor, nm_nd, nm_one, nm_shr, nm_b2, Bool.false_eq_true, Bool.true_eq_false, not_false_eq_true, not_true_eq_false, reduceCtorEq, f1]; omega) | omega)) ?_ | refine wp_bf (by (first | (simp (disch := omega) only [wI_I, wI_s, nI_add, pk_mul, nI_ltI, nI_leI, nI_eq, nI_clamp, nm_or, nm_and, nm_xor, nm_nd, nm_one, nm_shr, nm_b2, Bool.false_eq_true, Bool.true_eq_false, not_false_eq_true, not_true_eq_false, reduceCtorEq, f1]; done) | (simp (disch := omega) only [wI_I, wI_s, nI_add, pk_mul, nI_ltI, nI_leI, nI_eq, nI_clamp, nm_or, nm_and, nm_xor, nm_nd, nm_one, nm_shr, nm_b2, Bool.false_eq_true, Bool.true_eq_false, not_false_eq_true, not_true_eq_false, reduceCtorEq, f1]; omega) | omega)) ?_)
      refine wp_s ⟨?_, rfl⟩
      rw [show i = n by omega]
    | succ k ih =>
      intro i hi
      rw [r_Steps_allFrom_7]
      apply wp_e
      repeat (first | refine wp_isC (by assumption) ?_ | refine wp_nnR (by assumption) ?_ | refine wp_inA (by assumption) rfl (by omega) (by omega) ?_ | refine wp_isZ (by decide) ?_ | refine wp_bt (by (first | (simp (disch := omega) only [wI_I, wI_s, nI_add, pk_mul, nI_ltI, nI_leI, nI_eq, nI_clamp, nm_or, nm_and, nm_xor, nm_nd, nm_one, nm_shr, nm_b2, Bool.false_eq_true, Bool.true_eq_false, not_false_eq_true, not_true_eq_false, reduceCtorEq, f1]; done) | (simp (disch := omega) only [wI_I, wI_s, nI_add, pk_mul, nI_ltI, nI_leI, nI_eq, nI_clamp, nm_or, nm_and, nm_xor, nm_nd, nm_one, nm_shr, nm_b2, Bool.false_eq_true, Bool.true_eq_false, not_false_eq_true, not_true_eq_false, reduceCtorEq, f1]; omega) | omega)) ?_ | refine wp_bf (by (first | (simp (disch := omega) only [wI_I, wI_s, nI_add, pk_mul, nI_ltI, nI_leI, nI_eq, nI_clamp, nm_or, nm_and, nm_xor, nm_nd, nm_one, nm_shr, nm_b2, Bool.false_eq_true, Bool.true_eq_false, not_false_eq_true, not_true_eq_false, reduceCtorEq, f1]; done) | (simp (disch := omega) only [wI_I, wI_s, nI_add, pk_mul, nI_ltI, nI_leI, nI_eq, nI_clamp, nm_or, nm_and, nm_xor, nm_nd, nm_one, nm_shr, nm_b2, Bool.false_eq_true, Bool.true_eq_false, not_false_eq_true, not_true_eq_false, reduceCtorEq, f1]; omega) | omega)) ?_)
      refine wp_rIe (gq_step S F V (rch_lt V.lt hp i)) ?_
      simp (disch := omega) only [wI_I, wI_s, nI_add, pk_mul, nI_ltI, nI_leI, nI_eq, nI_clamp, nm_or, nm_and, nm_xor, nm_nd, nm_one, nm_shr, nm_b2, Bool.false_eq_true, Bool.true_eq_false, not_false_eq_true, not_true_eq_false, reduceCtorEq]
      exact wp_of (ih (i + 1) (by omega)) ⟨rfl, rfl⟩
  rw [r_Steps_allFrom_0, nm_one (by omega)]
  exact L n 0 (by omega)
/-- the first place where p holds -/
def ff (p : Nat → Bool) : Nat → Option Nat
  | 0 => none
  | k + 1 => match ff p k with
    | some q => some q
    | none => if p k then some k else none
theorem ff_some {p : Nat → Bool} {q : Nat} : ∀ {k m : Nat}, ff p k = some q → k ≤ m → ff p m = some q
  | k, 0, h, hm => by rw [show k = 0 by omega] at h; exact h
  | k, m + 1, h, hm => by
    by_cases e : k = m + 1
    · rw [← e]; exact h
    · rw [ff, ff_some (m := m) h (by omega)]
theorem ff_n {p : Nat → Bool} {k : Nat} (h : ff p k = none) : ff p (k + 1) = if p k then some k else none := by rw [ff, h]
theorem sp_few {h : MH} {f : Nat → Nat → Int32} {t g n a b : Nat} {G : Nat → Nat} (S : GS h g) (F : GF f g n G) (V : GW n G) (ha : a < 16) (hb : b < 16) :
    ev M_Steps_fewest 0 0 [some (.ref t), some (.ref g), some (.int (nI a)), some (.int (nI b)), none, none] [] (wI h f) = some (some (.int (oI (ff (fun k => (rch n G (2 ^ a) k).testBit b) n))), wI h f) := by
  have v1 := V.1
  obtain ⟨s1, s2, s3, s4⟩ := id S
  obtain ⟨f1, f2⟩ := id F
  have hp : 2 ^ a < 2 ^ 16 := Nat.pow_lt_pow_right (by decide) ha
  have L : ∀ k i, i + k = n → ff (fun k => (rch n G (2 ^ a) k).testBit b) i = none → ev M_Steps_fewest 0 7 [none, some (.ref g), none, some (.int (nI b)), some (.int (nI (rch n G (2 ^ a) i))), some (.int (nI i))] [] (wI h f) = some (some (.int (oI (ff (fun k => (rch n G (2 ^ a) k).testBit b) n))), wI h f) := by
    intro k
    induction k with
    | zero =>
      intro i hi hn
      rw [r_Steps_fewest_7]
      apply wp_e
      repeat (first | refine wp_isC (by assumption) ?_ | refine wp_nnR (by assumption) ?_ | refine wp_inA (by assumption) rfl (by omega) (by omega) ?_ | refine wp_isZ (by decide) ?_ | refine wp_bt (by (first | (simp (disch := omega) only [wI_I, wI_s, nI_add, pk_mul, nI_ltI, nI_leI, nI_eq, nI_clamp, nm_or, nm_and, nm_xor, nm_nd, nm_one, nm_shr, nm_b2, Bool.false_eq_true, Bool.true_eq_false, not_false_eq_true, not_true_eq_false, reduceCtorEq, f1]; done) | (simp (disch := omega) only [wI_I, wI_s, nI_add, pk_mul, nI_ltI, nI_leI, nI_eq, nI_clamp, nm_or, nm_and, nm_xor, nm_nd, nm_one, nm_shr, nm_b2, Bool.false_eq_true, Bool.true_eq_false, not_false_eq_true, not_true_eq_false, reduceCtorEq, f1]; omega) | omega)) ?_ | refine wp_bf (by (first | (simp (disch := omega) only [wI_I, wI_s, nI_add, pk_mul, nI_ltI, nI_leI, nI_eq, nI_clamp, nm_or, nm_and, nm_xor, nm_nd, nm_one, nm_shr, nm_b2, Bool.false_eq_true, Bool.true_eq_false, not_false_eq_true, not_true_eq_false, reduceCtorEq, f1]; done) | (simp (disch := omega) only [wI_I, wI_s, nI_add, pk_mul, nI_ltI, nI_leI, nI_eq, nI_clamp, nm_or, nm_and, nm_xor, nm_nd, nm_one, nm_shr, nm_b2, Bool.false_eq_true, Bool.true_eq_false, not_false_eq_true, not_true_eq_false, reduceCtorEq, f1]; omega) | omega)) ?_)
      refine wp_s ⟨?_, rfl⟩
      rw [show i = n by omega] at hn; rw [hn]; rfl
    | succ k ih =>
      intro i hi hn
      have e1 := ff_n hn
      have hl := rch_lt (n := n) V.lt hp i
      rw [r_Steps_fewest_7]
      apply wp_e
      repeat (first | refine wp_isC (by assumption) ?_ | refine wp_nnR (by assumption) ?_ | refine wp_inA (by assumption) rfl (by omega) (by omega) ?_ | refine wp_isZ (by decide) ?_ | refine wp_bt (by (first | (simp (disch := omega) only [wI_I, wI_s, nI_add, pk_mul, nI_ltI, nI_leI, nI_eq, nI_clamp, nm_or, nm_and, nm_xor, nm_nd, nm_one, nm_shr, nm_b2, Bool.false_eq_true, Bool.true_eq_false, not_false_eq_true, not_true_eq_false, reduceCtorEq, f1]; done) | (simp (disch := omega) only [wI_I, wI_s, nI_add, pk_mul, nI_ltI, nI_leI, nI_eq, nI_clamp, nm_or, nm_and, nm_xor, nm_nd, nm_one, nm_shr, nm_b2, Bool.false_eq_true, Bool.true_eq_false, not_false_eq_true, not_true_eq_false, reduceCtorEq, f1]; omega) | omega)) ?_ | refine wp_bf (by (first | (simp (disch := omega) only [wI_I, wI_s, nI_add, pk_mul, nI_ltI, nI_leI, nI_eq, nI_clamp, nm_or, nm_and, nm_xor, nm_nd, nm_one, nm_shr, nm_b2, Bool.false_eq_true, Bool.true_eq_false, not_false_eq_true, not_true_eq_false, reduceCtorEq, f1]; done) | (simp (disch := omega) only [wI_I, wI_s, nI_add, pk_mul, nI_ltI, nI_leI, nI_eq, nI_clamp, nm_or, nm_and, nm_xor, nm_nd, nm_one, nm_shr, nm_b2, Bool.false_eq_true, Bool.true_eq_false, not_false_eq_true, not_true_eq_false, reduceCtorEq, f1]; omega) | omega)) ?_)
      refine wp_bi (nm_bit (by omega) (by omega)) (fun q => ?_) (fun q => ?_)
      · rw [if_pos q] at e1
        refine wp_s ⟨?_, rfl⟩
        rw [ff_some e1 (show i + 1 ≤ n by omega)]; rfl
      · rw [if_neg q] at e1
        repeat (first | refine wp_isC (by assumption) ?_ | refine wp_nnR (by assumption) ?_ | refine wp_inA (by assumption) rfl (by omega) (by omega) ?_ | refine wp_isZ (by decide) ?_ | refine wp_bt (by (first | (simp (disch := omega) only [wI_I, wI_s, nI_add, pk_mul, nI_ltI, nI_leI, nI_eq, nI_clamp, nm_or, nm_and, nm_xor, nm_nd, nm_one, nm_shr, nm_b2, Bool.false_eq_true, Bool.true_eq_false, not_false_eq_true, not_true_eq_false, reduceCtorEq]; done) | (simp (disch := omega) only [wI_I, wI_s, nI_add, pk_mul, nI_ltI, nI_leI, nI_eq, nI_clamp, nm_or, nm_and, nm_xor, nm_nd, nm_one, nm_shr, nm_b2, Bool.false_eq_true, Bool.true_eq_false, not_false_eq_true, not_true_eq_false, reduceCtorEq]; omega) | omega)) ?_ | refine wp_bf (by (first | (simp (disch := omega) only [wI_I, wI_s, nI_add, pk_mul, nI_ltI, nI_leI, nI_eq, nI_clamp, nm_or, nm_and, nm_xor, nm_nd, nm_one, nm_shr, nm_b2, Bool.false_eq_true, Bool.true_eq_false, not_false_eq_true, not_true_eq_false, reduceCtorEq]; done) | (simp (disch := omega) only [wI_I, wI_s, nI_add, pk_mul, nI_ltI, nI_leI, nI_eq, nI_clamp, nm_or, nm_and, nm_xor, nm_nd, nm_one, nm_shr, nm_b2, Bool.false_eq_true, Bool.true_eq_false, not_false_eq_true, not_true_eq_false, reduceCtorEq]; omega) | omega)) ?_)
        refine wp_rIe (gq_step S F V hl) ?_
        simp (disch := omega) only [wI_I, wI_s, nI_add, pk_mul, nI_ltI, nI_leI, nI_eq, nI_clamp, nm_or, nm_and, nm_xor, nm_nd, nm_one, nm_shr, nm_b2, Bool.false_eq_true, Bool.true_eq_false, not_false_eq_true, not_true_eq_false, reduceCtorEq]
        exact wp_of (ih (i + 1) (by omega) e1) ⟨rfl, rfl⟩
  rw [r_Steps_fewest_0, nm_one (by omega)]
  exact L n 0 (by omega) rfl
/-- changed over -/
def tp (n : Nat) (G : Nat → Nat) : Nat → Nat := fun r => if r < n then cs n G r else 0
theorem GW.tp {n : Nat} {G : Nat → Nat} (hn : n ≤ 16) : GW n (tp n G) := by
  refine ⟨hn, fun r => ?_, fun r hr => ?_⟩
  · show (if r < n then cs n G r else 0) < 2 ^ n; split
    · exact cs_lt
    · exact Nat.two_pow_pos n
  · show (if r < n then cs n G r else 0) = 0; rw [if_neg (by omega)]
theorem sp_both {h : MH} {f : Nat → Nat → Int32} {t g n a : Nat} {G : Nat → Nat} (T : SS h t) (S : GS h g) (d : t + 5 ≤ g ∨ g + 1 < t) (F : GF f g n G) (V : GW n G) (ha : a < 16) :
    ev M_Steps_bothWays 0 0 [some (.ref t), some (.ref g), some (.int (nI a))] [] (wI h f) = some (some (.int (nI (rch n G (2 ^ a) n &&& rch n (tp n G) (2 ^ a) n))), wI h (gw f (t + 1) n (tp n G))) := by
  obtain ⟨t1, t2, t3, t4, t5⟩ := T
  have t6 := t4.1
  rw [r_Steps_bothWays_0]
  apply wp_e
  repeat (first | refine wp_isC (by assumption) ?_ | refine wp_nnR (by assumption) ?_ | refine wp_inA (by assumption) rfl (by omega) (by omega) ?_ | refine wp_isZ (by decide) ?_ | refine wp_bt (by (first | (simp (disch := omega) only [wI_I, wI_s, nI_add, pk_mul, nI_ltI, nI_leI, nI_eq, nI_clamp, nm_or, nm_and, nm_xor, nm_nd, nm_one, nm_shr, nm_b2, Bool.false_eq_true, Bool.true_eq_false, not_false_eq_true, not_true_eq_false, reduceCtorEq]; done) | (simp (disch := omega) only [wI_I, wI_s, nI_add, pk_mul, nI_ltI, nI_leI, nI_eq, nI_clamp, nm_or, nm_and, nm_xor, nm_nd, nm_one, nm_shr, nm_b2, Bool.false_eq_true, Bool.true_eq_false, not_false_eq_true, not_true_eq_false, reduceCtorEq]; omega) | omega)) ?_ | refine wp_bf (by (first | (simp (disch := omega) only [wI_I, wI_s, nI_add, pk_mul, nI_ltI, nI_leI, nI_eq, nI_clamp, nm_or, nm_and, nm_xor, nm_nd, nm_one, nm_shr, nm_b2, Bool.false_eq_true, Bool.true_eq_false, not_false_eq_true, not_true_eq_false, reduceCtorEq]; done) | (simp (disch := omega) only [wI_I, wI_s, nI_add, pk_mul, nI_ltI, nI_leI, nI_eq, nI_clamp, nm_or, nm_and, nm_xor, nm_nd, nm_one, nm_shr, nm_b2, Bool.false_eq_true, Bool.true_eq_false, not_false_eq_true, not_true_eq_false, reduceCtorEq]; omega) | omega)) ?_)
  refine wp_rVe (gq_over t4 S (by omega) F V) ?_
  repeat (first | refine wp_isC (by assumption) ?_ | refine wp_nnR (by assumption) ?_ | refine wp_inA (by assumption) rfl (by omega) (by omega) ?_ | refine wp_isZ (by decide) ?_ | refine wp_bt (by (first | (simp (disch := omega) only [wI_I, wI_s, nI_add, pk_mul, nI_ltI, nI_leI, nI_eq, nI_clamp, nm_or, nm_and, nm_xor, nm_nd, nm_one, nm_shr, nm_b2, Bool.false_eq_true, Bool.true_eq_false, not_false_eq_true, not_true_eq_false, reduceCtorEq]; done) | (simp (disch := omega) only [wI_I, wI_s, nI_add, pk_mul, nI_ltI, nI_leI, nI_eq, nI_clamp, nm_or, nm_and, nm_xor, nm_nd, nm_one, nm_shr, nm_b2, Bool.false_eq_true, Bool.true_eq_false, not_false_eq_true, not_true_eq_false, reduceCtorEq]; omega) | omega)) ?_ | refine wp_bf (by (first | (simp (disch := omega) only [wI_I, wI_s, nI_add, pk_mul, nI_ltI, nI_leI, nI_eq, nI_clamp, nm_or, nm_and, nm_xor, nm_nd, nm_one, nm_shr, nm_b2, Bool.false_eq_true, Bool.true_eq_false, not_false_eq_true, not_true_eq_false, reduceCtorEq]; done) | (simp (disch := omega) only [wI_I, wI_s, nI_add, pk_mul, nI_ltI, nI_leI, nI_eq, nI_clamp, nm_or, nm_and, nm_xor, nm_nd, nm_one, nm_shr, nm_b2, Bool.false_eq_true, Bool.true_eq_false, not_false_eq_true, not_true_eq_false, reduceCtorEq]; omega) | omega)) ?_)
  refine wp_rIe (sp_all (t := t) S (gw_F (by omega) F) V ha) ?_
  repeat (first | refine wp_isC (by assumption) ?_ | refine wp_nnR (by assumption) ?_ | refine wp_inA (by assumption) rfl (by omega) (by omega) ?_ | refine wp_isZ (by decide) ?_ | refine wp_bt (by (first | (simp (disch := omega) only [wI_I, wI_s, nI_add, pk_mul, nI_ltI, nI_leI, nI_eq, nI_clamp, nm_or, nm_and, nm_xor, nm_nd, nm_one, nm_shr, nm_b2, Bool.false_eq_true, Bool.true_eq_false, not_false_eq_true, not_true_eq_false, reduceCtorEq]; done) | (simp (disch := omega) only [wI_I, wI_s, nI_add, pk_mul, nI_ltI, nI_leI, nI_eq, nI_clamp, nm_or, nm_and, nm_xor, nm_nd, nm_one, nm_shr, nm_b2, Bool.false_eq_true, Bool.true_eq_false, not_false_eq_true, not_true_eq_false, reduceCtorEq]; omega) | omega)) ?_ | refine wp_bf (by (first | (simp (disch := omega) only [wI_I, wI_s, nI_add, pk_mul, nI_ltI, nI_leI, nI_eq, nI_clamp, nm_or, nm_and, nm_xor, nm_nd, nm_one, nm_shr, nm_b2, Bool.false_eq_true, Bool.true_eq_false, not_false_eq_true, not_true_eq_false, reduceCtorEq]; done) | (simp (disch := omega) only [wI_I, wI_s, nI_add, pk_mul, nI_ltI, nI_leI, nI_eq, nI_clamp, nm_or, nm_and, nm_xor, nm_nd, nm_one, nm_shr, nm_b2, Bool.false_eq_true, Bool.true_eq_false, not_false_eq_true, not_true_eq_false, reduceCtorEq]; omega) | omega)) ?_)
  refine wp_rIe (sp_all (t := t) (G := tp n G) t4 gw_f (GW.tp V.1) ha) ?_
  rw [nm_and]
  exact wp_s ⟨rfl, rfl⟩
/-- a go: what is reached in one step more, all rows at once -/
def go1 (n : Nat) (G : Nat → Nat) : Nat → Nat := fun r => if r < n then G r ||| sf n G (G r) else 0
def gos (n : Nat) (G : Nat → Nat) : Nat → (Nat → Nat)
  | 0 => G
  | k + 1 => go1 n (gos n G k)
theorem GW.go1 {n : Nat} {G : Nat → Nat} (V : GW n G) : GW n (go1 n G) := by
  refine ⟨V.1, fun r => ?_, fun r hr => ?_⟩
  · show (if r < n then G r ||| sf n G (G r) else 0) < 2 ^ n; split
    · exact Nat.or_lt_two_pow (V.2.1 r) (sf_lt V.2.1)
    · exact Nat.two_pow_pos n
  · show (if r < n then G r ||| sf n G (G r) else 0) = 0; rw [if_neg (by omega)]
theorem GW.gos {n : Nat} {G : Nat → Nat} (V : GW n G) : ∀ k, GW n (gos n G k)
  | 0 => V
  | k + 1 => (GW.gos V k).go1
/-- whether a go brings nothing new -/
def stl (n : Nat) (G : Nat → Nat) : Bool := allb (fun r => decide (nd (sf n G (G r)) (G r) = 0)) n
/-- how many goes bring something new, of at most m -/
def ngo (n : Nat) (G : Nat → Nat) : Nat → Nat
  | 0 => 0
  | m + 1 => if stl n (gos n G (ngo n G m)) then ngo n G m else ngo n G m + 1
theorem allb_c {p q : Nat → Bool} : ∀ {n : Nat}, (∀ k, k < n → p k = q k) → allb p n = allb q n
  | 0, _ => rfl
  | n + 1, h => by rw [allb, allb, allb_c (fun k hk => h k (by omega)), h n (by omega)]
theorem sp_settle {h : MH} {t n : Nat} (T : SS h t) {G : Nat → Nat} (V : GW n G) : ∀ k i f, i + k = 16 → GF f (t + 1) n (gos n G i) → ngo n G i = i →
    wp (ev M_Steps_settle 0 9 [some (.ref t), none, some (.int (nI i)), some (.int (nI i)), none] [] (wI h f)) (fun v h' => ∃ f', v = some (.int (nI (ngo n G 16))) ∧ h' = wI h f' ∧ GF f' (t + 1) n (gos n G (ngo n G 16)) ∧ Fr (t + 1) (t + 5) f f') := by
  obtain ⟨t1, t2, t3, t4, t5⟩ := T
  obtain ⟨a1, a2, a3, a4⟩ := id t4
  obtain ⟨b1, b2, b3, b4⟩ := id t5
  intro k
  induction k with
  | zero =>
    intro i f hi F hg
    have hi : i = 16 := by omega
    subst hi
    rw [r_Steps_settle_9]
    repeat (first | refine wp_isC (by assumption) ?_ | refine wp_nnR (by assumption) ?_ | refine wp_inA (by assumption) rfl (by omega) (by omega) ?_ | refine wp_isZ (by decide) ?_ | refine wp_bt (by (first | (simp (disch := omega) only [wI_I, wI_s, nI_add, pk_mul, nI_ltI, nI_leI, nI_eq, nI_clamp, nm_or, nm_and, nm_xor, nm_nd, nm_one, nm_shr, nm_b2, Bool.false_eq_true, Bool.true_eq_false, not_false_eq_true, not_true_eq_false, reduceCtorEq]; done) | (simp (disch := omega) only [wI_I, wI_s, nI_add, pk_mul, nI_ltI, nI_leI, nI_eq, nI_clamp, nm_or, nm_and, nm_xor, nm_nd, nm_one, nm_shr, nm_b2, Bool.false_eq_true, Bool.true_eq_false, not_false_eq_true, not_true_eq_false, reduceCtorEq]; omega) | omega)) ?_ | refine wp_bf (by (first | (simp (disch := omega) only [wI_I, wI_s, nI_add, pk_mul, nI_ltI, nI_leI, nI_eq, nI_clamp, nm_or, nm_and, nm_xor, nm_nd, nm_one, nm_shr, nm_b2, Bool.false_eq_true, Bool.true_eq_false, not_false_eq_true, not_true_eq_false, reduceCtorEq]; done) | (simp (disch := omega) only [wI_I, wI_s, nI_add, pk_mul, nI_ltI, nI_leI, nI_eq, nI_clamp, nm_or, nm_and, nm_xor, nm_nd, nm_one, nm_shr, nm_b2, Bool.false_eq_true, Bool.true_eq_false, not_false_eq_true, not_true_eq_false, reduceCtorEq]; omega) | omega)) ?_)
    exact wp_s ⟨f, by rw [hg], rfl, by rw [hg]; exact F, Fr.rf⟩
  | succ k ih =>
    intro i f hi F hg
    have VZ := V.gos i
    have v1 := V.1
    have e16 : ∀ d, stl n (gos n G i) = true → ngo n G (i + d) = i := by
      intro d hd
      induction d with
      | zero => exact hg
      | succ d ihd => rw [← Nat.add_assoc, ngo, ihd, if_pos hd]
    rw [r_Steps_settle_9]
    repeat (first | refine wp_isC (by assumption) ?_ | refine wp_nnR (by assumption) ?_ | refine wp_inA (by assumption) rfl (by omega) (by omega) ?_ | refine wp_isZ (by decide) ?_ | refine wp_bt (by (first | (simp (disch := omega) only [wI_I, wI_s, nI_add, pk_mul, nI_ltI, nI_leI, nI_eq, nI_clamp, nm_or, nm_and, nm_xor, nm_nd, nm_one, nm_shr, nm_b2, Bool.false_eq_true, Bool.true_eq_false, not_false_eq_true, not_true_eq_false, reduceCtorEq]; done) | (simp (disch := omega) only [wI_I, wI_s, nI_add, pk_mul, nI_ltI, nI_leI, nI_eq, nI_clamp, nm_or, nm_and, nm_xor, nm_nd, nm_one, nm_shr, nm_b2, Bool.false_eq_true, Bool.true_eq_false, not_false_eq_true, not_true_eq_false, reduceCtorEq]; omega) | omega)) ?_ | refine wp_bf (by (first | (simp (disch := omega) only [wI_I, wI_s, nI_add, pk_mul, nI_ltI, nI_leI, nI_eq, nI_clamp, nm_or, nm_and, nm_xor, nm_nd, nm_one, nm_shr, nm_b2, Bool.false_eq_true, Bool.true_eq_false, not_false_eq_true, not_true_eq_false, reduceCtorEq]; done) | (simp (disch := omega) only [wI_I, wI_s, nI_add, pk_mul, nI_ltI, nI_leI, nI_eq, nI_clamp, nm_or, nm_and, nm_xor, nm_nd, nm_one, nm_shr, nm_b2, Bool.false_eq_true, Bool.true_eq_false, not_false_eq_true, not_true_eq_false, reduceCtorEq]; omega) | omega)) ?_)
    refine wp_rVe (gq_join t5 t4 t4 (by omega) (by omega) F F VZ VZ (by decide)) ?_
    repeat (first | refine wp_isC (by assumption) ?_ | refine wp_nnR (by assumption) ?_ | refine wp_inA (by assumption) rfl (by omega) (by omega) ?_ | refine wp_isZ (by decide) ?_ | refine wp_bt (by (first | (simp (disch := omega) only [wI_I, wI_s, nI_add, pk_mul, nI_ltI, nI_leI, nI_eq, nI_clamp, nm_or, nm_and, nm_xor, nm_nd, nm_one, nm_shr, nm_b2, Bool.false_eq_true, Bool.true_eq_false, not_false_eq_true, not_true_eq_false, reduceCtorEq]; done) | (simp (disch := omega) only [wI_I, wI_s, nI_add, pk_mul, nI_ltI, nI_leI, nI_eq, nI_clamp, nm_or, nm_and, nm_xor, nm_nd, nm_one, nm_shr, nm_b2, Bool.false_eq_true, Bool.true_eq_false, not_false_eq_true, not_true_eq_false, reduceCtorEq]; omega) | omega)) ?_ | refine wp_bf (by (first | (simp (disch := omega) only [wI_I, wI_s, nI_add, pk_mul, nI_ltI, nI_leI, nI_eq, nI_clamp, nm_or, nm_and, nm_xor, nm_nd, nm_one, nm_shr, nm_b2, Bool.false_eq_true, Bool.true_eq_false, not_false_eq_true, not_true_eq_false, reduceCtorEq]; done) | (simp (disch := omega) only [wI_I, wI_s, nI_add, pk_mul, nI_ltI, nI_leI, nI_eq, nI_clamp, nm_or, nm_and, nm_xor, nm_nd, nm_one, nm_shr, nm_b2, Bool.false_eq_true, Bool.true_eq_false, not_false_eq_true, not_true_eq_false, reduceCtorEq]; omega) | omega)) ?_)
    have F3 : GF (gw f (t + 3) n (fun r => if r < n then jn 3 n (gos n G i) (gos n G i) r else 0)) (t + 1) n (gos n G i) := gw_F (by omega) F
    have FN := gw_f (f := f) (g := t + 3) (n := n) (G := fun r => if r < n then jn 3 n (gos n G i) (gos n G i) r else 0)
    have VN : GW n (fun r => if r < n then jn 3 n (gos n G i) (gos n G i) r else 0) := by
      refine ⟨v1, fun r => ?_, fun r hr => ?_⟩
      · dsimp only; split
        · exact sf_lt VZ.2.1
        · exact Nat.two_pow_pos n
      · dsimp only; rw [if_neg (by omega)]
    have fr3 : Fr (t + 1) (t + 5) f (gw f (t + 3) n (fun r => if r < n then jn 3 n (gos n G i) (gos n G i) r else 0)) := Fr.gw (by omega) (by omega)
    refine wp_rIe (gq_within t5 t4 FN F3 VN) ?_
    have ew : allb (fun r => decide (nd (if r < n then jn 3 n (gos n G i) (gos n G i) r else 0) (gos n G i r) = 0)) n = stl n (gos n G i) := allb_c (fun r hr => by rw [if_pos hr]; rfl)
    rw [ew]
    cases q : stl n (gos n G i) with
    | true =>
      refine wp_bf (by decide) ?_
      have e := e16 (k + 1) q
      rw [hi] at e
      exact wp_s ⟨_, by rw [e], rfl, by rw [e]; exact F3, fr3⟩
    | false =>
      refine wp_bt rfl ?_
      generalize hf1 : gw f (t + 3) n (fun r => if r < n then jn 3 n (gos n G i) (gos n G i) r else 0) = f1 at F3 FN fr3 ⊢
      have L : ∀ k2 j, j + k2 = n → wp (ev M_Steps_settle 0 31 [some (.ref t), none, some (.int (nI i)), some (.int (nI i)), some (.int (nI j))] [] (wI h (gw f1 (t + 1) n (fun r => if r < j then go1 n (gos n G i) r else gos n G i r)))) (fun v h' => ∃ f', v = some (.int (nI (ngo n G 16))) ∧ h' = wI h f' ∧ GF f' (t + 1) n (gos n G (ngo n G 16)) ∧ Fr (t + 1) (t + 5) f f') := by
        intro k2
        induction k2 with
        | zero =>
          intro j hj
          have g1 := (gw_f (f := f1) (g := t + 1) (n := n) (G := fun r => if r < j then go1 n (gos n G i) r else gos n G i r))
          have g2 := g1.1
          rw [r_Steps_settle_31]
          repeat (first | refine wp_isC (by assumption) ?_ | refine wp_nnR (by assumption) ?_ | refine wp_inA (by assumption) rfl (by omega) (by omega) ?_ | refine wp_isZ (by decide) ?_ | refine wp_bt (by (first | (simp (disch := omega) only [wI_I, wI_s, nI_add, pk_mul, nI_ltI, nI_leI, nI_eq, nI_clamp, nm_or, nm_and, nm_xor, nm_nd, nm_one, nm_shr, nm_b2, Bool.false_eq_true, Bool.true_eq_false, not_false_eq_true, not_true_eq_false, reduceCtorEq, g2]; done) | (simp (disch := omega) only [wI_I, wI_s, nI_add, pk_mul, nI_ltI, nI_leI, nI_eq, nI_clamp, nm_or, nm_and, nm_xor, nm_nd, nm_one, nm_shr, nm_b2, Bool.false_eq_true, Bool.true_eq_false, not_false_eq_true, not_true_eq_false, reduceCtorEq, g2]; omega) | omega)) ?_ | refine wp_bf (by (first | (simp (disch := omega) only [wI_I, wI_s, nI_add, pk_mul, nI_ltI, nI_leI, nI_eq, nI_clamp, nm_or, nm_and, nm_xor, nm_nd, nm_one, nm_shr, nm_b2, Bool.false_eq_true, Bool.true_eq_false, not_false_eq_true, not_true_eq_false, reduceCtorEq, g2]; done) | (simp (disch := omega) only [wI_I, wI_s, nI_add, pk_mul, nI_ltI, nI_leI, nI_eq, nI_clamp, nm_or, nm_and, nm_xor, nm_nd, nm_one, nm_shr, nm_b2, Bool.false_eq_true, Bool.true_eq_false, not_false_eq_true, not_true_eq_false, reduceCtorEq, g2]; omega) | omega)) ?_)
          simp (disch := omega) only [wI_I, wI_s, nI_add, pk_mul, nI_ltI, nI_leI, nI_eq, nI_clamp, nm_or, nm_and, nm_xor, nm_nd, nm_one, nm_shr, nm_b2, Bool.false_eq_true, Bool.true_eq_false, not_false_eq_true, not_true_eq_false, reduceCtorEq]
          have e : (fun r => if r < j then go1 n (gos n G i) r else gos n G i r) = gos n G (i + 1) := by
            funext r
            show _ = go1 n (gos n G i) r
            by_cases q : r < j
            · rw [if_pos q]
            · rw [if_neg q]; unfold go1; rw [if_neg (by omega)]; exact VZ.2.2 r (by omega)
          rw [e] at g1 ⊢
          refine wp_w (ih (i + 1) _ (by omega) g1 (by rw [ngo, hg, q, if_neg (by decide)])) ?_
          rintro v h' ⟨f', r1, r2, r3, r4⟩
          exact ⟨f', r1, r2, r3, fr3.tr ((Fr.gw (by omega) (by omega)).tr r4)⟩
        | succ k2 ih2 =>
          intro j hj
          have g1 := (gw_f (f := f1) (g := t + 1) (n := n) (G := fun r => if r < j then go1 n (gos n G i) r else gos n G i r))
          have g2 := g1.1
          have g3 := g1.2 j (by omega)
          have g4 := (gw_F (g := t + 1) (n := n) (G := fun r => if r < j then go1 n (gos n G i) r else gos n G i r) (by omega) FN).2 j (by omega)
          rw [show (fun r => if r < j then go1 n (gos n G i) r else gos n G i r) j = gos n G i j from if_neg (by omega)] at g3
          rw [show (fun r => if r < n then jn 3 n (gos n G i) (gos n G i) r else 0) j = jn 3 n (gos n G i) (gos n G i) j from if_pos (by omega)] at g4
          have ih2 := ih2 (j + 1) (by omega)
          rw [r_Steps_settle_31]
          repeat (first | refine wp_isC (by assumption) ?_ | refine wp_nnR (by assumption) ?_ | refine wp_inA (by assumption) rfl (by omega) (by omega) ?_ | refine wp_isZ (by decide) ?_ | refine wp_bt (by (first | (simp (disch := omega) only [wI_I, wI_s, nI_add, pk_mul, nI_ltI, nI_leI, nI_eq, nI_clamp, nm_or, nm_and, nm_xor, nm_nd, nm_one, nm_shr, nm_b2, Bool.false_eq_true, Bool.true_eq_false, not_false_eq_true, not_true_eq_false, reduceCtorEq, g2]; done) | (simp (disch := omega) only [wI_I, wI_s, nI_add, pk_mul, nI_ltI, nI_leI, nI_eq, nI_clamp, nm_or, nm_and, nm_xor, nm_nd, nm_one, nm_shr, nm_b2, Bool.false_eq_true, Bool.true_eq_false, not_false_eq_true, not_true_eq_false, reduceCtorEq, g2]; omega) | omega)) ?_ | refine wp_bf (by (first | (simp (disch := omega) only [wI_I, wI_s, nI_add, pk_mul, nI_ltI, nI_leI, nI_eq, nI_clamp, nm_or, nm_and, nm_xor, nm_nd, nm_one, nm_shr, nm_b2, Bool.false_eq_true, Bool.true_eq_false, not_false_eq_true, not_true_eq_false, reduceCtorEq, g2]; done) | (simp (disch := omega) only [wI_I, wI_s, nI_add, pk_mul, nI_ltI, nI_leI, nI_eq, nI_clamp, nm_or, nm_and, nm_xor, nm_nd, nm_one, nm_shr, nm_b2, Bool.false_eq_true, Bool.true_eq_false, not_false_eq_true, not_true_eq_false, reduceCtorEq, g2]; omega) | omega)) ?_)
          simp (disch := omega) only [wI_I, wI_s, nI_add, pk_mul, nI_ltI, nI_leI, nI_eq, nI_clamp, nm_or, nm_and, nm_xor, nm_nd, nm_one, nm_shr, nm_b2, Bool.false_eq_true, Bool.true_eq_false, not_false_eq_true, not_true_eq_false, reduceCtorEq, g3, g4]
          rw [gw_u (by omega)]
          have e : gw f1 (t + 1) n (fun k => if k = j then gos n G i j ||| jn 3 n (gos n G i) (gos n G i) j else if k < j then go1 n (gos n G i) k else gos n G i k) = gw f1 (t + 1) n (fun r => if r < j + 1 then go1 n (gos n G i) r else gos n G i r) := by
            apply gw_c; intro r _
            by_cases q : r = j
            · subst q; rw [if_pos rfl, if_pos (by omega)]; unfold go1; rw [if_pos (by omega)]; rfl
            · rw [if_neg q]
              by_cases q2 : r < j
              · rw [if_pos q2, if_pos (by omega)]
              · rw [if_neg q2, if_neg (by omega)]
          rw [e]
          exact ih2
      have := L n 0 (by omega)
      have e0 : gw f1 (t + 1) n (fun r => if r < 0 then go1 n (gos n G i) r else gos n G i r) = f1 := by
        rw [← gw_s F3, gw_gw]; apply gw_c; intro r _; rw [if_neg (by omega)]
      rw [e0] at this
      exact this
theorem sp_set0 {h : MH} {f : Nat → Nat → Int32} {t g n : Nat} {G : Nat → Nat} (T : SS h t) (S : GS h g) (d : t + 5 ≤ g ∨ g + 1 < t) (F : GF f g n G) (V : GW n G) :
    wp (ev M_Steps_settle 0 0 [some (.ref t), some (.ref g), none, none, none] [] (wI h f)) (fun v h' => ∃ f', v = some (.int (nI (ngo n G 16))) ∧ h' = wI h f' ∧ GF f' (t + 1) n (gos n G (ngo n G 16)) ∧ Fr (t + 1) (t + 5) f f') := by
  obtain ⟨t1, t2, t3, t4, t5⟩ := id T
  have t6 := t4.1
  rw [r_Steps_settle_0]
  repeat (first | refine wp_isC (by assumption) ?_ | refine wp_nnR (by assumption) ?_ | refine wp_inA (by assumption) rfl (by omega) (by omega) ?_ | refine wp_isZ (by decide) ?_ | refine wp_bt (by (first | (simp (disch := omega) only [wI_I, wI_s, nI_add, pk_mul, nI_ltI, nI_leI, nI_eq, nI_clamp, nm_or, nm_and, nm_xor, nm_nd, nm_one, nm_shr, nm_b2, Bool.false_eq_true, Bool.true_eq_false, not_false_eq_true, not_true_eq_false, reduceCtorEq]; done) | (simp (disch := omega) only [wI_I, wI_s, nI_add, pk_mul, nI_ltI, nI_leI, nI_eq, nI_clamp, nm_or, nm_and, nm_xor, nm_nd, nm_one, nm_shr, nm_b2, Bool.false_eq_true, Bool.true_eq_false, not_false_eq_true, not_true_eq_false, reduceCtorEq]; omega) | omega)) ?_ | refine wp_bf (by (first | (simp (disch := omega) only [wI_I, wI_s, nI_add, pk_mul, nI_ltI, nI_leI, nI_eq, nI_clamp, nm_or, nm_and, nm_xor, nm_nd, nm_one, nm_shr, nm_b2, Bool.false_eq_true, Bool.true_eq_false, not_false_eq_true, not_true_eq_false, reduceCtorEq]; done) | (simp (disch := omega) only [wI_I, wI_s, nI_add, pk_mul, nI_ltI, nI_leI, nI_eq, nI_clamp, nm_or, nm_and, nm_xor, nm_nd, nm_one, nm_shr, nm_b2, Bool.false_eq_true, Bool.true_eq_false, not_false_eq_true, not_true_eq_false, reduceCtorEq]; omega) | omega)) ?_)
  refine wp_rVe (gq_copy t4 S (by omega) F) ?_
  refine wp_w (sp_settle T V 16 0 _ (by omega) gw_f rfl) ?_
  rintro v h' ⟨f', r1, r2, r3, r4⟩
  exact ⟨f', r1, r2, r3, (Fr.gw (by omega) (by omega)).tr r4⟩
theorem sp_goes {h : MH} {f : Nat → Nat → Int32} {t g n : Nat} {G : Nat → Nat} (T : SS h t) (S : GS h g) (d : t + 5 ≤ g ∨ g + 1 < t) (F : GF f g n G) (V : GW n G) :
    wp (ev M_Steps_countGoes 0 0 [some (.ref t), some (.ref g)] [] (wI h f)) (fun v h' => ∃ f', v = some (.int (nI (ngo n G 16))) ∧ h' = wI h f' ∧ Fr (t + 1) (t + 5) f f') := by
  have t1 := T.1
  rw [r_Steps_countGoes_0]
  repeat (first | refine wp_isC (by assumption) ?_ | refine wp_nnR (by assumption) ?_ | refine wp_inA (by assumption) rfl (by omega) (by omega) ?_ | refine wp_isZ (by decide) ?_ | refine wp_bt (by (first | (simp (disch := omega) only [wI_I, wI_s, nI_add, pk_mul, nI_ltI, nI_leI, nI_eq, nI_clamp, nm_or, nm_and, nm_xor, nm_nd, nm_one, nm_shr, nm_b2, Bool.false_eq_true, Bool.true_eq_false, not_false_eq_true, not_true_eq_false, reduceCtorEq]; done) | (simp (disch := omega) only [wI_I, wI_s, nI_add, pk_mul, nI_ltI, nI_leI, nI_eq, nI_clamp, nm_or, nm_and, nm_xor, nm_nd, nm_one, nm_shr, nm_b2, Bool.false_eq_true, Bool.true_eq_false, not_false_eq_true, not_true_eq_false, reduceCtorEq]; omega) | omega)) ?_ | refine wp_bf (by (first | (simp (disch := omega) only [wI_I, wI_s, nI_add, pk_mul, nI_ltI, nI_leI, nI_eq, nI_clamp, nm_or, nm_and, nm_xor, nm_nd, nm_one, nm_shr, nm_b2, Bool.false_eq_true, Bool.true_eq_false, not_false_eq_true, not_true_eq_false, reduceCtorEq]; done) | (simp (disch := omega) only [wI_I, wI_s, nI_add, pk_mul, nI_ltI, nI_leI, nI_eq, nI_clamp, nm_or, nm_and, nm_xor, nm_nd, nm_one, nm_shr, nm_b2, Bool.false_eq_true, Bool.true_eq_false, not_false_eq_true, not_true_eq_false, reduceCtorEq]; omega) | omega)) ?_)
  refine wp_rI (sp_set0 T S d F V) ?_
  rintro v h' ⟨f', r1, r2, r3, r4⟩
  exact ⟨_, r1, wp_s ⟨f', rfl, r2, r4⟩⟩
theorem sp_clos {h : MH} {f : Nat → Nat → Int32} {t g n : Nat} {G : Nat → Nat} (T : SS h t) (S : GS h g) (d : t + 5 ≤ g ∨ g + 1 < t) (F : GF f g n G) (V : GW n G) :
    wp (ev M_Steps_countClosure 0 0 [some (.ref t), some (.ref g)] [] (wI h f)) (fun v h' => ∃ f', v = some (.int (nI (sm (fun r => bc (gos n G (ngo n G 16) r)) n))) ∧ h' = wI h f' ∧ Fr (t + 1) (t + 5) f f') := by
  obtain ⟨t1, t2, t3, t4, t5⟩ := id T
  have t6 := t4.1
  rw [r_Steps_countClosure_0]
  repeat (first | refine wp_isC (by assumption) ?_ | refine wp_nnR (by assumption) ?_ | refine wp_inA (by assumption) rfl (by omega) (by omega) ?_ | refine wp_isZ (by decide) ?_ | refine wp_bt (by (first | (simp (disch := omega) only [wI_I, wI_s, nI_add, pk_mul, nI_ltI, nI_leI, nI_eq, nI_clamp, nm_or, nm_and, nm_xor, nm_nd, nm_one, nm_shr, nm_b2, Bool.false_eq_true, Bool.true_eq_false, not_false_eq_true, not_true_eq_false, reduceCtorEq]; done) | (simp (disch := omega) only [wI_I, wI_s, nI_add, pk_mul, nI_ltI, nI_leI, nI_eq, nI_clamp, nm_or, nm_and, nm_xor, nm_nd, nm_one, nm_shr, nm_b2, Bool.false_eq_true, Bool.true_eq_false, not_false_eq_true, not_true_eq_false, reduceCtorEq]; omega) | omega)) ?_ | refine wp_bf (by (first | (simp (disch := omega) only [wI_I, wI_s, nI_add, pk_mul, nI_ltI, nI_leI, nI_eq, nI_clamp, nm_or, nm_and, nm_xor, nm_nd, nm_one, nm_shr, nm_b2, Bool.false_eq_true, Bool.true_eq_false, not_false_eq_true, not_true_eq_false, reduceCtorEq]; done) | (simp (disch := omega) only [wI_I, wI_s, nI_add, pk_mul, nI_ltI, nI_leI, nI_eq, nI_clamp, nm_or, nm_and, nm_xor, nm_nd, nm_one, nm_shr, nm_b2, Bool.false_eq_true, Bool.true_eq_false, not_false_eq_true, not_true_eq_false, reduceCtorEq]; omega) | omega)) ?_)
  refine wp_rI (sp_set0 T S d F V) ?_
  rintro v h' ⟨f', r1, r2, r3, r4⟩
  subst r2
  refine ⟨_, r1, ?_⟩
  repeat (first | refine wp_isC (by assumption) ?_ | refine wp_nnR (by assumption) ?_ | refine wp_inA (by assumption) rfl (by omega) (by omega) ?_ | refine wp_isZ (by decide) ?_ | refine wp_bt (by (first | (simp (disch := omega) only [wI_I, wI_s, nI_add, pk_mul, nI_ltI, nI_leI, nI_eq, nI_clamp, nm_or, nm_and, nm_xor, nm_nd, nm_one, nm_shr, nm_b2, Bool.false_eq_true, Bool.true_eq_false, not_false_eq_true, not_true_eq_false, reduceCtorEq]; done) | (simp (disch := omega) only [wI_I, wI_s, nI_add, pk_mul, nI_ltI, nI_leI, nI_eq, nI_clamp, nm_or, nm_and, nm_xor, nm_nd, nm_one, nm_shr, nm_b2, Bool.false_eq_true, Bool.true_eq_false, not_false_eq_true, not_true_eq_false, reduceCtorEq]; omega) | omega)) ?_ | refine wp_bf (by (first | (simp (disch := omega) only [wI_I, wI_s, nI_add, pk_mul, nI_ltI, nI_leI, nI_eq, nI_clamp, nm_or, nm_and, nm_xor, nm_nd, nm_one, nm_shr, nm_b2, Bool.false_eq_true, Bool.true_eq_false, not_false_eq_true, not_true_eq_false, reduceCtorEq]; done) | (simp (disch := omega) only [wI_I, wI_s, nI_add, pk_mul, nI_ltI, nI_leI, nI_eq, nI_clamp, nm_or, nm_and, nm_xor, nm_nd, nm_one, nm_shr, nm_b2, Bool.false_eq_true, Bool.true_eq_false, not_false_eq_true, not_true_eq_false, reduceCtorEq]; omega) | omega)) ?_)
  refine wp_rIe (gq_count t4 r3 (V.gos _)) ?_
  exact wp_s ⟨f', rfl, rfl, r4⟩
/-- met so far, when the sets of the first k are known -/
def met (n : Nat) (Y : Nat → Nat) : Nat → Nat
  | 0 => 0
  | k + 1 => if (met n Y k).testBit k then met n Y k else met n Y k ||| rch n Y (2 ^ k) n
theorem met_lt {n : Nat} {Y : Nat → Nat} (V : GW n Y) : ∀ k, k ≤ n → met n Y k < 2 ^ n
  | 0, _ => Nat.two_pow_pos n
  | k + 1, h => by
    unfold met; split
    · exact met_lt V k (by omega)
    · exact Nat.or_lt_two_pow (met_lt V k (by omega)) (rch_lt V.2.1 (Nat.pow_lt_pow_right (by decide) (by omega)) n)
/-- both ways at once -/
def sy (n : Nat) (G : Nat → Nat) : Nat → Nat := fun r => if r < n then jn 4 n G G r else 0
theorem GW.sy {n : Nat} {G : Nat → Nat} (V : GW n G) : GW n (sy n G) := by
  refine ⟨V.1, fun r => ?_, fun r hr => ?_⟩
  · show (if r < n then jn 4 n G G r else 0) < 2 ^ n; split
    · exact Nat.or_lt_two_pow (V.2.1 r) cs_lt
    · exact Nat.two_pow_pos n
  · show (if r < n then jn 4 n G G r else 0) = 0; rw [if_neg (by omega)]
theorem sp_sets {h : MH} {f : Nat → Nat → Int32} {t g n : Nat} {G : Nat → Nat} (T : SS h t) (S : GS h g) (d : t + 5 ≤ g ∨ g + 1 < t) (F : GF f g n G) (V : GW n G) :
    ev M_Steps_countSets 0 0 [some (.ref t), some (.ref g), none, none, none] [] (wI h f) = some (some (.int (nI (sm (fun k => if (met n (sy n G) k).testBit k then 0 else 1) n))), wI h (gw f (t + 1) n (sy n G))) := by
  have v1 := V.1
  obtain ⟨t1, t2, t3, t4, t5⟩ := id T
  obtain ⟨a1, a2, a3, a4⟩ := id t4
  have VY : GW n (sy n G) := V.sy
  have FY := gw_f (f := f) (g := t + 1) (n := n) (G := sy n G)
  generalize hf1 : gw f (t + 1) n (sy n G) = f1 at FY
  have g1 := FY.1
  have L : ∀ k i, i + k = n → ev M_Steps_countSets 0 13 [some (.ref t), none, some (.int (nI (met n (sy n G) i))), some (.int (nI (sm (fun k => if (met n (sy n G) k).testBit k then 0 else 1) i))), some (.int (nI i))] [] (wI h f1) = some (some (.int (nI (sm (fun k => if (met n (sy n G) k).testBit k then 0 else 1) n))), wI h f1) := by
    intro k
    induction k with
    | zero =>
      intro i hi
      rw [r_Steps_countSets_13]
      apply wp_e
      repeat (first | refine wp_isC (by assumption) ?_ | refine wp_nnR (by assumption) ?_ | refine wp_inA (by assumption) rfl (by omega) (by omega) ?_ | refine wp_isZ (by decide) ?_ | refine wp_bt (by (first | (simp (disch := omega) only [wI_I, wI_s, nI_add, pk_mul, nI_ltI, nI_leI, nI_eq, nI_clamp, nm_or, nm_and, nm_xor, nm_nd, nm_one, nm_shr, nm_b2, Bool.false_eq_true, Bool.true_eq_false, not_false_eq_true, not_true_eq_false, reduceCtorEq, g1]; done) | (simp (disch := omega) only [wI_I, wI_s, nI_add, pk_mul, nI_ltI, nI_leI, nI_eq, nI_clamp, nm_or, nm_and, nm_xor, nm_nd, nm_one, nm_shr, nm_b2, Bool.false_eq_true, Bool.true_eq_false, not_false_eq_true, not_true_eq_false, reduceCtorEq, g1]; omega) | omega)) ?_ | refine wp_bf (by (first | (simp (disch := omega) only [wI_I, wI_s, nI_add, pk_mul, nI_ltI, nI_leI, nI_eq, nI_clamp, nm_or, nm_and, nm_xor, nm_nd, nm_one, nm_shr, nm_b2, Bool.false_eq_true, Bool.true_eq_false, not_false_eq_true, not_true_eq_false, reduceCtorEq, g1]; done) | (simp (disch := omega) only [wI_I, wI_s, nI_add, pk_mul, nI_ltI, nI_leI, nI_eq, nI_clamp, nm_or, nm_and, nm_xor, nm_nd, nm_one, nm_shr, nm_b2, Bool.false_eq_true, Bool.true_eq_false, not_false_eq_true, not_true_eq_false, reduceCtorEq, g1]; omega) | omega)) ?_)
      refine wp_s ⟨?_, rfl⟩
      rw [show i = n by omega]
    | succ k ih =>
      intro i hi
      have ih := ih (i + 1) (by omega)
      rw [sm, met] at ih
      have hl := Nat.lt_of_lt_of_le (met_lt VY i (by omega)) (Nat.pow_le_pow_right (n := 2) (by decide) v1)
      rw [r_Steps_countSets_13]
      simp only [r_Steps_countSets_34]
      apply wp_e
      repeat (first | refine wp_isC (by assumption) ?_ | refine wp_nnR (by assumption) ?_ | refine wp_inA (by assumption) rfl (by omega) (by omega) ?_ | refine wp_isZ (by decide) ?_ | refine wp_bt (by (first | (simp (disch := omega) only [wI_I, wI_s, nI_add, pk_mul, nI_ltI, nI_leI, nI_eq, nI_clamp, nm_or, nm_and, nm_xor, nm_nd, nm_one, nm_shr, nm_b2, Bool.false_eq_true, Bool.true_eq_false, not_false_eq_true, not_true_eq_false, reduceCtorEq, g1]; done) | (simp (disch := omega) only [wI_I, wI_s, nI_add, pk_mul, nI_ltI, nI_leI, nI_eq, nI_clamp, nm_or, nm_and, nm_xor, nm_nd, nm_one, nm_shr, nm_b2, Bool.false_eq_true, Bool.true_eq_false, not_false_eq_true, not_true_eq_false, reduceCtorEq, g1]; omega) | omega)) ?_ | refine wp_bf (by (first | (simp (disch := omega) only [wI_I, wI_s, nI_add, pk_mul, nI_ltI, nI_leI, nI_eq, nI_clamp, nm_or, nm_and, nm_xor, nm_nd, nm_one, nm_shr, nm_b2, Bool.false_eq_true, Bool.true_eq_false, not_false_eq_true, not_true_eq_false, reduceCtorEq, g1]; done) | (simp (disch := omega) only [wI_I, wI_s, nI_add, pk_mul, nI_ltI, nI_leI, nI_eq, nI_clamp, nm_or, nm_and, nm_xor, nm_nd, nm_one, nm_shr, nm_b2, Bool.false_eq_true, Bool.true_eq_false, not_false_eq_true, not_true_eq_false, reduceCtorEq, g1]; omega) | omega)) ?_)
      have eb : ((nI (met n (sy n G) i) >>> (nI i &&& 31)) &&& nI 1) = nI 0 ↔ (met n (sy n G) i).testBit i = false := by
        rw [nm_shr (by omega) (by omega), nm_and, nI_eq (by have := Nat.and_le_right (n := met n (sy n G) i / 2 ^ i) (m := 1); omega) (by decide), Nat.and_one_is_mod, Nat.testBit_eq_decide_div_mod_eq]
        simp only [decide_eq_false_iff_not]; omega
      refine wp_bi eb (fun q => ?_) (fun q => ?_)
      · rw [if_neg (by rw [q]; decide), if_neg (by rw [q]; decide)] at ih
        repeat (first | refine wp_isC (by assumption) ?_ | refine wp_nnR (by assumption) ?_ | refine wp_inA (by assumption) rfl (by omega) (by omega) ?_ | refine wp_isZ (by decide) ?_ | refine wp_bt (by (first | (simp (disch := omega) only [wI_I, wI_s, nI_add, pk_mul, nI_ltI, nI_leI, nI_eq, nI_clamp, nm_or, nm_and, nm_xor, nm_nd, nm_one, nm_shr, nm_b2, Bool.false_eq_true, Bool.true_eq_false, not_false_eq_true, not_true_eq_false, reduceCtorEq]; done) | (simp (disch := omega) only [wI_I, wI_s, nI_add, pk_mul, nI_ltI, nI_leI, nI_eq, nI_clamp, nm_or, nm_and, nm_xor, nm_nd, nm_one, nm_shr, nm_b2, Bool.false_eq_true, Bool.true_eq_false, not_false_eq_true, not_true_eq_false, reduceCtorEq]; omega) | omega)) ?_ | refine wp_bf (by (first | (simp (disch := omega) only [wI_I, wI_s, nI_add, pk_mul, nI_ltI, nI_leI, nI_eq, nI_clamp, nm_or, nm_and, nm_xor, nm_nd, nm_one, nm_shr, nm_b2, Bool.false_eq_true, Bool.true_eq_false, not_false_eq_true, not_true_eq_false, reduceCtorEq]; done) | (simp (disch := omega) only [wI_I, wI_s, nI_add, pk_mul, nI_ltI, nI_leI, nI_eq, nI_clamp, nm_or, nm_and, nm_xor, nm_nd, nm_one, nm_shr, nm_b2, Bool.false_eq_true, Bool.true_eq_false, not_false_eq_true, not_true_eq_false, reduceCtorEq]; omega) | omega)) ?_)
        refine wp_rIe (sp_all (t := t) t4 FY VY (by omega)) ?_
        simp (disch := omega) only [wI_I, wI_s, nI_add, pk_mul, nI_ltI, nI_leI, nI_eq, nI_clamp, nm_or, nm_and, nm_xor, nm_nd, nm_one, nm_shr, nm_b2, Bool.false_eq_true, Bool.true_eq_false, not_false_eq_true, not_true_eq_false, reduceCtorEq]
        exact wp_of ih ⟨rfl, rfl⟩
      · have q := (Bool.not_eq_false _).mp q
        rw [if_pos q, if_pos q] at ih
        simp (disch := omega) only [wI_I, wI_s, nI_add, pk_mul, nI_ltI, nI_leI, nI_eq, nI_clamp, nm_or, nm_and, nm_xor, nm_nd, nm_one, nm_shr, nm_b2, Bool.false_eq_true, Bool.true_eq_false, not_false_eq_true, not_true_eq_false, reduceCtorEq]
        exact wp_of ih ⟨rfl, rfl⟩
  rw [r_Steps_countSets_0]
  apply wp_e
  repeat (first | refine wp_isC (by assumption) ?_ | refine wp_nnR (by assumption) ?_ | refine wp_inA (by assumption) rfl (by omega) (by omega) ?_ | refine wp_isZ (by decide) ?_ | refine wp_bt (by (first | (simp (disch := omega) only [wI_I, wI_s, nI_add, pk_mul, nI_ltI, nI_leI, nI_eq, nI_clamp, nm_or, nm_and, nm_xor, nm_nd, nm_one, nm_shr, nm_b2, Bool.false_eq_true, Bool.true_eq_false, not_false_eq_true, not_true_eq_false, reduceCtorEq]; done) | (simp (disch := omega) only [wI_I, wI_s, nI_add, pk_mul, nI_ltI, nI_leI, nI_eq, nI_clamp, nm_or, nm_and, nm_xor, nm_nd, nm_one, nm_shr, nm_b2, Bool.false_eq_true, Bool.true_eq_false, not_false_eq_true, not_true_eq_false, reduceCtorEq]; omega) | omega)) ?_ | refine wp_bf (by (first | (simp (disch := omega) only [wI_I, wI_s, nI_add, pk_mul, nI_ltI, nI_leI, nI_eq, nI_clamp, nm_or, nm_and, nm_xor, nm_nd, nm_one, nm_shr, nm_b2, Bool.false_eq_true, Bool.true_eq_false, not_false_eq_true, not_true_eq_false, reduceCtorEq]; done) | (simp (disch := omega) only [wI_I, wI_s, nI_add, pk_mul, nI_ltI, nI_leI, nI_eq, nI_clamp, nm_or, nm_and, nm_xor, nm_nd, nm_one, nm_shr, nm_b2, Bool.false_eq_true, Bool.true_eq_false, not_false_eq_true, not_true_eq_false, reduceCtorEq]; omega) | omega)) ?_)
  refine wp_rVe (gq_join t4 S S (by omega) (by omega) F F V V (by decide)) ?_
  show wp (ev M_Steps_countSets 0 13 _ _ (wI h (gw f (t + 1) n (sy n G)))) _
  rw [hf1]
  exact wp_of (L n 0 (by omega)) ⟨rfl, rfl⟩
