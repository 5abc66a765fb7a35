/-! One pair turned: how many lie in a block then; which ones fit. -/
/-- whether a pair lies in a block -/
def inb (v l b r c : Nat) : Bool := decide (r / 2 ^ (v - l) = b / 2 ^ l) && decide (c / 2 ^ (v - l) = b % 2 ^ l)
theorem div_i {s x y : Nat} (hs : 0 < s) : x / s = y ↔ y * s ≤ x ∧ x < y * s + s := by
  constructor
  · intro h
    subst h
    refine ⟨Nat.div_mul_le_self x s, ?_⟩
    have := Nat.lt_div_mul_add (a := x) hs
    exact this
  · rintro ⟨h1, h2⟩
    obtain ⟨d, rfl⟩ := Nat.exists_eq_add_of_le h1
    rw [Nat.mul_comm, Nat.mul_add_div hs, Nat.div_eq_of_lt (by omega), Nat.add_zero]
theorem cmk_t {v l b c : Nat} : (cmk v l b).testBit c = decide (c / 2 ^ (v - l) = b % 2 ^ l) := by
  have hs := Nat.two_pow_pos (v - l)
  have e : cmk v l b = 2 ^ (b % 2 ^ l * 2 ^ (v - l) + 2 ^ (v - l)) - 2 ^ (b % 2 ^ l * 2 ^ (v - l)) := by
    unfold cmk
    rw [Nat.sub_mul, Nat.one_mul, ← Nat.pow_add, Nat.add_comm]
  rw [e, mk_t]
  by_cases z : c / 2 ^ (v - l) = b % 2 ^ l
  · rw [decide_eq_true z]
    obtain ⟨h1, h2⟩ := (div_i hs).mp z
    rw [decide_eq_true h1, decide_eq_true h2]; rfl
  · rw [decide_eq_false z]
    by_cases h1 : b % 2 ^ l * 2 ^ (v - l) ≤ c
    · have h2 : ¬ c < b % 2 ^ l * 2 ^ (v - l) + 2 ^ (v - l) := fun h2 => z ((div_i hs).mpr ⟨h1, h2⟩)
      rw [decide_eq_false h2, Bool.and_false]
    · rw [decide_eq_false h1, Bool.false_and]
theorem ibk_t {v l b r c : Nat} : (ibk v l b r).testBit c = inb v l b r c := by
  unfold ibk inb
  by_cases z : r / 2 ^ (v - l) = b / 2 ^ l
  · rw [if_pos z, decide_eq_true z, Bool.true_and, cmk_t]
  · rw [if_neg z, decide_eq_false z, Bool.false_and, Nat.zero_testBit]
/-- how many lie in a block, the j-th turned (0: none) -/
def tn (v : Nat) (G : Rw) (l b j : Nat) : Nat := if j = 0 then cb v l G b else if inb v l b ((j - 1) / 2 ^ v) ((j - 1) % 2 ^ v) = true then (if (G ((j - 1) / 2 ^ v)).testBit ((j - 1) % 2 ^ v) = true then cb v l G b - 1 else cb v l G b + 1) else cb v l G b
theorem cb_ge {v l b r c : Nat} {G : Rw} (V : GW (2 ^ v) G) (hi : inb v l b r c = true) (hb : (G r).testBit c = true) : 1 ≤ cb v l G b := by
  unfold inb at hi
  rw [Bool.and_eq_true] at hi
  have h1 := of_decide_eq_true hi.1
  have h2 := of_decide_eq_true hi.2
  have : 0 < ib G (b / 2 ^ l * 2 ^ (v - l)) (b % 2 ^ l * 2 ^ (v - l)) (2 ^ (v - l)) := (ib_fl V).mpr ((fl_t V).mpr ⟨r, c, h1, h2, hb⟩)
  exact this
/-- whether the j-th fits with what is seen at a time -/
def fbj (v : Nat) (G : Rw) (k : Int32) (se : List Sn) (j : Nat) : Bool := se.all (fun e => !cn k e || fz (nI (tn v G e.1 e.2.1 j)) e)
theorem du_t {v : Nat} {G F : Rw} {e : Sn} (V : GW (2 ^ v) G) {r c : Nat} (hr : r < 2 ^ v) (hc : c < 2 ^ v) : (du v G e F r).testBit c = ((F r).testBit c && fz (nI (tn v G e.1 e.2.1 (2 ^ v * r + c + 1))) e) := by
  have ed : (2 ^ v * r + c) / 2 ^ v = r := by rw [Nat.mul_add_div (Nat.two_pow_pos v), Nat.div_eq_of_lt hc, Nat.add_zero]
  have em : (2 ^ v * r + c) % 2 ^ v = c := by rw [Nat.mul_add_mod, Nat.mod_eq_of_lt hc]
  have et : tn v G e.1 e.2.1 (2 ^ v * r + c + 1) = if inb v e.1 e.2.1 r c = true then (if (G r).testBit c = true then cb v e.1 G e.2.1 - 1 else cb v e.1 G e.2.1 + 1) else cb v e.1 G e.2.1 := by
    unfold tn
    rw [if_neg (by omega), Nat.add_sub_cancel, ed, em]
  rw [et]
  show (dur v _ _ _ e G F r).testBit c = _
  unfold dur
  rw [Nat.testBit_or, Nat.testBit_or]
  have p1 : ∀ (a : Bool), (if a = true then nd (F r) (ibk v e.1 e.2.1 r) else 0).testBit c = (a && ((F r).testBit c && !inb v e.1 e.2.1 r c)) := fun a => by
    cases a
    · exact Nat.zero_testBit _
    · show (nd _ _).testBit c = _; rw [nd_t, ibk_t]; rfl
  have p2 : ∀ (a : Bool), (if a = true then F r &&& (ibk v e.1 e.2.1 r &&& G r) else 0).testBit c = (a && ((F r).testBit c && (inb v e.1 e.2.1 r c && (G r).testBit c))) := fun a => by
    cases a
    · exact Nat.zero_testBit _
    · show Nat.testBit (_ &&& _) c = _; rw [Nat.testBit_and, Nat.testBit_and, ibk_t]; rfl
  have p3 : ∀ (a : Bool), (if a = true then F r &&& nd (ibk v e.1 e.2.1 r) (G r) else 0).testBit c = (a && ((F r).testBit c && (inb v e.1 e.2.1 r c && !(G r).testBit c))) := fun a => by
    cases a
    · exact Nat.zero_testBit _
    · show Nat.testBit (_ &&& _) c = _; rw [Nat.testBit_and, nd_t, ibk_t]; rfl
  rw [p1, p2, p3]
  cases zi : inb v e.1 e.2.1 r c with
  | false =>
    rw [if_neg (by decide)]
    generalize fz (nI (cb v e.1 G e.2.1)) e = x
    cases x <;> cases (F r).testBit c <;> simp
  | true =>
    rw [if_pos rfl]
    cases zb : (G r).testBit c with
    | true =>
      have := cb_ge V zi zb
      rw [if_pos rfl, nm_m1 (by omega)]
      generalize fz (nI (cb v e.1 G e.2.1 - 1)) e = x
      cases x <;> cases (F r).testBit c <;> simp
    | false =>
      rw [if_neg (by decide)]
      generalize fz (nI (cb v e.1 G e.2.1 + 1)) e = x
      cases x <;> cases (F r).testBit c <;> simp
theorem gt_t {v : Nat} {G : Rw} {k : Int32} (V : GW (2 ^ v) G) {r c : Nat} (hr : r < 2 ^ v) (hc : c < 2 ^ v) : ∀ (se : List Sn) (p : Bool × Rw), ((gt v G k se p).2 r).testBit c = ((p.2 r).testBit c && fbj v G k se (2 ^ v * r + c + 1))
  | [], p => by show _ = (_ && true); rw [Bool.and_true]; rfl
  | e :: se, p => by
    rw [gt, gt_t V hr hc se]
    show _ = ((p.2 r).testBit c && ((!cn k e || fz (nI (tn v G e.1 e.2.1 (2 ^ v * r + c + 1))) e) && fbj v G k se (2 ^ v * r + c + 1)))
    cases cn k e with
    | true =>
      show ((du v G e p.2 r).testBit c && _) = _
      rw [du_t V hr hc, Bool.not_true, Bool.false_or, Bool.and_assoc]
    | false =>
      rw [Bool.not_false, Bool.true_or, Bool.true_and]
      rfl
theorem gt_0 {v : Nat} {G : Rw} {k : Int32} : ∀ (se : List Sn) (p : Bool × Rw), (gt v G k se p).1 = (p.1 && fbj v G k se 0)
  | [], p => by show _ = (_ && true); rw [Bool.and_true]; rfl
  | e :: se, p => by
    rw [gt, gt_0 se]
    show _ = (p.1 && ((!cn k e || fz (nI (cb v e.1 G e.2.1)) e) && fbj v G k se 0))
    cases cn k e with
    | true =>
      show (p.1 && fz (nI (cb v e.1 G e.2.1)) e && _) = _
      rw [Bool.not_true, Bool.false_or, Bool.and_assoc]
    | false =>
      rw [Bool.not_false, Bool.true_or, Bool.true_and]
      rfl
theorem ft_t {v : Nat} {G : Rw} {k : Int32} {se : List Sn} (V : GW (2 ^ v) G) {r c : Nat} (hr : r < 2 ^ v) (hc : c < 2 ^ v) : ((ft v G k se).2 r).testBit c = fbj v G k se (2 ^ v * r + c + 1) := by
  unfold ft
  rw [gt_t V hr hc]
  show ((if r < 2 ^ v then 2 ^ 2 ^ v - 1 else 0).testBit c && _) = _
  rw [if_pos hr, Nat.testBit_two_pow_sub_one, decide_eq_true hc, Bool.true_and]
theorem ft_0 {v : Nat} {G : Rw} {k : Int32} {se : List Sn} : (ft v G k se).1 = fbj v G k se 0 := by
  unfold ft
  rw [gt_0]
  rfl
/-! sums over all pairs -/
theorem sm_nn {n : Nat} (hn : 0 < n) (H : Nat → Nat → Nat) : ∀ r, sm (fun t => H (t / n) (t % n)) (n * r) = sm (fun r => sm (fun c => H r c) n) r
  | 0 => rfl
  | r + 1 => by
    rw [Nat.mul_add, Nat.mul_one, sm_a, sm_nn hn H r, sm]
    congr 1
    apply sm_c
    intro c hc
    rw [Nat.mul_add_div hn, Nat.div_eq_of_lt hc, Nat.add_zero, Nat.mul_add_mod, Nat.mod_eq_of_lt hc]
theorem sm_1 (F : Nat → Nat) (n : Nat) : sm F (n + 1) = F 0 + sm (fun t => F (t + 1)) n := by
  rw [Nat.add_comm n 1, sm_a]
  show 0 + F 0 + _ = _
  rw [Nat.zero_add]
  congr 1
  apply sm_c
  intro k _
  rw [Nat.add_comm 1 k]
theorem cb_2 {v l b : Nat} {X : Rw} (hv : v ≤ 4) (V : GW (2 ^ v) X) (hl : l ≤ v) (hb : b < 2 ^ (2 * l)) : cb v l X b = s2 (fun r c => ((X r).testBit c && inb v l b r c).toNat) (2 ^ v) := by
  have hs := Nat.two_pow_pos (v - l)
  have h16 := lv_p hv
  have e1 : ∀ r, sm (fun c => ((X r).testBit c && inb v l b r c).toNat) (2 ^ v) = if r / 2 ^ (v - l) = b / 2 ^ l then bc (X r &&& (2 ^ (b % 2 ^ l * 2 ^ (v - l) + 2 ^ (v - l)) - 2 ^ (b % 2 ^ l * 2 ^ (v - l)))) else 0 := by
    intro r
    by_cases z : r / 2 ^ (v - l) = b / 2 ^ l
    · rw [if_pos z, bc_n h16 (Nat.lt_of_le_of_lt Nat.and_le_left (V.2.1 r))]
      apply sm_c
      intro c _
      show _ = ((X r &&& _).testBit c).toNat
      rw [Nat.testBit_and]
      unfold inb
      rw [decide_eq_true z, Bool.true_and, ← cmk_t]
      unfold cmk
      rw [Nat.sub_mul, Nat.one_mul, ← Nat.pow_add, Nat.add_comm (2 ^ (v - l)) (b % 2 ^ l * 2 ^ (v - l))]
    · rw [if_neg z]
      apply sm_0
      intro c _
      unfold inb
      rw [decide_eq_false z, Bool.false_and, Bool.and_false]
      rfl
  unfold s2
  rw [sm_c (G := fun r => if r / 2 ^ (v - l) = b / 2 ^ l then bc (X r &&& (2 ^ (b % 2 ^ l * 2 ^ (v - l) + 2 ^ (v - l)) - 2 ^ (b % 2 ^ l * 2 ^ (v - l)))) else 0) (fun r _ => e1 r)]
  have bk := (bk_in hl hb).1
  generalize hR : b / 2 ^ l = R at *
  have e2 : 2 ^ v = R * 2 ^ (v - l) + (2 ^ (v - l) + (2 ^ v - (R * 2 ^ (v - l) + 2 ^ (v - l)))) := by omega
  rw [e2, sm_a, sm_a, sm_0 (n := R * 2 ^ (v - l)), Nat.zero_add, sm_0 (n := 2 ^ v - (R * 2 ^ (v - l) + 2 ^ (v - l))), Nat.add_zero]
  · unfold cb ib ci
    rw [hR]
    apply sm_c
    intro j hj
    rw [if_pos]
    rw [div_i hs]; omega
  · intro k hk
    rw [if_neg]
    rw [div_i hs]; omega
  · intro k hk
    rw [if_neg]
    rw [div_i hs]; omega
