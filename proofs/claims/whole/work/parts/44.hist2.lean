/-! Acts taken back, acts kept. -/
theorem hs_back {h : MH} {f : Nat → Nat → Int32} {z q p n kept done old : Nat} {rl : Nat → Option Nat} {tn : Nat → Rw} {sb sa : Nat → Nat} {A : Nat → Rw} (Z : HS h z) (R : RS h q p) (d : z + 45 ≤ q ∨ q + 47 ≤ z) (F : HF f z kept (done + 1) old rl tn sb sa) (hrl : ∀ k, rl done = some k → k < 5 ∧ GF f (q + 5 + 2 * k) n (A k)) :
    ∃ f', ev M_History_goBack 0 0 [some (.ref z), some (.ref q), none] [] (wI h f) = some (some (.int (nI 1)), wI h f') ∧ HF f' z kept done old rl tn sb sa ∧ f' q 1 = nI (sb done) ∧ (∀ j, j ≠ 1 → f' q j = f q j) ∧ (∀ k, rl done = some k → f' = gw (up2 (up2 f z 1 (nI done)) q 1 (nI (sb done))) (q + 5 + 2 * k) n (fun r => A k r ^^^ tn done r)) ∧ (rl done = none → f' = up2 (up2 f z 1 (nI done)) q 1 (nI (sb done))) := by
  obtain ⟨z1, z2, z3, z4, z5, z6, z7, z8, z9, z10, z11, z12, z13, z14⟩ := Z
  obtain ⟨a1, a2, a3, a4, a5, a6, a7⟩ := F
  obtain ⟨b1, b2, b3, b4⟩ := a7 done (by omega)
  have hm : (old + done) % 40 < 40 := Nat.mod_lt _ (by decide)
  obtain ⟨y1, y2, y3⟩ := z8 _ hm
  have r1 := R.1
  have hH : ∀ f', (∀ a, z ≤ a → a < z + 45 → f' a = up2 f z 1 (nI done) a) → HF f' z kept done old rl tn sb sa := by
    intro f' hf
    refine ⟨?_, ?_, ?_, a4, by omega, a6, fun k hk => ?_⟩
    · rw [hf z (by omega) (by omega), up2_k (by decide)]; exact a1
    · rw [hf z (by omega) (by omega), up2_s]
    · rw [hf z (by omega) (by omega), up2_k (by decide)]; exact a3
    · obtain ⟨c1, c2, c3, c4⟩ := a7 k hk
      have : (old + k) % 40 < 40 := Nat.mod_lt _ (by decide)
      rw [hf _ (by omega) (by omega), hf _ (by omega) (by omega), hf _ (by omega) (by omega), hf _ (by omega) (by omega), up2_a (by omega), up2_a (by omega), up2_a (by omega), up2_a (by omega)]
      exact ⟨c1, c2, c3, c4⟩
  have a3' : up2 f z 1 (nI done) z 2 = nI old := by rw [up2_k (by decide)]; exact a3
  have e1' : up2 f z 1 (nI done) z 1 = nI done := up2_s
  have b1' : up2 f z 1 (nI done) (z + 1) ((old + done) % 40) = oI (rl done) := by rw [up2_a (by omega)]; exact b1
  have b2' : up2 f z 1 (nI done) (z + 43) ((old + done) % 40) = nI (sb done) := by rw [up2_a (by omega)]; exact b2
  have step : ∀ f', ev M_Relations_turnAll 0 0 [some (.ref q), some (.int (oI (rl done))), some (.ref (z + 3 + (old + done) % 40)), some (.int (nI (sb done))), none] [] (wI h (up2 f z 1 (nI done))) = some (none, wI h f') → ev M_History_goBack 0 0 [some (.ref z), some (.ref q), none] [] (wI h f) = some (some (.int (nI 1)), wI h f') := by
    intro f' e1
    rw [r_History_goBack_0]
    apply wp_e
    refine wp_isC z1 (wp_bt (by (first | (simp (disch := omega) only [wI_I, wI_s, nI_add, pk_mul, nI_ltI, nI_leI, nI_eq, nI_clamp, nm_or, nm_and, nm_xor, nm_nd, nm_one, nm_shr, nm_b2, Bool.false_eq_true, Bool.true_eq_false, not_false_eq_true, not_true_eq_false, reduceCtorEq, a2]; done) | (simp (disch := omega) only [wI_I, wI_s, nI_add, pk_mul, nI_ltI, nI_leI, nI_eq, nI_clamp, nm_or, nm_and, nm_xor, nm_nd, nm_one, nm_shr, nm_b2, Bool.false_eq_true, Bool.true_eq_false, not_false_eq_true, not_true_eq_false, reduceCtorEq, a2]; omega) | omega)) ?_)
    rw [wI_I, a2, pk_sub (by omega), Nat.add_sub_cancel, wI_s]
    repeat (first | refine wp_isC (by assumption) ?_ | refine wp_nnR (by assumption) ?_ | refine wp_inA (by assumption) rfl (by omega) (by omega) ?_ | refine wp_isZ (by decide) ?_ | refine wp_bt (by (first | (simp (disch := omega) only [wI_I, wI_s, nI_add, pk_mul, nI_ltI, nI_leI, nI_eq, nI_clamp, nm_or, nm_and, nm_xor, nm_nd, nm_one, nm_shr, nm_b2, Bool.false_eq_true, Bool.true_eq_false, not_false_eq_true, not_true_eq_false, reduceCtorEq]; done) | (simp (disch := omega) only [wI_I, wI_s, nI_add, pk_mul, nI_ltI, nI_leI, nI_eq, nI_clamp, nm_or, nm_and, nm_xor, nm_nd, nm_one, nm_shr, nm_b2, Bool.false_eq_true, Bool.true_eq_false, not_false_eq_true, not_true_eq_false, reduceCtorEq]; omega) | omega)) ?_ | refine wp_bf (by (first | (simp (disch := omega) only [wI_I, wI_s, nI_add, pk_mul, nI_ltI, nI_leI, nI_eq, nI_clamp, nm_or, nm_and, nm_xor, nm_nd, nm_one, nm_shr, nm_b2, Bool.false_eq_true, Bool.true_eq_false, not_false_eq_true, not_true_eq_false, reduceCtorEq]; done) | (simp (disch := omega) only [wI_I, wI_s, nI_add, pk_mul, nI_ltI, nI_leI, nI_eq, nI_clamp, nm_or, nm_and, nm_xor, nm_nd, nm_one, nm_shr, nm_b2, Bool.false_eq_true, Bool.true_eq_false, not_false_eq_true, not_true_eq_false, reduceCtorEq]; omega) | omega)) ?_)
    simp (disch := omega) only [wI_I, wI_s, nI_add, pk_mul, nI_ltI, nI_leI, nI_eq, nI_clamp, nm_or, nm_and, nm_xor, nm_nd, nm_one, nm_shr, nm_b2, Bool.false_eq_true, Bool.true_eq_false, not_false_eq_true, not_true_eq_false, reduceCtorEq, e1']
    refine wp_rIe (hs_slot z1 a3' a6 (by omega)) ?_
    repeat (first | refine wp_isC (by assumption) ?_ | refine wp_nnR (by assumption) ?_ | refine wp_inA (by assumption) rfl (by omega) (by omega) ?_ | refine wp_isZ (by decide) ?_ | refine wp_bt (by (first | (simp (disch := omega) only [wI_I, wI_s, nI_add, pk_mul, nI_ltI, nI_leI, nI_eq, nI_clamp, nm_or, nm_and, nm_xor, nm_nd, nm_one, nm_shr, nm_b2, Bool.false_eq_true, Bool.true_eq_false, not_false_eq_true, not_true_eq_false, reduceCtorEq]; done) | (simp (disch := omega) only [wI_I, wI_s, nI_add, pk_mul, nI_ltI, nI_leI, nI_eq, nI_clamp, nm_or, nm_and, nm_xor, nm_nd, nm_one, nm_shr, nm_b2, Bool.false_eq_true, Bool.true_eq_false, not_false_eq_true, not_true_eq_false, reduceCtorEq]; omega) | omega)) ?_ | refine wp_bf (by (first | (simp (disch := omega) only [wI_I, wI_s, nI_add, pk_mul, nI_ltI, nI_leI, nI_eq, nI_clamp, nm_or, nm_and, nm_xor, nm_nd, nm_one, nm_shr, nm_b2, Bool.false_eq_true, Bool.true_eq_false, not_false_eq_true, not_true_eq_false, reduceCtorEq]; done) | (simp (disch := omega) only [wI_I, wI_s, nI_add, pk_mul, nI_ltI, nI_leI, nI_eq, nI_clamp, nm_or, nm_and, nm_xor, nm_nd, nm_one, nm_shr, nm_b2, Bool.false_eq_true, Bool.true_eq_false, not_false_eq_true, not_true_eq_false, reduceCtorEq]; omega) | omega)) ?_)
    rw [nI_clamp (by omega)]
    repeat (first | refine wp_isC (by assumption) ?_ | refine wp_nnR (by assumption) ?_ | refine wp_inA (by assumption) rfl (by omega) (by omega) ?_ | refine wp_isZ (by decide) ?_ | refine wp_bt (by (first | (simp (disch := omega) only [wI_I, wI_s, nI_add, pk_mul, nI_ltI, nI_leI, nI_eq, nI_clamp, nm_or, nm_and, nm_xor, nm_nd, nm_one, nm_shr, nm_b2, Bool.false_eq_true, Bool.true_eq_false, not_false_eq_true, not_true_eq_false, reduceCtorEq]; done) | (simp (disch := omega) only [wI_I, wI_s, nI_add, pk_mul, nI_ltI, nI_leI, nI_eq, nI_clamp, nm_or, nm_and, nm_xor, nm_nd, nm_one, nm_shr, nm_b2, Bool.false_eq_true, Bool.true_eq_false, not_false_eq_true, not_true_eq_false, reduceCtorEq]; omega) | omega)) ?_ | refine wp_bf (by (first | (simp (disch := omega) only [wI_I, wI_s, nI_add, pk_mul, nI_ltI, nI_leI, nI_eq, nI_clamp, nm_or, nm_and, nm_xor, nm_nd, nm_one, nm_shr, nm_b2, Bool.false_eq_true, Bool.true_eq_false, not_false_eq_true, not_true_eq_false, reduceCtorEq]; done) | (simp (disch := omega) only [wI_I, wI_s, nI_add, pk_mul, nI_ltI, nI_leI, nI_eq, nI_clamp, nm_or, nm_and, nm_xor, nm_nd, nm_one, nm_shr, nm_b2, Bool.false_eq_true, Bool.true_eq_false, not_false_eq_true, not_true_eq_false, reduceCtorEq]; omega) | omega)) ?_)
    simp (disch := omega) only [wI_I, wI_s, nI_add, pk_mul, nI_ltI, nI_leI, nI_eq, nI_clamp, nm_or, nm_and, nm_xor, nm_nd, nm_one, nm_shr, nm_b2, Bool.false_eq_true, Bool.true_eq_false, not_false_eq_true, not_true_eq_false, reduceCtorEq, b1', b2']
    refine wp_rVe e1 ?_
    repeat (first | refine wp_isC (by assumption) ?_ | refine wp_nnR (by assumption) ?_ | refine wp_inA (by assumption) rfl (by omega) (by omega) ?_ | refine wp_isZ (by decide) ?_ | refine wp_bt (by (first | (simp (disch := omega) only [wI_I, wI_s, nI_add, pk_mul, nI_ltI, nI_leI, nI_eq, nI_clamp, nm_or, nm_and, nm_xor, nm_nd, nm_one, nm_shr, nm_b2, Bool.false_eq_true, Bool.true_eq_false, not_false_eq_true, not_true_eq_false, reduceCtorEq]; done) | (simp (disch := omega) only [wI_I, wI_s, nI_add, pk_mul, nI_ltI, nI_leI, nI_eq, nI_clamp, nm_or, nm_and, nm_xor, nm_nd, nm_one, nm_shr, nm_b2, Bool.false_eq_true, Bool.true_eq_false, not_false_eq_true, not_true_eq_false, reduceCtorEq]; omega) | omega)) ?_ | refine wp_bf (by (first | (simp (disch := omega) only [wI_I, wI_s, nI_add, pk_mul, nI_ltI, nI_leI, nI_eq, nI_clamp, nm_or, nm_and, nm_xor, nm_nd, nm_one, nm_shr, nm_b2, Bool.false_eq_true, Bool.true_eq_false, not_false_eq_true, not_true_eq_false, reduceCtorEq]; done) | (simp (disch := omega) only [wI_I, wI_s, nI_add, pk_mul, nI_ltI, nI_leI, nI_eq, nI_clamp, nm_or, nm_and, nm_xor, nm_nd, nm_one, nm_shr, nm_b2, Bool.false_eq_true, Bool.true_eq_false, not_false_eq_true, not_true_eq_false, reduceCtorEq]; omega) | omega)) ?_)
    exact wp_s ⟨rfl, rfl⟩
  cases e : rl done with
  | none =>
    rw [e] at step
    refine ⟨up2 (up2 f z 1 (nI done)) q 1 (nI (sb done)), step _ (rl_turn0 r1), hH _ (fun a h1 h2 => up2_a (by omega)), up2_s, ?_, ?_, fun _ => rfl⟩
    · intro j hj; rw [up2_k hj, up2_a (by omega)]
    · intro k hk; cases hk
  | some k =>
    rw [e] at step b4
    obtain ⟨hk5, FA⟩ := hrl k e
    have FA' : GF (up2 f z 1 (nI done)) (q + 5 + 2 * k) n (A k) := (Fr.u2 (lo := z) (hi := z + 1) (by omega) (by omega)).F (by omega) FA
    have t := rl_turn (v := nI (sb done)) (T := tn done) R hk5 y2 y3 (by omega) FA' (fun r hr => by rw [up2_a (by omega)]; exact b4 r hr rfl)
    refine ⟨_, step _ t, hH _ (fun a h1 h2 => by rw [gw_o (by omega) (by omega), up2_a (by omega)]), ?_, ?_, ?_, ?_⟩
    · rw [gw_o (by omega) (by omega), up2_s]
    · intro j hj; rw [gw_o (by omega) (by omega), up2_k hj, up2_a (by omega)]
    · intro k2 hk2; cases hk2; rfl
    · intro hk2; cases hk2
theorem hs_no {h : MH} {f : Nat → Nat → Int32} {z q kept done old : Nat} {rl : Nat → Option Nat} {tn : Nat → Rw} {sb sa : Nat → Nat} (z1 : hC h z = 4) (F : HF f z kept done old rl tn sb sa) :
    (done = kept → ev M_History_goOn 0 0 [some (.ref z), some (.ref q), none] [] (wI h f) = some (some (.int (nI 0)), wI h f)) ∧ (done = 0 → ev M_History_goBack 0 0 [some (.ref z), some (.ref q), none] [] (wI h f) = some (some (.int (nI 0)), wI h f)) := by
  obtain ⟨a1, a2, a3, a4, a5, a6, a7⟩ := F
  constructor
  · intro hd
    rw [r_History_goOn_0]
    apply wp_e
    repeat (first | refine wp_isC (by assumption) ?_ | refine wp_nnR (by assumption) ?_ | refine wp_inA (by assumption) rfl (by omega) (by omega) ?_ | refine wp_isZ (by decide) ?_ | refine wp_bt (by (first | (simp (disch := omega) only [wI_I, wI_s, nI_add, pk_mul, nI_ltI, nI_leI, nI_eq, nI_clamp, nm_or, nm_and, nm_xor, nm_nd, nm_one, nm_shr, nm_b2, Bool.false_eq_true, Bool.true_eq_false, not_false_eq_true, not_true_eq_false, reduceCtorEq, a1, a2]; done) | (simp (disch := omega) only [wI_I, wI_s, nI_add, pk_mul, nI_ltI, nI_leI, nI_eq, nI_clamp, nm_or, nm_and, nm_xor, nm_nd, nm_one, nm_shr, nm_b2, Bool.false_eq_true, Bool.true_eq_false, not_false_eq_true, not_true_eq_false, reduceCtorEq, a1, a2]; omega) | omega)) ?_ | refine wp_bf (by (first | (simp (disch := omega) only [wI_I, wI_s, nI_add, pk_mul, nI_ltI, nI_leI, nI_eq, nI_clamp, nm_or, nm_and, nm_xor, nm_nd, nm_one, nm_shr, nm_b2, Bool.false_eq_true, Bool.true_eq_false, not_false_eq_true, not_true_eq_false, reduceCtorEq, a1, a2]; done) | (simp (disch := omega) only [wI_I, wI_s, nI_add, pk_mul, nI_ltI, nI_leI, nI_eq, nI_clamp, nm_or, nm_and, nm_xor, nm_nd, nm_one, nm_shr, nm_b2, Bool.false_eq_true, Bool.true_eq_false, not_false_eq_true, not_true_eq_false, reduceCtorEq, a1, a2]; omega) | omega)) ?_)
    exact wp_s ⟨rfl, rfl⟩
  · intro hd
    rw [r_History_goBack_0]
    apply wp_e
    repeat (first | refine wp_isC (by assumption) ?_ | refine wp_nnR (by assumption) ?_ | refine wp_inA (by assumption) rfl (by omega) (by omega) ?_ | refine wp_isZ (by decide) ?_ | refine wp_bt (by (first | (simp (disch := omega) only [wI_I, wI_s, nI_add, pk_mul, nI_ltI, nI_leI, nI_eq, nI_clamp, nm_or, nm_and, nm_xor, nm_nd, nm_one, nm_shr, nm_b2, Bool.false_eq_true, Bool.true_eq_false, not_false_eq_true, not_true_eq_false, reduceCtorEq, a1, a2]; done) | (simp (disch := omega) only [wI_I, wI_s, nI_add, pk_mul, nI_ltI, nI_leI, nI_eq, nI_clamp, nm_or, nm_and, nm_xor, nm_nd, nm_one, nm_shr, nm_b2, Bool.false_eq_true, Bool.true_eq_false, not_false_eq_true, not_true_eq_false, reduceCtorEq, a1, a2]; omega) | omega)) ?_ | refine wp_bf (by (first | (simp (disch := omega) only [wI_I, wI_s, nI_add, pk_mul, nI_ltI, nI_leI, nI_eq, nI_clamp, nm_or, nm_and, nm_xor, nm_nd, nm_one, nm_shr, nm_b2, Bool.false_eq_true, Bool.true_eq_false, not_false_eq_true, not_true_eq_false, reduceCtorEq, a1, a2]; done) | (simp (disch := omega) only [wI_I, wI_s, nI_add, pk_mul, nI_ltI, nI_leI, nI_eq, nI_clamp, nm_or, nm_and, nm_xor, nm_nd, nm_one, nm_shr, nm_b2, Bool.false_eq_true, Bool.true_eq_false, not_false_eq_true, not_true_eq_false, reduceCtorEq, a1, a2]; omega) | omega)) ?_)
    exact wp_s ⟨rfl, rfl⟩
/-- the rows of one act -/
def aw (f : Nat → Nat → Int32) (a i : Nat) (T : Rw) : Nat → Nat → Int32 := fun b r => if b = a ∧ r < i then nI (T r) else f b r
theorem aw_o {f : Nat → Nat → Int32} {a i b : Nat} {T : Rw} (h : b ≠ a) : aw f a i T b = f b := by funext r; unfold aw; rw [if_neg (by omega)]
theorem aw_s {f : Nat → Nat → Int32} {a i : Nat} {T : Rw} {v : Int32} (h : v = nI (T i)) : up2 (aw f a i T) a i v = aw f a (i + 1) T := by
  subst h; funext b r; unfold up2 aw
  ((repeat' split) <;> (try dsimp only) <;> (repeat' split) <;> (first | rfl | (exfalso; omega) | (subst_vars; rfl) | (subst_vars; exfalso; omega)))
theorem aw_0 {f : Nat → Nat → Int32} {a : Nat} {T : Rw} : aw f a 0 T = f := by funext b r; unfold aw; rw [if_neg (by omega)]
/-- what the history is when an act is kept behind done ones -/
theorem hs_add13 {h : MH} {f : Nat → Nat → Int32} {z q p o n s v done old : Nat} {rel : Option Nat} {rl : Nat → Option Nat} {tn : Nat → Rw} {sb sa : Nat → Nat} {A B : Rw} (Z : HS h z) (R : RS h q p) (O : GS h o) (d : z + 45 ≤ q ∨ q + 47 ≤ z) (d2 : z + 45 ≤ o ∨ o + 1 < z) (hs : f q 1 = nI s) (hd : done < 40) (ho : old < 40) (f1 : f z 1 = nI done) (f2 : f z 2 = nI old)
    (F : ∀ k, k < done → f (z + 1) ((old + k) % 40) = oI (rl k) ∧ f (z + 43) ((old + k) % 40) = nI (sb k) ∧ f (z + 44) ((old + k) % 40) = nI (sa k) ∧ (∀ r, r < 16 → (rl k).isSome → f (z + 3 + (old + k) % 40) r = nI (tn k r))) (hrel : ∀ k, rel = some k → k < 5 ∧ GF f (q + 5 + 2 * k) n A) (FB : ∀ r, r < 16 → f (o + 1) r = nI (B r)) :
    ∃ f', ev M_History_add 0 13 [some (.ref z), some (.int (oI rel)), some (.ref q), some (.ref o), some (.int (nI v)), none, none] [] (wI h f) = some (none, wI h f') ∧ HF f' z (done + 1) done old (fun k => if k = done then rel else rl k) (fun k => if k = done then (fun r => A r ^^^ B r) else tn k) (fun k => if k = done then s else sb k) (fun k => if k = done then v else sa k) ∧ Fr z (z + 45) f f' := by
  obtain ⟨z1, z2, z3, z4, z5, z6, z7, z8, z9, z10, z11, z12, z13, z14⟩ := Z
  obtain ⟨r1, r2, r3, r4, r5, -⟩ := R
  obtain ⟨o1, o2, o3, o4⟩ := O
  have hm : (old + done) % 40 < 40 := Nat.mod_lt _ (by decide)
  obtain ⟨y1, y2, y3⟩ := z8 _ hm
  let c := (old + done) % 40
  have hc : c = (old + done) % 40 := rfl
  let f3 := up2 (up2 (up2 f (z + 1) c (oI rel)) (z + 43) c (nI s)) (z + 44) c (nI v)
  have e3 : f3 = up2 (up2 (up2 f (z + 1) c (oI rel)) (z + 43) c (nI s)) (z + 44) c (nI v) := rfl
  let f4 := if rel.isSome then aw f3 (z + 3 + c) 16 (fun r => A r ^^^ B r) else f3
  have e4 : f4 = if rel.isSome then aw f3 (z + 3 + c) 16 (fun r => A r ^^^ B r) else f3 := rfl
  have f4o : ∀ a, a ≠ z + 3 + c → f4 a = f3 a := by
    intro a ha; rw [e4]; split
    · exact aw_o ha
    · rfl
  have f3o : ∀ a, a ≠ z + 1 → a ≠ z + 43 → a ≠ z + 44 → f3 a = f a := by
    intro a h1 h2 h3; rw [e3, up2_a h3, up2_a h2, up2_a h1]
  refine ⟨up2 f4 z 0 (nI (done + 1)), ?_, ⟨up2_s, ?_, ?_, by omega, by omega, ho, ?_⟩, ?_⟩
  · have L : ∀ k, rel = some k → ∀ m i, i + m = 16 → ev M_History_add 0 37 [some (.ref z), some (.int (nI k)), some (.ref q), some (.ref o), none, some (.int (nI c)), some (.int (nI i))] [] (wI h (aw f3 (z + 3 + c) i (fun r => A r ^^^ B r))) = ev M_History_add 0 66 [some (.ref z), none, none, none, none, none, none] [] (wI h (aw f3 (z + 3 + c) 16 (fun r => A r ^^^ B r))) := by
      intro k hk
      obtain ⟨hk5, FA⟩ := hrel k hk
      obtain ⟨s1, s2⟩ := r5 k hk5
      obtain ⟨s3, s4, s5, s6⟩ := s2
      obtain ⟨R66, hR⟩ : ∃ X, ev M_History_add 0 66 [some (.ref z), none, none, none, none, none, none] [] (wI h (aw f3 (z + 3 + c) 16 (fun r => A r ^^^ B r))) = some X := by
        rw [r_History_add_66]; unfold isC; rw [wI_C, if_pos z1, if_pos z1]; exact ⟨_, rfl⟩
      rw [hR]
      intro m
      induction m with
      | zero =>
        intro i hi
        rw [r_History_add_37]
        apply wp_e
        repeat (first | refine wp_isC (by assumption) ?_ | refine wp_nnR (by assumption) ?_ | refine wp_inA (by assumption) rfl (by omega) (by omega) ?_ | refine wp_isZ (by decide) ?_ | refine wp_bt (by (first | (simp (disch := omega) only [wI_I, wI_s, nI_add, pk_mul, nI_ltI, nI_leI, nI_eq, nI_clamp, nm_or, nm_and, nm_xor, nm_nd, nm_one, nm_shr, nm_b2, Bool.false_eq_true, Bool.true_eq_false, not_false_eq_true, not_true_eq_false, reduceCtorEq]; done) | (simp (disch := omega) only [wI_I, wI_s, nI_add, pk_mul, nI_ltI, nI_leI, nI_eq, nI_clamp, nm_or, nm_and, nm_xor, nm_nd, nm_one, nm_shr, nm_b2, Bool.false_eq_true, Bool.true_eq_false, not_false_eq_true, not_true_eq_false, reduceCtorEq]; omega) | omega)) ?_ | refine wp_bf (by (first | (simp (disch := omega) only [wI_I, wI_s, nI_add, pk_mul, nI_ltI, nI_leI, nI_eq, nI_clamp, nm_or, nm_and, nm_xor, nm_nd, nm_one, nm_shr, nm_b2, Bool.false_eq_true, Bool.true_eq_false, not_false_eq_true, not_true_eq_false, reduceCtorEq]; done) | (simp (disch := omega) only [wI_I, wI_s, nI_add, pk_mul, nI_ltI, nI_leI, nI_eq, nI_clamp, nm_or, nm_and, nm_xor, nm_nd, nm_one, nm_shr, nm_b2, Bool.false_eq_true, Bool.true_eq_false, not_false_eq_true, not_true_eq_false, reduceCtorEq]; omega) | omega)) ?_)
        rw [show i = 16 by omega]
        exact wp_of hR ⟨rfl, rfl⟩
      | succ m ih =>
        intro i hi
        have ga : aw f3 (z + 3 + c) i (fun r => A r ^^^ B r) (q + 5 + 2 * k + 1) i = nI (A i) := by
          rw [aw_o (by omega), f3o _ (by omega) (by omega) (by omega)]; exact FA.2 i (by omega)
        have gb : aw f3 (z + 3 + c) i (fun r => A r ^^^ B r) (o + 1) i = nI (B i) := by
          rw [aw_o (by omega), f3o _ (by omega) (by omega) (by omega)]; exact FB i (by omega)
        rw [r_History_add_37]
        apply wp_e
        refine wp_bt (by (first | (simp (disch := omega) only [wI_I, wI_s, nI_add, pk_mul, nI_ltI, nI_leI, nI_eq, nI_clamp, nm_or, nm_and, nm_xor, nm_nd, nm_one, nm_shr, nm_b2, Bool.false_eq_true, Bool.true_eq_false, not_false_eq_true, not_true_eq_false, reduceCtorEq]; done) | (simp (disch := omega) only [wI_I, wI_s, nI_add, pk_mul, nI_ltI, nI_leI, nI_eq, nI_clamp, nm_or, nm_and, nm_xor, nm_nd, nm_one, nm_shr, nm_b2, Bool.false_eq_true, Bool.true_eq_false, not_false_eq_true, not_true_eq_false, reduceCtorEq]; omega) | omega)) (wp_bf (nI_pos (by omega)) (wp_bt (by (first | (simp (disch := omega) only [wI_I, wI_s, nI_add, pk_mul, nI_ltI, nI_leI, nI_eq, nI_clamp, nm_or, nm_and, nm_xor, nm_nd, nm_one, nm_shr, nm_b2, Bool.false_eq_true, Bool.true_eq_false, not_false_eq_true, not_true_eq_false, reduceCtorEq]; done) | (simp (disch := omega) only [wI_I, wI_s, nI_add, pk_mul, nI_ltI, nI_leI, nI_eq, nI_clamp, nm_or, nm_and, nm_xor, nm_nd, nm_one, nm_shr, nm_b2, Bool.false_eq_true, Bool.true_eq_false, not_false_eq_true, not_true_eq_false, reduceCtorEq]; omega) | omega)) ?_))
        refine wp_isC z1 (wp_nnR z5 (wp_isC z6 (wp_inA z7 rfl hm (by omega) ?_)))
        rw [nI_clamp (by omega)]
        refine wp_nnR y1 (wp_isC r1 (wp_nnR r2 (wp_isC r3 (wp_inA r4 rfl hk5 (by omega) ?_))))
        rw [nI_clamp (by omega)]
        refine wp_nnR s1 ?_
        repeat (first | refine wp_isC (by assumption) ?_ | refine wp_nnR (by assumption) ?_ | refine wp_inA (by assumption) rfl (by omega) (by omega) ?_ | refine wp_isZ (by decide) ?_ | refine wp_bt (by (first | (simp (disch := omega) only [wI_I, wI_s, nI_add, pk_mul, nI_ltI, nI_leI, nI_eq, nI_clamp, nm_or, nm_and, nm_xor, nm_nd, nm_one, nm_shr, nm_b2, Bool.false_eq_true, Bool.true_eq_false, not_false_eq_true, not_true_eq_false, reduceCtorEq]; done) | (simp (disch := omega) only [wI_I, wI_s, nI_add, pk_mul, nI_ltI, nI_leI, nI_eq, nI_clamp, nm_or, nm_and, nm_xor, nm_nd, nm_one, nm_shr, nm_b2, Bool.false_eq_true, Bool.true_eq_false, not_false_eq_true, not_true_eq_false, reduceCtorEq]; omega) | omega)) ?_ | refine wp_bf (by (first | (simp (disch := omega) only [wI_I, wI_s, nI_add, pk_mul, nI_ltI, nI_leI, nI_eq, nI_clamp, nm_or, nm_and, nm_xor, nm_nd, nm_one, nm_shr, nm_b2, Bool.false_eq_true, Bool.true_eq_false, not_false_eq_true, not_true_eq_false, reduceCtorEq]; done) | (simp (disch := omega) only [wI_I, wI_s, nI_add, pk_mul, nI_ltI, nI_leI, nI_eq, nI_clamp, nm_or, nm_and, nm_xor, nm_nd, nm_one, nm_shr, nm_b2, Bool.false_eq_true, Bool.true_eq_false, not_false_eq_true, not_true_eq_false, reduceCtorEq]; omega) | omega)) ?_)
        simp (disch := omega) only [wI_I, wI_s, nI_add, pk_mul, nI_ltI, nI_leI, nI_eq, nI_clamp, nm_or, nm_and, nm_xor, nm_nd, nm_one, nm_shr, nm_b2, Bool.false_eq_true, Bool.true_eq_false, not_false_eq_true, not_true_eq_false, reduceCtorEq, ga, gb]
        rw [aw_s rfl]
        exact wp_of (ih (i + 1) (by omega)) ⟨rfl, rfl⟩
    have e0 : f4 z 1 = nI done := by rw [f4o z (by omega), f3o z (by omega) (by omega) (by omega)]; exact f1
    have fin : ev M_History_add 0 66 [some (.ref z), none, none, none, none, none, none] [] (wI h f4) = some (none, wI h (up2 f4 z 0 (nI (done + 1)))) := by
      rw [r_History_add_66]
      apply wp_e
      repeat (first | refine wp_isC (by assumption) ?_ | refine wp_nnR (by assumption) ?_ | refine wp_inA (by assumption) rfl (by omega) (by omega) ?_ | refine wp_isZ (by decide) ?_ | refine wp_bt (by (first | (simp (disch := omega) only [wI_I, wI_s, nI_add, pk_mul, nI_ltI, nI_leI, nI_eq, nI_clamp, nm_or, nm_and, nm_xor, nm_nd, nm_one, nm_shr, nm_b2, Bool.false_eq_true, Bool.true_eq_false, not_false_eq_true, not_true_eq_false, reduceCtorEq]; done) | (simp (disch := omega) only [wI_I, wI_s, nI_add, pk_mul, nI_ltI, nI_leI, nI_eq, nI_clamp, nm_or, nm_and, nm_xor, nm_nd, nm_one, nm_shr, nm_b2, Bool.false_eq_true, Bool.true_eq_false, not_false_eq_true, not_true_eq_false, reduceCtorEq]; omega) | omega)) ?_ | refine wp_bf (by (first | (simp (disch := omega) only [wI_I, wI_s, nI_add, pk_mul, nI_ltI, nI_leI, nI_eq, nI_clamp, nm_or, nm_and, nm_xor, nm_nd, nm_one, nm_shr, nm_b2, Bool.false_eq_true, Bool.true_eq_false, not_false_eq_true, not_true_eq_false, reduceCtorEq]; done) | (simp (disch := omega) only [wI_I, wI_s, nI_add, pk_mul, nI_ltI, nI_leI, nI_eq, nI_clamp, nm_or, nm_and, nm_xor, nm_nd, nm_one, nm_shr, nm_b2, Bool.false_eq_true, Bool.true_eq_false, not_false_eq_true, not_true_eq_false, reduceCtorEq]; omega) | omega)) ?_)
      simp (disch := omega) only [wI_I, wI_s, nI_add, pk_mul, nI_ltI, nI_leI, nI_eq, nI_clamp, nm_or, nm_and, nm_xor, nm_nd, nm_one, nm_shr, nm_b2, Bool.false_eq_true, Bool.true_eq_false, not_false_eq_true, not_true_eq_false, reduceCtorEq, e0]
      exact wp_s ⟨rfl, rfl⟩
    rw [r_History_add_13]
    apply wp_e
    repeat (first | refine wp_isC (by assumption) ?_ | refine wp_nnR (by assumption) ?_ | refine wp_inA (by assumption) rfl (by omega) (by omega) ?_ | refine wp_isZ (by decide) ?_ | refine wp_bt (by (first | (simp (disch := omega) only [wI_I, wI_s, nI_add, pk_mul, nI_ltI, nI_leI, nI_eq, nI_clamp, nm_or, nm_and, nm_xor, nm_nd, nm_one, nm_shr, nm_b2, Bool.false_eq_true, Bool.true_eq_false, not_false_eq_true, not_true_eq_false, reduceCtorEq]; done) | (simp (disch := omega) only [wI_I, wI_s, nI_add, pk_mul, nI_ltI, nI_leI, nI_eq, nI_clamp, nm_or, nm_and, nm_xor, nm_nd, nm_one, nm_shr, nm_b2, Bool.false_eq_true, Bool.true_eq_false, not_false_eq_true, not_true_eq_false, reduceCtorEq]; omega) | omega)) ?_ | refine wp_bf (by (first | (simp (disch := omega) only [wI_I, wI_s, nI_add, pk_mul, nI_ltI, nI_leI, nI_eq, nI_clamp, nm_or, nm_and, nm_xor, nm_nd, nm_one, nm_shr, nm_b2, Bool.false_eq_true, Bool.true_eq_false, not_false_eq_true, not_true_eq_false, reduceCtorEq]; done) | (simp (disch := omega) only [wI_I, wI_s, nI_add, pk_mul, nI_ltI, nI_leI, nI_eq, nI_clamp, nm_or, nm_and, nm_xor, nm_nd, nm_one, nm_shr, nm_b2, Bool.false_eq_true, Bool.true_eq_false, not_false_eq_true, not_true_eq_false, reduceCtorEq]; omega) | omega)) ?_)
    simp (disch := omega) only [wI_I, wI_s, nI_add, pk_mul, nI_ltI, nI_leI, nI_eq, nI_clamp, nm_or, nm_and, nm_xor, nm_nd, nm_one, nm_shr, nm_b2, Bool.false_eq_true, Bool.true_eq_false, not_false_eq_true, not_true_eq_false, reduceCtorEq, f1]
    refine wp_rIe (hs_slot z1 f2 ho (by omega)) ?_
    repeat (first | refine wp_isC (by assumption) ?_ | refine wp_nnR (by assumption) ?_ | refine wp_inA (by assumption) rfl (by omega) (by omega) ?_ | refine wp_isZ (by decide) ?_ | refine wp_bt (by (first | (simp (disch := omega) only [wI_I, wI_s, nI_add, pk_mul, nI_ltI, nI_leI, nI_eq, nI_clamp, nm_or, nm_and, nm_xor, nm_nd, nm_one, nm_shr, nm_b2, Bool.false_eq_true, Bool.true_eq_false, not_false_eq_true, not_true_eq_false, reduceCtorEq]; done) | (simp (disch := omega) only [wI_I, wI_s, nI_add, pk_mul, nI_ltI, nI_leI, nI_eq, nI_clamp, nm_or, nm_and, nm_xor, nm_nd, nm_one, nm_shr, nm_b2, Bool.false_eq_true, Bool.true_eq_false, not_false_eq_true, not_true_eq_false, reduceCtorEq]; omega) | omega)) ?_ | refine wp_bf (by (first | (simp (disch := omega) only [wI_I, wI_s, nI_add, pk_mul, nI_ltI, nI_leI, nI_eq, nI_clamp, nm_or, nm_and, nm_xor, nm_nd, nm_one, nm_shr, nm_b2, Bool.false_eq_true, Bool.true_eq_false, not_false_eq_true, not_true_eq_false, reduceCtorEq]; done) | (simp (disch := omega) only [wI_I, wI_s, nI_add, pk_mul, nI_ltI, nI_leI, nI_eq, nI_clamp, nm_or, nm_and, nm_xor, nm_nd, nm_one, nm_shr, nm_b2, Bool.false_eq_true, Bool.true_eq_false, not_false_eq_true, not_true_eq_false, reduceCtorEq]; omega) | omega)) ?_)
    have es : up2 f (z + 1) ((old + done) % 40) (oI rel) q 1 = nI s := by rw [up2_a (by omega)]; exact hs
    simp (disch := omega) only [wI_I, wI_s, nI_add, pk_mul, nI_ltI, nI_leI, nI_eq, nI_clamp, nm_or, nm_and, nm_xor, nm_nd, nm_one, nm_shr, nm_b2, Bool.false_eq_true, Bool.true_eq_false, not_false_eq_true, not_true_eq_false, reduceCtorEq, es]
    show wp (ev M_History_add 0 37 [some (.ref z), some (.int (oI rel)), some (.ref q), some (.ref o), none, some (.int (nI c)), some (.int (nI 0))] [] (wI h f3)) _
    cases hr : rel with
    | none =>
      have e5 : f4 = f3 := by rw [e4, hr]; rfl
      rw [r_History_add_37]
      refine wp_bt (by (first | (simp (disch := omega) only [wI_I, wI_s, nI_add, pk_mul, nI_ltI, nI_leI, nI_eq, nI_clamp, nm_or, nm_and, nm_xor, nm_nd, nm_one, nm_shr, nm_b2, Bool.false_eq_true, Bool.true_eq_false, not_false_eq_true, not_true_eq_false, reduceCtorEq]; done) | (simp (disch := omega) only [wI_I, wI_s, nI_add, pk_mul, nI_ltI, nI_leI, nI_eq, nI_clamp, nm_or, nm_and, nm_xor, nm_nd, nm_one, nm_shr, nm_b2, Bool.false_eq_true, Bool.true_eq_false, not_false_eq_true, not_true_eq_false, reduceCtorEq]; omega) | omega)) (wp_bt mI_neg ?_)
      rw [← e5]
      exact wp_of fin ⟨rfl, rfl⟩
    | some k =>
      have e5 : f4 = aw f3 (z + 3 + c) 16 (fun r => A r ^^^ B r) := by rw [e4, hr]; rfl
      have := L k hr 16 0 (by omega)
      rw [aw_0, ← e5, fin] at this
      exact wp_of this ⟨rfl, rfl⟩
  · rw [up2_k (by decide), f4o z (by omega), f3o z (by omega) (by omega) (by omega)]; exact f1
  · rw [up2_k (by decide), f4o z (by omega), f3o z (by omega) (by omega) (by omega)]; exact f2
  · intro k hk
    have hkm : (old + k) % 40 < 40 := Nat.mod_lt _ (by decide)
    rw [up2_a (by omega), up2_a (by omega), up2_a (by omega), up2_a (by omega), f4o (z + 1) (by omega), f4o (z + 43) (by omega), f4o (z + 44) (by omega)]
    have g1 : f3 (z + 1) = up2 f (z + 1) c (oI rel) (z + 1) := by rw [e3, up2_a (by omega), up2_a (by omega)]
    have g2 : f3 (z + 43) = up2 f (z + 43) c (nI s) (z + 43) := by rw [e3, up2_a (by omega)]; funext j; rw [up2_i, up2_i, up2_a (by omega)]
    have g3 : f3 (z + 44) = up2 f (z + 44) c (nI v) (z + 44) := by rw [e3]; funext j; rw [up2_i, up2_i, up2_a (by omega), up2_a (by omega)]
    rw [g1, g2, g3, up2_i, up2_i, up2_i]
    by_cases q1 : k = done
    · subst q1
      rw [if_pos rfl, if_pos rfl, if_pos rfl]
      dsimp only
      rw [if_pos rfl, if_pos rfl, if_pos rfl, if_pos rfl]
      refine ⟨rfl, rfl, rfl, fun r hr hsome => ?_⟩
      rw [e4, if_pos hsome]
      unfold aw
      rw [if_pos ⟨rfl, hr⟩]
    · have hne : (old + k) % 40 ≠ c := by rw [hc]; omega
      rw [if_neg hne, if_neg hne, if_neg hne]
      dsimp only
      rw [if_neg q1, if_neg q1, if_neg q1, if_neg q1]
      rw [f4o _ (by omega), f3o _ (by omega) (by omega) (by omega)]
      exact F k (by omega)
  · intro a ha
    rw [up2_a (by omega), f4o a (by omega), f3o a (by omega) (by omega) (by omega)]
