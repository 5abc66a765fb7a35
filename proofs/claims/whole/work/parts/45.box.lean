/-! An act kept, the oldest giving way; boxes. -/
theorem hs_add {h : MH} {f : Nat → Nat → Int32} {z q p o n s v kept done old : Nat} {rel : Option Nat} {rl : Nat → Option Nat} {tn : Nat → Rw} {sb sa : Nat → Nat} {A B : Rw} (Z : HS h z) (R : RS h q p) (O : GS h o) (d : z + 45 ≤ q ∨ q + 47 ≤ z) (d2 : z + 45 ≤ o ∨ o + 1 < z) (hs : f q 1 = nI s)
    (F : HF f z kept done old rl tn sb sa) (hrel : ∀ k, rel = some k → k < 5 ∧ GF f (q + 5 + 2 * k) n A) (FB : ∀ r, r < 16 → f (o + 1) r = nI (B r)) :
    ∃ f' e old', (e = if done = 40 then 1 else 0) ∧ ev M_History_add 0 0 [some (.ref z), some (.int (oI rel)), some (.ref q), some (.ref o), some (.int (nI v)), none, none] [] (wI h f) = some (none, wI h f') ∧ HF f' z (done - e + 1) (done - e) old' (fun k => if k = done - e then rel else rl (k + e)) (fun k => if k = done - e then (fun r => A r ^^^ B r) else tn (k + e)) (fun k => if k = done - e then s else sb (k + e)) (fun k => if k = done - e then v else sa (k + e)) ∧ Fr z (z + 45) f f' := by
  have z1 := Z.1
  obtain ⟨a1, a2, a3, a4, a5, a6, a7⟩ := id F
  by_cases hd : done = 40
  · have f1 : up2 (up2 f z 2 (nI ((old + 1) % 40))) z 1 (nI 39) z 1 = nI 39 := up2_s
    have f2 : up2 (up2 f z 2 (nI ((old + 1) % 40))) z 1 (nI 39) z 2 = nI ((old + 1) % 40) := by rw [up2_k (by decide), up2_s]
    have hq : up2 (up2 f z 2 (nI ((old + 1) % 40))) z 1 (nI 39) q 1 = nI s := by rw [up2_a (by omega), up2_a (by omega)]; exact hs
    have fr : Fr z (z + 1) f (up2 (up2 f z 2 (nI ((old + 1) % 40))) z 1 (nI 39)) := (Fr.u2 (by omega) (by omega)).tr (Fr.u2 (by omega) (by omega))
    obtain ⟨f', e1, e2, e3⟩ := hs_add13 (rel := rel) (v := v) (done := 39) (old := (old + 1) % 40) (rl := fun k => rl (k + 1)) (tn := fun k => tn (k + 1)) (sb := fun k => sb (k + 1)) (sa := fun k => sa (k + 1)) (A := A) (B := B) (n := n) Z R O d d2 hq (by decide) (Nat.mod_lt _ (by decide)) f1 f2 (fun k hk => by
      rw [up2_a (by omega), up2_a (by omega), up2_a (by omega), up2_a (by omega), up2_a (by omega), up2_a (by omega), up2_a (by omega), up2_a (by omega)]
      rw [show ((old + 1) % 40 + k) % 40 = (old + (k + 1)) % 40 by omega]
      exact a7 (k + 1) (by omega)) (fun k hk => ⟨(hrel k hk).1, fr.F (by have := (hrel k hk).1; omega) (hrel k hk).2⟩) (fun r hr => by rw [fr (o + 1) (by omega)]; exact FB r hr)
    refine ⟨f', 1, (old + 1) % 40, by rw [if_pos hd], ?_, ?_, (fr.up (by omega) (by omega)).tr e3⟩
    · rw [r_History_add_0]
      apply wp_e
      repeat (first | refine wp_isC (by assumption) ?_ | refine wp_nnR (by assumption) ?_ | refine wp_inA (by assumption) rfl (by omega) (by omega) ?_ | refine wp_isZ (by decide) ?_ | refine wp_bt (by (first | (simp (disch := omega) only [wI_I, wI_s, nI_add, pk_mul, nI_ltI, nI_leI, nI_eq, nI_clamp, nm_or, nm_and, nm_xor, nm_nd, nm_one, nm_shr, nm_b2, Bool.false_eq_true, Bool.true_eq_false, not_false_eq_true, not_true_eq_false, reduceCtorEq, a2]; done) | (simp (disch := omega) only [wI_I, wI_s, nI_add, pk_mul, nI_ltI, nI_leI, nI_eq, nI_clamp, nm_or, nm_and, nm_xor, nm_nd, nm_one, nm_shr, nm_b2, Bool.false_eq_true, Bool.true_eq_false, not_false_eq_true, not_true_eq_false, reduceCtorEq, a2]; omega) | omega)) ?_ | refine wp_bf (by (first | (simp (disch := omega) only [wI_I, wI_s, nI_add, pk_mul, nI_ltI, nI_leI, nI_eq, nI_clamp, nm_or, nm_and, nm_xor, nm_nd, nm_one, nm_shr, nm_b2, Bool.false_eq_true, Bool.true_eq_false, not_false_eq_true, not_true_eq_false, reduceCtorEq, a2]; done) | (simp (disch := omega) only [wI_I, wI_s, nI_add, pk_mul, nI_ltI, nI_leI, nI_eq, nI_clamp, nm_or, nm_and, nm_xor, nm_nd, nm_one, nm_shr, nm_b2, Bool.false_eq_true, Bool.true_eq_false, not_false_eq_true, not_true_eq_false, reduceCtorEq, a2]; omega) | omega)) ?_)
      refine wp_rIe (hs_slot z1 a3 a6 (by decide)) ?_
      repeat (first | refine wp_isC (by assumption) ?_ | refine wp_nnR (by assumption) ?_ | refine wp_inA (by assumption) rfl (by omega) (by omega) ?_ | refine wp_isZ (by decide) ?_ | refine wp_bt (by (first | (simp (disch := omega) only [wI_I, wI_s, nI_add, pk_mul, nI_ltI, nI_leI, nI_eq, nI_clamp, nm_or, nm_and, nm_xor, nm_nd, nm_one, nm_shr, nm_b2, Bool.false_eq_true, Bool.true_eq_false, not_false_eq_true, not_true_eq_false, reduceCtorEq]; done) | (simp (disch := omega) only [wI_I, wI_s, nI_add, pk_mul, nI_ltI, nI_leI, nI_eq, nI_clamp, nm_or, nm_and, nm_xor, nm_nd, nm_one, nm_shr, nm_b2, Bool.false_eq_true, Bool.true_eq_false, not_false_eq_true, not_true_eq_false, reduceCtorEq]; omega) | omega)) ?_ | refine wp_bf (by (first | (simp (disch := omega) only [wI_I, wI_s, nI_add, pk_mul, nI_ltI, nI_leI, nI_eq, nI_clamp, nm_or, nm_and, nm_xor, nm_nd, nm_one, nm_shr, nm_b2, Bool.false_eq_true, Bool.true_eq_false, not_false_eq_true, not_true_eq_false, reduceCtorEq]; done) | (simp (disch := omega) only [wI_I, wI_s, nI_add, pk_mul, nI_ltI, nI_leI, nI_eq, nI_clamp, nm_or, nm_and, nm_xor, nm_nd, nm_one, nm_shr, nm_b2, Bool.false_eq_true, Bool.true_eq_false, not_false_eq_true, not_true_eq_false, reduceCtorEq]; omega) | omega)) ?_)
      simp (disch := omega) only [wI_I, wI_s, nI_add, pk_mul, nI_ltI, nI_leI, nI_eq, nI_clamp, nm_or, nm_and, nm_xor, nm_nd, nm_one, nm_shr, nm_b2, Bool.false_eq_true, Bool.true_eq_false, not_false_eq_true, not_true_eq_false, reduceCtorEq]
      exact wp_of e1 ⟨rfl, rfl⟩
    · rw [hd]; exact e2
  · obtain ⟨f', e1, e2, e3⟩ := hs_add13 (rel := rel) (v := v) (done := done) (old := old) (rl := rl) (tn := tn) (sb := sb) (sa := sa) (A := A) (B := B) (n := n) Z R O d d2 hs (by omega) a6 a2 a3 (fun k hk => a7 k (by omega)) hrel FB
    refine ⟨f', 0, old, by rw [if_neg hd], ?_, e2, e3⟩
    rw [r_History_add_0]
    apply wp_e
    repeat (first | refine wp_isC (by assumption) ?_ | refine wp_nnR (by assumption) ?_ | refine wp_inA (by assumption) rfl (by omega) (by omega) ?_ | refine wp_isZ (by decide) ?_ | refine wp_bt (by (first | (simp (disch := omega) only [wI_I, wI_s, nI_add, pk_mul, nI_ltI, nI_leI, nI_eq, nI_clamp, nm_or, nm_and, nm_xor, nm_nd, nm_one, nm_shr, nm_b2, Bool.false_eq_true, Bool.true_eq_false, not_false_eq_true, not_true_eq_false, reduceCtorEq, a2]; done) | (simp (disch := omega) only [wI_I, wI_s, nI_add, pk_mul, nI_ltI, nI_leI, nI_eq, nI_clamp, nm_or, nm_and, nm_xor, nm_nd, nm_one, nm_shr, nm_b2, Bool.false_eq_true, Bool.true_eq_false, not_false_eq_true, not_true_eq_false, reduceCtorEq, a2]; omega) | omega)) ?_ | refine wp_bf (by (first | (simp (disch := omega) only [wI_I, wI_s, nI_add, pk_mul, nI_ltI, nI_leI, nI_eq, nI_clamp, nm_or, nm_and, nm_xor, nm_nd, nm_one, nm_shr, nm_b2, Bool.false_eq_true, Bool.true_eq_false, not_false_eq_true, not_true_eq_false, reduceCtorEq, a2]; done) | (simp (disch := omega) only [wI_I, wI_s, nI_add, pk_mul, nI_ltI, nI_leI, nI_eq, nI_clamp, nm_or, nm_and, nm_xor, nm_nd, nm_one, nm_shr, nm_b2, Bool.false_eq_true, Bool.true_eq_false, not_false_eq_true, not_true_eq_false, reduceCtorEq, a2]; omega) | omega)) ?_)
    exact wp_of e1 ⟨rfl, rfl⟩
/-- a box's cells -/
def BS (h : MH) (b : Nat) : Prop := hC h b = 1 ∧ hR h b 2 = some (b + 1) ∧ hC h (b + 1) = 24 ∧ hN h (b + 1) = 5 ∧ ∀ k, k < 5 → hR h (b + 1) k = some (b + 2 + 2 * k) ∧ GS h (b + 2 + 2 * k)
theorem nI_sur (x : Int32) : ∃ n, x = nI n := ⟨x.toBitVec.toNat, by
  apply Int32.toBitVec_inj.mp
  show x.toBitVec = BitVec.ofNat 32 x.toBitVec.toNat
  simp⟩
theorem GF_sur (f : Nat → Nat → Int32) (g : Nat) : ∃ n G, GF f g n G := by
  obtain ⟨n, hn⟩ := nI_sur (f g 1)
  obtain ⟨G, hG⟩ := Classical.axiomOfChoice (fun r => nI_sur (f (g + 1) r))
  exact ⟨n, G, hn, fun r _ => hG r⟩
theorem bx_keep {h : MH} {f : Nat → Nat → Int32} {b q p : Nat} {s : Int32} (B : BS h b) (R : RS h q p) (d : b + 12 ≤ q ∨ q + 47 ≤ b) (hs : f q 1 = s) :
    ∃ f', ev M_Box_keep 0 0 [some (.ref b), some (.ref q), none] [] (wI h f) = some (none, wI h f') ∧ f' b 0 = nI 1 ∧ f' b 1 = s ∧ (∀ k, k < 5 → ∀ n G, GF f (q + 5 + 2 * k) n G → GF f' (b + 2 + 2 * k) n G) ∧ Fr b (b + 12) f f' := by
  obtain ⟨b1, b2, b3, b4, b5⟩ := B
  obtain ⟨r1, r2, r3, r4, r5, -⟩ := R
  have L : ∀ m i f, i + m = 5 → (∀ k, k < i → ∀ n G, GF f (q + 5 + 2 * k) n G → GF f (b + 2 + 2 * k) n G) → ∃ f', ev M_Box_keep 0 10 [some (.ref b), some (.ref q), some (.int (nI i))] [] (wI h f) = some (none, wI h f') ∧ (∀ k, k < 5 → ∀ n G, GF f (q + 5 + 2 * k) n G → GF f' (b + 2 + 2 * k) n G) ∧ Fr (b + 2) (b + 12) f f' := by
    intro m
    induction m with
    | zero =>
      intro i f hi hk
      refine ⟨f, ?_, fun k hk5 => hk k (by omega), Fr.rf⟩
      rw [r_Box_keep_10]
      apply wp_e
      repeat (first | refine wp_isC (by assumption) ?_ | refine wp_nnR (by assumption) ?_ | refine wp_inA (by assumption) rfl (by omega) (by omega) ?_ | refine wp_isZ (by decide) ?_ | refine wp_bt (by (first | (simp (disch := omega) only [wI_I, wI_s, nI_add, pk_mul, nI_ltI, nI_leI, nI_eq, nI_clamp, nm_or, nm_and, nm_xor, nm_nd, nm_one, nm_shr, nm_b2, Bool.false_eq_true, Bool.true_eq_false, not_false_eq_true, not_true_eq_false, reduceCtorEq]; done) | (simp (disch := omega) only [wI_I, wI_s, nI_add, pk_mul, nI_ltI, nI_leI, nI_eq, nI_clamp, nm_or, nm_and, nm_xor, nm_nd, nm_one, nm_shr, nm_b2, Bool.false_eq_true, Bool.true_eq_false, not_false_eq_true, not_true_eq_false, reduceCtorEq]; omega) | omega)) ?_ | refine wp_bf (by (first | (simp (disch := omega) only [wI_I, wI_s, nI_add, pk_mul, nI_ltI, nI_leI, nI_eq, nI_clamp, nm_or, nm_and, nm_xor, nm_nd, nm_one, nm_shr, nm_b2, Bool.false_eq_true, Bool.true_eq_false, not_false_eq_true, not_true_eq_false, reduceCtorEq]; done) | (simp (disch := omega) only [wI_I, wI_s, nI_add, pk_mul, nI_ltI, nI_leI, nI_eq, nI_clamp, nm_or, nm_and, nm_xor, nm_nd, nm_one, nm_shr, nm_b2, Bool.false_eq_true, Bool.true_eq_false, not_false_eq_true, not_true_eq_false, reduceCtorEq]; omega) | omega)) ?_)
      exact wp_s ⟨rfl, rfl⟩
    | succ m ih =>
      intro i f hi hk
      obtain ⟨x1, x2⟩ := b5 i (by omega)
      obtain ⟨y1, y2⟩ := r5 i (by omega)
      have x3 := x2.1
      obtain ⟨n, G, FG⟩ := GF_sur f (q + 5 + 2 * i)
      have fr : Fr (b + 2) (b + 12) f (gw f (b + 2 + 2 * i) n G) := Fr.gw (by omega) (by omega)
      have inv : ∀ k, k < 5 → ∀ n' G', GF f (q + 5 + 2 * k) n' G' → GF (gw f (b + 2 + 2 * i) n G) (q + 5 + 2 * k) n' G' := fun k hk5 n' G' F' => fr.F (by omega) F'
      have back : ∀ k, k < 5 → ∀ n' G', GF (gw f (b + 2 + 2 * i) n G) (q + 5 + 2 * k) n' G' → GF f (q + 5 + 2 * k) n' G' := fun k hk5 n' G' F' => ⟨by rw [← fr (q + 5 + 2 * k) (by omega)]; exact F'.1, fun r hr => by rw [← fr (q + 5 + 2 * k + 1) (by omega)]; exact F'.2 r hr⟩
      obtain ⟨f', e1, e2, e3⟩ := ih (i + 1) (gw f (b + 2 + 2 * i) n G) (by omega) (fun k hk1 n' G' F' => by
        have F0 := back k (by omega) n' G' F'
        by_cases q1 : k = i
        · subst q1
          have h1 : nI n' = nI n := F0.1.symm.trans FG.1
          refine ⟨?_, fun r hr => ?_⟩
          · rw [h1]; exact gw_f.1
          · rw [← F0.2 r hr, FG.2 r hr]; exact gw_f.2 r hr
        · exact gw_F (by omega) (hk k (by omega) n' G' F0))
      refine ⟨f', ?_, fun k hk5 n' G' F' => e2 k hk5 n' G' (inv k hk5 n' G' F'), fr.tr e3⟩
      rw [r_Box_keep_10]
      apply wp_e
      repeat (first | refine wp_isC (by assumption) ?_ | refine wp_nnR (by assumption) ?_ | refine wp_inA (by assumption) rfl (by omega) (by omega) ?_ | refine wp_isZ (by decide) ?_ | refine wp_bt (by (first | (simp (disch := omega) only [wI_I, wI_s, nI_add, pk_mul, nI_ltI, nI_leI, nI_eq, nI_clamp, nm_or, nm_and, nm_xor, nm_nd, nm_one, nm_shr, nm_b2, Bool.false_eq_true, Bool.true_eq_false, not_false_eq_true, not_true_eq_false, reduceCtorEq]; done) | (simp (disch := omega) only [wI_I, wI_s, nI_add, pk_mul, nI_ltI, nI_leI, nI_eq, nI_clamp, nm_or, nm_and, nm_xor, nm_nd, nm_one, nm_shr, nm_b2, Bool.false_eq_true, Bool.true_eq_false, not_false_eq_true, not_true_eq_false, reduceCtorEq]; omega) | omega)) ?_ | refine wp_bf (by (first | (simp (disch := omega) only [wI_I, wI_s, nI_add, pk_mul, nI_ltI, nI_leI, nI_eq, nI_clamp, nm_or, nm_and, nm_xor, nm_nd, nm_one, nm_shr, nm_b2, Bool.false_eq_true, Bool.true_eq_false, not_false_eq_true, not_true_eq_false, reduceCtorEq]; done) | (simp (disch := omega) only [wI_I, wI_s, nI_add, pk_mul, nI_ltI, nI_leI, nI_eq, nI_clamp, nm_or, nm_and, nm_xor, nm_nd, nm_one, nm_shr, nm_b2, Bool.false_eq_true, Bool.true_eq_false, not_false_eq_true, not_true_eq_false, reduceCtorEq]; omega) | omega)) ?_)
      rw [nI_clamp (by omega)]
      repeat (first | refine wp_isC (by assumption) ?_ | refine wp_nnR (by assumption) ?_ | refine wp_inA (by assumption) rfl (by omega) (by omega) ?_ | refine wp_isZ (by decide) ?_ | refine wp_bt (by (first | (simp (disch := omega) only [wI_I, wI_s, nI_add, pk_mul, nI_ltI, nI_leI, nI_eq, nI_clamp, nm_or, nm_and, nm_xor, nm_nd, nm_one, nm_shr, nm_b2, Bool.false_eq_true, Bool.true_eq_false, not_false_eq_true, not_true_eq_false, reduceCtorEq]; done) | (simp (disch := omega) only [wI_I, wI_s, nI_add, pk_mul, nI_ltI, nI_leI, nI_eq, nI_clamp, nm_or, nm_and, nm_xor, nm_nd, nm_one, nm_shr, nm_b2, Bool.false_eq_true, Bool.true_eq_false, not_false_eq_true, not_true_eq_false, reduceCtorEq]; omega) | omega)) ?_ | refine wp_bf (by (first | (simp (disch := omega) only [wI_I, wI_s, nI_add, pk_mul, nI_ltI, nI_leI, nI_eq, nI_clamp, nm_or, nm_and, nm_xor, nm_nd, nm_one, nm_shr, nm_b2, Bool.false_eq_true, Bool.true_eq_false, not_false_eq_true, not_true_eq_false, reduceCtorEq]; done) | (simp (disch := omega) only [wI_I, wI_s, nI_add, pk_mul, nI_ltI, nI_leI, nI_eq, nI_clamp, nm_or, nm_and, nm_xor, nm_nd, nm_one, nm_shr, nm_b2, Bool.false_eq_true, Bool.true_eq_false, not_false_eq_true, not_true_eq_false, reduceCtorEq]; omega) | omega)) ?_)
      refine wp_rVe (gq_copy x2 y2 (by omega) FG) ?_
      simp (disch := omega) only [wI_I, wI_s, nI_add, pk_mul, nI_ltI, nI_leI, nI_eq, nI_clamp, nm_or, nm_and, nm_xor, nm_nd, nm_one, nm_shr, nm_b2, Bool.false_eq_true, Bool.true_eq_false, not_false_eq_true, not_true_eq_false, reduceCtorEq]
      exact wp_of e1 ⟨rfl, rfl⟩
  have fr0 : Fr b (b + 1) f (up2 (up2 f b 0 (nI 1)) b 1 s) := (Fr.u2 (by omega) (by omega)).tr (Fr.u2 (by omega) (by omega))
  obtain ⟨f', e1, e2, e3⟩ := L 5 0 (up2 (up2 f b 0 (nI 1)) b 1 s) (by omega) (fun k hk => absurd hk (by omega))
  refine ⟨f', ?_, ?_, ?_, fun k hk n G F => e2 k hk n G (fr0.F (by omega) F), (fr0.up (by omega) (by omega)).tr (e3.up (by omega) (by omega))⟩
  · rw [r_Box_keep_0]
    apply wp_e
    repeat (first | refine wp_isC (by assumption) ?_ | refine wp_nnR (by assumption) ?_ | refine wp_inA (by assumption) rfl (by omega) (by omega) ?_ | refine wp_isZ (by decide) ?_ | refine wp_bt (by (first | (simp (disch := omega) only [wI_I, wI_s, nI_add, pk_mul, nI_ltI, nI_leI, nI_eq, nI_clamp, nm_or, nm_and, nm_xor, nm_nd, nm_one, nm_shr, nm_b2, Bool.false_eq_true, Bool.true_eq_false, not_false_eq_true, not_true_eq_false, reduceCtorEq]; done) | (simp (disch := omega) only [wI_I, wI_s, nI_add, pk_mul, nI_ltI, nI_leI, nI_eq, nI_clamp, nm_or, nm_and, nm_xor, nm_nd, nm_one, nm_shr, nm_b2, Bool.false_eq_true, Bool.true_eq_false, not_false_eq_true, not_true_eq_false, reduceCtorEq]; omega) | omega)) ?_ | refine wp_bf (by (first | (simp (disch := omega) only [wI_I, wI_s, nI_add, pk_mul, nI_ltI, nI_leI, nI_eq, nI_clamp, nm_or, nm_and, nm_xor, nm_nd, nm_one, nm_shr, nm_b2, Bool.false_eq_true, Bool.true_eq_false, not_false_eq_true, not_true_eq_false, reduceCtorEq]; done) | (simp (disch := omega) only [wI_I, wI_s, nI_add, pk_mul, nI_ltI, nI_leI, nI_eq, nI_clamp, nm_or, nm_and, nm_xor, nm_nd, nm_one, nm_shr, nm_b2, Bool.false_eq_true, Bool.true_eq_false, not_false_eq_true, not_true_eq_false, reduceCtorEq]; omega) | omega)) ?_)
    have hs' : up2 f b 0 (nI 1) q 1 = s := by rw [up2_a (by omega)]; exact hs
    simp (disch := omega) only [wI_I, wI_s, nI_add, pk_mul, nI_ltI, nI_leI, nI_eq, nI_clamp, nm_or, nm_and, nm_xor, nm_nd, nm_one, nm_shr, nm_b2, Bool.false_eq_true, Bool.true_eq_false, not_false_eq_true, not_true_eq_false, reduceCtorEq, hs']
    exact wp_of e1 ⟨rfl, rfl⟩
  · rw [e3 b (by omega), up2_k (by decide), up2_s]
  · rw [e3 b (by omega), up2_s]
theorem bx_give {h : MH} {f : Nat → Nat → Int32} {b q p : Nat} {s : Int32} (B : BS h b) (R : RS h q p) (d : b + 12 ≤ q ∨ q + 47 ≤ b) (hs : f b 1 = s) :
    ∃ f', ev M_Box_giveBack 0 0 [some (.ref b), some (.ref q), none] [] (wI h f) = some (none, wI h f') ∧ f' q 1 = s ∧ (∀ j, j ≠ 1 → f' q j = f q j) ∧ (∀ k, k < 5 → ∀ n G, GF f (b + 2 + 2 * k) n G → GF f' (q + 5 + 2 * k) n G) ∧ Fr q (q + 15) f f' := by
  obtain ⟨b1, b2, b3, b4, b5⟩ := B
  obtain ⟨r1, r2, r3, r4, r5, -⟩ := R
  have L : ∀ m i f, i + m = 5 → (∀ k, k < i → ∀ n G, GF f (b + 2 + 2 * k) n G → GF f (q + 5 + 2 * k) n G) → ∃ f', ev M_Box_giveBack 0 7 [some (.ref b), some (.ref q), some (.int (nI i))] [] (wI h f) = some (none, wI h f') ∧ (∀ k, k < 5 → ∀ n G, GF f (b + 2 + 2 * k) n G → GF f' (q + 5 + 2 * k) n G) ∧ Fr (q + 5) (q + 15) f f' := by
    intro m
    induction m with
    | zero =>
      intro i f hi hk
      refine ⟨f, ?_, fun k hk5 => hk k (by omega), Fr.rf⟩
      rw [r_Box_giveBack_7]
      apply wp_e
      repeat (first | refine wp_isC (by assumption) ?_ | refine wp_nnR (by assumption) ?_ | refine wp_inA (by assumption) rfl (by omega) (by omega) ?_ | refine wp_isZ (by decide) ?_ | refine wp_bt (by (first | (simp (disch := omega) only [wI_I, wI_s, nI_add, pk_mul, nI_ltI, nI_leI, nI_eq, nI_clamp, nm_or, nm_and, nm_xor, nm_nd, nm_one, nm_shr, nm_b2, Bool.false_eq_true, Bool.true_eq_false, not_false_eq_true, not_true_eq_false, reduceCtorEq]; done) | (simp (disch := omega) only [wI_I, wI_s, nI_add, pk_mul, nI_ltI, nI_leI, nI_eq, nI_clamp, nm_or, nm_and, nm_xor, nm_nd, nm_one, nm_shr, nm_b2, Bool.false_eq_true, Bool.true_eq_false, not_false_eq_true, not_true_eq_false, reduceCtorEq]; omega) | omega)) ?_ | refine wp_bf (by (first | (simp (disch := omega) only [wI_I, wI_s, nI_add, pk_mul, nI_ltI, nI_leI, nI_eq, nI_clamp, nm_or, nm_and, nm_xor, nm_nd, nm_one, nm_shr, nm_b2, Bool.false_eq_true, Bool.true_eq_false, not_false_eq_true, not_true_eq_false, reduceCtorEq]; done) | (simp (disch := omega) only [wI_I, wI_s, nI_add, pk_mul, nI_ltI, nI_leI, nI_eq, nI_clamp, nm_or, nm_and, nm_xor, nm_nd, nm_one, nm_shr, nm_b2, Bool.false_eq_true, Bool.true_eq_false, not_false_eq_true, not_true_eq_false, reduceCtorEq]; omega) | omega)) ?_)
      exact wp_s ⟨rfl, rfl⟩
    | succ m ih =>
      intro i f hi hk
      obtain ⟨x1, x2⟩ := b5 i (by omega)
      obtain ⟨y1, y2⟩ := r5 i (by omega)
      have y3 := y2.1
      obtain ⟨n, G, FG⟩ := GF_sur f (b + 2 + 2 * i)
      have fr : Fr (q + 5) (q + 15) f (gw f (q + 5 + 2 * i) n G) := Fr.gw (by omega) (by omega)
      have inv : ∀ k, k < 5 → ∀ n' G', GF f (b + 2 + 2 * k) n' G' → GF (gw f (q + 5 + 2 * i) n G) (b + 2 + 2 * k) n' G' := fun k hk5 n' G' F' => fr.F (by omega) F'
      have back : ∀ k, k < 5 → ∀ n' G', GF (gw f (q + 5 + 2 * i) n G) (b + 2 + 2 * k) n' G' → GF f (b + 2 + 2 * k) n' G' := fun k hk5 n' G' F' => ⟨by rw [← fr (b + 2 + 2 * k) (by omega)]; exact F'.1, fun r hr => by rw [← fr (b + 2 + 2 * k + 1) (by omega)]; exact F'.2 r hr⟩
      obtain ⟨f', e1, e2, e3⟩ := ih (i + 1) (gw f (q + 5 + 2 * i) n G) (by omega) (fun k hk1 n' G' F' => by
        have F0 := back k (by omega) n' G' F'
        by_cases q1 : k = i
        · subst q1
          have h1 : nI n' = nI n := F0.1.symm.trans FG.1
          refine ⟨?_, fun r hr => ?_⟩
          · rw [h1]; exact gw_f.1
          · rw [← F0.2 r hr, FG.2 r hr]; exact gw_f.2 r hr
        · exact gw_F (by omega) (hk k (by omega) n' G' F0))
      refine ⟨f', ?_, fun k hk5 n' G' F' => e2 k hk5 n' G' (inv k hk5 n' G' F'), fr.tr e3⟩
      rw [r_Box_giveBack_7]
      apply wp_e
      repeat (first | refine wp_isC (by assumption) ?_ | refine wp_nnR (by assumption) ?_ | refine wp_inA (by assumption) rfl (by omega) (by omega) ?_ | refine wp_isZ (by decide) ?_ | refine wp_bt (by (first | (simp (disch := omega) only [wI_I, wI_s, nI_add, pk_mul, nI_ltI, nI_leI, nI_eq, nI_clamp, nm_or, nm_and, nm_xor, nm_nd, nm_one, nm_shr, nm_b2, Bool.false_eq_true, Bool.true_eq_false, not_false_eq_true, not_true_eq_false, reduceCtorEq]; done) | (simp (disch := omega) only [wI_I, wI_s, nI_add, pk_mul, nI_ltI, nI_leI, nI_eq, nI_clamp, nm_or, nm_and, nm_xor, nm_nd, nm_one, nm_shr, nm_b2, Bool.false_eq_true, Bool.true_eq_false, not_false_eq_true, not_true_eq_false, reduceCtorEq]; omega) | omega)) ?_ | refine wp_bf (by (first | (simp (disch := omega) only [wI_I, wI_s, nI_add, pk_mul, nI_ltI, nI_leI, nI_eq, nI_clamp, nm_or, nm_and, nm_xor, nm_nd, nm_one, nm_shr, nm_b2, Bool.false_eq_true, Bool.true_eq_false, not_false_eq_true, not_true_eq_false, reduceCtorEq]; done) | (simp (disch := omega) only [wI_I, wI_s, nI_add, pk_mul, nI_ltI, nI_leI, nI_eq, nI_clamp, nm_or, nm_and, nm_xor, nm_nd, nm_one, nm_shr, nm_b2, Bool.false_eq_true, Bool.true_eq_false, not_false_eq_true, not_true_eq_false, reduceCtorEq]; omega) | omega)) ?_)
      rw [nI_clamp (by omega)]
      repeat (first | refine wp_isC (by assumption) ?_ | refine wp_nnR (by assumption) ?_ | refine wp_inA (by assumption) rfl (by omega) (by omega) ?_ | refine wp_isZ (by decide) ?_ | refine wp_bt (by (first | (simp (disch := omega) only [wI_I, wI_s, nI_add, pk_mul, nI_ltI, nI_leI, nI_eq, nI_clamp, nm_or, nm_and, nm_xor, nm_nd, nm_one, nm_shr, nm_b2, Bool.false_eq_true, Bool.true_eq_false, not_false_eq_true, not_true_eq_false, reduceCtorEq]; done) | (simp (disch := omega) only [wI_I, wI_s, nI_add, pk_mul, nI_ltI, nI_leI, nI_eq, nI_clamp, nm_or, nm_and, nm_xor, nm_nd, nm_one, nm_shr, nm_b2, Bool.false_eq_true, Bool.true_eq_false, not_false_eq_true, not_true_eq_false, reduceCtorEq]; omega) | omega)) ?_ | refine wp_bf (by (first | (simp (disch := omega) only [wI_I, wI_s, nI_add, pk_mul, nI_ltI, nI_leI, nI_eq, nI_clamp, nm_or, nm_and, nm_xor, nm_nd, nm_one, nm_shr, nm_b2, Bool.false_eq_true, Bool.true_eq_false, not_false_eq_true, not_true_eq_false, reduceCtorEq]; done) | (simp (disch := omega) only [wI_I, wI_s, nI_add, pk_mul, nI_ltI, nI_leI, nI_eq, nI_clamp, nm_or, nm_and, nm_xor, nm_nd, nm_one, nm_shr, nm_b2, Bool.false_eq_true, Bool.true_eq_false, not_false_eq_true, not_true_eq_false, reduceCtorEq]; omega) | omega)) ?_)
      refine wp_rVe (gq_copy y2 x2 (by omega) FG) ?_
      simp (disch := omega) only [wI_I, wI_s, nI_add, pk_mul, nI_ltI, nI_leI, nI_eq, nI_clamp, nm_or, nm_and, nm_xor, nm_nd, nm_one, nm_shr, nm_b2, Bool.false_eq_true, Bool.true_eq_false, not_false_eq_true, not_true_eq_false, reduceCtorEq]
      exact wp_of e1 ⟨rfl, rfl⟩
  have fr0 : Fr q (q + 1) f (up2 f q 1 s) := Fr.u2 (by omega) (by omega)
  obtain ⟨f', e1, e2, e3⟩ := L 5 0 (up2 f q 1 s) (by omega) (fun k hk => absurd hk (by omega))
  refine ⟨f', ?_, ?_, ?_, fun k hk n G F => e2 k hk n G (fr0.F (by omega) F), (fr0.up (by omega) (by omega)).tr (e3.up (by omega) (by omega))⟩
  · rw [r_Box_giveBack_0]
    apply wp_e
    repeat (first | refine wp_isC (by assumption) ?_ | refine wp_nnR (by assumption) ?_ | refine wp_inA (by assumption) rfl (by omega) (by omega) ?_ | refine wp_isZ (by decide) ?_ | refine wp_bt (by (first | (simp (disch := omega) only [wI_I, wI_s, nI_add, pk_mul, nI_ltI, nI_leI, nI_eq, nI_clamp, nm_or, nm_and, nm_xor, nm_nd, nm_one, nm_shr, nm_b2, Bool.false_eq_true, Bool.true_eq_false, not_false_eq_true, not_true_eq_false, reduceCtorEq]; done) | (simp (disch := omega) only [wI_I, wI_s, nI_add, pk_mul, nI_ltI, nI_leI, nI_eq, nI_clamp, nm_or, nm_and, nm_xor, nm_nd, nm_one, nm_shr, nm_b2, Bool.false_eq_true, Bool.true_eq_false, not_false_eq_true, not_true_eq_false, reduceCtorEq]; omega) | omega)) ?_ | refine wp_bf (by (first | (simp (disch := omega) only [wI_I, wI_s, nI_add, pk_mul, nI_ltI, nI_leI, nI_eq, nI_clamp, nm_or, nm_and, nm_xor, nm_nd, nm_one, nm_shr, nm_b2, Bool.false_eq_true, Bool.true_eq_false, not_false_eq_true, not_true_eq_false, reduceCtorEq]; done) | (simp (disch := omega) only [wI_I, wI_s, nI_add, pk_mul, nI_ltI, nI_leI, nI_eq, nI_clamp, nm_or, nm_and, nm_xor, nm_nd, nm_one, nm_shr, nm_b2, Bool.false_eq_true, Bool.true_eq_false, not_false_eq_true, not_true_eq_false, reduceCtorEq]; omega) | omega)) ?_)
    simp (disch := omega) only [wI_I, wI_s, nI_add, pk_mul, nI_ltI, nI_leI, nI_eq, nI_clamp, nm_or, nm_and, nm_xor, nm_nd, nm_one, nm_shr, nm_b2, Bool.false_eq_true, Bool.true_eq_false, not_false_eq_true, not_true_eq_false, reduceCtorEq, hs]
    exact wp_of e1 ⟨rfl, rfl⟩
  · rw [e3 q (by omega), up2_s]
  · intro j hj; rw [e3 q (by omega), up2_k hj]
