/-! The plain form: the text. -/
theorem and255 (y : Int32) : y &&& nI 255 = nI (y.toBitVec.toNat % 256) := by
  apply Int32.toBitVec_inj.mp
  apply BitVec.eq_of_toNat_eq
  show (y.toBitVec &&& BitVec.ofNat 32 255).toNat = (BitVec.ofNat 32 (y.toBitVec.toNat % 256)).toNat
  rw [BitVec.toNat_and, BitVec.toNat_ofNat, BitVec.toNat_ofNat, show 255 % 2 ^ 32 = 2 ^ 8 - 1 from rfl, Nat.and_two_pow_sub_one_eq_mod, Nat.mod_eq_of_lt (a := y.toBitVec.toNat % 256) (by omega)]
theorem MF.t {m : Nat} {f f' : Nat → Nat → Int32} {S : Abs} {t : Nat → Nat} {n : Nat} (F : MF f m S) (o : ∀ b, b ≠ m → b ≠ m + 1 → f' b = f b) (s : ∀ k, k ≠ 1 → f' m k = f m k) (e1 : f' m 1 = nI n) (e2 : ∀ i, i < n → f' (m + 1) i = nI (t i)) : MF f' m (bT S t n) := by
  obtain ⟨-, ⟨b1, b2⟩, c1, ⟨d1, d2, d3, d4⟩, e1', g1, ⟨h1, h2, h3⟩, ⟨i1, i2⟩, ⟨j1, j2, j3⟩, k1⟩ := F
  refine ⟨⟨e1, e2⟩, ⟨by rw [s _ (by decide)]; exact b1, by rw [s _ (by decide)]; exact b2⟩, c1.o (fun b hb => o b (by omega) (by omega)), ⟨by rw [o _ (by omega) (by omega)]; exact d1, by rw [o _ (by omega) (by omega)]; exact d2, by rw [o _ (by omega) (by omega)]; exact d3, fun i k hk => by rw [o _ (by omega) (by omega)]; exact d4 i k hk⟩, fun k hk hz r hr => by rw [o _ (by omega) (by omega)]; exact e1' k hk hz r hr, fun i hi => by rw [o _ (by omega) (by omega)]; exact g1 i hi, ⟨by rw [s _ (by decide)]; exact h1, by rw [s _ (by decide)]; exact h2, fun k i hk hi => by rw [o _ (by omega) (by omega)]; exact h3 k i hk hi⟩, ⟨by rw [s _ (by decide)]; exact i1, fun i e he => by rw [o _ (by omega) (by omega)]; exact i2 i e he⟩, ⟨by rw [s _ (by decide)]; exact j1, by rw [s _ (by decide)]; exact j2, fun i e he => ?_⟩, fun b hb => ⟨by rw [o _ (by omega) (by omega)]; exact (k1 b hb).1, fun t ht i hi => by rw [o _ (by omega) (by omega)]; exact (k1 b hb).2 t ht i hi⟩⟩
  rw [o (m + 28) (by omega) (by omega), o (m + 29) (by omega) (by omega), o (m + 30) (by omega) (by omega), o (m + 31) (by omega) (by omega), o (m + 32) (by omega) (by omega), o (m + 33) (by omega) (by omega)]
  exact j3 i e he
section
variable {h : MH} {f : Nat → Nat → Int32} {m : Nat} {S : Abs}
theorem mo_four {n : Nat} {x : Int32} (C : MSH h m) (hn : n + 4 ≤ 1600) (e : f m 1 = nI n) : ∃ f', ev M_Mo_four 0 0 [some (.ref m), some (.int x), none] [] (wI h f) = some (none, wI h f') ∧ f' m 1 = nI (n + 4) ∧ (∀ t : Nat → Nat, (∀ i, i < n → f (m + 1) i = nI (t i)) → ∀ i, i < n + 4 → f' (m + 1) i = nI (lay4 t n x i)) ∧ (∀ b, b ≠ m → b ≠ m + 1 → f' b = f b) ∧ ∀ k, k ≠ 1 → f' m k = f m k := by
  have mc := C.1
  have ar1 : hR h m 0 = some (m + 1) := (C.2 0 (by decide)).1
  have an1 : hN h (m + 1) = 1600 := (C.2 0 (by decide)).2.1
  have ac1 : hC h (m + 1) = 20 := (C.2 0 (by decide)).2.2
  have st : ∀ k n f (Q : Option Value → MH → Prop), k ≤ 24 → n < 1600 → f m 1 = nI n → wp (ev M_Mo_four 0 3 [some (.ref m), some (.int x), some (.int (nI k + mI 8))] [] (wI h (up2 (up2 f (m + 1) n (nI (byt x k))) m 1 (nI (n + 1))))) Q → wp (ev M_Mo_four 0 3 [some (.ref m), some (.int x), some (.int (nI k))] [] (wI h f)) Q := by
    intro k n f Q hk hn e H
    rw [r_Mo_four_3]
    refine wp_bf (nI_pos (by omega)) (wp_isC mc (wp_nnR ar1 (wp_isC mc (wp_isC ac1 ?_))))
    rw [wI_I, e]
    refine wp_inA an1 rfl hn (by omega) ?_
    rw [nI_clamp (by omega), wI_s]
    refine wp_isC mc (wp_isC mc ?_)
    rw [wI_I, up2_a (by omega), e, nI_add, wI_s, and255, byt_bv x hk]
    exact H
  refine ⟨up2 (up2 (up2 (up2 (up2 (up2 (up2 (up2 f (m + 1) n (nI (byt x 24))) m 1 (nI (n + 1))) (m + 1) (n + 1) (nI (byt x 16))) m 1 (nI (n + 1 + 1))) (m + 1) (n + 1 + 1) (nI (byt x 8))) m 1 (nI (n + 1 + 1 + 1))) (m + 1) (n + 1 + 1 + 1) (nI (byt x 0))) m 1 (nI (n + 1 + 1 + 1 + 1)), wp_e ?_, up2_s, fun t ht i hi => ?_, fun b h1 h2 => ?_, fun k hk => ?_⟩
  · rw [r_Mo_four_0]
    refine st 24 n f _ (by decide) (by omega) e ?_
    rw [show nI 24 + mI 8 = nI 16 from rfl]
    refine st 16 (n + 1) _ _ (by decide) (by omega) up2_s ?_
    rw [show nI 16 + mI 8 = nI 8 from rfl]
    refine st 8 (n + 1 + 1) _ _ (by decide) (by omega) up2_s ?_
    rw [show nI 8 + mI 8 = nI 0 from rfl]
    refine st 0 (n + 1 + 1 + 1) _ _ (by decide) (by omega) up2_s ?_
    rw [show nI 0 + mI 8 = mI 8 from rfl, r_Mo_four_3]
    exact wp_bt (by decide) (wp_s ⟨rfl, rfl⟩)
  · unfold lay4
    rw [up2_a (by omega)]
    by_cases z3 : i = n + 1 + 1 + 1
    · rw [z3, up2_s, if_neg (by omega), if_neg (by omega), if_neg (by omega), if_pos (by omega)]
    · rw [up2_k z3, up2_a (by omega)]
      by_cases z2 : i = n + 1 + 1
      · rw [z2, up2_s, if_neg (by omega), if_neg (by omega), if_pos (by omega)]
      · rw [up2_k z2, up2_a (by omega)]
        by_cases z1 : i = n + 1
        · rw [z1, up2_s, if_neg (by omega), if_pos (by omega)]
        · rw [up2_k z1, up2_a (by omega)]
          by_cases z0 : i = n
          · rw [z0, up2_s, if_pos rfl]
          · rw [up2_k z0, if_neg z0, if_neg z1, if_neg z2, if_neg z3]
            exact ht i (by omega)
  · rw [up2_a h1, up2_a h2, up2_a h1, up2_a h2, up2_a h1, up2_a h2, up2_a h1, up2_a h2]
  · rw [up2_k hk, up2_a (by omega), up2_k hk, up2_a (by omega), up2_k hk, up2_a (by omega), up2_k hk, up2_a (by omega)]
theorem m_feed (C : MSH h m) (F : MF f m S) (W : WS S) (a b c d e : Int32) : ∃ f', ev M_Mo_feed 0 0 [some (.ref m), some (.int a), some (.int b), some (.int c), some (.int d), some (.int e)] [] (wI h f) = some (some (.int (sFeed S)), wI h f') ∧ MF f' m (uFeed S a b c d e) ∧ Fr m (m + 39) f f' := by
  have mc := C.1
  obtain ⟨t1, t2⟩ := F.1
  have hn := W.1.1
  rw [r_Mo_feed_0]
  unfold sFeed uFeed
  by_cases z : aN S + 20 ≤ 1600
  · rw [if_pos z, if_pos z]
    obtain ⟨f1, a1, a2, a3, a4, a5⟩ := mo_four (x := a) C (by omega) t1
    obtain ⟨f2, b1, b2, b3, b4, b5⟩ := mo_four (x := b) C (by omega) a2
    obtain ⟨f3, c1, c2, c3, c4, c5⟩ := mo_four (x := c) C (by omega) b2
    obtain ⟨f4, d1, d2, d3, d4, d5⟩ := mo_four (x := d) C (by omega) c2
    obtain ⟨f5, e1, e2, e3, e4, e5⟩ := mo_four (x := e) C (by omega) d2
    refine ⟨f5, wp_e (wp_isC mc ?_), F.t (fun b h1 h2 => by rw [e4 b h1 h2, d4 b h1 h2, c4 b h1 h2, b4 b h1 h2, a4 b h1 h2]) (fun k hk => by rw [e5 k hk, d5 k hk, c5 k hk, b5 k hk, a5 k hk]) e2 (e3 _ (d3 _ (c3 _ (b3 _ (a3 _ t2))))), fun b hb => by rw [e4 b (by omega) (by omega), d4 b (by omega) (by omega), c4 b (by omega) (by omega), b4 b (by omega) (by omega), a4 b (by omega) (by omega)]⟩
    rw [wI_I, t1, nI_add]
    refine wp_bf (by rw [nI_ltI (by decide) (by omega)]; omega) (wp_isC mc (wp_rVe a1 (wp_isC mc (wp_rVe b1 (wp_isC mc (wp_rVe c1 (wp_isC mc (wp_rVe d1 (wp_isC mc (wp_rVe e1 (wp_isC mc (wp_s ⟨?_, rfl⟩))))))))))))
    rw [wI_I, e2]
  · rw [if_neg z, if_neg z]
    refine ⟨f, wp_e (wp_isC mc ?_), F, Fr.rf⟩
    rw [wI_I, t1, nI_add]
    exact wp_bt (by rw [nI_ltI (by decide) (by omega)]; omega) (wp_s ⟨rfl, rfl⟩)
theorem m_end (C : MSH h m) (F : MF f m S) (W : WS S) (n : Int32) : ∃ f', ev M_Mo_end 0 0 [some (.ref m), some (.int n)] [] (wI h f) = some (some (.int (sEnd S n)), wI h f') ∧ MF f' m (uEnd S n) ∧ Fr m (m + 39) f f' := by
  have mc := C.1
  obtain ⟨t1, t2⟩ := F.1
  have hn := W.1.1
  have r1 := mo_in0 (x := n) (n := aN S) (wI h f) (by omega)
  rw [r_Mo_end_0]
  unfold sEnd uEnd
  cases z : inN n (aN S + 1) with
  | none =>
    rw [z] at r1
    refine ⟨f, wp_e (wp_isC mc ?_), F, Fr.rf⟩
    rw [wI_I, t1]
    exact wp_rIe r1 (wp_bt rfl (wp_s ⟨rfl, rfl⟩))
  | some k =>
    rw [z] at r1
    obtain ⟨e, k1, k2⟩ := inN_s z
    subst e
    refine ⟨up2 f m 1 (nI k), wp_e (wp_isC mc ?_), F.t (fun b h1 _ => up2_a h1) (fun k hk => up2_k hk) up2_s (fun i hi => by rw [up2_a (by omega)]; exact t2 i (by omega)), Fr.u2 (by omega) (by omega)⟩
    rw [wI_I, t1]
    exact wp_rIe r1 (wp_bf n10 (wp_isC mc (wp_s ⟨rfl, rfl⟩)))
end
