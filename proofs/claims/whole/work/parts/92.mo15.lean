/-! The plain form: a block is seen. -/
section
variable {h : MH} {f : Nat → Nat → Int32} {m : Nat} {S : Abs}
theorem mo_isBlock (C : MSH h m) (F : MF f m S) (W : WS S) (l b : Int32) : ev M_Mo_isBlock 0 0 [some (.ref m), some (.int l), some (.int b)] [] (wI h f) = some (some (.int (nI (match inN l (aV S + 1) with
    | none => false
    | some l => (inN b (2 ^ (2 * l))).isSome).toNat)), wI h f) := by
  have mc := C.1
  have ar2 : hR h m 12 = some (m + 2) := (C.2 1 (by decide)).1
  have an2 : hN h (m + 2) = 2 := (C.2 1 (by decide)).2.1
  have ac2 : hC h (m + 2) = 20 := (C.2 1 (by decide)).2.2
  have hv : aV S ≤ 4 := W.2.2.1.1.2.1
  rw [r_Mo_isBlock_0]
  refine wp_e (wp_isC mc (wp_nnR ar2 (wp_isC ac2 (wp_inA (n := 0) an2 rfl (by decide) (by decide) ?_))))
  rw [nI_clamp (by decide), wI_I, F.2.2.1.1]
  refine wp_rIe (mo_in0 _ (by omega)) ?_
  cases z : inN l (aV S + 1) with
  | none => exact wp_bt rfl (wp_isZ (by decide) (wp_s ⟨rfl, rfl⟩))
  | some k =>
    obtain ⟨e, k1, -⟩ := inN_s z
    subst e
    have p : 2 ^ (2 * k) ≤ 2 ^ 8 := Nat.pow_le_pow_right (by decide) (by omega)
    refine wp_bf n10 ?_
    rw [pk_mul, nm_one (by omega)]
    refine wp_rIe (mo_in1 _ (by omega)) ?_
    show wp _ (fun a b' => a = some (Value.int (nI (inN b (2 ^ (2 * k))).isSome.toNat)) ∧ _)
    cases inN b (2 ^ (2 * k)) with
    | none => exact wp_bt rfl (wp_isZ (by decide) (wp_s ⟨rfl, rfl⟩))
    | some j => exact wp_bf n10 (wp_isZ (by decide) (wp_s ⟨rfl, rfl⟩))
theorem m_seen (C : MSH h m) (F : MF f m S) (W : WS S) (l b c : Int32) (is : Bool) : ∃ f', ev M_Mo_seen 0 0 [some (.ref m), some (.int l), some (.int b), some (.int c), some (.int (nI is.toNat))] [] (wI h f) = some (some (.int (sSeen S l b c is)), wI h f') ∧ MF f' m (uSeen S l b c is) ∧ Fr m (m + 39) f f' := by
  have mc := C.1
  have ar3 : hR h m 13 = some (m + 3) := (C.2 2 (by decide)).1
  have an3 : hN h (m + 3) = 2 := (C.2 2 (by decide)).2.1
  have ac3 : hC h (m + 3) = 20 := (C.2 2 (by decide)).2.2
  have ar28 : hR h m 51 = some (m + 28) := (C.2 27 (by decide)).1
  have an28 : hN h (m + 28) = 30 := (C.2 27 (by decide)).2.1
  have ac28 : hC h (m + 28) = 20 := (C.2 27 (by decide)).2.2
  have ar29 : hR h m 52 = some (m + 29) := (C.2 28 (by decide)).1
  have an29 : hN h (m + 29) = 30 := (C.2 28 (by decide)).2.1
  have ac29 : hC h (m + 29) = 20 := (C.2 28 (by decide)).2.2
  have ar30 : hR h m 53 = some (m + 30) := (C.2 29 (by decide)).1
  have an30 : hN h (m + 30) = 30 := (C.2 29 (by decide)).2.1
  have ac30 : hC h (m + 30) = 20 := (C.2 29 (by decide)).2.2
  have ar31 : hR h m 54 = some (m + 31) := (C.2 30 (by decide)).1
  have an31 : hN h (m + 31) = 30 := (C.2 30 (by decide)).2.1
  have ac31 : hC h (m + 31) = 20 := (C.2 30 (by decide)).2.2
  have ar32 : hR h m 55 = some (m + 32) := (C.2 31 (by decide)).1
  have an32 : hN h (m + 32) = 30 := (C.2 31 (by decide)).2.1
  have ac32 : hC h (m + 32) = 20 := (C.2 31 (by decide)).2.2
  have ar33 : hR h m 56 = some (m + 33) := (C.2 32 (by decide)).1
  have an33 : hN h (m + 33) = 30 := (C.2 32 (by decide)).2.1
  have ac33 : hC h (m + 33) = 20 := (C.2 32 (by decide)).2.2
  obtain ⟨j1, j2, j3⟩ := F.2.2.2.2.2.2.2.2.1
  have v1 := W.2.2.2.2.2.2.1.1.1
  have hr5 : aR S ≤ 5 := W.2.2.1.1.2.2.2.1
  have ib := mo_isBlock C F W l b
  have rc := mo_in0 (x := c) (n := 256) (wI h f) (by decide)
  have bad : seenE S l b c is = none → ∀ f', f' = f → sSeen S l b c is = mI 1 ∧ MF f' m (uSeen S l b c is) ∧ Fr m (m + 39) f f' := by
    intro z f' e
    subst e
    unfold sSeen uSeen
    rw [z]
    exact ⟨rfl, F, Fr.rf⟩
  rw [r_Mo_seen_0]
  cases zl : inN l (aV S + 1) with
  | none =>
    have z : seenE S l b c is = none := by
      unfold seenE; rw [zl]; split <;> rfl
    rw [zl] at ib
    obtain ⟨x1, x2⟩ := bad z f rfl
    rw [x1]
    exact ⟨f, wp_e (wp_isC mc (wp_rIe ib (wp_bt rfl (wp_s ⟨rfl, rfl⟩)))), x2⟩
  | some l' =>
    rw [zl] at ib
    have ib : ev M_Mo_isBlock 0 0 [some (.ref m), some (.int l), some (.int b)] [] (wI h f) = some (some (.int (nI (inN b (2 ^ (2 * l'))).isSome.toNat)), wI h f) := ib
    cases zb : inN b (2 ^ (2 * l')) with
    | none =>
      have z : seenE S l b c is = none := by
        unfold seenE; rw [zl]; dsimp only; rw [zb]; split
        · rfl
        · split <;> rfl
      rw [zb] at ib
      obtain ⟨x1, x2⟩ := bad z f rfl
      rw [x1]
      exact ⟨f, wp_e (wp_isC mc (wp_rIe ib (wp_bt rfl (wp_s ⟨rfl, rfl⟩)))), x2⟩
    | some b' =>
      rw [zb] at ib
      cases zc : inN c 257 with
      | none =>
        have z : seenE S l b c is = none := by
          unfold seenE; rw [zl]; dsimp only; rw [zc]; split <;> rfl
        rw [zc] at rc
        obtain ⟨x1, x2⟩ := bad z f rfl
        rw [x1]
        exact ⟨f, wp_e (wp_isC mc (wp_rIe ib (wp_bf n10 (wp_rIe rc (wp_bt rfl (wp_s ⟨rfl, rfl⟩)))))), x2⟩
      | some c' =>
        rw [zc] at rc
        by_cases y : (aE S).length = 30
        · have z : seenE S l b c is = none := by
            unfold seenE; rw [zl]; dsimp only; rw [zc]; dsimp only; rw [zb]; dsimp only; rw [if_neg (show ¬ (aE S).length < 30 by omega)]; split <;> rfl
          obtain ⟨x1, x2⟩ := bad z f rfl
          rw [x1]
          exact ⟨f, wp_e (wp_isC mc (wp_rIe ib (wp_bf n10 (wp_rIe rc (wp_bf n10 (wp_isC mc (wp_bt (by rw [wI_I, j1, y]) (wp_s ⟨rfl, rfl⟩)))))))), x2⟩
        · by_cases y2 : aR S = 0
          · have z : seenE S l b c is = none := by unfold seenE; rw [if_pos y2]
            obtain ⟨x1, x2⟩ := bad z f rfl
            rw [x1]
            refine ⟨f, wp_e (wp_isC mc (wp_rIe ib (wp_bf n10 (wp_rIe rc (wp_bf n10 (wp_isC mc (wp_bf (by rw [wI_I, j1, nI_eq (by omega) (by decide)]; exact y) (wp_isC mc (wp_nnR ar3 (wp_isC ac3 (wp_inA (n := 0) an3 rfl (by decide) (by decide) (wp_bt ?_ (wp_s ⟨rfl, rfl⟩))))))))))))), x2⟩
            rw [nI_clamp (by decide), wI_I, F.2.2.1.2.1, y2]
          · obtain ⟨e1, k1, -⟩ := inN_s zl
            obtain ⟨e2, k2, -⟩ := inN_s zb
            obtain ⟨e3, k3, -⟩ := inN_s zc
            have z : seenE S l b c is = some (l', b', c', is, aM S, none) := by
              unfold seenE; rw [if_neg y2, zl]; dsimp only; rw [zc]; dsimp only; rw [zb]; dsimp only; rw [if_pos (by omega)]
            unfold sSeen uSeen
            rw [z]
            subst e1
            subst e2
            subst e3
            generalize hn : (aE S).length = n at *
            refine ⟨up2 (up2 (up2 (up2 (up2 (up2 (up2 f (m + 28) n (nI l')) (m + 29) n (nI b')) (m + 30) n (nI c')) (m + 31) n (nI is.toNat)) (m + 32) n (nI (aM S))) (m + 33) n (mI 1)) m 57 (nI (n + 1)), wp_e (wp_isC mc (wp_rIe ib (wp_bf n10 (wp_rIe rc (wp_bf n10 (wp_isC mc (wp_bf (by rw [wI_I, j1, nI_eq (by omega) (by decide)]; exact y) (wp_isC mc (wp_nnR ar3 (wp_isC ac3 (wp_inA (n := 0) an3 rfl (by decide) (by decide) (wp_bf ?_ ?_)))))))))))), F.e (fun b h1 h2 => ?_) (fun k h1 h2 => ?_) ?_ ?_ (fun i e he => ?_), fun b hb => ?_⟩
            · rw [nI_clamp (by decide), wI_I, F.2.2.1.2.1, nI_eq (by omega) (by decide)]; exact y2
            · have tr := fun h => mo_truth is h
              repeat (first | refine wp_isC (by assumption) ?_ | refine wp_nnR (by assumption) ?_ | refine wp_inA (by assumption) rfl (by omega) (by omega) ?_ | refine wp_isZ (by first | decide | exact b01z _) ?_ | refine wp_bt (by (first | (simp (disch := omega) only [wI_I, wI_s, nI_add, pk_mul, nI_ltI, nI_leI, nI_eq, nI_clamp, nm_or, nm_and, nm_xor, nm_nd, nm_one, nm_shr, nm_b2, Bool.false_eq_true, Bool.true_eq_false, not_false_eq_true, not_true_eq_false, reduceCtorEq, j1, j2]; done) | (simp (disch := omega) only [wI_I, wI_s, nI_add, pk_mul, nI_ltI, nI_leI, nI_eq, nI_clamp, nm_or, nm_and, nm_xor, nm_nd, nm_one, nm_shr, nm_b2, Bool.false_eq_true, Bool.true_eq_false, not_false_eq_true, not_true_eq_false, reduceCtorEq, j1, j2]; omega) | omega)) ?_ | refine wp_bf (by (first | (simp (disch := omega) only [wI_I, wI_s, nI_add, pk_mul, nI_ltI, nI_leI, nI_eq, nI_clamp, nm_or, nm_and, nm_xor, nm_nd, nm_one, nm_shr, nm_b2, Bool.false_eq_true, Bool.true_eq_false, not_false_eq_true, not_true_eq_false, reduceCtorEq, j1, j2]; done) | (simp (disch := omega) only [wI_I, wI_s, nI_add, pk_mul, nI_ltI, nI_leI, nI_eq, nI_clamp, nm_or, nm_and, nm_xor, nm_nd, nm_one, nm_shr, nm_b2, Bool.false_eq_true, Bool.true_eq_false, not_false_eq_true, not_true_eq_false, reduceCtorEq, j1, j2]; omega) | omega)) ?_ | refine wp_nz (by first | decide | exact nz_n (by omega) (by omega)) ?_ | (simp (disch := omega) only [wI_I, wI_s, nI_add, pk_mul, nI_ltI, nI_leI, nI_eq, nI_clamp, nm_or, nm_and, nm_xor, nm_nd, nm_one, nm_shr, nm_b2, Bool.false_eq_true, Bool.true_eq_false, not_false_eq_true, not_true_eq_false, reduceCtorEq, up2_a, up2_k, up2_s, gw_o, j1, j2]))
              refine wp_rIe (tr _) ?_
              repeat (first | refine wp_isC (by assumption) ?_ | refine wp_nnR (by assumption) ?_ | refine wp_inA (by assumption) rfl (by omega) (by omega) ?_ | refine wp_isZ (by first | decide | exact b01z _) ?_ | refine wp_bt (by (first | (simp (disch := omega) only [wI_I, wI_s, nI_add, pk_mul, nI_ltI, nI_leI, nI_eq, nI_clamp, nm_or, nm_and, nm_xor, nm_nd, nm_one, nm_shr, nm_b2, Bool.false_eq_true, Bool.true_eq_false, not_false_eq_true, not_true_eq_false, reduceCtorEq, j1, j2]; done) | (simp (disch := omega) only [wI_I, wI_s, nI_add, pk_mul, nI_ltI, nI_leI, nI_eq, nI_clamp, nm_or, nm_and, nm_xor, nm_nd, nm_one, nm_shr, nm_b2, Bool.false_eq_true, Bool.true_eq_false, not_false_eq_true, not_true_eq_false, reduceCtorEq, j1, j2]; omega) | omega)) ?_ | refine wp_bf (by (first | (simp (disch := omega) only [wI_I, wI_s, nI_add, pk_mul, nI_ltI, nI_leI, nI_eq, nI_clamp, nm_or, nm_and, nm_xor, nm_nd, nm_one, nm_shr, nm_b2, Bool.false_eq_true, Bool.true_eq_false, not_false_eq_true, not_true_eq_false, reduceCtorEq, j1, j2]; done) | (simp (disch := omega) only [wI_I, wI_s, nI_add, pk_mul, nI_ltI, nI_leI, nI_eq, nI_clamp, nm_or, nm_and, nm_xor, nm_nd, nm_one, nm_shr, nm_b2, Bool.false_eq_true, Bool.true_eq_false, not_false_eq_true, not_true_eq_false, reduceCtorEq, j1, j2]; omega) | omega)) ?_ | refine wp_nz (by first | decide | exact nz_n (by omega) (by omega)) ?_ | (simp (disch := omega) only [wI_I, wI_s, nI_add, pk_mul, nI_ltI, nI_leI, nI_eq, nI_clamp, nm_or, nm_and, nm_xor, nm_nd, nm_one, nm_shr, nm_b2, Bool.false_eq_true, Bool.true_eq_false, not_false_eq_true, not_true_eq_false, reduceCtorEq, up2_a, up2_k, up2_s, gw_o, j1, j2]))
              exact wp_s ⟨by rw [nm_m1 (by omega)]; rfl, rfl⟩
            · rw [up2_a h1, up2_a (by omega), up2_a (by omega), up2_a (by omega), up2_a (by omega), up2_a (by omega), up2_a (by omega)]
            · rw [up2_k h1, up2_a (by omega), up2_a (by omega), up2_a (by omega), up2_a (by omega), up2_a (by omega), up2_a (by omega)]
            · rw [up2_s, List.length_append, hn]; rfl
            · rw [up2_k (by decide), up2_a (by omega), up2_a (by omega), up2_a (by omega), up2_a (by omega), up2_a (by omega), up2_a (by omega)]; exact j2
            · rcases app1 he with ⟨w, w2⟩ | ⟨w, w2⟩
              · have := j3 i e w2
                have w3 : i ≠ n := by omega
                simp (disch := omega) only [up2_a, up2_k]
                exact this
              · rw [hn] at w
                subst w
                subst w2
                simp (disch := omega) only [up2_a, up2_k, up2_s]
                exact ⟨trivial, trivial, trivial, trivial, trivial, rfl⟩
            · rw [up2_a (by omega), up2_a (by omega), up2_a (by omega), up2_a (by omega), up2_a (by omega), up2_a (by omega), up2_a (by omega)]
end
