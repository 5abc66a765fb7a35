/-! The plain form: pairs put and taken, whole relations made, sifted, drift; images. -/
section
variable {h : MH} {f : Nat → Nat → Int32} {m : Nat} {S : Abs}
theorem sv_set {A : Nat → Rw} {B : Rw} {k v i : Nat} (hi : i < 81) : sv (setA A (some k) B, v) i = if i < 80 then (if i / 16 = k then B (i % 16) else A (i / 16) (i % 16)) else v := by
  unfold sv
  by_cases z : i < 80
  · rw [if_pos z, if_pos z]
    show (if i / 16 = k then B else A (i / 16)) (i % 16) = _
    by_cases w : i / 16 = k
    · rw [if_pos w, if_pos w]
    · rw [if_neg w, if_neg w]
  · rw [if_neg z, if_neg z]
def scr (m : Nat) (f g : Nat → Nat → Int32) (b : Nat) : Nat → Int32 := if b = m then (fun k => if k = 42 ∨ k = 47 then g m k else f m k) else if m + 18 ≤ b ∧ b ≤ m + 26 then g b else f b
theorem scr_M {f g : Nat → Nat → Int32} : MX m f (scr m f g) := ⟨fun b h1 h2 _ => by unfold scr; rw [if_neg h1, if_neg (by omega)], fun k h1 h2 => by unfold scr; rw [if_pos rfl, if_neg (by omega)]⟩
/-- an act, told by what is there at its end -/
theorem mf_act {f f' : Nat → Nat → Int32} {s : Sd} (F : MF f m S) (e1 : f' m 36 = nI (aD S - cD S + 1)) (e2 : f' m 37 = nI 0) (e3 : ∀ k i, k < aD S - cD S + 1 → i < 81 → f' (m + 17) (81 * k + i) = nI (sv (aS S (k + cD S)) i)) (o : ∀ b, b ≠ m → b ≠ m + 16 → b ≠ m + 17 → b < m + 18 ∨ m + 26 < b → f' b = f b) (u : ∀ k, k ≠ 36 → k ≠ 37 → k ≠ 42 → k ≠ 47 → f' m k = f m k) (n : ∀ i, i < 81 → f' (m + 16) i = nI (sv s i)) : MF f' m (push S s) := by
  have F2 : MF (scr m f f') m S := scr_M.F F
  show MF f' m (bH S (aD S - cD S + 1) (aD S - cD S + 1) (fun k => if k = aD S - cD S + 1 then s else aS S (k + cD S)))
  refine F2.h (fun b h1 h2 h3 => ?_) (fun k h1 h2 => ?_) (fun i hi => ?_) e1 (by rw [Nat.sub_self]; exact e2) (fun j i hj hi => ?_)
  · unfold scr
    rw [if_neg h1]
    by_cases z : m + 18 ≤ b ∧ b ≤ m + 26
    · rw [if_pos z]
    · rw [if_neg z]; exact o b h1 h2 h3 (by omega)
  · unfold scr
    rw [if_pos rfl]
    by_cases z : k = 42 ∨ k = 47
    · rw [if_pos z]
    · rw [if_neg z]; exact u k h1 h2 (by omega) (by omega)
  · rw [if_pos rfl]; exact n i hi
  · rw [if_pos hj, if_neg (by omega)]; exact e3 j i hj hi
theorem mo_turns (C : MSH h m) (F : MF f m S) (W : WS S) (a b c : Int32) (p : Bool) : ∃ f', ev M_Mo_turns 0 0 [some (.ref m), some (.int a), some (.int b), some (.int c), some (.int (nI (!p).toNat))] [] (wI h f) = some (some (.int (sTurn S a b c p)), wI h f') ∧ MF f' m (uTurn S a b c p) ∧ Fr m (m + 39) f f' := by
  have mc := C.1
  have ar9 : hR h m 19 = some (m + 9) := (C.2 8 (by decide)).1
  have an9 : hN h (m + 9) = 10 := (C.2 8 (by decide)).2.1
  have ac9 : hC h (m + 9) = 20 := (C.2 8 (by decide)).2.2
  have ar16 : hR h m 34 = some (m + 16) := (C.2 15 (by decide)).1
  have an16 : hN h (m + 16) = 81 := (C.2 15 (by decide)).2.1
  have ac16 : hC h (m + 16) = 20 := (C.2 15 (by decide)).2.2
  have pr := mo_arePair C F W a b c
  have hr5 : aR S ≤ 5 := W.2.2.1.1.2.2.2.1
  have h16 : aW S ≤ 16 := lv_p W.2.2.1.1.2.1
  have hN := F.2.2.2.2.2.1
  rw [r_Mo_turns_0]
  unfold sTurn uTurn tdN
  cases za : inN a (aR S) with
  | none =>
    rw [za] at pr
    exact ⟨f, wp_e (wp_isC mc (wp_rIe pr (wp_bt rfl (wp_s ⟨rfl, rfl⟩)))), F, Fr.rf⟩
  | some k =>
    obtain ⟨e1, k1, -⟩ := inN_s za
    have f9 := F.2.2.1.2.2.1 k k1
    dsimp only
    cases zb : inN b (aW S) with
    | none =>
      rw [za, zb] at pr
      cases (vTd (aQ S)).testBit k with
      | true => exact ⟨f, wp_e (wp_isC mc (wp_rIe pr (wp_bt rfl (wp_s ⟨rfl, rfl⟩)))), F, Fr.rf⟩
      | false => exact ⟨f, wp_e (wp_isC mc (wp_rIe pr (wp_bt rfl (wp_s ⟨rfl, rfl⟩)))), F, Fr.rf⟩
    | some i =>
      cases zc : inN c (aW S) with
      | none =>
        rw [za, zb, zc] at pr
        cases (vTd (aQ S)).testBit k with
        | true => exact ⟨f, wp_e (wp_isC mc (wp_rIe pr (wp_bt rfl (wp_s ⟨rfl, rfl⟩)))), F, Fr.rf⟩
        | false => exact ⟨f, wp_e (wp_isC mc (wp_rIe pr (wp_bt rfl (wp_s ⟨rfl, rfl⟩)))), F, Fr.rf⟩
      | some j =>
        rw [za, zb, zc] at pr
        obtain ⟨e2, k2, -⟩ := inN_s zb
        obtain ⟨e3, k3, -⟩ := inN_s zc
        subst e1
        subst e2
        subst e3
        cases zt : (vTd (aQ S)).testBit k with
        | false =>
          rw [zt] at f9
          refine ⟨f, wp_e (wp_isC mc (wp_rIe pr (wp_bf n10 (wp_isC mc (wp_nnR ar9 (wp_isC ac9 (wp_inA an9 rfl (by omega) (by omega) ?_))))))), F, Fr.rf⟩
          rw [nI_clamp (by omega), wI_I, f9]
          exact wp_bt rfl (wp_s ⟨rfl, rfl⟩)
        | true =>
          rw [zt] at f9
          dsimp only [on]
          have eG : aG S k = (aS S (aD S)).1 k := gA_t k1 zt
          have V := aG_W W k
          have ei : (nI 16 * nI k + nI i).toNatClampNeg = 16 * k + i := by rw [pk_mul, nI_add, nI_clamp (by omega)]
          have en : f (m + 16) (16 * k + i) = nI (aG S k i) := by rw [eG]; exact F.now k (by omega) i (by omega)
          have hb : ∀ (u : Nat), (nI u >>> (nI j &&& 31)) &&& nI 1 = nI ((u.testBit j).toNat) ∨ ¬ u < 2 ^ 31 := fun u => by
            by_cases z : u < 2 ^ 31
            · refine Or.inl ?_
              rw [nm_shr (by omega) z, nm_and, Nat.and_one_is_mod, ← Nat.toNat_testBit]
            · exact Or.inr z
          have hbit : (nI (aG S k i) >>> (nI j &&& 31)) &&& nI 1 = nI (((aG S k i).testBit j).toNat) := by
            rcases hb (aG S k i) with z | z
            · exact z
            · exact absurd (Nat.lt_of_lt_of_le (V.lt i) (by decide)) z
          by_cases zp : (aG S k i).testBit j = p
          · obtain ⟨f1, q1, q2, q3, q4, q5⟩ := mo_keeps C F W
            have V2 := V.flp k2 k3
            have n16 : f1 (m + 16) = f (m + 16) := q5.1 _ (by omega) (by omega)
            simp only [if_pos zp, if_true]
            have nn : ∀ t, t < 81 → up2 f1 (m + 16) (16 * k + i) (nI (aG S k i ^^^ 2 ^ j)) (m + 16) t = nI (sv (setA (aS S (aD S)).1 (some k) (flp (aG S k) i j), (aS S (aD S)).2) t) := by
              intro t ht
              rw [sv_set ht]
              by_cases w : t = 16 * k + i
              · rw [w, up2_s, if_pos (by omega), if_pos (by omega)]
                show nI _ = nI (if (16 * k + i) % 16 = i then _ else _)
                rw [if_pos (by omega)]
              · rw [up2_k w, n16, hN t ht]
                unfold sv
                by_cases y : t < 80
                · rw [if_pos y, if_pos y]
                  by_cases u : t / 16 = k
                  · rw [if_pos u, u]
                    show nI _ = nI (if t % 16 = i then _ else aG S k (t % 16))
                    rw [if_neg (by omega), eG]
                  · rw [if_neg u]
                · rw [if_neg y, if_neg y]
            have MFp := MF.push (f' := up2 f1 (m + 16) (16 * k + i) (nI (aG S k i ^^^ 2 ^ j))) (s := (setA (aS S (aD S)).1 (some k) (flp (aG S k) i j), (aS S (aD S)).2)) F q2 q3 q4 q5 (fun b hb => up2_a hb) nn
            have Rn : RF (up2 f1 (m + 16) (16 * k + i) (nI (aG S k i ^^^ 2 ^ j))) (m + 16) (16 * k) (flp (aG S k) i j) := fun r hr => by
              rw [nn (16 * k + r) (by omega), sv_set (by omega), if_pos (by omega), if_pos (by omega), show (16 * k + r) % 16 = r by omega]
            refine ⟨up2 f1 (m + 16) (16 * k + i) (nI (aG S k i ^^^ 2 ^ j)), wp_e (wp_isC mc (wp_rIe pr (wp_bf n10 (wp_isC mc (wp_nnR ar9 (wp_isC ac9 (wp_inA an9 rfl (by omega) (by omega) ?_))))))), MFp, fun b hb => by rw [up2_a (by omega)]; exact q5.1 b (by omega) (by omega)⟩
            rw [nI_clamp (by omega), wI_I, f9]
            refine wp_bf n10 (wp_isC mc (wp_nnR ar16 (wp_isC ac16 (wp_inA (n := 16 * k + i) an16 (by rw [pk_mul, nI_add]) (by omega) (by omega) ?_))))
            rw [ei, en, hbit, zp]
            refine wp_bf (by cases p <;> decide) (wp_isC mc (wp_rVe q1 (wp_isC mc (wp_nnR ar16 (wp_isC ac16 (wp_inA (n := 16 * k + i) an16 (by rw [pk_mul, nI_add]) (by omega) (by omega) (wp_isC ac16 (wp_inA (n := 16 * k + i) an16 (by rw [pk_mul, nI_add]) (by omega) (by omega) ?_))))))))
            rw [wI_I, n16, en, nm_one (by omega), nm_xor, wI_s]
            refine wp_isC mc (wp_nnR ar16 ?_)
            rw [pk_mul]
            refine wp_rIe (mo_manyIn ac16 an16 (by omega) (by decide) Rn V2.lt) (wp_s ⟨?_, rfl⟩)
            rw [ct_16 V2]
          · simp only [if_neg zp, if_true]
            refine ⟨f, wp_e (wp_isC mc (wp_rIe pr (wp_bf n10 (wp_isC mc (wp_nnR ar9 (wp_isC ac9 (wp_inA an9 rfl (by omega) (by omega) ?_))))))), F, Fr.rf⟩
            rw [nI_clamp (by omega), wI_I, f9]
            refine wp_bf n10 (wp_isC mc (wp_nnR ar16 (wp_isC ac16 (wp_inA (n := 16 * k + i) an16 (by rw [pk_mul, nI_add]) (by omega) (by omega) ?_))))
            rw [ei, en, hbit]
            have : (aG S k i).testBit j = !p := by
              revert zp
              cases (aG S k i).testBit j <;> cases p <;> simp
            rw [this]
            exact wp_bt rfl (wp_s ⟨rfl, rfl⟩)
theorem m_put (C : MSH h m) (F : MF f m S) (W : WS S) (a b c : Int32) : ∃ f', ev M_Mo_put 0 0 [some (.ref m), some (.int a), some (.int b), some (.int c)] [] (wI h f) = some (some (.int (sTurn S a b c false)), wI h f') ∧ MF f' m (uTurn S a b c false) ∧ Fr m (m + 39) f f' := by
  obtain ⟨f', e1, e2⟩ := mo_turns C F W a b c false
  refine ⟨f', ?_, e2⟩
  rw [r_Mo_put_0]
  exact wp_e (wp_isC C.1 (wp_rIe e1 (wp_s ⟨rfl, rfl⟩)))
theorem m_take (C : MSH h m) (F : MF f m S) (W : WS S) (a b c : Int32) : ∃ f', ev M_Mo_take 0 0 [some (.ref m), some (.int a), some (.int b), some (.int c)] [] (wI h f) = some (some (.int (sTurn S a b c true)), wI h f') ∧ MF f' m (uTurn S a b c true) ∧ Fr m (m + 39) f f' := by
  obtain ⟨f', e1, e2⟩ := mo_turns C F W a b c true
  refine ⟨f', ?_, e2⟩
  rw [r_Mo_take_0]
  exact wp_e (wp_isC C.1 (wp_rIe e1 (wp_s ⟨rfl, rfl⟩)))
theorem m_become (C : MSH h m) (F : MF f m S) (W : WS S) (a w b c : Int32) : ∃ f', ev M_Mo_become 0 0 [some (.ref m), some (.int a), some (.int w), some (.int b), some (.int c), none] [] (wI h f) = some (some (.int (sBec S a w b c)), wI h f') ∧ MF f' m (uBec S a w b c) ∧ Fr m (m + 39) f f' := by
  have mc := C.1
  have ar9 : hR h m 19 = some (m + 9) := (C.2 8 (by decide)).1
  have an9 : hN h (m + 9) = 10 := (C.2 8 (by decide)).2.1
  have ac9 : hC h (m + 9) = 20 := (C.2 8 (by decide)).2.2
  have ar16 : hR h m 34 = some (m + 16) := (C.2 15 (by decide)).1
  have an16 : hN h (m + 16) = 81 := (C.2 15 (by decide)).2.1
  have ac16 : hC h (m + 16) = 20 := (C.2 15 (by decide)).2.2
  have ar20 : hR h m 40 = some (m + 20) := (C.2 19 (by decide)).1
  have an20 : hN h (m + 20) = 16 := (C.2 19 (by decide)).2.1
  have ac20 : hC h (m + 20) = 20 := (C.2 19 (by decide)).2.2
  have ra := mo_rel C F W a
  have rh := mo_isHow w (wI h f)
  have hr5 : aR S ≤ 5 := W.2.2.1.1.2.2.2.1
  have h16 : aW S ≤ 16 := lv_p W.2.2.1.1.2.1
  rw [r_Mo_become_0]
  unfold sBec uBec tdN twN
  cases za : inN a (aR S) with
  | none =>
    rw [za] at ra
    exact ⟨f, wp_e (wp_isC mc (wp_rIe ra (wp_bt rfl (wp_s ⟨rfl, rfl⟩)))), F, Fr.rf⟩
  | some k =>
    rw [za] at ra
    obtain ⟨e1, k1, -⟩ := inN_s za
    subst e1
    have f9 := F.2.2.1.2.2.1 k k1
    dsimp only
    cases zt : (vTd (aQ S)).testBit k with
    | false =>
      rw [zt] at f9
      refine ⟨f, wp_e (wp_isC mc (wp_rIe ra (wp_bf n10 (wp_isC mc (wp_nnR ar9 (wp_isC ac9 (wp_inA an9 rfl (by omega) (by omega) ?_))))))), F, Fr.rf⟩
      rw [nI_clamp (by omega), wI_I, f9]
      exact wp_bt rfl (wp_s ⟨rfl, rfl⟩)
    | true =>
      rw [zt] at f9
      simp only [if_true]
      cases zw : inN w 5 with
      | none =>
        rw [zw] at rh
        refine ⟨f, wp_e (wp_isC mc (wp_rIe ra (wp_bf n10 (wp_isC mc (wp_nnR ar9 (wp_isC ac9 (wp_inA an9 rfl (by omega) (by omega) ?_))))))), F, Fr.rf⟩
        rw [nI_clamp (by omega), wI_I, f9]
        exact wp_bf n10 (wp_rIe rh (wp_bt rfl (wp_s ⟨rfl, rfl⟩)))
      | some w' =>
        rw [zw] at rh
        obtain ⟨ew, w1, -⟩ := inN_s zw
        subst ew
        dsimp only
        obtain ⟨f1, t1, t2, t3⟩ := mo_two C F W b c
        have F1 := t2.F F
        cases zb : inN b (aR S) with
        | none =>
          rw [zb] at t1
          refine ⟨f1, wp_e (wp_isC mc (wp_rIe ra (wp_bf n10 (wp_isC mc (wp_nnR ar9 (wp_isC ac9 (wp_inA an9 rfl (by omega) (by omega) ?_))))))), F1, t2.fr⟩
          rw [nI_clamp (by omega), wI_I, f9]
          exact wp_bf n10 (wp_rIe rh (wp_bf n10 (wp_isC mc (wp_rIe t1 (wp_bt rfl (wp_s ⟨rfl, rfl⟩))))))
        | some i =>
          cases zc : inN c (aR S) with
          | none =>
            rw [zb, zc] at t1
            refine ⟨f1, wp_e (wp_isC mc (wp_rIe ra (wp_bf n10 (wp_isC mc (wp_nnR ar9 (wp_isC ac9 (wp_inA an9 rfl (by omega) (by omega) ?_))))))), F1, t2.fr⟩
            rw [nI_clamp (by omega), wI_I, f9]
            exact wp_bf n10 (wp_rIe rh (wp_bf n10 (wp_isC mc (wp_rIe t1 (wp_bt rfl (wp_s ⟨rfl, rfl⟩))))))
          | some j =>
            rw [zb, zc] at t1 t3
            obtain ⟨e2, k2, -⟩ := inN_s zb
            obtain ⟨e3, k3, -⟩ := inN_s zc
            subst e2
            subst e3
            obtain ⟨R1, V1⟩ := t3 rfl i k2
            obtain ⟨R2, V2⟩ := t3 rfl j k3
            obtain ⟨f2, q1, q2, q3, q4, q5⟩ := mo_keeps C F1 W
            have q18 : f2 (m + 18) = f1 (m + 18) := q5.1 _ (by omega) (by omega)
            obtain ⟨f3, m1, m2, m3⟩ := mo_makes (h := h) (f := f2) C w1 (show i < 5 by omega) (show j < 5 by omega) (fun r hr => by rw [q18]; exact R1 r hr) (fun r hr => by rw [q18]; exact R2 r hr) V1 V2
            have VB := GW.jnG (w := w') V1 V2
            dsimp only
            generalize jnG w' (aW S) (aG S i) (aG S j) = B at *
            have n3 : ∀ t, t < 81 → f3 (m + 16) t = nI (sv (aS S (aD S)) t) := fun t ht => by rw [m3 _ (by omega) (by omega) (by omega), q5.1 _ (by omega) (by omega)]; exact F1.2.2.2.2.2.1 t ht
            -- f3 without what was made: m+19, m+20, m+21 are no part of the state
            have L : ∀ q r g, r + q = 16 → (∀ b, b ≠ m + 16 → g b = f3 b) → (∀ t, t < 81 → g (m + 16) t = nI (if t < 16 * k + r ∧ 16 * k ≤ t then B (t - 16 * k) else sv (aS S (aD S)) t)) → ∃ g', ev M_Mo_become 0 29 [some (.ref m), some (.int (nI k)), none, none, none, some (.int (nI r))] [] (wI h g) = some (some (.int (nI (ct (aW S) B))), wI h g') ∧ (∀ b, b ≠ m + 16 → g' b = f3 b) ∧ ∀ t, t < 81 → g' (m + 16) t = nI (if t < 16 * k + 16 ∧ 16 * k ≤ t then B (t - 16 * k) else sv (aS S (aD S)) t) := by
              intro q
              induction q with
              | zero =>
                intro r g hr o e
                have : r = 16 := by omega
                subst this
                refine ⟨g, wp_e ?_, o, e⟩
                rw [r_Mo_become_29]
                refine wp_bf (by decide) (wp_isC mc (wp_nnR ar20 ?_))
                refine wp_rIe (mo_manyIn (o := 0) ac20 an20 (by decide) (by decide) (fun r hr => by rw [o _ (by omega)]; exact m2 r hr) VB.lt) (wp_s ⟨?_, rfl⟩)
                rw [ct_16 VB]
              | succ q ih =>
                intro r g hr o e
                obtain ⟨g', i1, i2⟩ := ih (r + 1) (up2 g (m + 16) (16 * k + r) (nI (B r))) (by omega) (fun b hb => by rw [up2_a hb]; exact o b hb) (fun t ht => by
                  by_cases z : t = 16 * k + r
                  · rw [z, up2_s, if_pos (by omega), show 16 * k + r - 16 * k = r by omega]
                  · rw [up2_k z, e t ht]
                    by_cases y : t < 16 * k + r ∧ 16 * k ≤ t
                    · rw [if_pos y, if_pos (by omega)]
                    · rw [if_neg y, if_neg (by omega)])
                refine ⟨g', wp_e ?_, i2⟩
                have eB : g (m + 20) r = nI (B r) := by rw [o _ (by omega)]; have := m2 r (by omega); rw [Nat.zero_add] at this; exact this
                rw [r_Mo_become_29]
                refine wp_bt (by rw [nI_ltI (by omega) (by decide)]; omega) (wp_isC mc (wp_nnR ar16 (wp_isC mc (wp_nnR ar20 (wp_isC ac20 (wp_inA an20 rfl (by omega) (by omega) (wp_isC ac16 (wp_inA (n := 16 * k + r) an16 (by rw [pk_mul, nI_add]) (by omega) (by omega) ?_))))))))
                rw [show (nI 16 * nI k + nI r).toNatClampNeg = 16 * k + r by rw [pk_mul, nI_add, nI_clamp (by omega)], nI_clamp (by omega), wI_I, eB, wI_s, nI_add]
                exact wp_of i1 ⟨rfl, rfl⟩
            obtain ⟨g', b1, b2, b3⟩ := L 16 0 f3 rfl (fun _ _ => rfl) (fun t ht => by rw [if_neg (by omega)]; exact n3 t ht)
            refine ⟨g', wp_e (wp_isC mc (wp_rIe ra (wp_bf n10 (wp_isC mc (wp_nnR ar9 (wp_isC ac9 (wp_inA an9 rfl (by omega) (by omega) ?_))))))), ?_, fun b hb => by rw [b2 b (by omega), m3 b (by omega) (by omega) (by omega), q5.1 b (by omega) (by omega)]; exact t2.fr b hb⟩
            · rw [nI_clamp (by omega), wI_I, f9]
              exact wp_bf n10 (wp_rIe rh (wp_bf n10 (wp_isC mc (wp_rIe t1 (wp_bf n10 (wp_isC mc (wp_rVe q1 (wp_isC mc (wp_rVe m1 (wp_of b1 ⟨rfl, rfl⟩))))))))))
            · refine mf_act (s := (setA (aS S (aD S)).1 (some k) B, (aS S (aD S)).2)) F1 (by rw [b2 m (by omega), m3 m (by omega) (by omega) (by omega)]; exact q2) (by rw [b2 m (by omega), m3 m (by omega) (by omega) (by omega)]; exact q3) (fun k i hk hi => by rw [b2 _ (by omega), m3 _ (by omega) (by omega) (by omega)]; exact q4 k i hk hi) (fun b c1 c2 c3 c4 => by rw [b2 b c2, m3 b (by omega) (by omega) (by omega)]; exact q5.1 b c1 c3) (fun k c1 c2 _ _ => by rw [b2 m (by omega), m3 m (by omega) (by omega) (by omega)]; exact q5.2 k c1 c2) (fun t ht => ?_)
              · rw [b3 t ht, sv_set ht]
                by_cases y : t < 80
                · rw [if_pos y]
                  by_cases u : t / 16 = k
                  · rw [if_pos u, if_pos (by omega), show t - 16 * k = t % 16 by omega]
                  · rw [if_neg u, if_neg (by omega)]; unfold sv; rw [if_pos y]
                · rw [if_neg y, if_neg (by omega)]; unfold sv; rw [if_neg y]
end
