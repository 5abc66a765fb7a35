/-! The plain form: two relations side by side. -/
section
variable {h : MH} {f : Nat → Nat → Int32} {m : Nat} {S : Abs}
theorem mo_two (C : MSH h m) (F : MF f m S) (W : WS S) (a b : Int32) : ∃ f', ev M_Mo_laysTwo 0 0 [some (.ref m), some (.int a), some (.int b)] [] (wI h f) = some (some (.int (nI ((inN a (aR S)).isSome && (inN b (aR S)).isSome).toNat)), wI h f') ∧ MX m f f' ∧ (((inN a (aR S)).isSome && (inN b (aR S)).isSome) = true → ∀ k, k < aR S → RF f' (m + 18) (16 * k) (aG S k) ∧ GW (aW S) (aG S k)) := by
  rw [r_Mo_laysTwo_0]
  have ra := mo_rel C F W a
  have rb := mo_rel C F W b
  cases za : inN a (aR S) with
  | none =>
    rw [za] at ra
    exact ⟨f, wp_e (wp_isC C.1 (wp_rIe ra (wp_bt rfl (wp_isZ (by decide) (wp_s ⟨rfl, rfl⟩))))), MX.rf, fun z => by cases z⟩
  | some k =>
    rw [za] at ra
    cases zb : inN b (aR S) with
    | none =>
      rw [zb] at rb
      exact ⟨f, wp_e (wp_isC C.1 (wp_rIe ra (wp_bf n10 (wp_isC C.1 (wp_rIe rb (wp_bt rfl (wp_isZ (by decide) (wp_s ⟨rfl, rfl⟩)))))))), MX.rf, fun z => by cases z⟩
    | some j =>
      rw [zb] at rb
      obtain ⟨f', l1, l2, l3⟩ := mo_L C F W
      exact ⟨f', wp_e (wp_isC C.1 (wp_rIe ra (wp_bf n10 (wp_isC C.1 (wp_rIe rb (wp_bf n10 (wp_isC C.1 (wp_rVe l1 (wp_isZ (by decide) (wp_s ⟨rfl, rfl⟩)))))))))), l3, fun _ => l2⟩
theorem bc_xor (a b : Nat) : bc (a ^^^ b) = bc (nd a b) + bc (nd b a) := by
  unfold bc
  rw [← sm_add]
  apply sm_c
  intro k _
  show ((a ^^^ b).testBit k).toNat = ((nd a b).testBit k).toNat + ((nd b a).testBit k).toNat
  rw [Nat.testBit_xor, nd_t, nd_t]
  cases a.testBit k <;> cases b.testBit k <;> rfl
theorem m_unlike (C : MSH h m) (F : MF f m S) (W : WS S) (a b : Int32) : ∃ f', ev M_Mo_unlike 0 0 [some (.ref m), some (.int a), some (.int b), none, none] [] (wI h f) = some (some (.int (sUnl S a b)), wI h f') ∧ MX m f f' := by
  have mc := C.1
  have ar18 : hR h m 38 = some (m + 18) := (C.2 17 (by decide)).1
  have an18 : hN h (m + 18) = 80 := (C.2 17 (by decide)).2.1
  have ac18 : hC h (m + 18) = 20 := (C.2 17 (by decide)).2.2
  obtain ⟨f', t1, t2, t3⟩ := mo_two C F W a b
  refine ⟨f', ?_, t2⟩
  rw [r_Mo_unlike_0]
  unfold sUnl on2
  cases za : inN a (aR S) with
  | none =>
    rw [za] at t1
    exact wp_e (wp_isC mc (wp_rIe t1 (wp_bt rfl (wp_s ⟨rfl, rfl⟩))))
  | some k =>
    cases zb : inN b (aR S) with
    | none =>
      rw [za, zb] at t1
      exact wp_e (wp_isC mc (wp_rIe t1 (wp_bt rfl (wp_s ⟨rfl, rfl⟩))))
    | some j =>
      rw [za, zb] at t1 t3
      obtain ⟨e1, k1, -⟩ := inN_s za
      obtain ⟨e2, k2, -⟩ := inN_s zb
      subst e1
      subst e2
      have h5 : aR S ≤ 5 := W.2.2.1.1.2.2.2.1
      obtain ⟨R1, V1⟩ := t3 rfl k k1
      obtain ⟨R2, V2⟩ := t3 rfl j k2
      have L : ∀ q i, i + q = 16 → ev M_Mo_unlike 0 12 [some (.ref m), some (.int (nI k)), some (.int (nI j)), some (.int (nI (sm (fun r => bc (aG S k r ^^^ aG S j r)) i))), some (.int (nI i))] [] (wI h f') = some (some (.int (nI (sm (fun r => bc (aG S k r ^^^ aG S j r)) 16))), wI h f') := by
        intro q
        induction q with
        | zero =>
          intro i hi
          have : i = 16 := by omega
          subst this
          rw [r_Mo_unlike_12]
          exact wp_e (wp_bf (by decide) (wp_s ⟨rfl, rfl⟩))
        | succ q ih =>
          intro i hi
          rw [r_Mo_unlike_12]
          apply wp_e
          refine wp_bt (by rw [nI_ltI (by omega) (by decide)]; omega) (wp_isC mc (wp_nnR ar18 (wp_isC ac18 (wp_inA (n := 16 * k + i) an18 (by rw [pk_mul, nI_add]) (by omega) (by omega) (wp_isC mc (wp_nnR ar18 (wp_isC ac18 (wp_inA (n := 16 * j + i) an18 (by rw [pk_mul, nI_add]) (by omega) (by omega) ?_))))))))
          rw [show (nI 16 * nI k + nI i).toNatClampNeg = 16 * k + i by rw [pk_mul, nI_add, nI_clamp (by omega)], show (nI 16 * nI j + nI i).toNatClampNeg = 16 * j + i by rw [pk_mul, nI_add, nI_clamp (by omega)], wI_I, R1 i (by omega), R2 i (by omega), nm_xor]
          refine wp_rIe (mo_bitsIn _ (Nat.xor_lt_two_pow (V1.lt i) (V2.lt i))) ?_
          rw [nI_add, nI_add]
          exact wp_of (ih (i + 1) (by omega)) ⟨rfl, rfl⟩
      have e : sm (fun r => bc (aG S k r ^^^ aG S j r)) 16 = ct (aW S) (jnG 2 (aW S) (aG S k) (aG S j)) + ct (aW S) (jnG 2 (aW S) (aG S j) (aG S k)) := by
        rw [← ct_16 (GW.jnG V1 V2), ← ct_16 (GW.jnG V2 V1)]
        show _ = sm _ 16 + sm _ 16
        rw [← sm_add]
        apply sm_c
        intro r _
        show bc _ = bc (jnG 2 (aW S) (aG S k) (aG S j) r) + bc (jnG 2 (aW S) (aG S j) (aG S k) r)
        rw [jnG_e V1 V2 (by decide), jnG_e V2 V1 (by decide)]
        exact bc_xor _ _
      refine wp_e (wp_isC mc (wp_rIe t1 (wp_bf n10 (wp_of (L 16 0 rfl) ⟨?_, rfl⟩))))
      rw [e]
      rfl
theorem m_lies (C : MSH h m) (F : MF f m S) (W : WS S) (i : Int32) : ev M_Mo_lies 0 0 [some (.ref m), some (.int i)] [] (wI h f) = some (some (.int (sLies S i)), wI h f) := by
  have mc := C.1
  have ar27 : hR h m 49 = some (m + 27) := (C.2 26 (by decide)).1
  have an27 : hN h (m + 27) = 16 := (C.2 26 (by decide)).2.1
  have ac27 : hC h (m + 27) = 20 := (C.2 26 (by decide)).2.2
  obtain ⟨l1, l2⟩ := F.2.2.2.2.2.2.2.1
  have hl : (aL S).length ≤ 16 := W.2.2.2.2.2.1.1
  rw [r_Mo_lies_0]
  have r1 := mo_in1 (x := i) (n := (aL S).length) (wI h f) (by omega)
  refine wp_e (wp_isC mc ?_)
  rw [wI_I, l1]
  refine wp_rIe r1 ?_
  unfold sLies
  cases z : inN i (aL S).length with
  | none =>
    refine wp_bt rfl (wp_s ⟨?_, rfl⟩)
    rcases inN_n z (by omega) with q | ⟨q, q2⟩
    · rw [if_pos q]
    · obtain ⟨j, hj, e⟩ := nI_of q
      subst e
      rw [nI_ltI hj (by omega)] at q2
      rw [if_neg q, nI_clamp hj, List.getElem?_eq_none (by omega)]
  | some j =>
    obtain ⟨e, h1, h2⟩ := inN_s z
    subst e
    refine wp_bf n10 (wp_isC mc (wp_nnR ar27 (wp_isC ac27 (wp_inA an27 rfl (by omega) (by omega) (wp_s ⟨?_, rfl⟩)))))
    have he := List.getElem?_eq_getElem h1
    have hp : ¬ nI j < nI 0 := nI_pos h2
    rw [if_neg hp, nI_clamp h2, he, wI_I, l2 j _ he]
end
