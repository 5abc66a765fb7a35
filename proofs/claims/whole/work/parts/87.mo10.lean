/-! The plain form: columns, one within another. -/
section
variable {h : MH} {f : Nat → Nat → Int32} {m : Nat} {S : Abs}
theorem m_column (C : MSH h m) (F : MF f m S) (W : WS S) (a b : Int32) : ∃ f', ev M_Mo_column 0 0 [some (.ref m), some (.int a), some (.int b)] [] (wI h f) = some (some (.int (sLay S a b (colK S))), wI h f') ∧ MF f' m (bL S (lays S a b (colK S))) ∧ Fr m (m + 39) f f' := by
  have mc := C.1
  have ar18 : hR h m 38 = some (m + 18) := (C.2 17 (by decide)).1
  have an18 : hN h (m + 18) = 80 := (C.2 17 (by decide)).2.1
  have ac18 : hC h (m + 18) = 20 := (C.2 17 (by decide)).2.2
  have F0 := F.l0
  have W0 : WS (bL S []) := WS_l W (Nat.zero_le _) (fun e he => by cases he)
  have fr0 : Fr m (m + 39) f (up2 f m 50 (nI 0)) := Fr.u2 (by omega) (by omega)
  have ra := mo_rel C F0 W0 a
  have rb := mo_node C F0 W0 b
  rw [show aR (bL S []) = aR S from rfl] at ra
  rw [show aW (bL S []) = aW S from rfl] at rb
  rw [r_Mo_column_0]
  unfold sLay lays
  cases za : inN a (aR S) with
  | none =>
    rw [za] at ra
    exact ⟨_, wp_e (wp_isC mc (wp_isC mc (wp_rIe ra (wp_bt rfl (wp_s ⟨rfl, rfl⟩))))), F0, fr0⟩
  | some k =>
    rw [za] at ra
    cases zb : inN b (aW S) with
    | none =>
      rw [zb] at rb
      exact ⟨_, wp_e (wp_isC mc (wp_isC mc (wp_rIe ra (wp_bf n10 (wp_isC mc (wp_rIe rb (wp_bt rfl (wp_s ⟨rfl, rfl⟩)))))))), F0, fr0⟩
    | some i =>
      rw [zb] at rb
      obtain ⟨e1, k1, -⟩ := inN_s za
      obtain ⟨e2, k2, -⟩ := inN_s zb
      subst e1
      subst e2
      obtain ⟨f1, l1, l2, l3⟩ := mo_L C F0 W0
      have h16 : aW S ≤ 16 := lv_p W.2.2.1.1.2.1
      have h5 : aR S ≤ 5 := W.2.2.1.1.2.2.2.1
      obtain ⟨R, V⟩ := l2 k k1
      have R : RF f1 (m + 18) (16 * k) (aG S k) := R
      have V : GW (aW S) (aG S k) := V
      have cl := mo_columnSet (h := h) C (by omega : k < 5) (by omega : i < 16) R V.lt
      rw [cs_16 V] at cl
      obtain ⟨f2, d1, d2, d3, d4, d5⟩ := mo_down (h := h) (f := f1) (s := cs (aW S) (aG S k) i) C (Nat.lt_of_lt_of_le cs_lt (Nat.pow_le_pow_right (by decide) h16))
      exact ⟨f2, wp_e (wp_isC mc (wp_isC mc (wp_rIe ra (wp_bf n10 (wp_isC mc (wp_rIe rb (wp_bf n10 (wp_isC mc (wp_rVe l1 (wp_isC mc (wp_rIe cl (wp_isC mc (wp_rIe d1 (wp_s ⟨rfl, rfl⟩)))))))))))))), (l3.F F0).l d4 d5 d2 d3, fr0.tr (l3.fr.tr (fun b hb => d4 b (by omega) (by omega)))⟩
theorem m_within (C : MSH h m) (F : MF f m S) (W : WS S) (a b : Int32) : ∃ f', ev M_Mo_within 0 0 [some (.ref m), some (.int a), some (.int b), none, none] [] (wI h f) = some (some (.int (sWith S a b)), wI h f') ∧ MX m f f' := by
  have mc := C.1
  have ar18 : hR h m 38 = some (m + 18) := (C.2 17 (by decide)).1
  have an18 : hN h (m + 18) = 80 := (C.2 17 (by decide)).2.1
  have ac18 : hC h (m + 18) = 20 := (C.2 17 (by decide)).2.2
  obtain ⟨f', t1, t2, t3⟩ := mo_two C F W a b
  refine ⟨f', ?_, t2⟩
  rw [r_Mo_within_0]
  unfold sWith on2
  cases za : inN a (aR S) with
  | none =>
    rw [za] at t1
    exact wp_e (wp_isC mc (wp_rIe t1 (wp_bt rfl (wp_s ⟨rfl, rfl⟩))))
  | some k =>
    cases zb : inN b (aR S) with
    | none =>
      rw [za, zb] at t1
      exact wp_e (wp_isC mc (wp_rIe t1 (wp_bt rfl (wp_s ⟨rfl, rfl⟩))))
    | some j =>
      rw [za, zb] at t1 t3
      obtain ⟨e1, k1, -⟩ := inN_s za
      obtain ⟨e2, k2, -⟩ := inN_s zb
      subst e1
      subst e2
      have h5 : aR S ≤ 5 := W.2.2.1.1.2.2.2.1
      obtain ⟨R1, V1⟩ := t3 rfl k k1
      obtain ⟨R2, V2⟩ := t3 rfl j k2
      have L : ∀ q i, i + q = 16 → ev M_Mo_within 0 12 [some (.ref m), some (.int (nI k)), some (.int (nI j)), some (.int (nI (orr (fun r => nd (aG S k r) (aG S j r)) i))), some (.int (nI i))] [] (wI h f') = some (some (.int (nI (decide (orr (fun r => nd (aG S k r) (aG S j r)) 16 = 0)).toNat)), wI h f') := by
        intro q
        induction q with
        | zero =>
          intro i hi
          have : i = 16 := by omega
          subst this
          have hlt : orr (fun r => nd (aG S k r) (aG S j r)) 16 < 2 ^ 16 := orr_lt (fun r _ => nd_le _ _ (V1.lt r))
          rw [r_Mo_within_12]
          refine wp_e (wp_bf (by decide) ?_)
          refine wp_bi (nI_eq (by omega) (by decide)) (fun z => ?_) (fun z => ?_)
          · rw [decide_eq_true z, r_Mo_within_45]
            exact wp_rIe (mo_truth true _) (wp_s ⟨rfl, rfl⟩)
          · rw [decide_eq_false z, r_Mo_within_45]
            exact wp_rIe (mo_truth false _) (wp_s ⟨rfl, rfl⟩)
        | succ q ih =>
          intro i hi
          rw [r_Mo_within_12]
          apply wp_e
          refine wp_bt (by rw [nI_ltI (by omega) (by decide)]; omega) (wp_isC mc (wp_nnR ar18 (wp_isC ac18 (wp_inA (n := 16 * k + i) an18 (by rw [pk_mul, nI_add]) (by omega) (by omega) (wp_isC mc (wp_nnR ar18 (wp_isC ac18 (wp_inA (n := 16 * j + i) an18 (by rw [pk_mul, nI_add]) (by omega) (by omega) ?_))))))))
          rw [show (nI 16 * nI k + nI i).toNatClampNeg = 16 * k + i by rw [pk_mul, nI_add, nI_clamp (by omega)], show (nI 16 * nI j + nI i).toNatClampNeg = 16 * j + i by rw [pk_mul, nI_add, nI_clamp (by omega)], wI_I, R1 i (by omega), R2 i (by omega), nm_nd, nm_or, nI_add]
          exact wp_of (ih (i + 1) (by omega)) ⟨rfl, rfl⟩
      have e : decide (orr (fun r => nd (aG S k r) (aG S j r)) 16 = 0) = decide (ct (aW S) (jnG 2 (aW S) (aG S k) (aG S j)) = 0) := by
        have VJ := GW.jnG (w := 2) V1 V2
        rw [← ct_16 VJ]
        congr 1
        apply propext
        constructor
        · intro z
          apply sm_0
          intro r hr
          show bc (jnG 2 (aW S) (aG S k) (aG S j) r) = 0
          rw [jnG_e V1 V2 (by decide)]
          show bc (nd (aG S k r) (aG S j r)) = 0
          have : nd (aG S k r) (aG S j r) = 0 := by
            apply Nat.eq_of_testBit_eq
            intro i
            rw [Nat.zero_testBit]
            cases y : (nd (aG S k r) (aG S j r)).testBit i with
            | false => rfl
            | true =>
              have := (orr_t (F := fun r => nd (aG S k r) (aG S j r)) (i := i) (n := 16)).mpr ⟨r, hr, y⟩
              rw [z, Nat.zero_testBit] at this
              cases this
          rw [this, bc_0]
        · intro z
          refine (orr_z (Nat.zero_le 16) (fun r _ hr => ?_)).trans rfl
          show nd (aG S k r) (aG S j r) = 0
          by_cases y : nd (aG S k r) (aG S j r) = 0
          · exact y
          · exfalso
            have h1 := (bc_pos (nd_le (aG S k r) (aG S j r) (V1.lt r))).mpr y
            have h2 := (sm_pos (F := fun r => bc (jnG 2 (aW S) (aG S k) (aG S j) r)) (n := 16)).mpr ⟨r, hr, by
              show 0 < bc (jnG 2 (aW S) (aG S k) (aG S j) r)
              rw [jnG_e V1 V2 (by decide)]; exact h1⟩
            have z : sm (fun r => bc (jnG 2 (aW S) (aG S k) (aG S j) r)) 16 = 0 := z
            omega
      refine wp_e (wp_isC mc (wp_rIe t1 (wp_bf n10 (wp_of (L 16 0 rfl) ⟨?_, rfl⟩))))
      rw [e]
      rfl
end
