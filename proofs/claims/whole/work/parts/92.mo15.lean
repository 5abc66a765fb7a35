/-! The plain form: a block is seen. -/
section
variable {h : MH} {f : Nat → Nat → Int32} {m : Nat} {S : Abs}
theorem mo_isBlock (C : MSH h m) (F : MF f m S) (W : WS S) (l b : Int32) : ev M_Mo_isBlock 0 0 [some (.ref m), some (.int l), some (.int b)] [] (wI h f) = some (some (.int (nI (match inN l (aV S + 1) with
    | none => false
    | some l => (inN b (2 ^ (2 * l))).isSome).toNat)), wI h f) := by
  have mc := C.1
  have ar2 : hR h m 12 = some (m + 2) := (C.2 1 (by decide)).1
  have an2 : hN h (m + 2) = 2 := (C.2 1 (by decide)).2.1
  have ac2 : hC h (m + 2) = 20 := (C.2 1 (by decide)).2.2
  have hv : aV S ≤ 4 := W.2.2.1.1.2.1
  rw [r_Mo_isBlock_0]
  refine wp_e (wp_isC mc (wp_nnR ar2 (wp_isC ac2 (wp_inA (n := 0) an2 rfl (by decide) (by decide) ?_))))
  rw [nI_clamp (by decide), wI_I, F.2.2.1.1]
  refine wp_rIe (mo_in0 _ (by omega)) ?_
  cases z : inN l (aV S + 1) with
  | none => exact wp_bt rfl (wp_isZ (by decide) (wp_s ⟨rfl, rfl⟩))
  | some k =>
    obtain ⟨e, k1, -⟩ := inN_s z
    subst e
    have p : 2 ^ (2 * k) ≤ 2 ^ 8 := Nat.pow_le_pow_right (by decide) (by omega)
    refine wp_bf n10 ?_
    rw [pk_mul, nm_one (by omega)]
    refine wp_rIe (mo_in1 _ (by omega)) ?_
    show wp _ (fun a b' => a = some (Value.int (nI (inN b (2 ^ (2 * k))).isSome.toNat)) ∧ _)
    cases inN b (2 ^ (2 * k)) with
    | none => exact wp_bt rfl (wp_isZ (by decide) (wp_s ⟨rfl, rfl⟩))
    | some j => exact wp_bf n10 (wp_isZ (by decide) (wp_s ⟨rfl, rfl⟩))
end
