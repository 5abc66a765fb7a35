/-! The plain form: rectangles. -/
section
variable {h : MH} {f : Nat → Nat → Int32} {m : Nat} {S : Abs}
/-- a rectangle that is asked for, if it is one -/
theorem mo_isRect (C : MSH h m) (F : MF f m S) (W : WS S) (a b c d e : Int32) : ev M_Mo_isRect 0 0 [some (.ref m), some (.int a), some (.int b), some (.int c), some (.int d), some (.int e)] [] (wI h f) = some (some (.int (nI ((inN a (aR S)).isSome && rcN S b c d e).toNat)), wI h f) := by
  have mc := C.1
  rw [r_Mo_isRect_0]
  unfold rcN
  refine wp_e (wp_isC mc (wp_rIe (mo_rel C F W a) ?_))
  cases inN a (aR S) with
  | none => exact wp_bt rfl (wp_isZ (by decide) (wp_s ⟨rfl, rfl⟩))
  | some k =>
    refine wp_bf n10 (wp_isC mc (wp_rIe (mo_node C F W b) ?_))
    cases inN b (aW S) with
    | none => exact wp_bt rfl (wp_isZ (by decide) (wp_s ⟨rfl, rfl⟩))
    | some i =>
      refine wp_bf n10 (wp_isC mc (wp_rIe (mo_node C F W c) ?_))
      cases inN c (aW S) with
      | none => exact wp_bt rfl (wp_isZ (by decide) (wp_s ⟨rfl, rfl⟩))
      | some j =>
        refine wp_bf n10 (wp_isC mc (wp_rIe (mo_node C F W d) ?_))
        cases inN d (aW S) with
        | none => exact wp_bt rfl (wp_isZ (by decide) (wp_s ⟨rfl, rfl⟩))
        | some l =>
          refine wp_bf n10 (wp_isC mc (wp_rIe (mo_node C F W e) ?_))
          cases inN e (aW S) with
          | none => exact wp_bt rfl (wp_isZ (by decide) (wp_s ⟨rfl, rfl⟩))
          | some r =>
            refine wp_bf n10 (wp_br (fun q => ?_) (fun q => wp_br (fun q2 => ?_) (fun q2 => ?_)))
            · rw [decide_eq_false (fun w => w q)]; exact wp_isZ (by decide) (wp_s ⟨rfl, rfl⟩)
            · rw [decide_eq_true q, decide_eq_false (fun w => w q2)]; exact wp_isZ (by decide) (wp_s ⟨rfl, rfl⟩)
            · rw [decide_eq_true q, decide_eq_true q2]; exact wp_isZ (by decide) (wp_s ⟨rfl, rfl⟩)
end
