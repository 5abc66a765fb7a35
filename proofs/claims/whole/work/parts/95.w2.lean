/-! The law's loop, put together. -/
theorem law_loop {b L x s1 v1 : Nat} {xs : Nat → Int32} {Q : Option Value → MH → Prop} (hL : L ≤ 3072) (st : ∀ (h : MH) (f : Nat → Nat → Int32) (pa pb : Nat) (S : Abs), LV h f b L x s1 v1 pa pb xs S → ∃ (h2 : MH) (f1 f2 : Nat → Nat → Int32) (pa2 pb2 : Nat) (S' : Abs) (y : Int32) (h1 : MH), ev M_PT_store 0 0 [some (.ref x), none, none] [] (wI h f) = some (some (.int y), h1) ∧ hC h1 (x + 222) = 13 ∧ ev M_Mo_store 0 0 [some (.ref (x + 222)), none] [] h1 = some (some (.int y), wI h2 f2) ∧ LV h2 f2 b L x s1 v1 pa2 pb2 xs S' ∧ hT h2 = hT h ∧ hS h2 = hS h) : ∀ n i (h : MH) (f : Nat → Nat → Int32) (pa pb : Nat) (S : Abs), L < i + 6 * n + 6 → i ≤ 3072 → LV h f b L x s1 v1 pa pb xs S → (∀ h' f', hT h' = hT h → hS h' = hS h → Q (some (.int (nI 1))) (wI h' f')) → wp (ev M_Law_law 0 11 [some (.ref b), some (.ref x), some (.ref (x + 222)), some (.int (nI i))] [] (wI h f)) Q := by
  intro n
  induction n with
  | zero =>
    intro i h f pa pb S hn hi V K
    obtain ⟨C, F, MC, M, W, ⟨bC, bN, hb, bX⟩, vS⟩ := id V
    rw [r_Law_law_11]
    refine wp_isC bC ?_
    rw [show hN (wI h f) b = L from bN]
    exact wp_bt ((law_end hL (by omega)).mpr (by omega)) (wp_isZ (by decide) (wp_s (K h f rfl rfl)))
  | succ n ih =>
    intro i h f pa pb S hn hi V K
    obtain ⟨C, F, MC, M, W, ⟨bC, bN, hb, bX⟩, vS⟩ := id V
    have xC := C.1.1
    have mC := MC.1
    have go : ∀ (h2 : MH) (f2 : Nat → Nat → Int32) (pa2 pb2 : Nat) (S' : Abs), i + 6 ≤ L → LV h2 f2 b L x s1 v1 pa2 pb2 xs S' → hT h2 = hT h → hS h2 = hS h → wp (ev M_Law_law 0 1387 [some (.ref b), some (.ref x), some (.ref (x + 222)), some (.int (nI i))] [] (wI h2 f2)) Q := fun h2 f2 pa2 pb2 S' hiL V2 eT eS => by
      rw [r_Law_law_1387, nI_add]
      exact ih (i + 6) h2 f2 pa2 pb2 S' (by omega) (by omega) V2 (fun h' f' e1 e2 => K h' f' (e1.trans eT) (e2.trans eS))
    rw [r_Law_law_11]
    refine wp_isC bC ?_
    rw [show hN (wI h f) b = L from bN]
    refine wp_bi (law_end hL (by omega)) (fun _ => wp_isZ (by decide) (wp_s (K h f rfl rfl))) (fun z => ?_)
    have hiL : i + 6 ≤ L := by omega
    have ix : ∀ {k : Nat} {g : Nat → Nat → Int32} {R : MRes}, k < 6 → wp R Q → wp (isC (wI h g) b 99 (inA (wI h g) b (nI i + nI k) R)) Q := fun {k g R} hk w => wp_isC bC (wp_inA (n := i + k) bN (nI_add _ _) (by omega) (by omega) w)
    refine wp_isC bC (wp_inA (n := i) bN rfl (by omega) (by omega) ?_)
    generalize hkk : hI (wI h f) b (Int32.toNatClampNeg (nI i)) &&& nI 63 = kk
    clear hkk
    refine wp_br (fun _ => ?_) (fun _ => ?_)
    · obtain ⟨y, f1, f2, S', e1, e2, V2, eb⟩ := lc_feed V (hI (wI h f) b (Int32.toNatClampNeg (nI i + nI 1))) (hI (wI h f) b (Int32.toNatClampNeg (nI i + nI 2))) (hI (wI h f) b (Int32.toNatClampNeg (nI i + nI 3))) (hI (wI h f) b (Int32.toNatClampNeg (nI i + nI 4))) (hI (wI h f) b (Int32.toNatClampNeg (nI i + nI 5)))
      refine ix (by decide) (ix (by decide) (ix (by decide) (ix (by decide) (ix (by decide) (wp_isC xC (wp_rIe e1 (ix (by decide) (ix (by decide) (ix (by decide) (ix (by decide) (ix (by decide) (?_))))))))))))
      have eb : hI (wI h f1) b = hI (wI h f) b := eb
      rw [eb]
      exact wp_isC mC (wp_rIe e2 (wp_bt rfl (go h f2 pa pb S' hiL V2 rfl rfl)))
    refine wp_br (fun _ => ?_) (fun _ => ?_)
    · obtain ⟨y, f1, f2, S', e1, e2, V2, eb⟩ := lc_end V (hI (wI h f) b (Int32.toNatClampNeg (nI i + nI 1)))
      refine ix (by decide) (wp_isC xC (wp_rIe e1 (ix (by decide) (?_))))
      have eb : hI (wI h f1) b = hI (wI h f) b := eb
      rw [eb]
      exact wp_isC mC (wp_rIe e2 (wp_bt rfl (go h f2 pa pb S' hiL V2 rfl rfl)))
    refine wp_br (fun _ => ?_) (fun _ => ?_)
    · obtain ⟨h2, f1, f2, pa2, pb2, S', y, h1, e1, e0, e2, V2, eT, eS⟩ := st h f pa pb S V
      exact wp_isC xC (wp_rIe e1 (wp_isC e0 (wp_rIe e2 (wp_bt rfl (go h2 f2 pa2 pb2 S' hiL V2 eT eS)))))
    refine wp_br (fun _ => ?_) (fun _ => ?_)
    · obtain ⟨y, f1, f2, S', e1, e2, V2, eb⟩ := lc_fault V (hI (wI h f) b (Int32.toNatClampNeg (nI i + nI 1)))
      refine ix (by decide) (wp_isC xC (wp_rIe e1 (ix (by decide) (?_))))
      have eb : hI (wI h f1) b = hI (wI h f) b := eb
      rw [eb]
      exact wp_isC mC (wp_rIe e2 (wp_bt rfl (go h f2 pa pb S' hiL V2 rfl rfl)))
    refine wp_br (fun _ => ?_) (fun _ => ?_)
    · obtain ⟨y, f1, f2, S', e1, e2, V2, eb⟩ := lc_relation V (hI (wI h f) b (Int32.toNatClampNeg (nI i + nI 1))) (hI (wI h f) b (Int32.toNatClampNeg (nI i + nI 2)))
      refine ix (by decide) (ix (by decide) (wp_isC xC (wp_rIe e1 (ix (by decide) (ix (by decide) (?_))))))
      have eb : hI (wI h f1) b = hI (wI h f) b := eb
      rw [eb]
      exact wp_isC mC (wp_rIe e2 (wp_bt rfl (go h f2 pa pb S' hiL V2 rfl rfl)))
    refine wp_br (fun _ => ?_) (fun _ => ?_)
    · obtain ⟨y, f1, f2, S', e1, e2, V2, eb⟩ := lc_has V (hI (wI h f) b (Int32.toNatClampNeg (nI i + nI 1))) (hI (wI h f) b (Int32.toNatClampNeg (nI i + nI 2))) (hI (wI h f) b (Int32.toNatClampNeg (nI i + nI 3)))
      refine ix (by decide) (ix (by decide) (ix (by decide) (wp_isC xC (wp_rIe e1 (ix (by decide) (ix (by decide) (ix (by decide) (?_))))))))
      have eb : hI (wI h f1) b = hI (wI h f) b := eb
      rw [eb]
      exact wp_isC mC (wp_rIe e2 (wp_bt rfl (go h f2 pa pb S' hiL V2 rfl rfl)))
    refine wp_br (fun _ => ?_) (fun _ => ?_)
    · obtain ⟨y, f1, f2, S', e1, e2, V2, eb⟩ := lc_put V (hI (wI h f) b (Int32.toNatClampNeg (nI i + nI 1))) (hI (wI h f) b (Int32.toNatClampNeg (nI i + nI 2))) (hI (wI h f) b (Int32.toNatClampNeg (nI i + nI 3)))
      refine ix (by decide) (ix (by decide) (ix (by decide) (wp_isC xC (wp_rIe e1 (ix (by decide) (ix (by decide) (ix (by decide) (?_))))))))
      have eb : hI (wI h f1) b = hI (wI h f) b := eb
      rw [eb]
      exact wp_isC mC (wp_rIe e2 (wp_bt rfl (go h f2 pa pb S' hiL V2 rfl rfl)))
    refine wp_br (fun _ => ?_) (fun _ => ?_)
    · obtain ⟨y, f1, f2, S', e1, e2, V2, eb⟩ := lc_take V (hI (wI h f) b (Int32.toNatClampNeg (nI i + nI 1))) (hI (wI h f) b (Int32.toNatClampNeg (nI i + nI 2))) (hI (wI h f) b (Int32.toNatClampNeg (nI i + nI 3)))
      refine ix (by decide) (ix (by decide) (ix (by decide) (wp_isC xC (wp_rIe e1 (ix (by decide) (ix (by decide) (ix (by decide) (?_))))))))
      have eb : hI (wI h f1) b = hI (wI h f) b := eb
      rw [eb]
      exact wp_isC mC (wp_rIe e2 (wp_bt rfl (go h f2 pa pb S' hiL V2 rfl rfl)))
    refine wp_br (fun _ => ?_) (fun _ => ?_)
    · obtain ⟨y, f1, f2, S', e1, e2, V2, eb⟩ := lc_become V (hI (wI h f) b (Int32.toNatClampNeg (nI i + nI 1))) (hI (wI h f) b (Int32.toNatClampNeg (nI i + nI 2))) (hI (wI h f) b (Int32.toNatClampNeg (nI i + nI 3))) (hI (wI h f) b (Int32.toNatClampNeg (nI i + nI 4)))
      refine ix (by decide) (ix (by decide) (ix (by decide) (ix (by decide) (wp_isC xC (wp_rIe e1 (ix (by decide) (ix (by decide) (ix (by decide) (ix (by decide) (?_))))))))))
      have eb : hI (wI h f1) b = hI (wI h f) b := eb
      rw [eb]
      exact wp_isC mC (wp_rIe e2 (wp_bt rfl (go h f2 pa pb S' hiL V2 rfl rfl)))
    refine wp_br (fun _ => ?_) (fun _ => ?_)
    · obtain ⟨y, f1, f2, S', e1, e2, V2, eb⟩ := lc_sift V (hI (wI h f) b (Int32.toNatClampNeg (nI i + nI 1)))
      refine ix (by decide) (wp_isC xC (wp_rIe e1 (ix (by decide) (?_))))
      have eb : hI (wI h f1) b = hI (wI h f) b := eb
      rw [eb]
      exact wp_isC mC (wp_rIe e2 (wp_bt rfl (go h f2 pa pb S' hiL V2 rfl rfl)))
    refine wp_br (fun _ => ?_) (fun _ => ?_)
    · obtain ⟨y, f1, f2, S', e1, e2, V2, eb⟩ := lc_drift V 
      exact wp_isC xC (wp_rIe e1 (wp_isC mC (wp_rIe e2 (wp_bt rfl (go h f2 pa pb S' hiL V2 rfl rfl)))))
    refine wp_br (fun _ => ?_) (fun _ => ?_)
    · obtain ⟨y, f1, f2, S', e1, e2, V2, eb⟩ := lc_undo V 
      exact wp_isC xC (wp_rIe e1 (wp_isC mC (wp_rIe e2 (wp_bt rfl (go h f2 pa pb S' hiL V2 rfl rfl)))))
    refine wp_br (fun _ => ?_) (fun _ => ?_)
    · obtain ⟨y, f1, f2, S', e1, e2, V2, eb⟩ := lc_redo V 
      exact wp_isC xC (wp_rIe e1 (wp_isC mC (wp_rIe e2 (wp_bt rfl (go h f2 pa pb S' hiL V2 rfl rfl)))))
    refine wp_br (fun _ => ?_) (fun _ => ?_)
    · obtain ⟨y, f1, f2, S', e1, e2, V2, eb⟩ := lc_bit V (hI (wI h f) b (Int32.toNatClampNeg (nI i + nI 1))) (hI (wI h f) b (Int32.toNatClampNeg (nI i + nI 2)))
      refine ix (by decide) (ix (by decide) (wp_isC xC (wp_rIe e1 (ix (by decide) (ix (by decide) (?_))))))
      have eb : hI (wI h f1) b = hI (wI h f) b := eb
      rw [eb]
      exact wp_isC mC (wp_rIe e2 (wp_bt rfl (go h f2 pa pb S' hiL V2 rfl rfl)))
    refine wp_br (fun _ => ?_) (fun _ => ?_)
    · obtain ⟨y, f1, f2, S', e1, e2, V2, eb⟩ := lc_rank V (hI (wI h f) b (Int32.toNatClampNeg (nI i + nI 1))) (hI (wI h f) b (Int32.toNatClampNeg (nI i + nI 2)))
      refine ix (by decide) (ix (by decide) (wp_isC xC (wp_rIe e1 (ix (by decide) (ix (by decide) (?_))))))
      have eb : hI (wI h f1) b = hI (wI h f) b := eb
      rw [eb]
      exact wp_isC mC (wp_rIe e2 (wp_bt rfl (go h f2 pa pb S' hiL V2 rfl rfl)))
    refine wp_br (fun _ => ?_) (fun _ => ?_)
    · obtain ⟨y, f1, f2, S', e1, e2, V2, eb⟩ := lc_child V (hI (wI h f) b (Int32.toNatClampNeg (nI i + nI 1))) (hI (wI h f) b (Int32.toNatClampNeg (nI i + nI 2))) (hI (wI h f) b (Int32.toNatClampNeg (nI i + nI 3)))
      refine ix (by decide) (ix (by decide) (ix (by decide) (wp_isC xC (wp_rIe e1 (ix (by decide) (ix (by decide) (ix (by decide) (?_))))))))
      have eb : hI (wI h f1) b = hI (wI h f) b := eb
      rw [eb]
      exact wp_isC mC (wp_rIe e2 (wp_bt rfl (go h f2 pa pb S' hiL V2 rfl rfl)))
    refine wp_br (fun _ => ?_) (fun _ => ?_)
    · obtain ⟨y, f1, f2, S', e1, e2, V2, eb⟩ := lc_place V (hI (wI h f) b (Int32.toNatClampNeg (nI i + nI 1))) (hI (wI h f) b (Int32.toNatClampNeg (nI i + nI 2))) (hI (wI h f) b (Int32.toNatClampNeg (nI i + nI 3)))
      refine ix (by decide) (ix (by decide) (ix (by decide) (wp_isC xC (wp_rIe e1 (ix (by decide) (ix (by decide) (ix (by decide) (?_))))))))
      have eb : hI (wI h f1) b = hI (wI h f) b := eb
      rw [eb]
      exact wp_isC mC (wp_rIe e2 (wp_bt rfl (go h f2 pa pb S' hiL V2 rfl rfl)))
    refine wp_br (fun _ => ?_) (fun _ => ?_)
    · obtain ⟨y, f1, f2, S', e1, e2, V2, eb⟩ := lc_blocks V (hI (wI h f) b (Int32.toNatClampNeg (nI i + nI 1))) (hI (wI h f) b (Int32.toNatClampNeg (nI i + nI 2)))
      refine ix (by decide) (ix (by decide) (wp_isC xC (wp_rIe e1 (ix (by decide) (ix (by decide) (?_))))))
      have eb : hI (wI h f1) b = hI (wI h f) b := eb
      rw [eb]
      exact wp_isC mC (wp_rIe e2 (wp_bt rfl (go h f2 pa pb S' hiL V2 rfl rfl)))
    refine wp_br (fun _ => ?_) (fun _ => ?_)
    · obtain ⟨y, f1, f2, S', e1, e2, V2, eb⟩ := lc_row V (hI (wI h f) b (Int32.toNatClampNeg (nI i + nI 1))) (hI (wI h f) b (Int32.toNatClampNeg (nI i + nI 2)))
      refine ix (by decide) (ix (by decide) (wp_isC xC (wp_rIe e1 (ix (by decide) (ix (by decide) (?_))))))
      have eb : hI (wI h f1) b = hI (wI h f) b := eb
      rw [eb]
      exact wp_isC mC (wp_rIe e2 (wp_bt rfl (go h f2 pa pb S' hiL V2 rfl rfl)))
    refine wp_br (fun _ => ?_) (fun _ => ?_)
    · obtain ⟨y, f1, f2, S', e1, e2, V2, eb⟩ := lc_column V (hI (wI h f) b (Int32.toNatClampNeg (nI i + nI 1))) (hI (wI h f) b (Int32.toNatClampNeg (nI i + nI 2)))
      refine ix (by decide) (ix (by decide) (wp_isC xC (wp_rIe e1 (ix (by decide) (ix (by decide) (?_))))))
      have eb : hI (wI h f1) b = hI (wI h f) b := eb
      rw [eb]
      exact wp_isC mC (wp_rIe e2 (wp_bt rfl (go h f2 pa pb S' hiL V2 rfl rfl)))
    refine wp_br (fun _ => ?_) (fun _ => ?_)
    · obtain ⟨y, f1, f2, S', e1, e2, V2, eb⟩ := lc_rect V (hI (wI h f) b (Int32.toNatClampNeg (nI i + nI 1))) (hI (wI h f) b (Int32.toNatClampNeg (nI i + nI 2))) (hI (wI h f) b (Int32.toNatClampNeg (nI i + nI 3))) (hI (wI h f) b (Int32.toNatClampNeg (nI i + nI 4))) (hI (wI h f) b (Int32.toNatClampNeg (nI i + nI 5)))
      refine ix (by decide) (ix (by decide) (ix (by decide) (ix (by decide) (ix (by decide) (wp_isC xC (wp_rIe e1 (ix (by decide) (ix (by decide) (ix (by decide) (ix (by decide) (ix (by decide) (?_))))))))))))
      have eb : hI (wI h f1) b = hI (wI h f) b := eb
      rw [eb]
      exact wp_isC mC (wp_rIe e2 (wp_bt rfl (go h f2 pa pb S' hiL V2 rfl rfl)))
    refine wp_br (fun _ => ?_) (fun _ => ?_)
    · obtain ⟨y, f1, f2, S', e1, e2, V2, eb⟩ := lc_looks V (hI (wI h f) b (Int32.toNatClampNeg (nI i + nI 1))) (hI (wI h f) b (Int32.toNatClampNeg (nI i + nI 2))) (hI (wI h f) b (Int32.toNatClampNeg (nI i + nI 3))) (hI (wI h f) b (Int32.toNatClampNeg (nI i + nI 4))) (hI (wI h f) b (Int32.toNatClampNeg (nI i + nI 5)))
      refine ix (by decide) (ix (by decide) (ix (by decide) (ix (by decide) (ix (by decide) (wp_isC xC (wp_rIe e1 (ix (by decide) (ix (by decide) (ix (by decide) (ix (by decide) (ix (by decide) (?_))))))))))))
      have eb : hI (wI h f1) b = hI (wI h f) b := eb
      rw [eb]
      exact wp_isC mC (wp_rIe e2 (wp_bt rfl (go h f2 pa pb S' hiL V2 rfl rfl)))
    refine wp_br (fun _ => ?_) (fun _ => ?_)
    · obtain ⟨y, f1, f2, S', e1, e2, V2, eb⟩ := lc_walks V (hI (wI h f) b (Int32.toNatClampNeg (nI i + nI 1))) (hI (wI h f) b (Int32.toNatClampNeg (nI i + nI 2)))
      refine ix (by decide) (ix (by decide) (wp_isC xC (wp_rIe e1 (ix (by decide) (ix (by decide) (?_))))))
      have eb : hI (wI h f1) b = hI (wI h f) b := eb
      rw [eb]
      exact wp_isC mC (wp_rIe e2 (wp_bt rfl (go h f2 pa pb S' hiL V2 rfl rfl)))
    refine wp_br (fun _ => ?_) (fun _ => ?_)
    · obtain ⟨y, f1, f2, S', e1, e2, V2, eb⟩ := lc_products V (hI (wI h f) b (Int32.toNatClampNeg (nI i + nI 1))) (hI (wI h f) b (Int32.toNatClampNeg (nI i + nI 2)))
      refine ix (by decide) (ix (by decide) (wp_isC xC (wp_rIe e1 (ix (by decide) (ix (by decide) (?_))))))
      have eb : hI (wI h f1) b = hI (wI h f) b := eb
      rw [eb]
      exact wp_isC mC (wp_rIe e2 (wp_bt rfl (go h f2 pa pb S' hiL V2 rfl rfl)))
    refine wp_br (fun _ => ?_) (fun _ => ?_)
    · obtain ⟨y, f1, f2, S', e1, e2, V2, eb⟩ := lc_would V (hI (wI h f) b (Int32.toNatClampNeg (nI i + nI 1))) (hI (wI h f) b (Int32.toNatClampNeg (nI i + nI 2))) (hI (wI h f) b (Int32.toNatClampNeg (nI i + nI 3))) (hI (wI h f) b (Int32.toNatClampNeg (nI i + nI 4)))
      refine ix (by decide) (ix (by decide) (ix (by decide) (ix (by decide) (wp_isC xC (wp_rIe e1 (ix (by decide) (ix (by decide) (ix (by decide) (ix (by decide) (?_))))))))))
      have eb : hI (wI h f1) b = hI (wI h f) b := eb
      rw [eb]
      exact wp_isC mC (wp_rIe e2 (wp_bt rfl (go h f2 pa pb S' hiL V2 rfl rfl)))
    refine wp_br (fun _ => ?_) (fun _ => ?_)
    · obtain ⟨y, f1, f2, S', e1, e2, V2, eb⟩ := lc_pair V (hI (wI h f) b (Int32.toNatClampNeg (nI i + nI 1))) (hI (wI h f) b (Int32.toNatClampNeg (nI i + nI 2))) (hI (wI h f) b (Int32.toNatClampNeg (nI i + nI 3)))
      refine ix (by decide) (ix (by decide) (ix (by decide) (wp_isC xC (wp_rIe e1 (ix (by decide) (ix (by decide) (ix (by decide) (?_))))))))
      have eb : hI (wI h f1) b = hI (wI h f) b := eb
      rw [eb]
      exact wp_isC mC (wp_rIe e2 (wp_bt rfl (go h f2 pa pb S' hiL V2 rfl rfl)))
    refine wp_br (fun _ => ?_) (fun _ => ?_)
    · obtain ⟨y, f1, f2, S', e1, e2, V2, eb⟩ := lc_unlike V (hI (wI h f) b (Int32.toNatClampNeg (nI i + nI 1))) (hI (wI h f) b (Int32.toNatClampNeg (nI i + nI 2)))
      refine ix (by decide) (ix (by decide) (wp_isC xC (wp_rIe e1 (ix (by decide) (ix (by decide) (?_))))))
      have eb : hI (wI h f1) b = hI (wI h f) b := eb
      rw [eb]
      exact wp_isC mC (wp_rIe e2 (wp_bt rfl (go h f2 pa pb S' hiL V2 rfl rfl)))
    refine wp_br (fun _ => ?_) (fun _ => ?_)
    · obtain ⟨y, f1, f2, S', e1, e2, V2, eb⟩ := lc_within V (hI (wI h f) b (Int32.toNatClampNeg (nI i + nI 1))) (hI (wI h f) b (Int32.toNatClampNeg (nI i + nI 2)))
      refine ix (by decide) (ix (by decide) (wp_isC xC (wp_rIe e1 (ix (by decide) (ix (by decide) (?_))))))
      have eb : hI (wI h f1) b = hI (wI h f) b := eb
      rw [eb]
      exact wp_isC mC (wp_rIe e2 (wp_bt rfl (go h f2 pa pb S' hiL V2 rfl rfl)))
    refine wp_br (fun _ => ?_) (fun _ => ?_)
    · obtain ⟨y, f1, f2, S', e1, e2, V2, eb⟩ := lc_busiest V (hI (wI h f) b (Int32.toNatClampNeg (nI i + nI 1))) (hI (wI h f) b (Int32.toNatClampNeg (nI i + nI 2)))
      refine ix (by decide) (ix (by decide) (wp_isC xC (wp_rIe e1 (ix (by decide) (ix (by decide) (?_))))))
      have eb : hI (wI h f1) b = hI (wI h f) b := eb
      rw [eb]
      exact wp_isC mC (wp_rIe e2 (wp_bt rfl (go h f2 pa pb S' hiL V2 rfl rfl)))
    refine wp_br (fun _ => ?_) (fun _ => ?_)
    · obtain ⟨y, f1, f2, S', e1, e2, V2, eb⟩ := lc_densest V (hI (wI h f) b (Int32.toNatClampNeg (nI i + nI 1))) (hI (wI h f) b (Int32.toNatClampNeg (nI i + nI 2))) (hI (wI h f) b (Int32.toNatClampNeg (nI i + nI 3)))
      refine ix (by decide) (ix (by decide) (ix (by decide) (wp_isC xC (wp_rIe e1 (ix (by decide) (ix (by decide) (ix (by decide) (?_))))))))
      have eb : hI (wI h f1) b = hI (wI h f) b := eb
      rw [eb]
      exact wp_isC mC (wp_rIe e2 (wp_bt rfl (go h f2 pa pb S' hiL V2 rfl rfl)))
    refine wp_br (fun _ => ?_) (fun _ => ?_)
    · obtain ⟨y, f1, f2, S', e1, e2, V2, eb⟩ := lc_reached V (hI (wI h f) b (Int32.toNatClampNeg (nI i + nI 1))) (hI (wI h f) b (Int32.toNatClampNeg (nI i + nI 2)))
      refine ix (by decide) (ix (by decide) (wp_isC xC (wp_rIe e1 (ix (by decide) (ix (by decide) (?_))))))
      have eb : hI (wI h f1) b = hI (wI h f) b := eb
      rw [eb]
      exact wp_isC mC (wp_rIe e2 (wp_bt rfl (go h f2 pa pb S' hiL V2 rfl rfl)))
    refine wp_br (fun _ => ?_) (fun _ => ?_)
    · obtain ⟨y, f1, f2, S', e1, e2, V2, eb⟩ := lc_far V (hI (wI h f) b (Int32.toNatClampNeg (nI i + nI 1))) (hI (wI h f) b (Int32.toNatClampNeg (nI i + nI 2))) (hI (wI h f) b (Int32.toNatClampNeg (nI i + nI 3)))
      refine ix (by decide) (ix (by decide) (ix (by decide) (wp_isC xC (wp_rIe e1 (ix (by decide) (ix (by decide) (ix (by decide) (?_))))))))
      have eb : hI (wI h f1) b = hI (wI h f) b := eb
      rw [eb]
      exact wp_isC mC (wp_rIe e2 (wp_bt rfl (go h f2 pa pb S' hiL V2 rfl rfl)))
    refine wp_br (fun _ => ?_) (fun _ => ?_)
    · obtain ⟨y, f1, f2, S', e1, e2, V2, eb⟩ := lc_mutual V (hI (wI h f) b (Int32.toNatClampNeg (nI i + nI 1))) (hI (wI h f) b (Int32.toNatClampNeg (nI i + nI 2)))
      refine ix (by decide) (ix (by decide) (wp_isC xC (wp_rIe e1 (ix (by decide) (ix (by decide) (?_))))))
      have eb : hI (wI h f1) b = hI (wI h f) b := eb
      rw [eb]
      exact wp_isC mC (wp_rIe e2 (wp_bt rfl (go h f2 pa pb S' hiL V2 rfl rfl)))
    refine wp_br (fun _ => ?_) (fun _ => ?_)
    · obtain ⟨y, f1, f2, S', e1, e2, V2, eb⟩ := lc_closure V (hI (wI h f) b (Int32.toNatClampNeg (nI i + nI 1)))
      refine ix (by decide) (wp_isC xC (wp_rIe e1 (ix (by decide) (?_))))
      have eb : hI (wI h f1) b = hI (wI h f) b := eb
      rw [eb]
      exact wp_isC mC (wp_rIe e2 (wp_bt rfl (go h f2 pa pb S' hiL V2 rfl rfl)))
    refine wp_br (fun _ => ?_) (fun _ => ?_)
    · obtain ⟨y, f1, f2, S', e1, e2, V2, eb⟩ := lc_settles V (hI (wI h f) b (Int32.toNatClampNeg (nI i + nI 1)))
      refine ix (by decide) (wp_isC xC (wp_rIe e1 (ix (by decide) (?_))))
      have eb : hI (wI h f1) b = hI (wI h f) b := eb
      rw [eb]
      exact wp_isC mC (wp_rIe e2 (wp_bt rfl (go h f2 pa pb S' hiL V2 rfl rfl)))
    refine wp_br (fun _ => ?_) (fun _ => ?_)
    · obtain ⟨y, f1, f2, S', e1, e2, V2, eb⟩ := lc_parts V (hI (wI h f) b (Int32.toNatClampNeg (nI i + nI 1)))
      refine ix (by decide) (wp_isC xC (wp_rIe e1 (ix (by decide) (?_))))
      have eb : hI (wI h f1) b = hI (wI h f) b := eb
      rw [eb]
      exact wp_isC mC (wp_rIe e2 (wp_bt rfl (go h f2 pa pb S' hiL V2 rfl rfl)))
    refine wp_br (fun _ => ?_) (fun _ => ?_)
    · obtain ⟨y, f1, f2, S', e1, e2, V2, eb⟩ := lc_is V (hI (wI h f) b (Int32.toNatClampNeg (nI i + nI 1))) (hI (wI h f) b (Int32.toNatClampNeg (nI i + nI 2)))
      refine ix (by decide) (ix (by decide) (wp_isC xC (wp_rIe e1 (ix (by decide) (ix (by decide) (?_))))))
      have eb : hI (wI h f1) b = hI (wI h f) b := eb
      rw [eb]
      exact wp_isC mC (wp_rIe e2 (wp_bt rfl (go h f2 pa pb S' hiL V2 rfl rfl)))
    refine wp_br (fun _ => ?_) (fun _ => ?_)
    · obtain ⟨y, f1, f2, S', e1, e2, V2, eb⟩ := lc_law V (hI (wI h f) b (Int32.toNatClampNeg (nI i + nI 1))) (hI (wI h f) b (Int32.toNatClampNeg (nI i + nI 2)))
      refine ix (by decide) (ix (by decide) (wp_isC xC (wp_rIe e1 (ix (by decide) (ix (by decide) (?_))))))
      have eb : hI (wI h f1) b = hI (wI h f) b := eb
      rw [eb]
      exact wp_isC mC (wp_rIe e2 (wp_bt rfl (go h f2 pa pb S' hiL V2 rfl rfl)))
    refine wp_br (fun _ => ?_) (fun _ => ?_)
    · obtain ⟨y, f1, f2, S', e1, e2, V2, eb⟩ := lc_odds V (hI (wI h f) b (Int32.toNatClampNeg (nI i + nI 1))) (hI (wI h f) b (Int32.toNatClampNeg (nI i + nI 2)))
      refine ix (by decide) (ix (by decide) (wp_isC xC (wp_rIe e1 (ix (by decide) (ix (by decide) (?_))))))
      have eb : hI (wI h f1) b = hI (wI h f) b := eb
      rw [eb]
      exact wp_isC mC (wp_rIe e2 (wp_bt rfl (go h f2 pa pb S' hiL V2 rfl rfl)))
    refine wp_br (fun _ => ?_) (fun _ => ?_)
    · obtain ⟨y, f1, f2, S', e1, e2, V2, eb⟩ := lc_lies V (hI (wI h f) b (Int32.toNatClampNeg (nI i + nI 1)))
      refine ix (by decide) (wp_isC xC (wp_rIe e1 (ix (by decide) (?_))))
      have eb : hI (wI h f1) b = hI (wI h f) b := eb
      rw [eb]
      exact wp_isC mC (wp_rIe e2 (wp_bt rfl (go h f2 pa pb S' hiL V2 rfl rfl)))
    refine wp_br (fun _ => ?_) (fun _ => ?_)
    · refine ix (by decide) (ix (by decide) (ix (by decide) (ix (by decide) ?_)))
      have key : ∀ is : Bool, (hI (wI h f) b (Int32.toNatClampNeg (nI i + nI 4)) = nI 0 ↔ is = false) → wp (ev M_Law_law 0 1189 [some (.ref b), some (.ref x), some (.ref (x + 222)), some (.int (nI i))] [(.int (nI is.toNat)), (.int (hI (wI h f) b (Int32.toNatClampNeg (nI i + nI 3)))), (.int (hI (wI h f) b (Int32.toNatClampNeg (nI i + nI 2)))), (.int (hI (wI h f) b (Int32.toNatClampNeg (nI i + nI 1)))), (.ref x)] (wI h f)) Q := fun is his => by
        obtain ⟨y, f1, f2, S', e1, e2, V2, eb⟩ := lc_seen V (hI (wI h f) b (Int32.toNatClampNeg (nI i + nI 1))) (hI (wI h f) b (Int32.toNatClampNeg (nI i + nI 2))) (hI (wI h f) b (Int32.toNatClampNeg (nI i + nI 3))) is
        rw [r_Law_law_1189]
        refine wp_isC xC (wp_rIe e1 (ix (by decide) (ix (by decide) (ix (by decide) (ix (by decide) ?_)))))
        have eb : hI (wI h f1) b = hI (wI h f) b := eb
        rw [eb]
        have fin : wp (ev M_Law_law 0 1216 [some (.ref b), some (.ref x), some (.ref (x + 222)), some (.int (nI i))] [(.int (nI is.toNat)), (.int (hI (wI h f) b (Int32.toNatClampNeg (nI i + nI 3)))), (.int (hI (wI h f) b (Int32.toNatClampNeg (nI i + nI 2)))), (.int (hI (wI h f) b (Int32.toNatClampNeg (nI i + nI 1)))), (.ref (x + 222)), (.int y)] (wI h f1)) Q := by
          rw [r_Law_law_1216]
          exact wp_isC mC (wp_rIe e2 (wp_bt rfl (go h f2 pa pb S' hiL V2 rfl rfl)))
        cases is with
        | false => exact wp_bt (his.mpr rfl) fin
        | true => exact wp_bf (fun w => by have := his.mp w; cases this) fin
      by_cases z4 : hI (wI h f) b (Int32.toNatClampNeg (nI i + nI 4)) = nI 0
      · exact wp_bt z4 (key false ⟨fun _ => rfl, fun _ => z4⟩)
      · exact wp_bf z4 (key true ⟨fun w => absurd w z4, fun w => by cases w⟩)
    refine wp_br (fun _ => ?_) (fun _ => ?_)
    · obtain ⟨y, f1, f2, S', e1, e2, V2, eb⟩ := lc_untell V (hI (wI h f) b (Int32.toNatClampNeg (nI i + nI 1)))
      refine ix (by decide) (wp_isC xC (wp_rIe e1 (ix (by decide) (?_))))
      have eb : hI (wI h f1) b = hI (wI h f) b := eb
      rw [eb]
      exact wp_isC mC (wp_rIe e2 (wp_bt rfl (go h f2 pa pb S' hiL V2 rfl rfl)))
    refine wp_br (fun _ => ?_) (fun _ => ?_)
    · obtain ⟨y, f1, f2, S', e1, e2, V2, eb⟩ := lc_later V (hI (wI h f) b (Int32.toNatClampNeg (nI i + nI 1)))
      refine ix (by decide) (wp_isC xC (wp_rIe e1 (ix (by decide) (?_))))
      have eb : hI (wI h f1) b = hI (wI h f) b := eb
      rw [eb]
      exact wp_isC mC (wp_rIe e2 (wp_bt rfl (go h f2 pa pb S' hiL V2 rfl rfl)))
    refine wp_br (fun _ => ?_) (fun _ => ?_)
    · obtain ⟨y, f1, f2, S', e1, e2, V2, eb⟩ := lc_fits V (hI (wI h f) b (Int32.toNatClampNeg (nI i + nI 1)))
      refine ix (by decide) (wp_isC xC (wp_rIe e1 (ix (by decide) (?_))))
      have eb : hI (wI h f1) b = hI (wI h f) b := eb
      rw [eb]
      exact wp_isC mC (wp_rIe e2 (wp_bt rfl (go h f2 pa pb S' hiL V2 rfl rfl)))
    refine wp_br (fun _ => ?_) (fun _ => ?_)
    · obtain ⟨y, f1, f2, S', e1, e2, V2, eb⟩ := lc_fit V (hI (wI h f) b (Int32.toNatClampNeg (nI i + nI 1))) (hI (wI h f) b (Int32.toNatClampNeg (nI i + nI 2)))
      refine ix (by decide) (ix (by decide) (wp_isC xC (wp_rIe e1 (ix (by decide) (ix (by decide) (?_))))))
      have eb : hI (wI h f1) b = hI (wI h f) b := eb
      rw [eb]
      exact wp_isC mC (wp_rIe e2 (wp_bt rfl (go h f2 pa pb S' hiL V2 rfl rfl)))
    refine wp_br (fun _ => ?_) (fun _ => ?_)
    · obtain ⟨y, f1, f2, S', e1, e2, V2, eb⟩ := lc_ask V (hI (wI h f) b (Int32.toNatClampNeg (nI i + nI 1))) (hI (wI h f) b (Int32.toNatClampNeg (nI i + nI 2))) (hI (wI h f) b (Int32.toNatClampNeg (nI i + nI 3)))
      refine ix (by decide) (ix (by decide) (ix (by decide) (wp_isC xC (wp_rIe e1 (ix (by decide) (ix (by decide) (ix (by decide) (?_))))))))
      have eb : hI (wI h f1) b = hI (wI h f) b := eb
      rw [eb]
      exact wp_isC mC (wp_rIe e2 (wp_bt rfl (go h f2 pa pb S' hiL V2 rfl rfl)))
    refine wp_br (fun _ => ?_) (fun _ => ?_)
    · obtain ⟨y, f1, f2, S', e1, e2, V2, eb⟩ := lc_image V (hI (wI h f) b (Int32.toNatClampNeg (nI i + nI 1)))
      refine ix (by decide) (wp_isC xC (wp_rIe e1 (ix (by decide) (?_))))
      have eb : hI (wI h f1) b = hI (wI h f) b := eb
      rw [eb]
      exact wp_isC mC (wp_rIe e2 (wp_bt rfl (go h f2 pa pb S' hiL V2 rfl rfl)))
    refine wp_br (fun _ => ?_) (fun _ => ?_)
    · obtain ⟨y, f1, f2, S', e1, e2, V2, eb⟩ := lc_back V (hI (wI h f) b (Int32.toNatClampNeg (nI i + nI 1)))
      refine ix (by decide) (wp_isC xC (wp_rIe e1 (ix (by decide) (?_))))
      have eb : hI (wI h f1) b = hI (wI h f) b := eb
      rw [eb]
      exact wp_isC mC (wp_rIe e2 (wp_bt rfl (go h f2 pa pb S' hiL V2 rfl rfl)))
    refine wp_br (fun _ => ?_) (fun _ => ?_)
    · obtain ⟨y, f1, f2, S', e1, e2, V2, eb⟩ := lc_about V (hI (wI h f) b (Int32.toNatClampNeg (nI i + nI 1)))
      refine ix (by decide) (wp_isC xC (wp_rIe e1 (ix (by decide) (?_))))
      have eb : hI (wI h f1) b = hI (wI h f) b := eb
      rw [eb]
      exact wp_isC mC (wp_rIe e2 (wp_bt rfl (go h f2 pa pb S' hiL V2 rfl rfl)))
    exact go h f pa pb S hiL V rfl rfl
