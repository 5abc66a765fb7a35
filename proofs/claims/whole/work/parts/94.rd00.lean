/-! The plain form's reader: tokens. -/
theorem up2_2 {α : Type} {f : Nat → Nat → α} {a k : Nat} {v w : α} : up2 (up2 f a k v) a k w = up2 f a k w := by
  funext x j
  unfold up2
  split
  · split <;> rfl
  · rfl
/-- the tape as told -/
def MB (f : Nat → Nat → Int32) (m : Nat) (b : Nat → Nat) (len : Nat) : Prop := f m 2 = nI len ∧ len ≤ 1600 ∧ (∀ i, b i < 256) ∧ ∀ i, i < len → f (m + 1) i = nI (b i)
def hvb (b : Nat → Nat) (len j : Nat) : Int32 := if j < len then nI (b j) else mI 1
theorem MB.c {f f' : Nat → Nat → Int32} {m : Nat} {b : Nat → Nat} {len : Nat} (B : MB f m b len) (e2 : f' m 2 = f m 2) (e1 : f' (m + 1) = f (m + 1)) : MB f' m b len := ⟨by rw [e2]; exact B.1, B.2.1, B.2.2.1, fun i hi => by rw [e1]; exact B.2.2.2 i hi⟩
theorem mo_isLetter (x : Int32) (h : MH) : ev M_Mo_isLetter 0 0 [some (.int x)] [] h = some (some (.int (nI (decide (¬ x < nI 97) && decide (¬ nI 122 < x)).toNat)), h) := by
  rw [r_Mo_isLetter_0]
  by_cases z : x < nI 97
  · rw [decide_eq_false (not_not_intro z)]
    exact wp_e (wp_bt z (wp_isZ (by decide) (wp_s ⟨rfl, rfl⟩)))
  · rw [decide_eq_true z]
    by_cases y : nI 122 < x
    · rw [decide_eq_false (not_not_intro y)]
      exact wp_e (wp_bf z (wp_bt y (wp_isZ (by decide) (wp_s ⟨rfl, rfl⟩))))
    · rw [decide_eq_true y]
      exact wp_e (wp_bf z (wp_bf y (wp_isZ (by decide) (wp_s ⟨rfl, rfl⟩))))
theorem mo_isDigit (x : Int32) (h : MH) : ev M_Mo_isDigit 0 0 [some (.int x)] [] h = some (some (.int (nI (decide (¬ x < nI 48) && decide (¬ nI 57 < x)).toNat)), h) := by
  rw [r_Mo_isDigit_0]
  by_cases z : x < nI 48
  · rw [decide_eq_false (not_not_intro z)]
    exact wp_e (wp_bt z (wp_isZ (by decide) (wp_s ⟨rfl, rfl⟩)))
  · rw [decide_eq_true z]
    by_cases y : nI 57 < x
    · rw [decide_eq_false (not_not_intro y)]
      exact wp_e (wp_bf z (wp_bt y (wp_isZ (by decide) (wp_s ⟨rfl, rfl⟩))))
    · rw [decide_eq_true y]
      exact wp_e (wp_bf z (wp_bf y (wp_isZ (by decide) (wp_s ⟨rfl, rfl⟩))))
theorem mo_isSign {c : Nat} (hc : c < 256) (h : MH) : ev M_Mo_isSign 0 0 [some (.int (nI c))] [] h = some (some (.int (nI (isSi c).toNat)), h) := by
  rw [r_Mo_isSign_0]
  simp only [r_Mo_isSign_34]
  apply wp_e
  have t : ∀ {k : Nat}, k < 128 → (nI c = nI k ↔ c = k) := fun hk => nI_eq (by omega) (by omega)
  have y : isSi c = true → wp (isZ (nI 1) (some (some (.int (nI 1)), h))) (fun a b => a = some (Value.int (nI (isSi c).toNat)) ∧ b = h) := fun e => by
    rw [e]; exact wp_isZ (by decide) (wp_s ⟨rfl, rfl⟩)
  have n : (¬ c = 59 ∧ ¬ c = 40 ∧ ¬ c = 41 ∧ ¬ c = 60 ∧ ¬ c = 62 ∧ ¬ c = 61 ∧ ¬ c = 43 ∧ ¬ c = 45 ∧ ¬ c = 42 ∧ ¬ c = 47 ∧ ¬ c = 37) → isSi c = false := fun w => by
    unfold isSi tx1
    simp
    omega
  refine wp_bi (t (by decide)) (fun z => y (by rw [z]; rfl)) (fun z1 => ?_)
  refine wp_bi (t (by decide)) (fun z => y (by rw [z]; rfl)) (fun z2 => ?_)
  refine wp_bi (t (by decide)) (fun z => y (by rw [z]; rfl)) (fun z3 => ?_)
  refine wp_bi (t (by decide)) (fun z => y (by rw [z]; rfl)) (fun z4 => ?_)
  refine wp_bi (t (by decide)) (fun z => y (by rw [z]; rfl)) (fun z5 => ?_)
  refine wp_bi (t (by decide)) (fun z => y (by rw [z]; rfl)) (fun z6 => ?_)
  refine wp_bi (t (by decide)) (fun z => y (by rw [z]; rfl)) (fun z7 => ?_)
  refine wp_bi (t (by decide)) (fun z => y (by rw [z]; rfl)) (fun z8 => ?_)
  refine wp_bi (t (by decide)) (fun z => y (by rw [z]; rfl)) (fun z9 => ?_)
  refine wp_bi (t (by decide)) (fun z => y (by rw [z]; rfl)) (fun z10 => ?_)
  refine wp_bi (t (by decide)) (fun z => y (by rw [z]; rfl)) (fun z11 => ?_)
  rw [n ⟨z1, z2, z3, z4, z5, z6, z7, z8, z9, z10, z11⟩]
  exact wp_isZ (by decide) (wp_s ⟨rfl, rfl⟩)
section
variable {h : MH} {f : Nat → Nat → Int32} {g : Nat → Nat → Int64} {m : Nat} {b : Nat → Nat} {len : Nat}
theorem mo_here {i k : Nat} (C : MSH h m) (B : MB f m b len) (e3 : f m 3 = nI i) (hi : i ≤ 1600) (hk : k ≤ 1700) : ev M_Mo_here 0 0 [some (.ref m), some (.int (nI k))] [] (wI (wL h g) f) = some (some (.int (hvb b len (i + k))), wI (wL h g) f) := by
  have mc := C.1
  have ar1 : hR h m 0 = some (m + 1) := (C.2 0 (by decide)).1
  have an1 : hN h (m + 1) = 1600 := (C.2 0 (by decide)).2.1
  have ac1 : hC h (m + 1) = 20 := (C.2 0 (by decide)).2.2
  obtain ⟨b1, b2, b3, b4⟩ := B
  rw [r_Mo_here_0]
  refine wp_e (wp_isC mc (wp_isC mc ?_))
  rw [wI_I, e3, b1, nI_add]
  unfold hvb
  refine wp_bi (nI_ltI (by omega) (by omega)) (fun z => ?_) (fun z => ?_)
  · rw [if_pos z]
    refine wp_isC mc (wp_nnR ar1 (wp_isC mc (wp_isC ac1 (wp_inA an1 rfl (by omega) (by omega) ?_))))
    rw [nI_clamp (by omega), b4 _ z]
    exact wp_s ⟨rfl, rfl⟩
  · rw [if_neg z]; exact wp_s ⟨rfl, rfl⟩
theorem hvb_le (hb : ∀ i, b i < 256) (j : Nat) : (decide (¬ hvb b len j < nI 97) && decide (¬ nI 122 < hvb b len j)) = pLe b len j := by
  unfold hvb pLe bt isLe
  by_cases z : j < len
  · rw [if_pos z, if_pos z]
    have := hb j
    rw [decide_eq_decide.mpr (show (¬ nI (b j) < nI 97) ↔ 97 ≤ b j by rw [nI_ltI (by omega) (by decide)]; omega), decide_eq_decide.mpr (show (¬ nI 122 < nI (b j)) ↔ b j ≤ 122 by rw [nI_ltI (by decide) (by omega)]; omega)]
  · rw [if_neg z, if_neg z]; decide
theorem hvb_di (hb : ∀ i, b i < 256) (j : Nat) : (decide (¬ hvb b len j < nI 48) && decide (¬ nI 57 < hvb b len j)) = pDi b len j := by
  unfold hvb pDi bt isDi
  by_cases z : j < len
  · rw [if_pos z, if_pos z]
    have := hb j
    rw [decide_eq_decide.mpr (show (¬ nI (b j) < nI 48) ↔ 48 ≤ b j by rw [nI_ltI (by omega) (by decide)]; omega), decide_eq_decide.mpr (show (¬ nI 57 < nI (b j)) ↔ b j ≤ 57 by rw [nI_ltI (by decide) (by omega)]; omega)]
  · rw [if_neg z, if_neg z]; decide
theorem hvb_lt {j : Nat} (h : j < len) : hvb b len j = nI (b j) := if_pos h
theorem hvb_o {j : Nat} (h : len ≤ j) : hvb b len j = mI 1 := if_neg (by omega)
theorem pLe_b {j : Nat} (e : pLe b len j = true) : j < len ∧ isLe (b j) = true := by
  by_cases z : j < len
  · unfold pLe at e; rw [bt_i z] at e; exact ⟨z, e⟩
  · rw [pLe_o j (by omega)] at e; cases e
theorem pDi_b {j : Nat} (e : pDi b len j = true) : j < len ∧ isDi (b j) = true := by
  by_cases z : j < len
  · unfold pDi at e; rw [bt_i z] at e; exact ⟨z, e⟩
  · rw [pDi_o j (by omega)] at e; cases e
theorem mo_skip {Q : Option Value → MH → Prop} (C : MSH h m) : ∀ k i f, len ≤ i + k → i ≤ len → MB f m b len → f m 3 = nI i →
    wp (ev M_Mo_goOn 0 1 [some (.ref m), none] [] (wI (wL h g) (up2 f m 3 (nI (rn (pBl b len) k i))))) Q → wp (ev M_Mo_goOn 0 1 [some (.ref m), none] [] (wI (wL h g) f)) Q := by
  have mc := C.1
  intro k
  have self : ∀ {i : Nat} {f : Nat → Nat → Int32}, f m 3 = nI i → up2 f m 3 (nI i) = f := fun {i f} e => by
    funext x j
    unfold up2
    split
    · split
      · rename_i z1 z2; rw [z1, z2, e]
      · rfl
    · rfl
  induction k with
  | zero =>
    intro i f h1 h2 B e3 K
    rw [rn, self e3] at K; exact K
  | succ k ih =>
    intro i f h1 h2 B e3 K
    rw [rn] at K
    by_cases q : pBl b len i = true
    · rw [if_pos q] at K
      have hil : i < len := by
        by_cases z : i < len
        · exact z
        · rw [pBl_o i (by omega)] at q; cases q
      have := B.2.1
      have hr := mo_here (g := g) (k := 0) C B e3 (by omega) (by omega)
      rw [Nat.add_zero, hvb_lt hil] at hr
      have K2 := ih (i + 1) (up2 f m 3 (nI (i + 1))) (by omega) (by omega) (B.c (up2_k (by decide)) (up2_a (by omega))) up2_s (by rw [up2_2]; exact K)
      have P12 : wp (ev M_Mo_goOn 0 12 [some (.ref m), none] [] (wI (wL h g) f)) Q := by
        rw [r_Mo_goOn_12]
        refine wp_isC mc (wp_isC mc ?_)
        rw [wI_I, e3, nI_add, wI_s]
        exact K2
      have qb : b i = 32 ∨ b i = 10 := by
        unfold pBl isBl at q; rw [bt_i hil] at q
        simpa using q
      have := B.2.2.1 i
      rw [r_Mo_goOn_1]
      refine wp_isC mc (wp_rIe hr (wp_bi (nI_eq (by omega) (by decide)) (fun _ => P12) (fun z => wp_isC mc (wp_rIe hr (wp_bt ?_ P12)))))
      rw [nI_eq (by omega) (by decide)]; omega
    · rw [if_neg q, self e3] at K; exact K
theorem mo_wordLoop {p : Nat} (C : MSH h m) : ∀ k n f g, len ≤ p + n + k → p + n ≤ len → MB f m b len → f m 3 = nI p → (n ≤ 8 → g m 11 = lN (wvv b p n)) → (∀ j, j < n → isLe (b (p + j)) = true) →
    ∃ w, (rn (pLe b len) k (p + n) - p ≤ 8 → w = lN (wvv b p (rn (pLe b len) k (p + n) - p))) ∧ ev M_Mo_goOn 0 45 [some (.ref m), some (.int (nI n))] [] (wI (wL h g) f) = some (none, wI (wL h (up2 g m 11 w)) (up2 (up2 f m 5 (if 8 < rn (pLe b len) k (p + n) - p then nI 3 else nI 1)) m 3 (nI (rn (pLe b len) k (p + n))))) := by
  have mc := C.1
  have self : ∀ {g : Nat → Nat → Int64}, up2 g m 11 (g m 11) = g := fun {g} => by
    funext x j
    unfold up2
    split
    · split
      · rename_i z1 z2; rw [z1, z2]
      · rfl
    · rfl
  have stop : ∀ n f g, p + n ≤ len → MB f m b len → f m 3 = nI p → (n ≤ 8 → g m 11 = lN (wvv b p n)) → pLe b len (p + n) = false → ∃ w, (p + n - p ≤ 8 → w = lN (wvv b p (p + n - p))) ∧ ev M_Mo_goOn 0 45 [some (.ref m), some (.int (nI n))] [] (wI (wL h g) f) = some (none, wI (wL h (up2 g m 11 w)) (up2 (up2 f m 5 (if 8 < p + n - p then nI 3 else nI 1)) m 3 (nI (p + n)))) := by
    intro n f g h2 B e3 e11 q
    have := B.2.1
    have hr := mo_here (g := g) (k := n) C B e3 (by omega) (by omega)
    have hl := mo_isLetter (hvb b len (p + n)) (wI (wL h g) f)
    rw [hvb_le B.2.2.1, q] at hl
    have en : p + n - p = n := by omega
    refine ⟨g m 11, fun w => by rw [en] at w ⊢; exact e11 w, ?_⟩
    rw [self, r_Mo_goOn_45]
    simp only [r_Mo_goOn_75, r_Mo_goOn_138]
    refine wp_e (wp_isC mc (wp_rIe hr (wp_rIe hl (wp_bt rfl (wp_bi (nI_ltI (by decide) (by omega)) (fun z => ?_) (fun z => ?_))))))
    · rw [if_pos (by omega)]
      refine wp_isC mc ?_
      rw [wI_s]
      refine wp_isC mc (wp_isC mc ?_)
      rw [wI_I, up2_k (by decide), e3, nI_add, wI_s]
      exact wp_s ⟨rfl, rfl⟩
    · rw [if_neg (by omega)]
      refine wp_isC mc ?_
      rw [wI_s]
      refine wp_isC mc (wp_isC mc ?_)
      rw [wI_I, up2_k (by decide), e3, nI_add, wI_s]
      exact wp_s ⟨rfl, rfl⟩
  intro k
  induction k with
  | zero =>
    intro n f g h1 h2 B e3 e11 al
    rw [rn]
    exact stop n f g h2 B e3 e11 (pLe_o _ (by omega))
  | succ k ih =>
    intro n f g h1 h2 B e3 e11 al
    rw [rn]
    by_cases q : pLe b len (p + n) = true
    · rw [if_pos q]
      obtain ⟨ql, qb⟩ := pLe_b q
      obtain ⟨qc1, qc2⟩ := le_lt qb
      have := B.2.1
      have hr := mo_here (g := g) (k := n) C B e3 (by omega) (by omega)
      have hl := mo_isLetter (hvb b len (p + n)) (wI (wL h g) f)
      rw [hvb_le B.2.2.1, q] at hl
      have al' : ∀ j, j < n + 1 → isLe (b (p + j)) = true := fun j hj => by
        by_cases z : j = n
        · rw [z]; exact qb
        · exact al j (by omega)
      by_cases z8 : n < 8
      · have w56 : wvv b p n < 2 ^ 56 := by
          have := wvv_lt (b := b) (i := p) n (fun j hj => by have := le_lt (al j hj); omega)
          have p8 : 256 ^ n ≤ 256 ^ 7 := Nat.pow_le_pow_right (by decide) (by omega)
          have e7 : (256 : Nat) ^ 7 = 2 ^ 56 := by decide
          omega
        obtain ⟨w, w1, w2⟩ := ih (n + 1) f (up2 g m 11 (lN (wvv b p n * 256 + b (p + n)))) (by omega) (by omega) B e3 (fun _ => by rw [up2_s]; rfl) al'
        rw [up2_2] at w2
        refine ⟨w, w1, ?_⟩
        rw [r_Mo_goOn_45]
        simp only [r_Mo_goOn_65, nI_add]
        refine wp_e (wp_isC mc (wp_rIe hr (wp_rIe hl (wp_bf n10 (wp_bt (by rw [nI_ltI (by omega) (by decide)]; exact z8) (wp_isC mc (wp_isC mc (wp_rIe hr (wp_isC mc ?_)))))))))
        have eL : hL (wI (wL h g) f) m 11 = lN (wvv b p n) := e11 (by omega)
        have e64 : Int32.toInt64 (hvb b len (p + n)) = lN (b (p + n)) := by rw [hvb_lt ql]; exact nI_l (by omega)
        rw [eL, e64, lw_bv _ _ w56 (B.2.2.1 _), wIL_s]
        exact wp_of w2 ⟨rfl, rfl⟩
      · obtain ⟨w, w1, w2⟩ := ih (n + 1) f g (by omega) (by omega) B e3 (fun w => by omega) al'
        refine ⟨w, w1, ?_⟩
        rw [r_Mo_goOn_45]
        simp only [r_Mo_goOn_65, nI_add]
        refine wp_e (wp_isC mc (wp_rIe hr (wp_rIe hl (wp_bf n10 (wp_bf (by rw [nI_ltI (by omega) (by decide)]; exact z8) (wp_of w2 ⟨rfl, rfl⟩))))))
    · rw [if_neg q]
      exact stop n f g h2 B e3 e11 ((Bool.not_eq_true _).mp q)
end
