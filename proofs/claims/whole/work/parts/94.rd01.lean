/-! The plain form's reader: a token read. -/
/-- a token's sort, by its kind -/
def srt (k : Nat) : Int32 := if k = 2 then nI 0 else if k = 1 then nI 3 else if k = 3 then nI 2 else if k = 4 ∨ 100 ≤ k then nI 1 else nI k
/-- the token at hand -/
def MTK (f : Nat → Nat → Int32) (g : Nat → Nat → Int64) (m : Nat) (b : Nat → Nat) (len i : Nat) : Prop := f m 3 = nI (nx b len i) ∧ f m 4 = nI (pl b len i) ∧ f m 5 = srt (kd b len i) ∧ (kd b len i = 3 → f m 6 = nI (nv b len i)) ∧ (kd b len i = 4 ∨ 100 ≤ kd b len i → g m 11 = lN (wv b len i))
/-- what reading a token writes on -/
def MGO (m : Nat) (f f' : Nat → Nat → Int32) (g g' : Nat → Nat → Int64) : Prop := (∀ a, a ≠ m → f' a = f a) ∧ (∀ k, k < 3 ∨ 6 < k → f' m k = f m k) ∧ (∀ a, a ≠ m → g' a = g a)
theorem MGO.tr {m : Nat} {f f' f2 : Nat → Nat → Int32} {g g' g2 : Nat → Nat → Int64} (a : MGO m f f' g g') (b : MGO m f' f2 g' g2) : MGO m f f2 g g2 := ⟨fun x hx => (b.1 x hx).trans (a.1 x hx), fun k hk => (b.2.1 k hk).trans (a.2.1 k hk), fun x hx => (b.2.2 x hx).trans (a.2.2 x hx)⟩
section
variable {h : MH} {f : Nat → Nat → Int32} {g : Nat → Nat → Int64} {m : Nat} {b : Nat → Nat} {len : Nat}
theorem mo_numLoop {p : Nat} (C : MSH h m) : ∀ k n f, len ≤ p + n + k → p + n ≤ len → MB f m b len → f m 3 = nI p → (n ≤ 4 → f m 6 = nI (nvv b p n)) → (∀ j, j < n → isDi (b (p + j)) = true) →
    ∃ w, (rn (pDi b len) k (p + n) - p ≤ 4 → w = nI (nvv b p (rn (pDi b len) k (p + n) - p))) ∧ ev M_Mo_goOn 0 83 [some (.ref m), some (.int (nI n))] [] (wI (wL h g) f) = some (none, wI (wL h g) (up2 (up2 (up2 f m 6 w) m 5 (if 4 < rn (pDi b len) k (p + n) - p ∨ isLe (bt b len (rn (pDi b len) k (p + n))) = true then nI 3 else nI 2)) m 3 (nI (rn (pDi b len) k (p + n))))) := by
  have mc := C.1
  have self : ∀ {f : Nat → Nat → Int32}, up2 f m 6 (f m 6) = f := fun {f} => by
    funext x j
    unfold up2
    split
    · split
      · rename_i z1 z2; rw [z1, z2]
      · rfl
    · rfl
  have stop : ∀ n f, p + n ≤ len → MB f m b len → f m 3 = nI p → (n ≤ 4 → f m 6 = nI (nvv b p n)) → pDi b len (p + n) = false → ∃ w, (p + n - p ≤ 4 → w = nI (nvv b p (p + n - p))) ∧ ev M_Mo_goOn 0 83 [some (.ref m), some (.int (nI n))] [] (wI (wL h g) f) = some (none, wI (wL h g) (up2 (up2 (up2 f m 6 w) m 5 (if 4 < p + n - p ∨ isLe (bt b len (p + n)) = true then nI 3 else nI 2)) m 3 (nI (p + n)))) := by
    intro n f h2 B e3 e6 q
    have := B.2.1
    have hr := mo_here (g := g) (k := n) C B e3 (by omega) (by omega)
    have hd := mo_isDigit (hvb b len (p + n)) (wI (wL h g) f)
    rw [hvb_di B.2.2.1, q] at hd
    have hl := mo_isLetter (hvb b len (p + n)) (wI (wL h g) f)
    rw [hvb_le B.2.2.1] at hl
    have en : p + n - p = n := by omega
    refine ⟨f m 6, fun w => by rw [en] at w ⊢; exact e6 w, ?_⟩
    have fin : ∀ x, wp (ev M_Mo_goOn 0 120 [some (.ref m), some (.int (nI n))] [(.int x), (.ref m)] (wI (wL h g) f)) (fun a c => a = none ∧ c = wI (wL h g) (up2 (up2 f m 5 x) m 3 (nI (p + n)))) := fun x => by
      rw [r_Mo_goOn_120]
      simp only [r_Mo_goOn_138]
      refine wp_isC mc ?_
      rw [wI_s]
      refine wp_isC mc (wp_isC mc ?_)
      rw [wI_I, up2_k (by decide), e3, nI_add, wI_s]
      exact wp_s ⟨rfl, rfl⟩
    rw [self, r_Mo_goOn_83, en]
    simp only [r_Mo_goOn_116]
    refine wp_e (wp_isC mc (wp_rIe hr (wp_rIe hd (wp_bt rfl (wp_bi (nI_ltI (by decide) (by omega)) (fun z => ?_) (fun z => ?_))))))
    · rw [if_pos (Or.inl z)]
      exact fin _
    · refine wp_isC mc (wp_rIe hr (wp_rIe hl ?_))
      have el : pLe b len (p + n) = isLe (bt b len (p + n)) := rfl
      rw [el]
      cases zl : isLe (bt b len (p + n)) with
      | false =>
        rw [if_neg (fun w => by rcases w with w | w; exact z w; cases w)]
        exact wp_bt rfl (fin _)
      | true =>
        rw [if_pos (Or.inr rfl)]
        exact wp_bf n10 (fin _)
  intro k
  induction k with
  | zero =>
    intro n f h1 h2 B e3 e6 al
    rw [rn]
    exact stop n f h2 B e3 e6 (pDi_o _ (by omega))
  | succ k ih =>
    intro n f h1 h2 B e3 e6 al
    rw [rn]
    by_cases q : pDi b len (p + n) = true
    · rw [if_pos q]
      obtain ⟨ql, qb⟩ := pDi_b q
      obtain ⟨qc1, qc2⟩ := di_lt qb
      have := B.2.1
      have hr := mo_here (g := g) (k := n) C B e3 (by omega) (by omega)
      have hd := mo_isDigit (hvb b len (p + n)) (wI (wL h g) f)
      rw [hvb_di B.2.2.1, q] at hd
      have al' : ∀ j, j < n + 1 → isDi (b (p + j)) = true := fun j hj => by
        by_cases z : j = n
        · rw [z]; exact qb
        · exact al j (by omega)
      by_cases z4 : n < 4
      · have w4 : nvv b p n < 10000 := by
          have := nvv_lt (b := b) (i := p) n al
          have p8 : 10 ^ n ≤ 10 ^ 3 := Nat.pow_le_pow_right (by decide) (by omega)
          omega
        obtain ⟨w, w1, w2⟩ := ih (n + 1) (up2 f m 6 (nI (nvv b p n * 10 + b (p + n) - 48))) (by omega) (by omega) (B.c (up2_k (by decide)) (up2_a (by omega))) (by rw [up2_k (by decide)]; exact e3) (fun _ => by rw [up2_s]; rfl) al'
        rw [up2_2] at w2
        refine ⟨w, w1, ?_⟩
        rw [r_Mo_goOn_83]
        simp only [r_Mo_goOn_104, nI_add]
        refine wp_e (wp_isC mc (wp_rIe hr (wp_rIe hd (wp_bf n10 (wp_bt (by rw [nI_ltI (by omega) (by decide)]; exact z4) (wp_isC mc (wp_isC mc (wp_rIe hr (wp_isC mc ?_)))))))))
        have e6' : hI (wI (wL h g) f) m 6 = nI (nvv b p n) := e6 (by omega)
        rw [e6', hvb_lt ql, pk_mul, nI_add, pk_sub (by omega), wI_s, Nat.mul_comm 10]
        exact wp_of w2 ⟨rfl, rfl⟩
      · obtain ⟨w, w1, w2⟩ := ih (n + 1) f (by omega) (by omega) B e3 (fun w => by omega) al'
        refine ⟨w, w1, ?_⟩
        rw [r_Mo_goOn_83]
        simp only [r_Mo_goOn_104, nI_add]
        refine wp_e (wp_isC mc (wp_rIe hr (wp_rIe hd (wp_bf n10 (wp_bf (by rw [nI_ltI (by omega) (by decide)]; exact z4) (wp_of w2 ⟨rfl, rfl⟩))))))
    · rw [if_neg q]
      exact stop n f h2 B e3 e6 ((Bool.not_eq_true _).mp q)
/-- the next token -/
theorem mo_goOn {i : Nat} (C : MSH h m) (B : MB f m b len) (hi : i ≤ len) (e3 : f m 3 = nI i) : ∃ f' g', ev M_Mo_goOn 0 0 [some (.ref m), none] [] (wI (wL h g) f) = some (none, wI (wL h g') f') ∧ MTK f' g' m b len i ∧ MGO m f f' g g' := by
  have mc := C.1
  have hl := B.2.1
  have hpl := pl_le (b := b) hi
  have hpb : isBl (bt b len (pl b len i)) = false := rn_end pBl_o 1600 i (by omega)
  -- from the first sign of the token on
  have key : ∃ f' g', ev M_Mo_goOn 0 1 [some (.ref m), none] [] (wI (wL h g) (up2 f m 3 (nI (pl b len i)))) = some (none, wI (wL h g') f') ∧ MTK f' g' m b len i ∧ MGO m f f' g g' := by
    have B1 : MB (up2 f m 3 (nI (pl b len i))) m b len := B.c (up2_k (by decide)) (up2_a (by omega))
    have B2 : MB (up2 (up2 (up2 f m 3 (nI (pl b len i))) m 4 (nI (pl b len i))) m 6 (nI 0)) m b len := B1.c (by rw [up2_k (by decide), up2_k (by decide)]) (by rw [up2_a (by omega), up2_a (by omega)])
    have e32 : up2 (up2 (up2 f m 3 (nI (pl b len i))) m 4 (nI (pl b len i))) m 6 (nI 0) m 3 = nI (pl b len i) := by rw [up2_k (by decide), up2_k (by decide), up2_s]
    have h1 := mo_here (g := g) (k := 0) C B1 up2_s (by omega) (by omega)
    have h2 := mo_here (g := up2 g m 11 (lN 0)) (k := 0) C B2 e32 (by omega) (by omega)
    rw [Nat.add_zero] at h1 h2
    have nb1 : ¬ hvb b len (pl b len i) = nI 32 := by
      unfold hvb
      by_cases z : pl b len i < len
      · rw [if_pos z, nI_eq (by have := B.2.2.1 (pl b len i); omega) (by decide)]
        rw [bt_i z] at hpb; unfold isBl at hpb; simp at hpb; exact hpb.1
      · rw [if_neg z]; decide
    have nb2 : ¬ hvb b len (pl b len i) = nI 10 := by
      unfold hvb
      by_cases z : pl b len i < len
      · rw [if_pos z, nI_eq (by have := B.2.2.1 (pl b len i); omega) (by decide)]
        rw [bt_i z] at hpb; unfold isBl at hpb; simp at hpb; exact hpb.2
      · rw [if_neg z]; decide
    -- up to the first branch
    have pre : ∀ Q : Option Value → MH → Prop, wp (br (hvb b len (pl b len i) < (nI 0))
            (isC (wI (wL h (up2 g m 11 (lN 0))) (up2 (up2 (up2 f m 3 (nI (pl b len i))) m 4 (nI (pl b len i))) m 6 (nI 0))) m 13 (
             some (none, sI (wI (wL h (up2 g m 11 (lN 0))) (up2 (up2 (up2 f m 3 (nI (pl b len i))) m 4 (nI (pl b len i))) m 6 (nI 0))) m 5 (nI 0))))
            (isC (wI (wL h (up2 g m 11 (lN 0))) (up2 (up2 (up2 f m 3 (nI (pl b len i))) m 4 (nI (pl b len i))) m 6 (nI 0))) m 13 (rI (ev M_Mo_here 0 0 [some (.ref m), some (.int (nI 0))] [] (wI (wL h (up2 g m 11 (lN 0))) (up2 (up2 (up2 f m 3 (nI (pl b len i))) m 4 (nI (pl b len i))) m 6 (nI 0)))) fun y12 h11 =>
             rI (ev M_Mo_isLetter 0 0 [some (.int y12)] [] h11) fun y14 h13 =>
             br (y14 = (nI 0))
               (isC h13 m 13 (rI (ev M_Mo_here 0 0 [some (.ref m), some (.int (nI 0))] [] h13) fun y16 h15 =>
                rI (ev M_Mo_isDigit 0 0 [some (.int y16)] [] h15) fun y18 h17 =>
                br (y18 = (nI 0))
                  (isC h17 m 13 (rI (ev M_Mo_here 0 0 [some (.ref m), some (.int (nI 0))] [] h17) fun y20 h19 =>
                   rI (ev M_Mo_isSign 0 0 [some (.int y20)] [] h19) fun y22 h21 =>
                   br (y22 = (nI 0))
                     (ev M_Mo_goOn 0 134 [some (.ref m), none] [(.int (nI 3)), (.ref m)] h21)
                     (isC h21 m 13 (rI (ev M_Mo_here 0 0 [some (.ref m), some (.int (nI 0))] [] h21) fun y24 h23 =>
                      ev M_Mo_goOn 0 134 [some (.ref m), none] [(.int y24), (.ref m)] h23))))
                  (ev M_Mo_goOn 0 83 [some (.ref m), some (.int (nI 0))] [] h17)))
               (ev M_Mo_goOn 0 45 [some (.ref m), some (.int (nI 0))] [] h13)))) Q → wp (ev M_Mo_goOn 0 1 [some (.ref m), none] [] (wI (wL h g) (up2 f m 3 (nI (pl b len i))))) Q := by
      intro Q K
      rw [r_Mo_goOn_1]
      refine wp_isC mc (wp_rIe h1 (wp_bf nb1 (wp_isC mc (wp_rIe h1 (wp_bf nb2 (wp_isC mc (wp_isC mc ?_)))))))
      rw [wI_I, up2_s, wI_s]
      refine wp_isC mc ?_
      rw [wIL_s]
      refine wp_isC mc ?_
      rw [wI_s]
      exact wp_isC mc (wp_rIe h2 K)
    generalize hp : pl b len i = p at *
    generalize hf2 : up2 (up2 (up2 f m 3 (nI p)) m 4 (nI p)) m 6 (nI 0) = f2 at *
    have f2a : ∀ a, a ≠ m → f2 a = f a := fun a ha => by rw [← hf2, up2_a ha, up2_a ha, up2_a ha]
    have f2k : ∀ k, k < 3 ∨ 6 < k → f2 m k = f m k := fun k hk => by rw [← hf2, up2_k (by omega), up2_k (by omega), up2_k (by omega)]
    have f24 : f2 m 4 = nI p := by rw [← hf2, up2_k (by decide), up2_s]
    have f26 : f2 m 6 = nI 0 := by rw [← hf2, up2_s]
    have g2a : ∀ a, a ≠ m → up2 g m 11 (lN 0) a = g a := fun a ha => up2_a ha
    by_cases z : p < len
    · have hbp := B.2.2.1 p
      have hvp := hvb_lt (b := b) z
      have nn : ¬ hvb b len p < nI 0 := by rw [hvp]; exact nI_pos (by omega)
      have hle := mo_isLetter (hvb b len p) (wI (wL h (up2 g m 11 (lN 0))) f2)
      rw [hvb_le B.2.2.1] at hle
      have hdi := mo_isDigit (hvb b len p) (wI (wL h (up2 g m 11 (lN 0))) f2)
      rw [hvb_di B.2.2.1] at hdi
      by_cases zl : isLe (bt b len p) = true
      · have zl' : pLe b len p = true := zl
        rw [zl'] at hle
        obtain ⟨w, w1, w2⟩ := mo_wordLoop (p := p) C 1600 0 f2 (up2 g m 11 (lN 0)) (by omega) (by omega) B2 e32 (fun _ => up2_s) (fun j hj => absurd hj (Nat.not_lt_zero j))
        rw [Nat.add_zero, up2_2] at w2
        rw [Nat.add_zero] at w1
        have enx : nx b len i = rn (pLe b len) 1600 p := by unfold nx; rw [hp, if_neg (by omega), if_pos zl]
        rw [← enx] at w1 w2
        have ekd : kd b len i = if 8 < nx b len i - p then 1 else kwf (wv b len i) 18 := by unfold kd; rw [hp, if_neg (by omega), if_pos zl]
        have ewv : wv b len i = wvv b p (nx b len i - p) := by unfold wv; rw [hp]
        refine ⟨_, _, wp_e (pre _ (wp_bf nn (wp_isC mc (wp_rIe h2 (wp_rIe hle (wp_bf n10 (wp_of w2 ⟨rfl, rfl⟩))))))), ⟨up2_s, by rw [up2_k (by decide), up2_k (by decide), hp]; exact f24, ?_, fun w => ?_, fun w => ?_⟩, fun a ha => by rw [up2_a ha, up2_a ha]; exact f2a a ha, fun k hk => by rw [up2_k (by omega), up2_k (by omega)]; exact f2k k hk, fun a ha => up2_a ha⟩
        · rw [up2_k (by decide), up2_s, ekd]
          by_cases y : 8 < nx b len i - p
          · rw [if_pos y, if_pos y]; rfl
          · rw [if_neg y, if_neg y]
            unfold srt
            rcases kwf_r (w := wv b len i) 18 with e | e
            · rw [e]; rfl
            · rw [if_neg (by omega), if_neg (by omega), if_neg (by omega), if_pos (by omega)]
        · exfalso
          rw [ekd] at w
          by_cases y : 8 < nx b len i - p
          · rw [if_pos y] at w; cases w
          · rw [if_neg y] at w
            rcases kwf_r (w := wv b len i) 18 with e | e <;> omega
        · rw [up2_s, ewv]
          refine w1 ?_
          by_cases y : 8 < nx b len i - p
          · rw [ekd, if_pos y] at w; omega
          · omega
      · have zl' : pLe b len p = false := (Bool.not_eq_true _).mp zl
        rw [zl'] at hle
        by_cases zd : isDi (bt b len p) = true
        · have zd' : pDi b len p = true := zd
          rw [zd'] at hdi
          obtain ⟨w, w1, w2⟩ := mo_numLoop (g := up2 g m 11 (lN 0)) (p := p) C 1600 0 f2 (by omega) (by omega) B2 e32 (fun _ => f26) (fun j hj => absurd hj (Nat.not_lt_zero j))
          rw [Nat.add_zero] at w1 w2
          have enx : nx b len i = rn (pDi b len) 1600 p := by unfold nx; rw [hp, if_neg (by omega), if_neg zl, if_pos zd]
          rw [← enx] at w1 w2
          have ekd : kd b len i = if 4 < nx b len i - p ∨ isLe (bt b len (nx b len i)) = true then 1 else 3 := by unfold kd; rw [hp, if_neg (by omega), if_neg zl, if_pos zd]
          have env : nv b len i = nvv b p (nx b len i - p) := by unfold nv; rw [hp]
          refine ⟨_, _, wp_e (pre _ (wp_bf nn (wp_isC mc (wp_rIe h2 (wp_rIe hle (wp_bt rfl (wp_isC mc (wp_rIe h2 (wp_rIe hdi (wp_bf n10 (wp_of w2 ⟨rfl, rfl⟩))))))))))), ⟨up2_s, by rw [up2_k (by decide), up2_k (by decide), up2_k (by decide), hp]; exact f24, ?_, fun w => ?_, fun w => ?_⟩, fun a ha => by rw [up2_a ha, up2_a ha, up2_a ha]; exact f2a a ha, fun k hk => by rw [up2_k (by omega), up2_k (by omega), up2_k (by omega)]; exact f2k k hk, fun a ha => up2_a ha⟩
          · rw [up2_k (by decide), up2_s, ekd]
            by_cases y : 4 < nx b len i - p ∨ isLe (bt b len (nx b len i)) = true
            · rw [if_pos y, if_pos y]; rfl
            · rw [if_neg y, if_neg y]; rfl
          · rw [up2_k (by decide), up2_k (by decide), up2_s, env]
            refine w1 ?_
            by_cases y : 4 < nx b len i - p ∨ isLe (bt b len (nx b len i)) = true
            · rw [ekd, if_pos y] at w; cases w
            · omega
          · exfalso
            rw [ekd] at w
            by_cases y : 4 < nx b len i - p ∨ isLe (bt b len (nx b len i)) = true
            · rw [if_pos y] at w; omega
            · rw [if_neg y] at w; omega
        · have zd' : pDi b len p = false := (Bool.not_eq_true _).mp zd
          rw [zd'] at hdi
          have hsi := mo_isSign hbp (wI (wL h (up2 g m 11 (lN 0))) f2)
          rw [hvp] at hle hdi h2
          have enx : nx b len i = p + 1 := by unfold nx; rw [hp, if_neg (by omega), if_neg zl, if_neg zd]
          have ekd : kd b len i = if isSi (b p) = true then b p else 1 := by unfold kd; rw [hp, if_neg (by omega), if_neg zl, if_neg zd, bt_i z]
          have fin : ∀ x, wp (ev M_Mo_goOn 0 134 [some (.ref m), none] [(.int x), (.ref m)] (wI (wL h (up2 g m 11 (lN 0))) f2)) (fun a c => a = none ∧ c = wI (wL h (up2 g m 11 (lN 0))) (up2 (up2 f2 m 5 x) m 3 (nI (p + 1)))) := fun x => by
            rw [r_Mo_goOn_134]
            simp only [r_Mo_goOn_138]
            refine wp_isC mc ?_
            rw [wI_s]
            refine wp_isC mc (wp_isC mc ?_)
            rw [wI_I, up2_k (by decide), e32, nI_add, wI_s]
            exact wp_s ⟨rfl, rfl⟩
          have go : ∀ x, x = srt (kd b len i) → MTK (up2 (up2 f2 m 5 x) m 3 (nI (p + 1))) (up2 g m 11 (lN 0)) m b len i ∧ MGO m f (up2 (up2 f2 m 5 x) m 3 (nI (p + 1))) g (up2 g m 11 (lN 0)) := fun x hx => by
            have nk : ¬ kd b len i = 3 ∧ ¬ (kd b len i = 4 ∨ 100 ≤ kd b len i) := by
              rw [ekd]
              by_cases y : isSi (b p) = true
              · rw [if_pos y]; have := isSi_r y; omega
              · rw [if_neg y]; omega
            exact ⟨⟨by rw [up2_s, enx], by rw [up2_k (by decide), up2_k (by decide), hp]; exact f24, by rw [up2_k (by decide), up2_s, hx], fun w => absurd w nk.1, fun w => absurd w nk.2⟩, fun a ha => by rw [up2_a ha, up2_a ha]; exact f2a a ha, fun k hk => by rw [up2_k (by omega), up2_k (by omega)]; exact f2k k hk, fun a ha => up2_a ha⟩
          by_cases y : isSi (b p) = true
          · have r := isSi_r y
            rw [y] at hsi
            obtain ⟨g1, g2⟩ := go (nI (b p)) (by
              rw [ekd, if_pos y]
              unfold srt
              rw [if_neg (by omega), if_neg (by omega), if_neg (by omega), if_neg (by omega)])
            refine ⟨_, _, wp_e (pre _ ?_), g1, g2⟩
            rw [hvp] at nn ⊢
            exact wp_bf nn (wp_isC mc (wp_rIe h2 (wp_rIe hle (wp_bt rfl (wp_isC mc (wp_rIe h2 (wp_rIe hdi (wp_bt rfl (wp_isC mc (wp_rIe h2 (wp_rIe hsi (wp_bf n10 (wp_isC mc (wp_rIe h2 (fin _)))))))))))))))
          · have y' := (Bool.not_eq_true _).mp y
            rw [y'] at hsi
            obtain ⟨g1, g2⟩ := go (nI 3) (by rw [ekd, if_neg y]; rfl)
            refine ⟨_, _, wp_e (pre _ ?_), g1, g2⟩
            rw [hvp] at nn ⊢
            exact wp_bf nn (wp_isC mc (wp_rIe h2 (wp_rIe hle (wp_bt rfl (wp_isC mc (wp_rIe h2 (wp_rIe hdi (wp_bt rfl (wp_isC mc (wp_rIe h2 (wp_rIe hsi (wp_bt rfl (fin _))))))))))))) 
    · have ekd : kd b len i = 2 := by unfold kd; rw [hp, if_pos (by omega)]
      have enx : nx b len i = p := by unfold nx; rw [hp, if_pos (by omega)]
      refine ⟨up2 f2 m 5 (nI 0), up2 g m 11 (lN 0), wp_e (pre _ ?_), ⟨by rw [up2_k (by decide), enx]; exact e32, by rw [up2_k (by decide), hp]; exact f24, by rw [up2_s, ekd]; rfl, fun w => by omega, fun w => by omega⟩, fun a ha => by rw [up2_a ha]; exact f2a a ha, fun k hk => by rw [up2_k (by omega)]; exact f2k k hk, fun a ha => up2_a ha⟩
      refine wp_bt (by rw [hvb_o (by omega)]; decide) (wp_isC mc ?_)
      rw [wI_s]
      exact wp_s ⟨rfl, rfl⟩
  obtain ⟨f', g', k1, k2⟩ := key
  refine ⟨f', g', wp_e ?_, k2⟩
  rw [r_Mo_goOn_0]
  exact mo_skip C 1600 i f (by omega) hi B e3 (wp_of k1 ⟨rfl, rfl⟩)
end
