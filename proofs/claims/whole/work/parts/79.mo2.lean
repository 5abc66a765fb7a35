/-! The plain form: a relation turned back. -/
def TB (a m o : Nat) (f f' : Nat → Nat → Int32) : Prop := (∀ b, b ≠ a → b ≠ m + 21 → f' b = f b) ∧ ∀ k, k < o ∨ o + 16 ≤ k → f' a k = f a k
theorem TB.rf {a m o : Nat} {f : Nat → Nat → Int32} : TB a m o f f := ⟨fun _ _ _ => rfl, fun _ _ => rfl⟩
theorem TB.tr {a m o : Nat} {f g k : Nat → Nat → Int32} (x : TB a m o f g) (y : TB a m o g k) : TB a m o f k := ⟨fun b h1 h2 => (y.1 b h1 h2).trans (x.1 b h1 h2), fun j hj => (y.2 j hj).trans (x.2 j hj)⟩
section
variable {h : MH} {f : Nat → Nat → Int32} {m a o N : Nat} {G : Nat → Nat}
theorem mo_turnsBack (C : MSH h m) (hb : a ≠ m + 21) (ac : hC h a = 20) (an : hN h a = N) (ho : o + 16 ≤ N) (hN' : N < 2 ^ 30) (F : RF f a o G) (hG : ∀ r, G r < 2 ^ 16) : ∃ f', ev M_Mo_turnsBack 0 0 [some (.ref m), some (.ref a), some (.int (nI o)), none, none] [] (wI h f) = some (none, wI h f') ∧ RF f' a o (cs 16 G) ∧ TB a m o f f' := by
  have mc := C.1
  have ar21 : hR h m 41 = some (m + 21) := (C.2 20 (by decide)).1
  have an21 : hN h (m + 21) = 16 := (C.2 20 (by decide)).2.1
  have ac21 : hC h (m + 21) = 20 := (C.2 20 (by decide)).2.2
  have um : ∀ (f1 : Nat → Nat → Int32) k v, TB a m o f1 (up2 f1 (m + 21) k v) := fun f1 k v => ⟨fun b _ h2 => up2_a h2, fun j _ => by rw [up2_a hb]⟩
  have mF : ∀ {f1 : Nat → Nat → Int32} {k : Nat} {v : Int32} {G : Nat → Nat}, RF f1 a o G → RF (up2 f1 (m + 21) k v) a o G := fun R r hr => by rw [up2_a hb]; exact R r hr
  -- the third loop
  have L3 : ∀ k i f1, i + k = 16 → (∀ r, r < i → f1 a (o + r) = nI (cs 16 G r)) → (∀ r, r < 16 → f1 (m + 21) r = nI (cs 16 G r)) → TB a m o f f1 → ∃ f', ev M_Mo_turnsBack 0 51 [some (.ref m), some (.ref a), some (.int (nI o)), some (.int (nI i)), none] [] (wI h f1) = some (none, wI h f') ∧ RF f' a o (cs 16 G) ∧ TB a m o f f' := by
    intro k
    induction k with
    | zero =>
      intro i f1 hi e1 e2 t
      have : i = 16 := by omega
      subst this
      refine ⟨f1, ?_, e1, t⟩
      rw [r_Mo_turnsBack_51]
      exact wp_e (wp_bf (by decide) (wp_s ⟨rfl, rfl⟩))
    | succ k ih =>
      intro i f1 hi e1 e2 t
      obtain ⟨f', i1, i2, i3⟩ := ih (i + 1) (up2 f1 a (o + i) (nI (cs 16 G i))) (by omega) (fun r hr => by
        by_cases z : r = i
        · rw [z, up2_s]
        · rw [up2_k (by omega)]; exact e1 r (by omega)) (fun r hr => by rw [up2_a (Ne.symm hb)]; exact e2 r hr) (t.tr ⟨fun b h1 _ => up2_a h1, fun j hj => up2_k (by omega)⟩)
      refine ⟨f', ?_, i2, i3⟩
      rw [r_Mo_turnsBack_51]
      apply wp_e
      refine wp_bt (by rw [nI_ltI (by omega) (by decide)]; omega) (wp_isC mc (wp_nnR ar21 (wp_isC ac21 (wp_inA an21 rfl (by omega) (by omega) (wp_isC ac ?_)))))
      rw [nI_add]
      refine wp_inA an rfl (by omega) (by omega) ?_
      rw [nI_clamp (by omega), nI_clamp (by omega), wI_I, e2 i (by omega), wI_s, nI_add]
      exact wp_of i1 ⟨rfl, rfl⟩
  -- the second
  have L2 : ∀ k i f1, i + k = 16 → RF f1 a o G → (∀ r, r < 16 → f1 (m + 21) r = nI (cs i G r)) → TB a m o f f1 → ∃ f', ev M_Mo_turnsBack 0 16 [some (.ref m), some (.ref a), some (.int (nI o)), some (.int (nI i)), none] [] (wI h f1) = some (none, wI h f') ∧ RF f' a o (cs 16 G) ∧ TB a m o f f' := by
    intro k
    induction k with
    | zero =>
      intro i f1 hi R e2 t
      have : i = 16 := by omega
      subst this
      obtain ⟨f', i1, i2⟩ := L3 16 0 f1 rfl (fun r hr => absurd hr (Nat.not_lt_zero r)) e2 t
      refine ⟨f', ?_, i2⟩
      rw [r_Mo_turnsBack_16]
      exact wp_e (wp_bf (by decide) (wp_of i1 ⟨rfl, rfl⟩))
    | succ k ih =>
      intro i f1 hi R e2 t
      have LI : ∀ j c f1, c + j = 16 → RF f1 a o G → (∀ r, r < 16 → f1 (m + 21) r = nI (if r < c then cs (i + 1) G r else cs i G r)) → TB a m o f f1 → ∃ f', ev M_Mo_turnsBack 0 22 [some (.ref m), some (.ref a), some (.int (nI o)), some (.int (nI i)), some (.int (nI c))] [] (wI h f1) = some (none, wI h f') ∧ RF f' a o (cs 16 G) ∧ TB a m o f f' := by
        intro j
        induction j with
        | zero =>
          intro c f1 hc R e2 t
          have : c = 16 := by omega
          subst this
          obtain ⟨f', i1, i2⟩ := ih (i + 1) f1 (by omega) R (fun r hr => by rw [e2 r hr, if_pos hr]) t
          refine ⟨f', ?_, i2⟩
          rw [r_Mo_turnsBack_22]
          apply wp_e
          refine wp_bf (by decide) ?_
          rw [nI_add]
          exact wp_of i1 ⟨rfl, rfl⟩
        | succ j ihj =>
          intro c f1 hc R e2 t
          have e : cs (i + 1) G c = cs i G c ||| (if (G i).testBit c then 2 ^ i else 0) := rfl
          have ec := e2 c (by omega)
          rw [if_neg (Nat.lt_irrefl c)] at ec
          cases z : (G i).testBit c with
          | false =>
            rw [z, if_neg (by decide), Nat.or_zero] at e
            obtain ⟨f', i1, i2⟩ := ihj (c + 1) f1 (by omega) R (fun r hr => by
              rw [e2 r hr]
              by_cases w : r = c
              · rw [if_neg (by omega), if_pos (by omega), w, e]
              · by_cases w2 : r < c
                · rw [if_pos w2, if_pos (by omega)]
                · rw [if_neg w2, if_neg (by omega)]) t
            refine ⟨f', ?_, i2⟩
            rw [r_Mo_turnsBack_22]
            apply wp_e
            refine wp_bt (by rw [nI_ltI (by omega) (by decide)]; omega) (wp_isC ac ?_)
            rw [nI_add]
            refine wp_inA an rfl (by omega) (by omega) ?_
            rw [nI_clamp (by omega), wI_I, R i (by omega)]
            refine wp_rIe (mo_isOf _ (by omega) (Nat.lt_of_lt_of_le (hG i) (by decide))) ?_
            rw [z]
            refine wp_bt rfl ?_
            rw [r_Mo_turnsBack_44, nI_add]
            exact wp_of i1 ⟨rfl, rfl⟩
          | true =>
            rw [z, if_pos rfl] at e
            obtain ⟨f', i1, i2⟩ := ihj (c + 1) (up2 f1 (m + 21) c (nI (cs (i + 1) G c))) (by omega) (mF R) (fun r hr => by
              by_cases w : r = c
              · rw [w, up2_s, if_pos (by omega)]
              · rw [up2_k w, e2 r hr]
                by_cases w2 : r < c
                · rw [if_pos w2, if_pos (by omega)]
                · rw [if_neg w2, if_neg (by omega)]) (t.tr (um _ _ _))
            refine ⟨f', ?_, i2⟩
            rw [r_Mo_turnsBack_22]
            apply wp_e
            refine wp_bt (by rw [nI_ltI (by omega) (by decide)]; omega) (wp_isC ac ?_)
            rw [nI_add]
            refine wp_inA an rfl (by omega) (by omega) ?_
            rw [nI_clamp (by omega), wI_I, R i (by omega)]
            refine wp_rIe (mo_isOf _ (by omega) (Nat.lt_of_lt_of_le (hG i) (by decide))) ?_
            rw [z]
            refine wp_bf n10 (wp_isC mc (wp_nnR ar21 (wp_isC ac21 (wp_inA an21 rfl (by omega) (by omega) (wp_isC ac21 (wp_inA an21 rfl (by omega) (by omega) ?_))))))
            rw [nI_clamp (by omega), wI_I, ec, nm_one (by omega), nm_or, ← e, wI_s, r_Mo_turnsBack_44, nI_add]
            exact wp_of i1 ⟨rfl, rfl⟩
      obtain ⟨f', i1, i2⟩ := LI 16 0 f1 rfl R (fun r hr => by rw [if_neg (Nat.not_lt_zero r)]; exact e2 r hr) t
      refine ⟨f', ?_, i2⟩
      rw [r_Mo_turnsBack_16]
      apply wp_e
      exact wp_bt (by rw [nI_ltI (by omega) (by decide)]; omega) (wp_of i1 ⟨rfl, rfl⟩)
  have L1 : ∀ k i f1, i + k = 16 → RF f1 a o G → (∀ r, r < i → f1 (m + 21) r = nI 0) → TB a m o f f1 → ∃ f', ev M_Mo_turnsBack 0 3 [some (.ref m), some (.ref a), some (.int (nI o)), some (.int (nI i)), none] [] (wI h f1) = some (none, wI h f') ∧ RF f' a o (cs 16 G) ∧ TB a m o f f' := by
    intro k
    induction k with
    | zero =>
      intro i f1 hi R e2 t
      have : i = 16 := by omega
      subst this
      obtain ⟨f', i1, i2⟩ := L2 16 0 f1 rfl R e2 t
      refine ⟨f', ?_, i2⟩
      rw [r_Mo_turnsBack_3]
      exact wp_e (wp_bf (by decide) (wp_of i1 ⟨rfl, rfl⟩))
    | succ k ih =>
      intro i f1 hi R e2 t
      obtain ⟨f', i1, i2⟩ := ih (i + 1) (up2 f1 (m + 21) i (nI 0)) (by omega) (mF R) (fun r hr => by
        by_cases w : r = i
        · rw [w, up2_s]
        · rw [up2_k w]; exact e2 r (by omega)) (t.tr (um _ _ _))
      refine ⟨f', ?_, i2⟩
      rw [r_Mo_turnsBack_3]
      apply wp_e
      refine wp_bt (by rw [nI_ltI (by omega) (by decide)]; omega) (wp_isC mc (wp_nnR ar21 (wp_isC ac21 (wp_inA an21 rfl (by omega) (by omega) ?_))))
      rw [nI_clamp (by omega), wI_s, nI_add]
      exact wp_of i1 ⟨rfl, rfl⟩
  rw [r_Mo_turnsBack_0]
  exact L1 16 0 f rfl F (fun r hr => absurd hr (Nat.not_lt_zero r)) TB.rf
end
