/-! Every change leaves a state as it can be. -/
section
variable {S : Abs}
theorem lay4_lt {t : Nat → Nat} {n : Nat} {x : Int32} (h : ∀ i, t i < 256) (i : Nat) : lay4 t n x i < 256 := by
  unfold lay4
  split
  · exact byt_lt ..
  · split
    · exact byt_lt ..
    · split
      · exact byt_lt ..
      · split
        · exact byt_lt ..
        · exact h i
theorem WS_t {t : Nat → Nat} {n : Nat} (W : WS S) (hn : n ≤ 1600) (ht : ∀ i, t i < 256) : WS (bT S t n) := by
  obtain ⟨w1, w2, w3, w4, w5, w6, w7, w8⟩ := W
  exact ⟨⟨hn, ht⟩, w2, w3, w4, w5, w6, w7, w8⟩
theorem WS_feed {a b c d e : Int32} (W : WS S) : WS (uFeed S a b c d e) := by
  unfold uFeed
  by_cases z : aN S + 20 ≤ 1600
  · rw [if_pos z]; exact WS_t W z (fun i => lay4_lt (lay4_lt (lay4_lt (lay4_lt (lay4_lt W.1.2)))) i)
  · rw [if_neg z]; exact W
theorem WS_end {n : Int32} (W : WS S) : WS (uEnd S n) := by
  unfold uEnd
  cases z : inN n (aN S + 1) with
  | none => exact W
  | some m => exact WS_t W (by have := (inN_s z).2.1; have := W.1.1; omega) W.1.2
theorem WS_e {e : List Sn} {t : Nat} (W : WS S) (h1 : SW (aV S) e) (h2 : aR S = 0 → e = []) (h3 : t ≤ 100000) : WS (bM (bE S e) t) := by
  obtain ⟨w1, w2, w3, w4, w5, w6, w7, w8⟩ := W
  exact ⟨w1, w2, w3, w4, w5, w6, ⟨h1, h2⟩, h3⟩
theorem WS_seen {l b m : Int32} {is : Bool} (W : WS S) : WS (uSeen S l b m is) := by
  unfold uSeen seenE
  by_cases z : aR S = 0
  · rw [if_pos z]; exact W
  · rw [if_neg z]
    cases y1 : inN l (aV S + 1) with
    | none => exact W
    | some l =>
      cases y2 : inN m 257 with
      | none => exact W
      | some m =>
        dsimp only
        cases y3 : inN b (2 ^ (2 * l)) with
        | none => exact W
        | some b =>
          dsimp only
          have h1 := (inN_s y1).2.1
          have h2 := (inN_s y2).2.1
          have h3 := (inN_s y3).2.1
          obtain ⟨v1, v2⟩ := W.2.2.2.2.2.2.1.1
          have h4 := W.2.2.2.2.2.2.2
          by_cases y4 : (aE S).length < 30
          · rw [if_pos y4]
            refine WS_e W ⟨by rw [List.length_append]; exact y4, fun e he => ?_⟩ (fun w => absurd w z) h4
            rcases List.mem_append.mp he with w | w
            · exact v2 e w
            · rw [List.mem_singleton.mp w]
              exact ⟨by show l ≤ _; omega, h3, by show m ≤ _; omega, h4, fun k hk => by cases hk⟩
          · rw [if_neg y4]; exact W
theorem ut_mem {tm : Nat} : ∀ {l : List Sn} {i : Nat} {e : Sn}, e ∈ ut tm l i → e ∈ l ∨ ∃ d, d ∈ l ∧ e = unt tm d
  | [], _, _, h => by cases h
  | d :: l, 0, e, h => by
    have h : e ∈ unt tm d :: l := h
    rcases List.mem_cons.mp h with z | z
    · exact Or.inr ⟨d, List.mem_cons_self .., z⟩
    · exact Or.inl (List.mem_cons_of_mem _ z)
  | d :: l, i + 1, e, h => by
    have h : e ∈ d :: ut tm l i := h
    rcases List.mem_cons.mp h with z | z
    · exact Or.inl (z ▸ List.mem_cons_self ..)
    · rcases ut_mem z with w | ⟨d', w, w2⟩
      · exact Or.inl (List.mem_cons_of_mem _ w)
      · exact Or.inr ⟨d', List.mem_cons_of_mem _ w, w2⟩
theorem WS_untell {i : Int32} (W : WS S) : WS (uUntell S i) := by
  unfold uUntell
  obtain ⟨⟨v1, v2⟩, v3⟩ := W.2.2.2.2.2.2.1
  have h4 := W.2.2.2.2.2.2.2
  by_cases z : utOk (aE S) i = true
  · rw [if_pos z]
    refine WS_e W ⟨by rw [ut_len]; exact v1, fun e he => ?_⟩ (fun w => ?_) h4
    · rcases ut_mem he with w | ⟨d, w, w2⟩
      · exact v2 e w
      · rw [w2]
        obtain ⟨u1, u2, u3, u4, -⟩ := v2 d w
        exact ⟨u1, u2, u3, u4, fun k hk => by
          have hk : some (aM S) = some k := hk
          cases hk; exact h4⟩
    · rw [v3 w]; rfl
  · rw [if_neg z]; exact W
theorem WS_later {b : Int32} (W : WS S) : WS (uLater S b) := by
  unfold uLater
  cases z : inN b 1001 with
  | none => exact W
  | some k =>
    show WS (if _ then _ else _)
    by_cases y : aM S + k ≤ 100000
    · rw [if_pos y]; exact WS_e W W.2.2.2.2.2.2.1.1 W.2.2.2.2.2.2.1.2 y
    · rw [if_neg y]; exact W
theorem WS_h {d k : Nat} {st : Nat → Sd} {b : Nat → Option Sd} (W : WS S) (h1 : d ≤ k) (h2 : k ≤ 40) (h3 : ∀ j, j ≤ k → WSd (aQ S) (st j)) (h4 : ∀ i s, b i = some s → WSd (aQ S) s) : WS (bB (bH S d k st) b) := by
  obtain ⟨w1, w2, w3, w4, w5, w6, w7, w8⟩ := W
  exact ⟨w1, w2, w3, ⟨h1, h2, h3⟩, h4, w6, w7, w8⟩
theorem WS_img {b : Int32} (W : WS S) : WS (uImg S b) := by
  unfold uImg
  obtain ⟨w4, w5, w6⟩ := W.2.2.2.1
  cases z : inN b 3 with
  | none => exact W
  | some i =>
    refine WS_h W w4 w5 w6 (fun j s hs => ?_)
    have hs : (if j = i then some (aS S (aD S)) else aB S j) = some s := hs
    by_cases e : j = i
    · rw [if_pos e] at hs; cases hs; exact w6 _ w4
    · rw [if_neg e] at hs; exact W.2.2.2.2.1 j s hs
theorem WS_back {b : Int32} (W : WS S) : WS (uBack S b) := by
  unfold uBack
  cases z : inN b 3 with
  | none => exact W
  | some i =>
    show WS (match aB S i with
      | none => S
      | some s => bB (bH S 0 0 (fun _ => s)) (aB S))
    cases y : aB S i with
    | none => exact W
    | some s => exact WS_h W (Nat.le_refl _) (Nat.zero_le _) (fun _ _ => W.2.2.2.2.1 i s y) W.2.2.2.2.1
theorem WS_undo (W : WS S) : WS (uUndo S) := by
  unfold uUndo
  obtain ⟨w4, w5, w6⟩ := W.2.2.2.1
  by_cases z : aD S = 0
  · rw [if_pos z]; exact W
  · rw [if_neg z]; exact WS_h W (by omega) w5 w6 W.2.2.2.2.1
theorem WS_redo (W : WS S) : WS (uRedo S) := by
  unfold uRedo
  obtain ⟨w4, w5, w6⟩ := W.2.2.2.1
  by_cases z : aD S = aK S
  · rw [if_pos z]; exact W
  · rw [if_neg z]; exact WS_h W (by omega) w5 w6 W.2.2.2.2.1
theorem WS_lays {a b : Int32} {K : Nat → Nat → Nat} (W : WS S) : WS (bL S (lays S a b K)) := by
  unfold lays
  cases inN a (aR S) with
  | none => exact WS_l W (Nat.zero_le _) (fun e he => by cases he)
  | some k =>
    dsimp only
    cases inN b (aW S) with
    | none => exact WS_l W (Nat.zero_le _) (fun e he => by cases he)
    | some i => exact WS_l W (nds_len _ _) (fun e he => nds_lt _ _ e he)
end
