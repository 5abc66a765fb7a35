/-! What the class holds: the state as a whole, its cells. -/
/-- parts of one derived relation worked off -/
def xw (n : Nat) (A : Nat → Rw) : List Nat → List Rw → List Rw
  | [], S => S
  | c :: cs, S => xw n A cs (xop n A c S)
/-- the parts of one derived relation: those ahead of it, from so many open ones to one -/
def xsg (nr : Nat) : List Nat → Nat → Prop
  | [], d => d = 1
  | c :: cs, d => ((c < nr ∨ c = 10 ∨ c = 11) ∧ d < 16 ∧ xsg nr cs (d + 1)) ∨ (c = 12 ∧ 0 < d ∧ xsg nr cs d) ∨ (20 ≤ c ∧ c ≤ 23 ∧ 1 < d ∧ xsg nr cs (d - 1))
def flat (td : Nat) (cx : Nat → List Nat) : Nat → List Nat
  | 0 => []
  | k + 1 => flat td cx k ++ (if td.testBit k then [] else cx k ++ [30 + k])
/-- all relations, by their order: told ones as they are, derived ones made -/
def alK (n td : Nat) (cx : Nat → List Nat) (A : Nat → Rw) : Nat → Nat → Rw
  | 0 => fun _ _ => 0
  | j + 1 => fun k => if k = j then (if td.testBit j then A j else (xw n (alK n td cx A j) (cx j) []).headD (fun _ => 0)) else alK n td cx A j k
theorem xop_c {n c nr : Nat} {A B : Nat → Rw} {S : List Rw} (h : ∀ k, k < nr → A k = B k) (hc : c < nr ∨ 5 ≤ c) : xop n A c S = xop n B c S := by
  unfold xop
  by_cases q : c < 5
  · rw [if_pos q, if_pos q, h c (by omega)]
  · rw [if_neg q, if_neg q]
theorem xw_c {n nr : Nat} {A B : Nat → Rw} (h : ∀ k, k < nr → A k = B k) : ∀ {cs : List Nat} {d : Nat} {S : List Rw}, xsg nr cs d → xw n A cs S = xw n B cs S
  | [], _, _, _ => rfl
  | c :: cs, d, S, ok => by
    rw [xw, xw]
    rcases ok with ⟨k1, k2, k3⟩ | ⟨k1, k2, k3⟩ | ⟨k1, k2, k3, k4⟩
    · rw [xop_c h (by omega)]; exact xw_c h k3
    · rw [xop_c h (by omega)]; exact xw_c h k3
    · rw [xop_c h (by omega)]; exact xw_c h k4
theorem xop_len {n c : Nat} {A : Nat → Rw} {S : List Rw} : (c < 5 ∨ c = 10 ∨ c = 11 → (xop n A c S).length = S.length + 1) ∧ (c = 12 → 0 < S.length → (xop n A c S).length = S.length) ∧ (20 ≤ c → c ≤ 23 → 1 < S.length → (xop n A c S).length = S.length - 1) := by
  refine ⟨fun h => ?_, fun h h0 => ?_, fun h1 h2 h3 => ?_⟩
  · unfold xop
    by_cases c5 : c < 5
    · rw [if_pos c5]; rfl
    · rw [if_neg c5]
      by_cases c10 : c = 10
      · rw [if_pos c10]; rfl
      · rw [if_neg c10, if_pos (by omega)]; rfl
  · subst h
    cases S with
    | nil => exact absurd h0 (by decide)
    | cons g S => rfl
  · unfold xop
    rw [if_neg (by omega), if_neg (by omega), if_neg (by omega), if_neg (by omega)]
    cases S with
    | nil => exact absurd h3 (by decide)
    | cons g S =>
      cases S with
      | nil => exact absurd h3 (by simp)
      | cons g2 S => rfl
theorem dv_sg {n nr : Nat} {A : Nat → Rw} (hr : nr ≤ 5) : ∀ {cs rest : List Nat} {S : List Rw}, xsg nr cs S.length → dv n (cs ++ rest) A S = dv n rest A (xw n A cs S) ∧ (xw n A cs S).length = 1
  | [], _, _, ok => ⟨rfl, ok⟩
  | c :: cs, rest, S, ok => by
    have h30 : ¬ 30 ≤ c := by rcases ok with ⟨k1, -⟩ | ⟨k1, -⟩ | ⟨k1, k2, -⟩ <;> omega
    have e1 : dv n (c :: cs ++ rest) A S = dv n (cs ++ rest) A (xop n A c S) := by
      show dv n (c :: (cs ++ rest)) A S = _
      rw [dv, if_neg h30]
    rw [e1, xw]
    obtain ⟨l1, l2, l3⟩ := xop_len (n := n) (c := c) (A := A) (S := S)
    rcases ok with ⟨k1, k2, k3⟩ | ⟨k1, k2, k3⟩ | ⟨k1, k2, k3, k4⟩
    · exact dv_sg hr (by rw [l1 (by omega)]; exact k3)
    · exact dv_sg hr (by rw [l2 k1 k2]; exact k3)
    · exact dv_sg hr (by rw [l3 k1 k2 k3]; exact k4)
theorem dv_flat {n td N : Nat} {cx : Nat → List Nat} {A B : Nat → Rw} (hN : N ≤ 5) (hx : ∀ k, k < N → td.testBit k = false → xsg k (cx k) 0) : ∀ j, j ≤ N → ∀ (rest : List Nat) (A0 : Nat → Rw), (∀ k, td.testBit k = true → A0 k = A k) → ∃ A1, dv n (flat td cx j ++ rest) A0 [] = dv n rest A1 [] ∧ (∀ k, k < j → A1 k = alK n td cx A j k) ∧ (∀ k, td.testBit k = true → A1 k = A k) ∧ (∀ k, j ≤ k → A1 k = A0 k)
  | 0, _, rest, A0, h0 => ⟨A0, rfl, fun k hk => by omega, h0, fun _ _ => rfl⟩
  | j + 1, hj, rest, A0, h0 => by
    by_cases q : td.testBit j = true
    · have ef : flat td cx (j + 1) = flat td cx j := by rw [flat, if_pos q, List.append_nil]
      rw [ef]
      obtain ⟨A1, e1, e2, e3, e4⟩ := dv_flat (n := n) (A := A) (B := B) hN hx j (by omega) rest A0 h0
      refine ⟨A1, e1, fun k hk => ?_, e3, fun k hk => e4 k (by omega)⟩
      show A1 k = if k = j then _ else _
      by_cases e : k = j
      · rw [if_pos e, if_pos q, e]; exact e3 j q
      · rw [if_neg e]; exact e2 k (by omega)
    · have q' := (Bool.not_eq_true _).mp q
      have ef : flat td cx (j + 1) ++ rest = flat td cx j ++ (cx j ++ ((30 + j) :: rest)) := by rw [flat, if_neg q]; simp
      rw [ef]
      obtain ⟨A1, e1, e2, e3, e4⟩ := dv_flat (n := n) (A := A) (B := B) hN hx j (by omega) (cx j ++ ((30 + j) :: rest)) A0 h0
      have ok := hx j (by omega) q'
      obtain ⟨g1, g2⟩ := dv_sg (n := n) (A := A1) (rest := (30 + j) :: rest) (S := []) (show j ≤ 5 by omega) ok
      rw [e1, g1, dv, if_pos (by omega), Nat.add_sub_cancel_left]
      have ew : xw n A1 (cx j) [] = xw n (alK n td cx A j) (cx j) [] := xw_c e2 ok
      generalize hS : xw n A1 (cx j) [] = S at g2 ew
      cases S with
      | nil => cases g2
      | cons g S =>
        have : S = [] := by cases S with
          | nil => rfl
          | cons a b => exact absurd g2 (by simp)
        subst this
        refine ⟨_, rfl, fun k hk => ?_, fun k hk => ?_, fun k hk => ?_⟩
        · show (if k = j then g else A1 k) = if k = j then _ else _
          by_cases e : k = j
          · rw [if_pos e, if_pos e, if_neg q, ← ew]; rfl
          · rw [if_neg e, if_neg e]; exact e2 k (by omega)
        · show (if k = j then g else A1 k) = _
          rw [if_neg (show ¬ k = j from fun e => q (by rw [← e]; exact hk))]; exact e3 k hk
        · show (if k = j then g else A1 k) = _
          rw [if_neg (by omega)]; exact e4 k (by omega)
theorem dv_al {n td N : Nat} {cx : Nat → List Nat} {A A0 : Nat → Rw} (hN : N ≤ 5) (hx : ∀ k, k < N → td.testBit k = false → xsg k (cx k) 0) (h0 : ∀ k, td.testBit k = true → A0 k = A k) : ∀ k, k < N → dv n (flat td cx N) A0 [] k = alK n td cx A N k := by
  obtain ⟨A1, e1, e2, -⟩ := dv_flat (n := n) (A := A) (B := A) hN hx N (Nat.le_refl _) [] A0 h0
  rw [List.append_nil] at e1
  intro k hk
  rw [e1]; exact e2 k hk
theorem xok_sg {nr j : Nat} (hj : j < nr) : ∀ {cs rest : List Nat} {d : Nat}, xsg j cs d → xok nr rest 0 → xok nr (cs ++ ((30 + j) :: rest)) d
  | [], rest, d, ok, hr => by
    have ok : d = 1 := ok
    subst ok
    exact Or.inr (Or.inr (Or.inr ⟨by omega, by omega, by decide, hr⟩))
  | c :: cs, rest, d, ok, hr => by
    rcases ok with ⟨k1, k2, k3⟩ | ⟨k1, k2, k3⟩ | ⟨k1, k2, k3, k4⟩
    · exact Or.inl ⟨by omega, k2, xok_sg hj k3 hr⟩
    · exact Or.inr (Or.inl ⟨k1, k2, xok_sg hj k3 hr⟩)
    · exact Or.inr (Or.inr (Or.inl ⟨k1, k2, k3, xok_sg hj k4 hr⟩))
theorem xok_flat {td N : Nat} {cx : Nat → List Nat} (hx : ∀ k, k < N → td.testBit k = false → xsg k (cx k) 0) : ∀ j, j ≤ N → ∀ rest, xok N rest 0 → xok N (flat td cx j ++ rest) 0
  | 0, _, rest, h => h
  | j + 1, hj, rest, h => by
    rw [flat]
    by_cases q : td.testBit j = true
    · rw [if_pos q, List.append_nil]; exact xok_flat hx j (by omega) rest h
    · rw [if_neg q, List.append_assoc, List.append_assoc]
      exact xok_flat hx j (by omega) _ (xok_sg (by omega) (hx j (by omega) ((Bool.not_eq_true _).mp q)) h)
/-! the state -/
abbrev Sd : Type := (Nat → Rw) × Nat
abbrev Abs : Type := (Nat → Nat) × Nat × Nat × Option Nat × Pn × (Nat → List Nat) × Nat × Nat × (Nat → Sd) × (Nat → Option Sd) × List Nat × List Sn × Nat
/-- the text, how much of it; the fault, its place; the plan, its derived ones; acts done, kept, the states; boxes; what lies there; what is seen; the time -/
def aT (S : Abs) : Nat → Nat := S.1
def aN (S : Abs) : Nat := S.2.1
def aF (S : Abs) : Nat := S.2.2.1
def aP (S : Abs) : Option Nat := S.2.2.2.1
def aQ (S : Abs) : Pn := S.2.2.2.2.1
def aX (S : Abs) : Nat → List Nat := S.2.2.2.2.2.1
def aD (S : Abs) : Nat := S.2.2.2.2.2.2.1
def aK (S : Abs) : Nat := S.2.2.2.2.2.2.2.1
def aS (S : Abs) : Nat → Sd := S.2.2.2.2.2.2.2.2.1
def aB (S : Abs) : Nat → Option Sd := S.2.2.2.2.2.2.2.2.2.1
def aL (S : Abs) : List Nat := S.2.2.2.2.2.2.2.2.2.2.1
def aE (S : Abs) : List Sn := S.2.2.2.2.2.2.2.2.2.2.2.1
def aM (S : Abs) : Nat := S.2.2.2.2.2.2.2.2.2.2.2.2
def aV (S : Abs) : Nat := vLv (aQ S)
def aR (S : Abs) : Nat := vNr (aQ S)
def aW (S : Abs) : Nat := 2 ^ aV S
/-- all relations of one state of the told ones -/
def gA (q : Pn) (cx : Nat → List Nat) (A : Nat → Rw) (k : Nat) : Rw := alK (2 ^ vLv q) (vTd q) cx A (vNr q) k
def aG (S : Abs) (k : Nat) : Rw := gA (aQ S) (aX S) (aS S (aD S)).1 k
/-- the told ones at first -/
def iA (q : Pn) : Nat → Rw := fun k => if (vTd q).testBit k then vGr q k else fun _ => 0
def aG0 (S : Abs) : Rw := gA (aQ S) (aX S) (iA (aQ S)) 0
/-- a state as it can be -/
def WSd (q : Pn) (s : Sd) : Prop := s.2 < 1000 ∧ ∀ j, ((vTd q).testBit j = true → GW (2 ^ vLv q) (s.1 j)) ∧ ((vTd q).testBit j = false → s.1 j = fun _ => 0)
def WPn (q : Pn) (cx : Nat → List Nat) : Prop := PNB (vNr q) q ∧ vTd q < 2 ^ vNr q ∧ vXs q = flat (vTd q) cx (vNr q) ∧ (∀ k, k < vNr q → (vTd q).testBit k = false → xsg k (cx k) 0) ∧ (vKs q ≠ [] → kok (vKs q) 0)
def WS (S : Abs) : Prop := (aN S ≤ 1600 ∧ ∀ i, aT S i < 256) ∧ (aF S ≤ 5 ∧ ∀ k, aP S = some k → k ≤ 1600) ∧ WPn (aQ S) (aX S) ∧ (aD S ≤ aK S ∧ aK S ≤ 40 ∧ ∀ k, k ≤ aK S → WSd (aQ S) (aS S k)) ∧ (∀ b s, aB S b = some s → WSd (aQ S) s) ∧ ((aL S).length ≤ 16 ∧ ∀ e, e ∈ aL S → e < 16) ∧ (SW (aV S) (aE S) ∧ (aR S = 0 → aE S = [])) ∧ aM S ≤ 100000
theorem alW {n td : Nat} {cx : Nat → List Nat} {A : Nat → Rw} (hn : n ≤ 16) (hA : ∀ k, td.testBit k = true → GW n (A k)) : ∀ j, j ≤ 5 → (∀ k, k < j → td.testBit k = false → xsg k (cx k) 0) → ∀ k, GW n (alK n td cx A j k)
  | 0, _, _, k => GW.z hn
  | j + 1, hj5, hx, k => by
    have ih := alW hn hA j (by omega) (fun k hk => hx k (by omega))
    show GW n (if k = j then _ else _)
    by_cases e : k = j
    · rw [if_pos e]
      by_cases q : td.testBit j = true
      · rw [if_pos q]; exact hA j q
      · rw [if_neg q]
        have key : ∀ (cs : List Nat) (d : Nat) (S : List Rw), d = S.length → xsg j cs d → (∀ g, g ∈ S → GW n g) → ∀ g, g ∈ xw n (alK n td cx A j) cs S → GW n g := by
          intro cs
          induction cs with
          | nil => intro d S _ _ h; exact h
          | cons c cs ihc =>
            intro d S hd ok h
            rw [xw]
            obtain ⟨l1, l2, l3⟩ := xop_len (n := n) (c := c) (A := alK n td cx A j) (S := S)
            have hj : j ≤ j := Nat.le_refl _
            rcases ok with ⟨k1, k2, k3⟩ | ⟨k1, k2, k3⟩ | ⟨k1, k2, k3, k4⟩
            · by_cases c5 : c < 5
              · refine ihc (d + 1) _ (by rw [l1 (Or.inl c5)]; omega) k3 ?_
                unfold xop; rw [if_pos c5]
                intro g hg
                rcases List.mem_cons.mp hg with z | z
                · rw [z]; exact ih c
                · exact h g z
              · by_cases c10 : c = 10
                · refine ihc (d + 1) _ (by rw [l1 (by omega)]; omega) k3 ?_
                  unfold xop; rw [if_neg c5, if_pos c10]
                  intro g hg
                  rcases List.mem_cons.mp hg with z | z
                  · rw [z]; exact GW.sameG hn
                  · exact h g z
                · by_cases c11 : c = 11
                  · refine ihc (d + 1) _ (by rw [l1 (by omega)]; omega) k3 ?_
                    unfold xop; rw [if_neg c5, if_neg c10, if_pos c11]
                    intro g hg
                    rcases List.mem_cons.mp hg with z | z
                    · rw [z]; exact GW.allG hn
                    · exact h g z
                  · exfalso; omega
            · subst k1
              refine ihc d _ (by rw [l2 rfl (by omega)]; exact hd) k3 ?_
              cases S with
              | nil => intro g hg; cases hg
              | cons g0 S =>
                intro g hg
                have hg : g ∈ tp n g0 :: S := hg
                rcases List.mem_cons.mp hg with z | z
                · rw [z]; exact GW.tp (h g0 (List.mem_cons_self ..)).1
                · exact h g (List.mem_cons_of_mem _ z)
            · refine ihc (d - 1) _ (by rw [l3 k1 k2 (by omega)]; omega) k4 ?_
              unfold xop
              rw [if_neg (by omega), if_neg (by omega), if_neg (by omega), if_neg (by omega)]
              cases S with
              | nil => intro g hg; cases hg
              | cons b S =>
                cases S with
                | nil => exact h
                | cons a S =>
                  intro g hg
                  have hg : g ∈ jnG (c - 20) n a b :: S := hg
                  rcases List.mem_cons.mp hg with z | z
                  · rw [z]; exact GW.jnG (h a (by simp)) (h b (by simp))
                  · exact h g (by simp [z])
        have := key (cx j) 0 [] rfl (hx j (by omega) ((Bool.not_eq_true _).mp q)) (fun g hg => by cases hg)
        generalize xw n (alK n td cx A j) (cx j) [] = S at this
        cases S with
        | nil => exact GW.z hn
        | cons g S => exact this g (List.mem_cons_self ..)
    · rw [if_neg e]; exact ih k

theorem gA_W {q : Pn} {cx : Nat → List Nat} {s : Sd} (P : WPn q cx) (W : WSd q s) (k : Nat) : GW (2 ^ vLv q) (gA q cx s.1 k) := by
  obtain ⟨p1, p2, p3, p4, p5⟩ := P
  exact alW (lv_p p1.2.1) (fun j hj => (W.2 j).1 hj) _ p1.2.2.2.1 p4 k
theorem gA_t {q : Pn} {cx : Nat → List Nat} {A : Nat → Rw} {k : Nat} (hk : k < vNr q) (ht : (vTd q).testBit k = true) : gA q cx A k = A k := by
  unfold gA
  generalize vNr q = N at hk
  induction N with
  | zero => omega
  | succ j ih =>
    show (if k = j then _ else _) = _
    by_cases e : k = j
    · rw [if_pos e, if_pos (e ▸ ht), e]
    · rw [if_neg e]; exact ih (by omega)
theorem iA_W {q : Pn} {s : Nat} (p1 : PNB (vNr q) q) (p2 : vTd q < 2 ^ vNr q) (hd : s < 1000) : WSd q (iA q, s) := by
  refine ⟨hd, fun j => ⟨fun h => ?_, fun h => ?_⟩⟩
  · show GW _ (if _ then _ else _)
    rw [if_pos h]
    have hj : j < vNr q := by
      by_cases z : j < vNr q
      · exact z
      · have := Nat.testBit_lt_two_pow (x := vTd q) (i := j) (Nat.lt_of_lt_of_le p2 (Nat.pow_le_pow_right (by decide) (by omega)))
        rw [this] at h; cases h
    exact p1.2.2.2.2.2.2.2.2.2.2 j hj
  · show (if _ then _ else _) = _
    rw [if_neg (by rw [h]; decide)]
/-! the cells -/
def CSH (h : MH) (x pa pb s1 v1 : Nat) : Prop := (hC h x = 12 ∧ hR h x 0 = some (x + 1) ∧ hR h x 2 = some pa ∧ hR h x 3 = some pb ∧ hR h x 4 = some (x + 36) ∧ hR h x 5 = some (x + 39) ∧ hR h x 6 = some (x + 86) ∧ hR h x 7 = some (x + 131) ∧ hR h x 8 = some (x + 168) ∧ hR h x 9 = some (x + 184) ∧ hR h x 10 = some (x + 199) ∧ hR h x 11 = some (x + 214) ∧ hR h x 12 = some (x + 216) ∧ hR h x 13 = some (x + 221)) ∧
  PS h pa ∧ PS h pb ∧ RS h (x + 39) pa ∧ HS h (x + 86) ∧ (hC h (x + 131) = 25 ∧ hN h (x + 131) = 3 ∧ ∀ b, b < 3 → hR h (x + 131) b = some (x + 132 + 12 * b) ∧ BS h (x + 132 + 12 * b)) ∧ IS h (x + 168) ∧ TS h (x + 184) ∧ TS h (x + 199) ∧ GS h (x + 214) ∧ SS h (x + 216) ∧ (hC h (x + 221) = 20 ∧ hN h (x + 221) = 16 ∧ hC h (x + 1) = 21 ∧ hN h (x + 1) = 1600) ∧
  (hC h (x + 36) = 6 ∧ hR h (x + 36) 2 = some (x + 37) ∧ hC h (x + 37) = 8 ∧ hR h (x + 37) 4 = some (x + 38) ∧ hC h (x + 38) = 22 ∧ hN h (x + 38) = 18) ∧ (hR h 0 1001 = some s1 ∧ hC h s1 = 30 ∧ hR h s1 0 = some v1 ∧ hR h v1 77 = some 1 ∧ 30 ≤ hC h v1 ∧ hN h v1 = 11) ∧ (s1 < x ∧ v1 < x ∧ 0 < x) ∧ ((pa = x + 2 ∧ pb = x + 19) ∨ (pa = x + 19 ∧ pb = x + 2))
/-- the acts in the cells are steps between the states -/
def HC (q : Pn) (kept : Nat) (st : Nat → Sd) (rl : Nat → Option Nat) (tn : Nat → Rw) (sb sa : Nat → Nat) : Prop := ∀ k, k < kept → sb k = (st k).2 ∧ sa k = (st (k + 1)).2 ∧ (rl k = none → (st (k + 1)).1 = (st k).1) ∧ ∀ j, rl k = some j → j < vNr q ∧ (vTd q).testBit j = true ∧ (st (k + 1)).1 = fun i => if i = j then (fun r => (st k).1 j r ^^^ tn k r) else (st k).1 i
def CF (f : Nat → Nat → Int32) (g : Nat → Nat → Int64) (x pa : Nat) (S : Abs) : Prop := (f x 1 = nI (aN S) ∧ ∀ i, i < aN S → f (x + 1) i = sb (aT S i)) ∧ (f x 14 = nI (aL S).length ∧ ∀ i e, (aL S)[i]? = some e → f (x + 221) i = nI e) ∧ (f (x + 36) 0 = nI (aF S) ∧ f (x + 36) 1 = oI (aP S)) ∧ (∀ j, j < 18 → g (x + 38) j = lN (KW j)) ∧
  PNF f g pa (aR S) 1 (aQ S) ∧ (f (x + 39) 1 = nI (aS S (aD S)).2 ∧ ∀ k, k < aR S → GF f (x + 44 + 2 * k) (aW S) (aG S k)) ∧ (∃ old rl tn sb sa, HF f (x + 86) (aK S) (aD S) old rl tn sb sa ∧ HC (aQ S) (aK S) (aS S) rl tn sb sa) ∧
  (∀ b, b < 3 → f (x + 132 + 12 * b) 0 = nI (aB S b).isSome.toNat ∧ ∀ s, aB S b = some s → f (x + 132 + 12 * b) 1 = nI s.2 ∧ ∀ k, k < aR S → GF f (x + 134 + 12 * b + 2 * k) (aW S) (gA (aQ S) (aX S) s.1 k)) ∧ ISF f (x + 168) (aV S) (aG0 S) (decide (0 < aR S)) (aE S) (aM S)
/-- what a report may write on -/
def Scr (x pa a : Nat) : Prop := (x + 178 ≤ a ∧ a < x + 221) ∨ (x + 42 ≤ a ∧ a < x + 44) ∨ (x + 54 ≤ a ∧ a < x + 86) ∨ a = pa + 3
def FX (x pa : Nat) (f f' : Nat → Nat → Int32) : Prop := (∀ a, ¬ Scr x pa a → a ≠ x + 168 → f' a = f a) ∧ ∀ k, k ≠ 12 → f' (x + 168) k = f (x + 168) k
theorem FX.rf {x pa : Nat} {f : Nat → Nat → Int32} : FX x pa f f := ⟨fun _ _ _ => rfl, fun _ _ => rfl⟩
theorem FX.tr {x pa : Nat} {f g k : Nat → Nat → Int32} (a : FX x pa f g) (b : FX x pa g k) : FX x pa f k := ⟨fun y h1 h2 => (b.1 y h1 h2).trans (a.1 y h1 h2), fun j hj => (b.2 j hj).trans (a.2 j hj)⟩
theorem FX.fr {x pa lo hi : Nat} {f g : Nat → Nat → Int32} (a : Fr lo hi f g) (h : ∀ y, lo ≤ y → y < hi → Scr x pa y ∧ y ≠ x + 168) : FX x pa f g := by
  have key : ∀ y, (¬ Scr x pa y ∨ y = x + 168) → g y = f y := fun y hy => a y (by
    by_cases z : y < lo
    · exact Or.inl z
    · by_cases z2 : hi ≤ y
      · exact Or.inr z2
      · have := h y (by omega) (by omega)
        rcases hy with w | w
        · exact absurd this.1 w
        · exact absurd w this.2)
  exact ⟨fun y h1 _ => key y (Or.inl h1), fun k _ => by rw [key (x + 168) (Or.inr rfl)]⟩
theorem FX.i {x pa : Nat} {f g : Nat → Nat → Int32} (a : FI (x + 168) f g) : FX x pa f g := ⟨fun y h1 h2 => a.1 y h2 (by unfold Scr at h1; omega), fun k hk => a.2 k hk⟩
/-- what a report leaves -/
theorem FX.F {x pa pb : Nat} {f f' : Nat → Nat → Int32} {g : Nat → Nat → Int64} {S : Abs} (a : FX x pa f f') (hp : (pa = x + 2 ∧ pb = x + 19) ∨ (pa = x + 19 ∧ pb = x + 2)) (hr : aR S ≤ 5) (F : CF f g x pa S) : CF f' g x pa S := by
  have o : ∀ y, ¬ Scr x pa y → y ≠ x + 168 → f' y = f y := a.1
  obtain ⟨⟨t1, t2⟩, ⟨l1, l2⟩, ⟨r1, r2⟩, w, n1, ⟨g1, g2⟩, ⟨old, rl, tn, sb, sa, h1, h2⟩, bx, sg⟩ := F
  refine ⟨⟨?_, ?_⟩, ⟨?_, ?_⟩, ⟨?_, ?_⟩, w, ?_, ⟨?_, ?_⟩, ⟨old, rl, tn, sb, sa, ?_, h2⟩, ?_, ?_⟩
  · rw [o x (by unfold Scr; omega) (by omega)]; exact t1
  · intro i hi; rw [o (x + 1) (by unfold Scr; omega) (by omega)]; exact t2 i hi
  · rw [o x (by unfold Scr; omega) (by omega)]; exact l1
  · intro i e he; rw [o (x + 221) (by unfold Scr; omega) (by omega)]; exact l2 i e he
  · rw [o (x + 36) (by unfold Scr; omega) (by omega)]; exact r1
  · rw [o (x + 36) (by unfold Scr; omega) (by omega)]; exact r2
  · obtain ⟨y0, y1, y2, y3, y4, y5, y6, y7, y8, y9, y10⟩ := n1
    have e0 := o pa (by unfold Scr; omega) (by omega)
    have e1 := o (pa + 1) (by unfold Scr; omega) (by omega)
    have e2 := o (pa + 1 + 1) (by unfold Scr; omega) (by omega)
    have e6 := o (pa + 6) (by unfold Scr; omega) (by omega)
    refine ⟨by rw [e0]; exact y0, by rw [e0]; exact y1, by rw [e0]; exact y2, by rw [e0]; exact y3, by rw [e0]; exact y4, by rw [e0]; exact y5, by rw [e0]; exact y6, fun i c hc => by rw [e6]; exact y7 i c hc, ⟨by rw [e1]; exact y8.1, fun i c hc => by rw [e2]; exact y8.2 i c hc⟩, fun k hk => ⟨?_, fun r hr => ?_⟩, y10⟩
    · rw [o (pa + 7 + 2 * k) (by unfold Scr; omega) (by omega)]; exact (y9 k hk).1
    · rw [o (pa + 7 + 2 * k + 1) (by unfold Scr; omega) (by omega)]; exact (y9 k hk).2 r hr
  · rw [o (x + 39) (by unfold Scr; omega) (by omega)]; exact g1
  · intro k hk
    exact ⟨by rw [o (x + 44 + 2 * k) (by unfold Scr; omega) (by omega)]; exact (g2 k hk).1, fun r hr => by rw [o (x + 44 + 2 * k + 1) (by unfold Scr; omega) (by omega)]; exact (g2 k hk).2 r hr⟩
  · obtain ⟨a1, a2, a3, a4, a5, a6, a7⟩ := h1
    have ez := o (x + 86) (by unfold Scr; omega) (by omega)
    refine ⟨by rw [ez]; exact a1, by rw [ez]; exact a2, by rw [ez]; exact a3, a4, a5, a6, fun k hk => ?_⟩
    obtain ⟨c1, c2, c3, c4⟩ := a7 k hk
    have hm : (old + k) % 40 < 40 := Nat.mod_lt _ (by decide)
    refine ⟨by rw [o (x + 86 + 1) (by unfold Scr; omega) (by omega)]; exact c1, by rw [o (x + 86 + 43) (by unfold Scr; omega) (by omega)]; exact c2, by rw [o (x + 86 + 44) (by unfold Scr; omega) (by omega)]; exact c3, fun r hr hs => by rw [o (x + 86 + 3 + (old + k) % 40) (by unfold Scr; omega) (by omega)]; exact c4 r hr hs⟩
  · intro b hb
    obtain ⟨b1, b2⟩ := bx b hb
    have eb := o (x + 132 + 12 * b) (by unfold Scr; omega) (by omega)
    refine ⟨by rw [eb]; exact b1, fun s hs => ⟨by rw [eb]; exact (b2 s hs).1, fun k hk => ?_⟩⟩
    have := (b2 s hs).2 k hk
    exact ⟨by rw [o (x + 134 + 12 * b + 2 * k) (by unfold Scr; omega) (by omega)]; exact this.1, fun r hr => by rw [o (x + 134 + 12 * b + 2 * k + 1) (by unfold Scr; omega) (by omega)]; exact this.2 r hr⟩
  · obtain ⟨t0, t1, t2, t3, t4, t5⟩ := sg
    refine ⟨by rw [a.2 0 (by decide)]; exact t0, by rw [a.2 1 (by decide)]; exact t1, by rw [a.2 2 (by decide)]; exact t2, by rw [a.2 3 (by decide)]; exact t3, fun z => ⟨?_, fun r hr => ?_⟩, fun i e he => ?_⟩
    · rw [o (x + 168 + 1) (by unfold Scr; omega) (by omega)]; exact (t4 z).1
    · rw [o (x + 168 + 1 + 1) (by unfold Scr; omega) (by omega)]; exact (t4 z).2 r hr
    · rw [o (x + 168 + 3) (by unfold Scr; omega) (by omega), o (x + 168 + 4) (by unfold Scr; omega) (by omega), o (x + 168 + 5) (by unfold Scr; omega) (by omega), o (x + 168 + 6) (by unfold Scr; omega) (by omega), o (x + 168 + 7) (by unfold Scr; omega) (by omega), o (x + 168 + 8) (by unfold Scr; omega) (by omega), o (x + 168 + 9) (by unfold Scr; omega) (by omega)]
      exact t5 i e he
