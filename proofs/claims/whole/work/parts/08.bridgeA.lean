/-! The small machine beside the JVM: what it is that both hold the same. -/
/-! ===== the locals ===== -/
def lvl : MLoc → Nat → List (Nat × Value)
  | [], _ => []
  | some v :: l, k => (k, v) :: lvl l (k + 1)
  | none :: l, k => lvl l (k + 1)
theorem lvl_mem : ∀ (l : MLoc) (k i : Nat) (v : Value), (i, v) ∈ lvl l k → k ≤ i ∧ nth l (i - k) = some (some v)
  | [], _, _, _, h => by cases h
  | some w :: l, k, i, v, h => by
    rcases List.mem_cons.mp h with e | e
    · cases e
      exact ⟨Nat.le_refl _, by rw [Nat.sub_self]; rfl⟩
    · obtain ⟨h1, h2⟩ := lvl_mem l (k + 1) i v e
      refine ⟨by omega, ?_⟩
      rw [show i - k = (i - (k + 1)) + 1 by omega]
      exact h2
  | none :: l, k, i, v, h => by
    obtain ⟨h1, h2⟩ := lvl_mem l (k + 1) i v h
    refine ⟨by omega, ?_⟩
    rw [show i - k = (i - (k + 1)) + 1 by omega]
    exact h2
theorem lvl_of : ∀ (l : MLoc) (k i : Nat) (v : Value), nth l i = some (some v) → (k + i, v) ∈ lvl l k
  | [], _, _, _, h => by cases h
  | some w :: l, k, 0, v, h => by
    cases h
    exact List.mem_cons_self
  | none :: l, k, 0, v, h => by cases h
  | some w :: l, k, i + 1, v, h => by
    have := lvl_of l (k + 1) i v h
    rw [show k + (i + 1) = k + 1 + i by omega]
    exact List.mem_cons_of_mem _ this
  | none :: l, k, i + 1, v, h => by
    have := lvl_of l (k + 1) i v h
    rw [show k + (i + 1) = k + 1 + i by omega]
    exact this
/-- the JVM's locals hold what the small machine's say -/
def LR (nL : Nat) (ls : MLoc) (lsr : Array Slot) : Prop := lsr.size = nL ∧ lv_wf lsr ∧ ∀ k v, nth ls k = some (some v) → lsr[k]? = some (.val v)
theorem LR.has {nL : Nat} {ls : MLoc} {lsr : Array Slot} (h : LR nL ls lsr) : lv_has lsr nL (lvl ls 0) := by
  refine ⟨h.1, h.2.1, fun q hq => ?_⟩
  obtain ⟨-, h2⟩ := lvl_mem ls 0 q.1 q.2 hq
  exact h.2.2 q.1 q.2 h2
theorem LR.of {nL : Nat} {ls : MLoc} {lsr : Array Slot} {l : List (Nat × Value)} (h : lv_has lsr nL l) (hl : ∀ k v, nth ls k = some (some v) → (k, v) ∈ l) : LR nL ls lsr := ⟨h.1, h.2.1, fun k v hk => h.2.2 (k, v) (hl k v hk)⟩
theorem dlg_some {x : Option Value} {w : Value} (h : dlg x = some w) : x = some w ∧ ¬ w.category = 2 := by
  cases x with
  | none => cases h
  | some y => cases y <;> (simp [dlg] at h; try (subst h; exact ⟨rfl, by simp [Value.category]⟩))
theorem nth_st1 : ∀ (ls : MLoc) (i : Nat) (v : Value) (k : Nat) (w : Value), nth (st1 ls i v) k = some (some w) → (k = i ∧ w = v) ∨ (k ≠ i ∧ nth ls k = some (some w) ∧ ¬ (k + 1 = i ∧ w.category = 2))
  | [], _, _, _, _, h => by cases h
  | x :: l, 0, v, 0, w, h => by
    left
    simp [st1, nth] at h
    exact ⟨rfl, h.symm⟩
  | x :: l, 0, v, k + 1, w, h => by
    right
    exact ⟨by omega, h, by omega⟩
  | x :: l, 1, v, 0, w, h => by
    right
    have h : dlg x = some w := by simpa [st1, nth] using h
    obtain ⟨rfl, h2⟩ := dlg_some h
    exact ⟨by omega, rfl, fun q => h2 q.2⟩
  | x :: l, 1, v, k + 1, w, h => by
    have h : nth (st1 l 0 v) k = some (some w) := h
    rcases nth_st1 l 0 v k w h with ⟨a, b⟩ | ⟨a, b, c⟩
    · left; exact ⟨by omega, b⟩
    · right; exact ⟨by omega, b, by omega⟩
  | x :: l, n + 2, v, 0, w, h => by
    right
    exact ⟨by omega, h, by omega⟩
  | x :: l, n + 2, v, k + 1, w, h => by
    have h : nth (st1 l (n + 1) v) k = some (some w) := h
    rcases nth_st1 l (n + 1) v k w h with ⟨a, b⟩ | ⟨a, b, c⟩
    · left; exact ⟨by omega, b⟩
    · right; exact ⟨by omega, b, fun q => c ⟨by omega, q.2⟩⟩
theorem nth_st2 : ∀ (ls : MLoc) (i : Nat) (v : Value) (k : Nat) (w : Value), nth (st2 ls i v) k = some (some w) → (k = i ∧ w = v) ∨ (k ≠ i ∧ k ≠ i + 1 ∧ nth ls k = some (some w) ∧ ¬ (k + 1 = i ∧ w.category = 2))
  | [], 0, _, _, _, h => by cases h
  | [], 1, _, _, _, h => by cases h
  | [], n + 2, _, _, _, h => by cases h
  | [x], 0, v, k, w, h => by cases h
  | x :: y :: l, 0, v, 0, w, h => by
    left
    simp [st2, nth] at h
    exact ⟨rfl, h.symm⟩
  | x :: y :: l, 0, v, 1, w, h => by simp [st2, nth] at h
  | x :: y :: l, 0, v, k + 2, w, h => by
    right
    exact ⟨by omega, by omega, h, by omega⟩
  | x :: l, 1, v, 0, w, h => by
    right
    have h : dlg x = some w := by simpa [st2, nth] using h
    obtain ⟨rfl, h2⟩ := dlg_some h
    exact ⟨by omega, by omega, rfl, fun q => h2 q.2⟩
  | x :: l, 1, v, k + 1, w, h => by
    have h : nth (st2 l 0 v) k = some (some w) := by simpa only [st2, nth] using h
    rcases nth_st2 l 0 v k w h with ⟨a, b⟩ | ⟨a, a2, b, c⟩
    · left; exact ⟨by omega, b⟩
    · right; exact ⟨by omega, by omega, b, by omega⟩
  | x :: l, n + 2, v, 0, w, h => by
    right
    have h : nth (x :: l) 0 = some (some w) := by simpa only [st2, nth] using h
    exact ⟨by omega, by omega, h, by omega⟩
  | x :: l, n + 2, v, k + 1, w, h => by
    have h : nth (st2 l (n + 1) v) k = some (some w) := by simpa only [st2, nth] using h
    rcases nth_st2 l (n + 1) v k w h with ⟨a, b⟩ | ⟨a, a2, b, c⟩
    · left; exact ⟨by omega, b⟩
    · right; exact ⟨by omega, by omega, b, fun q => c ⟨by omega, q.2⟩⟩
theorem LR.st1 {nL i : Nat} {ls : MLoc} {v : Value} {lsr : Array Slot} (h : lv_has lsr nL ((i, v) :: (lvl ls 0).filter (fun q => !(q.1 == i) && !(q.1 + 1 == i && q.2.category == 2)))) : LR nL (st1 ls i v) lsr := by
  refine LR.of h fun k w hk => ?_
  rcases nth_st1 ls i v k w hk with ⟨rfl, rfl⟩ | ⟨a, b, c⟩
  · exact List.mem_cons_self
  · refine List.mem_cons_of_mem _ (List.mem_filter.mpr ⟨?_, ?_⟩)
    · have := lvl_of ls 0 k w b
      rwa [Nat.zero_add] at this
    · simp only [Bool.and_eq_true, Bool.not_eq_true', beq_eq_false_iff_ne, ne_eq, Bool.and_eq_false_imp, beq_iff_eq]
      exact ⟨a, fun e q => c ⟨e, q⟩⟩
theorem LR.st2 {nL i : Nat} {ls : MLoc} {v : Value} {lsr : Array Slot} (h : lv_has lsr nL ((i, v) :: (lvl ls 0).filter (fun q => !(q.1 == i) && (!(q.1 == i + 1) && !(q.1 + 1 == i && q.2.category == 2))))) : LR nL (st2 ls i v) lsr := by
  refine LR.of h fun k w hk => ?_
  rcases nth_st2 ls i v k w hk with ⟨rfl, rfl⟩ | ⟨a, a2, b, c⟩
  · exact List.mem_cons_self
  · refine List.mem_cons_of_mem _ (List.mem_filter.mpr ⟨?_, ?_⟩)
    · have := lvl_of ls 0 k w b
      rwa [Nat.zero_add] at this
    · simp only [Bool.and_eq_true, Bool.not_eq_true', beq_eq_false_iff_ne, ne_eq, Bool.and_eq_false_imp, beq_iff_eq]
      exact ⟨a, a2, fun e q => c ⟨e, q⟩⟩
theorem nth_msk : ∀ (m : List Nat) (ls : MLoc) (k : Nat) (w : Value), nth (msk m ls) k = some (some w) → nth ls k = some (some w)
  | [], ls, k, w, h => by
    have e : msk [] ls = ls := by cases ls <;> rfl
    rwa [e] at h
  | b :: m, [], k, w, h => by
    have e : msk (b :: m) [] = [] := by cases b <;> rfl
    rwa [e] at h
  | 0 :: m, x :: l, 0, w, h => by simp [msk, nth] at h
  | (b + 1) :: m, x :: l, 0, w, h => h
  | 0 :: m, x :: l, k + 1, w, h => nth_msk m l k w h
  | (b + 1) :: m, x :: l, k + 1, w, h => nth_msk m l k w h
theorem LR.msk {nL : Nat} {ls : MLoc} {lsr : Array Slot} (h : LR nL ls lsr) (m : List Nat) : LR nL (msk m ls) lsr := ⟨h.1, h.2.1, fun k v hk => h.2.2 k v (nth_msk m ls k v hk)⟩
theorem nth_rep : ∀ (n k : Nat) (w : Value), ¬ nth (List.replicate n (none : Option Value)) k = some (some w)
  | 0, _, _, h => by cases h
  | n + 1, 0, _, h => by simp [List.replicate, nth] at h
  | n + 1, k + 1, w, h => nth_rep n k w h
theorem nth_entl : ∀ (vs : List Value) (n b k : Nat) (w : Value), nth (entl vs n) k = some (some w) → (b + k, w) ∈ lv_args b vs
  | [], n, b, k, w, h => absurd h (nth_rep n k w)
  | .long x :: vs, n, b, 0, w, h => by
    simp [entl, nth] at h
    subst h
    exact List.mem_cons_self
  | .long x :: vs, n, b, 1, w, h => by simp [entl, nth] at h
  | .long x :: vs, n, b, k + 2, w, h => by
    have h : nth (entl vs (n - 2)) k = some (some w) := h
    have := nth_entl vs (n - 2) (b + 2) k w h
    rw [show b + (k + 2) = b + 2 + k by omega]
    exact List.mem_cons_of_mem _ this
  | .double x :: vs, n, b, 0, w, h => by
    simp [entl, nth] at h
    subst h
    exact List.mem_cons_self
  | .double x :: vs, n, b, 1, w, h => by simp [entl, nth] at h
  | .double x :: vs, n, b, k + 2, w, h => by
    have h : nth (entl vs (n - 2)) k = some (some w) := h
    have := nth_entl vs (n - 2) (b + 2) k w h
    rw [show b + (k + 2) = b + 2 + k by omega]
    exact List.mem_cons_of_mem _ this
  | .int x :: vs, n, b, k, w, h => by
    cases k with
    | zero => simp [entl, nth] at h; subst h; exact List.mem_cons_self
    | succ k =>
      have h : nth (entl vs (n - 1)) k = some (some w) := h
      have := nth_entl vs (n - 1) (b + 1) k w h
      rw [show b + (k + 1) = b + 1 + k by omega]
      exact List.mem_cons_of_mem _ this
  | .ref x :: vs, n, b, k, w, h => by
    cases k with
    | zero => simp [entl, nth] at h; subst h; exact List.mem_cons_self
    | succ k =>
      have h : nth (entl vs (n - 1)) k = some (some w) := h
      have := nth_entl vs (n - 1) (b + 1) k w h
      rw [show b + (k + 1) = b + 1 + k by omega]
      exact List.mem_cons_of_mem _ this
  | .null :: vs, n, b, k, w, h => by
    cases k with
    | zero => simp [entl, nth] at h; subst h; exact List.mem_cons_self
    | succ k =>
      have h : nth (entl vs (n - 1)) k = some (some w) := h
      have := nth_entl vs (n - 1) (b + 1) k w h
      rw [show b + (k + 1) = b + 1 + k by omega]
      exact List.mem_cons_of_mem _ this
  | .float x :: vs, n, b, k, w, h => by
    cases k with
    | zero => simp [entl, nth] at h; subst h; exact List.mem_cons_self
    | succ k =>
      have h : nth (entl vs (n - 1)) k = some (some w) := h
      have := nth_entl vs (n - 1) (b + 1) k w h
      rw [show b + (k + 1) = b + 1 + k by omega]
      exact List.mem_cons_of_mem _ this
  | .retAddr x :: vs, n, b, k, w, h => by
    cases k with
    | zero => simp [entl, nth] at h; subst h; exact List.mem_cons_self
    | succ k =>
      have h : nth (entl vs (n - 1)) k = some (some w) := h
      have := nth_entl vs (n - 1) (b + 1) k w h
      rw [show b + (k + 1) = b + 1 + k by omega]
      exact List.mem_cons_of_mem _ this
theorem LR.entry (vs : List Value) {n : Nat} (h : (lg_sl vs).length ≤ n) : LR n (entl vs n) ((lg_sl vs ++ List.replicate (n - (lg_sl vs).length) Slot.unset).toArray) :=
  LR.of (lv_entry vs h) (fun k v hk => by have := nth_entl vs n 0 k v hk; rwa [Nat.zero_add] at this)
