/-! Runs of the small machine, said by what holds at their end. -/
def wp (r : MRes) (Q : Option Value → MH → Prop) : Prop := ∃ v h, r = some (v, h) ∧ Q v h
theorem wp_e {r : MRes} {v : Option Value} {h : MH} (e : wp r (fun a b => a = v ∧ b = h)) : r = some (v, h) := by
  obtain ⟨a, b, e1, e2, e3⟩ := e; subst e2; subst e3; exact e1
theorem wp_w {r : MRes} {P Q : Option Value → MH → Prop} (e : wp r P) (H : ∀ v h, P v h → Q v h) : wp r Q := by
  obtain ⟨a, b, e1, e2⟩ := e; exact ⟨a, b, e1, H _ _ e2⟩
theorem wp_q {r r' : MRes} {Q : Option Value → MH → Prop} (e : r = r') (H : wp r' Q) : wp r Q := e ▸ H
theorem wp_s {v : Option Value} {h : MH} {Q : Option Value → MH → Prop} (H : Q v h) : wp (some (v, h)) Q := ⟨v, h, rfl, H⟩
theorem wp_isC {h : MH} {a t : Nat} {k : MRes} {Q : Option Value → MH → Prop} (e : hC h a = t) (H : wp k Q) : wp (isC h a t k) Q := by
  unfold isC; rw [if_pos e]; exact H
theorem wp_nnR {r : Option Nat} {b : Nat} {k : Nat → MRes} {Q : Option Value → MH → Prop} (e : r = some b) (H : wp (k b) Q) : wp (nnR r k) Q := by
  subst e; exact H
theorem wp_inA {h : MH} {a : Nat} {i : Int32} {n N : Nat} {k : MRes} {Q : Option Value → MH → Prop} (e : hN h a = N) (ei : i = nI n) (lt : n < N) (hn : n < 2 ^ 31) (H : wp k Q) : wp (inA h a i k) Q := by
  unfold inA; subst ei; rw [e, if_neg]
  · exact H
  · rw [nI_clamp hn]; intro x; rcases x with x | x
    · exact nI_pos hn x
    · omega
theorem wp_br {c : Prop} [Decidable c] {a b : MRes} {Q : Option Value → MH → Prop} (H1 : c → wp a Q) (H2 : ¬ c → wp b Q) : wp (br c a b) Q := by
  unfold br; by_cases q : c
  · rw [if_pos q]; exact H1 q
  · rw [if_neg q]; exact H2 q
theorem wp_bt {c : Prop} [Decidable c] {a b : MRes} {Q : Option Value → MH → Prop} (q : c) (H1 : wp a Q) : wp (br c a b) Q := by
  unfold br; rw [if_pos q]; exact H1
theorem wp_bf {c : Prop} [Decidable c] {a b : MRes} {Q : Option Value → MH → Prop} (q : ¬ c) (H1 : wp b Q) : wp (br c a b) Q := by
  unfold br; rw [if_neg q]; exact H1
theorem wp_bi {c : Prop} [Decidable c] {a b : MRes} {P : Prop} {Q : Option Value → MH → Prop} (e : c ↔ P) (H1 : P → wp a Q) (H2 : ¬ P → wp b Q) : wp (br c a b) Q := wp_br (fun q => H1 (e.mp q)) (fun q => H2 (fun p => q (e.mpr p)))
theorem wp_isZ {x : Int32} {k : MRes} {Q : Option Value → MH → Prop} (e : x &&& 1 = x) (H : wp k Q) : wp (isZ x k) Q := by
  unfold isZ; rw [if_pos e]; exact H
theorem wp_nz {x : Int32} {k : MRes} {Q : Option Value → MH → Prop} (e : ¬ x = 0) (H : wp k Q) : wp (nz x k) Q := by
  unfold nz; rw [if_neg e]; exact H
theorem wp_okN {x : Int32} {n : Nat} {k : Nat → MRes} {Q : Option Value → MH → Prop} (e : x = nI n) (hn : n ≤ 4096) (H : wp (k n) Q) : wp (okN x k) Q := by
  unfold okN; subst e; rw [nI_clamp (by omega), if_neg]
  · exact H
  · intro x; rcases x with x | x
    · exact nI_pos (by omega) x
    · omega
theorem wp_ite {c : Prop} [Decidable c] {b : MRes} {Q : Option Value → MH → Prop} (q : ¬ c) (H1 : wp b Q) : wp (if c then none else b) Q := by
  rw [if_neg q]; exact H1
theorem wp_rI {r : MRes} {k : Int32 → MH → MRes} {Q P : Option Value → MH → Prop} (e : wp r P) (H : ∀ v h, P v h → ∃ x, v = some (.int x) ∧ wp (k x h) Q) : wp (rI r k) Q := by
  obtain ⟨a, b, e1, e2⟩ := e
  obtain ⟨x, e3, e4⟩ := H _ _ e2
  subst e3; subst e1; exact e4
theorem wp_rIe {r : MRes} {x : Int32} {h : MH} {k : Int32 → MH → MRes} {Q : Option Value → MH → Prop} (e : r = some (some (.int x), h)) (H : wp (k x h) Q) : wp (rI r k) Q := by subst e; exact H
theorem wp_rV {r : MRes} {k : MH → MRes} {Q P : Option Value → MH → Prop} (e : wp r P) (H : ∀ v h, P v h → v = none ∧ wp (k h) Q) : wp (rV r k) Q := by
  obtain ⟨a, b, e1, e2⟩ := e
  obtain ⟨e3, e4⟩ := H _ _ e2
  subst e3; subst e1; exact e4
theorem wp_rVe {r : MRes} {h : MH} {k : MH → MRes} {Q : Option Value → MH → Prop} (e : r = some (none, h)) (H : wp (k h) Q) : wp (rV r k) Q := by subst e; exact H
theorem wp_rRe {r : MRes} {x : Nat} {h : MH} {k : Nat → MH → MRes} {Q : Option Value → MH → Prop} (e : r = some (some (.ref x), h)) (H : wp (k x h) Q) : wp (rR r k) Q := by subst e; exact H
/-! ints alone change: the heap with its ints replaced -/
def wI (h : MH) (f : Nat → Nat → Int32) : MH := (hT h, hS h, hC h, hN h, f, hL h, hR h)
theorem wI_T {h : MH} {f : Nat → Nat → Int32} : hT (wI h f) = hT h := rfl
theorem wI_S {h : MH} {f : Nat → Nat → Int32} : hS (wI h f) = hS h := rfl
theorem wI_C {h : MH} {f : Nat → Nat → Int32} : hC (wI h f) = hC h := rfl
theorem wI_N {h : MH} {f : Nat → Nat → Int32} : hN (wI h f) = hN h := rfl
theorem wI_I {h : MH} {f : Nat → Nat → Int32} : hI (wI h f) = f := rfl
theorem wI_L {h : MH} {f : Nat → Nat → Int32} : hL (wI h f) = hL h := rfl
theorem wI_R {h : MH} {f : Nat → Nat → Int32} : hR (wI h f) = hR h := rfl
theorem wI_s {h : MH} {f : Nat → Nat → Int32} {a k : Nat} {v : Int32} : sI (wI h f) a k v = wI h (up2 f a k v) := rfl
theorem wI_c {h : MH} {f : Nat → Nat → Int32} {a b sp dp n : Nat} : cpI (wI h f) a sp b dp n = wI h (up1 f b (va_cpy (f a) (f b) sp dp n)) := rfl
theorem wI_w {h : MH} {f g : Nat → Nat → Int32} : wI (wI h f) g = wI h g := rfl
theorem wI_e (h : MH) : wI h (hI h) = h := rfl
theorem up2_s {α : Type} {f : Nat → Nat → α} {a k : Nat} {v : α} : up2 f a k v a k = v := by unfold up2; rw [if_pos rfl, if_pos rfl]
theorem up2_k {α : Type} {f : Nat → Nat → α} {a k j : Nat} {v : α} (h : j ≠ k) : up2 f a k v a j = f a j := by unfold up2; rw [if_pos rfl, if_neg h]
theorem up2_a {α : Type} {f : Nat → Nat → α} {a k b : Nat} {v : α} (h : b ≠ a) : up2 f a k v b = f b := by funext j; unfold up2; rw [if_neg h]
theorem up2_i {α : Type} {f : Nat → Nat → α} {a k j : Nat} {v : α} : up2 f a k v a j = if j = k then v else f a j := by unfold up2; rw [if_pos rfl]
theorem up1_s {α : Type} {f : Nat → α} {a : Nat} {v : α} : up1 f a v a = v := by unfold up1; rw [if_pos rfl]
theorem up1_a {α : Type} {f : Nat → α} {a b : Nat} {v : α} (h : b ≠ a) : up1 f a v b = f b := by unfold up1; rw [if_neg h]
/-! numbers -/
theorem nm_or (a b : Nat) : nI a ||| nI b = nI (a ||| b) := by
  apply Int32.toBitVec_inj.mp
  show BitVec.ofNat 32 a ||| BitVec.ofNat 32 b = BitVec.ofNat 32 (a ||| b)
  apply BitVec.eq_of_getLsbD_eq
  intro i hi
  simp only [BitVec.getLsbD_or, BitVec.getLsbD_ofNat, Nat.testBit_or, hi, decide_true, Bool.true_and]
theorem nm_and (a b : Nat) : nI a &&& nI b = nI (a &&& b) := by
  apply Int32.toBitVec_inj.mp
  show BitVec.ofNat 32 a &&& BitVec.ofNat 32 b = BitVec.ofNat 32 (a &&& b)
  apply BitVec.eq_of_getLsbD_eq
  intro i hi
  simp only [BitVec.getLsbD_and, BitVec.getLsbD_ofNat, Nat.testBit_and, hi, decide_true, Bool.true_and]
theorem nm_xor (a b : Nat) : nI a ^^^ nI b = nI (a ^^^ b) := by
  apply Int32.toBitVec_inj.mp
  show BitVec.ofNat 32 a ^^^ BitVec.ofNat 32 b = BitVec.ofNat 32 (a ^^^ b)
  apply BitVec.eq_of_getLsbD_eq
  intro i hi
  simp only [BitVec.getLsbD_xor, BitVec.getLsbD_ofNat, Nat.testBit_xor, hi, decide_true, Bool.true_and]
theorem nm_sm : ∀ j : Fin 32, ((nI j.val &&& 31).toBitVec.smod 32).toNat = j.val := by decide +kernel
theorem nm_shl {a k : Nat} (hk : k < 32) (h : a * 2 ^ k < 2 ^ 32) : nI a <<< (nI k &&& 31) = nI (a * 2 ^ k) := pk_shlN _ k (nm_sm ⟨k, hk⟩) h
theorem nm_shr {a k : Nat} (hk : k < 32) (h : a < 2 ^ 31) : nI a >>> (nI k &&& 31) = nI (a / 2 ^ k) := pk_shrN h _ k (nm_sm ⟨k, hk⟩)
theorem nm_one {k : Nat} (hk : k < 31) : nI 1 <<< (nI k &&& 31) = nI (2 ^ k) := by
  rw [nm_shl (by omega) (by have := Nat.pow_lt_pow_right (a := 2) (by decide) (show k < 32 by omega); omega), Nat.one_mul]
theorem nm_bit {a k : Nat} (hk : k < 32) (h : a < 2 ^ 31) : ((nI a >>> (nI k &&& 31)) &&& nI 1) = nI 1 ↔ a.testBit k = true := by
  rw [nm_shr hk h, nm_and, nI_eq (by have := Nat.and_le_right (n := a / 2 ^ k) (m := 1); omega) (by decide), Nat.and_one_is_mod, Nat.testBit_eq_decide_div_mod_eq]
  simp
/-- a without b -/
def nd (a b : Nat) : Nat := a ^^^ (a &&& b)
theorem nd_t (a b i : Nat) : (nd a b).testBit i = (a.testBit i && !b.testBit i) := by
  unfold nd; rw [Nat.testBit_xor, Nat.testBit_and]; cases a.testBit i <;> cases b.testBit i <;> rfl
theorem nm_nd (a b : Nat) : nI a &&& (nI b ^^^ mI 1) = nI (nd a b) := by
  unfold nd
  rw [← nm_xor, ← nm_and]
  generalize nI a = x
  generalize nI b = y
  have e : mI 1 = -1 := rfl
  rw [e]
  apply Int32.toBitVec_inj.mp
  simp only [Int32.toBitVec_and, Int32.toBitVec_xor]
  apply BitVec.eq_of_getLsbD_eq
  intro i hi
  have e2 : ((-1 : Int32).toBitVec).getLsbD i = true := by
    have : (-1 : Int32).toBitVec = BitVec.allOnes 32 := by decide
    rw [this, BitVec.getLsbD_allOnes]; simp [hi]
  simp only [BitVec.getLsbD_and, BitVec.getLsbD_xor, e2]
  cases x.toBitVec.getLsbD i <;> cases y.toBitVec.getLsbD i <;> rfl
