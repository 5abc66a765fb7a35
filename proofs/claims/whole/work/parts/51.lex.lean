/-! The tokens of a text, and the class's scanner. -/
def wL (h : MH) (g : Nat → Nat → Int64) : MH := (hT h, hS h, hC h, hN h, hI h, g, hR h)
theorem wL_C {h : MH} {g : Nat → Nat → Int64} : hC (wL h g) = hC h := rfl
theorem wL_N {h : MH} {g : Nat → Nat → Int64} : hN (wL h g) = hN h := rfl
theorem wL_R {h : MH} {g : Nat → Nat → Int64} : hR (wL h g) = hR h := rfl
theorem wL_L {h : MH} {g : Nat → Nat → Int64} : hL (wL h g) = g := rfl
theorem wIL_s {h : MH} {f : Nat → Nat → Int32} {g : Nat → Nat → Int64} {a k : Nat} {v : Int64} : sL (wI (wL h g) f) a k v = wI (wL h (up2 g a k v)) f := rfl
def sb (c : Nat) : Int32 := (nI c).toInt8.toInt32
theorem sb_lt : ∀ c : Fin 128, sb c.val = nI c.val := by decide +kernel
theorem sb_ge : ∀ c : Fin 128, sb (c.val + 128) < nI 0 := by decide +kernel
theorem sb_e {c : Nat} (h : c < 256) : (c < 128 ∧ sb c = nI c) ∨ (128 ≤ c ∧ sb c < nI 0) := by
  by_cases q : c < 128
  · exact Or.inl ⟨q, sb_lt ⟨c, q⟩⟩
  · have := sb_ge ⟨c - 128, by omega⟩
    rw [show (⟨c - 128, by omega⟩ : Fin 128).val + 128 = c by show c - 128 + 128 = c; omega] at this
    exact Or.inr ⟨by omega, this⟩
theorem neg_lt {x : Int32} {n : Nat} (h : x < nI 0) (hn : n < 2 ^ 31) : x < nI n := by
  have h1 : nI 0 ≤ nI n := (nI_leI (by decide) hn).mpr (Nat.zero_le _)
  exact Int32.lt_of_lt_of_le h h1
theorem neg_ne {x : Int32} {n : Nat} (h : x < nI 0) (hn : n < 2 ^ 31) : ¬ x = nI n := fun e => by
  rw [e] at h; exact nI_pos hn h
def isBl (c : Nat) : Bool := decide (c = 32) || decide (c = 10)
def isLe (c : Nat) : Bool := decide (97 ≤ c) && decide (c ≤ 122)
def isDi (c : Nat) : Bool := decide (48 ≤ c) && decide (c ≤ 57)
def isSi (c : Nat) : Bool := tx1.contains c
theorem sc_blank {h : MH} {c : Nat} (hc : c < 256) : ev M_Scanner_isBlank 0 0 [some (.int (sb c))] [] h = some (some (.int (nI (isBl c).toNat)), h) := by
  rw [r_Scanner_isBlank_0]
  simp only [r_Scanner_isBlank_7]
  apply wp_e
  unfold isBl
  rcases sb_e hc with ⟨q, e⟩ | ⟨q, e⟩
  · rw [e]
    by_cases z : c = 32
    · rw [decide_eq_true z]; exact wp_bt (by rw [z]) (wp_isZ (by decide) (wp_s ⟨rfl, rfl⟩))
    · rw [decide_eq_false z]
      refine wp_bf (by rw [nI_eq (by omega) (by decide)]; exact z) ?_
      by_cases z2 : c = 10
      · rw [decide_eq_true z2]; exact wp_bt (by rw [z2]) (wp_isZ (by decide) (wp_s ⟨rfl, rfl⟩))
      · rw [decide_eq_false z2]; exact wp_bf (by rw [nI_eq (by omega) (by decide)]; exact z2) (wp_isZ (by decide) (wp_s ⟨rfl, rfl⟩))
  · rw [decide_eq_false (by omega), decide_eq_false (by omega)]
    exact wp_bf (neg_ne e (by decide)) (wp_bf (neg_ne e (by decide)) (wp_isZ (by decide) (wp_s ⟨rfl, rfl⟩)))
theorem sc_letter {h : MH} {c : Nat} (hc : c < 256) : ev M_Scanner_isLetter 0 0 [some (.int (sb c))] [] h = some (some (.int (nI (isLe c).toNat)), h) := by
  rw [r_Scanner_isLetter_0]
  apply wp_e
  unfold isLe
  rcases sb_e hc with ⟨q, e⟩ | ⟨q, e⟩
  · rw [e]
    by_cases z : 97 ≤ c
    · rw [decide_eq_true z]
      refine wp_bf (by rw [nI_ltI (by omega) (by decide)]; omega) ?_
      by_cases z2 : c ≤ 122
      · rw [decide_eq_true z2]; exact wp_bf (by rw [nI_ltI (by decide) (by omega)]; omega) (wp_isZ (by decide) (wp_s ⟨rfl, rfl⟩))
      · rw [decide_eq_false z2]; exact wp_bt (by rw [nI_ltI (by decide) (by omega)]; omega) (wp_isZ (by decide) (wp_s ⟨rfl, rfl⟩))
    · rw [decide_eq_false z]
      exact wp_bt (by rw [nI_ltI (by omega) (by decide)]; omega) (wp_isZ (by decide) (wp_s ⟨rfl, rfl⟩))
  · rw [decide_eq_false (show ¬ c ≤ 122 by omega), Bool.and_false]
    exact wp_bt (neg_lt e (by decide)) (wp_isZ (by decide) (wp_s ⟨rfl, rfl⟩))
theorem sc_digit {h : MH} {c : Nat} (hc : c < 256) : ev M_Scanner_isDigit 0 0 [some (.int (sb c))] [] h = some (some (.int (nI (isDi c).toNat)), h) := by
  rw [r_Scanner_isDigit_0]
  apply wp_e
  unfold isDi
  rcases sb_e hc with ⟨q, e⟩ | ⟨q, e⟩
  · rw [e]
    by_cases z : 48 ≤ c
    · rw [decide_eq_true z]
      refine wp_bf (by rw [nI_ltI (by omega) (by decide)]; omega) ?_
      by_cases z2 : c ≤ 57
      · rw [decide_eq_true z2]; exact wp_bf (by rw [nI_ltI (by decide) (by omega)]; omega) (wp_isZ (by decide) (wp_s ⟨rfl, rfl⟩))
      · rw [decide_eq_false z2]; exact wp_bt (by rw [nI_ltI (by decide) (by omega)]; omega) (wp_isZ (by decide) (wp_s ⟨rfl, rfl⟩))
    · rw [decide_eq_false z]
      exact wp_bt (by rw [nI_ltI (by omega) (by decide)]; omega) (wp_isZ (by decide) (wp_s ⟨rfl, rfl⟩))
  · rw [decide_eq_false (show ¬ c ≤ 57 by omega), Bool.and_false]
    exact wp_bt (neg_lt e (by decide)) (wp_isZ (by decide) (wp_s ⟨rfl, rfl⟩))
/-- a byte of the text; behind its end none -/
def bt (b : Nat → Nat) (len i : Nat) : Nat := if i < len then b i else 256
def rn (p : Nat → Bool) : Nat → Nat → Nat
  | 0, i => i
  | k + 1, i => if p i then rn p k (i + 1) else i
theorem rn_ge {p : Nat → Bool} : ∀ k i, i ≤ rn p k i
  | 0, i => Nat.le_refl _
  | k + 1, i => by
    rw [rn]; split
    · have := rn_ge (p := p) k (i + 1); omega
    · exact Nat.le_refl _
theorem rn_le {p : Nat → Bool} {len : Nat} (hp : ∀ j, len ≤ j → p j = false) : ∀ k i, i ≤ len → rn p k i ≤ len
  | 0, i, h => h
  | k + 1, i, h => by
    rw [rn]; split
    · rename_i z
      by_cases q : i = len
      · rw [hp i (by omega)] at z; cases z
      · exact rn_le hp k (i + 1) (by omega)
    · exact h
theorem rn_end {p : Nat → Bool} {len : Nat} (hp : ∀ j, len ≤ j → p j = false) : ∀ k i, len ≤ i + k → p (rn p k i) = false
  | 0, i, h => hp i (by omega)
  | k + 1, i, h => by
    rw [rn]; split
    · exact rn_end hp k (i + 1) (by omega)
    · rename_i z; exact (Bool.not_eq_true _).mp z
theorem rn_in {p : Nat → Bool} : ∀ k i j, i ≤ j → j < rn p k i → p j = true
  | 0, i, j, h1, h2 => by rw [rn] at h2; omega
  | k + 1, i, j, h1, h2 => by
    rw [rn] at h2
    split at h2
    · rename_i z
      by_cases q : j = i
      · rw [q]; exact z
      · exact rn_in k (i + 1) j (by omega) h2
    · omega
def pBl (b : Nat → Nat) (len i : Nat) : Bool := isBl (bt b len i)
def pLe (b : Nat → Nat) (len i : Nat) : Bool := isLe (bt b len i)
def pDi (b : Nat → Nat) (len i : Nat) : Bool := isDi (bt b len i)
theorem bt_o {b : Nat → Nat} {len i : Nat} (h : len ≤ i) : bt b len i = 256 := if_neg (by omega)
theorem bt_i {b : Nat → Nat} {len i : Nat} (h : i < len) : bt b len i = b i := if_pos h
theorem pBl_o {b : Nat → Nat} {len : Nat} : ∀ j, len ≤ j → pBl b len j = false := fun j h => by unfold pBl; rw [bt_o h]; rfl
theorem pLe_o {b : Nat → Nat} {len : Nat} : ∀ j, len ≤ j → pLe b len j = false := fun j h => by unfold pLe; rw [bt_o h]; rfl
theorem pDi_o {b : Nat → Nat} {len : Nat} : ∀ j, len ≤ j → pDi b len j = false := fun j h => by unfold pDi; rw [bt_o h]; rfl
/-- the value of letters, of digits -/
def wvv (b : Nat → Nat) (i : Nat) : Nat → Nat
  | 0 => 0
  | k + 1 => wvv b i k * 256 + b (i + k)
def nvv (b : Nat → Nat) (i : Nat) : Nat → Nat
  | 0 => 0
  | k + 1 => nvv b i k * 10 + b (i + k) - 48
def KWs : List Nat := [119183033855091, 7497068, 6840691, 26995, 1801807216, 431416239732, 1685217655, 28530, 1818588019, 6385252, 1952998766, 1650549611, 1935764837, 6384748, 7237492, 7499639, 109330212154734, 1835101817]
def KW (j : Nat) : Nat := KWs.getD j 0
def kwf (w : Nat) : Nat → Nat
  | 0 => 4
  | j + 1 => if KW j = w then 100 + j else kwf w j
def pl (b : Nat → Nat) (len i : Nat) : Nat := rn (pBl b len) 1600 i
def nx (b : Nat → Nat) (len i : Nat) : Nat := if len ≤ pl b len i then pl b len i else if isLe (bt b len (pl b len i)) then rn (pLe b len) 1600 (pl b len i) else if isDi (bt b len (pl b len i)) then rn (pDi b len) 1600 (pl b len i) else pl b len i + 1
def wv (b : Nat → Nat) (len i : Nat) : Nat := wvv b (pl b len i) (nx b len i - pl b len i)
def nv (b : Nat → Nat) (len i : Nat) : Nat := nvv b (pl b len i) (nx b len i - pl b len i)
/-- a token's kind, by the class's numbers -/
def kd (b : Nat → Nat) (len i : Nat) : Nat := if len ≤ pl b len i then 2 else if isLe (bt b len (pl b len i)) then (if 8 < nx b len i - pl b len i then 1 else kwf (wv b len i) 18) else if isDi (bt b len (pl b len i)) then (if 4 < nx b len i - pl b len i ∨ isLe (bt b len (nx b len i)) = true then 1 else 3) else if isSi (bt b len (pl b len i)) then bt b len (pl b len i) else 1
theorem pl_le {b : Nat → Nat} {len i : Nat} (h : i ≤ len) : pl b len i ≤ len := rn_le pBl_o 1600 i h
theorem pl_ge {b : Nat → Nat} {len i : Nat} : i ≤ pl b len i := rn_ge 1600 i
theorem nx_ge {b : Nat → Nat} {len i : Nat} : pl b len i ≤ nx b len i := by
  unfold nx
  split
  · exact Nat.le_refl _
  split
  · exact rn_ge _ _
  split
  · exact rn_ge _ _
  · omega
theorem nx_le {b : Nat → Nat} {len i : Nat} (h : i ≤ len) : nx b len i ≤ len := by
  have := pl_le (b := b) h
  unfold nx
  split
  · exact this
  split
  · exact rn_le pLe_o _ _ this
  split
  · exact rn_le pDi_o _ _ this
  · omega
/-- a step goes on, but at the end -/
theorem rn_s {p : Nat → Bool} {k i : Nat} (h : p i = true) : i < rn p (k + 1) i := by
  rw [rn, if_pos h]; exact rn_ge k (i + 1)
theorem nx_gt {b : Nat → Nat} {len i : Nat} (h : pl b len i < len) : pl b len i < nx b len i := by
  unfold nx
  rw [if_neg (by omega)]
  split
  · rename_i z; exact rn_s z
  split
  · rename_i z; exact rn_s z
  · omega
theorem kwf_r {w : Nat} : ∀ j, kwf w j = 4 ∨ (100 ≤ kwf w j ∧ kwf w j < 100 + j)
  | 0 => Or.inl rfl
  | j + 1 => by
    rw [kwf]
    split
    · right; omega
    · rcases kwf_r (w := w) j with h | h
      · exact Or.inl h
      · right; omega
theorem isSi_r {c : Nat} (h : isSi c = true) : 37 ≤ c ∧ c ≤ 62 := by
  unfold isSi tx1 at h
  simp at h
  omega
theorem kd_lt {b : Nat → Nat} {len i : Nat} : kd b len i < 200 := by
  unfold kd
  repeat' split
  · omega
  · omega
  · rcases kwf_r (w := wv b len i) 18 with h | h <;> omega
  · omega
  · omega
  · rename_i z; have := isSi_r z; omega
  · omega
/-- the scanner's cells -/
def SCS (h : MH) (c tp s1 v1 : Nat) : Prop := hC h c = 8 ∧ hR h c 4 = some (c + 1) ∧ hC h (c + 1) = 22 ∧ hN h (c + 1) = 18 ∧ hR h c 5 = some tp ∧ hC h tp = 21 ∧ hN h tp = 1600 ∧ hR h 0 1001 = some s1 ∧ hC h s1 = 30 ∧ hR h s1 0 = some v1 ∧ hR h v1 77 = some 1 ∧ 30 ≤ hC h v1 ∧ hN h v1 = 11 ∧ tp ≠ c ∧ s1 ≠ c ∧ v1 ≠ c
def SCF (f : Nat → Nat → Int32) (g : Nat → Nat → Int64) (c tp s1 v1 : Nat) (b : Nat → Nat) (len : Nat) : Prop := f c 6 = nI len ∧ len ≤ 1600 ∧ (∀ i, b i < 256) ∧ (∀ i, i < len → f tp i = sb (b i)) ∧ f s1 1 = nI 0 ∧ (∀ j, j < 11 → f v1 (100 + j) = nI (tx1.getD j 0)) ∧ ∀ j, j < 18 → g (c + 1) j = lN (KW j)
/-- the token at hand -/
def TKF (f : Nat → Nat → Int32) (g : Nat → Nat → Int64) (c : Nat) (b : Nat → Nat) (len i : Nat) : Prop := f c 0 = nI (kd b len i) ∧ f c 1 = nI (pl b len i) ∧ f c 7 = nI (nx b len i) ∧ (kd b len i = 3 → f c 2 = nI (nv b len i)) ∧ (kd b len i = 4 → g c 3 = lN (wv b len i))
/-- only the scanner's own cell changes, but not what it reads -/
def FS1 (c : Nat) (f f' : Nat → Nat → Int32) : Prop := (∀ a, a ≠ c → f' a = f a) ∧ f' c 6 = f c 6 ∧ f' c 8 = f c 8
def FS2 (c : Nat) (g g' : Nat → Nat → Int64) : Prop := ∀ a, a ≠ c → g' a = g a
theorem FS1.rf {c : Nat} {f : Nat → Nat → Int32} : FS1 c f f := ⟨fun _ _ => rfl, rfl, rfl⟩
theorem FS1.tr {c : Nat} {f g k : Nat → Nat → Int32} (a : FS1 c f g) (b : FS1 c g k) : FS1 c f k := ⟨fun x hx => (b.1 x hx).trans (a.1 x hx), b.2.1.trans a.2.1, b.2.2.trans a.2.2⟩
theorem FS1.u {c k : Nat} {f : Nat → Nat → Int32} {v : Int32} (h6 : k ≠ 6) (h8 : k ≠ 8) : FS1 c f (up2 f c k v) := ⟨fun x hx => up2_a hx, up2_k (by omega), up2_k (by omega)⟩
theorem FS1.F {c tp s1 v1 len : Nat} {f f' : Nat → Nat → Int32} {g : Nat → Nat → Int64} {b : Nat → Nat} {h : MH} (a : FS1 c f f') (S : SCS h c tp s1 v1) (F : SCF f g c tp s1 v1 b len) : SCF f' g c tp s1 v1 b len := by
  obtain ⟨t1, t2, t3, t4, t5, t6, t7⟩ := F
  obtain ⟨-, -, -, -, -, -, -, -, -, -, -, -, -, d1, d2, d3⟩ := S
  exact ⟨a.2.1.trans t1, t2, t3, fun i hi => by rw [a.1 tp d1]; exact t4 i hi, by rw [a.1 s1 d2]; exact t5, fun j hj => by rw [a.1 v1 d3]; exact t6 j hj, t7⟩
/-! loops of the scanner -/
theorem sc_skip {h : MH} {c tp s1 v1 len : Nat} {g : Nat → Nat → Int64} {b : Nat → Nat} {Q : Option Value → MH → Prop} (S : SCS h c tp s1 v1) : ∀ k i f, len ≤ i + k → i ≤ len → SCF f g c tp s1 v1 b len → f c 7 = nI i →
    (∀ f', f' c 7 = nI (rn (pBl b len) k i) → FS1 c f f' → wp (ev M_Scanner_step 0 25 [some (.ref c)] [] (wI (wL h g) f')) Q) → wp (ev M_Scanner_step 0 5 [some (.ref c)] [] (wI (wL h g) f)) Q := by
  obtain ⟨c1, c2, c3, c4, c5, c6, c7, c8, c9, c10, c11, c12, c13, c14, c15, c16⟩ := id S
  intro k
  induction k with
  | zero =>
    intro i f h1 h2 F f7 K
    obtain ⟨t1, t2, t3, t4, t5, t6, t7⟩ := id F
    rw [r_Scanner_step_5]
    repeat (first | refine wp_isC (by assumption) ?_ | refine wp_nnR (by assumption) ?_ | refine wp_inA (by assumption) rfl (by omega) (by omega) ?_ | refine wp_isZ (by first | decide | exact b01z _) ?_ | refine wp_bt (by (first | (simp (disch := omega) only [wI_I, wI_s, nI_add, pk_mul, nI_ltI, nI_leI, nI_eq, nI_clamp, nm_or, nm_and, nm_xor, nm_nd, nm_one, nm_shr, nm_b2, Bool.false_eq_true, Bool.true_eq_false, not_false_eq_true, not_true_eq_false, reduceCtorEq, f7, t1]; done) | (simp (disch := omega) only [wI_I, wI_s, nI_add, pk_mul, nI_ltI, nI_leI, nI_eq, nI_clamp, nm_or, nm_and, nm_xor, nm_nd, nm_one, nm_shr, nm_b2, Bool.false_eq_true, Bool.true_eq_false, not_false_eq_true, not_true_eq_false, reduceCtorEq, f7, t1]; omega) | omega)) ?_ | refine wp_bf (by (first | (simp (disch := omega) only [wI_I, wI_s, nI_add, pk_mul, nI_ltI, nI_leI, nI_eq, nI_clamp, nm_or, nm_and, nm_xor, nm_nd, nm_one, nm_shr, nm_b2, Bool.false_eq_true, Bool.true_eq_false, not_false_eq_true, not_true_eq_false, reduceCtorEq, f7, t1]; done) | (simp (disch := omega) only [wI_I, wI_s, nI_add, pk_mul, nI_ltI, nI_leI, nI_eq, nI_clamp, nm_or, nm_and, nm_xor, nm_nd, nm_one, nm_shr, nm_b2, Bool.false_eq_true, Bool.true_eq_false, not_false_eq_true, not_true_eq_false, reduceCtorEq, f7, t1]; omega) | omega)) ?_ | refine wp_nz (by first | decide | exact nz_n (by omega) (by omega)) ?_ | (simp (disch := omega) only [wI_I, wI_s, nI_add, pk_mul, nI_ltI, nI_leI, nI_eq, nI_clamp, nm_or, nm_and, nm_xor, nm_nd, nm_one, nm_shr, nm_b2, Bool.false_eq_true, Bool.true_eq_false, not_false_eq_true, not_true_eq_false, reduceCtorEq, up2_a, up2_k, up2_s, gw_o, f7, t1]))
    exact K f f7 FS1.rf
  | succ k ih =>
    intro i f h1 h2 F f7 K
    obtain ⟨t1, t2, t3, t4, t5, t6, t7⟩ := id F
    rw [r_Scanner_step_5]
    by_cases q : i < len
    · have e : pBl b len i = isBl (b i) := by unfold pBl; rw [bt_i q]
      repeat (first | refine wp_isC (by assumption) ?_ | refine wp_nnR (by assumption) ?_ | refine wp_inA (by assumption) rfl (by omega) (by omega) ?_ | refine wp_isZ (by first | decide | exact b01z _) ?_ | refine wp_bt (by (first | (simp (disch := omega) only [wI_I, wI_s, nI_add, pk_mul, nI_ltI, nI_leI, nI_eq, nI_clamp, nm_or, nm_and, nm_xor, nm_nd, nm_one, nm_shr, nm_b2, Bool.false_eq_true, Bool.true_eq_false, not_false_eq_true, not_true_eq_false, reduceCtorEq, f7, t1]; done) | (simp (disch := omega) only [wI_I, wI_s, nI_add, pk_mul, nI_ltI, nI_leI, nI_eq, nI_clamp, nm_or, nm_and, nm_xor, nm_nd, nm_one, nm_shr, nm_b2, Bool.false_eq_true, Bool.true_eq_false, not_false_eq_true, not_true_eq_false, reduceCtorEq, f7, t1]; omega) | omega)) ?_ | refine wp_bf (by (first | (simp (disch := omega) only [wI_I, wI_s, nI_add, pk_mul, nI_ltI, nI_leI, nI_eq, nI_clamp, nm_or, nm_and, nm_xor, nm_nd, nm_one, nm_shr, nm_b2, Bool.false_eq_true, Bool.true_eq_false, not_false_eq_true, not_true_eq_false, reduceCtorEq, f7, t1]; done) | (simp (disch := omega) only [wI_I, wI_s, nI_add, pk_mul, nI_ltI, nI_leI, nI_eq, nI_clamp, nm_or, nm_and, nm_xor, nm_nd, nm_one, nm_shr, nm_b2, Bool.false_eq_true, Bool.true_eq_false, not_false_eq_true, not_true_eq_false, reduceCtorEq, f7, t1]; omega) | omega)) ?_ | refine wp_nz (by first | decide | exact nz_n (by omega) (by omega)) ?_ | (simp (disch := omega) only [wI_I, wI_s, nI_add, pk_mul, nI_ltI, nI_leI, nI_eq, nI_clamp, nm_or, nm_and, nm_xor, nm_nd, nm_one, nm_shr, nm_b2, Bool.false_eq_true, Bool.true_eq_false, not_false_eq_true, not_true_eq_false, reduceCtorEq, up2_a, up2_k, up2_s, gw_o, f7, t1]))
      rw [t4 i q]
      refine wp_rIe (sc_blank (t3 i)) ?_
      cases z : isBl (b i) with
      | false =>
        refine wp_bt rfl (K f ?_ FS1.rf)
        rw [f7, rn, if_neg (by rw [e, z]; decide)]
      | true =>
        refine wp_bf (by decide) ?_
        repeat (first | refine wp_isC (by assumption) ?_ | refine wp_nnR (by assumption) ?_ | refine wp_inA (by assumption) rfl (by omega) (by omega) ?_ | refine wp_isZ (by first | decide | exact b01z _) ?_ | refine wp_bt (by (first | (simp (disch := omega) only [wI_I, wI_s, nI_add, pk_mul, nI_ltI, nI_leI, nI_eq, nI_clamp, nm_or, nm_and, nm_xor, nm_nd, nm_one, nm_shr, nm_b2, Bool.false_eq_true, Bool.true_eq_false, not_false_eq_true, not_true_eq_false, reduceCtorEq, f7]; done) | (simp (disch := omega) only [wI_I, wI_s, nI_add, pk_mul, nI_ltI, nI_leI, nI_eq, nI_clamp, nm_or, nm_and, nm_xor, nm_nd, nm_one, nm_shr, nm_b2, Bool.false_eq_true, Bool.true_eq_false, not_false_eq_true, not_true_eq_false, reduceCtorEq, f7]; omega) | omega)) ?_ | refine wp_bf (by (first | (simp (disch := omega) only [wI_I, wI_s, nI_add, pk_mul, nI_ltI, nI_leI, nI_eq, nI_clamp, nm_or, nm_and, nm_xor, nm_nd, nm_one, nm_shr, nm_b2, Bool.false_eq_true, Bool.true_eq_false, not_false_eq_true, not_true_eq_false, reduceCtorEq, f7]; done) | (simp (disch := omega) only [wI_I, wI_s, nI_add, pk_mul, nI_ltI, nI_leI, nI_eq, nI_clamp, nm_or, nm_and, nm_xor, nm_nd, nm_one, nm_shr, nm_b2, Bool.false_eq_true, Bool.true_eq_false, not_false_eq_true, not_true_eq_false, reduceCtorEq, f7]; omega) | omega)) ?_ | refine wp_nz (by first | decide | exact nz_n (by omega) (by omega)) ?_ | (simp (disch := omega) only [wI_I, wI_s, nI_add, pk_mul, nI_ltI, nI_leI, nI_eq, nI_clamp, nm_or, nm_and, nm_xor, nm_nd, nm_one, nm_shr, nm_b2, Bool.false_eq_true, Bool.true_eq_false, not_false_eq_true, not_true_eq_false, reduceCtorEq, up2_a, up2_k, up2_s, gw_o, f7]))
        refine ih (i + 1) _ (by omega) (by omega) ((FS1.u (by decide) (by decide)).F S F) up2_s (fun f' g1 g2 => K f' ?_ ((FS1.u (by decide) (by decide)).tr g2))
        rw [g1, rn, if_pos (by rw [e, z])]
    · have e : pBl b len i = false := pBl_o i (by omega)
      repeat (first | refine wp_isC (by assumption) ?_ | refine wp_nnR (by assumption) ?_ | refine wp_inA (by assumption) rfl (by omega) (by omega) ?_ | refine wp_isZ (by first | decide | exact b01z _) ?_ | refine wp_bt (by (first | (simp (disch := omega) only [wI_I, wI_s, nI_add, pk_mul, nI_ltI, nI_leI, nI_eq, nI_clamp, nm_or, nm_and, nm_xor, nm_nd, nm_one, nm_shr, nm_b2, Bool.false_eq_true, Bool.true_eq_false, not_false_eq_true, not_true_eq_false, reduceCtorEq, f7, t1]; done) | (simp (disch := omega) only [wI_I, wI_s, nI_add, pk_mul, nI_ltI, nI_leI, nI_eq, nI_clamp, nm_or, nm_and, nm_xor, nm_nd, nm_one, nm_shr, nm_b2, Bool.false_eq_true, Bool.true_eq_false, not_false_eq_true, not_true_eq_false, reduceCtorEq, f7, t1]; omega) | omega)) ?_ | refine wp_bf (by (first | (simp (disch := omega) only [wI_I, wI_s, nI_add, pk_mul, nI_ltI, nI_leI, nI_eq, nI_clamp, nm_or, nm_and, nm_xor, nm_nd, nm_one, nm_shr, nm_b2, Bool.false_eq_true, Bool.true_eq_false, not_false_eq_true, not_true_eq_false, reduceCtorEq, f7, t1]; done) | (simp (disch := omega) only [wI_I, wI_s, nI_add, pk_mul, nI_ltI, nI_leI, nI_eq, nI_clamp, nm_or, nm_and, nm_xor, nm_nd, nm_one, nm_shr, nm_b2, Bool.false_eq_true, Bool.true_eq_false, not_false_eq_true, not_true_eq_false, reduceCtorEq, f7, t1]; omega) | omega)) ?_ | refine wp_nz (by first | decide | exact nz_n (by omega) (by omega)) ?_ | (simp (disch := omega) only [wI_I, wI_s, nI_add, pk_mul, nI_ltI, nI_leI, nI_eq, nI_clamp, nm_or, nm_and, nm_xor, nm_nd, nm_one, nm_shr, nm_b2, Bool.false_eq_true, Bool.true_eq_false, not_false_eq_true, not_true_eq_false, reduceCtorEq, up2_a, up2_k, up2_s, gw_o, f7, t1]))
      refine K f ?_ FS1.rf
      rw [f7, rn, if_neg (by rw [e]; decide)]
theorem lw_bv (w c : Nat) (hw : w < 2 ^ 56) (hc : c < 256) : (lN w <<< (Int32.toInt64 (nI 8) &&& 63)) ||| lN c = lN (w * 256 + c) := by
  have e1 : (Int32.toInt64 (nI 8) &&& 63) = lN 8 := by decide
  rw [e1]
  apply Int64.toBitVec_inj.mp
  rw [Int64.toBitVec_or, Int64.toBitVec_shiftLeft]
  have e2 : ((lN 8).toBitVec.smod 64) = 8#64 := by decide
  rw [e2]
  show BitVec.ofNat 64 w <<< 8#64 ||| BitVec.ofNat 64 c = BitVec.ofNat 64 (w * 256 + c)
  apply BitVec.eq_of_toNat_eq
  rw [BitVec.toNat_or]
  have e3 : (BitVec.ofNat 64 w <<< 8#64).toNat = w * 256 := by
    show (BitVec.ofNat 64 w <<< (8 : Nat)).toNat = _
    rw [BitVec.toNat_shiftLeft, BitVec.toNat_ofNat, Nat.mod_eq_of_lt (show w < 2 ^ 64 by omega), Nat.shiftLeft_eq, Nat.mod_eq_of_lt (by omega)]
  rw [e3, BitVec.toNat_ofNat, BitVec.toNat_ofNat, Nat.mod_eq_of_lt (show c < 2 ^ 64 by omega), Nat.mod_eq_of_lt (show w * 256 + c < 2 ^ 64 by omega)]
  have := Nat.shiftLeft_add_eq_or_of_lt (show c < 2 ^ 8 by omega) w
  rw [Nat.shiftLeft_eq] at this
  exact this.symm
theorem wvv_lt {b : Nat → Nat} {i : Nat} : ∀ k, (∀ j, j < k → b (i + j) < 128) → wvv b i k < 256 ^ k
  | 0, _ => by show 0 < 1; decide
  | k + 1, h => by
    have := wvv_lt (b := b) (i := i) k (fun j hj => h j (by omega))
    have := h k (by omega)
    rw [wvv, Nat.pow_succ]
    omega
theorem wvv_lt2 {b : Nat → Nat} {i : Nat} : ∀ k, (∀ j, j < k + 1 → b (i + j) < 128) → wvv b i (k + 1) < 128 * 256 ^ k
  | 0, h => by
    have := h 0 (by decide)
    show 0 * 256 + b (i + 0) < 128 * 1
    omega
  | k + 1, h => by
    have h1 := wvv_lt2 (b := b) (i := i) k (fun j hj => h j (by omega))
    have h2 := h (k + 1) (by omega)
    rw [wvv, Nat.pow_succ]
    omega
theorem le_lt {c : Nat} (h : isLe c = true) : 97 ≤ c ∧ c ≤ 122 := by
  unfold isLe at h; simp at h; exact h
theorem di_lt {c : Nat} (h : isDi c = true) : 48 ≤ c ∧ c ≤ 57 := by
  unfold isDi at h; simp at h; exact h
/-- letters read -/
theorem sc_word {h : MH} {c tp s1 v1 len i0 : Nat} {g : Nat → Nat → Int64} {b : Nat → Nat} {Q : Option Value → MH → Prop} (S : SCS h c tp s1 v1) : ∀ k i f x, len ≤ i + k → i ≤ len → i0 ≤ i → SCF f g c tp s1 v1 b len → f c 7 = nI i → (∀ j, i0 ≤ j → j < i → isLe (b j) = true) → (i - i0 ≤ 8 → x = lN (wvv b i0 (i - i0))) →
    (∀ f' x', f' c 7 = nI (rn (pLe b len) k i) → f' c 1 = f c 1 → FS1 c f f' → (rn (pLe b len) k i - i0 ≤ 8 → x' = lN (wvv b i0 (rn (pLe b len) k i - i0))) → wp (ev M_Scanner_readWord 0 34 [some (.ref c), some (.long x'), none, none] [] (wI (wL h g) f')) Q) → wp (ev M_Scanner_readWord 0 3 [some (.ref c), some (.long x), none, none] [] (wI (wL h g) f)) Q := by
  obtain ⟨c1, c2, c3, c4, c5, c6, c7, c8, c9, c10, c11, c12, c13, c14, c15, c16⟩ := id S
  intro k
  induction k with
  | zero =>
    intro i f x h1 h2 h3 F f7 hb hx K
    obtain ⟨t1, t2, t3, t4, t5, t6, t7⟩ := id F
    rw [r_Scanner_readWord_3]
    repeat (first | refine wp_isC (by assumption) ?_ | refine wp_nnR (by assumption) ?_ | refine wp_inA (by assumption) rfl (by omega) (by omega) ?_ | refine wp_isZ (by first | decide | exact b01z _) ?_ | refine wp_bt (by (first | (simp (disch := omega) only [wI_I, wI_s, nI_add, pk_mul, nI_ltI, nI_leI, nI_eq, nI_clamp, nm_or, nm_and, nm_xor, nm_nd, nm_one, nm_shr, nm_b2, Bool.false_eq_true, Bool.true_eq_false, not_false_eq_true, not_true_eq_false, reduceCtorEq, f7, t1]; done) | (simp (disch := omega) only [wI_I, wI_s, nI_add, pk_mul, nI_ltI, nI_leI, nI_eq, nI_clamp, nm_or, nm_and, nm_xor, nm_nd, nm_one, nm_shr, nm_b2, Bool.false_eq_true, Bool.true_eq_false, not_false_eq_true, not_true_eq_false, reduceCtorEq, f7, t1]; omega) | omega)) ?_ | refine wp_bf (by (first | (simp (disch := omega) only [wI_I, wI_s, nI_add, pk_mul, nI_ltI, nI_leI, nI_eq, nI_clamp, nm_or, nm_and, nm_xor, nm_nd, nm_one, nm_shr, nm_b2, Bool.false_eq_true, Bool.true_eq_false, not_false_eq_true, not_true_eq_false, reduceCtorEq, f7, t1]; done) | (simp (disch := omega) only [wI_I, wI_s, nI_add, pk_mul, nI_ltI, nI_leI, nI_eq, nI_clamp, nm_or, nm_and, nm_xor, nm_nd, nm_one, nm_shr, nm_b2, Bool.false_eq_true, Bool.true_eq_false, not_false_eq_true, not_true_eq_false, reduceCtorEq, f7, t1]; omega) | omega)) ?_ | refine wp_nz (by first | decide | exact nz_n (by omega) (by omega)) ?_ | (simp (disch := omega) only [wI_I, wI_s, nI_add, pk_mul, nI_ltI, nI_leI, nI_eq, nI_clamp, nm_or, nm_and, nm_xor, nm_nd, nm_one, nm_shr, nm_b2, Bool.false_eq_true, Bool.true_eq_false, not_false_eq_true, not_true_eq_false, reduceCtorEq, up2_a, up2_k, up2_s, gw_o, f7, t1]))
    exact K f x f7 rfl FS1.rf hx
  | succ k ih =>
    intro i f x h1 h2 h3 F f7 hb hx K
    obtain ⟨t1, t2, t3, t4, t5, t6, t7⟩ := id F
    rw [r_Scanner_readWord_3]
    by_cases q : i < len
    · have e : pLe b len i = isLe (b i) := by unfold pLe; rw [bt_i q]
      repeat (first | refine wp_isC (by assumption) ?_ | refine wp_nnR (by assumption) ?_ | refine wp_inA (by assumption) rfl (by omega) (by omega) ?_ | refine wp_isZ (by first | decide | exact b01z _) ?_ | refine wp_bt (by (first | (simp (disch := omega) only [wI_I, wI_s, nI_add, pk_mul, nI_ltI, nI_leI, nI_eq, nI_clamp, nm_or, nm_and, nm_xor, nm_nd, nm_one, nm_shr, nm_b2, Bool.false_eq_true, Bool.true_eq_false, not_false_eq_true, not_true_eq_false, reduceCtorEq, f7, t1]; done) | (simp (disch := omega) only [wI_I, wI_s, nI_add, pk_mul, nI_ltI, nI_leI, nI_eq, nI_clamp, nm_or, nm_and, nm_xor, nm_nd, nm_one, nm_shr, nm_b2, Bool.false_eq_true, Bool.true_eq_false, not_false_eq_true, not_true_eq_false, reduceCtorEq, f7, t1]; omega) | omega)) ?_ | refine wp_bf (by (first | (simp (disch := omega) only [wI_I, wI_s, nI_add, pk_mul, nI_ltI, nI_leI, nI_eq, nI_clamp, nm_or, nm_and, nm_xor, nm_nd, nm_one, nm_shr, nm_b2, Bool.false_eq_true, Bool.true_eq_false, not_false_eq_true, not_true_eq_false, reduceCtorEq, f7, t1]; done) | (simp (disch := omega) only [wI_I, wI_s, nI_add, pk_mul, nI_ltI, nI_leI, nI_eq, nI_clamp, nm_or, nm_and, nm_xor, nm_nd, nm_one, nm_shr, nm_b2, Bool.false_eq_true, Bool.true_eq_false, not_false_eq_true, not_true_eq_false, reduceCtorEq, f7, t1]; omega) | omega)) ?_ | refine wp_nz (by first | decide | exact nz_n (by omega) (by omega)) ?_ | (simp (disch := omega) only [wI_I, wI_s, nI_add, pk_mul, nI_ltI, nI_leI, nI_eq, nI_clamp, nm_or, nm_and, nm_xor, nm_nd, nm_one, nm_shr, nm_b2, Bool.false_eq_true, Bool.true_eq_false, not_false_eq_true, not_true_eq_false, reduceCtorEq, up2_a, up2_k, up2_s, gw_o, f7, t1]))
      rw [t4 i q]
      refine wp_rIe (sc_letter (t3 i)) ?_
      cases z : isLe (b i) with
      | false =>
        have er : rn (pLe b len) (k + 1) i = i := by rw [rn, if_neg (by rw [e, z]; decide)]
        rw [er] at K
        exact wp_bt rfl (K f x f7 rfl FS1.rf hx)
      | true =>
        have hl := le_lt z
        have hsb : sb (b i) = nI (b i) := sb_lt ⟨b i, by omega⟩
        have er : rn (pLe b len) (k + 1) i = rn (pLe b len) k (i + 1) := by rw [rn, if_pos (by rw [e, z])]
        rw [er] at K
        refine wp_bf (by decide) ?_
        repeat (first | refine wp_isC (by assumption) ?_ | refine wp_nnR (by assumption) ?_ | refine wp_inA (by assumption) rfl (by omega) (by omega) ?_ | refine wp_isZ (by first | decide | exact b01z _) ?_ | refine wp_bt (by (first | (simp (disch := omega) only [wI_I, wI_s, nI_add, pk_mul, nI_ltI, nI_leI, nI_eq, nI_clamp, nm_or, nm_and, nm_xor, nm_nd, nm_one, nm_shr, nm_b2, Bool.false_eq_true, Bool.true_eq_false, not_false_eq_true, not_true_eq_false, reduceCtorEq, f7]; done) | (simp (disch := omega) only [wI_I, wI_s, nI_add, pk_mul, nI_ltI, nI_leI, nI_eq, nI_clamp, nm_or, nm_and, nm_xor, nm_nd, nm_one, nm_shr, nm_b2, Bool.false_eq_true, Bool.true_eq_false, not_false_eq_true, not_true_eq_false, reduceCtorEq, f7]; omega) | omega)) ?_ | refine wp_bf (by (first | (simp (disch := omega) only [wI_I, wI_s, nI_add, pk_mul, nI_ltI, nI_leI, nI_eq, nI_clamp, nm_or, nm_and, nm_xor, nm_nd, nm_one, nm_shr, nm_b2, Bool.false_eq_true, Bool.true_eq_false, not_false_eq_true, not_true_eq_false, reduceCtorEq, f7]; done) | (simp (disch := omega) only [wI_I, wI_s, nI_add, pk_mul, nI_ltI, nI_leI, nI_eq, nI_clamp, nm_or, nm_and, nm_xor, nm_nd, nm_one, nm_shr, nm_b2, Bool.false_eq_true, Bool.true_eq_false, not_false_eq_true, not_true_eq_false, reduceCtorEq, f7]; omega) | omega)) ?_ | refine wp_nz (by first | decide | exact nz_n (by omega) (by omega)) ?_ | (simp (disch := omega) only [wI_I, wI_s, nI_add, pk_mul, nI_ltI, nI_leI, nI_eq, nI_clamp, nm_or, nm_and, nm_xor, nm_nd, nm_one, nm_shr, nm_b2, Bool.false_eq_true, Bool.true_eq_false, not_false_eq_true, not_true_eq_false, reduceCtorEq, up2_a, up2_k, up2_s, gw_o, f7]))
        rw [t4 i q, hsb, nI_l (n := b i) (by omega)]
        refine ih (i + 1) _ _ (by omega) (by omega) (by omega) ((FS1.u (by decide) (by decide)).F S F) up2_s (fun j h4 h5 => ?_) (fun h8 => ?_) (fun f' x' g1 g2 g3 g4 => K f' x' g1 (g2.trans (up2_k (by decide))) ((FS1.u (by decide) (by decide)).tr g3) g4)
        · by_cases q2 : j = i
          · rw [q2]; exact z
          · exact hb j h4 (by omega)
        · rw [hx (by omega), show i + 1 - i0 = (i - i0) + 1 by omega, wvv, show i0 + (i - i0) = i by omega]
          refine lw_bv _ _ ?_ (show b i < 256 by omega)
          have h9 := wvv_lt (b := b) (i := i0) (i - i0) (fun j hj => by have := le_lt (hb (i0 + j) (by omega) (by omega)); omega)
          have h10 : 256 ^ (i - i0) ≤ 256 ^ 7 := Nat.pow_le_pow_right (by decide) (by omega)
          exact Nat.lt_of_lt_of_le h9 h10
    · have er : rn (pLe b len) (k + 1) i = i := by rw [rn, if_neg (by rw [pLe_o i (by omega)]; decide)]
      rw [er] at K
      repeat (first | refine wp_isC (by assumption) ?_ | refine wp_nnR (by assumption) ?_ | refine wp_inA (by assumption) rfl (by omega) (by omega) ?_ | refine wp_isZ (by first | decide | exact b01z _) ?_ | refine wp_bt (by (first | (simp (disch := omega) only [wI_I, wI_s, nI_add, pk_mul, nI_ltI, nI_leI, nI_eq, nI_clamp, nm_or, nm_and, nm_xor, nm_nd, nm_one, nm_shr, nm_b2, Bool.false_eq_true, Bool.true_eq_false, not_false_eq_true, not_true_eq_false, reduceCtorEq, f7, t1]; done) | (simp (disch := omega) only [wI_I, wI_s, nI_add, pk_mul, nI_ltI, nI_leI, nI_eq, nI_clamp, nm_or, nm_and, nm_xor, nm_nd, nm_one, nm_shr, nm_b2, Bool.false_eq_true, Bool.true_eq_false, not_false_eq_true, not_true_eq_false, reduceCtorEq, f7, t1]; omega) | omega)) ?_ | refine wp_bf (by (first | (simp (disch := omega) only [wI_I, wI_s, nI_add, pk_mul, nI_ltI, nI_leI, nI_eq, nI_clamp, nm_or, nm_and, nm_xor, nm_nd, nm_one, nm_shr, nm_b2, Bool.false_eq_true, Bool.true_eq_false, not_false_eq_true, not_true_eq_false, reduceCtorEq, f7, t1]; done) | (simp (disch := omega) only [wI_I, wI_s, nI_add, pk_mul, nI_ltI, nI_leI, nI_eq, nI_clamp, nm_or, nm_and, nm_xor, nm_nd, nm_one, nm_shr, nm_b2, Bool.false_eq_true, Bool.true_eq_false, not_false_eq_true, not_true_eq_false, reduceCtorEq, f7, t1]; omega) | omega)) ?_ | refine wp_nz (by first | decide | exact nz_n (by omega) (by omega)) ?_ | (simp (disch := omega) only [wI_I, wI_s, nI_add, pk_mul, nI_ltI, nI_leI, nI_eq, nI_clamp, nm_or, nm_and, nm_xor, nm_nd, nm_one, nm_shr, nm_b2, Bool.false_eq_true, Bool.true_eq_false, not_false_eq_true, not_true_eq_false, reduceCtorEq, up2_a, up2_k, up2_s, gw_o, f7, t1]))
      exact K f x f7 rfl FS1.rf hx
theorem lg_c (x y : Int64) : lg_cmp x y = nI 0 ↔ x = y := lg_cmp_eq x y
theorem KW_lt : ∀ j : Fin 18, KW j.val < 2 ^ 62 := by decide
/-- which word it is -/
theorem sc_kw {h : MH} {c tp s1 v1 len w : Nat} {x : Int64} {g : Nat → Nat → Int64} {b : Nat → Nat} {Q : Option Value → MH → Prop} (S : SCS h c tp s1 v1) (hw : w < 2 ^ 63) : ∀ k j f y, j + k = 18 → SCF f g c tp s1 v1 b len → (x = lN w → y = nI (kwf w j)) → f c 0 = y →
    (∀ f' y', (x = lN w → y' = nI (kwf w 18)) → f' c 0 = y' → f' c 1 = f c 1 → f' c 7 = f c 7 → FS1 c f f' → wp (ev M_Scanner_readWord 0 43 [some (.ref c), some (.long x), none, some (.int (nI 18))] [] (wI (wL h g) f')) Q) → wp (ev M_Scanner_readWord 0 43 [some (.ref c), some (.long x), none, some (.int (nI j))] [] (wI (wL h g) f)) Q := by
  obtain ⟨c1, c2, c3, c4, c5, c6, c7, c8, c9, c10, c11, c12, c13, c14, c15, c16⟩ := id S
  intro k
  induction k with
  | zero =>
    intro j f y h1 F hx f0 K
    rw [show j = 18 by omega] at hx ⊢
    exact K f y hx f0 rfl rfl FS1.rf
  | succ k ih =>
    intro j f y h1 F hx f0 K
    obtain ⟨t1, t2, t3, t4, t5, t6, t7⟩ := id F
    have tj := t7 j (by omega)
    have hk := KW_lt ⟨j, by omega⟩
    have hk : KW j < 2 ^ 62 := hk
    rw [r_Scanner_readWord_43]
    simp only [r_Scanner_readWord_59]
    refine wp_bt (by rw [nI_ltI (by omega) (by decide)]; omega) (wp_isC c1 (wp_nnR c2 (wp_isC c3 (wp_inA c4 rfl (by omega) (by omega) ?_))))
    rw [nI_clamp (by omega), show hL (wI (wL h g) f) (c + 1) j = g (c + 1) j from rfl, tj]
    by_cases q : lN (KW j) = x
    · refine wp_bt ((lg_c _ _).mpr q) (wp_isC c1 ?_)
      rw [nI_add, nI_add]
      refine ih (j + 1) _ _ (by omega) ((FS1.u (by decide) (by decide)).F S F) (fun e => ?_) up2_s (fun f' y' g1 g2 g3 g4 g5 => K f' y' g1 g2 (g3.trans (up2_k (by decide))) (g4.trans (up2_k (by decide))) ((FS1.u (by decide) (by decide)).tr g5))
      rw [kwf, if_pos ((pk_lEQ (by omega) hw).mp (q.trans e))]
    · refine wp_bf (fun e => q ((lg_c _ _).mp e)) ?_
      rw [nI_add]
      refine ih (j + 1) f y (by omega) F (fun e => ?_) f0 K
      rw [hx e, kwf, if_neg (fun z => q (by rw [e, z]))]
theorem sc_rword {h : MH} {c tp s1 v1 len i : Nat} {f : Nat → Nat → Int32} {g : Nat → Nat → Int64} {b : Nat → Nat} (S : SCS h c tp s1 v1) (F : SCF f g c tp s1 v1 b len) (hi : pl b len i < len) (f1 : f c 1 = nI (pl b len i)) (f7 : f c 7 = nI (pl b len i)) (hl : isLe (bt b len (pl b len i)) = true) :
    wp (ev M_Scanner_readWord 0 0 [some (.ref c), none, none, none] [] (wI (wL h g) f)) (fun r h' => ∃ f' g', r = none ∧ h' = wI (wL h g') f' ∧ TKF f' g' c b len i ∧ FS1 c f f' ∧ FS2 c g g') := by
  obtain ⟨c1, c2, c3, c4, c5, c6, c7, c8, c9, c10, c11, c12, c13, c14, c15, c16⟩ := id S
  obtain ⟨t1, t2, t3, t4, t5, t6, t7⟩ := id F
  have en : nx b len i = rn (pLe b len) 1600 (pl b len i) := by unfold nx; rw [if_neg (by omega), if_pos hl]
  have ek : kd b len i = if 8 < nx b len i - pl b len i then 1 else kwf (wv b len i) 18 := by unfold kd; rw [if_neg (by omega), if_pos hl]
  have hn1 := nx_ge (b := b) (len := len) (i := i)
  have hn2 : nx b len i ≤ len := by rw [en]; exact rn_le pLe_o _ _ (by omega)
  rw [r_Scanner_readWord_0]
  refine sc_word (i0 := pl b len i) S 1600 (pl b len i) f (lN 0) (by omega) (by omega) (Nat.le_refl _) F f7 (fun j h1 h2 => by omega) (fun _ => by rw [Nat.sub_self]; rfl) (fun f2 x g1 g2 g3 g4 => ?_)
  rw [← en] at g1 g4
  rw [r_Scanner_readWord_34]
  refine wp_isC c1 (wp_isC c1 ?_)
  have F2 := g3.F S F
  have hgt := nx_gt hi
  have F3 : SCF (up2 f2 c 0 (nI 4)) (up2 g c 3 x) c tp s1 v1 b len := by
    obtain ⟨u1, u2, u3, u4, u5, u6, u7⟩ := (FS1.u (v := nI 4) (k := 0) (by decide) (by decide)).F S F2
    exact ⟨u1, u2, u3, u4, u5, u6, fun j hj => by rw [up2_a (by omega)]; exact u7 j hj⟩
  have g1' : up2 f2 c 0 (nI 4) c 7 = nI (nx b len i) := by rw [up2_k (by decide)]; exact g1
  have g2' : up2 f2 c 0 (nI 4) c 1 = nI (pl b len i) := by rw [up2_k (by decide), g2]; exact f1
  have fr3 : FS1 c f (up2 f2 c 0 (nI 4)) := g3.tr (FS1.u (by decide) (by decide))
  by_cases h8 : 8 < nx b len i - pl b len i
  · refine sc_kw (w := 0) (x := x) (g := up2 g c 3 x) S (by decide) 18 0 (up2 f2 c 0 (nI 4)) (nI 4) (by decide) F3 (fun _ => rfl) up2_s (fun f' y' k1 k2 k3 k4 k5 => ?_)
    have q7 := k4.trans g1'
    have q1 := k3.trans g2'
    rw [r_Scanner_readWord_43]
    refine wp_bf (by decide) (wp_isC c1 (wp_isC c1 ?_))
    rw [wI_I, q7, q1, pk_sub (by omega)]
    refine wp_bt (by rw [nI_ltI (by decide) (by omega)]; omega) (wp_isC c1 ?_)
    have ek1 : kd b len i = 1 := by rw [ek, if_pos h8]
    refine wp_s ⟨up2 f' c 0 (nI 1), up2 g c 3 x, rfl, rfl, ⟨by rw [ek1, up2_s], by rw [up2_k (by decide)]; exact q1, by rw [up2_k (by decide)]; exact q7, fun z => (by rw [ek1] at z; cases z), fun z => (by rw [ek1] at z; cases z)⟩, (fr3.tr k5).tr (FS1.u (by decide) (by decide)), fun a ha => up2_a ha⟩
  · have wlt : wv b len i < 2 ^ 63 := by
      have h9 := wvv_lt2 (b := b) (i := pl b len i) (nx b len i - pl b len i - 1) (fun j hj => by
        have := rn_in (p := pLe b len) 1600 (pl b len i) (pl b len i + j) (by omega) (by rw [← en]; omega)
        unfold pLe at this
        rw [bt_i (by omega)] at this
        have := le_lt this; omega)
      rw [show nx b len i - pl b len i - 1 + 1 = nx b len i - pl b len i by omega] at h9
      have h10 : 256 ^ (nx b len i - pl b len i - 1) ≤ 256 ^ 7 := Nat.pow_le_pow_right (by decide) (by omega)
      unfold wv
      have h11 : (256 : Nat) ^ 7 = 72057594037927936 := by decide
      omega
    have ex := g4 (by omega)
    refine sc_kw (w := wv b len i) (x := x) (g := up2 g c 3 x) S wlt 18 0 (up2 f2 c 0 (nI 4)) (nI 4) (by decide) F3 (fun _ => rfl) up2_s (fun f' y' k1 k2 k3 k4 k5 => ?_)
    have q7 := k4.trans g1'
    have q1 := k3.trans g2'
    have ek1 : kd b len i = kwf (wv b len i) 18 := by rw [ek, if_neg h8]
    rw [r_Scanner_readWord_43]
    refine wp_bf (by decide) (wp_isC c1 (wp_isC c1 ?_))
    rw [wI_I, q7, q1, pk_sub (by omega)]
    refine wp_bf (by rw [nI_ltI (by decide) (by omega)]; omega) ?_
    refine wp_s ⟨f', up2 g c 3 x, rfl, rfl, ⟨by rw [ek1, k2]; exact k1 ex, q1, q7, fun z => ?_, fun z => ?_⟩, fr3.tr k5, fun a ha => up2_a ha⟩
    · rw [ek1] at z
      rcases kwf_r (w := wv b len i) 18 with w | w <;> omega
    · rw [up2_s]; exact ex
/-! numbers -/
theorem nvv_lt {b : Nat → Nat} {i : Nat} : ∀ k, (∀ j, j < k → isDi (b (i + j)) = true) → nvv b i k < 10 ^ k
  | 0, _ => by show 0 < 1; decide
  | k + 1, h => by
    have h1 := nvv_lt (b := b) (i := i) k (fun j hj => h j (by omega))
    have h2 := di_lt (h k (by omega))
    rw [nvv, Nat.pow_succ]
    omega
theorem sc_num {h : MH} {c tp s1 v1 len i0 : Nat} {g : Nat → Nat → Int64} {b : Nat → Nat} {Q : Option Value → MH → Prop} (S : SCS h c tp s1 v1) : ∀ k i f x, len ≤ i + k → i ≤ len → i0 ≤ i → SCF f g c tp s1 v1 b len → f c 7 = nI i → (i - i0 ≤ 4 → x = nI (nvv b i0 (i - i0))) →
    (∀ f' x', f' c 7 = nI (rn (pDi b len) k i) → f' c 1 = f c 1 → FS1 c f f' → (rn (pDi b len) k i - i0 ≤ 4 → x' = nI (nvv b i0 (rn (pDi b len) k i - i0))) → wp (ev M_Scanner_readNumber 0 35 [some (.ref c), some (.int x'), none, none] [] (wI (wL h g) f')) Q) → wp (ev M_Scanner_readNumber 0 3 [some (.ref c), some (.int x), none, none] [] (wI (wL h g) f)) Q := by
  obtain ⟨c1, c2, c3, c4, c5, c6, c7, c8, c9, c10, c11, c12, c13, c14, c15, c16⟩ := id S
  intro k
  induction k with
  | zero =>
    intro i f x h1 h2 h3 F f7 hx K
    obtain ⟨t1, t2, t3, t4, t5, t6, t7⟩ := id F
    rw [r_Scanner_readNumber_3]
    repeat (first | refine wp_isC (by assumption) ?_ | refine wp_nnR (by assumption) ?_ | refine wp_inA (by assumption) rfl (by omega) (by omega) ?_ | refine wp_isZ (by first | decide | exact b01z _) ?_ | refine wp_bt (by (first | (simp (disch := omega) only [wI_I, wI_s, nI_add, pk_mul, nI_ltI, nI_leI, nI_eq, nI_clamp, nm_or, nm_and, nm_xor, nm_nd, nm_one, nm_shr, nm_b2, Bool.false_eq_true, Bool.true_eq_false, not_false_eq_true, not_true_eq_false, reduceCtorEq, f7, t1]; done) | (simp (disch := omega) only [wI_I, wI_s, nI_add, pk_mul, nI_ltI, nI_leI, nI_eq, nI_clamp, nm_or, nm_and, nm_xor, nm_nd, nm_one, nm_shr, nm_b2, Bool.false_eq_true, Bool.true_eq_false, not_false_eq_true, not_true_eq_false, reduceCtorEq, f7, t1]; omega) | omega)) ?_ | refine wp_bf (by (first | (simp (disch := omega) only [wI_I, wI_s, nI_add, pk_mul, nI_ltI, nI_leI, nI_eq, nI_clamp, nm_or, nm_and, nm_xor, nm_nd, nm_one, nm_shr, nm_b2, Bool.false_eq_true, Bool.true_eq_false, not_false_eq_true, not_true_eq_false, reduceCtorEq, f7, t1]; done) | (simp (disch := omega) only [wI_I, wI_s, nI_add, pk_mul, nI_ltI, nI_leI, nI_eq, nI_clamp, nm_or, nm_and, nm_xor, nm_nd, nm_one, nm_shr, nm_b2, Bool.false_eq_true, Bool.true_eq_false, not_false_eq_true, not_true_eq_false, reduceCtorEq, f7, t1]; omega) | omega)) ?_ | refine wp_nz (by first | decide | exact nz_n (by omega) (by omega)) ?_ | (simp (disch := omega) only [wI_I, wI_s, nI_add, pk_mul, nI_ltI, nI_leI, nI_eq, nI_clamp, nm_or, nm_and, nm_xor, nm_nd, nm_one, nm_shr, nm_b2, Bool.false_eq_true, Bool.true_eq_false, not_false_eq_true, not_true_eq_false, reduceCtorEq, up2_a, up2_k, up2_s, gw_o, f7, t1]))
    exact K f x f7 rfl FS1.rf hx
  | succ k ih =>
    intro i f x h1 h2 h3 F f7 hx K
    obtain ⟨t1, t2, t3, t4, t5, t6, t7⟩ := id F
    rw [r_Scanner_readNumber_3]
    by_cases q : i < len
    · have e : pDi b len i = isDi (b i) := by unfold pDi; rw [bt_i q]
      repeat (first | refine wp_isC (by assumption) ?_ | refine wp_nnR (by assumption) ?_ | refine wp_inA (by assumption) rfl (by omega) (by omega) ?_ | refine wp_isZ (by first | decide | exact b01z _) ?_ | refine wp_bt (by (first | (simp (disch := omega) only [wI_I, wI_s, nI_add, pk_mul, nI_ltI, nI_leI, nI_eq, nI_clamp, nm_or, nm_and, nm_xor, nm_nd, nm_one, nm_shr, nm_b2, Bool.false_eq_true, Bool.true_eq_false, not_false_eq_true, not_true_eq_false, reduceCtorEq, f7, t1]; done) | (simp (disch := omega) only [wI_I, wI_s, nI_add, pk_mul, nI_ltI, nI_leI, nI_eq, nI_clamp, nm_or, nm_and, nm_xor, nm_nd, nm_one, nm_shr, nm_b2, Bool.false_eq_true, Bool.true_eq_false, not_false_eq_true, not_true_eq_false, reduceCtorEq, f7, t1]; omega) | omega)) ?_ | refine wp_bf (by (first | (simp (disch := omega) only [wI_I, wI_s, nI_add, pk_mul, nI_ltI, nI_leI, nI_eq, nI_clamp, nm_or, nm_and, nm_xor, nm_nd, nm_one, nm_shr, nm_b2, Bool.false_eq_true, Bool.true_eq_false, not_false_eq_true, not_true_eq_false, reduceCtorEq, f7, t1]; done) | (simp (disch := omega) only [wI_I, wI_s, nI_add, pk_mul, nI_ltI, nI_leI, nI_eq, nI_clamp, nm_or, nm_and, nm_xor, nm_nd, nm_one, nm_shr, nm_b2, Bool.false_eq_true, Bool.true_eq_false, not_false_eq_true, not_true_eq_false, reduceCtorEq, f7, t1]; omega) | omega)) ?_ | refine wp_nz (by first | decide | exact nz_n (by omega) (by omega)) ?_ | (simp (disch := omega) only [wI_I, wI_s, nI_add, pk_mul, nI_ltI, nI_leI, nI_eq, nI_clamp, nm_or, nm_and, nm_xor, nm_nd, nm_one, nm_shr, nm_b2, Bool.false_eq_true, Bool.true_eq_false, not_false_eq_true, not_true_eq_false, reduceCtorEq, up2_a, up2_k, up2_s, gw_o, f7, t1]))
      rw [t4 i q]
      refine wp_rIe (sc_digit (t3 i)) ?_
      cases z : isDi (b i) with
      | false =>
        have er : rn (pDi b len) (k + 1) i = i := by rw [rn, if_neg (by rw [e, z]; decide)]
        rw [er] at K
        exact wp_bt rfl (K f x f7 rfl FS1.rf hx)
      | true =>
        have hl := di_lt z
        have hsb : sb (b i) = nI (b i) := sb_lt ⟨b i, by omega⟩
        have er : rn (pDi b len) (k + 1) i = rn (pDi b len) k (i + 1) := by rw [rn, if_pos (by rw [e, z])]
        rw [er] at K
        refine wp_bf (by decide) ?_
        repeat (first | refine wp_isC (by assumption) ?_ | refine wp_nnR (by assumption) ?_ | refine wp_inA (by assumption) rfl (by omega) (by omega) ?_ | refine wp_isZ (by first | decide | exact b01z _) ?_ | refine wp_bt (by (first | (simp (disch := omega) only [wI_I, wI_s, nI_add, pk_mul, nI_ltI, nI_leI, nI_eq, nI_clamp, nm_or, nm_and, nm_xor, nm_nd, nm_one, nm_shr, nm_b2, Bool.false_eq_true, Bool.true_eq_false, not_false_eq_true, not_true_eq_false, reduceCtorEq, f7]; done) | (simp (disch := omega) only [wI_I, wI_s, nI_add, pk_mul, nI_ltI, nI_leI, nI_eq, nI_clamp, nm_or, nm_and, nm_xor, nm_nd, nm_one, nm_shr, nm_b2, Bool.false_eq_true, Bool.true_eq_false, not_false_eq_true, not_true_eq_false, reduceCtorEq, f7]; omega) | omega)) ?_ | refine wp_bf (by (first | (simp (disch := omega) only [wI_I, wI_s, nI_add, pk_mul, nI_ltI, nI_leI, nI_eq, nI_clamp, nm_or, nm_and, nm_xor, nm_nd, nm_one, nm_shr, nm_b2, Bool.false_eq_true, Bool.true_eq_false, not_false_eq_true, not_true_eq_false, reduceCtorEq, f7]; done) | (simp (disch := omega) only [wI_I, wI_s, nI_add, pk_mul, nI_ltI, nI_leI, nI_eq, nI_clamp, nm_or, nm_and, nm_xor, nm_nd, nm_one, nm_shr, nm_b2, Bool.false_eq_true, Bool.true_eq_false, not_false_eq_true, not_true_eq_false, reduceCtorEq, f7]; omega) | omega)) ?_ | refine wp_nz (by first | decide | exact nz_n (by omega) (by omega)) ?_ | (simp (disch := omega) only [wI_I, wI_s, nI_add, pk_mul, nI_ltI, nI_leI, nI_eq, nI_clamp, nm_or, nm_and, nm_xor, nm_nd, nm_one, nm_shr, nm_b2, Bool.false_eq_true, Bool.true_eq_false, not_false_eq_true, not_true_eq_false, reduceCtorEq, up2_a, up2_k, up2_s, gw_o, f7]))
        rw [t4 i q, hsb]
        refine ih (i + 1) _ _ (by omega) (by omega) (by omega) ((FS1.u (by decide) (by decide)).F S F) up2_s (fun h8 => ?_) (fun f' x' g1 g2 g3 g4 => K f' x' g1 (g2.trans (up2_k (by decide))) ((FS1.u (by decide) (by decide)).tr g3) g4)
        rw [hx (by omega), show i + 1 - i0 = (i - i0) + 1 by omega, nvv, show i0 + (i - i0) = i by omega, pk_mul, nI_add, pk_sub (by omega)]
    · have er : rn (pDi b len) (k + 1) i = i := by rw [rn, if_neg (by rw [pDi_o i (by omega)]; decide)]
      rw [er] at K
      repeat (first | refine wp_isC (by assumption) ?_ | refine wp_nnR (by assumption) ?_ | refine wp_inA (by assumption) rfl (by omega) (by omega) ?_ | refine wp_isZ (by first | decide | exact b01z _) ?_ | refine wp_bt (by (first | (simp (disch := omega) only [wI_I, wI_s, nI_add, pk_mul, nI_ltI, nI_leI, nI_eq, nI_clamp, nm_or, nm_and, nm_xor, nm_nd, nm_one, nm_shr, nm_b2, Bool.false_eq_true, Bool.true_eq_false, not_false_eq_true, not_true_eq_false, reduceCtorEq, f7, t1]; done) | (simp (disch := omega) only [wI_I, wI_s, nI_add, pk_mul, nI_ltI, nI_leI, nI_eq, nI_clamp, nm_or, nm_and, nm_xor, nm_nd, nm_one, nm_shr, nm_b2, Bool.false_eq_true, Bool.true_eq_false, not_false_eq_true, not_true_eq_false, reduceCtorEq, f7, t1]; omega) | omega)) ?_ | refine wp_bf (by (first | (simp (disch := omega) only [wI_I, wI_s, nI_add, pk_mul, nI_ltI, nI_leI, nI_eq, nI_clamp, nm_or, nm_and, nm_xor, nm_nd, nm_one, nm_shr, nm_b2, Bool.false_eq_true, Bool.true_eq_false, not_false_eq_true, not_true_eq_false, reduceCtorEq, f7, t1]; done) | (simp (disch := omega) only [wI_I, wI_s, nI_add, pk_mul, nI_ltI, nI_leI, nI_eq, nI_clamp, nm_or, nm_and, nm_xor, nm_nd, nm_one, nm_shr, nm_b2, Bool.false_eq_true, Bool.true_eq_false, not_false_eq_true, not_true_eq_false, reduceCtorEq, f7, t1]; omega) | omega)) ?_ | refine wp_nz (by first | decide | exact nz_n (by omega) (by omega)) ?_ | (simp (disch := omega) only [wI_I, wI_s, nI_add, pk_mul, nI_ltI, nI_leI, nI_eq, nI_clamp, nm_or, nm_and, nm_xor, nm_nd, nm_one, nm_shr, nm_b2, Bool.false_eq_true, Bool.true_eq_false, not_false_eq_true, not_true_eq_false, reduceCtorEq, up2_a, up2_k, up2_s, gw_o, f7, t1]))
      exact K f x f7 rfl FS1.rf hx
theorem sc_rnum {h : MH} {c tp s1 v1 len i : Nat} {f : Nat → Nat → Int32} {g : Nat → Nat → Int64} {b : Nat → Nat} (S : SCS h c tp s1 v1) (F : SCF f g c tp s1 v1 b len) (hi : pl b len i < len) (f1 : f c 1 = nI (pl b len i)) (f7 : f c 7 = nI (pl b len i)) (hl : isLe (bt b len (pl b len i)) = false) (hd : isDi (bt b len (pl b len i)) = true) :
    wp (ev M_Scanner_readNumber 0 0 [some (.ref c), none, none, none] [] (wI (wL h g) f)) (fun r h' => ∃ f' g', r = none ∧ h' = wI (wL h g') f' ∧ TKF f' g' c b len i ∧ FS1 c f f' ∧ FS2 c g g') := by
  obtain ⟨c1, c2, c3, c4, c5, c6, c7, c8, c9, c10, c11, c12, c13, c14, c15, c16⟩ := id S
  obtain ⟨t1, t2, t3, t4, t5, t6, t7⟩ := id F
  have hl' : ¬ isLe (bt b len (pl b len i)) = true := by rw [hl]; decide
  have en : nx b len i = rn (pDi b len) 1600 (pl b len i) := by unfold nx; rw [if_neg (by omega), if_neg hl', if_pos hd]
  have ek : kd b len i = if 4 < nx b len i - pl b len i ∨ isLe (bt b len (nx b len i)) = true then 1 else 3 := by unfold kd; rw [if_neg (by omega), if_neg hl', if_pos hd]
  have hn1 := nx_ge (b := b) (len := len) (i := i)
  have hn2 : nx b len i ≤ len := by rw [en]; exact rn_le pDi_o _ _ (by omega)
  rw [r_Scanner_readNumber_0]
  refine sc_num (i0 := pl b len i) S 1600 (pl b len i) f (nI 0) (by omega) (by omega) (Nat.le_refl _) F f7 (fun _ => by rw [Nat.sub_self]; rfl) (fun f2 x g1 g2 g3 g4 => ?_)
  rw [← en] at g1 g4
  have F2 := (g3.tr (FS1.u (v := x) (k := 2) (by decide) (by decide))).F S F
  obtain ⟨u1, u2, u3, u4, u5, u6, u7⟩ := id F2
  have q7 : up2 f2 c 2 x c 7 = nI (nx b len i) := by rw [up2_k (by decide)]; exact g1
  have q1 : up2 f2 c 2 x c 1 = nI (pl b len i) := by rw [up2_k (by decide), g2]; exact f1
  -- the end
  have fin : ∀ y, y = kd b len i → wp (ev M_Scanner_readNumber 0 78 [none, none, none, none] [(.int (nI y)), (.ref c)] (wI (wL h g) (up2 f2 c 2 x))) (fun r h' => ∃ f' g', r = none ∧ h' = wI (wL h g') f' ∧ TKF f' g' c b len i ∧ FS1 c f f' ∧ FS2 c g g') := by
    intro y hy
    rw [r_Scanner_readNumber_78]
    refine wp_isC c1 (wp_s ⟨up2 (up2 f2 c 2 x) c 0 (nI y), g, rfl, rfl, ⟨by rw [hy, up2_s], by rw [up2_k (by decide)]; exact q1, by rw [up2_k (by decide)]; exact q7, fun z => ?_, fun z => ?_⟩, (g3.tr (FS1.u (by decide) (by decide))).tr (FS1.u (by decide) (by decide)), fun _ _ => rfl⟩)
    · rw [up2_k (by decide), up2_s]
      rw [ek] at z
      split at z
      · cases z
      · exact g4 (by omega)
    · rw [ek] at z; split at z <;> cases z
  have r67 : ∀ p q : Bool, p = decide (4 < nx b len i - pl b len i) → q = isLe (bt b len (nx b len i)) → wp (ev M_Scanner_readNumber 0 67 [some (.ref c), none, some (.int (nI p.toNat)), none] [(.int (nI q.toNat))] (wI (wL h g) (up2 f2 c 2 x))) (fun r h' => ∃ f' g', r = none ∧ h' = wI (wL h g') f' ∧ TKF f' g' c b len i ∧ FS1 c f f' ∧ FS2 c g g') := by
    intro p q hp hq
    rw [r_Scanner_readNumber_67]
    simp only [r_Scanner_readNumber_74]
    cases p with
    | true => exact wp_bf (by decide) (fin 1 (by rw [ek, if_pos (Or.inl (of_decide_eq_true hp.symm))]))
    | false =>
      refine wp_bt rfl ?_
      have h4 := of_decide_eq_false hp.symm
      cases q with
      | true => exact wp_bf (by decide) (fin 1 (by rw [ek, if_pos (Or.inr hq.symm)]))
      | false => exact wp_bt rfl (fin 3 (by rw [ek, if_neg]; rintro (z | z); exact h4 z; rw [← hq] at z; cases z))
  have r49 : ∀ p : Bool, p = decide (4 < nx b len i - pl b len i) → wp (ev M_Scanner_readNumber 0 49 [some (.ref c), none, none, none] [(.int (nI p.toNat))] (wI (wL h g) (up2 f2 c 2 x))) (fun r h' => ∃ f' g', r = none ∧ h' = wI (wL h g') f' ∧ TKF f' g' c b len i ∧ FS1 c f f' ∧ FS2 c g g') := by
    intro p hp
    rw [r_Scanner_readNumber_49]
    simp only [r_Scanner_readNumber_65]
    refine wp_isC c1 (wp_isC c1 ?_)
    rw [wI_I, q7, u1]
    by_cases q : nx b len i < len
    · refine wp_bt (by rw [nI_ltI (by omega) (by omega)]; exact q) (wp_isC c1 (wp_nnR c5 (wp_isC c1 (wp_isC c6 (wp_inA c7 rfl (by omega) (by omega) ?_)))))
      rw [nI_clamp (by omega), u4 _ q]
      refine wp_rIe (sc_letter (t3 _)) ?_
      have eb : bt b len (nx b len i) = b (nx b len i) := bt_i q
      cases z : isLe (b (nx b len i)) with
      | false => exact wp_bt rfl (r67 p false hp (by rw [eb, z]))
      | true => exact wp_bf (by decide) (r67 p true hp (by rw [eb, z]))
    · exact wp_bf (by rw [nI_ltI (by omega) (by omega)]; exact q) (r67 p false hp (by rw [bt_o (by omega)]; rfl))
  rw [r_Scanner_readNumber_35]
  refine wp_isC c1 (wp_isC c1 (wp_isC c1 ?_))
  rw [wI_s, wI_I, q7, q1, pk_sub (by omega)]
  by_cases h4 : 4 < nx b len i - pl b len i
  · exact wp_bt (by rw [nI_ltI (by decide) (by omega)]; exact h4) (r49 true (decide_eq_true h4).symm)
  · exact wp_bf (by rw [nI_ltI (by decide) (by omega)]; exact h4) (r49 false (decide_eq_false h4).symm)
/-! signs -/
theorem sx_latin {h : MH} {s1 : Nat} (c9 : hC h s1 = 30) (e : hI h s1 1 = nI 0) : ev M_String_isLatin1 0 0 [some (.ref s1)] [] h = some (some (.int (nI 1)), h) := by
  rw [r_String_isLatin1_0]
  apply wp_e
  exact wp_bf (by decide) (wp_isC c9 (wp_bt e (wp_isZ (by decide) (wp_s ⟨rfl, rfl⟩))))
theorem wp_isB {h : MH} {a : Nat} {k : MRes} {Q : Option Value → MH → Prop} (e1 : 30 ≤ hC h a) (e2 : hR h a 77 = some 1) (H : wp k Q) : wp (isB h a k) Q := by
  unfold isB; rw [if_pos ⟨e1, e2⟩]; exact H
theorem sx_len {h : MH} {s1 v1 n : Nat} (c9 : hC h s1 = 30) (c10 : hR h s1 0 = some v1) (c11 : hR h v1 77 = some 1) (c12 : 30 ≤ hC h v1) (c13 : hN h v1 = n) (hn : n < 2 ^ 31) (e : hI h s1 1 = nI 0) : ev M_String_length 0 0 [some (.ref s1)] [] h = some (some (.int (nI n)), h) := by
  rw [r_String_length_0]
  apply wp_e
  refine wp_isC c9 (wp_nnR c10 (wp_isB c12 c11 (wp_isC c9 ?_)))
  have : ev M_String_coder 0 0 [some (.ref s1)] [] h = some (some (.int (nI 0)), h) := by
    rw [r_String_coder_0]
    apply wp_e
    refine wp_bf (by decide) (wp_isC c9 ?_)
    rw [e]
    exact wp_s ⟨rfl, rfl⟩
  refine wp_rIe this ?_
  rw [c13, nm_shr (by decide) hn]
  exact wp_s ⟨by rw [Nat.pow_zero, Nat.div_one], rfl⟩
theorem sx_char {h : MH} {v1 : Nat} {x : Int32} {xs : List Nat} (c11 : hR h v1 77 = some 1) (c12 : 30 ≤ hC h v1) (c13 : hN h v1 = xs.length) (hn : xs.length < 2 ^ 31) (e : ∀ j, j < xs.length → hI h v1 (100 + j) = nI (xs.getD j 0)) : ∀ k i, i + k = xs.length →
    ∃ y, ev M_StringLatin1_indexOfChar 0 6 [some (.ref v1), none, none, some (.int (nI xs.length)), some (.int x), some (.int (nI i))] [] h = some (some (.int y), h) ∧ ((∃ j, i ≤ j ∧ j < xs.length ∧ x = nI (xs.getD j 0) ∧ y = nI j) ∨ ((∀ j, i ≤ j → j < xs.length → ¬ x = nI (xs.getD j 0)) ∧ y = mI 1)) := by
  intro k
  induction k with
  | zero =>
    intro i hi
    refine ⟨mI 1, ?_, Or.inr ⟨fun j h1 h2 => by omega, rfl⟩⟩
    rw [r_StringLatin1_indexOfChar_6]
    apply wp_e
    exact wp_bf (by rw [nI_ltI (by omega) (by omega)]; omega) (wp_s ⟨rfl, rfl⟩)
  | succ k ih =>
    intro i hi
    rw [r_StringLatin1_indexOfChar_6, nI_clamp (by omega), e i (by omega)]
    by_cases q : nI (xs.getD i 0) = x
    · refine ⟨nI i, ?_, Or.inl ⟨i, Nat.le_refl _, by omega, q.symm, rfl⟩⟩
      apply wp_e
      exact wp_bt (by rw [nI_ltI (by omega) (by omega)]; omega) (wp_isB c12 c11 (wp_inA c13 rfl (by omega) (by omega) (wp_bt q (wp_s ⟨rfl, rfl⟩))))
    · obtain ⟨y, e1, e2⟩ := ih (i + 1) (by omega)
      refine ⟨y, ?_, ?_⟩
      · apply wp_e
        refine wp_bt (by rw [nI_ltI (by omega) (by omega)]; omega) (wp_isB c12 c11 (wp_inA c13 rfl (by omega) (by omega) (wp_bf q ?_)))
        rw [nI_add]
        exact wp_of e1 ⟨rfl, rfl⟩
      · rcases e2 with ⟨j, h1, h2, h3, h4⟩ | ⟨h1, h2⟩
        · exact Or.inl ⟨j, by omega, h2, h3, h4⟩
        · refine Or.inr ⟨fun j h3 h4 z => ?_, h2⟩
          by_cases w : j = i
          · rw [w] at z; exact q z.symm
          · exact h1 j (by omega) h4 z
theorem nI_16 : ∀ c : Fin 128, UInt32.toInt32 (Int32.toUInt32 (nI c.val) % 65536) = nI c.val := by decide +kernel
theorem sc_rsign {h : MH} {c tp s1 v1 len i : Nat} {f : Nat → Nat → Int32} {g : Nat → Nat → Int64} {b : Nat → Nat} (S : SCS h c tp s1 v1) (F : SCF f g c tp s1 v1 b len) (hi : pl b len i < len) (f1 : f c 1 = nI (pl b len i)) (f7 : f c 7 = nI (pl b len i)) (hl : isLe (bt b len (pl b len i)) = false) (hd : isDi (bt b len (pl b len i)) = false) :
    wp (ev M_Scanner_readSign 0 0 [some (.ref c), none] [] (wI (wL h g) f)) (fun r h' => ∃ f' g', r = none ∧ h' = wI (wL h g') f' ∧ TKF f' g' c b len i ∧ FS1 c f f' ∧ FS2 c g g') := by
  obtain ⟨c1, c2, c3, c4, c5, c6, c7, c8, c9, c10, c11, c12, c13, c14, c15, c16⟩ := id S
  obtain ⟨t1, t2, t3, t4, t5, t6, t7⟩ := id F
  have hl' : ¬ isLe (bt b len (pl b len i)) = true := by rw [hl]; decide
  have hd' : ¬ isDi (bt b len (pl b len i)) = true := by rw [hd]; decide
  have eb : bt b len (pl b len i) = b (pl b len i) := bt_i hi
  have en : nx b len i = pl b len i + 1 := by unfold nx; rw [if_neg (by omega), if_neg hl', if_neg hd']
  have ek : kd b len i = if isSi (b (pl b len i)) then b (pl b len i) else 1 := by unfold kd; rw [if_neg (by omega), if_neg hl', if_neg hd', eb]
  have fin : ∀ y, y = kd b len i → wp (ev M_Scanner_readSign 0 19 [some (.ref c), none] [(.int (nI y)), (.ref c)] (wI (wL h g) f)) (fun r h' => ∃ f' g', r = none ∧ h' = wI (wL h g') f' ∧ TKF f' g' c b len i ∧ FS1 c f f' ∧ FS2 c g g') := by
    intro y hy
    rw [r_Scanner_readSign_19]
    repeat (first | refine wp_isC (by assumption) ?_ | refine wp_nnR (by assumption) ?_ | refine wp_inA (by assumption) rfl (by omega) (by omega) ?_ | refine wp_isZ (by first | decide | exact b01z _) ?_ | refine wp_bt (by (first | (simp (disch := omega) only [wI_I, wI_s, nI_add, pk_mul, nI_ltI, nI_leI, nI_eq, nI_clamp, nm_or, nm_and, nm_xor, nm_nd, nm_one, nm_shr, nm_b2, Bool.false_eq_true, Bool.true_eq_false, not_false_eq_true, not_true_eq_false, reduceCtorEq, f7]; done) | (simp (disch := omega) only [wI_I, wI_s, nI_add, pk_mul, nI_ltI, nI_leI, nI_eq, nI_clamp, nm_or, nm_and, nm_xor, nm_nd, nm_one, nm_shr, nm_b2, Bool.false_eq_true, Bool.true_eq_false, not_false_eq_true, not_true_eq_false, reduceCtorEq, f7]; omega) | omega)) ?_ | refine wp_bf (by (first | (simp (disch := omega) only [wI_I, wI_s, nI_add, pk_mul, nI_ltI, nI_leI, nI_eq, nI_clamp, nm_or, nm_and, nm_xor, nm_nd, nm_one, nm_shr, nm_b2, Bool.false_eq_true, Bool.true_eq_false, not_false_eq_true, not_true_eq_false, reduceCtorEq, f7]; done) | (simp (disch := omega) only [wI_I, wI_s, nI_add, pk_mul, nI_ltI, nI_leI, nI_eq, nI_clamp, nm_or, nm_and, nm_xor, nm_nd, nm_one, nm_shr, nm_b2, Bool.false_eq_true, Bool.true_eq_false, not_false_eq_true, not_true_eq_false, reduceCtorEq, f7]; omega) | omega)) ?_ | refine wp_nz (by first | decide | exact nz_n (by omega) (by omega)) ?_ | (simp (disch := omega) only [wI_I, wI_s, nI_add, pk_mul, nI_ltI, nI_leI, nI_eq, nI_clamp, nm_or, nm_and, nm_xor, nm_nd, nm_one, nm_shr, nm_b2, Bool.false_eq_true, Bool.true_eq_false, not_false_eq_true, not_true_eq_false, reduceCtorEq, up2_a, up2_k, up2_s, gw_o, f7]))
    refine wp_s ⟨up2 (up2 f c 0 (nI y)) c 7 (nI (pl b len i + 1)), g, rfl, rfl, ⟨?_, ?_, ?_, fun z => ?_, fun z => ?_⟩, (FS1.u (by decide) (by decide)).tr (FS1.u (by decide) (by decide)), fun _ _ => rfl⟩
    · rw [up2_k (by decide), up2_s, hy]
    · rw [up2_k (by decide), up2_k (by decide)]; exact f1
    · rw [up2_s, en]
    · exfalso
      rw [ek] at z; split at z
      · rename_i w; have := isSi_r w; omega
      · omega
    · exfalso
      rw [ek] at z; split at z
      · rename_i w; have := isSi_r w; omega
      · omega
  have hl3 : ∀ {y z : Int32}, UInt32.toInt32 (Int32.toUInt32 y % 65536) = z → True := fun _ => True.intro
  rw [r_Scanner_readSign_0]
  simp only [r_Scanner_readSign_17]
  refine wp_isC c1 (wp_nnR c5 (wp_isC c1 (wp_isC c6 ?_)))
  rw [wI_I, f7]
  refine wp_inA c7 rfl (by omega) (by omega) ?_
  rw [nI_clamp (by omega), t4 _ hi]
  rcases sb_e (t3 (pl b len i)) with ⟨q, e⟩ | ⟨q, e⟩
  · rw [e]
    refine wp_bf (nI_pos (by omega)) (wp_nnR c8 (wp_isC c9 ?_))
    have e16 := nI_16 ⟨b (pl b len i), q⟩
    have e16 : UInt32.toInt32 (Int32.toUInt32 (nI (b (pl b len i))) % 65536) = nI (b (pl b len i)) := e16
    rw [e16]
    obtain ⟨y, e1, e2⟩ := sx_char (h := wI (wL h g) f) (x := nI (b (pl b len i))) (xs := tx1) c11 c12 c13 (by decide) (fun j hj => t6 j hj) 11 0 (by decide)
    have e3 : ev M_StringLatin1_indexOf 0 0 [some (.ref v1), some (.int (nI (b (pl b len i)))), some (.int (nI 0)), some (.int (nI 11))] [] (wI (wL h g) f) = some (some (.int y), wI (wL h g) f) := by
      have hce : ev M_StringLatin1_canEncode 0 0 [some (.int (nI (b (pl b len i))))] [] (wI (wL h g) f) = some (some (.int (nI 1)), wI (wL h g) f) := by
        rw [r_StringLatin1_canEncode_0]
        apply wp_e
        exact wp_bf (nI_pos (by omega)) (wp_bf (by rw [nI_ltI (by decide) (by omega)]; omega) (wp_isZ (by decide) (wp_s ⟨rfl, rfl⟩)))
      rw [r_StringLatin1_indexOf_0]
      apply wp_e
      refine wp_rIe hce (wp_bf (by decide) (wp_isB c12 c11 ?_))
      rw [show hN (wI (wL h g) f) v1 = 11 from c13]
      refine wp_bt (by decide) ?_
      refine wp_rIe (x := y) (h := wI (wL h g) f) ?_ (wp_s ⟨rfl, rfl⟩)
      rw [r_StringLatin1_indexOfChar_0, show Int8.toInt32 (Int32.toInt8 (nI (b (pl b len i)))) = sb (b (pl b len i)) from rfl, e]
      exact e1
    have e4 : ev M_String_indexOf1 0 0 [some (.ref s1), some (.int (nI (b (pl b len i))))] [] (wI (wL h g) f) = some (some (.int y), wI (wL h g) f) := by
      rw [r_String_indexOf1_0]
      apply wp_e
      refine wp_isC c9 (wp_rIe (x := y) (h := wI (wL h g) f) ?_ (wp_s ⟨rfl, rfl⟩))
      rw [r_String_indexOf2_0]
      apply wp_e
      refine wp_isC c9 (wp_rIe (sx_latin c9 t5) (wp_bf (by decide) (wp_isC c9 (wp_nnR c10 (wp_isC c9 (wp_rIe (sx_len c9 c10 c11 c12 c13 (by decide) t5) (wp_rIe e3 (wp_s ⟨rfl, rfl⟩))))))))
    refine wp_rIe e4 ?_
    rcases e2 with ⟨j, h1, h2, h3, h4⟩ | ⟨h1, h2⟩
    · have h2 : j < 11 := h2
      have hj : tx1.getD j 0 < 2 ^ 31 := by
        have : ∀ j : Fin 11, tx1.getD j.val 0 < 2 ^ 31 := by decide
        exact this ⟨j, h2⟩
      have eb2 := (nI_eq (by omega) hj).mp h3
      have es : isSi (b (pl b len i)) = true := by
        have : ∀ j : Fin 11, isSi (tx1.getD j.val 0) = true := by decide
        rw [eb2]; exact this ⟨j, h2⟩
      refine wp_bf (by rw [h4]; exact nI_pos (by omega)) (fin _ (by rw [ek, if_pos es]))
    · have es : isSi (b (pl b len i)) = false := by
        cases z : isSi (b (pl b len i)) with
        | false => rfl
        | true =>
          exfalso
          unfold isSi at z
          have z := List.contains_iff_mem.mp z
          obtain ⟨j, hj, ej⟩ := List.getElem_of_mem z
          refine h1 j (Nat.zero_le _) hj ?_
          rw [List.getD_eq_getElem?_getD, List.getElem?_eq_getElem hj, Option.getD_some, ej]
      refine wp_bt (by rw [h2]; exact mI_neg) (fin 1 (by rw [ek, if_neg (by rw [es]; decide)]))
  · have es : isSi (b (pl b len i)) = false := by
      cases z : isSi (b (pl b len i)) with
      | false => rfl
      | true => have := isSi_r z; omega
    exact wp_bt e (fin 1 (by rw [ek, if_neg (by rw [es]; decide)]))
theorem sc_step {h : MH} {c tp s1 v1 len i : Nat} {f : Nat → Nat → Int32} {g : Nat → Nat → Int64} {b : Nat → Nat} (S : SCS h c tp s1 v1) (F : SCF f g c tp s1 v1 b len) (hi : i ≤ len) (f7 : f c 7 = nI i) (f8 : f c 8 = nI 0) :
    wp (ev M_Scanner_step 0 0 [some (.ref c)] [] (wI (wL h g) f)) (fun r h' => ∃ f' g', r = none ∧ h' = wI (wL h g') f' ∧ TKF f' g' c b len i ∧ FS1 c f f' ∧ FS2 c g g') := by
  obtain ⟨c1, c2, c3, c4, c5, c6, c7, c8, c9, c10, c11, c12, c13, c14, c15, c16⟩ := id S
  have hp := pl_le (b := b) hi
  have t2 := F.2.1
  rw [r_Scanner_step_0]
  refine wp_isC c1 (wp_bt f8 ?_)
  refine sc_skip S 1600 i f (by omega) hi F f7 (fun f2 g1 g2 => ?_)
  have g1 : f2 c 7 = nI (pl b len i) := g1
  have fr := g2.tr (FS1.u (v := nI (pl b len i)) (k := 1) (by decide) (by decide))
  have F2 := fr.F S F
  obtain ⟨t1, t2, t3, t4, t5, t6, t7⟩ := id F2
  have q7 : up2 f2 c 1 (nI (pl b len i)) c 7 = nI (pl b len i) := by rw [up2_k (by decide)]; exact g1
  have q1 : up2 f2 c 1 (nI (pl b len i)) c 1 = nI (pl b len i) := up2_s
  have wr : ∀ {X : MRes}, wp X (fun r h' => ∃ f' g', r = none ∧ h' = wI (wL h g') f' ∧ TKF f' g' c b len i ∧ FS1 c (up2 f2 c 1 (nI (pl b len i))) f' ∧ FS2 c g g') → wp (rV X fun h8 => some (none, h8)) (fun r h' => ∃ f' g', r = none ∧ h' = wI (wL h g') f' ∧ TKF f' g' c b len i ∧ FS1 c f f' ∧ FS2 c g g') := fun hX => wp_rV hX (by
    rintro v h' ⟨f', g', e1, e2, e3, e4, e5⟩
    exact ⟨e1, wp_s ⟨f', g', rfl, e2, e3, fr.tr e4, e5⟩⟩)
  rw [r_Scanner_step_25]
  refine wp_isC c1 (wp_isC c1 (wp_isC c1 (wp_isC c1 ?_)))
  rw [wI_I, g1, wI_s, wI_I, q7, t1]
  by_cases q : pl b len i < len
  · have eb : bt b len (pl b len i) = b (pl b len i) := bt_i q
    refine wp_bt (by rw [nI_ltI (by omega) (by omega)]; exact q) (wp_isC c1 (wp_nnR c5 (wp_isC c1 (wp_isC c6 (wp_inA c7 rfl (by omega) (by omega) ?_)))))
    rw [nI_clamp (by omega), t4 _ q]
    refine wp_rIe (sc_letter (t3 _)) ?_
    cases z : isLe (b (pl b len i)) with
    | true => exact wp_bf (by decide) (wp_isC c1 (wr (sc_rword S F2 q q1 q7 (by rw [eb, z]))))
    | false =>
      refine wp_bt rfl (wp_isC c1 (wp_nnR c5 (wp_isC c1 (wp_isC c6 ?_))))
      rw [wI_I, q7]
      refine wp_inA c7 rfl (by omega) (by omega) ?_
      rw [nI_clamp (by omega), t4 _ q]
      refine wp_rIe (sc_digit (t3 _)) ?_
      cases z2 : isDi (b (pl b len i)) with
      | true => exact wp_bf (by decide) (wp_isC c1 (wr (sc_rnum S F2 q q1 q7 (by rw [eb, z]) (by rw [eb, z2]))))
      | false => exact wp_bt rfl (wp_isC c1 (wr (sc_rsign S F2 q q1 q7 (by rw [eb, z]) (by rw [eb, z2]))))
  · refine wp_bf (by rw [nI_ltI (by omega) (by omega)]; exact q) (wp_isC c1 ?_)
    have ek : kd b len i = 2 := by unfold kd; rw [if_pos (by omega)]
    have en : nx b len i = pl b len i := by unfold nx; rw [if_pos (by omega)]
    refine wp_s ⟨up2 (up2 f2 c 1 (nI (pl b len i))) c 0 (nI 2), g, rfl, rfl, ⟨?_, ?_, ?_, fun z => ?_, fun z => ?_⟩, fr.tr (FS1.u (by decide) (by decide)), fun _ _ => rfl⟩
    · rw [up2_s, ek]
    · rw [up2_k (by decide)]; exact q1
    · rw [up2_k (by decide), q7, en]
    · rw [ek] at z; cases z
    · rw [ek] at z; cases z
