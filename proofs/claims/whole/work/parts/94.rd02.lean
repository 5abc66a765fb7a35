/-! The plain form's reader: what it knows; words, marks, faults. -/
theorem kwf_w {w : Nat} : ∀ n j, kwf w n = 100 + j → KW j = w
  | 0, j, h => by rw [kwf] at h; omega
  | n + 1, j, h => by
    rw [kwf] at h
    by_cases z : KW n = w
    · rw [if_pos z] at h
      have : n = j := by omega
      rw [← this]; exact z
    · rw [if_neg z] at h; exact kwf_w n j h
theorem kwf_K : ∀ j : Fin 18, kwf (KW j.val) 18 = 100 + j.val := by decide
theorem kwf_e {w j : Nat} (hj : j < 18) : kwf w 18 = 100 + j ↔ w = KW j := ⟨fun h => (kwf_w 18 j h).symm, fun h => by rw [h]; exact kwf_K ⟨j, hj⟩⟩
section
variable {b : Nat → Nat} {len : Nat}
theorem kd_w {i : Nat} (h : kd b len i = 4 ∨ 100 ≤ kd b len i) : kd b len i = kwf (wv b len i) 18 := by
  unfold kd at h ⊢
  by_cases z1 : len ≤ pl b len i
  · rw [if_pos z1] at h; omega
  · rw [if_neg z1] at h ⊢
    by_cases z2 : isLe (bt b len (pl b len i)) = true
    · rw [if_pos z2] at h ⊢
      by_cases z3 : 8 < nx b len i - pl b len i
      · rw [if_pos z3] at h; omega
      · rw [if_neg z3]
    · rw [if_neg z2] at h
      by_cases z3 : isDi (bt b len (pl b len i)) = true
      · rw [if_pos z3] at h
        split at h <;> omega
      · rw [if_neg z3] at h
        by_cases z4 : isSi (bt b len (pl b len i)) = true
        · rw [if_pos z4] at h; have := isSi_r z4; omega
        · rw [if_neg z4] at h; omega
theorem kd_r (i : Nat) : kd b len i = 1 ∨ kd b len i = 2 ∨ kd b len i = 3 ∨ kd b len i = 4 ∨ (37 ≤ kd b len i ∧ kd b len i ≤ 62) ∨ (100 ≤ kd b len i ∧ kd b len i < 118) := by
  unfold kd
  repeat' split
  · omega
  · omega
  · rcases kwf_r (w := wv b len i) 18 with h | h <;> omega
  · omega
  · omega
  · rename_i z; have := isSi_r z; omega
  · omega
theorem kd_2 {i : Nat} (h : len ≤ i) : kd b len i = 2 := by
  unfold kd
  rw [if_pos (Nat.le_trans h pl_ge)]
theorem nx_s {i : Nat} (h : kd b len i ≠ 2) : i < nx b len i := by
  by_cases z : len ≤ pl b len i
  · exfalso; apply h; unfold kd; rw [if_pos z]
  · have := nx_gt (b := b) (len := len) (i := i) (by omega)
    have := pl_ge (b := b) (len := len) (i := i)
    omega
theorem srt_1 (i : Nat) : srt (kd b len i) = nI 1 ↔ kd b len i = 4 ∨ 100 ≤ kd b len i := by
  unfold srt
  rcases kd_r (b := b) (len := len) i with h | h | h | h | h | h
  · rw [h]; decide
  · rw [h]; decide
  · rw [h]; decide
  · rw [h]; decide
  · rw [if_neg (by omega), if_neg (by omega), if_neg (by omega), if_neg (by omega), nI_eq (by omega) (by decide)]; omega
  · rw [if_neg (by omega), if_neg (by omega), if_neg (by omega), if_pos (by omega)]; exact ⟨fun _ => by omega, fun _ => rfl⟩
theorem srt_2 (i : Nat) : srt (kd b len i) = nI 2 ↔ kd b len i = 3 := by
  unfold srt
  rcases kd_r (b := b) (len := len) i with h | h | h | h | h | h
  · rw [h]; decide
  · rw [h]; decide
  · rw [h]; decide
  · rw [h]; decide
  · rw [if_neg (by omega), if_neg (by omega), if_neg (by omega), if_neg (by omega), nI_eq (by omega) (by decide)]; omega
  · rw [if_neg (by omega), if_neg (by omega), if_neg (by omega), if_pos (by omega)]; exact ⟨fun w => absurd w (by decide), fun _ => by omega⟩
theorem srt_3 (i : Nat) : srt (kd b len i) = nI 3 ↔ kd b len i = 1 := by
  unfold srt
  rcases kd_r (b := b) (len := len) i with h | h | h | h | h | h
  · rw [h]; decide
  · rw [h]; decide
  · rw [h]; decide
  · rw [h]; decide
  · rw [if_neg (by omega), if_neg (by omega), if_neg (by omega), if_neg (by omega), nI_eq (by omega) (by decide)]; omega
  · rw [if_neg (by omega), if_neg (by omega), if_neg (by omega), if_pos (by omega)]; exact ⟨fun w => absurd w (by decide), fun _ => by omega⟩
theorem srt_0 (i : Nat) : srt (kd b len i) = nI 0 ↔ kd b len i = 2 := by
  unfold srt
  rcases kd_r (b := b) (len := len) i with h | h | h | h | h | h
  · rw [h]; decide
  · rw [h]; decide
  · rw [h]; decide
  · rw [h]; decide
  · rw [if_neg (by omega), if_neg (by omega), if_neg (by omega), if_neg (by omega), nI_eq (by omega) (by decide)]; omega
  · rw [if_neg (by omega), if_neg (by omega), if_neg (by omega), if_pos (by omega)]; exact ⟨fun w => absurd w (by decide), fun _ => by omega⟩
theorem srt_c {i c : Nat} (h1 : 37 ≤ c) (h2 : c ≤ 62) : srt (kd b len i) = nI c ↔ kd b len i = c := by
  unfold srt
  rcases kd_r (b := b) (len := len) i with h | h | h | h | h | h
  · rw [h, if_neg (by decide), if_pos rfl, nI_eq (by decide) (by omega)]; omega
  · rw [h, if_pos rfl, nI_eq (by decide) (by omega)]; omega
  · rw [h, if_neg (by decide), if_neg (by decide), if_pos rfl, nI_eq (by decide) (by omega)]; omega
  · rw [h, if_neg (by decide), if_neg (by decide), if_neg (by decide), if_pos (Or.inl rfl), nI_eq (by decide) (by omega)]; omega
  · rw [if_neg (by omega), if_neg (by omega), if_neg (by omega), if_neg (by omega), nI_eq (by omega) (by omega)]
  · rw [if_neg (by omega), if_neg (by omega), if_neg (by omega), if_pos (by omega), nI_eq (by decide) (by omega)]; omega
end
/-- what the reader leaves as it was -/
def FR (m : Nat) (f0 f : Nat → Nat → Int32) (g0 g : Nat → Nat → Int64) : Prop := (∀ a, a ≠ m → a ≠ m + 6 → a ≠ m + 7 → a ≠ m + 13 → a ≠ m + 14 → a ≠ m + 15 → f a = f0 a) ∧ (∀ k, k < 3 ∨ 8 < k → k ≠ 25 → k ≠ 26 → k ≠ 32 → k ≠ 33 → f m k = f0 m k) ∧ f (m + 6) 0 = f0 (m + 6) 0 ∧ f (m + 7) 0 = f0 (m + 7) 0 ∧ (∀ i, i < 260 → f (m + 13) i = f0 (m + 13) i) ∧ (∀ i, i < 330 → f (m + 14) i = f0 (m + 14) i) ∧ ∀ a, a ≠ m → g a = g0 a
theorem FR.rf {m : Nat} {f : Nat → Nat → Int32} {g : Nat → Nat → Int64} : FR m f f g g := ⟨fun _ _ _ _ _ _ _ => rfl, fun _ _ _ _ _ _ => rfl, rfl, rfl, fun _ _ => rfl, fun _ _ => rfl, fun _ _ => rfl⟩
theorem FR.tr {m : Nat} {f f1 f2 : Nat → Nat → Int32} {g g1 g2 : Nat → Nat → Int64} (a : FR m f f1 g g1) (b : FR m f1 f2 g1 g2) : FR m f f2 g g2 :=
  ⟨fun x h1 h2 h3 h4 h5 h6 => (b.1 x h1 h2 h3 h4 h5 h6).trans (a.1 x h1 h2 h3 h4 h5 h6), fun k h1 h2 h3 h4 h5 => (b.2.1 k h1 h2 h3 h4 h5).trans (a.2.1 k h1 h2 h3 h4 h5), b.2.2.1.trans a.2.2.1, b.2.2.2.1.trans a.2.2.2.1, fun i hi => (b.2.2.2.2.1 i hi).trans (a.2.2.2.2.1 i hi), fun i hi => (b.2.2.2.2.2.1 i hi).trans (a.2.2.2.2.2.1 i hi), fun x hx => (b.2.2.2.2.2.2 x hx).trans (a.2.2.2.2.2.2 x hx)⟩
/-- signs that wait -/
def sTk (f : Nat → Nat → Int32) (m : Nat) (O : List Int32) (dp : Nat) : Prop := f m 32 = nI O.length ∧ f m 33 = nI dp ∧ (∀ i c, O[i]? = some c → f (m + 15) i = c) ∧ O.length ≤ 160
/-- codes of derived ones, of the formula -/
def sXc (f : Nat → Nat → Int32) (m : Nat) (cs : List Nat) : Prop := f m 25 = nI cs.length ∧ ∀ i c, cs[i]? = some c → f (m + 13) (260 + i) = nI (mcd c)
def sKc (f : Nat → Nat → Int32) (m : Nat) (ks : List Kp) : Prop := f (m + 6) 1 = nI ks.length ∧ ∀ i k, ks[i]? = some k → f (m + 14) (330 + i) = mkc k
/-- the reader's cells with no fault: token, signs that wait, codes, units, leaves -/
def RR (f0 : Nat → Nat → Int32) (g0 : Nat → Nat → Int64) (f : Nat → Nat → Int32) (g : Nat → Nat → Int64) (m : Nat) (b : Nat → Nat) (len i : Nat) (O : List Int32) (dp : Nat) (cs : List Nat) (ks : List Kp) (un lv : Nat) : Prop :=
  MB f m b len ∧ f m 7 = nI 0 ∧ f m 8 = mI 1 ∧ (i ≤ len ∧ MTK f g m b len i) ∧ sTk f m O dp ∧ sXc f m cs ∧ sKc f m ks ∧ (f (m + 7) 1 = nI un ∧ f m 26 = nI lv) ∧ FR m f0 f g0 g
/-- with a fault -/
def RE (f0 : Nat → Nat → Int32) (g0 : Nat → Nat → Int64) (f : Nat → Nat → Int32) (g : Nat → Nat → Int64) (m c p : Nat) : Prop := f m 7 = nI c ∧ (0 < c ∧ c ≤ 5) ∧ f m 8 = nI p ∧ p ≤ 1600 ∧ FR m f0 f g0 g
section
variable {h : MH} {f f0 : Nat → Nat → Int32} {g g0 : Nat → Nat → Int64} {m : Nat} {b : Nat → Nat} {len i : Nat} {O : List Int32} {dp : Nat} {cs : List Nat} {ks : List Kp} {un lv : Nat}
theorem mr_goOn (C : MSH h m) (R : RR f0 g0 f g m b len i O dp cs ks un lv) : ∃ f' g', ev M_Mo_goOn 0 0 [some (.ref m), none] [] (wI (wL h g) f) = some (none, wI (wL h g') f') ∧ RR f0 g0 f' g' m b len (nx b len i) O dp cs ks un lv := by
  obtain ⟨r1, r2, r3, ⟨r4, r5⟩, ⟨r6, r7, r8, r8b⟩, ⟨r9, r10⟩, ⟨r11, r12⟩, ⟨r13, r14⟩, r15⟩ := R
  obtain ⟨f', g', a1, a2, a3, a4, a5⟩ := mo_goOn (g := g) C r1 (nx_le r4) r5.1
  refine ⟨f', g', a1, r1.c (a4 _ (by decide)) (a3 _ (by omega)), by rw [a4 _ (by decide)]; exact r2, by rw [a4 _ (by decide)]; exact r3, ⟨nx_le r4, a2⟩, ⟨by rw [a4 _ (by decide)]; exact r6, by rw [a4 _ (by decide)]; exact r7, fun i c hc => by rw [a3 _ (by omega)]; exact r8 i c hc, r8b⟩, ⟨by rw [a4 _ (by decide)]; exact r9, fun i c hc => by rw [a3 _ (by omega)]; exact r10 i c hc⟩, ⟨by rw [a3 _ (by omega)]; exact r11, fun i c hc => by rw [a3 _ (by omega)]; exact r12 i c hc⟩, ⟨by rw [a3 _ (by omega)]; exact r13, by rw [a4 _ (by decide)]; exact r14⟩, r15.tr ⟨fun x h1 _ _ _ _ _ => a3 x h1, fun k h1 _ _ _ _ => a4 k (by omega), by rw [a3 _ (by omega)], by rw [a3 _ (by omega)], fun i _ => by rw [a3 _ (by omega)], fun i _ => by rw [a3 _ (by omega)], fun x hx => a5 x hx⟩⟩
theorem mr_wrong (C : MSH h m) (R : RR f0 g0 f g m b len i O dp cs ks un lv) {c : Nat} (h1 : 0 < c) (h2 : c ≤ 5) : ∃ f', ev M_Mo_wrong 0 0 [some (.ref m), some (.int (nI c))] [] (wI (wL h g) f) = some (none, wI (wL h g) f') ∧ RE f0 g0 f' g m (if kd b len i = 1 then 1 else c) (pl b len i) := by
  have mc := C.1
  obtain ⟨r1, r2, r3, ⟨r4, r5⟩, -, -, -, -, r15⟩ := R
  obtain ⟨t1, t2, t3, -, -⟩ := r5
  have hp := pl_le (b := b) r4
  have := r1.2.1
  have fin : ∀ x, wp (ev M_Mo_wrong 0 13 [some (.ref m), none] [(.int x), (.ref m)] (wI (wL h g) f)) (fun a c => a = none ∧ c = wI (wL h g) (up2 (up2 f m 7 x) m 8 (nI (pl b len i)))) := fun x => by
    rw [r_Mo_wrong_13]
    refine wp_isC mc ?_
    rw [wI_s]
    refine wp_isC mc (wp_isC mc ?_)
    rw [wI_I, up2_k (by decide), t2, wI_s]
    exact wp_s ⟨rfl, rfl⟩
  have fr : ∀ x, FR m f (up2 (up2 f m 7 x) m 8 (nI (pl b len i))) g g := fun x => ⟨fun a h1 _ _ _ _ _ => by rw [up2_a h1, up2_a h1], fun k h1 _ _ _ _ => by rw [up2_k (by omega), up2_k (by omega)], by rw [up2_a (by omega), up2_a (by omega)], by rw [up2_a (by omega), up2_a (by omega)], fun i _ => by rw [up2_a (by omega), up2_a (by omega)], fun i _ => by rw [up2_a (by omega), up2_a (by omega)], fun _ _ => rfl⟩
  by_cases z : kd b len i = 1
  · rw [if_pos z]
    refine ⟨_, wp_e ?_, by rw [up2_k (by decide), up2_s], ⟨by decide, by decide⟩, up2_s, by omega, r15.tr (fr (nI 1))⟩
    rw [r_Mo_wrong_0]
    refine wp_isC mc ?_
    rw [wI_I, r2]
    refine wp_bf (by decide) (wp_isC mc (wp_bt ?_ (fin _)))
    rw [t3, srt_3]; exact z
  · rw [if_neg z]
    refine ⟨_, wp_e ?_, by rw [up2_k (by decide), up2_s], ⟨h1, h2⟩, up2_s, by omega, r15.tr (fr (nI c))⟩
    rw [r_Mo_wrong_0]
    refine wp_isC mc ?_
    rw [wI_I, r2]
    refine wp_bf (by decide) (wp_isC mc (wp_bf ?_ (fin _)))
    rw [t3, srt_3]; exact z
theorem me_wrong {c p : Nat} {x : Int32} (C : MSH h m) (R : RE f0 g0 f g m c p) : ev M_Mo_wrong 0 0 [some (.ref m), some (.int x)] [] (wI (wL h g) f) = some (none, wI (wL h g) f) := by
  obtain ⟨r1, r2, -⟩ := R
  rw [r_Mo_wrong_0]
  refine wp_e (wp_isC C.1 ?_)
  rw [wI_I, r1]
  exact wp_bt (by rw [nI_ltI (by decide) (by omega)]; omega) (wp_s ⟨rfl, rfl⟩)
theorem mr_good (C : MSH h m) (R : RR f0 g0 f g m b len i O dp cs ks un lv) : ev M_Mo_isGood 0 0 [some (.ref m)] [] (wI (wL h g) f) = some (some (.int (nI 1)), wI (wL h g) f) := by
  rw [r_Mo_isGood_0]
  refine wp_e (wp_isC C.1 ?_)
  rw [wI_I, R.2.1]
  exact wp_bt rfl (wp_isZ (by decide) (wp_s ⟨rfl, rfl⟩))
theorem me_good {c p : Nat} (C : MSH h m) (R : RE f0 g0 f g m c p) : ev M_Mo_isGood 0 0 [some (.ref m)] [] (wI (wL h g) f) = some (some (.int (nI 0)), wI (wL h g) f) := by
  obtain ⟨r1, r2, -⟩ := R
  rw [r_Mo_isGood_0]
  refine wp_e (wp_isC C.1 ?_)
  rw [wI_I, r1]
  exact wp_bf (by rw [nI_eq (by omega) (by decide)]; omega) (wp_isZ (by decide) (wp_s ⟨rfl, rfl⟩))
theorem mr_word (C : MSH h m) (R : RR f0 g0 f g m b len i O dp cs ks un lv) {j : Nat} (hj : j < 18) : ev M_Mo_isWord 0 0 [some (.ref m), some (.long (lN (KW j))), none] [] (wI (wL h g) f) = some (some (.int (nI (decide (kd b len i = 100 + j)).toNat)), wI (wL h g) f) := by
  have mc := C.1
  obtain ⟨-, r2, -, ⟨r4, r5⟩, -⟩ := R
  obtain ⟨t1, t2, t3, -, t5⟩ := r5
  rw [r_Mo_isWord_0]
  refine wp_e (wp_isC mc ?_)
  have q1 : f m 5 = nI 1 ↔ kd b len i = 4 ∨ 100 ≤ kd b len i := by rw [t3]; exact srt_1 i
  rw [wI_I, r2]
  refine wp_bt rfl (wp_isC mc (wp_bi q1 (fun z => ?_) (fun z => ?_)))
  · have e := kd_w z
    have wl := wv_lt i r4 z
    have kl : KW j < 2 ^ 62 := KW_lt ⟨j, hj⟩
    refine wp_isC mc (wp_bi (lg_c _ _) (fun y => ?_) (fun y => ?_))
    · have y : g m 11 = lN (KW j) := y
      rw [t5 z, pk_lEQ wl (by omega)] at y
      rw [decide_eq_true (by rw [e, kwf_e hj]; exact y)]
      exact wp_isZ (by decide) (wp_s ⟨rfl, rfl⟩)
    · have y : ¬ g m 11 = lN (KW j) := y
      rw [t5 z, pk_lEQ wl (by omega)] at y
      rw [decide_eq_false (by rw [e, kwf_e hj]; exact y)]
      exact wp_isZ (by decide) (wp_s ⟨rfl, rfl⟩)
  · rw [decide_eq_false (by omega)]
    exact wp_isZ (by decide) (wp_s ⟨rfl, rfl⟩)
theorem me_word {c p : Nat} {x : Int64} (C : MSH h m) (R : RE f0 g0 f g m c p) : ev M_Mo_isWord 0 0 [some (.ref m), some (.long x), none] [] (wI (wL h g) f) = some (some (.int (nI 0)), wI (wL h g) f) := by
  obtain ⟨r1, r2, -⟩ := R
  rw [r_Mo_isWord_0]
  refine wp_e (wp_isC C.1 ?_)
  rw [wI_I, r1]
  exact wp_bf (by rw [nI_eq (by omega) (by decide)]; omega) (wp_isZ (by decide) (wp_s ⟨rfl, rfl⟩))
theorem mr_mark (C : MSH h m) (R : RR f0 g0 f g m b len i O dp cs ks un lv) {c : Nat} (h1 : 37 ≤ c) (h2 : c ≤ 62) : ev M_Mo_isMark 0 0 [some (.ref m), some (.int (nI c))] [] (wI (wL h g) f) = some (some (.int (nI (decide (kd b len i = c)).toNat)), wI (wL h g) f) := by
  have mc := C.1
  obtain ⟨-, r2, -, ⟨r4, r5⟩, -⟩ := R
  rw [r_Mo_isMark_0]
  refine wp_e (wp_isC mc ?_)
  have q1 : f m 5 = nI c ↔ kd b len i = c := by rw [r5.2.2.1]; exact srt_c h1 h2
  rw [wI_I, r2]
  refine wp_bt rfl (wp_isC mc (wp_bi q1 (fun z => ?_) (fun z => ?_)))
  · rw [decide_eq_true z]
    exact wp_isZ (by decide) (wp_s ⟨rfl, rfl⟩)
  · rw [decide_eq_false z]
    exact wp_isZ (by decide) (wp_s ⟨rfl, rfl⟩)
theorem me_mark {c p : Nat} {x : Int32} (C : MSH h m) (R : RE f0 g0 f g m c p) : ev M_Mo_isMark 0 0 [some (.ref m), some (.int x)] [] (wI (wL h g) f) = some (some (.int (nI 0)), wI (wL h g) f) := by
  obtain ⟨r1, r2, -⟩ := R
  rw [r_Mo_isMark_0]
  refine wp_e (wp_isC C.1 ?_)
  rw [wI_I, r1]
  exact wp_bf (by rw [nI_eq (by omega) (by decide)]; omega) (wp_isZ (by decide) (wp_s ⟨rfl, rfl⟩))
theorem mr_own (C : MSH h m) (R : RR f0 g0 f g m b len i O dp cs ks un lv) (hk : kd b len i = 4 ∨ 100 ≤ kd b len i) : ev M_Mo_isOwn 0 0 [some (.ref m)] [] (wI (wL h g) f) = some (some (.int (nI (decide (100 ≤ kd b len i)).toNat)), wI (wL h g) f) := by
  have mc := C.1
  obtain ⟨-, -, -, ⟨r4, r5⟩, -⟩ := R
  have t5 := r5.2.2.2.2 hk
  have e := kd_w hk
  have wl := wv_lt i r4 hk
  have t : ∀ j, j < 18 → (lg_cmp (hL (wI (wL h g) f) m 11) (lN (KW j)) = nI 0 ↔ kd b len i = 100 + j) := fun j hj => by
    have kl : KW j < 2 ^ 62 := KW_lt ⟨j, hj⟩
    show lg_cmp (g m 11) (lN (KW j)) = nI 0 ↔ _
    rw [lg_c, t5, pk_lEQ wl (by omega), e, kwf_e hj]
  have y : 100 ≤ kd b len i → wp (isZ (nI 1) (some (some (.int (nI 1)), wI (wL h g) f))) (fun a c => a = some (Value.int (nI (decide (100 ≤ kd b len i)).toNat)) ∧ c = wI (wL h g) f) := fun w => by
    rw [decide_eq_true w]; exact wp_isZ (by decide) (wp_s ⟨rfl, rfl⟩)
  rw [r_Mo_isOwn_0]
  simp only [r_Mo_isOwn_95]
  refine wp_e (wp_isC mc (wp_bi (t 0 (by decide)) (fun z => y (by omega)) (fun z0 => ?_)))
  refine wp_isC mc (wp_bi (t 1 (by decide)) (fun z => y (by omega)) (fun z1 => ?_))
  refine wp_isC mc (wp_bi (t 2 (by decide)) (fun z => y (by omega)) (fun z2 => ?_))
  refine wp_isC mc (wp_bi (t 3 (by decide)) (fun z => y (by omega)) (fun z3 => ?_))
  refine wp_isC mc (wp_bi (t 4 (by decide)) (fun z => y (by omega)) (fun z4 => ?_))
  refine wp_isC mc (wp_bi (t 5 (by decide)) (fun z => y (by omega)) (fun z5 => ?_))
  refine wp_isC mc (wp_bi (t 6 (by decide)) (fun z => y (by omega)) (fun z6 => ?_))
  refine wp_isC mc (wp_bi (t 7 (by decide)) (fun z => y (by omega)) (fun z7 => ?_))
  refine wp_isC mc (wp_bi (t 8 (by decide)) (fun z => y (by omega)) (fun z8 => ?_))
  refine wp_isC mc (wp_bi (t 9 (by decide)) (fun z => y (by omega)) (fun z9 => ?_))
  refine wp_isC mc (wp_bi (t 10 (by decide)) (fun z => y (by omega)) (fun z10 => ?_))
  refine wp_isC mc (wp_bi (t 11 (by decide)) (fun z => y (by omega)) (fun z11 => ?_))
  refine wp_isC mc (wp_bi (t 12 (by decide)) (fun z => y (by omega)) (fun z12 => ?_))
  refine wp_isC mc (wp_bi (t 13 (by decide)) (fun z => y (by omega)) (fun z13 => ?_))
  refine wp_isC mc (wp_bi (t 14 (by decide)) (fun z => y (by omega)) (fun z14 => ?_))
  refine wp_isC mc (wp_bi (t 15 (by decide)) (fun z => y (by omega)) (fun z15 => ?_))
  refine wp_isC mc (wp_bi (t 16 (by decide)) (fun z => y (by omega)) (fun z16 => ?_))
  refine wp_isC mc (wp_bi (t 17 (by decide)) (fun z => y (by omega)) (fun z17 => ?_))
  have := kd_r (b := b) (len := len) i
  rw [decide_eq_false (by omega)]
  exact wp_isZ (by decide) (wp_s ⟨rfl, rfl⟩)
end
