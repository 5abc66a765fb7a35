/-! The plain form: the next block to count. -/
/-- what a turned one does to a block: nothing, one fewer, one more -/
def kdj (v l b : Nat) (G : Rw) (j : Nat) : Nat := if j = 0 then 0 else if inb v l b ((j - 1) / 2 ^ v) ((j - 1) % 2 ^ v) = true then (if (G ((j - 1) / 2 ^ v)).testBit ((j - 1) % 2 ^ v) = true then 1 else 2) else 0
theorem kdj_tn {v l b : Nat} {G : Rw} (j : Nat) : tn v G l b j = if kdj v l b G j = 0 then cb v l G b else if kdj v l b G j = 1 then cb v l G b - 1 else cb v l G b + 1 := by
  unfold tn kdj
  by_cases z : j = 0
  · rw [if_pos z, if_pos z, if_pos rfl]
  · rw [if_neg z, if_neg z]
    by_cases y : inb v l b ((j - 1) / 2 ^ v) ((j - 1) % 2 ^ v) = true
    · rw [if_pos y, if_pos y]
      by_cases x : (G ((j - 1) / 2 ^ v)).testBit ((j - 1) % 2 ^ v) = true
      · rw [if_pos x, if_pos x, if_neg (by decide), if_pos rfl]
      · rw [if_neg x, if_neg x, if_neg (by decide), if_neg (by decide)]
    · rw [if_neg y, if_neg y, if_pos rfl]
theorem kdj_le {v l b : Nat} {G : Rw} (j : Nat) : kdj v l b G j ≤ 2 := by
  unfold kdj
  split
  · decide
  · split
    · split <;> decide
    · decide
theorem kdj_1 {v l b j : Nat} {G : Rw} (V : GW (2 ^ v) G) (h : kdj v l b G j = 1) : 1 ≤ cb v l G b := by
  unfold kdj at h
  by_cases z : j = 0
  · rw [if_pos z] at h; cases h
  · rw [if_neg z] at h
    by_cases y : inb v l b ((j - 1) / 2 ^ v) ((j - 1) % 2 ^ v) = true
    · rw [if_pos y] at h
      by_cases x : (G ((j - 1) / 2 ^ v)).testBit ((j - 1) % 2 ^ v) = true
      · exact cb_ge V y x
      · rw [if_neg x] at h; cases h
    · rw [if_neg y] at h; cases h
/-- how many of the first fitting ones do so to a block -/
def ak (v l b : Nat) (G : Rw) (B : Nat → Bool) (x j : Nat) : Nat := sm (fun i => (B i && decide (kdj v l b G i = x)).toNat) j
theorem ak_sum {v l b : Nat} {G : Rw} {B : Nat → Bool} : ∀ j, ak v l b G B 0 j + ak v l b G B 1 j + ak v l b G B 2 j = sm (fun i => (B i).toNat) j
  | 0 => rfl
  | j + 1 => by
    have e : ∀ x, ak v l b G B x (j + 1) = ak v l b G B x j + (B j && decide (kdj v l b G j = x)).toNat := fun _ => rfl
    have ih := ak_sum (v := v) (l := l) (b := b) (G := G) (B := B) j
    have := kdj_le (v := v) (l := l) (b := b) (G := G) j
    rw [e, e, e, sm]
    have k3 : kdj v l b G j = 0 ∨ kdj v l b G j = 1 ∨ kdj v l b G j = 2 := by omega
    rcases k3 with k | k | k <;> rw [k] <;> cases B j <;> simp <;> omega
theorem ak_s {v l b : Nat} {G : Rw} {B : Nat → Bool} {j : Nat} (x : Nat) : ak v l b G B x (j + 1) = if B j = true ∧ kdj v l b G j = x then ak v l b G B x j + 1 else ak v l b G B x j := by
  show ak v l b G B x j + (B j && decide (kdj v l b G j = x)).toNat = _
  cases B j <;> by_cases z : kdj v l b G j = x <;> simp [z]
section
variable {v l b : Nat} {G : Rw} {k : Int32} {se : List Sn}
theorem ak_cb (hv : v ≤ 4) (V : GW (2 ^ v) G) (hl : l ≤ v) (hb : b < 2 ^ (2 * l)) {w : Nat} (hw : w = 1 ∨ w = 2) : ak v l b G (fbj v G k se) w (2 ^ v * 2 ^ v + 1) = cb v l (jnG w (2 ^ v) (ft v G k se).2 G) b := by
  have hp := Nat.two_pow_pos v
  have FW := ft_W (G := G) (k := k) (se := se) hv
  have FJ : GW (2 ^ v) (jnG w (2 ^ v) (ft v G k se).2 G) := GW.jnG FW V
  rw [cb_2 hv FJ hl hb]
  unfold ak
  rw [sm_1]
  have e0 : (fbj v G k se 0 && decide (kdj v l b G 0 = w)).toNat = 0 := by
    have : kdj v l b G 0 = 0 := by unfold kdj; exact if_pos rfl
    rw [this, decide_eq_false (by omega), Bool.and_false]; rfl
  rw [e0, Nat.zero_add]
  unfold s2
  rw [← sm_nn hp (fun r c => ((jnG w (2 ^ v) (ft v G k se).2 G r).testBit c && inb v l b r c).toNat)]
  apply sm_c
  intro t ht
  have hr : t / 2 ^ v < 2 ^ v := Nat.div_lt_of_lt_mul ht
  have hc : t % 2 ^ v < 2 ^ v := Nat.mod_lt _ hp
  have ek : kdj v l b G (t + 1) = if inb v l b (t / 2 ^ v) (t % 2 ^ v) = true then (if (G (t / 2 ^ v)).testBit (t % 2 ^ v) = true then 1 else 2) else 0 := by
    unfold kdj
    rw [if_neg (by omega), Nat.add_sub_cancel]
  have ef := ft_t (k := k) (se := se) V hr hc
  rw [Nat.div_add_mod] at ef
  show (fbj v G k se (t + 1) && decide (kdj v l b G (t + 1) = w)).toNat = ((jnG w (2 ^ v) (ft v G k se).2 G (t / 2 ^ v)).testBit (t % 2 ^ v) && inb v l b (t / 2 ^ v) (t % 2 ^ v)).toNat
  rw [ek, ← ef]
  have ej : jnG w (2 ^ v) (ft v G k se).2 G (t / 2 ^ v) = jn w (2 ^ v) (ft v G k se).2 G (t / 2 ^ v) := if_pos hr
  rw [ej]
  generalize (ft v G k se).2 = X
  generalize t / 2 ^ v = r
  generalize t % 2 ^ v = c
  rcases hw with rfl | rfl
  · show _ = (Nat.testBit (X r &&& G r) c && _).toNat
    rw [Nat.testBit_and]
    cases inb v l b r c <;> cases (X r).testBit c <;> cases (G r).testBit c <;> rfl
  · show _ = (Nat.testBit (nd (X r) (G r)) c && _).toNat
    rw [nd_t]
    cases inb v l b r c <;> cases (X r).testBit c <;> cases (G r).testBit c <;> rfl
theorem ak_lft (hv : v ≤ 4) (V : GW (2 ^ v) G) (hl : l ≤ v) (hb : b < 2 ^ (2 * l)) : max (ak v l b G (fbj v G k se) 0 (2 ^ v * 2 ^ v + 1)) (max (ak v l b G (fbj v G k se) 1 (2 ^ v * 2 ^ v + 1)) (ak v l b G (fbj v G k se) 2 (2 ^ v * 2 ^ v + 1))) = lft v l (ft v G k se) G b := by
  have s := ak_sum (v := v) (l := l) (b := b) (G := G) (B := fbj v G k se) (2 ^ v * 2 ^ v + 1)
  have t := fcn_all (k := k) (se := se) hv V
  unfold fcn at t
  unfold lft
  rw [← ak_cb hv V hl hb (Or.inl rfl), ← ak_cb hv V hl hb (Or.inr rfl)]
  generalize ak v l b G (fbj v G k se) 0 (2 ^ v * 2 ^ v + 1) = a0 at *
  generalize ak v l b G (fbj v G k se) 1 (2 ^ v * 2 ^ v + 1) = a1 at *
  generalize ak v l b G (fbj v G k se) 2 (2 ^ v * 2 ^ v + 1) = a2 at *
  rw [t] at s
  congr 1
  omega
theorem lft_le (hv : v ≤ 4) (V : GW (2 ^ v) G) (hl : l ≤ v) (hb : b < 2 ^ (2 * l)) : lft v l (ft v G k se) G b ≤ ct (2 ^ v) (ft v G k se).2 + (ft v G k se).1.toNat := by
  have s := ak_sum (v := v) (l := l) (b := b) (G := G) (B := fbj v G k se) (2 ^ v * 2 ^ v + 1)
  have t := fcn_all (k := k) (se := se) hv V
  unfold fcn at t
  rw [← ak_lft hv V hl hb]
  omega
end
section
variable {h : MH} {f : Nat → Nat → Int32} {m : Nat} {S : Abs}
theorem mo_leftBy {l b : Nat} {k : Int32} (C : MSH h m) (F : MF f m S) (W : WS S) (hr : 0 < aR S) (R : RF f (m + 34) 0 (aG0 S)) (hf : ∀ j, j < aW S * aW S + 1 → f (m + 35) j = nI (fbj (aV S) (aG0 S) k (aE S) j).toNat) (hl : l ≤ aV S) (hb : b < 2 ^ (2 * l)) : ∃ f', ev M_Mo_leftBy 0 0 [some (.ref m), some (.int (nI l)), some (.int (nI b)), none, none, none] [] (wI h f) = some (some (.int (nI (lft (aV S) l (fS S k) (aG0 S) b))), wI h f') ∧ (∀ x, x ≠ m + 36 → f' x = f x) := by
  have mc := C.1
  have ar35 : hR h m 60 = some (m + 35) := (C.2 34 (by decide)).1
  have an35 : hN h (m + 35) = 257 := (C.2 34 (by decide)).2.1
  have ac35 : hC h (m + 35) = 20 := (C.2 34 (by decide)).2.2
  have ar36 : hR h m 61 = some (m + 36) := (C.2 35 (by decide)).1
  have an36 : hN h (m + 36) = 258 := (C.2 35 (by decide)).2.1
  have ac36 : hC h (m + 36) = 20 := (C.2 35 (by decide)).2.2
  have hv : aV S ≤ 4 := W.2.2.1.1.2.1
  have h16 : aW S ≤ 16 := lv_p hv
  have V : GW (2 ^ aV S) (aG0 S) := aG0_W W 0
  have hnn : aW S * aW S ≤ 16 * 16 := Nat.mul_le_mul h16 h16
  have hp : 0 < aW S * aW S := Nat.mul_pos (Nat.two_pow_pos _) (Nat.two_pow_pos _)
  have hcb : cb (aV S) l (aG0 S) b ≤ 256 := cb_le hv
  have fin := ak_lft (k := k) (se := aE S) hv V hl hb
  have al : ∀ x j, ak (aV S) l b (aG0 S) (fbj (aV S) (aG0 S) k (aE S)) x j ≤ j := fun x j => by
    have := sm_le (F := fun i => (fbj (aV S) (aG0 S) k (aE S) i && decide (kdj (aV S) l b (aG0 S) i = x)).toNat) (b := 1) (n := j) (fun i _ => Bool.toNat_le _)
    rw [Nat.mul_one] at this
    exact this
  -- the second loop
  have L : ∀ q j g, j + q = aW S * aW S + 1 → (∀ x, x ≠ m + 36 → g x = f x) → g (m + 36) (cb (aV S) l (aG0 S) b) = nI (ak (aV S) l b (aG0 S) (fbj (aV S) (aG0 S) k (aE S)) 0 j) → (1 ≤ cb (aV S) l (aG0 S) b → g (m + 36) (cb (aV S) l (aG0 S) b - 1) = nI (ak (aV S) l b (aG0 S) (fbj (aV S) (aG0 S) k (aE S)) 1 j)) → g (m + 36) (cb (aV S) l (aG0 S) b + 1) = nI (ak (aV S) l b (aG0 S) (fbj (aV S) (aG0 S) k (aE S)) 2 j) →
      ∃ f', ev M_Mo_leftBy 0 18 [some (.ref m), some (.int (nI l)), some (.int (nI b)), some (.int (nI (max (ak (aV S) l b (aG0 S) (fbj (aV S) (aG0 S) k (aE S)) 0 j) (max (ak (aV S) l b (aG0 S) (fbj (aV S) (aG0 S) k (aE S)) 1 j) (ak (aV S) l b (aG0 S) (fbj (aV S) (aG0 S) k (aE S)) 2 j))))), some (.int (tI j)), none] [] (wI h g) = some (some (.int (nI (lft (aV S) l (fS S k) (aG0 S) b))), wI h f') ∧ (∀ x, x ≠ m + 36 → f' x = f x) := by
    intro q
    induction q with
    | zero =>
      intro j g hj o _ _ _
      have : j = aW S * aW S + 1 := by omega
      subst this
      have FG : MF g m S := MX.F ⟨fun x _ _ h3 => o x (by omega), fun k _ _ => by rw [o m (by omega)]⟩ F
      have la := mo_last C FG W
      rw [if_neg (by omega)] at la
      refine ⟨g, ?_, o⟩
      rw [r_Mo_leftBy_18, tI_s]
      exact wp_e (wp_isC mc (wp_rIe la (wp_bt (by rw [nI_ltI (by omega) (by omega)]; omega) (wp_s ⟨congrArg (fun x => some (Value.int (nI x))) fin, rfl⟩))))
    | succ q ih =>
      intro j g hj o g0 g1 g2
      have FG : MF g m S := MX.F ⟨fun x _ _ h3 => o x (by omega), fun k _ _ => by rw [o m (by omega)]⟩ F
      have la := mo_last C FG W
      rw [if_neg (by omega)] at la
      have RG : RF g (m + 34) 0 (aG0 S) := fun r hr => by rw [o _ (by omega)]; exact R r hr
      have cy := mo_countBy (h := h) (j := j) (l := l) (b := b) C hv FG.2.2.1.1 RG V hl hb (by show j ≤ aW S * aW S; omega)
      rw [kdj_tn] at cy
      have a0 := al 0 j
      have a1 := al 1 j
      have a2 := al 2 j
      have s0 := ak_s (v := aV S) (l := l) (b := b) (G := aG0 S) (B := fbj (aV S) (aG0 S) k (aE S)) (j := j) 0
      have s1 := ak_s (v := aV S) (l := l) (b := b) (G := aG0 S) (B := fbj (aV S) (aG0 S) k (aE S)) (j := j) 1
      have s2 := ak_s (v := aV S) (l := l) (b := b) (G := aG0 S) (B := fbj (aV S) (aG0 S) k (aE S)) (j := j) 2
      have kle := kdj_le (v := aV S) (l := l) (b := b) (G := aG0 S) j
      have k1 := kdj_1 (l := l) (b := b) (j := j) V
      have ih := ih (j + 1)
      rw [tI_s] at ih
      rw [s0, s1, s2] at ih
      generalize ak (aV S) l b (aG0 S) (fbj (aV S) (aG0 S) k (aE S)) 0 j = A0 at *
      generalize ak (aV S) l b (aG0 S) (fbj (aV S) (aG0 S) k (aE S)) 1 j = A1 at *
      generalize ak (aV S) l b (aG0 S) (fbj (aV S) (aG0 S) k (aE S)) 2 j = A2 at *
      generalize kdj (aV S) l b (aG0 S) j = K at *
      generalize cb (aV S) l (aG0 S) b = cc at *
      have hfj := hf j (by omega)
      rw [← o (m + 35) (by omega)] at hfj
      cases zf : fbj (aV S) (aG0 S) k (aE S) j with
      | false =>
        rw [zf] at hfj ih
        rw [if_neg (fun w => by cases w.1), if_neg (fun w => by cases w.1), if_neg (fun w => by cases w.1)] at ih
        obtain ⟨f', i1, i2⟩ := ih g (by omega) o g0 g1 g2
        refine ⟨f', ?_, i2⟩
        rw [r_Mo_leftBy_18]
        simp only [r_Mo_leftBy_57, r_Mo_leftBy_59]
        rw [tI_1]
        refine wp_e (wp_isC mc (wp_rIe la (wp_bf (last_lt hp (by omega) (by omega)) (wp_isC mc (wp_nnR ar35 (wp_isC ac35 (wp_inA an35 rfl (by omega) (by omega) ?_)))))))
        rw [nI_clamp (by omega), wI_I, hfj]
        exact wp_bt rfl (wp_of i1 ⟨rfl, rfl⟩)
      | true =>
        rw [zf] at hfj ih
        -- one place of often grows
        have go : ∀ c A, c < 258 → A ≤ j → nI c = nI (if K = 0 then cc else if K = 1 then cc - 1 else cc + 1) → g (m + 36) c = nI A → ∀ f', ev M_Mo_leftBy 0 18 [some (.ref m), some (.int (nI l)), some (.int (nI b)), some (.int (nI (max (max A0 (max A1 A2)) (A + 1)))), some (.int (nI j)), none] [] (wI h (up2 g (m + 36) c (nI (A + 1)))) = some (some (.int (nI (lft (aV S) l (fS S k) (aG0 S) b))), wI h f') → ev M_Mo_leftBy 0 18 [some (.ref m), some (.int (nI l)), some (.int (nI b)), some (.int (nI (max A0 (max A1 A2)))), some (.int (tI j)), none] [] (wI h g) = some (some (.int (nI (lft (aV S) l (fS S k) (aG0 S) b))), wI h f') := by
          intro c A hc hA ec eg f' i1
          rw [← ec] at cy
          rw [r_Mo_leftBy_18]
          simp only [r_Mo_leftBy_57, r_Mo_leftBy_59]
          rw [tI_1]
          refine wp_e (wp_isC mc (wp_rIe la (wp_bf (last_lt hp (by omega) (by omega)) (wp_isC mc (wp_nnR ar35 (wp_isC ac35 (wp_inA an35 rfl (by omega) (by omega) ?_)))))))
          rw [nI_clamp (by omega), wI_I, hfj]
          refine wp_bf n10 (wp_isC mc (wp_rIe cy (wp_isC mc (wp_nnR ar36 (wp_isC ac36 (wp_inA an36 rfl (by omega) (by omega) (wp_isC ac36 (wp_inA an36 rfl (by omega) (by omega) ?_))))))))
          rw [nI_clamp (by omega), wI_I, eg, nI_add, wI_s]
          refine wp_isC mc (wp_nnR ar36 (wp_isC ac36 (wp_inA an36 rfl (by omega) (by omega) ?_)))
          rw [wI_I, up2_s]
          refine wp_bi (nI_ltI (by omega) (by omega)) (fun w => ?_) (fun w => ?_)
          · refine wp_isC mc (wp_nnR ar36 (wp_isC ac36 (wp_inA an36 rfl (by omega) (by omega) ?_)))
            rw [up2_s]
            rw [show max (max A0 (max A1 A2)) (A + 1) = A + 1 by omega] at i1
            exact wp_of i1 ⟨rfl, rfl⟩
          · rw [show max (max A0 (max A1 A2)) (A + 1) = max A0 (max A1 A2) by omega] at i1
            exact wp_of i1 ⟨rfl, rfl⟩
        have k3 : K = 0 ∨ K = 1 ∨ K = 2 := by omega
        rcases k3 with e | e | e
        · subst e
          rw [if_pos ⟨rfl, rfl⟩, if_neg (fun w => by cases w.2), if_neg (fun w => by cases w.2)] at ih
          obtain ⟨f', i1, i2⟩ := ih (up2 g (m + 36) cc (nI (A0 + 1))) (by omega) (fun x hx => by rw [up2_a hx]; exact o x hx) up2_s (fun w => by rw [up2_k (by omega)]; exact g1 w) (by rw [up2_k (by omega)]; exact g2)
          refine ⟨f', go cc A0 (by omega) a0 (by rw [if_pos rfl]) g0 f' ?_, i2⟩
          rw [show max (max A0 (max A1 A2)) (A0 + 1) = max (A0 + 1) (max A1 A2) by omega]
          exact i1
        · subst e
          have kc := k1 rfl
          rw [if_neg (fun w => by cases w.2), if_pos ⟨rfl, rfl⟩, if_neg (fun w => by cases w.2)] at ih
          obtain ⟨f', i1, i2⟩ := ih (up2 g (m + 36) (cc - 1) (nI (A1 + 1))) (by omega) (fun x hx => by rw [up2_a hx]; exact o x hx) (by rw [up2_k (by omega)]; exact g0) (fun w => up2_s) (by rw [up2_k (by omega)]; exact g2)
          refine ⟨f', go (cc - 1) A1 (by omega) a1 (by rw [if_neg (by decide), if_pos rfl]) (g1 kc) f' ?_, i2⟩
          rw [show max (max A0 (max A1 A2)) (A1 + 1) = max A0 (max (A1 + 1) A2) by omega]
          exact i1
        · subst e
          rw [if_neg (fun w => by cases w.2), if_neg (fun w => by cases w.2), if_pos ⟨rfl, rfl⟩] at ih
          obtain ⟨f', i1, i2⟩ := ih (up2 g (m + 36) (cc + 1) (nI (A2 + 1))) (by omega) (fun x hx => by rw [up2_a hx]; exact o x hx) (by rw [up2_k (by omega)]; exact g0) (fun w => by rw [up2_k (by omega)]; exact g1 w) up2_s
          refine ⟨f', go (cc + 1) A2 (by omega) a2 (by rw [if_neg (by decide), if_neg (by decide)]) g2 f' ?_, i2⟩
          rw [show max (max A0 (max A1 A2)) (A2 + 1) = max A0 (max A1 (A2 + 1)) by omega]
          exact i1
  -- the first loop
  have L0 : ∀ q i g, i + q = 258 → (∀ x, x ≠ m + 36 → g x = f x) → (∀ j, j < i → g (m + 36) j = nI 0) → ∃ f', ev M_Mo_leftBy 0 3 [some (.ref m), some (.int (nI l)), some (.int (nI b)), some (.int (nI i)), none, none] [] (wI h g) = some (some (.int (nI (lft (aV S) l (fS S k) (aG0 S) b))), wI h f') ∧ (∀ x, x ≠ m + 36 → f' x = f x) := by
    intro q
    induction q with
    | zero =>
      intro i g hi o e
      have : i = 258 := by omega
      subst this
      obtain ⟨f', i1, i2⟩ := L (aW S * aW S + 1) 0 g (by omega) o (e _ (by omega)) (fun _ => e _ (by omega)) (e _ (by omega))
      refine ⟨f', wp_e ?_, i2⟩
      rw [r_Mo_leftBy_3]
      exact wp_bf (by decide) (wp_of i1 ⟨rfl, rfl⟩)
    | succ q ih =>
      intro i g hi o e
      obtain ⟨f', i1, i2⟩ := ih (i + 1) (up2 g (m + 36) i (nI 0)) (by omega) (fun x hx => by rw [up2_a hx]; exact o x hx) (fun j hj => by
        by_cases w : j = i
        · rw [w, up2_s]
        · rw [up2_k w]; exact e j (by omega))
      refine ⟨f', wp_e ?_, i2⟩
      rw [r_Mo_leftBy_3]
      refine wp_bt (by rw [nI_ltI (by omega) (by decide)]; omega) (wp_isC mc (wp_nnR ar36 (wp_isC ac36 (wp_inA an36 rfl (by omega) (by omega) ?_))))
      rw [nI_clamp (by omega), wI_s, nI_add]
      exact wp_of i1 ⟨rfl, rfl⟩
  rw [r_Mo_leftBy_0]
  exact L0 258 0 f rfl (fun _ _ => rfl) (fun j hj => absurd hj (Nat.not_lt_zero j))
theorem m_ask (C : MSH h m) (F : MF f m S) (W : WS S) (a w k : Int32) : ∃ f', ev M_Mo_ask 0 0 [some (.ref m), some (.int a), some (.int w), some (.int k), none, none, none, none, none] [] (wI h f) = some (some (.int (sAsk S a w k)), wI h f') ∧ MX m f f' := by
  have mc := C.1
  have ar2 : hR h m 12 = some (m + 2) := (C.2 1 (by decide)).1
  have an2 : hN h (m + 2) = 2 := (C.2 1 (by decide)).2.1
  have ac2 : hC h (m + 2) = 20 := (C.2 1 (by decide)).2.2
  have ar35 : hR h m 60 = some (m + 35) := (C.2 34 (by decide)).1
  have an35 : hN h (m + 35) = 257 := (C.2 34 (by decide)).2.1
  have ac35 : hC h (m + 35) = 20 := (C.2 34 (by decide)).2.2
  have hv : aV S ≤ 4 := W.2.2.1.1.2.1
  have h16 : aW S ≤ 16 := lv_p hv
  have V : GW (2 ^ aV S) (aG0 S) := aG0_W W 0
  have hnn : aW S * aW S ≤ 16 * 16 := Nat.mul_le_mul h16 h16
  have hp : 0 < aW S * aW S := Nat.mul_pos (Nat.two_pow_pos _) (Nat.two_pow_pos _)
  have g2 : f (m + 2) 0 = nI (aV S) := F.2.2.1.1
  have ra := mo_in0 (x := a) (n := aV S) (wI h f) (by omega)
  have rw' := mo_in0 (x := w) (n := 1) (wI h f) (by decide)
  rw [show 1 + 1 = 2 from rfl] at rw'
  unfold sAsk
  rw [r_Mo_ask_0]
  cases za : inN a (aV S + 1) with
  | none =>
    rw [za] at ra
    refine ⟨f, wp_e (wp_isC mc (wp_nnR ar2 (wp_isC ac2 (wp_inA (n := 0) an2 rfl (by decide) (by decide) ?_)))), MX.rf⟩
    rw [show (nI 0).toNatClampNeg = 0 from rfl, wI_I, g2]
    exact wp_rIe ra (wp_bt rfl (wp_s ⟨rfl, rfl⟩))
  | some l =>
    rw [za] at ra
    obtain ⟨ea, hl, -⟩ := inN_s za
    subst ea
    dsimp only [on]
    cases zw : inN w 2 with
    | none =>
      rw [zw] at rw'
      refine ⟨f, wp_e (wp_isC mc (wp_nnR ar2 (wp_isC ac2 (wp_inA (n := 0) an2 rfl (by decide) (by decide) ?_)))), MX.rf⟩
      rw [show (nI 0).toNatClampNeg = 0 from rfl, wI_I, g2]
      exact wp_rIe ra (wp_bf n10 (wp_rIe rw' (wp_bt rfl (wp_s ⟨rfl, rfl⟩))))
    | some t =>
      rw [zw] at rw'
      obtain ⟨ew, ht, -⟩ := inN_s zw
      subst ew
      dsimp only [on]
      obtain ⟨f1, l1, l2, l3⟩ := mo_first C F W
      have F1 := l3.F F
      -- the blocks
      have L2 : 0 < aR S → ∀ q i g x5 x6, i + q = 2 ^ (2 * l) → RF g (m + 34) 0 (aG0 S) → (∀ j, j < aW S * aW S + 1 → g (m + 35) j = nI (fbj (aV S) (aG0 S) k (aE S) j).toNat) → MX m f g → (i = 0 → x5 = mI 1 ∧ x6 = nI 0) → (0 < i → x5 = nI (bst (lft (aV S) l (fS S k) (aG0 S)) (ct (aW S) (fS S k).2 + (fS S k).1.toNat + 1) i).1 ∧ x6 = nI (bst (lft (aV S) l (fS S k) (aG0 S)) (ct (aW S) (fS S k).2 + (fS S k).1.toNat + 1) i).2) → ∃ f', ev M_Mo_ask 0 59 [some (.ref m), some (.int (nI l)), some (.int (nI t)), none, none, some (.int x5), some (.int x6), some (.int (nI i)), none] [] (wI h g) = some (some (.int (nI (if decide (t = 1) then (bst (lft (aV S) l (fS S k) (aG0 S)) (ct (aW S) (fS S k).2 + (fS S k).1.toNat + 1) (2 ^ (2 * l))).2 else (bst (lft (aV S) l (fS S k) (aG0 S)) (ct (aW S) (fS S k).2 + (fS S k).1.toNat + 1) (2 ^ (2 * l))).1))), wI h f') ∧ MX m f f' := by
        intro hr q
        have h2l : 2 ^ (2 * l) ≤ 2 ^ 8 := Nat.pow_le_pow_right (by decide) (by omega)
        have es : nI 1 <<< (nI 2 * nI l &&& 31) = nI (2 ^ (2 * l)) := by rw [pk_mul, nm_one (by omega)]
        induction q with
        | zero =>
          intro i g x5 x6 hi _ _ xg _ e2
          have hi : i = 2 ^ (2 * l) := by omega
          have hp := Nat.two_pow_pos (2 * l)
          obtain ⟨e5, e6⟩ := e2 (by omega)
          subst e5 e6
          refine ⟨g, wp_e ?_, xg⟩
          rw [r_Mo_ask_59, es, hi]
          refine wp_bf (by rw [nI_ltI (by omega) (by omega)]; omega) (wp_bi (nI_eq (by omega) (by decide)) (fun z => ?_) (fun z => ?_))
          · rw [decide_eq_false (by omega), if_neg (by decide)]; exact wp_s ⟨rfl, rfl⟩
          · rw [decide_eq_true (by omega), if_pos rfl]; exact wp_s ⟨rfl, rfl⟩
        | succ q ih =>
          intro i g x5 x6 hi RG hg xg e1 e2
          have hib : i < 2 ^ (2 * l) := by omega
          obtain ⟨g', b1, b2⟩ := mo_leftBy (b := i) C (xg.F F) W hr RG hg (show l ≤ aV S by omega) hib
          have xg' : MX m g g' := ⟨fun x _ _ h3 => b2 x (by omega), fun k _ _ => by rw [b2 m (by omega)]⟩
          have RG' : RF g' (m + 34) 0 (aG0 S) := fun r hr => by rw [b2 _ (by omega)]; exact RG r hr
          have hg' : ∀ j, j < aW S * aW S + 1 → g' (m + 35) j = nI (fbj (aV S) (aG0 S) k (aE S) j).toNat := fun j hj => by rw [b2 _ (by omega)]; exact hg j hj
          have ll : lft (aV S) l (fS S k) (aG0 S) i ≤ ct (aW S) (fS S k).2 + (fS S k).1.toNat := lft_le hv V (by omega) hib
          have tl : ct (aW S) (fS S k).2 + (fS S k).1.toNat ≤ 257 := by
            have t := fcn_all (k := k) (se := aE S) hv V
            have := fcn_le (v := aV S) (G := aG0 S) (k := k) (se := aE S) (2 ^ aV S * 2 ^ aV S + 1)
            have e : 2 ^ aV S * 2 ^ aV S = aW S * aW S := rfl
            rw [t] at this
            show ct (2 ^ aV S) _ + _ ≤ _
            unfold fS
            omega
          have bl := bst_le (L := lft (aV S) l (fS S k) (aG0 S)) (m := ct (aW S) (fS S k).2 + (fS S k).1.toNat + 1) i
          have eb : bst (lft (aV S) l (fS S k) (aG0 S)) (ct (aW S) (fS S k).2 + (fS S k).1.toNat + 1) (i + 1) = if lft (aV S) l (fS S k) (aG0 S) i < (bst (lft (aV S) l (fS S k) (aG0 S)) (ct (aW S) (fS S k).2 + (fS S k).1.toNat + 1) i).2 then (i, lft (aV S) l (fS S k) (aG0 S) i) else bst (lft (aV S) l (fS S k) (aG0 S)) (ct (aW S) (fS S k).2 + (fS S k).1.toNat + 1) i := rfl
          have b0 : i = 0 → (bst (lft (aV S) l (fS S k) (aG0 S)) (ct (aW S) (fS S k).2 + (fS S k).1.toNat + 1) i).2 = ct (aW S) (fS S k).2 + (fS S k).1.toNat + 1 := fun z => by rw [z]; rfl
          have ih2 := ih (i + 1) g'
          rw [eb] at ih2
          generalize bst (lft (aV S) l (fS S k) (aG0 S)) (ct (aW S) (fS S k).2 + (fS S k).1.toNat + 1) (2 ^ (2 * l)) = be at *
          generalize bst (lft (aV S) l (fS S k) (aG0 S)) (ct (aW S) (fS S k).2 + (fS S k).1.toNat + 1) i = bi at *
          generalize lft (aV S) l (fS S k) (aG0 S) i = Li at *
          generalize ct (aW S) (fS S k).2 + (fS S k).1.toNat = to at *
          have yes : Li < bi.2 → ∃ f', ev M_Mo_ask 0 59 [some (.ref m), some (.int (nI l)), some (.int (nI t)), none, none, some (.int (nI i)), some (.int (nI Li)), some (.int (nI (i + 1))), none] [] (wI h g') = some (some (.int (nI (if decide (t = 1) then be.2 else be.1))), wI h f') ∧ MX m f f' := fun z => by
            rw [if_pos z] at ih2
            exact ih2 (nI i) (nI Li) (by omega) RG' hg' (xg.tr xg') (fun z => by omega) (fun _ => ⟨rfl, rfl⟩)
          by_cases z0 : i = 0
          · obtain ⟨f', i1, i2⟩ := yes (by rw [b0 z0]; omega)
            obtain ⟨e5, e6⟩ := e1 z0
            refine ⟨f', wp_e ?_, i2⟩
            rw [r_Mo_ask_59, es]
            simp only [r_Mo_ask_79, r_Mo_ask_84, nI_add]
            exact wp_bt (by rw [nI_ltI (by omega) (by omega)]; omega) (wp_isC mc (wp_rIe b1 (wp_bt e5 (wp_of i1 ⟨rfl, rfl⟩))))
          · obtain ⟨e5, e6⟩ := e2 (by omega)
            have ne : ¬ x5 = mI 1 := fun y => by
              have := nI_pos (n := bi.1) (by omega)
              rw [← e5, y] at this
              exact this mI_neg
            by_cases z1 : Li < bi.2
            · obtain ⟨f', i1, i2⟩ := yes z1
              refine ⟨f', wp_e ?_, i2⟩
              rw [r_Mo_ask_59, es]
              simp only [r_Mo_ask_79, r_Mo_ask_84, nI_add]
              exact wp_bt (by rw [nI_ltI (by omega) (by omega)]; omega) (wp_isC mc (wp_rIe b1 (wp_bf ne (wp_bt (by rw [e6, nI_ltI (by omega) (by omega)]; exact z1) (wp_of i1 ⟨rfl, rfl⟩)))))
            · rw [if_neg z1] at ih2
              obtain ⟨f', i1, i2⟩ := ih2 x5 x6 (by omega) RG' hg' (xg.tr xg') (fun z => by omega) (fun _ => ⟨e5, e6⟩)
              refine ⟨f', wp_e ?_, i2⟩
              rw [r_Mo_ask_59, es]
              simp only [r_Mo_ask_79, r_Mo_ask_84, nI_add]
              exact wp_bt (by rw [nI_ltI (by omega) (by omega)]; omega) (wp_isC mc (wp_rIe b1 (wp_bf ne (wp_bf (by rw [e6, nI_ltI (by omega) (by omega)]; exact z1) (wp_of i1 ⟨rfl, rfl⟩)))))
      -- which ones fit
      have la := mo_last C F1 W
      by_cases z : aR S = 0
      · rw [if_pos z] at la ⊢
        have he : ev M_Mo_ask 0 22 [some (.ref m), some (.int (nI l)), some (.int (nI t)), some (.int k), some (.int (nI 0)), some (.int (mI 1)), none, none, none] [] (wI h f1) = some (some (.int (mI 1)), wI h f1) := by
          rw [r_Mo_ask_22]
          exact wp_e (wp_isC mc (wp_rIe la (wp_bt (by decide) (wp_bt rfl (wp_s ⟨rfl, rfl⟩)))))
        refine ⟨f1, wp_e ?_, l3⟩
        refine wp_isC mc (wp_nnR ar2 (wp_isC ac2 (wp_inA (n := 0) an2 rfl (by decide) (by decide) ?_)))
        rw [show (nI 0).toNatClampNeg = 0 from rfl, wI_I, g2]
        exact wp_rIe ra (wp_bf n10 (wp_rIe rw' (wp_bf n10 (wp_isC mc (wp_rVe l1 (wp_of he ⟨rfl, rfl⟩))))))
      · rw [if_neg z] at la ⊢
        have hr : 0 < aR S := by omega
        have R := l2 hr
        have L1 : ∀ q j g, j + q = aW S * aW S + 1 → RF g (m + 34) 0 (aG0 S) → (∀ i, i < j → g (m + 35) i = nI (fbj (aV S) (aG0 S) k (aE S) i).toNat) → MX m f g → ∃ f', ev M_Mo_ask 0 22 [some (.ref m), some (.int (nI l)), some (.int (nI t)), some (.int k), some (.int (nI (fcn (aV S) (aG0 S) k (aE S) j))), some (.int (tI j)), none, none, none] [] (wI h g) = some (some (.int (askc (aV S) l (fS S k) (aG0 S) (decide (t = 1)))), wI h f') ∧ MX m f f' := by
          intro q
          induction q with
          | zero =>
            intro j g hj RG hg xg
            have : j = aW S * aW S + 1 := by omega
            subst this
            have la := mo_last C (xg.F F) W
            rw [if_neg z] at la
            have ef : fcn (aV S) (aG0 S) k (aE S) (aW S * aW S + 1) = ct (aW S) (fS S k).2 + (fS S k).1.toNat := fcn_all (k := k) (se := aE S) hv V
            have fl := fcn_le (v := aV S) (G := aG0 S) (k := k) (se := aE S) (aW S * aW S + 1)
            rw [ef] at fl ⊢
            have ll : nI (aW S * aW S - 1) < tI (aW S * aW S + 1) := by rw [tI_s, nI_ltI (by omega) (by omega)]; omega
            have ea : askc (aV S) l (fS S k) (aG0 S) (decide (t = 1)) = if ct (aW S) (fS S k).2 + (fS S k).1.toNat = 0 then mI 1 else nI (if decide (t = 1) then (bst (lft (aV S) l (fS S k) (aG0 S)) (ct (aW S) (fS S k).2 + (fS S k).1.toNat + 1) (2 ^ (2 * l))).2 else (bst (lft (aV S) l (fS S k) (aG0 S)) (ct (aW S) (fS S k).2 + (fS S k).1.toNat + 1) (2 ^ (2 * l))).1) := rfl
            rw [ea]
            by_cases y : ct (aW S) (fS S k).2 + (fS S k).1.toNat = 0
            · rw [if_pos y, y]
              refine ⟨g, wp_e ?_, xg⟩
              rw [r_Mo_ask_22]
              exact wp_isC mc (wp_rIe la (wp_bt ll (wp_bt rfl (wp_s ⟨rfl, rfl⟩))))
            · rw [if_neg y]
              obtain ⟨f', i1, i2⟩ := L2 hr (2 ^ (2 * l)) 0 g (mI 1) (nI 0) (by omega) RG hg xg (fun _ => ⟨rfl, rfl⟩) (fun w => by omega)
              refine ⟨f', wp_e ?_, i2⟩
              rw [r_Mo_ask_22]
              exact wp_isC mc (wp_rIe la (wp_bt ll (wp_bf (by rw [nI_eq (by omega) (by decide)]; exact y) (wp_of i1 ⟨rfl, rfl⟩))))
          | succ q ih =>
            intro j g hj RG hg xg
            have la := mo_last C (xg.F F) W
            rw [if_neg z] at la
            have fb' := mo_fitsBy (j := j) (k := k) C (xg.F F) W RG V (by omega)
            have e : fcn (aV S) (aG0 S) k (aE S) (j + 1) = fcn (aV S) (aG0 S) k (aE S) j + (fbj (aV S) (aG0 S) k (aE S) j).toNat := rfl
            obtain ⟨f', i1, i2⟩ := ih (j + 1) (up2 g (m + 35) j (nI (fbj (aV S) (aG0 S) k (aE S) j).toNat)) (by omega) (fun r hr => by rw [up2_a (by omega)]; exact RG r hr) (fun i hi => by
              by_cases y : i = j
              · rw [y, up2_s]
              · rw [up2_k y]; exact hg i (by omega)) (xg.tr ⟨fun x _ _ h3 => up2_a (by omega), fun k _ _ => by rw [up2_a (by omega)]⟩)
            rw [e, tI_s] at i1
            refine ⟨f', wp_e ?_, i2⟩
            rw [r_Mo_ask_22, tI_1]
            refine wp_isC mc (wp_rIe la (wp_bf (last_lt hp (by omega) (by omega)) (wp_isC mc (wp_nnR ar35 (wp_isC mc (wp_rIe fb' (wp_rIe (mo_truth _ _) (wp_isC ac35 (wp_inA an35 rfl (by omega) (by omega) ?_)))))))))
            rw [nI_clamp (by omega), wI_s]
            refine wp_isC mc (wp_nnR ar35 (wp_isC ac35 (wp_inA an35 rfl (by omega) (by omega) ?_)))
            rw [wI_I, up2_s, nI_add]
            exact wp_of i1 ⟨rfl, rfl⟩
        obtain ⟨f', i1, i2⟩ := L1 (aW S * aW S + 1) 0 f1 (by omega) R (fun i hi => absurd hi (Nat.not_lt_zero i)) l3
        refine ⟨f', wp_e ?_, i2⟩
        refine wp_isC mc (wp_nnR ar2 (wp_isC ac2 (wp_inA (n := 0) an2 rfl (by decide) (by decide) ?_)))
        rw [show (nI 0).toNatClampNeg = 0 from rfl, wI_I, g2]
        exact wp_rIe ra (wp_bf n10 (wp_rIe rw' (wp_bf n10 (wp_isC mc (wp_rVe l1 (wp_of i1 ⟨rfl, rfl⟩))))))
end
