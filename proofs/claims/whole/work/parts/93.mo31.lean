/-! The plain form: the i-th that fits. -/
theorem cnt_le {p : Nat → Bool} {k : Nat} : ∀ {d : Nat}, cnt p k ≤ cnt p (k + d)
  | 0 => Nat.le_refl _
  | d + 1 => by
    rw [← Nat.add_assoc]
    show _ ≤ cnt p (k + d) + (p (k + d)).toNat
    have := cnt_le (p := p) (k := k) (d := d)
    omega
theorem nt_none {p : Nat → Bool} {i : Nat} : ∀ {k : Nat}, cnt p k ≤ i → nt p i k = none
  | 0, _ => rfl
  | k + 1, h => by
    have e : cnt p (k + 1) = cnt p k + (p k).toNat := rfl
    rw [nt, nt_none (by omega), if_neg]
    rintro ⟨h1, h2⟩
    rw [h1] at e
    have : (true).toNat = 1 := rfl
    omega
theorem nt_at {p : Nat → Bool} {i k m : Nat} (h1 : p k = true) (h2 : cnt p k = i) (h : k < m) : nt p i m = some k := by
  refine nt_some (k := k + 1) ?_ h
  rw [nt, nt_none (by omega), if_pos ⟨h1, h2⟩]
section
variable {v : Nat} {G : Rw} {k : Int32} {se : List Sn}
theorem cnt_r (hv : v ≤ 4) (V : GW (2 ^ v) G) {r : Nat} (hr : r ≤ 2 ^ v) : cnt (pb (ft v G k se).2) (16 * r) = sm (fun t => (fbj v G k se (t + 1)).toNat) (2 ^ v * r) := by
  have hp := Nat.two_pow_pos v
  have h16 := lv_p hv
  have FW := ft_W (G := G) (k := k) (se := se) hv
  have e1 := sm_nn (n := 16) (by decide) (fun r c => (((ft v G k se).2 r).testBit c).toNat) r
  have e2 := sm_nn hp (fun r c => (((ft v G k se).2 r).testBit c).toNat) r
  have e3 : sm (fun t => (fbj v G k se (t + 1)).toNat) (2 ^ v * r) = sm (fun t => (((ft v G k se).2 (t / 2 ^ v)).testBit (t % 2 ^ v)).toNat) (2 ^ v * r) := by
    apply sm_c
    intro t ht
    have a1 : t / 2 ^ v < r := Nat.div_lt_of_lt_mul ht
    have a2 : t % 2 ^ v < 2 ^ v := Nat.mod_lt _ hp
    rw [ft_t V (by omega) a2, Nat.div_add_mod]
  rw [e3, e2]
  refine Eq.trans e1 ?_
  apply sm_c
  intro i _
  have : sm (fun c => (((ft v G k se).2 i).testBit c).toNat) (2 ^ v + (16 - 2 ^ v)) = sm (fun c => (((ft v G k se).2 i).testBit c).toNat) (2 ^ v) := by
    rw [sm_a, sm_0 (n := 16 - 2 ^ v), Nat.add_zero]
    intro j _
    rw [FW.tb (Or.inr (by omega))]; rfl
  rw [show 2 ^ v + (16 - 2 ^ v) = 16 by omega] at this
  exact this
theorem cnt_f (hv : v ≤ 4) (V : GW (2 ^ v) G) {t : Nat} (ht : t < 2 ^ v * 2 ^ v) : cnt (pb (ft v G k se).2) (16 * (t / 2 ^ v) + t % 2 ^ v) + (ft v G k se).1.toNat = fcn v G k se (t + 1) := by
  have hp := Nat.two_pow_pos v
  have h16 := lv_p hv
  have hr : t / 2 ^ v < 2 ^ v := Nat.div_lt_of_lt_mul ht
  have hc : t % 2 ^ v < 2 ^ v := Nat.mod_lt _ hp
  unfold fcn
  rw [sm_1, ft_0, Nat.add_comm]
  congr 1
  have := cnt_r (k := k) (se := se) hv V (r := t / 2 ^ v) (by omega)
  have et : sm (fun t => (fbj v G k se (t + 1)).toNat) t = sm (fun t => (fbj v G k se (t + 1)).toNat) (2 ^ v * (t / 2 ^ v) + t % 2 ^ v) := by rw [Nat.div_add_mod]
  rw [et, sm_a, ← this]
  unfold cnt
  rw [sm_a]
  congr 1
  apply sm_c
  intro j hj
  show (pb (ft v G k se).2 (16 * (t / 2 ^ v) + j)).toNat = _
  unfold pb
  rw [show (16 * (t / 2 ^ v) + j) / 16 = t / 2 ^ v by omega, show (16 * (t / 2 ^ v) + j) % 16 = j by omega, ft_t V hr (by omega)]
theorem cnt_end (hv : v ≤ 4) (V : GW (2 ^ v) G) : cnt (pb (ft v G k se).2) 256 + (ft v G k se).1.toNat = fcn v G k se (2 ^ v * 2 ^ v + 1) := by
  have h16 := lv_p hv
  have FW := ft_W (G := G) (k := k) (se := se) hv
  have := cnt_r (k := k) (se := se) hv V (r := 2 ^ v) (Nat.le_refl _)
  have e : cnt (pb (ft v G k se).2) (16 * 2 ^ v + (256 - 16 * 2 ^ v)) = cnt (pb (ft v G k se).2) (16 * 2 ^ v) := cnt_skip (fun j hj => by
    unfold pb
    exact FW.tb (Or.inl (by omega)))
  rw [show 16 * 2 ^ v + (256 - 16 * 2 ^ v) = 256 by omega] at e
  unfold fcn
  rw [sm_1, ft_0, e, this, Nat.add_comm]
theorem fitc_at (hv : v ≤ 4) (V : GW (2 ^ v) G) {j i : Nat} (hi : i < 2 ^ 31) (hj : j ≤ 2 ^ v * 2 ^ v) (h1 : fbj v G k se j = true) (h2 : fcn v G k se j = i) : fitc (2 ^ v) (ft v G k se) (nI i) = tI j := by
  have hp := Nat.two_pow_pos v
  have h16 := lv_p hv
  unfold fitc
  rw [if_neg (show ¬ nI i < nI 0 from nI_pos hi)]
  cases j with
  | zero =>
    have : i = 0 := h2.symm
    subst this
    rw [if_pos ⟨ft_0.trans h1, rfl⟩]; rfl
  | succ t =>
    have hr : t / 2 ^ v < 2 ^ v := Nat.div_lt_of_lt_mul (by omega)
    have hc : t % 2 ^ v < 2 ^ v := Nat.mod_lt _ hp
    have c := cnt_f (k := k) (se := se) hv V (t := t) (by omega)
    rw [h2] at c
    have pt : pb (ft v G k se).2 (16 * (t / 2 ^ v) + t % 2 ^ v) = true := by
      unfold pb
      rw [show (16 * (t / 2 ^ v) + t % 2 ^ v) / 16 = t / 2 ^ v by omega, show (16 * (t / 2 ^ v) + t % 2 ^ v) % 16 = t % 2 ^ v by omega, ft_t V hr hc, Nat.div_add_mod]
      exact h1
    have fin : nI ((16 * (t / 2 ^ v) + t % 2 ^ v) / 16 * 2 ^ v + (16 * (t / 2 ^ v) + t % 2 ^ v) % 16) = tI (t + 1) := by
      rw [show (16 * (t / 2 ^ v) + t % 2 ^ v) / 16 = t / 2 ^ v by omega, show (16 * (t / 2 ^ v) + t % 2 ^ v) % 16 = t % 2 ^ v by omega, Nat.mul_comm, Nat.div_add_mod, tI_s]
    cases z : (ft v G k se).1 with
    | false =>
      rw [z] at c
      rw [if_neg (fun w => by cases w.1), if_neg (by decide), nI_clamp hi, nt_at (i := i) (m := 256) pt c (by omega)]
      exact fin
    | true =>
      rw [z] at c
      have c : cnt (pb (ft v G k se).2) (16 * (t / 2 ^ v) + t % 2 ^ v) + 1 = i := c
      rw [if_neg (fun w => by have := (nI_eq hi (by decide)).mp w.2; omega), if_pos rfl, nm_m1 (by omega), nI_clamp (by omega), nt_at (i := i - 1) (m := 256) pt (by omega) (by omega)]
      exact fin
theorem fitc_end (hv : v ≤ 4) (V : GW (2 ^ v) G) {i : Nat} (hi : i < 2 ^ 31) (h2 : fcn v G k se (2 ^ v * 2 ^ v + 1) ≤ i) : fitc (2 ^ v) (ft v G k se) (nI i) = mI 2 := by
  have c := cnt_end (k := k) (se := se) hv V
  unfold fitc
  rw [if_neg (show ¬ nI i < nI 0 from nI_pos hi)]
  cases z : (ft v G k se).1 with
  | false =>
    rw [z] at c
    have c : cnt (pb (ft v G k se).2) 256 + 0 = _ := c
    rw [if_neg (fun w => by cases w.1), if_neg (by decide), nI_clamp hi, nt_none (by omega)]
  | true =>
    rw [z] at c
    have c : cnt (pb (ft v G k se).2) 256 + 1 = _ := c
    rw [if_neg (fun w => by have := (nI_eq hi (by decide)).mp w.2; omega), if_pos rfl, nm_m1 (by omega), nI_clamp (by omega), nt_none (by omega)]
end
section
variable {h : MH} {f : Nat → Nat → Int32} {m : Nat} {S : Abs}
theorem fcn_le {v : Nat} {G : Rw} {k : Int32} {se : List Sn} (j : Nat) : fcn v G k se j ≤ j := by
  have := sm_le (F := fun j => (fbj v G k se j).toNat) (b := 1) (n := j) (fun i _ => Bool.toNat_le _)
  rw [Nat.mul_one] at this
  exact this
theorem m_fit (C : MSH h m) (F : MF f m S) (W : WS S) (x k : Int32) : ∃ f', ev M_Mo_fit 0 0 [some (.ref m), some (.int x), some (.int k), none, none] [] (wI h f) = some (some (.int (sFit S x k)), wI h f') ∧ MX m f f' := by
  have mc := C.1
  have hv : aV S ≤ 4 := W.2.2.1.1.2.1
  have h16 : aW S ≤ 16 := lv_p hv
  obtain ⟨f', l1, l2, l3⟩ := mo_first C F W
  have F1 := l3.F F
  have la := mo_last C F1 W
  refine ⟨f', ?_, l3⟩
  rw [r_Mo_fit_0]
  unfold sFit
  by_cases z : aR S = 0
  · rw [if_pos z] at la ⊢
    refine wp_e (wp_isC mc (wp_rVe l1 ?_))
    rw [r_Mo_fit_7]
    exact wp_isC mc (wp_rIe la (wp_bt (by decide) (wp_s ⟨rfl, rfl⟩)))
  · rw [if_neg z] at la ⊢
    have R := l2 (by omega)
    have V : GW (2 ^ aV S) (aG0 S) := aG0_W W 0
    have hnn : aW S * aW S ≤ 16 * 16 := Nat.mul_le_mul h16 h16
    have hp : 0 < aW S * aW S := Nat.mul_pos (Nat.two_pow_pos _) (Nat.two_pow_pos _)
    refine wp_e (wp_isC mc (wp_rVe l1 ?_))
    by_cases zx : x < nI 0
    · rw [r_Mo_fit_7]
      unfold fitc
      rw [if_pos zx]
      exact wp_isC mc (wp_rIe la (wp_bf (last_lt (j := 0) hp (by omega) (by omega)) (wp_bt zx (wp_s ⟨rfl, rfl⟩))))
    · obtain ⟨i, hi, e⟩ := nI_of zx
      subst e
      have L : ∀ q j, j + q = aW S * aW S + 1 → fcn (aV S) (aG0 S) k (aE S) j ≤ i → ev M_Mo_fit 0 7 [some (.ref m), some (.int (nI i)), some (.int k), some (.int (nI (fcn (aV S) (aG0 S) k (aE S) j))), some (.int (tI j))] [] (wI h f') = some (some (.int (fitc (aW S) (fS S k) (nI i))), wI h f') := by
        intro q
        induction q with
        | zero =>
          intro j hj hi2
          have : j = aW S * aW S + 1 := by omega
          subst this
          have := fitc_end hv V hi hi2
          rw [r_Mo_fit_7, tI_s]
          exact wp_e (wp_isC mc (wp_rIe la (wp_bt (by rw [nI_ltI (by omega) (by omega)]; omega) (wp_s ⟨congrArg (fun x => some (Value.int x)) this.symm, rfl⟩))))
        | succ q ih =>
          intro j hj hi2
          have ih := ih (j + 1) (by omega)
          have fb' := mo_fitsBy (j := j) (k := k) C F1 W R V (by omega)
          have e : fcn (aV S) (aG0 S) k (aE S) (j + 1) = fcn (aV S) (aG0 S) k (aE S) j + (fbj (aV S) (aG0 S) k (aE S) j).toNat := rfl
          have fl := fcn_le (v := aV S) (G := aG0 S) (k := k) (se := aE S) j
          rw [e, tI_s] at ih
          rw [r_Mo_fit_7]
          simp only [r_Mo_fit_26]
          rw [tI_1]
          refine wp_e (wp_isC mc (wp_rIe la (wp_bf (last_lt hp (by omega) (by omega)) (wp_bf zx (wp_isC mc (wp_rIe fb' ?_))))))
          cases zf : fbj (aV S) (aG0 S) k (aE S) j with
          | false =>
            rw [zf] at ih
            exact wp_bt rfl (wp_of (ih (by show _ + 0 ≤ _; omega)) ⟨rfl, rfl⟩)
          | true =>
            rw [zf] at ih
            refine wp_bf n10 (wp_bi (nI_eq (by omega) hi) (fun w => ?_) (fun w => ?_))
            · exact wp_s ⟨congrArg (fun x => some (Value.int x)) (fitc_at hv V hi (by show j ≤ aW S * aW S; omega) zf w).symm, rfl⟩
            · rw [nI_add]
              exact wp_of (ih (by show _ + 1 ≤ _; omega)) ⟨rfl, rfl⟩
      exact wp_of (L (aW S * aW S + 1) 0 (by omega) (Nat.zero_le _)) ⟨rfl, rfl⟩
end
