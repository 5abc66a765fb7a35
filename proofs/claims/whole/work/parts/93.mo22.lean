/-! The plain form: what is reached, in how few steps, both ways; closures, parts. -/
theorem ff_x {p : Nat → Bool} {n : Nat} : ∀ {m : Nat}, n ≤ m → (∀ k, n ≤ k → k < m → p k = true → ∃ j, j < n ∧ p j = true) → ff p m = ff p n
  | 0, h, _ => by rw [show n = 0 by omega]
  | m + 1, h, hp => by
    by_cases e : n = m + 1
    · rw [e]
    · have ih := ff_x (p := p) (n := n) (m := m) (by omega) (fun k h1 h2 => hp k h1 (by omega))
      rw [ff, ih]
      cases z : ff p n with
      | some q => rfl
      | none =>
        dsimp only
        have nope : ∀ j, j < n → p j = false := by
          have key : ∀ k, ff p k = none → ∀ j, j < k → p j = false := by
            intro k
            induction k with
            | zero => intro _ j hj; omega
            | succ k ihk =>
              intro hk j hj
              rw [ff] at hk
              cases w : ff p k with
              | some q => rw [w] at hk; cases hk
              | none =>
                rw [w] at hk
                dsimp only at hk
                by_cases e : j = k
                · subst e
                  cases y : p j with
                  | false => rfl
                  | true => rw [y, if_pos rfl] at hk; cases hk
                · exact ihk w j (by omega)
          exact key n z
        rw [if_neg]
        intro w
        obtain ⟨j, h1, h2⟩ := hp m (by omega) (by omega) w
        rw [nope j h1] at h2
        cases h2
section
variable {h : MH} {f : Nat → Nat → Int32} {m : Nat} {S : Abs}
theorem mo_reach {k n i : Nat} {G : Rw} (C : MSH h m) (hk : k < 5) (hi : i < n) (R : RF f (m + 18) (16 * k) G) (V : GW n G) : ev M_Mo_reachedFrom 0 0 [some (.ref m), some (.int (nI k)), some (.int (nI i)), none, none] [] (wI h f) = some (some (.int (nI (rch n G (2 ^ i) n))), wI h f) := by
  have mc := C.1
  have ar18 : hR h m 38 = some (m + 18) := (C.2 17 (by decide)).1
  have an18 : hN h (m + 18) = 80 := (C.2 17 (by decide)).2.1
  have ac18 : hC h (m + 18) = 20 := (C.2 17 (by decide)).2.2
  have h16 := V.1
  have hp := Nat.two_pow_pos i
  have hs : 2 ^ i < 2 ^ n := Nat.pow_lt_pow_right (by decide) hi
  have hlt : ∀ q, rch n G (2 ^ i) q < 2 ^ 16 := fun q => Nat.lt_of_lt_of_le (rch_lt V.2.1 hs q) (Nat.pow_le_pow_right (by decide) h16)
  have L : ∀ q j, j + q = n + 1 → ev M_Mo_reachedFrom 0 7 [some (.ref m), some (.int (nI k)), none, some (.int (nI (rch n G (2 ^ i) (j + 1)))), some (.int (nI (rch n G (2 ^ i) j)))] [] (wI h f) = some (some (.int (nI (rch n G (2 ^ i) n))), wI h f) := by
    intro q
    induction q with
    | zero =>
      intro j hj
      have e1 : rch n G (2 ^ i) (j + 1) = rch n G (2 ^ i) n := rch_n V (by omega) hs (by omega)
      have e2 : rch n G (2 ^ i) j = rch n G (2 ^ i) n := rch_n V (by omega) hs (by omega)
      rw [e1, e2, r_Mo_reachedFrom_7]
      exact wp_e (wp_bt rfl (wp_s ⟨rfl, rfl⟩))
    | succ q ih =>
      intro j hj
      have b1 := hlt j
      have b2 := hlt (j + 1)
      rw [r_Mo_reachedFrom_7]
      apply wp_e
      refine wp_bi (nI_eq (by omega) (by omega)) (fun z => ?_) (fun z => ?_)
      · have := rch_e V (by omega) hs z
        rw [z, this]
        exact wp_s ⟨rfl, rfl⟩
      · refine wp_isC mc (wp_nnR ar18 ?_)
        rw [pk_mul]
        refine wp_rIe (mo_through ac18 an18 (by omega) (by decide) R V.lt b2) ?_
        rw [sf_16 V, nm_or]
        exact wp_of (ih (j + 1) (by omega)) ⟨rfl, rfl⟩
  rw [r_Mo_reachedFrom_0, nm_one (by omega), r_Mo_reachedFrom_7]
  have b0 := hlt 0
  have b0 : 2 ^ i < 2 ^ 16 := b0
  refine wp_e (wp_bf (by rw [nI_eq (by omega) (by decide)]; omega) (wp_isC mc (wp_nnR ar18 ?_)))
  rw [pk_mul]
  refine wp_rIe (mo_through ac18 an18 (by omega) (by decide) R V.lt b0) ?_
  rw [sf_16 V, nm_or]
  exact wp_of (L (n + 1) 0 (by omega)) ⟨rfl, rfl⟩
theorem m_reached (C : MSH h m) (F : MF f m S) (W : WS S) (a b : Int32) : ∃ f', ev M_Mo_reached 0 0 [some (.ref m), some (.int a), some (.int b)] [] (wI h f) = some (some (.int (sReach S a b)), wI h f') ∧ MX m f f' := by
  have mc := C.1
  have hr5 : aR S ≤ 5 := W.2.2.1.1.2.2.2.1
  have ra := mo_rel C F W a
  have rb := mo_node C F W b
  rw [r_Mo_reached_0]
  unfold sReach
  cases za : inN a (aR S) with
  | none =>
    rw [za] at ra
    exact ⟨f, wp_e (wp_isC mc (wp_rIe ra (wp_bt rfl (wp_s ⟨rfl, rfl⟩)))), MX.rf⟩
  | some k =>
    rw [za] at ra
    obtain ⟨ea, k1, -⟩ := inN_s za
    subst ea
    dsimp only [on]
    cases zb : inN b (aW S) with
    | none =>
      rw [zb] at rb
      exact ⟨f, wp_e (wp_isC mc (wp_rIe ra (wp_bf n10 (wp_isC mc (wp_rIe rb (wp_bt rfl (wp_s ⟨rfl, rfl⟩))))))), MX.rf⟩
    | some i =>
      rw [zb] at rb
      obtain ⟨eb', i1, -⟩ := inN_s zb
      subst eb'
      obtain ⟨f', l1, l2, l3⟩ := mo_L C F W
      obtain ⟨R, V⟩ := l2 k k1
      exact ⟨f', wp_e (wp_isC mc (wp_rIe ra (wp_bf n10 (wp_isC mc (wp_rIe rb (wp_bf n10 (wp_isC mc (wp_rVe l1 (wp_isC mc (wp_rIe (mo_reach C (by omega) i1 R V) (wp_s ⟨rfl, rfl⟩))))))))))), l3⟩
theorem m_far (C : MSH h m) (F : MF f m S) (W : WS S) (a b c : Int32) : ∃ f', ev M_Mo_far 0 0 [some (.ref m), some (.int a), some (.int b), some (.int c), none, none] [] (wI h f) = some (some (.int (sFar S a b c)), wI h f') ∧ MX m f f' := by
  have mc := C.1
  have ar18 : hR h m 38 = some (m + 18) := (C.2 17 (by decide)).1
  have an18 : hN h (m + 18) = 80 := (C.2 17 (by decide)).2.1
  have ac18 : hC h (m + 18) = 20 := (C.2 17 (by decide)).2.2
  have hv : aV S ≤ 4 := W.2.2.1.1.2.1
  have hr5 : aR S ≤ 5 := W.2.2.1.1.2.2.2.1
  have pr := mo_arePair C F W a b c
  rw [r_Mo_far_0]
  unfold sFar
  cases za : inN a (aR S) with
  | none =>
    rw [za] at pr
    exact ⟨f, wp_e (wp_isC mc (wp_rIe pr (wp_bt rfl (wp_s ⟨rfl, rfl⟩)))), MX.rf⟩
  | some k =>
    cases zb : inN b (aW S) with
    | none =>
      rw [za, zb] at pr
      exact ⟨f, wp_e (wp_isC mc (wp_rIe pr (wp_bt rfl (wp_s ⟨rfl, rfl⟩)))), MX.rf⟩
    | some i =>
      cases zc : inN c (aW S) with
      | none =>
        rw [za, zb, zc] at pr
        exact ⟨f, wp_e (wp_isC mc (wp_rIe pr (wp_bt rfl (wp_s ⟨rfl, rfl⟩)))), MX.rf⟩
      | some j =>
        rw [za, zb, zc] at pr
        obtain ⟨e1, k1, -⟩ := inN_s za
        obtain ⟨e2, k2, -⟩ := inN_s zb
        obtain ⟨e3, k3, -⟩ := inN_s zc
        subst e1
        subst e2
        subst e3
        dsimp only [on]
        obtain ⟨f', l1, l2, l3⟩ := mo_L C F W
        obtain ⟨R, V⟩ := l2 k k1
        have h16 : aW S ≤ 16 := lv_p hv
        generalize aG S k = G at R V
        generalize aW S = n at *
        have hp := Nat.two_pow_pos i
        have hs : 2 ^ i < 2 ^ n := Nat.pow_lt_pow_right (by decide) k2
        have hlt : ∀ q, rch n G (2 ^ i) q < 2 ^ 16 := fun q => Nat.lt_of_lt_of_le (rch_lt V.2.1 hs q) (Nat.pow_le_pow_right (by decide) h16)
        have ex : ff (fun m => (rch n G (2 ^ i) m).testBit j) n = ff (fun m => (rch n G (2 ^ i) m).testBit j) 16 := (ff_x h16 (fun q h1 h2 h3 => by
          refine ⟨n - 1, by omega, ?_⟩
          show (rch n G (2 ^ i) (n - 1)).testBit j = true
          rw [rch_n (k := n - 1) V (by omega) hs (by omega), ← rch_n (k := q) V (by omega) hs (by omega)]
          exact h3)).symm
        rw [ex]
        have L : ∀ q d, d + q = 16 → ff (fun m => (rch n G (2 ^ i) m).testBit j) d = none → ev M_Mo_far 0 17 [some (.ref m), some (.int (nI k)), none, some (.int (nI j)), some (.int (nI (rch n G (2 ^ i) d))), some (.int (nI d))] [] (wI h f') = some (some (.int (oI (ff (fun m => (rch n G (2 ^ i) m).testBit j) 16))), wI h f') := by
          intro q
          induction q with
          | zero =>
            intro d hd hz
            have : d = 16 := by omega
            subst this
            rw [r_Mo_far_17, hz]
            exact wp_e (wp_bf (by decide) (wp_s ⟨rfl, rfl⟩))
          | succ q ih =>
            intro d hd hz
            have b1 := hlt d
            have fn := ff_n hz
            rw [r_Mo_far_17]
            refine wp_e (wp_bt (by rw [nI_ltI (by omega) (by decide)]; omega) (wp_rIe (mo_isOf _ (by omega) (by omega)) ?_))
            cases z : (rch n G (2 ^ i) d).testBit j with
            | true =>
              rw [z, if_pos rfl] at fn
              rw [ff_some fn (by omega)]
              exact wp_bf n10 (wp_s ⟨rfl, rfl⟩)
            | false =>
              rw [z, if_neg (by decide)] at fn
              refine wp_bt rfl (wp_isC mc (wp_nnR ar18 ?_))
              rw [pk_mul]
              refine wp_rIe (mo_through ac18 an18 (by omega) (by decide) R V.lt b1) ?_
              rw [sf_16 V, nm_or, nI_add]
              exact wp_of (ih (d + 1) (by omega) fn) ⟨rfl, rfl⟩
        refine ⟨f', wp_e (wp_isC mc (wp_rIe pr (wp_bf n10 (wp_isC mc (wp_rVe l1 ?_))))), l3⟩
        rw [nm_one (by omega)]
        exact wp_of (L 16 0 rfl rfl) ⟨rfl, rfl⟩
theorem m_mutual (C : MSH h m) (F : MF f m S) (W : WS S) (a b : Int32) : ∃ f', ev M_Mo_mutual 0 0 [some (.ref m), some (.int a), some (.int b), none, none, none] [] (wI h f) = some (some (.int (sMut S a b)), wI h f') ∧ MX m f f' := by
  have mc := C.1
  have hv : aV S ≤ 4 := W.2.2.1.1.2.1
  have hr5 : aR S ≤ 5 := W.2.2.1.1.2.2.2.1
  have ra := mo_rel C F W a
  have rb := mo_node C F W b
  rw [r_Mo_mutual_0]
  unfold sMut
  cases za : inN a (aR S) with
  | none =>
    rw [za] at ra
    exact ⟨f, wp_e (wp_isC mc (wp_rIe ra (wp_bt rfl (wp_s ⟨rfl, rfl⟩)))), MX.rf⟩
  | some k =>
    rw [za] at ra
    obtain ⟨ea, k1, -⟩ := inN_s za
    subst ea
    dsimp only [on]
    cases zb : inN b (aW S) with
    | none =>
      rw [zb] at rb
      exact ⟨f, wp_e (wp_isC mc (wp_rIe ra (wp_bf n10 (wp_isC mc (wp_rIe rb (wp_bt rfl (wp_s ⟨rfl, rfl⟩))))))), MX.rf⟩
    | some i =>
      rw [zb] at rb
      obtain ⟨eb', i1, -⟩ := inN_s zb
      subst eb'
      dsimp only
      obtain ⟨f', l1, l2, l3⟩ := mo_L C F W
      obtain ⟨R, V⟩ := l2 k k1
      have wd := mo_wide C (l3.F F).2.2.1.1 hv (h := h)
      have h16 : aW S ≤ 16 := lv_p hv
      have hn : 2 ^ aV S = aW S := rfl
      have hre := fun j (hj : j < aW S) => mo_reach (h := h) (f := f') C (show k < 5 by omega) hj R V
      generalize aG S k = G at *
      generalize aW S = n at *
      have hlt : ∀ j, j < n → rch n G (2 ^ j) n < 2 ^ 16 := fun j hj => Nat.lt_of_lt_of_le (rch_lt V.2.1 (Nat.pow_lt_pow_right (by decide) hj) n) (Nat.pow_le_pow_right (by decide) h16)
      have ex : rch n G (2 ^ i) n &&& rch n (tp n G) (2 ^ i) n = orr (fun j => if ((rch n G (2 ^ i) n).testBit j && (rch n G (2 ^ j) n).testBit i) = true then 2 ^ j else 0) n := by
        have Vt : GW n (tp n G) := GW.tp h16
        apply sbs_eq
        · intro j hj
          rw [Nat.testBit_and, Bool.and_eq_true] at hj
          have jn : j < n := by
            by_cases z : j < n
            · exact z
            · rw [Nat.testBit_lt_two_pow (Nat.lt_of_lt_of_le (rch_lt V.2.1 (Nat.pow_lt_pow_right (by decide) i1) n) (Nat.pow_le_pow_right (by decide) (by omega)))] at hj
              cases hj.1
          rw [orr_t]
          refine ⟨j, jn, ?_⟩
          obtain ⟨l, h1, h2⟩ := (rch_p Vt).mp hj.2
          rw [if_pos (by rw [hj.1, (rch_p V).mpr ⟨l, h1, (pth_tp V).mp h2⟩]; rfl), Nat.testBit_two_pow_self]
        · intro j hj
          obtain ⟨r, h1, h2⟩ := orr_t.mp hj
          by_cases z : ((rch n G (2 ^ i) n).testBit r && (rch n G (2 ^ r) n).testBit i) = true
          · rw [if_pos z, Nat.testBit_two_pow] at h2
            have := of_decide_eq_true h2
            subst this
            rw [Bool.and_eq_true] at z
            obtain ⟨l, h3, h4⟩ := (rch_p V).mp z.2
            rw [Nat.testBit_and, z.1, (rch_p Vt).mpr ⟨l, h3, (pth_tp V).mpr h4⟩]
            rfl
          · rw [if_neg z, Nat.zero_testBit] at h2; cases h2
      rw [ex]
      have L : ∀ q j, j + q = n → ev M_Mo_mutual 0 22 [some (.ref m), some (.int (nI k)), some (.int (nI i)), some (.int (nI (rch n G (2 ^ i) n))), some (.int (nI (orr (fun j => if ((rch n G (2 ^ i) n).testBit j && (rch n G (2 ^ j) n).testBit i) = true then 2 ^ j else 0) j))), some (.int (nI j))] [] (wI h f') = some (some (.int (nI (orr (fun j => if ((rch n G (2 ^ i) n).testBit j && (rch n G (2 ^ j) n).testBit i) = true then 2 ^ j else 0) n))), wI h f') := by
        intro q
        induction q with
        | zero =>
          intro j hj
          have : j = n := by omega
          rw [r_Mo_mutual_22, this]
          exact wp_e (wp_isC mc (wp_rIe wd (wp_bf (by rw [hn, nI_ltI (by omega) (by omega)]; omega) (wp_s ⟨rfl, rfl⟩))))
        | succ q ih =>
          intro j hj
          have ih := ih (j + 1) (by omega)
          rw [orr.eq_2] at ih
          have b1 := hlt i i1
          have b2 := hlt j (by omega)
          rw [r_Mo_mutual_22]
          refine wp_e (wp_isC mc (wp_rIe wd (wp_bt (by rw [hn, nI_ltI (by omega) (by omega)]; omega) (wp_rIe (mo_isOf _ (by omega) (by omega)) ?_))))
          cases z : (rch n G (2 ^ i) n).testBit j with
          | false =>
            refine wp_bt rfl ?_
            rw [z, Bool.false_and, if_neg (by decide)] at ih
            rw [r_Mo_mutual_43, r_Mo_mutual_45, nm_or, nI_add]
            exact wp_of ih ⟨rfl, rfl⟩
          | true =>
            refine wp_bf n10 (wp_isC mc (wp_rIe (hre j (by omega)) (wp_rIe (mo_isOf _ (by omega) (by omega)) ?_)))
            cases y : (rch n G (2 ^ j) n).testBit i with
            | false =>
              refine wp_bt rfl ?_
              rw [y, Bool.and_false, if_neg (by decide)] at ih
              rw [r_Mo_mutual_43, r_Mo_mutual_45, nm_or, nI_add]
              exact wp_of ih ⟨rfl, rfl⟩
            | true =>
              refine wp_bf n10 ?_
              rw [z, y, if_pos (show (true && true) = true from rfl)] at ih
              rw [r_Mo_mutual_45, nm_one (by omega), nm_or, nI_add]
              exact wp_of ih ⟨rfl, rfl⟩
      exact ⟨f', wp_e (wp_isC mc (wp_rIe ra (wp_bf n10 (wp_isC mc (wp_rIe rb (wp_bf n10 (wp_isC mc (wp_rVe l1 (wp_isC mc (wp_rIe (hre i i1) (wp_of (L n 0 (by omega)) ⟨rfl, rfl⟩))))))))))), l3⟩
theorem m_closure (C : MSH h m) (F : MF f m S) (W : WS S) (a : Int32) : ∃ f', ev M_Mo_closure 0 0 [some (.ref m), some (.int a), none, none, none, none] [] (wI h f) = some (some (.int (sClos S a)), wI h f') ∧ MX m f f' := by
  have mc := C.1
  have ar18 : hR h m 38 = some (m + 18) := (C.2 17 (by decide)).1
  have an18 : hN h (m + 18) = 80 := (C.2 17 (by decide)).2.1
  have ac18 : hC h (m + 18) = 20 := (C.2 17 (by decide)).2.2
  have hv : aV S ≤ 4 := W.2.2.1.1.2.1
  have hr5 : aR S ≤ 5 := W.2.2.1.1.2.2.2.1
  have ra := mo_rel C F W a
  rw [r_Mo_closure_0]
  unfold sClos
  cases za : inN a (aR S) with
  | none =>
    rw [za] at ra
    exact ⟨f, wp_e (wp_isC mc (wp_rIe ra (wp_bt rfl (wp_s ⟨rfl, rfl⟩)))), MX.rf⟩
  | some k =>
    rw [za] at ra
    obtain ⟨ea, k1, -⟩ := inN_s za
    subst ea
    dsimp only [on]
    obtain ⟨f', l1, l2, l3⟩ := mo_L C F W
    obtain ⟨R, V⟩ := l2 k k1
    have wd := mo_wide C (l3.F F).2.2.1.1 hv (h := h)
    have h16 : aW S ≤ 16 := lv_p hv
    have hn : 2 ^ aV S = aW S := rfl
    have hre := fun j (hj : j < aW S) => mo_reach (h := h) (f := f') C (show k < 5 by omega) hj R V
    generalize aG S k = G at *
    generalize aW S = n at *
    have hlt : ∀ j, j < n → rch n G (2 ^ j) n < 2 ^ 16 := fun j hj => Nat.lt_of_lt_of_le (rch_lt V.2.1 (Nat.pow_lt_pow_right (by decide) hj) n) (Nat.pow_le_pow_right (by decide) h16)
    -- a row of the closure
    have ex : ∀ r, gos n G (ngo n G 16) r = orr (fun j => if (G r).testBit j then rch n G (2 ^ j) n else 0) n := by
      intro r
      apply sbs_eq
      · intro c hc
        obtain ⟨j, h1, h2⟩ := (clo_t V).mp hc
        rw [orr_t]
        exact ⟨j, (V.in h1).2, by rw [if_pos h1]; exact h2⟩
      · intro c hc
        obtain ⟨j, h1, h2⟩ := orr_t.mp hc
        by_cases z : (G r).testBit j = true
        · rw [if_pos z] at h2
          exact (clo_t V).mpr ⟨j, z, h2⟩
        · rw [if_neg z, Nat.zero_testBit] at h2; cases h2
    have L : ∀ q r, r + q = n → ev M_Mo_closure 0 13 [some (.ref m), some (.int (nI k)), some (.int (nI (sm (fun r => bc (gos n G (ngo n G 16) r)) r))), some (.int (nI r)), none, none] [] (wI h f') = some (some (.int (nI (ct n (gos n G (ngo n G 16))))), wI h f') := by
      intro q
      induction q with
      | zero =>
        intro r hr
        have : r = n := by omega
        rw [r_Mo_closure_13, this]
        exact wp_e (wp_isC mc (wp_rIe wd (wp_bf (by rw [hn, nI_ltI (by omega) (by omega)]; omega) (wp_s ⟨rfl, rfl⟩))))
      | succ q ih =>
        intro r hr
        have ih := ih (r + 1) (by omega)
        rw [sm] at ih
        have LI : ∀ p j, j + p = n → ev M_Mo_closure 0 22 [some (.ref m), some (.int (nI k)), some (.int (nI (sm (fun r => bc (gos n G (ngo n G 16) r)) r))), some (.int (nI r)), some (.int (nI (orr (fun j => if (G r).testBit j then rch n G (2 ^ j) n else 0) j))), some (.int (nI j))] [] (wI h f') = some (some (.int (nI (ct n (gos n G (ngo n G 16))))), wI h f') := by
          intro p
          induction p with
          | zero =>
            intro j hj
            have : j = n := by omega
            rw [r_Mo_closure_22, this, ← ex r]
            refine wp_e (wp_isC mc (wp_rIe wd (wp_bf (by rw [hn, nI_ltI (by omega) (by omega)]; omega) ?_)))
            refine wp_rIe (mo_bitsIn _ ((V.gos _).lt r)) ?_
            rw [nI_add, nI_add]
            exact wp_of ih ⟨rfl, rfl⟩
          | succ p ihp =>
            intro j hj
            have ihp := ihp (j + 1) (by omega)
            rw [orr.eq_2] at ihp
            rw [r_Mo_closure_22]
            refine wp_e (wp_isC mc (wp_rIe wd (wp_bt (by rw [hn, nI_ltI (by omega) (by omega)]; omega) (wp_isC mc (wp_nnR ar18 (wp_isC ac18 (wp_inA (n := 16 * k + r) an18 (by rw [pk_mul, nI_add]) (by omega) (by omega) ?_)))))))
            rw [show (nI 16 * nI k + nI r).toNatClampNeg = 16 * k + r by rw [pk_mul, nI_add, nI_clamp (by omega)], wI_I, R r (by omega)]
            refine wp_rIe (mo_isOf _ (by omega) (Nat.lt_of_lt_of_le (V.lt r) (by decide))) ?_
            cases z : (G r).testBit j with
            | false =>
              refine wp_bt rfl ?_
              rw [z, if_neg (by decide)] at ihp
              rw [r_Mo_closure_45, nm_or, nI_add]
              exact wp_of ihp ⟨rfl, rfl⟩
            | true =>
              refine wp_bf n10 (wp_isC mc (wp_rIe (hre j (by omega)) ?_))
              rw [z, if_pos rfl] at ihp
              rw [r_Mo_closure_45, nm_or, nI_add]
              exact wp_of ihp ⟨rfl, rfl⟩
        rw [r_Mo_closure_13]
        exact wp_e (wp_isC mc (wp_rIe wd (wp_bt (by rw [hn, nI_ltI (by omega) (by omega)]; omega) (wp_of (LI n 0 (by omega)) ⟨rfl, rfl⟩))))
    exact ⟨f', wp_e (wp_isC mc (wp_rIe ra (wp_bf n10 (wp_isC mc (wp_rVe l1 (wp_of (L n 0 (by omega)) ⟨rfl, rfl⟩)))))), l3⟩
end
