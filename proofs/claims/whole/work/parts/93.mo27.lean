/-! The plain form: sifted, drift; images. -/
section
variable {h : MH} {f : Nat → Nat → Int32} {m : Nat} {S : Abs}
theorem m_sift (C : MSH h m) (F : MF f m S) (W : WS S) (a : Int32) : ∃ f', ev M_Mo_sift 0 0 [some (.ref m), some (.int a), none, none] [] (wI h f) = some (some (.int (sSift S a)), wI h f') ∧ MF f' m (uSift S a) ∧ Fr m (m + 39) f f' := by
  have mc := C.1
  have ar9 : hR h m 19 = some (m + 9) := (C.2 8 (by decide)).1
  have an9 : hN h (m + 9) = 10 := (C.2 8 (by decide)).2.1
  have ac9 : hC h (m + 9) = 20 := (C.2 8 (by decide)).2.2
  have ar16 : hR h m 34 = some (m + 16) := (C.2 15 (by decide)).1
  have an16 : hN h (m + 16) = 81 := (C.2 15 (by decide)).2.1
  have ac16 : hC h (m + 16) = 20 := (C.2 15 (by decide)).2.2
  have ar20 : hR h m 40 = some (m + 20) := (C.2 19 (by decide)).1
  have an20 : hN h (m + 20) = 16 := (C.2 19 (by decide)).2.1
  have ac20 : hC h (m + 20) = 20 := (C.2 19 (by decide)).2.2
  have ra := mo_rel C F W a
  have hr5 : aR S ≤ 5 := W.2.2.1.1.2.2.2.1
  have h16 : aW S ≤ 16 := lv_p W.2.2.1.1.2.1
  rw [r_Mo_sift_0]
  unfold sSift uSift tdN
  cases za : inN a (aR S) with
  | none =>
    rw [za] at ra
    exact ⟨f, wp_e (wp_isC mc (wp_rIe ra (wp_bt rfl (wp_s ⟨rfl, rfl⟩)))), F, Fr.rf⟩
  | some k =>
    rw [za] at ra
    obtain ⟨e1, k1, -⟩ := inN_s za
    subst e1
    have f9 := F.2.2.1.2.2.1 k k1
    dsimp only
    cases zt : (vTd (aQ S)).testBit k with
    | false =>
      rw [zt] at f9
      refine ⟨f, wp_e (wp_isC mc (wp_rIe ra (wp_bf n10 (wp_isC mc (wp_nnR ar9 (wp_isC ac9 (wp_inA an9 rfl (by omega) (by omega) ?_))))))), F, Fr.rf⟩
      rw [nI_clamp (by omega), wI_I, f9]
      exact wp_bt rfl (wp_s ⟨rfl, rfl⟩)
    | true =>
      rw [zt] at f9
      simp only [if_true]
      dsimp only [on]
      obtain ⟨f1, t1, t2, t3⟩ := mo_L C F W
      have F1 := t3.F F
      obtain ⟨R, V⟩ := t2 k k1
      obtain ⟨f2, q1, q2, q3, q4, q5⟩ := mo_keeps C F1 W
      have eG : aG S k = (aS S (aD S)).1 k := gA_t k1 zt
      have q18 : f2 (m + 18) = f1 (m + 18) := q5.1 _ (by omega) (by omega)
      have q16 : f2 (m + 16) = f1 (m + 16) := q5.1 _ (by omega) (by omega)
      have Rn : RF f2 (m + 16) (16 * k) (aG S k) := fun r hr => by rw [q16, eG]; exact F1.now k (by omega) r hr
      obtain ⟨-, d2, -, d4⟩ := F1.2.2.2.1
      obtain ⟨f3, s1, s2, s3⟩ := mo_sifts (h := h) (f := f2) (k := k) C (Nat.le_trans W.2.2.1.1.2.2.2.2.2.2.2.2.1.1 (by decide)) (by rw [q5.1 _ (by omega) (by omega)]; exact d2) (fun i k hk => by rw [q5.1 _ (by omega) (by omega)]; exact d4 i k hk) W.2.2.1.2.2.2.2 (by omega) (fun r hr => by rw [q18]; exact R r hr) V
      have VB := GW.sft (ks := vKs (aQ S)) V
      generalize sft (aW S) (vKs (aQ S)) (aG S k) = B at *
      have n3 : ∀ t, t < 81 → f3 (m + 16) t = nI (sv (aS S (aD S)) t) := fun t ht => by rw [s3 _ (by omega) (by omega), q16]; exact F1.2.2.2.2.2.1 t ht
      have L : ∀ q r g, r + q = 16 → (∀ b, b ≠ m + 16 → g b = f3 b) → (∀ t, t < 81 → g (m + 16) t = nI (if t < 16 * k + r ∧ 16 * k ≤ t then B (t - 16 * k) else sv (aS S (aD S)) t)) → ∃ g', ev M_Mo_sift 0 28 [some (.ref m), some (.int (nI k)), some (.int (nI (ct (aW S) (aG S k)))), some (.int (nI r))] [] (wI h g) = some (some (.int (nI (ct (aW S) (aG S k)) - nI (ct (aW S) B))), wI h g') ∧ (∀ b, b ≠ m + 16 → g' b = f3 b) ∧ ∀ t, t < 81 → g' (m + 16) t = nI (if t < 16 * k + 16 ∧ 16 * k ≤ t then B (t - 16 * k) else sv (aS S (aD S)) t) := by
        intro q
        induction q with
        | zero =>
          intro r g hr o e
          have : r = 16 := by omega
          subst this
          refine ⟨g, wp_e ?_, o, e⟩
          rw [r_Mo_sift_28]
          refine wp_bf (by decide) (wp_isC mc (wp_nnR ar20 ?_))
          refine wp_rIe (mo_manyIn (o := 0) ac20 an20 (by decide) (by decide) (fun r hr => by rw [o _ (by omega)]; exact s2 r hr) VB.lt) (wp_s ⟨?_, rfl⟩)
          rw [ct_16 VB]
        | succ q ih =>
          intro r g hr o e
          obtain ⟨g', i1, i2⟩ := ih (r + 1) (up2 g (m + 16) (16 * k + r) (nI (B r))) (by omega) (fun b hb => by rw [up2_a hb]; exact o b hb) (fun t ht => by
            by_cases z : t = 16 * k + r
            · rw [z, up2_s, if_pos (by omega), show 16 * k + r - 16 * k = r by omega]
            · rw [up2_k z, e t ht]
              by_cases y : t < 16 * k + r ∧ 16 * k ≤ t
              · rw [if_pos y, if_pos (by omega)]
              · rw [if_neg y, if_neg (by omega)])
          refine ⟨g', wp_e ?_, i2⟩
          have eB : g (m + 20) r = nI (B r) := by rw [o _ (by omega)]; have := s2 r (by omega); rw [Nat.zero_add] at this; exact this
          rw [r_Mo_sift_28]
          refine wp_bt (by rw [nI_ltI (by omega) (by decide)]; omega) (wp_isC mc (wp_nnR ar16 (wp_isC mc (wp_nnR ar20 (wp_isC ac20 (wp_inA an20 rfl (by omega) (by omega) (wp_isC ac16 (wp_inA (n := 16 * k + r) an16 (by rw [pk_mul, nI_add]) (by omega) (by omega) ?_))))))))
          rw [show (nI 16 * nI k + nI r).toNatClampNeg = 16 * k + r by rw [pk_mul, nI_add, nI_clamp (by omega)], nI_clamp (by omega), wI_I, eB, wI_s, nI_add]
          exact wp_of i1 ⟨rfl, rfl⟩
      obtain ⟨g', b1, b2, b3⟩ := L 16 0 f3 rfl (fun _ _ => rfl) (fun t ht => by rw [if_neg (by omega)]; exact n3 t ht)
      refine ⟨g', wp_e (wp_isC mc (wp_rIe ra (wp_bf n10 (wp_isC mc (wp_nnR ar9 (wp_isC ac9 (wp_inA an9 rfl (by omega) (by omega) ?_))))))), ?_, fun b hb => by rw [b2 b (by omega), s3 b (by omega) (by omega), q5.1 b (by omega) (by omega)]; exact t3.fr b hb⟩
      · rw [nI_clamp (by omega), wI_I, f9]
        refine wp_bf n10 (wp_isC mc (wp_rVe t1 (wp_isC mc (wp_rVe q1 (wp_isC mc (wp_nnR ar16 ?_))))))
        rw [pk_mul]
        refine wp_rIe (mo_manyIn ac16 an16 (by omega) (by decide) Rn V.lt) (wp_isC mc (wp_rVe s1 ?_))
        rw [ct_16 V]
        exact wp_of b1 ⟨rfl, rfl⟩
      · refine mf_act (s := (setA (aS S (aD S)).1 (some k) B, (aS S (aD S)).2)) F1 (by rw [b2 m (by omega), s3 m (by omega) (by omega)]; exact q2) (by rw [b2 m (by omega), s3 m (by omega) (by omega)]; exact q3) (fun k i hk hi => by rw [b2 _ (by omega), s3 _ (by omega) (by omega)]; exact q4 k i hk hi) (fun b c1 c2 c3 c4 => by rw [b2 b c2, s3 b (by omega) (by omega)]; exact q5.1 b c1 c3) (fun k c1 c2 _ _ => by rw [b2 m (by omega), s3 m (by omega) (by omega)]; exact q5.2 k c1 c2) (fun t ht => ?_)
        rw [b3 t ht, sv_set ht]
        by_cases y : t < 80
        · rw [if_pos y]
          by_cases u : t / 16 = k
          · rw [if_pos u, if_pos (by omega), show t - 16 * k = t % 16 by omega]
          · rw [if_neg u, if_neg (by omega)]; unfold sv; rw [if_pos y]
        · rw [if_neg y, if_neg (by omega)]; unfold sv; rw [if_neg y]
theorem m_drift (C : MSH h m) (F : MF f m S) (W : WS S) : ∃ f', ev M_Mo_drift 0 0 [some (.ref m), none, none] [] (wI h f) = some (some (.int (oI (drN S))), wI h f') ∧ MF f' m (uDrift S) ∧ Fr m (m + 39) f f' := by
  have mc := C.1
  have ar3 : hR h m 13 = some (m + 3) := (C.2 2 (by decide)).1
  have an3 : hN h (m + 3) = 2 := (C.2 2 (by decide)).2.1
  have ac3 : hC h (m + 3) = 20 := (C.2 2 (by decide)).2.2
  have ar4 : hR h m 14 = some (m + 4) := (C.2 3 (by decide)).1
  have an4 : hN h (m + 4) = 2 := (C.2 3 (by decide)).2.1
  have ac4 : hC h (m + 4) = 20 := (C.2 3 (by decide)).2.2
  have ar9 : hR h m 19 = some (m + 9) := (C.2 8 (by decide)).1
  have an9 : hN h (m + 9) = 10 := (C.2 8 (by decide)).2.1
  have ac9 : hC h (m + 9) = 20 := (C.2 8 (by decide)).2.2
  have ar16 : hR h m 34 = some (m + 16) := (C.2 15 (by decide)).1
  have an16 : hN h (m + 16) = 81 := (C.2 15 (by decide)).2.1
  have ac16 : hC h (m + 16) = 20 := (C.2 15 (by decide)).2.2
  have hv : aV S ≤ 4 := W.2.2.1.1.2.1
  have hr5 : aR S ≤ 5 := W.2.2.1.1.2.2.2.1
  have h16 : aW S ≤ 16 := lv_p hv
  have hwp : 0 < aW S := Nat.two_pow_pos _
  have hdr : vDr (aQ S) ≤ 100 := W.2.2.1.1.2.2.2.2.2.1
  have hN := F.2.2.2.2.2.1
  have hsd : (aS S (aD S)).2 < 1000 := (W.2.2.2.1.2.2 _ W.2.2.2.1.1).1
  obtain ⟨f1, q1, q2, q3, q4, q5⟩ := mo_keeps C F W
  have q16 : f1 (m + 16) = f (m + 16) := q5.1 _ (by omega) (by omega)
  have hn80 : f (m + 16) 80 = nI (aS S (aD S)).2 := hN 80 (by decide)
  have hs : sdN S < 1000 := Nat.mod_lt _ (by decide)
  have es : nI 137 * nI (aS S (aD S)).2 + nI 71 - (nI 137 * nI (aS S (aD S)).2 + nI 71) / nI 1000 * nI 1000 = nI (sdN S) := by
    rw [pk_mul, nI_add, pk_rem (by omega) (by decide) (by decide), Nat.mul_comm]
    rfl
  generalize hsN : sdN S = s at *
  have c80 : (nI 80).toNatClampNeg = 80 := nI_clamp (by decide)
  have c0 : (nI 0).toNatClampNeg = 0 := rfl
  have g16 : ∀ t, t < 81 → up2 f1 (m + 16) 80 (nI s) (m + 16) t = nI (sv ((aS S (aD S)).1, s) t) := fun t ht => by
    by_cases z : t = 80
    · rw [z, up2_s]; rfl
    · rw [up2_k z, q16, hN t ht]; unfold sv; rw [if_pos (by omega), if_pos (by omega)]
  have gb : ∀ b, b ≠ m + 16 → up2 f1 (m + 16) 80 (nI s) b = f1 b := fun b hb => up2_a hb
  have g80 : up2 f1 (m + 16) 80 (nI s) (m + 16) 80 = nI s := up2_s
  have g3 : up2 f1 (m + 16) 80 (nI s) (m + 3) 0 = nI (aR S) := by rw [gb _ (by omega), q5.1 _ (by omega) (by omega)]; exact F.2.2.1.2.1
  have g4 : up2 f1 (m + 16) 80 (nI s) (m + 4) 0 = nI (vDr (aQ S)) := by rw [gb _ (by omega), q5.1 _ (by omega) (by omega)]; exact F.2.2.2.1.1
  have g2 : up2 f1 (m + 16) 80 (nI s) (m + 2) 0 = nI (aV S) := by rw [gb _ (by omega), q5.1 _ (by omega) (by omega)]; exact F.2.2.1.1
  have g9 : ∀ k, k < aR S → up2 f1 (m + 16) 80 (nI s) (m + 9) k = nI ((vTd (aQ S)).testBit k).toNat := fun k hk => by rw [gb _ (by omega), q5.1 _ (by omega) (by omega)]; exact F.2.2.1.2.2.1 k hk
  generalize hg : up2 f1 (m + 16) 80 (nI s) = g at *
  have wd := mo_wide (h := h) (f := g) C g2 hv
  have fin0 : drN S = none → MF g m (uDrift S) := fun z => by
    have eu : uDrift S = push S ((aS S (aD S)).1, s) := by unfold uDrift; rw [z, hsN]; rfl
    rw [eu]
    exact MF.push F q2 q3 q4 q5 gb g16
  have fr : Fr m (m + 39) f g := fun b hb => by rw [gb b (by omega)]; exact q5.1 b (by omega) (by omega)
  have e100 : nI s - nI s / nI 100 * nI 100 = nI (s % 100) := pk_rem (by omega) (by decide) (by decide)
  by_cases z0 : aR S = 0
  · have zd : drN S = none := by unfold drN; rw [if_pos (Or.inl z0)]
    refine ⟨g, wp_e ?_, fin0 zd, fr⟩
    rw [r_Mo_drift_0]
    refine wp_isC mc (wp_rVe q1 (wp_isC mc (wp_nnR ar16 (wp_isC mc (wp_nnR ar16 (wp_isC ac16 (wp_inA (n := 80) an16 rfl (by decide) (by decide) (wp_nz (by decide) (wp_isC ac16 (wp_inA (n := 80) an16 rfl (by decide) (by decide) ?_))))))))))
    rw [c80, wI_I, q16, hn80, es, wI_s, hg]
    refine wp_isC mc (wp_nnR ar16 (wp_isC ac16 (wp_inA (n := 80) an16 rfl (by decide) (by decide) (wp_isC mc (wp_nnR ar3 (wp_isC ac3 (wp_inA (n := 0) an3 rfl (by decide) (by decide) ?_)))))))
    rw [wI_I, g80, c0, g3]
    rw [zd, z0]
    exact wp_bt rfl (wp_s ⟨rfl, rfl⟩)
  by_cases z1 : vDr (aQ S) ≤ s % 100
  · have zd : drN S = none := by unfold drN; rw [if_pos (Or.inr (by rw [hsN]; exact z1))]
    refine ⟨g, wp_e ?_, fin0 zd, fr⟩
    rw [r_Mo_drift_0]
    refine wp_isC mc (wp_rVe q1 (wp_isC mc (wp_nnR ar16 (wp_isC mc (wp_nnR ar16 (wp_isC ac16 (wp_inA (n := 80) an16 rfl (by decide) (by decide) (wp_nz (by decide) (wp_isC ac16 (wp_inA (n := 80) an16 rfl (by decide) (by decide) ?_))))))))))
    rw [c80, wI_I, q16, hn80, es, wI_s, hg]
    refine wp_isC mc (wp_nnR ar16 (wp_isC ac16 (wp_inA (n := 80) an16 rfl (by decide) (by decide) (wp_isC mc (wp_nnR ar3 (wp_isC ac3 (wp_inA (n := 0) an3 rfl (by decide) (by decide) ?_)))))))
    rw [wI_I, g80, c0, g3]
    rw [zd]
    refine wp_bf (by rw [nI_eq (by omega) (by decide)]; exact z0) (wp_nz (by decide) (wp_isC mc (wp_nnR ar4 (wp_isC ac4 (wp_inA (n := 0) an4 rfl (by decide) (by decide) ?_)))))
    rw [g4, e100]
    exact wp_bf (by rw [nI_ltI (by omega) (by omega)]; omega) (wp_s ⟨rfl, rfl⟩)
  have hk : s % aR S < aR S := Nat.mod_lt _ (by omega)
  have ek : nI s - nI s / nI (aR S) * nI (aR S) = nI (s % aR S) := pk_rem (by omega) (by omega) (by omega)
  cases zt : (vTd (aQ S)).testBit (s % aR S) with
  | false =>
    have zd : drN S = none := by unfold drN; rw [if_neg (by rw [hsN]; omega), hsN, zt]; rfl
    refine ⟨g, wp_e ?_, fin0 zd, fr⟩
    rw [r_Mo_drift_0]
    refine wp_isC mc (wp_rVe q1 (wp_isC mc (wp_nnR ar16 (wp_isC mc (wp_nnR ar16 (wp_isC ac16 (wp_inA (n := 80) an16 rfl (by decide) (by decide) (wp_nz (by decide) (wp_isC ac16 (wp_inA (n := 80) an16 rfl (by decide) (by decide) ?_))))))))))
    rw [c80, wI_I, q16, hn80, es, wI_s, hg]
    refine wp_isC mc (wp_nnR ar16 (wp_isC ac16 (wp_inA (n := 80) an16 rfl (by decide) (by decide) (wp_isC mc (wp_nnR ar3 (wp_isC ac3 (wp_inA (n := 0) an3 rfl (by decide) (by decide) ?_)))))))
    rw [wI_I, g80, c0, g3]
    rw [zd]
    refine wp_bf (by rw [nI_eq (by omega) (by decide)]; exact z0) (wp_nz (by decide) (wp_isC mc (wp_nnR ar4 (wp_isC ac4 (wp_inA (n := 0) an4 rfl (by decide) (by decide) ?_)))))
    rw [g4, e100]
    refine wp_bt (by rw [nI_ltI (by omega) (by omega)]; omega) (wp_isC mc (wp_nnR ar3 (wp_isC ac3 (wp_inA (n := 0) an3 rfl (by decide) (by decide) ?_))))
    rw [g3, ek]
    refine wp_nz (by rw [show (0 : Int32) = nI 0 from rfl, nI_eq (by omega) (by decide)]; exact z0) (wp_isC mc (wp_nnR ar9 (wp_isC ac9 (wp_inA an9 rfl (by omega) (by omega) ?_))))
    rw [nI_clamp (by omega), g9 _ hk, zt]
    exact wp_bt rfl (wp_s ⟨rfl, rfl⟩)
  | true =>
    have zd : drN S = some (s % aR S) := by unfold drN; rw [if_neg (by rw [hsN]; omega), hsN, zt]; rfl
    have hi : s / 16 % aW S < aW S := Nat.mod_lt _ hwp
    have hj : s % aW S < aW S := Nat.mod_lt _ hwp
    have eG : aG S (s % aR S) = (aS S (aD S)).1 (s % aR S) := gA_t hk zt
    have eu : uDrift S = push S (setA (aS S (aD S)).1 (some (s % aR S)) (flp (aG S (s % aR S)) (s / 16 % aW S) (s % aW S)), s) := by unfold uDrift; rw [zd, hsN]
    generalize s % aR S = k at *
    have e16 : nI s / nI 16 = nI (s / 16) := pk_div (by omega) (by decide) (by decide)
    have ei : nI (s / 16) - nI (s / 16) / nI (aW S) * nI (aW S) = nI (s / 16 % aW S) := pk_rem (by omega) hwp (by omega)
    have ej : nI s - nI s / nI (aW S) * nI (aW S) = nI (s % aW S) := pk_rem (by omega) hwp (by omega)
    generalize s / 16 % aW S = i at *
    generalize s % aW S = j at *
    have ec : (nI (16 * k + i)).toNatClampNeg = 16 * k + i := nI_clamp (by omega)
    have gk : g (m + 16) (16 * k + i) = nI (aG S k i) := by
      rw [g16 _ (by omega), eG]
      unfold sv
      rw [if_pos (by omega), show (16 * k + i) / 16 = k by omega, show (16 * k + i) % 16 = i by omega]
    refine ⟨up2 g (m + 16) (16 * k + i) (nI (aG S k i ^^^ 2 ^ j)), wp_e ?_, ?_, fr.tr (Fr.u2 (by omega) (by omega))⟩
    · rw [zd]
      rw [r_Mo_drift_0]
      refine wp_isC mc (wp_rVe q1 (wp_isC mc (wp_nnR ar16 (wp_isC mc (wp_nnR ar16 (wp_isC ac16 (wp_inA (n := 80) an16 rfl (by decide) (by decide) (wp_nz (by decide) (wp_isC ac16 (wp_inA (n := 80) an16 rfl (by decide) (by decide) ?_))))))))))
      rw [c80, wI_I, q16, hn80, es, wI_s, hg]
      refine wp_isC mc (wp_nnR ar16 (wp_isC ac16 (wp_inA (n := 80) an16 rfl (by decide) (by decide) (wp_isC mc (wp_nnR ar3 (wp_isC ac3 (wp_inA (n := 0) an3 rfl (by decide) (by decide) ?_)))))))
      rw [wI_I, g80, c0, g3]
      refine wp_bf (by rw [nI_eq (by omega) (by decide)]; exact z0) (wp_nz (by decide) (wp_isC mc (wp_nnR ar4 (wp_isC ac4 (wp_inA (n := 0) an4 rfl (by decide) (by decide) ?_)))))
      rw [g4, e100]
      refine wp_bt (by rw [nI_ltI (by omega) (by omega)]; omega) (wp_isC mc (wp_nnR ar3 (wp_isC ac3 (wp_inA (n := 0) an3 rfl (by decide) (by decide) ?_))))
      rw [g3, ek]
      refine wp_nz (by rw [show (0 : Int32) = nI 0 from rfl, nI_eq (by omega) (by decide)]; exact z0) (wp_isC mc (wp_nnR ar9 (wp_isC ac9 (wp_inA an9 rfl (by omega) (by omega) ?_))))
      rw [nI_clamp (by omega), g9 _ hk, zt]
      refine wp_bf n10 (wp_isC mc (wp_nnR ar16 (wp_nz (by decide) (wp_isC mc (wp_rIe wd (wp_nz (by rw [show (0 : Int32) = nI 0 from rfl]; exact fun z => absurd ((nI_eq (show 2 ^ aV S < 2 ^ 31 from Nat.lt_of_le_of_lt h16 (by decide)) (by decide)).mp z) (by have : 2 ^ aV S = aW S := rfl; omega)) ?_))))))
      rw [show 2 ^ aV S = aW S from rfl, e16, ei, pk_mul, nI_add]
      refine wp_isC ac16 (wp_inA an16 rfl (by omega) (by omega) (wp_isC mc (wp_rIe wd (wp_nz (by rw [show (0 : Int32) = nI 0 from rfl]; exact fun z => absurd ((nI_eq (show 2 ^ aV S < 2 ^ 31 from Nat.lt_of_le_of_lt h16 (by decide)) (by decide)).mp z) (by have : 2 ^ aV S = aW S := rfl; omega)) (wp_isC ac16 (wp_inA an16 rfl (by omega) (by omega) (wp_s ⟨rfl, ?_⟩)))))))
      rw [show 2 ^ aV S = aW S from rfl, ej, ec, wI_I, gk, nm_one (by omega), nm_xor, wI_s]
    · rw [eu]
      refine MF.push F q2 q3 q4 q5 (fun b hb => by rw [up2_a hb]; exact gb b hb) (fun t ht => ?_)
      rw [sv_set ht]
      by_cases w : t = 16 * k + i
      · rw [w, up2_s, if_pos (by omega), if_pos (by omega)]
        show nI _ = nI (if (16 * k + i) % 16 = i then _ else _)
        rw [if_pos (by omega)]
      · rw [up2_k w, g16 t ht]
        unfold sv
        by_cases y : t < 80
        · rw [if_pos y, if_pos y]
          by_cases u : t / 16 = k
          · rw [if_pos u, u]
            show nI _ = nI (if t % 16 = i then _ else aG S k (t % 16))
            rw [if_neg (by omega), eG]
          · rw [if_neg u]
        · rw [if_neg y, if_neg y]
end
