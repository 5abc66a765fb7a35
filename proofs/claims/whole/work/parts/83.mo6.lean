/-! The plain form: all relations laid out, the loop. -/
section
variable {h : MH} {f : Nat → Nat → Int32} {m : Nat}
theorem mo_lays {v nr td : Nat} {cx : Nat → List Nat} {A : Nat → Rw} (C : MSH h m) (hv : v ≤ 4) (hn : nr ≤ 5) (P : MPL f m v nr td cx) (hx : ∀ k, k < nr → td.testBit k = false → xsg k (cx k) 0) (hw : ∀ k, k < 5 → RF f (m + 16) (16 * k) (A k)) (hA : ∀ k, td.testBit k = true → GW (2 ^ v) (A k)) :
    ∃ f', ev M_Mo_lays2 0 0 [some (.ref m), none, none] [] (wI h f) = some (none, wI h f') ∧ (∀ k, k < nr → RF f' (m + 18) (16 * k) (alK (2 ^ v) td cx A nr k)) ∧ LYF m f f' := by
  have mc := C.1
  have ar3 : hR h m 13 = some (m + 3) := (C.2 2 (by decide)).1
  have an3 : hN h (m + 3) = 2 := (C.2 2 (by decide)).2.1
  have ac3 : hC h (m + 3) = 20 := (C.2 2 (by decide)).2.2
  have ar9 : hR h m 19 = some (m + 9) := (C.2 8 (by decide)).1
  have an9 : hN h (m + 9) = 10 := (C.2 8 (by decide)).2.1
  have ac9 : hC h (m + 9) = 20 := (C.2 8 (by decide)).2.2
  have ar10 : hR h m 20 = some (m + 10) := (C.2 9 (by decide)).1
  have an10 : hN h (m + 10) = 10 := (C.2 9 (by decide)).2.1
  have ac10 : hC h (m + 10) = 20 := (C.2 9 (by decide)).2.2
  have ar11 : hR h m 21 = some (m + 11) := (C.2 10 (by decide)).1
  have an11 : hN h (m + 11) = 10 := (C.2 10 (by decide)).2.1
  have ac11 : hC h (m + 11) = 20 := (C.2 10 (by decide)).2.2
  have ar16 : hR h m 34 = some (m + 16) := (C.2 15 (by decide)).1
  have an16 : hN h (m + 16) = 81 := (C.2 15 (by decide)).2.1
  have ac16 : hC h (m + 16) = 20 := (C.2 15 (by decide)).2.2
  have ar18 : hR h m 38 = some (m + 18) := (C.2 17 (by decide)).1
  have an18 : hN h (m + 18) = 80 := (C.2 17 (by decide)).2.1
  have ac18 : hC h (m + 18) = 20 := (C.2 17 (by decide)).2.2
  have ar19 : hR h m 39 = some (m + 19) := (C.2 18 (by decide)).1
  have an19 : hN h (m + 19) = 640 := (C.2 18 (by decide)).2.1
  have ac19 : hC h (m + 19) = 20 := (C.2 18 (by decide)).2.2
  have h16 := lv_p hv
  obtain ⟨p1, p2, p3, p4⟩ := P
  have LK : ∀ k i f1, i + k = nr → (∀ j, j < i → RF f1 (m + 18) (16 * j) (alK (2 ^ v) td cx A i j)) → LYF m f f1 → ∃ f', ev M_Mo_lays2 0 3 [some (.ref m), some (.int (nI i)), none] [] (wI h f1) = some (none, wI h f') ∧ (∀ k, k < nr → RF f' (m + 18) (16 * k) (alK (2 ^ v) td cx A nr k)) ∧ LYF m f f' := by
    intro k
    induction k with
    | zero =>
      intro i f1 hi e1 t
      have hi : i = nr := by omega
      subst hi
      refine ⟨f1, ?_, e1, t⟩
      rw [r_Mo_lays2_3]
      refine wp_e (wp_isC mc (wp_nnR ar3 (wp_isC ac3 (wp_inA (n := 0) an3 rfl (by decide) (by decide) ?_))))
      rw [nI_clamp (by decide), wI_I, t.1 (m + 3) (by omega) (by omega) (by omega) (by omega), p2]
      exact wp_bf (by rw [nI_ltI (by omega) (by omega)]; omega) (wp_s ⟨rfl, rfl⟩)
    | succ k ih =>
      intro i f1 hi e1 t
      have al : ∀ j, j < i → alK (2 ^ v) td cx A (i + 1) j = alK (2 ^ v) td cx A i j := fun j hj => by
        show (if j = i then _ else _) = _
        rw [if_neg (by omega)]
      -- the rows are taken over
      have CP : ∀ (X : Rw), X = alK (2 ^ v) td cx A (i + 1) i → ∀ q r f2, r + q = 16 → (∀ s, s < r → f2 (m + 18) (16 * i + s) = nI (X s)) → (∀ j, j < i → RF f2 (m + 18) (16 * j) (alK (2 ^ v) td cx A i j)) → LYF m f f2 → (td.testBit i = false → RF f2 (m + 19) 0 X) → ∃ f', ev M_Mo_lays2 0 40 [some (.ref m), some (.int (nI i)), some (.int (nI r))] [] (wI h f2) = some (none, wI h f') ∧ (∀ k, k < nr → RF f' (m + 18) (16 * k) (alK (2 ^ v) td cx A nr k)) ∧ LYF m f f' := by
        intro X hX q
        induction q with
        | zero =>
          intro r f2 hr s1 s2 s3 s4
          have : r = 16 := by omega
          subst this
          obtain ⟨f', i1, i2⟩ := ih (i + 1) f2 (by omega) (fun j hj => by
            by_cases z : j = i
            · rw [z, ← hX]; exact s1
            · rw [al j (by omega)]; exact s2 j (by omega)) s3
          refine ⟨f', wp_e ?_, i2⟩
          rw [r_Mo_lays2_40]
          refine wp_bf (by decide) ?_
          rw [nI_add]
          exact wp_of i1 ⟨rfl, rfl⟩
        | succ q ihq =>
          intro r f2 hr s1 s2 s3 s4
          obtain ⟨f', i1, i2⟩ := ihq (r + 1) (up2 f2 (m + 18) (16 * i + r) (nI (X r))) (by omega) (fun s hs => by
            by_cases z : s = r
            · rw [z, up2_s]
            · rw [up2_k (by omega)]; exact s1 s (by omega)) (fun j hj s hs => by rw [up2_k (by omega)]; exact s2 j hj s hs) (s3.tr ⟨fun b _ h2 _ _ => up2_a h2, fun k _ => by rw [up2_a (by omega)]⟩) (fun z s hs => by rw [up2_a (by omega)]; exact s4 z s hs)
          refine ⟨f', wp_e ?_, i2⟩
          have fin : wp (ev M_Mo_lays2 0 70 [some (.ref m), some (.int (nI i)), some (.int (nI r))] [(.int (nI (X r))), (.int (((nI 16) * nI i) + nI r)), (.ref (m + 18))] (wI h f2)) (fun a b => a = none ∧ b = wI h f') := by
            rw [r_Mo_lays2_70]
            refine wp_isC ac18 ?_
            rw [pk_mul, nI_add]
            refine wp_inA an18 rfl (by omega) (by omega) ?_
            rw [nI_clamp (by omega), wI_s, nI_add]
            exact wp_of i1 ⟨rfl, rfl⟩
          have q9 : f2 (m + 9) i = nI (td.testBit i).toNat := by rw [s3.1 (m + 9) (by omega) (by omega) (by omega) (by omega)]; exact p3 i (by omega)
          rw [r_Mo_lays2_40]
          refine wp_bt (by rw [nI_ltI (by omega) (by decide)]; omega) (wp_isC mc (wp_nnR ar18 (wp_isC mc (wp_nnR ar9 (wp_isC ac9 (wp_inA an9 rfl (by omega) (by omega) ?_))))))
          rw [nI_clamp (by omega), wI_I, q9]
          cases z : td.testBit i with
          | true =>
            refine wp_bt rfl (wp_isC mc (wp_nnR ar16 (wp_isC ac16 (wp_inA (n := 16 * i + r) an16 (by rw [pk_mul, nI_add]) (by omega) (by omega) ?_))))
            have eX : X = A i := by
              rw [hX]
              show (if i = i then (if td.testBit i then A i else _) else _) = _
              rw [if_pos rfl, if_pos z]
            have e16 : f2 (m + 16) (16 * i + r) = nI (X r) := by rw [s3.1 (m + 16) (by omega) (by omega) (by omega) (by omega), eX]; exact hw i (by omega) r (by omega)
            rw [show (nI 16 * nI i + nI r).toNatClampNeg = 16 * i + r by rw [pk_mul, nI_add, nI_clamp (by omega)], e16]
            exact fin
          | false =>
            refine wp_bf (Ne.symm n10) (wp_isC mc (wp_nnR ar19 (wp_isC ac19 (wp_inA (n := r) an19 rfl (by omega) (by omega) ?_))))
            have e19 : f2 (m + 19) r = nI (X r) := by have := s4 z r (by omega); rw [Nat.zero_add] at this; exact this
            rw [nI_clamp (by omega), e19]
            exact fin
      obtain ⟨o, o1, o2, o3, o4⟩ := p4 i (by omega)
      have t' : LYF m f (up2 f1 m 42 (nI 0)) := t.tr ⟨fun b h1 _ _ _ => up2_a h1, fun k hk => up2_k hk⟩
      have e1' : ∀ j, j < i → RF (up2 f1 m 42 (nI 0)) (m + 18) (16 * j) (alK (2 ^ v) td cx A i j) := fun j hj r hr => by rw [up2_a (by omega)]; exact e1 j hj r hr
      have key : ∃ f', ev M_Mo_lays2 0 18 [some (.ref m), some (.int (nI i)), some (.int (nI o))] [] (wI h (up2 f1 m 42 (nI 0))) = some (none, wI h f') ∧ (∀ k, k < nr → RF f' (m + 18) (16 * k) (alK (2 ^ v) td cx A nr k)) ∧ LYF m f f' := by
        cases z : td.testBit i with
        | true =>
          obtain ⟨f', i1, i2⟩ := CP _ rfl 16 0 (up2 f1 m 42 (nI 0)) rfl (fun s hs => absurd hs (Nat.not_lt_zero s)) e1' t' (fun w => by rw [z] at w; cases w)
          refine ⟨f', wp_e ?_, i2⟩
          rw [z, if_pos rfl] at o2
          rw [z, if_pos rfl] at o3
          rw [r_Mo_lays2_18]
          refine wp_isC mc (wp_nnR ar10 (wp_isC ac10 (wp_inA an10 rfl (by omega) (by omega) (wp_isC mc (wp_nnR ar11 (wp_isC ac11 (wp_inA an11 rfl (by omega) (by omega) ?_)))))))
          rw [nI_clamp (by omega), wI_I, t'.1 (m + 10) (by omega) (by omega) (by omega) (by omega), t'.1 (m + 11) (by omega) (by omega) (by omega) (by omega), o1, o2, nI_add]
          exact wp_bf (by rw [nI_ltI (by omega) (by omega)]; omega) (wp_of i1 ⟨rfl, rfl⟩)
        | false =>
          rw [z, if_neg (by decide)] at o2
          rw [z, if_neg (by decide)] at o3
          have w := mo_codes (h := h) (f := f) (m := m) (v := v) (nr := nr) (td := td) (k := i) (o := o) (cx := cx) (B := alK (2 ^ v) td cx A i) (Q := fun a b => a = none ∧ ∃ f', b = wI h f' ∧ (∀ k, k < nr → RF f' (m + 18) (16 * k) (alK (2 ^ v) td cx A nr k)) ∧ LYF m f f') C hv (by omega) (by omega) hn p1 o1 o2 o3 (o4 z) (fun j hj => alW h16 hA i (by omega) (fun k hk => hx k (by omega)) j) (fun f2 g eg K2 R2 t2 => by
            obtain ⟨f', i1, i2⟩ := CP g (by
              show g = if i = i then (if td.testBit i then A i else (xw (2 ^ v) (alK (2 ^ v) td cx A i) (cx i) []).headD (fun _ => 0)) else _
              rw [if_pos rfl, if_neg (by rw [z]; decide), eg]; rfl) 16 0 f2 rfl (fun s hs => absurd hs (Nat.not_lt_zero s)) R2 t2 (fun _ => K2.2.1)
            exact ⟨_, _, i1, rfl, f', rfl, i2⟩) (cx i) 0 [] (up2 f1 m 42 (nI 0)) rfl (Nat.zero_le _) (hx i (by omega) z) rfl ⟨up2_s, trivial⟩ (fun g hg => by cases hg) (by decide) e1' t'
          obtain ⟨a, b, w1, w2, f', w3, w4⟩ := w
          subst w2
          subst w3
          exact ⟨f', w1, w4⟩
      obtain ⟨f', i1, i2⟩ := key
      refine ⟨f', wp_e ?_, i2⟩
      rw [r_Mo_lays2_3]
      refine wp_isC mc (wp_nnR ar3 (wp_isC ac3 (wp_inA (n := 0) an3 rfl (by decide) (by decide) ?_)))
      rw [nI_clamp (by decide), wI_I, t.1 (m + 3) (by omega) (by omega) (by omega) (by omega), p2]
      refine wp_bt (by rw [nI_ltI (by omega) (by omega)]; omega) (wp_isC mc ?_)
      rw [wI_s]
      refine wp_isC mc (wp_nnR ar10 (wp_isC ac10 (wp_inA an10 rfl (by omega) (by omega) ?_)))
      rw [nI_clamp (by omega), wI_I, t'.1 (m + 10) (by omega) (by omega) (by omega) (by omega), o1]
      exact wp_of i1 ⟨rfl, rfl⟩
  rw [r_Mo_lays2_0]
  exact LK nr 0 f (by omega) (fun j hj => absurd hj (Nat.not_lt_zero j)) LYF.rf
end
