/-! The plain form: all relations laid out. -/
/-- the plan, as far as relations go -/
def MPL (f : Nat → Nat → Int32) (m v nr td : Nat) (cx : Nat → List Nat) : Prop := f (m + 2) 0 = nI v ∧ f (m + 3) 0 = nI nr ∧ (∀ k, k < nr → f (m + 9) k = nI (td.testBit k).toNat) ∧ ∀ k, k < nr → ∃ o, f (m + 10) k = nI o ∧ f (m + 11) k = nI (if td.testBit k then 0 else (cx k).length) ∧ o + (if td.testBit k then 0 else (cx k).length) ≤ 260 ∧ (td.testBit k = false → ∀ i c, (cx k)[i]? = some c → f (m + 13) (o + i) = nI (mcd c))
def LYF (m : Nat) (f f' : Nat → Nat → Int32) : Prop := (∀ b, b ≠ m → b ≠ m + 18 → b ≠ m + 19 → b ≠ m + 21 → f' b = f b) ∧ ∀ k, k ≠ 42 → f' m k = f m k
theorem LYF.rf {m : Nat} {f : Nat → Nat → Int32} : LYF m f f := ⟨fun _ _ _ _ _ => rfl, fun _ _ => rfl⟩
theorem LYF.tr {m : Nat} {f g k : Nat → Nat → Int32} (x : LYF m f g) (y : LYF m g k) : LYF m f k := ⟨fun b h1 h2 h3 h4 => (y.1 b h1 h2 h3 h4).trans (x.1 b h1 h2 h3 h4), fun j hj => (y.2 j hj).trans (x.2 j hj)⟩
theorem WKF.L {m : Nat} {f f' : Nat → Nat → Int32} (x : WKF m f f') : LYF m f f' := ⟨fun b h1 _ h3 h4 => x.1 b h1 h3 h4, x.2⟩
section
variable {h : MH} {f : Nat → Nat → Int32} {m : Nat}
theorem mo_codes {v nr td k o : Nat} {cx : Nat → List Nat} {B : Nat → Rw} {Q : Option Value → MH → Prop} (C : MSH h m) (hv : v ≤ 4) (hk : k < 5) (hk2 : k < nr) (hn : nr ≤ 5) (hf : f (m + 2) 0 = nI v) (o1 : f (m + 10) k = nI o) (o2 : f (m + 11) k = nI (cx k).length) (o3 : o + (cx k).length ≤ 260) (o4 : ∀ i c, (cx k)[i]? = some c → f (m + 13) (o + i) = nI (mcd c)) (hB : ∀ j, j < k → GW (2 ^ v) (B j))
    (H : ∀ f2 g, xw (2 ^ v) B (cx k) [] = [g] → SK f2 m [g] → (∀ j, j < k → RF f2 (m + 18) (16 * j) (B j)) → LYF m f f2 → wp (ev M_Mo_lays2 0 40 [some (.ref m), some (.int (nI k)), some (.int (nI 0))] [] (wI h f2)) Q) :
    ∀ (rest : List Nat) i S f1, (cx k).drop i = rest → i ≤ (cx k).length → xsg k rest S.length → xw (2 ^ v) B rest S = xw (2 ^ v) B (cx k) [] → SK f1 m S → (∀ g, g ∈ S → GW (2 ^ v) g) → S.length ≤ 16 → (∀ j, j < k → RF f1 (m + 18) (16 * j) (B j)) → LYF m f f1 → wp (ev M_Mo_lays2 0 18 [some (.ref m), some (.int (nI k)), some (.int (nI (o + i)))] [] (wI h f1)) Q := by
  have mc := C.1
  have ar10 : hR h m 20 = some (m + 10) := (C.2 9 (by decide)).1
  have an10 : hN h (m + 10) = 10 := (C.2 9 (by decide)).2.1
  have ac10 : hC h (m + 10) = 20 := (C.2 9 (by decide)).2.2
  have ar11 : hR h m 21 = some (m + 11) := (C.2 10 (by decide)).1
  have an11 : hN h (m + 11) = 10 := (C.2 10 (by decide)).2.1
  have ac11 : hC h (m + 11) = 20 := (C.2 10 (by decide)).2.2
  have ar13 : hR h m 23 = some (m + 13) := (C.2 12 (by decide)).1
  have an13 : hN h (m + 13) = 520 := (C.2 12 (by decide)).2.1
  have ac13 : hC h (m + 13) = 20 := (C.2 12 (by decide)).2.2
  intro rest
  induction rest with
  | nil =>
    intro i S f1 hd hi ok ex K hg hl hA t
    have hi2 : (cx k).length ≤ i := List.drop_eq_nil_iff.mp hd
    have t10 := t.1 (m + 10) (by omega) (by omega) (by omega) (by omega)
    have t11 := t.1 (m + 11) (by omega) (by omega) (by omega) (by omega)
    have ok : S.length = 1 := ok
    obtain ⟨g, hS⟩ : ∃ g, S = [g] := by
      cases S with
      | nil => cases ok
      | cons g T =>
        cases T with
        | nil => exact ⟨g, rfl⟩
        | cons a b => exact absurd ok (by simp)
    rw [r_Mo_lays2_18]
    refine wp_isC mc (wp_nnR ar10 (wp_isC ac10 (wp_inA an10 rfl (by omega) (by omega) (wp_isC mc (wp_nnR ar11 (wp_isC ac11 (wp_inA an11 rfl (by omega) (by omega) ?_)))))))
    rw [nI_clamp (by omega), wI_I, t10, t11, o1, o2, nI_add]
    refine wp_bf (by rw [nI_ltI (by omega) (by omega)]; omega) ?_
    subst hS
    exact H f1 g ex.symm K hA t
  | cons c rest ih =>
    intro i S f1 hd hi ok ex K hg hl hA t
    have hi2 : i < (cx k).length := by
      by_cases z : i < (cx k).length
      · exact z
      · rw [List.drop_eq_nil_iff.mpr (by omega)] at hd; cases hd
    have hc : (cx k)[i]? = some c := by
      have := congrArg (fun l => l[0]?) hd
      simp at this
      exact this
    have hd2 : (cx k).drop (i + 1) = rest := by
      have := congrArg List.tail hd
      simpa using this
    have t10 := t.1 (m + 10) (by omega) (by omega) (by omega) (by omega)
    have t11 := t.1 (m + 11) (by omega) (by omega) (by omega) (by omega)
    have t13 := t.1 (m + 13) (by omega) (by omega) (by omega) (by omega)
    have t2 := t.1 (m + 2) (by omega) (by omega) (by omega) (by omega)
    obtain ⟨f2, w1, w2, w3⟩ := mo_works (nr := k) (A := B) (c := c) C (by rw [t2]; exact hf) hv K (by omega) hg (by omega) (fun j hj => ⟨hA j hj, hB j hj⟩) (by rcases ok with ⟨k1, -⟩ | ⟨k1, k2, -⟩ | ⟨k1, k2, k3, -⟩ <;> omega)
    rw [r_Mo_lays2_18]
    refine wp_isC mc (wp_nnR ar10 (wp_isC ac10 (wp_inA an10 rfl (by omega) (by omega) (wp_isC mc (wp_nnR ar11 (wp_isC ac11 (wp_inA an11 rfl (by omega) (by omega) ?_)))))))
    rw [nI_clamp (by omega), wI_I, t10, t11, o1, o2, nI_add]
    refine wp_bt (by rw [nI_ltI (by omega) (by omega)]; omega) (wp_isC mc (wp_nnR ar13 (wp_isC ac13 (wp_inA an13 rfl (by omega) (by omega) (wp_isC mc ?_)))))
    rw [nI_clamp (by omega), t13, o4 i c hc]
    refine wp_rVe w1 ?_
    rw [nI_add, Nat.add_assoc]
    obtain ⟨l1, l2, l3⟩ := xop_len (n := 2 ^ v) (c := c) (A := B) (S := S)
    have hA2 : ∀ j, j < k → RF f2 (m + 18) (16 * j) (B j) := fun j hj r hr => by rw [w3.1 _ (by omega) (by omega) (by omega)]; exact hA j hj r hr
    have g2 : (∀ g, g ∈ xop (2 ^ v) B c S → GW (2 ^ v) g) ∧ xsg k rest (xop (2 ^ v) B c S).length ∧ (xop (2 ^ v) B c S).length ≤ 16 := by
      have h16 := lv_p hv
      rcases ok with ⟨k1, k2, k3⟩ | ⟨k1, k2, k3⟩ | ⟨k1, k2, k3, k4⟩
      · rw [l1 (by omega)]
        refine ⟨?_, k3, by omega⟩
        unfold xop
        by_cases c5 : c < 5
        · rw [if_pos c5]
          intro g hg'
          rcases List.mem_cons.mp hg' with z | z
          · rw [z]; exact hB c (by omega)
          · exact hg g z
        · rw [if_neg c5]
          by_cases c10 : c = 10
          · rw [if_pos c10]
            intro g hg'
            rcases List.mem_cons.mp hg' with z | z
            · rw [z]; exact GW.sameG h16
            · exact hg g z
          · rw [if_neg c10, if_pos (by omega)]
            intro g hg'
            rcases List.mem_cons.mp hg' with z | z
            · rw [z]; exact GW.allG h16
            · exact hg g z
      · rw [l2 k1 k2]
        refine ⟨?_, k3, hl⟩
        subst k1
        cases S with
        | nil => intro g hg'; cases hg'
        | cons g0 S =>
          intro g hg'
          have hg' : g ∈ tp (2 ^ v) g0 :: S := hg'
          rcases List.mem_cons.mp hg' with z | z
          · rw [z]; exact GW.tp h16
          · exact hg g (List.mem_cons_of_mem _ z)
      · rw [l3 k1 k2 k3]
        refine ⟨?_, k4, by omega⟩
        unfold xop
        rw [if_neg (by omega), if_neg (by omega), if_neg (by omega), if_neg (by omega)]
        cases S with
        | nil => intro g hg'; cases hg'
        | cons b S =>
          cases S with
          | nil => exact hg
          | cons a S =>
            intro g hg'
            have hg' : g ∈ jnG (c - 20) (2 ^ v) a b :: S := hg'
            rcases List.mem_cons.mp hg' with z | z
            · rw [z]; exact GW.jnG (hg a (by simp)) (hg b (by simp))
            · exact hg g (by simp [z])
    exact ih (i + 1) _ f2 hd2 (by omega) g2.2.1 ex w2 g2.1 g2.2.2 hA2 (t.tr w3.L)
end
