/-! The plain form: what it holds. -/
/-- a state in a row of cells -/
def sv (s : Sd) (i : Nat) : Nat := if i < 80 then s.1 (i / 16) (i % 16) else s.2
/-- the plain form's code of a formula's part -/
def mkc (k : Kp) : Int32 := if k.1 = 0 then nI k.2 else if k.1 = 1 then mI (10 + k.2) else if k.1 = 2 then mI (20 + k.2) else mI 30
def MF (f : Nat → Nat → Int32) (m : Nat) (S : Abs) : Prop :=
  (f m 1 = nI (aN S) ∧ ∀ i, i < aN S → f (m + 1) i = nI (aT S i)) ∧ (f m 9 = nI (aF S) ∧ f m 10 = oI (aP S)) ∧ MPL f m (aV S) (aR S) (vTd (aQ S)) (aX S) ∧
  (f (m + 4) 0 = nI (vDr (aQ S)) ∧ f (m + 6) 0 = nI (vKs (aQ S)).length ∧ f (m + 7) 0 = nI (vUn (aQ S)) ∧ ∀ i k, (vKs (aQ S))[i]? = some k → f (m + 14) i = mkc k) ∧
  (∀ k, k < aR S → (vTd (aQ S)).testBit k = true → RF f (m + 12) (16 * k) (vGr (aQ S) k)) ∧ (∀ i, i < 81 → f (m + 16) i = nI (sv (aS S (aD S)) i)) ∧
  (f m 36 = nI (aD S) ∧ f m 37 = nI (aK S - aD S) ∧ ∀ k i, k < aK S → i < 81 → f (m + 17) (81 * k + i) = nI (sv (aS S (if k < aD S then k else k + 1)) i)) ∧
  (f m 50 = nI (aL S).length ∧ ∀ i e, (aL S)[i]? = some e → f (m + 27) i = nI e) ∧
  (f m 57 = nI (aE S).length ∧ f m 58 = nI (aM S) ∧ ∀ i e, (aE S)[i]? = some e → f (m + 28) i = nI e.1 ∧ f (m + 29) i = nI e.2.1 ∧ f (m + 30) i = nI e.2.2.1 ∧ f (m + 31) i = nI e.2.2.2.1.toNat ∧ f (m + 32) i = nI e.2.2.2.2.1 ∧ f (m + 33) i = oI e.2.2.2.2.2) ∧
  ∀ b, b < 3 → f (m + 38) b = nI (aB S b).isSome.toNat ∧ ∀ s, aB S b = some s → ∀ i, i < 81 → f (m + 37) (81 * b + i) = nI (sv s i)
/-- what a report may write on -/
def MX (m : Nat) (f f' : Nat → Nat → Int32) : Prop := (∀ b, b ≠ m → b < m + 18 ∨ m + 26 < b → b < m + 34 ∨ m + 36 < b → f' b = f b) ∧ ∀ k, k ≠ 42 → k ≠ 47 → f' m k = f m k
theorem MX.rf {m : Nat} {f : Nat → Nat → Int32} : MX m f f := ⟨fun _ _ _ _ => rfl, fun _ _ _ => rfl⟩
theorem MX.tr {m : Nat} {f g k : Nat → Nat → Int32} (x : MX m f g) (y : MX m g k) : MX m f k := ⟨fun b h1 h2 h3 => (y.1 b h1 h2 h3).trans (x.1 b h1 h2 h3), fun j h1 h2 => (y.2 j h1 h2).trans (x.2 j h1 h2)⟩
theorem LYF.M {m : Nat} {f f' : Nat → Nat → Int32} (x : LYF m f f') : MX m f f' := ⟨fun b h1 h2 _ => x.1 b h1 (by omega) (by omega) (by omega), fun k h1 _ => x.2 k h1⟩
theorem MPL.o {f f' : Nat → Nat → Int32} {m v nr td : Nat} {cx : Nat → List Nat} (P : MPL f m v nr td cx) (e : ∀ b, b = m + 2 ∨ b = m + 3 ∨ b = m + 9 ∨ b = m + 10 ∨ b = m + 11 ∨ b = m + 13 → f' b = f b) : MPL f' m v nr td cx := by
  obtain ⟨p1, p2, p3, p4⟩ := P
  refine ⟨by rw [e _ (by omega)]; exact p1, by rw [e _ (by omega)]; exact p2, fun k hk => by rw [e _ (by omega)]; exact p3 k hk, fun k hk => ?_⟩
  obtain ⟨o, o1, o2, o3, o4⟩ := p4 k hk
  exact ⟨o, by rw [e _ (by omega)]; exact o1, by rw [e _ (by omega)]; exact o2, o3, fun z i c hc => by rw [e _ (by omega)]; exact o4 z i c hc⟩
theorem MX.F {m : Nat} {f f' : Nat → Nat → Int32} {S : Abs} (x : MX m f f') (F : MF f m S) : MF f' m S := by
  obtain ⟨⟨a1, a2⟩, ⟨b1, b2⟩, c1, ⟨d1, d2, d3, d4⟩, e1, g1, ⟨h1, h2, h3⟩, ⟨i1, i2⟩, ⟨j1, j2, j3⟩, k1⟩ := F
  have o : ∀ b, b ≠ m → b < m + 18 ∨ m + 26 < b → b < m + 34 ∨ m + 36 < b → f' b = f b := x.1
  have s : ∀ k, k ≠ 42 → k ≠ 47 → f' m k = f m k := x.2
  refine ⟨⟨by rw [s _ (by decide) (by decide)]; exact a1, fun i hi => by rw [o _ (by omega) (by omega) (by omega)]; exact a2 i hi⟩, ⟨by rw [s _ (by decide) (by decide)]; exact b1, by rw [s _ (by decide) (by decide)]; exact b2⟩, c1.o (fun b hb => o b (by omega) (by omega) (by omega)), ⟨by rw [o _ (by omega) (by omega) (by omega)]; exact d1, by rw [o _ (by omega) (by omega) (by omega)]; exact d2, by rw [o _ (by omega) (by omega) (by omega)]; exact d3, fun i k hk => by rw [o _ (by omega) (by omega) (by omega)]; exact d4 i k hk⟩, fun k hk hz r hr => by rw [o _ (by omega) (by omega) (by omega)]; exact e1 k hk hz r hr, fun i hi => by rw [o _ (by omega) (by omega) (by omega)]; exact g1 i hi, ⟨by rw [s _ (by decide) (by decide)]; exact h1, by rw [s _ (by decide) (by decide)]; exact h2, fun k i hk hi => by rw [o _ (by omega) (by omega) (by omega)]; exact h3 k i hk hi⟩, ⟨by rw [s _ (by decide) (by decide)]; exact i1, fun i e he => by rw [o _ (by omega) (by omega) (by omega)]; exact i2 i e he⟩, ⟨by rw [s _ (by decide) (by decide)]; exact j1, by rw [s _ (by decide) (by decide)]; exact j2, fun i e he => ?_⟩, fun b hb => ⟨by rw [o _ (by omega) (by omega) (by omega)]; exact (k1 b hb).1, fun t ht i hi => by rw [o _ (by omega) (by omega) (by omega)]; exact (k1 b hb).2 t ht i hi⟩⟩
  rw [o (m + 28) (by omega) (by omega) (by omega), o (m + 29) (by omega) (by omega) (by omega), o (m + 30) (by omega) (by omega) (by omega), o (m + 31) (by omega) (by omega) (by omega), o (m + 32) (by omega) (by omega) (by omega), o (m + 33) (by omega) (by omega) (by omega)]
  exact j3 i e he
section
variable {h : MH} {f : Nat → Nat → Int32} {m : Nat} {S : Abs}
theorem MF.now (F : MF f m S) : ∀ k, k < 5 → RF f (m + 16) (16 * k) ((aS S (aD S)).1 k) := fun k hk r hr => by
  rw [F.2.2.2.2.2.1 (16 * k + r) (by omega)]
  unfold sv
  rw [if_pos (by omega), show (16 * k + r) / 16 = k by omega, show (16 * k + r) % 16 = r by omega]
/-- all relations laid out -/
theorem mo_L (C : MSH h m) (F : MF f m S) (W : WS S) : ∃ f', ev M_Mo_lays2 0 0 [some (.ref m), none, none] [] (wI h f) = some (none, wI h f') ∧ (∀ k, k < aR S → RF f' (m + 18) (16 * k) (aG S k) ∧ GW (aW S) (aG S k)) ∧ MX m f f' := by
  have P := W.2.2.1
  have wd := W.2.2.2.1.2.2 _ W.2.2.2.1.1
  obtain ⟨f', a1, a2, a3⟩ := mo_lays C P.1.2.1 P.1.2.2.2.1 F.2.2.1 P.2.2.2.1 F.now (fun k hk => (wd.2 k).1 hk)
  exact ⟨f', a1, fun k hk => ⟨a2 k hk, gA_W P wd k⟩, a3.M⟩
theorem m_fault (C : MSH h m) (F : MF f m S) (w : Int32) : ev M_Mo_fault 0 0 [some (.ref m), some (.int w)] [] (wI h f) = some (some (.int (sFault S w)), wI h f) := by
  rw [r_Mo_fault_0]
  unfold sFault
  by_cases z : w = nI 0
  · rw [if_pos z]
    exact wp_e (wp_bt z (wp_isC C.1 (wp_s ⟨by rw [wI_I, F.2.1.1], rfl⟩)))
  · rw [if_neg z]
    by_cases z1 : w = nI 1
    · rw [if_pos z1]
      exact wp_e (wp_bf z (wp_bt z1 (wp_isC C.1 (wp_s ⟨by rw [wI_I, F.2.1.2], rfl⟩))))
    · rw [if_neg z1]
      exact wp_e (wp_bf z (wp_bf z1 (wp_s ⟨rfl, rfl⟩)))
theorem mo_rel (C : MSH h m) (F : MF f m S) (W : WS S) (x : Int32) : ev M_Mo_isRel 0 0 [some (.ref m), some (.int x)] [] (wI h f) = some (some (.int (nI (inN x (aR S)).isSome.toNat)), wI h f) := mo_isRel C F.2.2.1.2.1 W.2.2.1.1.2.2.2.1 x
theorem mo_node (C : MSH h m) (F : MF f m S) (W : WS S) (x : Int32) : ev M_Mo_isNode 0 0 [some (.ref m), some (.int x)] [] (wI h f) = some (some (.int (nI (inN x (aW S)).isSome.toNat)), wI h f) := mo_isNode C F.2.2.1.1 W.2.2.1.1.2.1 x
theorem mo_arePair (C : MSH h m) (F : MF f m S) (W : WS S) (a b c : Int32) : ev M_Mo_arePair 0 0 [some (.ref m), some (.int a), some (.int b), some (.int c)] [] (wI h f) = some (some (.int (nI ((inN a (aR S)).isSome && (inN b (aW S)).isSome && (inN c (aW S)).isSome).toNat)), wI h f) := by
  rw [r_Mo_arePair_0]
  refine wp_e (wp_isC C.1 (wp_rIe (mo_rel C F W a) ?_))
  cases inN a (aR S) with
  | none => exact wp_bt rfl (wp_isZ (by decide) (wp_s ⟨rfl, rfl⟩))
  | some k =>
    refine wp_bf n10 (wp_isC C.1 (wp_rIe (mo_node C F W b) ?_))
    cases inN b (aW S) with
    | none => exact wp_bt rfl (wp_isZ (by decide) (wp_s ⟨rfl, rfl⟩))
    | some i =>
      refine wp_bf n10 (wp_isC C.1 (wp_rIe (mo_node C F W c) ?_))
      cases inN c (aW S) with
      | none => exact wp_bt rfl (wp_isZ (by decide) (wp_s ⟨rfl, rfl⟩))
      | some j => exact wp_bf n10 (wp_isZ (by decide) (wp_s ⟨rfl, rfl⟩))
theorem m_has (C : MSH h m) (F : MF f m S) (W : WS S) (a b c : Int32) : ∃ f', ev M_Mo_has 0 0 [some (.ref m), some (.int a), some (.int b), some (.int c)] [] (wI h f) = some (some (.int (sHas S a b c)), wI h f') ∧ MX m f f' := by
  have mc := C.1
  have ar18 : hR h m 38 = some (m + 18) := (C.2 17 (by decide)).1
  have an18 : hN h (m + 18) = 80 := (C.2 17 (by decide)).2.1
  have ac18 : hC h (m + 18) = 20 := (C.2 17 (by decide)).2.2
  have pr := mo_arePair C F W a b c
  unfold sHas
  rw [r_Mo_has_0]
  have bad : ((inN a (aR S)).isSome && (inN b (aW S)).isSome && (inN c (aW S)).isSome) = false → (on (inN a (aR S)) fun k => on (inN b (aW S)) fun i => on (inN c (aW S)) fun j => nI ((aG S k i).testBit j).toNat) = mI 1 := by
    cases inN a (aR S) with
    | none => intro; rfl
    | some k =>
      cases inN b (aW S) with
      | none => intro; rfl
      | some i =>
        cases inN c (aW S) with
        | none => intro; rfl
        | some j => intro z; cases z
  cases z : ((inN a (aR S)).isSome && (inN b (aW S)).isSome && (inN c (aW S)).isSome) with
  | false =>
    rw [bad z]
    rw [z] at pr
    exact ⟨f, wp_e (wp_isC mc (wp_rIe pr (wp_bt rfl (wp_s ⟨rfl, rfl⟩)))), MX.rf⟩
  | true =>
    rw [z] at pr
    cases za : inN a (aR S) with
    | none => rw [za] at z; cases z
    | some k =>
      cases zb : inN b (aW S) with
      | none => rw [za, zb] at z; cases z
      | some i =>
        cases zc : inN c (aW S) with
        | none => rw [za, zb, zc] at z; cases z
        | some j =>
          obtain ⟨e1, k1, -⟩ := inN_s za
          obtain ⟨e2, k2, -⟩ := inN_s zb
          obtain ⟨e3, k3, -⟩ := inN_s zc
          subst e1
          subst e2
          subst e3
          obtain ⟨f', l1, l2, l3⟩ := mo_L C F W
          have h16 : aW S ≤ 16 := lv_p W.2.2.1.1.2.1
          have h5 : aR S ≤ 5 := W.2.2.1.1.2.2.2.1
          obtain ⟨R, V⟩ := l2 k k1
          refine ⟨f', wp_e (wp_isC mc (wp_rIe pr (wp_bf n10 (wp_isC mc (wp_rVe l1 (wp_isC mc (wp_nnR ar18 (wp_isC ac18 (wp_inA (n := 16 * k + i) an18 (by rw [pk_mul, nI_add]) (by omega) (by omega) (wp_s ⟨?_, rfl⟩)))))))))), l3⟩
          have e : (nI 16 * nI k + nI i).toNatClampNeg = 16 * k + i := by rw [pk_mul, nI_add, nI_clamp (by omega)]
          rw [e, wI_I, R i (by omega), nm_shr (by omega) (Nat.lt_of_lt_of_le (V.lt i) (by decide)), nm_and, Nat.and_one_is_mod, ← Nat.toNat_testBit]
          rfl
end
