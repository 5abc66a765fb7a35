/-! The plain form: one part of a derived relation worked off. -/
theorem jnG_e {w n i : Nat} {a b : Nat → Nat} (V : GW n a) (V2 : GW n b) (hw : w ≤ 3) : jnG w n a b i = jn w n a b i := by
  show (if _ then _ else _) = _
  by_cases z : i < n
  · rw [if_pos z]
  · rw [if_neg z]
    have e1 := V.2.2 i (by omega)
    have e2 := V2.2.2 i (by omega)
    unfold jn
    rw [e1, e2]
    by_cases w0 : w = 0
    · rw [if_pos w0]; rfl
    · rw [if_neg w0]
      by_cases w1 : w = 1
      · rw [if_pos w1]; rfl
      · rw [if_neg w1]
        by_cases w2 : w = 2
        · rw [if_pos w2]; rfl
        · rw [if_neg w2, if_pos (by omega), sf_0]
section
variable {h : MH} {f : Nat → Nat → Int32} {m : Nat}
theorem mo_join {v c t : Nat} {a b : Nat → Nat} (C : MSH h m) (ht : t + 2 ≤ 40) (hc : 20 ≤ c) (hc2 : c ≤ 23) (Ra : RF f (m + 19) (16 * t) a) (Rb : RF f (m + 19) (16 * (t + 1)) b) (V : GW (2 ^ v) a) (V2 : GW (2 ^ v) b) :
    ∃ f', ev M_Mo_works 0 42 [some (.ref m), some (.int (nI (mcd c))), some (.int (nI (16 * t))), some (.int (nI (16 * (t + 1)))), some (.int (nI 0))] [] (wI h f) = some (none, wI h f') ∧ RF f' (m + 19) (16 * t) (jnG (c - 20) (2 ^ v) a b) ∧ Oth (m + 19) (16 * t) 16 f f' := by
  have mc := C.1
  have ar19 : hR h m 39 = some (m + 19) := (C.2 18 (by decide)).1
  have an19 : hN h (m + 19) = 640 := (C.2 18 (by decide)).2.1
  have ac19 : hC h (m + 19) = 20 := (C.2 18 (by decide)).2.2
  have ha : ∀ r, a r < 2 ^ 16 := V.lt
  have hb : ∀ r, b r < 2 ^ 16 := V2.lt
  have L : ∀ k i f1, i + k = 16 → (∀ r, r < i → f1 (m + 19) (16 * t + r) = nI (jnG (c - 20) (2 ^ v) a b r)) → (∀ r, i ≤ r → r < 16 → f1 (m + 19) (16 * t + r) = nI (a r)) → Oth (m + 19) (16 * t) 16 f f1 → ∃ f', ev M_Mo_works 0 42 [some (.ref m), some (.int (nI (mcd c))), some (.int (nI (16 * t))), some (.int (nI (16 * (t + 1)))), some (.int (nI i))] [] (wI h f1) = some (none, wI h f') ∧ RF f' (m + 19) (16 * t) (jnG (c - 20) (2 ^ v) a b) ∧ Oth (m + 19) (16 * t) 16 f f' := by
    intro k
    induction k with
    | zero =>
      intro i f1 hi e1 e2 o1
      have : i = 16 := by omega
      subst this
      refine ⟨f1, ?_, e1, o1⟩
      rw [r_Mo_works_42]
      exact wp_e (wp_bf (by decide) (wp_s ⟨rfl, rfl⟩))
    | succ k ih =>
      intro i f1 hi e1 e2 o1
      obtain ⟨f', i1, i2⟩ := ih (i + 1) (up2 f1 (m + 19) (16 * t + i) (nI (jnG (c - 20) (2 ^ v) a b i))) (by omega) (fun r hr => by
        by_cases z : r = i
        · rw [z, up2_s]
        · rw [up2_k (by omega)]; exact e1 r (by omega)) (fun r h1 h2 => by rw [up2_k (by omega)]; exact e2 r (by omega) h2) (o1.tr (Oth.u (by omega) (by omega)))
      have Rb1 : RF f1 (m + 19) (16 * (t + 1)) b := fun r hr => by rw [o1.2 _ (by omega)]; exact Rb r hr
      refine ⟨f', wp_e ?_, i2⟩
      have fin : wp (ev M_Mo_works 0 79 [some (.ref m), some (.int (nI (mcd c))), some (.int (nI (16 * t))), some (.int (nI (16 * (t + 1)))), some (.int (nI i))] [(.int (nI (jnG (c - 20) (2 ^ v) a b i))), (.int (nI (16 * t) + nI i)), (.ref (m + 19))] (wI h f1)) (fun a b => a = none ∧ b = wI h f') := by
        rw [r_Mo_works_79]
        refine wp_isC ac19 ?_
        rw [nI_add]
        refine wp_inA an19 rfl (by omega) (by omega) ?_
        rw [nI_clamp (by omega), wI_s, nI_add]
        exact wp_of i1 ⟨rfl, rfl⟩
      rw [jnG_e V V2 (by omega)] at fin
      rw [r_Mo_works_42]
      refine wp_bt (by rw [nI_ltI (by omega) (by decide)]; omega) (wp_isC mc (wp_nnR ar19 ?_))
      have c4 : c = 20 ∨ c = 21 ∨ c = 22 ∨ c = 23 := by omega
      rcases c4 with z | z | z | z
      all_goals subst z
      · refine wp_bf (by decide) (wp_isC mc (wp_nnR ar19 (wp_isC ac19 (wp_inA (n := 16 * t + i) an19 (nI_add _ _) (by omega) (by omega) (wp_isC mc (wp_nnR ar19 (wp_isC ac19 (wp_inA (n := 16 * (t + 1) + i) an19 (nI_add _ _) (by omega) (by omega) ?_))))))))
        rw [nI_add, nI_add, nI_clamp (by omega), nI_clamp (by omega), wI_I, e2 i (by omega) (by omega), Rb1 i (by omega)]
        refine wp_rIe (x := nI (a i ||| b i)) (h := wI h f1) ?_ ?_
        · rw [r_Mo_joined_0]
          exact wp_e (wp_bt rfl (wp_s ⟨by rw [nm_or], rfl⟩))
        · rw [← nI_add]; exact fin
      · refine wp_bf (by decide) (wp_isC mc (wp_nnR ar19 (wp_isC ac19 (wp_inA (n := 16 * t + i) an19 (nI_add _ _) (by omega) (by omega) (wp_isC mc (wp_nnR ar19 (wp_isC ac19 (wp_inA (n := 16 * (t + 1) + i) an19 (nI_add _ _) (by omega) (by omega) ?_))))))))
        rw [nI_add, nI_add, nI_clamp (by omega), nI_clamp (by omega), wI_I, e2 i (by omega) (by omega), Rb1 i (by omega)]
        refine wp_rIe (x := nI (a i &&& b i)) (h := wI h f1) ?_ ?_
        · rw [r_Mo_joined_0]
          exact wp_e (wp_bf (by decide) (wp_bt rfl (wp_s ⟨by rw [nm_and], rfl⟩)))
        · rw [← nI_add]; exact fin
      · refine wp_bf (by decide) (wp_isC mc (wp_nnR ar19 (wp_isC ac19 (wp_inA (n := 16 * t + i) an19 (nI_add _ _) (by omega) (by omega) (wp_isC mc (wp_nnR ar19 (wp_isC ac19 (wp_inA (n := 16 * (t + 1) + i) an19 (nI_add _ _) (by omega) (by omega) ?_))))))))
        rw [nI_add, nI_add, nI_clamp (by omega), nI_clamp (by omega), wI_I, e2 i (by omega) (by omega), Rb1 i (by omega)]
        refine wp_rIe (x := nI (nd (a i) (b i))) (h := wI h f1) ?_ ?_
        · rw [r_Mo_joined_0]
          exact wp_e (wp_bf (by decide) (wp_bf (by decide) (wp_s ⟨by rw [nm_nd], rfl⟩)))
        · rw [← nI_add]; exact fin
      · refine wp_bt rfl (wp_isC mc (wp_nnR ar19 (wp_isC ac19 (wp_inA (n := 16 * t + i) an19 (nI_add _ _) (by omega) (by omega) (wp_isC mc (wp_nnR ar19 ?_))))))
        rw [nI_add, nI_clamp (by omega), wI_I, e2 i (by omega) (by omega)]
        refine wp_rIe (mo_through ac19 an19 (by omega) (by decide) Rb1 hb (ha i)) ?_
        rw [← nI_add, sf_16 V2]; exact fin
  exact L 16 0 f rfl (fun r hr => absurd hr (Nat.not_lt_zero r)) (fun r _ hr => Ra r hr) Oth.rf
theorem mo_works {v c nr : Nat} {A : Nat → Rw} {S : List Rw} (C : MSH h m) (hf : f (m + 2) 0 = nI v) (hv : v ≤ 4) (K : SK f m S) (hS : S.length < 40) (hg : ∀ g, g ∈ S → GW (2 ^ v) g) (hn : nr ≤ 5) (hA : ∀ k, k < nr → RF f (m + 18) (16 * k) (A k) ∧ GW (2 ^ v) (A k)) (ok : (c < nr ∨ c = 10 ∨ c = 11) ∨ (c = 12 ∧ 0 < S.length) ∨ (20 ≤ c ∧ c ≤ 23 ∧ 1 < S.length)) :
    ∃ f', ev M_Mo_works 0 0 [some (.ref m), some (.int (nI (mcd c))), none, none, none] [] (wI h f) = some (none, wI h f') ∧ SK f' m (xop (2 ^ v) A c S) ∧ WKF m f f' := by
  have mc := C.1
  have ar19 : hR h m 39 = some (m + 19) := (C.2 18 (by decide)).1
  have an19 : hN h (m + 19) = 640 := (C.2 18 (by decide)).2.1
  have ac19 : hC h (m + 19) = 20 := (C.2 18 (by decide)).2.2
  rcases ok with ok | ⟨ok, l0⟩ | ⟨o1, o2, l1⟩
  · obtain ⟨f', a1, a2, a3⟩ := mo_push C hf hv K hS hn hA ok
    refine ⟨f', ?_, a2, a3⟩
    have e : mcd c = c := by unfold mcd; rw [if_neg (by omega), if_neg (by omega), if_neg (by omega)]
    rw [e, r_Mo_works_0]
    exact wp_e (wp_bt (by rw [nI_ltI (by omega) (by decide)]; omega) (wp_isC mc (wp_rVe a1 (wp_s ⟨rfl, rfl⟩))))
  · subst ok
    cases S with
    | nil => exact absurd l0 (by decide)
    | cons g T =>
      obtain ⟨k1, k2, k3⟩ := K
      have k1 : f m 42 = nI (T.length + 1) := k1
      have hS : T.length + 1 < 40 := hS
      have Vg := hg g (List.mem_cons_self ..)
      obtain ⟨f', a1, a2, a3⟩ := mo_turnsBack (a := m + 19) C (by omega) ac19 an19 (by omega) (by decide) k2 Vg.lt
      refine ⟨f', ?_, ⟨?_, fun r hr => ?_, SKr_o k3 (fun k hk => a3.2 k (by omega))⟩, ⟨fun b h1 h2 h3 => a3.1 b h2 h3, fun k hk => by rw [a3.1 m (by omega) (by omega)]⟩⟩
      · rw [r_Mo_works_0]
        refine wp_e (wp_bf (by decide) (wp_bt rfl (wp_isC mc (wp_nnR ar19 (wp_isC mc (wp_isC mc ?_))))))
        rw [wI_I, k1, nm_m1 (by omega), Nat.add_sub_cancel, pk_mul]
        exact wp_rVe a1 (wp_s ⟨rfl, rfl⟩)
      · rw [a3.1 m (by omega) (by omega)]; exact k1
      · rw [a2 r hr, tp_16 Vg]
  · cases S with
    | nil => exact absurd l1 (by decide)
    | cons b S =>
      cases S with
      | nil => exact absurd l1 (by simp)
      | cons a T =>
        obtain ⟨k1, k2, k3, k4⟩ := K
        have k1 : f m 42 = nI (T.length + 1 + 1) := k1
        have hS : T.length + 1 + 1 < 40 := hS
        have k2 : RF f (m + 19) (16 * (T.length + 1)) b := k2
        obtain ⟨f', a1, a2, a3⟩ := mo_join (v := v) (c := c) (t := T.length) (a := a) (b := b) (f := up2 f m 42 (nI (T.length + 1))) C (by omega) o1 o2 (fun r hr => by rw [up2_a (by omega)]; exact k3 r hr) (fun r hr => by rw [up2_a (by omega)]; exact k2 r hr) (hg a (by simp)) (hg b (by simp))
        have ex : xop (2 ^ v) A c (b :: a :: T) = jnG (c - 20) (2 ^ v) a b :: T := by
          unfold xop; rw [if_neg (by omega), if_neg (by omega), if_neg (by omega), if_neg (by omega)]
        rw [ex]
        refine ⟨f', ?_, ⟨?_, a2, SKr_o k4 (fun k hk => by rw [a3.2 k (by omega), up2_a (by omega)])⟩, ⟨fun b h1 h2 h3 => by rw [a3.1 b h2, up2_a h1], fun k hk => by rw [a3.1 m (by omega), up2_k hk]⟩⟩
        · have e1 : 20 ≤ mcd c ∧ mcd c < 24 := by unfold mcd; split <;> (try split) <;> (try split) <;> omega
          rw [r_Mo_works_0]
          refine wp_e (wp_bf (by rw [nI_ltI (by omega) (by decide)]; omega) (wp_bf (by rw [nI_eq (by omega) (by decide)]; omega) (wp_isC mc (wp_isC mc ?_))))
          rw [wI_I, k1, nm_m1 (by omega), Nat.add_sub_cancel, wI_s]
          refine wp_isC mc (wp_isC mc ?_)
          rw [wI_I, up2_s, nm_m1 (by omega), Nat.add_sub_cancel, pk_mul, pk_mul]
          exact wp_of a1 ⟨rfl, rfl⟩
        · rw [a3.1 m (by omega), up2_s]; rfl
end
