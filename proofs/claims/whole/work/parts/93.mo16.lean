/-! The plain form: the bits of a tree. -/
theorem mk_t {c s i : Nat} : (2 ^ (c + s) - 2 ^ c).testBit i = (decide (c ≤ i) && decide (i < c + s)) := by
  have e : 2 ^ (c + s) - 2 ^ c = (2 ^ s - 1) <<< c := by rw [Nat.shiftLeft_eq, Nat.sub_mul, Nat.one_mul, ← Nat.pow_add, Nat.add_comm s c]
  rw [e, Nat.testBit_shiftLeft, Nat.testBit_two_pow_sub_one]
  by_cases h : c ≤ i
  · have : (i - c < s) ↔ (i < c + s) := by omega
    simp only [ge_iff_le, h, decide_true, Bool.true_and, this]
  · simp only [ge_iff_le, h, decide_false, Bool.false_and]
theorem ib_pos {G : Nat → Nat} {a c s : Nat} (hG : ∀ r, G r < 2 ^ 16) : 0 < ib G a c s ↔ ∃ i j, i < s ∧ j < s ∧ (G (a + i)).testBit (c + j) = true := by
  unfold ib ci
  rw [sm_pos]
  constructor
  · rintro ⟨i, hi, h⟩
    have h := (bc_pos (Nat.lt_of_le_of_lt Nat.and_le_left (hG _))).mp h
    obtain ⟨j, hj⟩ := Nat.exists_testBit_of_ne_zero h
    rw [Nat.testBit_and, mk_t] at hj
    simp only [Bool.and_eq_true, decide_eq_true_eq] at hj
    exact ⟨i, j - c, hi, by omega, by rw [show c + (j - c) = j by omega]; exact hj.1⟩
  · rintro ⟨i, j, hi, hj, h⟩
    refine ⟨i, hi, (bc_pos (Nat.lt_of_le_of_lt Nat.and_le_left (hG _))).mpr ?_⟩
    intro z
    have : (G (a + i) &&& (2 ^ (c + s) - 2 ^ c)).testBit (c + j) = true := by
      rw [Nat.testBit_and, mk_t, h, decide_eq_true (show c ≤ c + j by omega), decide_eq_true (show c + j < c + s by omega)]; rfl
    rw [z, Nat.zero_testBit] at this
    cases this
theorem ib_fl {v l r c : Nat} {G : Nat → Nat} (V : GW (2 ^ v) G) : 0 < ib G (r * 2 ^ (v - l)) (c * 2 ^ (v - l)) (2 ^ (v - l)) ↔ (fl v G l r).testBit c = true := by
  rw [ib_pos V.lt, fl_t V]
  have p := Nat.two_pow_pos (v - l)
  generalize 2 ^ (v - l) = s at *
  constructor
  · rintro ⟨i, j, hi, hj, h⟩
    exact ⟨r * s + i, c * s + j, by rw [Nat.mul_comm, Nat.mul_add_div p, Nat.div_eq_of_lt hi, Nat.add_zero], by rw [Nat.mul_comm, Nat.mul_add_div p, Nat.div_eq_of_lt hj, Nat.add_zero], h⟩
  · rintro ⟨i, j, h1, h2, h⟩
    refine ⟨i % s, j % s, Nat.mod_lt _ p, Nat.mod_lt _ p, ?_⟩
    rw [← h1, ← h2, Nat.div_add_mod', Nat.div_add_mod']
    exact h
/-- the row of bits -/
def QM (f : Nat → Nat → Int32) (m v : Nat) (p : Eb → Bool) (Q : List Eb) : Prop := f m 47 = nI Q.length ∧ ∀ j e, Q[j]? = some e → f (m + 22) j = nI e.1 ∧ f (m + 23) j = nI (e.2.1 * 2 ^ (v - e.1)) ∧ f (m + 24) j = nI (e.2.2 * 2 ^ (v - e.1)) ∧ f (m + 25) j = nI (p e).toNat
def TQ (m : Nat) (f f' : Nat → Nat → Int32) : Prop := (∀ b, b ≠ m → b < m + 22 ∨ m + 25 < b → f' b = f b) ∧ ∀ k, k ≠ 47 → f' m k = f m k
theorem TQ.rf {m : Nat} {f : Nat → Nat → Int32} : TQ m f f := ⟨fun _ _ _ => rfl, fun _ _ => rfl⟩
theorem TQ.tr {m : Nat} {f g k : Nat → Nat → Int32} (x : TQ m f g) (y : TQ m g k) : TQ m f k := ⟨fun b h1 h2 => (y.1 b h1 h2).trans (x.1 b h1 h2), fun j hj => (y.2 j hj).trans (x.2 j hj)⟩
theorem TQ.M {m : Nat} {f f' : Nat → Nat → Int32} (x : TQ m f f') : MX m f f' := ⟨fun b h1 h2 _ => x.1 b h1 (by omega), fun k _ h2 => x.2 k h2⟩
def qu (f : Nat → Nat → Int32) (m n l r c b : Nat) : Nat → Nat → Int32 := up2 (up2 (up2 (up2 (up2 f (m + 22) n (nI l)) (m + 23) n (nI r)) (m + 24) n (nI c)) (m + 25) n (nI b)) m 47 (nI (n + 1))
theorem qu_T {f : Nat → Nat → Int32} {m n l r c b : Nat} : TQ m f (qu f m n l r c b) := by
  unfold qu
  exact ⟨fun x h1 h2 => by rw [up2_a h1, up2_a (by omega), up2_a (by omega), up2_a (by omega), up2_a (by omega)], fun k hk => by rw [up2_k hk, up2_a (by omega), up2_a (by omega), up2_a (by omega), up2_a (by omega)]⟩
theorem QM_app {f : Nat → Nat → Int32} {m v : Nat} {p : Eb → Bool} {Q : List Eb} (B : QM f m v p Q) (e : Eb) : QM (qu f m Q.length e.1 (e.2.1 * 2 ^ (v - e.1)) (e.2.2 * 2 ^ (v - e.1)) (p e).toNat) m v p (Q ++ [e]) := by
  unfold qu
  refine ⟨by rw [up2_s, List.length_append]; rfl, fun j x hx => ?_⟩
  rcases app1 hx with ⟨w, w2⟩ | ⟨w, w2⟩
  · have := B.2 j x w2
    have w3 : j ≠ Q.length := by omega
    simp (disch := omega) only [up2_a, up2_k]
    exact this
  · subst w
    subst w2
    simp (disch := omega) only [up2_a, up2_k, up2_s]
    exact ⟨trivial, trivial, trivial, trivial⟩
section
variable {h : MH} {f : Nat → Nat → Int32} {m a o N : Nat} {G : Nat → Nat}
theorem mo_q1 {n l q s R K dr dc : Nat} {Qp : Option Value → MH → Prop} (C : MSH h m) (ac : hC h a = 20) (an : hN h a = N) (ho : o + 16 ≤ N) (hN' : N < 2 ^ 30) (ha : a ≠ m ∧ (a < m + 22 ∨ m + 25 < a)) (F : RF f a o G) (hG : ∀ r, G r < 2 ^ 16) (f47 : f m 47 = nI n) (hn : n < 340) (hq : q < 4) (hr : R + dr + s ≤ 16) (hc : K + dc + s ≤ 16) (hd : (q < 2 → dr = 0) ∧ (¬ q < 2 → s = dr)) (he : (q % 2 = 1 → s = dc) ∧ (¬ q % 2 = 1 → dc = 0))
    (H : wp (ev M_Mo_laysQuarters 0 8 [some (.ref m), some (.ref a), some (.int (nI o)), some (.int (nI l)), some (.int (nI R)), some (.int (nI K)), some (.int (nI s)), some (.int (nI (q + 1)))] [] (wI h (qu f m n l (R + dr) (K + dc) (decide (0 < ib G (R + dr) (K + dc) s)).toNat))) Qp) :
    wp (ev M_Mo_laysQuarters 0 8 [some (.ref m), some (.ref a), some (.int (nI o)), some (.int (nI l)), some (.int (nI R)), some (.int (nI K)), some (.int (nI s)), some (.int (nI q))] [] (wI h f)) Qp := by
  have mc := C.1
  have ar22 : hR h m 43 = some (m + 22) := (C.2 21 (by decide)).1
  have an22 : hN h (m + 22) = 340 := (C.2 21 (by decide)).2.1
  have ac22 : hC h (m + 22) = 20 := (C.2 21 (by decide)).2.2
  have ar23 : hR h m 44 = some (m + 23) := (C.2 22 (by decide)).1
  have an23 : hN h (m + 23) = 340 := (C.2 22 (by decide)).2.1
  have ac23 : hC h (m + 23) = 20 := (C.2 22 (by decide)).2.2
  have ar24 : hR h m 45 = some (m + 24) := (C.2 23 (by decide)).1
  have an24 : hN h (m + 24) = 340 := (C.2 23 (by decide)).2.1
  have ac24 : hC h (m + 24) = 20 := (C.2 23 (by decide)).2.2
  have ar25 : hR h m 46 = some (m + 25) := (C.2 24 (by decide)).1
  have an25 : hN h (m + 25) = 340 := (C.2 24 (by decide)).2.1
  have ac25 : hC h (m + 25) = 20 := (C.2 24 (by decide)).2.2
  have em : (nI q - nI q / nI 2 * nI 2) = nI (q % 2) := by
    have : ∀ w : Fin 4, (nI w.val - nI w.val / nI 2 * nI 2) = nI (w.val % 2) := by decide +kernel
    exact this ⟨q, hq⟩
  have c70 : ∀ b : Bool, b = decide (0 < ib G (R + dr) (K + dc) s) → wp (ev M_Mo_laysQuarters 0 70 [some (.ref m), some (.ref a), some (.int (nI o)), some (.int (nI l)), some (.int (nI R)), some (.int (nI K)), some (.int (nI s)), some (.int (nI q))] [(.int (nI b.toNat)), (.int (nI n)), (.ref (m + 25))] (wI h (up2 (up2 (up2 f (m + 22) n (nI l)) (m + 23) n (nI (R + dr))) (m + 24) n (nI (K + dc))))) Qp := by
    intro b hb
    subst hb
    rw [r_Mo_laysQuarters_70]
    refine wp_isC ac25 (wp_inA an25 rfl (by omega) (by omega) ?_)
    rw [nI_clamp (by omega), wI_s]
    refine wp_isC mc (wp_isC mc ?_)
    rw [wI_I, up2_a (by omega), up2_a (by omega), up2_a (by omega), up2_a (by omega), f47, nI_add, nI_add, wI_s]
    exact H
  have c45 : wp (ev M_Mo_laysQuarters 0 45 [some (.ref m), some (.ref a), some (.int (nI o)), some (.int (nI l)), some (.int (nI R)), some (.int (nI K)), some (.int (nI s)), some (.int (nI q))] [(.int (nI dc)), (.int (nI K)), (.int (nI n)), (.ref (m + 24))] (wI h (up2 (up2 f (m + 22) n (nI l)) (m + 23) n (nI (R + dr))))) Qp := by
    rw [r_Mo_laysQuarters_45]
    refine wp_isC ac24 (wp_inA an24 rfl (by omega) (by omega) ?_)
    rw [nI_clamp (by omega), nI_add, wI_s]
    have g47 : (up2 (up2 (up2 f (m + 22) n (nI l)) (m + 23) n (nI (R + dr))) (m + 24) n (nI (K + dc))) m 47 = nI n := by rw [up2_a (by omega), up2_a (by omega), up2_a (by omega), f47]
    have g23 : (up2 (up2 (up2 f (m + 22) n (nI l)) (m + 23) n (nI (R + dr))) (m + 24) n (nI (K + dc))) (m + 23) n = nI (R + dr) := by rw [up2_a (by omega), up2_s]
    have g24 : (up2 (up2 (up2 f (m + 22) n (nI l)) (m + 23) n (nI (R + dr))) (m + 24) n (nI (K + dc))) (m + 24) n = nI (K + dc) := by rw [up2_s]
    have FG : RF (up2 (up2 (up2 f (m + 22) n (nI l)) (m + 23) n (nI (R + dr))) (m + 24) n (nI (K + dc))) a o G := fun r hr => by rw [up2_a (by omega), up2_a (by omega), up2_a (by omega)]; exact F r hr
    generalize (up2 (up2 (up2 f (m + 22) n (nI l)) (m + 23) n (nI (R + dr))) (m + 24) n (nI (K + dc))) = g at g47 g23 g24 FG c70 ⊢
    refine wp_isC mc (wp_nnR ar25 (wp_isC mc (wp_isC mc (wp_nnR ar23 (wp_isC mc (wp_isC ac23 ?_))))))
    rw [wI_I, g47]
    refine wp_inA an23 rfl (by omega) (by omega) (wp_isC mc (wp_nnR ar24 (wp_isC mc (wp_isC ac24 (wp_inA an24 rfl (by omega) (by omega) ?_)))))
    rw [nI_clamp (by omega), g23, g24]
    refine wp_rIe (mo_inBlock ac an ho hN' FG hG (by omega) (by omega)) ?_
    have hib : ib G (R + dr) (K + dc) s ≤ s * 16 := ci_le _ _ _ _
    refine wp_bi (nI_ltI (by decide) (by omega)) (fun z => ?_) (fun z => ?_)
    · exact c70 true (decide_eq_true z).symm
    · exact c70 false (decide_eq_false z).symm
  have c29 : wp (ev M_Mo_laysQuarters 0 29 [some (.ref m), some (.ref a), some (.int (nI o)), some (.int (nI l)), some (.int (nI R)), some (.int (nI K)), some (.int (nI s)), some (.int (nI q))] [(.int (nI dr)), (.int (nI R)), (.int (nI n)), (.ref (m + 23))] (wI h (up2 f (m + 22) n (nI l)))) Qp := by
    rw [r_Mo_laysQuarters_29]
    refine wp_isC ac23 (wp_inA an23 rfl (by omega) (by omega) ?_)
    rw [nI_clamp (by omega), nI_add, wI_s]
    refine wp_isC mc (wp_nnR ar24 (wp_isC mc (wp_nz (by decide) ?_)))
    rw [em, wI_I, up2_a (by omega), up2_a (by omega), f47]
    refine wp_bi (nI_eq (by omega) (by decide)) (fun z => ?_) (fun z => ?_)
    · have := he.1 z
      rw [← this] at c45
      rw [this] at c45 ⊢
      exact c45
    · rw [he.2 z] at c45; exact c45
  rw [r_Mo_laysQuarters_8]
  refine wp_bt (by rw [nI_ltI (by omega) (by decide)]; exact hq) (wp_isC mc (wp_nnR ar22 (wp_isC mc (wp_isC ac22 ?_))))
  rw [wI_I, f47]
  refine wp_inA an22 rfl (by omega) (by omega) ?_
  rw [nI_clamp (by omega), wI_s]
  refine wp_isC mc (wp_nnR ar23 (wp_isC mc ?_))
  rw [wI_I, up2_a (by omega), f47]
  refine wp_bi (nI_ltI (by omega) (by decide)) (fun z => ?_) (fun z => ?_)
  · rw [hd.1 z] at c29; exact c29
  · have := hd.2 z
    rw [this]
    rw [this] at c29
    exact c29
theorem mo_quart {v : Nat} {e : Eb} {Q : List Eb} (C : MSH h m) (ac : hC h a = 20) (an : hN h a = N) (ho : o + 16 ≤ N) (hN' : N < 2 ^ 30) (ha : a ≠ m ∧ (a < m + 22 ∨ m + 25 < a)) (F : RF f a o G) (V : GW (2 ^ v) G) (hv : v ≤ 4) (f2 : f (m + 2) 0 = nI v) (he : e.1 < v) (h1 : e.2.1 < 2 ^ e.1) (h2 : e.2.2 < 2 ^ e.1) (B : QM f m v (fb v G) Q) (hQ : Q.length + 4 ≤ 340) :
    ∃ f', ev M_Mo_laysQuarters 0 0 [some (.ref m), some (.ref a), some (.int (nI o)), some (.int (nI (e.1 + 1))), some (.int (nI (e.2.1 * 2 ^ (v - e.1)))), some (.int (nI (e.2.2 * 2 ^ (v - e.1)))), none, none] [] (wI h f) = some (none, wI h f') ∧ QM f' m v (fb v G) (Q ++ qs e) ∧ TQ m f f' := by
  have mc := C.1
  have hp := lv_p hv
  have es : 2 ^ (v - e.1) = 2 * 2 ^ (v - (e.1 + 1)) := by rw [show v - e.1 = (v - (e.1 + 1)) + 1 by omega, Nat.pow_succ, Nat.mul_comm]
  have e2 : 2 ^ v / 2 ^ (e.1 + 1) = 2 ^ (v - (e.1 + 1)) := Nat.pow_div (by omega) (by decide)
  have b1 : e.2.1 * 2 ^ (v - e.1) + 2 ^ (v - e.1) ≤ 2 ^ v := by
    have : (e.2.1 + 1) * 2 ^ (v - e.1) ≤ 2 ^ e.1 * 2 ^ (v - e.1) := Nat.mul_le_mul_right _ h1
    rw [← Nat.pow_add, show e.1 + (v - e.1) = v by omega, Nat.add_mul, Nat.one_mul] at this
    exact this
  have b2 : e.2.2 * 2 ^ (v - e.1) + 2 ^ (v - e.1) ≤ 2 ^ v := by
    have : (e.2.2 + 1) * 2 ^ (v - e.1) ≤ 2 ^ e.1 * 2 ^ (v - e.1) := Nat.mul_le_mul_right _ h2
    rw [← Nat.pow_add, show e.1 + (v - e.1) = v by omega, Nat.add_mul, Nat.one_mul] at this
    exact this
  have sp := Nat.two_pow_pos (v - (e.1 + 1))
  have ix : ∀ x i, 2 * x * 2 ^ (v - (e.1 + 1)) + i = x * 2 ^ (v - e.1) + i := fun x i => by rw [es, Nat.mul_comm 2 x, Nat.mul_assoc]
  have ix1 : ∀ x, (2 * x + 1) * 2 ^ (v - (e.1 + 1)) = x * 2 ^ (v - e.1) + 2 ^ (v - (e.1 + 1)) := fun x => by rw [Nat.add_mul, Nat.one_mul, ix]
  have ix0 : ∀ x, (2 * x) * 2 ^ (v - (e.1 + 1)) = x * 2 ^ (v - e.1) + 0 := fun x => by rw [Nat.add_zero]; exact ix x 0
  have ob : ∀ r c, (decide (0 < ib G (r * 2 ^ (v - (e.1 + 1))) (c * 2 ^ (v - (e.1 + 1))) (2 ^ (v - (e.1 + 1))))) = fb v G (e.1 + 1, r, c) := fun r c => by
    show _ = (fl v G (e.1 + 1) r).testBit c
    cases z : (fl v G (e.1 + 1) r).testBit c with
    | true => exact decide_eq_true ((ib_fl V).mpr z)
    | false => exact decide_eq_false (fun w => by rw [(ib_fl V).mp w] at z; cases z)
  have B1 := QM_app B (e.1 + 1, 2 * e.2.1, 2 * e.2.2)
  have T1 := @qu_T f m Q.length (e.1 + 1) (2 * e.2.1 * 2 ^ (v - (e.1 + 1))) (2 * e.2.2 * 2 ^ (v - (e.1 + 1))) (fb v G (e.1 + 1, 2 * e.2.1, 2 * e.2.2)).toNat
  have E1 : qu f m Q.length (e.1 + 1) (e.2.1 * 2 ^ (v - e.1) + 0) (e.2.2 * 2 ^ (v - e.1) + 0) (decide (0 < ib G (e.2.1 * 2 ^ (v - e.1) + 0) (e.2.2 * 2 ^ (v - e.1) + 0) (2 ^ (v - (e.1 + 1))))).toNat = qu f m Q.length (e.1 + 1) (2 * e.2.1 * 2 ^ (v - (e.1 + 1))) (2 * e.2.2 * 2 ^ (v - (e.1 + 1))) (fb v G (e.1 + 1, 2 * e.2.1, 2 * e.2.2)).toNat := by rw [← ix0, ← ix0, ob]
  dsimp only at B1
  generalize qu f m Q.length (e.1 + 1) (2 * e.2.1 * 2 ^ (v - (e.1 + 1))) (2 * e.2.2 * 2 ^ (v - (e.1 + 1))) (fb v G (e.1 + 1, 2 * e.2.1, 2 * e.2.2)).toNat = f1 at B1 T1 E1
  have B2 := QM_app B1 (e.1 + 1, 2 * e.2.1, 2 * e.2.2 + 1)
  generalize hQ1 : Q ++ [(e.1 + 1, 2 * e.2.1, 2 * e.2.2)] = Q1 at B1 B2
  have l1 : Q1.length = Q.length + 1 := by rw [← hQ1, List.length_append]; rfl
  have T2 := @qu_T f1 m Q1.length (e.1 + 1) (2 * e.2.1 * 2 ^ (v - (e.1 + 1))) ((2 * e.2.2 + 1) * 2 ^ (v - (e.1 + 1))) (fb v G (e.1 + 1, 2 * e.2.1, 2 * e.2.2 + 1)).toNat
  have E2 : qu f1 m Q1.length (e.1 + 1) (e.2.1 * 2 ^ (v - e.1) + 0) (e.2.2 * 2 ^ (v - e.1) + 2 ^ (v - (e.1 + 1))) (decide (0 < ib G (e.2.1 * 2 ^ (v - e.1) + 0) (e.2.2 * 2 ^ (v - e.1) + 2 ^ (v - (e.1 + 1))) (2 ^ (v - (e.1 + 1))))).toNat = qu f1 m Q1.length (e.1 + 1) (2 * e.2.1 * 2 ^ (v - (e.1 + 1))) ((2 * e.2.2 + 1) * 2 ^ (v - (e.1 + 1))) (fb v G (e.1 + 1, 2 * e.2.1, 2 * e.2.2 + 1)).toNat := by rw [← ix0, ← ix1, ob]
  dsimp only at B2
  generalize qu f1 m Q1.length (e.1 + 1) (2 * e.2.1 * 2 ^ (v - (e.1 + 1))) ((2 * e.2.2 + 1) * 2 ^ (v - (e.1 + 1))) (fb v G (e.1 + 1, 2 * e.2.1, 2 * e.2.2 + 1)).toNat = g2 at B2 T2 E2
  have B3 := QM_app B2 (e.1 + 1, 2 * e.2.1 + 1, 2 * e.2.2)
  generalize hQ2 : Q1 ++ [(e.1 + 1, 2 * e.2.1, 2 * e.2.2 + 1)] = Q2 at B2 B3
  have l2 : Q2.length = Q.length + 2 := by rw [← hQ2, List.length_append, l1]; rfl
  have T3 := @qu_T g2 m Q2.length (e.1 + 1) ((2 * e.2.1 + 1) * 2 ^ (v - (e.1 + 1))) (2 * e.2.2 * 2 ^ (v - (e.1 + 1))) (fb v G (e.1 + 1, 2 * e.2.1 + 1, 2 * e.2.2)).toNat
  have E3 : qu g2 m Q2.length (e.1 + 1) (e.2.1 * 2 ^ (v - e.1) + 2 ^ (v - (e.1 + 1))) (e.2.2 * 2 ^ (v - e.1) + 0) (decide (0 < ib G (e.2.1 * 2 ^ (v - e.1) + 2 ^ (v - (e.1 + 1))) (e.2.2 * 2 ^ (v - e.1) + 0) (2 ^ (v - (e.1 + 1))))).toNat = qu g2 m Q2.length (e.1 + 1) ((2 * e.2.1 + 1) * 2 ^ (v - (e.1 + 1))) (2 * e.2.2 * 2 ^ (v - (e.1 + 1))) (fb v G (e.1 + 1, 2 * e.2.1 + 1, 2 * e.2.2)).toNat := by rw [← ix0, ← ix1, ob]
  dsimp only at B3
  generalize qu g2 m Q2.length (e.1 + 1) ((2 * e.2.1 + 1) * 2 ^ (v - (e.1 + 1))) (2 * e.2.2 * 2 ^ (v - (e.1 + 1))) (fb v G (e.1 + 1, 2 * e.2.1 + 1, 2 * e.2.2)).toNat = g3 at B3 T3 E3
  have B4 := QM_app B3 (e.1 + 1, 2 * e.2.1 + 1, 2 * e.2.2 + 1)
  generalize hQ3 : Q2 ++ [(e.1 + 1, 2 * e.2.1 + 1, 2 * e.2.2)] = Q3 at B3 B4
  have l3 : Q3.length = Q.length + 3 := by rw [← hQ3, List.length_append, l2]; rfl
  have T4 := @qu_T g3 m Q3.length (e.1 + 1) ((2 * e.2.1 + 1) * 2 ^ (v - (e.1 + 1))) ((2 * e.2.2 + 1) * 2 ^ (v - (e.1 + 1))) (fb v G (e.1 + 1, 2 * e.2.1 + 1, 2 * e.2.2 + 1)).toNat
  have E4 : qu g3 m Q3.length (e.1 + 1) (e.2.1 * 2 ^ (v - e.1) + 2 ^ (v - (e.1 + 1))) (e.2.2 * 2 ^ (v - e.1) + 2 ^ (v - (e.1 + 1))) (decide (0 < ib G (e.2.1 * 2 ^ (v - e.1) + 2 ^ (v - (e.1 + 1))) (e.2.2 * 2 ^ (v - e.1) + 2 ^ (v - (e.1 + 1))) (2 ^ (v - (e.1 + 1))))).toNat = qu g3 m Q3.length (e.1 + 1) ((2 * e.2.1 + 1) * 2 ^ (v - (e.1 + 1))) ((2 * e.2.2 + 1) * 2 ^ (v - (e.1 + 1))) (fb v G (e.1 + 1, 2 * e.2.1 + 1, 2 * e.2.2 + 1)).toNat := by rw [← ix1, ← ix1, ob]
  dsimp only at B4
  generalize qu g3 m Q3.length (e.1 + 1) ((2 * e.2.1 + 1) * 2 ^ (v - (e.1 + 1))) ((2 * e.2.2 + 1) * 2 ^ (v - (e.1 + 1))) (fb v G (e.1 + 1, 2 * e.2.1 + 1, 2 * e.2.2 + 1)).toNat = g4 at B4 T4 E4
  have eQ : Q ++ qs e = Q3 ++ [(e.1 + 1, 2 * e.2.1 + 1, 2 * e.2.2 + 1)] := by rw [← hQ3, ← hQ2, ← hQ1]; simp only [List.append_assoc]; rfl
  refine ⟨g4, wp_e ?_, by rw [eQ]; exact B4, ((T1.tr T2).tr T3).tr T4⟩
  have keep : ∀ {g g' : Nat → Nat → Int32}, TQ m g g' → RF g a o G → RF g' a o G := fun t R r hr => by rw [t.1 a ha.1 ha.2]; exact R r hr
  rw [r_Mo_laysQuarters_0]
  refine wp_isC mc (wp_rIe (mo_wide C f2 hv) ?_)
  rw [nm_shr (by omega) (by omega), e2]
  refine mo_q1 (q := 0) (dr := 0) (dc := 0) C ac an ho hN' ha F V.lt B.1 (by omega) (by decide) (by omega) (by omega) ⟨fun _ => rfl, fun z => absurd (by decide) z⟩ ⟨fun z => absurd z (by decide), fun _ => rfl⟩ ?_
  rw [E1]
  refine mo_q1 (q := 1) (dr := 0) (dc := 2 ^ (v - (e.1 + 1))) C ac an ho hN' ha (keep T1 F) V.lt B1.1 (by omega) (by decide) (by omega) (by omega) ⟨fun _ => rfl, fun z => absurd (by decide) z⟩ ⟨fun _ => rfl, fun z => absurd (by decide) z⟩ ?_
  rw [E2]
  refine mo_q1 (q := 2) (dr := 2 ^ (v - (e.1 + 1))) (dc := 0) C ac an ho hN' ha (keep T2 (keep T1 F)) V.lt B2.1 (by omega) (by decide) (by omega) (by omega) ⟨fun z => absurd z (by decide), fun _ => rfl⟩ ⟨fun z => absurd z (by decide), fun _ => rfl⟩ ?_
  rw [E3]
  refine mo_q1 (q := 3) (dr := 2 ^ (v - (e.1 + 1))) (dc := 2 ^ (v - (e.1 + 1))) C ac an ho hN' ha (keep T3 (keep T2 (keep T1 F))) V.lt B3.1 (by omega) (by decide) (by omega) (by omega) ⟨fun z => absurd z (by decide), fun _ => rfl⟩ ⟨fun _ => rfl, fun z => absurd (by decide) z⟩ ?_
  rw [E4, r_Mo_laysQuarters_8]
  exact wp_bf (by decide) (wp_s ⟨rfl, rfl⟩)
theorem mo_laysTree {v : Nat} (C : MSH h m) (ac : hC h a = 20) (an : hN h a = N) (ho : o + 16 ≤ N) (hN' : N < 2 ^ 30) (ha : a ≠ m ∧ (a < m + 22 ∨ m + 25 < a)) (F : RF f a o G) (V : GW (2 ^ v) G) (h1 : 1 ≤ v) (hv : v ≤ 4) (f2 : f (m + 2) 0 = nI v) :
    ∃ f', ev M_Mo_laysTree 0 0 [some (.ref m), some (.ref a), some (.int (nI o)), none] [] (wI h f) = some (none, wI h f') ∧ QM f' m v (fb v G) (bits v (fb v G)) ∧ TQ m f f' := by
  have mc := C.1
  have ar2 : hR h m 12 = some (m + 2) := (C.2 1 (by decide)).1
  have an2 : hN h (m + 2) = 2 := (C.2 1 (by decide)).2.1
  have ac2 : hC h (m + 2) = 20 := (C.2 1 (by decide)).2.2
  have ar22 : hR h m 43 = some (m + 22) := (C.2 21 (by decide)).1
  have an22 : hN h (m + 22) = 340 := (C.2 21 (by decide)).2.1
  have ac22 : hC h (m + 22) = 20 := (C.2 21 (by decide)).2.2
  have ar23 : hR h m 44 = some (m + 23) := (C.2 22 (by decide)).1
  have an23 : hN h (m + 23) = 340 := (C.2 22 (by decide)).2.1
  have ac23 : hC h (m + 23) = 20 := (C.2 22 (by decide)).2.2
  have ar24 : hR h m 45 = some (m + 24) := (C.2 23 (by decide)).1
  have an24 : hN h (m + 24) = 340 := (C.2 23 (by decide)).2.1
  have ac24 : hC h (m + 24) = 20 := (C.2 23 (by decide)).2.2
  have ar25 : hR h m 46 = some (m + 25) := (C.2 24 (by decide)).1
  have an25 : hN h (m + 25) = 340 := (C.2 24 (by decide)).2.1
  have ac25 : hC h (m + 25) = 20 := (C.2 24 (by decide)).2.2
  have L : ∀ n k g Q, k + n = 341 → RF g a o G → g (m + 2) 0 = nI v → QM g m v (fb v G) Q → QI v (fb v G) k Q → ∃ f', ev M_Mo_laysTree 0 13 [some (.ref m), some (.ref a), some (.int (nI o)), some (.int (nI k))] [] (wI h g) = some (none, wI h f') ∧ QM f' m v (fb v G) (bq v (fb v G) n k Q) ∧ TQ m g f' := by
    intro n
    induction n with
    | zero => intro k g Q hk R g2 B I; exact absurd (QI_len I hv) (by have := I.1; omega)
    | succ n ih =>
      intro k g Q hk R g2 B I
      have hl := QI_len I hv
      have hk2 := I.1
      have b4 := B.1
      rw [bq]
      cases e : Q[k]? with
      | none =>
        have : Q.length ≤ k := List.getElem?_eq_none_iff.mp e
        refine ⟨g, wp_e ?_, B, TQ.rf⟩
        rw [r_Mo_laysTree_13]
        refine wp_isC mc ?_
        rw [wI_I, b4]
        exact wp_bf (by rw [nI_ltI (by omega) (by omega)]; omega) (wp_s ⟨rfl, rfl⟩)
      | some e1 =>
        dsimp only
        have hk3 : k < Q.length := (List.getElem?_eq_some_iff.mp e).1
        obtain ⟨k1, k2, k3, k4⟩ := B.2 k e1 e
        obtain ⟨o1, o2, o3, o4⟩ := I.2.1 e1 (List.mem_of_getElem? e)
        have I2 := QI_next I e
        by_cases q : fb v G e1 = true
        · by_cases q2 : e1.1 < v
          · rw [show qAt v (fb v G) Q e1 = Q ++ qs e1 from if_pos ⟨q2, q⟩] at I2 ⊢
            have hl2 := QI_len I2 hv
            rw [List.length_append] at hl2
            have hl2 : Q.length + 4 ≤ 340 := hl2
            obtain ⟨g', c1, c2, c3⟩ := mo_quart (e := e1) C ac an ho hN' ha R V hv g2 q2 o3 o4 B hl2
            obtain ⟨f', i1, i2, i3⟩ := ih (k + 1) g' _ (by omega) (fun r hr => by rw [c3.1 a ha.1 ha.2]; exact R r hr) (by rw [c3.1 _ (by omega) (by omega)]; exact g2) c2 I2
            refine ⟨f', wp_e ?_, i2, c3.tr i3⟩
            rw [r_Mo_laysTree_13]
            refine wp_isC mc ?_
            rw [wI_I, b4]
            refine wp_bt (by rw [nI_ltI (by omega) (by omega)]; omega) (wp_isC mc (wp_nnR ar25 (wp_isC ac25 (wp_inA an25 rfl (by omega) (by omega) ?_))))
            rw [nI_clamp (by omega), k4, q]
            refine wp_bt rfl (wp_isC mc (wp_nnR ar22 (wp_isC ac22 (wp_inA an22 rfl (by omega) (by omega) (wp_isC mc (wp_nnR ar2 (wp_isC ac2 (wp_inA (n := 0) an2 rfl (by decide) (by decide) ?_))))))))
            rw [k1, show (nI 0).toNatClampNeg = 0 from rfl, g2]
            refine wp_bt (by rw [nI_ltI (by omega) (by omega)]; omega) (wp_isC mc (wp_nnR ar22 (wp_isC ac22 (wp_inA an22 rfl (by omega) (by omega) (wp_isC mc (wp_nnR ar23 (wp_isC ac23 (wp_inA an23 rfl (by omega) (by omega) (wp_isC mc (wp_nnR ar24 (wp_isC ac24 (wp_inA an24 rfl (by omega) (by omega) (wp_isC mc ?_)))))))))))))
            rw [k1, k2, k3, nI_add]
            refine wp_rVe c1 ?_
            rw [r_Mo_laysTree_51, nI_add]
            exact wp_of i1 ⟨rfl, rfl⟩
          · rw [show qAt v (fb v G) Q e1 = Q from if_neg (fun w => q2 w.1)] at I2 ⊢
            obtain ⟨f', i1, i2, i3⟩ := ih (k + 1) g _ (by omega) R g2 B I2
            refine ⟨f', wp_e ?_, i2, i3⟩
            rw [r_Mo_laysTree_13]
            refine wp_isC mc ?_
            rw [wI_I, b4]
            refine wp_bt (by rw [nI_ltI (by omega) (by omega)]; omega) (wp_isC mc (wp_nnR ar25 (wp_isC ac25 (wp_inA an25 rfl (by omega) (by omega) ?_))))
            rw [nI_clamp (by omega), k4, q]
            refine wp_bt rfl (wp_isC mc (wp_nnR ar22 (wp_isC ac22 (wp_inA an22 rfl (by omega) (by omega) (wp_isC mc (wp_nnR ar2 (wp_isC ac2 (wp_inA (n := 0) an2 rfl (by decide) (by decide) ?_))))))))
            rw [k1, show (nI 0).toNatClampNeg = 0 from rfl, g2]
            refine wp_bf (by rw [nI_ltI (by omega) (by omega)]; omega) ?_
            rw [r_Mo_laysTree_51, nI_add]
            exact wp_of i1 ⟨rfl, rfl⟩
        · rw [show qAt v (fb v G) Q e1 = Q from if_neg (fun w => q w.2)] at I2 ⊢
          obtain ⟨f', i1, i2, i3⟩ := ih (k + 1) g _ (by omega) R g2 B I2
          refine ⟨f', wp_e ?_, i2, i3⟩
          rw [r_Mo_laysTree_13]
          refine wp_isC mc ?_
          rw [wI_I, b4]
          refine wp_bt (by rw [nI_ltI (by omega) (by omega)]; omega) (wp_isC mc (wp_nnR ar25 (wp_isC ac25 (wp_inA an25 rfl (by omega) (by omega) ?_))))
          rw [nI_clamp (by omega), k4, (Bool.not_eq_true _).mp q]
          refine wp_bf (Ne.symm n10) ?_
          rw [r_Mo_laysTree_51, nI_add]
          exact wp_of i1 ⟨rfl, rfl⟩
  have B0 : QM (up2 f m 47 (nI 0)) m v (fb v G) [] := ⟨up2_s, fun j e he => by cases he⟩
  have T0 : TQ m f (up2 f m 47 (nI 0)) := ⟨fun b hb _ => up2_a hb, fun k hk => up2_k hk⟩
  have k0 : ∀ {g g' : Nat → Nat → Int32}, TQ m g g' → RF g a o G → RF g' a o G := fun t R r hr => by rw [t.1 a ha.1 ha.2]; exact R r hr
  obtain ⟨f1, c1, c2, c3⟩ := mo_quart (e := (0, 0, 0)) C ac an ho hN' ha (k0 T0 F) V hv (by rw [T0.1 _ (by omega) (by omega)]; exact f2) (show 0 < v by omega) (by show 0 < 2 ^ 0; decide) (by show 0 < 2 ^ 0; decide) B0 (by show 0 + 4 ≤ 340; decide)
  obtain ⟨f', i1, i2, i3⟩ := L 341 0 f1 (qs (0, 0, 0)) rfl (k0 c3 (k0 T0 F)) (by rw [c3.1 _ (by omega) (by omega), T0.1 _ (by omega) (by omega)]; exact f2) c2 (QI_0 h1)
  refine ⟨f', wp_e ?_, i2, (T0.tr c3).tr i3⟩
  rw [r_Mo_laysTree_0]
  refine wp_isC mc ?_
  rw [wI_s]
  refine wp_isC mc (wp_rVe ?_ (wp_of i1 ⟨rfl, rfl⟩))
  have c1' := c1
  dsimp only at c1'
  rw [Nat.zero_mul] at c1'
  exact c1'
end
theorem inN_k {k n : Nat} (h : k < 2 ^ 31) (hk : k < n) : inN (nI k) n = some k := by unfold inN; rw [if_neg (show ¬ nI k < nI 0 from nI_pos h), nI_clamp h, if_pos hk]
section
variable {h : MH} {f : Nat → Nat → Int32} {m : Nat} {S : Abs}
/-- a relation and its bits laid out -/
theorem mo_LR {k : Nat} (C : MSH h m) (F : MF f m S) (W : WS S) (hk : k < aR S) : ∃ f', ev M_Mo_laysRel 0 0 [some (.ref m), some (.int (nI k))] [] (wI h f) = some (some (.int (nI 1)), wI h f') ∧ (∀ k, k < aR S → RF f' (m + 18) (16 * k) (aG S k) ∧ GW (aW S) (aG S k)) ∧ QM f' m (aV S) (fb (aV S) (aG S k)) (bQ S k) ∧ MX m f f' := by
  have mc := C.1
  have ar18 : hR h m 38 = some (m + 18) := (C.2 17 (by decide)).1
  have an18 : hN h (m + 18) = 80 := (C.2 17 (by decide)).2.1
  have ac18 : hC h (m + 18) = 20 := (C.2 17 (by decide)).2.2
  have hr5 : aR S ≤ 5 := W.2.2.1.1.2.2.2.1
  obtain ⟨f1, l1, l2, l3⟩ := mo_L C F W
  obtain ⟨R, V⟩ := l2 k hk
  have F1 := l3.F F
  obtain ⟨f', t1, t2, t3⟩ := mo_laysTree (h := h) (f := f1) (m := m) (a := m + 18) (o := 16 * k) C ac18 an18 (by omega) (by decide) ⟨by omega, by omega⟩ R V W.2.2.1.1.1 W.2.2.1.1.2.1 F1.2.2.1.1
  refine ⟨f', wp_e ?_, fun j hj => ⟨fun r hr => by rw [t3.1 _ (by omega) (by omega)]; exact (l2 j hj).1 r hr, (l2 j hj).2⟩, t2, l3.tr t3.M⟩
  rw [r_Mo_laysRel_0]
  have ra := mo_rel C F W (nI k)
  rw [inN_k (by omega) hk] at ra
  refine wp_isC mc (wp_rIe ra (wp_bf n10 (wp_isC mc (wp_rVe l1 (wp_isC mc (wp_nnR ar18 (wp_isC mc ?_)))))))
  rw [pk_mul]
  exact wp_rVe t1 (wp_isZ (by decide) (wp_s ⟨rfl, rfl⟩))
theorem mo_LR0 {a : Int32} (C : MSH h m) (F : MF f m S) (W : WS S) (z : inN a (aR S) = none) : ev M_Mo_laysRel 0 0 [some (.ref m), some (.int a)] [] (wI h f) = some (some (.int (nI 0)), wI h f) := by
  rw [r_Mo_laysRel_0]
  have ra := mo_rel C F W a
  rw [z] at ra
  exact wp_e (wp_isC C.1 (wp_rIe ra (wp_bt rfl (wp_isZ (by decide) (wp_s ⟨rfl, rfl⟩)))))
end
