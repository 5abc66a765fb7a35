/-! The plain form: its cells; sets gone through, counts. -/
/-- its arrays: the slot, the length, the tag -/
def mTb : List (Nat × Nat × Nat) := [(0, 1600, 20), (12, 2, 20), (13, 2, 20), (14, 2, 20), (15, 2, 20), (16, 2, 20), (17, 2, 20), (18, 10, 22), (19, 10, 20), (20, 10, 20), (21, 10, 20), (22, 160, 20), (23, 520, 20), (24, 660, 20), (31, 160, 20), (34, 81, 20), (35, 3240, 20), (38, 80, 20), (39, 640, 20), (40, 16, 20), (41, 16, 20), (43, 340, 20), (44, 340, 20), (45, 340, 20), (46, 340, 20), (48, 64, 20), (49, 16, 20), (51, 30, 20), (52, 30, 20), (53, 30, 20), (54, 30, 20), (55, 30, 20), (56, 30, 20), (59, 16, 20), (60, 257, 20), (61, 258, 20), (62, 243, 20), (63, 3, 23)]
def MSH (h : MH) (m : Nat) : Prop := hC h m = 13 ∧ ∀ i, i < 38 → hR h m (mTb.getD i (0, 0, 0)).1 = some (m + 1 + i) ∧ hN h (m + 1 + i) = (mTb.getD i (0, 0, 0)).2.1 ∧ hC h (m + 1 + i) = (mTb.getD i (0, 0, 0)).2.2
/-- sixteen rows in an array -/
def RF (f : Nat → Nat → Int32) (a o : Nat) (G : Nat → Nat) : Prop := ∀ r, r < 16 → f a (o + r) = nI (G r)
/-- all but a stretch of one array is as it was -/
def Oth (a o n : Nat) (f f' : Nat → Nat → Int32) : Prop := (∀ b, b ≠ a → f' b = f b) ∧ ∀ k, k < o ∨ o + n ≤ k → f' a k = f a k
theorem Oth.rf {a o n : Nat} {f : Nat → Nat → Int32} : Oth a o n f f := ⟨fun _ _ => rfl, fun _ _ => rfl⟩
theorem Oth.tr {a o n : Nat} {f g k : Nat → Nat → Int32} (x : Oth a o n f g) (y : Oth a o n g k) : Oth a o n f k := ⟨fun b hb => (y.1 b hb).trans (x.1 b hb), fun j hj => (y.2 j hj).trans (x.2 j hj)⟩
theorem Oth.u {a o n k : Nat} {f : Nat → Nat → Int32} {v : Int32} (h1 : o ≤ k) (h2 : k < o + n) : Oth a o n f (up2 f a k v) := ⟨fun b hb => up2_a hb, fun j hj => up2_k (by omega)⟩
section
variable {h : MH} {f : Nat → Nat → Int32} {m a o N : Nat} {G : Nat → Nat}
theorem mo_through {s : Nat} (ac : hC h a = 20) (an : hN h a = N) (ho : o + 16 ≤ N) (hN' : N < 2 ^ 30) (F : RF f a o G) (hG : ∀ r, G r < 2 ^ 16) (hs : s < 2 ^ 16) : ev M_Mo_through 0 0 [some (.int (nI s)), some (.ref a), some (.int (nI o)), none, none] [] (wI h f) = some (some (.int (nI (sf 16 G s))), wI h f) := by
  have L : ∀ k i, i + k = 16 → ev M_Mo_through 0 5 [some (.int (nI s)), some (.ref a), some (.int (nI o)), some (.int (nI (sf i G s))), some (.int (nI i))] [] (wI h f) = some (some (.int (nI (sf 16 G s))), wI h f) := by
    intro k
    induction k with
    | zero =>
      intro i hi
      have : i = 16 := by omega
      subst this
      rw [r_Mo_through_5]
      exact wp_e (wp_bf (by decide) (wp_s ⟨rfl, rfl⟩))
    | succ k ih =>
      intro i hi
      rw [r_Mo_through_5]
      apply wp_e
      refine wp_bt (by rw [nI_ltI (by omega) (by decide)]; omega) (wp_rIe (mo_isOf _ (by omega) (by omega)) ?_)
      have e : sf (i + 1) G s = sf i G s ||| (if s.testBit i then G i else 0) := rfl
      cases z : s.testBit i with
      | false =>
        refine wp_bt rfl ?_
        rw [r_Mo_through_21, nI_add]
        have := ih (i + 1) (by omega)
        rw [e, z, if_neg (by decide), Nat.or_zero] at this
        exact wp_of this ⟨rfl, rfl⟩
      | true =>
        refine wp_bf n10 (wp_isC ac ?_)
        rw [nI_add]
        refine wp_inA an rfl (by omega) (by omega) ?_
        rw [nI_clamp (by omega), wI_I, F i (by omega), nm_or, r_Mo_through_21, nI_add]
        have := ih (i + 1) (by omega)
        rw [e, z, if_pos rfl] at this
        exact wp_of this ⟨rfl, rfl⟩
  rw [r_Mo_through_0]
  exact L 16 0 rfl
theorem mo_manyIn (ac : hC h a = 20) (an : hN h a = N) (ho : o + 16 ≤ N) (hN' : N < 2 ^ 30) (F : RF f a o G) (hG : ∀ r, G r < 2 ^ 16) : ev M_Mo_manyIn 0 0 [some (.ref a), some (.int (nI o)), none, none] [] (wI h f) = some (some (.int (nI (ct 16 G))), wI h f) := by
  have L : ∀ k i, i + k = 16 → ev M_Mo_manyIn 0 5 [some (.ref a), some (.int (nI o)), some (.int (nI (ct i G))), some (.int (nI i))] [] (wI h f) = some (some (.int (nI (ct 16 G))), wI h f) := by
    intro k
    induction k with
    | zero =>
      intro i hi
      have : i = 16 := by omega
      subst this
      rw [r_Mo_manyIn_5]
      exact wp_e (wp_bf (by decide) (wp_s ⟨rfl, rfl⟩))
    | succ k ih =>
      intro i hi
      rw [r_Mo_manyIn_5]
      apply wp_e
      refine wp_bt (by rw [nI_ltI (by omega) (by decide)]; omega) (wp_isC ac ?_)
      rw [nI_add]
      refine wp_inA an rfl (by omega) (by omega) ?_
      rw [nI_clamp (by omega), wI_I, F i (by omega)]
      refine wp_rIe (mo_bitsIn _ (hG i)) ?_
      rw [nI_add, nI_add]
      exact wp_of (ih (i + 1) (by omega)) ⟨rfl, rfl⟩
  rw [r_Mo_manyIn_0]
  exact L 16 0 rfl
theorem mo_inBlock {r c s : Nat} (ac : hC h a = 20) (an : hN h a = N) (ho : o + 16 ≤ N) (hN' : N < 2 ^ 30) (F : RF f a o G) (hG : ∀ r, G r < 2 ^ 16) (hr : r + s ≤ 16) (hc : c + s ≤ 16) : ev M_Mo_inBlock 0 0 [some (.ref a), some (.int (nI o)), some (.int (nI r)), some (.int (nI c)), some (.int (nI s)), none, none, none] [] (wI h f) = some (some (.int (nI (ib G r c s))), wI h f) := by
  have p1 : 0 < 2 ^ s := Nat.two_pow_pos s
  have p2 : 2 ^ s ≤ 2 ^ 16 := Nat.pow_le_pow_right (by decide) (by omega)
  have p3 : 2 ^ (c + s) ≤ 2 ^ 16 := Nat.pow_le_pow_right (by decide) hc
  have e1 : (2 ^ s - 1) * 2 ^ c = 2 ^ (c + s) - 2 ^ c := by rw [Nat.sub_mul, Nat.one_mul, ← Nat.pow_add, Nat.add_comm s c]
  have L : ∀ k i, i + k = s → ev M_Mo_inBlock 0 13 [some (.ref a), some (.int (nI o)), some (.int (nI r)), none, some (.int (nI s)), some (.int (nI (ci G (2 ^ (c + s) - 2 ^ c) r i))), some (.int (nI (2 ^ (c + s) - 2 ^ c))), some (.int (nI (r + i)))] [] (wI h f) = some (some (.int (nI (ib G r c s))), wI h f) := by
    intro k
    induction k with
    | zero =>
      intro i hi
      have : i = s := by omega
      subst this
      rw [r_Mo_inBlock_13]
      refine wp_e (wp_bf ?_ (wp_s ⟨rfl, rfl⟩))
      rw [nI_add, nI_ltI (by omega) (by omega)]; omega
    | succ k ih =>
      intro i hi
      rw [r_Mo_inBlock_13]
      apply wp_e
      refine wp_bt ?_ (wp_isC ac ?_)
      · rw [nI_add, nI_ltI (by omega) (by omega)]; omega
      · rw [nI_add]
        refine wp_inA an rfl (by omega) (by omega) ?_
        rw [nI_clamp (by omega), wI_I, F (r + i) (by omega), nm_and]
        refine wp_rIe (mo_bitsIn _ (Nat.lt_of_le_of_lt Nat.and_le_left (hG _))) ?_
        rw [nI_add, nI_add]
        exact wp_of (ih (i + 1) (by omega)) ⟨rfl, rfl⟩
  rw [r_Mo_inBlock_0, nm_one (by omega), nm_m1 p1, nm_shl (by omega) (by rw [e1]; exact Nat.lt_of_le_of_lt (Nat.sub_le _ _) (Nat.lt_of_le_of_lt p3 (by decide))), e1]
  exact L s 0 (by omega)
theorem mo_columnSet {k c : Nat} (C : MSH h m) (hk : k < 5) (hc : c < 16) (F : RF f (m + 18) (16 * k) G) (hG : ∀ r, G r < 2 ^ 16) : ev M_Mo_columnSet 0 0 [some (.ref m), some (.int (nI k)), some (.int (nI c)), none, none] [] (wI h f) = some (some (.int (nI (cs 16 G c))), wI h f) := by
  have mc := C.1
  have ar18 : hR h m 38 = some (m + 18) := (C.2 17 (by decide)).1
  have an18 : hN h (m + 18) = 80 := (C.2 17 (by decide)).2.1
  have ac18 : hC h (m + 18) = 20 := (C.2 17 (by decide)).2.2
  have L : ∀ j i, i + j = 16 → ev M_Mo_columnSet 0 5 [some (.ref m), some (.int (nI k)), some (.int (nI c)), some (.int (nI (cs i G c))), some (.int (nI i))] [] (wI h f) = some (some (.int (nI (cs 16 G c))), wI h f) := by
    intro j
    induction j with
    | zero =>
      intro i hi
      have : i = 16 := by omega
      subst this
      rw [r_Mo_columnSet_5]
      exact wp_e (wp_bf (by decide) (wp_s ⟨rfl, rfl⟩))
    | succ j ih =>
      intro i hi
      rw [r_Mo_columnSet_5]
      apply wp_e
      refine wp_bt (by rw [nI_ltI (by omega) (by decide)]; omega) (wp_isC mc (wp_nnR ar18 (wp_isC ac18 ?_)))
      rw [pk_mul, nI_add]
      refine wp_inA an18 rfl (by omega) (by omega) ?_
      rw [nI_clamp (by omega), wI_I, F i (by omega)]
      refine wp_rIe (mo_isOf _ (by omega) (Nat.lt_of_lt_of_le (hG i) (by decide))) ?_
      have e : cs (i + 1) G c = cs i G c ||| (if (G i).testBit c then 2 ^ i else 0) := rfl
      have := ih (i + 1) (by omega)
      cases z : (G i).testBit c with
      | false =>
        refine wp_bt rfl ?_
        rw [e, z, if_neg (by decide)] at this
        rw [r_Mo_columnSet_26, nI_add, nm_or]
        exact wp_of this ⟨rfl, rfl⟩
      | true =>
        refine wp_bf n10 ?_
        rw [e, z, if_pos rfl] at this
        rw [r_Mo_columnSet_26, nI_add, nm_one (by omega), nm_or]
        exact wp_of this ⟨rfl, rfl⟩
  rw [r_Mo_columnSet_0]
  exact L 16 0 rfl
theorem mo_wide {v : Nat} (C : MSH h m) (hf : f (m + 2) 0 = nI v) (hv : v ≤ 4) : ev M_Mo_wide 0 0 [some (.ref m)] [] (wI h f) = some (some (.int (nI (2 ^ v))), wI h f) := by
  have mc := C.1
  have ar2 : hR h m 12 = some (m + 2) := (C.2 1 (by decide)).1
  have an2 : hN h (m + 2) = 2 := (C.2 1 (by decide)).2.1
  have ac2 : hC h (m + 2) = 20 := (C.2 1 (by decide)).2.2
  rw [r_Mo_wide_0]
  refine wp_e (wp_isC mc (wp_nnR ar2 (wp_isC ac2 (wp_inA (n := 0) an2 rfl (by decide) (by decide) (wp_s ⟨?_, rfl⟩)))))
  rw [nI_clamp (by decide), wI_I, hf, nm_one (by omega)]
theorem mo_everyBit {v : Nat} (C : MSH h m) (hf : f (m + 2) 0 = nI v) (hv : v ≤ 4) : ev M_Mo_everyBit 0 0 [some (.ref m)] [] (wI h f) = some (some (.int (nI (2 ^ 2 ^ v - 1))), wI h f) := by
  rw [r_Mo_everyBit_0]
  have h1 := lv_p hv
  refine wp_e (wp_isC C.1 (wp_rIe (mo_wide C hf hv) (wp_s ⟨?_, rfl⟩)))
  rw [nm_one (by omega), nm_m1 (Nat.two_pow_pos _)]
theorem mo_isRel {nr : Nat} (C : MSH h m) (hf : f (m + 3) 0 = nI nr) (hn : nr ≤ 5) (x : Int32) : ev M_Mo_isRel 0 0 [some (.ref m), some (.int x)] [] (wI h f) = some (some (.int (nI (inN x nr).isSome.toNat)), wI h f) := by
  have mc := C.1
  have ar3 : hR h m 13 = some (m + 3) := (C.2 2 (by decide)).1
  have an3 : hN h (m + 3) = 2 := (C.2 2 (by decide)).2.1
  have ac3 : hC h (m + 3) = 20 := (C.2 2 (by decide)).2.2
  rw [r_Mo_isRel_0]
  refine wp_e (wp_isC mc (wp_nnR ar3 (wp_isC ac3 (wp_inA (n := 0) an3 rfl (by decide) (by decide) ?_))))
  rw [nI_clamp (by decide), wI_I, hf]
  exact wp_rIe (mo_in1 _ (by omega)) (wp_isZ (b01z _) (wp_s ⟨rfl, rfl⟩))
theorem mo_isNode {v : Nat} (C : MSH h m) (hf : f (m + 2) 0 = nI v) (hv : v ≤ 4) (x : Int32) : ev M_Mo_isNode 0 0 [some (.ref m), some (.int x)] [] (wI h f) = some (some (.int (nI (inN x (2 ^ v)).isSome.toNat)), wI h f) := by
  rw [r_Mo_isNode_0]
  have h1 := lv_p hv
  exact wp_e (wp_isC C.1 (wp_rIe (mo_wide C hf hv) (wp_rIe (mo_in1 _ (by omega)) (wp_isZ (b01z _) (wp_s ⟨rfl, rfl⟩)))))
end
