/-! The plain form: two trees walked, products, what would come of two, the i-th pair. -/
theorem blk_le {x l v : Nat} (hx : x < 2 ^ l) (hl : l ≤ v) : x * 2 ^ (v - l) + 2 ^ (v - l) ≤ 2 ^ v := by
  have : (x + 1) * 2 ^ (v - l) ≤ 2 ^ l * 2 ^ (v - l) := Nat.mul_le_mul_right _ hx
  rw [← Nat.pow_add, show l + (v - l) = v by omega, Nat.add_mul, Nat.one_mul] at this
  exact this
theorem half_p {v l : Nat} (hl : l < v) : 2 ^ (v - l) / 2 = 2 ^ (v - (l + 1)) := by
  rw [show v - l = (v - (l + 1)) + 1 by omega, Nat.pow_succ]; omega
section
variable {h : MH} {f : Nat → Nat → Int32} {m : Nat} {S : Abs}
theorem mo_some {k v l r c : Nat} {G : Rw} (C : MSH h m) (hv : v ≤ 4) (hk : k < 5) (hl : l ≤ v) (hr : r < 2 ^ l) (hc : c < 2 ^ l) (R : RF f (m + 18) (16 * k) G) (V : GW (2 ^ v) G) : ev M_Mo_hasSome 0 0 [some (.ref m), some (.int (nI k)), some (.int (nI (r * 2 ^ (v - l)))), some (.int (nI (c * 2 ^ (v - l)))), some (.int (nI (2 ^ (v - l))))] [] (wI h f) = some (some (.int (nI ((fl v G l r).testBit c).toNat)), wI h f) := by
  have mc := C.1
  have ar18 : hR h m 38 = some (m + 18) := (C.2 17 (by decide)).1
  have an18 : hN h (m + 18) = 80 := (C.2 17 (by decide)).2.1
  have ac18 : hC h (m + 18) = 20 := (C.2 17 (by decide)).2.2
  have b1 := blk_le hr hl
  have b2 := blk_le hc hl
  have hp := lv_p hv
  rw [r_Mo_hasSome_0]
  refine wp_e (wp_isC mc (wp_nnR ar18 ?_))
  rw [pk_mul]
  refine wp_rIe (mo_inBlock ac18 an18 (by omega) (by decide) R V.lt (by omega) (by omega)) ?_
  have hib : ib G (r * 2 ^ (v - l)) (c * 2 ^ (v - l)) (2 ^ (v - l)) ≤ 2 ^ (v - l) * 16 := ci_le _ _ _ _
  refine wp_bi (nI_ltI (by decide) (by omega)) (fun z => ?_) (fun z => ?_)
  · rw [(ib_fl V).mp z]; exact wp_isZ (by decide) (wp_s ⟨rfl, rfl⟩)
  · have : (fl v G l r).testBit c = false := by
      cases w : (fl v G l r).testBit c with
      | false => rfl
      | true => exact absurd ((ib_fl V).mpr w) z
    rw [this]; exact wp_isZ (by decide) (wp_s ⟨rfl, rfl⟩)
def wc (v : Nat) (G H : Rw) (l i n : Nat) : Nat := sm (fun j => if ((fl v G l i).testBit j && (fl v H l i).testBit j) = true then 4 else 0) n
theorem wc_e {v l i : Nat} {G H : Rw} (hv : v ≤ 4) (V : GW (2 ^ v) G) (hl : l ≤ v) : wc v G H l i (2 ^ l) = 4 * bc (fl v G l i &&& fl v H l i) := by
  have hp : 2 ^ l ≤ 16 := Nat.le_trans (Nat.pow_le_pow_right (by decide) hl) (lv_p hv)
  rw [bc_n hp (Nat.lt_of_le_of_lt Nat.and_le_left ((fl_W V hl).2.1 i)), ← sm_mul]
  apply sm_c
  intro k _
  show (if _ then _ else _) = 4 * ((fl v G l i &&& fl v H l i).testBit k).toNat
  rw [Nat.testBit_and]
  by_cases z : ((fl v G l i).testBit k && (fl v H l i).testBit k) = true
  · rw [if_pos z, z]; rfl
  · rw [if_neg z, (Bool.not_eq_true _).mp z]; rfl
theorem m_walks (C : MSH h m) (F : MF f m S) (W : WS S) (a b : Int32) : ∃ f', ev M_Mo_walks 0 0 [some (.ref m), some (.int a), some (.int b), none, none, none, none] [] (wI h f) = some (some (.int (sWalks S a b)), wI h f') ∧ MX m f f' := by
  have mc := C.1
  have hv : aV S ≤ 4 := W.2.2.1.1.2.1
  have hr5 : aR S ≤ 5 := W.2.2.1.1.2.2.2.1
  obtain ⟨f', t1, t2, t3⟩ := mo_two C F W a b
  refine ⟨f', ?_, t2⟩
  rw [r_Mo_walks_0]
  unfold sWalks on2
  cases za : inN a (aR S) with
  | none =>
    rw [za] at t1
    exact wp_e (wp_isC mc (wp_rIe t1 (wp_bt rfl (wp_s ⟨rfl, rfl⟩))))
  | some k =>
    cases zb : inN b (aR S) with
    | none =>
      rw [za, zb] at t1
      exact wp_e (wp_isC mc (wp_rIe t1 (wp_bt rfl (wp_s ⟨rfl, rfl⟩))))
    | some j =>
      rw [za, zb] at t1 t3
      obtain ⟨e1, k1, -⟩ := inN_s za
      obtain ⟨e2, k2, -⟩ := inN_s zb
      subst e1
      subst e2
      obtain ⟨R1, V1⟩ := t3 rfl k k1
      obtain ⟨R2, V2⟩ := t3 rfl j k2
      have wd := mo_wide C (t2.F F).2.2.1.1 hv (h := h)
      dsimp only [on]
      generalize hG : aG S k = G at R1 V1
      generalize hH : aG S j = H at R2 V2
      generalize hV : aV S = v at *
      have V1 : GW (2 ^ v) G := by rw [← hV]; exact V1
      have V2 : GW (2 ^ v) H := by rw [← hV]; exact V2
      have hp := lv_p hv
      have L1 : ∀ q l, l + q = v → ev M_Mo_walks 0 13 [some (.ref m), some (.int (nI k)), some (.int (nI j)), some (.int (nI (1 + sm (wk v G H) l))), some (.int (nI (2 ^ (v - l)))), none, none] [] (wI h f') = some (some (.int (nI (1 + sm (wk v G H) v))), wI h f') := by
        intro q
        induction q with
        | zero =>
          intro l hl
          have : l = v := by omega
          subst this
          rw [r_Mo_walks_13, Nat.sub_self]
          exact wp_e (wp_bf (by decide) (wp_s ⟨rfl, rfl⟩))
        | succ q ih =>
          intro l hl
          have hs : 2 ≤ 2 ^ (v - l) := by
            rw [show v - l = (v - l - 1) + 1 by omega, Nat.pow_succ]
            have := Nat.two_pow_pos (v - l - 1)
            omega
          have hs2 : 2 ^ (v - l) ≤ 2 ^ v := Nat.pow_le_pow_right (by decide) (by omega)
          have ep : 2 ^ l * 2 ^ (v - l) = 2 ^ v := by rw [← Nat.pow_add]; congr 1; omega
          have L2 : ∀ q i, i + q = 2 ^ l → ev M_Mo_walks 0 19 [some (.ref m), some (.int (nI k)), some (.int (nI j)), some (.int (nI (1 + sm (wk v G H) l + sm (fun i => 4 * bc (fl v G l i &&& fl v H l i)) i))), some (.int (nI (2 ^ (v - l)))), some (.int (nI (i * 2 ^ (v - l)))), none] [] (wI h f') = some (some (.int (nI (1 + sm (wk v G H) v))), wI h f') := by
            intro q
            induction q with
            | zero =>
              intro i hi
              have : i = 2 ^ l := by omega
              subst this
              rw [r_Mo_walks_19, ep]
              refine wp_e (wp_isC mc (wp_rIe wd (wp_bf (by rw [nI_ltI (by omega) (by omega)]; omega) (wp_nz (by decide) ?_))))
              rw [pk_div (by omega) (by decide) (by decide), half_p (by omega)]
              have := ih (l + 1) (by omega)
              rw [sm, ← Nat.add_assoc] at this
              exact wp_of this ⟨rfl, rfl⟩
            | succ q ihr =>
              intro i hi
              have bi := blk_le (show i < 2 ^ l by omega) (show l ≤ v by omega)
              have L3 : ∀ q c, c + q = 2 ^ l → ev M_Mo_walks 0 26 [some (.ref m), some (.int (nI k)), some (.int (nI j)), some (.int (nI (1 + sm (wk v G H) l + sm (fun i => 4 * bc (fl v G l i &&& fl v H l i)) i + wc v G H l i c))), some (.int (nI (2 ^ (v - l)))), some (.int (nI (i * 2 ^ (v - l)))), some (.int (nI (c * 2 ^ (v - l))))] [] (wI h f') = some (some (.int (nI (1 + sm (wk v G H) v))), wI h f') := by
                intro q
                induction q with
                | zero =>
                  intro c hc
                  have : c = 2 ^ l := by omega
                  subst this
                  rw [r_Mo_walks_26, ep]
                  refine wp_e (wp_isC mc (wp_rIe wd (wp_bf (by rw [nI_ltI (by omega) (by omega)]; omega) ?_)))
                  rw [nI_add, ← Nat.succ_mul, wc_e hv V1 (by omega)]
                  have := ihr (i + 1) (by omega)
                  rw [sm, ← Nat.add_assoc] at this
                  exact wp_of this ⟨rfl, rfl⟩
                | succ q ihc =>
                  intro c hc
                  have bc' := blk_le (show c < 2 ^ l by omega) (show l ≤ v by omega)
                  have s1 := mo_some (h := h) (f := f') (l := l) (r := i) (c := c) C hv (show k < 5 by omega) (by omega) (by omega) (by omega) R1 V1
                  have s2 := mo_some (h := h) (f := f') (l := l) (r := i) (c := c) C hv (show j < 5 by omega) (by omega) (by omega) (by omega) R2 V2
                  have ihc := ihc (c + 1) (by omega)
                  have ew : wc v G H l i (c + 1) = wc v G H l i c + (if ((fl v G l i).testBit c && (fl v H l i).testBit c) = true then 4 else 0) := rfl
                  rw [ew, ← Nat.add_assoc, Nat.succ_mul] at ihc
                  rw [r_Mo_walks_26]
                  refine wp_e (wp_isC mc (wp_rIe wd (wp_bt (by rw [nI_ltI (by omega) (by omega)]; omega) (wp_isC mc (wp_rIe s1 ?_)))))
                  cases z1 : (fl v G l i).testBit c with
                  | false =>
                    refine wp_bt rfl ?_
                    rw [r_Mo_walks_48, r_Mo_walks_50, nI_add, nI_add]
                    rw [z1, Bool.false_and, if_neg (by decide)] at ihc
                    exact wp_of ihc ⟨rfl, rfl⟩
                  | true =>
                    refine wp_bf n10 (wp_isC mc (wp_rIe s2 ?_))
                    cases z2 : (fl v H l i).testBit c with
                    | false =>
                      refine wp_bt rfl ?_
                      rw [r_Mo_walks_48, r_Mo_walks_50, nI_add, nI_add]
                      rw [z2, Bool.and_false, if_neg (by decide)] at ihc
                      exact wp_of ihc ⟨rfl, rfl⟩
                    | true =>
                      refine wp_bf n10 ?_
                      rw [r_Mo_walks_50, nI_add, nI_add]
                      rw [z1, z2, if_pos (show (true && true) = true from rfl)] at ihc
                      exact wp_of ihc ⟨rfl, rfl⟩
              rw [r_Mo_walks_19]
              refine wp_e (wp_isC mc (wp_rIe wd (wp_bt (by rw [nI_ltI (by omega) (by omega)]; omega) ?_)))
              have := L3 (2 ^ l) 0 (by omega)
              rw [Nat.zero_mul] at this
              exact wp_of this ⟨rfl, rfl⟩
          rw [r_Mo_walks_13]
          refine wp_e (wp_bt (by rw [nI_ltI (by decide) (by omega)]; omega) ?_)
          have := L2 (2 ^ l) 0 (by omega)
          rw [Nat.zero_mul] at this
          exact wp_of this ⟨rfl, rfl⟩
      exact wp_e (wp_isC mc (wp_rIe t1 (wp_bf n10 (wp_isC mc (wp_rIe wd (wp_of (L1 v 0 (by omega)) ⟨rfl, rfl⟩))))))
def pc (v : Nat) (G H : Rw) (l r k n : Nat) : Nat := sm (fun c => if ((fl v G l r).testBit k && (fl v H l k).testBit c) = true then 1 else 0) n
theorem pc_e {v l r k : Nat} {G H : Rw} (hv : v ≤ 4) (V : GW (2 ^ v) H) (hl : l ≤ v) : pc v G H l r k (2 ^ l) = ((fl v G l r).testBit k).toNat * bc (fl v H l k) := by
  have hp : 2 ^ l ≤ 16 := Nat.le_trans (Nat.pow_le_pow_right (by decide) hl) (lv_p hv)
  rw [bc_n hp ((fl_W V hl).2.1 k), ← sm_mul]
  apply sm_c
  intro c _
  show (if _ then _ else _) = ((fl v G l r).testBit k).toNat * ((fl v H l k).testBit c).toNat
  cases (fl v G l r).testBit k <;> cases (fl v H l k).testBit c <;> rfl
theorem pd_e {v l : Nat} {G H : Rw} (hv : v ≤ 4) (hl : l ≤ v) : sm (fun r => sm (fun k => ((fl v G l r).testBit k).toNat * bc (fl v H l k)) (2 ^ l)) (2 ^ l) = pd v G H l := by
  have hp : 2 ^ l ≤ 16 := Nat.le_trans (Nat.pow_le_pow_right (by decide) hl) (lv_p hv)
  rw [sm_swap]
  unfold pd
  apply sm_c
  intro k hk
  rw [bc_n hp cs_lt, Nat.mul_comm, ← sm_mul]
  apply sm_c
  intro r hr
  show _ = bc (fl v H l k) * ((cs (2 ^ l) (fl v G l) k).testBit r).toNat
  have : (cs (2 ^ l) (fl v G l) k).testBit r = (fl v G l r).testBit k := by
    cases z : (fl v G l r).testBit k with
    | true => exact cs_t.mpr ⟨hr, z⟩
    | false =>
      cases w : (cs (2 ^ l) (fl v G l) k).testBit r with
      | false => rfl
      | true => rw [(cs_t.mp w).2] at z; cases z
  rw [this, Nat.mul_comm]
theorem m_products (C : MSH h m) (F : MF f m S) (W : WS S) (a b : Int32) : ∃ f', ev M_Mo_products 0 0 [some (.ref m), some (.int a), some (.int b), none, none, none, none, none] [] (wI h f) = some (some (.int (sProds S a b)), wI h f') ∧ MX m f f' := by
  have mc := C.1
  have hv : aV S ≤ 4 := W.2.2.1.1.2.1
  have hr5 : aR S ≤ 5 := W.2.2.1.1.2.2.2.1
  obtain ⟨f', t1, t2, t3⟩ := mo_two C F W a b
  refine ⟨f', ?_, t2⟩
  rw [r_Mo_products_0]
  unfold sProds on2
  cases za : inN a (aR S) with
  | none =>
    rw [za] at t1
    exact wp_e (wp_isC mc (wp_rIe t1 (wp_bt rfl (wp_s ⟨rfl, rfl⟩))))
  | some k =>
    cases zb : inN b (aR S) with
    | none =>
      rw [za, zb] at t1
      exact wp_e (wp_isC mc (wp_rIe t1 (wp_bt rfl (wp_s ⟨rfl, rfl⟩))))
    | some j =>
      rw [za, zb] at t1 t3
      obtain ⟨e1, k1, -⟩ := inN_s za
      obtain ⟨e2, k2, -⟩ := inN_s zb
      subst e1
      subst e2
      obtain ⟨R1, V1⟩ := t3 rfl k k1
      obtain ⟨R2, V2⟩ := t3 rfl j k2
      have wd := mo_wide C (t2.F F).2.2.1.1 hv (h := h)
      dsimp only [on]
      generalize hG : aG S k = G at R1 V1
      generalize hH : aG S j = H at R2 V2
      generalize hV : aV S = v at *
      have V1 : GW (2 ^ v) G := by rw [← hV]; exact V1
      have V2 : GW (2 ^ v) H := by rw [← hV]; exact V2
      have hp := lv_p hv
      have L1 : ∀ q l, l + q = v + 1 → ev M_Mo_products 0 13 [some (.ref m), some (.int (nI k)), some (.int (nI j)), some (.int (nI (sm (pd v G H) l))), some (.int (nI (if l ≤ v then 2 ^ (v - l) else 0))), none, none, none] [] (wI h f') = some (some (.int (nI (sm (pd v G H) (v + 1)))), wI h f') := by
        intro q
        induction q with
        | zero =>
          intro l hl
          have : l = v + 1 := by omega
          subst this
          rw [r_Mo_products_13, if_neg (by omega)]
          exact wp_e (wp_bf (by decide) (wp_s ⟨rfl, rfl⟩))
        | succ q ih =>
          intro l hl
          have hlv : l ≤ v := by omega
          rw [if_pos hlv]
          have hs : 1 ≤ 2 ^ (v - l) := Nat.two_pow_pos _
          have hs2 : 2 ^ (v - l) ≤ 2 ^ v := Nat.pow_le_pow_right (by decide) (by omega)
          have ep : 2 ^ l * 2 ^ (v - l) = 2 ^ v := by rw [← Nat.pow_add]; congr 1; omega
          have hf : 2 ^ (v - l) / 2 = if l + 1 ≤ v then 2 ^ (v - (l + 1)) else 0 := by
            by_cases z : l + 1 ≤ v
            · rw [if_pos z, half_p z]
            · rw [if_neg z, show v - l = 0 by omega]
          have L2 : ∀ q i, i + q = 2 ^ l → ev M_Mo_products 0 18 [some (.ref m), some (.int (nI k)), some (.int (nI j)), some (.int (nI (sm (pd v G H) l + sm (fun r => sm (fun k => ((fl v G l r).testBit k).toNat * bc (fl v H l k)) (2 ^ l)) i))), some (.int (nI (2 ^ (v - l)))), some (.int (nI (i * 2 ^ (v - l)))), none, none] [] (wI h f') = some (some (.int (nI (sm (pd v G H) (v + 1)))), wI h f') := by
            intro q
            induction q with
            | zero =>
              intro i hi
              have : i = 2 ^ l := by omega
              subst this
              rw [r_Mo_products_18, ep]
              refine wp_e (wp_isC mc (wp_rIe wd (wp_bf (by rw [nI_ltI (by omega) (by omega)]; omega) (wp_nz (by decide) ?_))))
              rw [pk_div (by omega) (by decide) (by decide), hf, pd_e hv hlv]
              have := ih (l + 1) (by omega)
              rw [sm] at this
              exact wp_of this ⟨rfl, rfl⟩
            | succ q ihr =>
              intro i hi
              have bi := blk_le (show i < 2 ^ l by omega) hlv
              have L3 : ∀ q t, t + q = 2 ^ l → ev M_Mo_products 0 25 [some (.ref m), some (.int (nI k)), some (.int (nI j)), some (.int (nI (sm (pd v G H) l + sm (fun r => sm (fun k => ((fl v G l r).testBit k).toNat * bc (fl v H l k)) (2 ^ l)) i + sm (fun k => ((fl v G l i).testBit k).toNat * bc (fl v H l k)) t))), some (.int (nI (2 ^ (v - l)))), some (.int (nI (i * 2 ^ (v - l)))), some (.int (nI (t * 2 ^ (v - l)))), none] [] (wI h f') = some (some (.int (nI (sm (pd v G H) (v + 1)))), wI h f') := by
                intro q
                induction q with
                | zero =>
                  intro t ht
                  have : t = 2 ^ l := by omega
                  subst this
                  rw [r_Mo_products_25, ep]
                  refine wp_e (wp_isC mc (wp_rIe wd (wp_bf (by rw [nI_ltI (by omega) (by omega)]; omega) ?_)))
                  rw [nI_add, ← Nat.succ_mul]
                  have := ihr (i + 1) (by omega)
                  rw [sm, ← Nat.add_assoc] at this
                  exact wp_of this ⟨rfl, rfl⟩
                | succ q iht =>
                  intro t ht
                  have bt := blk_le (show t < 2 ^ l by omega) hlv
                  have s1 := mo_some (h := h) (f := f') (l := l) (r := i) (c := t) C hv (show k < 5 by omega) (by omega) (by omega) (by omega) R1 V1
                  have L4 : ∀ q c, c + q = 2 ^ l → ev M_Mo_products 0 32 [some (.ref m), some (.int (nI k)), some (.int (nI j)), some (.int (nI (sm (pd v G H) l + sm (fun r => sm (fun k => ((fl v G l r).testBit k).toNat * bc (fl v H l k)) (2 ^ l)) i + sm (fun k => ((fl v G l i).testBit k).toNat * bc (fl v H l k)) t + pc v G H l i t c))), some (.int (nI (2 ^ (v - l)))), some (.int (nI (i * 2 ^ (v - l)))), some (.int (nI (t * 2 ^ (v - l)))), some (.int (nI (c * 2 ^ (v - l))))] [] (wI h f') = some (some (.int (nI (sm (pd v G H) (v + 1)))), wI h f') := by
                    intro q
                    induction q with
                    | zero =>
                      intro c hc
                      have : c = 2 ^ l := by omega
                      subst this
                      rw [r_Mo_products_32, ep]
                      refine wp_e (wp_isC mc (wp_rIe wd (wp_bf (by rw [nI_ltI (by omega) (by omega)]; omega) ?_)))
                      rw [nI_add, ← Nat.succ_mul, pc_e hv V2 hlv]
                      have := iht (t + 1) (by omega)
                      rw [sm.eq_2 (fun k => ((fl v G l i).testBit k).toNat * bc (fl v H l k)), ← Nat.add_assoc] at this
                      exact wp_of this ⟨rfl, rfl⟩
                    | succ q ihc =>
                      intro c hc
                      have bc' := blk_le (show c < 2 ^ l by omega) hlv
                      have s2 := mo_some (h := h) (f := f') (l := l) (r := t) (c := c) C hv (show j < 5 by omega) (by omega) (by omega) (by omega) R2 V2
                      have ihc := ihc (c + 1) (by omega)
                      have ew : pc v G H l i t (c + 1) = pc v G H l i t c + (if ((fl v G l i).testBit t && (fl v H l t).testBit c) = true then 1 else 0) := rfl
                      rw [ew, ← Nat.add_assoc, Nat.succ_mul c] at ihc
                      rw [r_Mo_products_32]
                      refine wp_e (wp_isC mc (wp_rIe wd (wp_bt (by rw [nI_ltI (by omega) (by omega)]; omega) (wp_isC mc (wp_rIe s1 ?_)))))
                      cases z1 : (fl v G l i).testBit t with
                      | false =>
                        refine wp_bt rfl ?_
                        rw [r_Mo_products_54, r_Mo_products_56, nI_add, nI_add]
                        rw [z1, Bool.false_and, if_neg (by decide)] at ihc
                        exact wp_of ihc ⟨rfl, rfl⟩
                      | true =>
                        refine wp_bf n10 (wp_isC mc (wp_rIe s2 ?_))
                        cases z2 : (fl v H l t).testBit c with
                        | false =>
                          refine wp_bt rfl ?_
                          rw [r_Mo_products_54, r_Mo_products_56, nI_add, nI_add]
                          rw [z2, Bool.and_false, if_neg (by decide)] at ihc
                          exact wp_of ihc ⟨rfl, rfl⟩
                        | true =>
                          refine wp_bf n10 ?_
                          rw [r_Mo_products_56, nI_add, nI_add]
                          rw [z1, z2, if_pos (show (true && true) = true from rfl)] at ihc
                          exact wp_of ihc ⟨rfl, rfl⟩
                  rw [r_Mo_products_25]
                  refine wp_e (wp_isC mc (wp_rIe wd (wp_bt (by rw [nI_ltI (by omega) (by omega)]; omega) ?_)))
                  have := L4 (2 ^ l) 0 (by omega)
                  rw [Nat.zero_mul] at this
                  exact wp_of this ⟨rfl, rfl⟩
              rw [r_Mo_products_18]
              refine wp_e (wp_isC mc (wp_rIe wd (wp_bt (by rw [nI_ltI (by omega) (by omega)]; omega) ?_)))
              have := L3 (2 ^ l) 0 (by omega)
              rw [Nat.zero_mul] at this
              exact wp_of this ⟨rfl, rfl⟩
          rw [r_Mo_products_13]
          refine wp_e (wp_bt (by rw [nI_ltI (by decide) (by omega)]; omega) ?_)
          have := L2 (2 ^ l) 0 (by omega)
          rw [Nat.zero_mul] at this
          exact wp_of this ⟨rfl, rfl⟩
      have := L1 (v + 1) 0 (by omega)
      rw [if_pos (Nat.zero_le v), Nat.sub_zero] at this
      exact wp_e (wp_isC mc (wp_rIe t1 (wp_bf n10 (wp_isC mc (wp_rIe wd (wp_of this ⟨rfl, rfl⟩))))))
/-- what making may write on -/
def KX (m : Nat) (f f' : Nat → Nat → Int32) : Prop := ∀ b, b ≠ m + 19 → b ≠ m + 20 → b ≠ m + 21 → f' b = f b
theorem KX.tr {m : Nat} {f g k : Nat → Nat → Int32} (x : KX m f g) (y : KX m g k) : KX m f k := fun b h1 h2 h3 => (y b h1 h2 h3).trans (x b h1 h2 h3)
theorem KX.M {m : Nat} {f f' : Nat → Nat → Int32} (x : KX m f f') : MX m f f' := ⟨fun b _ h2 _ => x b (by omega) (by omega) (by omega), fun k _ _ => by rw [x m (by omega) (by omega) (by omega)]⟩
theorem mo_joined (w : Nat) (a b : Nat) (h : MH) (hw : w = 20 ∨ w = 22 ∨ w = 21) : ev M_Mo_joined 0 0 [some (.int (nI w)), some (.int (nI a)), some (.int (nI b))] [] h = some (some (.int (nI (if w = 20 then a ||| b else if w = 22 then a &&& b else nd a b))), h) := by
  rw [r_Mo_joined_0]
  apply wp_e
  rcases hw with z | z | z <;> subst z
  · exact wp_bt rfl (wp_s ⟨by rw [nm_or]; rfl, rfl⟩)
  · exact wp_bf (by decide) (wp_bt rfl (wp_s ⟨by rw [nm_and]; rfl, rfl⟩))
  · exact wp_bf (by decide) (wp_bf (by decide) (wp_s ⟨by rw [nm_nd]; rfl, rfl⟩))
theorem mo_makes {w k j n : Nat} {G H : Rw} (C : MSH h m) (hw : w < 5) (hk : k < 5) (hj : j < 5) (R1 : RF f (m + 18) (16 * k) G) (R2 : RF f (m + 18) (16 * j) H) (V1 : GW n G) (V2 : GW n H) : ∃ f', ev M_Mo_makes 0 0 [some (.ref m), some (.int (nI w)), some (.int (nI k)), some (.int (nI j)), none, none] [] (wI h f) = some (none, wI h f') ∧ RF f' (m + 20) 0 (jnG w n G H) ∧ KX m f f' := by
  have mc := C.1
  have ar18 : hR h m 38 = some (m + 18) := (C.2 17 (by decide)).1
  have an18 : hN h (m + 18) = 80 := (C.2 17 (by decide)).2.1
  have ac18 : hC h (m + 18) = 20 := (C.2 17 (by decide)).2.2
  have ar19 : hR h m 39 = some (m + 19) := (C.2 18 (by decide)).1
  have an19 : hN h (m + 19) = 640 := (C.2 18 (by decide)).2.1
  have ac19 : hC h (m + 19) = 20 := (C.2 18 (by decide)).2.2
  have ar20 : hR h m 40 = some (m + 20) := (C.2 19 (by decide)).1
  have an20 : hN h (m + 20) = 16 := (C.2 19 (by decide)).2.1
  have ac20 : hC h (m + 20) = 20 := (C.2 19 (by decide)).2.2
  -- the rows made
  have L2 : ∀ (X : Rw) q i f1, i + q = 16 → KX m f f1 → RF f1 (m + 19) 0 X → (∀ r, X r < 2 ^ 16) → (∀ r, r < 16 → jnG w n G H r = if w = 3 then sf 16 X (G r) else if w = 1 then G r &&& X r else if w = 2 then nd (G r) (X r) else G r ||| X r) → (∀ r, r < i → f1 (m + 20) r = nI (jnG w n G H r)) → ∃ f', ev M_Mo_makes 0 32 [some (.ref m), some (.int (nI w)), some (.int (nI k)), none, some (.int (nI i)), none] [] (wI h f1) = some (none, wI h f') ∧ RF f' (m + 20) 0 (jnG w n G H) ∧ KX m f f' := by
    intro X q
    induction q with
    | zero =>
      intro i f1 hi t RX hX hJ e1
      have : i = 16 := by omega
      subst this
      refine ⟨f1, ?_, fun r hr => by rw [Nat.zero_add]; exact e1 r hr, t⟩
      rw [r_Mo_makes_32]
      exact wp_e (wp_bf (by decide) (wp_s ⟨rfl, rfl⟩))
    | succ q ih =>
      intro i f1 hi t RX hX hJ e1
      obtain ⟨f', i1, i2⟩ := ih (i + 1) (up2 f1 (m + 20) i (nI (jnG w n G H i))) (by omega) (t.tr (fun b _ h2 _ => up2_a h2)) (fun r hr => by rw [up2_a (by omega)]; exact RX r hr) hX hJ (fun r hr => by
        by_cases z : r = i
        · rw [z, up2_s]
        · rw [up2_k z]; exact e1 r (by omega))
      refine ⟨f', wp_e ?_, i2⟩
      have eG : f1 (m + 18) (16 * k + i) = nI (G i) := by rw [t _ (by omega) (by omega) (by omega)]; exact R1 i (by omega)
      have eX : f1 (m + 19) i = nI (X i) := by have := RX i (by omega); rw [Nat.zero_add] at this; exact this
      have fin : wp (ev M_Mo_makes 0 75 [some (.ref m), some (.int (nI w)), some (.int (nI k)), none, some (.int (nI i)), none] [(.int (nI (jnG w n G H i))), (.int (nI i)), (.ref (m + 20))] (wI h f1)) (fun a b => a = none ∧ b = wI h f') := by
        rw [r_Mo_makes_75]
        refine wp_isC ac20 (wp_inA an20 rfl (by omega) (by omega) ?_)
        rw [nI_clamp (by omega), wI_s, nI_add]
        exact wp_of i1 ⟨rfl, rfl⟩
      have fj : ∀ u, (u = 20 ∨ u = 22 ∨ u = 21) → jnG w n G H i = (if u = 20 then G i ||| X i else if u = 22 then G i &&& X i else nd (G i) (X i)) → wp (ev M_Mo_makes 0 68 [some (.ref m), some (.int (nI w)), some (.int (nI k)), none, some (.int (nI i)), some (.int (nI (G i)))] [(.int (nI u)), (.int (nI i)), (.ref (m + 20))] (wI h f1)) (fun a b => a = none ∧ b = wI h f') := by
        intro u hu eu
        rw [r_Mo_makes_68]
        refine wp_isC mc (wp_nnR ar19 (wp_isC ac19 (wp_inA an19 rfl (by omega) (by omega) ?_)))
        rw [nI_clamp (by omega), wI_I, eX]
        refine wp_rIe (mo_joined u (G i) (X i) (wI h f1) hu) ?_
        rw [← eu]
        exact fin
      rw [r_Mo_makes_32]
      refine wp_bt (by rw [nI_ltI (by omega) (by decide)]; omega) (wp_isC mc (wp_nnR ar18 (wp_isC ac18 (wp_inA (n := 16 * k + i) an18 (by rw [pk_mul, nI_add]) (by omega) (by omega) (wp_isC mc (wp_nnR ar20 ?_))))))
      rw [show (nI 16 * nI k + nI i).toNatClampNeg = 16 * k + i by rw [pk_mul, nI_add, nI_clamp (by omega)], wI_I, eG]
      have hJi := hJ i (by omega)
      refine wp_bi (nI_eq (by omega) (by decide)) (fun z3 => ?_) (fun z3 => ?_)
      · rw [if_pos z3] at hJi
        refine wp_isC mc (wp_nnR ar19 (wp_rIe (mo_through (o := 0) ac19 an19 (by decide) (by decide) RX hX (V1.lt i)) ?_))
        rw [← hJi]
        exact fin
      · rw [if_neg z3] at hJi
        refine wp_bi (nI_eq (by omega) (by decide)) (fun z1 => ?_) (fun z1 => ?_)
        · rw [if_pos z1] at hJi
          exact fj 22 (by decide) (by rw [hJi]; rfl)
        · rw [if_neg z1] at hJi
          refine wp_bi (nI_eq (by omega) (by decide)) (fun z2 => ?_) (fun z2 => ?_)
          · rw [if_pos z2] at hJi
            exact fj 21 (by decide) (by rw [hJi]; rfl)
          · rw [if_neg z2] at hJi
            exact fj 20 (by decide) (by rw [hJi]; rfl)
  have L1 : ∀ q i f1, i + q = 16 → KX m f f1 → (∀ r, r < i → f1 (m + 19) r = nI (H r)) → ∃ f', ev M_Mo_makes 0 3 [some (.ref m), some (.int (nI w)), some (.int (nI k)), some (.int (nI j)), some (.int (nI i)), none] [] (wI h f1) = some (none, wI h f') ∧ RF f' (m + 20) 0 (jnG w n G H) ∧ KX m f f' := by
    intro q
    induction q with
    | zero =>
      intro i f1 hi t e1
      have : i = 16 := by omega
      subst this
      have RX : RF f1 (m + 19) 0 H := fun r hr => by rw [Nat.zero_add]; exact e1 r hr
      by_cases z : w = 4
      · obtain ⟨g, b1, b2, b3⟩ := mo_turnsBack (h := h) (f := f1) (m := m) (a := m + 19) (o := 0) C (by omega) ac19 an19 (by decide) (by decide) RX V2.lt
        have tg : KX m f g := t.tr (fun b h1 _ h3 => b3.1 b h1 h3)
        obtain ⟨f', i1, i2⟩ := L2 (cs 16 H) 16 0 g rfl tg b2 (fun r => cs_lt) (fun r hr => by
          rw [if_neg (by omega), if_neg (by omega), if_neg (by omega)]
          show (if _ then _ else _) = _
          by_cases y : r < n
          · rw [if_pos y]; unfold jn; rw [if_neg (by omega), if_neg (by omega), if_neg (by omega), if_neg (by omega), cs_16 V2]
          · rw [if_neg y, V1.2.2 r (by omega), cs_hi V2 (by omega)]; rfl) (fun r hr => absurd hr (Nat.not_lt_zero r))
        refine ⟨f', wp_e ?_, i2⟩
        rw [r_Mo_makes_3]
        refine wp_bf (by decide) (wp_bt (by rw [z]) (wp_isC mc (wp_nnR ar19 (wp_isC mc (wp_rVe b1 ?_)))))
        rw [r_Mo_makes_29]
        exact wp_of i1 ⟨rfl, rfl⟩
      · obtain ⟨f', i1, i2⟩ := L2 H 16 0 f1 rfl t RX V2.lt (fun r hr => by
          rw [jnG_e V1 V2 (by omega)]
          unfold jn
          by_cases y0 : w = 0
          · subst y0; rfl
          · by_cases y1 : w = 1
            · subst y1; rfl
            · by_cases y2 : w = 2
              · subst y2; rfl
              · have y3 : w = 3 := by omega
                subst y3
                rw [if_neg y0, if_neg y1, if_neg y2, if_pos rfl, if_pos rfl, sf_16 V2]) (fun r hr => absurd hr (Nat.not_lt_zero r))
        refine ⟨f', wp_e ?_, i2⟩
        rw [r_Mo_makes_3]
        refine wp_bf (by decide) (wp_bf (by rw [nI_eq (by omega) (by decide)]; exact z) ?_)
        rw [r_Mo_makes_29]
        exact wp_of i1 ⟨rfl, rfl⟩
    | succ q ih =>
      intro i f1 hi t e1
      obtain ⟨f', i1, i2⟩ := ih (i + 1) (up2 f1 (m + 19) i (nI (H i))) (by omega) (t.tr (fun b h1 _ _ => up2_a h1)) (fun r hr => by
        by_cases z : r = i
        · rw [z, up2_s]
        · rw [up2_k z]; exact e1 r (by omega))
      refine ⟨f', wp_e ?_, i2⟩
      have eH : f1 (m + 18) (16 * j + i) = nI (H i) := by rw [t _ (by omega) (by omega) (by omega)]; exact R2 i (by omega)
      rw [r_Mo_makes_3]
      refine wp_bt (by rw [nI_ltI (by omega) (by decide)]; omega) (wp_isC mc (wp_nnR ar19 (wp_isC mc (wp_nnR ar18 (wp_isC ac18 (wp_inA (n := 16 * j + i) an18 (by rw [pk_mul, nI_add]) (by omega) (by omega) (wp_isC ac19 (wp_inA an19 rfl (by omega) (by omega) ?_))))))))
      rw [show (nI 16 * nI j + nI i).toNatClampNeg = 16 * j + i by rw [pk_mul, nI_add, nI_clamp (by omega)], nI_clamp (by omega), wI_I, eH, wI_s, nI_add]
      exact wp_of i1 ⟨rfl, rfl⟩
  rw [r_Mo_makes_0]
  exact L1 16 0 f rfl (fun _ _ _ _ => rfl) (fun r hr => absurd hr (Nat.not_lt_zero r))
theorem m_would (C : MSH h m) (F : MF f m S) (W : WS S) (w a b t : Int32) : ∃ f', ev M_Mo_would 0 0 [some (.ref m), some (.int w), some (.int a), some (.int b), some (.int t)] [] (wI h f) = some (some (.int (sWould S w a b t)), wI h f') ∧ MX m f f' := by
  have mc := C.1
  have ar20 : hR h m 40 = some (m + 20) := (C.2 19 (by decide)).1
  have an20 : hN h (m + 20) = 16 := (C.2 19 (by decide)).2.1
  have ac20 : hC h (m + 20) = 20 := (C.2 19 (by decide)).2.2
  have hv : aV S ≤ 4 := W.2.2.1.1.2.1
  have hr5 : aR S ≤ 5 := W.2.2.1.1.2.2.2.1
  have rh := mo_isHow w (wI h f)
  have rt := mo_in0 (x := t) (n := 1) (wI h f) (by decide)
  rw [show 1 + 1 = 2 from rfl] at rt
  rw [r_Mo_would_0]
  unfold sWould on2
  cases zw : inN w 5 with
  | none =>
    rw [zw] at rh
    exact ⟨f, wp_e (wp_rIe rh (wp_bt rfl (wp_s ⟨rfl, rfl⟩))), MX.rf⟩
  | some w' =>
    rw [zw] at rh
    obtain ⟨ew, w1, -⟩ := inN_s zw
    subst ew
    dsimp only [on]
    cases zt : inN t 2 with
    | none =>
      rw [zt] at rt
      refine ⟨f, wp_e (wp_rIe rh (wp_bf n10 (wp_rIe rt (wp_bt rfl (wp_s ⟨?_, rfl⟩))))), MX.rf⟩
      have t0 : ¬ t = nI 0 := fun e => by rw [e] at zt; cases zt
      have t1 : ¬ t = nI 1 := fun e => by rw [e] at zt; cases zt
      cases inN a (aR S) with
      | none => rfl
      | some k =>
        cases inN b (aR S) with
        | none => rfl
        | some j => dsimp only; rw [if_neg t0, if_neg t1]
    | some t' =>
      rw [zt] at rt
      obtain ⟨et, t1', -⟩ := inN_s zt
      subst et
      obtain ⟨f1, t1, t2, t3⟩ := mo_two C F W a b
      cases za : inN a (aR S) with
      | none =>
        rw [za] at t1
        exact ⟨f1, wp_e (wp_rIe rh (wp_bf n10 (wp_rIe rt (wp_bf n10 (wp_isC mc (wp_rIe t1 (wp_bt rfl (wp_s ⟨rfl, rfl⟩)))))))), t2⟩
      | some k =>
        cases zb : inN b (aR S) with
        | none =>
          rw [za, zb] at t1
          exact ⟨f1, wp_e (wp_rIe rh (wp_bf n10 (wp_rIe rt (wp_bf n10 (wp_isC mc (wp_rIe t1 (wp_bt rfl (wp_s ⟨rfl, rfl⟩)))))))), t2⟩
        | some j =>
          rw [za, zb] at t1 t3
          obtain ⟨e1, k1, -⟩ := inN_s za
          obtain ⟨e2, k2, -⟩ := inN_s zb
          subst e1
          subst e2
          obtain ⟨R1, V1⟩ := t3 rfl k k1
          obtain ⟨R2, V2⟩ := t3 rfl j k2
          obtain ⟨f2, m1, m2, m3⟩ := mo_makes (h := h) (f := f1) C w1 (show k < 5 by omega) (show j < 5 by omega) R1 R2 V1 V2
          have VJ := GW.jnG (w := w') V1 V2
          dsimp only
          by_cases z : t' = 0
          · subst z
            rw [if_pos rfl]
            refine ⟨f2, wp_e (wp_rIe rh (wp_bf n10 (wp_rIe rt (wp_bf n10 (wp_isC mc (wp_rIe t1 (wp_bf n10 (wp_isC mc (wp_rVe m1 (wp_bt rfl (wp_isC mc (wp_nnR ar20 (wp_rIe (mo_manyIn ac20 an20 (by decide) (by decide) m2 VJ.lt) (wp_s ⟨?_, rfl⟩)))))))))))))), t2.tr m3.M⟩
            rw [ct_16 VJ]
          · have z1 : t' = 1 := by omega
            subst z1
            rw [if_neg (by decide), if_pos rfl]
            obtain ⟨f3, q1, q2, q3⟩ := mo_laysTree (h := h) (f := f2) (m := m) (a := m + 20) (o := 0) C ac20 an20 (by decide) (by decide) ⟨by omega, by omega⟩ m2 VJ W.2.2.1.1.1 hv (by rw [m3 _ (by omega) (by omega) (by omega)]; exact (t2.F F).2.2.1.1)
            refine ⟨f3, wp_e (wp_rIe rh (wp_bf n10 (wp_rIe rt (wp_bf n10 (wp_isC mc (wp_rIe t1 (wp_bf n10 (wp_isC mc (wp_rVe m1 (wp_bf (by decide) (wp_isC mc (wp_nnR ar20 (wp_isC mc (wp_rVe q1 (wp_isC mc (wp_s ⟨?_, rfl⟩)))))))))))))))), (t2.tr m3.M).tr q3.M⟩
            rw [wI_I, q2.1, nb_len VJ W.2.2.1.1.1 hv]
theorem m_pair (C : MSH h m) (F : MF f m S) (W : WS S) (a i t : Int32) : ∃ f', ev M_Mo_pair 0 0 [some (.ref m), some (.int a), some (.int i), some (.int t), none, none, none] [] (wI h f) = some (some (.int (sPair S a i t)), wI h f') ∧ MX m f f' := by
  have mc := C.1
  have ar18 : hR h m 38 = some (m + 18) := (C.2 17 (by decide)).1
  have an18 : hN h (m + 18) = 80 := (C.2 17 (by decide)).2.1
  have ac18 : hC h (m + 18) = 20 := (C.2 17 (by decide)).2.2
  have hr5 : aR S ≤ 5 := W.2.2.1.1.2.2.2.1
  have ra := mo_rel C F W a
  have rt := mo_in0 (x := t) (n := 1) (wI h f) (by decide)
  rw [show 1 + 1 = 2 from rfl] at rt
  rw [r_Mo_pair_0]
  unfold sPair
  cases za : inN a (aR S) with
  | none =>
    rw [za] at ra
    exact ⟨f, wp_e (wp_isC mc (wp_rIe ra (wp_bt rfl (wp_s ⟨rfl, rfl⟩)))), MX.rf⟩
  | some k =>
    rw [za] at ra
    obtain ⟨ea, k1, -⟩ := inN_s za
    subst ea
    dsimp only [on]
    by_cases zi : i < nI 0
    · rw [if_pos zi]
      exact ⟨f, wp_e (wp_isC mc (wp_rIe ra (wp_bf n10 (wp_bt zi (wp_s ⟨rfl, rfl⟩))))), MX.rf⟩
    · rw [if_neg zi]
      cases zt : inN t 2 with
      | none =>
        rw [zt] at rt
        exact ⟨f, wp_e (wp_isC mc (wp_rIe ra (wp_bf n10 (wp_bf zi (wp_rIe rt (wp_bt rfl (wp_s ⟨rfl, rfl⟩))))))), MX.rf⟩
      | some t' =>
        rw [zt] at rt
        obtain ⟨et, t1', -⟩ := inN_s zt
        subst et
        obtain ⟨n, hn, ei⟩ := nI_of zi
        subst ei
        obtain ⟨f', l1, l2, l3⟩ := mo_L C F W
        obtain ⟨R, V⟩ := l2 k k1
        rw [nI_clamp hn]
        dsimp only
        generalize hG : aG S k = G at R V
        have hcn : ∀ q, q ≤ 256 → cnt (pb G) q ≤ 256 := fun q hq => by
          have := sm_le (F := fun j => (pb G j).toNat) (b := 1) (n := q) (fun k _ => Bool.toNat_le _)
          unfold cnt; omega
        have L : ∀ q r, r + q = 16 → nt (pb G) n (16 * r) = none → ev M_Mo_pair 0 20 [some (.ref m), some (.int (nI k)), some (.int (nI n)), some (.int (nI t')), some (.int (nI (cnt (pb G) (16 * r)))), some (.int (nI r)), none] [] (wI h f') = some (some (.int (pairA t' (ntp G n))), wI h f') := by
          intro q
          induction q with
          | zero =>
            intro r hr h1
            have : r = 16 := by omega
            subst this
            rw [r_Mo_pair_20]
            refine wp_e (wp_bf (by decide) (wp_s ⟨?_, rfl⟩))
            unfold ntp
            rw [show 256 = 16 * 16 from rfl, h1]
            rfl
          | succ q ih =>
            intro r hr h1
            have LI : ∀ p c, c + p = 16 → nt (pb G) n (16 * r + c) = none → ev M_Mo_pair 0 26 [some (.ref m), some (.int (nI k)), some (.int (nI n)), some (.int (nI t')), some (.int (nI (cnt (pb G) (16 * r + c)))), some (.int (nI r)), some (.int (nI c))] [] (wI h f') = some (some (.int (pairA t' (ntp G n))), wI h f') := by
              intro p
              induction p with
              | zero =>
                intro c hc h2
                have : c = 16 := by omega
                subst this
                rw [r_Mo_pair_26]
                refine wp_e (wp_bf (by decide) ?_)
                rw [nI_add]
                have := ih (r + 1) (by omega) (by rw [show 16 * (r + 1) = 16 * r + 16 by omega]; exact h2)
                rw [show 16 * (r + 1) = 16 * r + 16 by omega] at this
                exact wp_of this ⟨rfl, rfl⟩
              | succ p ihp =>
                intro c hc h2
                have ep : pb G (16 * r + c) = (G r).testBit c := by unfold pb; rw [show (16 * r + c) / 16 = r by omega, show (16 * r + c) % 16 = c by omega]
                have ec : cnt (pb G) (16 * r + c + 1) = cnt (pb G) (16 * r + c) + (pb G (16 * r + c)).toNat := rfl
                have en : nt (pb G) n (16 * r + c + 1) = if pb G (16 * r + c) = true ∧ cnt (pb G) (16 * r + c) = n then some (16 * r + c) else none := by rw [nt, h2]
                have hb := hcn (16 * r + c) (by omega)
                rw [r_Mo_pair_26]
                refine wp_e (wp_bt (by rw [nI_ltI (by omega) (by decide)]; omega) (wp_isC mc (wp_nnR ar18 (wp_isC ac18 (wp_inA (n := 16 * k + r) an18 (by rw [pk_mul, nI_add]) (by omega) (by omega) ?_)))))
                rw [show (nI 16 * nI k + nI r).toNatClampNeg = 16 * k + r by rw [pk_mul, nI_add, nI_clamp (by omega)], wI_I, R r (by omega)]
                refine wp_rIe (mo_isOf _ (by omega) (Nat.lt_of_lt_of_le (V.lt r) (by decide))) ?_
                cases z : (G r).testBit c with
                | false =>
                  rw [ep, z, if_neg (fun w => by cases w.1)] at en
                  rw [ep, z] at ec
                  refine wp_bt rfl ?_
                  rw [r_Mo_pair_52, nI_add]
                  have := ihp (c + 1) (by omega) en
                  rw [show 16 * r + (c + 1) = 16 * r + c + 1 from rfl, ec] at this
                  exact wp_of this ⟨rfl, rfl⟩
                | true =>
                  rw [ep, z] at ec
                  refine wp_bf n10 (wp_bi (nI_eq (by omega) hn) (fun y => ?_) (fun y => ?_))
                  · rw [ep, z, if_pos ⟨rfl, y⟩] at en
                    have e256 : ntp G n = some (16 * r + c) := nt_some en (by omega)
                    rw [e256]
                    show wp _ (fun a b => a = some (Value.int (nI (if t' = 0 then (16 * r + c) / 16 else (16 * r + c) % 16))) ∧ _)
                    rw [show (16 * r + c) / 16 = r by omega, show (16 * r + c) % 16 = c by omega]
                    refine wp_bi (nI_eq (by omega) (by decide)) (fun u => ?_) (fun u => ?_)
                    · rw [if_pos u]; exact wp_s ⟨rfl, rfl⟩
                    · rw [if_neg u]; exact wp_s ⟨rfl, rfl⟩
                  · rw [if_neg (fun w => y w.2)] at en
                    rw [r_Mo_pair_52, nI_add, nI_add]
                    have := ihp (c + 1) (by omega) en
                    rw [show 16 * r + (c + 1) = 16 * r + c + 1 from rfl, ec] at this
                    exact wp_of this ⟨rfl, rfl⟩
            rw [r_Mo_pair_20]
            exact wp_e (wp_bt (by rw [nI_ltI (by omega) (by decide)]; omega) (wp_of (LI 16 0 rfl h1) ⟨rfl, rfl⟩))
        exact ⟨f', wp_e (wp_isC mc (wp_rIe ra (wp_bf n10 (wp_bf zi (wp_rIe rt (wp_bf n10 (wp_isC mc (wp_rVe l1 (wp_of (L 16 0 rfl rfl) ⟨rfl, rfl⟩))))))))), l3⟩
end
