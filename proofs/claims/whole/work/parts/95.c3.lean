/-! The constructors: the scanner's words, the reader. -/
def scOk : List Nat → Nat → List Nat → Bool
  | [], _, _ => true
  | c :: cs, w, W => decide (w < 18) && decide (c < 256) && (if c = 32 then scOk cs (w + 1) W else decide (W.getD w 0 < 2 ^ 56) && scOk cs w (W.set w (W.getD w 0 * 256 + c)))
def scRun : List Nat → Nat → List Nat → List Nat
  | [], _, W => W
  | c :: cs, w, W => if c = 32 then scRun cs (w + 1) W else scRun cs w (W.set w (W.getD w 0 * 256 + c))
theorem sc_ok : scOk tx0 0 (List.replicate 18 0) = true := by decide +kernel
theorem sc_run : scRun tx0 0 (List.replicate 18 0) = KWs := by decide +kernel
theorem ch_1 : ∀ c : Fin 256, UInt32.toInt32 (Int32.toUInt32 (nI c.val &&& nI 255) % 65536) = nI c.val := by decide +kernel
theorem ch_2 : ∀ c : Fin 256, (nI c.val).toUInt32.toUInt16.toUInt32.toInt32 = nI c.val := by decide +kernel
theorem r_PC (x0 x1 : Int32) (v : Value) (h : MH) : ev M_Preconditions_checkIndex 0 0 [some (.int x0), some (.int x1), some v] [] h = br (x0 < (nI 0)) (ev M_Preconditions_checkIndex 0 6 [some (.int x0), some (.int x1), some v] [] h) (br (x0 < x1) (some (some (.int x0), h)) (ev M_Preconditions_checkIndex 0 6 [some (.int x0), some (.int x1), some v] [] h)) := (ev_eq _ _ _ _ _ _).trans rfl
/-- the words' text -/
def StrW (h : MH) (s0 v0 : Nat) : Prop := hR h 0 1000 = some s0 ∧ hC h s0 = 30 ∧ hR h s0 0 = some v0 ∧ hR h v0 77 = some 1 ∧ 30 ≤ hC h v0 ∧ hN h v0 = 85 ∧ hI h s0 1 = nI 0 ∧ ∀ j, j < 85 → hI h v0 (100 + j) = nI (tx0.getD j 0)
theorem StrW.q {h h' : MH} {s0 v0 : Nat} (w : StrW h s0 v0) (e0 : Se h h' 0) (e1 : Se h h' s0) (e2 : Se h h' v0) : StrW h' s0 v0 := by
  obtain ⟨w1, w2, w3, w4, w5, w6, w7, w8⟩ := w
  exact ⟨by rw [e0.2.2.1]; exact w1, by rw [e1.1]; exact w2, by rw [e1.2.2.1]; exact w3, by rw [e2.2.2.1]; exact w4, by rw [e2.1]; exact w5, by rw [e2.2.1]; exact w6, by rw [e1.2.2.2.1]; exact w7, fun j hj => by rw [e2.2.2.2.1]; exact w8 j hj⟩
theorem tx0_lt : ∀ j : Fin 85, tx0.getD j.val 0 < 256 := by decide +kernel
theorem sx_chr {h : MH} {s0 v0 j : Nat} (w : StrW h s0 v0) (hj : j < 85) : ev M_String_charAt 0 0 [some (.ref s0), some (.int (nI j))] [] h = some (some (.int (nI (tx0.getD j 0))), h) := by
  obtain ⟨w1, w2, w3, w4, w5, w6, w7, w8⟩ := w
  have hc := tx0_lt ⟨j, hj⟩
  have c1 : UInt32.toInt32 (Int32.toUInt32 (nI (tx0.getD j 0) &&& nI 255) % 65536) = nI (tx0.getD j 0) := ch_1 ⟨_, hc⟩
  have c2 : (nI (tx0.getD j 0)).toUInt32.toUInt16.toUInt32.toInt32 = nI (tx0.getD j 0) := ch_2 ⟨_, hc⟩
  have nar : ∀ {k : MRes} {Q : Option Value → MH → Prop}, wp k Q → wp (narI 3 (nI (tx0.getD j 0)) k) Q := fun {k Q} w => by
    show wp (if _ then k else none) Q
    rw [if_pos c2]; exact w
  have ci : ev M_String_checkIndex 0 0 [some (.int (nI j)), some (.int (nI (hN h v0)))] [] h = some (none, h) := by
    rw [r_String_checkIndex_0]
    have key : ∀ v : Value, wp (rI (ev M_Preconditions_checkIndex 0 0 [some (.int (nI j)), some (.int (nI (hN h v0))), some v] [] h) fun _ h2 => some (none, h2)) (fun a e => a = none ∧ e = h) := fun v => by
      have pc : ev M_Preconditions_checkIndex 0 0 [some (.int (nI j)), some (.int (nI (hN h v0))), some v] [] h = some (some (.int (nI j)), h) := by
        rw [r_PC]
        exact wp_e (wp_bf (nI_pos (by omega)) (wp_bt (by rw [w6, nI_ltI (by omega) (by omega)]; exact hj) (wp_s ⟨rfl, rfl⟩)))
      exact wp_rIe pc (wp_s ⟨rfl, rfl⟩)
    cases hR h 0 1002 with
    | none => exact wp_e (key .null)
    | some x => exact wp_e (key (.ref x))
  have la : ev M_StringLatin1_charAt 0 0 [some (.ref v0), some (.int (nI j))] [] h = some (some (.int (nI (tx0.getD j 0))), h) := by
    rw [r_StringLatin1_charAt_0]
    refine wp_e (wp_isB w5 w4 (wp_rVe ci (wp_isB w5 w4 (wp_inA w6 rfl hj (by omega) ?_))))
    rw [nI_clamp (by omega), w8 j hj, c1]
    exact nar (wp_s ⟨rfl, rfl⟩)
  rw [r_String_charAt_0]
  refine wp_e (wp_isC w2 (wp_rIe (sx_latin w2 w7) (wp_bf n10 (wp_isC w2 (wp_nnR w3 (wp_rIe la (nar (wp_s ⟨rfl, rfl⟩))))))))
theorem gd_s {W : List Nat} {w v : Nat} (h : w < W.length) : (W.set w v).getD w 0 = v := by rw [List.getD_eq_getElem?_getD, List.getElem?_set_self h]; rfl
theorem gd_n {W : List Nat} {w v k : Nat} (h : k ≠ w) : (W.set w v).getD k 0 = W.getD k 0 := by rw [List.getD_eq_getElem?_getD, List.getD_eq_getElem?_getD, List.getElem?_set_ne (fun e => h e.symm)]
theorem sc_loop {h : MH} {t s0 v0 : Nat} (w0 : StrW h s0 v0) (c0 : hC h t = 8) (r0 : hR h t 4 = some (t + 1)) (c1 : hC h (t + 1) = 22) (n1 : hN h (t + 1) = 18) : ∀ (rest : List Nat) (j w : Nat) (W : List Nat) (g : Nat → Nat → Int64), tx0.drop j = rest → j ≤ 85 → scOk rest w W = true → W.length = 18 → (∀ k, k < 18 → g (t + 1) k = lN (W.getD k 0)) → wp (ev M_Scanner_init 0 12 [some (.ref t), some (.int (nI w)), some (.int (nI j)), none] [] (wL h g)) (fun v e => v = none ∧ ∃ g', e = wL h g' ∧ (∀ a, a ≠ t + 1 → g' a = g a) ∧ ∀ k, k < 18 → g' (t + 1) k = lN ((scRun rest w W).getD k 0)) := by
  have tl : tx0.length = 85 := by decide +kernel
  intro rest
  induction rest with
  | nil =>
    intro j w W g hd hj85 ok hW hg
    have hj := List.drop_eq_nil_iff.mp hd
    rw [tl] at hj
    have wg : StrW (wL h g) s0 v0 := w0
    obtain ⟨w1, w2, w3, w4, w5, w6, w7, w8⟩ := id wg
    have ln := sx_len (h := wL h g) w2 w3 w4 w5 w6 (by decide) w7
    rw [r_Scanner_init_12]
    exact wp_nnR w1 (wp_isC w2 (wp_rIe ln (wp_bf (by rw [nI_ltI (by omega) (by decide)]; omega) (wp_s ⟨rfl, g, rfl, fun _ _ => rfl, hg⟩))))
  | cons c rest ih =>
    intro j w W g hd hj85 ok hW hg
    have wg : StrW (wL h g) s0 v0 := w0
    obtain ⟨w1, w2, w3, w4, w5, w6, w7, w8⟩ := id wg
    have hj : j < 85 := by
      by_cases z : j < 85
      · exact z
      · rw [List.drop_eq_nil_iff.mpr (by omega)] at hd; cases hd
    have hcx : tx0[j]? = some c := by
      have := congrArg (fun l => l[0]?) hd
      simp at this
      exact this
    have hc : tx0.getD j 0 = c := by rw [List.getD_eq_getElem?_getD, hcx]; rfl
    have hd2 : tx0.drop (j + 1) = rest := by
      have := congrArg List.tail hd
      simpa using this
    have ok1 : w < 18 ∧ c < 256 ∧ (if c = 32 then scOk rest (w + 1) W else decide (W.getD w 0 < 2 ^ 56) && scOk rest w (W.set w (W.getD w 0 * 256 + c))) = true := by
      have ok : (decide (w < 18) && decide (c < 256) && (if c = 32 then scOk rest (w + 1) W else decide (W.getD w 0 < 2 ^ 56) && scOk rest w (W.set w (W.getD w 0 * 256 + c)))) = true := ok
      rw [Bool.and_eq_true, Bool.and_eq_true] at ok
      exact ⟨of_decide_eq_true ok.1.1, of_decide_eq_true ok.1.2, ok.2⟩
    obtain ⟨hw, hc2, ok2⟩ := ok1
    have ch := sx_chr wg hj
    rw [hc] at ch
    have ln := sx_len (h := wL h g) w2 w3 w4 w5 w6 (by decide) w7
    rw [r_Scanner_init_12]
    refine wp_nnR w1 (wp_isC w2 (wp_rIe ln (wp_bt (by rw [nI_ltI (by omega) (by decide)]; exact hj) (wp_bt (by rw [nI_ltI (by omega) (by decide)]; exact hw) (wp_nnR w1 (wp_isC w2 (wp_rIe ch ?_)))))))
    rw [r_Scanner_init_24]
    refine wp_bi (nI_eq (by omega) (by decide)) (fun z => ?_) (fun z => ?_)
    · rw [if_pos z] at ok2
      rw [r_Scanner_init_43, nI_add, nI_add]
      have := ih (j + 1) (w + 1) W g hd2 (by omega) ok2 hW hg
      have er : scRun (c :: rest) w W = scRun rest (w + 1) W := if_pos z
      rw [er]; exact this
    · rw [if_neg z, Bool.and_eq_true] at ok2
      have h56 := of_decide_eq_true ok2.1
      have er : scRun (c :: rest) w W = scRun rest w (W.set w (W.getD w 0 * 256 + c)) := if_neg z
      refine wp_isC c0 (wp_nnR r0 (wp_isC c0 (wp_nnR r0 (wp_isC c1 (wp_inA n1 rfl hw (by omega) (wp_isC c1 (wp_inA n1 rfl hw (by omega) ?_)))))))
      rw [nI_clamp (by omega), show hL (wL h g) (t + 1) w = g (t + 1) w from rfl, hg w hw, show (nI c).toInt64 = lN c from nI_l (by omega), lw_bv _ _ h56 hc2, r_Scanner_init_43, nI_add]
      have := ih (j + 1) w (W.set w (W.getD w 0 * 256 + c)) (up2 g (t + 1) w (lN (W.getD w 0 * 256 + c))) hd2 (by omega) ok2.2 (by rw [List.length_set]; exact hW) (fun k hk => by
        rw [up2_i]
        by_cases e : k = w
        · rw [if_pos e, e, gd_s (by omega)]
        · rw [if_neg e, hg k hk, gd_n e])
      rw [er]
      refine wp_w this (fun v e w => ?_)
      obtain ⟨q1, g', q2, q3, q4⟩ := w
      exact ⟨q1, g', q2, fun a ha => by rw [q3 a ha, up2_a ha], q4⟩
theorem mkSc {h0 : MH} {t s0 v0 : Nat} (T0 : hT h0 = t + 1) (c0 : hC h0 t = 8) (w : StrW h0 s0 v0) (ht : 0 < t ∧ s0 < t ∧ v0 < t) : ∃ h', ev M_Scanner_init 0 0 [some (.ref t), none, none, none] [] h0 = some (none, h') ∧ hT h' = t + 2 ∧ hS h' ≤ hS h0 + 18 ∧ (∀ b, b < t → Se h0 h' b) ∧ hC h' t = 8 ∧ hR h' t 4 = some (t + 1) ∧ hC h' (t + 1) = 22 ∧ hN h' (t + 1) = 18 ∧ ∀ j, j < 18 → hL h' (t + 1) j = lN (KW j) := by
  suffices key : wp (ev M_Scanner_init 0 0 [some (.ref t), none, none, none] [] h0) (fun v h' => v = none ∧ hT h' = t + 2 ∧ hS h' ≤ hS h0 + 18 ∧ (∀ b, b < t → Se h0 h' b) ∧ hC h' t = 8 ∧ hR h' t 4 = some (t + 1) ∧ hC h' (t + 1) = 22 ∧ hN h' (t + 1) = 18 ∧ ∀ j, j < 18 → hL h' (t + 1) j = lN (KW j)) by
    obtain ⟨v, h', e, e2, r⟩ := key
    subst e2; exact ⟨h', e, r⟩
  rw [r_Scanner_init_0]
  refine wp_okN rfl (by decide) (wp_isC (by rw [(nw_e (by omega)).1]; exact c0) ?_)
  obtain ⟨S1, C1, N1, L1⟩ := arr_S (h := h0) (x := t) (s := 4) (tag := 22) (n := 18) (by omega)
  try dsimp only
  generalize sR (nw h0 22 18) t 4 (hT h0) = h1 at *
  rw [T0] at C1 N1 L1
  have c1 : hC h1 t = 8 := S1.2.2.1.2.1.trans c0
  have T1 : hT h1 = t + 2 := by have := S1.1; omega
  have r1 : hR h1 t 4 = some (t + 1) := by rw [S1.2.2.2, if_pos rfl, T0]
  have w1 : StrW h1 s0 v0 := w.q (S1.e _ (by omega) (by omega)) (S1.e _ (by omega) (by omega)) (S1.e _ (by omega) (by omega))
  rw [r_Scanner_init_9]
  have lp := sc_loop (t := t) w1 c1 r1 C1 N1 tx0 0 0 (List.replicate 18 0) (hL h1) rfl (by decide) sc_ok (by decide) (fun k hk => by
    rw [L1]
    have : (List.replicate 18 0).getD k 0 = 0 := by
      rw [List.getD_eq_getElem?_getD, List.getElem?_replicate]
      rw [if_pos hk]; rfl
    rw [this]; rfl)
  have eh : wL h1 (hL h1) = h1 := rfl
  rw [eh, sc_run] at lp
  refine wp_w lp (fun v e q => ?_)
  obtain ⟨q1, g', q2, q3, q4⟩ := q
  subst q2
  refine ⟨q1, T1, S1.2.1, fun b hb => ?_, c1, r1, C1, N1, q4⟩
  have e := S1.e b (by omega) (by omega)
  refine ⟨e.1, e.2.1, e.2.2.1, e.2.2.2.1, ?_⟩
  show g' b = hL h0 b
  rw [q3 b (by omega)]; exact e.2.2.2.2
theorem nwRd {h : MH} {s0 v0 : Nat} (w : StrW h s0 v0) (ht : 0 < hT h ∧ s0 < hT h ∧ v0 < hT h) : ∃ h', ev M_Reader_init 0 0 [some (.ref (hT h))] [] (nw h 6 6) = some (none, h') ∧ New h h' 3 33 ∧ hC h' (hT h) = 6 ∧ hR h' (hT h) 2 = some (hT h + 1) ∧ hC h' (hT h + 1) = 8 ∧ hR h' (hT h + 1) 4 = some (hT h + 2) ∧ hC h' (hT h + 2) = 22 ∧ hN h' (hT h + 2) = 18 ∧ (∀ j, j < 18 → hL h' (hT h + 2) j = lN (KW j)) ∧ hI h' (hT h) 0 = nI 0 ∧ hI h' (hT h) 1 = mI 1 := by
  obtain ⟨t, et⟩ : ∃ t, t = hT h := ⟨_, rfl⟩
  obtain ⟨h1, e1⟩ : ∃ h1, h1 = sI (nw h 6 6) t 1 (mI 1) := ⟨_, rfl⟩
  have T1 : hT h1 = t + 1 := by rw [e1, et]; rfl
  have s1 : hS h1 = hS h + 6 := by rw [e1]; rfl
  have c1 : hC h1 t = 6 := by rw [e1, et]; exact nw_C (n := 6)
  have b1 : ∀ b, b < t → Se h h1 b := fun b hb => by
    have e := nw_e (h := h) (t := 6) (n := 6) (b := b) (by omega)
    rw [e1]
    refine ⟨e.1, e.2.1, e.2.2.1, ?_, e.2.2.2.2⟩
    show up2 (hI (nw h 6 6)) t 1 (mI 1) b = hI h b
    rw [up2_a (by omega)]; exact e.2.2.2.1
  have i1 : hI h1 t 1 = mI 1 := by rw [e1]; exact up2_s
  have i0 : hI h1 t 0 = nI 0 := by
    rw [e1]
    show up2 (hI (nw h 6 6)) t 1 (mI 1) t 0 = nI 0
    rw [up2_k (by decide), et, nw_I]; rfl
  have n1 : ∀ b, b < t + 1 → Se h1 (nw h1 8 9) b := fun b hb => nw_e (by omega)
  have w1 : StrW (nw h1 8 9) s0 v0 := w.q ((b1 _ (by omega)).tr (n1 _ (by omega))) ((b1 _ (by omega)).tr (n1 _ (by omega))) ((b1 _ (by omega)).tr (n1 _ (by omega)))
  obtain ⟨h2, a2, d1, d2, d3, d4, d5, d6, d7, d8⟩ := mkSc (h0 := nw h1 8 9) (t := hT h1) (s0 := s0) (v0 := v0) rfl nw_C w1 (by omega)
  rw [T1] at d1 d3 d4 d5 d6 d7 d8
  have e2 : ∀ b, b < t + 1 → Se h1 h2 b := fun b hb => (n1 b hb).tr (d3 b hb)
  refine ⟨sR h2 t 2 (hT h1), ?_, ⟨?_, ?_, fun b hb => ?_⟩, ?_, ?_, ?_, ?_, ?_, ?_, ?_, ?_, ?_⟩
  · rw [r_Reader_init_0, ← et]
    refine wp_e (wp_isC (by rw [et]; exact nw_C) ?_)
    try dsimp only
    rw [← e1]
    refine wp_rVe a2 (wp_isC (by rw [(e2 t (by omega)).1]; exact c1) ?_)
    rw [r_Reader_init_11]
    exact wp_s ⟨rfl, rfl⟩
  · show hT h2 = _; omega
  · show hS h2 ≤ _
    have : hS (nw h1 8 9) = hS h1 + 9 := rfl
    omega
  · exact ((b1 b (by omega)).tr (e2 b (by omega))).tr (sR_e (by omega))
  · rw [← et]; exact (e2 t (by omega)).1.trans c1
  · rw [← et]
    show up2 (hR h2) t 2 (some (hT h1)) t 2 = some (t + 1)
    rw [up2_s, T1]
  · rw [← et]; exact d4
  · rw [← et]
    show up2 (hR h2) t 2 (some (hT h1)) (t + 1) 4 = some (t + 2)
    rw [up2_a (by omega)]; exact d5
  · rw [← et]; exact d6
  · rw [← et]; exact d7
  · rw [← et]; exact d8
  · rw [← et]; exact (congrFun (e2 t (by omega)).2.2.2.1 0).trans i0
  · rw [← et]; exact (congrFun (e2 t (by omega)).2.2.2.1 1).trans i1
