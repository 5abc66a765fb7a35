/-! The law's entry met: out of what is shown of the small machine. -/
theorem st_old {s : State} {args : Array Value} {b L : Nat} {xs : Nat → Int32} (hts : ∀ w ∈ lw_tbl, w.before args s = true) (hgv : (Jvm.Cond.and given_1 narrow_1).before args s = true) (hX : va_X b L xs s s.heap) (hbl : b < s.heap.size) :
    ∃ (s0 s1 v0 v1 : Nat) (fm : Option Nat), s0 < s.heap.size ∧ s1 < s.heap.size ∧ v0 < s.heap.size ∧ v1 < s.heap.size ∧ b ≠ s0 ∧ b ≠ s1 ∧ s0 ≠ s1 ∧ b ≠ v0 ∧ b ≠ v1 ∧ v0 ≠ v1 ∧ Old s.heap.size s (h00 s.heap.size b L xs s0 s1 v0 v1 fm) := by
  have hs := flat_of_before _ hgv
  have hA : ∀ a : Nat, a < s.heap.size → ¬ Ab s.heap.size a := fun a h => Nat.not_le.mpr h
  obtain ⟨adK, adV, hS, hev⟩ := vk_Sof (args := args) (s := s) (N := 2) (tm := stTm) (len := stLen) (byt := stByt) (A := Ab s.heap.size) (by decide) (fun i hi => hs _ (st_flat i hi).1) (fun i hi => hs _ (st_flat i hi).2.1) (fun i hi => hs _ (st_flat i hi).2.2.1) (fun i hi => hs _ (st_flat i hi).2.2.2)
    (fun i hi j hj => by
      match i, hi, hj with
      | 0, _, hj => exact hs _ (st_flat0 j hj)
      | 1, _, hj => exact hs _ (st_flat1 j hj))
    (fun i j hi hj hne => by
      match i, j, hi, hj, hne with
      | 0, 0, _, _, h => exact absurd rfl h
      | 1, 1, _, _, h => exact absurd rfl h
      | 0, 1, _, _, _ => exact st_flat2.imp (hs _) (hs _)
      | 1, 0, _, _, _ => exact st_flat2.symm.imp (hs _) (hs _)) hA
  obtain ⟨z1, z2, z3, z4⟩ := hS.1 0 (by decide)
  obtain ⟨y1, y2, y3, y4⟩ := hS.1 1 (by decide)
  have hne01 : adK 0 ≠ adK 1 := fun h => by
    have := hS.2 0 1 (by decide) (by decide) h
    cases this
  have lt_O : ∀ {t : Nat}, va_O "java/lang/String" t (Ab s.heap.size) s s.heap → t < s.heap.size := fun h => by
    obtain ⟨cell, q, -⟩ := h
    exact (Array.getElem?_eq_some_iff.mp q).1
  have lt_T : ∀ {t N : Nat} {f : Nat → Value}, va_T .byte t N f (Ab s.heap.size) s s.heap → t < s.heap.size := fun h => by
    obtain ⟨cell, q, -⟩ := h
    exact (Array.getElem?_eq_some_iff.mp q).1
  have neO : ∀ {t v : Nat}, va_OF "java/lang/String" "value" "[B" (.ref v) t (Ab s.heap.size) s s.heap → b ≠ t := fun h e => by
    obtain ⟨cf, k, i, f, cell, h1, h2, h3, h4, h5, h6⟩ := h
    obtain ⟨scr, g1, g2, g3, g4, g5⟩ := hX
    rw [e] at g1
    cases g1.symm.trans h3
    have hlt : f.slot < L := by rw [← g4]; exact (Array.getElem?_eq_some_iff.mp h5).1
    have := (g5 _ hlt).symm.trans h5
    cases this
  have neT : ∀ {t N : Nat} {f : Nat → Value}, va_T .byte t N f (Ab s.heap.size) s s.heap → b ≠ t := fun h e => by
    obtain ⟨cell, h1, h2, -⟩ := h
    obtain ⟨scr, g1, g2, -⟩ := hX
    rw [e] at g1
    cases g1.symm.trans h1
    obtain ⟨-, k1, e1, c1, e2⟩ := h2
    obtain ⟨-, k2, e3, c2, e4⟩ := g2
    cases e1.symm.trans e3
    have := e2.symm.trans e4
    cases this
  have hv01 : adV 0 ≠ adV 1 := fun e => by
    obtain ⟨cell, h1, -, -, -, h5, -⟩ := z4
    obtain ⟨cell', g1, -, -, -, g5, -⟩ := y4
    rw [e] at h1
    cases h1.symm.trans g1
    have := h5.symm.trans g5
    revert this
    decide
  obtain ⟨fm, hfm⟩ : ∃ fm : Option Nat, va_Z "jdk/internal/util/Preconditions" "SIOOBE_FORMATTER" "Ljava/util/function/BiFunction;" (va_rf fm) (Ab s.heap.size) s s.heap := by
    rcases va_Zqof (A := Ab s.heap.size) (hts (.laysStatic "jdk/internal/util/Preconditions" "SIOOBE_FORMATTER" "Ljava/util/function/BiFunction;") (wd_mem (j := 1) (i := 179) (by decide +kernel))) (hts _ (wd_mem (j := 1) (i := 9) (by decide +kernel))) (hs _ st_flat3.2) hA with h | ⟨t, h⟩
    · exact ⟨none, h⟩
    · exact ⟨some t, h⟩
  have hcs := va_Zof (A := Ab s.heap.size) (hts (.laysStatic "java/lang/String" "COMPACT_STRINGS" "Z") (wd_mem (j := 1) (i := 163) (by decide +kernel))) (hts _ (wd_mem (j := 1) (i := 7) (by decide +kernel))) (va_eqi (hs _ st_flat3.1)) hA
  have hR0 : vk_R "PairTree$Scanner" 13 "levels rel has is keep drift draw or less and then back same all not row column many " (adK 0) s := vk_R.of (A := args) (hts _ (wd_mem (j := 1) (i := 153) (by decide +kernel))) (hev 0 (by decide))
  have hR1 : vk_R "PairTree$Scanner" 76 ";()<>=+-*/%" (adK 1) s := vk_R.of (A := args) (hts _ (wd_mem (j := 3) (i := 136) (by decide +kernel))) (hev 1 (by decide))
  have b0 := neO z3
  have b1 := neO y3
  have c0 := neT z4
  have c1 := neT y4
  refine ⟨adK 0, adK 1, adV 0, adV 1, fm, lt_O z1, lt_O y1, lt_T z4, lt_T y4, b0, b1, hne01, c0, c1, hv01, ?_⟩
  generalize hbase : s.heap.size = base at *
  refine ⟨by omega, fun a ha => ?_, fun a ha hc => ?_, fun a ha hc => ?_, fun a ha hc => ?_, fun r hr => ?_, fun r hr => ?_, hcs, hfm⟩
  · have hc : hC (h00 base b L xs (adK 0) (adK 1) (adV 0) (adV 1) fm) a = (if a = b then 99 else if a = adK 0 ∨ a = adK 1 then 30 else if a = adV 0 ∨ a = adV 1 then 31 else 0) := rfl
    rw [hc]
    split
    · right; right; right; rfl
    · split
      · right; left; rfl
      · split
        · right; right; left; rfl
        · left; rfl
  · have hc : (if a = b then 99 else if a = adK 0 ∨ a = adK 1 then 30 else if a = adV 0 ∨ a = adV 1 then 31 else 0) = 99 := hc
    have e : a = b := by
      by_cases e : a = b
      · exact e
      · exfalso
        rw [if_neg e] at hc
        split at hc
        · cases hc
        · split at hc <;> cases hc
    subst e
    have e1 : hN (h00 base a L xs (adK 0) (adK 1) (adV 0) (adV 1) fm) a = L := if_pos rfl
    have e2 : hI (h00 base a L xs (adK 0) (adK 1) (adV 0) (adV 1) fm) a = xs := funext fun k => if_pos rfl
    rw [e1, e2]
    exact hX
  · have hc : (if a = b then 99 else if a = adK 0 ∨ a = adK 1 then 30 else if a = adV 0 ∨ a = adV 1 then 31 else 0) = 30 := hc
    have e : a = adK 0 ∨ a = adK 1 := by
      by_cases e : a = adK 0 ∨ a = adK 1
      · exact e
      · exfalso
        rw [if_neg e] at hc
        split at hc
        · cases hc
        · split at hc <;> cases hc
    have eI : hI (h00 base b L xs (adK 0) (adK 1) (adV 0) (adV 1) fm) a 1 = 0 := by
      show (if a = b then xs 1 else if a = adV 0 ∧ 100 ≤ 1 then nI (tx0.getD (1 - 100) 0) else if a = adV 1 ∧ 100 ≤ 1 then nI (tx1.getD (1 - 100) 0) else 0) = 0
      rw [if_neg (by omega), if_neg (by omega), if_neg (by omega)]
    rw [eI]
    rcases e with e | e
    · have eR : hR (h00 base b L xs (adK 0) (adK 1) (adV 0) (adV 1) fm) a 0 = some (adV 0) := by
        show (if a = 0 ∧ 0 = 1000 then some (adK 0) else if a = 0 ∧ 0 = 1001 then some (adK 1) else if a = 0 ∧ 0 = 1002 then fm else if 0 = 77 ∧ (a = adV 0 ∨ a = adV 1) then some 1 else if a = adK 0 ∧ 0 = 0 then some (adV 0) else if a = adK 1 ∧ 0 = 0 then some (adV 1) else none) = _
        rw [if_neg (by omega), if_neg (by omega), if_neg (by omega), if_neg (by omega), if_pos ⟨e, rfl⟩]
      rw [eR, e]
      exact ⟨z3, z2, z1⟩
    · have eR : hR (h00 base b L xs (adK 0) (adK 1) (adV 0) (adV 1) fm) a 0 = some (adV 1) := by
        show (if a = 0 ∧ 0 = 1000 then some (adK 0) else if a = 0 ∧ 0 = 1001 then some (adK 1) else if a = 0 ∧ 0 = 1002 then fm else if 0 = 77 ∧ (a = adV 0 ∨ a = adV 1) then some 1 else if a = adK 0 ∧ 0 = 0 then some (adV 0) else if a = adK 1 ∧ 0 = 0 then some (adV 1) else none) = _
        rw [if_neg (by omega), if_neg (by omega), if_neg (by omega), if_neg (by omega), if_neg (by omega), if_pos ⟨e, rfl⟩]
      rw [eR, e]
      exact ⟨y3, y2, y1⟩
  · have hc : (if a = 0 ∧ 77 = 1000 then some (adK 0) else if a = 0 ∧ 77 = 1001 then some (adK 1) else if a = 0 ∧ 77 = 1002 then fm else if 77 = 77 ∧ (a = adV 0 ∨ a = adV 1) then some 1 else if a = adK 0 ∧ 77 = 0 then some (adV 0) else if a = adK 1 ∧ 77 = 0 then some (adV 1) else none) = some 1 := hc
    rw [if_neg (by omega), if_neg (by omega), if_neg (by omega)] at hc
    have e : a = adV 0 ∨ a = adV 1 := by
      by_cases e : a = adV 0 ∨ a = adV 1
      · exact e
      · exfalso
        rw [if_neg (fun q => e q.2), if_neg (by omega), if_neg (by omega)] at hc
        cases hc
    have gm : ∀ (l : List Nat) (j : Nat), (l.map nI).getD j 0 = nI (l.getD j 0) := by
      intro l j
      rw [List.getD_eq_getElem?_getD, List.getD_eq_getElem?_getD, List.getElem?_map]
      cases l[j]? <;> rfl
    have hab : a ≠ b := by omega
    rcases e with e | e
    · have eN : hN (h00 base b L xs (adK 0) (adK 1) (adV 0) (adV 1) fm) a = 85 := by
        show (if a = b then L else if a = adV 0 then 85 else if a = adV 1 then 11 else 0) = 85
        rw [if_neg hab, if_pos e]
      have eI : (fun j => Value.int (hI (h00 base b L xs (adK 0) (adK 1) (adV 0) (adV 1) fm) a (100 + j))) = fun j => .int ((stByt.getD 0 []).getD j 0) := by
        funext j
        have : hI (h00 base b L xs (adK 0) (adK 1) (adV 0) (adV 1) fm) a (100 + j) = nI (tx0.getD j 0) := by
          show (if a = b then xs (100 + j) else if a = adV 0 ∧ 100 ≤ 100 + j then nI (tx0.getD (100 + j - 100) 0) else if a = adV 1 ∧ 100 ≤ 100 + j then nI (tx1.getD (100 + j - 100) 0) else 0) = _
          rw [if_neg hab, if_pos ⟨e, by omega⟩, Nat.add_sub_cancel_left]
        rw [this]
        exact congrArg Value.int (gm tx0 j).symm
      rw [eN, eI, e]
      exact z4
    · have hn : a ≠ adV 0 := fun q => hv01 (q.symm.trans e)
      have eN : hN (h00 base b L xs (adK 0) (adK 1) (adV 0) (adV 1) fm) a = 11 := by
        show (if a = b then L else if a = adV 0 then 85 else if a = adV 1 then 11 else 0) = 11
        rw [if_neg hab, if_neg hn, if_pos e]
      have eI : (fun j => Value.int (hI (h00 base b L xs (adK 0) (adK 1) (adV 0) (adV 1) fm) a (100 + j))) = fun j => .int ((stByt.getD 1 []).getD j 0) := by
        funext j
        have : hI (h00 base b L xs (adK 0) (adK 1) (adV 0) (adV 1) fm) a (100 + j) = nI (tx1.getD j 0) := by
          show (if a = b then xs (100 + j) else if a = adV 0 ∧ 100 ≤ 100 + j then nI (tx0.getD (100 + j - 100) 0) else if a = adV 1 ∧ 100 ≤ 100 + j then nI (tx1.getD (100 + j - 100) 0) else 0) = _
          rw [if_neg hab, if_neg (fun q => hn q.1), if_pos ⟨e, by omega⟩, Nat.add_sub_cancel_left]
        rw [this]
        exact congrArg Value.int (gm tx1 j).symm
      rw [eN, eI, e]
      exact y4
  · have hr : some (adK 0) = some r := hr
    cases hr
    exact hR0
  · have hr : some (adK 1) = some r := hr
    cases hr
    exact hR1
/-- the law's entry, out of the small machine's run -/
theorem whole_of (P : PureLaw) (hmt : Mts) (hoks : Oks) {p : Program} {e : Env} {s : State} {m : MethodId} {below : List Frame} {meth : Method} {c : Code} (l : Launch) {b L : Nat} {xs : Nat → Int32} (hL : L ≤ 3072) (C0 : lw_At p s m meth c b L xs) : W p l e room_1 s m #[Value.ref b] below meth c s.heap [] 0 0 (lw_Z below #[Value.ref b] s) (entryFrame m ([Value.ref b] : List Value).toArray 4) := by
  obtain ⟨hx, hb, hr, hml, hown, hts, hX, hbl, hlocks, hgv⟩ := id C0
  obtain ⟨s0, s1, v0, v1, fm, q0, q1, q2, q3, d1, d2, d3, d4, d5, d6, hold⟩ := st_old hts hgv hX hbl
  have hgt : ∀ w ∈ gtb, w.before #[Value.ref b] s = true := fun w hw => hts w (List.mem_filter.mp hw).1
  obtain ⟨D, hD⟩ := st_known hgt
  obtain ⟨dA, hdA⟩ := st_arrays hts
  have hK : Kx D dA s := ⟨⟨hD, hdA⟩, fun own i y host hm => va_Nw.of rfl (hts _ hm), va_AO.of (hts _ (wd_mem (j := 1) (i := 56) (by decide +kernel))), va_AO.of (hts _ (wd_mem (j := 2) (i := 78) (by decide +kernel))), hts (.arrayOver (.array .int)) (wd_mem (j := 2) (i := 52) (by decide +kernel))⟩
  obtain ⟨h', hev, hTl, hSl⟩ := P s.heap.size b L xs s0 s1 v0 v1 fm hL hbl q0 q1 q2 q3 d1 d2 d3 d4 d5 d6
  have g := ev_good hmt hoks hev _ rfl
  have g1 := g.1
  have g2 := g.2.1
  have e1 : hT (h00 s.heap.size b L xs s0 s1 v0 v1 fm) = s.heap.size := rfl
  have e2 : hS (h00 s.heap.size b L xs s0 s1 v0 v1 fm) = 0 := rfl
  rw [e1] at g1
  have hHR : HRn s.heap.size D dA (h00 s.heap.size b L xs s0 s1 v0 v1 fm) s.heap := by
    refine ⟨rfl, fun a ha hc => ?_⟩
    exfalso
    have hc : (if a = b then 99 else if a = s0 ∨ a = s1 then 30 else if a = v0 ∨ a = v1 then 31 else 0) ≠ 0 := hc
    rw [if_neg (by omega), if_neg (by omega), if_neg (by omega)] at hc
    exact hc rfl
  rw [lg_entry_eq]
  have w := g.2.2 _ rfl p l e room_1 s m #[Value.ref b] below meth c s.heap.size D dA s.heap [] 0 0 (hT h' - s.heap.size) (hS h') _ (h00 s.heap.size b L xs s0 s1 v0 v1 fm) ⟨hx, hb, hr, hml, hown, hgt, hK, hlocks, fun q => absurd q (by decide), Nat.le_of_ble_eq_true rfl, Nat.le_of_ble_eq_true rfl, Nat.le_refl _, Nat.zero_le _⟩ (LR.entry [Value.ref b] (n := 4) (Nat.le_of_ble_eq_true rfl)) hHR hold (Sb.rf _ _) va_S.rf (by rw [e1]; omega) (by rw [e2]) (by show _ ≤ 600000; omega) hSl
  intro T hT' X
  obtain ⟨t, a1, o, b1, b2, b3, L', b4, b5⟩ := w T hT' X
  obtain ⟨ho, -⟩ := b3
  refine ⟨t, a1, o, b1, b2, ho, b4.1, b4.2.1, ?_⟩
  exact b4.2.2.weaken (fun y hy hlt => absurd hlt (Nat.not_lt.mpr (b5 y hy))) (by omega) hSl
