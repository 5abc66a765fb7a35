/-! The reader: lines, the whole text. -/
theorem and_bit {a j : Nat} : a &&& 2 ^ j = 0 ↔ a.testBit j = false := by
  constructor
  · intro z
    have := congrArg (fun x => Nat.testBit x j) z
    simp only [Nat.testBit_and, Nat.testBit_two_pow_self, Bool.and_true, Nat.zero_testBit] at this
    exact this
  · intro z
    apply Nat.eq_of_testBit_eq
    intro i
    rw [Nat.testBit_and, Nat.testBit_two_pow, Nat.zero_testBit]
    by_cases q : j = i
    · rw [← q, z]; rfl
    · rw [decide_eq_false q, Bool.and_false]
theorem zF_L {b : Nat → Nat} {len c : Nat} {s : Ps} : yL (zF b len c s) = yL s := by
  unfold zF
  by_cases q : yF s = 0
  · rw [if_pos q]; rfl
  · rw [if_neg q]
section
variable {h : MH} {R p tp s1 v1 : Nat} {f0 : Nat → Nat → Int32} {g0 : Nat → Nat → Int64} {b : Nat → Nat} {len m : Nat} {s : Ps} {hp : MH}
theorem rd_once {j : Nat} (D : RDS h R p tp s1 v1) (X : RX h R p tp s1 v1 f0 g0 b len m s hp) (hk : kq b len s = 100 + j) (hj : j < 7) : wp (ev M_Reader_startLineOnce 0 0 [some (.ref R), none] [] hp) (fun r h' => r = none ∧ RX h R p tp s1 v1 f0 g0 b len m (zSl b len j s) h') := by
  obtain ⟨a1, a2, a3, a4, a5, a6, a7, a8, a9⟩ := RX_sh D X
  have hl : yL s < 128 := (RX_B X).1.2.2.2.1
  have u1 := (RX_ln (x := 0) D X (by decide)).1
  have hp7 : 2 ^ j < 2 ^ 7 := Nat.pow_lt_pow_right (by decide) hj
  have hor : yL s ||| 2 ^ j < 128 := Nat.or_lt_two_pow (n := 7) hl hp7
  have fin : ∀ t hp', yL t = yL s → RX h R p tp s1 v1 f0 g0 b len m t hp' → wp (ev M_Reader_startLineOnce 0 17 [some (.ref R), some (.int (nI (2 ^ j)))] [] hp') (fun r h' => r = none ∧ RX h R p tp s1 v1 f0 g0 b len m (zS b len (zL t (yL s ||| 2 ^ j))) h') := by
    intro t hp' et X
    obtain ⟨a1, a2, a3, a4, a5, a6, a7, a8, a9⟩ := RX_sh D X
    obtain ⟨u1, X1⟩ := RX_ln (x := yL s ||| 2 ^ j) D X hor
    rw [r_Reader_startLineOnce_17]
    refine wp_isC a1 (wp_isC a1 ?_)
    rw [u1, et, nm_or]
    generalize sI hp' R 4 (nI (yL s ||| 2 ^ j)) = hq at X1
    obtain ⟨b1, b2, b3, b4, b5, b6, b7, b8, b9⟩ := RX_sh D X1
    refine wp_isC b1 (wp_nnR b2 (wp_isC b4 (wp_rV (rd_step D X1) ?_)))
    rintro v h3 ⟨e1, X3⟩
    exact ⟨e1, wp_s ⟨rfl, X3⟩⟩
  rw [r_Reader_startLineOnce_0]
  refine wp_isC a1 (wp_nnR a2 (wp_isC a4 (wp_isC a1 ?_)))
  rw [a8, u1, hk, pk_sub (by omega), Nat.add_sub_cancel_left, nm_one (by omega), nm_and]
  have hle : yL s &&& 2 ^ j < 2 ^ 31 := Nat.lt_of_le_of_lt Nat.and_le_left (by omega)
  unfold zSl
  by_cases q : (yL s).testBit j = true
  · rw [if_pos q]
    refine wp_bf (by rw [nI_eq hle (by decide), and_bit, q]; decide) (wp_isC a1 (wp_rV (rd_fail D X (by decide) (by decide)) ?_))
    rintro v h3 ⟨e1, X3⟩
    exact ⟨e1, fin _ _ zF_L X3⟩
  · rw [if_neg q]
    exact wp_bt (by rw [nI_eq hle (by decide), and_bit]; exact (Bool.not_eq_true _).mp q) (fin s hp rfl X)
theorem RX_lv {x : Nat} (D : RDS h R p tp s1 v1) (X : RX h R p tp s1 v1 f0 g0 b len 0 s hp) (h1 : 1 ≤ x) (h4 : x ≤ 4) : RX h R p tp s1 v1 f0 g0 b len 0 (zN s (uLv (yN s) x)) (sI hp p 0 (nI x)) := by
  obtain ⟨f, g, rfl, x1, x2, x3, x4, x5, x6, x7, x8⟩ := X
  obtain ⟨y0, y1, y2, y3, y4, y5, y6, y7, y8, y9, y10⟩ := id x3
  obtain ⟨b1, b2, b3, b4, b5, b6, b7, b8, b9, b10, b11⟩ := id x5
  rw [wI_s]
  refine RX_pl D x1 x2 x4 x6 x7 x8 (fun a ha => by rw [up2_a (by omega)]) ?_ ⟨h1, h4, b3, b4, b5, b6, b7, b8, b9, b10, fun k hk => by omega⟩
  · refine ⟨?_, ?_, ?_, ?_, ?_, ?_, ?_, ?_, ⟨?_, ?_⟩, ?_, y10⟩
    · exact up2_s
    · simp (disch := omega) only [wI_I, wI_s, nI_add, pk_mul, nI_ltI, nI_leI, nI_eq, nI_clamp, nm_or, nm_and, nm_xor, nm_nd, nm_one, nm_shr, nm_b2, Bool.false_eq_true, Bool.true_eq_false, not_false_eq_true, not_true_eq_false, reduceCtorEq, up2_a, up2_k, up2_s, gw_o]; exact y1
    · simp (disch := omega) only [wI_I, wI_s, nI_add, pk_mul, nI_ltI, nI_leI, nI_eq, nI_clamp, nm_or, nm_and, nm_xor, nm_nd, nm_one, nm_shr, nm_b2, Bool.false_eq_true, Bool.true_eq_false, not_false_eq_true, not_true_eq_false, reduceCtorEq, up2_a, up2_k, up2_s, gw_o]; exact y2
    · simp (disch := omega) only [wI_I, wI_s, nI_add, pk_mul, nI_ltI, nI_leI, nI_eq, nI_clamp, nm_or, nm_and, nm_xor, nm_nd, nm_one, nm_shr, nm_b2, Bool.false_eq_true, Bool.true_eq_false, not_false_eq_true, not_true_eq_false, reduceCtorEq, up2_a, up2_k, up2_s, gw_o]; exact y3
    · simp (disch := omega) only [wI_I, wI_s, nI_add, pk_mul, nI_ltI, nI_leI, nI_eq, nI_clamp, nm_or, nm_and, nm_xor, nm_nd, nm_one, nm_shr, nm_b2, Bool.false_eq_true, Bool.true_eq_false, not_false_eq_true, not_true_eq_false, reduceCtorEq, up2_a, up2_k, up2_s, gw_o]; exact y4
    · simp (disch := omega) only [wI_I, wI_s, nI_add, pk_mul, nI_ltI, nI_leI, nI_eq, nI_clamp, nm_or, nm_and, nm_xor, nm_nd, nm_one, nm_shr, nm_b2, Bool.false_eq_true, Bool.true_eq_false, not_false_eq_true, not_true_eq_false, reduceCtorEq, up2_a, up2_k, up2_s, gw_o]; exact y5
    · simp (disch := omega) only [wI_I, wI_s, nI_add, pk_mul, nI_ltI, nI_leI, nI_eq, nI_clamp, nm_or, nm_and, nm_xor, nm_nd, nm_one, nm_shr, nm_b2, Bool.false_eq_true, Bool.true_eq_false, not_false_eq_true, not_true_eq_false, reduceCtorEq, up2_a, up2_k, up2_s, gw_o]; exact y6
    · intro i c hc; simp (disch := omega) only [wI_I, wI_s, nI_add, pk_mul, nI_ltI, nI_leI, nI_eq, nI_clamp, nm_or, nm_and, nm_xor, nm_nd, nm_one, nm_shr, nm_b2, Bool.false_eq_true, Bool.true_eq_false, not_false_eq_true, not_true_eq_false, reduceCtorEq, up2_a, up2_k, up2_s, gw_o]; exact y7 i c hc
    · simp (disch := omega) only [wI_I, wI_s, nI_add, pk_mul, nI_ltI, nI_leI, nI_eq, nI_clamp, nm_or, nm_and, nm_xor, nm_nd, nm_one, nm_shr, nm_b2, Bool.false_eq_true, Bool.true_eq_false, not_false_eq_true, not_true_eq_false, reduceCtorEq, up2_a, up2_k, up2_s, gw_o]; exact y8.1
    · intro i c hc; simp (disch := omega) only [wI_I, wI_s, nI_add, pk_mul, nI_ltI, nI_leI, nI_eq, nI_clamp, nm_or, nm_and, nm_xor, nm_nd, nm_one, nm_shr, nm_b2, Bool.false_eq_true, Bool.true_eq_false, not_false_eq_true, not_true_eq_false, reduceCtorEq, up2_a, up2_k, up2_s, gw_o]; exact y8.2 i c hc
    · intro k hk; omega
theorem rd_levels (D : RDS h R p tp s1 v1) (X : RX h R p tp s1 v1 f0 g0 b len (vNr (yN s)) s hp) (hk : kq b len s = 100) : wp (ev M_Reader_readLevels 0 0 [some (.ref R)] [] hp) (fun r h' => r = none ∧ RX h R p tp s1 v1 f0 g0 b len (vNr (yN s)) (zLv b len s) h') := by
  obtain ⟨a1, a2, a3, a4, a5, a6, a7, a8, a9⟩ := RX_sh D X
  have h5 : vNr (yN s) ≤ 5 := (RX_B X).2.1.2.2.2.1
  have e : hI hp p 1 = nI (vNr (yN s)) := by obtain ⟨f, g, rfl, x1, x2, x3, -⟩ := X; exact x3.2.1
  rw [r_Reader_readLevels_0]
  refine wp_isC a1 (wp_nnR a3 (wp_isC a5 ?_))
  rw [e]
  unfold zLv
  by_cases q : 0 < vNr (yN s)
  · rw [if_pos q]
    refine wp_bt (by rw [nI_ltI (by decide) (by omega)]; exact q) (wp_isC a1 (wp_rV (rd_fail D X (by decide) (by decide)) ?_))
    rintro v h3 ⟨e1, X3⟩
    exact ⟨e1, wp_s ⟨rfl, X3⟩⟩
  · rw [if_neg q]
    refine wp_bf (by rw [nI_ltI (by decide) (by omega)]; exact q) (wp_isC a1 (wp_rV (rd_once (j := 0) D X hk (by decide)) ?_))
    rintro v h1 ⟨e1, X1⟩
    refine ⟨e1, ?_⟩
    obtain ⟨b1, b2, b3, b4, b5, b6, b7, b8, b9⟩ := RX_sh D X1
    refine wp_isC b1 (wp_nnR b3 (wp_isC b1 (wp_rI (rd_num D X1 (by decide) (by decide)) ?_)))
    rintro v h2 ⟨e1, X2⟩
    refine ⟨_, e1, ?_⟩
    obtain ⟨b1, b2, b3, b4, b5, b6, b7, b8, b9⟩ := RX_sh D X2
    have hz := zM_le (b := b) (len := len) (s := zSl b len 0 s) (show 1 ≤ 4 by decide)
    have e0 : vNr (yN s) = 0 := by omega
    rw [e0] at X2 ⊢
    exact wp_isC b5 (wp_s ⟨rfl, RX_lv D X2 hz.1 hz.2⟩)
/-- what stays between two lines -/
theorem zLn_k : NMB (yN s) → (kq b len s ≠ 101 → vNr (yN (zLn b len s)) = vNr (yN s) ∧ NMB (yN (zLn b len s))) := by
  intro hn q1
  have key : ∀ t : Ps, vNm (yN t) = vNm (yN s) → vNr (yN t) = vNr (yN s) → vNr (yN t) = vNr (yN s) ∧ NMB (yN t) := fun t e1 e2 => ⟨e2, fun k hk => by rw [e1]; exact hn k (by rw [e2] at hk; exact hk)⟩
  have kk : ∀ t : Ps, Keep s t → vNr (yN t) = vNr (yN s) ∧ NMB (yN t) := fun t k => key t k.1 k.2.1
  unfold zLn
  by_cases q0 : kq b len s = 100
  · rw [if_pos q0]
    unfold zLv
    by_cases z : 0 < vNr (yN s)
    · rw [if_pos z]; exact kk _ kpF
    · rw [if_neg z]
      have k : Keep s (zM b len 1 4 (zSl b len 0 s)).2 := kpSl.tr kpM
      generalize zM b len 1 4 (zSl b len 0 s) = u at k
      exact key _ k.1 k.2.1
  rw [if_neg q0, if_neg q1]
  by_cases q4 : kq b len s = 104
  · rw [if_pos q4]
    have k : Keep s ((zD b len 7).2 (zSl b len 4 s)) := kpSl.tr ((kpD 7).2.1 _)
    exact kk _ k
  rw [if_neg q4]
  by_cases q5 : kq b len s = 105
  · rw [if_pos q5]
    unfold zDr
    have k : Keep s (zM b len 0 100 (zSl b len 5 s)).2 := kpSl.tr kpM
    generalize zM b len 0 100 (zSl b len 5 s) = u at k
    exact key _ k.1 k.2.1
  rw [if_neg q5]
  by_cases q6 : kq b len s = 106
  · rw [if_pos q6]
    unfold zDw
    have k : Keep s (zM b len 0 999 (zSl b len 6 s)).2 := kpSl.tr kpM
    generalize zM b len 0 999 (zSl b len 6 s) = u at k
    exact key _ k.1 k.2.1
  rw [if_neg q6]; exact kk _ kpF
theorem rd_lines (D : RDS h R p tp s1 v1) : ∀ k i s hp, i + k = 1600 → RX h R p tp s1 v1 f0 g0 b len (vNr (yN s)) s hp → NMB (yN s) → wp (ev M_Reader_read 0 26 [some (.ref R), none, none, none, some (.int (nI i))] [] hp) (fun r h' => r = some (.int (nI (decide (yF (zLs b len k s) = 0)).toNat)) ∧ RX h R p tp s1 v1 f0 g0 b len (vNr (yN (zLs b len k s))) (zLs b len k s) h' ∧ NMB (yN (zLs b len k s))) := by
  have fin : ∀ s hp, RX h R p tp s1 v1 f0 g0 b len (vNr (yN s)) s hp → NMB (yN s) → wp (ev M_Reader_read 0 84 [some (.ref R), none, none, none, none] [] hp) (fun r h' => r = some (.int (nI (decide (yF s = 0)).toNat)) ∧ RX h R p tp s1 v1 f0 g0 b len (vNr (yN s)) s h' ∧ NMB (yN s)) := by
    intro s hp X hn
    obtain ⟨a1, a2, a3, a4, a5, a6, a7, a8, a9⟩ := RX_sh D X
    have h5 : yF s ≤ 5 := (RX_B X).1.2.1
    rw [r_Reader_read_84]
    refine wp_isC a1 ?_
    rw [a9]
    by_cases q : yF s = 0
    · rw [decide_eq_true q]
      exact wp_bt (by rw [q]) (wp_isZ (by decide) (wp_s ⟨rfl, X, hn⟩))
    · rw [decide_eq_false q]
      exact wp_bf (by rw [nI_eq (by omega) (by decide)]; exact q) (wp_isZ (by decide) (wp_s ⟨rfl, X, hn⟩))
  intro k
  induction k with
  | zero =>
    intro i s hp hi X hn
    rw [r_Reader_read_26]
    exact wp_bf (by rw [nI_ltI (by omega) (by decide)]; omega) (fin s hp X hn)
  | succ k ih =>
    intro i s hp hi X hn
    obtain ⟨a1, a2, a3, a4, a5, a6, a7, a8, a9⟩ := RX_sh D X
    have h5 : yF s ≤ 5 := (RX_B X).1.2.1
    have r78 : ∀ t hp', RX h R p tp s1 v1 f0 g0 b len (vNr (yN t)) t hp' → NMB (yN t) → wp (ev M_Reader_read 0 78 [some (.ref R), none, none, none, some (.int (nI i))] [] hp') (fun r h' => r = some (.int (nI (decide (yF (zLs b len k (zE b len 59 t)) = 0)).toNat)) ∧ RX h R p tp s1 v1 f0 g0 b len (vNr (yN (zLs b len k (zE b len 59 t)))) (zLs b len k (zE b len 59 t)) h' ∧ NMB (yN (zLs b len k (zE b len 59 t)))) := by
      intro t hp' X hn
      obtain ⟨a1, a2, a3, a4, a5, a6, a7, a8, a9⟩ := RX_sh D X
      rw [r_Reader_read_78]
      refine wp_isC a1 (wp_rV (rd_expect D X (by decide)) ?_)
      rintro v h3 ⟨e1, X3⟩
      refine ⟨e1, ?_⟩
      rw [nI_add]
      have ke : Keep t (zE b len 59 t) := kpE
      exact ih (i + 1) _ _ (by omega) (by rw [ke.2.1]; exact X3) (NMs_k _ _ ke hn)
    rw [r_Reader_read_26]
    refine wp_bt (by rw [nI_ltI (by omega) (by decide)]; omega) (wp_isC a1 ?_)
    rw [a9]
    show wp _ (fun r h' => r = some (.int (nI (decide (yF (if yF s = 0 ∧ kq b len s ≠ 2 then zLs b len k (zE b len 59 (zLn b len s)) else s) = 0)).toNat)) ∧ RX h R p tp s1 v1 f0 g0 b len (vNr (yN (if yF s = 0 ∧ kq b len s ≠ 2 then zLs b len k (zE b len 59 (zLn b len s)) else s))) (if yF s = 0 ∧ kq b len s ≠ 2 then zLs b len k (zE b len 59 (zLn b len s)) else s) h' ∧ NMB (yN (if yF s = 0 ∧ kq b len s ≠ 2 then zLs b len k (zE b len 59 (zLn b len s)) else s)))
    by_cases q : yF s = 0
    · refine wp_bt (by rw [q]) (wp_isC a1 (wp_nnR a2 (wp_isC a4 ?_)))
      rw [a8]
      by_cases q2 : kq b len s = 2
      · rw [if_neg (fun z => z.2 q2)]
        exact wp_bt (by rw [q2]) (fin s hp X hn)
      rw [if_pos ⟨q, q2⟩]
      refine wp_bf (by rw [kq_eq (by decide)]; exact q2) (wp_isC a1 (wp_nnR a2 (wp_isC a4 ?_)))
      rw [a8]
      have r78' : ∀ hp', RX h R p tp s1 v1 f0 g0 b len (vNr (yN (zLn b len s))) (zLn b len s) hp' → NMB (yN (zLn b len s)) → _ := fun hp' => r78 (zLn b len s) hp'
      by_cases q0 : kq b len s = 100
      · have ez : zLn b len s = zLv b len s := if_pos q0
        obtain ⟨e1, e2⟩ := zLn_k (b := b) (len := len) hn (by omega)
        refine wp_bt (by rw [q0]) (wp_isC a1 (wp_rV (rd_levels D X q0) ?_))
        rintro v h3 ⟨g1, X3⟩
        exact ⟨g1, r78' _ (by rw [e1, ez]; exact X3) e2⟩
      refine wp_bf (by rw [kq_eq (by decide)]; exact q0) ?_
      by_cases q1 : kq b len s = 101
      · have ez : zLn b len s = zRl b len s := by unfold zLn; rw [if_neg q0, if_pos q1]
        refine wp_bt (by rw [q1]) (wp_isC a1 (wp_rV (rd_rel D X hn) ?_))
        rintro v h3 ⟨g1, X3, n3⟩
        exact ⟨g1, r78' _ (by rw [ez]; exact X3) (by rw [ez]; exact n3)⟩
      obtain ⟨e1, e2⟩ := zLn_k (b := b) (len := len) hn q1
      refine wp_bf (by rw [kq_eq (by decide)]; exact q1) ?_
      have failing : kq b len s ≠ 104 → kq b len s ≠ 105 → kq b len s ≠ 106 → wp (ev M_Reader_read 0 74 [some (.ref R), none, none, none, some (.int (nI i))] [] hp) (fun r h' => r = some (.int (nI (decide (yF (zLs b len k (zE b len 59 (zLn b len s))) = 0)).toNat)) ∧ RX h R p tp s1 v1 f0 g0 b len (vNr (yN (zLs b len k (zE b len 59 (zLn b len s))))) (zLs b len k (zE b len 59 (zLn b len s))) h' ∧ NMB (yN (zLs b len k (zE b len 59 (zLn b len s))))) := by
        intro q4 q5 q6
        have ez : zLn b len s = zF b len 2 s := by unfold zLn; rw [if_neg q0, if_neg q1, if_neg q4, if_neg q5, if_neg q6]
        rw [r_Reader_read_74]
        refine wp_isC a1 (wp_rV (rd_fail D X (by decide) (by decide)) ?_)
        rintro v h3 ⟨g1, X3⟩
        exact ⟨g1, r78' _ (by rw [e1, ez]; exact X3) e2⟩
      by_cases w2 : kq b len s = 102
      · exact wp_bt (by rw [w2]) (failing (by omega) (by omega) (by omega))
      refine wp_bf (by rw [kq_eq (by decide)]; exact w2) ?_
      by_cases w3 : kq b len s = 103
      · exact wp_bt (by rw [w3]) (failing (by omega) (by omega) (by omega))
      refine wp_bf (by rw [kq_eq (by decide)]; exact w3) ?_
      by_cases q4 : kq b len s = 104
      · have ez : zLn b len s = (zD b len 7).2 (zSl b len 4 s) := by unfold zLn; rw [if_neg q0, if_neg q1, if_pos q4]
        refine wp_bt (by rw [q4]) (wp_isC a1 (wp_rV (rd_once (j := 4) D X q4 (by decide)) ?_))
        rintro v h1 ⟨g1, X1⟩
        refine ⟨g1, ?_⟩
        obtain ⟨b1, b2, b3, b4, b5, b6, b7, b8, b9⟩ := RX_sh D X1
        refine wp_isC b1 (wp_rV ((rd_e D 7 0 (by decide)).2 _ _ X1) ?_)
        rintro v h3 ⟨g1, X3⟩
        exact ⟨g1, r78' _ (by rw [e1, ez]; exact X3) e2⟩
      refine wp_bf (by rw [kq_eq (by decide)]; exact q4) ?_
      by_cases q5 : kq b len s = 105
      · have ez : zLn b len s = zDr b len s := by unfold zLn; rw [if_neg q0, if_neg q1, if_neg q4, if_pos q5]
        refine wp_bt (by rw [q5]) (wp_isC a1 (wp_rV (rd_once (j := 5) D X q5 (by decide)) ?_))
        rintro v h1 ⟨g1, X1⟩
        refine ⟨g1, ?_⟩
        obtain ⟨b1, b2, b3, b4, b5, b6, b7, b8, b9⟩ := RX_sh D X1
        refine wp_isC b1 (wp_nnR b3 (wp_isC b1 (wp_rI (rd_num D X1 (by decide) (by decide)) ?_)))
        rintro v h2 ⟨g1, X2⟩
        refine ⟨_, g1, ?_⟩
        obtain ⟨b1, b2, b3, b4, b5, b6, b7, b8, b9⟩ := RX_sh D X2
        have hz := zM_le (b := b) (len := len) (s := zSl b len 5 s) (show 0 ≤ 100 by decide)
        refine wp_isC b5 (r78' _ ?_ e2)
        rw [e1, ez]
        exact (RX_dr D X2 hz.2).2
      refine wp_bf (by rw [kq_eq (by decide)]; exact q5) ?_
      by_cases q6 : kq b len s = 106
      · have ez : zLn b len s = zDw b len s := by unfold zLn; rw [if_neg q0, if_neg q1, if_neg q4, if_neg q5, if_pos q6]
        refine wp_bt (by rw [q6]) (wp_isC a1 (wp_rV (rd_once (j := 6) D X q6 (by decide)) ?_))
        rintro v h1 ⟨g1, X1⟩
        refine ⟨g1, ?_⟩
        obtain ⟨b1, b2, b3, b4, b5, b6, b7, b8, b9⟩ := RX_sh D X1
        refine wp_isC b1 (wp_nnR b3 (wp_isC b1 (wp_rI (rd_num D X1 (by decide) (by decide)) ?_)))
        rintro v h2 ⟨g1, X2⟩
        refine ⟨_, g1, ?_⟩
        obtain ⟨b1, b2, b3, b4, b5, b6, b7, b8, b9⟩ := RX_sh D X2
        have hz := zM_le (b := b) (len := len) (s := zSl b len 6 s) (show 0 ≤ 999 by decide)
        refine wp_isC b5 (r78' _ ?_ e2)
        rw [e1, ez]
        exact (RX_dw D X2 hz.2).2
      exact wp_bf (by rw [kq_eq (by decide)]; exact q6) (failing q4 q5 q6)
    · rw [if_neg (fun z => q z.1)]
      exact wp_bf (by rw [nI_eq (by omega) (by decide)]; exact q) (fin s hp X hn)
end
/-! the beginning of a text -/
/-- the reader's cells, but for the plan and the text at hand -/
def RD0 (h : MH) (R p tp s1 v1 : Nat) : Prop := hC h R = 6 ∧ hR h R 2 = some (R + 1) ∧ hC h (R + 1) = 8 ∧ hR h (R + 1) 4 = some (R + 2) ∧ hC h (R + 2) = 22 ∧ hN h (R + 2) = 18 ∧ hC h tp = 21 ∧ hN h tp = 1600 ∧ hR h 0 1001 = some s1 ∧ hC h s1 = 30 ∧ hR h s1 0 = some v1 ∧ hR h v1 77 = some 1 ∧ 30 ≤ hC h v1 ∧ hN h v1 = 11 ∧ PS h p ∧ (p + 17 ≤ R ∨ R + 3 ≤ p) ∧ (tp < p ∨ p + 17 ≤ tp) ∧ (tp < R ∨ R + 3 ≤ tp) ∧ (s1 < p ∧ s1 < R) ∧ (v1 < p ∧ v1 < R) ∧ 0 < R
theorem PS_c {h h' : MH} {p : Nat} (hc : hC h' = hC h) (hn : hN h' = hN h) (hr : ∀ x, p ≤ x → x < p + 17 → hR h' x = hR h x) (P : PS h p) : PS h' p := by
  obtain ⟨p1, p2, p3, p4, p5, p6, p7, p8, p9, p10, p11, p12, p13, p14, p15, p16, p17, p18, p19⟩ := P
  refine ⟨?_, ?_, ?_, ?_, ?_, ?_, ?_, ?_, ?_, ?_, ?_, ?_, ?_, ?_, ?_, fun k hk => ⟨?_, ?_, ?_, ?_, ?_⟩, ?_, ?_, ?_⟩
  all_goals first
    | (rw [hc]; assumption)
    | (rw [hn]; assumption)
    | (rw [hr _ (by omega) (by omega)]; assumption)
    | (rw [hr _ (by omega) (by omega)]; exact (p16 k hk).1)
    | (rw [hc]; exact (p16 k hk).2.1)
    | (rw [hr _ (by omega) (by omega)]; exact (p16 k hk).2.2.1)
    | (rw [hc]; exact (p16 k hk).2.2.2.1)
    | (rw [hn]; exact (p16 k hk).2.2.2.2)
/-- the heap with the plan and the text at hand -/
def hRd (h : MH) (R p tp : Nat) : MH := sR (sR h R 3 p) (R + 1) 5 tp
theorem RD0.S {h : MH} {R p tp s1 v1 : Nat} (D : RD0 h R p tp s1 v1) : RDS (hRd h R p tp) R p tp s1 v1 := by
  obtain ⟨d1, d2, d3, d4, d5, d6, d7, d8, d9, d10, d11, d12, d13, d14, d15, d16, d17, d18, d19, d20, d21⟩ := D
  have hr : ∀ x, x ≠ R → x ≠ R + 1 → hR (hRd h R p tp) x = hR h x := fun x h1 h2 => by
    show up2 (up2 (hR h) R 3 (some p)) (R + 1) 5 (some tp) x = _
    rw [up2_a h2, up2_a h1]
  refine ⟨d1, ?_, ?_, ⟨d3, ?_, d5, d6, ?_, d7, d8, ?_, d10, ?_, ?_, d13, d14, by omega, by omega, by omega⟩, PS_c (h := h) rfl rfl (fun x h1 h2 => hr x (by omega) (by omega)) d15, d16, d17, d18, d19, d20⟩
  · show up2 (up2 (hR h) R 3 (some p)) (R + 1) 5 (some tp) R 2 = _
    rw [up2_a (by omega), up2_k (by decide)]; exact d2
  · show up2 (up2 (hR h) R 3 (some p)) (R + 1) 5 (some tp) R 3 = _
    rw [up2_a (by omega), up2_s]
  · show up2 (up2 (hR h) R 3 (some p)) (R + 1) 5 (some tp) (R + 1) 4 = _
    rw [up2_k (by decide), up2_a (by omega)]; exact d4
  · show up2 (up2 (hR h) R 3 (some p)) (R + 1) 5 (some tp) (R + 1) 5 = _
    rw [up2_s]
  · rw [hr 0 (by omega) (by omega)]; exact d9
  · rw [hr s1 (by omega) (by omega)]; exact d11
  · rw [hr v1 (by omega) (by omega)]; exact d12
theorem pl_clear {h : MH} {f : Nat → Nat → Int32} {p : Nat} (p1 : hC h p = 5) (p2 : hR h p 6 = some (p + 1)) (p3 : hC h (p + 1) = 2) : ev M_Plan_clear 0 0 [some (.ref p)] [] (wI h f) = some (none, wI h (up2 (up2 (up2 (up2 (up2 (up2 (up2 (up2 f p 0 (nI 3)) p 1 (nI 0)) p 2 (nI 0)) p 3 (nI 0)) p 4 (nI 0)) p 5 (nI 0)) p 10 (nI 0)) (p + 1) 1 (nI 0))) := by
  rw [r_Plan_clear_0]
  simp only [wI_s]
  apply wp_e
  refine wp_isC p1 (wp_isC p1 (wp_isC p1 (wp_isC p1 (wp_isC p1 (wp_isC p1 (wp_isC p1 (wp_isC p1 (wp_nnR p2 (wp_isC p3 ?_)))))))))
  generalize up2 (up2 (up2 (up2 (up2 (up2 (up2 f p 0 (nI 3)) p 1 (nI 0)) p 2 (nI 0)) p 3 (nI 0)) p 4 (nI 0)) p 5 (nI 0)) p 10 (nI 0) = f1
  refine wp_rVe (h := wI h (up2 f1 (p + 1) 1 (nI 0))) ?_ (wp_s ⟨rfl, rfl⟩)
  rw [r_Formula_clear_0]
  apply wp_e
  exact wp_isC p3 (wp_s ⟨rfl, rfl⟩)
theorem rd_read {h : MH} {R p tp s1 v1 : Nat} {f : Nat → Nat → Int32} {g : Nat → Nat → Int64} {b : Nat → Nat} {len : Nat} (D : RD0 h R p tp s1 v1) (hb : ∀ i, b i < 256) (hl : len ≤ 1600) (ft : ∀ i, i < len → f tp i = sb (b i)) (fs : f s1 1 = nI 0) (fv : ∀ j, j < 11 → f v1 (100 + j) = nI (tx1.getD j 0)) (gw : ∀ j, j < 18 → g (R + 2) j = lN (KW j)) :
    wp (ev M_Reader_read 0 0 [some (.ref R), some (.ref tp), some (.int (nI len)), some (.ref p), none] [] (wI (wL h g) f)) (fun r h' => r = some (.int (nI (decide (yF (cRead b len) = 0)).toNat)) ∧ RX (hRd h R p tp) R p tp s1 v1 f g b len (vNr (yN (cRead b len))) (cRead b len) h' ∧ NMB (yN (cRead b len))) := by
  have DS := D.S
  obtain ⟨d1, d2, d3, d4, d5, d6, d7, d8, d9, d10, d11, d12, d13, d14, d15, d16, d17, d18, d19, d20, d21⟩ := D
  obtain ⟨e1, e2, e3, e4, e5, -⟩ := id DS
  obtain ⟨p1, p2, p3, -⟩ := id d15
  have sub : sR (wI (wL h g) f) R 3 p = wI (wL (sR h R 3 p) g) f := rfl
  rw [r_Reader_read_0]
  refine wp_isC d1 ?_
  rw [sub]
  have r3 : hR (wI (wL (sR h R 3 p) g) f) R 3 = some p := up2_s
  have r2 : hR (wI (wL (sR h R 3 p) g) f) R 2 = some (R + 1) := (up2_k (by decide)).trans d2
  have r6 : hR (wI (wL (sR h R 3 p) g) f) p 6 = some (p + 1) := by
    show up2 (hR h) R 3 (some p) p 6 = _
    rw [up2_a (by omega)]; exact p2
  refine wp_isC d1 (wp_nnR r3 (wp_isC p1 ?_))
  refine wp_rVe (pl_clear p1 r6 p3) ?_
  generalize hf1 : up2 (up2 (up2 (up2 (up2 (up2 (up2 (up2 f p 0 (nI 3)) p 1 (nI 0)) p 2 (nI 0)) p 3 (nI 0)) p 4 (nI 0)) p 5 (nI 0)) p 10 (nI 0)) (p + 1) 1 (nI 0) = f1
  simp only [wI_s]
  refine wp_isC d1 (wp_isC d1 (wp_isC d1 (wp_isC d1 (wp_isC d1 (wp_nnR r2 (wp_isC d3 ?_))))))
  generalize hf2 : up2 (up2 (up2 (up2 f1 R 0 (nI 0)) R 1 (mI 1)) R 4 (nI 0)) R 5 (nI 0) = f2
  have o1 : ∀ a, a < p ∨ p + 17 ≤ a → f1 a = f a := fun a ha => by rw [← hf1]; simp (disch := omega) only [wI_I, wI_s, nI_add, pk_mul, nI_ltI, nI_leI, nI_eq, nI_clamp, nm_or, nm_and, nm_xor, nm_nd, nm_one, nm_shr, nm_b2, Bool.false_eq_true, Bool.true_eq_false, not_false_eq_true, not_true_eq_false, reduceCtorEq, up2_a, up2_k, up2_s, gw_o]
  have o2 : ∀ a, a ≠ R → f2 a = f1 a := fun a ha => by rw [← hf2]; simp (disch := omega) only [wI_I, wI_s, nI_add, pk_mul, nI_ltI, nI_leI, nI_eq, nI_clamp, nm_or, nm_and, nm_xor, nm_nd, nm_one, nm_shr, nm_b2, Bool.false_eq_true, Bool.true_eq_false, not_false_eq_true, not_true_eq_false, reduceCtorEq, up2_a, up2_k, up2_s, gw_o]
  refine wp_rV (P := fun r h' => r = none ∧ RX (hRd h R p tp) R p tp s1 v1 f g b len 0 Ps0 h') ?_ ?_
  · rw [r_Scanner_begin_0]
    refine wp_isC d3 ?_
    rw [show sR (wI (wL (sR h R 3 p) g) f2) (R + 1) 5 tp = wI (wL (hRd h R p tp) g) f2 from rfl]
    refine wp_isC d7 ?_
    rw [show hN (wI (wL (hRd h R p tp) g) f2) tp = 1600 from d8, if_neg (show ¬ nI 1600 < nI len by rw [nI_ltI (by decide) (by omega)]; omega), nm_mx (show len < 2 ^ 31 by omega), r_Scanner_begin_15]
    simp only [wI_s]
    refine wp_isC d3 (wp_isC d3 (wp_isC d3 (wp_isZ (by decide) (wp_isC d3 ?_))))
    generalize hf3 : up2 (up2 (up2 f2 (R + 1) 6 (nI len)) (R + 1) 7 (nI 0)) (R + 1) 8 (nI 0) = f3
    have o3 : ∀ a, a ≠ R + 1 → f3 a = f2 a := fun a ha => by rw [← hf3]; simp (disch := omega) only [wI_I, wI_s, nI_add, pk_mul, nI_ltI, nI_leI, nI_eq, nI_clamp, nm_or, nm_and, nm_xor, nm_nd, nm_one, nm_shr, nm_b2, Bool.false_eq_true, Bool.true_eq_false, not_false_eq_true, not_true_eq_false, reduceCtorEq, up2_a, up2_k, up2_s, gw_o]
    have o4 : ∀ a, a ≠ R → a ≠ R + 1 → a < p ∨ p + 17 ≤ a → f3 a = f a := fun a h1 h2 h3 => by rw [o3 a h2, o2 a h1, o1 a h3]
    have sf : SCF f3 g (R + 1) tp s1 v1 b len := by
      refine ⟨?_, hl, hb, fun i hi => ?_, ?_, fun j hj => ?_, gw⟩
      · rw [← hf3]; simp (disch := omega) only [wI_I, wI_s, nI_add, pk_mul, nI_ltI, nI_leI, nI_eq, nI_clamp, nm_or, nm_and, nm_xor, nm_nd, nm_one, nm_shr, nm_b2, Bool.false_eq_true, Bool.true_eq_false, not_false_eq_true, not_true_eq_false, reduceCtorEq, up2_a, up2_k, up2_s, gw_o]
      · rw [o4 tp (by omega) (by omega) (by omega)]; exact ft i hi
      · rw [o4 s1 (by omega) (by omega) (by omega)]; exact fs
      · rw [o4 v1 (by omega) (by omega) (by omega)]; exact fv j hj
    refine wp_rV (sc_step e4 sf (Nat.zero_le _) (by rw [← hf3]; simp (disch := omega) only [wI_I, wI_s, nI_add, pk_mul, nI_ltI, nI_leI, nI_eq, nI_clamp, nm_or, nm_and, nm_xor, nm_nd, nm_one, nm_shr, nm_b2, Bool.false_eq_true, Bool.true_eq_false, not_false_eq_true, not_true_eq_false, reduceCtorEq, up2_a, up2_k, up2_s, gw_o]) (by rw [← hf3]; simp (disch := omega) only [wI_I, wI_s, nI_add, pk_mul, nI_ltI, nI_leI, nI_eq, nI_clamp, nm_or, nm_and, nm_xor, nm_nd, nm_one, nm_shr, nm_b2, Bool.false_eq_true, Bool.true_eq_false, not_false_eq_true, not_true_eq_false, reduceCtorEq, up2_a, up2_k, up2_s, gw_o])) ?_
    rintro v h' ⟨f', g', r1, r2, r3, r4, r5⟩
    refine ⟨r1, wp_s ⟨rfl, f', g', r2, ?_, ⟨?_, ?_, ?_, ?_, fun _ => ⟨?_, r3⟩, fun z => absurd rfl z⟩, ?_, ⟨Nat.zero_le _, by decide, by decide, by decide, by decide⟩, ⟨by decide, by decide, Nat.le_refl _, by decide, by decide, by decide, by decide, by decide, ⟨by decide, fun k hk => by cases hk⟩, ⟨by decide, fun k hk => by cases hk⟩, fun k hk => by omega⟩, ?_, ?_, ?_⟩⟩
    · obtain ⟨u1, u2, u3, u4, u5, u6, u7⟩ := r4.F e4 sf
      exact ⟨u1, u2, u3, u4, u5, u6, fun j hj => by rw [r5 _ (by omega)]; exact u7 j hj⟩
    · rw [r4.1 _ (by omega), o3 _ (by omega), ← hf2]; simp (disch := omega) only [wI_I, wI_s, nI_add, pk_mul, nI_ltI, nI_leI, nI_eq, nI_clamp, nm_or, nm_and, nm_xor, nm_nd, nm_one, nm_shr, nm_b2, Bool.false_eq_true, Bool.true_eq_false, not_false_eq_true, not_true_eq_false, reduceCtorEq, up2_a, up2_k, up2_s, gw_o]; rfl
    · rw [r4.1 _ (by omega), o3 _ (by omega), ← hf2]; simp (disch := omega) only [wI_I, wI_s, nI_add, pk_mul, nI_ltI, nI_leI, nI_eq, nI_clamp, nm_or, nm_and, nm_xor, nm_nd, nm_one, nm_shr, nm_b2, Bool.false_eq_true, Bool.true_eq_false, not_false_eq_true, not_true_eq_false, reduceCtorEq, up2_a, up2_k, up2_s, gw_o]; rfl
    · rw [r4.1 _ (by omega), o3 _ (by omega), ← hf2]; simp (disch := omega) only [wI_I, wI_s, nI_add, pk_mul, nI_ltI, nI_leI, nI_eq, nI_clamp, nm_or, nm_and, nm_xor, nm_nd, nm_one, nm_shr, nm_b2, Bool.false_eq_true, Bool.true_eq_false, not_false_eq_true, not_true_eq_false, reduceCtorEq, up2_a, up2_k, up2_s, gw_o]; rfl
    · rw [r4.1 _ (by omega), o3 _ (by omega), ← hf2]; simp (disch := omega) only [wI_I, wI_s, nI_add, pk_mul, nI_ltI, nI_leI, nI_eq, nI_clamp, nm_or, nm_and, nm_xor, nm_nd, nm_one, nm_shr, nm_b2, Bool.false_eq_true, Bool.true_eq_false, not_false_eq_true, not_true_eq_false, reduceCtorEq, up2_a, up2_k, up2_s, gw_o]; rfl
    · rw [r4.2.2, ← hf3]; simp (disch := omega) only [wI_I, wI_s, nI_add, pk_mul, nI_ltI, nI_leI, nI_eq, nI_clamp, nm_or, nm_and, nm_xor, nm_nd, nm_one, nm_shr, nm_b2, Bool.false_eq_true, Bool.true_eq_false, not_false_eq_true, not_true_eq_false, reduceCtorEq, up2_a, up2_k, up2_s, gw_o]
    · have op : ∀ a, p ≤ a → a < p + 17 → f' a = f1 a := fun a h1 h2 => by rw [r4.1 _ (by omega), o3 _ (by omega), o2 _ (by omega)]
      refine ⟨?_, ?_, ?_, ?_, ?_, ?_, ?_, ?_, ⟨?_, ?_⟩, ?_, ?_⟩
      · rw [op _ (by omega) (by omega), ← hf1]; simp (disch := omega) only [wI_I, wI_s, nI_add, pk_mul, nI_ltI, nI_leI, nI_eq, nI_clamp, nm_or, nm_and, nm_xor, nm_nd, nm_one, nm_shr, nm_b2, Bool.false_eq_true, Bool.true_eq_false, not_false_eq_true, not_true_eq_false, reduceCtorEq, up2_a, up2_k, up2_s, gw_o]; rfl
      · rw [op _ (by omega) (by omega), ← hf1]; simp (disch := omega) only [wI_I, wI_s, nI_add, pk_mul, nI_ltI, nI_leI, nI_eq, nI_clamp, nm_or, nm_and, nm_xor, nm_nd, nm_one, nm_shr, nm_b2, Bool.false_eq_true, Bool.true_eq_false, not_false_eq_true, not_true_eq_false, reduceCtorEq, up2_a, up2_k, up2_s, gw_o]; rfl
      · rw [op _ (by omega) (by omega), ← hf1]; simp (disch := omega) only [wI_I, wI_s, nI_add, pk_mul, nI_ltI, nI_leI, nI_eq, nI_clamp, nm_or, nm_and, nm_xor, nm_nd, nm_one, nm_shr, nm_b2, Bool.false_eq_true, Bool.true_eq_false, not_false_eq_true, not_true_eq_false, reduceCtorEq, up2_a, up2_k, up2_s, gw_o]; rfl
      · rw [op _ (by omega) (by omega), ← hf1]; simp (disch := omega) only [wI_I, wI_s, nI_add, pk_mul, nI_ltI, nI_leI, nI_eq, nI_clamp, nm_or, nm_and, nm_xor, nm_nd, nm_one, nm_shr, nm_b2, Bool.false_eq_true, Bool.true_eq_false, not_false_eq_true, not_true_eq_false, reduceCtorEq, up2_a, up2_k, up2_s, gw_o]; rfl
      · rw [op _ (by omega) (by omega), ← hf1]; simp (disch := omega) only [wI_I, wI_s, nI_add, pk_mul, nI_ltI, nI_leI, nI_eq, nI_clamp, nm_or, nm_and, nm_xor, nm_nd, nm_one, nm_shr, nm_b2, Bool.false_eq_true, Bool.true_eq_false, not_false_eq_true, not_true_eq_false, reduceCtorEq, up2_a, up2_k, up2_s, gw_o]; rfl
      · rw [op _ (by omega) (by omega), ← hf1]; simp (disch := omega) only [wI_I, wI_s, nI_add, pk_mul, nI_ltI, nI_leI, nI_eq, nI_clamp, nm_or, nm_and, nm_xor, nm_nd, nm_one, nm_shr, nm_b2, Bool.false_eq_true, Bool.true_eq_false, not_false_eq_true, not_true_eq_false, reduceCtorEq, up2_a, up2_k, up2_s, gw_o]; rfl
      · rw [op _ (by omega) (by omega), ← hf1]; simp (disch := omega) only [wI_I, wI_s, nI_add, pk_mul, nI_ltI, nI_leI, nI_eq, nI_clamp, nm_or, nm_and, nm_xor, nm_nd, nm_one, nm_shr, nm_b2, Bool.false_eq_true, Bool.true_eq_false, not_false_eq_true, not_true_eq_false, reduceCtorEq, up2_a, up2_k, up2_s, gw_o]; rfl
      · intro i c hc; cases hc
      · rw [op _ (by omega) (by omega), ← hf1]; simp (disch := omega) only [wI_I, wI_s, nI_add, pk_mul, nI_ltI, nI_leI, nI_eq, nI_clamp, nm_or, nm_and, nm_xor, nm_nd, nm_one, nm_shr, nm_b2, Bool.false_eq_true, Bool.true_eq_false, not_false_eq_true, not_true_eq_false, reduceCtorEq, up2_a, up2_k, up2_s, gw_o]; rfl
      · intro i c hc; cases hc
      · intro k hk; omega
      · intro z k hk; exact absurd hk (by show ¬ k < 0; omega)
    · exact fun a h1 h2 h3 => (r4.1 a h2).trans (o4 a h1 h2 h3)
    · exact fun a h1 h2 h3 => r5 a h2
    · exact r5 _ (by omega)
  · rintro v h' ⟨e1, X⟩
    exact ⟨e1, rd_lines DS 1600 0 Ps0 h' (by decide) X (fun k hk => absurd hk (by show ¬ k < 0; omega))⟩
