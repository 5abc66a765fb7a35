/-! The reader: derived ones, names, pairs, lines. -/
section
variable {h : MH} {R p tp s1 v1 : Nat} {f0 : Nat → Nat → Int32} {g0 : Nat → Nat → Int64} {b : Nat → Nat} {len m : Nat} {s : Ps} {hp : MH}
/-- the name at hand, and which one has it -/
theorem wv_lt (i : Nat) (hi : i ≤ len) (hk : kd b len i = 4 ∨ 100 ≤ kd b len i) : wv b len i < 2 ^ 63 := by
  by_cases w1 : len ≤ pl b len i
  · unfold kd at hk; rw [if_pos w1] at hk; omega
  by_cases w2 : isLe (bt b len (pl b len i)) = true
  · by_cases w3 : 8 < nx b len i - pl b len i
    · unfold kd at hk; rw [if_neg w1, if_pos w2, if_pos w3] at hk; omega
    · have en : nx b len i = rn (pLe b len) 1600 (pl b len i) := by unfold nx; rw [if_neg w1, if_pos w2]
      have hgt := nx_gt (b := b) (len := len) (i := i) (by omega)
      have h9 := wvv_lt2 (b := b) (i := pl b len i) (nx b len i - pl b len i - 1) (fun j hj => by
        have := rn_in (p := pLe b len) 1600 (pl b len i) (pl b len i + j) (by omega) (by rw [← en]; omega)
        unfold pLe bt at this
        split at this
        · have := le_lt this; omega
        · cases this)
      rw [show nx b len i - pl b len i - 1 + 1 = nx b len i - pl b len i by omega] at h9
      have h10 : 256 ^ (nx b len i - pl b len i - 1) ≤ 256 ^ 7 := Nat.pow_le_pow_right (by decide) (by omega)
      unfold wv
      have h11 : (256 : Nat) ^ 7 = 72057594037927936 := by decide
      omega
  · unfold kd at hk
    rw [if_neg w1, if_neg w2] at hk
    by_cases w3 : isDi (bt b len (pl b len i)) = true
    · rw [if_pos w3] at hk; split at hk <;> omega
    · rw [if_neg w3] at hk
      split at hk
      · rename_i w; have := isSi_r w; omega
      · omega
/-- names that are told are such as were read -/
def NMB (q : Pn) : Prop := ∀ k, k < vNr q → vNm q k < 2 ^ 63
theorem rd_find {w : Nat} (D : RDS h R p tp s1 v1) (X : RX h R p tp s1 v1 f0 g0 b len m s hp) (hf : yF s = 0) (hw : w < 2 ^ 63) (hn : NMB (yN s)) : ev M_Plan_find 0 0 [some (.ref p), some (.long (lN w)), none, none] [] hp = some (some (.int (oI (ff (fun k => decide (vNm (yN s) k = w)) (vNr (yN s))))), hp) := by
  obtain ⟨f, g, rfl, x1, x2, x3, x4, x5, x6, x7, x8⟩ := X
  obtain ⟨p1, p2, p3, p4, p5, p6, p7, p8, p9, p10, p11, p12, p13, p14, p15, p16, p17, p18, p19⟩ := id D.2.2.2.2.1
  obtain ⟨y0, y1, y2, y3, y4, y5, y6, y7, y8, y9, y10⟩ := id x3
  have h5 : vNr (yN s) ≤ 5 := Nat.le_trans x5.2.2.1 x5.2.2.2.1
  have L : ∀ k i, i + k = vNr (yN s) → ff (fun k => decide (vNm (yN s) k = w)) i = none → ev M_Plan_find 0 3 [some (.ref p), some (.long (lN w)), none, some (.int (nI i))] [] (wI (wL h g) f) = some (some (.int (oI (ff (fun k => decide (vNm (yN s) k = w)) (vNr (yN s))))), wI (wL h g) f) := by
    intro k
    induction k with
    | zero =>
      intro i hi hf
      rw [r_Plan_find_3]
      apply wp_e
      refine wp_isC p1 ?_
      rw [wI_I, y1]
      refine wp_bf (by rw [nI_ltI (by omega) (by omega)]; omega) (wp_s ⟨?_, rfl⟩)
      rw [show vNr (yN s) = i by omega, hf]; rfl
    | succ k ih =>
      intro i hi hf2
      have ef := ff_n hf2
      rw [r_Plan_find_3]
      apply wp_e
      refine wp_isC p1 ?_
      rw [wI_I, y1]
      refine wp_bt (by rw [nI_ltI (by omega) (by omega)]; omega) (wp_bt (by rw [nI_ltI (by omega) (by omega)]; omega) (wp_isC p1 (wp_nnR p10 (wp_isC p11 (wp_inA p12 rfl (by omega) (by omega) ?_)))))
      rw [nI_clamp (by omega), show hL (wI (wL h g) f) (p + 4) i = g (p + 4) i from rfl, y10 hf i (by omega)]
      by_cases q : vNm (yN s) i = w
      · rw [if_pos (decide_eq_true q)] at ef
        rw [ff_some ef (show i + 1 ≤ vNr (yN s) by omega)]
        exact wp_bt ((lg_c _ _).mpr (by rw [q])) (wp_s ⟨rfl, rfl⟩)
      · rw [if_neg (by rw [decide_eq_false q]; decide)] at ef
        refine wp_bf (fun z => q ((pk_lEQ (hn i (by omega)) hw).mp ((lg_c _ _).mp z))) ?_
        rw [nI_add]
        exact wp_of (ih (i + 1) (by omega) ef) ⟨rfl, rfl⟩
  rw [r_Plan_find_0]
  exact L (vNr (yN s)) 0 (by omega) rfl
theorem RX_nm (X : RX h R p tp s1 v1 f0 g0 b len m s hp) (hk : kq b len s = 4) : yF s = 0 ∧ kd b len (yI s) = 4 ∧ hL hp (R + 1) 3 = lN (wv b len (yI s)) ∧ wv b len (yI s) < 2 ^ 63 := by
  obtain ⟨f, g, rfl, x1, x2, x3, x4, x5, x6, x7, x8⟩ := X
  unfold kq at hk
  by_cases z : yF s = 0
  · rw [if_pos z] at hk
    exact ⟨z, hk, (x2.2.2.2.2.1 z).2.2.2.2.2 hk, wv_lt _ x4.1 (Or.inl hk)⟩
  · rw [if_neg z] at hk; cases hk
theorem rd_leaf {c : Option Nat} (D : RDS h R p tp s1 v1) (X : RX h R p tp s1 v1 f0 g0 b len m s hp) (hc : ∀ k, c = some k → k < 40) : wp (ev M_Reader_readLeaf 0 0 [some (.ref R), some (.int (oI c))] [] hp) (fun r h' => r = none ∧ RX h R p tp s1 v1 f0 g0 b len m (zLf b len c s) h') := by
  obtain ⟨a1, a2, a3, a4, a5, a6, a7, a8, a9⟩ := RX_sh D X
  obtain ⟨B1, B2, -⟩ := RX_B X
  have hv := B1.2.2.2.2
  have u1 := (RX_lf (x := 0) D X (by decide)).1
  rw [r_Reader_readLeaf_0]
  refine wp_isC a1 ?_
  rw [u1]
  unfold zLf
  by_cases q : yV s < 30
  · rw [if_pos q]
    refine wp_bt (by rw [nI_ltI (by omega) (by decide)]; exact q) ?_
    cases c with
    | none =>
      refine wp_bt rfl (wp_isC a1 (wp_rV (rd_fail D X (by decide) (by decide)) ?_))
      rintro v h3 ⟨e1, X3⟩
      exact ⟨e1, wp_s ⟨rfl, X3⟩⟩
    | some c =>
      have hc := hc c rfl
      refine wp_bf (by show ¬ nI c = mI 1; intro e; have := nI_pos (n := c) (by omega); rw [e] at this; exact this mI_neg) (wp_isC a1 (wp_isC a1 ?_))
      obtain ⟨-, X1⟩ := RX_lf (x := yV s + 1) D X (by omega)
      rw [nI_add]
      generalize sI hp R 5 (nI (yV s + 1)) = hp at X1
      obtain ⟨b1, b2, b3, b4, b5, b6, b7, b8, b9⟩ := RX_sh D X1
      refine wp_isC b1 (wp_nnR b3 (wp_isC b5 (wp_rV (rd_addX D X1 hc) ?_)))
      rintro v h2 ⟨e1, X2⟩
      refine ⟨e1, ?_⟩
      obtain ⟨b1, b2, b3, b4, b5, b6, b7, b8, b9⟩ := RX_sh D X2
      refine wp_isC b1 (wp_nnR b2 (wp_isC b4 (wp_rV (rd_step D X2) ?_)))
      rintro v h3 ⟨e1, X3⟩
      exact ⟨e1, wp_s ⟨rfl, X3⟩⟩
  · rw [if_neg q]
    refine wp_bf (by rw [nI_ltI (by omega) (by decide)]; exact q) (wp_isC a1 (wp_rV (rd_fail D X (by decide) (by decide)) ?_))
    rintro v h3 ⟨e1, X3⟩
    exact ⟨e1, wp_s ⟨rfl, X3⟩⟩
end
/-- the same names and as many relations -/
def Keep (s s' : Ps) : Prop := vNm (yN s') = vNm (yN s) ∧ vNr (yN s') = vNr (yN s) ∧ vLv (yN s') = vLv (yN s) ∧ vGr (yN s') = vGr (yN s) ∧ vTd (yN s') = vTd (yN s)
theorem Keep.rf {s : Ps} : Keep s s := ⟨rfl, rfl, rfl, rfl, rfl⟩
theorem Keep.tr {s t u : Ps} (a : Keep s t) (b : Keep t u) : Keep s u := ⟨b.1.trans a.1, b.2.1.trans a.2.1, b.2.2.1.trans a.2.2.1, b.2.2.2.1.trans a.2.2.2.1, b.2.2.2.2.trans a.2.2.2.2⟩
theorem kpS {b : Nat → Nat} {len : Nat} {s : Ps} : Keep s (zS b len s) := by unfold zS; split <;> exact ⟨rfl, rfl, rfl, rfl, rfl⟩
theorem kpF {b : Nat → Nat} {len c : Nat} {s : Ps} : Keep s (zF b len c s) := by unfold zF; split <;> exact ⟨rfl, rfl, rfl, rfl, rfl⟩
theorem kpE {b : Nat → Nat} {len c : Nat} {s : Ps} : Keep s (zE b len c s) := by
  unfold zE
  by_cases q : kq b len s = c
  · rw [if_pos q]; exact kpS
  · rw [if_neg q]; exact kpF
theorem kpX {c : Nat} {s : Ps} : Keep s (zX c s) := by unfold zX; split <;> exact ⟨rfl, rfl, rfl, rfl, rfl⟩
theorem kpL {b : Nat → Nat} {len : Nat} {c : Option Nat} {s : Ps} : Keep s (zLf b len c s) := by
  unfold zLf
  split
  · cases c with
    | none => exact kpF
    | some c => exact (Keep.tr (t := zV s (yV s + 1)) ⟨rfl, rfl, rfl, rfl, rfl⟩ kpX).tr kpS
  · exact kpF
theorem kpXl {b : Nat → Nat} {len k1 w1 k2 w2 : Nat} {A : Ps → Ps} (hA : ∀ s, Keep s (A s)) : ∀ n s, Keep s (zXl b len k1 w1 k2 w2 A n s)
  | 0, s => Keep.rf
  | n + 1, s => by
    show Keep s (if _ then _ else _)
    split
    · exact ((kpS.tr (hA _)).tr kpX).tr (kpXl hA n _)
    · exact Keep.rf
theorem kpJn {b : Nat → Nat} {len : Nat} {O : Ps → Ps} (hO : ∀ s, Keep s (O s)) (s : Ps) : Keep s (zJn b len O s) := by
  have hM : ∀ s, Keep s (zMt b len O s) := fun s => (hO s).tr (kpXl hO 1600 _)
  exact (hM s).tr (kpXl hM 1600 _)
theorem kpJ {b : Nat → Nat} {len : Nat} : ∀ D s, Keep s ((zJ b len D).1 s) ∧ Keep s ((zJ b len D).2 s)
  | 0, s => ⟨kpF, kpJn (fun _ => kpF) s⟩
  | D + 1, s => by
    have h1 : ∀ s, Keep s (zOn b len (zJ b len D) s) := by
      intro s
      unfold zOn
      split
      · exact kpL
      split
      · exact (kpS.tr (kpJ D _).2).tr kpE
      split
      · exact (kpS.tr (kpJ D _).1).tr kpX
      split
      · exact kpL
      split
      · exact kpL
      · exact kpF
    exact ⟨h1 s, kpJn h1 s⟩
def DoesP (h : MH) (R p tp s1 v1 : Nat) (f0 : Nat → Nat → Int32) (g0 : Nat → Nat → Int64) (b : Nat → Nat) (len m : Nat) (call : MH → MRes) (P : Ps → Prop) (U : Ps → Ps) : Prop := ∀ s hp, P s → RX h R p tp s1 v1 f0 g0 b len m s hp → wp (call hp) (fun r h' => r = none ∧ RX h R p tp s1 v1 f0 g0 b len m (U s) h')
section
variable {h : MH} {R p tp s1 v1 : Nat} {f0 : Nat → Nat → Int32} {g0 : Nat → Nat → Int64} {b : Nat → Nat} {len m : Nat}
theorem rd_met {x : Int32} {d : Nat} {N : Ps → Ps} {P : Ps → Prop} (D : RDS h R p tp s1 v1) (HP : ∀ s s', Keep s s' → P s → P s') (hN : ∀ s, Keep s (N s)) (HN : DoesP h R p tp s1 v1 f0 g0 b len m (fun hp => ev M_Reader_readOne d 0 [some (.ref R), some (.int x)] [] hp) P N) : DoesP h R p tp s1 v1 f0 g0 b len m (fun hp => ev M_Reader_readMet d 0 [some (.ref R), some (.int x), none, none] [] hp) P (fun s => zXl b len 109 1 110 3 N 1600 (N s)) := by
  have L : ∀ k i s hp, i + k = 1600 → P s → RX h R p tp s1 v1 f0 g0 b len m s hp → wp (ev M_Reader_readMet d 6 [some (.ref R), some (.int x), some (.int (nI i)), none] [] hp) (fun r h' => r = none ∧ RX h R p tp s1 v1 f0 g0 b len m (zXl b len 109 1 110 3 N k s) h') := by
    intro k
    induction k with
    | zero =>
      intro i s hp hi Ps X
      rw [r_Reader_readMet_6]
      refine wp_bf (by rw [nI_ltI (by omega) (by decide)]; omega) (wp_s ⟨rfl, X⟩)
    | succ k ih =>
      intro i s hp hi Ps X
      obtain ⟨a1, a2, a3, a4, a5, a6, a7, a8, a9⟩ := RX_sh D X
      have body : ∀ w, w ≤ 3 → wp (ev M_Reader_readMet d 23 [some (.ref R), some (.int x), some (.int (nI i)), none] [(.int (nI w))] hp) (fun r h' => r = none ∧ RX h R p tp s1 v1 f0 g0 b len m (zXl b len 109 1 110 3 N k (zX (20 + w) (N (zS b len s)))) h') := by
        intro w hw
        rw [r_Reader_readMet_23]
        refine wp_isC a1 (wp_nnR a2 (wp_isC a4 (wp_rV (rd_step D X) ?_)))
        rintro v h1 ⟨e1, X1⟩
        refine ⟨e1, ?_⟩
        obtain ⟨b1, b2, b3, b4, b5, b6, b7, b8, b9⟩ := RX_sh D X1
        have P1 := HP s (zS b len s) kpS Ps
        refine wp_isC b1 (wp_rV (HN _ _ P1 X1) ?_)
        rintro v h2 ⟨e1, X2⟩
        refine ⟨e1, ?_⟩
        obtain ⟨b1, b2, b3, b4, b5, b6, b7, b8, b9⟩ := RX_sh D X2
        refine wp_isC b1 (wp_nnR b3 (wp_isC b5 ?_))
        rw [nI_add, nI_add]
        refine wp_rV (rd_addX D X2 (by omega)) ?_
        rintro v h3 ⟨e1, X3⟩
        refine ⟨e1, ?_⟩
        exact ih (i + 1) _ _ (by omega) (HP _ _ ((hN _).tr kpX) P1) X3
      rw [r_Reader_readMet_6]
      refine wp_bt (by rw [nI_ltI (by omega) (by decide)]; omega) (wp_isC a1 (wp_nnR a2 (wp_isC a4 ?_)))
      rw [a8]
      have hT : ev M_Reader_isAndOrThen 0 0 [some (.int (nI (kq b len s)))] [] hp = some (some (.int (nI (decide (kq b len s = 109 ∨ kq b len s = 110)).toNat)), hp) := by
        rw [r_Reader_isAndOrThen_0]
        simp only [r_Reader_isAndOrThen_7]
        apply wp_e
        by_cases q1 : kq b len s = 109
        · rw [decide_eq_true (Or.inl q1)]
          exact wp_bt (by rw [q1]) (wp_isZ (by decide) (wp_s ⟨rfl, rfl⟩))
        refine wp_bf (by rw [kq_eq (by decide)]; exact q1) ?_
        by_cases q2 : kq b len s = 110
        · rw [decide_eq_true (Or.inr q2)]
          exact wp_bt (by rw [q2]) (wp_isZ (by decide) (wp_s ⟨rfl, rfl⟩))
        · rw [decide_eq_false (by rintro (z | z); exact q1 z; exact q2 z)]
          exact wp_bf (by rw [kq_eq (by decide)]; exact q2) (wp_isZ (by decide) (wp_s ⟨rfl, rfl⟩))
      refine wp_rIe hT ?_
      show wp _ (fun r h' => r = none ∧ RX h R p tp s1 v1 f0 g0 b len m (if kq b len s = 109 ∨ kq b len s = 110 then zXl b len 109 1 110 3 N k (zX (20 + if kq b len s = 109 then 1 else 3) (N (zS b len s))) else s) h')
      by_cases q : kq b len s = 109 ∨ kq b len s = 110
      · rw [if_pos q, decide_eq_true q]
        refine wp_bf (by decide) (wp_isC a1 (wp_nnR a2 (wp_isC a4 ?_)))
        rw [a8]
        by_cases q1 : kq b len s = 109
        · rw [if_pos q1]
          exact wp_bt (by rw [q1]) (body 1 (by decide))
        · rw [if_neg q1]
          exact wp_bf (by rw [kq_eq (by decide)]; exact q1) (body 3 (by decide))
      · rw [if_neg q, decide_eq_false q]
        exact wp_bt rfl (wp_s ⟨rfl, X⟩)
  intro s hp Ps X
  obtain ⟨a1, a2, a3, a4, a5, a6, a7, a8, a9⟩ := RX_sh D X
  show wp (ev M_Reader_readMet d 0 [some (.ref R), some (.int x), none, none] [] hp) _
  rw [r_Reader_readMet_0]
  refine wp_isC a1 (wp_rV (HN _ _ Ps X) ?_)
  rintro v h1 ⟨e1, X1⟩
  exact ⟨e1, L 1600 0 _ _ (by omega) (HP _ _ (hN _) Ps) X1⟩
theorem rd_joined {x : Int32} {d : Nat} {N : Ps → Ps} {P : Ps → Prop} (D : RDS h R p tp s1 v1) (HP : ∀ s s', Keep s s' → P s → P s') (hN : ∀ s, Keep s (N s)) (HN : DoesP h R p tp s1 v1 f0 g0 b len m (fun hp => ev M_Reader_readMet d 0 [some (.ref R), some (.int x), none, none] [] hp) P N) : DoesP h R p tp s1 v1 f0 g0 b len m (fun hp => ev M_Reader_readJoined d 0 [some (.ref R), some (.int x), none, none] [] hp) P (fun s => zXl b len 107 0 108 2 N 1600 (N s)) := by
  have L : ∀ k i s hp, i + k = 1600 → P s → RX h R p tp s1 v1 f0 g0 b len m s hp → wp (ev M_Reader_readJoined d 6 [some (.ref R), some (.int x), some (.int (nI i)), none] [] hp) (fun r h' => r = none ∧ RX h R p tp s1 v1 f0 g0 b len m (zXl b len 107 0 108 2 N k s) h') := by
    intro k
    induction k with
    | zero =>
      intro i s hp hi Ps X
      rw [r_Reader_readJoined_6]
      refine wp_bf (by rw [nI_ltI (by omega) (by decide)]; omega) (wp_s ⟨rfl, X⟩)
    | succ k ih =>
      intro i s hp hi Ps X
      obtain ⟨a1, a2, a3, a4, a5, a6, a7, a8, a9⟩ := RX_sh D X
      have body : ∀ w, w ≤ 3 → wp (ev M_Reader_readJoined d 23 [some (.ref R), some (.int x), some (.int (nI i)), none] [(.int (nI w))] hp) (fun r h' => r = none ∧ RX h R p tp s1 v1 f0 g0 b len m (zXl b len 107 0 108 2 N k (zX (20 + w) (N (zS b len s)))) h') := by
        intro w hw
        rw [r_Reader_readJoined_23]
        refine wp_isC a1 (wp_nnR a2 (wp_isC a4 (wp_rV (rd_step D X) ?_)))
        rintro v h1 ⟨e1, X1⟩
        refine ⟨e1, ?_⟩
        obtain ⟨b1, b2, b3, b4, b5, b6, b7, b8, b9⟩ := RX_sh D X1
        have P1 := HP s (zS b len s) kpS Ps
        refine wp_isC b1 (wp_rV (HN _ _ P1 X1) ?_)
        rintro v h2 ⟨e1, X2⟩
        refine ⟨e1, ?_⟩
        obtain ⟨b1, b2, b3, b4, b5, b6, b7, b8, b9⟩ := RX_sh D X2
        refine wp_isC b1 (wp_nnR b3 (wp_isC b5 ?_))
        rw [nI_add, nI_add]
        refine wp_rV (rd_addX D X2 (by omega)) ?_
        rintro v h3 ⟨e1, X3⟩
        refine ⟨e1, ?_⟩
        exact ih (i + 1) _ _ (by omega) (HP _ _ ((hN _).tr kpX) P1) X3
      rw [r_Reader_readJoined_6]
      refine wp_bt (by rw [nI_ltI (by omega) (by decide)]; omega) (wp_isC a1 (wp_nnR a2 (wp_isC a4 ?_)))
      rw [a8]
      have hT : ev M_Reader_isOrOrLess 0 0 [some (.int (nI (kq b len s)))] [] hp = some (some (.int (nI (decide (kq b len s = 107 ∨ kq b len s = 108)).toNat)), hp) := by
        rw [r_Reader_isOrOrLess_0]
        simp only [r_Reader_isOrOrLess_7]
        apply wp_e
        by_cases q1 : kq b len s = 107
        · rw [decide_eq_true (Or.inl q1)]
          exact wp_bt (by rw [q1]) (wp_isZ (by decide) (wp_s ⟨rfl, rfl⟩))
        refine wp_bf (by rw [kq_eq (by decide)]; exact q1) ?_
        by_cases q2 : kq b len s = 108
        · rw [decide_eq_true (Or.inr q2)]
          exact wp_bt (by rw [q2]) (wp_isZ (by decide) (wp_s ⟨rfl, rfl⟩))
        · rw [decide_eq_false (by rintro (z | z); exact q1 z; exact q2 z)]
          exact wp_bf (by rw [kq_eq (by decide)]; exact q2) (wp_isZ (by decide) (wp_s ⟨rfl, rfl⟩))
      refine wp_rIe hT ?_
      show wp _ (fun r h' => r = none ∧ RX h R p tp s1 v1 f0 g0 b len m (if kq b len s = 107 ∨ kq b len s = 108 then zXl b len 107 0 108 2 N k (zX (20 + if kq b len s = 107 then 0 else 2) (N (zS b len s))) else s) h')
      by_cases q : kq b len s = 107 ∨ kq b len s = 108
      · rw [if_pos q, decide_eq_true q]
        refine wp_bf (by decide) (wp_isC a1 (wp_nnR a2 (wp_isC a4 ?_)))
        rw [a8]
        by_cases q1 : kq b len s = 107
        · rw [if_pos q1]
          exact wp_bt (by rw [q1]) (body 0 (by decide))
        · rw [if_neg q1]
          exact wp_bf (by rw [kq_eq (by decide)]; exact q1) (body 2 (by decide))
      · rw [if_neg q, decide_eq_false q]
        exact wp_bt rfl (wp_s ⟨rfl, X⟩)
  intro s hp Ps X
  obtain ⟨a1, a2, a3, a4, a5, a6, a7, a8, a9⟩ := RX_sh D X
  show wp (ev M_Reader_readJoined d 0 [some (.ref R), some (.int x), none, none] [] hp) _
  rw [r_Reader_readJoined_0]
  refine wp_isC a1 (wp_rV (HN _ _ Ps X) ?_)
  rintro v h1 ⟨e1, X1⟩
  exact ⟨e1, L 1600 0 _ _ (by omega) (HP _ _ (hN _) Ps) X1⟩
def NMs (s : Ps) : Prop := NMB (yN s)
theorem NMs_k : ∀ s s', Keep s s' → NMs s → NMs s' := fun s s' k h i hi => by
  rw [k.1]; exact h i (by rw [k.2.1] at hi; exact hi)
theorem ff_lt {q : Nat → Bool} {j : Nat} : ∀ {n : Nat}, ff q n = some j → j < n
  | 0, h => by cases h
  | n + 1, h => by
    cases z : ff q n with
    | some i =>
      rw [ff_some z (Nat.le_succ n)] at h
      have : i = j := by simpa using h
      have := ff_lt z; omega
    | none =>
      rw [ff_n z] at h
      split at h
      · have : n = j := by simpa using h
        omega
      · cases h
theorem rd_x (D : RDS h R p tp s1 v1) : ∀ n d, d + n = 6 → DoesP h R p tp s1 v1 f0 g0 b len m (fun hp => ev M_Reader_readOne d 0 [some (.ref R), some (.int (nI d))] [] hp) NMs (zJ b len n).1 ∧ DoesP h R p tp s1 v1 f0 g0 b len m (fun hp => ev M_Reader_readJoined d 0 [some (.ref R), some (.int (nI d)), none, none] [] hp) NMs (zJ b len n).2 := by
  intro n
  induction n with
  | zero =>
    intro d hd
    have H1 : DoesP h R p tp s1 v1 f0 g0 b len m (fun hp => ev M_Reader_readOne d 0 [some (.ref R), some (.int (nI d))] [] hp) NMs (zJ b len 0).1 := by
      intro s hp Ps X
      obtain ⟨a1, a2, a3, a4, a5, a6, a7, a8, a9⟩ := RX_sh D X
      show wp (ev M_Reader_readOne d 0 [some (.ref R), some (.int (nI d))] [] hp) _
      rw [r_Reader_readOne_0]
      refine wp_bt (by rw [nI_ltI (by decide) (by omega)]; omega) (wp_isC a1 (wp_rV (rd_fail D X (by decide) (by decide)) ?_))
      rintro v h3 ⟨e1, X3⟩
      exact ⟨e1, wp_s ⟨rfl, X3⟩⟩
    have K1 : ∀ s, Keep s ((zJ b len 0).1 s) := fun s => (kpJ 0 s).1
    refine ⟨H1, ?_⟩
    rw [zJ_2]
    exact rd_joined D NMs_k (fun s => (K1 s).tr (kpXl K1 1600 _)) (rd_met D NMs_k K1 H1)
  | succ n ih =>
    intro d hd
    obtain ⟨I1, I2⟩ := ih (d + 1) (by omega)
    have H1 : DoesP h R p tp s1 v1 f0 g0 b len m (fun hp => ev M_Reader_readOne d 0 [some (.ref R), some (.int (nI d))] [] hp) NMs (zJ b len (n + 1)).1 := by
      intro s hp Ps X
      obtain ⟨a1, a2, a3, a4, a5, a6, a7, a8, a9⟩ := RX_sh D X
      show wp (ev M_Reader_readOne d 0 [some (.ref R), some (.int (nI d))] [] hp) (fun r h' => r = none ∧ RX h R p tp s1 v1 f0 g0 b len m (zOn b len (zJ b len n) s) h')
      rw [r_Reader_readOne_0]
      unfold zOn
      refine wp_bf (by rw [nI_ltI (by decide) (by omega)]; omega) (wp_isC a1 (wp_nnR a2 (wp_isC a4 ?_)))
      rw [a8]
      by_cases q1 : kq b len s = 4
      · rw [if_pos q1]
        obtain ⟨n1, n2, n3, n4⟩ := RX_nm X q1
        refine wp_bt (by rw [q1]) (wp_isC a1 (wp_nnR a3 (wp_isC a1 (wp_nnR a2 (wp_isC a4 (wp_isC a5 ?_))))))
        rw [n3]
        refine wp_rIe (rd_find D X n1 n4 Ps) (wp_isC a1 (wp_rV (rd_leaf D X ?_) ?_))
        · intro k hk
          have := ff_lt hk
          have B := (RX_B X).2.1
          have := B.2.2.1
          have := B.2.2.2.1
          omega
        · rintro v h3 ⟨e1, X3⟩
          exact ⟨e1, wp_s ⟨rfl, X3⟩⟩
      rw [if_neg q1]
      refine wp_bf (by rw [kq_eq (by decide)]; exact q1) ?_
      by_cases q2 : kq b len s = 40
      · rw [if_pos q2]
        refine wp_bt (by rw [q2]) (wp_isC a1 (wp_nnR a2 (wp_isC a4 (wp_rV (rd_step D X) ?_))))
        rintro v h1 ⟨e1, X1⟩
        refine ⟨e1, ?_⟩
        obtain ⟨b1, b2, b3, b4, b5, b6, b7, b8, b9⟩ := RX_sh D X1
        refine wp_isC b1 ?_
        rw [if_pos (by omega), nI_add]
        refine wp_rV (I2 _ _ (NMs_k _ _ kpS Ps) X1) ?_
        rintro v h2 ⟨e1, X2⟩
        refine ⟨e1, ?_⟩
        obtain ⟨b1, b2, b3, b4, b5, b6, b7, b8, b9⟩ := RX_sh D X2
        refine wp_isC b1 (wp_rV (rd_expect D X2 (by decide)) ?_)
        rintro v h3 ⟨e1, X3⟩
        exact ⟨e1, wp_s ⟨rfl, X3⟩⟩
      rw [if_neg q2]
      refine wp_bf (by rw [kq_eq (by decide)]; exact q2) ?_
      by_cases q3 : kq b len s = 111
      · rw [if_pos q3]
        refine wp_bt (by rw [q3]) (wp_isC a1 (wp_nnR a2 (wp_isC a4 (wp_rV (rd_step D X) ?_))))
        rintro v h1 ⟨e1, X1⟩
        refine ⟨e1, ?_⟩
        obtain ⟨b1, b2, b3, b4, b5, b6, b7, b8, b9⟩ := RX_sh D X1
        refine wp_isC b1 ?_
        rw [if_pos (by omega), nI_add]
        refine wp_rV (I1 _ _ (NMs_k _ _ kpS Ps) X1) ?_
        rintro v h2 ⟨e1, X2⟩
        refine ⟨e1, ?_⟩
        obtain ⟨b1, b2, b3, b4, b5, b6, b7, b8, b9⟩ := RX_sh D X2
        refine wp_isC b1 (wp_nnR b3 (wp_isC b5 (wp_rV (rd_addX D X2 (by decide)) ?_)))
        rintro v h3 ⟨e1, X3⟩
        exact ⟨e1, wp_s ⟨rfl, X3⟩⟩
      rw [if_neg q3]
      refine wp_bf (by rw [kq_eq (by decide)]; exact q3) ?_
      by_cases q4 : kq b len s = 112
      · rw [if_pos q4]
        refine wp_bt (by rw [q4]) (wp_isC a1 (wp_rV (rd_leaf (c := some 10) D X (fun k hk => by cases hk; decide)) ?_))
        rintro v h3 ⟨e1, X3⟩
        exact ⟨e1, wp_s ⟨rfl, X3⟩⟩
      rw [if_neg q4]
      refine wp_bf (by rw [kq_eq (by decide)]; exact q4) ?_
      by_cases q5 : kq b len s = 113
      · rw [if_pos q5]
        refine wp_bt (by rw [q5]) (wp_isC a1 (wp_rV (rd_leaf (c := some 11) D X (fun k hk => by cases hk; decide)) ?_))
        rintro v h3 ⟨e1, X3⟩
        exact ⟨e1, wp_s ⟨rfl, X3⟩⟩
      rw [if_neg q5]
      refine wp_bf (by rw [kq_eq (by decide)]; exact q5) (wp_isC a1 (wp_rV (rd_fail D X (by decide) (by decide)) ?_))
      rintro v h3 ⟨e1, X3⟩
      exact ⟨e1, wp_s ⟨rfl, X3⟩⟩
    have K1 : ∀ s, Keep s ((zJ b len (n + 1)).1 s) := fun s => (kpJ (n + 1) s).1
    refine ⟨H1, ?_⟩
    rw [zJ_2]
    exact rd_joined D NMs_k (fun s => (K1 s).tr (kpXl K1 1600 _)) (rd_met D NMs_k K1 H1)
end
