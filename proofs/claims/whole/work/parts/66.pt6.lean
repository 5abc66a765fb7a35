/-! The class's methods: what changes little: the text, what lies there, what is seen, odds. -/
def bT (S : Abs) (t : Nat → Nat) (n : Nat) : Abs := (t, n, aF S, aP S, aQ S, aX S, aD S, aK S, aS S, aB S, aL S, aE S, aM S)
def bH (S : Abs) (d k : Nat) (st : Nat → Sd) : Abs := (aT S, aN S, aF S, aP S, aQ S, aX S, d, k, st, aB S, aL S, aE S, aM S)
def bB (S : Abs) (b : Nat → Option Sd) : Abs := (aT S, aN S, aF S, aP S, aQ S, aX S, aD S, aK S, aS S, b, aL S, aE S, aM S)
def bL (S : Abs) (l : List Nat) : Abs := (aT S, aN S, aF S, aP S, aQ S, aX S, aD S, aK S, aS S, aB S, l, aE S, aM S)
def bE (S : Abs) (e : List Sn) : Abs := (aT S, aN S, aF S, aP S, aQ S, aX S, aD S, aK S, aS S, aB S, aL S, e, aM S)
def bM (S : Abs) (t : Nat) : Abs := (aT S, aN S, aF S, aP S, aQ S, aX S, aD S, aK S, aS S, aB S, aL S, aE S, t)
/-! the text -/
def byt (x : Int32) (k : Nat) : Nat := x.toBitVec.toNat / 2 ^ k % 256
theorem byt_lt (x : Int32) (k : Nat) : byt x k < 256 := Nat.mod_lt _ (by decide)
theorem byt_bv (x : Int32) {k : Nat} (hk : k ≤ 24) : (x >>> (nI k &&& 31)).toBitVec.toNat % 256 = byt x k := by
  have hs : ((nI k &&& 31).toBitVec.smod 32).toNat = k := nm_sm ⟨k, by omega⟩
  have e1 : (x >>> (nI k &&& 31)).toBitVec = x.toBitVec.sshiftRight k := by
    show x.toBitVec.sshiftRight' ((nI k &&& 31).toBitVec.smod 32) = _
    show x.toBitVec.sshiftRight (((nI k &&& 31).toBitVec.smod 32).toNat) = _
    rw [hs]
  rw [e1]
  unfold byt
  apply Nat.eq_of_testBit_eq
  intro i
  rw [show (256 : Nat) = 2 ^ 8 from rfl, Nat.testBit_mod_two_pow, Nat.testBit_mod_two_pow, Nat.testBit_div_two_pow]
  by_cases hi : i < 8
  · rw [decide_eq_true hi, Bool.true_and, Bool.true_and]
    have := BitVec.getLsbD_sshiftRight x.toBitVec k i
    show (x.toBitVec.sshiftRight k).getLsbD i = x.toBitVec.getLsbD (i + k)
    rw [this, decide_eq_false (by omega), if_pos (by omega), Nat.add_comm]
    simp
  · rw [decide_eq_false hi, Bool.false_and, Bool.false_and]
theorem i8_e (y : Int32) : y.toInt8.toInt32 = sb (y.toBitVec.toNat % 256) := by
  unfold sb
  congr 1
  apply Int8.toBitVec_inj.mp
  show y.toBitVec.signExtend 8 = (nI (y.toBitVec.toNat % 256)).toBitVec.signExtend 8
  apply BitVec.eq_of_getLsbD_eq
  intro i hi
  rw [BitVec.getLsbD_signExtend, BitVec.getLsbD_signExtend, if_pos (by omega), if_pos (by omega)]
  congr 1
  show y.toBitVec.toNat.testBit i = (BitVec.ofNat 32 (y.toBitVec.toNat % 2 ^ 8)).getLsbD i
  rw [BitVec.getLsbD_ofNat, Nat.testBit_mod_two_pow, decide_eq_true hi, decide_eq_true (show i < 32 by omega), Bool.true_and, Bool.true_and]
theorem i8_i8 (y : Int32) : y.toInt8.toInt32.toInt8.toInt32 = y.toInt8.toInt32 := by
  congr 1
  apply Int8.toBitVec_inj.mp
  show (y.toInt8.toBitVec.signExtend 32).signExtend 8 = y.toInt8.toBitVec
  apply BitVec.eq_of_getLsbD_eq
  intro i hi
  rw [BitVec.getLsbD_signExtend, BitVec.getLsbD_signExtend, if_pos (by omega), if_pos hi, decide_eq_true hi, decide_eq_true (show i < 32 by omega), Bool.true_and, Bool.true_and]
theorem by_sb (x : Int32) {k : Nat} (hk : k ≤ 24) : Int8.toInt32 (Int32.toInt8 (Int8.toInt32 (Int32.toInt8 (x >>> (nI k &&& 31))))) = sb (byt x k) := by
  rw [i8_i8, i8_e, byt_bv x hk]
/-- four bytes laid down -/
def lay4 (t : Nat → Nat) (n : Nat) (x : Int32) : Nat → Nat := fun i => if i = n then byt x 24 else if i = n + 1 then byt x 16 else if i = n + 2 then byt x 8 else if i = n + 3 then byt x 0 else t i
def feedT (S : Abs) (a b c d e : Int32) : Nat → Nat := lay4 (lay4 (lay4 (lay4 (lay4 (aT S) (aN S) a) (aN S + 4) b) (aN S + 8) c) (aN S + 12) d) (aN S + 16) e
def sFeed (S : Abs) : Int32 := if aN S + 20 ≤ 1600 then nI (aN S + 20) else mI 1
def uFeed (S : Abs) (a b c d e : Int32) : Abs := if aN S + 20 ≤ 1600 then bT S (feedT S a b c d e) (aN S + 20) else S
section
variable {h : MH} {f : Nat → Nat → Int32} {x pa pb s1 v1 : Nat} {S : Abs}
/-- only the object's own numbers and the text change -/
theorem CF_t {f' : Nat → Nat → Int32} {t : Nat → Nat} {n : Nat} (hp : (pa = x + 2 ∧ pb = x + 19) ∨ (pa = x + 19 ∧ pb = x + 2)) (F : CF f (hL h) x pa S) (fr : ∀ a, a ≠ x → a ≠ x + 1 → f' a = f a) (e14 : f' x 14 = f x 14) (e1 : f' x 1 = nI n) (et : ∀ i, i < n → f' (x + 1) i = sb (t i)) (hr : aR S ≤ 5) : CF f' (hL h) x pa (bT S t n) := by
  obtain ⟨⟨ft1, ft2⟩, ⟨fl1, fl2⟩, ⟨fe1, fe2⟩, fkw, fpn, ⟨fg1, fg2⟩, ⟨old, rl, tn, sb', sa, h1, h2⟩, fbx, fsg⟩ := F
  have o := fr
  refine ⟨⟨e1, et⟩, ⟨e14.trans fl1, fun i e he => ?_⟩, ⟨?_, ?_⟩, fkw, ?_, ⟨?_, ?_⟩, ⟨old, rl, tn, sb', sa, ?_, h2⟩, ?_, ?_⟩
  · rw [o _ (by omega) (by omega)]; exact fl2 i e he
  · rw [o _ (by omega) (by omega)]; exact fe1
  · rw [o _ (by omega) (by omega)]; exact fe2
  · obtain ⟨y0, y1, y2, y3, y4, y5, y6, y7, y8, y9, y10⟩ := fpn
    have e0 := o pa (by omega) (by omega)
    refine ⟨by rw [e0]; exact y0, by rw [e0]; exact y1, by rw [e0]; exact y2, by rw [e0]; exact y3, by rw [e0]; exact y4, by rw [e0]; exact y5, by rw [e0]; exact y6, fun i c hc => by rw [o _ (by omega) (by omega)]; exact y7 i c hc, ⟨by rw [o _ (by omega) (by omega)]; exact y8.1, fun i c hc => by rw [o _ (by omega) (by omega)]; exact y8.2 i c hc⟩, fun k hk => ⟨by rw [o _ (by omega) (by omega)]; exact (y9 k hk).1, fun r hr => by rw [o _ (by omega) (by omega)]; exact (y9 k hk).2 r hr⟩, y10⟩
  · rw [o _ (by omega) (by omega)]; exact fg1
  · intro k hk
    exact ⟨by rw [o _ (by omega) (by omega)]; exact (fg2 k hk).1, fun r hr => by rw [o _ (by omega) (by omega)]; exact (fg2 k hk).2 r hr⟩
  · obtain ⟨a1, a2, a3, a4, a5, a6, a7⟩ := h1
    have ez := o (x + 86) (by omega) (by omega)
    refine ⟨by rw [ez]; exact a1, by rw [ez]; exact a2, by rw [ez]; exact a3, a4, a5, a6, fun k hk => ?_⟩
    obtain ⟨c1, c2, c3, c4⟩ := a7 k hk
    exact ⟨by rw [o _ (by omega) (by omega)]; exact c1, by rw [o _ (by omega) (by omega)]; exact c2, by rw [o _ (by omega) (by omega)]; exact c3, fun r hr hs => by rw [o _ (by omega) (by omega)]; exact c4 r hr hs⟩
  · intro b hb
    obtain ⟨b1, b2⟩ := fbx b hb
    have eb := o (x + 132 + 12 * b) (by omega) (by omega)
    refine ⟨by rw [eb]; exact b1, fun s hs => ⟨by rw [eb]; exact (b2 s hs).1, fun k hk => ?_⟩⟩
    have := (b2 s hs).2 k hk
    exact ⟨by rw [o _ (by omega) (by omega)]; exact this.1, fun r hr => by rw [o _ (by omega) (by omega)]; exact this.2 r hr⟩
  · obtain ⟨t0, t1, t2, t3, t4, t5⟩ := fsg
    have es := o (x + 168) (by omega) (by omega)
    refine ⟨by rw [es]; exact t0, by rw [es]; exact t1, by rw [es]; exact t2, by rw [es]; exact t3, fun z => ⟨by rw [o _ (by omega) (by omega)]; exact (t4 z).1, fun r hr => by rw [o _ (by omega) (by omega)]; exact (t4 z).2 r hr⟩, fun i e he => ?_⟩
    rw [o (x + 168 + 3) (by omega) (by omega), o (x + 168 + 4) (by omega) (by omega), o (x + 168 + 5) (by omega) (by omega), o (x + 168 + 6) (by omega) (by omega), o (x + 168 + 7) (by omega) (by omega), o (x + 168 + 8) (by omega) (by omega), o (x + 168 + 9) (by omega) (by omega)]
    exact t5 i e he
theorem pt_lay {n : Nat} {f : Nat → Nat → Int32} {y : Int32} (c0 : hC h x = 12) (q0 : hR h x 0 = some (x + 1)) (tC : hC h (x + 1) = 21) (tN : hN h (x + 1) = 1600) (hn : n + 4 ≤ 1600) (f1 : f x 1 = nI n) : ∃ f', ev M_PT_layBytes 0 0 [some (.ref x), some (.int y), none] [] (wI h f) = some (none, wI h f') ∧ f' x 1 = nI (n + 4) ∧ f' x 14 = f x 14 ∧ (∀ i, f' (x + 1) i = if i = n then sb (byt y 24) else if i = n + 1 then sb (byt y 16) else if i = n + 2 then sb (byt y 8) else if i = n + 3 then sb (byt y 0) else f (x + 1) i) ∧ ∀ a, a ≠ x → a ≠ x + 1 → f' a = f a := by
  have st : ∀ k m f, k ≤ 24 → m < 1600 → f x 1 = nI m → ev M_PT_layBytes 0 3 [some (.ref x), some (.int y), some (.int (nI k))] [] (wI h f) = ev M_PT_layBytes 0 3 [some (.ref x), some (.int y), some (.int (nI k + mI 8))] [] (wI h (up2 (up2 f (x + 1) m (sb (byt y k))) x 1 (nI (m + 1)))) := by
    intro k m f hk hm e
    rw [r_PT_layBytes_3]
    have : ∀ X Y : MRes, br (nI k < nI 0) X Y = Y := fun X Y => if_neg (nI_pos (by omega))
    rw [this]
    have i1 : ∀ X, isC (wI h f) x 12 X = X := fun X => if_pos c0
    rw [i1]
    have i2 : ∀ X Y : MRes, br (hI (wI h f) x 1 < nI 1600) X Y = X := fun X Y => if_pos (by rw [wI_I, e, nI_ltI (by omega) (by decide)]; omega)
    rw [i2, i1, show hR (wI h f) x 0 = some (x + 1) from q0]
    show isC (wI h f) x 12 (isC (wI h f) (x + 1) 21 (inA (wI h f) (x + 1) (hI (wI h f) x 1) _)) = _
    have i3 : ∀ X, isC (wI h f) (x + 1) 21 X = X := fun X => if_pos tC
    rw [i1, i3, wI_I, e, nI_clamp (by omega)]
    have i4 : ∀ X, inA (wI h f) (x + 1) (nI m) X = X := fun X => by
      unfold inA; rw [if_neg]
      rw [show hN (wI h f) (x + 1) = 1600 from tN]; exact nI_in hm (by decide)
    rw [i4, by_sb y hk, wI_s]
    have i5 : ∀ X, isC (wI h (up2 f (x + 1) m (sb (byt y k)))) x 12 X = X := fun X => if_pos c0
    rw [i5, i5, wI_s, wI_I, up2_a (by omega), e, nI_add]
  refine ⟨up2 (up2 (up2 (up2 (up2 (up2 (up2 (up2 f (x + 1) n (sb (byt y 24))) x 1 (nI (n + 1))) (x + 1) (n + 1) (sb (byt y 16))) x 1 (nI (n + 2))) (x + 1) (n + 2) (sb (byt y 8))) x 1 (nI (n + 3))) (x + 1) (n + 3) (sb (byt y 0))) x 1 (nI (n + 4)), ?_, up2_s, ?_, fun i => ?_, fun a h1 h2 => ?_⟩
  · rw [r_PT_layBytes_0, st 24 n f (by decide) (by omega) f1, show nI 24 + mI 8 = nI 16 from by decide, st 16 (n + 1) _ (by decide) (by omega) up2_s, show nI 16 + mI 8 = nI 8 from by decide, st 8 (n + 2) _ (by decide) (by omega) up2_s, show nI 8 + mI 8 = nI 0 from by decide, st 0 (n + 3) _ (by decide) (by omega) up2_s, r_PT_layBytes_3]
    exact if_pos (by decide)
  · simp (disch := omega) only [wI_I, wI_s, nI_add, pk_mul, nI_ltI, nI_leI, nI_eq, nI_clamp, nm_or, nm_and, nm_xor, nm_nd, nm_one, nm_shr, nm_b2, Bool.false_eq_true, Bool.true_eq_false, not_false_eq_true, not_true_eq_false, reduceCtorEq, up2_a, up2_k, up2_s, gw_o]
  · have e : ∀ (g : Nat → Nat → Int32) (m : Nat) (v : Int32), up2 g x 1 v (x + 1) = g (x + 1) := fun g m v => up2_a (by omega)
    rw [e _ 0, up2_i, e _ 0, up2_i, e _ 0, up2_i, e _ 0, up2_i]
    ((repeat' split) <;> (try dsimp only) <;> (repeat' split) <;> (first | rfl | (exfalso; omega) | (subst_vars; rfl) | (subst_vars; exfalso; omega)))
  · simp (disch := omega) only [wI_I, wI_s, nI_add, pk_mul, nI_ltI, nI_leI, nI_eq, nI_clamp, nm_or, nm_and, nm_xor, nm_nd, nm_one, nm_shr, nm_b2, Bool.false_eq_true, Bool.true_eq_false, not_false_eq_true, not_true_eq_false, reduceCtorEq, up2_a, up2_k, up2_s, gw_o]
theorem lay_t {n m : Nat} {f f' : Nat → Nat → Int32} {t : Nat → Nat} {y : Int32} (hm : m = n + 4) (ht : ∀ i, i < n → f (x + 1) i = sb (t i)) (e : ∀ i, f' (x + 1) i = if i = n then sb (byt y 24) else if i = n + 1 then sb (byt y 16) else if i = n + 2 then sb (byt y 8) else if i = n + 3 then sb (byt y 0) else f (x + 1) i) : ∀ i, i < m → f' (x + 1) i = sb (lay4 t n y i) := by
  intro i hi
  rw [e i]
  unfold lay4
  by_cases z0 : i = n
  · rw [if_pos z0, if_pos z0]
  rw [if_neg z0, if_neg z0]
  by_cases z1 : i = n + 1
  · rw [if_pos z1, if_pos z1]
  rw [if_neg z1, if_neg z1]
  by_cases z2 : i = n + 2
  · rw [if_pos z2, if_pos z2]
  rw [if_neg z2, if_neg z2]
  by_cases z3 : i = n + 3
  · rw [if_pos z3, if_pos z3]
  rw [if_neg z3, if_neg z3]
  exact ht i (by omega)
theorem c_feed (C : CSH h x pa pb s1 v1) (F : CF f (hL h) x pa S) (W : WS S) (a b c d e : Int32) : ∃ f', ev M_PT_feed 0 0 [some (.ref x), some (.int a), some (.int b), some (.int c), some (.int d), some (.int e)] [] (wI h f) = some (some (.int (sFeed S)), wI h f') ∧ CF f' (hL h) x pa (uFeed S a b c d e) ∧ Fr x (x + 222) f f' := by
  obtain ⟨⟨c0, q0, q2, q3, q4, q5, q6, q7, q8, q9, q10, q11, q12, q13⟩, PA, PB, RSH, HSH, ⟨bC, bN, bR⟩, ISH, TSH, TSH2, GSH, SSH, ⟨lC, lN1, tC, tN⟩, ⟨rC, rR1, sC, sR1, wC, wN⟩, STR, ⟨sx1, sx2, x0⟩, PP⟩ := id C
  obtain ⟨⟨ft1, ft2⟩, ⟨fl1, fl2⟩, ⟨fe1, fe2⟩, fkw, fpn, ⟨fg1, fg2⟩, fhist, fbx, fsg⟩ := id F
  obtain ⟨⟨ws1, ws2⟩, ⟨ws3, ws4⟩, wpn, ⟨ws5, ws6, ws7⟩, ws8, ⟨ws9, ws10⟩, ⟨ws11, ws12⟩, ws13⟩ := id W
  have p1 := PA.1
  have r1 := RSH.1
  have r2 := RSH.2.1
  have r3 := RSH.2.2.1
  have r4 := RSH.2.2.2.1
  have hv1 : 1 ≤ aV S := wpn.1.1
  have hv4 : aV S ≤ 4 := wpn.1.2.1
  have hr5 : aR S ≤ 5 := wpn.1.2.2.2.1
  have hn16 : aW S ≤ 16 := lv_p hv4
  have fp0 : f pa 0 = nI (aV S) := fpn.1
  have fp1 : f pa 1 = nI (aR S) := fpn.2.1
  have gSH := GSH.1
  have tSH := TSH.1
  have sSH := SSH.1
  have iSH := ISH.1
  have hSH := HSH.1
  rw [r_PT_feed_0]
  unfold sFeed uFeed
  by_cases q : aN S + 20 ≤ 1600
  · rw [if_pos q, if_pos q]
    obtain ⟨f1, a1, a2, a3, a4, a5⟩ := pt_lay (y := a) c0 q0 tC tN (n := aN S) (by omega) ft1
    obtain ⟨f2, b1, b2, b3, b4, b5⟩ := pt_lay (y := b) c0 q0 tC tN (n := aN S + 4) (by omega) a2
    obtain ⟨f3, d1, d2, d3, d4, d5⟩ := pt_lay (y := c) c0 q0 tC tN (n := aN S + 4 + 4) (by omega) b2
    obtain ⟨f4, e1, e2, e3, e4, e5⟩ := pt_lay (y := d) c0 q0 tC tN (n := aN S + 4 + 4 + 4) (by omega) d2
    obtain ⟨f5, g1, g2, g3, g4, g5⟩ := pt_lay (y := e) c0 q0 tC tN (n := aN S + 4 + 4 + 4 + 4) (by omega) e2
    have o : ∀ y, y ≠ x → y ≠ x + 1 → f5 y = f y := fun y h1 h2 => by rw [g5 y h1 h2, e5 y h1 h2, d5 y h1 h2, b5 y h1 h2, a5 y h1 h2]
    refine ⟨f5, ?_, CF_t PP F o (by rw [g3, e3, d3, b3, a3]) g2 ?_ hr5, fun y hy => o y (by omega) (by omega)⟩
    · apply wp_e
      refine wp_isC c0 ?_
      rw [wI_I, ft1, nI_add]
      refine wp_bf (by rw [nI_ltI (by decide) (by omega)]; omega) (wp_isC c0 (wp_rVe a1 (wp_isC c0 (wp_rVe b1 (wp_isC c0 (wp_rVe d1 (wp_isC c0 (wp_rVe e1 (wp_isC c0 (wp_rVe g1 (wp_isC c0 ?_)))))))))))
      rw [wI_I, g2]
      exact wp_s ⟨rfl, rfl⟩
    · exact lay_t rfl (lay_t rfl (lay_t rfl (lay_t rfl (lay_t rfl ft2 a4) b4) d4) e4) g4
  · rw [if_neg q, if_neg q]
    refine ⟨f, wp_e (wp_isC c0 ?_), F, Fr.rf⟩
    rw [wI_I, ft1, nI_add]
    exact wp_bt (by rw [nI_ltI (by decide) (by omega)]; omega) (wp_s ⟨rfl, rfl⟩)
def sEnd (S : Abs) (n : Int32) : Int32 := on (inN n (aN S + 1)) fun m => nI m
def uEnd (S : Abs) (n : Int32) : Abs := match inN n (aN S + 1) with
  | some m => bT S (aT S) m
  | none => S
theorem c_end (C : CSH h x pa pb s1 v1) (F : CF f (hL h) x pa S) (W : WS S) (n : Int32) : ∃ f', ev M_PT_end 0 0 [some (.ref x), some (.int n)] [] (wI h f) = some (some (.int (sEnd S n)), wI h f') ∧ CF f' (hL h) x pa (uEnd S n) ∧ Fr x (x + 222) f f' := by
  obtain ⟨⟨c0, q0, q2, q3, q4, q5, q6, q7, q8, q9, q10, q11, q12, q13⟩, PA, PB, RSH, HSH, ⟨bC, bN, bR⟩, ISH, TSH, TSH2, GSH, SSH, ⟨lC, lN1, tC, tN⟩, ⟨rC, rR1, sC, sR1, wC, wN⟩, STR, ⟨sx1, sx2, x0⟩, PP⟩ := id C
  obtain ⟨⟨ft1, ft2⟩, ⟨fl1, fl2⟩, ⟨fe1, fe2⟩, fkw, fpn, ⟨fg1, fg2⟩, fhist, fbx, fsg⟩ := id F
  obtain ⟨⟨ws1, ws2⟩, ⟨ws3, ws4⟩, wpn, ⟨ws5, ws6, ws7⟩, ws8, ⟨ws9, ws10⟩, ⟨ws11, ws12⟩, ws13⟩ := id W
  have p1 := PA.1
  have r1 := RSH.1
  have r2 := RSH.2.1
  have r3 := RSH.2.2.1
  have r4 := RSH.2.2.2.1
  have hv1 : 1 ≤ aV S := wpn.1.1
  have hv4 : aV S ≤ 4 := wpn.1.2.1
  have hr5 : aR S ≤ 5 := wpn.1.2.2.2.1
  have hn16 : aW S ≤ 16 := lv_p hv4
  have fp0 : f pa 0 = nI (aV S) := fpn.1
  have fp1 : f pa 1 = nI (aR S) := fpn.2.1
  have gSH := GSH.1
  have tSH := TSH.1
  have sSH := SSH.1
  have iSH := ISH.1
  have hSH := HSH.1
  rw [r_PT_end_0]
  unfold sEnd uEnd
  cases z : inN n (aN S + 1) with
  | none =>
    refine ⟨f, wp_e ?_, F, Fr.rf⟩
    rcases inN_n z (by omega) with q | ⟨q, w2⟩
    · exact wp_bt q (wp_s ⟨rfl, rfl⟩)
    · obtain ⟨j, hj, e⟩ := nI_of q
      subst e
      refine wp_bf q (wp_isC c0 ?_)
      rw [wI_I, ft1]
      rw [nI_ltI hj (by omega)] at w2
      exact wp_bt (by rw [nI_ltI (by omega) hj]; omega) (wp_s ⟨rfl, rfl⟩)
  | some m =>
    obtain ⟨m1, m2, m3⟩ := inN_s z
    subst m1
    refine ⟨up2 f x 1 (nI m), wp_e (wp_bf (nI_pos m3) (wp_isC c0 ?_)), CF_t PP F (fun a h1 _ => up2_a h1) (up2_k (by decide)) up2_s (fun i hi => by rw [up2_a (by omega)]; exact ft2 i (by omega)) hr5, Fr.u2 (by omega) (by omega)⟩
    rw [wI_I, ft1]
    exact wp_bf (by rw [nI_ltI (by omega) m3]; omega) (wp_isC c0 (wp_s ⟨rfl, rfl⟩))
/-! what lies there -/
theorem CF_l {f' : Nat → Nat → Int32} {l : List Nat} (F : CF f (hL h) x pa S) (fr : ∀ a, a ≠ x → a ≠ x + 221 → f' a = f a) (ek : ∀ k, k ≠ 14 → f' x k = f x k) (e14 : f' x 14 = nI l.length) (el : ∀ i e, l[i]? = some e → f' (x + 221) i = nI e) (hp : (pa = x + 2 ∧ pb = x + 19) ∨ (pa = x + 19 ∧ pb = x + 2)) (hr : aR S ≤ 5) : CF f' (hL h) x pa (bL S l) := by
  have key := CF_t (f' := fun a k => if a = x ∧ k = 14 then f x 14 else f' a k) (t := aT S) (n := aN S) hp F
  obtain ⟨⟨ft1, ft2⟩, ⟨fl1, fl2⟩, ⟨fe1, fe2⟩, fkw, fpn, ⟨fg1, fg2⟩, ⟨old, rl, tn, sb', sa, h1, h2⟩, fbx, fsg⟩ := F
  have o := fr
  refine ⟨⟨(ek 1 (by decide)).trans ft1, fun i hi => by rw [o _ (by omega) (by omega)]; exact ft2 i hi⟩, ⟨e14, el⟩, ⟨?_, ?_⟩, fkw, ?_, ⟨?_, ?_⟩, ⟨old, rl, tn, sb', sa, ?_, h2⟩, ?_, ?_⟩
  · rw [o _ (by omega) (by omega)]; exact fe1
  · rw [o _ (by omega) (by omega)]; exact fe2
  · obtain ⟨y0, y1, y2, y3, y4, y5, y6, y7, y8, y9, y10⟩ := fpn
    have e0 := o pa (by omega) (by omega)
    refine ⟨by rw [e0]; exact y0, by rw [e0]; exact y1, by rw [e0]; exact y2, by rw [e0]; exact y3, by rw [e0]; exact y4, by rw [e0]; exact y5, by rw [e0]; exact y6, fun i c hc => by rw [o _ (by omega) (by omega)]; exact y7 i c hc, ⟨by rw [o _ (by omega) (by omega)]; exact y8.1, fun i c hc => by rw [o _ (by omega) (by omega)]; exact y8.2 i c hc⟩, fun k hk => ⟨by have hk : k < aR S := hk; rw [o _ (by omega) (by omega)]; exact (y9 k hk).1, fun r hr => by have hk : k < aR S := hk; rw [o _ (by omega) (by omega)]; exact (y9 k hk).2 r hr⟩, y10⟩
  · rw [o _ (by omega) (by omega)]; exact fg1
  · intro k hk
    have hk : k < aR S := hk
    exact ⟨by rw [o _ (by omega) (by omega)]; exact (fg2 k hk).1, fun r hr => by rw [o _ (by omega) (by omega)]; exact (fg2 k hk).2 r hr⟩
  · obtain ⟨a1, a2, a3, a4, a5, a6, a7⟩ := h1
    have ez := o (x + 86) (by omega) (by omega)
    refine ⟨by rw [ez]; exact a1, by rw [ez]; exact a2, by rw [ez]; exact a3, a4, a5, a6, fun k hk => ?_⟩
    obtain ⟨c1, c2, c3, c4⟩ := a7 k hk
    have hm : (old + k) % 40 < 40 := Nat.mod_lt _ (by decide)
    exact ⟨by rw [o _ (by omega) (by omega)]; exact c1, by rw [o _ (by omega) (by omega)]; exact c2, by rw [o _ (by omega) (by omega)]; exact c3, fun r hr hs => by rw [o _ (by omega) (by omega)]; exact c4 r hr hs⟩
  · intro b hb
    obtain ⟨b1, b2⟩ := fbx b hb
    have eb := o (x + 132 + 12 * b) (by omega) (by omega)
    refine ⟨by rw [eb]; exact b1, fun s hs => ⟨by rw [eb]; exact (b2 s hs).1, fun k hk => ?_⟩⟩
    have hk : k < aR S := hk
    have := (b2 s hs).2 k hk
    exact ⟨by rw [o _ (by omega) (by omega)]; exact this.1, fun r hr => by rw [o _ (by omega) (by omega)]; exact this.2 r hr⟩
  · obtain ⟨t0, t1, t2, t3, t4, t5⟩ := fsg
    have es := o (x + 168) (by omega) (by omega)
    refine ⟨by rw [es]; exact t0, by rw [es]; exact t1, by rw [es]; exact t2, by rw [es]; exact t3, fun z => ⟨by rw [o _ (by omega) (by omega)]; exact (t4 z).1, fun r hr => by rw [o _ (by omega) (by omega)]; exact (t4 z).2 r hr⟩, fun i e he => ?_⟩
    rw [o (x + 168 + 3) (by omega) (by omega), o (x + 168 + 4) (by omega) (by omega), o (x + 168 + 5) (by omega) (by omega), o (x + 168 + 6) (by omega) (by omega), o (x + 168 + 7) (by omega) (by omega), o (x + 168 + 8) (by omega) (by omega), o (x + 168 + 9) (by omega) (by omega)]
    exact t5 i e he
end
