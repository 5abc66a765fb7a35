/-! The plain form's reader: numbers, pairs. -/
/-- what reading pairs leaves as it was -/
def PF (n m : Nat) (f0 f : Nat → Nat → Int32) (g0 g : Nat → Nat → Int64) : Prop := (∀ a, a ≠ m → a ≠ m + 6 → a ≠ m + 7 → a ≠ m + 12 → a ≠ m + 13 → a ≠ m + 14 → a ≠ m + 15 → f a = f0 a) ∧ (∀ k, k < 3 ∨ 8 < k → k ≠ 25 → k ≠ 26 → k ≠ 32 → k ≠ 33 → f m k = f0 m k) ∧ f (m + 6) 0 = f0 (m + 6) 0 ∧ f (m + 7) 0 = f0 (m + 7) 0 ∧ (∀ i, i < 80 + 16 * n → f (m + 12) i = f0 (m + 12) i) ∧ (∀ i, i < 260 → f (m + 13) i = f0 (m + 13) i) ∧ (∀ i, i < 330 → f (m + 14) i = f0 (m + 14) i) ∧ ∀ a, a ≠ m → g a = g0 a
theorem PF.tr {n m : Nat} {f f1 f2 : Nat → Nat → Int32} {g g1 g2 : Nat → Nat → Int64} (a : PF n m f f1 g g1) (b : PF n m f1 f2 g1 g2) : PF n m f f2 g g2 :=
  ⟨fun x h1 h2 h3 h4 h5 h6 h7 => (b.1 x h1 h2 h3 h4 h5 h6 h7).trans (a.1 x h1 h2 h3 h4 h5 h6 h7), fun k h1 h2 h3 h4 h5 => (b.2.1 k h1 h2 h3 h4 h5).trans (a.2.1 k h1 h2 h3 h4 h5), b.2.2.1.trans a.2.2.1, b.2.2.2.1.trans a.2.2.2.1, fun i hi => (b.2.2.2.2.1 i hi).trans (a.2.2.2.2.1 i hi), fun i hi => (b.2.2.2.2.2.1 i hi).trans (a.2.2.2.2.2.1 i hi), fun i hi => (b.2.2.2.2.2.2.1 i hi).trans (a.2.2.2.2.2.2.1 i hi), fun x hx => (b.2.2.2.2.2.2.2 x hx).trans (a.2.2.2.2.2.2.2 x hx)⟩
theorem FR.P {n m : Nat} {f f1 : Nat → Nat → Int32} {g g1 : Nat → Nat → Int64} (a : FR m f f1 g g1) : PF n m f f1 g g1 :=
  ⟨fun x h1 h2 h3 _ h5 h6 h7 => a.1 x h1 h2 h3 h5 h6 h7, a.2.1, a.2.2.1, a.2.2.2.1, fun i _ => by rw [a.1 _ (by omega) (by omega) (by omega) (by omega) (by omega) (by omega)], a.2.2.2.2.1, a.2.2.2.2.2.1, a.2.2.2.2.2.2⟩
theorem PF.rf {n m : Nat} {f : Nat → Nat → Int32} {g : Nat → Nat → Int64} : PF n m f f g g := FR.rf.P
section
variable {h : MH} {f f0 : Nat → Nat → Int32} {g g0 : Nat → Nat → Int64} {m : Nat} {b : Nat → Nat} {len i : Nat} {O : List Int32} {dp d : Nat} {cs : List Nat} {ks : List Kp} {un lv nr : Nat} {nm : Nat → Nat} {s : Ps} {Q : Option Value → MH → Prop}
/-- the frame is begun anew -/
theorem RQ.bs (R : RQ f0 g0 f g m b len i O dp cs ks un lv) : RQ f g f g m b len i O dp cs ks un lv := ⟨R.1, R.2.1, R.2.2.1, R.2.2.2.1, R.2.2.2.2.1, R.2.2.2.2.2.1, R.2.2.2.2.2.2.1, R.2.2.2.2.2.2.2.1, FR.rf⟩
theorem RQ.fr (R : RQ f0 g0 f g m b len i O dp cs ks un lv) : FR m f0 f g0 g := R.2.2.2.2.2.2.2.2
theorem RE.bs {c p : Nat} (R : RE f0 g0 f g m c p) : RE f g f g m c p := ⟨R.1, R.2.1, R.2.2.1, R.2.2.2.1, FR.rf⟩
theorem RE.fr {c p : Nat} (R : RE f0 g0 f g m c p) : FR m f0 f g0 g := R.2.2.2.2
/-- cells that the reader doesn't look at are changed -/
theorem RQ.o {f' : Nat → Nat → Int32} {g' : Nat → Nat → Int64} (R : RQ f0 g0 f g m b len i O dp cs ks un lv) (e : ∀ a, a = m + 1 ∨ a = m + 6 ∨ a = m + 7 ∨ a = m + 13 ∨ a = m + 14 ∨ a = m + 15 → f' a = f a) (em : ∀ k, k < 27 ∨ 30 < k → f' m k = f m k) (eg : g' m = g m) : RQ f' g' f' g' m b len i O dp cs ks un lv := by
  obtain ⟨r1, r2, r3, ⟨r4, t1, t2, t3, t4, t5⟩, -, ⟨r9, r10⟩, ⟨r11, r12⟩, ⟨r13, r14⟩, r15⟩ := R
  exact ⟨r1.c (em _ (by omega)) (e _ (by omega)), by rw [em _ (by omega)]; exact r2, by rw [em _ (by omega)]; exact r3, ⟨r4, by rw [em _ (by omega)]; exact t1, by rw [em _ (by omega)]; exact t2, by rw [em _ (by omega)]; exact t3, fun w => by rw [em _ (by omega)]; exact t4 w, fun w => by rw [eg]; exact t5 w⟩, True.intro, ⟨by rw [em _ (by omega)]; exact r9, fun i c hc => by rw [e _ (by omega)]; exact r10 i c hc⟩, ⟨by rw [e _ (by omega)]; exact r11, fun i c hc => by rw [e _ (by omega)]; exact r12 i c hc⟩, ⟨by rw [e _ (by omega)]; exact r13, by rw [em _ (by omega)]; exact r14⟩, FR.rf⟩
theorem mr_num {lo hi : Nat} (C : MSH h m) (hf : yF s = 0) (R : RN f0 g0 f g m b len O dp s) (h1 : lo ≤ 9999) (h2 : hi ≤ 9999) : ∃ f' g' v, ev M_Mo_number 0 0 [some (.ref m), some (.int (nI lo)), some (.int (nI hi)), none] [] (wI (wL h g) f) = some (some (.int v), wI (wL h g') f') ∧ FR m f f' g g' ∧ ((yF (zM b len lo hi s).2 = 0 ∧ v = nI (zM b len lo hi s).1 ∧ RN f' g' f' g' m b len O dp (zM b len lo hi s).2) ∨ (yF (zM b len lo hi s).2 ≠ 0 ∧ RE f' g' f' g' m (yF (zM b len lo hi s).2) (yP (zM b len lo hi s).2))) := by
  have mc := C.1
  have R : RQ f g f g m b len (yI s) O dp (fxs (vXs (yN s))) (vKs (yN s)) (vUn (yN s)) (yV s) := RQ.bs R
  have ek := kq_0 (b := b) (len := len) hf
  obtain ⟨-, r2, -, ⟨r4, t1, t2, t3, t4, t5⟩, -⟩ := id R
  have q2 : f m 5 = nI 2 ↔ kd b len (yI s) = 3 := by rw [t3]; exact srt_2 _
  have head : ∀ {P : Option Value → MH → Prop}, wp (br (f m 5 = (nI 2))
         (isC (wI (wL h g) f) m 13 (
          rI (ev M_Mo_isIn 0 0 [some (.int (f m 6)), some (.int (nI lo)), some (.int (nI hi))] [] (wI (wL h g) f)) fun y2 h1 =>
          br (y2 = (nI 0))
            (isC h1 m 13 (rV (ev M_Mo_wrong 0 0 [some (.ref m), some (.int (nI 4))] [] h1) fun h3 =>
             ev M_Mo_number 0 23 [some (.ref m), none, none, none] [] h3))
            (ev M_Mo_number 0 23 [some (.ref m), none, none, none] [] h1)))
         (isC (wI (wL h g) f) m 13 (rV (ev M_Mo_wrong 0 0 [some (.ref m), some (.int (nI 2))] [] (wI (wL h g) f)) fun h4 =>
          ev M_Mo_number 0 23 [some (.ref m), none, none, none] [] h4))) P → wp (ev M_Mo_number 0 0 [some (.ref m), some (.int (nI lo)), some (.int (nI hi)), none] [] (wI (wL h g) f)) P := fun {P} w => by
    rw [r_Mo_number_0]
    refine wp_isC mc ?_
    rw [wI_I, r2]
    exact wp_bf (by decide) (wp_isC mc w)
  have bad : ∀ c, 0 < c → c ≤ 5 → (zM b len lo hi s).2 = zF b len c s → ∃ f' g' v, wp (isC (wI (wL h g) f) m 13 (rV (ev M_Mo_wrong 0 0 [some (.ref m), some (.int (nI c))] [] (wI (wL h g) f)) fun h4 =>
          ev M_Mo_number 0 23 [some (.ref m), none, none, none] [] h4)) (fun a e => a = some (Value.int v) ∧ e = wI (wL h g') f') ∧ FR m f f' g g' ∧ ((yF (zM b len lo hi s).2 = 0 ∧ v = nI (zM b len lo hi s).1 ∧ RN f' g' f' g' m b len O dp (zM b len lo hi s).2) ∨ (yF (zM b len lo hi s).2 ≠ 0 ∧ RE f' g' f' g' m (yF (zM b len lo hi s).2) (yP (zM b len lo hi s).2))) := fun c c1 c2 e => by
    obtain ⟨f', a1, a2, a3⟩ := mq_wrongS (s := s) (c := c) C hf R c1 c2
    rw [e]
    refine ⟨f', g, f' m 6, wp_isC mc (wp_rVe a1 ?_), a3.fr, Or.inr ⟨a2, a3.bs⟩⟩
    rw [r_Mo_number_23]
    exact wp_isC mc (wp_isC mc (wp_rIe (me_good C a3) (wp_bt rfl (wp_s ⟨rfl, rfl⟩))))
  by_cases z : kd b len (yI s) = 3
  · have n9 := nv_lt z
    have e6 := t4 z
    have ii := mo_isIn (f m 6) (nI lo) (nI hi) (wI (wL h g) f)
    rw [e6] at ii
    by_cases y : nv b len (yI s) < lo ∨ hi < nv b len (yI s)
    · have ez : zM b len lo hi s = (lo, zF b len 4 s) := by unfold zM; rw [if_pos (by rw [ek]; exact z), if_pos y]
      obtain ⟨f', g', v, a1, a2⟩ := bad 4 (by decide) (by decide) (by rw [ez])
      refine ⟨f', g', v, wp_e (head (wp_bt (q2.mpr z) (wp_isC mc ?_))), a2⟩
      rw [decide_eq_false (by rw [nI_ltI (by omega) (by omega), nI_ltI (by omega) (by omega)]; omega)] at ii
      rw [e6]
      exact wp_rIe ii (wp_bt rfl a1)
    · have ez := zM_o (b := b) (len := len) hf z y
      obtain ⟨f', g', a1, R1⟩ := mq_goOn C R
      rw [ez]
      refine ⟨f', g', nI (nv b len (yI s)), wp_e (head (wp_bt (q2.mpr z) (wp_isC mc ?_))), R1.fr, Or.inl ⟨?_, rfl, ?_⟩⟩
      · rw [decide_eq_true (by rw [nI_ltI (by omega) (by omega), nI_ltI (by omega) (by omega)]; omega)] at ii
        rw [e6]
        refine wp_rIe ii (wp_bf n10 ?_)
        rw [r_Mo_number_23]
        refine wp_isC mc (wp_isC mc (wp_rIe (mq_good C R) (wp_bf n10 (wp_isC mc (wp_rVe a1 (wp_s ⟨?_, rfl⟩))))))
        rw [wI_I, e6]
      · show yF (zS b len s) = 0
        rw [zS_0 hf]; rfl
      · show RN f' g' f' g' m b len O dp (zS b len s)
        rw [zS_0 hf]; exact R1.bs
  · have ez : zM b len lo hi s = (lo, zF b len 2 s) := by unfold zM; rw [if_neg (by rw [ek]; exact z)]
    obtain ⟨f', g', v, a1, a2⟩ := bad 2 (by decide) (by decide) (by rw [ez])
    exact ⟨f', g', v, wp_e (head (wp_bf (fun w => z (q2.mp w)) a1)), a2⟩
theorem me_num {c p : Nat} {x y : Int32} (C : MSH h m) (R : RE f0 g0 f g m c p) : ev M_Mo_number 0 0 [some (.ref m), some (.int x), some (.int y), none] [] (wI (wL h g) f) = some (some (.int (nI 0)), wI (wL h g) f) := by
  rw [r_Mo_number_0]
  refine wp_e (wp_isC C.1 ?_)
  rw [wI_I, R.1]
  exact wp_bt (by rw [nI_ltI (by decide) (by have := R.2.1; omega)]; exact R.2.1.1) (wp_s ⟨rfl, rfl⟩)
theorem mr_size {v : Nat} (C : MSH h m) (e : f (m + 2) 1 = nI v) (hv : v ≤ 4) : ev M_Mo_sizeOf 0 0 [some (.ref m), some (.int (nI 1))] [] (wI (wL h g) f) = some (some (.int (nI (2 ^ v))), wI (wL h g) f) := by
  have mc := C.1
  have ar2 : hR h m 12 = some (m + 2) := (C.2 1 (by decide)).1
  have an2 : hN h (m + 2) = 2 := (C.2 1 (by decide)).2.1
  have ac2 : hC h (m + 2) = 20 := (C.2 1 (by decide)).2.2
  rw [r_Mo_sizeOf_0]
  refine wp_e (wp_isC mc (wp_nnR ar2 (wp_isC ac2 (wp_inA (n := 1) an2 rfl (by decide) (by decide) (wp_s ⟨?_, rfl⟩)))))
  rw [show (nI 1).toNatClampNeg = 1 from rfl, wI_I, e, nm_one (by omega)]
theorem GW.ad {n r c : Nat} {G : Nat → Nat} (V : GW n G) (hr : r < n) (hc : c < n) : GW n (fun j => if j = r then G r ||| 2 ^ c else G j) := by
  refine ⟨V.1, fun j => ?_, fun j hj => ?_⟩
  · show (if j = r then G r ||| 2 ^ c else G j) < 2 ^ n
    split
    · exact Nat.or_lt_two_pow (V.2.1 r) (Nat.pow_lt_pow_right (by decide) hc)
    · exact V.2.1 j
  · show (if j = r then G r ||| 2 ^ c else G j) = 0
    rw [if_neg (by omega)]; exact V.2.2 j hj
theorem zM_lt {lo hi : Nat} (h : lo ≤ hi) : (zM b len lo hi s).1 ≤ hi := (zM_le h).2
/-- what reading pairs ends in -/
def OutP (f0 : Nat → Nat → Int32) (g0 : Nat → Nat → Int64) (f : Nat → Nat → Int32) (g : Nat → Nat → Int64) (m : Nat) (b : Nat → Nat) (len : Nat) (O : List Int32) (dp nr : Nat) (t : Ps) : Prop := PF nr m f0 f g0 g ∧ ((yF t = 0 ∧ RN f g f g m b len O dp t ∧ RF f (m + 12) (80 + 16 * nr) (vGr (yN t) nr) ∧ GW (2 ^ vLv (yN t)) (vGr (yN t) nr)) ∨ (yF t ≠ 0 ∧ RE f g f g m (yF t) (yP t)))
def fin3 (b : Nat → Nat) (len : Nat) (t : Ps) : Ps := if kq b len t = 3 then zF b len 2 t else t
theorem fin3_F {t : Ps} (hf : yF t ≠ 0) : fin3 b len t = t := by unfold fin3; rw [if_neg (by rw [kq_F hf]; decide)]
theorem mr_pairsL {v : Nat} (C : MSH h m) (hv : v ≤ 4) (hn : nr < 5) : ∀ k c s f g, c + k = 40 → yF s = 0 → vNr (yN s) = nr → vLv (yN s) = v → RN f g f g m b len O dp s → f (m + 2) 1 = nI v → RF f (m + 12) (80 + 16 * nr) (vGr (yN s) nr) → GW (2 ^ v) (vGr (yN s) nr) →
    wp (ev M_Mo_pairs 0 3 [some (.ref m), some (.int (nI nr)), some (.int (nI c)), none, none] [] (wI (wL h g) f)) (fun a e => a = none ∧ ∃ f' g', e = wI (wL h g') f' ∧ OutP f g f' g' m b len O dp nr (fin3 b len (zPl b len (2 ^ v - 1) k s))) := by
  have mc := C.1
  have ar12 : hR h m 22 = some (m + 12) := (C.2 11 (by decide)).1
  have an12 : hN h (m + 12) = 160 := (C.2 11 (by decide)).2.1
  have ac12 : hC h (m + 12) = 20 := (C.2 11 (by decide)).2.2
  have hp := Nat.two_pow_pos v
  have h16 := lv_p hv
  -- behind a fault
  have me17 : ∀ x f g c p, f (m + 2) 1 = nI v → RE f g f g m c p → wp (ev M_Mo_pairs 0 17 [some (.ref m), some (.int (nI nr)), some (.int x), none, none] [] (wI (wL h g) f)) (fun a e => a = none ∧ e = wI (wL h g) f) := fun x f g c p e2 R => by
    rw [r_Mo_pairs_17]
    refine wp_isC mc (wp_rIe (mr_size C e2 hv) (wp_isC mc (wp_rIe (me_num C R) (wp_isC mc (wp_rIe (mr_size C e2 hv) (wp_isC mc (wp_rIe (me_num C R) (wp_isC mc (wp_rIe (me_good C R) (wp_bt rfl ?_))))))))))
    rw [r_Mo_pairs_55, r_Mo_pairs_3]
    exact wp_isC mc (wp_rIe (me_good C R) (wp_bt rfl (wp_s ⟨rfl, rfl⟩)))
  intro k
  induction k with
  | zero =>
    intro c s f g hc hf n1 v1 R e2 rf gw
    have ek := kq_0 (b := b) (len := len) hf
    have t3 := R.2.2.2.1.2.2.2.1
    have q2 : f m 5 = nI 2 ↔ kd b len (yI s) = 3 := by rw [t3]; exact srt_2 _
    rw [zPl, r_Mo_pairs_3]
    refine wp_isC mc (wp_rIe (mq_good C R) (wp_bf n10 (wp_isC mc (wp_bi q2 (fun z => ?_) (fun z => ?_)))))
    · obtain ⟨f', a1, a2, a3⟩ := mq_wrongS (s := s) (c := 2) C hf R (by decide) (by decide)
      have e2' : f' (m + 2) 1 = nI v := by rw [a3.fr.1 _ (by omega) (by omega) (by omega) (by omega) (by omega) (by omega)]; exact e2
      have ef : fin3 b len s = zF b len 2 s := if_pos (by rw [ek]; exact z)
      rw [ef]
      refine wp_bt (by rw [show c = 40 by omega]) (wp_isC mc (wp_rVe a1 (wp_w (me17 _ f' g _ _ e2' a3.bs) (fun a e w => ⟨w.1, f', g, w.2, a3.fr.P, Or.inr ⟨a2, a3.bs⟩⟩))))
    · have ef : fin3 b len s = s := if_neg (by rw [ek]; exact z)
      rw [ef]
      exact wp_s ⟨rfl, f, g, rfl, PF.rf, Or.inl ⟨hf, R, rf, by rw [v1]; exact gw⟩⟩
  | succ k ih =>
    intro c s f g hc hf n1 v1 R e2 rf gw
    have ek := kq_0 (b := b) (len := len) hf
    have t3 := R.2.2.2.1.2.2.2.1
    have q2 : f m 5 = nI 2 ↔ kd b len (yI s) = 3 := by rw [t3]; exact srt_2 _
    rw [zPl, r_Mo_pairs_3]
    refine wp_isC mc (wp_rIe (mq_good C R) (wp_bf n10 (wp_isC mc (wp_bi q2 (fun z => ?_) (fun z => ?_)))))
    · rw [if_pos (by rw [ek]; exact z)]
      refine wp_bf (by rw [nI_eq (by omega) (by decide)]; omega) ?_
      have keep1 : Keep s (zM b len 0 (2 ^ v - 1) s).2 := kpM
      have keep2 : Keep (zM b len 0 (2 ^ v - 1) s).2 (zM b len 0 (2 ^ v - 1) (zM b len 0 (2 ^ v - 1) s).2).2 := kpM
      have l1 := zM_lt (b := b) (len := len) (s := s) (Nat.zero_le (2 ^ v - 1))
      have l2 := zM_lt (b := b) (len := len) (s := (zM b len 0 (2 ^ v - 1) s).2) (Nat.zero_le (2 ^ v - 1))
      have stM := st_M (b := b) (len := len) (lo := 0) (hi := 2 ^ v - 1)
      obtain ⟨f1, g1, x1, a1, F1, o1⟩ := mr_num (lo := 0) (hi := 2 ^ v - 1) C hf R (by decide) (by omega)
      have e21 : f1 (m + 2) 1 = nI v := by rw [F1.1 _ (by omega) (by omega) (by omega) (by omega) (by omega) (by omega)]; exact e2
      have sz : nI (2 ^ v) - nI 1 = nI (2 ^ v - 1) := nm_m1 hp
      have stk : ∀ t : Ps, yF t ≠ 0 → ∀ r c', yF (fin3 b len (zPl b len (2 ^ v - 1) k (zAd r c' t))) = yF t ∧ yP (fin3 b len (zPl b len (2 ^ v - 1) k (zAd r c' t))) = yP t := fun t ht r c' => by
        have q := st_Pl (b := b) (len := len) (n := 2 ^ v - 1) k (zAd r c' t) ht
        rw [fin3_F (by rw [q.1]; exact ht), q.1, q.2]; exact ⟨rfl, rfl⟩
      rw [r_Mo_pairs_17]
      refine wp_isC mc (wp_rIe (mr_size C e2 hv) (wp_isC mc ?_))
      rw [sz]
      refine wp_rIe a1 (wp_isC mc (wp_rIe (mr_size C e21 hv) (wp_isC mc ?_)))
      rw [sz]
      generalize hs1 : zM b len 0 (2 ^ v - 1) s = q1 at *
      rcases o1 with ⟨y1, y2, y3⟩ | ⟨y1, y2⟩
      · obtain ⟨f2, g2, x2, a2, F2, o2⟩ := mr_num (lo := 0) (hi := 2 ^ v - 1) C y1 y3 (by decide) (by omega)
        generalize hs2 : zM b len 0 (2 ^ v - 1) q1.2 = q2 at *
        refine wp_rIe a2 (wp_isC mc ?_)
        rcases o2 with ⟨w1, w2, w3⟩ | ⟨w1, w2⟩
        · subst y2; subst w2
          have F12 := F1.tr F2
          have rf2 : RF f2 (m + 12) (80 + 16 * nr) (vGr (yN s) nr) := fun r hr => by rw [F12.1 _ (by omega) (by omega) (by omega) (by omega) (by omega) (by omega)]; exact rf r hr
          have e22 : f2 (m + 2) 1 = nI v := by rw [F12.1 _ (by omega) (by omega) (by omega) (by omega) (by omega) (by omega)]; exact e2
          have kg : vGr (yN q2.2) = vGr (yN s) := keep2.2.2.2.1.trans keep1.2.2.2.1
          have kn : vNr (yN q2.2) = nr := (keep2.2.1.trans keep1.2.1).trans n1
          have kv : vLv (yN q2.2) = v := (keep2.2.2.1.trans keep1.2.2.1).trans v1
          refine wp_rIe (mq_good C w3) (wp_bf n10 ?_)
          refine wp_isC mc (wp_nnR ar12 ?_)
          simp only [pk_mul, nI_add]
          refine wp_isC ac12 (wp_inA an12 rfl (by omega) (by omega) (wp_isC ac12 (wp_inA an12 rfl (by omega) (by omega) ?_)))
          rw [nI_clamp (by omega), wI_I, rf2 q1.1 (by omega), nm_one (by omega), nm_or, wI_s, r_Mo_pairs_55, nI_add]
          have R3 : RN (up2 f2 (m + 12) (80 + 16 * nr + q1.1) (nI (vGr (yN s) nr q1.1 ||| 2 ^ q2.1))) g2 (up2 f2 (m + 12) (80 + 16 * nr + q1.1) (nI (vGr (yN s) nr q1.1 ||| 2 ^ q2.1))) g2 m b len O dp (zAd q1.1 q2.1 q2.2) := RQ.o w3 (fun a ha => up2_a (by omega)) (fun k _ => by rw [up2_a (by omega)]) rfl
          have eg : vGr (yN (zAd q1.1 q2.1 q2.2)) nr = fun j => if j = q1.1 then vGr (yN s) nr q1.1 ||| 2 ^ q2.1 else vGr (yN s) nr j := by
            show (if nr = vNr (yN q2.2) then (fun j => if j = q1.1 then vGr (yN q2.2) (vNr (yN q2.2)) q1.1 ||| 2 ^ q2.1 else vGr (yN q2.2) (vNr (yN q2.2)) j) else vGr (yN q2.2) nr) = _
            rw [kn, if_pos rfl, kg]
          have := ih (c + 1) (zAd q1.1 q2.1 q2.2) _ g2 (by omega) w1 kn kv R3 (by rw [up2_a (by omega)]; exact e22) (fun r hr => by
            rw [eg, up2_i]
            show (if 80 + 16 * nr + r = 80 + 16 * nr + q1.1 then _ else _) = nI (if r = q1.1 then _ else _)
            by_cases y : r = q1.1
            · rw [if_pos (by omega), if_pos y]
            · rw [if_neg (by omega), if_neg y]; exact rf2 r hr) (by rw [eg]; exact gw.ad (by omega) (by omega))
          refine wp_w this (fun a e w => ?_)
          obtain ⟨e1, f', g', e2, p1, p2⟩ := w
          refine ⟨e1, f', g', e2, PF.tr (PF.tr F12.P ?_) p1, p2⟩
          exact ⟨fun a _ _ _ h4 _ _ _ => up2_a h4, fun k _ _ _ _ _ => by rw [up2_a (by omega)], by rw [up2_a (by omega)], by rw [up2_a (by omega)], fun i hi => up2_k (by omega), fun i _ => by rw [up2_a (by omega)], fun i _ => by rw [up2_a (by omega)], fun _ _ => rfl⟩
        · obtain ⟨z1, z2⟩ := stk q2.2 w1 q1.1 q2.1
          refine wp_rIe (me_good C w2) (wp_bt rfl ?_)
          rw [r_Mo_pairs_55, r_Mo_pairs_3]
          refine wp_isC mc (wp_rIe (me_good C w2) (wp_bt rfl (wp_s ⟨rfl, f2, g2, rfl, (F1.tr F2).P, Or.inr ⟨by rw [z1]; exact w1, ?_⟩⟩)))
          rw [z1, z2]; exact w2
      · have y3 := stM q1.2 y1
        have w1 : yF (zM b len 0 (2 ^ v - 1) q1.2).2 ≠ 0 := by rw [y3.1]; exact y1
        obtain ⟨z1, z2⟩ := stk (zM b len 0 (2 ^ v - 1) q1.2).2 w1 q1.1 (zM b len 0 (2 ^ v - 1) q1.2).1
        refine wp_rIe (me_num C y2) (wp_isC mc (wp_rIe (me_good C y2) (wp_bt rfl ?_)))
        rw [r_Mo_pairs_55, r_Mo_pairs_3]
        refine wp_isC mc (wp_rIe (me_good C y2) (wp_bt rfl (wp_s ⟨rfl, f1, g1, rfl, F1.P, Or.inr ⟨by rw [z1]; exact w1, ?_⟩⟩)))
        rw [z1, z2, y3.1, y3.2]; exact y2
    · rw [if_neg (by rw [ek]; exact z)]
      have ef : fin3 b len s = s := if_neg (by rw [ek]; exact z)
      rw [ef]
      exact wp_s ⟨rfl, f, g, rfl, PF.rf, Or.inl ⟨hf, R, rf, by rw [v1]; exact gw⟩⟩
theorem mr_pairs (C : MSH h m) (hv : vLv (yN s) ≤ 4) (hn : nr < 5) (hf : yF s = 0) (n1 : vNr (yN s) = nr) (R : RN f g f g m b len O dp s) (e2 : f (m + 2) 1 = nI (vLv (yN s))) (rf : RF f (m + 12) (80 + 16 * nr) (vGr (yN s) nr)) (gw : GW (2 ^ vLv (yN s)) (vGr (yN s) nr)) : ∃ f' g', ev M_Mo_pairs 0 0 [some (.ref m), some (.int (nI nr)), none, none, none] [] (wI (wL h g) f) = some (none, wI (wL h g') f') ∧ OutP f g f' g' m b len O dp nr (zPr b len s) := by
  have key := mr_pairsL (v := vLv (yN s)) C hv hn 40 0 s f g (by decide) hf n1 rfl R e2 rf gw
  obtain ⟨v, hh, e1, e2, f', g', e3, e4⟩ := key
  subst e2; subst e3
  exact ⟨f', g', by rw [r_Mo_pairs_0]; exact e1, e4⟩
end
