/-! The plain form's reader between x and the formula: what waits isn't looked at. -/
def RQ (f0 : Nat → Nat → Int32) (g0 : Nat → Nat → Int64) (f : Nat → Nat → Int32) (g : Nat → Nat → Int64) (m : Nat) (b : Nat → Nat) (len i : Nat) (_ : List Int32) (_ : Nat) (cs : List Nat) (ks : List Kp) (un lv : Nat) : Prop :=
  MB f m b len ∧ f m 7 = nI 0 ∧ f m 8 = mI 1 ∧ (i ≤ len ∧ MTK f g m b len i) ∧ True ∧ sXc f m cs ∧ sKc f m ks ∧ (f (m + 7) 1 = nI un ∧ f m 26 = nI lv) ∧ FR m f0 f g0 g
def RN (f0 : Nat → Nat → Int32) (g0 : Nat → Nat → Int64) (f : Nat → Nat → Int32) (g : Nat → Nat → Int64) (m : Nat) (b : Nat → Nat) (len : Nat) (O : List Int32) (d : Nat) (s : Ps) : Prop := RQ f0 g0 f g m b len (yI s) O d (fxs (vXs (yN s))) (vKs (yN s)) (vUn (yN s)) (yV s)
def ResQ (f0 : Nat → Nat → Int32) (g0 : Nat → Nat → Int64) (f : Nat → Nat → Int32) (g : Nat → Nat → Int64) (m : Nat) (b : Nat → Nat) (len : Nat) (O : List Int32) (d : Nat) (s : Ps) : Prop := (yF s = 0 ∧ RN f0 g0 f g m b len O d s) ∨ (yF s ≠ 0 ∧ RE f0 g0 f g m (yF s) (yP s))
section
variable {h : MH} {f f0 : Nat → Nat → Int32} {g g0 : Nat → Nat → Int64} {m : Nat} {b : Nat → Nat} {len i : Nat} {O : List Int32} {dp : Nat} {cs : List Nat} {ks : List Kp} {un lv nr : Nat} {nm : Nat → Nat} {s : Ps}
theorem mq_goOn (C : MSH h m) (R : RQ f0 g0 f g m b len i O dp cs ks un lv) : ∃ f' g', ev M_Mo_goOn 0 0 [some (.ref m), none] [] (wI (wL h g) f) = some (none, wI (wL h g') f') ∧ RQ f0 g0 f' g' m b len (nx b len i) O dp cs ks un lv := by
  obtain ⟨r1, r2, r3, ⟨r4, r5⟩, -, ⟨r9, r10⟩, ⟨r11, r12⟩, ⟨r13, r14⟩, r15⟩ := R
  obtain ⟨f', g', a1, a2, a3, a4, a5⟩ := mo_goOn (g := g) C r1 (nx_le r4) r5.1
  exact ⟨f', g', a1, r1.c (a4 _ (by decide)) (a3 _ (by omega)), by rw [a4 _ (by decide)]; exact r2, by rw [a4 _ (by decide)]; exact r3, ⟨nx_le r4, a2⟩, True.intro, ⟨by rw [a4 _ (by decide)]; exact r9, fun i c hc => by rw [a3 _ (by omega)]; exact r10 i c hc⟩, ⟨by rw [a3 _ (by omega)]; exact r11, fun i c hc => by rw [a3 _ (by omega)]; exact r12 i c hc⟩, ⟨by rw [a3 _ (by omega)]; exact r13, by rw [a4 _ (by decide)]; exact r14⟩, r15.tr ⟨fun x h1 _ _ _ _ _ => a3 x h1, fun k h1 _ _ _ _ => a4 k (by omega), by rw [a3 _ (by omega)], by rw [a3 _ (by omega)], fun i _ => by rw [a3 _ (by omega)], fun i _ => by rw [a3 _ (by omega)], fun x hx => a5 x hx⟩⟩
theorem mq_wrong (C : MSH h m) (R : RQ f0 g0 f g m b len i O dp cs ks un lv) {c : Nat} (h1 : 0 < c) (h2 : c ≤ 5) : ∃ f', ev M_Mo_wrong 0 0 [some (.ref m), some (.int (nI c))] [] (wI (wL h g) f) = some (none, wI (wL h g) f') ∧ RE f0 g0 f' g m (if kd b len i = 1 then 1 else c) (pl b len i) := by
  have mc := C.1
  obtain ⟨r1, r2, r3, ⟨r4, r5⟩, -, -, -, -, r15⟩ := R
  obtain ⟨t1, t2, t3, -, -⟩ := r5
  have hp := pl_le (b := b) r4
  have := r1.2.1
  have fin : ∀ x, wp (ev M_Mo_wrong 0 13 [some (.ref m), none] [(.int x), (.ref m)] (wI (wL h g) f)) (fun a c => a = none ∧ c = wI (wL h g) (up2 (up2 f m 7 x) m 8 (nI (pl b len i)))) := fun x => by
    rw [r_Mo_wrong_13]
    refine wp_isC mc ?_
    rw [wI_s]
    refine wp_isC mc (wp_isC mc ?_)
    rw [wI_I, up2_k (by decide), t2, wI_s]
    exact wp_s ⟨rfl, rfl⟩
  have fr : ∀ x, FR m f (up2 (up2 f m 7 x) m 8 (nI (pl b len i))) g g := fun x => ⟨fun a h1 _ _ _ _ _ => by rw [up2_a h1, up2_a h1], fun k h1 _ _ _ _ => by rw [up2_k (by omega), up2_k (by omega)], by rw [up2_a (by omega), up2_a (by omega)], by rw [up2_a (by omega), up2_a (by omega)], fun i _ => by rw [up2_a (by omega), up2_a (by omega)], fun i _ => by rw [up2_a (by omega), up2_a (by omega)], fun _ _ => rfl⟩
  by_cases z : kd b len i = 1
  · rw [if_pos z]
    refine ⟨_, wp_e ?_, by rw [up2_k (by decide), up2_s], ⟨by decide, by decide⟩, up2_s, by omega, r15.tr (fr (nI 1))⟩
    rw [r_Mo_wrong_0]
    refine wp_isC mc ?_
    rw [wI_I, r2]
    refine wp_bf (by decide) (wp_isC mc (wp_bt ?_ (fin _)))
    rw [t3, srt_3]; exact z
  · rw [if_neg z]
    refine ⟨_, wp_e ?_, by rw [up2_k (by decide), up2_s], ⟨h1, h2⟩, up2_s, by omega, r15.tr (fr (nI c))⟩
    rw [r_Mo_wrong_0]
    refine wp_isC mc ?_
    rw [wI_I, r2]
    refine wp_bf (by decide) (wp_isC mc (wp_bf ?_ (fin _)))
    rw [t3, srt_3]; exact z
theorem mq_good (C : MSH h m) (R : RQ f0 g0 f g m b len i O dp cs ks un lv) : ev M_Mo_isGood 0 0 [some (.ref m)] [] (wI (wL h g) f) = some (some (.int (nI 1)), wI (wL h g) f) := by
  rw [r_Mo_isGood_0]
  refine wp_e (wp_isC C.1 ?_)
  rw [wI_I, R.2.1]
  exact wp_bt rfl (wp_isZ (by decide) (wp_s ⟨rfl, rfl⟩))
theorem mq_word (C : MSH h m) (R : RQ f0 g0 f g m b len i O dp cs ks un lv) {j : Nat} (hj : j < 18) : ev M_Mo_isWord 0 0 [some (.ref m), some (.long (lN (KW j))), none] [] (wI (wL h g) f) = some (some (.int (nI (decide (kd b len i = 100 + j)).toNat)), wI (wL h g) f) := by
  have mc := C.1
  obtain ⟨-, r2, -, ⟨r4, r5⟩, -⟩ := R
  obtain ⟨t1, t2, t3, -, t5⟩ := r5
  rw [r_Mo_isWord_0]
  refine wp_e (wp_isC mc ?_)
  have q1 : f m 5 = nI 1 ↔ kd b len i = 4 ∨ 100 ≤ kd b len i := by rw [t3]; exact srt_1 i
  rw [wI_I, r2]
  refine wp_bt rfl (wp_isC mc (wp_bi q1 (fun z => ?_) (fun z => ?_)))
  · have e := kd_w z
    have wl := wv_lt i r4 z
    have kl : KW j < 2 ^ 62 := KW_lt ⟨j, hj⟩
    refine wp_isC mc (wp_bi (lg_c _ _) (fun y => ?_) (fun y => ?_))
    · have y : g m 11 = lN (KW j) := y
      rw [t5 z, pk_lEQ wl (by omega)] at y
      rw [decide_eq_true (by rw [e, kwf_e hj]; exact y)]
      exact wp_isZ (by decide) (wp_s ⟨rfl, rfl⟩)
    · have y : ¬ g m 11 = lN (KW j) := y
      rw [t5 z, pk_lEQ wl (by omega)] at y
      rw [decide_eq_false (by rw [e, kwf_e hj]; exact y)]
      exact wp_isZ (by decide) (wp_s ⟨rfl, rfl⟩)
  · rw [decide_eq_false (by omega)]
    exact wp_isZ (by decide) (wp_s ⟨rfl, rfl⟩)
theorem mq_mark (C : MSH h m) (R : RQ f0 g0 f g m b len i O dp cs ks un lv) {c : Nat} (h1 : 37 ≤ c) (h2 : c ≤ 62) : ev M_Mo_isMark 0 0 [some (.ref m), some (.int (nI c))] [] (wI (wL h g) f) = some (some (.int (nI (decide (kd b len i = c)).toNat)), wI (wL h g) f) := by
  have mc := C.1
  obtain ⟨-, r2, -, ⟨r4, r5⟩, -⟩ := R
  rw [r_Mo_isMark_0]
  refine wp_e (wp_isC mc ?_)
  have q1 : f m 5 = nI c ↔ kd b len i = c := by rw [r5.2.2.1]; exact srt_c h1 h2
  rw [wI_I, r2]
  refine wp_bt rfl (wp_isC mc (wp_bi q1 (fun z => ?_) (fun z => ?_)))
  · rw [decide_eq_true z]
    exact wp_isZ (by decide) (wp_s ⟨rfl, rfl⟩)
  · rw [decide_eq_false z]
    exact wp_isZ (by decide) (wp_s ⟨rfl, rfl⟩)
theorem mq_own (C : MSH h m) (R : RQ f0 g0 f g m b len i O dp cs ks un lv) (hk : kd b len i = 4 ∨ 100 ≤ kd b len i) : ev M_Mo_isOwn 0 0 [some (.ref m)] [] (wI (wL h g) f) = some (some (.int (nI (decide (100 ≤ kd b len i)).toNat)), wI (wL h g) f) := by
  have mc := C.1
  obtain ⟨-, -, -, ⟨r4, r5⟩, -⟩ := R
  have t5 := r5.2.2.2.2 hk
  have e := kd_w hk
  have wl := wv_lt i r4 hk
  have t : ∀ j, j < 18 → (lg_cmp (hL (wI (wL h g) f) m 11) (lN (KW j)) = nI 0 ↔ kd b len i = 100 + j) := fun j hj => by
    have kl : KW j < 2 ^ 62 := KW_lt ⟨j, hj⟩
    show lg_cmp (g m 11) (lN (KW j)) = nI 0 ↔ _
    rw [lg_c, t5, pk_lEQ wl (by omega), e, kwf_e hj]
  have y : 100 ≤ kd b len i → wp (isZ (nI 1) (some (some (.int (nI 1)), wI (wL h g) f))) (fun a c => a = some (Value.int (nI (decide (100 ≤ kd b len i)).toNat)) ∧ c = wI (wL h g) f) := fun w => by
    rw [decide_eq_true w]; exact wp_isZ (by decide) (wp_s ⟨rfl, rfl⟩)
  rw [r_Mo_isOwn_0]
  simp only [r_Mo_isOwn_95]
  refine wp_e (wp_isC mc (wp_bi (t 0 (by decide)) (fun z => y (by omega)) (fun z0 => ?_)))
  refine wp_isC mc (wp_bi (t 1 (by decide)) (fun z => y (by omega)) (fun z1 => ?_))
  refine wp_isC mc (wp_bi (t 2 (by decide)) (fun z => y (by omega)) (fun z2 => ?_))
  refine wp_isC mc (wp_bi (t 3 (by decide)) (fun z => y (by omega)) (fun z3 => ?_))
  refine wp_isC mc (wp_bi (t 4 (by decide)) (fun z => y (by omega)) (fun z4 => ?_))
  refine wp_isC mc (wp_bi (t 5 (by decide)) (fun z => y (by omega)) (fun z5 => ?_))
  refine wp_isC mc (wp_bi (t 6 (by decide)) (fun z => y (by omega)) (fun z6 => ?_))
  refine wp_isC mc (wp_bi (t 7 (by decide)) (fun z => y (by omega)) (fun z7 => ?_))
  refine wp_isC mc (wp_bi (t 8 (by decide)) (fun z => y (by omega)) (fun z8 => ?_))
  refine wp_isC mc (wp_bi (t 9 (by decide)) (fun z => y (by omega)) (fun z9 => ?_))
  refine wp_isC mc (wp_bi (t 10 (by decide)) (fun z => y (by omega)) (fun z10 => ?_))
  refine wp_isC mc (wp_bi (t 11 (by decide)) (fun z => y (by omega)) (fun z11 => ?_))
  refine wp_isC mc (wp_bi (t 12 (by decide)) (fun z => y (by omega)) (fun z12 => ?_))
  refine wp_isC mc (wp_bi (t 13 (by decide)) (fun z => y (by omega)) (fun z13 => ?_))
  refine wp_isC mc (wp_bi (t 14 (by decide)) (fun z => y (by omega)) (fun z14 => ?_))
  refine wp_isC mc (wp_bi (t 15 (by decide)) (fun z => y (by omega)) (fun z15 => ?_))
  refine wp_isC mc (wp_bi (t 16 (by decide)) (fun z => y (by omega)) (fun z16 => ?_))
  refine wp_isC mc (wp_bi (t 17 (by decide)) (fun z => y (by omega)) (fun z17 => ?_))
  have := kd_r (b := b) (len := len) i
  rw [decide_eq_false (by omega)]
  exact wp_isZ (by decide) (wp_s ⟨rfl, rfl⟩)
theorem mq_wrongS {c : Nat} (C : MSH h m) (hf : yF s = 0) (R : RQ f0 g0 f g m b len (yI s) O dp cs ks un lv) (h1 : 0 < c) (h2 : c ≤ 5) : ∃ f', ev M_Mo_wrong 0 0 [some (.ref m), some (.int (nI c))] [] (wI (wL h g) f) = some (none, wI (wL h g) f') ∧ yF (zF b len c s) ≠ 0 ∧ RE f0 g0 f' g m (yF (zF b len c s)) (yP (zF b len c s)) := by
  obtain ⟨f', a1, a2⟩ := mq_wrong C R h1 h2
  refine ⟨f', a1, zF_n h1, ?_⟩
  rw [zF_0 hf]; exact a2
theorem RR.q {O' : List Int32} {dp' : Nat} (R : RR f0 g0 f g m b len i O dp cs ks un lv) : RQ f0 g0 f g m b len i O' dp' cs ks un lv := ⟨R.1, R.2.1, R.2.2.1, R.2.2.2.1, True.intro, R.2.2.2.2.2.1, R.2.2.2.2.2.2.1, R.2.2.2.2.2.2.2.1, R.2.2.2.2.2.2.2.2⟩
/-- nothing waits -/
def z33 (f : Nat → Nat → Int32) (m : Nat) : Nat → Nat → Int32 := up2 (up2 f m 32 (nI 0)) m 33 (nI 0)
theorem z33_k {k : Nat} (h1 : k ≠ 32) (h2 : k ≠ 33) : z33 f m m k = f m k := by unfold z33; rw [up2_k h2, up2_k h1]
theorem z33_a {a : Nat} (h1 : a ≠ m) : z33 f m a = f a := by unfold z33; rw [up2_a h1, up2_a h1]
theorem z33_2 : z33 (z33 f m) m = z33 f m := by
  funext x j
  unfold z33 up2
  by_cases e : x = m
  · rw [if_pos e, if_pos e, if_pos e, if_pos e]
    by_cases e2 : j = 33
    · rw [if_pos e2, if_pos e2]
    · rw [if_neg e2, if_neg e2]
      by_cases e3 : j = 32
      · rw [if_pos e3, if_pos e3]
      · rw [if_neg e3, if_neg e3]
  · rw [if_neg e, if_neg e, if_neg e, if_neg e]
theorem z33_F : FR m f (z33 f m) g g := ⟨fun a h1 _ _ _ _ _ => z33_a h1, fun k _ _ _ h4 h5 => z33_k h4 h5, by rw [z33_a (by omega)], by rw [z33_a (by omega)], fun i _ => by rw [z33_a (by omega)], fun i _ => by rw [z33_a (by omega)], fun _ _ => rfl⟩
theorem RQ.z (R : RQ f0 g0 f g m b len i O dp cs ks un lv) : RR (z33 f m) g (z33 f m) g m b len i [] 0 cs ks un lv := by
  obtain ⟨r1, r2, r3, ⟨r4, r5⟩, -, ⟨r9, r10⟩, ⟨r11, r12⟩, ⟨r13, r14⟩, r15⟩ := R
  refine ⟨r1.c (z33_k (by decide) (by decide)) (z33_a (by omega)), by rw [z33_k (by decide) (by decide)]; exact r2, by rw [z33_k (by decide) (by decide)]; exact r3, ⟨r4, r5.c (fun k hk => z33_k (by omega) (by omega))⟩, ⟨?_, ?_, fun i c hc => (by cases hc), by decide⟩, ⟨by rw [z33_k (by decide) (by decide)]; exact r9, fun i c hc => by rw [z33_a (by omega)]; exact r10 i c hc⟩, ⟨by rw [z33_a (by omega)]; exact r11, fun i c hc => by rw [z33_a (by omega)]; exact r12 i c hc⟩, ⟨by rw [z33_a (by omega)]; exact r13, by rw [z33_k (by decide) (by decide)]; exact r14⟩, FR.rf⟩
  · unfold z33; rw [up2_k (by decide), up2_s]; rfl
  · unfold z33; rw [up2_s]
theorem isC_t {h : MH} {a t : Nat} {k : MRes} (e : hC h a = t) : isC h a t k = k := by unfold isC; rw [if_pos e]
theorem mq_x (C : MSH h m) (E : NMm f g m nr nm) (hl : len ≤ 1600) (G : gdM len nr nm s) (hv : yV s ≤ 30) (R : RN f g f g m b len O dp s) : ∃ f' g', ev M_Mo_x 0 0 [some (.ref m), none, none] [] (wI (wL h g) f) = some (none, wI (wL h g') f') ∧ ResQ f g f' g' m b len [] 0 ((zJ b len 6).2 s) := by
  have mc := C.1
  obtain ⟨f', g', a1, a2⟩ := mr_x (h := h) (f := z33 f m) (g := g) (f0 := z33 f m) (g0 := g) (O := []) (dp := 0) (s := s) C ⟨by rw [z33_a (by omega)]; exact E.1, E.2⟩ hl G hv R.z
  refine ⟨f', g', ?_, ?_⟩
  · rw [← a1, r_Mo_x_0, r_Mo_x_0]
    rw [isC_t (h := wI (wL h g) f) mc, isC_t (h := wI (wL h g) (z33 f m)) mc]
    have e : sI (sI (wI (wL h g) f) m 32 (nI 0)) m 33 (nI 0) = sI (sI (wI (wL h g) (z33 f m)) m 32 (nI 0)) m 33 (nI 0) := by
      rw [wI_s, wI_s, wI_s, wI_s]
      show wI (wL h g) (z33 f m) = wI (wL h g) (z33 (z33 f m) m)
      rw [z33_2]
    rw [isC_t (h := sI (wI (wL h g) f) m 32 (nI 0)) mc, isC_t (h := sI (wI (wL h g) (z33 f m)) m 32 (nI 0)) mc]
    rw [e]
  · rcases a2 with ⟨y1, y2⟩ | ⟨y1, y2⟩
    · have q := RR.q (O' := []) (dp' := 0) y2
      exact Or.inl ⟨y1, q.1, q.2.1, q.2.2.1, q.2.2.2.1, True.intro, q.2.2.2.2.2.1, q.2.2.2.2.2.2.1, q.2.2.2.2.2.2.2.1, z33_F.tr q.2.2.2.2.2.2.2.2⟩
    · exact Or.inr ⟨y1, y2.1, y2.2.1, y2.2.2.1, y2.2.2.2.1, z33_F.tr y2.2.2.2.2⟩
theorem mq_formula (C : MSH h m) (hl : len ≤ 1600) (G : gdK len s) (R : RN f g f g m b len O dp s) : ∃ f' g', ev M_Mo_formula 0 0 [some (.ref m), none, none] [] (wI (wL h g) f) = some (none, wI (wL h g') f') ∧ ResQ f g f' g' m b len [] 0 ((zD b len 7).2 s) := by
  have mc := C.1
  obtain ⟨f', g', a1, a2⟩ := mr_formula (h := h) (f := z33 f m) (g := g) (f0 := z33 f m) (g0 := g) (O := []) (dp := 0) (s := s) C hl G R.z
  refine ⟨f', g', ?_, ?_⟩
  · rw [← a1, r_Mo_formula_0, r_Mo_formula_0]
    rw [isC_t (h := wI (wL h g) f) mc, isC_t (h := wI (wL h g) (z33 f m)) mc]
    have e : sI (sI (wI (wL h g) f) m 32 (nI 0)) m 33 (nI 0) = sI (sI (wI (wL h g) (z33 f m)) m 32 (nI 0)) m 33 (nI 0) := by
      rw [wI_s, wI_s, wI_s, wI_s]
      show wI (wL h g) (z33 f m) = wI (wL h g) (z33 (z33 f m) m)
      rw [z33_2]
    rw [isC_t (h := sI (wI (wL h g) f) m 32 (nI 0)) mc, isC_t (h := sI (wI (wL h g) (z33 f m)) m 32 (nI 0)) mc]
    rw [e]
  · rcases a2 with ⟨y1, y2⟩ | ⟨y1, y2⟩
    · have q := RR.q (O' := []) (dp' := 0) y2
      exact Or.inl ⟨y1, q.1, q.2.1, q.2.2.1, q.2.2.2.1, True.intro, q.2.2.2.2.2.1, q.2.2.2.2.2.2.1, q.2.2.2.2.2.2.2.1, z33_F.tr q.2.2.2.2.2.2.2.2⟩
    · exact Or.inr ⟨y1, y2.1, y2.2.1, y2.2.2.1, y2.2.2.2.1, z33_F.tr y2.2.2.2.2⟩
end
