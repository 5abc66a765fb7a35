/-! The class's methods: a text stored. -/
/-- the state after a text with a fault -/
theorem CF_q {f f' : Nat → Nat → Int32} {g g' : Nat → Nat → Int64} {x pa pb fl : Nat} {fp : Option Nat} {S : Abs} (hp : (pa = x + 2 ∧ pb = x + 19) ∨ (pa = x + 19 ∧ pb = x + 2)) (F : CF f g x pa S) (fr : ∀ a, a ≠ x → a ≠ x + 36 → a ≠ x + 37 → a < pb ∨ pb + 17 ≤ a → f' a = f a) (e14 : f' x 14 = f x 14) (e1 : f' x 1 = nI 0) (d0 : f' (x + 36) 0 = nI fl) (d1 : f' (x + 36) 1 = oI fp) (eg : g' (x + 38) = g (x + 38)) (hr : aR S ≤ 5) : CF f' g' x pa (aT S, 0, fl, fp, aQ S, aX S, aD S, aK S, aS S, aB S, aL S, aE S, aM S) := by
  obtain ⟨⟨ft1, ft2⟩, ⟨fl1, fl2⟩, ⟨fe1, fe2⟩, fkw, fpn, ⟨fg1, fg2⟩, ⟨old, rl, tn, sb', sa, h1, h2⟩, fbx, fsg⟩ := F
  have o := fr
  refine ⟨⟨e1, fun i hi => absurd hi (Nat.not_lt_zero i)⟩, ⟨e14.trans fl1, fun i e he => ?_⟩, ⟨d0, d1⟩, fun j hj => by rw [eg]; exact fkw j hj, ?_, ⟨?_, ?_⟩, ⟨old, rl, tn, sb', sa, ?_, h2⟩, ?_, ?_⟩
  · rw [o _ (by omega) (by omega) (by omega) (by omega)]; exact fl2 i e he
  · obtain ⟨y0, y1, y2, y3, y4, y5, y6, y7, y8, y9, y10⟩ := fpn
    have e0 := o pa (by omega) (by omega) (by omega) (by omega)
    refine ⟨by rw [e0]; exact y0, by rw [e0]; exact y1, by rw [e0]; exact y2, by rw [e0]; exact y3, by rw [e0]; exact y4, by rw [e0]; exact y5, by rw [e0]; exact y6, fun i c hc => by rw [o _ (by omega) (by omega) (by omega) (by omega)]; exact y7 i c hc, ⟨by rw [o _ (by omega) (by omega) (by omega) (by omega)]; exact y8.1, fun i c hc => by rw [o _ (by omega) (by omega) (by omega) (by omega)]; exact y8.2 i c hc⟩, fun k hk => ?_, fun z => absurd z (by decide)⟩
    have hk : k < aR S := hk
    exact ⟨by rw [o _ (by omega) (by omega) (by omega) (by omega)]; exact (y9 k hk).1, fun r hr => by rw [o _ (by omega) (by omega) (by omega) (by omega)]; exact (y9 k hk).2 r hr⟩
  · rw [o _ (by omega) (by omega) (by omega) (by omega)]; exact fg1
  · intro k hk
    have hk : k < aR S := hk
    exact ⟨by rw [o _ (by omega) (by omega) (by omega) (by omega)]; exact (fg2 k hk).1, fun r hr => by rw [o _ (by omega) (by omega) (by omega) (by omega)]; exact (fg2 k hk).2 r hr⟩
  · obtain ⟨a1, a2, a3, a4, a5, a6, a7⟩ := h1
    have ez := o (x + 86) (by omega) (by omega) (by omega) (by omega)
    refine ⟨by rw [ez]; exact a1, by rw [ez]; exact a2, by rw [ez]; exact a3, a4, a5, a6, fun k hk => ?_⟩
    obtain ⟨c1, c2, c3, c4⟩ := a7 k hk
    exact ⟨by rw [o _ (by omega) (by omega) (by omega) (by omega)]; exact c1, by rw [o _ (by omega) (by omega) (by omega) (by omega)]; exact c2, by rw [o _ (by omega) (by omega) (by omega) (by omega)]; exact c3, fun r hr hs => by rw [o _ (by omega) (by omega) (by omega) (by omega)]; exact c4 r hr hs⟩
  · intro b hb
    obtain ⟨b1, b2⟩ := fbx b hb
    have eb := o (x + 132 + 12 * b) (by omega) (by omega) (by omega) (by omega)
    refine ⟨by rw [eb]; exact b1, fun s hs => ⟨by rw [eb]; exact (b2 s hs).1, fun k hk => ?_⟩⟩
    have := (b2 s hs).2 k hk
    exact ⟨by rw [o _ (by omega) (by omega) (by omega) (by omega)]; exact this.1, fun r hr => by rw [o _ (by omega) (by omega) (by omega) (by omega)]; exact this.2 r hr⟩
  · obtain ⟨t0, t1, t2, t3, t4, t5⟩ := fsg
    have es := o (x + 168) (by omega) (by omega) (by omega) (by omega)
    refine ⟨by rw [es]; exact t0, by rw [es]; exact t1, by rw [es]; exact t2, by rw [es]; exact t3, fun z => ⟨by rw [o _ (by omega) (by omega) (by omega) (by omega)]; exact (t4 z).1, fun r hr => by rw [o _ (by omega) (by omega) (by omega) (by omega)]; exact (t4 z).2 r hr⟩, fun i e he => ?_⟩
    rw [o (x + 168 + 3) (by omega) (by omega) (by omega) (by omega), o (x + 168 + 4) (by omega) (by omega) (by omega) (by omega), o (x + 168 + 5) (by omega) (by omega) (by omega) (by omega), o (x + 168 + 6) (by omega) (by omega) (by omega) (by omega), o (x + 168 + 7) (by omega) (by omega) (by omega) (by omega), o (x + 168 + 8) (by omega) (by omega) (by omega) (by omega), o (x + 168 + 9) (by omega) (by omega) (by omega) (by omega)]
    exact t5 i e he
/-- the state of a new beginning -/
def anw (t : Nat → Nat) (q : Pn) (cx : Nat → List Nat) (m : Nat) : Abs := (t, 0, 0, none, q, cx, 0, 0, fun _ => (iA q, vDw q), fun _ => none, [], [], m)
theorem WS_anw {t : Nat → Nat} {q : Pn} {cx : Nat → List Nat} {m : Nat} (wt : ∀ i, t i < 256) (P : WPn q cx) (wm : m ≤ 100000) : WS (anw t q cx m) := by
  have hd : vDw q < 1000 := by have := P.1.2.2.2.2.2.2.1; omega
  exact ⟨⟨Nat.zero_le _, wt⟩, ⟨Nat.zero_le _, fun k hk => by cases hk⟩, P, ⟨Nat.le_refl _, Nat.zero_le _, fun k hk => iA_W P.1 P.2.1 hd⟩, fun b s hs => (by cases hs), ⟨Nat.zero_le _, fun e he => by cases he⟩, ⟨⟨Nat.zero_le _, fun e he => by cases he⟩, fun _ => rfl⟩, wm⟩
theorem CF_anw {f' : Nat → Nat → Int32} {g : Nat → Nat → Int64} {x pb m : Nat} {t : Nat → Nat} {q : Pn} {cx : Nat → List Nat} (e1 : f' x 1 = nI 0) (d0 : f' (x + 36) 0 = nI 0) (d1 : f' (x + 36) 1 = mI 1) (kw : ∀ j, j < 18 → g (x + 38) j = lN (KW j)) (N : PNF f' g pb (vNr q) 1 q) (a2 : f' (x + 39) 1 = nI (vDw q)) (a3 : ∀ k, k < vNr q → GF f' (x + 44 + 2 * k) (2 ^ vLv q) (gA q cx (iA q) k)) (a4 : HF f' (x + 86) 0 0 0 (fun _ => none) (fun _ _ => 0) (fun _ => 0) (fun _ => 0)) (a5 : ∀ b, b < 3 → f' (x + 132 + 12 * b) 0 = nI 0) (a6 : ISF f' (x + 168) (vLv q) (gA q cx (iA q) 0) (decide (0 < vNr q)) [] m) (a7 : f' x 14 = nI 0) : CF f' g x pb (anw t q cx m) :=
  ⟨⟨e1, fun i hi => absurd hi (Nat.not_lt_zero i)⟩, ⟨a7, fun i e he => by cases he⟩, ⟨d0, d1⟩, kw, N, ⟨a2, a3⟩, ⟨0, fun _ => none, fun _ _ => 0, fun _ => 0, fun _ => 0, a4, fun k hk => absurd hk (Nat.not_lt_zero k)⟩, fun b hb => ⟨a5 b hb, fun s hs => by cases hs⟩, a6⟩
theorem CSH_w {h : MH} {f : Nat → Nat → Int32} {x pa pb s1 v1 : Nat} (C : CSH h x pa pb s1 v1) : CSH (wI h f) x pa pb s1 v1 := C
/-- a heap after the reader -/
def RH (h H : MH) (x : Nat) : Prop := (∀ a k, a ≠ x + 36 → a ≠ x + 37 → hR H a k = hR h a k) ∧ hR H (x + 36) 2 = hR h (x + 36) 2 ∧ hR H (x + 37) 4 = hR h (x + 37) 4 ∧ hC H = hC h ∧ hN H = hN h ∧ hT H = hT h ∧ hS H = hS h
theorem RH_i {h : MH} {x p : Nat} : RH h (hRd h (x + 36) p (x + 1)) x := by
  refine ⟨fun a k h1 h2 => ?_, ?_, ?_, rfl, rfl, rfl, rfl⟩
  · show up2 (up2 (hR h) (x + 36) 3 (some p)) (x + 36 + 1) 5 (some (x + 1)) a k = _
    rw [up2_a (by omega), up2_a h1]
  · show up2 (up2 (hR h) (x + 36) 3 (some p)) (x + 36 + 1) 5 (some (x + 1)) (x + 36) 2 = _
    rw [up2_a (by omega), up2_k (by decide)]
  · show up2 (up2 (hR h) (x + 36) 3 (some p)) (x + 36 + 1) 5 (some (x + 1)) (x + 36 + 1) 4 = _
    rw [up2_k (by decide), up2_a (by omega)]
theorem so_C {h H : MH} {x pa pb s1 v1 : Nat} (C : CSH h x pa pb s1 v1) (r : RH h H x) : CSH (sR (sR (sR H x 2 pb) x 3 pa) (x + 39) 2 pb) x pb pa s1 v1 := by
  obtain ⟨hH, hH36, hH37, hc, hn, ht, hsz⟩ := r
  have hr : ∀ a k, a ≠ x → a ≠ x + 39 → up2 (up2 (up2 (hR H) x 2 (some pb)) x 3 (some pa)) (x + 39) 2 (some pb) a k = hR H a k := fun a k h1 h2 => by
    rw [up2_a h2, up2_a h1, up2_a h1]
  have e3 : hR (sR (sR (sR H x 2 pb) x 3 pa) (x + 39) 2 pb) = up2 (up2 (up2 (hR H) x 2 (some pb)) x 3 (some pa)) (x + 39) 2 (some pb) := rfl
  have e1 : hC (sR (sR (sR H x 2 pb) x 3 pa) (x + 39) 2 pb) = hC h := hc
  have e2 : hN (sR (sR (sR H x 2 pb) x 3 pa) (x + 39) 2 pb) = hN h := hn
  generalize sR (sR (sR H x 2 pb) x 3 pa) (x + 39) 2 pb = X at *
  refine CSH_c C e1 e2 (fun a h1 h2 h3 h4 => funext fun k => ?_) (fun k h2 h3 => ?_) ?_ ?_ (fun k hk => ?_) ?_ ?_ ?_ (Or.inr ⟨rfl, rfl⟩)
  · rw [e3, hr a k h1 h4]; exact hH a k h2 h3
  · rw [e3, up2_a (by omega), up2_k h3, up2_k h2]; exact hH x k (by omega) (by omega)
  · rw [e3, hr _ _ (by omega) (by omega)]; exact hH36
  · rw [e3, hr _ _ (by omega) (by omega)]; exact hH37
  · rw [e3, up2_k hk, up2_a (by omega), up2_a (by omega)]; exact hH _ k (by omega) (by omega)
  · rw [e3, up2_a (by omega), up2_k (by decide), up2_s]
  · rw [e3, up2_a (by omega), up2_s]
  · rw [e3, up2_s]
theorem PNF_o {f f' : Nat → Nat → Int32} {g g' : Nat → Nat → Int64} {p m fl : Nat} {q : Pn} (hm : m ≤ 5) (N : PNF f g p m fl q) (e : ∀ a, p ≤ a → a < p + 17 → f' a = f a) : PNF f' g' p m 1 q := by
  obtain ⟨y0, y1, y2, y3, y4, y5, y6, y7, y8, y9, y10⟩ := N
  have e0 := e p (by omega) (by omega)
  exact ⟨by rw [e0]; exact y0, by rw [e0]; exact y1, by rw [e0]; exact y2, by rw [e0]; exact y3, by rw [e0]; exact y4, by rw [e0]; exact y5, by rw [e0]; exact y6, fun i c hc => by rw [e _ (by omega) (by omega)]; exact y7 i c hc, ⟨by rw [e _ (by omega) (by omega)]; exact y8.1, fun i c hc => by rw [e _ (by omega) (by omega)]; exact y8.2 i c hc⟩, fun k hk => ⟨by rw [e _ (by omega) (by omega)]; exact (y9 k hk).1, fun r hr => by rw [e _ (by omega) (by omega)]; exact (y9 k hk).2 r hr⟩, fun z => absurd z (by decide)⟩
/-- the run, as far as the reader -/
theorem so_run {h : MH} {H : MH} {x pa pb s1 v1 n : Nat} {y : Int32} {Q : Option Value → MH → Prop} (C : CSH h x pa pb s1 v1) (ft1 : hI h x 1 = nI n) (ev4 : ev M_Reader_read 0 0 [some (.ref (x + 36)), some (.ref (x + 1)), some (.int (nI n)), some (.ref pb), none] [] h = some (some (.int y), H)) (c0' : hC H x = 12) (h2 : hR H x 2 = some pa) (h3 : hR H x 3 = some pb)
    (B1 : y = nI 0 → Q (some (.int (mI 1))) (sI H x 1 (nI 0))) (B2 : ¬ y = nI 0 → wp (rV (ev M_PT_startAnew 0 0 [some (.ref x), none] [] (sR (sR (sI H x 1 (nI 0)) x 2 pb) x 3 pa)) fun h11 => isC h11 x 12 (nnR (hR h11 x 2) fun r12 => isC h11 r12 5 (some (some (.int (hI h11 r12 1)), h11)))) Q) : wp (ev M_PT_store 0 0 [some (.ref x), none, none] [] h) Q := by
  obtain ⟨⟨c0, q0, q2, q3, q4, -⟩, PA, PB, RSH, HSH, BX, ISH, TSH, TSH2, GSH, SSH, -, ⟨rC, -⟩, -⟩ := id C
  rw [r_PT_store_0, ft1]
  refine wp_isC c0 (wp_nnR q4 (wp_isC c0 (wp_nnR q0 (wp_isC c0 (wp_isC c0 (wp_nnR q3 (wp_isC rC (wp_rIe ev4 (wp_isC c0' ?_)))))))))
  refine wp_br (fun z => wp_s (B1 z)) (fun z => ?_)
  refine wp_isC c0' (wp_nnR (b := pa) h2 (wp_isC c0' (wp_nnR (b := pb) h3 (wp_isC c0' (wp_isC c0' (wp_isC c0' (B2 z)))))))
/-- what a stored text leaves -/
def StO (h : MH) (x s1 v1 : Nat) (a : Int32) (S' : Abs) : Prop := ∃ h' pa' pb', ev M_PT_store 0 0 [some (.ref x), none, none] [] h = some (some (.int a), h') ∧ CSH h' x pa' pb' s1 v1 ∧ CF (hI h') (hL h') x pa' S' ∧ WS S' ∧ (hT h' = hT h ∧ hS h' = hS h ∧ hC h' = hC h ∧ hN h' = hN h) ∧ ∀ a, a < x ∨ x + 222 ≤ a → hI h' a = hI h a ∧ hL h' a = hL h a ∧ hR h' a = hR h a
theorem so_fail {h H : MH} {x pa pb s1 v1 : Nat} {S : Abs} {Rd : Ps} {f : Nat → Nat → Int32} {g : Nat → Nat → Int64} (C : CSH h x pa pb s1 v1) (F : CF (hI h) (hL h) x pa S) (W : WS S) (r : RH h H x) (ev4 : ev M_Reader_read 0 0 [some (.ref (x + 36)), some (.ref (x + 1)), some (.int (nI (aN S))), some (.ref pb), none] [] h = some (some (.int (nI (decide (yF Rd = 0)).toNat)), wI (wL H g) f)) (x2 : TFF f g (x + 36) (aT S) (aN S) Rd) (x4 : TFB (aN S) Rd) (x6 : FRD (x + 36) pb (hI h) f) (x7 : FRD (x + 36) pb (hL h) g) (x8 : g (x + 36 + 2) = hL h (x + 36 + 2)) (z : ¬ yF Rd = 0) : StO h x s1 v1 (mI 1) (aT S, 0, yF Rd, some (yP Rd), aQ S, aX S, aD S, aK S, aS S, aB S, aL S, aE S, aM S) := by
  obtain ⟨hH, hH36, hH37, hc, hn, ht, hsz⟩ := r
  have PP := C.2.2.2.2.2.2.2.2.2.2.2.2.2.2.2
  have q2 := C.1.2.2.1
  have q3 := C.1.2.2.2.1
  have r12 := C.2.2.2.1.2.2.2.2.2.2.2.2.2.2.2
  have hp5 : aR S ≤ 5 := W.2.2.1.1.2.2.2.1
  have o6 : ∀ a, a ≠ x → a ≠ x + 36 → a ≠ x + 37 → a < pb ∨ pb + 17 ≤ a → up2 f x 1 (nI 0) a = hI h a := fun a h0 h1 h2 h3 => by rw [up2_a h0]; exact x6 a h1 h2 h3
  have fx : f x = hI h x := x6 x (by omega) (by omega) (by omega)
  have hD : hC (wI (wL H g) f) x = 12 := (congrFun hc x).trans C.1.1
  refine ⟨wI (wL H g) (up2 f x 1 (nI 0)), pa, pb, wp_e (so_run C F.1.1 ev4 hD ((hH x 2 (by omega) (by omega)).trans q2) ((hH x 3 (by omega) (by omega)).trans q3) (fun _ => ⟨rfl, rfl⟩) (fun w => absurd ?_ w)), ?_, (?_ : CF (up2 f x 1 (nI 0)) g x pa _), ?_, ⟨ht, hsz, hc, hn⟩, ?_⟩
  · rw [decide_eq_false z]; rfl
  · exact CSH_w (CSH_c (h' := wL H g) C hc hn (fun a h1 h2 h3 h4 => funext fun k => hH a k h2 h3) (fun k h2 h3 => hH _ _ (by omega) (by omega)) hH36 hH37 (fun k hk => hH _ _ (by omega) (by omega)) ((hH _ _ (by omega) (by omega)).trans q2) ((hH _ _ (by omega) (by omega)).trans q3) ((hH _ _ (by omega) (by omega)).trans r12) (Or.inl ⟨rfl, rfl⟩))
  · refine CF_q PP F o6 ?_ up2_s ?_ ?_ ?_ hp5
    · rw [up2_k (by decide), fx]
    · rw [up2_a (by omega)]; exact x2.1
    · rw [up2_a (by omega), x2.2.1, if_neg z]; rfl
    · exact x8
  · exact ⟨⟨Nat.zero_le _, W.1.2⟩, ⟨x4.2.1, fun k hk => by cases hk; exact x4.2.2.1⟩, W.2.2.1, W.2.2.2.1, W.2.2.2.2.1, W.2.2.2.2.2.1, W.2.2.2.2.2.2.1, W.2.2.2.2.2.2.2⟩
  · intro a ha
    exact ⟨o6 a (by omega) (by omega) (by omega) (by omega), x7 a (by omega) (by omega) (by omega), funext fun k => hH a k (by omega) (by omega)⟩
theorem sR_w {h : MH} {f : Nat → Nat → Int32} {a k v : Nat} : sR (wI h f) a k v = wI (sR h a k v) f := rfl
/-- a heap with the plans exchanged -/
def XH (h X : MH) (g : Nat → Nat → Int64) (x : Nat) : Prop := hT X = hT h ∧ hS X = hS h ∧ hC X = hC h ∧ hN X = hN h ∧ hL X = g ∧ ∀ a, a < x ∨ x + 222 ≤ a → hR X a = hR h a
theorem XH_i {h H : MH} {g : Nat → Nat → Int64} {x pa pb : Nat} (r : RH h H x) (hg : hL H = g) : XH h (sR (sR (sR H x 2 pb) x 3 pa) (x + 39) 2 pb) g x := by
  obtain ⟨hH, hH36, hH37, hc, hn, ht, hsz⟩ := r
  refine ⟨ht, hsz, hc, hn, hg, fun a ha => funext fun k => ?_⟩
  show up2 (up2 (up2 (hR H) x 2 (some pb)) x 3 (some pa)) (x + 39) 2 (some pb) a k = _
  rw [up2_a (by omega), up2_a (by omega), up2_a (by omega)]; exact hH a k (by omega) (by omega)
theorem RH_L {h H : MH} {g : Nat → Nat → Int64} {x : Nat} (r : RH h H x) : RH h (wL H g) x := r
theorem so_ok1 {h H X : MH} {x pa pb s1 v1 m : Nat} {S : Abs} {q : Pn} {cx : Nat → List Nat} {f f' : Nat → Nat → Int32} {g : Nat → Nat → Int64} (C : CSH h x pa pb s1 v1) (F : CF (hI h) (hL h) x pa S) (W : WS S) (P : WPn q cx) (hC3 : CSH X x pb pa s1 v1) (k : XH h X g x)
    (run : ∀ Q : Option Value → MH → Prop, wp (rV (ev M_PT_startAnew 0 0 [some (.ref x), none] [] H) fun h11 => isC h11 x 12 (nnR (hR h11 x 2) fun r12 => isC h11 r12 5 (some (some (.int (hI h11 r12 1)), h11)))) Q → wp (ev M_PT_store 0 0 [some (.ref x), none, none] [] h) Q)
    (a1 : ev M_PT_startAnew 0 0 [some (.ref x), none] [] H = some (none, wI X f'))
    (x3 : PNF f g pb (vNr q) m q) (x6 : FRD (x + 36) pb (hI h) f) (x7 : FRD (x + 36) pb (hL h) g) (x8 : g (x + 36 + 2) = hL h (x + 36 + 2)) (d0 : f (x + 36) 0 = nI 0) (d1 : f (x + 36) 1 = mI 1)
    (a2 : f' (x + 39) 1 = nI (vDw q)) (a3 : ∀ k, k < vNr q → GF f' (x + 44 + 2 * k) (2 ^ vLv q) (gA q cx (iA q) k)) (a4 : HF f' (x + 86) 0 0 0 (fun _ => none) (fun _ _ => 0) (fun _ => 0) (fun _ => 0)) (a5 : ∀ b, b < 3 → f' (x + 132 + 12 * b) 0 = nI 0) (a6 : ISF f' (x + 168) (vLv q) (gA q cx (iA q) 0) (decide (0 < vNr q)) [] (aM S)) (a7 : f' x 14 = nI 0) (a8 : f' x 1 = nI 0) (a9 : ∀ a, a ≠ x → a < x + 39 ∨ x + 184 ≤ a → f' a = f a) : StO h x s1 v1 (nI (vNr q)) (anw (aT S) q cx (aM S)) := by
  obtain ⟨k1, k2, k3, k4, k5, k6⟩ := k
  have PP := C.2.2.2.2.2.2.2.2.2.2.2.2.2.2.2
  have fkw := F.2.2.2.1
  have hn5 : vNr q ≤ 5 := P.1.2.2.2.1
  have c0 := hC3.1.1
  have q2 := hC3.1.2.2.1
  have p1 := hC3.2.1.1
  have of : ∀ a, a ≠ x → a < x + 39 → f' a = f a := fun a h1 h2 => a9 a h1 (Or.inl h2)
  have eA : hI (wI X f') pb 1 = nI (vNr q) := by rw [wI_I, of pb (by omega) (by omega)]; exact x3.2.1
  have rn := wp_e (run (fun a b => a = some (.int (nI (vNr q))) ∧ b = wI X f') (wp_rVe a1 (wp_isC c0 (wp_nnR q2 (wp_isC p1 (wp_s ⟨by rw [eA], rfl⟩))))))
  have cf : CF f' (hL X) x pb (anw (aT S) q cx (aM S)) := by
    refine CF_anw a8 ?_ ?_ ?_ ?_ a2 a3 a4 a5 a6 a7
    · rw [of _ (by omega) (by omega)]; exact d0
    · rw [of _ (by omega) (by omega)]; exact d1
    · intro j hj
      rw [k5, show x + 38 = x + 36 + 2 from rfl, x8]; exact fkw j hj
    · exact PNF_o hn5 x3 (fun a h1 h2 => of a (by omega) (by omega))
  refine ⟨wI X f', pb, pa, rn, CSH_w hC3, cf, WS_anw W.1.2 P W.2.2.2.2.2.2.2, ⟨k1, k2, k3, k4⟩, fun a ha => ⟨?_, ?_, k6 a ha⟩⟩
  · show f' a = _
    rw [a9 a (by omega) (by omega)]; exact x6 a (by omega) (by omega) (by omega)
  · show hL X a = _
    rw [k5]; exact x7 a (by omega) (by omega) (by omega)
