/-! Fitting ones gathered; counted; found; asked. -/
/-- whether an entry counts at a time -/
def cn (k : Int32) (e : Sn) : Bool := !(decide (k < nI e.2.2.2.2.1)) && (match e.2.2.2.2.2 with
  | none => true
  | some u => decide (k < nI u))
def gt (v : Nat) (G : Rw) (k : Int32) : List Sn → Bool × Rw → Bool × Rw
  | [], p => p
  | e :: l, p => gt v G k l (if cn k e then (p.1 && fz (nI (cb v e.1 G e.2.1)) e, du v G e p.2) else p)
def ft (v : Nat) (G : Rw) (k : Int32) (se : List Sn) : Bool × Rw := gt v G k se (true, allG (2 ^ v))
theorem gt_W {v : Nat} {G : Rw} {k : Int32} : ∀ {l : List Sn} {p : Bool × Rw}, GW (2 ^ v) p.2 → GW (2 ^ v) (gt v G k l p).2
  | [], _, h => h
  | e :: l, p, h => by
    rw [gt]
    apply gt_W
    split
    · exact GW.du h
    · exact h
theorem ft_W {v : Nat} {G : Rw} {k : Int32} {se : List Sn} (h : v ≤ 4) : GW (2 ^ v) (ft v G k se).2 := gt_W (GW.allG (lv_p h))
/-- only what is gathered changes -/
def FI (s : Nat) (f f' : Nat → Nat → Int32) : Prop := (∀ a, a ≠ s → a < s + 10 ∨ s + 16 ≤ a → f' a = f a) ∧ ∀ k, k ≠ 12 → f' s k = f s k
theorem FI.rf {s : Nat} {f : Nat → Nat → Int32} : FI s f f := ⟨fun _ _ _ => rfl, fun _ _ => rfl⟩
theorem FI.tr {s : Nat} {f g k : Nat → Nat → Int32} (a : FI s f g) (b : FI s g k) : FI s f k := ⟨fun x h1 h2 => (b.1 x h1 h2).trans (a.1 x h1 h2), fun j hj => (b.2 j hj).trans (a.2 j hj)⟩
theorem FI.gw {s g n : Nat} {f : Nat → Nat → Int32} {G : Rw} (h1 : s + 10 ≤ g) (h2 : g + 1 < s + 16) : FI s f (gw f g n G) := ⟨fun a _ _ => gw_o (by omega) (by omega), fun j _ => by rw [gw_o (by omega) (by omega)]⟩
theorem FI.u12 {s : Nat} {f : Nat → Nat → Int32} {v : Int32} : FI s f (up2 f s 12 v) := ⟨fun a h _ => up2_a h, fun j hj => up2_k hj⟩
theorem FI.I {s v tm : Nat} {f g : Nat → Nat → Int32} {G : Rw} {op : Bool} {se : List Sn} (a : FI s f g) (I : ISF f s v G op se tm) : ISF g s v G op se tm := by
  obtain ⟨t0, t1, t2, t3, t4, t5⟩ := I
  refine ⟨by rw [a.2 0 (by decide)]; exact t0, by rw [a.2 1 (by decide)]; exact t1, by rw [a.2 2 (by decide)]; exact t2, by rw [a.2 3 (by decide)]; exact t3, fun z => ⟨?_, fun r hr => ?_⟩, fun i e he => ?_⟩
  · rw [a.1 (s + 1) (by omega) (by omega)]; exact (t4 z).1
  · rw [a.1 (s + 1 + 1) (by omega) (by omega)]; exact (t4 z).2 r hr
  · rw [a.1 (s + 3) (by omega) (by omega), a.1 (s + 4) (by omega) (by omega), a.1 (s + 5) (by omega) (by omega), a.1 (s + 6) (by omega) (by omega), a.1 (s + 7) (by omega) (by omega), a.1 (s + 8) (by omega) (by omega), a.1 (s + 9) (by omega) (by omega)]
    exact t5 i e he
theorem FI.fr {s : Nat} {f g : Nat → Nat → Int32} (a : FI s f g) : Fr s (s + 16) f g := fun x hx => a.1 x (by omega) (by omega)
/-- entries as they can be -/
def SW (v : Nat) (se : List Sn) : Prop := se.length ≤ 30 ∧ ∀ e, e ∈ se → e.1 ≤ v ∧ e.2.1 < 2 ^ (2 * e.1) ∧ e.2.2.1 ≤ 256 ∧ e.2.2.2.2.1 ≤ 100000 ∧ ∀ k, e.2.2.2.2.2 = some k → k ≤ 100000
theorem sg_gl {h : MH} {s v tm : Nat} {k : Int32} {G : Rw} {se : List Sn} (S : IS h s) (V : GW (2 ^ v) G) (hv : v ≤ 4) (hs : SW v se) : ∀ rest i f a F, se.drop i = rest → i ≤ se.length → ISF f s v G true se tm → f s 12 = nI a.toNat → GF f (s + 10) (2 ^ v) F → GW (2 ^ v) F →
    ∃ f', ev M_Sightings_gatherFits 0 19 [some (.ref s), some (.int k), some (.int (nI i)), none] [] (wI h f) = some (none, wI h f') ∧ f' s 12 = nI (gt v G k rest (a, F)).1.toNat ∧ GF f' (s + 10) (2 ^ v) (gt v G k rest (a, F)).2 ∧ FI s f f' := by
  obtain ⟨i1, i4, j4, i5, c5, n5, i6, c6, n6, i7, c7, n7, i8, c8, n8, i9, c9, n9, i10, c10, n10, i11, c11, n11, i13, j13, -⟩ := id S
  obtain ⟨hs1, hs2⟩ := hs
  intro rest
  induction rest with
  | nil =>
    intro i f a F hi hi2 I fa FF FW
    have : se.length ≤ i := List.drop_eq_nil_iff.mp hi
    have t1 := I.2.1
    refine ⟨f, ?_, fa, FF, FI.rf⟩
    rw [r_Sightings_gatherFits_19]
    apply wp_e
    repeat (first | refine wp_isC (by assumption) ?_ | refine wp_nnR (by assumption) ?_ | refine wp_inA (by assumption) rfl (by omega) (by omega) ?_ | refine wp_isZ (by first | decide | exact b01z _) ?_ | refine wp_bt (by (first | (simp (disch := omega) only [wI_I, wI_s, nI_add, pk_mul, nI_ltI, nI_leI, nI_eq, nI_clamp, nm_or, nm_and, nm_xor, nm_nd, nm_one, nm_shr, nm_b2, Bool.false_eq_true, Bool.true_eq_false, not_false_eq_true, not_true_eq_false, reduceCtorEq, t1]; done) | (simp (disch := omega) only [wI_I, wI_s, nI_add, pk_mul, nI_ltI, nI_leI, nI_eq, nI_clamp, nm_or, nm_and, nm_xor, nm_nd, nm_one, nm_shr, nm_b2, Bool.false_eq_true, Bool.true_eq_false, not_false_eq_true, not_true_eq_false, reduceCtorEq, t1]; omega) | omega)) ?_ | refine wp_bf (by (first | (simp (disch := omega) only [wI_I, wI_s, nI_add, pk_mul, nI_ltI, nI_leI, nI_eq, nI_clamp, nm_or, nm_and, nm_xor, nm_nd, nm_one, nm_shr, nm_b2, Bool.false_eq_true, Bool.true_eq_false, not_false_eq_true, not_true_eq_false, reduceCtorEq, t1]; done) | (simp (disch := omega) only [wI_I, wI_s, nI_add, pk_mul, nI_ltI, nI_leI, nI_eq, nI_clamp, nm_or, nm_and, nm_xor, nm_nd, nm_one, nm_shr, nm_b2, Bool.false_eq_true, Bool.true_eq_false, not_false_eq_true, not_true_eq_false, reduceCtorEq, t1]; omega) | omega)) ?_ | refine wp_nz (by first | decide | exact nz_n (by omega) (by omega)) ?_ | (simp (disch := omega) only [wI_I, wI_s, nI_add, pk_mul, nI_ltI, nI_leI, nI_eq, nI_clamp, nm_or, nm_and, nm_xor, nm_nd, nm_one, nm_shr, nm_b2, Bool.false_eq_true, Bool.true_eq_false, not_false_eq_true, not_true_eq_false, reduceCtorEq, up2_a, up2_k, up2_s, gw_o, t1]))
    exact wp_s ⟨rfl, rfl⟩
  | cons e rest ih =>
    intro i f a F hi hi2 I fa FF FW
    have hi3 : se[i]? = some e := by
      have := List.getElem?_drop (xs := se) (i := i) (j := 0)
      rw [hi] at this; simpa using this.symm
    have hlt : i < se.length := (List.getElem?_eq_some_iff.mp hi3).1
    have hdr : se.drop (i + 1) = rest := by rw [← List.drop_drop, hi]; rfl
    obtain ⟨t0, t1, t2, t3, t4, t5⟩ := id I
    obtain ⟨w1, w2, w3, w4, w5, w6, w7⟩ := t5 i e hi3
    obtain ⟨e1, e2, e3, e4, e5⟩ := hs2 e (List.mem_of_getElem? hi3)
    -- region 40
    have R40 : ∀ b : Bool, (b = !(match e.2.2.2.2.2 with | none => true | some u => decide (k < nI u))) → ∃ f', ev M_Sightings_gatherFits 0 40 [some (.ref s), some (.int k), some (.int (nI i)), none] [(.int (nI b.toNat))] (wI h f) = some (none, wI h f') ∧ f' s 12 = nI (gt v G k (e :: rest) (a, F)).1.toNat ∧ GF f' (s + 10) (2 ^ v) (gt v G k (e :: rest) (a, F)).2 ∧ FI s f f' := by
      intro b hb
      rw [gt, r_Sightings_gatherFits_40]
      simp only [r_Sightings_gatherFits_53, nI_add]
      by_cases q : k < nI e.2.2.2.2.1
      · have ec : cn k e = false := by unfold cn; rw [decide_eq_true q]; rfl
        rw [ec, if_neg (by decide)]
        obtain ⟨f', g1, g2, g3, g4⟩ := ih (i + 1) f a F hdr (by omega) I fa FF FW
        refine ⟨f', ?_, g2, g3, g4⟩
        apply wp_e
        refine wp_isC i1 (wp_nnR i10 (wp_isC c10 (wp_inA n10 rfl (by omega) (by omega) ?_)))
        rw [wI_I, nI_clamp (by omega), w6]
        exact wp_bt q (wp_of g1 ⟨rfl, rfl⟩)
      · cases hbb : b with
        | true =>
          have ec : cn k e = false := by
            unfold cn
            rw [hbb] at hb
            cases z : (match e.2.2.2.2.2 with | none => true | some u => decide (k < nI u)) with
            | true => rw [z] at hb; cases hb
            | false => rw [Bool.and_false]
          rw [ec, if_neg (by decide)]
          obtain ⟨f', g1, g2, g3, g4⟩ := ih (i + 1) f a F hdr (by omega) I fa FF FW
          refine ⟨f', ?_, g2, g3, g4⟩
          apply wp_e
          refine wp_isC i1 (wp_nnR i10 (wp_isC c10 (wp_inA n10 rfl (by omega) (by omega) ?_)))
          rw [wI_I, nI_clamp (by omega), w6]
          exact wp_bf q (wp_bf (by decide) (wp_of g1 ⟨rfl, rfl⟩))
        | false =>
          have ec : cn k e = true := by
            unfold cn
            rw [hbb] at hb
            rw [decide_eq_false q]
            cases z : (match e.2.2.2.2.2 with | none => true | some u => decide (k < nI u)) with
            | true => rfl
            | false => rw [z] at hb; cases hb
          rw [ec, if_pos rfl]
          have fi : FI s f (gw (up2 f s 12 (nI (a && fz (nI (cb v e.1 G e.2.1)) e).toNat)) (s + 10) (2 ^ v) (du v G e F)) := FI.u12.tr (FI.gw (by omega) (by omega))
          obtain ⟨f', g1, g2, g3, g4⟩ := ih (i + 1) _ (a && fz (nI (cb v e.1 G e.2.1)) e) (du v G e F) hdr (by omega) (fi.I I) (by rw [gw_o (by omega) (by omega), up2_s]) gw_f (GW.du FW)
          refine ⟨f', ?_, g2, g3, fi.tr g4⟩
          apply wp_e
          refine wp_isC i1 (wp_nnR i10 (wp_isC c10 (wp_inA n10 rfl (by omega) (by omega) ?_)))
          rw [wI_I, nI_clamp (by omega), w6]
          refine wp_bf q (wp_bt rfl (wp_isC i1 ?_))
          exact wp_rVe (sg_drop S I V hv hi3 hs1 e1 e2 fa FF FW) (wp_of g1 ⟨rfl, rfl⟩)
    rw [r_Sightings_gatherFits_19]
    simp only [r_Sightings_gatherFits_38]
    cases z : e.2.2.2.2.2 with
    | none =>
      obtain ⟨f', g1, g2⟩ := R40 false (by rw [z]; rfl)
      refine ⟨f', ?_, g2⟩
      apply wp_e
      repeat (first | refine wp_isC (by assumption) ?_ | refine wp_nnR (by assumption) ?_ | refine wp_inA (by assumption) rfl (by omega) (by omega) ?_ | refine wp_isZ (by first | decide | exact b01z _) ?_ | refine wp_bt (by (first | (simp (disch := omega) only [wI_I, wI_s, nI_add, pk_mul, nI_ltI, nI_leI, nI_eq, nI_clamp, nm_or, nm_and, nm_xor, nm_nd, nm_one, nm_shr, nm_b2, Bool.false_eq_true, Bool.true_eq_false, not_false_eq_true, not_true_eq_false, reduceCtorEq, t1]; done) | (simp (disch := omega) only [wI_I, wI_s, nI_add, pk_mul, nI_ltI, nI_leI, nI_eq, nI_clamp, nm_or, nm_and, nm_xor, nm_nd, nm_one, nm_shr, nm_b2, Bool.false_eq_true, Bool.true_eq_false, not_false_eq_true, not_true_eq_false, reduceCtorEq, t1]; omega) | omega)) ?_ | refine wp_bf (by (first | (simp (disch := omega) only [wI_I, wI_s, nI_add, pk_mul, nI_ltI, nI_leI, nI_eq, nI_clamp, nm_or, nm_and, nm_xor, nm_nd, nm_one, nm_shr, nm_b2, Bool.false_eq_true, Bool.true_eq_false, not_false_eq_true, not_true_eq_false, reduceCtorEq, t1]; done) | (simp (disch := omega) only [wI_I, wI_s, nI_add, pk_mul, nI_ltI, nI_leI, nI_eq, nI_clamp, nm_or, nm_and, nm_xor, nm_nd, nm_one, nm_shr, nm_b2, Bool.false_eq_true, Bool.true_eq_false, not_false_eq_true, not_true_eq_false, reduceCtorEq, t1]; omega) | omega)) ?_ | refine wp_nz (by first | decide | exact nz_n (by omega) (by omega)) ?_ | (simp (disch := omega) only [wI_I, wI_s, nI_add, pk_mul, nI_ltI, nI_leI, nI_eq, nI_clamp, nm_or, nm_and, nm_xor, nm_nd, nm_one, nm_shr, nm_b2, Bool.false_eq_true, Bool.true_eq_false, not_false_eq_true, not_true_eq_false, reduceCtorEq, up2_a, up2_k, up2_s, gw_o, t1]))
      refine wp_bt (by rw [w7, z]; rfl) ?_
      exact wp_of g1 ⟨rfl, rfl⟩
    | some u =>
      have hu := e5 u z
      have hne : ¬ f (s + 9) i = mI 1 := by
        rw [w7, oI_m1 (fun k hk => by have := e5 k hk; omega), z]; intro x; cases x
      rw [z] at w7
      have w7 : f (s + 9) i = nI u := w7
      by_cases q : k < nI u
      · obtain ⟨f', g1, g2⟩ := R40 false (by rw [z]; show false = !(decide (k < nI u)); rw [decide_eq_true q]; rfl)
        refine ⟨f', ?_, g2⟩
        apply wp_e
        repeat (first | refine wp_isC (by assumption) ?_ | refine wp_nnR (by assumption) ?_ | refine wp_inA (by assumption) rfl (by omega) (by omega) ?_ | refine wp_isZ (by first | decide | exact b01z _) ?_ | refine wp_bt (by (first | (simp (disch := omega) only [wI_I, wI_s, nI_add, pk_mul, nI_ltI, nI_leI, nI_eq, nI_clamp, nm_or, nm_and, nm_xor, nm_nd, nm_one, nm_shr, nm_b2, Bool.false_eq_true, Bool.true_eq_false, not_false_eq_true, not_true_eq_false, reduceCtorEq, t1]; done) | (simp (disch := omega) only [wI_I, wI_s, nI_add, pk_mul, nI_ltI, nI_leI, nI_eq, nI_clamp, nm_or, nm_and, nm_xor, nm_nd, nm_one, nm_shr, nm_b2, Bool.false_eq_true, Bool.true_eq_false, not_false_eq_true, not_true_eq_false, reduceCtorEq, t1]; omega) | omega)) ?_ | refine wp_bf (by (first | (simp (disch := omega) only [wI_I, wI_s, nI_add, pk_mul, nI_ltI, nI_leI, nI_eq, nI_clamp, nm_or, nm_and, nm_xor, nm_nd, nm_one, nm_shr, nm_b2, Bool.false_eq_true, Bool.true_eq_false, not_false_eq_true, not_true_eq_false, reduceCtorEq, t1]; done) | (simp (disch := omega) only [wI_I, wI_s, nI_add, pk_mul, nI_ltI, nI_leI, nI_eq, nI_clamp, nm_or, nm_and, nm_xor, nm_nd, nm_one, nm_shr, nm_b2, Bool.false_eq_true, Bool.true_eq_false, not_false_eq_true, not_true_eq_false, reduceCtorEq, t1]; omega) | omega)) ?_ | refine wp_nz (by first | decide | exact nz_n (by omega) (by omega)) ?_ | (simp (disch := omega) only [wI_I, wI_s, nI_add, pk_mul, nI_ltI, nI_leI, nI_eq, nI_clamp, nm_or, nm_and, nm_xor, nm_nd, nm_one, nm_shr, nm_b2, Bool.false_eq_true, Bool.true_eq_false, not_false_eq_true, not_true_eq_false, reduceCtorEq, up2_a, up2_k, up2_s, gw_o, t1]))
        rw [w7]
        exact wp_bt q (wp_of g1 ⟨rfl, rfl⟩)
      · obtain ⟨f', g1, g2⟩ := R40 true (by rw [z]; show true = !(decide (k < nI u)); rw [decide_eq_false q]; rfl)
        refine ⟨f', ?_, g2⟩
        apply wp_e
        repeat (first | refine wp_isC (by assumption) ?_ | refine wp_nnR (by assumption) ?_ | refine wp_inA (by assumption) rfl (by omega) (by omega) ?_ | refine wp_isZ (by first | decide | exact b01z _) ?_ | refine wp_bt (by (first | (simp (disch := omega) only [wI_I, wI_s, nI_add, pk_mul, nI_ltI, nI_leI, nI_eq, nI_clamp, nm_or, nm_and, nm_xor, nm_nd, nm_one, nm_shr, nm_b2, Bool.false_eq_true, Bool.true_eq_false, not_false_eq_true, not_true_eq_false, reduceCtorEq, t1]; done) | (simp (disch := omega) only [wI_I, wI_s, nI_add, pk_mul, nI_ltI, nI_leI, nI_eq, nI_clamp, nm_or, nm_and, nm_xor, nm_nd, nm_one, nm_shr, nm_b2, Bool.false_eq_true, Bool.true_eq_false, not_false_eq_true, not_true_eq_false, reduceCtorEq, t1]; omega) | omega)) ?_ | refine wp_bf (by (first | (simp (disch := omega) only [wI_I, wI_s, nI_add, pk_mul, nI_ltI, nI_leI, nI_eq, nI_clamp, nm_or, nm_and, nm_xor, nm_nd, nm_one, nm_shr, nm_b2, Bool.false_eq_true, Bool.true_eq_false, not_false_eq_true, not_true_eq_false, reduceCtorEq, t1]; done) | (simp (disch := omega) only [wI_I, wI_s, nI_add, pk_mul, nI_ltI, nI_leI, nI_eq, nI_clamp, nm_or, nm_and, nm_xor, nm_nd, nm_one, nm_shr, nm_b2, Bool.false_eq_true, Bool.true_eq_false, not_false_eq_true, not_true_eq_false, reduceCtorEq, t1]; omega) | omega)) ?_ | refine wp_nz (by first | decide | exact nz_n (by omega) (by omega)) ?_ | (simp (disch := omega) only [wI_I, wI_s, nI_add, pk_mul, nI_ltI, nI_leI, nI_eq, nI_clamp, nm_or, nm_and, nm_xor, nm_nd, nm_one, nm_shr, nm_b2, Bool.false_eq_true, Bool.true_eq_false, not_false_eq_true, not_true_eq_false, reduceCtorEq, up2_a, up2_k, up2_s, gw_o, t1]))
        rw [w7]
        exact wp_bf q (wp_of g1 ⟨rfl, rfl⟩)
theorem sg_gather {h : MH} {f : Nat → Nat → Int32} {s v tm : Nat} {k : Int32} {G : Rw} {se : List Sn} (S : IS h s) (I : ISF f s v G true se tm) (V : GW (2 ^ v) G) (hv : v ≤ 4) (hs : SW v se) :
    ∃ f', ev M_Sightings_gatherFits 0 0 [some (.ref s), some (.int k), none, none] [] (wI h f) = some (none, wI h f') ∧ f' s 12 = nI (ft v G k se).1.toNat ∧ GF f' (s + 10) (2 ^ v) (ft v G k se).2 ∧ FI s f f' := by
  obtain ⟨i1, i4, j4, i5, c5, n5, i6, c6, n6, i7, c7, n7, i8, c8, n8, i9, c9, n9, i10, c10, n10, i11, c11, n11, i13, j13, -⟩ := id S
  obtain ⟨t0, t1, t2, t3, t4, t5⟩ := id I
  have hn := lv_p hv
  have fi : FI s f (gw (up2 f s 12 (nI 1)) (s + 10) (2 ^ v) (allG (2 ^ v))) := FI.u12.tr (FI.gw (by omega) (by omega))
  obtain ⟨f', g1, g2, g3, g4⟩ := sg_gl (k := k) S V hv hs se 0 _ true (allG (2 ^ v)) rfl (Nat.zero_le _) (fi.I I) (by rw [gw_o (by omega) (by omega), up2_s]; rfl) gw_f (GW.allG hn)
  refine ⟨f', ?_, g2, g3, fi.tr g4⟩
  have g0 := j4.1
  have d0 := j13.1
  have t4 := (t4 rfl).1
  rw [r_Sightings_gatherFits_0]
  simp only [r_Sightings_gatherFits_15]
  apply wp_e
  refine wp_isC i1 (wp_isC i1 ?_)
  rw [wI_I, t2]
  refine wp_isZ (by decide) (wp_isC i1 (wp_nnR i13 (wp_isC i1 ?_)))
  simp (disch := omega) only [wI_I, wI_s, nI_add, pk_mul, nI_ltI, nI_leI, nI_eq, nI_clamp, nm_or, nm_and, nm_xor, nm_nd, nm_one, nm_shr, nm_b2, Bool.false_eq_true, Bool.true_eq_false, not_false_eq_true, not_true_eq_false, reduceCtorEq, up2_a, up2_k, up2_s, gw_o, t2]
  refine wp_bf (by decide) ?_
  repeat (first | refine wp_isC (by assumption) ?_ | refine wp_nnR (by assumption) ?_ | refine wp_inA (by assumption) rfl (by omega) (by omega) ?_ | refine wp_isZ (by first | decide | exact b01z _) ?_ | refine wp_bt (by (first | (simp (disch := omega) only [wI_I, wI_s, nI_add, pk_mul, nI_ltI, nI_leI, nI_eq, nI_clamp, nm_or, nm_and, nm_xor, nm_nd, nm_one, nm_shr, nm_b2, Bool.false_eq_true, Bool.true_eq_false, not_false_eq_true, not_true_eq_false, reduceCtorEq, t4]; done) | (simp (disch := omega) only [wI_I, wI_s, nI_add, pk_mul, nI_ltI, nI_leI, nI_eq, nI_clamp, nm_or, nm_and, nm_xor, nm_nd, nm_one, nm_shr, nm_b2, Bool.false_eq_true, Bool.true_eq_false, not_false_eq_true, not_true_eq_false, reduceCtorEq, t4]; omega) | omega)) ?_ | refine wp_bf (by (first | (simp (disch := omega) only [wI_I, wI_s, nI_add, pk_mul, nI_ltI, nI_leI, nI_eq, nI_clamp, nm_or, nm_and, nm_xor, nm_nd, nm_one, nm_shr, nm_b2, Bool.false_eq_true, Bool.true_eq_false, not_false_eq_true, not_true_eq_false, reduceCtorEq, t4]; done) | (simp (disch := omega) only [wI_I, wI_s, nI_add, pk_mul, nI_ltI, nI_leI, nI_eq, nI_clamp, nm_or, nm_and, nm_xor, nm_nd, nm_one, nm_shr, nm_b2, Bool.false_eq_true, Bool.true_eq_false, not_false_eq_true, not_true_eq_false, reduceCtorEq, t4]; omega) | omega)) ?_ | refine wp_nz (by first | decide | exact nz_n (by omega) (by omega)) ?_ | (simp (disch := omega) only [wI_I, wI_s, nI_add, pk_mul, nI_ltI, nI_leI, nI_eq, nI_clamp, nm_or, nm_and, nm_xor, nm_nd, nm_one, nm_shr, nm_b2, Bool.false_eq_true, Bool.true_eq_false, not_false_eq_true, not_true_eq_false, reduceCtorEq, up2_a, up2_k, up2_s, gw_o, t4]))
  refine wp_rVe (gq_all j13 hn) (wp_of g1 ⟨rfl, rfl⟩)
/-- none open: nothing fits -/
theorem sg_gather0 {h : MH} {f : Nat → Nat → Int32} {s v tm : Nat} {k : Int32} {G : Rw} (S : IS h s) (I : ISF f s v G false [] tm) :
    ev M_Sightings_gatherFits 0 0 [some (.ref s), some (.int k), none, none] [] (wI h f) = some (none, wI h (gw (up2 f s 12 (nI 0)) (s + 10) 0 (allG 0))) := by
  obtain ⟨i1, i4, j4, i5, c5, n5, i6, c6, n6, i7, c7, n7, i8, c8, n8, i9, c9, n9, i10, c10, n10, i11, c11, n11, i13, j13, -⟩ := id S
  obtain ⟨t0, t1, t2, t3, t4, t5⟩ := id I
  have d0 := j13.1
  have t1 : f s 1 = nI 0 := t1
  rw [r_Sightings_gatherFits_0]
  simp only [r_Sightings_gatherFits_15]
  apply wp_e
  refine wp_isC i1 (wp_isC i1 ?_)
  rw [wI_I, t2]
  refine wp_isZ (by decide) (wp_isC i1 (wp_nnR i13 (wp_isC i1 ?_)))
  simp (disch := omega) only [wI_I, wI_s, nI_add, pk_mul, nI_ltI, nI_leI, nI_eq, nI_clamp, nm_or, nm_and, nm_xor, nm_nd, nm_one, nm_shr, nm_b2, Bool.false_eq_true, Bool.true_eq_false, not_false_eq_true, not_true_eq_false, reduceCtorEq, up2_a, up2_k, up2_s, gw_o, t2]
  refine wp_bt (by decide) ?_
  repeat (first | refine wp_isC (by assumption) ?_ | refine wp_nnR (by assumption) ?_ | refine wp_inA (by assumption) rfl (by omega) (by omega) ?_ | refine wp_isZ (by first | decide | exact b01z _) ?_ | refine wp_bt (by (first | (simp (disch := omega) only [wI_I, wI_s, nI_add, pk_mul, nI_ltI, nI_leI, nI_eq, nI_clamp, nm_or, nm_and, nm_xor, nm_nd, nm_one, nm_shr, nm_b2, Bool.false_eq_true, Bool.true_eq_false, not_false_eq_true, not_true_eq_false, reduceCtorEq]; done) | (simp (disch := omega) only [wI_I, wI_s, nI_add, pk_mul, nI_ltI, nI_leI, nI_eq, nI_clamp, nm_or, nm_and, nm_xor, nm_nd, nm_one, nm_shr, nm_b2, Bool.false_eq_true, Bool.true_eq_false, not_false_eq_true, not_true_eq_false, reduceCtorEq]; omega) | omega)) ?_ | refine wp_bf (by (first | (simp (disch := omega) only [wI_I, wI_s, nI_add, pk_mul, nI_ltI, nI_leI, nI_eq, nI_clamp, nm_or, nm_and, nm_xor, nm_nd, nm_one, nm_shr, nm_b2, Bool.false_eq_true, Bool.true_eq_false, not_false_eq_true, not_true_eq_false, reduceCtorEq]; done) | (simp (disch := omega) only [wI_I, wI_s, nI_add, pk_mul, nI_ltI, nI_leI, nI_eq, nI_clamp, nm_or, nm_and, nm_xor, nm_nd, nm_one, nm_shr, nm_b2, Bool.false_eq_true, Bool.true_eq_false, not_false_eq_true, not_true_eq_false, reduceCtorEq]; omega) | omega)) ?_ | refine wp_nz (by first | decide | exact nz_n (by omega) (by omega)) ?_ | (simp (disch := omega) only [wI_I, wI_s, nI_add, pk_mul, nI_ltI, nI_leI, nI_eq, nI_clamp, nm_or, nm_and, nm_xor, nm_nd, nm_one, nm_shr, nm_b2, Bool.false_eq_true, Bool.true_eq_false, not_false_eq_true, not_true_eq_false, reduceCtorEq, up2_a, up2_k, up2_s, gw_o]))
  refine wp_rVe (gq_all j13 (by decide)) ?_
  rw [r_Sightings_gatherFits_19]
  repeat (first | refine wp_isC (by assumption) ?_ | refine wp_nnR (by assumption) ?_ | refine wp_inA (by assumption) rfl (by omega) (by omega) ?_ | refine wp_isZ (by first | decide | exact b01z _) ?_ | refine wp_bt (by (first | (simp (disch := omega) only [wI_I, wI_s, nI_add, pk_mul, nI_ltI, nI_leI, nI_eq, nI_clamp, nm_or, nm_and, nm_xor, nm_nd, nm_one, nm_shr, nm_b2, Bool.false_eq_true, Bool.true_eq_false, not_false_eq_true, not_true_eq_false, reduceCtorEq, t1]; done) | (simp (disch := omega) only [wI_I, wI_s, nI_add, pk_mul, nI_ltI, nI_leI, nI_eq, nI_clamp, nm_or, nm_and, nm_xor, nm_nd, nm_one, nm_shr, nm_b2, Bool.false_eq_true, Bool.true_eq_false, not_false_eq_true, not_true_eq_false, reduceCtorEq, t1]; omega) | omega)) ?_ | refine wp_bf (by (first | (simp (disch := omega) only [wI_I, wI_s, nI_add, pk_mul, nI_ltI, nI_leI, nI_eq, nI_clamp, nm_or, nm_and, nm_xor, nm_nd, nm_one, nm_shr, nm_b2, Bool.false_eq_true, Bool.true_eq_false, not_false_eq_true, not_true_eq_false, reduceCtorEq, t1]; done) | (simp (disch := omega) only [wI_I, wI_s, nI_add, pk_mul, nI_ltI, nI_leI, nI_eq, nI_clamp, nm_or, nm_and, nm_xor, nm_nd, nm_one, nm_shr, nm_b2, Bool.false_eq_true, Bool.true_eq_false, not_false_eq_true, not_true_eq_false, reduceCtorEq, t1]; omega) | omega)) ?_ | refine wp_nz (by first | decide | exact nz_n (by omega) (by omega)) ?_ | (simp (disch := omega) only [wI_I, wI_s, nI_add, pk_mul, nI_ltI, nI_leI, nI_eq, nI_clamp, nm_or, nm_and, nm_xor, nm_nd, nm_one, nm_shr, nm_b2, Bool.false_eq_true, Bool.true_eq_false, not_false_eq_true, not_true_eq_false, reduceCtorEq, up2_a, up2_k, up2_s, gw_o, t1]))
  exact wp_s ⟨rfl, rfl⟩

theorem sg_count {h : MH} {f : Nat → Nat → Int32} {s v tm : Nat} {k : Int32} {G : Rw} {se : List Sn} (S : IS h s) (I : ISF f s v G true se tm) (V : GW (2 ^ v) G) (hv : v ≤ 4) (hs : SW v se) :
    ∃ f', ev M_Sightings_countFits 0 0 [some (.ref s), some (.int k)] [] (wI h f) = some (some (.int (nI (ct (2 ^ v) (ft v G k se).2 + (ft v G k se).1.toNat))), wI h f') ∧ f' s 12 = nI (ft v G k se).1.toNat ∧ GF f' (s + 10) (2 ^ v) (ft v G k se).2 ∧ FI s f f' := by
  obtain ⟨i1, i4, j4, i5, c5, n5, i6, c6, n6, i7, c7, n7, i8, c8, n8, i9, c9, n9, i10, c10, n10, i11, c11, n11, i13, j13, -⟩ := id S
  obtain ⟨f', g1, g2, g3, g4⟩ := sg_gather (k := k) S I V hv hs
  refine ⟨f', ?_, g2, g3, g4⟩
  have d0 := j13.1
  rw [r_Sightings_countFits_0]
  simp only [r_Sightings_countFits_13]
  apply wp_e
  refine wp_isC i1 (wp_rVe g1 ?_)
  refine wp_isC i1 (wp_nnR i13 (wp_isC d0 (wp_rIe (gq_count j13 g3 (ft_W hv)) (wp_isC i1 ?_))))
  rw [wI_I, g2]
  cases (ft v G k se).1 with
  | false => refine wp_bt rfl ?_; rw [nI_add]; exact wp_s ⟨rfl, rfl⟩
  | true => refine wp_bf (by decide) ?_; rw [nI_add]; exact wp_s ⟨rfl, rfl⟩
theorem GW0 : GW 0 (allG 0) := ⟨by decide, fun r => by show (if r < 0 then _ else _) < _; rw [if_neg (by omega)]; decide, fun r _ => if_neg (by omega)⟩
theorem sg_count0 {h : MH} {f : Nat → Nat → Int32} {s v tm : Nat} {k : Int32} {G : Rw} (S : IS h s) (I : ISF f s v G false [] tm) :
    ∃ f', ev M_Sightings_countFits 0 0 [some (.ref s), some (.int k)] [] (wI h f) = some (some (.int (nI 0)), wI h f') ∧ FI s f f' := by
  obtain ⟨i1, i4, j4, i5, c5, n5, i6, c6, n6, i7, c7, n7, i8, c8, n8, i9, c9, n9, i10, c10, n10, i11, c11, n11, i13, j13, -⟩ := id S
  refine ⟨gw (up2 f s 12 (nI 0)) (s + 10) 0 (allG 0), ?_, FI.u12.tr (FI.gw (by omega) (by omega))⟩
  have d0 := j13.1
  rw [r_Sightings_countFits_0]
  simp only [r_Sightings_countFits_13]
  apply wp_e
  refine wp_isC i1 (wp_rVe (sg_gather0 S I) ?_)
  refine wp_isC i1 (wp_nnR i13 (wp_isC d0 (wp_rIe (gq_count j13 gw_f GW0) (wp_isC i1 ?_))))
  simp (disch := omega) only [wI_I, wI_s, nI_add, pk_mul, nI_ltI, nI_leI, nI_eq, nI_clamp, nm_or, nm_and, nm_xor, nm_nd, nm_one, nm_shr, nm_b2, Bool.false_eq_true, Bool.true_eq_false, not_false_eq_true, not_true_eq_false, reduceCtorEq, up2_a, up2_k, up2_s, gw_o]
  refine wp_bt True.intro ?_
  exact wp_s ⟨rfl, rfl⟩
/-- the i-th that fits, by class: none turned first -/
def fitc (n : Nat) (p : Bool × Rw) (x : Int32) : Int32 := if x < nI 0 then mI 2 else if p.1 = true ∧ x = nI 0 then mI 1 else match nt (pb p.2) ((if p.1 then x - nI 1 else x).toNatClampNeg) 256 with
  | none => mI 2
  | some q => nI (q / 16 * n + q % 16)
theorem nt_lt {p : Nat → Bool} {i q : Nat} : ∀ {k : Nat}, nt p i k = some q → q < k
  | 0, h => by cases h
  | k + 1, h => by
    rw [nt] at h
    cases z : nt p i k with
    | some w => rw [z] at h; have : w = q := by simpa using h
                have := nt_lt z; omega
    | none =>
      rw [z] at h
      by_cases c : p k = true ∧ cnt p k = i
      · rw [if_pos c] at h; have : k = q := by simpa using h
        omega
      · rw [if_neg c] at h; cases h
theorem sg_find1 {h : MH} {f : Nat → Nat → Int32} {s n j : Nat} {F : Rw} (S : IS h s) (FF : GF f (s + 10) n F) (FW : GW n F) (f1 : f (s + 1) 1 = nI n) (hj : j < 2 ^ 31) :
    ev M_Sightings_findFit 0 26 [some (.ref s), none, none, none] [(.int (nI j)), (.ref (s + 10))] (wI h f) = some (some (.int (match nt (pb F) j 256 with
      | none => mI 2
      | some q => nI (q / 16 * n + q % 16))), wI h f) := by
  obtain ⟨i1, i4, j4, i5, c5, n5, i6, c6, n6, i7, c7, n7, i8, c8, n8, i9, c9, n9, i10, c10, n10, i11, c11, n11, i13, j13, -⟩ := id S
  have g0 := j4.1
  have d0 := j13.1
  rw [r_Sightings_findFit_26]
  apply wp_e
  refine wp_isC d0 (wp_rIe (gq_find j13 FF FW hj) ?_)
  cases z : nt (pb F) j 256 with
  | none => exact wp_bt rfl (wp_s ⟨rfl, rfl⟩)
  | some q =>
    have hq := nt_lt z
    refine wp_bf (by show ¬ nI q = mI 1; intro e; have := nI_pos (n := q) (by omega); rw [e] at this; exact this mI_neg) ?_
    show wp (nz (nI 16) _) _
    refine wp_nz (by decide) (wp_isC i1 (wp_nnR i4 (wp_isC g0 (wp_nz (by decide) ?_))))
    show wp (some (some (.int (((nI q / (nI 16)) * (hI (wI h f) (s + 1) 1)) + (nI q - nI q / (nI 16) * (nI 16)))), _)) _
    rw [pk_rem (by omega) (by decide) (by decide), pk_div (by omega) (by decide) (by decide), wI_I, f1, pk_mul, nI_add]
    exact wp_s ⟨rfl, rfl⟩
theorem sg_find {h : MH} {f : Nat → Nat → Int32} {s v tm : Nat} {x k : Int32} {G : Rw} {se : List Sn} (S : IS h s) (I : ISF f s v G true se tm) (V : GW (2 ^ v) G) (hv : v ≤ 4) (hs : SW v se) :
    ∃ f', ev M_Sightings_findFit 0 0 [some (.ref s), some (.int x), some (.int k), none] [] (wI h f) = some (some (.int (fitc (2 ^ v) (ft v G k se) x)), wI h f') ∧ FI s f f' := by
  obtain ⟨i1, i4, j4, i5, c5, n5, i6, c6, n6, i7, c7, n7, i8, c8, n8, i9, c9, n9, i10, c10, n10, i11, c11, n11, i13, j13, -⟩ := id S
  obtain ⟨f', g1, g2, g3, g4⟩ := sg_gather (k := k) S I V hv hs
  refine ⟨f', ?_, g4⟩
  have t4 := ((g4.I I).2.2.2.2.1 rfl).1
  have fw := ft_W (G := G) (k := k) (se := se) hv
  rw [r_Sightings_findFit_0]
  simp only [r_Sightings_findFit_15]
  apply wp_e
  refine wp_isC i1 (wp_rVe g1 ?_)
  unfold fitc
  by_cases q : x < nI 0
  · rw [if_pos q]; exact wp_bt q (wp_s ⟨rfl, rfl⟩)
  · rw [if_neg q]
    obtain ⟨j, hj, e⟩ := nI_of q
    subst e
    refine wp_bf q (wp_isC i1 ?_)
    rw [wI_I, g2]
    cases z : (ft v G k se).1 with
    | false =>
      rw [if_neg (by intro w; cases w.1), if_neg (by decide), nI_clamp hj]
      refine wp_bt rfl (wp_isC i1 (wp_nnR i13 (wp_isC i1 ?_)))
      refine wp_bt (by first | rfl | (rw [z]; rfl)) (wp_of (sg_find1 S g3 fw t4 hj) ⟨rfl, rfl⟩)
    | true =>
      rw [if_pos rfl]
      refine wp_bf (by decide) ?_
      by_cases q2 : nI j = nI 0
      · rw [if_pos ⟨rfl, q2⟩]; exact wp_bt q2 (wp_s ⟨rfl, rfl⟩)
      · rw [if_neg (fun w => q2 w.2)]
        have hj0 : j ≠ 0 := fun e => q2 (by rw [e])
        have em : nI j - nI 1 = nI (j - 1) := pk_sub (by omega)
        refine wp_bf q2 (wp_isC i1 (wp_nnR i13 (wp_isC i1 (wp_bf (by first | decide | (rw [z]; decide)) ?_))))
        rw [em, nI_clamp (by omega)]
        exact wp_of (sg_find1 S g3 fw t4 (by omega)) ⟨rfl, rfl⟩
theorem sg_find0 {h : MH} {f : Nat → Nat → Int32} {s v tm : Nat} {x k : Int32} {G : Rw} (S : IS h s) (I : ISF f s v G false [] tm) :
    ∃ f', ev M_Sightings_findFit 0 0 [some (.ref s), some (.int x), some (.int k), none] [] (wI h f) = some (some (.int (mI 2)), wI h f') ∧ FI s f f' := by
  obtain ⟨i1, i4, j4, i5, c5, n5, i6, c6, n6, i7, c7, n7, i8, c8, n8, i9, c9, n9, i10, c10, n10, i11, c11, n11, i13, j13, -⟩ := id S
  refine ⟨gw (up2 f s 12 (nI 0)) (s + 10) 0 (allG 0), ?_, FI.u12.tr (FI.gw (by omega) (by omega))⟩
  have d0 := j13.1
  rw [r_Sightings_findFit_0]
  simp only [r_Sightings_findFit_15, r_Sightings_findFit_26]
  apply wp_e
  refine wp_isC i1 (wp_rVe (sg_gather0 S I) ?_)
  by_cases q : x < nI 0
  · exact wp_bt q (wp_s ⟨rfl, rfl⟩)
  · obtain ⟨j, hj, e⟩ := nI_of q
    subst e
    refine wp_bf q (wp_isC i1 ?_)
    simp (disch := omega) only [wI_I, wI_s, nI_add, pk_mul, nI_ltI, nI_leI, nI_eq, nI_clamp, nm_or, nm_and, nm_xor, nm_nd, nm_one, nm_shr, nm_b2, Bool.false_eq_true, Bool.true_eq_false, not_false_eq_true, not_true_eq_false, reduceCtorEq, up2_a, up2_k, up2_s, gw_o]
    refine wp_bt True.intro (wp_isC i1 (wp_nnR i13 (wp_isC i1 ?_)))
    refine wp_bt (by first | trivial | rfl) (wp_isC d0 (wp_rIe (gq_find j13 gw_f GW0 hj) ?_))
    have : nt (pb (allG 0)) j 256 = none := by
      have := nt_skip (p := pb (allG 0)) (i := j) (k := 0) (d := 256) (fun i _ => GW0.tb (Or.inl (by omega)))
      rw [Nat.zero_add] at this; rw [this]; rfl
    rw [this]
    exact wp_bt rfl (wp_s ⟨rfl, rfl⟩)
/-! the best block -/
theorem bc_split (F G M : Nat) : bc ((F &&& G) &&& M) + bc (nd F G &&& M) = bc (F &&& M) := by
  unfold bc
  rw [← sm_add]
  apply sm_c
  intro c _
  rw [Nat.testBit_and, Nat.testBit_and, Nat.testBit_and, Nat.testBit_and, nd_t]
  cases F.testBit c <;> cases G.testBit c <;> cases M.testBit c <;> rfl
theorem bc_and_le (F M : Nat) : bc (F &&& M) ≤ bc F := by
  have : ∀ n, sm (fun c => ((F &&& M).testBit c).toNat) n ≤ sm (fun c => (F.testBit c).toNat) n := by
    intro n
    induction n with
    | zero => exact Nat.le_refl _
    | succ n ih =>
      rw [sm, sm, Nat.testBit_and]
      have : (F.testBit n && M.testBit n).toNat ≤ (F.testBit n).toNat := by cases F.testBit n <;> cases M.testBit n <;> decide
      omega
  exact this 16
theorem sm_mono {F G : Nat → Nat} : ∀ {n : Nat}, (∀ k, k < n → F k ≤ G k) → sm F n ≤ sm G n
  | 0, _ => Nat.le_refl _
  | n + 1, h => Nat.add_le_add (sm_mono (fun k hk => h k (by omega))) (h n (by omega))
theorem sm_ge {F : Nat → Nat} {m n : Nat} (h : m ≤ n) : sm F m ≤ sm F n := by
  obtain ⟨d, rfl⟩ := Nat.exists_eq_add_of_le h
  rw [sm_a]; omega
theorem cb_ct {v l b : Nat} {F : Rw} (hl : l ≤ v) (hb : b < 2 ^ (2 * l)) : cb v l F b ≤ ct (2 ^ v) F := by
  obtain ⟨h1, h2⟩ := bk_in hl hb
  unfold cb ib ci ct
  have e1 : sm (fun j => bc (F (b / 2 ^ l * 2 ^ (v - l) + j) &&& (2 ^ (b % 2 ^ l * 2 ^ (v - l) + 2 ^ (v - l)) - 2 ^ (b % 2 ^ l * 2 ^ (v - l))))) (2 ^ (v - l)) ≤ sm (fun j => bc (F (b / 2 ^ l * 2 ^ (v - l) + j))) (2 ^ (v - l)) := sm_mono (fun j _ => bc_and_le _ _)
  have e2 := sm_a (F := fun r => bc (F r)) (b / 2 ^ l * 2 ^ (v - l)) (2 ^ (v - l))
  have e3 := sm_ge (F := fun r => bc (F r)) h1
  omega
theorem cb_split {v l b : Nat} {F G : Rw} (V : GW (2 ^ v) F) (hl : l ≤ v) (hb : b < 2 ^ (2 * l)) : cb v l (jnG 1 (2 ^ v) F G) b + cb v l (jnG 2 (2 ^ v) F G) b = cb v l F b := by
  obtain ⟨h1, h2⟩ := bk_in hl hb
  unfold cb ib ci
  rw [← sm_add]
  apply sm_c
  intro j hj
  rw [show jnG 1 (2 ^ v) F G (b / 2 ^ l * 2 ^ (v - l) + j) = F (b / 2 ^ l * 2 ^ (v - l) + j) &&& G (b / 2 ^ l * 2 ^ (v - l) + j) from if_pos (by omega), show jnG 2 (2 ^ v) F G (b / 2 ^ l * 2 ^ (v - l) + j) = nd (F (b / 2 ^ l * 2 ^ (v - l) + j)) (G (b / 2 ^ l * 2 ^ (v - l) + j)) from if_pos (by omega)]
  exact bc_split _ _ _
/-- how many are left by a block, at the worst -/
def lft (v l : Nat) (p : Bool × Rw) (G : Rw) (b : Nat) : Nat := max (ct (2 ^ v) p.2 + p.1.toNat - cb v l (jnG 1 (2 ^ v) p.2 G) b - cb v l (jnG 2 (2 ^ v) p.2 G) b) (max (cb v l (jnG 1 (2 ^ v) p.2 G) b) (cb v l (jnG 2 (2 ^ v) p.2 G) b))
def bst (L : Nat → Nat) (m : Nat) : Nat → Nat × Nat
  | 0 => (0, m)
  | i + 1 => if L i < (bst L m i).2 then (i, L i) else bst L m i
theorem bst_le {L : Nat → Nat} {m : Nat} : ∀ i, (bst L m i).1 ≤ i ∧ (bst L m i).2 ≤ m
  | 0 => ⟨Nat.le_refl _, Nat.le_refl _⟩
  | i + 1 => by
    have := bst_le (L := L) (m := m) i
    rw [bst]
    split
    · exact ⟨Nat.le_succ _, by show L i ≤ m; omega⟩
    · exact ⟨by omega, this.2⟩
theorem nI_max {a b : Nat} (ha : a < 2 ^ 31) (hb : b < 2 ^ 31) : (if nI a < nI b then nI b else nI a) = nI (max a b) := by
  by_cases q : a < b
  · rw [if_pos (by rw [nI_ltI ha hb]; exact q), Nat.max_eq_right (by omega)]
  · rw [if_neg (by rw [nI_ltI ha hb]; exact q), Nat.max_eq_left (by omega)]
theorem sg_bestl {h : MH} {f : Nat → Nat → Int32} {s v l : Nat} {w : Bool} {G : Rw} {p : Bool × Rw} (S : IS h s) (FW : GW (2 ^ v) p.2) (V : GW (2 ^ v) G) (f3 : f s 3 = nI v) (hv : v ≤ 4) (hl : l ≤ v) (F1 : GF f (s + 12) (2 ^ v) (jnG 1 (2 ^ v) p.2 G)) (F2 : GF f (s + 14) (2 ^ v) (jnG 2 (2 ^ v) p.2 G)) : ∀ k i, i + k = 2 ^ (2 * l) →
    ev M_Sightings_bestBlock 0 33 [some (.ref s), some (.int (nI l)), none, some (.int (nI w.toNat)), some (.int (nI (ct (2 ^ v) p.2 + p.1.toNat))), some (.int (nI (bst (lft v l p G) (ct (2 ^ v) p.2 + p.1.toNat + 1) i).1)), some (.int (nI (bst (lft v l p G) (ct (2 ^ v) p.2 + p.1.toNat + 1) i).2)), some (.int (nI i)), none, none, none] [] (wI h f) = some (some (.int (nI (if w then (bst (lft v l p G) (ct (2 ^ v) p.2 + p.1.toNat + 1) (2 ^ (2 * l))).2 else (bst (lft v l p G) (ct (2 ^ v) p.2 + p.1.toNat + 1) (2 ^ (2 * l))).1))), wI h f) := by
  obtain ⟨i1, i4, j4, i5, c5, n5, i6, c6, n6, i7, c7, n7, i8, c8, n8, i9, c9, n9, i10, c10, n10, i11, c11, n11, i13, j13, i14, j14, i15, j15⟩ := id S
  have hn := lv_p hv
  have h8 : 2 ^ (2 * l) ≤ 2 ^ 8 := Nat.pow_le_pow_right (by decide) (by omega)
  have e14 := j14.1
  have e15 := j15.1
  have hct := ct_le (G := p.2) hn
  have hp1 := Bool.toNat_le p.1
  have e2l : nI 1 <<< ((nI 2 * nI l) &&& 31) = nI (2 ^ (2 * l)) := by rw [pk_mul, nm_one (by omega)]
  intro k
  induction k with
  | zero =>
    intro i hi
    rw [r_Sightings_bestBlock_33, e2l]
    apply wp_e
    refine wp_bf (by (first | (simp (disch := omega) only [wI_I, wI_s, nI_add, pk_mul, nI_ltI, nI_leI, nI_eq, nI_clamp, nm_or, nm_and, nm_xor, nm_nd, nm_one, nm_shr, nm_b2, Bool.false_eq_true, Bool.true_eq_false, not_false_eq_true, not_true_eq_false, reduceCtorEq]; done) | (simp (disch := omega) only [wI_I, wI_s, nI_add, pk_mul, nI_ltI, nI_leI, nI_eq, nI_clamp, nm_or, nm_and, nm_xor, nm_nd, nm_one, nm_shr, nm_b2, Bool.false_eq_true, Bool.true_eq_false, not_false_eq_true, not_true_eq_false, reduceCtorEq]; omega) | omega)) ?_
    rw [show i = 2 ^ (2 * l) by omega]
    cases w with
    | false => exact wp_bt rfl (wp_s ⟨rfl, rfl⟩)
    | true => exact wp_bf (by decide) (wp_s ⟨rfl, rfl⟩)
  | succ k ih =>
    intro i hi
    have ih := ih (i + 1) (by omega)
    have hb := bst_le (L := lft v l p G) (m := ct (2 ^ v) p.2 + p.1.toNat + 1) i
    have h1 := cb_split (G := G) FW hl (show i < 2 ^ (2 * l) by omega)
    have h2 := cb_ct (F := p.2) hl (show i < 2 ^ (2 * l) by omega)
    rw [r_Sightings_bestBlock_33, e2l]
    simp only [r_Sightings_bestBlock_74]
    apply wp_e
    refine wp_bt (by (first | (simp (disch := omega) only [wI_I, wI_s, nI_add, pk_mul, nI_ltI, nI_leI, nI_eq, nI_clamp, nm_or, nm_and, nm_xor, nm_nd, nm_one, nm_shr, nm_b2, Bool.false_eq_true, Bool.true_eq_false, not_false_eq_true, not_true_eq_false, reduceCtorEq]; done) | (simp (disch := omega) only [wI_I, wI_s, nI_add, pk_mul, nI_ltI, nI_leI, nI_eq, nI_clamp, nm_or, nm_and, nm_xor, nm_nd, nm_one, nm_shr, nm_b2, Bool.false_eq_true, Bool.true_eq_false, not_false_eq_true, not_true_eq_false, reduceCtorEq]; omega) | omega)) (wp_isC i1 (wp_nnR i14 (wp_isC i1 (wp_isC e14 ?_))))
    rw [wI_I, f3]
    refine wp_rIe (gq_blk j14 F1 (GW.jnG FW V) hv hl (by omega)) ?_
    refine wp_isC i1 (wp_nnR i15 (wp_isC i1 (wp_isC e15 ?_)))
    rw [wI_I, f3]
    refine wp_rIe (gq_blk j15 F2 (GW.jnG FW V) hv hl (by omega)) ?_
    rw [pk_sub (by omega), pk_sub (by omega), nI_max (by omega) (by omega), nI_max (by omega) (by omega), nI_add]
    rw [bst] at ih
    have hL : lft v l p G i < 2 ^ 31 := by unfold lft; omega
    show wp (br (nI (lft v l p G i) < _) _ _) _
    by_cases q : lft v l p G i < (bst (lft v l p G) (ct (2 ^ v) p.2 + p.1.toNat + 1) i).2
    · rw [if_pos q] at ih
      exact wp_bt (by rw [nI_ltI hL (by omega)]; exact q) (wp_of ih ⟨rfl, rfl⟩)
    · rw [if_neg q] at ih
      exact wp_bf (by rw [nI_ltI hL (by omega)]; exact q) (wp_of ih ⟨rfl, rfl⟩)
/-- the class's answer to ask -/
def askc (v l : Nat) (p : Bool × Rw) (G : Rw) (w : Bool) : Int32 := if ct (2 ^ v) p.2 + p.1.toNat = 0 then mI 1 else nI (if w then (bst (lft v l p G) (ct (2 ^ v) p.2 + p.1.toNat + 1) (2 ^ (2 * l))).2 else (bst (lft v l p G) (ct (2 ^ v) p.2 + p.1.toNat + 1) (2 ^ (2 * l))).1)
theorem sg_best {h : MH} {f : Nat → Nat → Int32} {s v tm l : Nat} {k : Int32} {w : Bool} {G : Rw} {se : List Sn} (S : IS h s) (I : ISF f s v G true se tm) (V : GW (2 ^ v) G) (hv : v ≤ 4) (hs : SW v se) (hl : l ≤ v) :
    ∃ f', ev M_Sightings_bestBlock 0 0 [some (.ref s), some (.int (nI l)), some (.int k), some (.int (nI w.toNat)), none, none, none, none, none, none, none] [] (wI h f) = some (some (.int (askc v l (ft v G k se) G w)), wI h f') ∧ FI s f f' := by
  obtain ⟨i1, i4, j4, i5, c5, n5, i6, c6, n6, i7, c7, n7, i8, c8, n8, i9, c9, n9, i10, c10, n10, i11, c11, n11, i13, j13, i14, j14, i15, j15⟩ := id S
  obtain ⟨f', g1, g2, g3, g4⟩ := sg_count (k := k) S I V hv hs
  have hn := lv_p hv
  have fw := ft_W (G := G) (k := k) (se := se) hv
  have hct := ct_le (G := (ft v G k se).2) hn
  have hp1 := Bool.toNat_le (ft v G k se).1
  have e14 := j14.1
  have e15 := j15.1
  unfold askc
  rw [r_Sightings_bestBlock_0]
  by_cases q : ct (2 ^ v) (ft v G k se).2 + (ft v G k se).1.toNat = 0
  · refine ⟨f', ?_, g4⟩
    rw [if_pos q]
    rw [q] at g1
    apply wp_e
    exact wp_isC i1 (wp_rIe g1 (wp_bt rfl (wp_s ⟨rfl, rfl⟩)))
  · rw [if_neg q]
    have GI := ((g4.I I).2.2.2.2.1 rfl)
    have t3 := (g4.I I).2.2.2.1
    have fi : FI s f' (gw (gw f' (s + 12) (2 ^ v) (jnG 1 (2 ^ v) (ft v G k se).2 G)) (s + 14) (2 ^ v) (jnG 2 (2 ^ v) (ft v G k se).2 G)) := (FI.gw (by omega) (by omega)).tr (FI.gw (by omega) (by omega))
    have := sg_bestl (w := w) (f := gw (gw f' (s + 12) (2 ^ v) (jnG 1 (2 ^ v) (ft v G k se).2 G)) (s + 14) (2 ^ v) (jnG 2 (2 ^ v) (ft v G k se).2 G)) S fw V (by rw [fi.2 3 (by decide)]; exact t3) hv hl (gw_F (by omega) gw_f) gw_f (2 ^ (2 * l)) 0 (by omega)
    refine ⟨_, ?_, g4.tr fi⟩
    apply wp_e
    refine wp_isC i1 (wp_rIe g1 (wp_bf (by rw [nI_eq (by omega) (by decide)]; exact q) ?_))
    refine wp_isC i1 (wp_nnR i14 (wp_isC i1 (wp_nnR i13 (wp_isC i1 (wp_nnR i4 (wp_isC e14 ?_))))))
    refine wp_rVe (gq_join j14 j13 j4 (by omega) (by omega) g3 GI fw V (by decide)) ?_
    refine wp_isC i1 (wp_nnR i15 (wp_isC i1 (wp_nnR i13 (wp_isC i1 (wp_nnR i4 (wp_isC e15 ?_))))))
    refine wp_rVe (gq_join j15 j13 j4 (by omega) (by omega) (gw_F (by omega) g3) (gw_F (by omega) GI) fw V (by decide)) ?_
    rw [nI_add]
    exact wp_of this ⟨rfl, rfl⟩
theorem sg_best0 {h : MH} {f : Nat → Nat → Int32} {s v tm : Nat} {l k w : Int32} {G : Rw} (S : IS h s) (I : ISF f s v G false [] tm) :
    ∃ f', ev M_Sightings_bestBlock 0 0 [some (.ref s), some (.int l), some (.int k), some (.int w), none, none, none, none, none, none, none] [] (wI h f) = some (some (.int (mI 1)), wI h f') ∧ FI s f f' := by
  obtain ⟨f', g1, g4⟩ := sg_count0 (k := k) S I
  refine ⟨f', ?_, g4⟩
  rw [r_Sightings_bestBlock_0]
  apply wp_e
  exact wp_isC S.1 (wp_rIe g1 (wp_bt rfl (wp_s ⟨rfl, rfl⟩)))
