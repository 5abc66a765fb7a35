/-! The plain form's reader: the formula's levels. -/
/-- no sign of this level or tighter is at hand but a relation's behind a relation -/
def EndK (L k : Nat) (r : List Kp) : Prop := ∀ w, sgn k = some w → L ≤ bwS w → bwS w = 4 ∧ hasr r = true
def AK (h : MH) (f0 : Nat → Nat → Int32) (g0 : Nat → Nat → Int64) (m : Nat) (b : Nat → Nat) (len : Nat) (d Lp L : Nat) (A : Ps → Ps) : Prop := ∀ (Q : Option Value → MH → Prop) (s : Ps) (O : List Int32) (f : Nat → Nat → Int32) (g : Nat → Nat → Int64), gdK len s → RM f0 g0 f g m b len O d s → O.length + 1 ≤ 7 * d + L → LstP O (fun x => bdI x < Lp) → (4 ≤ L → kd b len (yI s) = 114 → ∃ O' x, O = O' ++ [x] ∧ 4 ≤ bdI x) →
  (∀ f' g' r ks, yF (A s) = 0 → okk L r → EndK L (kd b len (yI (A s))) r → RR f0 g0 f' g' m b len (yI (A s)) (O ++ mks r) (d + nots r) (fxs (vXs (yN (A s)))) ks (vUn (yN (A s))) (yV (A s)) → ks ++ r = vKs (yN (A s)) → cF h m Q f' g') →
  (∀ f' g', yF (A s) ≠ 0 → RE f0 g0 f' g' m (yF (A s)) (yP (A s)) → Q none (wI (wL h g') f')) → cU h m Q f g
theorem okk.w {L L' : Nat} {r : List Kp} (o : okk L r) (h : L' ≤ L) : okk L' r := fun k hk => ⟨(o k hk).1, Nat.le_trans h (o k hk).2⟩
theorem hasr_n : ∀ {r : List Kp}, (∀ k, k ∈ r → 4 < bd k) → hasr r = false
  | [], _ => rfl
  | c :: r, h => by
    show (if 4 < bd c then hasr r else _) = false
    rw [if_pos (h c (List.mem_cons_self ..))]
    exact hasr_n (fun k hk => h k (List.mem_cons_of_mem _ hk))
section
variable {h : MH} {f f0 : Nat → Nat → Int32} {g g0 : Nat → Nat → Int64} {m : Nat} {b : Nat → Nat} {len i : Nat} {O : List Int32} {dp d : Nat} {cs : List Nat} {ks : List Kp} {un lv nr : Nat} {nm : Nat → Nat} {s : Ps} {Q : Option Value → MH → Prop}
/-- a sign is read: what binds as tightly is done, it waits, a unit is next -/
theorem mr_fsign {w : Nat} {r : List Kp} (C : MSH h m) (R : RR f0 g0 f g m b len i (O ++ mks r) (d + nots r) cs ks un lv) (hw : sgn (kd b len i) = some w) (ok : okk (bwS w) r) (h4 : bwS w = 4 → (∀ k, k ∈ r → 4 < bd k)) (hs : LstP O (fun x => bdI x < bwS w)) (hl : ks.length + r.length < 330) (hO : O.length < 150) (hd : d < 100)
    (K : ∀ f' g', RR f0 g0 f' g' m b len (nx b len i) (O ++ [mkc (2, w)]) d cs (ks ++ r) un lv → cU h m Q f' g') : cF h m Q f g := by
  have mc := C.1
  have ar15 : hR h m 31 = some (m + 15) := (C.2 14 (by decide)).1
  have an15 : hN h (m + 15) = 160 := (C.2 14 (by decide)).2.1
  have ac15 : hC h (m + 15) = 20 := (C.2 14 (by decide)).2.2
  have sw := sgn_w hw
  have kk : kps (2, w) := Or.inl ⟨rfl, sw.1⟩
  obtain ⟨bk1, -, -⟩ := bdI_k kk
  have bk1 : bdI (mkc (2, w)) = bwS w := bk1
  have sg := mr_sign C R
  rw [hw] at sg
  have sg : ev M_Mo_signHere 0 0 [some (.ref m)] [] (wI (wL h g) f) = some (some (.int (mkc (2, w))), wI (wL h g) f) := sg
  have nm1 : ¬ mkc (2, w) = mI 1 := by rcases kps_c kk with e | e | e | e | e | e | e | e | e | e | e <;> rw [e] <;> decide
  have b10 := bdI_le (mkc (2, w))
  rw [bk1] at b10
  obtain ⟨f1, a1, R1⟩ := mr_fcl (g := g) C (show bwS w < 10 by omega) hs (by omega) r ks f ok hl (by omega) R
  have s := R1.2.2.2.2.1
  have R2 : RR f0 g0 (up2 (up2 f1 (m + 15) O.length (mkc (2, w))) m 32 (nI (O.length + 1))) g m b len i (O ++ [mkc (2, w)]) d cs (ks ++ r) un lv := R1.st (fun a h1 h2 => by rw [up2_a h1, up2_a h2]) (fun k h1 _ => by rw [up2_k h1, up2_a (by omega)]) (s.push2 (by omega))
  obtain ⟨f3, g3, a3, R3⟩ := mr_goOn C R2
  have kz := K f3 g3 R3
  have mb := mo_bound (mkc (2, w)) (wI (wL h g) f)
  rw [bk1] at mb
  generalize mkc (2, w) = x at *
  have go : wp (ev M_Mo_formula 0 56 [some (.ref m), some (.int (nI 1)), some (.int x)] [] (wI (wL h g) f)) Q := by
    rw [r_Mo_formula_56]
    refine wp_rIe mb (wp_isC mc (wp_rVe a1 (wp_isC mc (wp_nnR ar15 (wp_isC mc ?_)))))
    rw [wI_I, s.1]
    refine wp_isC ac15 (wp_inA an15 rfl (by omega) (by omega) ?_)
    rw [nI_clamp (by omega), wI_s]
    refine wp_isC mc (wp_isC mc ?_)
    rw [wI_I, up2_a (by omega), s.1, nI_add, wI_s]
    refine wp_isC mc (wp_rVe a3 (wp_isC mc ?_))
    rw [r_Mo_unit_0]
    refine wp_rV kz (fun v H w => ⟨w.1, ?_⟩)
    rw [r_Mo_formula_81]; exact w.2
  unfold cF
  rw [r_Mo_formula_11]
  refine wp_bf n10 (wp_isC mc (wp_rIe (mr_good C R) (wp_bf n10 (wp_isC mc (wp_rIe sg (wp_isC mc (wp_rIe (mr_mark C R (c := 41) (by decide) (by decide)) ?_)))))))
  rw [decide_eq_false sw.2.2.2.1]
  refine wp_bt rfl ?_
  rw [r_Mo_formula_45]
  refine wp_bf nm1 (wp_rIe mb (wp_bi (nI_eq (by omega) (by decide)) (fun z => ?_) (fun z => go)))
  have rl := mr_rel C R (ok.w (Nat.zero_le _)) (Or.inr ⟨h4 z, hs.w (fun x hx => by omega)⟩)
  have hn : hasr r = false := hasr_n (h4 z)
  rw [hn] at rl
  exact wp_isC mc (wp_rIe rl (wp_bt rfl go))
/-- no sign goes on: the rest of the formula -/
theorem mr_fend {r : List Kp} (C : MSH h m) (R : RR f0 g0 f g m b len i (O ++ mks r) dp cs ks un lv) (ok : okk 0 r) (he : EndK 1 (kd b len i) r) (hb : kd b len i = 41 → (O ++ mks r).any (fun x => decide (x = nI 40)) = false) (K : wp (ev M_Mo_formula 0 83 [some (.ref m), none, none] [] (wI (wL h g) f)) Q) : cF h m Q f g := by
  have mc := C.1
  have sg := mr_sign C R
  have fin : wp (ev M_Mo_formula 0 78 [some (.ref m), none, none] [] (wI (wL h g) f)) Q := by
    rw [r_Mo_formula_78, r_Mo_formula_81, r_Mo_formula_11]
    exact wp_bt rfl K
  have go : wp (ev M_Mo_formula 0 45 [some (.ref m), some (.int (nI 1)), some (.int (match sgn (kd b len i) with
    | some w => mI (20 + w)
    | none => mI 1))] [] (wI (wL h g) f)) Q := by
    rw [r_Mo_formula_45]
    cases hw : sgn (kd b len i) with
    | none => exact wp_bt rfl fin
    | some w =>
      have sw := sgn_w hw
      have kk : kps (2, w) := Or.inl ⟨rfl, sw.1⟩
      obtain ⟨bk1, -, -⟩ := bdI_k kk
      have b1 : 1 ≤ bwS w := by unfold bwS; repeat' split
                                all_goals decide
      obtain ⟨e4, hh⟩ := he w hw b1
      have bk1 : bdI (mkc (2, w)) = bwS w := bk1
      have nm1 : ¬ mkc (2, w) = mI 1 := by rcases kps_c kk with e | e | e | e | e | e | e | e | e | e | e <;> rw [e] <;> decide
      have mb := mo_bound (mkc (2, w)) (wI (wL h g) f)
      rw [bk1, e4] at mb
      have rl := mr_rel C R ok (Or.inl hh)
      rw [hh] at rl
      exact wp_bf nm1 (wp_rIe mb (wp_bt rfl (wp_isC mc (wp_rIe rl (wp_bf n10 fin)))))
  unfold cF
  rw [r_Mo_formula_11]
  refine wp_bf n10 (wp_isC mc (wp_rIe (mr_good C R) (wp_bf n10 (wp_isC mc (wp_rIe sg (wp_isC mc (wp_rIe (mr_mark C R (c := 41) (by decide) (by decide)) ?_)))))))
  by_cases z : kd b len i = 41
  · rw [decide_eq_true z]
    refine wp_bf n10 (wp_isC mc (wp_rIe (mr_bracket C R) ?_))
    rw [hb z]
    exact wp_bt rfl go
  · rw [decide_eq_false z]
    exact wp_bt rfl go
theorem mr_gloop {L Lp M : Nat} {A : Ps → Ps} (C : MSH h m) (hd : d ≤ 7) (hL : L = 6 ∨ L = 5 ∨ L = 2 ∨ L = 1) (hp : L < Lp) (st : Stk A) (HA : AK h f0 g0 m b len d Lp (L + 1) A) (PA : ∀ s, gdK len s → yF (A s) = 0 → PK len M s (A s)) (hM : M ≤ 9) (hO : O.length + 1 ≤ 7 * d + L) (hs : LstP O (fun x => bdI x < L)) : ∀ n s f g r ks, gdK len s → len ≤ yI s + n → okk L r → EndK (L + 1) (kd b len (yI s)) r → RR f0 g0 f g m b len (yI s) (O ++ mks r) (d + nots r) (fxs (vXs (yN s))) ks (vUn (yN s)) (yV s) → ks ++ r = vKs (yN s) →
    (∀ f' g' r ks, yF (zG b len L A n s) = 0 → okk L r → EndK L (kd b len (yI (zG b len L A n s))) r → RR f0 g0 f' g' m b len (yI (zG b len L A n s)) (O ++ mks r) (d + nots r) (fxs (vXs (yN (zG b len L A n s)))) ks (vUn (yN (zG b len L A n s))) (yV (zG b len L A n s)) → ks ++ r = vKs (yN (zG b len L A n s)) → cF h m Q f' g') →
    (∀ f' g', yF (zG b len L A n s) ≠ 0 → RE f0 g0 f' g' m (yF (zG b len L A n s)) (yP (zG b len L A n s)) → Q none (wI (wL h g') f')) → cF h m Q f g := by
  intro n
  induction n with
  | zero =>
    intro s f g r ks G hn ok en R ec K1 K2
    refine K1 f g r ks G.1 ok (fun w hw _ => ?_) R ec
    have := kd_2 (b := b) (show len ≤ yI s by omega)
    have := (sgn_w hw).2.2.1
    contradiction
  | succ n ih =>
    intro s f g r ks G hn ok en R ec K1 K2
    have ek := kq_0 (b := b) (len := len) G.1
    cases z : sgl L (kq b len s) with
    | none =>
      rw [zG_n z] at K1 K2
      refine K1 f g r ks G.1 ok (fun w hw hb => ?_) R ec
      by_cases e : bwS w = L
      · have := sgl_i hw
        rw [e, ← ek, z] at this; cases this
      · exact en w hw (by omega)
    | some w =>
      rw [zG_y z] at K1 K2
      obtain ⟨sg, bwe⟩ := sgl_w z
      rw [ek] at sg
      have sw := sgn_w sg
      have hs1 := nx_s (b := b) (len := len) (i := yI s) sw.2.2.1
      have eS := zS_0 (b := b) (len := len) G.1
      have gx := G.2.2.1
      have gu := G.2.2.2
      have lc : ks.length + r.length = (vKs (yN s)).length := by rw [← ec, List.length_append]
      have G1 : gdK len (zS b len s) := by rw [eS]; exact ⟨rfl, nx_le G.2.1, G.2.2⟩
      have kk : kps (2, w) := Or.inl ⟨rfl, sw.1⟩
      have bk1 : bdI (mkc (2, w)) = L := (bdI_k kk).1.trans bwe
      refine mr_fsign (w := w) (r := r) C R sg (by rw [bwe]; exact ok) (by omega) (by rw [bwe]; exact hs) (by omega) (by omega) (by omega) (fun f1 g1 R1 => ?_)
      rw [ec] at R1
      refine HA Q (zS b len s) (O ++ [mkc (2, w)]) f1 g1 G1 (by rw [eS]; exact R1) (by rw [len_1]; omega) (Or.inr ⟨O, _, rfl, by show bdI (mkc (2, w)) < Lp; rw [bk1]; exact hp⟩) (fun h4 _ => ⟨O, _, rfl, by rw [bk1]; omega⟩) (fun f2 g2 r2 ks2 fA ok2 en2 R2 ec2 => ?_) (fun f2 g2 fA R2 => ?_)
      · have p := PA _ G1 fA
        have gg := PK.gd G1 p hM
        have hx : (vKs (yN (A (zS b len s)))).length < 320 := by have := gg.1.2.2.2; have := gg.2; omega
        have hyi : nx b len (yI s) ≤ yI (A (zS b len s)) := by have := p.1.1; rw [eS] at this ⊢; exact this
        refine ih (zK (2, w) (A (zS b len s))) f2 g2 (r2 ++ [(2, w)]) ks2 ?_ ?_ ?_ ?_ ?_ ?_ K1 K2
        · rw [zK_o hx]
          refine ⟨gg.1.1, gg.1.2.1, ?_, gg.1.2.2.2⟩
          show (vKs (yN (A (zS b len s))) ++ [(2, w)]).length ≤ 9 * vUn (yN (A (zS b len s)))
          rw [len_1]; exact gg.2
        · rw [yI_K]; omega
        · intro x hx
          rcases List.mem_append.mp hx with y | y
          · exact ⟨(ok2 x y).1, by have := (ok2 x y).2; omega⟩
          · rw [List.mem_singleton.mp y]; exact ⟨kk, by show L ≤ bwS w; omega⟩
        · rw [yI_K]
          intro w' hw' hb'
          obtain ⟨q1, q2⟩ := en2 w' hw' hb'
          exact ⟨q1, hasr_a q2⟩
        · rw [zK_o hx, mks_a, nots_a]
          rw [List.append_assoc] at R2
          exact R2
        · rw [zK_o hx, ← List.append_assoc, ec2]; rfl
      · have e1 := st_K (c := (2, w)) _ fA
        have e2 := st_G (b := b) (len := len) (L := L) st n (zK (2, w) (A (zS b len s))) (by rw [e1.1]; exact fA)
        refine K2 f2 g2 (by rw [e2.1, e1.1]; exact fA) ?_
        rw [e2.1, e2.2, e1.1, e1.2]; exact R2
theorem mr_glvl {L Lp M : Nat} {A : Ps → Ps} (C : MSH h m) (hl : len ≤ 1600) (hd : d ≤ 7) (hL : L = 6 ∨ L = 5 ∨ L = 2 ∨ L = 1) (hp : L < Lp) (st : Stk A) (HA : AK h f0 g0 m b len d Lp (L + 1) A) (PA : ∀ s, gdK len s → yF (A s) = 0 → PK len M s (A s)) (hM : M ≤ 9) : AK h f0 g0 m b len d L L (fun s => zG b len L A 1600 (A s)) := by
  intro Q s O f g G R hO hs hn K1 K2
  refine HA Q s O f g G R (by omega) (hs.w (fun x hx => by omega)) (fun h4 => hn (by omega)) (fun f1 g1 r ks fA ok en R1 ec => ?_) (fun f1 g1 fA R1 => ?_)
  · have p := PA s G fA
    have gg := PK.gd G p hM
    exact mr_gloop C hd hL hp st HA PA hM hO hs 1600 (A s) f1 g1 r ks gg.1 (by omega) (ok.w (by omega)) en R1 ec K1 K2
  · have e2 := st_G (b := b) (len := len) (L := L) st 1600 (A s) fA
    refine K2 f1 g1 (by rw [e2.1]; exact fA) ?_
    rw [e2.1, e2.2]; exact R1
end
