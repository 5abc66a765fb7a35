/-! The plain form: a text stored. -/
section
variable {h : MH} {f f0 : Nat → Nat → Int32} {g g0 : Nat → Nat → Int64} {m : Nat} {b : Nat → Nat} {len : Nat} {s : Ps} {cx : Nat → List Nat} {S : Abs}
theorem mr_lines (C : MSH h m) (hl : len ≤ 1600) : ∀ n s f g cx, LI len cx s → LM f g m b len cx s → len ≤ yI s + n → wp (ev M_Mo_readAll 0 67 [some (.ref m)] [] (wI (wL h g) f)) (fun a e => a = none ∧ ∃ f' g', e = wI (wL h g') f' ∧ LRs f g f' g' m b len (zLs b len n s)) := by
  have mc := C.1
  have stop : ∀ s f g cx, LI len cx s → LM f g m b len cx s → kd b len (yI s) = 2 → wp (ev M_Mo_readAll 0 67 [some (.ref m)] [] (wI (wL h g) f)) (fun a e => a = none ∧ ∃ f' g', e = wI (wL h g') f' ∧ LRs f g f' g' m b len s) := fun s f g cx L M z => by
    obtain ⟨⟨O, dp, R⟩, P, F⟩ := id M
    have q0 : f m 5 = nI 0 ↔ kd b len (yI s) = 2 := by rw [R.2.2.2.1.2.2.2.1]; exact srt_0 _
    rw [r_Mo_readAll_67]
    exact wp_isC mc (wp_rIe (mq_good C R) (wp_bf n10 (wp_isC mc (wp_bt (q0.mpr z) (wp_s ⟨rfl, f, g, rfl, TR.rf, Or.inl ⟨L.1.1, cx, L, M⟩⟩)))))
  intro n
  induction n with
  | zero =>
    intro s f g cx L M hn
    exact stop s f g cx L M (kd_2 (by omega))
  | succ n ih =>
    intro s f g cx L M hn
    have ek := kq_0 (b := b) (len := len) L.1.1
    rw [zLs]
    by_cases z : kd b len (yI s) = 2
    · rw [if_neg (fun w => w.2 (by rw [ek]; exact z))]
      exact stop s f g cx L M z
    · rw [if_pos ⟨L.1.1, by rw [ek]; exact z⟩]
      obtain ⟨⟨O, dp, R⟩, P, F⟩ := id M
      have q0 : f m 5 = nI 0 ↔ kd b len (yI s) = 2 := by rw [R.2.2.2.1.2.2.2.1]; exact srt_0 _
      obtain ⟨f1, g1, a1, T1, r1⟩ := mr_line C hl L M
      rw [r_Mo_readAll_67]
      refine wp_isC mc (wp_rIe (mq_good C R) (wp_bf n10 (wp_isC mc (wp_bf (fun w => z (q0.mp w)) (wp_isC mc (wp_rVe a1 ?_))))))
      rcases r1 with ⟨y1, cx1, L1, M1⟩ | ⟨y1, y2⟩
      · obtain ⟨f2, k2⟩ := zE_f y1
        have k2' : kd b len (yI (zLn b len s)) = 59 := by rw [← kq_0 f2]; exact k2
        have ez : zE b len 59 (zLn b len s) = zS b len (zLn b len s) := if_pos k2
        have i1 := mn_Ln (b := b) (len := len) s
        have i2 := nx_s (b := b) (len := len) (i := yI (zLn b len s)) (by omega)
        have i3 : yI (zE b len 59 (zLn b len s)) = nx b len (yI (zLn b len s)) := by rw [ez, zS_0 f2]; rfl
        refine wp_w (ih _ f1 g1 cx1 L1 M1 (by omega)) (fun a e w => ?_)
        obtain ⟨w1, f', g', w2, w3, w4⟩ := w
        exact ⟨w1, f', g', w2, T1.tr w3, w4⟩
      · have ez : zLs b len n (zE b len 59 (zLn b len s)) = zE b len 59 (zLn b len s) := by
          cases n with
          | zero => rfl
          | succ n => rw [zLs, if_neg (fun w => y1 w.1)]
        rw [ez, r_Mo_readAll_67]
        exact wp_isC mc (wp_rIe (me_good C y2) (wp_bt rfl (wp_s ⟨rfl, f1, g1, rfl, T1, Or.inr ⟨y1, y2⟩⟩)))
/-- a half is taken -/
theorem mr_half {r n N : Nat} (ac : hC h r = 20) (an : hN h r = N) (hN' : N = 2 * n) (hn : N < 2000) : ∃ f', ev M_Mo_takesHalf 0 0 [some (.ref r), none, none] [] (wI (wL h g) f) = some (none, wI (wL h g) f') ∧ (∀ i, i < n → f' r i = f r (n + i)) ∧ (∀ i, n ≤ i → f' r i = f r i) ∧ ∀ a, a ≠ r → f' a = f a := by
  have ac' : hC (wI (wL h g) f) r = 20 := ac
  have an' : hN (wI (wL h g) f) r = N := an
  have L : ∀ k j f1, j + k = n → (∀ i, i < j → f1 r i = f r (n + i)) → (∀ i, j ≤ i → f1 r i = f r i) → (∀ a, a ≠ r → f1 a = f a) → wp (ev M_Mo_takesHalf 0 8 [some (.ref r), some (.int (nI n)), some (.int (nI j))] [] (wI (wL h g) f1)) (fun a e => a = none ∧ ∃ f', e = wI (wL h g) f' ∧ (∀ i, i < n → f' r i = f r (n + i)) ∧ (∀ i, n ≤ i → f' r i = f r i) ∧ ∀ a, a ≠ r → f' a = f a) := by
    intro k
    induction k with
    | zero =>
      intro j f1 hj h1 h2 h3
      have : j = n := by omega
      subst this
      rw [r_Mo_takesHalf_8]
      exact wp_bf (by rw [nI_ltI (by omega) (by omega)]; omega) (wp_s ⟨rfl, f1, rfl, h1, h2, h3⟩)
    | succ k ih =>
      intro j f1 hj h1 h2 h3
      have ac1 : hC (wI (wL h g) f1) r = 20 := ac
      have an1 : hN (wI (wL h g) f1) r = N := an
      rw [r_Mo_takesHalf_8]
      simp only [nI_add]
      refine wp_bt (by rw [nI_ltI (by omega) (by omega)]; omega) (wp_isC ac1 (wp_inA an1 rfl (by omega) (by omega) (wp_isC ac1 (wp_inA an1 rfl (by omega) (by omega) ?_))))
      rw [nI_clamp (by omega), nI_clamp (by omega), wI_I, wI_s]
      refine ih (j + 1) _ (by omega) (fun i hi => ?_) (fun i hi => by rw [up2_k (by omega)]; exact h2 i (by omega)) (fun a ha => by rw [up2_a ha]; exact h3 a ha)
      by_cases e : i = j
      · rw [e, up2_s]; exact h2 (n + j) (by omega)
      · rw [up2_k e]; exact h1 i (by omega)
  have key := L n 0 f (by omega) (fun i hi => by omega) (fun _ _ => rfl) (fun _ _ => rfl)
  obtain ⟨v, hh, e1, e2, f', e3, e4⟩ := key
  subst e2; subst e3
  refine ⟨f', ?_, e4⟩
  rw [r_Mo_takesHalf_0]
  refine wp_e (wp_isC ac' (wp_nz (by decide) ?_))
  rw [an', pk_div (by omega) (by decide) (by decide), hN', Nat.mul_div_cancel_left _ (by decide)]
  exact wp_of e1 ⟨rfl, rfl⟩
/-- the parts of the derived ones, told apart -/
theorem spl_a {n : Nat} : ∀ (cs rest acc : List Nat), (∀ c, c ∈ cs → c < 30) → spl (cs ++ ([30 + n] ++ rest)) acc = fun k => if k = n then acc ++ cs else spl rest [] k
  | [], rest, acc, _ => by
    show (if 30 ≤ 30 + n then (fun k => if k = 30 + n - 30 then acc else spl rest [] k) else _) = _
    rw [if_pos (by omega), Nat.add_sub_cancel_left, List.append_nil]
  | c :: cs, rest, acc, h => by
    show (if 30 ≤ c then _ else spl (cs ++ ([30 + n] ++ rest)) (acc ++ [c])) = _
    rw [if_neg (by have := h c (List.mem_cons_self ..); omega), spl_a cs rest (acc ++ [c]) (fun x hx => h x (List.mem_cons_of_mem _ hx))]
    simp
theorem spl_f {td : Nat} : ∀ n rest k, (∀ k, k < n → td.testBit k = false → ∀ c, c ∈ cx k → c < 30) → spl (flat td cx n ++ rest) [] k = if k < n ∧ td.testBit k = false then cx k else spl rest [] k
  | 0, rest, k, _ => by
    rw [if_neg (fun w => Nat.not_lt_zero _ w.1)]; rfl
  | n + 1, rest, k, h => by
    have ih := fun rest => spl_f n rest k (fun k hk => h k (by omega))
    rw [flat]
    cases z : td.testBit n with
    | true =>
      rw [if_pos rfl, List.append_nil, ih]
      by_cases e : k < n ∧ td.testBit k = false
      · rw [if_pos e, if_pos ⟨by omega, e.2⟩]
      · rw [if_neg e, if_neg (fun w => ?_)]
        by_cases y : k = n
        · rw [y, z] at w; cases w.2
        · exact e ⟨by omega, w.2⟩
    | false =>
      rw [if_neg (by decide), List.append_assoc, List.append_assoc, ih, spl_a _ _ _ (h n (by omega) z)]
      show (if k < n ∧ td.testBit k = false then cx k else if k = n then [] ++ cx n else spl rest [] k) = _
      by_cases e : k < n ∧ td.testBit k = false
      · rw [if_pos e, if_pos ⟨by omega, e.2⟩]
      · rw [if_neg e]
        by_cases y : k = n
        · rw [if_pos y, y, if_pos ⟨by omega, z⟩]; rfl
        · rw [if_neg y, if_neg (fun w => e ⟨by omega, w.2⟩)]
theorem spl_cx {q : Pn} (o : cxok q cx) : spl (vXs q) [] = cx := by
  obtain ⟨o1, o2, o3⟩ := o
  funext k
  have := spl_f (cx := cx) (td := vTd q) (vNr q) [] k (fun k hk hb => (o2 k hk hb).2)
  rw [List.append_nil, ← o1] at this
  rw [this]
  by_cases e : k < vNr q ∧ (vTd q).testBit k = false
  · rw [if_pos e]
  · rw [if_neg e, o3 k e]; rfl
theorem kok_p : ∀ {ks : List Kp} {d : Nat}, kok ks d → ∀ k, k ∈ ks → kpo k
  | [], _, _, k, h => by cases h
  | c :: ks, d, ok, k, h => by
    obtain ⟨o1, o2⟩ := ok
    rcases List.mem_cons.mp h with e | e
    · rw [e]; exact o1
    · rcases o2 with ⟨-, -, w⟩ | ⟨-, -, w⟩ | ⟨-, -, w⟩
      · exact kok_p w k e
      · exact kok_p w k e
      · exact kok_p w k e
theorem cx_40 {td : Nat} : ∀ n, n ≤ 5 → (∀ k, k < n → td.testBit k = false → ∀ c, c ∈ cx k → c < 30) → ∀ c, c ∈ flat td cx n → c < 40
  | 0, _, _, c, hc => by cases hc
  | n + 1, hn, h, c, hc => by
    rw [flat] at hc
    rcases List.mem_append.mp hc with w | w
    · exact cx_40 n (by omega) (fun k hk => h k (by omega)) c w
    · cases z : td.testBit n with
      | true => rw [z, if_pos rfl] at w; cases w
      | false =>
        rw [z, if_neg (by decide)] at w
        rcases List.mem_append.mp w with y | y
        · have := h n (by omega) z c y; omega
        · have := List.mem_singleton.mp y; omega
/-- what was read can be -/
theorem LI.W (L : LI len cx s) : WPn (yN s) cx := by
  obtain ⟨l1, l2, ⟨l3, l4, l5, l6, l7⟩, l8, l9, l10, o⟩ := L
  have o' := o
  obtain ⟨o1, o2, o3⟩ := o
  have hk : (vKs (yN s)).length ≤ 320 ∧ (∀ k, k ∈ vKs (yN s) → kpo k) ∧ vUn (yN s) ≤ 30 ∧ (vKs (yN s) ≠ [] → kok (vKs (yN s)) 0) := by
    rcases l10 with ⟨w1, w2⟩ | ⟨-, w1, w2, w3⟩
    · rw [w1, w2]; exact ⟨by decide, fun k hk => (by cases hk), by decide, fun w => absurd rfl w⟩
    · exact ⟨w2, kok_p w1, w3, fun _ => w1⟩
  refine ⟨⟨l3.1, l3.2, Nat.le_refl _, l4, ?_, l6, l7, hk.2.2.1, ⟨hk.1, hk.2.1⟩, ⟨by have := l2.1; have := l2.2; omega, fun c hc => ?_⟩, l9⟩, l5, o1, fun k hk hb => (o2 k hk hb).1, hk.2.2.2⟩
  · exact Nat.lt_of_lt_of_le l5 (by rw [show 32 = 2 ^ 5 from rfl]; exact Nat.pow_le_pow_right (by decide) l4)
  · rw [o1] at hc
    exact cx_40 _ l4 (fun k hk hb => (o2 k hk hb).2) c hc
end
