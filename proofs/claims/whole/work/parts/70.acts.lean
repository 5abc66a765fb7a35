/-! The class's methods: acts. -/
section
variable {h : MH} {f : Nat → Nat → Int32} {x pa pb s1 v1 : Nat} {S : Abs}
def uUndo (S : Abs) : Abs := if aD S = 0 then S else bB (bH S (aD S - 1) (aK S) (aS S)) (aB S)
def uRedo (S : Abs) : Abs := if aD S = aK S then S else bB (bH S (aD S + 1) (aK S) (aS S)) (aB S)
theorem pt_lr (W : WS S) {k : Nat} (hk : (vTd (aQ S)).testBit k = true) : k < aR S := by
  obtain ⟨-, -, wpn, -⟩ := W
  by_cases z : k < aR S
  · exact z
  · have := Nat.testBit_lt_two_pow (x := vTd (aQ S)) (i := k) (Nat.lt_of_lt_of_le wpn.2.1 (Nat.pow_le_pow_right (by decide) (by have : ¬ k < vNr (aQ S) := z; omega)))
    rw [this] at hk; cases hk
/-- relations behind a step between two states -/
theorem pt_step {f2 : Nat → Nat → Int32} {d k v : Nat} {rel : Option Nat} {A A' : Nat → Rw} {T : Rw} (C : CSH h x pa pb s1 v1) (F : CF f (hL h) x pa S) (W : WS S) (hA : A = (aS S (aD S)).1) (hA' : ∀ j, GW (aW S) (gA (aQ S) (aX S) A' j)) (hT : ∀ j, (vTd (aQ S)).testBit j = true → GW (aW S) (A' j)) (fr2 : Fr (x + 39) (x + 131) f f2) (hg : ∀ j, j < aR S → rel ≠ some j → GF f2 (x + 44 + 2 * j) (aW S) (aG S j)) (hk : ∀ j, rel = some j → (vTd (aQ S)).testBit j = true ∧ GF f2 (x + 44 + 2 * j) (aW S) (A' j)) (hs : ∀ j, rel ≠ some j → A' j = A j) : ∃ f3, ev M_Relations_derive 0 0 [some (.ref (x + 39)), none, none, none] [] (wI h f2) = some (none, wI h f3) ∧ (∀ j, j < aR S → GF f3 (x + 44 + 2 * j) (aW S) (gA (aQ S) (aX S) A' j)) ∧ Fr (x + 42) (x + 86) f2 f3 := by
  obtain ⟨⟨c0, q0, q2, q3, q4, q5, q6, q7, q8, q9, q10, q11, q12, q13⟩, PA, PB, RSH, HSH, ⟨bC, bN, bR⟩, ISH, TSH, TSH2, GSH, SSH, ⟨lC, lN1, tC, tN⟩, ⟨rC, rR1, sC, sR1, wC, wN⟩, STR, ⟨sx1, sx2, x0⟩, PP⟩ := id C
  obtain ⟨⟨ft1, ft2⟩, ⟨fl1, fl2⟩, ⟨fe1, fe2⟩, fkw, fpn, ⟨fg1, fg2⟩, fhist, fbx, fsg⟩ := id F
  obtain ⟨⟨ws1, ws2⟩, ⟨ws3, ws4⟩, wpn, ⟨ws5, ws6, ws7⟩, ws8, ⟨ws9, ws10⟩, ⟨ws11, ws12⟩, ws13⟩ := id W
  have p1 := PA.1
  have r1 := RSH.1
  have r2 := RSH.2.1
  have r3 := RSH.2.2.1
  have r4 := RSH.2.2.2.1
  have hv1 : 1 ≤ aV S := wpn.1.1
  have hv4 : aV S ≤ 4 := wpn.1.2.1
  have hr5 : aR S ≤ 5 := wpn.1.2.2.2.1
  have hn16 : aW S ≤ 16 := lv_p hv4
  have fp0 : f pa 0 = nI (aV S) := fpn.1
  have fp1 : f pa 1 = nI (aR S) := fpn.2.1
  have gSH := GSH.1
  have tSH := TSH.1
  have sSH := SSH.1
  have iSH := ISH.1
  have hSH := HSH.1
  have hpa := PPa C
  refine pt_derive (A0 := fun j => if rel = some j then A' j else aG S j) (A := A') C wpn (by rw [fr2 _ (by omega)]; exact fp0) (by rw [fr2 _ (by omega)]; exact fpn.2.2.2.2.2.2.1) (fun i c hc => by rw [fr2 _ (by omega)]; exact fpn.2.2.2.2.2.2.2.1 i c hc) (fun j hj => ?_) (fun j hj => ?_)
  · try dsimp only
    by_cases e : rel = some j
    · rw [if_pos e]; exact ⟨(hk j e).2, hT j (hk j e).1⟩
    · rw [if_neg e]; exact ⟨hg j hj e, gA_W wpn (ws7 _ ws5) j⟩
  · try dsimp only
    by_cases e : rel = some j
    · rw [if_pos e]
    · rw [if_neg e, hs j e, hA]
      exact gA_t (pt_lr W hj) hj
theorem c_undo (C : CSH h x pa pb s1 v1) (F : CF f (hL h) x pa S) (W : WS S) : ∃ f', ev M_PT_undo 0 0 [some (.ref x), none] [] (wI h f) = some (some (.int (nI (decide (aD S ≠ 0)).toNat)), wI h f') ∧ CF f' (hL h) x pa (uUndo S) ∧ Fr x (x + 222) f f' := by
  obtain ⟨⟨c0, q0, q2, q3, q4, q5, q6, q7, q8, q9, q10, q11, q12, q13⟩, PA, PB, RSH, HSH, ⟨bC, bN, bR⟩, ISH, TSH, TSH2, GSH, SSH, ⟨lC, lN1, tC, tN⟩, ⟨rC, rR1, sC, sR1, wC, wN⟩, STR, ⟨sx1, sx2, x0⟩, PP⟩ := id C
  obtain ⟨⟨ft1, ft2⟩, ⟨fl1, fl2⟩, ⟨fe1, fe2⟩, fkw, fpn, ⟨fg1, fg2⟩, fhist, fbx, fsg⟩ := id F
  obtain ⟨⟨ws1, ws2⟩, ⟨ws3, ws4⟩, wpn, ⟨ws5, ws6, ws7⟩, ws8, ⟨ws9, ws10⟩, ⟨ws11, ws12⟩, ws13⟩ := id W
  have p1 := PA.1
  have r1 := RSH.1
  have r2 := RSH.2.1
  have r3 := RSH.2.2.1
  have r4 := RSH.2.2.2.1
  have hv1 : 1 ≤ aV S := wpn.1.1
  have hv4 : aV S ≤ 4 := wpn.1.2.1
  have hr5 : aR S ≤ 5 := wpn.1.2.2.2.1
  have hn16 : aW S ≤ 16 := lv_p hv4
  have fp0 : f pa 0 = nI (aV S) := fpn.1
  have fp1 : f pa 1 = nI (aR S) := fpn.2.1
  have gSH := GSH.1
  have tSH := TSH.1
  have sSH := SSH.1
  have iSH := ISH.1
  have hSH := HSH.1
  have hpa := PPa C
  obtain ⟨old, rl, tn, sb', sa, h1, h2⟩ := id fhist
  have gAt : ∀ k, k < aR S → (vTd (aQ S)).testBit k = true → aG S k = (aS S (aD S)).1 k := fun k hk ht => gA_t hk ht
  rw [r_PT_undo_0]
  unfold uUndo
  by_cases q : aD S = 0
  · rw [if_pos q, decide_eq_false (by omega)]
    obtain ⟨f3, d1, d2, d3⟩ := pt_step (rel := none) (A' := (aS S (aD S)).1) (T := fun _ => 0) (d := 0) (k := 0) (v := 0) C F W rfl (fun j => gA_W wpn (ws7 _ ws5) j) (fun j hj => ((ws7 _ ws5).2 j).1 hj) Fr.rf (fun j hj _ => fg2 j hj) (fun j hj => by cases hj) (fun _ _ => rfl)
    refine ⟨f3, wp_e ?_, ?_, d3.up (by omega) (by omega)⟩
    · exact wp_isC c0 (wp_nnR q6 (wp_isC c0 (wp_nnR q5 (wp_isC hSH (wp_rIe ((hs_no hSH h1).2 q) (wp_isC c0 (wp_nnR q5 (wp_isC r1 (wp_rVe d1 (wp_isZ (by decide) (wp_s ⟨rfl, rfl⟩)))))))))))
    · have fr3 : Fr (x + 39) (x + 131) f f3 := d3.up (by omega) (by omega)
      exact CF_h (d := aD S) (k := aK S) (st := aS S) (bx := aB S) F (fr3.up (by omega) (by omega)) PP hr5 (by rw [d3 _ (by omega)]; exact fg1) d2 ⟨old, rl, tn, sb', sa, hf_fr (fun a h1 h2 => d3 a (by omega)) h1, h2⟩ (fun c hc => bx_fr F fr3 hr5 c (by omega) hc)
  · rw [if_neg q, decide_eq_true q]
    have eD : aD S - 1 + 1 = aD S := by omega
    obtain ⟨k1, k2, k3, k4⟩ := h2 (aD S - 1) (by omega)
    rw [eD] at k2 k3 k4
    have wB := ws7 (aD S - 1) (by omega)
    have hrl : ∀ j, rl (aD S - 1) = some j → j < 5 ∧ GF f (x + 39 + 5 + 2 * j) (aW S) ((aS S (aD S)).1 j) := fun j hj => by
      obtain ⟨j1, j2, -⟩ := k4 j hj
      have j1 : j < aR S := j1
      exact ⟨by omega, by rw [← gAt j j1 j2]; exact fg2 j j1⟩
    obtain ⟨f2, u1, u2, u3, u4, u5, u6⟩ := hs_back (h := h) (f := f) (z := x + 86) (q := x + 39) (n := aW S) (A := (aS S (aD S)).1) HSH RSH (by omega) (by rw [eD]; exact h1) hrl
    have fr2 : Fr (x + 39) (x + 131) f f2 := by
      cases hq : rl (aD S - 1) with
      | none => rw [u6 hq]; exact (Fr.u2 (by omega) (by omega)).tr (Fr.u2 (by omega) (by omega))
      | some k =>
        have := (hrl k hq).1
        rw [u5 k hq]; exact ((Fr.u2 (by omega) (by omega)).tr (Fr.u2 (by omega) (by omega))).tr (Fr.gw (by omega) (by omega))
    have hAk : ∀ j, rl (aD S - 1) = some j → (fun r => (aS S (aD S)).1 j r ^^^ tn (aD S - 1) r) = (aS S (aD S - 1)).1 j := fun j hj => by
      obtain ⟨j1, j2, j3⟩ := k4 j hj
      rw [j3]
      funext r
      show (if j = j then (fun r => (aS S (aD S - 1)).1 j r ^^^ tn (aD S - 1) r) else (aS S (aD S - 1)).1 j) r ^^^ _ = _
      rw [if_pos rfl]
      show (_ ^^^ _) ^^^ _ = _
      rw [Nat.xor_assoc, Nat.xor_self, Nat.xor_zero]
    obtain ⟨f3, d1, d2, d3⟩ := pt_step (f2 := f2) (rel := rl (aD S - 1)) (A' := (aS S (aD S - 1)).1) (T := fun _ => 0) (d := 0) (k := 0) (v := 0) C F W rfl (fun j => gA_W wpn wB j) (fun j hj => (wB.2 j).1 hj) fr2 (fun j hj hne => by
      cases hq : rl (aD S - 1) with
      | none => rw [u6 hq]; exact GF_up2 (by omega) (by omega) (GF_up2 (by omega) (by omega) (fg2 j hj))
      | some k =>
        have := (hrl k hq).1
        have hne : j ≠ k := fun e => hne (by rw [hq, e])
        rw [u5 k hq]; exact gw_F (by omega) (GF_up2 (by omega) (by omega) (GF_up2 (by omega) (by omega) (fg2 j hj)))) (fun j hj => by
      obtain ⟨j1, j2, j3⟩ := k4 j hj
      refine ⟨j2, ?_⟩
      rw [u5 j hj, ← hAk j hj]
      exact gw_f) (fun j hne => by
      cases hq : rl (aD S - 1) with
      | none => rw [k3 hq]
      | some k =>
        obtain ⟨j1, j2, j3⟩ := k4 k hq
        rw [j3]
        show _ = if j = k then _ else _
        rw [if_neg (fun e => hne (by rw [hq, e]))])
    have fr3 : Fr (x + 39) (x + 131) f f3 := fr2.tr (d3.up (by omega) (by omega))
    refine ⟨f3, wp_e ?_, ?_, fr3.up (by omega) (by omega)⟩
    · exact wp_isC c0 (wp_nnR q6 (wp_isC c0 (wp_nnR q5 (wp_isC hSH (wp_rIe u1 (wp_isC c0 (wp_nnR q5 (wp_isC r1 (wp_rVe d1 (wp_isZ (by decide) (wp_s ⟨rfl, rfl⟩)))))))))))
    · exact CF_h F (fr3.up (by omega) (by omega)) PP hr5 (by rw [d3 _ (by omega), u3, k1]) d2 ⟨old, rl, tn, sb', sa, hf_fr (fun a h1 h2 => d3 a (by omega)) u2, h2⟩ (fun c hc => bx_fr F fr3 hr5 c (by omega) hc)
theorem c_redo (C : CSH h x pa pb s1 v1) (F : CF f (hL h) x pa S) (W : WS S) : ∃ f', ev M_PT_redo 0 0 [some (.ref x), none] [] (wI h f) = some (some (.int (nI (decide (aD S ≠ aK S)).toNat)), wI h f') ∧ CF f' (hL h) x pa (uRedo S) ∧ Fr x (x + 222) f f' := by
  obtain ⟨⟨c0, q0, q2, q3, q4, q5, q6, q7, q8, q9, q10, q11, q12, q13⟩, PA, PB, RSH, HSH, ⟨bC, bN, bR⟩, ISH, TSH, TSH2, GSH, SSH, ⟨lC, lN1, tC, tN⟩, ⟨rC, rR1, sC, sR1, wC, wN⟩, STR, ⟨sx1, sx2, x0⟩, PP⟩ := id C
  obtain ⟨⟨ft1, ft2⟩, ⟨fl1, fl2⟩, ⟨fe1, fe2⟩, fkw, fpn, ⟨fg1, fg2⟩, fhist, fbx, fsg⟩ := id F
  obtain ⟨⟨ws1, ws2⟩, ⟨ws3, ws4⟩, wpn, ⟨ws5, ws6, ws7⟩, ws8, ⟨ws9, ws10⟩, ⟨ws11, ws12⟩, ws13⟩ := id W
  have p1 := PA.1
  have r1 := RSH.1
  have r2 := RSH.2.1
  have r3 := RSH.2.2.1
  have r4 := RSH.2.2.2.1
  have hv1 : 1 ≤ aV S := wpn.1.1
  have hv4 : aV S ≤ 4 := wpn.1.2.1
  have hr5 : aR S ≤ 5 := wpn.1.2.2.2.1
  have hn16 : aW S ≤ 16 := lv_p hv4
  have fp0 : f pa 0 = nI (aV S) := fpn.1
  have fp1 : f pa 1 = nI (aR S) := fpn.2.1
  have gSH := GSH.1
  have tSH := TSH.1
  have sSH := SSH.1
  have iSH := ISH.1
  have hSH := HSH.1
  have hpa := PPa C
  obtain ⟨old, rl, tn, sb', sa, h1, h2⟩ := id fhist
  have gAt : ∀ k, k < aR S → (vTd (aQ S)).testBit k = true → aG S k = (aS S (aD S)).1 k := fun k hk ht => gA_t hk ht
  rw [r_PT_redo_0]
  unfold uRedo
  by_cases q : aD S = aK S
  · rw [if_pos q, decide_eq_false (by omega)]
    obtain ⟨f3, d1, d2, d3⟩ := pt_step (rel := none) (A' := (aS S (aD S)).1) (T := fun _ => 0) (d := 0) (k := 0) (v := 0) C F W rfl (fun j => gA_W wpn (ws7 _ ws5) j) (fun j hj => ((ws7 _ ws5).2 j).1 hj) Fr.rf (fun j hj _ => fg2 j hj) (fun j hj => by cases hj) (fun _ _ => rfl)
    refine ⟨f3, wp_e ?_, ?_, d3.up (by omega) (by omega)⟩
    · exact wp_isC c0 (wp_nnR q6 (wp_isC c0 (wp_nnR q5 (wp_isC hSH (wp_rIe ((hs_no hSH h1).1 q) (wp_isC c0 (wp_nnR q5 (wp_isC r1 (wp_rVe d1 (wp_isZ (by decide) (wp_s ⟨rfl, rfl⟩)))))))))))
    · have fr3 : Fr (x + 39) (x + 131) f f3 := d3.up (by omega) (by omega)
      exact CF_h (d := aD S) (k := aK S) (st := aS S) (bx := aB S) F (fr3.up (by omega) (by omega)) PP hr5 (by rw [d3 _ (by omega)]; exact fg1) d2 ⟨old, rl, tn, sb', sa, hf_fr (fun a h1 h2 => d3 a (by omega)) h1, h2⟩ (fun c hc => bx_fr F fr3 hr5 c (by omega) hc)
  · rw [if_neg q, decide_eq_true q]
    have hlt : aD S < aK S := by omega
    obtain ⟨k1, k2, k3, k4⟩ := h2 (aD S) hlt
    have wB := ws7 (aD S + 1) (by omega)
    have hrl : ∀ j, rl (aD S) = some j → j < 5 ∧ GF f (x + 39 + 5 + 2 * j) (aW S) ((aS S (aD S)).1 j) := fun j hj => by
      obtain ⟨j1, j2, -⟩ := k4 j hj
      have j1 : j < aR S := j1
      exact ⟨by omega, by rw [← gAt j j1 j2]; exact fg2 j j1⟩
    obtain ⟨f2, u1, u2, u3, u4, u5, u6⟩ := hs_on (h := h) (f := f) (z := x + 86) (q := x + 39) (n := aW S) (A := (aS S (aD S)).1) HSH RSH (by omega) h1 hrl hlt
    have fr2 : Fr (x + 39) (x + 131) f f2 := by
      cases hq : rl (aD S) with
      | none => rw [u6 hq]; exact (Fr.u2 (by omega) (by omega)).tr (Fr.u2 (by omega) (by omega))
      | some k =>
        have := (hrl k hq).1
        rw [u5 k hq]; exact ((Fr.u2 (by omega) (by omega)).tr (Fr.gw (by omega) (by omega))).tr (Fr.u2 (by omega) (by omega))
    have hAk : ∀ j, rl (aD S) = some j → (fun r => (aS S (aD S)).1 j r ^^^ tn (aD S) r) = (aS S (aD S + 1)).1 j := fun j hj => by
      obtain ⟨j1, j2, j3⟩ := k4 j hj
      rw [j3]
      show _ = if j = j then _ else _
      rw [if_pos rfl]
    obtain ⟨f3, d1, d2, d3⟩ := pt_step (f2 := f2) (rel := rl (aD S)) (A' := (aS S (aD S + 1)).1) (T := fun _ => 0) (d := 0) (k := 0) (v := 0) C F W rfl (fun j => gA_W wpn wB j) (fun j hj => (wB.2 j).1 hj) fr2 (fun j hj hne => by
      cases hq : rl (aD S) with
      | none => rw [u6 hq]; exact GF_up2 (by omega) (by omega) (GF_up2 (by omega) (by omega) (fg2 j hj))
      | some k =>
        have := (hrl k hq).1
        have hne : j ≠ k := fun e => hne (by rw [hq, e])
        rw [u5 k hq]; exact GF_up2 (by omega) (by omega) (gw_F (by omega) (GF_up2 (by omega) (by omega) (fg2 j hj)))) (fun j hj => by
      obtain ⟨j1, j2, j3⟩ := k4 j hj
      refine ⟨j2, ?_⟩
      have := (hrl j hj).1
      rw [u5 j hj, ← hAk j hj]
      exact GF_up2 (by omega) (by omega) gw_f) (fun j hne => by
      cases hq : rl (aD S) with
      | none => rw [k3 hq]
      | some k =>
        obtain ⟨j1, j2, j3⟩ := k4 k hq
        rw [j3]
        show (if j = k then _ else _) = _
        rw [if_neg (fun e => hne (by rw [hq, e]))])
    have fr3 : Fr (x + 39) (x + 131) f f3 := fr2.tr (d3.up (by omega) (by omega))
    refine ⟨f3, wp_e ?_, ?_, fr3.up (by omega) (by omega)⟩
    · exact wp_isC c0 (wp_nnR q6 (wp_isC c0 (wp_nnR q5 (wp_isC hSH (wp_rIe u1 (wp_isC c0 (wp_nnR q5 (wp_isC r1 (wp_rVe d1 (wp_isZ (by decide) (wp_s ⟨rfl, rfl⟩)))))))))))
    · exact CF_h F (fr3.up (by omega) (by omega)) PP hr5 (by rw [d3 _ (by omega), u3, k2]) d2 ⟨old, rl, tn, sb', sa, hf_fr (fun a h1 h2 => d3 a (by omega)) u2, h2⟩ (fun c hc => bx_fr F fr3 hr5 c (by omega) hc)
/-! pairs put and taken, whole relations made, sifted, drift -/
/-- the state at hand with a told one changed -/
def nxt (S : Abs) (k : Nat) (B : Rw) : Abs := push S (setA (aS S (aD S)).1 (some k) B, (aS S (aD S)).2)
def flp (G : Rw) (i j : Nat) : Rw := fun r => if r = i then G i ^^^ 2 ^ j else G r
theorem GW.flp {n i j : Nat} {G : Rw} (V : GW n G) (hi : i < n) (hj : j < n) : GW n (flp G i j) := by
  refine ⟨V.1, fun r => ?_, fun r hr => ?_⟩
  · show (if r = i then _ else _) < _
    split
    · exact Nat.xor_lt_two_pow (V.2.1 i) (Nat.pow_lt_pow_right (by decide) hj)
    · exact V.2.1 r
  · show (if r = i then _ else _) = 0
    rw [if_neg (by omega)]; exact V.2.2 r hr
theorem nxt_G {k : Nat} {B : Rw} (hk : k < aR S) (ht : (vTd (aQ S)).testBit k = true) : aG (nxt S k B) k = B := by
  have e : aG (nxt S k B) k = gA (aQ S) (aX S) (setA (aS S (aD S)).1 (some k) B) k := by
    show gA (aQ S) (aX S) ((if _ then _ else _) : Sd).1 k = _
    rw [if_pos (show aD (nxt S k B) = aD S - (if aD S = 40 then 1 else 0) + 1 from rfl)]
  rw [e, gA_t hk ht]
  show (if k = k then B else _) = B
  rw [if_pos rfl]
theorem WS_push {s : Sd} (W : WS S) (hs : WSd (aQ S) s) : WS (push S s) := by
  obtain ⟨w1, w2, w3, ⟨w4, w5, w6⟩, w7, w8, w9, w10⟩ := W
  refine ⟨w1, w2, w3, ⟨Nat.le_refl _, ?_, fun k hk => ?_⟩, w7, w8, w9, w10⟩
  · show aD S - _ + 1 ≤ 40
    split <;> omega
  · show WSd (aQ S) (if _ then _ else _)
    have hk : k ≤ aD S - (if aD S = 40 then 1 else 0) + 1 := hk
    by_cases e : k = aD S - (if aD S = 40 then 1 else 0) + 1
    · rw [if_pos e]; exact hs
    · rw [if_neg e]
      refine w6 _ ?_
      by_cases z : aD S = 40
      · rw [if_pos z] at hk e ⊢; omega
      · rw [if_neg z] at hk e ⊢; omega
theorem WSd_set {k : Nat} {B : Rw} {v : Nat} (W : WS S) (ht : (vTd (aQ S)).testBit k = true) (hB : GW (aW S) B) (hv : v < 1000) : WSd (aQ S) (setA (aS S (aD S)).1 (some k) B, v) := by
  obtain ⟨w1, w2, w3, ⟨w4, w5, w6⟩, w7, w8, w9, w10⟩ := W
  refine ⟨hv, fun j => ⟨fun hj => ?_, fun hj => ?_⟩⟩
  · show GW _ (if j = k then B else _)
    by_cases e : j = k
    · rw [if_pos e]; exact hB
    · rw [if_neg e]; exact ((w6 _ w4).2 j).1 hj
  · show (if j = k then B else _) = _
    rw [if_neg (fun e => by rw [e, ht] at hj; cases hj)]; exact ((w6 _ w4).2 j).2 hj
/-- a told one changed, and its pairs counted -/
theorem pt_do {k : Nat} {B : Rw} (C : CSH h x pa pb s1 v1) (F : CF f (hL h) x pa S) (W : WS S) (hk : k < aR S) (ht : (vTd (aQ S)).testBit k = true) (gm : GF f (x + 214) (aW S) B) (gb : GW (aW S) B) : ∃ f', ev M_PT_perform 0 0 [some (.ref x), some (.int (nI k)), some (.ref (x + 214)), some (.int (nI (aS S (aD S)).2))] [] (wI h f) = some (none, wI h f') ∧ CF f' (hL h) x pa (nxt S k B) ∧ WS (nxt S k B) ∧ Fr (x + 39) (x + 131) f f' ∧ ev M_Grid_count 0 0 [some (.ref (x + 44 + 2 * k)), none, none] [] (wI h f') = some (some (.int (nI (ct (aW S) B))), wI h f') := by
  have hs := (W.2.2.2.1.2.2 _ W.2.2.2.1.1).1
  obtain ⟨f', e1, e2, e3⟩ := pt_perform (rel := some k) (v := (aS S (aD S)).2) C F W gm.2 (fun j hj => by cases hj; exact ⟨hk, ht, gb⟩)
  have W' : WS (nxt S k B) := WS_push W (WSd_set W ht gb hs)
  refine ⟨f', e1, e2, W', e3, ?_⟩
  obtain ⟨g1, g2, g3, g4⟩ := pt_rl (S := nxt S k B) C e2 W' hk
  rw [nxt_G hk ht] at g3 g4
  exact gq_count g2 g3 g4
def sTurn (S : Abs) (a b c : Int32) (p : Bool) : Int32 := on (tdN S a) fun k => on (inN b (aW S)) fun i => on (inN c (aW S)) fun j => if (aG S k i).testBit j = p then nI (ct (aW S) (flp (aG S k) i j)) else mI 1
def uTurn (S : Abs) (a b c : Int32) (p : Bool) : Abs := match tdN S a with
  | some k => (match inN b (aW S) with
    | some i => (match inN c (aW S) with
      | some j => if (aG S k i).testBit j = p then nxt S k (flp (aG S k) i j) else S
      | none => S)
    | none => S)
  | none => S
theorem tdN_s {a : Int32} {k : Nat} (z : tdN S a = some k) : inN a (aR S) = some k ∧ (vTd (aQ S)).testBit k = true := by
  unfold tdN at z
  cases y : inN a (aR S) with
  | none => rw [y] at z; cases z
  | some j =>
    rw [y] at z
    dsimp only at z
    by_cases q : (vTd (aQ S)).testBit j = true
    · rw [if_pos q] at z; cases z; exact ⟨rfl, q⟩
    · rw [if_neg q] at z; cases z
theorem pt_turn (C : CSH h x pa pb s1 v1) (F : CF f (hL h) x pa S) (W : WS S) (a b c : Int32) (p : Bool) : ∃ f', ev M_PT_turnPair 0 0 [some (.ref x), some (.int a), some (.int b), some (.int c), some (.int (nI p.toNat))] [] (wI h f) = some (some (.int (sTurn S a b c p)), wI h f') ∧ CF f' (hL h) x pa (uTurn S a b c p) ∧ WS (uTurn S a b c p) ∧ Fr x (x + 222) f f' := by
  obtain ⟨⟨c0, q0, q2, q3, q4, q5, q6, q7, q8, q9, q10, q11, q12, q13⟩, PA, PB, RSH, HSH, ⟨bC, bN, bR⟩, ISH, TSH, TSH2, GSH, SSH, ⟨lC, lN1, tC, tN⟩, ⟨rC, rR1, sC, sR1, wC, wN⟩, STR, ⟨sx1, sx2, x0⟩, PP⟩ := id C
  obtain ⟨⟨ft1, ft2⟩, ⟨fl1, fl2⟩, ⟨fe1, fe2⟩, fkw, fpn, ⟨fg1, fg2⟩, fhist, fbx, fsg⟩ := id F
  obtain ⟨⟨ws1, ws2⟩, ⟨ws3, ws4⟩, wpn, ⟨ws5, ws6, ws7⟩, ws8, ⟨ws9, ws10⟩, ⟨ws11, ws12⟩, ws13⟩ := id W
  have p1 := PA.1
  have r1 := RSH.1
  have r2 := RSH.2.1
  have r3 := RSH.2.2.1
  have r4 := RSH.2.2.2.1
  have hv1 : 1 ≤ aV S := wpn.1.1
  have hv4 : aV S ≤ 4 := wpn.1.2.1
  have hr5 : aR S ≤ 5 := wpn.1.2.2.2.1
  have hn16 : aW S ≤ 16 := lv_p hv4
  have fp0 : f pa 0 = nI (aV S) := fpn.1
  have fp1 : f pa 1 = nI (aR S) := fpn.2.1
  have gSH := GSH.1
  have tSH := TSH.1
  have sSH := SSH.1
  have iSH := ISH.1
  have hSH := HSH.1
  have hpa := PPa C
  rw [r_PT_turnPair_0]
  cases z : tdN S a with
  | none =>
    have es : sTurn S a b c p = mI 1 := by unfold sTurn; rw [z]; rfl
    have eu : uTurn S a b c p = S := by unfold uTurn; rw [z]
    rw [es, eu]
    refine ⟨f, wp_e (wp_isC c0 (wp_rIe (pt_isTold C F W _) ?_)), F, W, Fr.rf⟩
    rw [z]
    exact wp_bt rfl (wp_s ⟨rfl, rfl⟩)
  | some k =>
  obtain ⟨y, ht⟩ := tdN_s z
  obtain ⟨k1, k2, k3⟩ := inN_s y
  subst k1
  have m1 : ¬ mI 1 = nI p.toNat := by cases p <;> decide
  cases z1 : inN b (aW S) with
  | none =>
    have es : sTurn S (nI k) b c p = mI 1 := by unfold sTurn; rw [z]; show on (inN b (aW S)) _ = _; rw [z1]; rfl
    have eu : uTurn S (nI k) b c p = S := by unfold uTurn; rw [z]; dsimp only; rw [z1]
    have eh : sHas S (nI k) b c = mI 1 := by unfold sHas; rw [y]; show on (inN b (aW S)) _ = _; rw [z1]; rfl
    rw [es, eu]
    refine ⟨f, wp_e (wp_isC c0 (wp_rIe (pt_isTold C F W _) ?_)), F, W, Fr.rf⟩
    rw [z]
    refine wp_bf n10 (wp_isC c0 (wp_rIe (pt_has C F W _ _ _) ?_))
    rw [eh]
    exact wp_bf m1 (wp_s ⟨rfl, rfl⟩)
  | some i =>
  cases z2 : inN c (aW S) with
  | none =>
    have es : sTurn S (nI k) b c p = mI 1 := by unfold sTurn; rw [z]; show on (inN b (aW S)) _ = _; rw [z1]; show on (inN c (aW S)) _ = _; rw [z2]; rfl
    have eu : uTurn S (nI k) b c p = S := by unfold uTurn; rw [z]; dsimp only; rw [z1]; dsimp only; rw [z2]
    have eh : sHas S (nI k) b c = mI 1 := by unfold sHas; rw [y]; show on (inN b (aW S)) _ = _; rw [z1]; show on (inN c (aW S)) _ = _; rw [z2]; rfl
    rw [es, eu]
    refine ⟨f, wp_e (wp_isC c0 (wp_rIe (pt_isTold C F W _) ?_)), F, W, Fr.rf⟩
    rw [z]
    refine wp_bf n10 (wp_isC c0 (wp_rIe (pt_has C F W _ _ _) ?_))
    rw [eh]
    exact wp_bf m1 (wp_s ⟨rfl, rfl⟩)
  | some j =>
  have es : sTurn S (nI k) b c p = if (aG S k i).testBit j = p then nI (ct (aW S) (flp (aG S k) i j)) else mI 1 := by unfold sTurn; rw [z]; show on (inN b (aW S)) _ = _; rw [z1]; show on (inN c (aW S)) _ = _; rw [z2]; rfl
  have eu : uTurn S (nI k) b c p = if (aG S k i).testBit j = p then nxt S k (flp (aG S k) i j) else S := by unfold uTurn; rw [z]; dsimp only; rw [z1]; dsimp only; rw [z2]
  have eh : sHas S (nI k) b c = nI ((aG S k i).testBit j).toNat := by unfold sHas; rw [y]; show on (inN b (aW S)) _ = _; rw [z1]; show on (inN c (aW S)) _ = _; rw [z2]; rfl
  rw [es, eu]
  obtain ⟨i1, i2, i3⟩ := inN_s z1
  obtain ⟨j1, j2, j3⟩ := inN_s z2
  subst i1; subst j1
  by_cases q : (aG S k i).testBit j = p
  · rw [if_pos q, if_pos q]
    obtain ⟨g1, g2, g3, g4⟩ := pt_rl C F W k2
    have g5 := g2.1
    have e1 := gq_copy GSH g2 (by omega) g3
    have e2 := gq_turn (f := gw f (x + 214) (aW S) (aG S k)) GSH gw_f g4 i2 j2
    rw [gw_gw] at e2
    have fx : FX x pa f (gw f (x + 214) (aW S) (flp (aG S k) i j)) := FX.made
    have F' := fx.F PP hr5 F
    obtain ⟨f', t1, t2, t3, t4, t5⟩ := pt_do (B := flp (aG S k) i j) C F' W k2 ht gw_f (g4.flp i2 j2)
    refine ⟨f', wp_e (wp_isC c0 (wp_rIe (pt_isTold C F W _) ?_)), t2, t3, ?_⟩
    · rw [z]
      refine wp_bf n10 (wp_isC c0 (wp_rIe (pt_has C F W _ _ _) ?_))
      rw [eh, q]
      refine wp_bt rfl ?_
      have sd : (gw f (x + 214) (aW S) (flp (aG S k) i j)) (x + 39) 1 = nI (aS S (aD S)).2 := by rw [gw_o (by omega) (by omega)]; exact fg1
      repeat (first | refine wp_isC (by assumption) ?_ | refine wp_nnR (by assumption) ?_ | refine wp_inA (by assumption) rfl (by omega) (by omega) ?_ | refine wp_isZ (by first | decide | exact b01z _) ?_ | refine wp_bt (by (first | (simp (disch := omega) only [wI_I, wI_s, nI_add, pk_mul, nI_ltI, nI_leI, nI_eq, nI_clamp, nm_or, nm_and, nm_xor, nm_nd, nm_one, nm_shr, nm_b2, Bool.false_eq_true, Bool.true_eq_false, not_false_eq_true, not_true_eq_false, reduceCtorEq]; done) | (simp (disch := omega) only [wI_I, wI_s, nI_add, pk_mul, nI_ltI, nI_leI, nI_eq, nI_clamp, nm_or, nm_and, nm_xor, nm_nd, nm_one, nm_shr, nm_b2, Bool.false_eq_true, Bool.true_eq_false, not_false_eq_true, not_true_eq_false, reduceCtorEq]; omega) | omega)) ?_ | refine wp_bf (by (first | (simp (disch := omega) only [wI_I, wI_s, nI_add, pk_mul, nI_ltI, nI_leI, nI_eq, nI_clamp, nm_or, nm_and, nm_xor, nm_nd, nm_one, nm_shr, nm_b2, Bool.false_eq_true, Bool.true_eq_false, not_false_eq_true, not_true_eq_false, reduceCtorEq]; done) | (simp (disch := omega) only [wI_I, wI_s, nI_add, pk_mul, nI_ltI, nI_leI, nI_eq, nI_clamp, nm_or, nm_and, nm_xor, nm_nd, nm_one, nm_shr, nm_b2, Bool.false_eq_true, Bool.true_eq_false, not_false_eq_true, not_true_eq_false, reduceCtorEq]; omega) | omega)) ?_ | refine wp_nz (by first | decide | exact nz_n (by omega) (by omega)) ?_ | (simp (disch := omega) only [wI_I, wI_s, nI_add, pk_mul, nI_ltI, nI_leI, nI_eq, nI_clamp, nm_or, nm_and, nm_xor, nm_nd, nm_one, nm_shr, nm_b2, Bool.false_eq_true, Bool.true_eq_false, not_false_eq_true, not_true_eq_false, reduceCtorEq, up2_a, up2_k, up2_s, gw_o]))
      refine wp_rVe e1 (wp_isC c0 (wp_nnR q11 (wp_isC gSH (wp_rVe e2 ?_))))
      refine wp_isC c0 (wp_nnR q11 (wp_isC c0 (wp_nnR q5 (wp_isC r1 (wp_isC c0 ?_)))))
      show wp (rV (ev M_PT_perform 0 0 [some (.ref x), some (.int (nI k)), some (.ref (x + 214)), some (.int (hI (wI h (gw f (x + 214) (aW S) (flp (aG S k) i j))) (x + 39) 1))] [] (wI h (gw f (x + 214) (aW S) (flp (aG S k) i j)))) _) _
      rw [wI_I, sd]
      refine wp_rVe t1 ?_
      repeat (first | refine wp_isC (by assumption) ?_ | refine wp_nnR (by assumption) ?_ | refine wp_inA (by assumption) rfl (by omega) (by omega) ?_ | refine wp_isZ (by first | decide | exact b01z _) ?_ | refine wp_bt (by (first | (simp (disch := omega) only [wI_I, wI_s, nI_add, pk_mul, nI_ltI, nI_leI, nI_eq, nI_clamp, nm_or, nm_and, nm_xor, nm_nd, nm_one, nm_shr, nm_b2, Bool.false_eq_true, Bool.true_eq_false, not_false_eq_true, not_true_eq_false, reduceCtorEq]; done) | (simp (disch := omega) only [wI_I, wI_s, nI_add, pk_mul, nI_ltI, nI_leI, nI_eq, nI_clamp, nm_or, nm_and, nm_xor, nm_nd, nm_one, nm_shr, nm_b2, Bool.false_eq_true, Bool.true_eq_false, not_false_eq_true, not_true_eq_false, reduceCtorEq]; omega) | omega)) ?_ | refine wp_bf (by (first | (simp (disch := omega) only [wI_I, wI_s, nI_add, pk_mul, nI_ltI, nI_leI, nI_eq, nI_clamp, nm_or, nm_and, nm_xor, nm_nd, nm_one, nm_shr, nm_b2, Bool.false_eq_true, Bool.true_eq_false, not_false_eq_true, not_true_eq_false, reduceCtorEq]; done) | (simp (disch := omega) only [wI_I, wI_s, nI_add, pk_mul, nI_ltI, nI_leI, nI_eq, nI_clamp, nm_or, nm_and, nm_xor, nm_nd, nm_one, nm_shr, nm_b2, Bool.false_eq_true, Bool.true_eq_false, not_false_eq_true, not_true_eq_false, reduceCtorEq]; omega) | omega)) ?_ | refine wp_nz (by first | decide | exact nz_n (by omega) (by omega)) ?_ | (simp (disch := omega) only [wI_I, wI_s, nI_add, pk_mul, nI_ltI, nI_leI, nI_eq, nI_clamp, nm_or, nm_and, nm_xor, nm_nd, nm_one, nm_shr, nm_b2, Bool.false_eq_true, Bool.true_eq_false, not_false_eq_true, not_true_eq_false, reduceCtorEq, up2_a, up2_k, up2_s, gw_o]))
      exact wp_rIe t5 (wp_s ⟨rfl, rfl⟩)
    · exact (Fr.gw (lo := x) (hi := x + 222) (by omega) (by omega)).tr (t4.up (by omega) (by omega))
  · rw [if_neg q, if_neg q]
    refine ⟨f, wp_e (wp_isC c0 (wp_rIe (pt_isTold C F W _) ?_)), F, W, Fr.rf⟩
    rw [z]
    refine wp_bf n10 (wp_isC c0 (wp_rIe (pt_has C F W _ _ _) ?_))
    rw [eh]
    refine wp_bf ?_ (wp_s ⟨rfl, rfl⟩)
    intro e
    rw [nI_eq (Nat.lt_of_le_of_lt (Bool.toNat_le _) (by decide)) (Nat.lt_of_le_of_lt (Bool.toNat_le _) (by decide))] at e
    exact q (by revert e; cases (aG S k i).testBit j <;> cases p <;> decide)
end
