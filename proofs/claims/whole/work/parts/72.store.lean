/-! The class's methods: a text read, a new beginning. -/
/-- a heap that differs from another in references of few cells alone -/
def Sm (lo hi : Nat) (h h' : MH) : Prop := hC h' = hC h ∧ hN h' = hN h ∧ ∀ a, lo ≤ a → a < hi → hR h' a = hR h a
theorem Sm.GS {h h' : MH} {g : Nat} (m : Sm g (g + 2) h h') (T : GS h g) : GS h' g := by
  obtain ⟨hc, hn, hr⟩ := m
  obtain ⟨t1, t2, t3, t4⟩ := T
  exact ⟨by rw [hc]; exact t1, by rw [hr g (by omega) (by omega)]; exact t2, by rw [hc]; exact t3, by rw [hn]; exact t4⟩
theorem Sm.up {lo hi lo' hi' : Nat} {h h' : MH} (m : Sm lo hi h h') (h1 : lo ≤ lo') (h2 : hi' ≤ hi) : Sm lo' hi' h h' := ⟨m.1, m.2.1, fun a h3 h4 => m.2.2 a (by omega) (by omega)⟩
theorem Sm.TS {h h' : MH} {t : Nat} (m : Sm t (t + 15) h h') (T : TS h t) : TS h' t := by
  obtain ⟨hc, hn, hr⟩ := id m
  obtain ⟨t1, t2, t3, t4, t5, t6, t7, t8, t9, t10, t11, t12, t13, t14⟩ := T
  refine ⟨by rw [hc]; exact t1, by rw [hr _ (by omega) (by omega)]; exact t2, by rw [hc]; exact t3, by rw [hn]; exact t4, fun l hl => ⟨by rw [hr _ (by omega) (by omega)]; exact (t5 l hl).1, (m.up (by omega) (by omega)).GS (t5 l hl).2⟩, by rw [hr _ (by omega) (by omega)]; exact t6, by rw [hc]; exact t7, by rw [hn]; exact t8, by rw [hr _ (by omega) (by omega)]; exact t9, by rw [hc]; exact t10, by rw [hn]; exact t11, by rw [hr _ (by omega) (by omega)]; exact t12, by rw [hc]; exact t13, by rw [hn]; exact t14⟩
theorem Sm.SS {h h' : MH} {t : Nat} (m : Sm t (t + 5) h h') (T : SS h t) : SS h' t := by
  obtain ⟨hc, hn, hr⟩ := id m
  obtain ⟨t1, t2, t3, t4, t5⟩ := T
  exact ⟨by rw [hc]; exact t1, by rw [hr _ (by omega) (by omega)]; exact t2, by rw [hr _ (by omega) (by omega)]; exact t3, (m.up (by omega) (by omega)).GS t4, (m.up (by omega) (by omega)).GS t5⟩
theorem Sm.BS {h h' : MH} {b : Nat} (m : Sm b (b + 12) h h') (T : BS h b) : BS h' b := by
  obtain ⟨hc, hn, hr⟩ := id m
  obtain ⟨t1, t2, t3, t4, t5⟩ := T
  exact ⟨by rw [hc]; exact t1, by rw [hr _ (by omega) (by omega)]; exact t2, by rw [hc]; exact t3, by rw [hn]; exact t4, fun k hk => ⟨by rw [hr _ (by omega) (by omega)]; exact (t5 k hk).1, (m.up (by omega) (by omega)).GS (t5 k hk).2⟩⟩
theorem Sm.HS {h h' : MH} {z : Nat} (m : Sm z (z + 45) h h') (T : HS h z) : HS h' z := by
  obtain ⟨hc, hn, hr⟩ := id m
  obtain ⟨z1, z2, z3, z4, z5, z6, z7, z8, z9, z10, z11, z12, z13, z14⟩ := T
  exact ⟨by rw [hc]; exact z1, by rw [hr _ (by omega) (by omega)]; exact z2, by rw [hc]; exact z3, by rw [hn]; exact z4, by rw [hr _ (by omega) (by omega)]; exact z5, by rw [hc]; exact z6, by rw [hn]; exact z7, fun i hi => ⟨by rw [hr _ (by omega) (by omega)]; exact (z8 i hi).1, by rw [hc]; exact (z8 i hi).2.1, by rw [hn]; exact (z8 i hi).2.2⟩, by rw [hr _ (by omega) (by omega)]; exact z9, by rw [hc]; exact z10, by rw [hn]; exact z11, by rw [hr _ (by omega) (by omega)]; exact z12, by rw [hc]; exact z13, by rw [hn]; exact z14⟩
theorem Sm.IS {h h' : MH} {s : Nat} (m : Sm s (s + 16) h h') (T : IS h s) : IS h' s := by
  obtain ⟨hc, hn, hr⟩ := id m
  obtain ⟨i1, i4, j4, i5, c5, n5, i6, c6, n6, i7, c7, n7, i8, c8, n8, i9, c9, n9, i10, c10, n10, i11, c11, n11, i13, j13, i14, j14, i15, j15⟩ := T
  have hs := hr s (by omega) (by omega)
  exact ⟨by rw [hc]; exact i1, by rw [hs]; exact i4, (m.up (by omega) (by omega)).GS j4, by rw [hs]; exact i5, by rw [hc]; exact c5, by rw [hn]; exact n5, by rw [hs]; exact i6, by rw [hc]; exact c6, by rw [hn]; exact n6, by rw [hs]; exact i7, by rw [hc]; exact c7, by rw [hn]; exact n7, by rw [hs]; exact i8, by rw [hc]; exact c8, by rw [hn]; exact n8, by rw [hs]; exact i9, by rw [hc]; exact c9, by rw [hn]; exact n9, by rw [hs]; exact i10, by rw [hc]; exact c10, by rw [hn]; exact n10, by rw [hs]; exact i11, by rw [hc]; exact c11, by rw [hn]; exact n11, by rw [hs]; exact i13, (m.up (by omega) (by omega)).GS j13, by rw [hs]; exact i14, (m.up (by omega) (by omega)).GS j14, by rw [hs]; exact i15, (m.up (by omega) (by omega)).GS j15⟩
/-- the relations' cells with another plan -/
theorem RS_c {h h' : MH} {q p p' : Nat} (hc : hC h' = hC h) (hn : hN h' = hN h) (hr : ∀ a, q < a → a < q + 47 → hR h' a = hR h a) (hq : ∀ k, k ≠ 2 → hR h' q k = hR h q k) (h2 : hR h' q 2 = some p') (R : RS h q p) : RS h' q p' := by
  obtain ⟨r1, r2, r3, r4, r5, r6, r7, r8, r9, r10, r11, r12⟩ := R
  have m : Sm (q + 1) (q + 47) h h' := ⟨hc, hn, fun a h1 h2 => hr a (by omega) (by omega)⟩
  exact ⟨by rw [hc]; exact r1, by rw [hq _ (by decide)]; exact r2, by rw [hc]; exact r3, by rw [hn]; exact r4, fun k hk => ⟨by rw [hr _ (by omega) (by omega)]; exact (r5 k hk).1, (m.up (by omega) (by omega)).GS (r5 k hk).2⟩, by rw [hq _ (by decide)]; exact r6, by rw [hc]; exact r7, by rw [hn]; exact r8, fun i hi => ⟨by rw [hr _ (by omega) (by omega)]; exact (r9 i hi).1, (m.up (by omega) (by omega)).GS (r9 i hi).2⟩, by rw [hq _ (by decide)]; exact r10, (m.up (by omega) (by omega)).GS r11, h2⟩
/-- the object's cells with other plans -/
theorem CSH_c {h h' : MH} {x pa pb pa' pb' s1 v1 : Nat} (C : CSH h x pa pb s1 v1) (hc : hC h' = hC h) (hn : hN h' = hN h) (hr : ∀ a, a ≠ x → a ≠ x + 36 → a ≠ x + 37 → a ≠ x + 39 → hR h' a = hR h a) (hx : ∀ k, k ≠ 2 → k ≠ 3 → hR h' x k = hR h x k) (h36 : hR h' (x + 36) 2 = hR h (x + 36) 2) (h37 : hR h' (x + 37) 4 = hR h (x + 37) 4) (h39 : ∀ k, k ≠ 2 → hR h' (x + 39) k = hR h (x + 39) k) (e2 : hR h' x 2 = some pa') (e3 : hR h' x 3 = some pb') (e4 : hR h' (x + 39) 2 = some pa') (hp : (pa' = pa ∧ pb' = pb) ∨ (pa' = pb ∧ pb' = pa)) : CSH h' x pa' pb' s1 v1 := by
  obtain ⟨⟨c0, q0, q2, q3, q4, q5, q6, q7, q8, q9, q10, q11, q12, q13⟩, PA, PB, RSH, HSH, ⟨bC, bN, bR⟩, ISH, TSH, TSH2, GSH, SSH, ⟨lC, lN1, tC, tN⟩, ⟨rC, rR1, sC, sR1, wC, wN⟩, ⟨st1, st2, st3, st4, st5, st6⟩, ⟨sx1, sx2, x0⟩, PP⟩ := C
  have m : ∀ lo hi, x + 40 ≤ lo → Sm lo hi h h' := fun lo hi hlo => ⟨hc, hn, fun a h1 h2 => hr a (by omega) (by omega) (by omega) (by omega)⟩
  have PSx : ∀ p, p = x + 2 ∨ p = x + 19 → PS h p → PS h' p := fun p hp P => PS_c hc hn (fun a h1 h2 => hr a (by omega) (by omega) (by omega) (by omega)) P
  refine ⟨⟨by rw [hc]; exact c0, by rw [hx _ (by decide) (by decide)]; exact q0, e2, e3, by rw [hx _ (by decide) (by decide)]; exact q4, by rw [hx _ (by decide) (by decide)]; exact q5, by rw [hx _ (by decide) (by decide)]; exact q6, by rw [hx _ (by decide) (by decide)]; exact q7, by rw [hx _ (by decide) (by decide)]; exact q8, by rw [hx _ (by decide) (by decide)]; exact q9, by rw [hx _ (by decide) (by decide)]; exact q10, by rw [hx _ (by decide) (by decide)]; exact q11, by rw [hx _ (by decide) (by decide)]; exact q12, by rw [hx _ (by decide) (by decide)]; exact q13⟩, ?_, ?_, RS_c hc hn (fun a h1 h2 => hr a (by omega) (by omega) (by omega) (by omega)) h39 e4 RSH, (m _ _ (by omega)).HS HSH, ⟨by rw [hc]; exact bC, by rw [hn]; exact bN, fun b hb => ⟨by rw [hr _ (by omega) (by omega) (by omega) (by omega)]; exact (bR b hb).1, (m _ _ (by omega)).BS (bR b hb).2⟩⟩, (m _ _ (by omega)).IS ISH, (m _ _ (by omega)).TS TSH, (m _ _ (by omega)).TS TSH2, (m _ _ (by omega)).GS GSH, (m _ _ (by omega)).SS SSH, ⟨by rw [hc]; exact lC, by rw [hn]; exact lN1, by rw [hc]; exact tC, by rw [hn]; exact tN⟩, ⟨by rw [hc]; exact rC, by rw [h36]; exact rR1, by rw [hc]; exact sC, by rw [h37]; exact sR1, by rw [hc]; exact wC, by rw [hn]; exact wN⟩, ⟨by rw [hr _ (by omega) (by omega) (by omega) (by omega)]; exact st1, by rw [hc]; exact st2, by rw [hr _ (by omega) (by omega) (by omega) (by omega)]; exact st3, by rw [hr _ (by omega) (by omega) (by omega) (by omega)]; exact st4, by rw [hc]; exact st5, by rw [hn]; exact st6⟩, ⟨sx1, sx2, x0⟩, by omega⟩
  · rcases hp with ⟨h1, h2⟩ | ⟨h1, h2⟩
    · rw [h1]; exact PSx _ (by omega) PA
    · rw [h1]; exact PSx _ (by omega) PB
  · rcases hp with ⟨h1, h2⟩ | ⟨h1, h2⟩
    · rw [h2]; exact PSx _ (by omega) PB
    · rw [h2]; exact PSx _ (by omega) PA
/-- the parts of all derived ones, each for itself -/
def spl : List Nat → List Nat → Nat → List Nat
  | [], _ => fun _ => []
  | c :: cs, acc => if 30 ≤ c then (fun k => if k = c - 30 then acc else spl cs [] k) else spl cs (acc ++ [c])
def rdS (S : Abs) : Ps := cRead (aT S) (aN S)
def sStore (S : Abs) : Int32 := if yF (rdS S) = 0 then nI (vNr (yN (rdS S))) else mI 1
def uStore (S : Abs) : Abs := if yF (rdS S) = 0 then (aT S, 0, 0, none, yN (rdS S), spl (vXs (yN (rdS S))) [], 0, 0, fun _ => (iA (yN (rdS S)), vDw (yN (rdS S))), fun _ => none, [], [], aM S) else (aT S, 0, yF (rdS S), some (yP (rdS S)), aQ S, aX S, aD S, aK S, aS S, aB S, aL S, aE S, aM S)
