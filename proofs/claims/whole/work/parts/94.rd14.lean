/-! The plain form's reader: what it knows between the lines. -/
/-- cells that reading a text may write on -/
def Tw (m a i : Nat) : Prop := (a = m ∧ ((2 < i ∧ i ≤ 8) ∨ (25 ≤ i ∧ i ≤ 30) ∨ i = 32 ∨ i = 33)) ∨ (m + 2 ≤ a ∧ a ≤ m + 7 ∧ 1 ≤ i) ∨ ((a = m + 9 ∨ a = m + 10 ∨ a = m + 11) ∧ 5 ≤ i) ∨ (a = m + 12 ∧ 80 ≤ i) ∨ (a = m + 13 ∧ 260 ≤ i) ∨ (a = m + 14 ∧ 330 ≤ i) ∨ a = m + 15
def TR (m : Nat) (f0 f : Nat → Nat → Int32) (g0 g : Nat → Nat → Int64) : Prop := (∀ a i, ¬ Tw m a i → f a i = f0 a i) ∧ ∀ a, a ≠ m → a ≠ m + 8 → g a = g0 a
theorem TR.rf {m : Nat} {f : Nat → Nat → Int32} {g : Nat → Nat → Int64} : TR m f f g g := ⟨fun _ _ _ => rfl, fun _ _ _ => rfl⟩
theorem TR.tr {m : Nat} {f f1 f2 : Nat → Nat → Int32} {g g1 g2 : Nat → Nat → Int64} (a : TR m f f1 g g1) (b : TR m f1 f2 g1 g2) : TR m f f2 g g2 := ⟨fun x i hx => (b.1 x i hx).trans (a.1 x i hx), fun x h1 h2 => (b.2 x h1 h2).trans (a.2 x h1 h2)⟩
theorem TR.u {m a i : Nat} {v : Int32} {f f1 : Nat → Nat → Int32} {g g1 : Nat → Nat → Int64} (t : TR m f f1 g g1) (w : Tw m a i) : TR m f (up2 f1 a i v) g g1 := ⟨fun x j hx => by
  refine Eq.trans ?_ (t.1 x j hx)
  unfold up2
  split
  · split
    · rename_i z1 z2; rw [z1, z2] at hx; exact absurd w hx
    · rfl
  · rfl, t.2⟩
theorem PF.T {n m : Nat} {f f1 : Nat → Nat → Int32} {g g1 : Nat → Nat → Int64} (p : PF n m f f1 g g1) : TR m f f1 g g1 := by
  obtain ⟨p1, p2, p3, p4, p5, p6, p7, p8⟩ := p
  refine ⟨fun a i hx => ?_, fun a h1 _ => p8 a h1⟩
  unfold Tw at hx
  by_cases e0 : a = m
  · subst e0; exact p2 i (by omega) (by omega) (by omega) (by omega) (by omega)
  by_cases e6 : a = m + 6
  · subst e6; rw [show i = 0 by omega]; exact p3
  by_cases e7 : a = m + 7
  · subst e7; rw [show i = 0 by omega]; exact p4
  by_cases e12 : a = m + 12
  · subst e12; exact p5 i (by omega)
  by_cases e13 : a = m + 13
  · subst e13; exact p6 i (by omega)
  by_cases e14 : a = m + 14
  · subst e14; exact p7 i (by omega)
  rw [p1 a e0 e6 e7 e12 e13 e14 (by omega)]
theorem FR.T {m : Nat} {f f1 : Nat → Nat → Int32} {g g1 : Nat → Nat → Int64} (p : FR m f f1 g g1) : TR m f f1 g g1 := (FR.P (n := 0) p).T
/-- the derived ones' parts, each for itself -/
def cxok (q : Pn) (cx : Nat → List Nat) : Prop := vXs q = flat (vTd q) cx (vNr q) ∧ (∀ k, k < vNr q → (vTd q).testBit k = false → xsg k (cx k) 0 ∧ ∀ c, c ∈ cx k → c < 30) ∧ ∀ k, ¬ (k < vNr q ∧ (vTd q).testBit k = false) → cx k = []
/-- the class's state between lines -/
def LI (len : Nat) (cx : Nat → List Nat) (s : Ps) : Prop := (yF s = 0 ∧ yI s ≤ len) ∧ (yV s ≤ 30 ∧ (vXs (yN s)).length ≤ 7 * yV s) ∧ ((1 ≤ vLv (yN s) ∧ vLv (yN s) ≤ 4) ∧ vNr (yN s) ≤ 5 ∧ vTd (yN s) < 2 ^ vNr (yN s) ∧ vDr (yN s) ≤ 100 ∧ vDw (yN s) ≤ 999) ∧ NMB (yN s) ∧ (∀ k, k < vNr (yN s) → GW (2 ^ vLv (yN s)) (vGr (yN s) k)) ∧ ((vKs (yN s) = [] ∧ vUn (yN s) = 0) ∨ ((yL s).testBit 4 = true ∧ kok (vKs (yN s)) 0 ∧ (vKs (yN s)).length ≤ 320 ∧ vUn (yN s) ≤ 30)) ∧ cxok (yN s) cx
/-- the plain form's cells of one relation that is told -/
def PLk (f : Nat → Nat → Int32) (g : Nat → Nat → Int64) (m : Nat) (cs : List Nat) (q : Pn) (cx : Nat → List Nat) (k : Nat) : Prop := g (m + 8) (5 + k) = lN (vNm q k) ∧ f (m + 9) (5 + k) = nI ((vTd q).testBit k).toNat ∧ (∃ o, f (m + 10) (5 + k) = nI o ∧ f (m + 11) (5 + k) = nI (cx k).length ∧ o + (cx k).length ≤ cs.length ∧ ∀ i c, (cx k)[i]? = some c → cs[o + i]? = some c) ∧ ((vTd q).testBit k = true → RF f (m + 12) (80 + 16 * k) (vGr q k))
def PLC (f : Nat → Nat → Int32) (g : Nat → Nat → Int64) (m : Nat) (cx : Nat → List Nat) (q : Pn) : Prop := f (m + 2) 1 = nI (vLv q) ∧ f (m + 3) 1 = nI (vNr q) ∧ f (m + 4) 1 = nI (vDr q) ∧ f (m + 5) 1 = nI (vDw q) ∧ ∀ k, k < vNr q → PLk f g m (fxs (vXs q)) q cx k
def FLG (f : Nat → Nat → Int32) (m l : Nat) : Prop := f m 27 = nI (l.testBit 0).toNat ∧ f m 28 = nI (l.testBit 4).toNat ∧ f m 29 = nI (l.testBit 5).toNat ∧ f m 30 = nI (l.testBit 6).toNat
def LM (f : Nat → Nat → Int32) (g : Nat → Nat → Int64) (m : Nat) (b : Nat → Nat) (len : Nat) (cx : Nat → List Nat) (s : Ps) : Prop := (∃ O dp, RN f g f g m b len O dp s) ∧ PLC f g m cx (yN s) ∧ FLG f m (yL s)
/-- what a line ends in -/
def LRs (f0 : Nat → Nat → Int32) (g0 : Nat → Nat → Int64) (f : Nat → Nat → Int32) (g : Nat → Nat → Int64) (m : Nat) (b : Nat → Nat) (len : Nat) (t : Ps) : Prop := TR m f0 f g0 g ∧ ((yF t = 0 ∧ ∃ cx, LI len cx t ∧ LM f g m b len cx t) ∨ (yF t ≠ 0 ∧ RE f g f g m (yF t) (yP t)))
theorem PLk.c {f f' : Nat → Nat → Int32} {g g' : Nat → Nat → Int64} {m k : Nat} {cs cs' : List Nat} {q q' : Pn} {cx cx' : Nat → List Nat} (P : PLk f g m cs q cx k) (e8 : g' (m + 8) (5 + k) = g (m + 8) (5 + k)) (e9 : f' (m + 9) (5 + k) = f (m + 9) (5 + k)) (e10 : f' (m + 10) (5 + k) = f (m + 10) (5 + k)) (e11 : f' (m + 11) (5 + k) = f (m + 11) (5 + k)) (e12 : ∀ r, r < 16 → f' (m + 12) (80 + 16 * k + r) = f (m + 12) (80 + 16 * k + r)) (ec : ∃ l, cs' = cs ++ l) (en : vNm q' k = vNm q k) (et : (vTd q').testBit k = (vTd q).testBit k) (eg : vGr q' k = vGr q k) (ex : cx' k = cx k) : PLk f' g' m cs' q' cx' k := by
  obtain ⟨p1, p2, ⟨o, o1, o2, o3, o4⟩, p4⟩ := P
  obtain ⟨l, ec⟩ := ec
  refine ⟨by rw [e8, en]; exact p1, by rw [e9, et]; exact p2, ⟨o, by rw [e10]; exact o1, by rw [e11, ex]; exact o2, by rw [ex, ec, List.length_append]; omega, fun i c hc => ?_⟩, fun z r hr => ?_⟩
  · rw [ex] at hc
    have := o4 i c hc
    rw [ec, List.getElem?_append_left (List.getElem?_eq_some_iff.mp this).1]; exact this
  · rw [et] at z
    rw [e12 r hr, eg]; exact p4 z r hr
theorem flat_c {td td' : Nat} {cx cx' : Nat → List Nat} : ∀ n, (∀ k, k < n → td'.testBit k = td.testBit k ∧ cx' k = cx k) → flat td' cx' n = flat td cx n
  | 0, _ => rfl
  | n + 1, h => by
    rw [flat, flat, flat_c n (fun k hk => h k (by omega)), (h n (by omega)).1, (h n (by omega)).2]
theorem tb_or {td n k : Nat} : (td ||| 2 ^ n).testBit k = if k = n then true else td.testBit k := by
  rw [Nat.testBit_or, Nat.testBit_two_pow]
  by_cases e : k = n
  · rw [if_pos e, e]; simp
  · rw [if_neg e]
    simp [show ¬ n = k from fun w => e w.symm]
theorem tb_hi {td n : Nat} (h : td < 2 ^ n) : td.testBit n = false := Nat.testBit_lt_two_pow h
theorem fxs_b : ∀ (cs l : List Nat), (∀ c, c ∈ cs → c < 30) → fxs (l ++ cs) = fxs l ++ cs
  | [], l, _ => by rw [List.append_nil, List.append_nil]
  | c :: cs, l, h => by
    have e : l ++ c :: cs = (l ++ [c]) ++ cs := by simp
    rw [e, fxs_b cs (l ++ [c]) (fun x hx => h x (List.mem_cons_of_mem _ hx)), fxs_a _ (h c (List.mem_cons_self ..))]
    simp
section
variable {b : Nat → Nat} {len : Nat}
/-- what reading pairs does -/
def PP (len : Nat) (s s' : Ps) : Prop := (yI s ≤ yI s' ∧ yI s' ≤ len) ∧ ∃ G, s' = (yI s', 0, yP s, yL s, yV s, uGr (yN s) G) ∧ ∀ k, k ≠ vNr (yN s) → G k = vGr (yN s) k
theorem PP.rf {s : Ps} (hf : yF s = 0) (hi : yI s ≤ len) : PP len s s := ⟨⟨Nat.le_refl _, hi⟩, vGr (yN s), by
  show s = (yI s, 0, yP s, yL s, yV s, yN s)
  rw [← hf]; rfl, fun _ _ => rfl⟩
theorem zM_f {lo hi : Nat} {s : Ps} (hf : yF (zM b len lo hi s).2 = 0) : yF s = 0 ∧ (zM b len lo hi s).2 = zS b len s := by
  unfold zM at hf ⊢
  by_cases z : kq b len s = 3
  · rw [if_pos z] at hf ⊢
    by_cases y : nv b len (yI s) < lo ∨ hi < nv b len (yI s)
    · rw [if_pos y] at hf; exact absurd hf (zF_n (by decide))
    · rw [if_neg y] at hf ⊢
      refine ⟨?_, rfl⟩
      apply Classical.byContradiction
      intro q
      have hf : yF (zS b len s) = 0 := hf
      rw [(st_S s q).1] at hf; exact q hf
  · rw [if_neg z] at hf; exact absurd hf (zF_n (by decide))
theorem pp_Pl {n : Nat} : ∀ k s, yI s ≤ len → yF (zPl b len n k s) = 0 → PP len s (zPl b len n k s) := by
  intro k
  induction k with
  | zero => intro s hi hf; exact PP.rf hf hi
  | succ k ih =>
    intro s hi hf
    rw [zPl] at hf ⊢
    by_cases z : kq b len s = 3
    · rw [if_pos z] at hf ⊢
      have stP := st_Pl (b := b) (len := len) (n := n) k
      have f2 : yF (zM b len 0 n (zM b len 0 n s).2).2 = 0 := by
        apply Classical.byContradiction
        intro q
        have := (stP (zAd (zM b len 0 n s).1 (zM b len 0 n (zM b len 0 n s).2).1 (zM b len 0 n (zM b len 0 n s).2).2) q).1
        rw [this] at hf; exact q hf
      obtain ⟨f1, e2⟩ := zM_f f2
      obtain ⟨f0, e1⟩ := zM_f f1
      generalize (zM b len 0 n s).1 = r at *
      generalize (zM b len 0 n (zM b len 0 n s).2).1 = c at *
      rw [e2, e1, zS_0 (b := b) (len := len) f0] at hf ⊢
      rw [zS_0 (s := (nx b len (yI s), 0, yP s, yL s, yV s, yN s)) rfl] at hf ⊢
      have q1 : yI s ≤ nx b len (yI s) := Nat.le_trans pl_ge nx_ge
      have q2 : nx b len (yI s) ≤ nx b len (nx b len (yI s)) := Nat.le_trans pl_ge nx_ge
      have hi2 : nx b len (nx b len (yI s)) ≤ len := nx_le (nx_le hi)
      have q3 : nx b len (yI (nx b len (yI s), 0, yP s, yL s, yV s, yN s)) = nx b len (nx b len (yI s)) := rfl
      rw [q3] at hf ⊢
      generalize nx b len (nx b len (yI s)) = j at *
      have p := ih (zAd r c (j, 0, yP s, yL s, yV s, yN s)) hi2 hf
      obtain ⟨⟨p1, p2⟩, G, p3, p4⟩ := p
      refine ⟨⟨Nat.le_trans (Nat.le_trans q1 q2) p1, p2⟩, G, p3, fun k hk => ?_⟩
      have := p4 k hk
      rw [this]
      show (if k = vNr (yN s) then _ else vGr (yN s) k) = _
      rw [if_neg hk]
    · rw [if_neg z] at hf ⊢
      exact PP.rf hf hi
theorem pp_Pr {s : Ps} (hi : yI s ≤ len) (hf : yF (zPr b len s) = 0) : PP len s (zPr b len s) := by
  unfold zPr at hf ⊢
  by_cases z : kq b len (zPl b len (2 ^ vLv (yN s) - 1) 40 s) = 3
  · rw [if_pos z] at hf; exact absurd hf (zF_n (by decide))
  · rw [if_neg z] at hf ⊢
    exact pp_Pl 40 s hi hf
theorem zFn_t (name : Nat) (s : Ps) : zFn name true s = (yI s, yF s, yP s, yL s, yV s, uNr (uNm (uTd (yN s) (vTd (yN s) ||| 2 ^ vNr (yN s))) (fun k => if k = vNr (yN s) then name else vNm (yN s) k)) (vNr (yN s) + 1)) := rfl
theorem zFn_d (name : Nat) (s : Ps) (h : (vXs (yN s)).length < 256) : zFn name false s = (yI s, yF s, yP s, yL s, yV s, uNr (uNm (uXs (yN s) (vXs (yN s) ++ [30 + vNr (yN s)])) (fun k => if k = vNr (yN s) then name else vNm (yN s) k)) (vNr (yN s) + 1)) := by
  have e := zX_o (c := 30 + vNr (yN s)) h
  show zN (zX (30 + vNr (yN s)) s) (uNr (uNm (yN (zX (30 + vNr (yN s)) s)) (fun k => if k = vNr (yN s) then name else vNm (yN s) k)) (vNr (yN s) + 1)) = _
  rw [e]; rfl
theorem zFn_P (name : Nat) (td : Bool) (s : Ps) : yF (zFn name td s) = yF s ∧ yP (zFn name td s) = yP s := by
  cases td with
  | true => exact ⟨rfl, rfl⟩
  | false =>
    show yF (zX (30 + vNr (yN s)) s) = _ ∧ yP (zX (30 + vNr (yN s)) s) = _
    unfold zX
    split <;> exact ⟨rfl, rfl⟩
/-- a told relation is finished -/
theorem LI_t {cx : Nat → List Nat} {s s3 : Ps} {i name : Nat} {G : Nat → Rw} (L : LI len cx s) (hn : vNr (yN s) < 5) (e : s3 = (i, 0, yP s, yL s, yV s, uGr (yN s) G)) (hi : i ≤ len) (hG : ∀ k, k ≠ vNr (yN s) → G k = vGr (yN s) k) (gw : GW (2 ^ vLv (yN s)) (G (vNr (yN s)))) (hw : name < 2 ^ 63) : LI len cx (zFn name true s3) := by
  subst e
  rw [zFn_t]
  obtain ⟨⟨l1, l2⟩, l3, ⟨l4, l5, l6, l7, l8⟩, l9, l10, l11, ⟨c1, c2, c3⟩⟩ := L
  have ht := tb_hi l6
  refine ⟨⟨rfl, hi⟩, l3, ⟨l4, hn, ?_, l7, l8⟩, fun k hk => ?_, fun k hk => ?_, l11, ?_, fun k hk hb => ?_, fun k hk => ?_⟩
  · show vTd (yN s) ||| 2 ^ vNr (yN s) < 2 ^ (vNr (yN s) + 1)
    exact Nat.or_lt_two_pow (Nat.lt_of_lt_of_le l6 (Nat.pow_le_pow_right (by decide) (by omega))) (Nat.pow_lt_pow_right (by decide) (by omega))
  · show (if k = vNr (yN s) then name else vNm (yN s) k) < 2 ^ 63
    have hk : k < vNr (yN s) + 1 := hk
    split
    · exact hw
    · exact l9 k (by omega)
  · show GW (2 ^ vLv (yN s)) (G k)
    have hk : k < vNr (yN s) + 1 := hk
    by_cases z : k = vNr (yN s)
    · rw [z]; exact gw
    · rw [hG k z]; exact l10 k (by omega)
  · show vXs (yN s) = flat (vTd (yN s) ||| 2 ^ vNr (yN s)) cx (vNr (yN s) + 1)
    rw [flat, tb_or, if_pos rfl, if_pos rfl, List.append_nil, c1]
    exact (flat_c _ (fun k hk => ⟨by rw [tb_or, if_neg (by omega)], rfl⟩)).symm
  · have hk : k < vNr (yN s) + 1 := hk
    have hb : (vTd (yN s) ||| 2 ^ vNr (yN s)).testBit k = false := hb
    rw [tb_or] at hb
    by_cases z : k = vNr (yN s)
    · rw [if_pos z] at hb; cases hb
    · rw [if_neg z] at hb
      exact c2 k (by omega) hb
  · have hk : ¬ (k < vNr (yN s) + 1 ∧ (vTd (yN s) ||| 2 ^ vNr (yN s)).testBit k = false) := hk
    rw [tb_or] at hk
    refine c3 k (fun w => hk ⟨by omega, ?_⟩)
    rw [if_neg (by omega)]; exact w.2
/-- a derived relation is finished -/
theorem LI_d {cx : Nat → List Nat} {s s3 : Ps} {i name l : Nat} {cs : List Nat} (L : LI len cx s) (hn : vNr (yN s) < 5) (e : s3 = (i, 0, yP s, yL s, yV s + l, uXs (uGr (yN s) (fun k => if k = vNr (yN s) then (fun _ => 0) else vGr (yN s) k)) (vXs (yN s) ++ cs))) (hi : i ≤ len) (hl : yV s + l ≤ 30) (hc : cs.length + 1 ≤ 7 * l) (h30 : ∀ c, c ∈ cs → c < 30) (hx : xsg (vNr (yN s)) cs 0) (hw : name < 2 ^ 63) : LI len (fun k => if k = vNr (yN s) then cs else cx k) (zFn name false s3) := by
  obtain ⟨⟨l1, l2⟩, l3, ⟨l4, l5, l6, l7, l8⟩, l9, l10, l11, ⟨c1, c2, c3⟩⟩ := L
  have ht := tb_hi l6
  have hlen : (vXs (yN s) ++ cs).length = (vXs (yN s)).length + cs.length := List.length_append
  subst e
  rw [zFn_d _ _ (by show (vXs (yN s) ++ cs).length < 256; omega)]
  refine ⟨⟨rfl, hi⟩, ⟨hl, ?_⟩, ⟨l4, hn, ?_, l7, l8⟩, fun k hk => ?_, fun k hk => ?_, l11, ?_, fun k hk hb => ?_, fun k hk => ?_⟩
  · show (vXs (yN s) ++ cs ++ [30 + vNr (yN s)]).length ≤ 7 * (yV s + l)
    rw [len_1, hlen]; omega
  · show vTd (yN s) < 2 ^ (vNr (yN s) + 1)
    exact Nat.lt_of_lt_of_le l6 (Nat.pow_le_pow_right (by decide) (by omega))
  · show (if k = vNr (yN s) then name else vNm (yN s) k) < 2 ^ 63
    have hk : k < vNr (yN s) + 1 := hk
    split
    · exact hw
    · exact l9 k (by omega)
  · show GW (2 ^ vLv (yN s)) (if k = vNr (yN s) then (fun _ => 0) else vGr (yN s) k)
    have hk : k < vNr (yN s) + 1 := hk
    by_cases z : k = vNr (yN s)
    · rw [if_pos z]; exact GW.z (lv_p l4.2)
    · rw [if_neg z]; exact l10 k (by omega)
  · show vXs (yN s) ++ cs ++ [30 + vNr (yN s)] = flat (vTd (yN s)) (fun k => if k = vNr (yN s) then cs else cx k) (vNr (yN s) + 1)
    rw [flat, ht, if_neg (by decide), if_pos rfl]
    rw [flat_c (td := vTd (yN s)) (cx := cx) _ (fun k hk => ⟨rfl, by rw [if_neg (by omega)]⟩), ← c1, List.append_assoc]
  · show xsg k (if k = vNr (yN s) then cs else cx k) 0 ∧ ∀ c, c ∈ (if k = vNr (yN s) then cs else cx k) → c < 30
    have hk : k < vNr (yN s) + 1 := hk
    have hb : (vTd (yN s)).testBit k = false := hb
    by_cases z : k = vNr (yN s)
    · rw [if_pos z, z]; exact ⟨hx, h30⟩
    · rw [if_neg z]; exact c2 k (by omega) hb
  · have hk : ¬ (k < vNr (yN s) + 1 ∧ (vTd (yN s)).testBit k = false) := hk
    show (if k = vNr (yN s) then cs else cx k) = []
    by_cases z : k = vNr (yN s)
    · exfalso; apply hk; rw [z]; exact ⟨by omega, ht⟩
    · rw [if_neg z]
      exact c3 k (fun w => hk ⟨by omega, w.2⟩)
end
