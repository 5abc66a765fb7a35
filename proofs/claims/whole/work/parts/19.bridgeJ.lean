/-! New cells; copies; constants; ends. -/
theorem kd_in : ∀ (k : Nat) (q : vw_C), vwCl[k]? = some q → ∀ j, j < q.2.2 → kdTy (tyOf (k + 1) j) ≤ 2 := by
  intro k q hq
  match k, hq with
  | 0, hq => cases hq; decide
  | 1, hq => cases hq; decide
  | 2, hq => cases hq; decide
  | 3, hq => cases hq; decide
  | 4, hq => cases hq; decide
  | 5, hq => cases hq; decide
  | 6, hq => cases hq; decide
  | 7, hq => cases hq; decide
  | 8, hq => cases hq; decide
  | 9, hq => cases hq; decide
  | 10, hq => cases hq; decide
  | 11, hq => cases hq; decide
  | 12, hq => cases hq; decide
  | k + 13, hq => simp [vwCl] at hq
theorem val_nw {h : MH} {tag n t k : Nat} (hk : kdTy (tyOf t k) ≤ 2) : val (nw h tag n) (hT h) t k = defaultValue (tyOf t k) := by
  have e1 : hI (nw h tag n) (hT h) k = 0 := by show (up1 (hI h) (hT h) (fun _ => 0)) (hT h) k = 0; simp [up1]
  have e2 : hL (nw h tag n) (hT h) k = 0 := by show (up1 (hL h) (hT h) (fun _ => 0)) (hT h) k = 0; simp [up1]
  have e3 : hR (nw h tag n) (hT h) k = none := by show (up1 (hR h) (hT h) (fun _ => none)) (hT h) k = none; simp [up1]
  unfold val
  rw [e1, e2, e3]
  cases hz : tyOf t k <;> rw [hz] at hk <;> first | rfl | (exfalso; revert hk; decide)
theorem val_nw_ne {h : MH} {tag n a : Nat} (ha : a ≠ hT h) (t k : Nat) : val (nw h tag n) a t k = val h a t k := by
  have e1 : hI (nw h tag n) a = hI h a := by show up1 _ _ _ a = _; simp [up1, ha]
  have e2 : hL (nw h tag n) a = hL h a := by show up1 _ _ _ a = _; simp [up1, ha]
  have e3 : hR (nw h tag n) a = hR h a := by show up1 _ _ _ a = _; simp [up1, ha]
  unfold val
  rw [e1, e2, e3]
theorem Sb.made {base : Nat} {h : MH} {tag n : Nat} (hb : base ≤ hT h) : Sb base h (nw h tag n) := fun a ha => by
  have hne : a ≠ hT h := by omega
  refine ⟨?_, ?_, ?_, ?_, ?_⟩
  · show up1 _ _ _ a = _; simp [up1, hne]
  · show up1 _ _ _ a = _; simp [up1, hne]
  · show up1 _ _ _ a = _; simp [up1, hne]
  · show up1 _ _ _ a = _; simp [up1, hne]
  · show up1 _ _ _ a = _; simp [up1, hne]
theorem HRn.made {base : Nat} {D : va_G} {dA : Nat → ClassId} {h : MH} {H H1 : Heap} {tag n : Nat} (hH : HRn base D dA h H) (z1 : H1.size = H.size + 1) (o1 : ∀ q, q < H.size → H1[q]? = H[q]?) (hm : mcell D dA (nw h tag n) (hT h) H1) : HRn base D dA (nw h tag n) H1 := by
  refine ⟨by show hT h + 1 = _; rw [z1, hH.1], fun a ha hc => ?_⟩
  by_cases e : a = hT h
  · rw [e]; exact hm
  · have ec : hC (nw h tag n) a = hC h a := by show up1 _ _ _ a = _; simp [up1, e]
    have en : hN (nw h tag n) a = hN h a := by show up1 _ _ _ a = _; simp [up1, e]
    have hm2 := hH.2 a ha (by rw [← ec]; exact hc)
    have hlt : a < H.size := by
      rcases hm2 with ⟨-, q, -, cell, g1, -⟩ | ⟨-, -, g1⟩
      · exact (Array.getElem?_eq_some_iff.mp g1).1
      · exact (Array.getElem?_eq_some_iff.mp g1).1
    exact hm2.kept ec en (fun t k => val_nw_ne e t k) (o1 a hlt)
theorem va_S.grow {A : Nat → Prop} {H0 H H1 : Heap} {locs : List Loc} (h : va_S A H0 H locs) (z1 : H.size ≤ H1.size) (o1 : ∀ q, q < H.size → H1[q]? = H[q]?) : va_S A H0 H1 locs :=
  ⟨Nat.le_trans h.1 z1, fun q h1 h2 => (o1 q (Nat.lt_of_lt_of_le h1 h.1)).trans (h.2.1 q h1 h2), h.2.2⟩
/-- one that makes cells -/
theorem Gd.alloc {M d pc pc' : Nat} {ls : MLoc} {st st' : List Value} {h h1 : MH} {rv : Option Value} {h' : MH} {t : Mth} {kc' ks : Nat} (hPg : Pg M = some t) (g : Gd M d pc' ls st' h1 rv h') (eT : hT h1 = hT h + kc') (eS : hS h1 = hS h + ks)
    (hs : ∀ (p : Program) (l : Launch) (e : Env) (R : Room) (s : State) (m : MethodId) (args : Array Value) (below : List Frame) (meth : Method) (c : Code) (base : Nat) (D : va_G) (dA : Nat → ClassId) (H : Heap) (locs : List Loc) (cells slots : Nat) (Q : State → Prop) (lsr : Array Slot) (h0 : MH), Cx t d p R s m args meth c base D dA → LR t.2.2.1 ls lsr → HRn base D dA h H → Old base s h0 → Sb base h0 h → va_S (Ab base) s.heap H locs → base ≤ hT h → cells + kc' ≤ R.cells → slots + ks ≤ R.slots →
      (∀ (H1 : Heap), HRn base D dA h1 H1 → Sb base h h1 → va_S (Ab base) s.heap H1 locs → W p l e R s m args below meth c H1 locs (cells + kc') (slots + ks) Q (F0 m pc' lsr st')) → W p l e R s m args below meth c H locs cells slots Q (F0 m pc lsr st)) : Gd M d pc ls st h rv h' := by
  have g1 := g.1
  have g2 := g.2.1
  refine ⟨by omega, by omega, fun t' hPg' => ?_⟩
  cases hPg.symm.trans hPg'
  intro p l e R s m args below meth c base D dA H locs cells slots mc ms lsr h0 cx hl hH ho hb hS h1' h2 h3 h4
  have hbs : base ≤ s.heap.size := cx.2.2.2.2.2.2.2.2.2.2.2.1
  have hsz : s.heap.size ≤ H.size := hS.1
  have hTH : hT h = H.size := hH.1
  exact hs p l e R s m args below meth c base D dA H locs cells slots _ lsr h0 cx hl hH ho hb hS (by omega) (by omega) (by omega) (fun H1 hH1 hb1 hS1 => g.2.2 t hPg p l e R s m args below meth c base D dA H1 locs (cells + kc') (slots + ks) mc ms lsr h0 cx hl hH1 ho (hb.tr hb1) hS1 (by omega) (by omega) h3 h4)
section
variable {M d i pc : Nat} {t : Mth} {K : Nat → MLoc → List Value → MH → MRes} {rec : MRec} {inf : List Nat} {ls : MLoc} {st : List Value} {h : MH} {rv : Option Value} {h' : MH}
theorem g_new (idx : Nat) (hPg : Pg M = some t) (hok : okE t i (.new idx, pc, inf) = true) (hK : KG M d i t K) (hrec : RG rec) (hr : stp K rec M d (.new idx) inf ls st h = some (rv, h')) : Gd M d pc ls st h rv h' := by
  have hdg : decode t.2.1 pc = .ok (.new idx, 3) := of_decide_eq_true (okE_dec hok)
  have hn : pcN t.code (i + 1) = pc + 3 := eq_of_beq (okE_nx hok)
  have hsp := okE_sp hok
  rcases inf with _ | ⟨tag, _ | ⟨n, _ | ⟨j1, _ | ⟨i1, _ | ⟨j2, _ | ⟨i2, _ | ⟨j3, _ | ⟨i3, _ | ⟨z, l⟩⟩⟩⟩⟩⟩⟩⟩⟩ <;> try (cases hsp; done)
  have hsp : okNew t.1.cls idx tag n j1 i1 j2 i2 j3 i3 = true := hsp
  have hr : K 0 ls (.ref (hT h) :: st) (nw h tag n) = some (rv, h') := hr
  unfold okNew at hsp
  cases hq : vwCl[tag - 1]? with
  | none => rw [hq] at hsp; cases hsp
  | some q =>
    obtain ⟨C, T, N⟩ := q
    rw [hq] at hsp
    simp only [Bool.and_eq_true, decide_eq_true_eq] at hsp
    obtain ⟨⟨⟨⟨⟨g1, g2⟩, g3⟩, g4⟩, g5⟩, g6⟩ := hsp
    subst g3
    refine Gd.alloc hPg (hK.nxt hn hr) (kc' := 1) (ks := N) rfl rfl fun p l e R s m args below meth c base D dA H locs cells slots Q lsr h0 cx hl hH ho hb hS hbT hc1 hc2 kk => ?_
    obtain ⟨hx, hcode, hr', hml, hown, hts, hKx, hlocks, hnm, hfr, hlo, hbs, hd⟩ := id cx
    have hKn := hKx.1.1 (tag - 1) _ hq
    have htag : tag - 1 + 1 = tag := by omega
    have hty : ∀ j, j < N → parseFieldDescriptor (T j).2.2.1 = some (tyOf tag j) := by
      have := ty_in (tag - 1) _ hq
      rw [htag] at this
      exact this
    have hkd : ∀ j, j < N → kdTy (tyOf tag j) ≤ 2 := by
      have := kd_in (tag - 1) _ hq
      rw [htag] at this
      exact this
    have hTH : H.size = hT h := hH.1.symm
    refine W.newcK hx hcode hown (hts _ (okW_in g4)) (hts _ (okW_in g5)) (hts _ (okW_in g6)) rfl hdg hc1 hc2 hKn.2.1 hTH fun H1 kC hkC e1 z1 o1 => ?_
    rw [← hTH] at z1 o1
    have ec : hC (nw h tag N) (hT h) = tag := by show up1 _ _ _ (hT h) = _; simp [up1]
    refine kk H1 (hH.made z1 o1 (Or.inl ⟨by rw [ec]; exact g1, (C, T, N), by rw [ec]; exact hq, ?_⟩)) (Sb.made hbT) (hS.grow (by omega) o1)
    rw [ec]
    exact (u_born (tyOf tag) hts (ws_in _ _ hq) hKn hkC e1 hty).to (fun k hk => (val_nw (hkd k hk)).symm)
theorem g_nwa {ty : FieldType} {atype : ArrayType} {tag k : Nat} {x : Int32} (hPg : Pg M = some t) (hty : newarray.typeOf atype = ty) (htag : tyOf tag = fun _ => ty) (h20 : 20 ≤ tag) (h26 : tag ≤ 26) (hkd : kdTy ty ≤ 2) (hcb : componentBytes ty ≤ 8) {j w : Nat} (hw : okW j w (.arrayClass ty) = true) (hix : ∀ dA, (tysA dA)[k]? = some (dA tag, ty)) (hra : ∀ U c, va_RA U c ty → U.vm.findClass ("[" ++ ty.toString) = some c)
    (hdg : decode t.2.1 pc = .ok (.newarray atype, 2)) (h1 : ¬ x < 0) (h2 : x.toNatClampNeg ≤ 4096) (g : Gd M d (pc + 2) ls (.ref (hT h) :: st) (nw h tag x.toNatClampNeg) rv h') : Gd M d pc ls (.int x :: st) h rv h' := by
  subst hty
  refine Gd.alloc hPg g (kc' := 1) (ks := x.toNatClampNeg) rfl rfl fun p l e R s m args below meth c base D dA H locs cells slots Q lsr h0 cx hl hH ho hb hS hbT hc1 hc2 kk => ?_
  obtain ⟨hx, hcode, hr', hml, hown, hts, hKx, hlocks, hnm, hfr, hlo, hbs, hd⟩ := id cx
  have hTH : H.size = hT h := hH.1.symm
  refine va_newaK hx hcode (hts _ (okW_in hw)) rfl hdg rfl h1 rfl (Nat.le_trans (Nat.mul_le_mul h2 hcb) (Nat.le_of_ble_eq_true rfl)) hc1 hc2 hTH fun H1 cA e1 z1 o1 hAr hNm => ?_
  rw [← hTH] at z1 o1
  have hcA : cA = dA tag := Option.some.inj (hNm.symm.trans (hra s _ (hKx.1.2 k _ (hix dA)).2))
  subst hcA
  have ec : hC (nw h tag x.toNatClampNeg) (hT h) = tag := by show up1 _ _ _ (hT h) = _; simp [up1]
  have en : hN (nw h tag x.toNatClampNeg) (hT h) = x.toNatClampNeg := by show up1 _ _ _ (hT h) = _; simp [up1]
  refine kk H1 (hH.made z1 o1 (Or.inr ⟨by rw [ec]; exact h20, by rw [ec]; exact h26, ?_⟩)) (Sb.made hbT) (hS.grow (by omega) o1)
  rw [ec, en, e1]
  congr 2
  funext j
  rw [val_nw (by rw [htag]; exact hkd), htag]
theorem g_newarray (at' : ArrayType) (hPg : Pg M = some t) (hok : okE t i (.newarray at', pc, inf) = true) (hK : KG M d i t K) (hrec : RG rec) (hr : stp K rec M d (.newarray at') inf ls st h = some (rv, h')) : Gd M d pc ls st h rv h' := by
  have hdg : decode t.2.1 pc = .ok (.newarray at', 2) := of_decide_eq_true (okE_dec hok)
  have hn : pcN t.code (i + 1) = pc + 2 := eq_of_beq (okE_nx hok)
  have hsp := okE_sp hok
  rcases inf with _ | ⟨tag, _ | ⟨j, _ | ⟨w, _ | ⟨z, l⟩⟩⟩⟩ <;> try (cases hsp; done)
  have hsp : okNa at' tag j w = true := hsp
  obtain ⟨x, s1, rfl, hr2⟩ := pI_inv (k := fun n st => okN n fun N => K 0 ls (.ref (hT h) :: st) (nw h tag N)) hr
  obtain ⟨h1, h2, hr3⟩ := okN_inv hr2
  cases at' <;> try (cases hsp; done)
  · have hsp : (decide (tag = 23) && okW j w (.arrayClass .boolean)) = true := hsp
    simp only [Bool.and_eq_true, decide_eq_true_eq] at hsp
    obtain ⟨ht, hw⟩ := hsp
    exact g_nwa (ty := .boolean) (atype := .boolean) (tag := tag) (k := 3) hPg rfl (by rw [ht]; rfl) (by omega) (by omega) (by decide) (by decide) hw (fun dA => by rw [ht]; rfl) (fun _ _ h => h) hdg h1 h2 (hK.nxt hn hr3)
  · have hsp : (decide (tag = 21) && okW j w (.arrayClass .byte)) = true := hsp
    simp only [Bool.and_eq_true, decide_eq_true_eq] at hsp
    obtain ⟨ht, hw⟩ := hsp
    exact g_nwa (ty := .byte) (atype := .byte) (tag := tag) (k := 1) hPg rfl (by rw [ht]; rfl) (by omega) (by omega) (by decide) (by decide) hw (fun dA => by rw [ht]; rfl) (fun _ _ h => h) hdg h1 h2 (hK.nxt hn hr3)
  · have hsp : (decide (tag = 20) && okW j w (.arrayClass .int)) = true := hsp
    simp only [Bool.and_eq_true, decide_eq_true_eq] at hsp
    obtain ⟨ht, hw⟩ := hsp
    exact g_nwa (ty := .int) (atype := .int) (tag := tag) (k := 0) hPg rfl (by rw [ht]; rfl) (by omega) (by omega) (by decide) (by decide) hw (fun dA => by rw [ht]; rfl) (fun _ _ h => h) hdg h1 h2 (hK.nxt hn hr3)
  · have hsp : (decide (tag = 22) && okW j w (.arrayClass .long)) = true := hsp
    simp only [Bool.and_eq_true, decide_eq_true_eq] at hsp
    obtain ⟨ht, hw⟩ := hsp
    exact g_nwa (ty := .long) (atype := .long) (tag := tag) (k := 2) hPg rfl (by rw [ht]; rfl) (by omega) (by omega) (by decide) (by decide) hw (fun dA => by rw [ht]; rfl) (fun _ _ h => h) hdg h1 h2 (hK.nxt hn hr3)
theorem g_nwq {C : String} {tag k idx j w : Nat} {x : Int32} (hPg : Pg M = some t) (htag : tyOf tag = fun _ => .object C) (h20 : 20 ≤ tag) (h26 : tag ≤ 26) (hw : okW j w (.classLink t.1.cls idx C) = true) (hao : ∀ D dA U, Kx D dA U → va_AO C U) (hix : ∀ dA, (tysA dA)[k]? = some (dA tag, .object C))
    (hdg : decode t.2.1 pc = .ok (.anewarray idx, 3)) (h1 : ¬ x < 0) (h2 : x.toNatClampNeg ≤ 4096) (g : Gd M d (pc + 3) ls (.ref (hT h) :: st) (nw h tag x.toNatClampNeg) rv h') : Gd M d pc ls (.int x :: st) h rv h' := by
  refine Gd.alloc hPg g (kc' := 1) (ks := x.toNatClampNeg) rfl rfl fun p l e R s m args below meth c base D dA H locs cells slots Q lsr h0 cx hl hH ho hb hS hbT hc1 hc2 kk => ?_
  obtain ⟨hx, hcode, hr', hml, hown, hts, hKx, hlocks, hnm, hfr, hlo, hbs, hd⟩ := id cx
  have hTH : H.size = hT h := hH.1.symm
  refine W.anew hx hcode hown (hts _ (okW_in hw)) (va_AO.use (hao _ _ _ hKx)) rfl hdg rfl h1 (Nat.le_trans (Nat.mul_le_mul h2 (Nat.le_refl 4)) (Nat.le_of_ble_eq_true rfl)) hc1 hc2 fun cA kA comp f1 f2 f3 f4 => ?_
  obtain ⟨kA', comp', k1, k2, k3, k4⟩ := (hKx.1.2 k _ (hix dA)).2
  have hcA : cA = dA tag := Option.some.inj (f1.symm.trans k4)
  subst hcA
  generalize hH1 : H.push ({ cls := dA tag, slots := Array.replicate x.toNatClampNeg .null, vm := .none } : Cell) = H1
  have z1 : H1.size = H.size + 1 := by rw [← hH1, Array.size_push]
  have e1 : H1[H.size]? = some (arrV (dA tag) x.toNatClampNeg (fun _ => .null)) := by rw [← hH1, Array.getElem?_push_size, ← arrV_new]
  have o1 : ∀ q : Nat, q < H.size → H1[q]? = H[q]? := fun q hq => by rw [← hH1, Array.getElem?_push, if_neg (Nat.ne_of_lt hq)]
  have ec : hC (nw h tag x.toNatClampNeg) (hT h) = tag := by show up1 _ _ _ (hT h) = _; simp [up1]
  have en : hN (nw h tag x.toNatClampNeg) (hT h) = x.toNatClampNeg := by show up1 _ _ _ (hT h) = _; simp [up1]
  rw [hTH]
  refine kk H1 (hH.made z1 o1 (Or.inr ⟨by rw [ec]; exact h20, by rw [ec]; exact h26, ?_⟩)) (Sb.made hbT) (hS.grow (by omega) o1)
  rw [ec, en, ← hTH, e1]
  congr 2
  funext j
  rw [hTH, val_nw (by rw [htag]; exact Nat.le_refl 2), htag]
  rfl
theorem g_anewarray (idx : Nat) (hPg : Pg M = some t) (hok : okE t i (.anewarray idx, pc, inf) = true) (hK : KG M d i t K) (hrec : RG rec) (hr : stp K rec M d (.anewarray idx) inf ls st h = some (rv, h')) : Gd M d pc ls st h rv h' := by
  have hdg : decode t.2.1 pc = .ok (.anewarray idx, 3) := of_decide_eq_true (okE_dec hok)
  have hn : pcN t.code (i + 1) = pc + 3 := eq_of_beq (okE_nx hok)
  have hsp := okE_sp hok
  rcases inf with _ | ⟨tag, _ | ⟨j, _ | ⟨w, _ | ⟨z, l⟩⟩⟩⟩ <;> try (cases hsp; done)
  have hsp : ((decide (tag = 24) && okW j w (.classLink t.1.cls idx "PairTree$Grid")) || (decide (tag = 25) && okW j w (.classLink t.1.cls idx "PairTree$Box"))) = true := hsp
  simp only [Bool.or_eq_true, Bool.and_eq_true, decide_eq_true_eq] at hsp
  obtain ⟨x, s1, rfl, hr2⟩ := pI_inv (k := fun n st => okN n fun N => K 0 ls (.ref (hT h) :: st) (nw h tag N)) hr
  obtain ⟨h1, h2, hr3⟩ := okN_inv hr2
  rcases hsp with ⟨ht, hw⟩ | ⟨ht, hw⟩
  · exact g_nwq (C := "PairTree$Grid") (tag := tag) (k := 4) hPg (by rw [ht]; rfl) (by omega) (by omega) hw (fun _ _ _ h => h.2.2.1) (fun dA => by rw [ht]; rfl) hdg h1 h2 (hK.nxt hn hr3)
  · exact g_nwq (C := "PairTree$Box") (tag := tag) (k := 5) hPg (by rw [ht]; rfl) (by omega) (by omega) hw (fun _ _ _ h => h.2.2.2.1) (fun dA => by rw [ht]; rfl) hdg h1 h2 (hK.nxt hn hr3)
end
