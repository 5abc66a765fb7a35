/-! What the tables say of the classes' fields; objects and arrays read and written. -/
theorem wl_0 : ((u_ws RX0 TX0 3).zip [(2, 90), (2, 92), (2, 94)]).all (fun q => okW q.2.1 q.2.2 q.1) = true := by decide +kernel
theorem wl_1 : ((u_ws RX1 TX1 3).zip [(1, 46), (1, 48), (1, 50)]).all (fun q => okW q.2.1 q.2.2 q.1) = true := by decide +kernel
theorem wl_2 : ((u_ws RX2 TX2 2).zip [(1, 74), (1, 76)]).all (fun q => okW q.2.1 q.2.2 q.1) = true := by decide +kernel
theorem wl_3 : ((u_ws RX3 TX3 7).zip [(2, 62), (2, 64), (2, 66), (2, 68), (2, 70), (2, 72), (2, 74)]).all (fun q => okW q.2.1 q.2.2 q.1) = true := by decide +kernel
theorem wl_4 : ((u_ws RX4 TX4 11).zip [(1, 118), (1, 120), (1, 122), (1, 124), (1, 126), (1, 128), (1, 130), (1, 132), (1, 134), (1, 136), (1, 138)]).all (fun q => okW q.2.1 q.2.2 q.1) = true := by decide +kernel
theorem wl_5 : ((u_ws RX5 TX5 6).zip [(2, 2), (2, 4), (2, 6), (2, 8), (2, 10), (2, 12)]).all (fun q => okW q.2.1 q.2.2 q.1) = true := by decide +kernel
theorem wl_6 : ((u_ws RX6 TX6 5).zip [(2, 34), (2, 36), (2, 38), (2, 40), (2, 42)]).all (fun q => okW q.2.1 q.2.2 q.1) = true := by decide +kernel
theorem wl_7 : ((u_ws RX7 TX7 9).zip [(1, 215), (1, 217), (1, 219), (1, 221), (1, 223), (1, 225), (1, 227), (1, 229), (1, 231)]).all (fun q => okW q.2.1 q.2.2 q.1) = true := by decide +kernel
theorem wl_8 : ((u_ws RX8 TX8 16).zip [(2, 123), (2, 125), (2, 127), (2, 129), (2, 131), (2, 133), (2, 135), (2, 137), (2, 139), (2, 141), (2, 143), (2, 145), (2, 147), (2, 149), (2, 151), (2, 153)]).all (fun q => okW q.2.1 q.2.2 q.1) = true := by decide +kernel
theorem wl_9 : ((u_ws RX9 TX9 2).zip [(2, 196), (2, 198)]).all (fun q => okW q.2.1 q.2.2 q.1) = true := by decide +kernel
theorem wl_10 : ((u_ws RX10 TX10 6).zip [(2, 171), (2, 173), (2, 175), (2, 177), (2, 179), (2, 181)]).all (fun q => okW q.2.1 q.2.2 q.1) = true := by decide +kernel
theorem wl_11 : ((u_ws RX11 TX11 15).zip [(3, 53), (3, 55), (3, 57), (3, 59), (3, 61), (3, 63), (3, 65), (3, 67), (3, 69), (3, 71), (3, 73), (3, 75), (3, 77), (3, 79), (3, 81)]).all (fun q => okW q.2.1 q.2.2 q.1) = true := by decide +kernel
theorem wl_12 : ((u_ws RX12 TX12 64).zip [(6, 194), (6, 196), (6, 198), (6, 200), (6, 202), (6, 204), (6, 206), (6, 208), (6, 210), (6, 212), (6, 214), (6, 216), (6, 218), (6, 220), (6, 222), (6, 224), (6, 226), (6, 228), (6, 230), (6, 232), (6, 234), (6, 236), (6, 238), (7, 0), (7, 2), (7, 4), (7, 6), (7, 8), (7, 10), (7, 12), (7, 14), (7, 16), (7, 18), (7, 20), (7, 22), (7, 24), (7, 26), (7, 28), (7, 30), (7, 32), (7, 34), (7, 36), (7, 38), (7, 40), (7, 42), (7, 44), (7, 46), (7, 48), (7, 50), (7, 52), (7, 54), (7, 56), (7, 58), (7, 60), (7, 62), (7, 64), (7, 66), (7, 68), (7, 70), (7, 72), (7, 74), (7, 76), (7, 78), (7, 80)]).all (fun q => okW q.2.1 q.2.2 q.1) = true := by decide +kernel
theorem zip_all {ws : List Cond} {ps : List (Nat × Nat)} (h : (ws.zip ps).all (fun q => okW q.2.1 q.2.2 q.1) = true) (hl : ws.length = ps.length) : ∀ w ∈ ws, w ∈ gtb := by
  intro w hw
  obtain ⟨i, hi⟩ := List.getElem?_of_mem hw
  have hlt := (List.getElem?_eq_some_iff.mp hi).1
  obtain ⟨q, hq⟩ : ∃ q, ps[i]? = some q := ⟨ps[i]'(by omega), List.getElem?_eq_getElem (by omega)⟩
  have hm : (w, q) ∈ ws.zip ps := by
    refine List.mem_of_getElem? (i := i) ?_
    rw [List.getElem?_zip_eq_some]
    exact ⟨hi, hq⟩
  exact okW_in (List.all_eq_true.mp h _ hm)
theorem ws_in : ∀ (k : Nat) (q : vw_C), vwCl[k]? = some q → ∀ w ∈ u_ws q.1 q.2.1 q.2.2, w ∈ gtb := by
  intro k q hq
  match k, hq with
  | 0, hq => cases hq; exact zip_all wl_0 (by simp [u_ws])
  | 1, hq => cases hq; exact zip_all wl_1 (by simp [u_ws])
  | 2, hq => cases hq; exact zip_all wl_2 (by simp [u_ws])
  | 3, hq => cases hq; exact zip_all wl_3 (by simp [u_ws])
  | 4, hq => cases hq; exact zip_all wl_4 (by simp [u_ws])
  | 5, hq => cases hq; exact zip_all wl_5 (by simp [u_ws])
  | 6, hq => cases hq; exact zip_all wl_6 (by simp [u_ws])
  | 7, hq => cases hq; exact zip_all wl_7 (by simp [u_ws])
  | 8, hq => cases hq; exact zip_all wl_8 (by simp [u_ws])
  | 9, hq => cases hq; exact zip_all wl_9 (by simp [u_ws])
  | 10, hq => cases hq; exact zip_all wl_10 (by simp [u_ws])
  | 11, hq => cases hq; exact zip_all wl_11 (by simp [u_ws])
  | 12, hq => cases hq; exact zip_all wl_12 (by simp [u_ws])
  | k + 13, hq => simp [vwCl] at hq
theorem ty_in : ∀ (k : Nat) (q : vw_C), vwCl[k]? = some q → ∀ j, j < q.2.2 → parseFieldDescriptor (q.2.1 j).2.2.1 = some (tyOf (k + 1) j) := by
  intro k q hq
  match k, hq with
  | 0, hq => cases hq; exact tyX0_ok
  | 1, hq => cases hq; exact tyX1_ok
  | 2, hq => cases hq; exact tyX2_ok
  | 3, hq => cases hq; exact tyX3_ok
  | 4, hq => cases hq; exact tyX4_ok
  | 5, hq => cases hq; exact tyX5_ok
  | 6, hq => cases hq; exact tyX6_ok
  | 7, hq => cases hq; exact tyX7_ok
  | 8, hq => cases hq; exact tyX8_ok
  | 9, hq => cases hq; exact tyX9_ok
  | 10, hq => cases hq; exact tyX10_ok
  | 11, hq => cases hq; exact tyX11_ok
  | 12, hq => cases hq; exact tyX12_ok
  | k + 13, hq => simp [vwCl] at hq
theorem nm_in : ∀ (k : Nat) (q : vw_C), vwCl[k]? = some q → ∀ a, a < q.2.2 → ∀ b, b < q.2.2 → a ≠ b → (q.2.1 a).2.1 ≠ (q.2.1 b).2.1 := by
  intro k q hq
  match k, hq with
  | 0, hq => cases hq; exact nmX0
  | 1, hq => cases hq; exact nmX1
  | 2, hq => cases hq; exact nmX2
  | 3, hq => cases hq; exact nmX3
  | 4, hq => cases hq; exact nmX4
  | 5, hq => cases hq; exact nmX5
  | 6, hq => cases hq; exact nmX6
  | 7, hq => cases hq; exact nmX7
  | 8, hq => cases hq; exact nmX8
  | 9, hq => cases hq; exact nmX9
  | 10, hq => cases hq; exact nmX10
  | 11, hq => cases hq; exact nmX11
  | 12, hq => cases hq; exact nmX12
  | k + 13, hq => simp [vwCl] at hq
theorem vwCl_lt {k : Nat} {q : vw_C} (h : vwCl[k]? = some q) : k < 13 := (List.getElem?_eq_some_iff.mp h).1
theorem ab_of {base : Nat} {s : State} {h0 h : MH} {a tag : Nat} (o : Old base s h0) (b : Sb base h0 h) (hc : hC h a = tag) (h1 : 1 ≤ tag) (h2 : tag ≤ 29) : base ≤ a := by
  rcases Nat.lt_or_ge a base with q | q
  · have e := (b a q).1
    rcases o.2.1 a q with r | r | r | r <;> omega
  · exact q
theorem HRn.obj {base : Nat} {D : va_G} {dA : Nat → ClassId} {h : MH} {H : Heap} {a tag : Nat} {q : vw_C} (hH : HRn base D dA h H) (ha : base ≤ a) (hc : hC h a = tag) (h1 : 1 ≤ tag) (hq : vwCl[tag - 1]? = some q) : t_OB a (D.1 (tag - 1)) q.2.2 (D.2 (tag - 1)) H (val h a tag) := by
  rcases hH.2 a ha (by omega) with ⟨-, q', h3, h4⟩ | ⟨h3, -, -⟩
  · rw [hc] at h3 h4
    cases hq.symm.trans h3
    exact h4
  · have := vwCl_lt hq
    omega
theorem HRn.arr {base : Nat} {D : va_G} {dA : Nat → ClassId} {h : MH} {H : Heap} {a tag : Nat} (hH : HRn base D dA h H) (ha : base ≤ a) (hc : hC h a = tag) (h1 : 20 ≤ tag) : H[a]? = some (arrV (dA tag) (hN h a) (val h a tag)) := by
  rcases hH.2 a ha (by omega) with ⟨-, q', h3, h4⟩ | ⟨-, -, h3⟩
  · rw [hc] at h3
    have := vwCl_lt h3
    omega
  · rw [hc] at h3
    exact h3
theorem mcell.kept {D : va_G} {dA : Nat → ClassId} {h h1 : MH} {a : Nat} {H H1 : Heap} (m : mcell D dA h a H) (e1 : hC h1 a = hC h a) (e2 : hN h1 a = hN h a) (e3 : ∀ t k, val h1 a t k = val h a t k) (e4 : H1[a]? = H[a]?) : mcell D dA h1 a H1 := by
  have e3' : ∀ t, val h1 a t = val h a t := fun t => funext (e3 t)
  rcases m with ⟨m1, q, m2, m3⟩ | ⟨m1, m2, m3⟩
  · left
    rw [e1, e3']
    exact ⟨m1, q, m2, m3.kept e4⟩
  · right
    rw [e1, e2, e3', e4]
    exact ⟨m1, m2, m3⟩
theorem HRn.upd {base : Nat} {D : va_G} {dA : Nat → ClassId} {h h1 : MH} {H H1 : Heap} {a : Nat} (hH : HRn base D dA h H) (e0 : hT h1 = hT h) (ez : H1.size = H.size) (eq : ∀ q, q ≠ a → H1[q]? = H[q]?) (e1 : hC h1 = hC h) (e2 : hN h1 = hN h) (e3 : ∀ q, q ≠ a → ∀ t k, val h1 q t k = val h q t k) (hm : mcell D dA h1 a H1) : HRn base D dA h1 H1 := by
  refine ⟨by rw [e0, ez]; exact hH.1, fun b hb hc => ?_⟩
  by_cases hba : b = a
  · rw [hba]; exact hm
  · exact (hH.2 b hb (by rw [← e1]; exact hc)).kept (by rw [e1]) (by rw [e2]) (e3 b hba) (eq b hba)
theorem val_sI_ne {h : MH} {a k : Nat} {x : Int32} {b : Nat} (hb : b ≠ a) (t j : Nat) : val (sI h a k x) b t j = val h b t j := by
  unfold val
  have : hI (sI h a k x) b = hI h b := by funext j; show up2 _ _ _ _ b j = _; simp [up2, hb]
  rw [this]; rfl
theorem val_sL_ne {h : MH} {a k : Nat} {x : Int64} {b : Nat} (hb : b ≠ a) (t j : Nat) : val (sL h a k x) b t j = val h b t j := by
  unfold val
  have : hL (sL h a k x) b = hL h b := by funext j; show up2 _ _ _ _ b j = _; simp [up2, hb]
  rw [this]; rfl
theorem val_sR_ne {h : MH} {a k : Nat} {x : Nat} {b : Nat} (hb : b ≠ a) (t j : Nat) : val (sR h a k x) b t j = val h b t j := by
  unfold val
  have : hR (sR h a k x) b = hR h b := by funext j; show up2 _ _ _ _ b j = _; simp [up2, hb]
  rw [this]; rfl
theorem val_sI {h : MH} {a k t : Nat} {x : Int32} (hk : kdTy (tyOf t k) = 0) (j : Nat) : val (sI h a k x) a t j = updV (val h a t) k (.int x) j := by
  unfold updV
  by_cases e : j = k
  · subst e
    rw [if_pos rfl]
    unfold val
    rw [hk]
    show Value.int (up2 _ _ _ _ a j) = _
    simp [up2]
  · rw [if_neg e]
    unfold val
    have : hI (sI h a k x) a j = hI h a j := by show up2 _ _ _ _ a j = _; simp [up2, e]
    rw [this]; rfl
theorem val_sL {h : MH} {a k t : Nat} {x : Int64} (hk : kdTy (tyOf t k) = 1) (j : Nat) : val (sL h a k x) a t j = updV (val h a t) k (.long x) j := by
  unfold updV
  by_cases e : j = k
  · subst e
    rw [if_pos rfl]
    unfold val
    rw [hk]
    show Value.long (up2 _ _ _ _ a j) = _
    simp [up2]
  · rw [if_neg e]
    unfold val
    have : hL (sL h a k x) a j = hL h a j := by show up2 _ _ _ _ a j = _; simp [up2, e]
    rw [this]; rfl
theorem val_sR {h : MH} {a k t : Nat} {x : Nat} (hk : kdTy (tyOf t k) = 2) (j : Nat) : val (sR h a k x) a t j = updV (val h a t) k (.ref x) j := by
  unfold updV
  by_cases e : j = k
  · subst e
    rw [if_pos rfl]
    unfold val
    rw [hk]
    show va_rf (up2 _ _ _ _ a j) = _
    simp [up2, va_rf]
  · rw [if_neg e]
    unfold val
    have : hR (sR h a k x) a j = hR h a j := by show up2 _ _ _ _ a j = _; simp [up2, e]
    rw [this]; rfl
theorem Sb.sI {base : Nat} {h : MH} {a k : Nat} {x : Int32} (ha : base ≤ a) : Sb base h (sI h a k x) := fun b hb => ⟨rfl, rfl, by funext j; show up2 _ _ _ _ b j = _; simp [up2, show b ≠ a by omega], rfl, rfl⟩
theorem Sb.sL {base : Nat} {h : MH} {a k : Nat} {x : Int64} (ha : base ≤ a) : Sb base h (sL h a k x) := fun b hb => ⟨rfl, rfl, rfl, by funext j; show up2 _ _ _ _ b j = _; simp [up2, show b ≠ a by omega], rfl⟩
theorem Sb.sR {base : Nat} {h : MH} {a k : Nat} {x : Nat} (ha : base ≤ a) : Sb base h (sR h a k x) := fun b hb => ⟨rfl, rfl, rfl, rfl, by funext j; show up2 _ _ _ _ b j = _; simp [up2, show b ≠ a by omega]⟩
/-- one that writes one place of a cell -/
theorem Gd.store {M d pc pc' : Nat} {ls : MLoc} {st st' : List Value} {h h1 : MH} {rv : Option Value} {h' : MH} {t : Mth} (hPg : Pg M = some t) (g : Gd M d pc' ls st' h1 rv h') (eT : hT h1 = hT h) (eS : hS h1 = hS h)
    (hs : ∀ (p : Program) (l : Launch) (e : Env) (R : Room) (s : State) (m : MethodId) (args : Array Value) (below : List Frame) (meth : Method) (c : Code) (base : Nat) (D : va_G) (dA : Nat → ClassId) (H : Heap) (locs : List Loc) (cells slots : Nat) (Q : State → Prop) (lsr : Array Slot) (h0 : MH), Cx t d p R s m args meth c base D dA → LR t.2.2.1 ls lsr → HRn base D dA h H → Old base s h0 → Sb base h0 h → va_S (Ab base) s.heap H locs →
      (∀ (H1 : Heap) (locs1 : List Loc), HRn base D dA h1 H1 → Sb base h h1 → va_S (Ab base) s.heap H1 locs1 → W p l e R s m args below meth c H1 locs1 cells slots Q (F0 m pc' lsr st')) → W p l e R s m args below meth c H locs cells slots Q (F0 m pc lsr st)) : Gd M d pc ls st h rv h' := by
  refine ⟨by rw [← eT]; exact g.1, by rw [← eS]; exact g.2.1, fun t' hPg' => ?_⟩
  cases hPg.symm.trans hPg'
  intro p l e R s m args below meth c base D dA H locs cells slots mc ms lsr h0 cx hl hH ho hb hS h1' h2 h3 h4
  exact hs p l e R s m args below meth c base D dA H locs cells slots _ lsr h0 cx hl hH ho hb hS (fun H1 locs1 hH1 hb1 hS1 => g.2.2 t hPg p l e R s m args below meth c base D dA H1 locs1 cells slots mc ms lsr h0 cx hl hH1 ho (hb.tr hb1) hS1 (by rw [eT]; exact h1') (by rw [eS]; exact h2) h3 h4)
/-- one that reads the heap -/
theorem Gd.read {M d pc pc' : Nat} {ls : MLoc} {st st' : List Value} {h : MH} {rv : Option Value} {h' : MH} {t : Mth} (hPg : Pg M = some t) (g : Gd M d pc' ls st' h rv h')
    (hs : ∀ (p : Program) (l : Launch) (e : Env) (R : Room) (s : State) (m : MethodId) (args : Array Value) (below : List Frame) (meth : Method) (c : Code) (base : Nat) (D : va_G) (dA : Nat → ClassId) (H : Heap) (locs : List Loc) (cells slots : Nat) (Q : State → Prop) (lsr : Array Slot) (h0 : MH), Cx t d p R s m args meth c base D dA → LR t.2.2.1 ls lsr → HRn base D dA h H → Old base s h0 → Sb base h0 h → va_S (Ab base) s.heap H locs →
      W p l e R s m args below meth c H locs cells slots Q (F0 m pc' lsr st') → W p l e R s m args below meth c H locs cells slots Q (F0 m pc lsr st)) : Gd M d pc ls st h rv h' := by
  refine ⟨g.1, g.2.1, fun t' hPg' => ?_⟩
  cases hPg.symm.trans hPg'
  intro p l e R s m args below meth c base D dA H locs cells slots mc ms lsr h0 cx hl hH ho hb hS h1' h2 h3 h4
  exact hs p l e R s m args below meth c base D dA H locs cells slots _ lsr h0 cx hl hH ho hb hS (g.2.2 t hPg p l e R s m args below meth c base D dA H locs cells slots mc ms lsr h0 cx hl hH ho hb hS h1' h2 h3 h4)
section
variable {M d i pc : Nat} {t : Mth} {ls : MLoc} {st : List Value} {h : MH} {rv : Option Value} {h' : MH}
theorem g_get {idx tag k kd j w a : Nat} (hPg : Pg M = some t) (hfl : okFl t.1.cls idx tag k kd j w = true) (hdg : decode t.2.1 pc = .ok (.getfield idx, 3)) (hc : hC h a = tag) (g : Gd M d (pc + 3) ls (val h a tag k :: st) h rv h') : Gd M d pc ls (.ref a :: st) h rv h' := by
  unfold okFl at hfl
  cases hq : vwCl[tag - 1]? with
  | none => rw [hq] at hfl; cases hfl
  | some q =>
    obtain ⟨C, T, N⟩ := q
    rw [hq] at hfl
    simp only [Bool.and_eq_true, decide_eq_true_eq] at hfl
    obtain ⟨⟨⟨⟨h1, h2⟩, h3⟩, h4⟩, h5⟩ := hfl
    refine Gd.read hPg g fun p l e R s m args below meth c base D dA H locs cells slots Q lsr h0 cx hl hH ho hb hS kk => ?_
    obtain ⟨hx, hcode, hr, hml, hown, hts, hK, hlocks, hnm, hfr, hlo, hbs, hd⟩ := id cx
    have ha := ab_of ho hb hc h1 (by omega)
    obtain ⟨cell, q1, q2, q3, q4⟩ := hH.obj ha hc h1 hq
    obtain ⟨hS', hfc, kC, hkC, hkind⟩ := hK.1.1 (tag - 1) _ hq
    obtain ⟨cf, kf, fi, f, hi, hsl⟩ := hS' k h3
    refine W.getf hx hcode hown (hts _ (okW_in h5)) hi (u_facts hfc hkC (u_lays hts (ws_in _ _ hq) h3) hi).1 q1 (by rw [q3]; exact fun z => by cases z) (v := val h a tag k) ?_ rfl rfl hdg kk
    rw [hsl, q4 k h3]
theorem g_put {idx tag k kd j w a : Nat} {v : Value} {h1 : MH} (hPg : Pg M = some t) (hfl : okPf t.1.cls t.1.name idx tag k kd j w = true) (hdg : decode t.2.1 pc = .ok (.putfield idx, 3)) (hc : hC h a = tag)
    (eT : hT h1 = hT h) (eS : hS h1 = hS h) (eC : hC h1 = hC h) (eN : hN h1 = hN h) (ev1 : ∀ q, q ≠ a → ∀ t k, val h1 q t k = val h q t k) (ev2 : ∀ j, val h1 a tag j = updV (val h a tag) k v j) (eB : ∀ base, base ≤ a → Sb base h h1)
    (hn : narrow (tyOf tag k) v = v) (hfit : fits (tyOf tag k) v = true) (g : Gd M d (pc + 3) ls st h1 rv h') : Gd M d pc ls (v :: .ref a :: st) h rv h' := by
  unfold okPf at hfl
  cases hq : vwCl[tag - 1]? with
  | none => rw [hq] at hfl; cases hfl
  | some q =>
    obtain ⟨C, T, N⟩ := q
    rw [hq] at hfl
    simp only [Bool.and_eq_true, decide_eq_true_eq] at hfl
    obtain ⟨⟨⟨⟨⟨g1, g2⟩, g3⟩, g5⟩, -⟩, g6⟩ := hfl
    refine Gd.store hPg g eT eS fun p l e R s m args below meth c base D dA H locs cells slots Q lsr h0 cx hl hH ho hb hS kk => ?_
    obtain ⟨hx, hcode, hr, hml, hown, hts, hK, hlocks, hnm, hfr, hlo, hbs, hd⟩ := id cx
    have ha := ab_of ho hb hc g1 (by omega)
    obtain ⟨cell, q1, q2, q3, q4⟩ := hH.obj ha hc g1 hq
    obtain ⟨hS', hfc, kC, hkC, hkind⟩ := hK.1.1 (tag - 1) _ hq
    obtain ⟨cf, kf, fi, f, hi, hsl⟩ := hS' k g3
    have htag : tag - 1 + 1 = tag := by omega
    have hty : ∀ j, j < N → parseFieldDescriptor (T j).2.2.1 = some (tyOf tag j) := by
      have := ty_in (tag - 1) _ hq
      rw [htag] at this
      exact this
    have hap := va_apart (own := t.1.cls) hts (ws_in _ _ hq) (tyOf tag) hty (nm_in _ _ hq) hK.1 hq
    have hlay := hts _ (ws_in _ _ hq _ (u_in_lay g3))
    have hst := (u_facts hfc hkC (u_lays hts (ws_in _ _ hq) g3) hi).1
    have fin : ∀ H1 : Heap, H1[a]? = some (cell.setSlot f.slot v) → H1.size = H.size → (∀ q, q ≠ a → H1[q]? = H[q]?) → HRn base D dA h1 H1 := by
      intro H1 e1 e2 e3
      rw [hsl] at e1
      refine hH.upd eT e2 e3 eC eN ev1 (Or.inl ⟨by rw [eC, hc]; exact g1, (C, T, N), by rw [eC, hc]; exact hq, ?_⟩)
      rw [eC, hc]
      exact t_OB.to (V := updV (val h a tag) k v) ⟨_, e1, q2, q3, t_set q4 hap g3 v⟩ (fun j _ => (ev2 j).symm)
    cases hf : (T k).2.2.2 with
    | false =>
      unfold u_lay at hlay
      rw [if_neg (by show ¬ (T k).2.2.2 = true; rw [hf]; decide)] at hlay
      have h6 := u_store hfc hkC hkind hlay hi (hty k g3) hn hfit
      refine W.putK hx hcode (f := f) ⟨hown, hts _ (okW_in g5), ⟨_, _, _, hi⟩, hst⟩ (by rw [q2]; exact h6) q1 q3 (by rw [hsl]; exact k2_hasslot (q4 k g3)) rfl rfl hdg fun H1 e1 e2 e3 => ?_
      exact kk H1 _ (fin H1 e1 e2 e3) (eB base ha) (hS.put e2 e3 ha)
    | true =>
      rw [hf] at g6
      simp only [Bool.or_eq_true, Bool.and_eq_true, decide_eq_true_eq] at g6
      rcases g6 with g6 | ⟨g6, g7⟩
      · cases g6
      · unfold u_lay at hlay
        rw [if_pos (show (T k).2.2.2 = true from hf)] at hlay
        have hcf : m.cls = cf := by
          obtain ⟨_, _, c', _, _, _, -, -, hf', -, -, -, hown2, -⟩ := Cond.laysFinal_spec hlay
          have e1 : c' = cf := by have := hi.symm.trans hf'; simp at this; exact this.1.symm
          have g7' : ((C, T, N) : vw_C).2.1 k = T k := rfl
          rw [g7', g7] at hown2
          rw [← e1]; exact Option.some.inj (hown.symm.trans hown2)
        have h6 := u_fits hfc hkC hkind (Or.inr hlay) hi (hty k g3) hn hfit
        refine W.putFinK hx hcode hown (hts _ (okW_in g5)) hi hst hcf (hnm g6) (by rw [q2]; exact h6) q1 q3 (by rw [hsl]; exact k2_hasslot (q4 k g3)) rfl rfl hdg fun H1 e1 e2 e3 => ?_
        exact kk H1 _ (fin H1 e1 e2 e3) (eB base ha) (hS.put e2 e3 ha)
end
