/-! Arrays. -/
theorem arr_ix {s : State} {D : va_G} {dA : Nat → ClassId} (hK : Kx D dA s) (k : Nat) {q : ClassId × FieldType} (hq : (tysA dA)[k]? = some q) : ArrOfT s q.1 q.2 := (hK.1.2 k q hq).1
theorem HRn.st {base : Nat} {D : va_G} {dA : Nat → ClassId} {h h1 : MH} {H H1 : Heap} {a tag n : Nat} {v : Value} (hH : HRn base D dA h H) (hc : hC h a = tag) (h20 : 20 ≤ tag) (h26 : tag ≤ 26) (eT : hT h1 = hT h) (eC : hC h1 = hC h) (eN : hN h1 = hN h) (ev1 : ∀ q, q ≠ a → ∀ t k, val h1 q t k = val h q t k) (ev2 : ∀ j, val h1 a tag j = updV (val h a tag) n v j)
    (e1 : H1[a]? = some ((arrV (dA tag) (hN h a) (val h a tag)).setSlot n v)) (e2 : H1.size = H.size) (e3 : ∀ q, q ≠ a → H1[q]? = H[q]?) : HRn base D dA h1 H1 := by
  refine hH.upd eT e2 e3 eC eN ev1 (Or.inr ⟨by rw [eC, hc]; exact h20, by rw [eC, hc]; exact h26, ?_⟩)
  rw [eC, hc, eN, e1, arrV_store, show val h1 a tag = updV (val h a tag) n v from funext ev2]
theorem old_of {base : Nat} {D : va_G} {dA : Nat → ClassId} {h : MH} {H : Heap} {a tag : Nat} (hH : HRn base D dA h H) (hc : hC h a = tag) (h1 : 30 ≤ tag) : a < base := by
  rcases Nat.lt_or_ge a base with q | q
  · exact q
  · rcases hH.2 a q (by omega) with ⟨-, q', h3, -⟩ | ⟨-, h3, -⟩
    · rw [hc] at h3
      have := vwCl_lt h3
      omega
    · omega
section
variable {M d i pc : Nat} {t : Mth} {K : Nat → MLoc → List Value → MH → MRes} {rec : MRec} {inf : List Nat} {ls : MLoc} {st : List Value} {h : MH} {rv : Option Value} {h' : MH}
theorem g_iaload_20 {a : Nat} {x : Int32} (hPg : Pg M = some t) (hdg : decode t.2.1 pc = .ok (.iaload, 1)) (hc : hC h a = 20) (hin : ¬ (x < 0 ∨ hN h a ≤ x.toNatClampNeg)) (g : Gd M d (pc + 1) ls (val h a 20 x.toNatClampNeg :: st) h rv h') : Gd M d pc ls (.int x :: .ref a :: st) h rv h' := by
  refine Gd.read hPg g fun p l e R s m args below meth c base D dA H locs cells slots Q lsr h0 cx hl hH ho hb hS kk => ?_
  obtain ⟨hx, hcode, hr', hml, hown, hts, hKx, hlocks, hnm, hfr, hlo, hbs, hd⟩ := id cx
  have ha := ab_of ho hb hc (by omega) (by omega)
  have hlt : x.toNatClampNeg < hN h a := Nat.not_le.mp fun q => hin (Or.inr q)
  exact W.iald hx hcode (hH.arr ha hc (by omega)) (arr_ix hKx 0 rfl _ _) (fun q => by cases q) (by rw [arrV_size]; exact hin) (arrV_read _ _ hlt) rfl rfl hdg kk
theorem g_baload_21 {a : Nat} {x : Int32} (hPg : Pg M = some t) (hdg : decode t.2.1 pc = .ok (.baload, 1)) (hc : hC h a = 21) (hin : ¬ (x < 0 ∨ hN h a ≤ x.toNatClampNeg)) (g : Gd M d (pc + 1) ls (val h a 21 x.toNatClampNeg :: st) h rv h') : Gd M d pc ls (.int x :: .ref a :: st) h rv h' := by
  refine Gd.read hPg g fun p l e R s m args below meth c base D dA H locs cells slots Q lsr h0 cx hl hH ho hb hS kk => ?_
  obtain ⟨hx, hcode, hr', hml, hown, hts, hKx, hlocks, hnm, hfr, hlo, hbs, hd⟩ := id cx
  have ha := ab_of ho hb hc (by omega) (by omega)
  have hlt : x.toNatClampNeg < hN h a := Nat.not_le.mp fun q => hin (Or.inr q)
  exact W.bald hx hcode (hH.arr ha hc (by omega)) (arr_ix hKx 1 rfl _ _) (fun q => by cases q) (by rw [arrV_size]; exact hin) (arrV_read _ _ hlt) rfl rfl hdg kk
theorem g_laload_22 {a : Nat} {x : Int32} (hPg : Pg M = some t) (hdg : decode t.2.1 pc = .ok (.laload, 1)) (hc : hC h a = 22) (hin : ¬ (x < 0 ∨ hN h a ≤ x.toNatClampNeg)) (g : Gd M d (pc + 1) ls (val h a 22 x.toNatClampNeg :: st) h rv h') : Gd M d pc ls (.int x :: .ref a :: st) h rv h' := by
  refine Gd.read hPg g fun p l e R s m args below meth c base D dA H locs cells slots Q lsr h0 cx hl hH ho hb hS kk => ?_
  obtain ⟨hx, hcode, hr', hml, hown, hts, hKx, hlocks, hnm, hfr, hlo, hbs, hd⟩ := id cx
  have ha := ab_of ho hb hc (by omega) (by omega)
  have hlt : x.toNatClampNeg < hN h a := Nat.not_le.mp fun q => hin (Or.inr q)
  exact W.lald hx hcode (hH.arr ha hc (by omega)) (arr_ix hKx 2 rfl _ _) (fun q => by cases q) (by rw [arrV_size]; exact hin) (arrV_read _ _ hlt) rfl rfl hdg kk
theorem g_baload_23 {a : Nat} {x : Int32} (hPg : Pg M = some t) (hdg : decode t.2.1 pc = .ok (.baload, 1)) (hc : hC h a = 23) (hin : ¬ (x < 0 ∨ hN h a ≤ x.toNatClampNeg)) (g : Gd M d (pc + 1) ls (val h a 23 x.toNatClampNeg :: st) h rv h') : Gd M d pc ls (.int x :: .ref a :: st) h rv h' := by
  refine Gd.read hPg g fun p l e R s m args below meth c base D dA H locs cells slots Q lsr h0 cx hl hH ho hb hS kk => ?_
  obtain ⟨hx, hcode, hr', hml, hown, hts, hKx, hlocks, hnm, hfr, hlo, hbs, hd⟩ := id cx
  have ha := ab_of ho hb hc (by omega) (by omega)
  have hlt : x.toNatClampNeg < hN h a := Nat.not_le.mp fun q => hin (Or.inr q)
  exact W.zald hx hcode (hH.arr ha hc (by omega)) (arr_ix hKx 3 rfl _ _) (fun q => by cases q) (by rw [arrV_size]; exact hin) (arrV_read _ _ hlt) rfl rfl hdg kk
theorem g_aaload_24 {a : Nat} {x : Int32} (hPg : Pg M = some t) (hdg : decode t.2.1 pc = .ok (.aaload, 1)) (hc : hC h a = 24) (hin : ¬ (x < 0 ∨ hN h a ≤ x.toNatClampNeg)) (g : Gd M d (pc + 1) ls (val h a 24 x.toNatClampNeg :: st) h rv h') : Gd M d pc ls (.int x :: .ref a :: st) h rv h' := by
  refine Gd.read hPg g fun p l e R s m args below meth c base D dA H locs cells slots Q lsr h0 cx hl hH ho hb hS kk => ?_
  obtain ⟨hx, hcode, hr', hml, hown, hts, hKx, hlocks, hnm, hfr, hlo, hbs, hd⟩ := id cx
  have ha := ab_of ho hb hc (by omega) (by omega)
  have hlt : x.toNatClampNeg < hN h a := Nat.not_le.mp fun q => hin (Or.inr q)
  exact W.aald hx hcode (hH.arr ha hc (by omega)) (arr_ix hKx 4 rfl _ _) rfl (fun q => by cases q) (by rw [arrV_size]; exact hin) (arrV_read _ _ hlt) rfl rfl hdg kk
theorem g_aaload_25 {a : Nat} {x : Int32} (hPg : Pg M = some t) (hdg : decode t.2.1 pc = .ok (.aaload, 1)) (hc : hC h a = 25) (hin : ¬ (x < 0 ∨ hN h a ≤ x.toNatClampNeg)) (g : Gd M d (pc + 1) ls (val h a 25 x.toNatClampNeg :: st) h rv h') : Gd M d pc ls (.int x :: .ref a :: st) h rv h' := by
  refine Gd.read hPg g fun p l e R s m args below meth c base D dA H locs cells slots Q lsr h0 cx hl hH ho hb hS kk => ?_
  obtain ⟨hx, hcode, hr', hml, hown, hts, hKx, hlocks, hnm, hfr, hlo, hbs, hd⟩ := id cx
  have ha := ab_of ho hb hc (by omega) (by omega)
  have hlt : x.toNatClampNeg < hN h a := Nat.not_le.mp fun q => hin (Or.inr q)
  exact W.aald hx hcode (hH.arr ha hc (by omega)) (arr_ix hKx 5 rfl _ _) rfl (fun q => by cases q) (by rw [arrV_size]; exact hin) (arrV_read _ _ hlt) rfl rfl hdg kk
theorem g_aaload_26 {a : Nat} {x : Int32} (hPg : Pg M = some t) (hdg : decode t.2.1 pc = .ok (.aaload, 1)) (hc : hC h a = 26) (hin : ¬ (x < 0 ∨ hN h a ≤ x.toNatClampNeg)) (g : Gd M d (pc + 1) ls (val h a 26 x.toNatClampNeg :: st) h rv h') : Gd M d pc ls (.int x :: .ref a :: st) h rv h' := by
  refine Gd.read hPg g fun p l e R s m args below meth c base D dA H locs cells slots Q lsr h0 cx hl hH ho hb hS kk => ?_
  obtain ⟨hx, hcode, hr', hml, hown, hts, hKx, hlocks, hnm, hfr, hlo, hbs, hd⟩ := id cx
  have ha := ab_of ho hb hc (by omega) (by omega)
  have hlt : x.toNatClampNeg < hN h a := Nat.not_le.mp fun q => hin (Or.inr q)
  exact W.aald hx hcode (hH.arr ha hc (by omega)) (arr_ix hKx 6 rfl _ _) rfl (fun q => by cases q) (by rw [arrV_size]; exact hin) (arrV_read _ _ hlt) rfl rfl hdg kk
theorem g_iaload_99 {a : Nat} {x : Int32} (hPg : Pg M = some t) (hdg : decode t.2.1 pc = .ok (.iaload, 1)) (hc : hC h a = 99) (hin : ¬ (x < 0 ∨ hN h a ≤ x.toNatClampNeg)) (g : Gd M d (pc + 1) ls (.int (hI h a x.toNatClampNeg) :: st) h rv h') : Gd M d pc ls (.int x :: .ref a :: st) h rv h' := by
  refine Gd.read hPg g fun p l e R s m args below meth c base D dA H locs cells slots Q lsr h0 cx hl hH ho hb hS kk => ?_
  obtain ⟨hx, hcode, hr', hml, hown, hts, hKx, hlocks, hnm, hfr, hlo, hbs, hd⟩ := id cx
  have ha := old_of hH hc (by omega)
  have hX := (ho.sb hb).2.2.1 a ha hc
  exact va_sld hx hcode hX (by omega) (Nat.not_le.mpr ha) hS hin hdg kk
theorem g_baload_31 {a : Nat} {x : Int32} (hPg : Pg M = some t) (hdg : decode t.2.1 pc = .ok (.baload, 1)) (hc : 30 ≤ hC h a) (hc7 : hR h a 77 = some 1) (hin : ¬ (x < 0 ∨ hN h a ≤ x.toNatClampNeg)) (g : Gd M d (pc + 1) ls (.int (hI h a (100 + x.toNatClampNeg)) :: st) h rv h') : Gd M d pc ls (.int x :: .ref a :: st) h rv h' := by
  refine Gd.read hPg g fun p l e R s m args below meth c base D dA H locs cells slots Q lsr h0 cx hl hH ho hb hS kk => ?_
  obtain ⟨hx, hcode, hr', hml, hown, hts, hKx, hlocks, hnm, hfr, hlo, hbs, hd⟩ := id cx
  have ha := old_of hH rfl hc
  obtain ⟨cell, q1, q2, q3, q4, q5, q6, q7⟩ := (ho.sb hb).2.2.2.2.1 a ha hc7
  have hlt : x.toNatClampNeg < hN h a := Nat.not_le.mp fun q => hin (Or.inr q)
  exact W.bald hx hcode (by rw [hS.2.1 a (by omega) (Nat.not_le.mpr ha)]; exact q1) q2 q3 (fun q => hin (q.imp id (fun z => by omega))) (q6 _ hlt) rfl rfl hdg kk
theorem g_len_20 {a : Nat} (hPg : Pg M = some t) (hdg : decode t.2.1 pc = .ok (.arraylength, 1)) (hc : hC h a = 20) (g : Gd M d (pc + 1) ls (.int (nI (hN h a)) :: st) h rv h') : Gd M d pc ls (.ref a :: st) h rv h' := by
  refine Gd.read hPg g fun p l e R s m args below meth c base D dA H locs cells slots Q lsr h0 cx hl hH ho hb hS kk => ?_
  obtain ⟨hx, hcode, hr', hml, hown, hts, hKx, hlocks, hnm, hfr, hlo, hbs, hd⟩ := id cx
  have ha := ab_of ho hb hc (by omega) (by omega)
  exact W.alen (n := nI (hN h a)) hx hcode (hH.arr ha hc (by omega)) (arr_ix hKx 0 rfl _ _) (by rw [arrV_size]; rfl) rfl rfl hdg kk
theorem g_len_21 {a : Nat} (hPg : Pg M = some t) (hdg : decode t.2.1 pc = .ok (.arraylength, 1)) (hc : hC h a = 21) (g : Gd M d (pc + 1) ls (.int (nI (hN h a)) :: st) h rv h') : Gd M d pc ls (.ref a :: st) h rv h' := by
  refine Gd.read hPg g fun p l e R s m args below meth c base D dA H locs cells slots Q lsr h0 cx hl hH ho hb hS kk => ?_
  obtain ⟨hx, hcode, hr', hml, hown, hts, hKx, hlocks, hnm, hfr, hlo, hbs, hd⟩ := id cx
  have ha := ab_of ho hb hc (by omega) (by omega)
  exact W.alen (n := nI (hN h a)) hx hcode (hH.arr ha hc (by omega)) (arr_ix hKx 1 rfl _ _) (by rw [arrV_size]; rfl) rfl rfl hdg kk
theorem g_len_99 {a : Nat} (hPg : Pg M = some t) (hdg : decode t.2.1 pc = .ok (.arraylength, 1)) (hc : hC h a = 99) (g : Gd M d (pc + 1) ls (.int (nI (hN h a)) :: st) h rv h') : Gd M d pc ls (.ref a :: st) h rv h' := by
  refine Gd.read hPg g fun p l e R s m args below meth c base D dA H locs cells slots Q lsr h0 cx hl hH ho hb hS kk => ?_
  obtain ⟨hx, hcode, hr', hml, hown, hts, hKx, hlocks, hnm, hfr, hlo, hbs, hd⟩ := id cx
  have ha := old_of hH hc (by omega)
  have hX := (ho.sb hb).2.2.1 a ha hc
  exact va_slen hx hcode hX (by omega) (Nat.not_le.mpr ha) hS hdg kk
theorem g_len_31 {a : Nat} (hPg : Pg M = some t) (hdg : decode t.2.1 pc = .ok (.arraylength, 1)) (hc : 30 ≤ hC h a) (hc7 : hR h a 77 = some 1) (g : Gd M d (pc + 1) ls (.int (nI (hN h a)) :: st) h rv h') : Gd M d pc ls (.ref a :: st) h rv h' := by
  refine Gd.read hPg g fun p l e R s m args below meth c base D dA H locs cells slots Q lsr h0 cx hl hH ho hb hS kk => ?_
  obtain ⟨hx, hcode, hr', hml, hown, hts, hKx, hlocks, hnm, hfr, hlo, hbs, hd⟩ := id cx
  have ha := old_of hH rfl hc
  obtain ⟨cell, q1, q2, q3, q4, q5, q6, q7⟩ := (ho.sb hb).2.2.2.2.1 a ha hc7
  exact W.alen (n := nI (hN h a)) hx hcode (by rw [hS.2.1 a (by omega) (Nat.not_le.mpr ha)]; exact q1) q2 q5 rfl rfl hdg kk
theorem g_iastore_20 {a : Nat} {x : Int32} {y : Int32} (hPg : Pg M = some t) (hdg : decode t.2.1 pc = .ok (.iastore, 1)) (hc : hC h a = 20) (hin : ¬ (x < 0 ∨ hN h a ≤ x.toNatClampNeg)) (g : Gd M d (pc + 1) ls st (sI h a x.toNatClampNeg y) rv h') : Gd M d pc ls (.int y :: .int x :: .ref a :: st) h rv h' := by
  refine Gd.store hPg g rfl rfl fun p l e R s m args below meth c base D dA H locs cells slots Q lsr h0 cx hl hH ho hb hS kk => ?_
  obtain ⟨hx, hcode, hr', hml, hown, hts, hKx, hlocks, hnm, hfr, hlo, hbs, hd⟩ := id cx
  have ha := ab_of ho hb hc (by omega) (by omega)
  refine W.iast hx hcode (hH.arr ha hc (by omega)) (arr_ix hKx 0 rfl _ _) (fun q => by cases q) (by rw [arrV_size]; exact hin) rfl rfl hdg fun H1 e1 e2 e3 => ?_
  exact kk H1 _ (hH.st hc (by omega) (by omega) rfl rfl rfl (fun q hq t k => val_sI_ne hq t k) (fun j => val_sI rfl j) e1 e2 e3) (Sb.sI ha) (hS.put e2 e3 ha)
theorem g_bastore_21 {a : Nat} {x : Int32} {y : Int32} (hPg : Pg M = some t) (hdg : decode t.2.1 pc = .ok (.bastore, 1)) (hc : hC h a = 21) (hin : ¬ (x < 0 ∨ hN h a ≤ x.toNatClampNeg)) (g : Gd M d (pc + 1) ls st (sI h a x.toNatClampNeg y.toInt8.toInt32) rv h') : Gd M d pc ls (.int y :: .int x :: .ref a :: st) h rv h' := by
  refine Gd.store hPg g rfl rfl fun p l e R s m args below meth c base D dA H locs cells slots Q lsr h0 cx hl hH ho hb hS kk => ?_
  obtain ⟨hx, hcode, hr', hml, hown, hts, hKx, hlocks, hnm, hfr, hlo, hbs, hd⟩ := id cx
  have ha := ab_of ho hb hc (by omega) (by omega)
  refine W.bast hx hcode (hH.arr ha hc (by omega)) (arr_ix hKx 1 rfl _ _) (fun q => by cases q) (by rw [arrV_size]; exact hin) rfl rfl hdg fun H1 e1 e2 e3 => ?_
  exact kk H1 _ (hH.st hc (by omega) (by omega) rfl rfl rfl (fun q hq t k => val_sI_ne hq t k) (fun j => val_sI rfl j) e1 e2 e3) (Sb.sI ha) (hS.put e2 e3 ha)
theorem g_bastore_23 {a : Nat} {x : Int32} {y : Int32} (hPg : Pg M = some t) (hdg : decode t.2.1 pc = .ok (.bastore, 1)) (hc : hC h a = 23) (hin : ¬ (x < 0 ∨ hN h a ≤ x.toNatClampNeg)) (g : Gd M d (pc + 1) ls st (sI h a x.toNatClampNeg (y &&& 1)) rv h') : Gd M d pc ls (.int y :: .int x :: .ref a :: st) h rv h' := by
  refine Gd.store hPg g rfl rfl fun p l e R s m args below meth c base D dA H locs cells slots Q lsr h0 cx hl hH ho hb hS kk => ?_
  obtain ⟨hx, hcode, hr', hml, hown, hts, hKx, hlocks, hnm, hfr, hlo, hbs, hd⟩ := id cx
  have ha := ab_of ho hb hc (by omega) (by omega)
  refine W.zast hx hcode (hH.arr ha hc (by omega)) (arr_ix hKx 3 rfl _ _) (fun q => by cases q) (by rw [arrV_size]; exact hin) rfl rfl hdg fun H1 e1 e2 e3 => ?_
  exact kk H1 _ (hH.st hc (by omega) (by omega) rfl rfl rfl (fun q hq t k => val_sI_ne hq t k) (fun j => val_sI rfl j) e1 e2 e3) (Sb.sI ha) (hS.put e2 e3 ha)
theorem g_lastore_22 {a : Nat} {x : Int32} {y : Int64} (hPg : Pg M = some t) (hdg : decode t.2.1 pc = .ok (.lastore, 1)) (hc : hC h a = 22) (hin : ¬ (x < 0 ∨ hN h a ≤ x.toNatClampNeg)) (g : Gd M d (pc + 1) ls st (sL h a x.toNatClampNeg y) rv h') : Gd M d pc ls (.long y :: .int x :: .ref a :: st) h rv h' := by
  refine Gd.store hPg g rfl rfl fun p l e R s m args below meth c base D dA H locs cells slots Q lsr h0 cx hl hH ho hb hS kk => ?_
  obtain ⟨hx, hcode, hr', hml, hown, hts, hKx, hlocks, hnm, hfr, hlo, hbs, hd⟩ := id cx
  have ha := ab_of ho hb hc (by omega) (by omega)
  refine W.last hx hcode (hH.arr ha hc (by omega)) (arr_ix hKx 2 rfl _ _) (fun q => by cases q) (by rw [arrV_size]; exact hin) rfl rfl hdg fun H1 e1 e2 e3 => ?_
  exact kk H1 _ (hH.st hc (by omega) (by omega) rfl rfl rfl (fun q hq t k => val_sL_ne hq t k) (fun j => val_sL rfl j) e1 e2 e3) (Sb.sL ha) (hS.put e2 e3 ha)
theorem g_aastore_24 {a y : Nat} {x : Int32} (hPg : Pg M = some t) (hdg : decode t.2.1 pc = .ok (.aastore, 1)) (hc : hC h a = 24) (hy : hC h y = 3) (hin : ¬ (x < 0 ∨ hN h a ≤ x.toNatClampNeg)) (g : Gd M d (pc + 1) ls st (sR h a x.toNatClampNeg y) rv h') : Gd M d pc ls (.ref y :: .int x :: .ref a :: st) h rv h' := by
  refine Gd.store hPg g rfl rfl fun p l e R s m args below meth c base D dA H locs cells slots Q lsr h0 cx hl hH ho hb hS kk => ?_
  obtain ⟨hx, hcode, hr', hml, hown, hts, hKx, hlocks, hnm, hfr, hlo, hbs, hd⟩ := id cx
  have ha := ab_of ho hb hc (by omega) (by omega)
  have hya := ab_of ho hb hy (by omega) (by omega)
  obtain ⟨cellV, g1, g2, g3, -⟩ := hH.obj hya hy (by omega) (q := (RX2, TX2, 2)) rfl
  have hcls := (hKx.1.1 2 (RX2, TX2, 2) rfl).2
  obtain ⟨kA, comp, k1, k2, k3, -⟩ := (hKx.1.2 4 (dA 24, .object RX2) rfl).2
  have hcomp : comp = D.1 2 := Option.some.inj (k3.symm.trans hcls.1)
  subst hcomp
  obtain ⟨kC, hkC, -⟩ := hcls.2
  refine W.aast hx hcode (hH.arr ha hc (by omega)) (fun q h => by cases h) (fun h => by cases h) k1 k2 rfl hkC ⟨fun q => hin (Or.inl q), by rw [arrV_size]; exact Nat.not_le.mp fun q => hin (Or.inr q)⟩ g1 (fun q h => by rw [g3] at h; cases h) (by rw [g2]; exact hkC) (by rw [g2]; exact va_assign hcls) rfl rfl hdg fun H1 e1 e2 e3 => ?_
  exact kk H1 _ (hH.st hc (by omega) (by omega) rfl rfl rfl (fun q hq t k => val_sR_ne hq t k) (fun j => val_sR rfl j) e1 e2 e3) (Sb.sR ha) (hS.put e2 e3 ha)
theorem g_aastore_25 {a y : Nat} {x : Int32} (hPg : Pg M = some t) (hdg : decode t.2.1 pc = .ok (.aastore, 1)) (hc : hC h a = 25) (hy : hC h y = 1) (hin : ¬ (x < 0 ∨ hN h a ≤ x.toNatClampNeg)) (g : Gd M d (pc + 1) ls st (sR h a x.toNatClampNeg y) rv h') : Gd M d pc ls (.ref y :: .int x :: .ref a :: st) h rv h' := by
  refine Gd.store hPg g rfl rfl fun p l e R s m args below meth c base D dA H locs cells slots Q lsr h0 cx hl hH ho hb hS kk => ?_
  obtain ⟨hx, hcode, hr', hml, hown, hts, hKx, hlocks, hnm, hfr, hlo, hbs, hd⟩ := id cx
  have ha := ab_of ho hb hc (by omega) (by omega)
  have hya := ab_of ho hb hy (by omega) (by omega)
  obtain ⟨cellV, g1, g2, g3, -⟩ := hH.obj hya hy (by omega) (q := (RX0, TX0, 3)) rfl
  have hcls := (hKx.1.1 0 (RX0, TX0, 3) rfl).2
  obtain ⟨kA, comp, k1, k2, k3, -⟩ := (hKx.1.2 5 (dA 25, .object RX0) rfl).2
  have hcomp : comp = D.1 0 := Option.some.inj (k3.symm.trans hcls.1)
  subst hcomp
  obtain ⟨kC, hkC, -⟩ := hcls.2
  refine W.aast hx hcode (hH.arr ha hc (by omega)) (fun q h => by cases h) (fun h => by cases h) k1 k2 rfl hkC ⟨fun q => hin (Or.inl q), by rw [arrV_size]; exact Nat.not_le.mp fun q => hin (Or.inr q)⟩ g1 (fun q h => by rw [g3] at h; cases h) (by rw [g2]; exact hkC) (by rw [g2]; exact va_assign hcls) rfl rfl hdg fun H1 e1 e2 e3 => ?_
  exact kk H1 _ (hH.st hc (by omega) (by omega) rfl rfl rfl (fun q hq t k => val_sR_ne hq t k) (fun j => val_sR rfl j) e1 e2 e3) (Sb.sR ha) (hS.put e2 e3 ha)
theorem g_iaload (hPg : Pg M = some t) (hok : okE t i (.iaload, pc, inf) = true) (hK : KG M d i t K) (hrec : RG rec) (hr : stp K rec M d .iaload inf ls st h = some (rv, h')) : Gd M d pc ls st h rv h' := by
  have hdg : decode t.2.1 pc = .ok (.iaload, 1) := of_decide_eq_true (okE_dec hok)
  have hn : pcN t.code (i + 1) = pc + 1 := eq_of_beq (okE_nx hok)
  have hsp := okE_sp hok
  rcases inf with _ | ⟨tag, _ | ⟨z, l⟩⟩
  · cases hsp
  · have hsq : (decide (tag = 20) || decide (tag = 99)) = true := hsp
    simp only [Bool.or_eq_true, decide_eq_true_eq] at hsq
    obtain ⟨x, s1, rfl, hr1⟩ := pI_inv (k := fun x st => pR st fun a st => isC h a tag (inA h a x (K 0 ls (.int (hI h a x.toNatClampNeg) :: st) h))) hr
    obtain ⟨a, s2, rfl, hr2⟩ := pR_inv hr1
    obtain ⟨hc, hr3⟩ := isC_inv hr2
    obtain ⟨hin, hr4⟩ := inA_inv hr3
    rcases hsq with rfl | rfl
    · exact g_iaload_20 hPg hdg hc hin (hK.nxt hn hr4)
    · exact g_iaload_99 hPg hdg hc hin (hK.nxt hn hr4)
  · cases hsp
theorem g_baload (hPg : Pg M = some t) (hok : okE t i (.baload, pc, inf) = true) (hK : KG M d i t K) (hrec : RG rec) (hr : stp K rec M d .baload inf ls st h = some (rv, h')) : Gd M d pc ls st h rv h' := by
  have hdg : decode t.2.1 pc = .ok (.baload, 1) := of_decide_eq_true (okE_dec hok)
  have hn : pcN t.code (i + 1) = pc + 1 := eq_of_beq (okE_nx hok)
  have hsp := okE_sp hok
  rcases inf with _ | ⟨tag, _ | ⟨z, l⟩⟩
  · cases hsp
  · have hsq : (decide (tag = 21) || decide (tag = 23) || decide (tag = 31)) = true := hsp
    simp only [Bool.or_eq_true, decide_eq_true_eq] at hsq
    rcases hsq with (rfl | rfl) | rfl
    · obtain ⟨x, s1, rfl, hr1⟩ := pI_inv (k := fun x st => pR st fun a st => isC h a 21 (inA h a x (K 0 ls (.int (hI h a x.toNatClampNeg) :: st) h))) hr
      obtain ⟨a, s2, rfl, hr2⟩ := pR_inv hr1
      obtain ⟨hc, hr3⟩ := isC_inv hr2
      obtain ⟨hin, hr4⟩ := inA_inv hr3
      exact g_baload_21 hPg hdg hc hin (hK.nxt hn hr4)
    · obtain ⟨x, s1, rfl, hr1⟩ := pI_inv (k := fun x st => pR st fun a st => isC h a 23 (inA h a x (K 0 ls (.int (hI h a x.toNatClampNeg) :: st) h))) hr
      obtain ⟨a, s2, rfl, hr2⟩ := pR_inv hr1
      obtain ⟨hc, hr3⟩ := isC_inv hr2
      obtain ⟨hin, hr4⟩ := inA_inv hr3
      exact g_baload_23 hPg hdg hc hin (hK.nxt hn hr4)
    · obtain ⟨x, s1, rfl, hr1⟩ := pI_inv (k := fun x st => pR st fun a st => isB h a (inA h a x (K 0 ls (.int (hI h a (100 + x.toNatClampNeg)) :: st) h))) hr
      obtain ⟨a, s2, rfl, hr2⟩ := pR_inv hr1
      obtain ⟨hc, hc7, hr3⟩ := isB_inv hr2
      obtain ⟨hin, hr4⟩ := inA_inv hr3
      exact g_baload_31 hPg hdg hc hc7 hin (hK.nxt hn hr4)
  · cases hsp
theorem g_laload (hPg : Pg M = some t) (hok : okE t i (.laload, pc, inf) = true) (hK : KG M d i t K) (hrec : RG rec) (hr : stp K rec M d .laload inf ls st h = some (rv, h')) : Gd M d pc ls st h rv h' := by
  have hdg : decode t.2.1 pc = .ok (.laload, 1) := of_decide_eq_true (okE_dec hok)
  have hn : pcN t.code (i + 1) = pc + 1 := eq_of_beq (okE_nx hok)
  have hsp := okE_sp hok
  obtain ⟨x, s1, rfl, hr1⟩ := pI_inv (k := fun x st => pR st fun a st => isC h a 22 (inA h a x (K 0 ls (.long (hL h a x.toNatClampNeg) :: st) h))) hr
  obtain ⟨a, s2, rfl, hr2⟩ := pR_inv hr1
  obtain ⟨hc, hr3⟩ := isC_inv hr2
  obtain ⟨hin, hr4⟩ := inA_inv hr3
  exact g_laload_22 hPg hdg hc hin (hK.nxt hn hr4)
theorem g_aaload (hPg : Pg M = some t) (hok : okE t i (.aaload, pc, inf) = true) (hK : KG M d i t K) (hrec : RG rec) (hr : stp K rec M d .aaload inf ls st h = some (rv, h')) : Gd M d pc ls st h rv h' := by
  have hdg : decode t.2.1 pc = .ok (.aaload, 1) := of_decide_eq_true (okE_dec hok)
  have hn : pcN t.code (i + 1) = pc + 1 := eq_of_beq (okE_nx hok)
  have hsp := okE_sp hok
  rcases inf with _ | ⟨tag, _ | ⟨z, l⟩⟩
  · cases hsp
  · have hsq : (decide (tag = 24) || decide (tag = 25) || decide (tag = 26)) = true := hsp
    simp only [Bool.or_eq_true, decide_eq_true_eq] at hsq
    obtain ⟨x, s1, rfl, hr1⟩ := pI_inv (k := fun x st => pR st fun a st => isC h a tag (inA h a x (nnR (hR h a x.toNatClampNeg) fun r => K 0 ls (.ref r :: st) h))) hr
    obtain ⟨a, s2, rfl, hr2⟩ := pR_inv hr1
    obtain ⟨hc, hr3⟩ := isC_inv hr2
    obtain ⟨hin, hr4⟩ := inA_inv hr3
    obtain ⟨r, hRr, hr5⟩ := nnR_inv hr4
    rcases hsq with (rfl | rfl) | rfl
    · exact g_aaload_24 hPg hdg hc hin (hK.nxt hn (by rw [show val h a 24 x.toNatClampNeg = va_rf (hR h a x.toNatClampNeg) from rfl, hRr]; exact hr5))
    · exact g_aaload_25 hPg hdg hc hin (hK.nxt hn (by rw [show val h a 25 x.toNatClampNeg = va_rf (hR h a x.toNatClampNeg) from rfl, hRr]; exact hr5))
    · exact g_aaload_26 hPg hdg hc hin (hK.nxt hn (by rw [show val h a 26 x.toNatClampNeg = va_rf (hR h a x.toNatClampNeg) from rfl, hRr]; exact hr5))
  · cases hsp
theorem g_arraylength (hPg : Pg M = some t) (hok : okE t i (.arraylength, pc, inf) = true) (hK : KG M d i t K) (hrec : RG rec) (hr : stp K rec M d .arraylength inf ls st h = some (rv, h')) : Gd M d pc ls st h rv h' := by
  have hdg : decode t.2.1 pc = .ok (.arraylength, 1) := of_decide_eq_true (okE_dec hok)
  have hn : pcN t.code (i + 1) = pc + 1 := eq_of_beq (okE_nx hok)
  have hsp := okE_sp hok
  rcases inf with _ | ⟨tag, _ | ⟨z, l⟩⟩
  · cases hsp
  · have hsq : (decide (tag = 20) || decide (tag = 21) || decide (tag = 99) || decide (tag = 31)) = true := hsp
    simp only [Bool.or_eq_true, decide_eq_true_eq] at hsq
    rcases hsq with ((rfl | rfl) | rfl) | rfl
    · obtain ⟨a, s2, rfl, hr2⟩ := pR_inv (k := fun a st => isC h a 20 (K 0 ls (.int (nI (hN h a)) :: st) h)) hr
      obtain ⟨hc, hr4⟩ := isC_inv hr2
      exact g_len_20 hPg hdg hc (hK.nxt hn hr4)
    · obtain ⟨a, s2, rfl, hr2⟩ := pR_inv (k := fun a st => isC h a 21 (K 0 ls (.int (nI (hN h a)) :: st) h)) hr
      obtain ⟨hc, hr4⟩ := isC_inv hr2
      exact g_len_21 hPg hdg hc (hK.nxt hn hr4)
    · obtain ⟨a, s2, rfl, hr2⟩ := pR_inv (k := fun a st => isC h a 99 (K 0 ls (.int (nI (hN h a)) :: st) h)) hr
      obtain ⟨hc, hr4⟩ := isC_inv hr2
      exact g_len_99 hPg hdg hc (hK.nxt hn hr4)
    · obtain ⟨a, s2, rfl, hr2⟩ := pR_inv (k := fun a st => isB h a (K 0 ls (.int (nI (hN h a)) :: st) h)) hr
      obtain ⟨hc, hc7, hr4⟩ := isB_inv hr2
      exact g_len_31 hPg hdg hc hc7 (hK.nxt hn hr4)
  · cases hsp
theorem g_iastore (hPg : Pg M = some t) (hok : okE t i (.iastore, pc, inf) = true) (hK : KG M d i t K) (hrec : RG rec) (hr : stp K rec M d .iastore inf ls st h = some (rv, h')) : Gd M d pc ls st h rv h' := by
  have hdg : decode t.2.1 pc = .ok (.iastore, 1) := of_decide_eq_true (okE_dec hok)
  have hn : pcN t.code (i + 1) = pc + 1 := eq_of_beq (okE_nx hok)
  have hsp := okE_sp hok
  obtain ⟨y, s0, rfl, hr0⟩ := pI_inv (k := fun y st => aldF h 20 st fun a i st => K 0 ls st (sI h a i y)) hr
  obtain ⟨x, s1, rfl, hr1⟩ := pI_inv (k := fun x st => pR st fun a st => isC h a 20 (inA h a x (K 0 ls st (sI h a x.toNatClampNeg y)))) hr0
  obtain ⟨a, s2, rfl, hr2⟩ := pR_inv hr1
  obtain ⟨hc, hr3⟩ := isC_inv hr2
  obtain ⟨hin, hr4⟩ := inA_inv hr3
  exact g_iastore_20 hPg hdg hc hin (hK.nxt hn hr4)
theorem g_lastore (hPg : Pg M = some t) (hok : okE t i (.lastore, pc, inf) = true) (hK : KG M d i t K) (hrec : RG rec) (hr : stp K rec M d .lastore inf ls st h = some (rv, h')) : Gd M d pc ls st h rv h' := by
  have hdg : decode t.2.1 pc = .ok (.lastore, 1) := of_decide_eq_true (okE_dec hok)
  have hn : pcN t.code (i + 1) = pc + 1 := eq_of_beq (okE_nx hok)
  have hsp := okE_sp hok
  obtain ⟨y, s0, rfl, hr0⟩ := pL_inv (k := fun y st => aldF h 22 st fun a i st => K 0 ls st (sL h a i y)) hr
  obtain ⟨x, s1, rfl, hr1⟩ := pI_inv (k := fun x st => pR st fun a st => isC h a 22 (inA h a x (K 0 ls st (sL h a x.toNatClampNeg y)))) hr0
  obtain ⟨a, s2, rfl, hr2⟩ := pR_inv hr1
  obtain ⟨hc, hr3⟩ := isC_inv hr2
  obtain ⟨hin, hr4⟩ := inA_inv hr3
  exact g_lastore_22 hPg hdg hc hin (hK.nxt hn hr4)
theorem g_bastore (hPg : Pg M = some t) (hok : okE t i (.bastore, pc, inf) = true) (hK : KG M d i t K) (hrec : RG rec) (hr : stp K rec M d .bastore inf ls st h = some (rv, h')) : Gd M d pc ls st h rv h' := by
  have hdg : decode t.2.1 pc = .ok (.bastore, 1) := of_decide_eq_true (okE_dec hok)
  have hn : pcN t.code (i + 1) = pc + 1 := eq_of_beq (okE_nx hok)
  have hsp := okE_sp hok
  rcases inf with _ | ⟨tag, _ | ⟨z, l⟩⟩
  · cases hsp
  · have hsq : (decide (tag = 21) || decide (tag = 23)) = true := hsp
    simp only [Bool.or_eq_true, decide_eq_true_eq] at hsq
    rcases hsq with rfl | rfl
    · obtain ⟨y, s0, rfl, hr0⟩ := pI_inv (k := fun y st => aldF h 21 st fun a i st => K 0 ls st (sI h a i y.toInt8.toInt32)) hr
      obtain ⟨x, s1, rfl, hr1⟩ := pI_inv (k := fun x st => pR st fun a st => isC h a 21 (inA h a x (K 0 ls st (sI h a x.toNatClampNeg y.toInt8.toInt32)))) hr0
      obtain ⟨a, s2, rfl, hr2⟩ := pR_inv hr1
      obtain ⟨hc, hr3⟩ := isC_inv hr2
      obtain ⟨hin, hr4⟩ := inA_inv hr3
      exact g_bastore_21 hPg hdg hc hin (hK.nxt hn hr4)
    · obtain ⟨y, s0, rfl, hr0⟩ := pI_inv (k := fun y st => aldF h 23 st fun a i st => K 0 ls st (sI h a i (y &&& 1))) hr
      obtain ⟨x, s1, rfl, hr1⟩ := pI_inv (k := fun x st => pR st fun a st => isC h a 23 (inA h a x (K 0 ls st (sI h a x.toNatClampNeg (y &&& 1))))) hr0
      obtain ⟨a, s2, rfl, hr2⟩ := pR_inv hr1
      obtain ⟨hc, hr3⟩ := isC_inv hr2
      obtain ⟨hin, hr4⟩ := inA_inv hr3
      exact g_bastore_23 hPg hdg hc hin (hK.nxt hn hr4)
  · cases hsp
theorem g_aastore (hPg : Pg M = some t) (hok : okE t i (.aastore, pc, inf) = true) (hK : KG M d i t K) (hrec : RG rec) (hr : stp K rec M d .aastore inf ls st h = some (rv, h')) : Gd M d pc ls st h rv h' := by
  have hdg : decode t.2.1 pc = .ok (.aastore, 1) := of_decide_eq_true (okE_dec hok)
  have hn : pcN t.code (i + 1) = pc + 1 := eq_of_beq (okE_nx hok)
  have hsp := okE_sp hok
  rcases inf with _ | ⟨tag, _ | ⟨ct, _ | ⟨z, l⟩⟩⟩
  · cases hsp
  · cases hsp
  · have hsq : ((decide (tag = 24) && decide (ct = 3)) || (decide (tag = 25) && decide (ct = 1))) = true := hsp
    simp only [Bool.or_eq_true, Bool.and_eq_true, decide_eq_true_eq] at hsq
    obtain ⟨y, s0, rfl, hr0⟩ := pR_inv (k := fun y st => aldF h tag st fun a i st => isC h y ct (K 0 ls st (sR h a i y))) hr
    obtain ⟨x, s1, rfl, hr1⟩ := pI_inv (k := fun x st => pR st fun a st => isC h a tag (inA h a x (isC h y ct (K 0 ls st (sR h a x.toNatClampNeg y))))) hr0
    obtain ⟨a, s2, rfl, hr2⟩ := pR_inv hr1
    obtain ⟨hc, hr3⟩ := isC_inv hr2
    obtain ⟨hin, hr4⟩ := inA_inv hr3
    obtain ⟨hy, hr5⟩ := isC_inv hr4
    rcases hsq with ⟨rfl, rfl⟩ | ⟨rfl, rfl⟩
    · exact g_aastore_24 hPg hdg hc hy hin (hK.nxt hn hr5)
    · exact g_aastore_25 hPg hdg hc hy hin (hK.nxt hn hr5)
  · cases hsp
end
