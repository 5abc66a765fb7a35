/-! The constructors: the plain form's object. -/
def MI (h0 : MH) (m i : Nat) (J : Nat → Int32) (h : MH) : Prop := hT h = m + 1 + i ∧ hS h ≤ hS h0 + 4000 * i ∧ (∀ b, b < m → Se h0 h b) ∧ hC h m = 13 ∧ hI h m = J ∧ ∀ j, j < i → hR h m (mTb.getD j (0, 0, 0)).1 = some (m + 1 + j) ∧ hN h (m + 1 + j) = (mTb.getD j (0, 0, 0)).2.1 ∧ hC h (m + 1 + j) = (mTb.getD j (0, 0, 0)).2.2 ∧ hI h (m + 1 + j) = fun _ => 0
theorem mT_d : ∀ i j : Fin 38, i ≠ j → (mTb.getD i.val (0, 0, 0)).1 ≠ (mTb.getD j.val (0, 0, 0)).1 := by decide +kernel
theorem mT_n : ∀ i : Fin 38, (mTb.getD i.val (0, 0, 0)).2.1 ≤ 4000 := by decide +kernel
theorem MI.s {h0 h : MH} {m i : Nat} {J : Nat → Int32} (hi : i < 38) (M : MI h0 m i J h) : MI h0 m (i + 1) J (sR (nw h (mTb.getD i (0, 0, 0)).2.2 (mTb.getD i (0, 0, 0)).2.1) m (mTb.getD i (0, 0, 0)).1 (hT h)) := by
  have hn := mT_n ⟨i, hi⟩
  have hd := fun j (hj : j < i) => mT_d ⟨j, by omega⟩ ⟨i, hi⟩ (fun e => by have := congrArg Fin.val e; simp at this; omega)
  obtain ⟨m1, m2, m3, m4, m5, m6⟩ := M
  have hn : (mTb.getD i (0, 0, 0)).2.1 ≤ 4000 := hn
  obtain ⟨S1, C1, N1, -⟩ := arr_S (h := h) (x := m) (s := (mTb.getD i (0, 0, 0)).1) (tag := (mTb.getD i (0, 0, 0)).2.2) (n := (mTb.getD i (0, 0, 0)).2.1) (by omega)
  have I1 : hI (sR (nw h (mTb.getD i (0, 0, 0)).2.2 (mTb.getD i (0, 0, 0)).2.1) m (mTb.getD i (0, 0, 0)).1 (hT h)) (hT h) = fun _ => 0 := nw_I (t := (mTb.getD i (0, 0, 0)).2.2) (n := (mTb.getD i (0, 0, 0)).2.1)
  generalize sR (nw h (mTb.getD i (0, 0, 0)).2.2 (mTb.getD i (0, 0, 0)).2.1) m (mTb.getD i (0, 0, 0)).1 (hT h) = h1 at *
  obtain ⟨s1, s2, s3, s4⟩ := id S1
  refine ⟨by omega, by omega, fun b hb => (m3 b hb).tr (S1.e b (by omega) (by omega)), by rw [s3.2.1]; exact m4, by rw [s3.2.2.2.1]; exact m5, fun j hj => ?_⟩
  rw [s4]
  by_cases z : j = i
  · subst z
    rw [if_pos rfl, ← m1]; exact ⟨rfl, N1, C1, I1⟩
  · have hj : j < i := by omega
    rw [if_neg (hd j hj)]
    obtain ⟨q1, q2, q3, q4⟩ := m6 j hj
    have e := S1.e (m + 1 + j) (by omega) (by omega)
    exact ⟨q1, by rw [e.2.1]; exact q2, by rw [e.1]; exact q3, by rw [e.2.2.2.1]; exact q4⟩
theorem MI.i {h0 h : MH} {m i s : Nat} {v : Int32} {J : Nat → Int32} (M : MI h0 m i J h) : MI h0 m i (fun k => if k = s then v else J k) (sI h m s v) := by
  obtain ⟨m1, m2, m3, m4, m5, m6⟩ := M
  refine ⟨m1, m2, fun b hb => (m3 b hb).tr ⟨rfl, rfl, rfl, up2_a (by omega), rfl⟩, m4, ?_, fun j hj => ?_⟩
  · funext k
    show up2 (hI h) m s v m k = _
    rw [up2_i, m5]
  · obtain ⟨q1, q2, q3, q4⟩ := m6 j hj
    refine ⟨q1, q2, q3, ?_⟩
    show up2 (hI h) m s v (m + 1 + j) = _
    rw [up2_a (by omega)]; exact q4
theorem MI.c {h0 h : MH} {m i t n : Nat} {J : Nat → Int32} (M : MI h0 m i J h) : hC (nw h t n) m = 13 := by
  rw [(nw_e (by have := M.1; omega)).1]; exact M.2.2.2.1
theorem mkMo {h0 : MH} {m : Nat} (T0 : hT h0 = m + 1) (c0 : hC h0 m = 13) (i0 : hI h0 m = fun _ => 0) : ∃ h', ev M_Mo_init 0 0 [some (.ref m)] [] h0 = some (none, h') ∧ hT h' = m + 39 ∧ hS h' ≤ hS h0 + 152000 ∧ (∀ b, b < m → Se h0 h' b) ∧ MSH h' m ∧ MF (hI h') m S00 := by
  suffices key : wp (ev M_Mo_init 0 0 [some (.ref m)] [] h0) (fun v h' => v = none ∧ hT h' = m + 39 ∧ hS h' ≤ hS h0 + 152000 ∧ (∀ b, b < m → Se h0 h' b) ∧ MSH h' m ∧ MF (hI h') m S00) by
    obtain ⟨v, h', e, e2, r⟩ := key
    subst e2; exact ⟨h', e, r⟩
  have A0 : MI h0 m 0 (fun _ => 0) h0 := ⟨by omega, by omega, fun _ _ => Se.rf, c0, i0, fun j hj => absurd hj (Nat.not_lt_zero j)⟩
  rw [r_Mo_init_0]
  refine wp_okN rfl (by decide) (wp_isC A0.c ?_)
  have A1 : MI h0 m 1 (fun _ => 0) (sR (nw h0 20 1600) m 0 (hT h0)) := MI.s (i := 0) (by decide) A0
  try dsimp only
  generalize sR (nw h0 20 1600) m 0 (hT h0) = h1 at *
  refine wp_isC A1.2.2.2.1 ?_
  have B8 : MI h0 m 1 (fun k => if k = 8 then mI 1 else (fun _ => 0) k) (sI h1 m 8 (mI 1)) := A1.i
  try dsimp only
  generalize sI h1 m 8 (mI 1) = g8 at *
  rw [r_Mo_init_10]
  refine wp_isC B8.2.2.2.1 ?_
  have B10 : MI h0 m 1 (fun k => if k = 10 then mI 1 else (fun k => if k = 8 then mI 1 else (fun _ => 0) k) k) (sI g8 m 10 (mI 1)) := B8.i
  try dsimp only
  generalize sI g8 m 10 (mI 1) = g10 at *
  refine wp_okN rfl (by decide) (wp_isC B10.c ?_)
  have A2 : MI h0 m 2 (fun k => if k = 10 then mI 1 else (fun k => if k = 8 then mI 1 else (fun _ => 0) k) k) (sR (nw g10 20 2) m 12 (hT g10)) := MI.s (i := 1) (by decide) B10
  try dsimp only
  generalize sR (nw g10 20 2) m 12 (hT g10) = h2 at *
  refine wp_okN rfl (by decide) (wp_isC A2.c ?_)
  have A3 : MI h0 m 3 (fun k => if k = 10 then mI 1 else (fun k => if k = 8 then mI 1 else (fun _ => 0) k) k) (sR (nw h2 20 2) m 13 (hT h2)) := MI.s (i := 2) (by decide) A2
  try dsimp only
  generalize sR (nw h2 20 2) m 13 (hT h2) = h3 at *
  rw [r_Mo_init_22]
  refine wp_okN rfl (by decide) (wp_isC A3.c ?_)
  have A4 : MI h0 m 4 (fun k => if k = 10 then mI 1 else (fun k => if k = 8 then mI 1 else (fun _ => 0) k) k) (sR (nw h3 20 2) m 14 (hT h3)) := MI.s (i := 3) (by decide) A3
  try dsimp only
  generalize sR (nw h3 20 2) m 14 (hT h3) = h4 at *
  refine wp_okN rfl (by decide) (wp_isC A4.c ?_)
  have A5 : MI h0 m 5 (fun k => if k = 10 then mI 1 else (fun k => if k = 8 then mI 1 else (fun _ => 0) k) k) (sR (nw h4 20 2) m 15 (hT h4)) := MI.s (i := 4) (by decide) A4
  try dsimp only
  generalize sR (nw h4 20 2) m 15 (hT h4) = h5 at *
  rw [r_Mo_init_31]
  refine wp_okN rfl (by decide) (wp_isC A5.c ?_)
  have A6 : MI h0 m 6 (fun k => if k = 10 then mI 1 else (fun k => if k = 8 then mI 1 else (fun _ => 0) k) k) (sR (nw h5 20 2) m 16 (hT h5)) := MI.s (i := 5) (by decide) A5
  try dsimp only
  generalize sR (nw h5 20 2) m 16 (hT h5) = h6 at *
  refine wp_okN rfl (by decide) (wp_isC A6.c ?_)
  have A7 : MI h0 m 7 (fun k => if k = 10 then mI 1 else (fun k => if k = 8 then mI 1 else (fun _ => 0) k) k) (sR (nw h6 20 2) m 17 (hT h6)) := MI.s (i := 6) (by decide) A6
  try dsimp only
  generalize sR (nw h6 20 2) m 17 (hT h6) = h7 at *
  rw [r_Mo_init_40]
  refine wp_okN rfl (by decide) (wp_isC A7.c ?_)
  have A8 : MI h0 m 8 (fun k => if k = 10 then mI 1 else (fun k => if k = 8 then mI 1 else (fun _ => 0) k) k) (sR (nw h7 22 10) m 18 (hT h7)) := MI.s (i := 7) (by decide) A7
  try dsimp only
  generalize sR (nw h7 22 10) m 18 (hT h7) = h8 at *
  refine wp_okN rfl (by decide) (wp_isC A8.c ?_)
  have A9 : MI h0 m 9 (fun k => if k = 10 then mI 1 else (fun k => if k = 8 then mI 1 else (fun _ => 0) k) k) (sR (nw h8 20 10) m 19 (hT h8)) := MI.s (i := 8) (by decide) A8
  try dsimp only
  generalize sR (nw h8 20 10) m 19 (hT h8) = h9 at *
  rw [r_Mo_init_49]
  refine wp_okN rfl (by decide) (wp_isC A9.c ?_)
  have A10 : MI h0 m 10 (fun k => if k = 10 then mI 1 else (fun k => if k = 8 then mI 1 else (fun _ => 0) k) k) (sR (nw h9 20 10) m 20 (hT h9)) := MI.s (i := 9) (by decide) A9
  try dsimp only
  generalize sR (nw h9 20 10) m 20 (hT h9) = h10 at *
  refine wp_okN rfl (by decide) (wp_isC A10.c ?_)
  have A11 : MI h0 m 11 (fun k => if k = 10 then mI 1 else (fun k => if k = 8 then mI 1 else (fun _ => 0) k) k) (sR (nw h10 20 10) m 21 (hT h10)) := MI.s (i := 10) (by decide) A10
  try dsimp only
  generalize sR (nw h10 20 10) m 21 (hT h10) = h11 at *
  rw [r_Mo_init_58]
  refine wp_okN rfl (by decide) (wp_isC A11.c ?_)
  have A12 : MI h0 m 12 (fun k => if k = 10 then mI 1 else (fun k => if k = 8 then mI 1 else (fun _ => 0) k) k) (sR (nw h11 20 160) m 22 (hT h11)) := MI.s (i := 11) (by decide) A11
  try dsimp only
  generalize sR (nw h11 20 160) m 22 (hT h11) = h12 at *
  refine wp_okN rfl (by decide) (wp_isC A12.c ?_)
  have A13 : MI h0 m 13 (fun k => if k = 10 then mI 1 else (fun k => if k = 8 then mI 1 else (fun _ => 0) k) k) (sR (nw h12 20 520) m 23 (hT h12)) := MI.s (i := 12) (by decide) A12
  try dsimp only
  generalize sR (nw h12 20 520) m 23 (hT h12) = h13 at *
  rw [r_Mo_init_67]
  refine wp_okN rfl (by decide) (wp_isC A13.c ?_)
  have A14 : MI h0 m 14 (fun k => if k = 10 then mI 1 else (fun k => if k = 8 then mI 1 else (fun _ => 0) k) k) (sR (nw h13 20 660) m 24 (hT h13)) := MI.s (i := 13) (by decide) A13
  try dsimp only
  generalize sR (nw h13 20 660) m 24 (hT h13) = h14 at *
  refine wp_okN rfl (by decide) (wp_isC A14.c ?_)
  have A15 : MI h0 m 15 (fun k => if k = 10 then mI 1 else (fun k => if k = 8 then mI 1 else (fun _ => 0) k) k) (sR (nw h14 20 160) m 31 (hT h14)) := MI.s (i := 14) (by decide) A14
  try dsimp only
  generalize sR (nw h14 20 160) m 31 (hT h14) = h15 at *
  rw [r_Mo_init_76]
  refine wp_okN rfl (by decide) (wp_isC A15.c ?_)
  have A16 : MI h0 m 16 (fun k => if k = 10 then mI 1 else (fun k => if k = 8 then mI 1 else (fun _ => 0) k) k) (sR (nw h15 20 81) m 34 (hT h15)) := MI.s (i := 15) (by decide) A15
  try dsimp only
  generalize sR (nw h15 20 81) m 34 (hT h15) = h16 at *
  refine wp_okN rfl (by decide) (wp_isC A16.c ?_)
  have A17 : MI h0 m 17 (fun k => if k = 10 then mI 1 else (fun k => if k = 8 then mI 1 else (fun _ => 0) k) k) (sR (nw h16 20 3240) m 35 (hT h16)) := MI.s (i := 16) (by decide) A16
  try dsimp only
  generalize sR (nw h16 20 3240) m 35 (hT h16) = h17 at *
  rw [r_Mo_init_85]
  refine wp_okN rfl (by decide) (wp_isC A17.c ?_)
  have A18 : MI h0 m 18 (fun k => if k = 10 then mI 1 else (fun k => if k = 8 then mI 1 else (fun _ => 0) k) k) (sR (nw h17 20 80) m 38 (hT h17)) := MI.s (i := 17) (by decide) A17
  try dsimp only
  generalize sR (nw h17 20 80) m 38 (hT h17) = h18 at *
  refine wp_okN rfl (by decide) (wp_isC A18.c ?_)
  have A19 : MI h0 m 19 (fun k => if k = 10 then mI 1 else (fun k => if k = 8 then mI 1 else (fun _ => 0) k) k) (sR (nw h18 20 640) m 39 (hT h18)) := MI.s (i := 18) (by decide) A18
  try dsimp only
  generalize sR (nw h18 20 640) m 39 (hT h18) = h19 at *
  rw [r_Mo_init_94]
  refine wp_okN rfl (by decide) (wp_isC A19.c ?_)
  have A20 : MI h0 m 20 (fun k => if k = 10 then mI 1 else (fun k => if k = 8 then mI 1 else (fun _ => 0) k) k) (sR (nw h19 20 16) m 40 (hT h19)) := MI.s (i := 19) (by decide) A19
  try dsimp only
  generalize sR (nw h19 20 16) m 40 (hT h19) = h20 at *
  refine wp_okN rfl (by decide) (wp_isC A20.c ?_)
  have A21 : MI h0 m 21 (fun k => if k = 10 then mI 1 else (fun k => if k = 8 then mI 1 else (fun _ => 0) k) k) (sR (nw h20 20 16) m 41 (hT h20)) := MI.s (i := 20) (by decide) A20
  try dsimp only
  generalize sR (nw h20 20 16) m 41 (hT h20) = h21 at *
  rw [r_Mo_init_103]
  refine wp_okN rfl (by decide) (wp_isC A21.c ?_)
  have A22 : MI h0 m 22 (fun k => if k = 10 then mI 1 else (fun k => if k = 8 then mI 1 else (fun _ => 0) k) k) (sR (nw h21 20 340) m 43 (hT h21)) := MI.s (i := 21) (by decide) A21
  try dsimp only
  generalize sR (nw h21 20 340) m 43 (hT h21) = h22 at *
  refine wp_okN rfl (by decide) (wp_isC A22.c ?_)
  have A23 : MI h0 m 23 (fun k => if k = 10 then mI 1 else (fun k => if k = 8 then mI 1 else (fun _ => 0) k) k) (sR (nw h22 20 340) m 44 (hT h22)) := MI.s (i := 22) (by decide) A22
  try dsimp only
  generalize sR (nw h22 20 340) m 44 (hT h22) = h23 at *
  rw [r_Mo_init_112]
  refine wp_okN rfl (by decide) (wp_isC A23.c ?_)
  have A24 : MI h0 m 24 (fun k => if k = 10 then mI 1 else (fun k => if k = 8 then mI 1 else (fun _ => 0) k) k) (sR (nw h23 20 340) m 45 (hT h23)) := MI.s (i := 23) (by decide) A23
  try dsimp only
  generalize sR (nw h23 20 340) m 45 (hT h23) = h24 at *
  refine wp_okN rfl (by decide) (wp_isC A24.c ?_)
  have A25 : MI h0 m 25 (fun k => if k = 10 then mI 1 else (fun k => if k = 8 then mI 1 else (fun _ => 0) k) k) (sR (nw h24 20 340) m 46 (hT h24)) := MI.s (i := 24) (by decide) A24
  try dsimp only
  generalize sR (nw h24 20 340) m 46 (hT h24) = h25 at *
  rw [r_Mo_init_121]
  refine wp_okN rfl (by decide) (wp_isC A25.c ?_)
  have A26 : MI h0 m 26 (fun k => if k = 10 then mI 1 else (fun k => if k = 8 then mI 1 else (fun _ => 0) k) k) (sR (nw h25 20 64) m 48 (hT h25)) := MI.s (i := 25) (by decide) A25
  try dsimp only
  generalize sR (nw h25 20 64) m 48 (hT h25) = h26 at *
  refine wp_okN rfl (by decide) (wp_isC A26.c ?_)
  have A27 : MI h0 m 27 (fun k => if k = 10 then mI 1 else (fun k => if k = 8 then mI 1 else (fun _ => 0) k) k) (sR (nw h26 20 16) m 49 (hT h26)) := MI.s (i := 26) (by decide) A26
  try dsimp only
  generalize sR (nw h26 20 16) m 49 (hT h26) = h27 at *
  rw [r_Mo_init_130]
  refine wp_okN rfl (by decide) (wp_isC A27.c ?_)
  have A28 : MI h0 m 28 (fun k => if k = 10 then mI 1 else (fun k => if k = 8 then mI 1 else (fun _ => 0) k) k) (sR (nw h27 20 30) m 51 (hT h27)) := MI.s (i := 27) (by decide) A27
  try dsimp only
  generalize sR (nw h27 20 30) m 51 (hT h27) = h28 at *
  refine wp_okN rfl (by decide) (wp_isC A28.c ?_)
  have A29 : MI h0 m 29 (fun k => if k = 10 then mI 1 else (fun k => if k = 8 then mI 1 else (fun _ => 0) k) k) (sR (nw h28 20 30) m 52 (hT h28)) := MI.s (i := 28) (by decide) A28
  try dsimp only
  generalize sR (nw h28 20 30) m 52 (hT h28) = h29 at *
  rw [r_Mo_init_139]
  refine wp_okN rfl (by decide) (wp_isC A29.c ?_)
  have A30 : MI h0 m 30 (fun k => if k = 10 then mI 1 else (fun k => if k = 8 then mI 1 else (fun _ => 0) k) k) (sR (nw h29 20 30) m 53 (hT h29)) := MI.s (i := 29) (by decide) A29
  try dsimp only
  generalize sR (nw h29 20 30) m 53 (hT h29) = h30 at *
  refine wp_okN rfl (by decide) (wp_isC A30.c ?_)
  have A31 : MI h0 m 31 (fun k => if k = 10 then mI 1 else (fun k => if k = 8 then mI 1 else (fun _ => 0) k) k) (sR (nw h30 20 30) m 54 (hT h30)) := MI.s (i := 30) (by decide) A30
  try dsimp only
  generalize sR (nw h30 20 30) m 54 (hT h30) = h31 at *
  rw [r_Mo_init_148]
  refine wp_okN rfl (by decide) (wp_isC A31.c ?_)
  have A32 : MI h0 m 32 (fun k => if k = 10 then mI 1 else (fun k => if k = 8 then mI 1 else (fun _ => 0) k) k) (sR (nw h31 20 30) m 55 (hT h31)) := MI.s (i := 31) (by decide) A31
  try dsimp only
  generalize sR (nw h31 20 30) m 55 (hT h31) = h32 at *
  refine wp_okN rfl (by decide) (wp_isC A32.c ?_)
  have A33 : MI h0 m 33 (fun k => if k = 10 then mI 1 else (fun k => if k = 8 then mI 1 else (fun _ => 0) k) k) (sR (nw h32 20 30) m 56 (hT h32)) := MI.s (i := 32) (by decide) A32
  try dsimp only
  generalize sR (nw h32 20 30) m 56 (hT h32) = h33 at *
  rw [r_Mo_init_157]
  refine wp_okN rfl (by decide) (wp_isC A33.c ?_)
  have A34 : MI h0 m 34 (fun k => if k = 10 then mI 1 else (fun k => if k = 8 then mI 1 else (fun _ => 0) k) k) (sR (nw h33 20 16) m 59 (hT h33)) := MI.s (i := 33) (by decide) A33
  try dsimp only
  generalize sR (nw h33 20 16) m 59 (hT h33) = h34 at *
  refine wp_okN rfl (by decide) (wp_isC A34.c ?_)
  have A35 : MI h0 m 35 (fun k => if k = 10 then mI 1 else (fun k => if k = 8 then mI 1 else (fun _ => 0) k) k) (sR (nw h34 20 257) m 60 (hT h34)) := MI.s (i := 34) (by decide) A34
  try dsimp only
  generalize sR (nw h34 20 257) m 60 (hT h34) = h35 at *
  rw [r_Mo_init_166]
  refine wp_okN rfl (by decide) (wp_isC A35.c ?_)
  have A36 : MI h0 m 36 (fun k => if k = 10 then mI 1 else (fun k => if k = 8 then mI 1 else (fun _ => 0) k) k) (sR (nw h35 20 258) m 61 (hT h35)) := MI.s (i := 35) (by decide) A35
  try dsimp only
  generalize sR (nw h35 20 258) m 61 (hT h35) = h36 at *
  refine wp_okN rfl (by decide) (wp_isC A36.c ?_)
  have A37 : MI h0 m 37 (fun k => if k = 10 then mI 1 else (fun k => if k = 8 then mI 1 else (fun _ => 0) k) k) (sR (nw h36 20 243) m 62 (hT h36)) := MI.s (i := 36) (by decide) A36
  try dsimp only
  generalize sR (nw h36 20 243) m 62 (hT h36) = h37 at *
  rw [r_Mo_init_175]
  refine wp_okN rfl (by decide) (wp_isC A37.c ?_)
  have A38 : MI h0 m 38 (fun k => if k = 10 then mI 1 else (fun k => if k = 8 then mI 1 else (fun _ => 0) k) k) (sR (nw h37 23 3) m 63 (hT h37)) := MI.s (i := 37) (by decide) A37
  try dsimp only
  generalize sR (nw h37 23 3) m 63 (hT h37) = h38 at *
  obtain ⟨m1, m2, m3, m4, m5, m6⟩ := A38
  have q := m6 1 (by decide)
  refine wp_isC m4 (wp_nnR q.1 (wp_isC q.2.2.1 (wp_inA (n := 0) q.2.1 rfl (by decide) (by decide) ?_)))
  rw [r_Mo_init_185]
  have eI : hI (sI h38 (m + 1 + 1) (Int32.toNatClampNeg (nI 0)) (nI 3)) = up2 (hI h38) (m + 2) 0 (nI 3) := rfl
  refine wp_s ⟨rfl, m1, m2, fun b hb => (m3 b hb).tr ⟨rfl, rfl, rfl, ?_, rfl⟩, ⟨m4, fun i hi => ⟨(m6 i hi).1, (m6 i hi).2.1, (m6 i hi).2.2.1⟩⟩, ?_⟩
  · rw [eI, up2_a (by omega)]
  rw [eI]
  have za : ∀ j, j < 38 → j ≠ 1 → up2 (hI h38) (m + 2) 0 (nI 3) (m + 1 + j) = fun _ => 0 := fun j hj h1 => by
    rw [up2_a (by omega)]; exact (m6 j hj).2.2.2
  have zm : up2 (hI h38) (m + 2) 0 (nI 3) m = (fun k => if k = 10 then mI 1 else (fun k => if k = 8 then mI 1 else (fun _ => 0) k) k) := by rw [up2_a (by omega)]; exact m5
  refine ⟨⟨by rw [zm]; rfl, fun i hi => absurd hi (Nat.not_lt_zero i)⟩, ⟨by rw [zm]; rfl, by rw [zm]; rfl⟩, ⟨up2_s, by rw [show m + 3 = m + 1 + 2 from rfl, za 2 (by decide) (by decide)]; rfl, fun k hk => absurd hk (Nat.not_lt_zero k), fun k hk => absurd hk (Nat.not_lt_zero k)⟩, ⟨by rw [show m + 4 = m + 1 + 3 from rfl, za 3 (by decide) (by decide)]; rfl, by rw [show m + 6 = m + 1 + 5 from rfl, za 5 (by decide) (by decide)]; rfl, by rw [show m + 7 = m + 1 + 6 from rfl, za 6 (by decide) (by decide)]; rfl, fun i k hk => (by cases hk)⟩, fun k hk => absurd hk (Nat.not_lt_zero k), fun i hi => ?_, ⟨by rw [zm]; rfl, by rw [zm]; rfl, fun k i hk => absurd hk (Nat.not_lt_zero k)⟩, ⟨by rw [zm]; rfl, fun i e he => (by cases he)⟩, ⟨by rw [zm]; rfl, by rw [zm]; rfl, fun i e he => (by cases he)⟩, fun b hb => ⟨by rw [show m + 38 = m + 1 + 37 from rfl, za 37 (by decide) (by decide)]; rfl, fun s hs => (by cases hs)⟩⟩
  rw [show m + 16 = m + 1 + 15 from rfl, za 15 (by decide) (by decide)]
  show (0 : Int32) = nI (sv (iA Pn0, 0) i)
  have : sv (iA Pn0, 0) i = 0 := by
    unfold sv
    split
    · show (if (0 : Nat).testBit (i / 16) then vGr Pn0 (i / 16) else fun _ => 0) (i % 16) = 0
      rw [Nat.zero_testBit, if_neg (by decide)]
    · rfl
  rw [this]; rfl
