/-! The readers go on through the text. -/
def Mn (U : Ps → Ps) : Prop := ∀ s, yI s ≤ yI (U s)
section
variable {b : Nat → Nat} {len : Nat}
theorem Mn.c {U V : Ps → Ps} (u : Mn U) (v : Mn V) : Mn (fun s => V (U s)) := fun s => Nat.le_trans (u s) (v (U s))
theorem Mn.i {c : Ps → Prop} [∀ s, Decidable (c s)] {U V : Ps → Ps} (u : Mn U) (v : Mn V) : Mn (fun s => if c s then U s else V s) := fun s => by
  show yI s ≤ yI (if c s then U s else V s)
  split
  · exact u s
  · exact v s
theorem mn_i : Mn (fun s => s) := fun _ => Nat.le_refl _
theorem mn_S : Mn (zS b len) := fun s => by
  by_cases h : yF s = 0
  · rw [zS_0 h]; exact Nat.le_trans pl_ge nx_ge
  · have : zS b len s = s := if_neg h
    rw [this]; exact Nat.le_refl _
theorem mn_F {c : Nat} : Mn (zF b len c) := fun s => by
  by_cases h : yF s = 0
  · rw [zF_0 h]; exact Nat.le_refl _
  · have : zF b len c s = s := if_neg h
    rw [this]; exact Nat.le_refl _
theorem mn_E {k : Nat} : Mn (zE b len k) := Mn.i mn_S mn_F
theorem mn_X {c : Nat} : Mn (zX c) := fun s => by rw [yI_X]; exact Nat.le_refl _
theorem mn_K {c : Kp} : Mn (zK c) := fun s => by rw [yI_K]; exact Nat.le_refl _
theorem mn_M {lo hi : Nat} : Mn (fun s => (zM b len lo hi s).2) := fun s => by
  show yI s ≤ yI (zM b len lo hi s).2
  unfold zM
  split
  · split
    · exact mn_F s
    · exact mn_S s
  · exact mn_F s
theorem mn_Lf {c : Option Nat} : Mn (zLf b len c) := fun s => by
  unfold zLf
  split
  · cases c with
    | none => exact mn_F s
    | some c => exact (mn_X.c mn_S) (zV s (yV s + 1))
  · exact mn_F s
theorem mn_Xl {k1 w1 k2 w2 : Nat} {A : Ps → Ps} (a : Mn A) : ∀ n, Mn (zXl b len k1 w1 k2 w2 A n)
  | 0 => mn_i
  | n + 1 => fun s => by
    rw [zXl]
    split
    · exact ((mn_S.c a).c mn_X).c (mn_Xl a n) s
    · exact Nat.le_refl _
theorem mn_Jn {O : Ps → Ps} (o : Mn O) : Mn (zJn b len O) := (o.c (mn_Xl o 1600)).c (mn_Xl (o.c (mn_Xl o 1600)) 1600)
theorem mn_J : ∀ D, Mn (zJ b len D).1 ∧ Mn (zJ b len D).2
  | 0 => ⟨mn_F, mn_Jn mn_F⟩
  | D + 1 => by
    obtain ⟨i1, i2⟩ := mn_J D
    have o : Mn (zOn b len (zJ b len D)) := fun s => by
      unfold zOn
      split
      · exact mn_Lf s
      split
      · exact (mn_S.c i2).c mn_E s
      split
      · exact (mn_S.c i1).c mn_X s
      split
      · exact mn_Lf s
      split
      · exact mn_Lf s
      · exact mn_F s
    exact ⟨o, mn_Jn o⟩
theorem mn_G {L : Nat} {A : Ps → Ps} (a : Mn A) : ∀ n, Mn (zG b len L A n)
  | 0 => mn_i
  | n + 1 => fun s => by
    cases z : sgl L (kq b len s) with
    | none => rw [zG_n z]; exact Nat.le_refl _
    | some w => rw [zG_y z]; exact ((mn_S.c a).c mn_K).c (mn_G a n) s
theorem mn_Tm {U : Ps → Ps} (u : Mn U) : Mn (zTm b len U) := by rw [zTm_G]; exact u.c (mn_G u 1600)
theorem mn_Sm {U : Ps → Ps} (u : Mn U) : Mn (zSm b len U) := by rw [zSm_G]; exact (mn_Tm u).c (mn_G (mn_Tm u) 1600)
theorem mn_C {U : Ps → Ps} (u : Mn U) : Mn (zC b len U) := fun s => by
  cases z : sgl 4 (kq b len (zSm b len U s)) with
  | none => rw [zC_n z]; exact mn_Sm u s
  | some w => rw [zC_y z]; exact (((mn_Sm u).c mn_S).c (mn_Sm u)).c mn_K s
theorem mn_Or {N : Ps → Ps} (u : Mn N) : Mn (zOr b len N) := by
  have a : Mn (zAnd b len N) := by rw [zAnd_G]; exact u.c (mn_G u 1600)
  rw [zOr_G]; exact a.c (mn_G a 1600)
theorem mn_Un {B : Ps → Ps} (u : Mn B) : Mn (zUn b len B) := fun s => by
  unfold zUn
  split
  · split
    · exact (mn_M (b := b) (len := len) (lo := 0) (hi := 9999)).c mn_K (zU1 s)
    split
    · exact u (zU1 s)
    split
    · exact mn_K.c mn_S (zU1 s)
    · exact mn_F (zU1 s)
  · exact mn_F s
theorem mn_D : ∀ D, Mn (zD b len D).1 ∧ Mn (zD b len D).2
  | 0 => by
    have o : Mn (zD b len 0).1 := fun s => by
      by_cases z : kq b len s = 114
      · rw [zD_n0 z]; exact mn_F s
      · rw [zD_1 b len 0 s z]; exact mn_C (mn_Un (show Mn (zB b len 0) from mn_F)) s
    exact ⟨o, by rw [zD_2]; exact mn_Or o⟩
  | D + 1 => by
    obtain ⟨i1, i2⟩ := mn_D D
    have o : Mn (zD b len (D + 1)).1 := fun s => by
      by_cases z : kq b len s = 114
      · rw [zD_n1 z]; exact (mn_S.c i1).c mn_K s
      · rw [zD_1 b len (D + 1) s z]; exact mn_C (mn_Un (show Mn (zB b len (D + 1)) from (mn_S.c i2).c mn_E)) s
    exact ⟨o, by rw [zD_2]; exact mn_Or o⟩
theorem mn_Pl {n : Nat} : ∀ k, Mn (zPl b len n k)
  | 0 => mn_i
  | k + 1 => fun s => by
    rw [zPl]
    split
    · exact Nat.le_trans ((mn_M (b := b) (len := len) (lo := 0) (hi := n)).c mn_M s) (mn_Pl k (zAd (zM b len 0 n s).1 (zM b len 0 n (zM b len 0 n s).2).1 (zM b len 0 n (zM b len 0 n s).2).2))
    · exact Nat.le_refl _
theorem mn_Pr : Mn (zPr b len) := fun s => by
  unfold zPr
  split
  · exact ((mn_Pl 40).c mn_F) s
  · exact mn_Pl 40 s
theorem mn_Fn {name : Nat} {td : Bool} : Mn (zFn name td) := fun s => by
  cases td with
  | true => exact Nat.le_refl _
  | false => exact mn_X s
theorem mn_Nn : Mn (zNn b len) := Mn.i (Mn.i mn_S mn_F) mn_F
theorem mn_Rb : Mn (zRb b len) := fun s => by
  unfold zRb
  split
  · exact (mn_S.c mn_Pr) (zBg s)
  · exact (mn_E.c (mn_J 6).2) (zBg s)
theorem mn_Rl : Mn (zRl b len) := fun s => by
  unfold zRl
  split
  · exact Nat.le_trans (((mn_S (b := b) (len := len)).c mn_Nn).c mn_Rb s) (mn_Fn _)
  · exact mn_F s
theorem mn_Sl {j : Nat} : Mn (zSl b len j) := fun s => by
  unfold zSl
  refine Nat.le_trans ?_ (mn_S _)
  show yI s ≤ yI (if (yL s).testBit j then zF b len 2 s else s)
  split
  · exact mn_F s
  · exact Nat.le_refl _
theorem mn_Ln : Mn (zLn b len) := fun s => by
  unfold zLn
  split
  · unfold zLv
    split
    · exact mn_F s
    · exact (mn_Sl.c mn_M) s
  split
  · exact mn_Rl s
  split
  · exact (mn_Sl.c (mn_D 7).2) s
  split
  · exact (mn_Sl.c mn_M) s
  split
  · exact (mn_Sl.c mn_M) s
  · exact mn_F s
theorem zSl_0 {j : Nat} {s : Ps} (hf : yF s = 0) (hb : (yL s).testBit j = false) : zSl b len j s = (nx b len (yI s), 0, yP s, yL s ||| 2 ^ j, yV s, yN s) := by
  unfold zSl
  rw [hb, if_neg (by decide)]
  exact zS_0 hf
theorem zSl_F {j : Nat} {s : Ps} (hb : (yL s).testBit j = true) : yF (zSl b len j s) = yF (zF b len 2 s) ∧ yP (zSl b len j s) = yP (zF b len 2 s) := by
  unfold zSl
  rw [if_pos hb]
  have n : yF (zL (zF b len 2 s) (yL s ||| 2 ^ j)) ≠ 0 := zF_n (by decide)
  exact st_S _ n
end
