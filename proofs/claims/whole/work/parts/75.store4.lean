/-! The class's methods: a text stored, the end. -/
theorem so_ok {h H : MH} {x pa pb s1 v1 m : Nat} {S : Abs} {Rd : Ps} {cx : Nat → List Nat} {f : Nat → Nat → Int32} {g : Nat → Nat → Int64} (C : CSH h x pa pb s1 v1) (F : CF (hI h) (hL h) x pa S) (W : WS S) (P : WPn (yN Rd) cx) (r : RH h H x) (ev4 : ev M_Reader_read 0 0 [some (.ref (x + 36)), some (.ref (x + 1)), some (.int (nI (aN S))), some (.ref pb), none] [] h = some (some (.int (nI (decide (yF Rd = 0)).toNat)), wI (wL H g) f)) (x2 : TFF f g (x + 36) (aT S) (aN S) Rd) (x3 : PNF f g pb (vNr (yN Rd)) m (yN Rd)) (x6 : FRD (x + 36) pb (hI h) f) (x7 : FRD (x + 36) pb (hL h) g) (x8 : g (x + 36 + 2) = hL h (x + 36 + 2)) (z : yF Rd = 0) : StO h x s1 v1 (nI (vNr (yN Rd))) (anw (aT S) (yN Rd) cx (aM S)) := by
  have hC3 := so_C (H := wL H g) C (RH_L r)
  have hX := XH_i (g := g) (pa := pa) (pb := pb) (RH_L (g := g) r) rfl
  obtain ⟨hH, hH36, hH37, hc, hn, ht, hsz⟩ := r
  have PP := C.2.2.2.2.2.2.2.2.2.2.2.2.2.2.2
  have q2 := C.1.2.2.1
  have q3 := C.1.2.2.2.1
  have hD : hC (wI (wL H g) f) x = 12 := (congrFun hc x).trans C.1.1
  have fsg : hI h (x + 168) 0 = nI (aM S) := F.2.2.2.2.2.2.2.2.1
  have d0 := x2.1
  have d1 := x2.2.1
  rw [z] at d0
  rw [if_pos z] at d1
  rw [decide_eq_true z] at ev4
  have w1 : ¬ nI (true).toNat = nI 0 := n10
  have run := fun (Q : Option Value → MH → Prop) B2 => so_run (Q := Q) C F.1.1 ev4 hD ((hH x 2 (by omega) (by omega)).trans q2) ((hH x 3 (by omega) (by omega)).trans q3) (fun w => absurd w w1) (fun _ => B2)
  rw [wI_s, sR_w, sR_w] at run
  have hn5 : vNr (yN Rd) ≤ 5 := P.1.2.2.2.1
  have N : PNF (up2 f x 1 (nI 0)) (hL (sR (sR (wL H g) x 2 pb) x 3 pa)) pb (vNr (yN Rd)) 1 (yN Rd) := PNF_o hn5 x3 (fun a h1 h2 => up2_a (by omega))
  have tm : up2 f x 1 (nI 0) (x + 168) 0 = nI (aM S) := by rw [up2_a (by omega), x6 _ (by omega) (by omega) (by omega)]; exact fsg
  obtain ⟨f', a1, a2, a3, a4, a5, a6, a7, a8, a9⟩ := pt_anew hC3 P N tm
  exact so_ok1 C F W P hC3 hX run a1 x3 x6 x7 x8 d0 d1 a2 a3 a4 a5 a6 a7 (by rw [a8 1 (by decide), up2_s]) (fun a h1 h2 => by rw [a9 a h1 h2, up2_a h1])
theorem c_store {h : MH} {x pa pb s1 v1 : Nat} {S : Abs} (C : CSH h x pa pb s1 v1) (F : CF (hI h) (hL h) x pa S) (W : WS S) (hs : hI h s1 1 = nI 0) (hv : ∀ j, j < 11 → hI h v1 (100 + j) = nI (tx1.getD j 0)) (hP : yF (rdS S) = 0 → WPn (yN (rdS S)) (spl (vXs (yN (rdS S))) [])) : StO h x s1 v1 (sStore S) (uStore S) := by
  have D : RD0 h (x + 36) pb (x + 1) s1 v1 := by
    obtain ⟨-, PA, PB, -, -, -, -, -, -, -, -, ⟨lC, lN1, tC, tN⟩, ⟨rC, rR1, sC, sR1, wC, wN⟩, ⟨st1, st2, st3, st4, st5, st6⟩, ⟨sx1, sx2, x0⟩, PP⟩ := id C
    exact ⟨rC, rR1, sC, sR1, wC, wN, tC, tN, st1, st2, st3, st4, st5, st6, PB, by omega, by omega, by omega, by omega, by omega, by omega⟩
  have rd := rd_read (g := hL h) (f := hI h) (b := aT S) (len := aN S) D W.1.2 W.1.1 F.1.2 hs hv F.2.2.2.1
  have eh : wI (wL h (hL h)) (hI h) = h := rfl
  rw [eh, show cRead (aT S) (aN S) = rdS S from rfl] at rd
  unfold sStore uStore
  generalize rdS S = Rd at *
  obtain ⟨v, h4, ev4, ev5, ⟨f, g, e4, x1, x2, x3, x4, x5, x6, x7, x8⟩, nb⟩ := rd
  subst ev5
  subst e4
  by_cases z : yF Rd = 0
  · rw [if_pos z, if_pos z]
    exact so_ok C F W (hP z) RH_i ev4 x2 x3 x6 x7 x8 z
  · rw [if_neg z, if_neg z]
    exact so_fail C F W RH_i ev4 x2 x4 x6 x7 x8 z
