/-! What each stretch of the code does, by program (wip/whole/gen2.py). -/
theorem r_Box_init_0 (x0 : Nat) (h : MH) : ev M_Box_init 0 0 [some (.ref x0), none] [] h =
    okN (nI 5) fun n2 =>
    let h1 := nw h 24 n2
    isC h1 x0 1 (
    let h3 := sR h1 x0 2 (hT h)
    ev M_Box_init 0 9 [some (.ref x0), some (.int (nI 0))] [] h3) := (ev_eq _ _ _ _ _ _).trans rfl
theorem r_Box_init_9 (x0 : Nat) (x1 : Int32) (h : MH) : ev M_Box_init 0 9 [some (.ref x0), some (.int x1)] [] h =
    br (x1 < (nI 5))
      (isC h x0 1 (nnR (hR h x0 2) fun r1 =>
       let h2 := nw h 3 2
       rV (ev M_Grid_init 0 0 [some (.ref (hT h))] [] h2) fun h3 =>
       isC h3 r1 24 (inA h3 r1 x1 (
       isC h3 (hT h) 3 (let h4 := sR h3 r1 (Int32.toNatClampNeg x1) (hT h)
       ev M_Box_init 0 20 [some (.ref x0), some (.int x1)] [] h4)))))
      (some (none, h)) := (ev_eq _ _ _ _ _ _).trans rfl
theorem r_Box_init_20 (x0 : Nat) (x1 : Int32) (h : MH) : ev M_Box_init 0 20 [some (.ref x0), some (.int x1)] [] h =
    ev M_Box_init 0 9 [some (.ref x0), some (.int (x1 + (nI 1)))] [] h := (ev_eq _ _ _ _ _ _).trans rfl
theorem r_Box_keep_0 (x0 : Nat) (x1 : Nat) (h : MH) : ev M_Box_keep 0 0 [some (.ref x0), some (.ref x1), none] [] h =
    isC h x0 1 (
    isZ (nI 1) (let h1 := sI h x0 0 (nI 1)
    isC h1 x1 7 (
    isC h1 x0 1 (
    let h2 := sI h1 x0 1 (hI h1 x1 1)
    ev M_Box_keep 0 10 [some (.ref x0), some (.ref x1), some (.int (nI 0))] [] h2)))) := (ev_eq _ _ _ _ _ _).trans rfl
theorem r_Box_keep_10 (x0 : Nat) (x1 : Nat) (x2 : Int32) (h : MH) : ev M_Box_keep 0 10 [some (.ref x0), some (.ref x1), some (.int x2)] [] h =
    br (x2 < (nI 5))
      (isC h x0 1 (nnR (hR h x0 2) fun r1 =>
       isC h r1 24 (inA h r1 x2 (nnR (hR h r1 (Int32.toNatClampNeg x2)) fun r2 =>
       isC h x1 7 (nnR (hR h x1 0) fun r3 =>
       isC h r3 24 (inA h r3 x2 (nnR (hR h r3 (Int32.toNatClampNeg x2)) fun r4 =>
       isC h r2 3 (rV (ev M_Grid_copyFrom 0 0 [some (.ref r2), some (.ref r4)] [] h) fun h5 =>
       ev M_Box_keep 0 10 [some (.ref x0), some (.ref x1), some (.int (x2 + (nI 1)))] [] h5))))))))
      (some (none, h)) := (ev_eq _ _ _ _ _ _).trans rfl
theorem r_Box_giveBack_0 (x0 : Nat) (x1 : Nat) (h : MH) : ev M_Box_giveBack 0 0 [some (.ref x0), some (.ref x1), none] [] h =
    isC h x0 1 (
    isC h x1 7 (
    let h1 := sI h x1 1 (hI h x0 1)
    ev M_Box_giveBack 0 7 [some (.ref x0), some (.ref x1), some (.int (nI 0))] [] h1)) := (ev_eq _ _ _ _ _ _).trans rfl
theorem r_Box_giveBack_7 (x0 : Nat) (x1 : Nat) (x2 : Int32) (h : MH) : ev M_Box_giveBack 0 7 [some (.ref x0), some (.ref x1), some (.int x2)] [] h =
    br (x2 < (nI 5))
      (isC h x1 7 (nnR (hR h x1 0) fun r1 =>
       isC h r1 24 (inA h r1 x2 (nnR (hR h r1 (Int32.toNatClampNeg x2)) fun r2 =>
       isC h x0 1 (nnR (hR h x0 2) fun r3 =>
       isC h r3 24 (inA h r3 x2 (nnR (hR h r3 (Int32.toNatClampNeg x2)) fun r4 =>
       isC h r2 3 (rV (ev M_Grid_copyFrom 0 0 [some (.ref r2), some (.ref r4)] [] h) fun h5 =>
       ev M_Box_giveBack 0 7 [some (.ref x0), some (.ref x1), some (.int (x2 + (nI 1)))] [] h5))))))))
      (some (none, h)) := (ev_eq _ _ _ _ _ _).trans rfl
theorem r_Formula_init_0 (x0 : Nat) (h : MH) : ev M_Formula_init 0 0 [some (.ref x0)] [] h =
    okN (nI 320) fun n2 =>
    let h1 := nw h 20 n2
    isC h1 x0 2 (
    let h3 := sR h1 x0 0 (hT h)
    okN (nI 32) fun n5 =>
    let h4 := nw h3 20 n5
    isC h4 x0 2 (
    let h6 := sR h4 x0 2 (hT h3)
    ev M_Formula_init 0 11 [none] [] h6)) := (ev_eq _ _ _ _ _ _).trans rfl
theorem r_Formula_init_11  (h : MH) : ev M_Formula_init 0 11 [none] [] h =
    some (none, h) := (ev_eq _ _ _ _ _ _).trans rfl
theorem r_Formula_clear_0 (x0 : Nat) (h : MH) : ev M_Formula_clear 0 0 [some (.ref x0)] [] h =
    isC h x0 2 (
    let h1 := sI h x0 1 (nI 0)
    some (none, h1)) := (ev_eq _ _ _ _ _ _).trans rfl
theorem r_Formula_addNumber_0 (x0 : Nat) (x1 : Int32) (h : MH) : ev M_Formula_addNumber 0 0 [some (.ref x0), some (.int x1)] [] h =
    isC h x0 2 (rV (ev M_Formula_addPart 0 0 [some (.ref x0), some (.int ((mI 1) - x1))] [] h) fun h1 =>
    some (none, h1)) := (ev_eq _ _ _ _ _ _).trans rfl
theorem r_Formula_addPart_0 (x0 : Nat) (x1 : Int32) (h : MH) : ev M_Formula_addPart 0 0 [some (.ref x0), some (.int x1)] [] h =
    isC h x0 2 (
    br ((hI h x0 1) < (nI 320))
      (isC h x0 2 (nnR (hR h x0 0) fun r1 =>
       isC h x0 2 (
       isC h r1 20 (inA h r1 (hI h x0 1) (
       let h2 := sI h r1 (Int32.toNatClampNeg (hI h x0 1)) x1
       isC h2 x0 2 (
       isC h2 x0 2 (
       let h3 := sI h2 x0 1 ((hI h2 x0 1) + (nI 1))
       some (none, h3))))))))
      (some (none, h))) := (ev_eq _ _ _ _ _ _).trans rfl
theorem r_Formula_work_0 (x0 : Nat) (x1 : Int32) (x2 : Int32) (x3 : Int32) (h : MH) : ev M_Formula_work 0 0 [some (.ref x0), some (.int x1), some (.int x2), some (.int x3), none, none, none] [] h =
    isC h x0 2 (
    br ((hI h x0 1) = (nI 0))
      (some (some (.int (nI 1)), h))
      (ev M_Formula_work 0 10 [some (.ref x0), some (.int x1), some (.int x2), some (.int x3), some (.int (nI 0)), some (.int (nI 0)), none] [] h)) := (ev_eq _ _ _ _ _ _).trans rfl
set_option maxRecDepth 100000 in
set_option maxHeartbeats 4000000 in
theorem r_Formula_work_10 (x0 : Nat) (x1 : Int32) (x2 : Int32) (x3 : Int32) (x4 : Int32) (x5 : Int32) (h : MH) : ev M_Formula_work 0 10 [some (.ref x0), some (.int x1), some (.int x2), some (.int x3), some (.int x4), some (.int x5), none] [] h =
    isC h x0 2 (
    br (x5 < (hI h x0 1))
      (isC h x0 2 (nnR (hR h x0 0) fun r1 =>
       isC h r1 20 (inA h r1 x5 (
       rI (ev M_Formula_isUnit 0 0 [some (.int (hI h r1 (Int32.toNatClampNeg x5)))] [] h) fun y3 h2 =>
       br (y3 = (nI 0))
         (br ((hI h r1 (Int32.toNatClampNeg x5)) = (nI 114))
            (br ((nI 0) < x4)
               (isC h2 x0 2 (nnR (hR h2 x0 2) fun r4 =>
                isC h2 x0 2 (nnR (hR h2 x0 2) fun r5 =>
                isC h2 r5 20 (inA h2 r5 (x4 - (nI 1)) (
                br ((hI h2 r5 (Int32.toNatClampNeg (x4 - (nI 1)))) = (nI 0))
                  (ev M_Formula_work 0 57 [some (.ref x0), some (.int x1), some (.int x2), some (.int x3), some (.int x4), some (.int x5), none] [(.int (nI 1)), (.int (x4 - (nI 1))), (.ref r4)] h2)
                  (ev M_Formula_work 0 57 [some (.ref x0), some (.int x1), some (.int x2), some (.int x3), some (.int x4), some (.int x5), none] [(.int (nI 0)), (.int (x4 - (nI 1))), (.ref r4)] h2))))))
               (ev M_Formula_work 0 82 [some (.ref x0), some (.int x1), some (.int x2), some (.int x3), some (.int x4), some (.int x5), none] [] h2))
            (br ((nI 1) < x4)
               (isC h2 x0 2 (nnR (hR h2 x0 2) fun r6 =>
                isC h2 x0 2 (nnR (hR h2 x0 2) fun r7 =>
                isC h2 r7 20 (inA h2 r7 ((x4 + (mI 1)) - (nI 1)) (
                isC h2 x0 2 (nnR (hR h2 x0 2) fun r8 =>
                isC h2 r8 20 (inA h2 r8 (x4 + (mI 1)) (
                rI (ev M_Formula_reckon 0 0 [some (.int (hI h r1 (Int32.toNatClampNeg x5))), some (.int (hI h2 r7 (Int32.toNatClampNeg ((x4 + (mI 1)) - (nI 1))))), some (.int (hI h2 r8 (Int32.toNatClampNeg (x4 + (mI 1)))))] [] h2) fun y10 h9 =>
                isC h9 r6 20 (inA h9 r6 ((x4 + (mI 1)) - (nI 1)) (
                let h11 := sI h9 r6 (Int32.toNatClampNeg ((x4 + (mI 1)) - (nI 1))) y10
                ev M_Formula_work 0 82 [some (.ref x0), some (.int x1), some (.int x2), some (.int x3), some (.int (x4 + (mI 1))), some (.int x5), none] [] h11))))))))))
               (ev M_Formula_work 0 82 [some (.ref x0), some (.int x1), some (.int x2), some (.int x3), some (.int x4), some (.int x5), none] [] h2)))
         (br (x4 < (nI 32))
            (isC h2 x0 2 (nnR (hR h2 x0 2) fun r12 =>
             rI (ev M_Formula_unitWorth 0 0 [some (.int (hI h r1 (Int32.toNatClampNeg x5))), some (.int x1), some (.int x2), some (.int x3)] [] h2) fun y14 h13 =>
             isC h13 r12 20 (inA h13 r12 x4 (
             let h15 := sI h13 r12 (Int32.toNatClampNeg x4) y14
             ev M_Formula_work 0 82 [some (.ref x0), some (.int x1), some (.int x2), some (.int x3), some (.int (x4 + (nI 1))), some (.int x5), none] [] h15))))
            (ev M_Formula_work 0 82 [some (.ref x0), some (.int x1), some (.int x2), some (.int x3), some (.int x4), some (.int x5), none] [] h2))))))
      (isC h x0 2 (nnR (hR h x0 2) fun r16 =>
       isC h r16 20 (inA h r16 (nI 0) (
       some (some (.int (hI h r16 (Int32.toNatClampNeg (nI 0)))), h)))))) := (ev_eq _ _ _ _ _ _).trans rfl
theorem r_Formula_work_57 (x0 : Nat) (x1 : Int32) (x2 : Int32) (x3 : Int32) (x4 : Int32) (x5 : Int32) (s0 : Nat) (s1 : Int32) (s2 : Int32) (h : MH) : ev M_Formula_work 0 57 [some (.ref x0), some (.int x1), some (.int x2), some (.int x3), some (.int x4), some (.int x5), none] [(.int s2), (.int s1), (.ref s0)] h =
    isC h s0 20 (inA h s0 s1 (
    let h1 := sI h s0 (Int32.toNatClampNeg s1) s2
    ev M_Formula_work 0 82 [some (.ref x0), some (.int x1), some (.int x2), some (.int x3), some (.int x4), some (.int x5), none] [] h1)) := (ev_eq _ _ _ _ _ _).trans rfl
theorem r_Formula_work_82 (x0 : Nat) (x1 : Int32) (x2 : Int32) (x3 : Int32) (x4 : Int32) (x5 : Int32) (h : MH) : ev M_Formula_work 0 82 [some (.ref x0), some (.int x1), some (.int x2), some (.int x3), some (.int x4), some (.int x5), none] [] h =
    ev M_Formula_work 0 10 [some (.ref x0), some (.int x1), some (.int x2), some (.int x3), some (.int x4), some (.int (x5 + (nI 1))), none] [] h := (ev_eq _ _ _ _ _ _).trans rfl
theorem r_Formula_isUnit_0 (x0 : Int32) (h : MH) : ev M_Formula_isUnit 0 0 [some (.int x0)] [] h =
    br (x0 < (nI 0))
      (ev M_Formula_isUnit 0 12 [none] [] h)
      (br (x0 = (nI 115))
         (ev M_Formula_isUnit 0 12 [none] [] h)
         (br (x0 = (nI 116))
            (ev M_Formula_isUnit 0 12 [none] [] h)
            (br (x0 = (nI 117))
               (ev M_Formula_isUnit 0 12 [none] [] h)
               (isZ (nI 0) (some (some (.int (nI 0)), h)))))) := (ev_eq _ _ _ _ _ _).trans rfl
theorem r_Formula_isUnit_12  (h : MH) : ev M_Formula_isUnit 0 12 [none] [] h =
    isZ (nI 1) (some (some (.int (nI 1)), h)) := (ev_eq _ _ _ _ _ _).trans rfl
theorem r_Formula_unitWorth_0 (x0 : Int32) (x1 : Int32) (x2 : Int32) (x3 : Int32) (h : MH) : ev M_Formula_unitWorth 0 0 [some (.int x0), some (.int x1), some (.int x2), some (.int x3)] [] h =
    br (x0 = (nI 115))
      (some (some (.int x1), h))
      (br (x0 = (nI 116))
      (some (some (.int x2), h))
      (br (x0 = (nI 117))
      (some (some (.int x3), h))
      (some (some (.int ((mI 1) - x0)), h)))) := (ev_eq _ _ _ _ _ _).trans rfl
set_option maxRecDepth 100000 in
set_option maxHeartbeats 4000000 in
theorem r_Formula_reckon_0 (x0 : Int32) (x1 : Int32) (x2 : Int32) (h : MH) : ev M_Formula_reckon 0 0 [some (.int x0), some (.int x1), some (.int x2)] [] h =
    br (x0 = (nI 37))
      (br (x2 = (nI 0))
         (some (some (.int (nI 0)), h))
         (nz x2 (
          some (some (.int (x1 - x1 / x2 * x2)), h))))
      (br (x0 = (nI 42))
      (some (some (.int (x1 * x2)), h))
      (br (x0 = (nI 43))
      (some (some (.int (x1 + x2)), h))
      (br (x0 = (nI 45))
      (some (some (.int (x1 - x2)), h))
      (br (x0 = (nI 47))
      (br (x2 = (nI 0))
         (some (some (.int (nI 0)), h))
         (nz x2 (
          some (some (.int (x1 / x2)), h))))
      (br (x0 = (nI 60))
      (br (x1 < x2)
         (some (some (.int (nI 1)), h))
         (some (some (.int (nI 0)), h)))
      (br (x0 = (nI 61))
      (br (x1 = x2)
         (some (some (.int (nI 1)), h))
         (some (some (.int (nI 0)), h)))
      (br (x0 = (nI 62))
      (br (x2 < x1)
         (some (some (.int (nI 1)), h))
         (some (some (.int (nI 0)), h)))
      (br (x0 = (nI 109))
      (br (x1 = (nI 0))
         (some (some (.int (nI 0)), h))
         (br (x2 = (nI 0))
            (some (some (.int (nI 0)), h))
            (some (some (.int (nI 1)), h))))
      (br (x1 = (nI 0))
         (br (x2 = (nI 0))
            (some (some (.int (nI 0)), h))
            (ev M_Formula_reckon 0 64 [none, none, none] [] h))
         (ev M_Formula_reckon 0 64 [none, none, none] [] h)))))))))) := (ev_eq _ _ _ _ _ _).trans rfl
theorem r_Formula_reckon_64  (h : MH) : ev M_Formula_reckon 0 64 [none, none, none] [] h =
    some (some (.int (nI 1)), h) := (ev_eq _ _ _ _ _ _).trans rfl
theorem r_Grid_init_0 (x0 : Nat) (h : MH) : ev M_Grid_init 0 0 [some (.ref x0)] [] h =
    okN (nI 16) fun n2 =>
    let h1 := nw h 20 n2
    isC h1 x0 3 (
    let h3 := sR h1 x0 0 (hT h)
    some (none, h3)) := (ev_eq _ _ _ _ _ _).trans rfl
theorem r_Grid_clear_0 (x0 : Nat) (x1 : Int32) (h : MH) : ev M_Grid_clear 0 0 [some (.ref x0), some (.int x1)] [] h =
    isC h x0 3 (
    let h1 := sI h x0 1 (if (nI 0) < (if (nI 16) < x1 then (nI 16) else x1) then (if (nI 16) < x1 then (nI 16) else x1) else (nI 0))
    isC h1 x0 3 (nnR (hR h1 x0 0) fun r2 =>
    rV (ev M_Arrays_fill 0 0 [some (.ref r2), some (.int (nI 0)), none, none] [] h1) fun h3 =>
    some (none, h3))) := (ev_eq _ _ _ _ _ _).trans rfl
theorem r_Grid_copyFrom_0 (x0 : Nat) (x1 : Nat) (h : MH) : ev M_Grid_copyFrom 0 0 [some (.ref x0), some (.ref x1)] [] h =
    isC h x1 3 (
    isC h x0 3 (
    let h1 := sI h x0 1 (hI h x1 1)
    isC h1 x1 3 (nnR (hR h1 x1 0) fun r2 =>
    isC h1 x0 3 (nnR (hR h1 x0 0) fun r3 =>
    isC h1 r2 20 (isC h1 r3 20 (if (nI 16) < 0 ∨ (nI 0) < 0 ∨ (nI 0) < 0 ∨ hN h1 r2 < (Int32.toNatClampNeg (nI 0)) + (Int32.toNatClampNeg (nI 16)) ∨ hN h1 r3 < (Int32.toNatClampNeg (nI 0)) + (Int32.toNatClampNeg (nI 16)) then none else
    let h4 := cpI h1 r2 (Int32.toNatClampNeg (nI 0)) r3 (Int32.toNatClampNeg (nI 0)) (Int32.toNatClampNeg (nI 16))
    some (none, h4))))))) := (ev_eq _ _ _ _ _ _).trans rfl
theorem r_Grid_isInside_0 (x0 : Nat) (x1 : Int32) (x2 : Int32) (h : MH) : ev M_Grid_isInside 0 0 [some (.ref x0), some (.int x1), some (.int x2)] [] h =
    br (x1 < (nI 0))
      (isZ (nI 0) (some (some (.int (nI 0)), h)))
      (isC h x0 3 (
       br (x1 < (hI h x0 1))
         (br (x2 < (nI 0))
            (isZ (nI 0) (some (some (.int (nI 0)), h)))
            (isC h x0 3 (
             br (x2 < (hI h x0 1))
               (isZ (nI 1) (some (some (.int (nI 1)), h)))
               (isZ (nI 0) (some (some (.int (nI 0)), h))))))
         (isZ (nI 0) (some (some (.int (nI 0)), h))))) := (ev_eq _ _ _ _ _ _).trans rfl
theorem r_Grid_holds_0 (x0 : Nat) (x1 : Int32) (x2 : Int32) (h : MH) : ev M_Grid_holds 0 0 [some (.ref x0), some (.int x1), some (.int x2)] [] h =
    isC h x0 3 (rI (ev M_Grid_isInside 0 0 [some (.ref x0), some (.int x1), some (.int x2)] [] h) fun y2 h1 =>
    br (y2 = (nI 0))
      (isZ (nI 0) (some (some (.int (nI 0)), h1)))
      (isC h1 x0 3 (nnR (hR h1 x0 0) fun r3 =>
       isC h1 r3 20 (inA h1 r3 x1 (
       br ((((hI h1 r3 (Int32.toNatClampNeg x1)) >>> (x2 &&& 31)) &&& (nI 1)) = (nI 1))
         (isZ (nI 1) (some (some (.int (nI 1)), h1)))
         (isZ (nI 0) (some (some (.int (nI 0)), h1)))))))) := (ev_eq _ _ _ _ _ _).trans rfl
theorem r_Grid_turn_0 (x0 : Nat) (x1 : Int32) (x2 : Int32) (h : MH) : ev M_Grid_turn 0 0 [some (.ref x0), some (.int x1), some (.int x2)] [] h =
    isC h x0 3 (rI (ev M_Grid_isInside 0 0 [some (.ref x0), some (.int x1), some (.int x2)] [] h) fun y2 h1 =>
    br (y2 = (nI 0))
      (some (none, h1))
      (isC h1 x0 3 (nnR (hR h1 x0 0) fun r3 =>
       isC h1 r3 20 (inA h1 r3 x1 (
       isC h1 r3 20 (inA h1 r3 x1 (
       let h4 := sI h1 r3 (Int32.toNatClampNeg x1) ((hI h1 r3 (Int32.toNatClampNeg x1)) ^^^ ((nI 1) <<< (x2 &&& 31)))
       some (none, h4)))))))) := (ev_eq _ _ _ _ _ _).trans rfl
theorem r_Grid_add_0 (x0 : Nat) (x1 : Int32) (x2 : Int32) (h : MH) : ev M_Grid_add 0 0 [some (.ref x0), some (.int x1), some (.int x2)] [] h =
    isC h x0 3 (rI (ev M_Grid_isInside 0 0 [some (.ref x0), some (.int x1), some (.int x2)] [] h) fun y2 h1 =>
    br (y2 = (nI 0))
      (some (none, h1))
      (isC h1 x0 3 (nnR (hR h1 x0 0) fun r3 =>
       isC h1 r3 20 (inA h1 r3 x1 (
       isC h1 r3 20 (inA h1 r3 x1 (
       let h4 := sI h1 r3 (Int32.toNatClampNeg x1) ((hI h1 r3 (Int32.toNatClampNeg x1)) ||| ((nI 1) <<< (x2 &&& 31)))
       some (none, h4)))))))) := (ev_eq _ _ _ _ _ _).trans rfl
theorem r_Grid_fillSame_0 (x0 : Nat) (x1 : Int32) (h : MH) : ev M_Grid_fillSame 0 0 [some (.ref x0), some (.int x1), none] [] h =
    isC h x0 3 (rV (ev M_Grid_clear 0 0 [some (.ref x0), some (.int x1)] [] h) fun h1 =>
    ev M_Grid_fillSame 0 6 [some (.ref x0), none, some (.int (nI 0))] [] h1) := (ev_eq _ _ _ _ _ _).trans rfl
theorem r_Grid_fillSame_6 (x0 : Nat) (x2 : Int32) (h : MH) : ev M_Grid_fillSame 0 6 [some (.ref x0), none, some (.int x2)] [] h =
    isC h x0 3 (
    br (x2 < (hI h x0 1))
      (isC h x0 3 (nnR (hR h x0 0) fun r1 =>
       isC h r1 20 (inA h r1 x2 (
       let h2 := sI h r1 (Int32.toNatClampNeg x2) ((nI 1) <<< (x2 &&& 31))
       ev M_Grid_fillSame 0 6 [some (.ref x0), none, some (.int (x2 + (nI 1)))] [] h2))))
      (some (none, h))) := (ev_eq _ _ _ _ _ _).trans rfl
theorem r_Grid_fillAll_0 (x0 : Nat) (x1 : Int32) (h : MH) : ev M_Grid_fillAll 0 0 [some (.ref x0), some (.int x1), none] [] h =
    isC h x0 3 (rV (ev M_Grid_clear 0 0 [some (.ref x0), some (.int x1)] [] h) fun h1 =>
    ev M_Grid_fillAll 0 6 [some (.ref x0), none, some (.int (nI 0))] [] h1) := (ev_eq _ _ _ _ _ _).trans rfl
theorem r_Grid_fillAll_6 (x0 : Nat) (x2 : Int32) (h : MH) : ev M_Grid_fillAll 0 6 [some (.ref x0), none, some (.int x2)] [] h =
    isC h x0 3 (
    br (x2 < (hI h x0 1))
      (isC h x0 3 (nnR (hR h x0 0) fun r1 =>
       isC h x0 3 (
       isC h r1 20 (inA h r1 x2 (
       let h2 := sI h r1 (Int32.toNatClampNeg x2) (((nI 1) <<< ((hI h x0 1) &&& 31)) - (nI 1))
       ev M_Grid_fillAll 0 6 [some (.ref x0), none, some (.int (x2 + (nI 1)))] [] h2)))))
      (some (none, h))) := (ev_eq _ _ _ _ _ _).trans rfl
theorem r_Grid_join_0 (x0 : Nat) (x1 : Int32) (x2 : Nat) (x3 : Nat) (h : MH) : ev M_Grid_join 0 0 [some (.ref x0), some (.int x1), some (.ref x2), some (.ref x3), none, none] [] h =
    isC h x2 3 (
    isC h x0 3 (rV (ev M_Grid_clear 0 0 [some (.ref x0), some (.int (hI h x2 1))] [] h) fun h1 =>
    ev M_Grid_join 0 7 [some (.ref x0), some (.int x1), some (.ref x2), some (.ref x3), some (.int (nI 0)), none] [] h1)) := (ev_eq _ _ _ _ _ _).trans rfl
set_option maxRecDepth 100000 in
set_option maxHeartbeats 4000000 in
theorem r_Grid_join_7 (x0 : Nat) (x1 : Int32) (x2 : Nat) (x3 : Nat) (x4 : Int32) (h : MH) : ev M_Grid_join 0 7 [some (.ref x0), some (.int x1), some (.ref x2), some (.ref x3), some (.int x4), none] [] h =
    isC h x0 3 (
    br (x4 < (hI h x0 1))
      (isC h x2 3 (nnR (hR h x2 0) fun r1 =>
       isC h r1 20 (inA h r1 x4 (
       br (x1 = (nI 0))
         (isC h x0 3 (nnR (hR h x0 0) fun r2 =>
          isC h x3 3 (nnR (hR h x3 0) fun r3 =>
          isC h r3 20 (inA h r3 x4 (
          isC h r2 20 (inA h r2 x4 (
          let h4 := sI h r2 (Int32.toNatClampNeg x4) ((hI h r1 (Int32.toNatClampNeg x4)) ||| (hI h r3 (Int32.toNatClampNeg x4)))
          ev M_Grid_join 0 71 [some (.ref x0), some (.int x1), some (.ref x2), some (.ref x3), some (.int x4), none] [] h4)))))))
         (br (x1 = (nI 1))
         (isC h x0 3 (nnR (hR h x0 0) fun r5 =>
          isC h x3 3 (nnR (hR h x3 0) fun r6 =>
          isC h r6 20 (inA h r6 x4 (
          isC h r5 20 (inA h r5 x4 (
          let h7 := sI h r5 (Int32.toNatClampNeg x4) ((hI h r1 (Int32.toNatClampNeg x4)) &&& (hI h r6 (Int32.toNatClampNeg x4)))
          ev M_Grid_join 0 71 [some (.ref x0), some (.int x1), some (.ref x2), some (.ref x3), some (.int x4), none] [] h7)))))))
         (br (x1 = (nI 2))
         (isC h x0 3 (nnR (hR h x0 0) fun r8 =>
          isC h x3 3 (nnR (hR h x3 0) fun r9 =>
          isC h r9 20 (inA h r9 x4 (
          isC h r8 20 (inA h r8 x4 (
          let h10 := sI h r8 (Int32.toNatClampNeg x4) ((hI h r1 (Int32.toNatClampNeg x4)) &&& ((hI h r9 (Int32.toNatClampNeg x4)) ^^^ (mI 1)))
          ev M_Grid_join 0 71 [some (.ref x0), some (.int x1), some (.ref x2), some (.ref x3), some (.int x4), none] [] h10)))))))
         (br (x1 = (nI 3))
         (isC h x0 3 (nnR (hR h x0 0) fun r11 =>
          isC h x3 3 (rI (ev M_Grid_stepFrom 0 0 [some (.ref x3), some (.int (hI h r1 (Int32.toNatClampNeg x4))), none, none] [] h) fun y13 h12 =>
          isC h12 r11 20 (inA h12 r11 x4 (
          let h14 := sI h12 r11 (Int32.toNatClampNeg x4) y13
          ev M_Grid_join 0 71 [some (.ref x0), some (.int x1), some (.ref x2), some (.ref x3), some (.int x4), none] [] h14)))))
         (isC h x0 3 (nnR (hR h x0 0) fun r15 =>
          isC h x3 3 (rI (ev M_Grid_rowsWith 0 0 [some (.ref x3), some (.int x4), none, none] [] h) fun y17 h16 =>
          isC h16 r15 20 (inA h16 r15 x4 (
          let h18 := sI h16 r15 (Int32.toNatClampNeg x4) ((hI h r1 (Int32.toNatClampNeg x4)) ||| y17)
          ev M_Grid_join 0 71 [some (.ref x0), some (.int x1), some (.ref x2), some (.ref x3), some (.int x4), none] [] h18))))))))))))
      (some (none, h))) := (ev_eq _ _ _ _ _ _).trans rfl
theorem r_Grid_join_71 (x0 : Nat) (x1 : Int32) (x2 : Nat) (x3 : Nat) (x4 : Int32) (h : MH) : ev M_Grid_join 0 71 [some (.ref x0), some (.int x1), some (.ref x2), some (.ref x3), some (.int x4), none] [] h =
    ev M_Grid_join 0 7 [some (.ref x0), some (.int x1), some (.ref x2), some (.ref x3), some (.int (x4 + (nI 1))), none] [] h := (ev_eq _ _ _ _ _ _).trans rfl
theorem r_Grid_changeOver_0 (x0 : Nat) (x1 : Nat) (h : MH) : ev M_Grid_changeOver 0 0 [some (.ref x0), some (.ref x1), none] [] h =
    isC h x1 3 (
    isC h x0 3 (rV (ev M_Grid_clear 0 0 [some (.ref x0), some (.int (hI h x1 1))] [] h) fun h1 =>
    ev M_Grid_changeOver 0 7 [some (.ref x0), some (.ref x1), some (.int (nI 0))] [] h1)) := (ev_eq _ _ _ _ _ _).trans rfl
theorem r_Grid_changeOver_7 (x0 : Nat) (x1 : Nat) (x2 : Int32) (h : MH) : ev M_Grid_changeOver 0 7 [some (.ref x0), some (.ref x1), some (.int x2)] [] h =
    isC h x0 3 (
    br (x2 < (hI h x0 1))
      (isC h x0 3 (nnR (hR h x0 0) fun r1 =>
       isC h x1 3 (rI (ev M_Grid_rowsWith 0 0 [some (.ref x1), some (.int x2), none, none] [] h) fun y3 h2 =>
       isC h2 r1 20 (inA h2 r1 x2 (
       let h4 := sI h2 r1 (Int32.toNatClampNeg x2) y3
       ev M_Grid_changeOver 0 7 [some (.ref x0), some (.ref x1), some (.int (x2 + (nI 1)))] [] h4)))))
      (some (none, h))) := (ev_eq _ _ _ _ _ _).trans rfl
theorem r_Grid_stepFrom_0 (x0 : Nat) (x1 : Int32) (h : MH) : ev M_Grid_stepFrom 0 0 [some (.ref x0), some (.int x1), none, none] [] h =
    ev M_Grid_stepFrom 0 5 [some (.ref x0), some (.int x1), some (.int (nI 0)), some (.int (nI 0))] [] h := (ev_eq _ _ _ _ _ _).trans rfl
theorem r_Grid_stepFrom_5 (x0 : Nat) (x1 : Int32) (x2 : Int32) (x3 : Int32) (h : MH) : ev M_Grid_stepFrom 0 5 [some (.ref x0), some (.int x1), some (.int x2), some (.int x3)] [] h =
    isC h x0 3 (
    br (x3 < (hI h x0 1))
      (br (((x1 >>> (x3 &&& 31)) &&& (nI 1)) = (nI 1))
         (isC h x0 3 (nnR (hR h x0 0) fun r1 =>
          isC h r1 20 (inA h r1 x3 (
          ev M_Grid_stepFrom 0 24 [some (.ref x0), some (.int x1), some (.int (x2 ||| (hI h r1 (Int32.toNatClampNeg x3)))), some (.int x3)] [] h))))
         (ev M_Grid_stepFrom 0 24 [some (.ref x0), some (.int x1), some (.int x2), some (.int x3)] [] h))
      (some (some (.int x2), h))) := (ev_eq _ _ _ _ _ _).trans rfl
theorem r_Grid_stepFrom_24 (x0 : Nat) (x1 : Int32) (x2 : Int32) (x3 : Int32) (h : MH) : ev M_Grid_stepFrom 0 24 [some (.ref x0), some (.int x1), some (.int x2), some (.int x3)] [] h =
    ev M_Grid_stepFrom 0 5 [some (.ref x0), some (.int x1), some (.int x2), some (.int (x3 + (nI 1)))] [] h := (ev_eq _ _ _ _ _ _).trans rfl
theorem r_Grid_rowsWith_0 (x0 : Nat) (x1 : Int32) (h : MH) : ev M_Grid_rowsWith 0 0 [some (.ref x0), some (.int x1), none, none] [] h =
    ev M_Grid_rowsWith 0 5 [some (.ref x0), some (.int x1), some (.int (nI 0)), some (.int (nI 0))] [] h := (ev_eq _ _ _ _ _ _).trans rfl
theorem r_Grid_rowsWith_5 (x0 : Nat) (x1 : Int32) (x2 : Int32) (x3 : Int32) (h : MH) : ev M_Grid_rowsWith 0 5 [some (.ref x0), some (.int x1), some (.int x2), some (.int x3)] [] h =
    isC h x0 3 (
    br (x3 < (hI h x0 1))
      (isC h x0 3 (nnR (hR h x0 0) fun r1 =>
       isC h r1 20 (inA h r1 x3 (
       br ((((hI h r1 (Int32.toNatClampNeg x3)) >>> (x1 &&& 31)) &&& (nI 1)) = (nI 1))
         (ev M_Grid_rowsWith 0 26 [some (.ref x0), some (.int x1), some (.int (x2 ||| ((nI 1) <<< (x3 &&& 31)))), some (.int x3)] [] h)
         (ev M_Grid_rowsWith 0 26 [some (.ref x0), some (.int x1), some (.int x2), some (.int x3)] [] h)))))
      (some (some (.int x2), h))) := (ev_eq _ _ _ _ _ _).trans rfl
theorem r_Grid_rowsWith_26 (x0 : Nat) (x1 : Int32) (x2 : Int32) (x3 : Int32) (h : MH) : ev M_Grid_rowsWith 0 26 [some (.ref x0), some (.int x1), some (.int x2), some (.int x3)] [] h =
    ev M_Grid_rowsWith 0 5 [some (.ref x0), some (.int x1), some (.int x2), some (.int (x3 + (nI 1)))] [] h := (ev_eq _ _ _ _ _ _).trans rfl
theorem r_Grid_count_0 (x0 : Nat) (h : MH) : ev M_Grid_count 0 0 [some (.ref x0), none, none] [] h =
    ev M_Grid_count 0 5 [some (.ref x0), some (.int (nI 0)), some (.int (nI 0))] [] h := (ev_eq _ _ _ _ _ _).trans rfl
theorem r_Grid_count_5 (x0 : Nat) (x1 : Int32) (x2 : Int32) (h : MH) : ev M_Grid_count 0 5 [some (.ref x0), some (.int x1), some (.int x2)] [] h =
    isC h x0 3 (
    br (x2 < (hI h x0 1))
      (isC h x0 3 (nnR (hR h x0 0) fun r1 =>
       isC h r1 20 (inA h r1 x2 (
       rI (ev M_Integer_bitCount 0 0 [some (.int (hI h r1 (Int32.toNatClampNeg x2)))] [] h) fun y3 h2 =>
       ev M_Grid_count 0 5 [some (.ref x0), some (.int (x1 + y3)), some (.int (x2 + (nI 1)))] [] h2))))
      (some (some (.int x1), h))) := (ev_eq _ _ _ _ _ _).trans rfl
theorem r_Grid_countIn_0 (x0 : Nat) (x1 : Int32) (x2 : Int32) (x3 : Int32) (x4 : Int32) (h : MH) : ev M_Grid_countIn 0 0 [some (.ref x0), some (.int x1), some (.int x2), some (.int x3), some (.int x4), none, none, none] [] h =
    ev M_Grid_countIn 0 17 [some (.ref x0), none, some (.int x2), none, none, some (.int (((nI 1) <<< ((x4 + (nI 1)) &&& 31)) - ((nI 1) <<< (x3 &&& 31)))), some (.int (nI 0)), some (.int (if (nI 0) < x1 then x1 else (nI 0)))] [] h := (ev_eq _ _ _ _ _ _).trans rfl
theorem r_Grid_countIn_17 (x0 : Nat) (x2 : Int32) (x5 : Int32) (x6 : Int32) (x7 : Int32) (h : MH) : ev M_Grid_countIn 0 17 [some (.ref x0), none, some (.int x2), none, none, some (.int x5), some (.int x6), some (.int x7)] [] h =
    br (x2 < x7)
      (some (some (.int x6), h))
      (isC h x0 3 (
       br (x7 < (hI h x0 1))
         (isC h x0 3 (nnR (hR h x0 0) fun r1 =>
          isC h r1 20 (inA h r1 x7 (
          rI (ev M_Integer_bitCount 0 0 [some (.int ((hI h r1 (Int32.toNatClampNeg x7)) &&& x5))] [] h) fun y3 h2 =>
          ev M_Grid_countIn 0 17 [some (.ref x0), none, some (.int x2), none, none, some (.int x5), some (.int (x6 + y3)), some (.int (x7 + (nI 1)))] [] h2))))
         (some (some (.int x6), h)))) := (ev_eq _ _ _ _ _ _).trans rfl
theorem r_Grid_countInBlock_0 (x0 : Nat) (x1 : Int32) (x2 : Int32) (x3 : Int32) (h : MH) : ev M_Grid_countInBlock 0 0 [some (.ref x0), some (.int x1), some (.int x2), some (.int x3), none, none, none] [] h =
    isC h x0 3 (rI (ev M_Grid_countIn 0 0 [some (.ref x0), some (.int ((x1 >>> (x2 &&& 31)) * ((nI 1) <<< ((x3 - x2) &&& 31)))), some (.int ((((x1 >>> (x2 &&& 31)) * ((nI 1) <<< ((x3 - x2) &&& 31))) + ((nI 1) <<< ((x3 - x2) &&& 31))) - (nI 1))), some (.int ((x1 &&& (((nI 1) <<< (x2 &&& 31)) - (nI 1))) * ((nI 1) <<< ((x3 - x2) &&& 31)))), some (.int ((((x1 &&& (((nI 1) <<< (x2 &&& 31)) - (nI 1))) * ((nI 1) <<< ((x3 - x2) &&& 31))) + ((nI 1) <<< ((x3 - x2) &&& 31))) - (nI 1))), none, none, none] [] h) fun y2 h1 =>
    some (some (.int y2), h1)) := (ev_eq _ _ _ _ _ _).trans rfl
theorem r_Grid_fullestBlock_0 (x0 : Nat) (x1 : Int32) (x2 : Int32) (h : MH) : ev M_Grid_fullestBlock 0 0 [some (.ref x0), some (.int x1), some (.int x2), none, none, none, none] [] h =
    ev M_Grid_fullestBlock 0 7 [some (.ref x0), some (.int x1), some (.int x2), some (.int (nI 0)), some (.int (mI 1)), some (.int (nI 0)), none] [] h := (ev_eq _ _ _ _ _ _).trans rfl
theorem r_Grid_fullestBlock_7 (x0 : Nat) (x1 : Int32) (x2 : Int32) (x3 : Int32) (x4 : Int32) (x5 : Int32) (h : MH) : ev M_Grid_fullestBlock 0 7 [some (.ref x0), some (.int x1), some (.int x2), some (.int x3), some (.int x4), some (.int x5), none] [] h =
    br (x5 < ((nI 1) <<< (((nI 2) * x1) &&& 31)))
      (isC h x0 3 (rI (ev M_Grid_countInBlock 0 0 [some (.ref x0), some (.int x5), some (.int x1), some (.int x2), none, none, none] [] h) fun y2 h1 =>
       br (x4 < y2)
         (ev M_Grid_fullestBlock 0 28 [some (.ref x0), some (.int x1), some (.int x2), some (.int x5), some (.int y2), some (.int x5), none] [] h1)
         (ev M_Grid_fullestBlock 0 28 [some (.ref x0), some (.int x1), some (.int x2), some (.int x3), some (.int x4), some (.int x5), none] [] h1)))
      (some (some (.int x3), h)) := (ev_eq _ _ _ _ _ _).trans rfl
theorem r_Grid_fullestBlock_28 (x0 : Nat) (x1 : Int32) (x2 : Int32) (x3 : Int32) (x4 : Int32) (x5 : Int32) (h : MH) : ev M_Grid_fullestBlock 0 28 [some (.ref x0), some (.int x1), some (.int x2), some (.int x3), some (.int x4), some (.int x5), none] [] h =
    ev M_Grid_fullestBlock 0 7 [some (.ref x0), some (.int x1), some (.int x2), some (.int x3), some (.int x4), some (.int (x5 + (nI 1))), none] [] h := (ev_eq _ _ _ _ _ _).trans rfl
theorem r_Grid_findPair_0 (x0 : Nat) (x1 : Int32) (h : MH) : ev M_Grid_findPair 0 0 [some (.ref x0), some (.int x1), none, none, none] [] h =
    ev M_Grid_findPair 0 5 [some (.ref x0), none, some (.int x1), some (.int (nI 0)), none] [] h := (ev_eq _ _ _ _ _ _).trans rfl
theorem r_Grid_findPair_5 (x0 : Nat) (x2 : Int32) (x3 : Int32) (h : MH) : ev M_Grid_findPair 0 5 [some (.ref x0), none, some (.int x2), some (.int x3), none] [] h =
    isC h x0 3 (
    br (x3 < (hI h x0 1))
      (ev M_Grid_findPair 0 12 [some (.ref x0), none, some (.int x2), some (.int x3), some (.int (nI 0))] [] h)
      (some (some (.int (mI 1)), h))) := (ev_eq _ _ _ _ _ _).trans rfl
theorem r_Grid_findPair_12 (x0 : Nat) (x2 : Int32) (x3 : Int32) (x4 : Int32) (h : MH) : ev M_Grid_findPair 0 12 [some (.ref x0), none, some (.int x2), some (.int x3), some (.int x4)] [] h =
    isC h x0 3 (
    br (x4 < (hI h x0 1))
      (isC h x0 3 (rI (ev M_Grid_holds 0 0 [some (.ref x0), some (.int x3), some (.int x4)] [] h) fun y2 h1 =>
       br (y2 = (nI 0))
         (ev M_Grid_findPair 0 31 [some (.ref x0), none, some (.int x2), some (.int x3), some (.int x4)] [] h1)
         (br (x2 = (nI 0))
            (some (some (.int (((nI 16) * x3) + x4)), h1))
            (ev M_Grid_findPair 0 31 [some (.ref x0), none, some (.int (x2 + (mI 1))), some (.int x3), some (.int x4)] [] h1))))
      (ev M_Grid_findPair 0 5 [some (.ref x0), none, some (.int x2), some (.int (x3 + (nI 1))), none] [] h)) := (ev_eq _ _ _ _ _ _).trans rfl
theorem r_Grid_findPair_31 (x0 : Nat) (x2 : Int32) (x3 : Int32) (x4 : Int32) (h : MH) : ev M_Grid_findPair 0 31 [some (.ref x0), none, some (.int x2), some (.int x3), some (.int x4)] [] h =
    ev M_Grid_findPair 0 12 [some (.ref x0), none, some (.int x2), some (.int x3), some (.int (x4 + (nI 1)))] [] h := (ev_eq _ _ _ _ _ _).trans rfl
theorem r_Grid_isWithin_0 (x0 : Nat) (x1 : Nat) (h : MH) : ev M_Grid_isWithin 0 0 [some (.ref x0), some (.ref x1), none] [] h =
    ev M_Grid_isWithin 0 3 [some (.ref x0), some (.ref x1), some (.int (nI 0))] [] h := (ev_eq _ _ _ _ _ _).trans rfl
theorem r_Grid_isWithin_3 (x0 : Nat) (x1 : Nat) (x2 : Int32) (h : MH) : ev M_Grid_isWithin 0 3 [some (.ref x0), some (.ref x1), some (.int x2)] [] h =
    isC h x0 3 (
    br (x2 < (hI h x0 1))
      (isC h x0 3 (nnR (hR h x0 0) fun r1 =>
       isC h r1 20 (inA h r1 x2 (
       isC h x1 3 (nnR (hR h x1 0) fun r2 =>
       isC h r2 20 (inA h r2 x2 (
       br (((hI h r1 (Int32.toNatClampNeg x2)) &&& ((hI h r2 (Int32.toNatClampNeg x2)) ^^^ (mI 1))) = (nI 0))
         (ev M_Grid_isWithin 0 3 [some (.ref x0), some (.ref x1), some (.int (x2 + (nI 1)))] [] h)
         (isZ (nI 0) (some (some (.int (nI 0)), h))))))))))
      (isZ (nI 1) (some (some (.int (nI 1)), h)))) := (ev_eq _ _ _ _ _ _).trans rfl
theorem r_Grid_hasEachOwn_0 (x0 : Nat) (h : MH) : ev M_Grid_hasEachOwn 0 0 [some (.ref x0), none] [] h =
    ev M_Grid_hasEachOwn 0 3 [some (.ref x0), some (.int (nI 0))] [] h := (ev_eq _ _ _ _ _ _).trans rfl
theorem r_Grid_hasEachOwn_3 (x0 : Nat) (x1 : Int32) (h : MH) : ev M_Grid_hasEachOwn 0 3 [some (.ref x0), some (.int x1)] [] h =
    isC h x0 3 (
    br (x1 < (hI h x0 1))
      (isC h x0 3 (rI (ev M_Grid_holds 0 0 [some (.ref x0), some (.int x1), some (.int x1)] [] h) fun y2 h1 =>
       br (y2 = (nI 0))
         (isZ (nI 0) (some (some (.int (nI 0)), h1)))
         (ev M_Grid_hasEachOwn 0 3 [some (.ref x0), some (.int (x1 + (nI 1)))] [] h1)))
      (isZ (nI 1) (some (some (.int (nI 1)), h)))) := (ev_eq _ _ _ _ _ _).trans rfl
theorem r_Grid_isEven_0 (x0 : Nat) (h : MH) : ev M_Grid_isEven 0 0 [some (.ref x0), none] [] h =
    ev M_Grid_isEven 0 3 [some (.ref x0), some (.int (nI 0))] [] h := (ev_eq _ _ _ _ _ _).trans rfl
theorem r_Grid_isEven_3 (x0 : Nat) (x1 : Int32) (h : MH) : ev M_Grid_isEven 0 3 [some (.ref x0), some (.int x1)] [] h =
    isC h x0 3 (
    br (x1 < (hI h x0 1))
      (isC h x0 3 (nnR (hR h x0 0) fun r1 =>
       isC h r1 20 (inA h r1 x1 (
       isC h x0 3 (rI (ev M_Grid_rowsWith 0 0 [some (.ref x0), some (.int x1), none, none] [] h) fun y3 h2 =>
       br ((hI h r1 (Int32.toNatClampNeg x1)) = y3)
         (ev M_Grid_isEven 0 3 [some (.ref x0), some (.int (x1 + (nI 1)))] [] h2)
         (isZ (nI 0) (some (some (.int (nI 0)), h2))))))))
      (isZ (nI 1) (some (some (.int (nI 1)), h)))) := (ev_eq _ _ _ _ _ _).trans rfl
theorem r_Grid_mostInARow_0 (x0 : Nat) (h : MH) : ev M_Grid_mostInARow 0 0 [some (.ref x0), none, none] [] h =
    ev M_Grid_mostInARow 0 5 [some (.ref x0), some (.int (nI 0)), some (.int (nI 0))] [] h := (ev_eq _ _ _ _ _ _).trans rfl
theorem r_Grid_mostInARow_5 (x0 : Nat) (x1 : Int32) (x2 : Int32) (h : MH) : ev M_Grid_mostInARow 0 5 [some (.ref x0), some (.int x1), some (.int x2)] [] h =
    isC h x0 3 (
    br (x2 < (hI h x0 1))
      (isC h x0 3 (nnR (hR h x0 0) fun r1 =>
       isC h r1 20 (inA h r1 x2 (
       rI (ev M_Integer_bitCount 0 0 [some (.int (hI h r1 (Int32.toNatClampNeg x2)))] [] h) fun y3 h2 =>
       ev M_Grid_mostInARow 0 5 [some (.ref x0), some (.int (if x1 < y3 then y3 else x1)), some (.int (x2 + (nI 1)))] [] h2))))
      (some (some (.int x1), h))) := (ev_eq _ _ _ _ _ _).trans rfl
theorem r_Grid_leastInARow_0 (x0 : Nat) (h : MH) : ev M_Grid_leastInARow 0 0 [some (.ref x0), none, none] [] h =
    isC h x0 3 (
    ev M_Grid_leastInARow 0 6 [some (.ref x0), some (.int (hI h x0 1)), some (.int (nI 0))] [] h) := (ev_eq _ _ _ _ _ _).trans rfl
theorem r_Grid_leastInARow_6 (x0 : Nat) (x1 : Int32) (x2 : Int32) (h : MH) : ev M_Grid_leastInARow 0 6 [some (.ref x0), some (.int x1), some (.int x2)] [] h =
    isC h x0 3 (
    br (x2 < (hI h x0 1))
      (isC h x0 3 (nnR (hR h x0 0) fun r1 =>
       isC h r1 20 (inA h r1 x2 (
       rI (ev M_Integer_bitCount 0 0 [some (.int (hI h r1 (Int32.toNatClampNeg x2)))] [] h) fun y3 h2 =>
       ev M_Grid_leastInARow 0 6 [some (.ref x0), some (.int (if y3 < x1 then y3 else x1)), some (.int (x2 + (nI 1)))] [] h2))))
      (some (some (.int x1), h))) := (ev_eq _ _ _ _ _ _).trans rfl
theorem r_Grid_mostInAColumn_0 (x0 : Nat) (h : MH) : ev M_Grid_mostInAColumn 0 0 [some (.ref x0), none, none] [] h =
    ev M_Grid_mostInAColumn 0 5 [some (.ref x0), some (.int (nI 0)), some (.int (nI 0))] [] h := (ev_eq _ _ _ _ _ _).trans rfl
theorem r_Grid_mostInAColumn_5 (x0 : Nat) (x1 : Int32) (x2 : Int32) (h : MH) : ev M_Grid_mostInAColumn 0 5 [some (.ref x0), some (.int x1), some (.int x2)] [] h =
    isC h x0 3 (
    br (x2 < (hI h x0 1))
      (isC h x0 3 (rI (ev M_Grid_rowsWith 0 0 [some (.ref x0), some (.int x2), none, none] [] h) fun y2 h1 =>
       rI (ev M_Integer_bitCount 0 0 [some (.int y2)] [] h1) fun y4 h3 =>
       ev M_Grid_mostInAColumn 0 5 [some (.ref x0), some (.int (if x1 < y4 then y4 else x1)), some (.int (x2 + (nI 1)))] [] h3))
      (some (some (.int x1), h))) := (ev_eq _ _ _ _ _ _).trans rfl
theorem r_Grid_halve_0 (x0 : Nat) (x1 : Nat) (h : MH) : ev M_Grid_halve 0 0 [some (.ref x0), some (.ref x1), none, none, none] [] h =
    isC h x1 3 (
    nz (nI 2) (
    isC h x0 3 (rV (ev M_Grid_clear 0 0 [some (.ref x0), some (.int ((hI h x1 1) / (nI 2)))] [] h) fun h1 =>
    ev M_Grid_halve 0 9 [some (.ref x0), some (.ref x1), some (.int (nI 0)), none, none] [] h1))) := (ev_eq _ _ _ _ _ _).trans rfl
theorem r_Grid_halve_9 (x0 : Nat) (x1 : Nat) (x2 : Int32) (h : MH) : ev M_Grid_halve 0 9 [some (.ref x0), some (.ref x1), some (.int x2), none, none] [] h =
    isC h x0 3 (
    br (x2 < (hI h x0 1))
      (isC h x1 3 (nnR (hR h x1 0) fun r1 =>
       isC h r1 20 (inA h r1 ((nI 2) * x2) (
       isC h x1 3 (nnR (hR h x1 0) fun r2 =>
       isC h r2 20 (inA h r2 (((nI 2) * x2) + (nI 1)) (
       ev M_Grid_halve 0 32 [some (.ref x0), some (.ref x1), some (.int x2), some (.int ((hI h r1 (Int32.toNatClampNeg ((nI 2) * x2))) ||| (hI h r2 (Int32.toNatClampNeg (((nI 2) * x2) + (nI 1)))))), some (.int (nI 0))] [] h)))))))
      (some (none, h))) := (ev_eq _ _ _ _ _ _).trans rfl
theorem r_Grid_halve_32 (x0 : Nat) (x1 : Nat) (x2 : Int32) (x3 : Int32) (x4 : Int32) (h : MH) : ev M_Grid_halve 0 32 [some (.ref x0), some (.ref x1), some (.int x2), some (.int x3), some (.int x4)] [] h =
    isC h x0 3 (
    br (x4 < (hI h x0 1))
      (br (((x3 >>> (((nI 2) * x4) &&& 31)) &&& (nI 3)) = (nI 0))
         (ev M_Grid_halve 0 55 [some (.ref x0), some (.ref x1), some (.int x2), some (.int x3), some (.int x4)] [] h)
         (isC h x0 3 (nnR (hR h x0 0) fun r1 =>
          isC h r1 20 (inA h r1 x2 (
          isC h r1 20 (inA h r1 x2 (
          let h2 := sI h r1 (Int32.toNatClampNeg x2) ((hI h r1 (Int32.toNatClampNeg x2)) ||| ((nI 1) <<< (x4 &&& 31)))
          ev M_Grid_halve 0 55 [some (.ref x0), some (.ref x1), some (.int x2), some (.int x3), some (.int x4)] [] h2)))))))
      (ev M_Grid_halve 0 9 [some (.ref x0), some (.ref x1), some (.int (x2 + (nI 1))), none, none] [] h)) := (ev_eq _ _ _ _ _ _).trans rfl
theorem r_Grid_halve_55 (x0 : Nat) (x1 : Nat) (x2 : Int32) (x3 : Int32) (x4 : Int32) (h : MH) : ev M_Grid_halve 0 55 [some (.ref x0), some (.ref x1), some (.int x2), some (.int x3), some (.int x4)] [] h =
    ev M_Grid_halve 0 32 [some (.ref x0), some (.ref x1), some (.int x2), some (.int x3), some (.int (x4 + (nI 1)))] [] h := (ev_eq _ _ _ _ _ _).trans rfl
theorem r_History_init_0 (x0 : Nat) (h : MH) : ev M_History_init 0 0 [some (.ref x0)] [] h =
    okN (nI 40) fun n2 =>
    let h1 := nw h 20 n2
    isC h1 x0 4 (
    let h3 := sR h1 x0 3 (hT h)
    okN (nI 16) fun n6 => okN (nI 40) fun n5 =>
    let h4 := nwRows h3 26 n5 n6
    isC h4 x0 4 (
    let h7 := sR h4 x0 4 (hT h3)
    ev M_History_init 0 12 [some (.ref x0)] [] h7)) := (ev_eq _ _ _ _ _ _).trans rfl
theorem r_History_init_12 (x0 : Nat) (h : MH) : ev M_History_init 0 12 [some (.ref x0)] [] h =
    okN (nI 40) fun n2 =>
    let h1 := nw h 20 n2
    isC h1 x0 4 (
    let h3 := sR h1 x0 5 (hT h)
    okN (nI 40) fun n5 =>
    let h4 := nw h3 20 n5
    isC h4 x0 4 (
    let h6 := sR h4 x0 6 (hT h3)
    ev M_History_init 0 21 [none] [] h6)) := (ev_eq _ _ _ _ _ _).trans rfl
theorem r_History_init_21  (h : MH) : ev M_History_init 0 21 [none] [] h =
    some (none, h) := (ev_eq _ _ _ _ _ _).trans rfl
theorem r_History_forget_0 (x0 : Nat) (h : MH) : ev M_History_forget 0 0 [some (.ref x0)] [] h =
    isC h x0 4 (
    let h1 := sI h x0 0 (nI 0)
    isC h1 x0 4 (
    let h2 := sI h1 x0 1 (nI 0)
    isC h2 x0 4 (
    let h3 := sI h2 x0 2 (nI 0)
    some (none, h3)))) := (ev_eq _ _ _ _ _ _).trans rfl
theorem r_History_slotOf_0 (x0 : Nat) (x1 : Int32) (h : MH) : ev M_History_slotOf 0 0 [some (.ref x0), some (.int x1)] [] h =
    isC h x0 4 (
    nz (nI 40) (
    some (some (.int (((hI h x0 2) + x1) - ((hI h x0 2) + x1) / (nI 40) * (nI 40))), h))) := (ev_eq _ _ _ _ _ _).trans rfl
theorem r_History_add_0 (x0 : Nat) (x1 : Int32) (x2 : Nat) (x3 : Nat) (x4 : Int32) (h : MH) : ev M_History_add 0 0 [some (.ref x0), some (.int x1), some (.ref x2), some (.ref x3), some (.int x4), none, none] [] h =
    isC h x0 4 (
    br ((hI h x0 1) < (nI 40))
      (ev M_History_add 0 13 [some (.ref x0), some (.int x1), some (.ref x2), some (.ref x3), some (.int x4), none, none] [] h)
      (isC h x0 4 (rI (ev M_History_slotOf 0 0 [some (.ref x0), some (.int (nI 1))] [] h) fun y2 h1 =>
       isC h1 x0 4 (
       let h3 := sI h1 x0 2 y2
       isC h3 x0 4 (
       let h4 := sI h3 x0 1 (nI 39)
       ev M_History_add 0 13 [some (.ref x0), some (.int x1), some (.ref x2), some (.ref x3), some (.int x4), none, none] [] h4))))) := (ev_eq _ _ _ _ _ _).trans rfl
theorem r_History_add_13 (x0 : Nat) (x1 : Int32) (x2 : Nat) (x3 : Nat) (x4 : Int32) (h : MH) : ev M_History_add 0 13 [some (.ref x0), some (.int x1), some (.ref x2), some (.ref x3), some (.int x4), none, none] [] h =
    isC h x0 4 (
    isC h x0 4 (rI (ev M_History_slotOf 0 0 [some (.ref x0), some (.int (hI h x0 1))] [] h) fun y2 h1 =>
    isC h1 x0 4 (nnR (hR h1 x0 3) fun r3 =>
    isC h1 r3 20 (inA h1 r3 y2 (
    let h4 := sI h1 r3 (Int32.toNatClampNeg y2) x1
    isC h4 x0 4 (nnR (hR h4 x0 5) fun r5 =>
    isC h4 x2 7 (
    isC h4 r5 20 (inA h4 r5 y2 (
    let h6 := sI h4 r5 (Int32.toNatClampNeg y2) (hI h4 x2 1)
    isC h6 x0 4 (nnR (hR h6 x0 6) fun r7 =>
    isC h6 r7 20 (inA h6 r7 y2 (
    let h8 := sI h6 r7 (Int32.toNatClampNeg y2) x4
    ev M_History_add 0 37 [some (.ref x0), some (.int x1), some (.ref x2), some (.ref x3), none, some (.int y2), some (.int (nI 0))] [] h8)))))))))))) := (ev_eq _ _ _ _ _ _).trans rfl
set_option maxRecDepth 100000 in
set_option maxHeartbeats 4000000 in
theorem r_History_add_37 (x0 : Nat) (x1 : Int32) (x2 : Nat) (x3 : Nat) (x5 : Int32) (x6 : Int32) (h : MH) : ev M_History_add 0 37 [some (.ref x0), some (.int x1), some (.ref x2), some (.ref x3), none, some (.int x5), some (.int x6)] [] h =
    br (x6 < (nI 16))
      (br (x1 < (nI 0))
         (ev M_History_add 0 66 [some (.ref x0), none, none, none, none, none, none] [] h)
         (br (x1 < (nI 5))
            (isC h x0 4 (nnR (hR h x0 4) fun r1 =>
             isC h r1 26 (inA h r1 x5 (nnR (hR h r1 (Int32.toNatClampNeg x5)) fun r2 =>
             isC h x2 7 (nnR (hR h x2 0) fun r3 =>
             isC h r3 24 (inA h r3 x1 (nnR (hR h r3 (Int32.toNatClampNeg x1)) fun r4 =>
             isC h r4 3 (nnR (hR h r4 0) fun r5 =>
             isC h r5 20 (inA h r5 x6 (
             isC h x3 3 (nnR (hR h x3 0) fun r6 =>
             isC h r6 20 (inA h r6 x6 (
             isC h r2 20 (inA h r2 x6 (
             let h7 := sI h r2 (Int32.toNatClampNeg x6) ((hI h r5 (Int32.toNatClampNeg x6)) ^^^ (hI h r6 (Int32.toNatClampNeg x6)))
             ev M_History_add 0 37 [some (.ref x0), some (.int x1), some (.ref x2), some (.ref x3), none, some (.int x5), some (.int (x6 + (nI 1)))] [] h7)))))))))))))))
            (ev M_History_add 0 66 [some (.ref x0), none, none, none, none, none, none] [] h)))
      (ev M_History_add 0 66 [some (.ref x0), none, none, none, none, none, none] [] h) := (ev_eq _ _ _ _ _ _).trans rfl
theorem r_History_add_66 (x0 : Nat) (h : MH) : ev M_History_add 0 66 [some (.ref x0), none, none, none, none, none, none] [] h =
    isC h x0 4 (
    isC h x0 4 (
    let h1 := sI h x0 0 ((hI h x0 1) + (nI 1))
    some (none, h1))) := (ev_eq _ _ _ _ _ _).trans rfl
theorem r_History_goOn_0 (x0 : Nat) (x1 : Nat) (h : MH) : ev M_History_goOn 0 0 [some (.ref x0), some (.ref x1), none] [] h =
    isC h x0 4 (
    isC h x0 4 (
    br ((hI h x0 1) < (hI h x0 0))
      (isC h x0 4 (
       isC h x0 4 (rI (ev M_History_slotOf 0 0 [some (.ref x0), some (.int (hI h x0 1))] [] h) fun y2 h1 =>
       isC h1 x0 4 (nnR (hR h1 x0 3) fun r3 =>
       isC h1 r3 20 (inA h1 r3 y2 (
       isC h1 x0 4 (nnR (hR h1 x0 4) fun r4 =>
       isC h1 r4 26 (inA h1 r4 y2 (nnR (hR h1 r4 (Int32.toNatClampNeg y2)) fun r5 =>
       isC h1 x0 4 (nnR (hR h1 x0 6) fun r6 =>
       isC h1 r6 20 (inA h1 r6 y2 (
       isC h1 x1 7 (rV (ev M_Relations_turnAll 0 0 [some (.ref x1), some (.int (hI h1 r3 (Int32.toNatClampNeg y2))), some (.ref r5), some (.int (hI h1 r6 (Int32.toNatClampNeg y2))), none] [] h1) fun h7 =>
       isC h7 x0 4 (
       isC h7 x0 4 (
       let h8 := sI h7 x0 1 ((hI h7 x0 1) + (nI 1))
       isZ (nI 1) (some (some (.int (nI 1)), h8)))))))))))))))))
      (isZ (nI 0) (some (some (.int (nI 0)), h))))) := (ev_eq _ _ _ _ _ _).trans rfl
theorem r_History_goBack_0 (x0 : Nat) (x1 : Nat) (h : MH) : ev M_History_goBack 0 0 [some (.ref x0), some (.ref x1), none] [] h =
    isC h x0 4 (
    br ((nI 0) < (hI h x0 1))
      (isC h x0 4 (
       isC h x0 4 (
       let h1 := sI h x0 1 ((hI h x0 1) - (nI 1))
       isC h1 x0 4 (
       isC h1 x0 4 (rI (ev M_History_slotOf 0 0 [some (.ref x0), some (.int (hI h1 x0 1))] [] h1) fun y3 h2 =>
       isC h2 x0 4 (nnR (hR h2 x0 3) fun r4 =>
       isC h2 r4 20 (inA h2 r4 y3 (
       isC h2 x0 4 (nnR (hR h2 x0 4) fun r5 =>
       isC h2 r5 26 (inA h2 r5 y3 (nnR (hR h2 r5 (Int32.toNatClampNeg y3)) fun r6 =>
       isC h2 x0 4 (nnR (hR h2 x0 5) fun r7 =>
       isC h2 r7 20 (inA h2 r7 y3 (
       isC h2 x1 7 (rV (ev M_Relations_turnAll 0 0 [some (.ref x1), some (.int (hI h2 r4 (Int32.toNatClampNeg y3))), some (.ref r6), some (.int (hI h2 r7 (Int32.toNatClampNeg y3))), none] [] h2) fun h8 =>
       isZ (nI 1) (some (some (.int (nI 1)), h8)))))))))))))))))
      (isZ (nI 0) (some (some (.int (nI 0)), h)))) := (ev_eq _ _ _ _ _ _).trans rfl
theorem r_Plan_init_0 (x0 : Nat) (h : MH) : ev M_Plan_init 0 0 [some (.ref x0), none] [] h =
    let h1 := nw h 2 3
    rV (ev M_Formula_init 0 0 [some (.ref (hT h))] [] h1) fun h2 =>
    isC h2 x0 5 (
    let h3 := sR h2 x0 6 (hT h)
    okN (nI 5) fun n5 =>
    let h4 := nw h3 22 n5
    isC h4 x0 5 (
    let h6 := sR h4 x0 7 (hT h3)
    ev M_Plan_init 0 12 [some (.ref x0), none] [] h6)) := (ev_eq _ _ _ _ _ _).trans rfl
theorem r_Plan_init_12 (x0 : Nat) (h : MH) : ev M_Plan_init 0 12 [some (.ref x0), none] [] h =
    okN (nI 5) fun n2 =>
    let h1 := nw h 24 n2
    isC h1 x0 5 (
    let h3 := sR h1 x0 8 (hT h)
    okN (nI 256) fun n5 =>
    let h4 := nw h3 20 n5
    isC h4 x0 5 (
    let h6 := sR h4 x0 9 (hT h3)
    ev M_Plan_init 0 21 [some (.ref x0), none] [] h6)) := (ev_eq _ _ _ _ _ _).trans rfl
theorem r_Plan_init_21 (x0 : Nat) (h : MH) : ev M_Plan_init 0 21 [some (.ref x0), none] [] h =
    ev M_Plan_init 0 24 [some (.ref x0), some (.int (nI 0))] [] h := (ev_eq _ _ _ _ _ _).trans rfl
theorem r_Plan_init_24 (x0 : Nat) (x1 : Int32) (h : MH) : ev M_Plan_init 0 24 [some (.ref x0), some (.int x1)] [] h =
    br (x1 < (nI 5))
      (isC h x0 5 (nnR (hR h x0 8) fun r1 =>
       let h2 := nw h 3 2
       rV (ev M_Grid_init 0 0 [some (.ref (hT h))] [] h2) fun h3 =>
       isC h3 r1 24 (inA h3 r1 x1 (
       isC h3 (hT h) 3 (let h4 := sR h3 r1 (Int32.toNatClampNeg x1) (hT h)
       ev M_Plan_init 0 35 [some (.ref x0), some (.int x1)] [] h4)))))
      (isC h x0 5 (rV (ev M_Plan_clear 0 0 [some (.ref x0)] [] h) fun h5 =>
       some (none, h5))) := (ev_eq _ _ _ _ _ _).trans rfl
theorem r_Plan_init_35 (x0 : Nat) (x1 : Int32) (h : MH) : ev M_Plan_init 0 35 [some (.ref x0), some (.int x1)] [] h =
    ev M_Plan_init 0 24 [some (.ref x0), some (.int (x1 + (nI 1)))] [] h := (ev_eq _ _ _ _ _ _).trans rfl
theorem r_Plan_clear_0 (x0 : Nat) (h : MH) : ev M_Plan_clear 0 0 [some (.ref x0)] [] h =
    isC h x0 5 (
    let h1 := sI h x0 0 (nI 3)
    isC h1 x0 5 (
    let h2 := sI h1 x0 1 (nI 0)
    isC h2 x0 5 (
    let h3 := sI h2 x0 2 (nI 0)
    isC h3 x0 5 (
    let h4 := sI h3 x0 3 (nI 0)
    isC h4 x0 5 (
    let h5 := sI h4 x0 4 (nI 0)
    isC h5 x0 5 (
    let h6 := sI h5 x0 5 (nI 0)
    isC h6 x0 5 (
    let h7 := sI h6 x0 10 (nI 0)
    isC h7 x0 5 (nnR (hR h7 x0 6) fun r8 =>
    isC h7 r8 2 (rV (ev M_Formula_clear 0 0 [some (.ref r8)] [] h7) fun h9 =>
    some (none, h9)))))))))) := (ev_eq _ _ _ _ _ _).trans rfl
theorem r_Plan_size_0 (x0 : Nat) (h : MH) : ev M_Plan_size 0 0 [some (.ref x0)] [] h =
    isC h x0 5 (
    some (some (.int ((nI 1) <<< ((hI h x0 0) &&& 31))), h)) := (ev_eq _ _ _ _ _ _).trans rfl
theorem r_Plan_isTold_0 (x0 : Nat) (x1 : Int32) (h : MH) : ev M_Plan_isTold 0 0 [some (.ref x0), some (.int x1)] [] h =
    isC h x0 5 (
    br ((((hI h x0 2) >>> (x1 &&& 31)) &&& (nI 1)) = (nI 1))
      (isZ (nI 1) (some (some (.int (nI 1)), h)))
      (isZ (nI 0) (some (some (.int (nI 0)), h)))) := (ev_eq _ _ _ _ _ _).trans rfl
theorem r_Plan_isFull_0 (x0 : Nat) (h : MH) : ev M_Plan_isFull 0 0 [some (.ref x0)] [] h =
    isC h x0 5 (
    br ((hI h x0 1) < (nI 5))
      (isZ (nI 0) (some (some (.int (nI 0)), h)))
      (isZ (nI 1) (some (some (.int (nI 1)), h)))) := (ev_eq _ _ _ _ _ _).trans rfl
theorem r_Plan_begin_0 (x0 : Nat) (h : MH) : ev M_Plan_begin 0 0 [some (.ref x0), none] [] h =
    isC h x0 5 (nnR (hR h x0 8) fun r1 =>
    isC h x0 5 (
    isC h r1 24 (inA h r1 (if (nI 4) < (hI h x0 1) then (nI 4) else (hI h x0 1)) (nnR (hR h r1 (Int32.toNatClampNeg (if (nI 4) < (hI h x0 1) then (nI 4) else (hI h x0 1)))) fun r2 =>
    isC h x0 5 (rI (ev M_Plan_size 0 0 [some (.ref x0)] [] h) fun y4 h3 =>
    isC h3 r2 3 (rV (ev M_Grid_clear 0 0 [some (.ref r2), some (.int y4)] [] h3) fun h5 =>
    some (some (.ref r2), h5))))))) := (ev_eq _ _ _ _ _ _).trans rfl
theorem r_Plan_finish_0 (x0 : Nat) (x1 : Int64) (x3 : Int32) (h : MH) : ev M_Plan_finish 0 0 [some (.ref x0), some (.long x1), none, some (.int x3)] [] h =
    isC h x0 5 (rI (ev M_Plan_isFull 0 0 [some (.ref x0)] [] h) fun y2 h1 =>
    br (y2 = (nI 0))
      (br (x3 = (nI 0))
         (isC h1 x0 5 (
          isC h1 x0 5 (rV (ev M_Plan_addPart 0 0 [some (.ref x0), some (.int ((nI 30) + (hI h1 x0 1)))] [] h1) fun h3 =>
          ev M_Plan_finish 0 23 [some (.ref x0), some (.long x1), none, none] [] h3)))
         (isC h1 x0 5 (
          isC h1 x0 5 (
          isC h1 x0 5 (
          let h4 := sI h1 x0 2 ((hI h1 x0 2) ||| ((nI 1) <<< ((hI h1 x0 1) &&& 31)))
          ev M_Plan_finish 0 23 [some (.ref x0), some (.long x1), none, none] [] h4)))))
      (some (none, h1))) := (ev_eq _ _ _ _ _ _).trans rfl
theorem r_Plan_finish_23 (x0 : Nat) (x1 : Int64) (h : MH) : ev M_Plan_finish 0 23 [some (.ref x0), some (.long x1), none, none] [] h =
    isC h x0 5 (nnR (hR h x0 7) fun r1 =>
    isC h x0 5 (
    isC h r1 22 (inA h r1 (hI h x0 1) (
    let h2 := sL h r1 (Int32.toNatClampNeg (hI h x0 1)) x1
    isC h2 x0 5 (
    isC h2 x0 5 (
    let h3 := sI h2 x0 1 ((hI h2 x0 1) + (nI 1))
    some (none, h3))))))) := (ev_eq _ _ _ _ _ _).trans rfl
theorem r_Plan_find_0 (x0 : Nat) (x1 : Int64) (h : MH) : ev M_Plan_find 0 0 [some (.ref x0), some (.long x1), none, none] [] h =
    ev M_Plan_find 0 3 [some (.ref x0), some (.long x1), none, some (.int (nI 0))] [] h := (ev_eq _ _ _ _ _ _).trans rfl
theorem r_Plan_find_3 (x0 : Nat) (x1 : Int64) (x3 : Int32) (h : MH) : ev M_Plan_find 0 3 [some (.ref x0), some (.long x1), none, some (.int x3)] [] h =
    isC h x0 5 (
    br (x3 < (hI h x0 1))
      (br (x3 < (nI 5))
         (isC h x0 5 (nnR (hR h x0 7) fun r1 =>
          isC h r1 22 (inA h r1 x3 (
          br ((lg_cmp (hL h r1 (Int32.toNatClampNeg x3)) x1) = (nI 0))
            (some (some (.int x3), h))
            (ev M_Plan_find 0 3 [some (.ref x0), some (.long x1), none, some (.int (x3 + (nI 1)))] [] h)))))
         (some (some (.int (mI 1)), h)))
      (some (some (.int (mI 1)), h))) := (ev_eq _ _ _ _ _ _).trans rfl
theorem r_Plan_addPart_0 (x0 : Nat) (x1 : Int32) (h : MH) : ev M_Plan_addPart 0 0 [some (.ref x0), some (.int x1)] [] h =
    isC h x0 5 (
    br ((hI h x0 10) < (nI 256))
      (isC h x0 5 (nnR (hR h x0 9) fun r1 =>
       isC h x0 5 (
       isC h r1 20 (inA h r1 (hI h x0 10) (
       let h2 := sI h r1 (Int32.toNatClampNeg (hI h x0 10)) x1
       isC h2 x0 5 (
       isC h2 x0 5 (
       let h3 := sI h2 x0 10 ((hI h2 x0 10) + (nI 1))
       some (none, h3))))))))
      (some (none, h))) := (ev_eq _ _ _ _ _ _).trans rfl
theorem r_Relations_init_0 (x0 : Nat) (h : MH) : ev M_Relations_init 0 0 [some (.ref x0), none] [] h =
    okN (nI 5) fun n2 =>
    let h1 := nw h 24 n2
    isC h1 x0 7 (
    let h3 := sR h1 x0 0 (hT h)
    okN (nI 16) fun n5 =>
    let h4 := nw h3 24 n5
    isC h4 x0 7 (
    let h6 := sR h4 x0 3 (hT h3)
    ev M_Relations_init 0 11 [some (.ref x0), none] [] h6)) := (ev_eq _ _ _ _ _ _).trans rfl
theorem r_Relations_init_11 (x0 : Nat) (h : MH) : ev M_Relations_init 0 11 [some (.ref x0), none] [] h =
    let h1 := nw h 3 2
    rV (ev M_Grid_init 0 0 [some (.ref (hT h))] [] h1) fun h2 =>
    isC h2 x0 7 (
    let h3 := sR h2 x0 4 (hT h)
    ev M_Relations_init 0 19 [some (.ref x0), some (.int (nI 0))] [] h3) := (ev_eq _ _ _ _ _ _).trans rfl
theorem r_Relations_init_19 (x0 : Nat) (x1 : Int32) (h : MH) : ev M_Relations_init 0 19 [some (.ref x0), some (.int x1)] [] h =
    br (x1 < (nI 5))
      (isC h x0 7 (nnR (hR h x0 0) fun r1 =>
       let h2 := nw h 3 2
       rV (ev M_Grid_init 0 0 [some (.ref (hT h))] [] h2) fun h3 =>
       isC h3 r1 24 (inA h3 r1 x1 (
       isC h3 (hT h) 3 (let h4 := sR h3 r1 (Int32.toNatClampNeg x1) (hT h)
       ev M_Relations_init 0 30 [some (.ref x0), some (.int x1)] [] h4)))))
      (ev M_Relations_init 0 35 [some (.ref x0), some (.int (nI 0))] [] h) := (ev_eq _ _ _ _ _ _).trans rfl
theorem r_Relations_init_30 (x0 : Nat) (x1 : Int32) (h : MH) : ev M_Relations_init 0 30 [some (.ref x0), some (.int x1)] [] h =
    ev M_Relations_init 0 19 [some (.ref x0), some (.int (x1 + (nI 1)))] [] h := (ev_eq _ _ _ _ _ _).trans rfl
theorem r_Relations_init_35 (x0 : Nat) (x1 : Int32) (h : MH) : ev M_Relations_init 0 35 [some (.ref x0), some (.int x1)] [] h =
    br (x1 < (nI 16))
      (isC h x0 7 (nnR (hR h x0 3) fun r1 =>
       let h2 := nw h 3 2
       rV (ev M_Grid_init 0 0 [some (.ref (hT h))] [] h2) fun h3 =>
       isC h3 r1 24 (inA h3 r1 x1 (
       isC h3 (hT h) 3 (let h4 := sR h3 r1 (Int32.toNatClampNeg x1) (hT h)
       ev M_Relations_init 0 46 [some (.ref x0), some (.int x1)] [] h4)))))
      (some (none, h)) := (ev_eq _ _ _ _ _ _).trans rfl
theorem r_Relations_init_46 (x0 : Nat) (x1 : Int32) (h : MH) : ev M_Relations_init 0 46 [some (.ref x0), some (.int x1)] [] h =
    ev M_Relations_init 0 35 [some (.ref x0), some (.int (x1 + (nI 1)))] [] h := (ev_eq _ _ _ _ _ _).trans rfl
theorem r_Relations_begin_0 (x0 : Nat) (x1 : Nat) (h : MH) : ev M_Relations_begin 0 0 [some (.ref x0), some (.ref x1), none] [] h =
    isC h x0 7 (
    let h1 := sR h x0 2 x1
    isC h1 x1 5 (
    isC h1 x0 7 (
    let h2 := sI h1 x0 1 (hI h1 x1 4)
    ev M_Relations_begin 0 10 [some (.ref x0), some (.ref x1), some (.int (nI 0))] [] h2))) := (ev_eq _ _ _ _ _ _).trans rfl
theorem r_Relations_begin_10 (x0 : Nat) (x1 : Nat) (x2 : Int32) (h : MH) : ev M_Relations_begin 0 10 [some (.ref x0), some (.ref x1), some (.int x2)] [] h =
    isC h x1 5 (
    br (x2 < (hI h x1 1))
      (isC h x0 7 (nnR (hR h x0 0) fun r1 =>
       isC h r1 24 (inA h r1 x2 (nnR (hR h r1 (Int32.toNatClampNeg x2)) fun r2 =>
       isC h x1 5 (nnR (hR h x1 8) fun r3 =>
       isC h r3 24 (inA h r3 x2 (nnR (hR h r3 (Int32.toNatClampNeg x2)) fun r4 =>
       isC h r2 3 (rV (ev M_Grid_copyFrom 0 0 [some (.ref r2), some (.ref r4)] [] h) fun h5 =>
       ev M_Relations_begin 0 10 [some (.ref x0), some (.ref x1), some (.int (x2 + (nI 1)))] [] h5))))))))
      (isC h x0 7 (rV (ev M_Relations_derive 0 0 [some (.ref x0), none, none, none] [] h) fun h6 =>
       some (none, h6)))) := (ev_eq _ _ _ _ _ _).trans rfl
theorem r_Relations_countTold_0 (x0 : Nat) (h : MH) : ev M_Relations_countTold 0 0 [some (.ref x0), none, none] [] h =
    ev M_Relations_countTold 0 5 [some (.ref x0), some (.int (nI 0)), some (.int (nI 0))] [] h := (ev_eq _ _ _ _ _ _).trans rfl
theorem r_Relations_countTold_5 (x0 : Nat) (x1 : Int32) (x2 : Int32) (h : MH) : ev M_Relations_countTold 0 5 [some (.ref x0), some (.int x1), some (.int x2)] [] h =
    isC h x0 7 (nnR (hR h x0 2) fun r1 =>
    isC h x0 7 (nnR (hR h x0 2) fun r2 =>
    isC h r2 5 (
    br (x2 < (hI h r2 1))
      (isC h x0 7 (nnR (hR h x0 2) fun r3 =>
       isC h r3 5 (rI (ev M_Plan_isTold 0 0 [some (.ref r3), some (.int x2)] [] h) fun y5 h4 =>
       br (y5 = (nI 0))
         (ev M_Relations_countTold 0 27 [some (.ref x0), some (.int x1), some (.int x2)] [] h4)
         (isC h4 x0 7 (nnR (hR h4 x0 0) fun r6 =>
          isC h4 r6 24 (inA h4 r6 x2 (nnR (hR h4 r6 (Int32.toNatClampNeg x2)) fun r7 =>
          isC h4 r7 3 (rI (ev M_Grid_count 0 0 [some (.ref r7), none, none] [] h4) fun y9 h8 =>
          ev M_Relations_countTold 0 27 [some (.ref x0), some (.int (x1 + y9)), some (.int x2)] [] h8))))))))
      (some (some (.int x1), h))))) := (ev_eq _ _ _ _ _ _).trans rfl
theorem r_Relations_countTold_27 (x0 : Nat) (x1 : Int32) (x2 : Int32) (h : MH) : ev M_Relations_countTold 0 27 [some (.ref x0), some (.int x1), some (.int x2)] [] h =
    ev M_Relations_countTold 0 5 [some (.ref x0), some (.int x1), some (.int (x2 + (nI 1)))] [] h := (ev_eq _ _ _ _ _ _).trans rfl
theorem r_Relations_turnAll_0 (x0 : Nat) (x1 : Int32) (x2 : Nat) (x3 : Int32) (h : MH) : ev M_Relations_turnAll 0 0 [some (.ref x0), some (.int x1), some (.ref x2), some (.int x3), none] [] h =
    isC h x0 7 (
    let h1 := sI h x0 1 x3
    br (x1 < (nI 0))
      (some (none, h1))
      (br (x1 < (nI 5))
         (ev M_Relations_turnAll 0 12 [some (.ref x0), some (.int x1), some (.ref x2), none, some (.int (nI 0))] [] h1)
         (some (none, h1)))) := (ev_eq _ _ _ _ _ _).trans rfl
theorem r_Relations_turnAll_12 (x0 : Nat) (x1 : Int32) (x2 : Nat) (x4 : Int32) (h : MH) : ev M_Relations_turnAll 0 12 [some (.ref x0), some (.int x1), some (.ref x2), none, some (.int x4)] [] h =
    br (x4 < (nI 16))
      (isC h x2 20 (
       br (x4 < (nI (hN h x2)))
         (isC h x0 7 (nnR (hR h x0 0) fun r1 =>
          isC h r1 24 (inA h r1 x1 (nnR (hR h r1 (Int32.toNatClampNeg x1)) fun r2 =>
          isC h r2 3 (nnR (hR h r2 0) fun r3 =>
          isC h r3 20 (inA h r3 x4 (
          isC h x2 20 (inA h x2 x4 (
          isC h r3 20 (inA h r3 x4 (
          let h4 := sI h r3 (Int32.toNatClampNeg x4) ((hI h r3 (Int32.toNatClampNeg x4)) ^^^ (hI h x2 (Int32.toNatClampNeg x4)))
          ev M_Relations_turnAll 0 12 [some (.ref x0), some (.int x1), some (.ref x2), none, some (.int (x4 + (nI 1)))] [] h4)))))))))))
         (some (none, h))))
      (some (none, h)) := (ev_eq _ _ _ _ _ _).trans rfl
theorem r_Relations_derive_0 (x0 : Nat) (h : MH) : ev M_Relations_derive 0 0 [some (.ref x0), none, none, none] [] h =
    ev M_Relations_derive 0 5 [some (.ref x0), some (.int (nI 0)), some (.int (nI 0)), none] [] h := (ev_eq _ _ _ _ _ _).trans rfl
theorem r_Relations_derive_5 (x0 : Nat) (x1 : Int32) (x2 : Int32) (h : MH) : ev M_Relations_derive 0 5 [some (.ref x0), some (.int x1), some (.int x2), none] [] h =
    isC h x0 7 (nnR (hR h x0 2) fun r1 =>
    isC h x0 7 (nnR (hR h x0 2) fun r2 =>
    isC h r2 5 (
    br (x2 < (hI h r2 10))
      (br (x2 < (nI 256))
         (isC h x0 7 (nnR (hR h x0 2) fun r3 =>
          isC h r3 5 (nnR (hR h r3 9) fun r4 =>
          isC h r4 20 (inA h r4 x2 (
          br ((hI h r4 (Int32.toNatClampNeg x2)) < (nI 12))
            (isC h x0 7 (rI (ev M_Relations_openPart 0 0 [some (.ref x0), some (.int (hI h r4 (Int32.toNatClampNeg x2))), some (.int x1)] [] h) fun y6 h5 =>
             ev M_Relations_derive 0 35 [some (.ref x0), none, some (.int x2), none] [(.int y6)] h5))
            (isC h x0 7 (rI (ev M_Relations_workPart 0 0 [some (.ref x0), some (.int (hI h r4 (Int32.toNatClampNeg x2))), some (.int x1)] [] h) fun y8 h7 =>
             ev M_Relations_derive 0 35 [some (.ref x0), none, some (.int x2), none] [(.int y8)] h7)))))))
         (some (none, h)))
      (some (none, h))))) := (ev_eq _ _ _ _ _ _).trans rfl
theorem r_Relations_derive_35 (x0 : Nat) (x2 : Int32) (s0 : Int32) (h : MH) : ev M_Relations_derive 0 35 [some (.ref x0), none, some (.int x2), none] [(.int s0)] h =
    ev M_Relations_derive 0 5 [some (.ref x0), some (.int s0), some (.int (x2 + (nI 1))), none] [] h := (ev_eq _ _ _ _ _ _).trans rfl
set_option maxRecDepth 100000 in
set_option maxHeartbeats 4000000 in
theorem r_Relations_openPart_0 (x0 : Nat) (x1 : Int32) (x2 : Int32) (h : MH) : ev M_Relations_openPart 0 0 [some (.ref x0), some (.int x1), some (.int x2)] [] h =
    br (x2 < (nI 0))
      (some (some (.int x2), h))
      (br (x2 < (nI 16))
         (br (x1 = (nI 10))
            (isC h x0 7 (nnR (hR h x0 3) fun r1 =>
             isC h r1 24 (inA h r1 x2 (nnR (hR h r1 (Int32.toNatClampNeg x2)) fun r2 =>
             isC h x0 7 (nnR (hR h x0 2) fun r3 =>
             isC h r3 5 (rI (ev M_Plan_size 0 0 [some (.ref r3)] [] h) fun y5 h4 =>
             isC h4 r2 3 (rV (ev M_Grid_fillSame 0 0 [some (.ref r2), some (.int y5), none] [] h4) fun h6 =>
             ev M_Relations_openPart 0 46 [none, none, some (.int x2)] [] h6)))))))
            (br (x1 = (nI 11))
               (isC h x0 7 (nnR (hR h x0 3) fun r7 =>
                isC h r7 24 (inA h r7 x2 (nnR (hR h r7 (Int32.toNatClampNeg x2)) fun r8 =>
                isC h x0 7 (nnR (hR h x0 2) fun r9 =>
                isC h r9 5 (rI (ev M_Plan_size 0 0 [some (.ref r9)] [] h) fun y11 h10 =>
                isC h10 r8 3 (rV (ev M_Grid_fillAll 0 0 [some (.ref r8), some (.int y11), none] [] h10) fun h12 =>
                ev M_Relations_openPart 0 46 [none, none, some (.int x2)] [] h12)))))))
               (br (x1 < (nI 0))
                  (ev M_Relations_openPart 0 46 [none, none, some (.int x2)] [] h)
                  (br (x1 < (nI 5))
                     (isC h x0 7 (nnR (hR h x0 3) fun r13 =>
                      isC h r13 24 (inA h r13 x2 (nnR (hR h r13 (Int32.toNatClampNeg x2)) fun r14 =>
                      isC h x0 7 (nnR (hR h x0 0) fun r15 =>
                      isC h r15 24 (inA h r15 x1 (nnR (hR h r15 (Int32.toNatClampNeg x1)) fun r16 =>
                      isC h r14 3 (rV (ev M_Grid_copyFrom 0 0 [some (.ref r14), some (.ref r16)] [] h) fun h17 =>
                      ev M_Relations_openPart 0 46 [none, none, some (.int x2)] [] h17))))))))
                     (ev M_Relations_openPart 0 46 [none, none, some (.int x2)] [] h)))))
         (some (some (.int x2), h))) := (ev_eq _ _ _ _ _ _).trans rfl
theorem r_Relations_openPart_46 (x2 : Int32) (h : MH) : ev M_Relations_openPart 0 46 [none, none, some (.int x2)] [] h =
    some (some (.int (x2 + (nI 1))), h) := (ev_eq _ _ _ _ _ _).trans rfl
theorem r_Relations_workPart_0 (x0 : Nat) (x1 : Int32) (x2 : Int32) (h : MH) : ev M_Relations_workPart 0 0 [some (.ref x0), some (.int x1), some (.int x2)] [] h =
    br (x1 = (nI 12))
      (br ((nI 0) < x2)
         (isC h x0 7 (nnR (hR h x0 4) fun r1 =>
          isC h x0 7 (nnR (hR h x0 3) fun r2 =>
          isC h r2 24 (inA h r2 (x2 - (nI 1)) (nnR (hR h r2 (Int32.toNatClampNeg (x2 - (nI 1)))) fun r3 =>
          isC h r1 3 (rV (ev M_Grid_changeOver 0 0 [some (.ref r1), some (.ref r3), none] [] h) fun h4 =>
          isC h4 x0 7 (nnR (hR h4 x0 3) fun r5 =>
          isC h4 r5 24 (inA h4 r5 (x2 - (nI 1)) (nnR (hR h4 r5 (Int32.toNatClampNeg (x2 - (nI 1)))) fun r6 =>
          isC h4 x0 7 (nnR (hR h4 x0 4) fun r7 =>
          isC h4 r6 3 (rV (ev M_Grid_copyFrom 0 0 [some (.ref r6), some (.ref r7)] [] h4) fun h8 =>
          some (some (.int x2), h8))))))))))))
         (ev M_Relations_workPart 0 25 [some (.ref x0), some (.int x1), some (.int x2)] [] h))
      (ev M_Relations_workPart 0 25 [some (.ref x0), some (.int x1), some (.int x2)] [] h) := (ev_eq _ _ _ _ _ _).trans rfl
set_option maxRecDepth 100000 in
set_option maxHeartbeats 4000000 in
theorem r_Relations_workPart_25 (x0 : Nat) (x1 : Int32) (x2 : Int32) (h : MH) : ev M_Relations_workPart 0 25 [some (.ref x0), some (.int x1), some (.int x2)] [] h =
    br (x1 < (nI 20))
      (ev M_Relations_workPart 0 66 [some (.ref x0), some (.int x1), some (.int x2)] [] h)
      (br (x1 < (nI 30))
         (br ((nI 1) < x2)
            (isC h x0 7 (nnR (hR h x0 4) fun r1 =>
             isC h x0 7 (nnR (hR h x0 3) fun r2 =>
             isC h r2 24 (inA h r2 (x2 - (nI 2)) (nnR (hR h r2 (Int32.toNatClampNeg (x2 - (nI 2)))) fun r3 =>
             isC h x0 7 (nnR (hR h x0 3) fun r4 =>
             isC h r4 24 (inA h r4 (x2 - (nI 1)) (nnR (hR h r4 (Int32.toNatClampNeg (x2 - (nI 1)))) fun r5 =>
             isC h r1 3 (rV (ev M_Grid_join 0 0 [some (.ref r1), some (.int (x1 - (nI 20))), some (.ref r3), some (.ref r5), none, none] [] h) fun h6 =>
             isC h6 x0 7 (nnR (hR h6 x0 3) fun r7 =>
             isC h6 r7 24 (inA h6 r7 (x2 - (nI 2)) (nnR (hR h6 r7 (Int32.toNatClampNeg (x2 - (nI 2)))) fun r8 =>
             isC h6 x0 7 (nnR (hR h6 x0 4) fun r9 =>
             isC h6 r8 3 (rV (ev M_Grid_copyFrom 0 0 [some (.ref r8), some (.ref r9)] [] h6) fun h10 =>
             some (some (.int (x2 - (nI 1))), h10)))))))))))))))
            (ev M_Relations_workPart 0 66 [some (.ref x0), some (.int x1), some (.int x2)] [] h))
         (ev M_Relations_workPart 0 66 [some (.ref x0), some (.int x1), some (.int x2)] [] h)) := (ev_eq _ _ _ _ _ _).trans rfl
theorem r_Relations_workPart_66 (x0 : Nat) (x1 : Int32) (x2 : Int32) (h : MH) : ev M_Relations_workPart 0 66 [some (.ref x0), some (.int x1), some (.int x2)] [] h =
    br (x1 < (nI 30))
      (some (some (.int x2), h))
      (br (x1 < (nI 35))
         (br ((nI 0) < x2)
            (isC h x0 7 (nnR (hR h x0 0) fun r1 =>
             isC h r1 24 (inA h r1 (x1 - (nI 30)) (nnR (hR h r1 (Int32.toNatClampNeg (x1 - (nI 30)))) fun r2 =>
             isC h x0 7 (nnR (hR h x0 3) fun r3 =>
             isC h r3 24 (inA h r3 (x2 - (nI 1)) (nnR (hR h r3 (Int32.toNatClampNeg (x2 - (nI 1)))) fun r4 =>
             isC h r2 3 (rV (ev M_Grid_copyFrom 0 0 [some (.ref r2), some (.ref r4)] [] h) fun h5 =>
             some (some (.int (x2 - (nI 1))), h5)))))))))
            (some (some (.int x2), h)))
         (some (some (.int x2), h))) := (ev_eq _ _ _ _ _ _).trans rfl
theorem r_Sightings_init_0 (x0 : Nat) (h : MH) : ev M_Sightings_init 0 0 [some (.ref x0)] [] h =
    let h1 := nw h 3 2
    rV (ev M_Grid_init 0 0 [some (.ref (hT h))] [] h1) fun h2 =>
    isC h2 x0 9 (
    let h3 := sR h2 x0 4 (hT h)
    okN (nI 30) fun n5 =>
    let h4 := nw h3 20 n5
    isC h4 x0 9 (
    let h6 := sR h4 x0 5 (hT h3)
    ev M_Sightings_init 0 12 [some (.ref x0)] [] h6)) := (ev_eq _ _ _ _ _ _).trans rfl
theorem r_Sightings_init_12 (x0 : Nat) (h : MH) : ev M_Sightings_init 0 12 [some (.ref x0)] [] h =
    okN (nI 30) fun n2 =>
    let h1 := nw h 20 n2
    isC h1 x0 9 (
    let h3 := sR h1 x0 6 (hT h)
    okN (nI 30) fun n5 =>
    let h4 := nw h3 20 n5
    isC h4 x0 9 (
    let h6 := sR h4 x0 7 (hT h3)
    ev M_Sightings_init 0 21 [some (.ref x0)] [] h6)) := (ev_eq _ _ _ _ _ _).trans rfl
theorem r_Sightings_init_21 (x0 : Nat) (h : MH) : ev M_Sightings_init 0 21 [some (.ref x0)] [] h =
    okN (nI 30) fun n2 =>
    let h1 := nw h 20 n2
    isC h1 x0 9 (
    let h3 := sR h1 x0 8 (hT h)
    okN (nI 30) fun n5 =>
    let h4 := nw h3 23 n5
    isC h4 x0 9 (
    let h6 := sR h4 x0 9 (hT h3)
    ev M_Sightings_init 0 30 [some (.ref x0)] [] h6)) := (ev_eq _ _ _ _ _ _).trans rfl
theorem r_Sightings_init_30 (x0 : Nat) (h : MH) : ev M_Sightings_init 0 30 [some (.ref x0)] [] h =
    okN (nI 30) fun n2 =>
    let h1 := nw h 20 n2
    isC h1 x0 9 (
    let h3 := sR h1 x0 10 (hT h)
    okN (nI 30) fun n5 =>
    let h4 := nw h3 20 n5
    isC h4 x0 9 (
    let h6 := sR h4 x0 11 (hT h3)
    ev M_Sightings_init 0 39 [some (.ref x0)] [] h6)) := (ev_eq _ _ _ _ _ _).trans rfl
theorem r_Sightings_init_39 (x0 : Nat) (h : MH) : ev M_Sightings_init 0 39 [some (.ref x0)] [] h =
    let h1 := nw h 3 2
    rV (ev M_Grid_init 0 0 [some (.ref (hT h))] [] h1) fun h2 =>
    isC h2 x0 9 (
    let h3 := sR h2 x0 13 (hT h)
    let h4 := nw h3 3 2
    rV (ev M_Grid_init 0 0 [some (.ref (hT h3))] [] h4) fun h5 =>
    isC h5 x0 9 (
    let h6 := sR h5 x0 14 (hT h3)
    ev M_Sightings_init 0 50 [some (.ref x0)] [] h6)) := (ev_eq _ _ _ _ _ _).trans rfl
theorem r_Sightings_init_50 (x0 : Nat) (h : MH) : ev M_Sightings_init 0 50 [some (.ref x0)] [] h =
    let h1 := nw h 3 2
    rV (ev M_Grid_init 0 0 [some (.ref (hT h))] [] h1) fun h2 =>
    isC h2 x0 9 (
    let h3 := sR h2 x0 15 (hT h)
    some (none, h3)) := (ev_eq _ _ _ _ _ _).trans rfl
theorem r_Sightings_begin_0 (x0 : Nat) (x1 : Nat) (x2 : Nat) (h : MH) : ev M_Sightings_begin 0 0 [some (.ref x0), some (.ref x1), some (.ref x2)] [] h =
    isC h x0 9 (
    let h1 := sI h x0 1 (nI 0)
    isC h1 x1 5 (
    br ((nI 0) < (hI h1 x1 1))
      (ev M_Sightings_begin 0 11 [some (.ref x0), some (.ref x1), some (.ref x2)] [(.int (nI 1)), (.ref x0)] h1)
      (ev M_Sightings_begin 0 11 [some (.ref x0), some (.ref x1), some (.ref x2)] [(.int (nI 0)), (.ref x0)] h1))) := (ev_eq _ _ _ _ _ _).trans rfl
theorem r_Sightings_begin_11 (x0 : Nat) (x1 : Nat) (x2 : Nat) (s0 : Nat) (s1 : Int32) (h : MH) : ev M_Sightings_begin 0 11 [some (.ref x0), some (.ref x1), some (.ref x2)] [(.int s1), (.ref s0)] h =
    isC h s0 9 (
    isZ s1 (let h1 := sI h s0 2 s1
    isC h1 x1 5 (
    isC h1 x0 9 (
    let h2 := sI h1 x0 3 (hI h1 x1 0)
    isC h2 x0 9 (nnR (hR h2 x0 4) fun r3 =>
    isC h2 r3 3 (rV (ev M_Grid_copyFrom 0 0 [some (.ref r3), some (.ref x2)] [] h2) fun h4 =>
    some (none, h4))))))) := (ev_eq _ _ _ _ _ _).trans rfl
set_option maxRecDepth 100000 in
set_option maxHeartbeats 4000000 in
theorem r_Sightings_tell_0 (x0 : Nat) (x1 : Int32) (x2 : Int32) (x3 : Int32) (x4 : Int32) (h : MH) : ev M_Sightings_tell 0 0 [some (.ref x0), some (.int x1), some (.int x2), some (.int x3), some (.int x4)] [] h =
    isC h x0 9 (
    br ((hI h x0 1) < (nI 30))
      (isC h x0 9 (nnR (hR h x0 5) fun r1 =>
       isC h x0 9 (
       isC h r1 20 (inA h r1 (hI h x0 1) (
       let h2 := sI h r1 (Int32.toNatClampNeg (hI h x0 1)) x1
       isC h2 x0 9 (nnR (hR h2 x0 6) fun r3 =>
       isC h2 x0 9 (
       isC h2 r3 20 (inA h2 r3 (hI h2 x0 1) (
       let h4 := sI h2 r3 (Int32.toNatClampNeg (hI h2 x0 1)) x2
       isC h4 x0 9 (nnR (hR h4 x0 7) fun r5 =>
       isC h4 x0 9 (
       isC h4 r5 20 (inA h4 r5 (hI h4 x0 1) (
       let h6 := sI h4 r5 (Int32.toNatClampNeg (hI h4 x0 1)) x3
       isC h6 x0 9 (nnR (hR h6 x0 8) fun r7 =>
       isC h6 x0 9 (
       isC h6 x0 9 (nnR (hR h6 x0 4) fun r8 =>
       isC h6 x0 9 (
       isC h6 r8 3 (rI (ev M_Grid_countInBlock 0 0 [some (.ref r8), some (.int x2), some (.int x1), some (.int (hI h6 x0 3)), none, none, none] [] h6) fun y10 h9 =>
       isC h9 r7 20 (inA h9 r7 (hI h6 x0 1) (
       let h11 := sI h9 r7 (Int32.toNatClampNeg (hI h6 x0 1)) y10
       isC h11 x0 9 (nnR (hR h11 x0 9) fun r12 =>
       isC h11 x0 9 (
       isC h11 r12 23 (inA h11 r12 (hI h11 x0 1) (
       let h13 := sI h11 r12 (Int32.toNatClampNeg (hI h11 x0 1)) (x4 &&& 1)
       isC h13 x0 9 (nnR (hR h13 x0 10) fun r14 =>
       isC h13 x0 9 (
       isC h13 x0 9 (
       isC h13 r14 20 (inA h13 r14 (hI h13 x0 1) (
       let h15 := sI h13 r14 (Int32.toNatClampNeg (hI h13 x0 1)) (hI h13 x0 0)
       isC h15 x0 9 (nnR (hR h15 x0 11) fun r16 =>
       isC h15 x0 9 (
       isC h15 r16 20 (inA h15 r16 (hI h15 x0 1) (
       let h17 := sI h15 r16 (Int32.toNatClampNeg (hI h15 x0 1)) (mI 1)
       isC h17 x0 9 (
       isC h17 x0 9 (
       let h18 := sI h17 x0 1 ((hI h17 x0 1) + (nI 1))
       isC h18 x0 9 (
       some (some (.int ((hI h18 x0 1) - (nI 1))), h18)))))))))))))))))))))))))))))))))))))
      (some (some (.int (mI 1)), h))) := (ev_eq _ _ _ _ _ _).trans rfl
theorem r_Sightings_takeBack_0 (x0 : Nat) (x1 : Int32) (h : MH) : ev M_Sightings_takeBack 0 0 [some (.ref x0), some (.int x1)] [] h =
    br (x1 < (nI 0))
      (isZ (nI 0) (some (some (.int (nI 0)), h)))
      (isC h x0 9 (
       br (x1 < (hI h x0 1))
         (isC h x0 9 (nnR (hR h x0 11) fun r1 =>
          isC h r1 20 (inA h r1 x1 (
          br ((hI h r1 (Int32.toNatClampNeg x1)) = (mI 1))
            (isC h x0 9 (nnR (hR h x0 11) fun r2 =>
             isC h x0 9 (
             isC h r2 20 (inA h r2 x1 (
             let h3 := sI h r2 (Int32.toNatClampNeg x1) (hI h x0 0)
             isZ (nI 1) (some (some (.int (nI 1)), h3)))))))
            (isZ (nI 0) (some (some (.int (nI 0)), h)))))))
         (isZ (nI 0) (some (some (.int (nI 0)), h))))) := (ev_eq _ _ _ _ _ _).trans rfl
theorem r_Sightings_gatherFits_0 (x0 : Nat) (x1 : Int32) (h : MH) : ev M_Sightings_gatherFits 0 0 [some (.ref x0), some (.int x1), none, none] [] h =
    isC h x0 9 (
    isC h x0 9 (
    isZ (hI h x0 2) (let h1 := sI h x0 12 (hI h x0 2)
    isC h1 x0 9 (nnR (hR h1 x0 13) fun r2 =>
    isC h1 x0 9 (
    br ((hI h1 x0 2) = (nI 0))
      (ev M_Sightings_gatherFits 0 15 [some (.ref x0), some (.int x1), none, none] [(.int (nI 0)), (.ref r2)] h1)
      (isC h1 x0 9 (nnR (hR h1 x0 4) fun r3 =>
       isC h1 r3 3 (
       ev M_Sightings_gatherFits 0 15 [some (.ref x0), some (.int x1), none, none] [(.int (hI h1 r3 1)), (.ref r2)] h1)))))))) := (ev_eq _ _ _ _ _ _).trans rfl
theorem r_Sightings_gatherFits_15 (x0 : Nat) (x1 : Int32) (s0 : Nat) (s1 : Int32) (h : MH) : ev M_Sightings_gatherFits 0 15 [some (.ref x0), some (.int x1), none, none] [(.int s1), (.ref s0)] h =
    isC h s0 3 (rV (ev M_Grid_fillAll 0 0 [some (.ref s0), some (.int s1), none] [] h) fun h1 =>
    ev M_Sightings_gatherFits 0 19 [some (.ref x0), some (.int x1), some (.int (nI 0)), none] [] h1) := (ev_eq _ _ _ _ _ _).trans rfl
theorem r_Sightings_gatherFits_19 (x0 : Nat) (x1 : Int32) (x2 : Int32) (h : MH) : ev M_Sightings_gatherFits 0 19 [some (.ref x0), some (.int x1), some (.int x2), none] [] h =
    isC h x0 9 (
    br (x2 < (hI h x0 1))
      (isC h x0 9 (nnR (hR h x0 11) fun r1 =>
       isC h r1 20 (inA h r1 x2 (
       br ((hI h r1 (Int32.toNatClampNeg x2)) = (mI 1))
         (ev M_Sightings_gatherFits 0 38 [some (.ref x0), some (.int x1), some (.int x2), none] [] h)
         (isC h x0 9 (nnR (hR h x0 11) fun r2 =>
          isC h r2 20 (inA h r2 x2 (
          br (x1 < (hI h r2 (Int32.toNatClampNeg x2)))
            (ev M_Sightings_gatherFits 0 38 [some (.ref x0), some (.int x1), some (.int x2), none] [] h)
            (ev M_Sightings_gatherFits 0 40 [some (.ref x0), some (.int x1), some (.int x2), none] [(.int (nI 1))] h)))))))))
      (some (none, h))) := (ev_eq _ _ _ _ _ _).trans rfl
theorem r_Sightings_gatherFits_38 (x0 : Nat) (x1 : Int32) (x2 : Int32) (h : MH) : ev M_Sightings_gatherFits 0 38 [some (.ref x0), some (.int x1), some (.int x2), none] [] h =
    ev M_Sightings_gatherFits 0 40 [some (.ref x0), some (.int x1), some (.int x2), none] [(.int (nI 0))] h := (ev_eq _ _ _ _ _ _).trans rfl
theorem r_Sightings_gatherFits_40 (x0 : Nat) (x1 : Int32) (x2 : Int32) (s0 : Int32) (h : MH) : ev M_Sightings_gatherFits 0 40 [some (.ref x0), some (.int x1), some (.int x2), none] [(.int s0)] h =
    isC h x0 9 (nnR (hR h x0 10) fun r1 =>
    isC h r1 20 (inA h r1 x2 (
    br (x1 < (hI h r1 (Int32.toNatClampNeg x2)))
      (ev M_Sightings_gatherFits 0 53 [some (.ref x0), some (.int x1), some (.int x2), none] [] h)
      (br (s0 = (nI 0))
         (isC h x0 9 (rV (ev M_Sightings_dropUnfit 0 0 [some (.ref x0), some (.int x2), none, none, none, none, none, none, none, none, none, none, none] [] h) fun h2 =>
          ev M_Sightings_gatherFits 0 53 [some (.ref x0), some (.int x1), some (.int x2), none] [] h2))
         (ev M_Sightings_gatherFits 0 53 [some (.ref x0), some (.int x1), some (.int x2), none] [] h))))) := (ev_eq _ _ _ _ _ _).trans rfl
theorem r_Sightings_gatherFits_53 (x0 : Nat) (x1 : Int32) (x2 : Int32) (h : MH) : ev M_Sightings_gatherFits 0 53 [some (.ref x0), some (.int x1), some (.int x2), none] [] h =
    ev M_Sightings_gatherFits 0 19 [some (.ref x0), some (.int x1), some (.int (x2 + (nI 1))), none] [] h := (ev_eq _ _ _ _ _ _).trans rfl
set_option maxRecDepth 100000 in
set_option maxHeartbeats 4000000 in
theorem r_Sightings_dropUnfit_0 (x0 : Nat) (x1 : Int32) (h : MH) : ev M_Sightings_dropUnfit 0 0 [some (.ref x0), some (.int x1), none, none, none, none, none, none, none, none, none, none, none] [] h =
    isC h x0 9 (nnR (hR h x0 8) fun r1 =>
    isC h r1 20 (inA h r1 x1 (
    isC h x0 9 (rI (ev M_Sightings_fitsWith 0 0 [some (.ref x0), some (.int x1), some (.int (hI h r1 (Int32.toNatClampNeg x1)))] [] h) fun y3 h2 =>
    isC h2 x0 9 (nnR (hR h2 x0 8) fun r4 =>
    isC h2 r4 20 (inA h2 r4 x1 (
    isC h2 x0 9 (rI (ev M_Sightings_fitsWith 0 0 [some (.ref x0), some (.int x1), some (.int ((hI h2 r4 (Int32.toNatClampNeg x1)) - (nI 1)))] [] h2) fun y6 h5 =>
    isC h5 x0 9 (nnR (hR h5 x0 8) fun r7 =>
    isC h5 r7 20 (inA h5 r7 x1 (
    isC h5 x0 9 (rI (ev M_Sightings_fitsWith 0 0 [some (.ref x0), some (.int x1), some (.int ((hI h5 r7 (Int32.toNatClampNeg x1)) + (nI 1)))] [] h5) fun y9 h8 =>
    isC h8 x0 9 (nnR (hR h8 x0 5) fun r10 =>
    isC h8 r10 20 (inA h8 r10 x1 (
    isC h8 x0 9 (
    isC h8 x0 9 (nnR (hR h8 x0 6) fun r11 =>
    isC h8 r11 20 (inA h8 r11 x1 (
    isC h8 x0 9 (nnR (hR h8 x0 6) fun r12 =>
    isC h8 r12 20 (inA h8 r12 x1 (
    isC h8 x0 9 (
    br ((hI h8 x0 12) = (nI 0))
      (ev M_Sightings_dropUnfit 0 77 [some (.ref x0), none, some (.int y3), some (.int y6), some (.int y9), none, some (.int ((hI h8 x0 3) - (hI h8 r10 (Int32.toNatClampNeg x1)))), some (.int ((hI h8 r11 (Int32.toNatClampNeg x1)) >>> ((hI h8 r10 (Int32.toNatClampNeg x1)) &&& 31))), none, some (.int ((((nI 1) <<< (((nI 1) <<< (((hI h8 x0 3) - (hI h8 r10 (Int32.toNatClampNeg x1))) &&& 31)) &&& 31)) - (nI 1)) <<< ((((hI h8 r12 (Int32.toNatClampNeg x1)) &&& (((nI 1) <<< ((hI h8 r10 (Int32.toNatClampNeg x1)) &&& 31)) - (nI 1))) <<< (((hI h8 x0 3) - (hI h8 r10 (Int32.toNatClampNeg x1))) &&& 31)) &&& 31))), none, none, none] [(.ref x0)] h8)
      (br (y3 = (nI 0))
         (ev M_Sightings_dropUnfit 0 77 [some (.ref x0), none, some (.int y3), some (.int y6), some (.int y9), none, some (.int ((hI h8 x0 3) - (hI h8 r10 (Int32.toNatClampNeg x1)))), some (.int ((hI h8 r11 (Int32.toNatClampNeg x1)) >>> ((hI h8 r10 (Int32.toNatClampNeg x1)) &&& 31))), none, some (.int ((((nI 1) <<< (((nI 1) <<< (((hI h8 x0 3) - (hI h8 r10 (Int32.toNatClampNeg x1))) &&& 31)) &&& 31)) - (nI 1)) <<< ((((hI h8 r12 (Int32.toNatClampNeg x1)) &&& (((nI 1) <<< ((hI h8 r10 (Int32.toNatClampNeg x1)) &&& 31)) - (nI 1))) <<< (((hI h8 x0 3) - (hI h8 r10 (Int32.toNatClampNeg x1))) &&& 31)) &&& 31))), none, none, none] [(.ref x0)] h8)
         (ev M_Sightings_dropUnfit 0 79 [some (.ref x0), none, some (.int y3), some (.int y6), some (.int y9), none, some (.int ((hI h8 x0 3) - (hI h8 r10 (Int32.toNatClampNeg x1)))), some (.int ((hI h8 r11 (Int32.toNatClampNeg x1)) >>> ((hI h8 r10 (Int32.toNatClampNeg x1)) &&& 31))), none, some (.int ((((nI 1) <<< (((nI 1) <<< (((hI h8 x0 3) - (hI h8 r10 (Int32.toNatClampNeg x1))) &&& 31)) &&& 31)) - (nI 1)) <<< ((((hI h8 r12 (Int32.toNatClampNeg x1)) &&& (((nI 1) <<< ((hI h8 r10 (Int32.toNatClampNeg x1)) &&& 31)) - (nI 1))) <<< (((hI h8 x0 3) - (hI h8 r10 (Int32.toNatClampNeg x1))) &&& 31)) &&& 31))), none, none, none] [(.int (nI 1)), (.ref x0)] h8))))))))))))))))))))))))) := (ev_eq _ _ _ _ _ _).trans rfl
theorem r_Sightings_dropUnfit_77 (x0 : Nat) (x2 : Int32) (x3 : Int32) (x4 : Int32) (x6 : Int32) (x7 : Int32) (x9 : Int32) (s0 : Nat) (h : MH) : ev M_Sightings_dropUnfit 0 77 [some (.ref x0), none, some (.int x2), some (.int x3), some (.int x4), none, some (.int x6), some (.int x7), none, some (.int x9), none, none, none] [(.ref s0)] h =
    ev M_Sightings_dropUnfit 0 79 [some (.ref x0), none, some (.int x2), some (.int x3), some (.int x4), none, some (.int x6), some (.int x7), none, some (.int x9), none, none, none] [(.int (nI 0)), (.ref s0)] h := (ev_eq _ _ _ _ _ _).trans rfl
theorem r_Sightings_dropUnfit_79 (x0 : Nat) (x2 : Int32) (x3 : Int32) (x4 : Int32) (x6 : Int32) (x7 : Int32) (x9 : Int32) (s0 : Nat) (s1 : Int32) (h : MH) : ev M_Sightings_dropUnfit 0 79 [some (.ref x0), none, some (.int x2), some (.int x3), some (.int x4), none, some (.int x6), some (.int x7), none, some (.int x9), none, none, none] [(.int s1), (.ref s0)] h =
    isC h s0 9 (
    isZ s1 (let h1 := sI h s0 12 s1
    ev M_Sightings_dropUnfit 0 83 [some (.ref x0), none, some (.int x2), some (.int x3), some (.int x4), none, some (.int x6), some (.int x7), none, some (.int x9), some (.int (nI 0)), none, none] [] h1)) := (ev_eq _ _ _ _ _ _).trans rfl
theorem r_Sightings_dropUnfit_83 (x0 : Nat) (x2 : Int32) (x3 : Int32) (x4 : Int32) (x6 : Int32) (x7 : Int32) (x9 : Int32) (x10 : Int32) (h : MH) : ev M_Sightings_dropUnfit 0 83 [some (.ref x0), none, some (.int x2), some (.int x3), some (.int x4), none, some (.int x6), some (.int x7), none, some (.int x9), some (.int x10), none, none] [] h =
    isC h x0 9 (nnR (hR h x0 13) fun r1 =>
    isC h r1 3 (
    br (x10 < (hI h r1 1))
      (br ((x10 >>> (x6 &&& 31)) = x7)
         (ev M_Sightings_dropUnfit 0 97 [some (.ref x0), none, some (.int x2), some (.int x3), some (.int x4), none, some (.int x6), some (.int x7), none, some (.int x9), some (.int x10), none, none] [(.int x9)] h)
         (ev M_Sightings_dropUnfit 0 97 [some (.ref x0), none, some (.int x2), some (.int x3), some (.int x4), none, some (.int x6), some (.int x7), none, some (.int x9), some (.int x10), none, none] [(.int (nI 0))] h))
      (some (none, h)))) := (ev_eq _ _ _ _ _ _).trans rfl
theorem r_Sightings_dropUnfit_97 (x0 : Nat) (x2 : Int32) (x3 : Int32) (x4 : Int32) (x6 : Int32) (x7 : Int32) (x9 : Int32) (x10 : Int32) (s0 : Int32) (h : MH) : ev M_Sightings_dropUnfit 0 97 [some (.ref x0), none, some (.int x2), some (.int x3), some (.int x4), none, some (.int x6), some (.int x7), none, some (.int x9), some (.int x10), none, none] [(.int s0)] h =
    br (x2 = (nI 0))
      (ev M_Sightings_dropUnfit 0 106 [some (.ref x0), none, some (.int x2), some (.int x3), some (.int x4), none, some (.int x6), some (.int x7), none, some (.int x9), some (.int x10), some (.int s0), none] [(.int (nI 0))] h)
      (ev M_Sightings_dropUnfit 0 106 [some (.ref x0), none, some (.int x2), some (.int x3), some (.int x4), none, some (.int x6), some (.int x7), none, some (.int x9), some (.int x10), some (.int s0), none] [(.int (s0 ^^^ (mI 1)))] h) := (ev_eq _ _ _ _ _ _).trans rfl
theorem r_Sightings_dropUnfit_106 (x0 : Nat) (x2 : Int32) (x3 : Int32) (x4 : Int32) (x6 : Int32) (x7 : Int32) (x9 : Int32) (x10 : Int32) (x11 : Int32) (s0 : Int32) (h : MH) : ev M_Sightings_dropUnfit 0 106 [some (.ref x0), none, some (.int x2), some (.int x3), some (.int x4), none, some (.int x6), some (.int x7), none, some (.int x9), some (.int x10), some (.int x11), none] [(.int s0)] h =
    br (x3 = (nI 0))
      (ev M_Sightings_dropUnfit 0 120 [some (.ref x0), none, some (.int x2), some (.int x3), some (.int x4), none, some (.int x6), some (.int x7), none, some (.int x9), some (.int x10), some (.int x11), some (.int s0)] [] h)
      (isC h x0 9 (nnR (hR h x0 4) fun r1 =>
       isC h r1 3 (nnR (hR h r1 0) fun r2 =>
       isC h r2 20 (inA h r2 x10 (
       ev M_Sightings_dropUnfit 0 120 [some (.ref x0), none, some (.int x2), some (.int x3), some (.int x4), none, some (.int x6), some (.int x7), none, some (.int x9), some (.int x10), some (.int x11), some (.int (s0 ||| (x11 &&& (hI h r2 (Int32.toNatClampNeg x10)))))] [] h))))) := (ev_eq _ _ _ _ _ _).trans rfl
theorem r_Sightings_dropUnfit_120 (x0 : Nat) (x2 : Int32) (x3 : Int32) (x4 : Int32) (x6 : Int32) (x7 : Int32) (x9 : Int32) (x10 : Int32) (x11 : Int32) (x12 : Int32) (h : MH) : ev M_Sightings_dropUnfit 0 120 [some (.ref x0), none, some (.int x2), some (.int x3), some (.int x4), none, some (.int x6), some (.int x7), none, some (.int x9), some (.int x10), some (.int x11), some (.int x12)] [] h =
    br (x4 = (nI 0))
      (ev M_Sightings_dropUnfit 0 135 [some (.ref x0), none, some (.int x2), some (.int x3), some (.int x4), none, some (.int x6), some (.int x7), none, some (.int x9), some (.int x10), none, some (.int x12)] [] h)
      (isC h x0 9 (nnR (hR h x0 4) fun r1 =>
       isC h r1 3 (nnR (hR h r1 0) fun r2 =>
       isC h r2 20 (inA h r2 x10 (
       ev M_Sightings_dropUnfit 0 135 [some (.ref x0), none, some (.int x2), some (.int x3), some (.int x4), none, some (.int x6), some (.int x7), none, some (.int x9), some (.int x10), none, some (.int (x12 ||| (x11 &&& ((hI h r2 (Int32.toNatClampNeg x10)) ^^^ (mI 1)))))] [] h))))) := (ev_eq _ _ _ _ _ _).trans rfl
theorem r_Sightings_dropUnfit_135 (x0 : Nat) (x2 : Int32) (x3 : Int32) (x4 : Int32) (x6 : Int32) (x7 : Int32) (x9 : Int32) (x10 : Int32) (x12 : Int32) (h : MH) : ev M_Sightings_dropUnfit 0 135 [some (.ref x0), none, some (.int x2), some (.int x3), some (.int x4), none, some (.int x6), some (.int x7), none, some (.int x9), some (.int x10), none, some (.int x12)] [] h =
    isC h x0 9 (nnR (hR h x0 13) fun r1 =>
    isC h r1 3 (nnR (hR h r1 0) fun r2 =>
    isC h r2 20 (inA h r2 x10 (
    isC h r2 20 (inA h r2 x10 (
    let h3 := sI h r2 (Int32.toNatClampNeg x10) ((hI h r2 (Int32.toNatClampNeg x10)) &&& x12)
    ev M_Sightings_dropUnfit 0 83 [some (.ref x0), none, some (.int x2), some (.int x3), some (.int x4), none, some (.int x6), some (.int x7), none, some (.int x9), some (.int (x10 + (nI 1))), none, none] [] h3)))))) := (ev_eq _ _ _ _ _ _).trans rfl
theorem r_Sightings_fitsWith_0 (x0 : Nat) (x1 : Int32) (x2 : Int32) (h : MH) : ev M_Sightings_fitsWith 0 0 [some (.ref x0), some (.int x1), some (.int x2)] [] h =
    isC h x0 9 (nnR (hR h x0 7) fun r1 =>
    isC h r1 20 (inA h r1 x1 (
    br (x2 = (hI h r1 (Int32.toNatClampNeg x1)))
      (ev M_Sightings_fitsWith 0 10 [some (.ref x0), some (.int x1), none] [(.int (nI 1))] h)
      (ev M_Sightings_fitsWith 0 10 [some (.ref x0), some (.int x1), none] [(.int (nI 0))] h)))) := (ev_eq _ _ _ _ _ _).trans rfl
theorem r_Sightings_fitsWith_10 (x0 : Nat) (x1 : Int32) (s0 : Int32) (h : MH) : ev M_Sightings_fitsWith 0 10 [some (.ref x0), some (.int x1), none] [(.int s0)] h =
    isC h x0 9 (nnR (hR h x0 9) fun r1 =>
    isC h r1 23 (inA h r1 x1 (
    br (s0 = (hI h r1 (Int32.toNatClampNeg x1)))
      (isZ (nI 1) (some (some (.int (nI 1)), h)))
      (isZ (nI 0) (some (some (.int (nI 0)), h)))))) := (ev_eq _ _ _ _ _ _).trans rfl
theorem r_Sightings_countFits_0 (x0 : Nat) (x1 : Int32) (h : MH) : ev M_Sightings_countFits 0 0 [some (.ref x0), some (.int x1)] [] h =
    isC h x0 9 (rV (ev M_Sightings_gatherFits 0 0 [some (.ref x0), some (.int x1), none, none] [] h) fun h1 =>
    isC h1 x0 9 (nnR (hR h1 x0 13) fun r2 =>
    isC h1 r2 3 (rI (ev M_Grid_count 0 0 [some (.ref r2), none, none] [] h1) fun y4 h3 =>
    isC h3 x0 9 (
    br ((hI h3 x0 12) = (nI 0))
      (ev M_Sightings_countFits 0 13 [none, none] [(.int (nI 0)), (.int y4)] h3)
      (ev M_Sightings_countFits 0 13 [none, none] [(.int (nI 1)), (.int y4)] h3))))) := (ev_eq _ _ _ _ _ _).trans rfl
theorem r_Sightings_countFits_13 (s0 : Int32) (s1 : Int32) (h : MH) : ev M_Sightings_countFits 0 13 [none, none] [(.int s1), (.int s0)] h =
    some (some (.int (s0 + s1)), h) := (ev_eq _ _ _ _ _ _).trans rfl
theorem r_Sightings_findFit_0 (x0 : Nat) (x1 : Int32) (x2 : Int32) (h : MH) : ev M_Sightings_findFit 0 0 [some (.ref x0), some (.int x1), some (.int x2), none] [] h =
    isC h x0 9 (rV (ev M_Sightings_gatherFits 0 0 [some (.ref x0), some (.int x2), none, none] [] h) fun h1 =>
    br (x1 < (nI 0))
      (some (some (.int (mI 2)), h1))
      (isC h1 x0 9 (
       br ((hI h1 x0 12) = (nI 0))
         (ev M_Sightings_findFit 0 15 [some (.ref x0), some (.int x1), none, none] [] h1)
         (br (x1 = (nI 0))
            (some (some (.int (mI 1)), h1))
            (ev M_Sightings_findFit 0 15 [some (.ref x0), some (.int x1), none, none] [] h1))))) := (ev_eq _ _ _ _ _ _).trans rfl
theorem r_Sightings_findFit_15 (x0 : Nat) (x1 : Int32) (h : MH) : ev M_Sightings_findFit 0 15 [some (.ref x0), some (.int x1), none, none] [] h =
    isC h x0 9 (nnR (hR h x0 13) fun r1 =>
    isC h x0 9 (
    br ((hI h x0 12) = (nI 0))
      (ev M_Sightings_findFit 0 26 [some (.ref x0), none, none, none] [(.int x1), (.ref r1)] h)
      (ev M_Sightings_findFit 0 26 [some (.ref x0), none, none, none] [(.int (x1 - (nI 1))), (.ref r1)] h))) := (ev_eq _ _ _ _ _ _).trans rfl
theorem r_Sightings_findFit_26 (x0 : Nat) (s0 : Nat) (s1 : Int32) (h : MH) : ev M_Sightings_findFit 0 26 [some (.ref x0), none, none, none] [(.int s1), (.ref s0)] h =
    isC h s0 3 (rI (ev M_Grid_findPair 0 0 [some (.ref s0), some (.int s1), none, none, none] [] h) fun y2 h1 =>
    br (y2 = (mI 1))
      (some (some (.int (mI 2)), h1))
      (nz (nI 16) (
       isC h1 x0 9 (nnR (hR h1 x0 4) fun r3 =>
       isC h1 r3 3 (
       nz (nI 16) (
       some (some (.int (((y2 / (nI 16)) * (hI h1 r3 1)) + (y2 - y2 / (nI 16) * (nI 16)))), h1))))))) := (ev_eq _ _ _ _ _ _).trans rfl
set_option maxRecDepth 100000 in
set_option maxHeartbeats 4000000 in
theorem r_Sightings_bestBlock_0 (x0 : Nat) (x1 : Int32) (x2 : Int32) (x3 : Int32) (h : MH) : ev M_Sightings_bestBlock 0 0 [some (.ref x0), some (.int x1), some (.int x2), some (.int x3), none, none, none, none, none, none, none] [] h =
    isC h x0 9 (rI (ev M_Sightings_countFits 0 0 [some (.ref x0), some (.int x2)] [] h) fun y2 h1 =>
    br (y2 = (nI 0))
      (some (some (.int (mI 1)), h1))
      (isC h1 x0 9 (nnR (hR h1 x0 14) fun r3 =>
       isC h1 x0 9 (nnR (hR h1 x0 13) fun r4 =>
       isC h1 x0 9 (nnR (hR h1 x0 4) fun r5 =>
       isC h1 r3 3 (rV (ev M_Grid_join 0 0 [some (.ref r3), some (.int (nI 1)), some (.ref r4), some (.ref r5), none, none] [] h1) fun h6 =>
       isC h6 x0 9 (nnR (hR h6 x0 15) fun r7 =>
       isC h6 x0 9 (nnR (hR h6 x0 13) fun r8 =>
       isC h6 x0 9 (nnR (hR h6 x0 4) fun r9 =>
       isC h6 r7 3 (rV (ev M_Grid_join 0 0 [some (.ref r7), some (.int (nI 2)), some (.ref r8), some (.ref r9), none, none] [] h6) fun h10 =>
       ev M_Sightings_bestBlock 0 33 [some (.ref x0), some (.int x1), none, some (.int x3), some (.int y2), some (.int (nI 0)), some (.int (y2 + (nI 1))), some (.int (nI 0)), none, none, none] [] h10)))))))))) := (ev_eq _ _ _ _ _ _).trans rfl
set_option maxRecDepth 100000 in
set_option maxHeartbeats 4000000 in
theorem r_Sightings_bestBlock_33 (x0 : Nat) (x1 : Int32) (x3 : Int32) (x4 : Int32) (x5 : Int32) (x6 : Int32) (x7 : Int32) (h : MH) : ev M_Sightings_bestBlock 0 33 [some (.ref x0), some (.int x1), none, some (.int x3), some (.int x4), some (.int x5), some (.int x6), some (.int x7), none, none, none] [] h =
    br (x7 < ((nI 1) <<< (((nI 2) * x1) &&& 31)))
      (isC h x0 9 (nnR (hR h x0 14) fun r1 =>
       isC h x0 9 (
       isC h r1 3 (rI (ev M_Grid_countInBlock 0 0 [some (.ref r1), some (.int x7), some (.int x1), some (.int (hI h x0 3)), none, none, none] [] h) fun y3 h2 =>
       isC h2 x0 9 (nnR (hR h2 x0 15) fun r4 =>
       isC h2 x0 9 (
       isC h2 r4 3 (rI (ev M_Grid_countInBlock 0 0 [some (.ref r4), some (.int x7), some (.int x1), some (.int (hI h2 x0 3)), none, none, none] [] h2) fun y6 h5 =>
       br ((if ((x4 - y3) - y6) < (if y3 < y6 then y6 else y3) then (if y3 < y6 then y6 else y3) else ((x4 - y3) - y6)) < x6)
         (ev M_Sightings_bestBlock 0 74 [some (.ref x0), some (.int x1), none, some (.int x3), some (.int x4), some (.int x7), some (.int (if ((x4 - y3) - y6) < (if y3 < y6 then y6 else y3) then (if y3 < y6 then y6 else y3) else ((x4 - y3) - y6))), some (.int x7), none, none, none] [] h5)
         (ev M_Sightings_bestBlock 0 74 [some (.ref x0), some (.int x1), none, some (.int x3), some (.int x4), some (.int x5), some (.int x6), some (.int x7), none, none, none] [] h5))))))))
      (br (x3 = (nI 0))
         (some (some (.int x5), h))
         (some (some (.int x6), h))) := (ev_eq _ _ _ _ _ _).trans rfl
theorem r_Sightings_bestBlock_74 (x0 : Nat) (x1 : Int32) (x3 : Int32) (x4 : Int32) (x5 : Int32) (x6 : Int32) (x7 : Int32) (h : MH) : ev M_Sightings_bestBlock 0 74 [some (.ref x0), some (.int x1), none, some (.int x3), some (.int x4), some (.int x5), some (.int x6), some (.int x7), none, none, none] [] h =
    ev M_Sightings_bestBlock 0 33 [some (.ref x0), some (.int x1), none, some (.int x3), some (.int x4), some (.int x5), some (.int x6), some (.int (x7 + (nI 1))), none, none, none] [] h := (ev_eq _ _ _ _ _ _).trans rfl
theorem r_Steps_init_0 (x0 : Nat) (h : MH) : ev M_Steps_init 0 0 [some (.ref x0)] [] h =
    let h1 := nw h 3 2
    rV (ev M_Grid_init 0 0 [some (.ref (hT h))] [] h1) fun h2 =>
    isC h2 x0 10 (
    let h3 := sR h2 x0 0 (hT h)
    let h4 := nw h3 3 2
    rV (ev M_Grid_init 0 0 [some (.ref (hT h3))] [] h4) fun h5 =>
    isC h5 x0 10 (
    let h6 := sR h5 x0 1 (hT h3)
    ev M_Steps_init 0 13 [none] [] h6)) := (ev_eq _ _ _ _ _ _).trans rfl
theorem r_Steps_init_13  (h : MH) : ev M_Steps_init 0 13 [none] [] h =
    some (none, h) := (ev_eq _ _ _ _ _ _).trans rfl
theorem r_Steps_allFrom_0 (x0 : Nat) (x1 : Nat) (x2 : Int32) (h : MH) : ev M_Steps_allFrom 0 0 [some (.ref x0), some (.ref x1), some (.int x2), none, none] [] h =
    ev M_Steps_allFrom 0 7 [none, some (.ref x1), none, some (.int ((nI 1) <<< (x2 &&& 31))), some (.int (nI 0))] [] h := (ev_eq _ _ _ _ _ _).trans rfl
theorem r_Steps_allFrom_7 (x1 : Nat) (x3 : Int32) (x4 : Int32) (h : MH) : ev M_Steps_allFrom 0 7 [none, some (.ref x1), none, some (.int x3), some (.int x4)] [] h =
    isC h x1 3 (
    br (x4 < (hI h x1 1))
      (isC h x1 3 (rI (ev M_Grid_stepFrom 0 0 [some (.ref x1), some (.int x3), none, none] [] h) fun y2 h1 =>
       ev M_Steps_allFrom 0 7 [none, some (.ref x1), none, some (.int (x3 ||| y2)), some (.int (x4 + (nI 1)))] [] h1))
      (some (some (.int x3), h))) := (ev_eq _ _ _ _ _ _).trans rfl
theorem r_Steps_fewest_0 (x0 : Nat) (x1 : Nat) (x2 : Int32) (x3 : Int32) (h : MH) : ev M_Steps_fewest 0 0 [some (.ref x0), some (.ref x1), some (.int x2), some (.int x3), none, none] [] h =
    ev M_Steps_fewest 0 7 [none, some (.ref x1), none, some (.int x3), some (.int ((nI 1) <<< (x2 &&& 31))), some (.int (nI 0))] [] h := (ev_eq _ _ _ _ _ _).trans rfl
theorem r_Steps_fewest_7 (x1 : Nat) (x3 : Int32) (x4 : Int32) (x5 : Int32) (h : MH) : ev M_Steps_fewest 0 7 [none, some (.ref x1), none, some (.int x3), some (.int x4), some (.int x5)] [] h =
    isC h x1 3 (
    br (x5 < (hI h x1 1))
      (br (((x4 >>> (x3 &&& 31)) &&& (nI 1)) = (nI 1))
         (some (some (.int x5), h))
         (isC h x1 3 (rI (ev M_Grid_stepFrom 0 0 [some (.ref x1), some (.int x4), none, none] [] h) fun y2 h1 =>
          ev M_Steps_fewest 0 7 [none, some (.ref x1), none, some (.int x3), some (.int (x4 ||| y2)), some (.int (x5 + (nI 1)))] [] h1)))
      (some (some (.int (mI 1)), h))) := (ev_eq _ _ _ _ _ _).trans rfl
theorem r_Steps_bothWays_0 (x0 : Nat) (x1 : Nat) (x2 : Int32) (h : MH) : ev M_Steps_bothWays 0 0 [some (.ref x0), some (.ref x1), some (.int x2)] [] h =
    isC h x0 10 (nnR (hR h x0 0) fun r1 =>
    isC h r1 3 (rV (ev M_Grid_changeOver 0 0 [some (.ref r1), some (.ref x1), none] [] h) fun h2 =>
    isC h2 x0 10 (rI (ev M_Steps_allFrom 0 0 [some (.ref x0), some (.ref x1), some (.int x2), none, none] [] h2) fun y4 h3 =>
    isC h3 x0 10 (nnR (hR h3 x0 0) fun r5 =>
    isC h3 x0 10 (rI (ev M_Steps_allFrom 0 0 [some (.ref x0), some (.ref r5), some (.int x2), none, none] [] h3) fun y7 h6 =>
    some (some (.int (y4 &&& y7)), h6)))))) := (ev_eq _ _ _ _ _ _).trans rfl
theorem r_Steps_countClosure_0 (x0 : Nat) (x1 : Nat) (h : MH) : ev M_Steps_countClosure 0 0 [some (.ref x0), some (.ref x1)] [] h =
    isC h x0 10 (rI (ev M_Steps_settle 0 0 [some (.ref x0), some (.ref x1), none, none, none] [] h) fun y2 h1 =>
    isC h1 x0 10 (nnR (hR h1 x0 0) fun r3 =>
    isC h1 r3 3 (rI (ev M_Grid_count 0 0 [some (.ref r3), none, none] [] h1) fun y5 h4 =>
    some (some (.int y5), h4)))) := (ev_eq _ _ _ _ _ _).trans rfl
theorem r_Steps_countGoes_0 (x0 : Nat) (x1 : Nat) (h : MH) : ev M_Steps_countGoes 0 0 [some (.ref x0), some (.ref x1)] [] h =
    isC h x0 10 (rI (ev M_Steps_settle 0 0 [some (.ref x0), some (.ref x1), none, none, none] [] h) fun y2 h1 =>
    some (some (.int y2), h1)) := (ev_eq _ _ _ _ _ _).trans rfl
theorem r_Steps_settle_0 (x0 : Nat) (x1 : Nat) (h : MH) : ev M_Steps_settle 0 0 [some (.ref x0), some (.ref x1), none, none, none] [] h =
    isC h x0 10 (nnR (hR h x0 0) fun r1 =>
    isC h r1 3 (rV (ev M_Grid_copyFrom 0 0 [some (.ref r1), some (.ref x1)] [] h) fun h2 =>
    ev M_Steps_settle 0 9 [some (.ref x0), none, some (.int (nI 0)), some (.int (nI 0)), none] [] h2)) := (ev_eq _ _ _ _ _ _).trans rfl
theorem r_Steps_settle_9 (x0 : Nat) (x2 : Int32) (x3 : Int32) (h : MH) : ev M_Steps_settle 0 9 [some (.ref x0), none, some (.int x2), some (.int x3), none] [] h =
    br (x3 < (nI 16))
      (isC h x0 10 (nnR (hR h x0 1) fun r1 =>
       isC h x0 10 (nnR (hR h x0 0) fun r2 =>
       isC h x0 10 (nnR (hR h x0 0) fun r3 =>
       isC h r1 3 (rV (ev M_Grid_join 0 0 [some (.ref r1), some (.int (nI 3)), some (.ref r2), some (.ref r3), none, none] [] h) fun h4 =>
       isC h4 x0 10 (nnR (hR h4 x0 1) fun r5 =>
       isC h4 x0 10 (nnR (hR h4 x0 0) fun r6 =>
       isC h4 r5 3 (rI (ev M_Grid_isWithin 0 0 [some (.ref r5), some (.ref r6), none] [] h4) fun y8 h7 =>
       br (y8 = (nI 0))
         (ev M_Steps_settle 0 31 [some (.ref x0), none, some (.int x2), some (.int x3), some (.int (nI 0))] [] h7)
         (some (some (.int x2), h7))))))))))
      (some (some (.int x2), h)) := (ev_eq _ _ _ _ _ _).trans rfl
theorem r_Steps_settle_31 (x0 : Nat) (x2 : Int32) (x3 : Int32) (x4 : Int32) (h : MH) : ev M_Steps_settle 0 31 [some (.ref x0), none, some (.int x2), some (.int x3), some (.int x4)] [] h =
    isC h x0 10 (nnR (hR h x0 0) fun r1 =>
    isC h r1 3 (
    br (x4 < (hI h r1 1))
      (isC h x0 10 (nnR (hR h x0 0) fun r2 =>
       isC h r2 3 (nnR (hR h r2 0) fun r3 =>
       isC h r3 20 (inA h r3 x4 (
       isC h x0 10 (nnR (hR h x0 1) fun r4 =>
       isC h r4 3 (nnR (hR h r4 0) fun r5 =>
       isC h r5 20 (inA h r5 x4 (
       isC h r3 20 (inA h r3 x4 (
       let h6 := sI h r3 (Int32.toNatClampNeg x4) ((hI h r3 (Int32.toNatClampNeg x4)) ||| (hI h r5 (Int32.toNatClampNeg x4)))
       ev M_Steps_settle 0 31 [some (.ref x0), none, some (.int x2), some (.int x3), some (.int (x4 + (nI 1)))] [] h6)))))))))))
      (ev M_Steps_settle 0 9 [some (.ref x0), none, some (.int (x2 + (nI 1))), some (.int (x3 + (nI 1))), none] [] h))) := (ev_eq _ _ _ _ _ _).trans rfl
theorem r_Steps_countSets_0 (x0 : Nat) (x1 : Nat) (h : MH) : ev M_Steps_countSets 0 0 [some (.ref x0), some (.ref x1), none, none, none] [] h =
    isC h x0 10 (nnR (hR h x0 0) fun r1 =>
    isC h r1 3 (rV (ev M_Grid_join 0 0 [some (.ref r1), some (.int (nI 4)), some (.ref x1), some (.ref x1), none, none] [] h) fun h2 =>
    ev M_Steps_countSets 0 13 [some (.ref x0), none, some (.int (nI 0)), some (.int (nI 0)), some (.int (nI 0))] [] h2)) := (ev_eq _ _ _ _ _ _).trans rfl
theorem r_Steps_countSets_13 (x0 : Nat) (x2 : Int32) (x3 : Int32) (x4 : Int32) (h : MH) : ev M_Steps_countSets 0 13 [some (.ref x0), none, some (.int x2), some (.int x3), some (.int x4)] [] h =
    isC h x0 10 (nnR (hR h x0 0) fun r1 =>
    isC h r1 3 (
    br (x4 < (hI h r1 1))
      (br (((x2 >>> (x4 &&& 31)) &&& (nI 1)) = (nI 0))
         (isC h x0 10 (nnR (hR h x0 0) fun r2 =>
          isC h x0 10 (rI (ev M_Steps_allFrom 0 0 [some (.ref x0), some (.ref r2), some (.int x4), none, none] [] h) fun y4 h3 =>
          ev M_Steps_countSets 0 34 [some (.ref x0), none, some (.int (x2 ||| y4)), some (.int (x3 + (nI 1))), some (.int x4)] [] h3)))
         (ev M_Steps_countSets 0 34 [some (.ref x0), none, some (.int x2), some (.int x3), some (.int x4)] [] h))
      (some (some (.int x3), h)))) := (ev_eq _ _ _ _ _ _).trans rfl
theorem r_Steps_countSets_34 (x0 : Nat) (x2 : Int32) (x3 : Int32) (x4 : Int32) (h : MH) : ev M_Steps_countSets 0 34 [some (.ref x0), none, some (.int x2), some (.int x3), some (.int x4)] [] h =
    ev M_Steps_countSets 0 13 [some (.ref x0), none, some (.int x2), some (.int x3), some (.int (x4 + (nI 1)))] [] h := (ev_eq _ _ _ _ _ _).trans rfl
theorem r_Tree_init_0 (x0 : Nat) (h : MH) : ev M_Tree_init 0 0 [some (.ref x0), none] [] h =
    okN (nI 5) fun n2 =>
    let h1 := nw h 24 n2
    isC h1 x0 11 (
    let h3 := sR h1 x0 0 (hT h)
    okN (nI 340) fun n5 =>
    let h4 := nw h3 20 n5
    isC h4 x0 11 (
    let h6 := sR h4 x0 1 (hT h3)
    ev M_Tree_init 0 11 [some (.ref x0), none] [] h6)) := (ev_eq _ _ _ _ _ _).trans rfl
theorem r_Tree_init_11 (x0 : Nat) (h : MH) : ev M_Tree_init 0 11 [some (.ref x0), none] [] h =
    okN (nI 340) fun n2 =>
    let h1 := nw h 20 n2
    isC h1 x0 11 (
    let h3 := sR h1 x0 2 (hT h)
    okN (nI 340) fun n5 =>
    let h4 := nw h3 20 n5
    isC h4 x0 11 (
    let h6 := sR h4 x0 3 (hT h3)
    ev M_Tree_init 0 20 [some (.ref x0), none] [] h6)) := (ev_eq _ _ _ _ _ _).trans rfl
theorem r_Tree_init_20 (x0 : Nat) (h : MH) : ev M_Tree_init 0 20 [some (.ref x0), none] [] h =
    ev M_Tree_init 0 23 [some (.ref x0), some (.int (nI 0))] [] h := (ev_eq _ _ _ _ _ _).trans rfl
theorem r_Tree_init_23 (x0 : Nat) (x1 : Int32) (h : MH) : ev M_Tree_init 0 23 [some (.ref x0), some (.int x1)] [] h =
    br ((nI 4) < x1)
      (some (none, h))
      (isC h x0 11 (nnR (hR h x0 0) fun r1 =>
       let h2 := nw h 3 2
       rV (ev M_Grid_init 0 0 [some (.ref (hT h))] [] h2) fun h3 =>
       isC h3 r1 24 (inA h3 r1 x1 (
       isC h3 (hT h) 3 (let h4 := sR h3 r1 (Int32.toNatClampNeg x1) (hT h)
       ev M_Tree_init 0 34 [some (.ref x0), some (.int x1)] [] h4))))) := (ev_eq _ _ _ _ _ _).trans rfl
theorem r_Tree_init_34 (x0 : Nat) (x1 : Int32) (h : MH) : ev M_Tree_init 0 34 [some (.ref x0), some (.int x1)] [] h =
    ev M_Tree_init 0 23 [some (.ref x0), some (.int (x1 + (nI 1)))] [] h := (ev_eq _ _ _ _ _ _).trans rfl
theorem r_Tree_grow_0 (x0 : Nat) (x1 : Nat) (x2 : Int32) (h : MH) : ev M_Tree_grow 0 0 [some (.ref x0), some (.ref x1), some (.int x2), none] [] h =
    isC h x0 11 (
    let h1 := sI h x0 5 (if (nI 1) < (if (nI 4) < x2 then (nI 4) else x2) then (if (nI 4) < x2 then (nI 4) else x2) else (nI 1))
    isC h1 x0 11 (nnR (hR h1 x0 0) fun r2 =>
    isC h1 x0 11 (
    isC h1 r2 24 (inA h1 r2 (hI h1 x0 5) (nnR (hR h1 r2 (Int32.toNatClampNeg (hI h1 x0 5))) fun r3 =>
    isC h1 r3 3 (rV (ev M_Grid_copyFrom 0 0 [some (.ref r3), some (.ref x1)] [] h1) fun h4 =>
    isC h4 x0 11 (
    ev M_Tree_grow 0 20 [some (.ref x0), none, none, some (.int ((hI h4 x0 5) - (nI 1)))] [] h4))))))) := (ev_eq _ _ _ _ _ _).trans rfl
theorem r_Tree_grow_20 (x0 : Nat) (x3 : Int32) (h : MH) : ev M_Tree_grow 0 20 [some (.ref x0), none, none, some (.int x3)] [] h =
    br (x3 < (nI 0))
      (some (none, h))
      (isC h x0 11 (nnR (hR h x0 0) fun r1 =>
       isC h r1 24 (inA h r1 x3 (nnR (hR h r1 (Int32.toNatClampNeg x3)) fun r2 =>
       isC h x0 11 (nnR (hR h x0 0) fun r3 =>
       isC h r3 24 (inA h r3 (x3 + (nI 1)) (nnR (hR h r3 (Int32.toNatClampNeg (x3 + (nI 1)))) fun r4 =>
       isC h r2 3 (rV (ev M_Grid_halve 0 0 [some (.ref r2), some (.ref r4), none, none, none] [] h) fun h5 =>
       ev M_Tree_grow 0 20 [some (.ref x0), none, none, some (.int (x3 + (mI 1)))] [] h5)))))))) := (ev_eq _ _ _ _ _ _).trans rfl
theorem r_Tree_filledOn_0 (x0 : Nat) (x1 : Int32) (h : MH) : ev M_Tree_filledOn 0 0 [some (.ref x0), some (.int x1)] [] h =
    isC h x0 11 (nnR (hR h x0 0) fun r1 =>
    isC h x0 11 (
    isC h r1 24 (inA h r1 (if (nI 0) < (if (hI h x0 5) < x1 then (hI h x0 5) else x1) then (if (hI h x0 5) < x1 then (hI h x0 5) else x1) else (nI 0)) (nnR (hR h r1 (Int32.toNatClampNeg (if (nI 0) < (if (hI h x0 5) < x1 then (hI h x0 5) else x1) then (if (hI h x0 5) < x1 then (hI h x0 5) else x1) else (nI 0)))) fun r2 =>
    some (some (.ref r2), h))))) := (ev_eq _ _ _ _ _ _).trans rfl
theorem r_Tree_countBits_0 (x0 : Nat) (h : MH) : ev M_Tree_countBits 0 0 [some (.ref x0), none, none] [] h =
    ev M_Tree_countBits 0 5 [some (.ref x0), some (.int (nI 4)), some (.int (nI 1))] [] h := (ev_eq _ _ _ _ _ _).trans rfl
theorem r_Tree_countBits_5 (x0 : Nat) (x1 : Int32) (x2 : Int32) (h : MH) : ev M_Tree_countBits 0 5 [some (.ref x0), some (.int x1), some (.int x2)] [] h =
    isC h x0 11 (
    br (x2 < (hI h x0 5))
      (isC h x0 11 (nnR (hR h x0 0) fun r1 =>
       isC h r1 24 (inA h r1 x2 (nnR (hR h r1 (Int32.toNatClampNeg x2)) fun r2 =>
       isC h r2 3 (rI (ev M_Grid_count 0 0 [some (.ref r2), none, none] [] h) fun y4 h3 =>
       ev M_Tree_countBits 0 5 [some (.ref x0), some (.int (x1 + ((nI 4) * y4))), some (.int (x2 + (nI 1)))] [] h3)))))
      (some (some (.int x1), h))) := (ev_eq _ _ _ _ _ _).trans rfl
theorem r_Tree_layBits_0 (x0 : Nat) (h : MH) : ev M_Tree_layBits 0 0 [some (.ref x0), none] [] h =
    isC h x0 11 (
    let h1 := sI h x0 4 (nI 0)
    isC h1 x0 11 (rV (ev M_Tree_layQuarters 0 0 [some (.ref x0), some (.int (nI 1)), some (.int (nI 0)), some (.int (nI 0)), none] [] h1) fun h2 =>
    ev M_Tree_layBits 0 11 [some (.ref x0), some (.int (nI 0))] [] h2)) := (ev_eq _ _ _ _ _ _).trans rfl
set_option maxRecDepth 100000 in
set_option maxHeartbeats 4000000 in
theorem r_Tree_layBits_11 (x0 : Nat) (x1 : Int32) (h : MH) : ev M_Tree_layBits 0 11 [some (.ref x0), some (.int x1)] [] h =
    isC h x0 11 (
    br (x1 < (hI h x0 4))
      (br (x1 < (nI 340))
         (isC h x0 11 (nnR (hR h x0 1) fun r1 =>
          isC h r1 20 (inA h r1 x1 (
          isC h x0 11 (
          br ((hI h r1 (Int32.toNatClampNeg x1)) < (hI h x0 5))
            (isC h x0 11 (rI (ev M_Tree_bitAt 0 0 [some (.ref x0), some (.int x1)] [] h) fun y3 h2 =>
             br (y3 = (nI 1))
               (isC h2 x0 11 (nnR (hR h2 x0 1) fun r4 =>
                isC h2 r4 20 (inA h2 r4 x1 (
                isC h2 x0 11 (nnR (hR h2 x0 2) fun r5 =>
                isC h2 r5 20 (inA h2 r5 x1 (
                isC h2 x0 11 (nnR (hR h2 x0 3) fun r6 =>
                isC h2 r6 20 (inA h2 r6 x1 (
                isC h2 x0 11 (rV (ev M_Tree_layQuarters 0 0 [some (.ref x0), some (.int ((hI h2 r4 (Int32.toNatClampNeg x1)) + (nI 1))), some (.int ((nI 2) * (hI h2 r5 (Int32.toNatClampNeg x1)))), some (.int ((nI 2) * (hI h2 r6 (Int32.toNatClampNeg x1)))), none] [] h2) fun h7 =>
                ev M_Tree_layBits 0 51 [some (.ref x0), some (.int x1)] [] h7)))))))))))
               (ev M_Tree_layBits 0 51 [some (.ref x0), some (.int x1)] [] h2)))
            (ev M_Tree_layBits 0 51 [some (.ref x0), some (.int x1)] [] h))))))
         (some (none, h)))
      (some (none, h))) := (ev_eq _ _ _ _ _ _).trans rfl
theorem r_Tree_layBits_51 (x0 : Nat) (x1 : Int32) (h : MH) : ev M_Tree_layBits 0 51 [some (.ref x0), some (.int x1)] [] h =
    ev M_Tree_layBits 0 11 [some (.ref x0), some (.int (x1 + (nI 1)))] [] h := (ev_eq _ _ _ _ _ _).trans rfl
theorem r_Tree_layQuarters_0 (x0 : Nat) (x1 : Int32) (x2 : Int32) (x3 : Int32) (h : MH) : ev M_Tree_layQuarters 0 0 [some (.ref x0), some (.int x1), some (.int x2), some (.int x3), none] [] h =
    ev M_Tree_layQuarters 0 3 [some (.ref x0), some (.int x1), some (.int x2), some (.int x3), some (.int (nI 0))] [] h := (ev_eq _ _ _ _ _ _).trans rfl
set_option maxRecDepth 100000 in
set_option maxHeartbeats 4000000 in
theorem r_Tree_layQuarters_3 (x0 : Nat) (x1 : Int32) (x2 : Int32) (x3 : Int32) (x4 : Int32) (h : MH) : ev M_Tree_layQuarters 0 3 [some (.ref x0), some (.int x1), some (.int x2), some (.int x3), some (.int x4)] [] h =
    br (x4 < (nI 4))
      (isC h x0 11 (
       br ((hI h x0 4) < (nI 340))
         (isC h x0 11 (nnR (hR h x0 1) fun r1 =>
          isC h x0 11 (
          isC h r1 20 (inA h r1 (hI h x0 4) (
          let h2 := sI h r1 (Int32.toNatClampNeg (hI h x0 4)) x1
          isC h2 x0 11 (nnR (hR h2 x0 2) fun r3 =>
          isC h2 x0 11 (
          nz (nI 2) (
          isC h2 r3 20 (inA h2 r3 (hI h2 x0 4) (
          let h4 := sI h2 r3 (Int32.toNatClampNeg (hI h2 x0 4)) (x2 + (x4 / (nI 2)))
          isC h4 x0 11 (nnR (hR h4 x0 3) fun r5 =>
          isC h4 x0 11 (
          nz (nI 2) (
          isC h4 r5 20 (inA h4 r5 (hI h4 x0 4) (
          let h6 := sI h4 r5 (Int32.toNatClampNeg (hI h4 x0 4)) (x3 + (x4 - x4 / (nI 2) * (nI 2)))
          isC h6 x0 11 (
          isC h6 x0 11 (
          let h7 := sI h6 x0 4 ((hI h6 x0 4) + (nI 1))
          ev M_Tree_layQuarters 0 3 [some (.ref x0), some (.int x1), some (.int x2), some (.int x3), some (.int (x4 + (nI 1)))] [] h7)))))))))))))))))
         (some (none, h))))
      (some (none, h)) := (ev_eq _ _ _ _ _ _).trans rfl
theorem r_Tree_isLaid_0 (x0 : Nat) (x1 : Int32) (h : MH) : ev M_Tree_isLaid 0 0 [some (.ref x0), some (.int x1)] [] h =
    br (x1 < (nI 0))
      (isZ (nI 0) (some (some (.int (nI 0)), h)))
      (isC h x0 11 (
       br (x1 < (hI h x0 4))
         (isZ (nI 1) (some (some (.int (nI 1)), h)))
         (isZ (nI 0) (some (some (.int (nI 0)), h))))) := (ev_eq _ _ _ _ _ _).trans rfl
theorem r_Tree_bitAt_0 (x0 : Nat) (x1 : Int32) (h : MH) : ev M_Tree_bitAt 0 0 [some (.ref x0), some (.int x1)] [] h =
    isC h x0 11 (rI (ev M_Tree_isLaid 0 0 [some (.ref x0), some (.int x1)] [] h) fun y2 h1 =>
    br (y2 = (nI 0))
      (some (some (.int (nI 0)), h1))
      (isC h1 x0 11 (nnR (hR h1 x0 1) fun r3 =>
       isC h1 r3 20 (inA h1 r3 x1 (
       isC h1 x0 11 (rR (ev M_Tree_filledOn 0 0 [some (.ref x0), some (.int (hI h1 r3 (Int32.toNatClampNeg x1)))] [] h1) fun r5 h4 =>
       isC h4 x0 11 (nnR (hR h4 x0 2) fun r6 =>
       isC h4 r6 20 (inA h4 r6 x1 (
       isC h4 x0 11 (nnR (hR h4 x0 3) fun r7 =>
       isC h4 r7 20 (inA h4 r7 x1 (
       isC h4 r5 3 (rI (ev M_Grid_holds 0 0 [some (.ref r5), some (.int (hI h4 r6 (Int32.toNatClampNeg x1))), some (.int (hI h4 r7 (Int32.toNatClampNeg x1)))] [] h4) fun y9 h8 =>
       br (y9 = (nI 0))
         (some (some (.int (nI 0)), h8))
         (some (some (.int (nI 1)), h8))))))))))))))) := (ev_eq _ _ _ _ _ _).trans rfl
theorem r_Tree_rankAt_0 (x0 : Nat) (x1 : Int32) (h : MH) : ev M_Tree_rankAt 0 0 [some (.ref x0), some (.int x1), none, none] [] h =
    ev M_Tree_rankAt 0 5 [some (.ref x0), some (.int x1), some (.int (nI 0)), some (.int (nI 0))] [] h := (ev_eq _ _ _ _ _ _).trans rfl
theorem r_Tree_rankAt_5 (x0 : Nat) (x1 : Int32) (x2 : Int32) (x3 : Int32) (h : MH) : ev M_Tree_rankAt 0 5 [some (.ref x0), some (.int x1), some (.int x2), some (.int x3)] [] h =
    br (x1 < x3)
      (some (some (.int x2), h))
      (isC h x0 11 (
       br (x3 < (hI h x0 4))
         (isC h x0 11 (rI (ev M_Tree_bitAt 0 0 [some (.ref x0), some (.int x3)] [] h) fun y2 h1 =>
          ev M_Tree_rankAt 0 5 [some (.ref x0), some (.int x1), some (.int (x2 + y2)), some (.int (x3 + (nI 1)))] [] h1))
         (some (some (.int x2), h)))) := (ev_eq _ _ _ _ _ _).trans rfl
theorem r_Tree_levelAt_0 (x0 : Nat) (x1 : Int32) (h : MH) : ev M_Tree_levelAt 0 0 [some (.ref x0), some (.int x1)] [] h =
    isC h x0 11 (rI (ev M_Tree_isLaid 0 0 [some (.ref x0), some (.int x1)] [] h) fun y2 h1 =>
    br (y2 = (nI 0))
      (some (some (.int (nI 0)), h1))
      (isC h1 x0 11 (nnR (hR h1 x0 1) fun r3 =>
       isC h1 r3 20 (inA h1 r3 x1 (
       some (some (.int (hI h1 r3 (Int32.toNatClampNeg x1))), h1)))))) := (ev_eq _ _ _ _ _ _).trans rfl
theorem r_Tree_firstRowAt_0 (x0 : Nat) (x1 : Int32) (h : MH) : ev M_Tree_firstRowAt 0 0 [some (.ref x0), some (.int x1)] [] h =
    isC h x0 11 (rI (ev M_Tree_isLaid 0 0 [some (.ref x0), some (.int x1)] [] h) fun y2 h1 =>
    br (y2 = (nI 0))
      (some (some (.int (nI 0)), h1))
      (isC h1 x0 11 (nnR (hR h1 x0 2) fun r3 =>
       isC h1 r3 20 (inA h1 r3 x1 (
       isC h1 x0 11 (
       isC h1 x0 11 (nnR (hR h1 x0 1) fun r4 =>
       isC h1 r4 20 (inA h1 r4 x1 (
       some (some (.int ((hI h1 r3 (Int32.toNatClampNeg x1)) <<< (((hI h1 x0 5) - (hI h1 r4 (Int32.toNatClampNeg x1))) &&& 31))), h1)))))))))) := (ev_eq _ _ _ _ _ _).trans rfl
theorem r_Tree_firstColumnAt_0 (x0 : Nat) (x1 : Int32) (h : MH) : ev M_Tree_firstColumnAt 0 0 [some (.ref x0), some (.int x1)] [] h =
    isC h x0 11 (rI (ev M_Tree_isLaid 0 0 [some (.ref x0), some (.int x1)] [] h) fun y2 h1 =>
    br (y2 = (nI 0))
      (some (some (.int (nI 0)), h1))
      (isC h1 x0 11 (nnR (hR h1 x0 3) fun r3 =>
       isC h1 r3 20 (inA h1 r3 x1 (
       isC h1 x0 11 (
       isC h1 x0 11 (nnR (hR h1 x0 1) fun r4 =>
       isC h1 r4 20 (inA h1 r4 x1 (
       some (some (.int ((hI h1 r3 (Int32.toNatClampNeg x1)) <<< (((hI h1 x0 5) - (hI h1 r4 (Int32.toNatClampNeg x1))) &&& 31))), h1)))))))))) := (ev_eq _ _ _ _ _ _).trans rfl
theorem r_Tree_countBitsIn_0 (x0 : Nat) (x1 : Int32) (x2 : Int32) (x3 : Int32) (x4 : Int32) (h : MH) : ev M_Tree_countBitsIn 0 0 [some (.ref x0), some (.int x1), some (.int x2), some (.int x3), some (.int x4), none, none, none, none, none] [] h =
    ev M_Tree_countBitsIn 0 5 [some (.ref x0), some (.int x1), some (.int x2), some (.int x3), some (.int x4), some (.int (nI 0)), some (.int (nI 0)), none, none, none] [] h := (ev_eq _ _ _ _ _ _).trans rfl
set_option maxRecDepth 100000 in
set_option maxHeartbeats 4000000 in
theorem r_Tree_countBitsIn_5 (x0 : Nat) (x1 : Int32) (x2 : Int32) (x3 : Int32) (x4 : Int32) (x5 : Int32) (x6 : Int32) (h : MH) : ev M_Tree_countBitsIn 0 5 [some (.ref x0), some (.int x1), some (.int x2), some (.int x3), some (.int x4), some (.int x5), some (.int x6), none, none, none] [] h =
    isC h x0 11 (
    br (x6 < (hI h x0 4))
      (isC h x0 11 (
       isC h x0 11 (nnR (hR h x0 1) fun r1 =>
       isC h r1 20 (inA h r1 x6 (
       isC h x0 11 (rI (ev M_Tree_firstRowAt 0 0 [some (.ref x0), some (.int x6)] [] h) fun y3 h2 =>
       isC h2 x0 11 (rI (ev M_Tree_firstColumnAt 0 0 [some (.ref x0), some (.int x6)] [] h2) fun y5 h4 =>
       br (x2 < y3)
         (ev M_Tree_countBitsIn 0 47 [some (.ref x0), some (.int x1), some (.int x2), some (.int x3), some (.int x4), some (.int x5), some (.int x6), none, none, none] [] h4)
         (br ((y3 + (((nI 1) <<< (((hI h x0 5) - (hI h r1 (Int32.toNatClampNeg x6))) &&& 31)) - (nI 1))) < x1)
            (ev M_Tree_countBitsIn 0 47 [some (.ref x0), some (.int x1), some (.int x2), some (.int x3), some (.int x4), some (.int x5), some (.int x6), none, none, none] [] h4)
            (br (x4 < y5)
               (ev M_Tree_countBitsIn 0 47 [some (.ref x0), some (.int x1), some (.int x2), some (.int x3), some (.int x4), some (.int x5), some (.int x6), none, none, none] [] h4)
               (br ((y5 + (((nI 1) <<< (((hI h x0 5) - (hI h r1 (Int32.toNatClampNeg x6))) &&& 31)) - (nI 1))) < x3)
                  (ev M_Tree_countBitsIn 0 47 [some (.ref x0), some (.int x1), some (.int x2), some (.int x3), some (.int x4), some (.int x5), some (.int x6), none, none, none] [] h4)
                  (ev M_Tree_countBitsIn 0 47 [some (.ref x0), some (.int x1), some (.int x2), some (.int x3), some (.int x4), some (.int (x5 + (nI 1))), some (.int x6), none, none, none] [] h4)))))))))))
      (some (some (.int x5), h))) := (ev_eq _ _ _ _ _ _).trans rfl
theorem r_Tree_countBitsIn_47 (x0 : Nat) (x1 : Int32) (x2 : Int32) (x3 : Int32) (x4 : Int32) (x5 : Int32) (x6 : Int32) (h : MH) : ev M_Tree_countBitsIn 0 47 [some (.ref x0), some (.int x1), some (.int x2), some (.int x3), some (.int x4), some (.int x5), some (.int x6), none, none, none] [] h =
    ev M_Tree_countBitsIn 0 5 [some (.ref x0), some (.int x1), some (.int x2), some (.int x3), some (.int x4), some (.int x5), some (.int (x6 + (nI 1))), none, none, none] [] h := (ev_eq _ _ _ _ _ _).trans rfl
theorem r_Tree_walkBeside_0 (x0 : Nat) (x1 : Nat) (h : MH) : ev M_Tree_walkBeside 0 0 [some (.ref x0), some (.ref x1), none, none, none, none, none] [] h =
    ev M_Tree_walkBeside 0 5 [some (.ref x0), some (.ref x1), some (.int (nI 1)), some (.int (nI 0)), none, none, none] [] h := (ev_eq _ _ _ _ _ _).trans rfl
theorem r_Tree_walkBeside_5 (x0 : Nat) (x1 : Nat) (x2 : Int32) (x3 : Int32) (h : MH) : ev M_Tree_walkBeside 0 5 [some (.ref x0), some (.ref x1), some (.int x2), some (.int x3), none, none, none] [] h =
    isC h x0 11 (
    br (x3 < (hI h x0 5))
      (isC h x0 11 (nnR (hR h x0 0) fun r1 =>
       isC h r1 24 (inA h r1 x3 (nnR (hR h r1 (Int32.toNatClampNeg x3)) fun r2 =>
       isC h x1 11 (rR (ev M_Tree_filledOn 0 0 [some (.ref x1), some (.int x3)] [] h) fun r4 h3 =>
       ev M_Tree_walkBeside 0 21 [some (.ref x0), some (.ref x1), some (.int x2), some (.int x3), some (.ref r2), some (.ref r4), some (.int (nI 0))] [] h3)))))
      (some (some (.int x2), h))) := (ev_eq _ _ _ _ _ _).trans rfl
theorem r_Tree_walkBeside_21 (x0 : Nat) (x1 : Nat) (x2 : Int32) (x3 : Int32) (x4 : Nat) (x5 : Nat) (x6 : Int32) (h : MH) : ev M_Tree_walkBeside 0 21 [some (.ref x0), some (.ref x1), some (.int x2), some (.int x3), some (.ref x4), some (.ref x5), some (.int x6)] [] h =
    isC h x4 3 (
    br (x6 < (hI h x4 1))
      (isC h x4 3 (nnR (hR h x4 0) fun r1 =>
       isC h r1 20 (inA h r1 x6 (
       isC h x5 3 (nnR (hR h x5 0) fun r2 =>
       isC h r2 20 (inA h r2 x6 (
       rI (ev M_Integer_bitCount 0 0 [some (.int ((hI h r1 (Int32.toNatClampNeg x6)) &&& (hI h r2 (Int32.toNatClampNeg x6))))] [] h) fun y4 h3 =>
       ev M_Tree_walkBeside 0 21 [some (.ref x0), some (.ref x1), some (.int (x2 + ((nI 4) * y4))), some (.int x3), some (.ref x4), some (.ref x5), some (.int (x6 + (nI 1)))] [] h3)))))))
      (ev M_Tree_walkBeside 0 5 [some (.ref x0), some (.ref x1), some (.int x2), some (.int (x3 + (nI 1))), none, none, none] [] h)) := (ev_eq _ _ _ _ _ _).trans rfl
theorem r_Tree_multiplyBy_0 (x0 : Nat) (x1 : Nat) (h : MH) : ev M_Tree_multiplyBy 0 0 [some (.ref x0), some (.ref x1), none, none, none, none, none] [] h =
    ev M_Tree_multiplyBy 0 5 [some (.ref x0), some (.ref x1), some (.int (nI 0)), some (.int (nI 0)), none, none, none] [] h := (ev_eq _ _ _ _ _ _).trans rfl
theorem r_Tree_multiplyBy_5 (x0 : Nat) (x1 : Nat) (x2 : Int32) (x3 : Int32) (h : MH) : ev M_Tree_multiplyBy 0 5 [some (.ref x0), some (.ref x1), some (.int x2), some (.int x3), none, none, none] [] h =
    isC h x0 11 (
    br ((hI h x0 5) < x3)
      (some (some (.int x2), h))
      (isC h x0 11 (nnR (hR h x0 0) fun r1 =>
       isC h r1 24 (inA h r1 x3 (nnR (hR h r1 (Int32.toNatClampNeg x3)) fun r2 =>
       isC h x1 11 (rR (ev M_Tree_filledOn 0 0 [some (.ref x1), some (.int x3)] [] h) fun r4 h3 =>
       ev M_Tree_multiplyBy 0 21 [some (.ref x0), some (.ref x1), some (.int x2), some (.int x3), some (.ref r2), some (.ref r4), some (.int (nI 0))] [] h3)))))) := (ev_eq _ _ _ _ _ _).trans rfl
theorem r_Tree_multiplyBy_21 (x0 : Nat) (x1 : Nat) (x2 : Int32) (x3 : Int32) (x4 : Nat) (x5 : Nat) (x6 : Int32) (h : MH) : ev M_Tree_multiplyBy 0 21 [some (.ref x0), some (.ref x1), some (.int x2), some (.int x3), some (.ref x4), some (.ref x5), some (.int x6)] [] h =
    isC h x4 3 (
    br (x6 < (hI h x4 1))
      (isC h x4 3 (rI (ev M_Grid_rowsWith 0 0 [some (.ref x4), some (.int x6), none, none] [] h) fun y2 h1 =>
       rI (ev M_Integer_bitCount 0 0 [some (.int y2)] [] h1) fun y4 h3 =>
       isC h3 x5 3 (nnR (hR h3 x5 0) fun r5 =>
       isC h3 r5 20 (inA h3 r5 x6 (
       rI (ev M_Integer_bitCount 0 0 [some (.int (hI h3 r5 (Int32.toNatClampNeg x6)))] [] h3) fun y7 h6 =>
       ev M_Tree_multiplyBy 0 21 [some (.ref x0), some (.ref x1), some (.int (x2 + (y4 * y7))), some (.int x3), some (.ref x4), some (.ref x5), some (.int (x6 + (nI 1)))] [] h6)))))
      (ev M_Tree_multiplyBy 0 5 [some (.ref x0), some (.ref x1), some (.int x2), some (.int (x3 + (nI 1))), none, none, none] [] h)) := (ev_eq _ _ _ _ _ _).trans rfl
