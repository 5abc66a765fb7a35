/-! What each stretch of the code does, by program (wip/whole/gen2.py). -/
theorem r_Mo_init_0 (x0 : Nat) (h : MH) : ev M_Mo_init 0 0 [some (.ref x0)] [] h =
    okN (nI 1600) fun n2 =>
    let h1 := nw h 20 n2
    isC h1 x0 13 (
    let h3 := sR h1 x0 0 (hT h)
    isC h3 x0 13 (
    let h4 := sI h3 x0 8 (mI 1)
    ev M_Mo_init 0 10 [some (.ref x0)] [] h4)) := (ev_eq _ _ _ _ _ _).trans rfl
theorem r_Mo_init_10 (x0 : Nat) (h : MH) : ev M_Mo_init 0 10 [some (.ref x0)] [] h =
    isC h x0 13 (
    let h1 := sI h x0 10 (mI 1)
    okN (nI 2) fun n3 =>
    let h2 := nw h1 20 n3
    isC h2 x0 13 (
    let h4 := sR h2 x0 12 (hT h1)
    okN (nI 2) fun n6 =>
    let h5 := nw h4 20 n6
    isC h5 x0 13 (
    let h7 := sR h5 x0 13 (hT h4)
    ev M_Mo_init 0 22 [some (.ref x0)] [] h7))) := (ev_eq _ _ _ _ _ _).trans rfl
theorem r_Mo_init_22 (x0 : Nat) (h : MH) : ev M_Mo_init 0 22 [some (.ref x0)] [] h =
    okN (nI 2) fun n2 =>
    let h1 := nw h 20 n2
    isC h1 x0 13 (
    let h3 := sR h1 x0 14 (hT h)
    okN (nI 2) fun n5 =>
    let h4 := nw h3 20 n5
    isC h4 x0 13 (
    let h6 := sR h4 x0 15 (hT h3)
    ev M_Mo_init 0 31 [some (.ref x0)] [] h6)) := (ev_eq _ _ _ _ _ _).trans rfl
theorem r_Mo_init_31 (x0 : Nat) (h : MH) : ev M_Mo_init 0 31 [some (.ref x0)] [] h =
    okN (nI 2) fun n2 =>
    let h1 := nw h 20 n2
    isC h1 x0 13 (
    let h3 := sR h1 x0 16 (hT h)
    okN (nI 2) fun n5 =>
    let h4 := nw h3 20 n5
    isC h4 x0 13 (
    let h6 := sR h4 x0 17 (hT h3)
    ev M_Mo_init 0 40 [some (.ref x0)] [] h6)) := (ev_eq _ _ _ _ _ _).trans rfl
theorem r_Mo_init_40 (x0 : Nat) (h : MH) : ev M_Mo_init 0 40 [some (.ref x0)] [] h =
    okN (nI 10) fun n2 =>
    let h1 := nw h 22 n2
    isC h1 x0 13 (
    let h3 := sR h1 x0 18 (hT h)
    okN (nI 10) fun n5 =>
    let h4 := nw h3 20 n5
    isC h4 x0 13 (
    let h6 := sR h4 x0 19 (hT h3)
    ev M_Mo_init 0 49 [some (.ref x0)] [] h6)) := (ev_eq _ _ _ _ _ _).trans rfl
theorem r_Mo_init_49 (x0 : Nat) (h : MH) : ev M_Mo_init 0 49 [some (.ref x0)] [] h =
    okN (nI 10) fun n2 =>
    let h1 := nw h 20 n2
    isC h1 x0 13 (
    let h3 := sR h1 x0 20 (hT h)
    okN (nI 10) fun n5 =>
    let h4 := nw h3 20 n5
    isC h4 x0 13 (
    let h6 := sR h4 x0 21 (hT h3)
    ev M_Mo_init 0 58 [some (.ref x0)] [] h6)) := (ev_eq _ _ _ _ _ _).trans rfl
theorem r_Mo_init_58 (x0 : Nat) (h : MH) : ev M_Mo_init 0 58 [some (.ref x0)] [] h =
    okN (nI 160) fun n2 =>
    let h1 := nw h 20 n2
    isC h1 x0 13 (
    let h3 := sR h1 x0 22 (hT h)
    okN (nI 520) fun n5 =>
    let h4 := nw h3 20 n5
    isC h4 x0 13 (
    let h6 := sR h4 x0 23 (hT h3)
    ev M_Mo_init 0 67 [some (.ref x0)] [] h6)) := (ev_eq _ _ _ _ _ _).trans rfl
theorem r_Mo_init_67 (x0 : Nat) (h : MH) : ev M_Mo_init 0 67 [some (.ref x0)] [] h =
    okN (nI 660) fun n2 =>
    let h1 := nw h 20 n2
    isC h1 x0 13 (
    let h3 := sR h1 x0 24 (hT h)
    okN (nI 160) fun n5 =>
    let h4 := nw h3 20 n5
    isC h4 x0 13 (
    let h6 := sR h4 x0 31 (hT h3)
    ev M_Mo_init 0 76 [some (.ref x0)] [] h6)) := (ev_eq _ _ _ _ _ _).trans rfl
theorem r_Mo_init_76 (x0 : Nat) (h : MH) : ev M_Mo_init 0 76 [some (.ref x0)] [] h =
    okN (nI 81) fun n2 =>
    let h1 := nw h 20 n2
    isC h1 x0 13 (
    let h3 := sR h1 x0 34 (hT h)
    okN (nI 3240) fun n5 =>
    let h4 := nw h3 20 n5
    isC h4 x0 13 (
    let h6 := sR h4 x0 35 (hT h3)
    ev M_Mo_init 0 85 [some (.ref x0)] [] h6)) := (ev_eq _ _ _ _ _ _).trans rfl
theorem r_Mo_init_85 (x0 : Nat) (h : MH) : ev M_Mo_init 0 85 [some (.ref x0)] [] h =
    okN (nI 80) fun n2 =>
    let h1 := nw h 20 n2
    isC h1 x0 13 (
    let h3 := sR h1 x0 38 (hT h)
    okN (nI 640) fun n5 =>
    let h4 := nw h3 20 n5
    isC h4 x0 13 (
    let h6 := sR h4 x0 39 (hT h3)
    ev M_Mo_init 0 94 [some (.ref x0)] [] h6)) := (ev_eq _ _ _ _ _ _).trans rfl
theorem r_Mo_init_94 (x0 : Nat) (h : MH) : ev M_Mo_init 0 94 [some (.ref x0)] [] h =
    okN (nI 16) fun n2 =>
    let h1 := nw h 20 n2
    isC h1 x0 13 (
    let h3 := sR h1 x0 40 (hT h)
    okN (nI 16) fun n5 =>
    let h4 := nw h3 20 n5
    isC h4 x0 13 (
    let h6 := sR h4 x0 41 (hT h3)
    ev M_Mo_init 0 103 [some (.ref x0)] [] h6)) := (ev_eq _ _ _ _ _ _).trans rfl
theorem r_Mo_init_103 (x0 : Nat) (h : MH) : ev M_Mo_init 0 103 [some (.ref x0)] [] h =
    okN (nI 340) fun n2 =>
    let h1 := nw h 20 n2
    isC h1 x0 13 (
    let h3 := sR h1 x0 43 (hT h)
    okN (nI 340) fun n5 =>
    let h4 := nw h3 20 n5
    isC h4 x0 13 (
    let h6 := sR h4 x0 44 (hT h3)
    ev M_Mo_init 0 112 [some (.ref x0)] [] h6)) := (ev_eq _ _ _ _ _ _).trans rfl
theorem r_Mo_init_112 (x0 : Nat) (h : MH) : ev M_Mo_init 0 112 [some (.ref x0)] [] h =
    okN (nI 340) fun n2 =>
    let h1 := nw h 20 n2
    isC h1 x0 13 (
    let h3 := sR h1 x0 45 (hT h)
    okN (nI 340) fun n5 =>
    let h4 := nw h3 20 n5
    isC h4 x0 13 (
    let h6 := sR h4 x0 46 (hT h3)
    ev M_Mo_init 0 121 [some (.ref x0)] [] h6)) := (ev_eq _ _ _ _ _ _).trans rfl
theorem r_Mo_init_121 (x0 : Nat) (h : MH) : ev M_Mo_init 0 121 [some (.ref x0)] [] h =
    okN (nI 64) fun n2 =>
    let h1 := nw h 20 n2
    isC h1 x0 13 (
    let h3 := sR h1 x0 48 (hT h)
    okN (nI 16) fun n5 =>
    let h4 := nw h3 20 n5
    isC h4 x0 13 (
    let h6 := sR h4 x0 49 (hT h3)
    ev M_Mo_init 0 130 [some (.ref x0)] [] h6)) := (ev_eq _ _ _ _ _ _).trans rfl
theorem r_Mo_init_130 (x0 : Nat) (h : MH) : ev M_Mo_init 0 130 [some (.ref x0)] [] h =
    okN (nI 30) fun n2 =>
    let h1 := nw h 20 n2
    isC h1 x0 13 (
    let h3 := sR h1 x0 51 (hT h)
    okN (nI 30) fun n5 =>
    let h4 := nw h3 20 n5
    isC h4 x0 13 (
    let h6 := sR h4 x0 52 (hT h3)
    ev M_Mo_init 0 139 [some (.ref x0)] [] h6)) := (ev_eq _ _ _ _ _ _).trans rfl
theorem r_Mo_init_139 (x0 : Nat) (h : MH) : ev M_Mo_init 0 139 [some (.ref x0)] [] h =
    okN (nI 30) fun n2 =>
    let h1 := nw h 20 n2
    isC h1 x0 13 (
    let h3 := sR h1 x0 53 (hT h)
    okN (nI 30) fun n5 =>
    let h4 := nw h3 20 n5
    isC h4 x0 13 (
    let h6 := sR h4 x0 54 (hT h3)
    ev M_Mo_init 0 148 [some (.ref x0)] [] h6)) := (ev_eq _ _ _ _ _ _).trans rfl
theorem r_Mo_init_148 (x0 : Nat) (h : MH) : ev M_Mo_init 0 148 [some (.ref x0)] [] h =
    okN (nI 30) fun n2 =>
    let h1 := nw h 20 n2
    isC h1 x0 13 (
    let h3 := sR h1 x0 55 (hT h)
    okN (nI 30) fun n5 =>
    let h4 := nw h3 20 n5
    isC h4 x0 13 (
    let h6 := sR h4 x0 56 (hT h3)
    ev M_Mo_init 0 157 [some (.ref x0)] [] h6)) := (ev_eq _ _ _ _ _ _).trans rfl
theorem r_Mo_init_157 (x0 : Nat) (h : MH) : ev M_Mo_init 0 157 [some (.ref x0)] [] h =
    okN (nI 16) fun n2 =>
    let h1 := nw h 20 n2
    isC h1 x0 13 (
    let h3 := sR h1 x0 59 (hT h)
    okN (nI 257) fun n5 =>
    let h4 := nw h3 20 n5
    isC h4 x0 13 (
    let h6 := sR h4 x0 60 (hT h3)
    ev M_Mo_init 0 166 [some (.ref x0)] [] h6)) := (ev_eq _ _ _ _ _ _).trans rfl
theorem r_Mo_init_166 (x0 : Nat) (h : MH) : ev M_Mo_init 0 166 [some (.ref x0)] [] h =
    okN (nI 258) fun n2 =>
    let h1 := nw h 20 n2
    isC h1 x0 13 (
    let h3 := sR h1 x0 61 (hT h)
    okN (nI 243) fun n5 =>
    let h4 := nw h3 20 n5
    isC h4 x0 13 (
    let h6 := sR h4 x0 62 (hT h3)
    ev M_Mo_init 0 175 [some (.ref x0)] [] h6)) := (ev_eq _ _ _ _ _ _).trans rfl
theorem r_Mo_init_175 (x0 : Nat) (h : MH) : ev M_Mo_init 0 175 [some (.ref x0)] [] h =
    okN (nI 3) fun n2 =>
    let h1 := nw h 23 n2
    isC h1 x0 13 (
    let h3 := sR h1 x0 63 (hT h)
    isC h3 x0 13 (nnR (hR h3 x0 12) fun r4 =>
    isC h3 r4 20 (inA h3 r4 (nI 0) (
    let h5 := sI h3 r4 (Int32.toNatClampNeg (nI 0)) (nI 3)
    ev M_Mo_init 0 185 [none] [] h5)))) := (ev_eq _ _ _ _ _ _).trans rfl
theorem r_Mo_init_185  (h : MH) : ev M_Mo_init 0 185 [none] [] h =
    some (none, h) := (ev_eq _ _ _ _ _ _).trans rfl
theorem r_Mo_isIn_0 (x0 : Int32) (x1 : Int32) (x2 : Int32) (h : MH) : ev M_Mo_isIn 0 0 [some (.int x0), some (.int x1), some (.int x2)] [] h =
    br (x0 < x1)
      (isZ (nI 0) (some (some (.int (nI 0)), h)))
      (br (x2 < x0)
         (isZ (nI 0) (some (some (.int (nI 0)), h)))
         (isZ (nI 1) (some (some (.int (nI 1)), h)))) := (ev_eq _ _ _ _ _ _).trans rfl
theorem r_Mo_isOf_0 (x0 : Int32) (x1 : Int32) (h : MH) : ev M_Mo_isOf 0 0 [some (.int x0), some (.int x1)] [] h =
    br (((x0 >>> (x1 &&& 31)) &&& (nI 1)) = (nI 1))
      (isZ (nI 1) (some (some (.int (nI 1)), h)))
      (isZ (nI 0) (some (some (.int (nI 0)), h))) := (ev_eq _ _ _ _ _ _).trans rfl
theorem r_Mo_bitsIn_0 (x0 : Int32) (h : MH) : ev M_Mo_bitsIn 0 0 [some (.int x0), none, none] [] h =
    ev M_Mo_bitsIn 0 5 [none, some (.int (nI 0)), some (.int x0)] [] h := (ev_eq _ _ _ _ _ _).trans rfl
theorem r_Mo_bitsIn_5 (x1 : Int32) (x2 : Int32) (h : MH) : ev M_Mo_bitsIn 0 5 [none, some (.int x1), some (.int x2)] [] h =
    br (x2 = (nI 0))
      (some (some (.int x1), h))
      (ev M_Mo_bitsIn 0 5 [none, some (.int (x1 + (nI 1))), some (.int (x2 &&& (x2 - (nI 1))))] [] h) := (ev_eq _ _ _ _ _ _).trans rfl
theorem r_Mo_feed_0 (x0 : Nat) (x1 : Int32) (x2 : Int32) (x3 : Int32) (x4 : Int32) (x5 : Int32) (h : MH) : ev M_Mo_feed 0 0 [some (.ref x0), some (.int x1), some (.int x2), some (.int x3), some (.int x4), some (.int x5)] [] h =
    isC h x0 13 (
    br ((nI 1600) < ((hI h x0 1) + (nI 20)))
      (some (some (.int (mI 1)), h))
      (isC h x0 13 (rV (ev M_Mo_four 0 0 [some (.ref x0), some (.int x1), none] [] h) fun h1 =>
       isC h1 x0 13 (rV (ev M_Mo_four 0 0 [some (.ref x0), some (.int x2), none] [] h1) fun h2 =>
       isC h2 x0 13 (rV (ev M_Mo_four 0 0 [some (.ref x0), some (.int x3), none] [] h2) fun h3 =>
       isC h3 x0 13 (rV (ev M_Mo_four 0 0 [some (.ref x0), some (.int x4), none] [] h3) fun h4 =>
       isC h4 x0 13 (rV (ev M_Mo_four 0 0 [some (.ref x0), some (.int x5), none] [] h4) fun h5 =>
       isC h5 x0 13 (
       some (some (.int (hI h5 x0 1)), h5))))))))) := (ev_eq _ _ _ _ _ _).trans rfl
theorem r_Mo_four_0 (x0 : Nat) (x1 : Int32) (h : MH) : ev M_Mo_four 0 0 [some (.ref x0), some (.int x1), none] [] h =
    ev M_Mo_four 0 3 [some (.ref x0), some (.int x1), some (.int (nI 24))] [] h := (ev_eq _ _ _ _ _ _).trans rfl
theorem r_Mo_four_3 (x0 : Nat) (x1 : Int32) (x2 : Int32) (h : MH) : ev M_Mo_four 0 3 [some (.ref x0), some (.int x1), some (.int x2)] [] h =
    br (x2 < (nI 0))
      (some (none, h))
      (isC h x0 13 (nnR (hR h x0 0) fun r1 =>
       isC h x0 13 (
       isC h r1 20 (inA h r1 (hI h x0 1) (
       let h2 := sI h r1 (Int32.toNatClampNeg (hI h x0 1)) ((x1 >>> (x2 &&& 31)) &&& (nI 255))
       isC h2 x0 13 (
       isC h2 x0 13 (
       let h3 := sI h2 x0 1 ((hI h2 x0 1) + (nI 1))
       ev M_Mo_four 0 3 [some (.ref x0), some (.int x1), some (.int (x2 + (mI 8)))] [] h3))))))) := (ev_eq _ _ _ _ _ _).trans rfl
theorem r_Mo_end_0 (x0 : Nat) (x1 : Int32) (h : MH) : ev M_Mo_end 0 0 [some (.ref x0), some (.int x1)] [] h =
    isC h x0 13 (
    rI (ev M_Mo_isIn 0 0 [some (.int x1), some (.int (nI 0)), some (.int (hI h x0 1))] [] h) fun y2 h1 =>
    br (y2 = (nI 0))
      (some (some (.int (mI 1)), h1))
      (isC h1 x0 13 (
       let h3 := sI h1 x0 1 x1
       some (some (.int x1), h3)))) := (ev_eq _ _ _ _ _ _).trans rfl
theorem r_Mo_here_0 (x0 : Nat) (x1 : Int32) (h : MH) : ev M_Mo_here 0 0 [some (.ref x0), some (.int x1)] [] h =
    isC h x0 13 (
    isC h x0 13 (
    br (((hI h x0 3) + x1) < (hI h x0 2))
      (isC h x0 13 (nnR (hR h x0 0) fun r1 =>
       isC h x0 13 (
       isC h r1 20 (inA h r1 ((hI h x0 3) + x1) (
       some (some (.int (hI h r1 (Int32.toNatClampNeg ((hI h x0 3) + x1)))), h))))))
      (some (some (.int (mI 1)), h)))) := (ev_eq _ _ _ _ _ _).trans rfl
theorem r_Mo_isLetter_0 (x0 : Int32) (h : MH) : ev M_Mo_isLetter 0 0 [some (.int x0)] [] h =
    br (x0 < (nI 97))
      (isZ (nI 0) (some (some (.int (nI 0)), h)))
      (br ((nI 122) < x0)
         (isZ (nI 0) (some (some (.int (nI 0)), h)))
         (isZ (nI 1) (some (some (.int (nI 1)), h)))) := (ev_eq _ _ _ _ _ _).trans rfl
theorem r_Mo_isDigit_0 (x0 : Int32) (h : MH) : ev M_Mo_isDigit 0 0 [some (.int x0)] [] h =
    br (x0 < (nI 48))
      (isZ (nI 0) (some (some (.int (nI 0)), h)))
      (br ((nI 57) < x0)
         (isZ (nI 0) (some (some (.int (nI 0)), h)))
         (isZ (nI 1) (some (some (.int (nI 1)), h)))) := (ev_eq _ _ _ _ _ _).trans rfl
set_option maxRecDepth 100000 in
set_option maxHeartbeats 4000000 in
theorem r_Mo_isSign_0 (x0 : Int32) (h : MH) : ev M_Mo_isSign 0 0 [some (.int x0)] [] h =
    br (x0 = (nI 59))
      (ev M_Mo_isSign 0 34 [none] [] h)
      (br (x0 = (nI 40))
         (ev M_Mo_isSign 0 34 [none] [] h)
         (br (x0 = (nI 41))
            (ev M_Mo_isSign 0 34 [none] [] h)
            (br (x0 = (nI 60))
               (ev M_Mo_isSign 0 34 [none] [] h)
               (br (x0 = (nI 62))
                  (ev M_Mo_isSign 0 34 [none] [] h)
                  (br (x0 = (nI 61))
                     (ev M_Mo_isSign 0 34 [none] [] h)
                     (br (x0 = (nI 43))
                        (ev M_Mo_isSign 0 34 [none] [] h)
                        (br (x0 = (nI 45))
                           (ev M_Mo_isSign 0 34 [none] [] h)
                           (br (x0 = (nI 42))
                              (ev M_Mo_isSign 0 34 [none] [] h)
                              (br (x0 = (nI 47))
                                 (ev M_Mo_isSign 0 34 [none] [] h)
                                 (br (x0 = (nI 37))
                                    (ev M_Mo_isSign 0 34 [none] [] h)
                                    (isZ (nI 0) (some (some (.int (nI 0)), h))))))))))))) := (ev_eq _ _ _ _ _ _).trans rfl
theorem r_Mo_isSign_34  (h : MH) : ev M_Mo_isSign 0 34 [none] [] h =
    isZ (nI 1) (some (some (.int (nI 1)), h)) := (ev_eq _ _ _ _ _ _).trans rfl
theorem r_Mo_goOn_0 (x0 : Nat) (h : MH) : ev M_Mo_goOn 0 0 [some (.ref x0), none] [] h =
    ev M_Mo_goOn 0 1 [some (.ref x0), none] [] h := (ev_eq _ _ _ _ _ _).trans rfl
set_option maxRecDepth 100000 in
set_option maxHeartbeats 4000000 in
theorem r_Mo_goOn_1 (x0 : Nat) (h : MH) : ev M_Mo_goOn 0 1 [some (.ref x0), none] [] h =
    isC h x0 13 (rI (ev M_Mo_here 0 0 [some (.ref x0), some (.int (nI 0))] [] h) fun y2 h1 =>
    br (y2 = (nI 32))
      (ev M_Mo_goOn 0 12 [some (.ref x0), none] [] h1)
      (isC h1 x0 13 (rI (ev M_Mo_here 0 0 [some (.ref x0), some (.int (nI 0))] [] h1) fun y4 h3 =>
       br (y4 = (nI 10))
         (ev M_Mo_goOn 0 12 [some (.ref x0), none] [] h3)
         (isC h3 x0 13 (
          isC h3 x0 13 (
          let h5 := sI h3 x0 4 (hI h3 x0 3)
          isC h5 x0 13 (
          let h6 := sL h5 x0 11 (lN 0)
          isC h6 x0 13 (
          let h7 := sI h6 x0 6 (nI 0)
          isC h7 x0 13 (rI (ev M_Mo_here 0 0 [some (.ref x0), some (.int (nI 0))] [] h7) fun y9 h8 =>
          br (y9 < (nI 0))
            (isC h8 x0 13 (
             let h10 := sI h8 x0 5 (nI 0)
             some (none, h10)))
            (isC h8 x0 13 (rI (ev M_Mo_here 0 0 [some (.ref x0), some (.int (nI 0))] [] h8) fun y12 h11 =>
             rI (ev M_Mo_isLetter 0 0 [some (.int y12)] [] h11) fun y14 h13 =>
             br (y14 = (nI 0))
               (isC h13 x0 13 (rI (ev M_Mo_here 0 0 [some (.ref x0), some (.int (nI 0))] [] h13) fun y16 h15 =>
                rI (ev M_Mo_isDigit 0 0 [some (.int y16)] [] h15) fun y18 h17 =>
                br (y18 = (nI 0))
                  (isC h17 x0 13 (rI (ev M_Mo_here 0 0 [some (.ref x0), some (.int (nI 0))] [] h17) fun y20 h19 =>
                   rI (ev M_Mo_isSign 0 0 [some (.int y20)] [] h19) fun y22 h21 =>
                   br (y22 = (nI 0))
                     (ev M_Mo_goOn 0 134 [some (.ref x0), none] [(.int (nI 3)), (.ref x0)] h21)
                     (isC h21 x0 13 (rI (ev M_Mo_here 0 0 [some (.ref x0), some (.int (nI 0))] [] h21) fun y24 h23 =>
                      ev M_Mo_goOn 0 134 [some (.ref x0), none] [(.int y24), (.ref x0)] h23))))
                  (ev M_Mo_goOn 0 83 [some (.ref x0), some (.int (nI 0))] [] h17)))
               (ev M_Mo_goOn 0 45 [some (.ref x0), some (.int (nI 0))] [] h13)))))))))))) := (ev_eq _ _ _ _ _ _).trans rfl
theorem r_Mo_goOn_12 (x0 : Nat) (h : MH) : ev M_Mo_goOn 0 12 [some (.ref x0), none] [] h =
    isC h x0 13 (
    isC h x0 13 (
    let h1 := sI h x0 3 ((hI h x0 3) + (nI 1))
    ev M_Mo_goOn 0 1 [some (.ref x0), none] [] h1)) := (ev_eq _ _ _ _ _ _).trans rfl
theorem r_Mo_goOn_45 (x0 : Nat) (x1 : Int32) (h : MH) : ev M_Mo_goOn 0 45 [some (.ref x0), some (.int x1)] [] h =
    isC h x0 13 (rI (ev M_Mo_here 0 0 [some (.ref x0), some (.int x1)] [] h) fun y2 h1 =>
    rI (ev M_Mo_isLetter 0 0 [some (.int y2)] [] h1) fun y4 h3 =>
    br (y4 = (nI 0))
      (br ((nI 8) < x1)
         (ev M_Mo_goOn 0 75 [some (.ref x0), some (.int x1)] [(.int (nI 3)), (.ref x0)] h3)
         (ev M_Mo_goOn 0 75 [some (.ref x0), some (.int x1)] [(.int (nI 1)), (.ref x0)] h3))
      (br (x1 < (nI 8))
         (isC h3 x0 13 (
          isC h3 x0 13 (rI (ev M_Mo_here 0 0 [some (.ref x0), some (.int x1)] [] h3) fun y6 h5 =>
          isC h5 x0 13 (
          let h7 := sL h5 x0 11 (((hL h3 x0 11) <<< (Int32.toInt64 (nI 8) &&& 63)) ||| (Int32.toInt64 y6))
          ev M_Mo_goOn 0 65 [some (.ref x0), some (.int x1)] [] h7))))
         (ev M_Mo_goOn 0 65 [some (.ref x0), some (.int x1)] [] h3))) := (ev_eq _ _ _ _ _ _).trans rfl
theorem r_Mo_goOn_65 (x0 : Nat) (x1 : Int32) (h : MH) : ev M_Mo_goOn 0 65 [some (.ref x0), some (.int x1)] [] h =
    ev M_Mo_goOn 0 45 [some (.ref x0), some (.int (x1 + (nI 1)))] [] h := (ev_eq _ _ _ _ _ _).trans rfl
theorem r_Mo_goOn_75 (x0 : Nat) (x1 : Int32) (s0 : Nat) (s1 : Int32) (h : MH) : ev M_Mo_goOn 0 75 [some (.ref x0), some (.int x1)] [(.int s1), (.ref s0)] h =
    isC h s0 13 (
    let h1 := sI h s0 5 s1
    ev M_Mo_goOn 0 138 [some (.ref x0), some (.int x1)] [] h1) := (ev_eq _ _ _ _ _ _).trans rfl
theorem r_Mo_goOn_83 (x0 : Nat) (x1 : Int32) (h : MH) : ev M_Mo_goOn 0 83 [some (.ref x0), some (.int x1)] [] h =
    isC h x0 13 (rI (ev M_Mo_here 0 0 [some (.ref x0), some (.int x1)] [] h) fun y2 h1 =>
    rI (ev M_Mo_isDigit 0 0 [some (.int y2)] [] h1) fun y4 h3 =>
    br (y4 = (nI 0))
      (br ((nI 4) < x1)
         (ev M_Mo_goOn 0 116 [some (.ref x0), some (.int x1)] [(.ref x0)] h3)
         (isC h3 x0 13 (rI (ev M_Mo_here 0 0 [some (.ref x0), some (.int x1)] [] h3) fun y6 h5 =>
          rI (ev M_Mo_isLetter 0 0 [some (.int y6)] [] h5) fun y8 h7 =>
          br (y8 = (nI 0))
            (ev M_Mo_goOn 0 120 [some (.ref x0), some (.int x1)] [(.int (nI 2)), (.ref x0)] h7)
            (ev M_Mo_goOn 0 116 [some (.ref x0), some (.int x1)] [(.ref x0)] h7))))
      (br (x1 < (nI 4))
         (isC h3 x0 13 (
          isC h3 x0 13 (rI (ev M_Mo_here 0 0 [some (.ref x0), some (.int x1)] [] h3) fun y10 h9 =>
          isC h9 x0 13 (
          let h11 := sI h9 x0 6 ((((nI 10) * (hI h3 x0 6)) + y10) - (nI 48))
          ev M_Mo_goOn 0 104 [some (.ref x0), some (.int x1)] [] h11))))
         (ev M_Mo_goOn 0 104 [some (.ref x0), some (.int x1)] [] h3))) := (ev_eq _ _ _ _ _ _).trans rfl
theorem r_Mo_goOn_104 (x0 : Nat) (x1 : Int32) (h : MH) : ev M_Mo_goOn 0 104 [some (.ref x0), some (.int x1)] [] h =
    ev M_Mo_goOn 0 83 [some (.ref x0), some (.int (x1 + (nI 1)))] [] h := (ev_eq _ _ _ _ _ _).trans rfl
theorem r_Mo_goOn_116 (x0 : Nat) (x1 : Int32) (s0 : Nat) (h : MH) : ev M_Mo_goOn 0 116 [some (.ref x0), some (.int x1)] [(.ref s0)] h =
    ev M_Mo_goOn 0 120 [some (.ref x0), some (.int x1)] [(.int (nI 3)), (.ref s0)] h := (ev_eq _ _ _ _ _ _).trans rfl
theorem r_Mo_goOn_120 (x0 : Nat) (x1 : Int32) (s0 : Nat) (s1 : Int32) (h : MH) : ev M_Mo_goOn 0 120 [some (.ref x0), some (.int x1)] [(.int s1), (.ref s0)] h =
    isC h s0 13 (
    let h1 := sI h s0 5 s1
    ev M_Mo_goOn 0 138 [some (.ref x0), some (.int x1)] [] h1) := (ev_eq _ _ _ _ _ _).trans rfl
theorem r_Mo_goOn_134 (x0 : Nat) (s0 : Nat) (s1 : Int32) (h : MH) : ev M_Mo_goOn 0 134 [some (.ref x0), none] [(.int s1), (.ref s0)] h =
    isC h s0 13 (
    let h1 := sI h s0 5 s1
    ev M_Mo_goOn 0 138 [some (.ref x0), some (.int (nI 1))] [] h1) := (ev_eq _ _ _ _ _ _).trans rfl
theorem r_Mo_goOn_138 (x0 : Nat) (x1 : Int32) (h : MH) : ev M_Mo_goOn 0 138 [some (.ref x0), some (.int x1)] [] h =
    isC h x0 13 (
    isC h x0 13 (
    let h1 := sI h x0 3 ((hI h x0 3) + x1)
    some (none, h1))) := (ev_eq _ _ _ _ _ _).trans rfl
theorem r_Mo_wrong_0 (x0 : Nat) (x1 : Int32) (h : MH) : ev M_Mo_wrong 0 0 [some (.ref x0), some (.int x1)] [] h =
    isC h x0 13 (
    br ((nI 0) < (hI h x0 7))
      (some (none, h))
      (isC h x0 13 (
       br ((hI h x0 5) = (nI 3))
         (ev M_Mo_wrong 0 13 [some (.ref x0), none] [(.int (nI 1)), (.ref x0)] h)
         (ev M_Mo_wrong 0 13 [some (.ref x0), none] [(.int x1), (.ref x0)] h)))) := (ev_eq _ _ _ _ _ _).trans rfl
theorem r_Mo_wrong_13 (x0 : Nat) (s0 : Nat) (s1 : Int32) (h : MH) : ev M_Mo_wrong 0 13 [some (.ref x0), none] [(.int s1), (.ref s0)] h =
    isC h s0 13 (
    let h1 := sI h s0 7 s1
    isC h1 x0 13 (
    isC h1 x0 13 (
    let h2 := sI h1 x0 8 (hI h1 x0 4)
    some (none, h2)))) := (ev_eq _ _ _ _ _ _).trans rfl
theorem r_Mo_isGood_0 (x0 : Nat) (h : MH) : ev M_Mo_isGood 0 0 [some (.ref x0)] [] h =
    isC h x0 13 (
    br ((hI h x0 7) = (nI 0))
      (isZ (nI 1) (some (some (.int (nI 1)), h)))
      (isZ (nI 0) (some (some (.int (nI 0)), h)))) := (ev_eq _ _ _ _ _ _).trans rfl
theorem r_Mo_isWord_0 (x0 : Nat) (x1 : Int64) (h : MH) : ev M_Mo_isWord 0 0 [some (.ref x0), some (.long x1), none] [] h =
    isC h x0 13 (
    br ((hI h x0 7) = (nI 0))
      (isC h x0 13 (
       br ((hI h x0 5) = (nI 1))
         (isC h x0 13 (
          br ((lg_cmp (hL h x0 11) x1) = (nI 0))
            (isZ (nI 1) (some (some (.int (nI 1)), h)))
            (isZ (nI 0) (some (some (.int (nI 0)), h)))))
         (isZ (nI 0) (some (some (.int (nI 0)), h)))))
      (isZ (nI 0) (some (some (.int (nI 0)), h)))) := (ev_eq _ _ _ _ _ _).trans rfl
set_option maxRecDepth 100000 in
set_option maxHeartbeats 4000000 in
theorem r_Mo_isOwn_0 (x0 : Nat) (h : MH) : ev M_Mo_isOwn 0 0 [some (.ref x0)] [] h =
    isC h x0 13 (
    br ((lg_cmp (hL h x0 11) (lN 119183033855091)) = (nI 0))
      (isZ (nI 1) (some (some (.int (nI 1)), h)))
      (isC h x0 13 (
       br ((lg_cmp (hL h x0 11) (lN 7497068)) = (nI 0))
         (isZ (nI 1) (some (some (.int (nI 1)), h)))
         (isC h x0 13 (
          br ((lg_cmp (hL h x0 11) (lN 6840691)) = (nI 0))
            (isZ (nI 1) (some (some (.int (nI 1)), h)))
            (isC h x0 13 (
             br ((lg_cmp (hL h x0 11) (lN 26995)) = (nI 0))
               (isZ (nI 1) (some (some (.int (nI 1)), h)))
               (isC h x0 13 (
                br ((lg_cmp (hL h x0 11) (lN 1801807216)) = (nI 0))
                  (isZ (nI 1) (some (some (.int (nI 1)), h)))
                  (isC h x0 13 (
                   br ((lg_cmp (hL h x0 11) (lN 431416239732)) = (nI 0))
                     (isZ (nI 1) (some (some (.int (nI 1)), h)))
                     (isC h x0 13 (
                      br ((lg_cmp (hL h x0 11) (lN 1685217655)) = (nI 0))
                        (isZ (nI 1) (some (some (.int (nI 1)), h)))
                        (isC h x0 13 (
                         br ((lg_cmp (hL h x0 11) (lN 28530)) = (nI 0))
                           (isZ (nI 1) (some (some (.int (nI 1)), h)))
                           (isC h x0 13 (
                            br ((lg_cmp (hL h x0 11) (lN 1818588019)) = (nI 0))
                              (isZ (nI 1) (some (some (.int (nI 1)), h)))
                              (isC h x0 13 (
                               br ((lg_cmp (hL h x0 11) (lN 6385252)) = (nI 0))
                                 (isZ (nI 1) (some (some (.int (nI 1)), h)))
                                 (isC h x0 13 (
                                  br ((lg_cmp (hL h x0 11) (lN 1952998766)) = (nI 0))
                                    (isZ (nI 1) (some (some (.int (nI 1)), h)))
                                    (isC h x0 13 (
                                     br ((lg_cmp (hL h x0 11) (lN 1650549611)) = (nI 0))
                                       (isZ (nI 1) (some (some (.int (nI 1)), h)))
                                       (isC h x0 13 (
                                        br ((lg_cmp (hL h x0 11) (lN 1935764837)) = (nI 0))
                                          (ev M_Mo_isOwn 0 95 [none] [] h)
                                          (isC h x0 13 (
                                           br ((lg_cmp (hL h x0 11) (lN 6384748)) = (nI 0))
                                             (ev M_Mo_isOwn 0 95 [none] [] h)
                                             (isC h x0 13 (
                                              br ((lg_cmp (hL h x0 11) (lN 7237492)) = (nI 0))
                                                (ev M_Mo_isOwn 0 95 [none] [] h)
                                                (isC h x0 13 (
                                                 br ((lg_cmp (hL h x0 11) (lN 7499639)) = (nI 0))
                                                   (ev M_Mo_isOwn 0 95 [none] [] h)
                                                   (isC h x0 13 (
                                                    br ((lg_cmp (hL h x0 11) (lN 109330212154734)) = (nI 0))
                                                      (ev M_Mo_isOwn 0 95 [none] [] h)
                                                      (isC h x0 13 (
                                                       br ((lg_cmp (hL h x0 11) (lN 1835101817)) = (nI 0))
                                                         (ev M_Mo_isOwn 0 95 [none] [] h)
                                                         (isZ (nI 0) (some (some (.int (nI 0)), h)))))))))))))))))))))))))))))))))))))) := (ev_eq _ _ _ _ _ _).trans rfl
theorem r_Mo_isOwn_95  (h : MH) : ev M_Mo_isOwn 0 95 [none] [] h =
    isZ (nI 1) (some (some (.int (nI 1)), h)) := (ev_eq _ _ _ _ _ _).trans rfl
theorem r_Mo_takes_0 (x0 : Nat) (x1 : Int64) (h : MH) : ev M_Mo_takes 0 0 [some (.ref x0), some (.long x1), none] [] h =
    isC h x0 13 (rI (ev M_Mo_isWord 0 0 [some (.ref x0), some (.long x1), none] [] h) fun y2 h1 =>
    br (y2 = (nI 0))
      (isZ (nI 0) (some (some (.int (nI 0)), h1)))
      (isC h1 x0 13 (rV (ev M_Mo_goOn 0 0 [some (.ref x0), none] [] h1) fun h3 =>
       isZ (nI 1) (some (some (.int (nI 1)), h3))))) := (ev_eq _ _ _ _ _ _).trans rfl
theorem r_Mo_isMark_0 (x0 : Nat) (x1 : Int32) (h : MH) : ev M_Mo_isMark 0 0 [some (.ref x0), some (.int x1)] [] h =
    isC h x0 13 (
    br ((hI h x0 7) = (nI 0))
      (isC h x0 13 (
       br ((hI h x0 5) = x1)
         (isZ (nI 1) (some (some (.int (nI 1)), h)))
         (isZ (nI 0) (some (some (.int (nI 0)), h)))))
      (isZ (nI 0) (some (some (.int (nI 0)), h)))) := (ev_eq _ _ _ _ _ _).trans rfl
theorem r_Mo_needsMark_0 (x0 : Nat) (x1 : Int32) (h : MH) : ev M_Mo_needsMark 0 0 [some (.ref x0), some (.int x1)] [] h =
    isC h x0 13 (rI (ev M_Mo_isMark 0 0 [some (.ref x0), some (.int x1)] [] h) fun y2 h1 =>
    br (y2 = (nI 0))
      (isC h1 x0 13 (rV (ev M_Mo_wrong 0 0 [some (.ref x0), some (.int (nI 2))] [] h1) fun h3 =>
       ev M_Mo_needsMark 0 8 [some (.ref x0), none] [] h3))
      (ev M_Mo_needsMark 0 8 [some (.ref x0), none] [] h1)) := (ev_eq _ _ _ _ _ _).trans rfl
theorem r_Mo_needsMark_8 (x0 : Nat) (h : MH) : ev M_Mo_needsMark 0 8 [some (.ref x0), none] [] h =
    isC h x0 13 (rI (ev M_Mo_isGood 0 0 [some (.ref x0)] [] h) fun y2 h1 =>
    br (y2 = (nI 0))
      (some (none, h1))
      (isC h1 x0 13 (rV (ev M_Mo_goOn 0 0 [some (.ref x0), none] [] h1) fun h3 =>
       some (none, h3)))) := (ev_eq _ _ _ _ _ _).trans rfl
theorem r_Mo_number_0 (x0 : Nat) (x1 : Int32) (x2 : Int32) (h : MH) : ev M_Mo_number 0 0 [some (.ref x0), some (.int x1), some (.int x2), none] [] h =
    isC h x0 13 (
    br ((nI 0) < (hI h x0 7))
      (some (some (.int (nI 0)), h))
      (isC h x0 13 (
       br ((hI h x0 5) = (nI 2))
         (isC h x0 13 (
          rI (ev M_Mo_isIn 0 0 [some (.int (hI h x0 6)), some (.int x1), some (.int x2)] [] h) fun y2 h1 =>
          br (y2 = (nI 0))
            (isC h1 x0 13 (rV (ev M_Mo_wrong 0 0 [some (.ref x0), some (.int (nI 4))] [] h1) fun h3 =>
             ev M_Mo_number 0 23 [some (.ref x0), none, none, none] [] h3))
            (ev M_Mo_number 0 23 [some (.ref x0), none, none, none] [] h1)))
         (isC h x0 13 (rV (ev M_Mo_wrong 0 0 [some (.ref x0), some (.int (nI 2))] [] h) fun h4 =>
          ev M_Mo_number 0 23 [some (.ref x0), none, none, none] [] h4))))) := (ev_eq _ _ _ _ _ _).trans rfl
theorem r_Mo_number_23 (x0 : Nat) (h : MH) : ev M_Mo_number 0 23 [some (.ref x0), none, none, none] [] h =
    isC h x0 13 (
    isC h x0 13 (rI (ev M_Mo_isGood 0 0 [some (.ref x0)] [] h) fun y2 h1 =>
    br (y2 = (nI 0))
      (some (some (.int (hI h x0 6)), h1))
      (isC h1 x0 13 (rV (ev M_Mo_goOn 0 0 [some (.ref x0), none] [] h1) fun h3 =>
       some (some (.int (hI h x0 6)), h3))))) := (ev_eq _ _ _ _ _ _).trans rfl
theorem r_Mo_sizeOf_0 (x0 : Nat) (x1 : Int32) (h : MH) : ev M_Mo_sizeOf 0 0 [some (.ref x0), some (.int x1)] [] h =
    isC h x0 13 (nnR (hR h x0 12) fun r1 =>
    isC h r1 20 (inA h r1 x1 (
    some (some (.int ((nI 1) <<< ((hI h r1 (Int32.toNatClampNeg x1)) &&& 31))), h)))) := (ev_eq _ _ _ _ _ _).trans rfl
theorem r_Mo_relNamed_0 (x0 : Nat) (x1 : Int64) (h : MH) : ev M_Mo_relNamed 0 0 [some (.ref x0), some (.long x1), none, none] [] h =
    ev M_Mo_relNamed 0 3 [some (.ref x0), some (.long x1), none, some (.int (nI 0))] [] h := (ev_eq _ _ _ _ _ _).trans rfl
theorem r_Mo_relNamed_3 (x0 : Nat) (x1 : Int64) (x3 : Int32) (h : MH) : ev M_Mo_relNamed 0 3 [some (.ref x0), some (.long x1), none, some (.int x3)] [] h =
    isC h x0 13 (nnR (hR h x0 13) fun r1 =>
    isC h r1 20 (inA h r1 (nI 1) (
    br (x3 < (hI h r1 (Int32.toNatClampNeg (nI 1))))
      (isC h x0 13 (nnR (hR h x0 18) fun r2 =>
       isC h r2 22 (inA h r2 ((nI 5) + x3) (
       br ((lg_cmp (hL h r2 (Int32.toNatClampNeg ((nI 5) + x3))) x1) = (nI 0))
         (some (some (.int x3), h))
         (ev M_Mo_relNamed 0 3 [some (.ref x0), some (.long x1), none, some (.int (x3 + (nI 1)))] [] h)))))
      (some (some (.int (mI 1)), h))))) := (ev_eq _ _ _ _ _ _).trans rfl
theorem r_Mo_lays1_0 (x0 : Nat) (x1 : Int32) (h : MH) : ev M_Mo_lays1 0 0 [some (.ref x0), some (.int x1)] [] h =
    isC h x0 13 (
    br ((nI 0) < (hI h x0 7))
      (some (none, h))
      (isC h x0 13 (nnR (hR h x0 23) fun r1 =>
       isC h x0 13 (
       isC h r1 20 (inA h r1 ((nI 260) + (hI h x0 25)) (
       let h2 := sI h r1 (Int32.toNatClampNeg ((nI 260) + (hI h x0 25))) x1
       isC h2 x0 13 (
       isC h2 x0 13 (
       let h3 := sI h2 x0 25 ((hI h2 x0 25) + (nI 1))
       some (none, h3))))))))) := (ev_eq _ _ _ _ _ _).trans rfl
theorem r_Mo_openUp_0 (x0 : Nat) (x1 : Int32) (h : MH) : ev M_Mo_openUp 0 0 [some (.ref x0), some (.int x1)] [] h =
    isC h x0 13 (nnR (hR h x0 31) fun r1 =>
    isC h x0 13 (
    isC h r1 20 (inA h r1 (hI h x0 32) (
    let h2 := sI h r1 (Int32.toNatClampNeg (hI h x0 32)) x1
    isC h2 x0 13 (
    isC h2 x0 13 (
    let h3 := sI h2 x0 32 ((hI h2 x0 32) + (nI 1))
    isC h3 x0 13 (
    isC h3 x0 13 (
    let h4 := sI h3 x0 33 ((hI h3 x0 33) + (nI 1))
    isC h4 x0 13 (rV (ev M_Mo_goOn 0 0 [some (.ref x0), none] [] h4) fun h5 =>
    some (none, h5)))))))))) := (ev_eq _ _ _ _ _ _).trans rfl
theorem r_Mo_tightOf_0 (x0 : Int32) (h : MH) : ev M_Mo_tightOf 0 0 [some (.int x0)] [] h =
    br (x0 = (nI 40))
      (some (some (.int (nI 0)), h))
      (br (x0 = (nI 20))
         (ev M_Mo_tightOf 0 12 [none] [] h)
         (br (x0 = (nI 21))
            (ev M_Mo_tightOf 0 12 [none] [] h)
            (some (some (.int (nI 2)), h)))) := (ev_eq _ _ _ _ _ _).trans rfl
theorem r_Mo_tightOf_12  (h : MH) : ev M_Mo_tightOf 0 12 [none] [] h =
    some (some (.int (nI 1)), h) := (ev_eq _ _ _ _ _ _).trans rfl
theorem r_Mo_closesTo_0 (x0 : Nat) (x1 : Int32) (h : MH) : ev M_Mo_closesTo 0 0 [some (.ref x0), some (.int x1)] [] h =
    ev M_Mo_closesTo 0 1 [some (.ref x0), some (.int x1)] [] h := (ev_eq _ _ _ _ _ _).trans rfl
theorem r_Mo_closesTo_1 (x0 : Nat) (x1 : Int32) (h : MH) : ev M_Mo_closesTo 0 1 [some (.ref x0), some (.int x1)] [] h =
    isC h x0 13 (
    br ((nI 0) < (hI h x0 32))
      (isC h x0 13 (nnR (hR h x0 31) fun r1 =>
       isC h x0 13 (
       isC h r1 20 (inA h r1 ((hI h x0 32) - (nI 1)) (
       rI (ev M_Mo_tightOf 0 0 [some (.int (hI h r1 (Int32.toNatClampNeg ((hI h x0 32) - (nI 1)))))] [] h) fun y3 h2 =>
       br (y3 < x1)
         (some (none, h2))
         (isC h2 x0 13 (
          isC h2 x0 13 (
          let h4 := sI h2 x0 32 ((hI h2 x0 32) - (nI 1))
          isC h4 x0 13 (nnR (hR h4 x0 31) fun r5 =>
          isC h4 x0 13 (
          isC h4 r5 20 (inA h4 r5 (hI h4 x0 32) (
          isC h4 x0 13 (rV (ev M_Mo_lays1 0 0 [some (.ref x0), some (.int (hI h4 r5 (Int32.toNatClampNeg (hI h4 x0 32))))] [] h4) fun h6 =>
          ev M_Mo_closesTo 0 1 [some (.ref x0), some (.int x1)] [] h6)))))))))))))
      (some (none, h))) := (ev_eq _ _ _ _ _ _).trans rfl
theorem r_Mo_turnsDone_0 (x0 : Nat) (h : MH) : ev M_Mo_turnsDone 0 0 [some (.ref x0)] [] h =
    ev M_Mo_turnsDone 0 1 [some (.ref x0)] [] h := (ev_eq _ _ _ _ _ _).trans rfl
theorem r_Mo_turnsDone_1 (x0 : Nat) (h : MH) : ev M_Mo_turnsDone 0 1 [some (.ref x0)] [] h =
    isC h x0 13 (
    br ((nI 0) < (hI h x0 32))
      (isC h x0 13 (nnR (hR h x0 31) fun r1 =>
       isC h x0 13 (
       isC h r1 20 (inA h r1 ((hI h x0 32) - (nI 1)) (
       br ((hI h r1 (Int32.toNatClampNeg ((hI h x0 32) - (nI 1)))) = (nI 24))
         (isC h x0 13 (
          isC h x0 13 (
          let h2 := sI h x0 32 ((hI h x0 32) - (nI 1))
          isC h2 x0 13 (
          isC h2 x0 13 (
          let h3 := sI h2 x0 33 ((hI h2 x0 33) - (nI 1))
          isC h3 x0 13 (rV (ev M_Mo_lays1 0 0 [some (.ref x0), some (.int (nI 24))] [] h3) fun h4 =>
          ev M_Mo_turnsDone 0 1 [some (.ref x0)] [] h4))))))
         (some (none, h)))))))
      (some (none, h))) := (ev_eq _ _ _ _ _ _).trans rfl
theorem r_Mo_hasBracket_0 (x0 : Nat) (h : MH) : ev M_Mo_hasBracket 0 0 [some (.ref x0), none, none] [] h =
    ev M_Mo_hasBracket 0 5 [some (.ref x0), some (.int (nI 0)), some (.int (nI 0))] [] h := (ev_eq _ _ _ _ _ _).trans rfl
theorem r_Mo_hasBracket_5 (x0 : Nat) (x1 : Int32) (x2 : Int32) (h : MH) : ev M_Mo_hasBracket 0 5 [some (.ref x0), some (.int x1), some (.int x2)] [] h =
    isC h x0 13 (
    br (x2 < (hI h x0 32))
      (br (x1 = (nI 0))
         (isC h x0 13 (nnR (hR h x0 31) fun r1 =>
          isC h r1 20 (inA h r1 x2 (
          br ((hI h r1 (Int32.toNatClampNeg x2)) = (nI 40))
            (ev M_Mo_hasBracket 0 18 [some (.ref x0), none, some (.int x2)] [] h)
            (ev M_Mo_hasBracket 0 22 [some (.ref x0), none, some (.int x2)] [(.int (nI 0))] h)))))
         (ev M_Mo_hasBracket 0 18 [some (.ref x0), none, some (.int x2)] [] h))
      (isZ x1 (some (some (.int x1), h)))) := (ev_eq _ _ _ _ _ _).trans rfl
theorem r_Mo_hasBracket_18 (x0 : Nat) (x2 : Int32) (h : MH) : ev M_Mo_hasBracket 0 18 [some (.ref x0), none, some (.int x2)] [] h =
    ev M_Mo_hasBracket 0 22 [some (.ref x0), none, some (.int x2)] [(.int (nI 1))] h := (ev_eq _ _ _ _ _ _).trans rfl
theorem r_Mo_hasBracket_22 (x0 : Nat) (x2 : Int32) (s0 : Int32) (h : MH) : ev M_Mo_hasBracket 0 22 [some (.ref x0), none, some (.int x2)] [(.int s0)] h =
    ev M_Mo_hasBracket 0 5 [some (.ref x0), some (.int s0), some (.int (x2 + (nI 1)))] [] h := (ev_eq _ _ _ _ _ _).trans rfl
theorem r_Mo_z_0 (x0 : Nat) (h : MH) : ev M_Mo_z 0 0 [some (.ref x0), none] [] h =
    ev M_Mo_z 0 3 [some (.ref x0), some (.int (nI 1))] [] h := (ev_eq _ _ _ _ _ _).trans rfl
theorem r_Mo_z_3 (x0 : Nat) (x1 : Int32) (h : MH) : ev M_Mo_z 0 3 [some (.ref x0), some (.int x1)] [] h =
    br (x1 = (nI 0))
      (ev M_Mo_z 0 36 [some (.ref x0), none] [] h)
      (isC h x0 13 (rI (ev M_Mo_isGood 0 0 [some (.ref x0)] [] h) fun y2 h1 =>
       br (y2 = (nI 0))
         (ev M_Mo_z 0 36 [some (.ref x0), none] [] h1)
         (isC h1 x0 13 (
          br ((nI 5) < (hI h1 x0 33))
            (isC h1 x0 13 (rV (ev M_Mo_wrong 0 0 [some (.ref x0), some (.int (nI 2))] [] h1) fun h3 =>
             ev M_Mo_z 0 16 [some (.ref x0), some (.int x1)] [] h3))
            (ev M_Mo_z 0 16 [some (.ref x0), some (.int x1)] [] h1))))) := (ev_eq _ _ _ _ _ _).trans rfl
theorem r_Mo_z_16 (x0 : Nat) (x1 : Int32) (h : MH) : ev M_Mo_z 0 16 [some (.ref x0), some (.int x1)] [] h =
    isC h x0 13 (rI (ev M_Mo_isWord 0 0 [some (.ref x0), some (.long (lN 1650549611)), none] [] h) fun y2 h1 =>
    br (y2 = (nI 0))
      (isC h1 x0 13 (rI (ev M_Mo_isMark 0 0 [some (.ref x0), some (.int (nI 40))] [] h1) fun y4 h3 =>
       br (y4 = (nI 0))
         (ev M_Mo_z 0 3 [some (.ref x0), some (.int (nI 0))] [] h3)
         (isC h3 x0 13 (rV (ev M_Mo_openUp 0 0 [some (.ref x0), some (.int (nI 40))] [] h3) fun h5 =>
          ev M_Mo_z 0 3 [some (.ref x0), some (.int x1)] [] h5))))
      (isC h1 x0 13 (rV (ev M_Mo_openUp 0 0 [some (.ref x0), some (.int (nI 24))] [] h1) fun h6 =>
       ev M_Mo_z 0 3 [some (.ref x0), some (.int x1)] [] h6))) := (ev_eq _ _ _ _ _ _).trans rfl
theorem r_Mo_z_36 (x0 : Nat) (h : MH) : ev M_Mo_z 0 36 [some (.ref x0), none] [] h =
    isC h x0 13 (rI (ev M_Mo_isGood 0 0 [some (.ref x0)] [] h) fun y2 h1 =>
    br (y2 = (nI 0))
      (ev M_Mo_z 0 42 [some (.ref x0), none] [] h1)
      (isC h1 x0 13 (rV (ev M_Mo_leaf 0 0 [some (.ref x0), none, none] [] h1) fun h3 =>
       ev M_Mo_z 0 42 [some (.ref x0), none] [] h3))) := (ev_eq _ _ _ _ _ _).trans rfl
theorem r_Mo_z_42 (x0 : Nat) (h : MH) : ev M_Mo_z 0 42 [some (.ref x0), none] [] h =
    isC h x0 13 (rI (ev M_Mo_isGood 0 0 [some (.ref x0)] [] h) fun y2 h1 =>
    br (y2 = (nI 0))
      (some (none, h1))
      (isC h1 x0 13 (rV (ev M_Mo_turnsDone 0 0 [some (.ref x0)] [] h1) fun h3 =>
       some (none, h3)))) := (ev_eq _ _ _ _ _ _).trans rfl
theorem r_Mo_leaf_0 (x0 : Nat) (h : MH) : ev M_Mo_leaf 0 0 [some (.ref x0), none, none] [] h =
    isC h x0 13 (rI (ev M_Mo_isWord 0 0 [some (.ref x0), some (.long (lN 1935764837)), none] [] h) fun y2 h1 =>
    br (y2 = (nI 0))
      (isC h1 x0 13 (rI (ev M_Mo_isWord 0 0 [some (.ref x0), some (.long (lN 6384748)), none] [] h1) fun y4 h3 =>
       br (y4 = (nI 0))
         (ev M_Mo_leaf 0 14 [some (.ref x0), none, none] [(.int (mI 1))] h3)
         (ev M_Mo_leaf 0 14 [some (.ref x0), none, none] [(.int (nI 11))] h3)))
      (ev M_Mo_leaf 0 14 [some (.ref x0), none, none] [(.int (nI 10))] h1)) := (ev_eq _ _ _ _ _ _).trans rfl
theorem r_Mo_leaf_14 (x0 : Nat) (s0 : Int32) (h : MH) : ev M_Mo_leaf 0 14 [some (.ref x0), none, none] [(.int s0)] h =
    isC h x0 13 (
    br ((hI h x0 5) = (nI 1))
      (isC h x0 13 (rI (ev M_Mo_isOwn 0 0 [some (.ref x0)] [] h) fun y2 h1 =>
       br (y2 = (nI 0))
         (ev M_Mo_leaf 0 27 [some (.ref x0), some (.int s0), none] [(.int (nI 1))] h1)
         (ev M_Mo_leaf 0 25 [some (.ref x0), some (.int s0), none] [] h1)))
      (ev M_Mo_leaf 0 25 [some (.ref x0), some (.int s0), none] [] h)) := (ev_eq _ _ _ _ _ _).trans rfl
theorem r_Mo_leaf_25 (x0 : Nat) (x1 : Int32) (h : MH) : ev M_Mo_leaf 0 25 [some (.ref x0), some (.int x1), none] [] h =
    ev M_Mo_leaf 0 27 [some (.ref x0), some (.int x1), none] [(.int (nI 0))] h := (ev_eq _ _ _ _ _ _).trans rfl
theorem r_Mo_leaf_27 (x0 : Nat) (x1 : Int32) (s0 : Int32) (h : MH) : ev M_Mo_leaf 0 27 [some (.ref x0), some (.int x1), none] [(.int s0)] h =
    br (x1 = (mI 1))
      (br (s0 = (nI 0))
         (ev M_Mo_leaf 0 39 [some (.ref x0), some (.int x1), none] [] h)
         (ev M_Mo_leaf 0 34 [some (.ref x0), some (.int x1), none] [] h))
      (ev M_Mo_leaf 0 34 [some (.ref x0), some (.int x1), none] [] h) := (ev_eq _ _ _ _ _ _).trans rfl
theorem r_Mo_leaf_34 (x0 : Nat) (x1 : Int32) (h : MH) : ev M_Mo_leaf 0 34 [some (.ref x0), some (.int x1), none] [] h =
    isC h x0 13 (
    br ((hI h x0 26) = (nI 30))
      (ev M_Mo_leaf 0 39 [some (.ref x0), some (.int x1), none] [] h)
      (ev M_Mo_leaf 0 43 [some (.ref x0), some (.int x1), none] [] h)) := (ev_eq _ _ _ _ _ _).trans rfl
theorem r_Mo_leaf_39 (x0 : Nat) (x1 : Int32) (h : MH) : ev M_Mo_leaf 0 39 [some (.ref x0), some (.int x1), none] [] h =
    isC h x0 13 (rV (ev M_Mo_wrong 0 0 [some (.ref x0), some (.int (nI 2))] [] h) fun h1 =>
    ev M_Mo_leaf 0 43 [some (.ref x0), some (.int x1), none] [] h1) := (ev_eq _ _ _ _ _ _).trans rfl
theorem r_Mo_leaf_43 (x0 : Nat) (x1 : Int32) (h : MH) : ev M_Mo_leaf 0 43 [some (.ref x0), some (.int x1), none] [] h =
    isC h x0 13 (rI (ev M_Mo_isGood 0 0 [some (.ref x0)] [] h) fun y2 h1 =>
    br (y2 = (nI 0))
      (ev M_Mo_leaf 0 55 [some (.ref x0), some (.int x1), none] [] h1)
      (br (x1 = (mI 1))
         (isC h1 x0 13 (
          isC h1 x0 13 (rI (ev M_Mo_relNamed 0 0 [some (.ref x0), some (.long (hL h1 x0 11)), none, none] [] h1) fun y4 h3 =>
          ev M_Mo_leaf 0 55 [some (.ref x0), some (.int y4), none] [] h3)))
         (ev M_Mo_leaf 0 55 [some (.ref x0), some (.int x1), none] [] h1))) := (ev_eq _ _ _ _ _ _).trans rfl
theorem r_Mo_leaf_55 (x0 : Nat) (x1 : Int32) (h : MH) : ev M_Mo_leaf 0 55 [some (.ref x0), some (.int x1), none] [] h =
    isC h x0 13 (rI (ev M_Mo_isGood 0 0 [some (.ref x0)] [] h) fun y2 h1 =>
    br (y2 = (nI 0))
      (ev M_Mo_leaf 0 65 [some (.ref x0), some (.int x1), none] [] h1)
      (br (x1 = (mI 1))
         (isC h1 x0 13 (rV (ev M_Mo_wrong 0 0 [some (.ref x0), some (.int (nI 5))] [] h1) fun h3 =>
          ev M_Mo_leaf 0 65 [some (.ref x0), some (.int x1), none] [] h3))
         (ev M_Mo_leaf 0 65 [some (.ref x0), some (.int x1), none] [] h1))) := (ev_eq _ _ _ _ _ _).trans rfl
theorem r_Mo_leaf_65 (x0 : Nat) (x1 : Int32) (h : MH) : ev M_Mo_leaf 0 65 [some (.ref x0), some (.int x1), none] [] h =
    isC h x0 13 (
    br ((nI 0) < (hI h x0 7))
      (some (none, h))
      (isC h x0 13 (
       isC h x0 13 (
       let h1 := sI h x0 26 ((hI h x0 26) + (nI 1))
       isC h1 x0 13 (rV (ev M_Mo_lays1 0 0 [some (.ref x0), some (.int x1)] [] h1) fun h2 =>
       isC h2 x0 13 (rV (ev M_Mo_goOn 0 0 [some (.ref x0), none] [] h2) fun h3 =>
       some (none, h3))))))) := (ev_eq _ _ _ _ _ _).trans rfl
theorem r_Mo_joinHere_0 (x0 : Nat) (h : MH) : ev M_Mo_joinHere 0 0 [some (.ref x0)] [] h =
    isC h x0 13 (rI (ev M_Mo_isWord 0 0 [some (.ref x0), some (.long (lN 28530)), none] [] h) fun y2 h1 =>
    br (y2 = (nI 0))
      (isC h1 x0 13 (rI (ev M_Mo_isWord 0 0 [some (.ref x0), some (.long (lN 1818588019)), none] [] h1) fun y4 h3 =>
       br (y4 = (nI 0))
         (isC h3 x0 13 (rI (ev M_Mo_isWord 0 0 [some (.ref x0), some (.long (lN 6385252)), none] [] h3) fun y6 h5 =>
          br (y6 = (nI 0))
            (isC h5 x0 13 (rI (ev M_Mo_isWord 0 0 [some (.ref x0), some (.long (lN 1952998766)), none] [] h5) fun y8 h7 =>
             br (y8 = (nI 0))
               (some (some (.int (mI 1)), h7))
               (some (some (.int (nI 23)), h7))))
            (some (some (.int (nI 22)), h5))))
         (some (some (.int (nI 21)), h3))))
      (some (some (.int (nI 20)), h1))) := (ev_eq _ _ _ _ _ _).trans rfl
theorem r_Mo_x_0 (x0 : Nat) (h : MH) : ev M_Mo_x 0 0 [some (.ref x0), none, none] [] h =
    isC h x0 13 (
    let h1 := sI h x0 32 (nI 0)
    isC h1 x0 13 (
    let h2 := sI h1 x0 33 (nI 0)
    isC h2 x0 13 (rV (ev M_Mo_z 0 0 [some (.ref x0), none] [] h2) fun h3 =>
    ev M_Mo_x 0 11 [some (.ref x0), some (.int (nI 1)), none] [] h3))) := (ev_eq _ _ _ _ _ _).trans rfl
set_option maxRecDepth 100000 in
set_option maxHeartbeats 4000000 in
theorem r_Mo_x_11 (x0 : Nat) (x1 : Int32) (h : MH) : ev M_Mo_x 0 11 [some (.ref x0), some (.int x1), none] [] h =
    br (x1 = (nI 0))
      (ev M_Mo_x 0 76 [some (.ref x0), none, none] [] h)
      (isC h x0 13 (rI (ev M_Mo_isGood 0 0 [some (.ref x0)] [] h) fun y2 h1 =>
       br (y2 = (nI 0))
         (ev M_Mo_x 0 76 [some (.ref x0), none, none] [] h1)
         (isC h1 x0 13 (rI (ev M_Mo_joinHere 0 0 [some (.ref x0)] [] h1) fun y4 h3 =>
          br (y4 = (mI 1))
            (isC h3 x0 13 (rI (ev M_Mo_isMark 0 0 [some (.ref x0), some (.int (nI 41))] [] h3) fun y6 h5 =>
             br (y6 = (nI 0))
               (ev M_Mo_x 0 71 [some (.ref x0), none, none] [] h5)
               (isC h5 x0 13 (rI (ev M_Mo_hasBracket 0 0 [some (.ref x0), none, none] [] h5) fun y8 h7 =>
                br (y8 = (nI 0))
                  (ev M_Mo_x 0 71 [some (.ref x0), none, none] [] h7)
                  (isC h7 x0 13 (rV (ev M_Mo_closesTo 0 0 [some (.ref x0), some (.int (nI 1))] [] h7) fun h9 =>
                   isC h9 x0 13 (
                   isC h9 x0 13 (
                   let h10 := sI h9 x0 32 ((hI h9 x0 32) - (nI 1))
                   isC h10 x0 13 (
                   isC h10 x0 13 (
                   let h11 := sI h10 x0 33 ((hI h10 x0 33) - (nI 1))
                   isC h11 x0 13 (rV (ev M_Mo_goOn 0 0 [some (.ref x0), none] [] h11) fun h12 =>
                   isC h12 x0 13 (rV (ev M_Mo_turnsDone 0 0 [some (.ref x0)] [] h12) fun h13 =>
                   ev M_Mo_x 0 74 [some (.ref x0), some (.int x1), none] [] h13))))))))))))
            (rI (ev M_Mo_tightOf 0 0 [some (.int y4)] [] h3) fun y15 h14 =>
             isC h14 x0 13 (rV (ev M_Mo_closesTo 0 0 [some (.ref x0), some (.int y15)] [] h14) fun h16 =>
             isC h16 x0 13 (nnR (hR h16 x0 31) fun r17 =>
             isC h16 x0 13 (
             isC h16 r17 20 (inA h16 r17 (hI h16 x0 32) (
             let h18 := sI h16 r17 (Int32.toNatClampNeg (hI h16 x0 32)) y4
             isC h18 x0 13 (
             isC h18 x0 13 (
             let h19 := sI h18 x0 32 ((hI h18 x0 32) + (nI 1))
             isC h19 x0 13 (rV (ev M_Mo_goOn 0 0 [some (.ref x0), none] [] h19) fun h20 =>
             isC h20 x0 13 (rV (ev M_Mo_z 0 0 [some (.ref x0), none] [] h20) fun h21 =>
             ev M_Mo_x 0 74 [some (.ref x0), some (.int x1), none] [] h21)))))))))))))) := (ev_eq _ _ _ _ _ _).trans rfl
theorem r_Mo_x_71 (x0 : Nat) (h : MH) : ev M_Mo_x 0 71 [some (.ref x0), none, none] [] h =
    ev M_Mo_x 0 74 [some (.ref x0), some (.int (nI 0)), none] [] h := (ev_eq _ _ _ _ _ _).trans rfl
theorem r_Mo_x_74 (x0 : Nat) (x1 : Int32) (h : MH) : ev M_Mo_x 0 74 [some (.ref x0), some (.int x1), none] [] h =
    ev M_Mo_x 0 11 [some (.ref x0), some (.int x1), none] [] h := (ev_eq _ _ _ _ _ _).trans rfl
theorem r_Mo_x_76 (x0 : Nat) (h : MH) : ev M_Mo_x 0 76 [some (.ref x0), none, none] [] h =
    isC h x0 13 (rI (ev M_Mo_isGood 0 0 [some (.ref x0)] [] h) fun y2 h1 =>
    br (y2 = (nI 0))
      (ev M_Mo_x 0 86 [some (.ref x0), none, none] [] h1)
      (isC h1 x0 13 (rI (ev M_Mo_hasBracket 0 0 [some (.ref x0), none, none] [] h1) fun y4 h3 =>
       br (y4 = (nI 0))
         (ev M_Mo_x 0 86 [some (.ref x0), none, none] [] h3)
         (isC h3 x0 13 (rV (ev M_Mo_wrong 0 0 [some (.ref x0), some (.int (nI 2))] [] h3) fun h5 =>
          ev M_Mo_x 0 86 [some (.ref x0), none, none] [] h5))))) := (ev_eq _ _ _ _ _ _).trans rfl
theorem r_Mo_x_86 (x0 : Nat) (h : MH) : ev M_Mo_x 0 86 [some (.ref x0), none, none] [] h =
    isC h x0 13 (rI (ev M_Mo_isGood 0 0 [some (.ref x0)] [] h) fun y2 h1 =>
    br (y2 = (nI 0))
      (some (none, h1))
      (isC h1 x0 13 (rV (ev M_Mo_closesTo 0 0 [some (.ref x0), some (.int (nI 1))] [] h1) fun h3 =>
       some (none, h3)))) := (ev_eq _ _ _ _ _ _).trans rfl
theorem r_Mo_keepLays_0 (x0 : Nat) (x1 : Int32) (h : MH) : ev M_Mo_keepLays 0 0 [some (.ref x0), some (.int x1)] [] h =
    isC h x0 13 (
    br ((nI 0) < (hI h x0 7))
      (some (none, h))
      (isC h x0 13 (nnR (hR h x0 24) fun r1 =>
       isC h x0 13 (nnR (hR h x0 16) fun r2 =>
       isC h r2 20 (inA h r2 (nI 1) (
       isC h r1 20 (inA h r1 ((nI 330) + (hI h r2 (Int32.toNatClampNeg (nI 1)))) (
       let h3 := sI h r1 (Int32.toNatClampNeg ((nI 330) + (hI h r2 (Int32.toNatClampNeg (nI 1))))) x1
       isC h3 x0 13 (nnR (hR h3 x0 16) fun r4 =>
       isC h3 r4 20 (inA h3 r4 (nI 1) (
       isC h3 r4 20 (inA h3 r4 (nI 1) (
       let h5 := sI h3 r4 (Int32.toNatClampNeg (nI 1)) ((hI h3 r4 (Int32.toNatClampNeg (nI 1))) + (nI 1))
       some (none, h5)))))))))))))) := (ev_eq _ _ _ _ _ _).trans rfl
theorem r_Mo_boundOf_0 (x0 : Int32) (h : MH) : ev M_Mo_boundOf 0 0 [some (.int x0)] [] h =
    br (x0 = (nI 40))
      (some (some (.int (nI 0)), h))
      (br (x0 = (mI 29))
         (ev M_Mo_boundOf 0 12 [some (.int x0)] [] h)
         (br (x0 = (mI 28))
            (ev M_Mo_boundOf 0 12 [some (.int x0)] [] h)
            (br (x0 = (mI 30))
               (some (some (.int (nI 3)), h))
               (br (x0 = (mI 20))
                  (ev M_Mo_boundOf 0 31 [none] [] h)
                  (br (x0 = (mI 21))
                     (ev M_Mo_boundOf 0 31 [none] [] h)
                     (br (x0 = (mI 22))
                        (ev M_Mo_boundOf 0 43 [none] [] h)
                        (br (x0 = (mI 23))
                           (ev M_Mo_boundOf 0 43 [none] [] h)
                           (br (x0 = (mI 24))
                              (ev M_Mo_boundOf 0 43 [none] [] h)
                              (some (some (.int (nI 4)), h)))))))))) := (ev_eq _ _ _ _ _ _).trans rfl
theorem r_Mo_boundOf_12 (x0 : Int32) (h : MH) : ev M_Mo_boundOf 0 12 [some (.int x0)] [] h =
    br (x0 = (mI 29))
      (some (some (.int (nI 1)), h))
      (some (some (.int (nI 2)), h)) := (ev_eq _ _ _ _ _ _).trans rfl
theorem r_Mo_boundOf_31  (h : MH) : ev M_Mo_boundOf 0 31 [none] [] h =
    some (some (.int (nI 5)), h) := (ev_eq _ _ _ _ _ _).trans rfl
theorem r_Mo_boundOf_43  (h : MH) : ev M_Mo_boundOf 0 43 [none] [] h =
    some (some (.int (nI 6)), h) := (ev_eq _ _ _ _ _ _).trans rfl
theorem r_Mo_formulaCloses_0 (x0 : Nat) (x1 : Int32) (h : MH) : ev M_Mo_formulaCloses 0 0 [some (.ref x0), some (.int x1)] [] h =
    ev M_Mo_formulaCloses 0 1 [some (.ref x0), some (.int x1)] [] h := (ev_eq _ _ _ _ _ _).trans rfl
theorem r_Mo_formulaCloses_1 (x0 : Nat) (x1 : Int32) (h : MH) : ev M_Mo_formulaCloses 0 1 [some (.ref x0), some (.int x1)] [] h =
    isC h x0 13 (
    br ((nI 0) < (hI h x0 32))
      (isC h x0 13 (nnR (hR h x0 31) fun r1 =>
       isC h x0 13 (
       isC h r1 20 (inA h r1 ((hI h x0 32) - (nI 1)) (
       rI (ev M_Mo_boundOf 0 0 [some (.int (hI h r1 (Int32.toNatClampNeg ((hI h x0 32) - (nI 1)))))] [] h) fun y3 h2 =>
       br (y3 < x1)
         (some (none, h2))
         (isC h2 x0 13 (
          isC h2 x0 13 (
          let h4 := sI h2 x0 32 ((hI h2 x0 32) - (nI 1))
          isC h4 x0 13 (nnR (hR h4 x0 31) fun r5 =>
          isC h4 x0 13 (
          isC h4 r5 20 (inA h4 r5 (hI h4 x0 32) (
          br ((hI h4 r5 (Int32.toNatClampNeg (hI h4 x0 32))) = (mI 30))
            (isC h4 x0 13 (
             isC h4 x0 13 (
             let h6 := sI h4 x0 33 ((hI h4 x0 33) - (nI 1))
             ev M_Mo_formulaCloses 0 34 [some (.ref x0), some (.int x1)] [] h6)))
            (ev M_Mo_formulaCloses 0 34 [some (.ref x0), some (.int x1)] [] h4)))))))))))))
      (some (none, h))) := (ev_eq _ _ _ _ _ _).trans rfl
theorem r_Mo_formulaCloses_34 (x0 : Nat) (x1 : Int32) (h : MH) : ev M_Mo_formulaCloses 0 34 [some (.ref x0), some (.int x1)] [] h =
    isC h x0 13 (nnR (hR h x0 31) fun r1 =>
    isC h x0 13 (
    isC h r1 20 (inA h r1 (hI h x0 32) (
    isC h x0 13 (rV (ev M_Mo_keepLays 0 0 [some (.ref x0), some (.int (hI h r1 (Int32.toNatClampNeg (hI h x0 32))))] [] h) fun h2 =>
    ev M_Mo_formulaCloses 0 1 [some (.ref x0), some (.int x1)] [] h2))))) := (ev_eq _ _ _ _ _ _).trans rfl
theorem r_Mo_hasRelation_0 (x0 : Nat) (h : MH) : ev M_Mo_hasRelation 0 0 [some (.ref x0), none] [] h =
    isC h x0 13 (
    ev M_Mo_hasRelation 0 6 [some (.ref x0), some (.int ((hI h x0 32) - (nI 1)))] [] h) := (ev_eq _ _ _ _ _ _).trans rfl
theorem r_Mo_hasRelation_6 (x0 : Nat) (x1 : Int32) (h : MH) : ev M_Mo_hasRelation 0 6 [some (.ref x0), some (.int x1)] [] h =
    br (x1 < (nI 0))
      (ev M_Mo_hasRelation 0 18 [some (.ref x0), some (.int x1)] [] h)
      (isC h x0 13 (nnR (hR h x0 31) fun r1 =>
       isC h r1 20 (inA h r1 x1 (
       rI (ev M_Mo_boundOf 0 0 [some (.int (hI h r1 (Int32.toNatClampNeg x1)))] [] h) fun y3 h2 =>
       br ((nI 4) < y3)
         (ev M_Mo_hasRelation 0 6 [some (.ref x0), some (.int (x1 + (mI 1)))] [] h2)
         (ev M_Mo_hasRelation 0 18 [some (.ref x0), some (.int x1)] [] h2))))) := (ev_eq _ _ _ _ _ _).trans rfl
theorem r_Mo_hasRelation_18 (x0 : Nat) (x1 : Int32) (h : MH) : ev M_Mo_hasRelation 0 18 [some (.ref x0), some (.int x1)] [] h =
    br (x1 < (nI 0))
      (isZ (nI 0) (some (some (.int (nI 0)), h)))
      (isC h x0 13 (nnR (hR h x0 31) fun r1 =>
       isC h r1 20 (inA h r1 x1 (
       rI (ev M_Mo_boundOf 0 0 [some (.int (hI h r1 (Int32.toNatClampNeg x1)))] [] h) fun y3 h2 =>
       br (y3 = (nI 4))
         (isZ (nI 1) (some (some (.int (nI 1)), h2)))
         (isZ (nI 0) (some (some (.int (nI 0)), h2))))))) := (ev_eq _ _ _ _ _ _).trans rfl
theorem r_Mo_mayNot_0 (x0 : Nat) (h : MH) : ev M_Mo_mayNot 0 0 [some (.ref x0)] [] h =
    isC h x0 13 (
    br ((hI h x0 32) = (nI 0))
      (ev M_Mo_mayNot 0 14 [none] [] h)
      (isC h x0 13 (nnR (hR h x0 31) fun r1 =>
       isC h x0 13 (
       isC h r1 20 (inA h r1 ((hI h x0 32) - (nI 1)) (
       rI (ev M_Mo_boundOf 0 0 [some (.int (hI h r1 (Int32.toNatClampNeg ((hI h x0 32) - (nI 1)))))] [] h) fun y3 h2 =>
       br (y3 < (nI 4))
         (ev M_Mo_mayNot 0 14 [none] [] h2)
         (isZ (nI 0) (some (some (.int (nI 0)), h2))))))))) := (ev_eq _ _ _ _ _ _).trans rfl
theorem r_Mo_mayNot_14  (h : MH) : ev M_Mo_mayNot 0 14 [none] [] h =
    isZ (nI 1) (some (some (.int (nI 1)), h)) := (ev_eq _ _ _ _ _ _).trans rfl
theorem r_Mo_isFull_0 (x0 : Nat) (h : MH) : ev M_Mo_isFull 0 0 [some (.ref x0)] [] h =
    isC h x0 13 (nnR (hR h x0 17) fun r1 =>
    isC h r1 20 (inA h r1 (nI 1) (
    br ((hI h r1 (Int32.toNatClampNeg (nI 1))) = (nI 30))
      (isZ (nI 1) (some (some (.int (nI 1)), h)))
      (isZ (nI 0) (some (some (.int (nI 0)), h)))))) := (ev_eq _ _ _ _ _ _).trans rfl
theorem r_Mo_unit_0 (x0 : Nat) (h : MH) : ev M_Mo_unit 0 0 [some (.ref x0), none, none] [] h =
    ev M_Mo_unit 0 3 [some (.ref x0), some (.int (nI 1)), none] [] h := (ev_eq _ _ _ _ _ _).trans rfl
theorem r_Mo_unit_3 (x0 : Nat) (x1 : Int32) (h : MH) : ev M_Mo_unit 0 3 [some (.ref x0), some (.int x1), none] [] h =
    br (x1 = (nI 0))
      (ev M_Mo_unit 0 86 [some (.ref x0), none, none] [] h)
      (isC h x0 13 (rI (ev M_Mo_isGood 0 0 [some (.ref x0)] [] h) fun y2 h1 =>
       br (y2 = (nI 0))
         (ev M_Mo_unit 0 86 [some (.ref x0), none, none] [] h1)
         (isC h1 x0 13 (rI (ev M_Mo_isWord 0 0 [some (.ref x0), some (.long (lN 7237492)), none] [] h1) fun y4 h3 =>
          br (y4 = (nI 0))
            (ev M_Mo_unit 0 18 [some (.ref x0), none, none] [] h3)
            (isC h3 x0 13 (rI (ev M_Mo_mayNot 0 0 [some (.ref x0)] [] h3) fun y6 h5 =>
             br (y6 = (nI 0))
               (ev M_Mo_unit 0 18 [some (.ref x0), none, none] [] h5)
               (ev M_Mo_unit 0 20 [some (.ref x0), none, none] [(.int (nI 1))] h5))))))) := (ev_eq _ _ _ _ _ _).trans rfl
theorem r_Mo_unit_18 (x0 : Nat) (h : MH) : ev M_Mo_unit 0 18 [some (.ref x0), none, none] [] h =
    ev M_Mo_unit 0 20 [some (.ref x0), none, none] [(.int (nI 0))] h := (ev_eq _ _ _ _ _ _).trans rfl
theorem r_Mo_unit_20 (x0 : Nat) (s0 : Int32) (h : MH) : ev M_Mo_unit 0 20 [some (.ref x0), none, none] [(.int s0)] h =
    br (s0 = (nI 0))
      (ev M_Mo_unit 0 28 [some (.ref x0), none, some (.int s0)] [] h)
      (isC h x0 13 (
       br ((nI 6) < (hI h x0 33))
         (ev M_Mo_unit 0 40 [some (.ref x0), none, some (.int s0)] [] h)
         (ev M_Mo_unit 0 28 [some (.ref x0), none, some (.int s0)] [] h))) := (ev_eq _ _ _ _ _ _).trans rfl
theorem r_Mo_unit_28 (x0 : Nat) (x2 : Int32) (h : MH) : ev M_Mo_unit 0 28 [some (.ref x0), none, some (.int x2)] [] h =
    isC h x0 13 (rI (ev M_Mo_isMark 0 0 [some (.ref x0), some (.int (nI 40))] [] h) fun y2 h1 =>
    br (y2 = (nI 0))
      (ev M_Mo_unit 0 44 [some (.ref x0), none, some (.int x2)] [] h1)
      (isC h1 x0 13 (rI (ev M_Mo_isFull 0 0 [some (.ref x0)] [] h1) fun y4 h3 =>
       br (y4 = (nI 0))
         (isC h3 x0 13 (
          br ((nI 6) < (hI h3 x0 33))
            (ev M_Mo_unit 0 40 [some (.ref x0), none, some (.int x2)] [] h3)
            (ev M_Mo_unit 0 44 [some (.ref x0), none, some (.int x2)] [] h3)))
         (ev M_Mo_unit 0 40 [some (.ref x0), none, some (.int x2)] [] h3)))) := (ev_eq _ _ _ _ _ _).trans rfl
theorem r_Mo_unit_40 (x0 : Nat) (x2 : Int32) (h : MH) : ev M_Mo_unit 0 40 [some (.ref x0), none, some (.int x2)] [] h =
    isC h x0 13 (rV (ev M_Mo_wrong 0 0 [some (.ref x0), some (.int (nI 2))] [] h) fun h1 =>
    ev M_Mo_unit 0 44 [some (.ref x0), none, some (.int x2)] [] h1) := (ev_eq _ _ _ _ _ _).trans rfl
theorem r_Mo_unit_44 (x0 : Nat) (x2 : Int32) (h : MH) : ev M_Mo_unit 0 44 [some (.ref x0), none, some (.int x2)] [] h =
    isC h x0 13 (
    br ((nI 0) < (hI h x0 7))
      (some (none, h))
      (br (x2 = (nI 0))
         (isC h x0 13 (rI (ev M_Mo_isMark 0 0 [some (.ref x0), some (.int (nI 40))] [] h) fun y2 h1 =>
          br (y2 = (nI 0))
            (ev M_Mo_unit 0 59 [some (.ref x0), none, some (.int x2)] [(.int (nI 0))] h1)
            (ev M_Mo_unit 0 55 [some (.ref x0), none, some (.int x2)] [] h1)))
         (ev M_Mo_unit 0 55 [some (.ref x0), none, some (.int x2)] [] h))) := (ev_eq _ _ _ _ _ _).trans rfl
theorem r_Mo_unit_55 (x0 : Nat) (x2 : Int32) (h : MH) : ev M_Mo_unit 0 55 [some (.ref x0), none, some (.int x2)] [] h =
    ev M_Mo_unit 0 59 [some (.ref x0), none, some (.int x2)] [(.int (nI 1))] h := (ev_eq _ _ _ _ _ _).trans rfl
theorem r_Mo_unit_59 (x0 : Nat) (x2 : Int32) (s0 : Int32) (h : MH) : ev M_Mo_unit 0 59 [some (.ref x0), none, some (.int x2)] [(.int s0)] h =
    isC h x0 13 (rI (ev M_Mo_isMark 0 0 [some (.ref x0), some (.int (nI 40))] [] h) fun y2 h1 =>
    br (y2 = (nI 0))
      (ev M_Mo_unit 0 73 [some (.ref x0), some (.int s0), some (.int x2)] [] h1)
      (isC h1 x0 13 (nnR (hR h1 x0 17) fun r3 =>
       isC h1 r3 20 (inA h1 r3 (nI 1) (
       isC h1 r3 20 (inA h1 r3 (nI 1) (
       let h4 := sI h1 r3 (Int32.toNatClampNeg (nI 1)) ((hI h1 r3 (Int32.toNatClampNeg (nI 1))) + (nI 1))
       ev M_Mo_unit 0 73 [some (.ref x0), some (.int s0), some (.int x2)] [] h4))))))) := (ev_eq _ _ _ _ _ _).trans rfl
theorem r_Mo_unit_73 (x0 : Nat) (x1 : Int32) (x2 : Int32) (h : MH) : ev M_Mo_unit 0 73 [some (.ref x0), some (.int x1), some (.int x2)] [] h =
    br (x1 = (nI 0))
      (ev M_Mo_unit 0 84 [some (.ref x0), some (.int x1), none] [] h)
      (br (x2 = (nI 0))
         (ev M_Mo_unit 0 82 [some (.ref x0), some (.int x1), none] [(.int (nI 40)), (.ref x0)] h)
         (ev M_Mo_unit 0 82 [some (.ref x0), some (.int x1), none] [(.int (mI 30)), (.ref x0)] h)) := (ev_eq _ _ _ _ _ _).trans rfl
theorem r_Mo_unit_82 (x0 : Nat) (x1 : Int32) (s0 : Nat) (s1 : Int32) (h : MH) : ev M_Mo_unit 0 82 [some (.ref x0), some (.int x1), none] [(.int s1), (.ref s0)] h =
    isC h s0 13 (rV (ev M_Mo_openUp 0 0 [some (.ref s0), some (.int s1)] [] h) fun h1 =>
    ev M_Mo_unit 0 84 [some (.ref x0), some (.int x1), none] [] h1) := (ev_eq _ _ _ _ _ _).trans rfl
theorem r_Mo_unit_84 (x0 : Nat) (x1 : Int32) (h : MH) : ev M_Mo_unit 0 84 [some (.ref x0), some (.int x1), none] [] h =
    ev M_Mo_unit 0 3 [some (.ref x0), some (.int x1), none] [] h := (ev_eq _ _ _ _ _ _).trans rfl
theorem r_Mo_unit_86 (x0 : Nat) (h : MH) : ev M_Mo_unit 0 86 [some (.ref x0), none, none] [] h =
    isC h x0 13 (rI (ev M_Mo_isWord 0 0 [some (.ref x0), some (.long (lN 7499639)), none] [] h) fun y2 h1 =>
    br (y2 = (nI 0))
      (isC h1 x0 13 (rI (ev M_Mo_isWord 0 0 [some (.ref x0), some (.long (lN 109330212154734)), none] [] h1) fun y4 h3 =>
       br (y4 = (nI 0))
         (isC h3 x0 13 (rI (ev M_Mo_isWord 0 0 [some (.ref x0), some (.long (lN 1835101817)), none] [] h3) fun y6 h5 =>
          br (y6 = (nI 0))
            (ev M_Mo_unit 0 106 [some (.ref x0), none, none] [(.int (mI 1))] h5)
            (ev M_Mo_unit 0 106 [some (.ref x0), none, none] [(.int (nI 2))] h5)))
         (ev M_Mo_unit 0 106 [some (.ref x0), none, none] [(.int (nI 1))] h3)))
      (ev M_Mo_unit 0 106 [some (.ref x0), none, none] [(.int (nI 0))] h1)) := (ev_eq _ _ _ _ _ _).trans rfl
theorem r_Mo_unit_106 (x0 : Nat) (s0 : Int32) (h : MH) : ev M_Mo_unit 0 106 [some (.ref x0), none, none] [(.int s0)] h =
    isC h x0 13 (
    br ((hI h x0 5) = (nI 2))
      (ev M_Mo_unit 0 115 [some (.ref x0), none, some (.int s0)] [] h)
      (br (s0 = (mI 1))
         (ev M_Mo_unit 0 119 [some (.ref x0), none, some (.int s0)] [] h)
         (ev M_Mo_unit 0 115 [some (.ref x0), none, some (.int s0)] [] h))) := (ev_eq _ _ _ _ _ _).trans rfl
theorem r_Mo_unit_115 (x0 : Nat) (x2 : Int32) (h : MH) : ev M_Mo_unit 0 115 [some (.ref x0), none, some (.int x2)] [] h =
    isC h x0 13 (rI (ev M_Mo_isFull 0 0 [some (.ref x0)] [] h) fun y2 h1 =>
    br (y2 = (nI 0))
      (ev M_Mo_unit 0 123 [some (.ref x0), none, some (.int x2)] [] h1)
      (ev M_Mo_unit 0 119 [some (.ref x0), none, some (.int x2)] [] h1)) := (ev_eq _ _ _ _ _ _).trans rfl
theorem r_Mo_unit_119 (x0 : Nat) (x2 : Int32) (h : MH) : ev M_Mo_unit 0 119 [some (.ref x0), none, some (.int x2)] [] h =
    isC h x0 13 (rV (ev M_Mo_wrong 0 0 [some (.ref x0), some (.int (nI 2))] [] h) fun h1 =>
    ev M_Mo_unit 0 123 [some (.ref x0), none, some (.int x2)] [] h1) := (ev_eq _ _ _ _ _ _).trans rfl
theorem r_Mo_unit_123 (x0 : Nat) (x2 : Int32) (h : MH) : ev M_Mo_unit 0 123 [some (.ref x0), none, some (.int x2)] [] h =
    isC h x0 13 (
    br ((nI 0) < (hI h x0 7))
      (some (none, h))
      (isC h x0 13 (nnR (hR h x0 17) fun r1 =>
       isC h r1 20 (inA h r1 (nI 1) (
       isC h r1 20 (inA h r1 (nI 1) (
       let h2 := sI h r1 (Int32.toNatClampNeg (nI 1)) ((hI h r1 (Int32.toNatClampNeg (nI 1))) + (nI 1))
       br (x2 = (mI 1))
         (isC h2 x0 13 (
          ev M_Mo_unit 0 146 [some (.ref x0), none, none] [(.int (hI h2 x0 6)), (.ref x0)] h2))
         (ev M_Mo_unit 0 146 [some (.ref x0), none, none] [(.int ((mI 10) - x2)), (.ref x0)] h2)))))))) := (ev_eq _ _ _ _ _ _).trans rfl
theorem r_Mo_unit_146 (x0 : Nat) (s0 : Nat) (s1 : Int32) (h : MH) : ev M_Mo_unit 0 146 [some (.ref x0), none, none] [(.int s1), (.ref s0)] h =
    isC h s0 13 (rV (ev M_Mo_keepLays 0 0 [some (.ref s0), some (.int s1)] [] h) fun h1 =>
    isC h1 x0 13 (rV (ev M_Mo_goOn 0 0 [some (.ref x0), none] [] h1) fun h2 =>
    some (none, h2))) := (ev_eq _ _ _ _ _ _).trans rfl
set_option maxRecDepth 100000 in
set_option maxHeartbeats 4000000 in
theorem r_Mo_signHere_0 (x0 : Nat) (h : MH) : ev M_Mo_signHere 0 0 [some (.ref x0)] [] h =
    isC h x0 13 (rI (ev M_Mo_isWord 0 0 [some (.ref x0), some (.long (lN 6385252)), none] [] h) fun y2 h1 =>
    br (y2 = (nI 0))
      (isC h1 x0 13 (rI (ev M_Mo_isWord 0 0 [some (.ref x0), some (.long (lN 28530)), none] [] h1) fun y4 h3 =>
       br (y4 = (nI 0))
         (isC h3 x0 13 (rI (ev M_Mo_isMark 0 0 [some (.ref x0), some (.int (nI 60))] [] h3) fun y6 h5 =>
          br (y6 = (nI 0))
            (isC h5 x0 13 (rI (ev M_Mo_isMark 0 0 [some (.ref x0), some (.int (nI 62))] [] h5) fun y8 h7 =>
             br (y8 = (nI 0))
               (isC h7 x0 13 (rI (ev M_Mo_isMark 0 0 [some (.ref x0), some (.int (nI 61))] [] h7) fun y10 h9 =>
                br (y10 = (nI 0))
                  (isC h9 x0 13 (rI (ev M_Mo_isMark 0 0 [some (.ref x0), some (.int (nI 43))] [] h9) fun y12 h11 =>
                   br (y12 = (nI 0))
                     (isC h11 x0 13 (rI (ev M_Mo_isMark 0 0 [some (.ref x0), some (.int (nI 45))] [] h11) fun y14 h13 =>
                      br (y14 = (nI 0))
                        (isC h13 x0 13 (rI (ev M_Mo_isMark 0 0 [some (.ref x0), some (.int (nI 42))] [] h13) fun y16 h15 =>
                         br (y16 = (nI 0))
                           (isC h15 x0 13 (rI (ev M_Mo_isMark 0 0 [some (.ref x0), some (.int (nI 47))] [] h15) fun y18 h17 =>
                            br (y18 = (nI 0))
                              (isC h17 x0 13 (rI (ev M_Mo_isMark 0 0 [some (.ref x0), some (.int (nI 37))] [] h17) fun y20 h19 =>
                               br (y20 = (nI 0))
                                 (some (some (.int (mI 1)), h19))
                                 (some (some (.int (mI 24)), h19))))
                              (some (some (.int (mI 23)), h17))))
                           (some (some (.int (mI 22)), h15))))
                        (ev M_Mo_signHere 0 53 [some (.ref x0)] [] h13)))
                     (ev M_Mo_signHere 0 53 [some (.ref x0)] [] h11)))
                  (ev M_Mo_signHere 0 30 [some (.ref x0)] [] h9)))
               (ev M_Mo_signHere 0 30 [some (.ref x0)] [] h7)))
            (ev M_Mo_signHere 0 30 [some (.ref x0)] [] h5)))
         (ev M_Mo_signHere 0 9 [some (.ref x0)] [] h3)))
      (ev M_Mo_signHere 0 9 [some (.ref x0)] [] h1)) := (ev_eq _ _ _ _ _ _).trans rfl
theorem r_Mo_signHere_9 (x0 : Nat) (h : MH) : ev M_Mo_signHere 0 9 [some (.ref x0)] [] h =
    isC h x0 13 (rI (ev M_Mo_isWord 0 0 [some (.ref x0), some (.long (lN 6385252)), none] [] h) fun y2 h1 =>
    br (y2 = (nI 0))
      (some (some (.int (mI 29)), h1))
      (some (some (.int (mI 28)), h1))) := (ev_eq _ _ _ _ _ _).trans rfl
theorem r_Mo_signHere_30 (x0 : Nat) (h : MH) : ev M_Mo_signHere 0 30 [some (.ref x0)] [] h =
    isC h x0 13 (rI (ev M_Mo_isMark 0 0 [some (.ref x0), some (.int (nI 60))] [] h) fun y2 h1 =>
    br (y2 = (nI 0))
      (isC h1 x0 13 (rI (ev M_Mo_isMark 0 0 [some (.ref x0), some (.int (nI 62))] [] h1) fun y4 h3 =>
       br (y4 = (nI 0))
         (some (some (.int (mI 27)), h3))
         (some (some (.int (mI 26)), h3))))
      (some (some (.int (mI 25)), h1))) := (ev_eq _ _ _ _ _ _).trans rfl
theorem r_Mo_signHere_53 (x0 : Nat) (h : MH) : ev M_Mo_signHere 0 53 [some (.ref x0)] [] h =
    isC h x0 13 (rI (ev M_Mo_isMark 0 0 [some (.ref x0), some (.int (nI 43))] [] h) fun y2 h1 =>
    br (y2 = (nI 0))
      (some (some (.int (mI 21)), h1))
      (some (some (.int (mI 20)), h1))) := (ev_eq _ _ _ _ _ _).trans rfl
theorem r_Mo_formula_0 (x0 : Nat) (h : MH) : ev M_Mo_formula 0 0 [some (.ref x0), none, none] [] h =
    isC h x0 13 (
    let h1 := sI h x0 32 (nI 0)
    isC h1 x0 13 (
    let h2 := sI h1 x0 33 (nI 0)
    isC h2 x0 13 (rV (ev M_Mo_unit 0 0 [some (.ref x0), none, none] [] h2) fun h3 =>
    ev M_Mo_formula 0 11 [some (.ref x0), some (.int (nI 1)), none] [] h3))) := (ev_eq _ _ _ _ _ _).trans rfl
set_option maxRecDepth 100000 in
set_option maxHeartbeats 4000000 in
theorem r_Mo_formula_11 (x0 : Nat) (x1 : Int32) (h : MH) : ev M_Mo_formula 0 11 [some (.ref x0), some (.int x1), none] [] h =
    br (x1 = (nI 0))
      (ev M_Mo_formula 0 83 [some (.ref x0), none, none] [] h)
      (isC h x0 13 (rI (ev M_Mo_isGood 0 0 [some (.ref x0)] [] h) fun y2 h1 =>
       br (y2 = (nI 0))
         (ev M_Mo_formula 0 83 [some (.ref x0), none, none] [] h1)
         (isC h1 x0 13 (rI (ev M_Mo_signHere 0 0 [some (.ref x0)] [] h1) fun y4 h3 =>
          isC h3 x0 13 (rI (ev M_Mo_isMark 0 0 [some (.ref x0), some (.int (nI 41))] [] h3) fun y6 h5 =>
          br (y6 = (nI 0))
            (ev M_Mo_formula 0 45 [some (.ref x0), some (.int x1), some (.int y4)] [] h5)
            (isC h5 x0 13 (rI (ev M_Mo_hasBracket 0 0 [some (.ref x0), none, none] [] h5) fun y8 h7 =>
             br (y8 = (nI 0))
               (ev M_Mo_formula 0 45 [some (.ref x0), some (.int x1), some (.int y4)] [] h7)
               (isC h7 x0 13 (rV (ev M_Mo_formulaCloses 0 0 [some (.ref x0), some (.int (nI 1))] [] h7) fun h9 =>
                isC h9 x0 13 (
                isC h9 x0 13 (
                let h10 := sI h9 x0 32 ((hI h9 x0 32) - (nI 1))
                isC h10 x0 13 (
                isC h10 x0 13 (
                let h11 := sI h10 x0 33 ((hI h10 x0 33) - (nI 1))
                isC h11 x0 13 (rV (ev M_Mo_goOn 0 0 [some (.ref x0), none] [] h11) fun h12 =>
                ev M_Mo_formula 0 81 [some (.ref x0), some (.int x1), none] [] h12)))))))))))))) := (ev_eq _ _ _ _ _ _).trans rfl
theorem r_Mo_formula_45 (x0 : Nat) (x1 : Int32) (x2 : Int32) (h : MH) : ev M_Mo_formula 0 45 [some (.ref x0), some (.int x1), some (.int x2)] [] h =
    br (x2 = (mI 1))
      (ev M_Mo_formula 0 78 [some (.ref x0), none, none] [] h)
      (rI (ev M_Mo_boundOf 0 0 [some (.int x2)] [] h) fun y2 h1 =>
       br (y2 = (nI 4))
         (isC h1 x0 13 (rI (ev M_Mo_hasRelation 0 0 [some (.ref x0), none] [] h1) fun y4 h3 =>
          br (y4 = (nI 0))
            (ev M_Mo_formula 0 56 [some (.ref x0), some (.int x1), some (.int x2)] [] h3)
            (ev M_Mo_formula 0 78 [some (.ref x0), none, none] [] h3)))
         (ev M_Mo_formula 0 56 [some (.ref x0), some (.int x1), some (.int x2)] [] h1)) := (ev_eq _ _ _ _ _ _).trans rfl
theorem r_Mo_formula_56 (x0 : Nat) (x1 : Int32) (x2 : Int32) (h : MH) : ev M_Mo_formula 0 56 [some (.ref x0), some (.int x1), some (.int x2)] [] h =
    rI (ev M_Mo_boundOf 0 0 [some (.int x2)] [] h) fun y2 h1 =>
    isC h1 x0 13 (rV (ev M_Mo_formulaCloses 0 0 [some (.ref x0), some (.int y2)] [] h1) fun h3 =>
    isC h3 x0 13 (nnR (hR h3 x0 31) fun r4 =>
    isC h3 x0 13 (
    isC h3 r4 20 (inA h3 r4 (hI h3 x0 32) (
    let h5 := sI h3 r4 (Int32.toNatClampNeg (hI h3 x0 32)) x2
    isC h5 x0 13 (
    isC h5 x0 13 (
    let h6 := sI h5 x0 32 ((hI h5 x0 32) + (nI 1))
    isC h6 x0 13 (rV (ev M_Mo_goOn 0 0 [some (.ref x0), none] [] h6) fun h7 =>
    isC h7 x0 13 (rV (ev M_Mo_unit 0 0 [some (.ref x0), none, none] [] h7) fun h8 =>
    ev M_Mo_formula 0 81 [some (.ref x0), some (.int x1), none] [] h8))))))))) := (ev_eq _ _ _ _ _ _).trans rfl
theorem r_Mo_formula_78 (x0 : Nat) (h : MH) : ev M_Mo_formula 0 78 [some (.ref x0), none, none] [] h =
    ev M_Mo_formula 0 81 [some (.ref x0), some (.int (nI 0)), none] [] h := (ev_eq _ _ _ _ _ _).trans rfl
theorem r_Mo_formula_81 (x0 : Nat) (x1 : Int32) (h : MH) : ev M_Mo_formula 0 81 [some (.ref x0), some (.int x1), none] [] h =
    ev M_Mo_formula 0 11 [some (.ref x0), some (.int x1), none] [] h := (ev_eq _ _ _ _ _ _).trans rfl
theorem r_Mo_formula_83 (x0 : Nat) (h : MH) : ev M_Mo_formula 0 83 [some (.ref x0), none, none] [] h =
    isC h x0 13 (rI (ev M_Mo_isGood 0 0 [some (.ref x0)] [] h) fun y2 h1 =>
    br (y2 = (nI 0))
      (ev M_Mo_formula 0 93 [some (.ref x0), none, none] [] h1)
      (isC h1 x0 13 (rI (ev M_Mo_hasBracket 0 0 [some (.ref x0), none, none] [] h1) fun y4 h3 =>
       br (y4 = (nI 0))
         (ev M_Mo_formula 0 93 [some (.ref x0), none, none] [] h3)
         (isC h3 x0 13 (rV (ev M_Mo_wrong 0 0 [some (.ref x0), some (.int (nI 2))] [] h3) fun h5 =>
          ev M_Mo_formula 0 93 [some (.ref x0), none, none] [] h5))))) := (ev_eq _ _ _ _ _ _).trans rfl
theorem r_Mo_formula_93 (x0 : Nat) (h : MH) : ev M_Mo_formula 0 93 [some (.ref x0), none, none] [] h =
    isC h x0 13 (rI (ev M_Mo_isGood 0 0 [some (.ref x0)] [] h) fun y2 h1 =>
    br (y2 = (nI 0))
      (some (none, h1))
      (isC h1 x0 13 (rV (ev M_Mo_formulaCloses 0 0 [some (.ref x0), some (.int (nI 1))] [] h1) fun h3 =>
       some (none, h3)))) := (ev_eq _ _ _ _ _ _).trans rfl
theorem r_Mo_pairs_0 (x0 : Nat) (x1 : Int32) (h : MH) : ev M_Mo_pairs 0 0 [some (.ref x0), some (.int x1), none, none, none] [] h =
    ev M_Mo_pairs 0 3 [some (.ref x0), some (.int x1), some (.int (nI 0)), none, none] [] h := (ev_eq _ _ _ _ _ _).trans rfl
theorem r_Mo_pairs_3 (x0 : Nat) (x1 : Int32) (x2 : Int32) (h : MH) : ev M_Mo_pairs 0 3 [some (.ref x0), some (.int x1), some (.int x2), none, none] [] h =
    isC h x0 13 (rI (ev M_Mo_isGood 0 0 [some (.ref x0)] [] h) fun y2 h1 =>
    br (y2 = (nI 0))
      (some (none, h1))
      (isC h1 x0 13 (
       br ((hI h1 x0 5) = (nI 2))
         (br (x2 = (nI 40))
            (isC h1 x0 13 (rV (ev M_Mo_wrong 0 0 [some (.ref x0), some (.int (nI 2))] [] h1) fun h3 =>
             ev M_Mo_pairs 0 17 [some (.ref x0), some (.int x1), some (.int x2), none, none] [] h3))
            (ev M_Mo_pairs 0 17 [some (.ref x0), some (.int x1), some (.int x2), none, none] [] h1))
         (some (none, h1))))) := (ev_eq _ _ _ _ _ _).trans rfl
set_option maxRecDepth 100000 in
set_option maxHeartbeats 4000000 in
theorem r_Mo_pairs_17 (x0 : Nat) (x1 : Int32) (x2 : Int32) (h : MH) : ev M_Mo_pairs 0 17 [some (.ref x0), some (.int x1), some (.int x2), none, none] [] h =
    isC h x0 13 (rI (ev M_Mo_sizeOf 0 0 [some (.ref x0), some (.int (nI 1))] [] h) fun y2 h1 =>
    isC h1 x0 13 (rI (ev M_Mo_number 0 0 [some (.ref x0), some (.int (nI 0)), some (.int (y2 - (nI 1))), none] [] h1) fun y4 h3 =>
    isC h3 x0 13 (rI (ev M_Mo_sizeOf 0 0 [some (.ref x0), some (.int (nI 1))] [] h3) fun y6 h5 =>
    isC h5 x0 13 (rI (ev M_Mo_number 0 0 [some (.ref x0), some (.int (nI 0)), some (.int (y6 - (nI 1))), none] [] h5) fun y8 h7 =>
    isC h7 x0 13 (rI (ev M_Mo_isGood 0 0 [some (.ref x0)] [] h7) fun y10 h9 =>
    br (y10 = (nI 0))
      (ev M_Mo_pairs 0 55 [some (.ref x0), some (.int x1), some (.int x2), none, none] [] h9)
      (isC h9 x0 13 (nnR (hR h9 x0 22) fun r11 =>
       isC h9 r11 20 (inA h9 r11 (((nI 80) + ((nI 16) * x1)) + y4) (
       isC h9 r11 20 (inA h9 r11 (((nI 80) + ((nI 16) * x1)) + y4) (
       let h12 := sI h9 r11 (Int32.toNatClampNeg (((nI 80) + ((nI 16) * x1)) + y4)) ((hI h9 r11 (Int32.toNatClampNeg (((nI 80) + ((nI 16) * x1)) + y4))) ||| ((nI 1) <<< (y8 &&& 31)))
       ev M_Mo_pairs 0 55 [some (.ref x0), some (.int x1), some (.int x2), none, none] [] h12))))))))))) := (ev_eq _ _ _ _ _ _).trans rfl
theorem r_Mo_pairs_55 (x0 : Nat) (x1 : Int32) (x2 : Int32) (h : MH) : ev M_Mo_pairs 0 55 [some (.ref x0), some (.int x1), some (.int x2), none, none] [] h =
    ev M_Mo_pairs 0 3 [some (.ref x0), some (.int x1), some (.int (x2 + (nI 1))), none, none] [] h := (ev_eq _ _ _ _ _ _).trans rfl
theorem r_Mo_relation1_0 (x0 : Nat) (h : MH) : ev M_Mo_relation1 0 0 [some (.ref x0), none, none, none, none] [] h =
    isC h x0 13 (nnR (hR h x0 13) fun r1 =>
    isC h r1 20 (inA h r1 (nI 1) (
    isC h x0 13 (
    br ((hI h x0 5) = (nI 1))
      (isC h x0 13 (rI (ev M_Mo_isOwn 0 0 [some (.ref x0)] [] h) fun y3 h2 =>
       br (y3 = (nI 0))
         (isC h2 x0 13 (
          isC h2 x0 13 (rI (ev M_Mo_relNamed 0 0 [some (.ref x0), some (.long (hL h2 x0 11)), none, none] [] h2) fun y5 h4 =>
          br (y5 = (mI 1))
            (ev M_Mo_relation1 0 27 [some (.ref x0), some (.int (hI h r1 (Int32.toNatClampNeg (nI 1)))), none, none, none] [] h4)
            (isC h4 x0 13 (rV (ev M_Mo_wrong 0 0 [some (.ref x0), some (.int (nI 3))] [] h4) fun h6 =>
             ev M_Mo_relation1 0 27 [some (.ref x0), some (.int (hI h r1 (Int32.toNatClampNeg (nI 1)))), none, none, none] [] h6)))))
         (ev M_Mo_relation1 0 13 [some (.ref x0), some (.int (hI h r1 (Int32.toNatClampNeg (nI 1)))), none, none, none] [] h2)))
      (ev M_Mo_relation1 0 13 [some (.ref x0), some (.int (hI h r1 (Int32.toNatClampNeg (nI 1)))), none, none, none] [] h))))) := (ev_eq _ _ _ _ _ _).trans rfl
theorem r_Mo_relation1_13 (x0 : Nat) (x1 : Int32) (h : MH) : ev M_Mo_relation1 0 13 [some (.ref x0), some (.int x1), none, none, none] [] h =
    isC h x0 13 (rV (ev M_Mo_wrong 0 0 [some (.ref x0), some (.int (nI 2))] [] h) fun h1 =>
    ev M_Mo_relation1 0 27 [some (.ref x0), some (.int x1), none, none, none] [] h1) := (ev_eq _ _ _ _ _ _).trans rfl
theorem r_Mo_relation1_27 (x0 : Nat) (x1 : Int32) (h : MH) : ev M_Mo_relation1 0 27 [some (.ref x0), some (.int x1), none, none, none] [] h =
    isC h x0 13 (
    br ((nI 0) < (hI h x0 7))
      (some (none, h))
      (isC h x0 13 (
       isC h x0 13 (rV (ev M_Mo_goOn 0 0 [some (.ref x0), none] [] h) fun h1 =>
       ev M_Mo_relation1 0 39 [some (.ref x0), some (.int x1), some (.long (hL h x0 11)), none, some (.int (nI 0))] [] h1)))) := (ev_eq _ _ _ _ _ _).trans rfl
set_option maxRecDepth 100000 in
set_option maxHeartbeats 4000000 in
theorem r_Mo_relation1_39 (x0 : Nat) (x1 : Int32) (x2 : Int64) (x4 : Int32) (h : MH) : ev M_Mo_relation1 0 39 [some (.ref x0), some (.int x1), some (.long x2), none, some (.int x4)] [] h =
    br (x4 < (nI 16))
      (isC h x0 13 (nnR (hR h x0 22) fun r1 =>
       isC h r1 20 (inA h r1 (((nI 80) + ((nI 16) * x1)) + x4) (
       let h2 := sI h r1 (Int32.toNatClampNeg (((nI 80) + ((nI 16) * x1)) + x4)) (nI 0)
       ev M_Mo_relation1 0 39 [some (.ref x0), some (.int x1), some (.long x2), none, some (.int (x4 + (nI 1)))] [] h2))))
      (isC h x0 13 (nnR (hR h x0 20) fun r3 =>
       isC h x0 13 (
       isC h r3 20 (inA h r3 ((nI 5) + x1) (
       let h4 := sI h r3 (Int32.toNatClampNeg ((nI 5) + x1)) (hI h x0 25)
       isC h4 x0 13 (nnR (hR h4 x0 19) fun r5 =>
       isC h4 r5 20 (inA h4 r5 ((nI 5) + x1) (
       let h6 := sI h4 r5 (Int32.toNatClampNeg ((nI 5) + x1)) (nI 0)
       isC h6 x0 13 (rI (ev M_Mo_takes 0 0 [some (.ref x0), some (.long (lN 6840691)), none] [] h6) fun y8 h7 =>
       br (y8 = (nI 0))
         (isC h7 x0 13 (rI (ev M_Mo_takes 0 0 [some (.ref x0), some (.long (lN 26995)), none] [] h7) fun y10 h9 =>
          br (y10 = (nI 0))
            (isC h9 x0 13 (rV (ev M_Mo_wrong 0 0 [some (.ref x0), some (.int (nI 2))] [] h9) fun h11 =>
             ev M_Mo_relation1 0 96 [some (.ref x0), some (.int x1), some (.long x2), none, none] [] h11))
            (isC h9 x0 13 (rV (ev M_Mo_x 0 0 [some (.ref x0), none, none] [] h9) fun h12 =>
             ev M_Mo_relation1 0 96 [some (.ref x0), some (.int x1), some (.long x2), none, none] [] h12))))
         (isC h7 x0 13 (nnR (hR h7 x0 19) fun r13 =>
          isC h7 r13 20 (inA h7 r13 ((nI 5) + x1) (
          let h14 := sI h7 r13 (Int32.toNatClampNeg ((nI 5) + x1)) (nI 1)
          isC h14 x0 13 (rV (ev M_Mo_pairs 0 0 [some (.ref x0), some (.int x1), none, none, none] [] h14) fun h15 =>
          ev M_Mo_relation1 0 96 [some (.ref x0), some (.int x1), some (.long x2), none, none] [] h15)))))))))))))) := (ev_eq _ _ _ _ _ _).trans rfl
theorem r_Mo_relation1_96 (x0 : Nat) (x1 : Int32) (x2 : Int64) (h : MH) : ev M_Mo_relation1 0 96 [some (.ref x0), some (.int x1), some (.long x2), none, none] [] h =
    isC h x0 13 (nnR (hR h x0 21) fun r1 =>
    isC h x0 13 (
    isC h x0 13 (nnR (hR h x0 20) fun r2 =>
    isC h r2 20 (inA h r2 ((nI 5) + x1) (
    isC h r1 20 (inA h r1 ((nI 5) + x1) (
    let h3 := sI h r1 (Int32.toNatClampNeg ((nI 5) + x1)) ((hI h x0 25) - (hI h r2 (Int32.toNatClampNeg ((nI 5) + x1))))
    isC h3 x0 13 (nnR (hR h3 x0 18) fun r4 =>
    isC h3 r4 22 (inA h3 r4 ((nI 5) + x1) (
    let h5 := sL h3 r4 (Int32.toNatClampNeg ((nI 5) + x1)) x2
    isC h5 x0 13 (nnR (hR h5 x0 13) fun r6 =>
    isC h5 r6 20 (inA h5 r6 (nI 1) (
    isC h5 r6 20 (inA h5 r6 (nI 1) (
    let h7 := sI h5 r6 (Int32.toNatClampNeg (nI 1)) ((hI h5 r6 (Int32.toNatClampNeg (nI 1))) + (nI 1))
    some (none, h7)))))))))))))))) := (ev_eq _ _ _ _ _ _).trans rfl
theorem r_Mo_line_0 (x0 : Nat) (h : MH) : ev M_Mo_line 0 0 [some (.ref x0)] [] h =
    isC h x0 13 (rI (ev M_Mo_isWord 0 0 [some (.ref x0), some (.long (lN 119183033855091)), none] [] h) fun y2 h1 =>
    br (y2 = (nI 0))
      (ev M_Mo_line 0 27 [some (.ref x0)] [] h1)
      (isC h1 x0 13 (
       br ((hI h1 x0 27) = (nI 0))
         (isC h1 x0 13 (nnR (hR h1 x0 13) fun r3 =>
          isC h1 r3 20 (inA h1 r3 (nI 1) (
          br ((hI h1 r3 (Int32.toNatClampNeg (nI 1))) = (nI 0))
            (isC h1 x0 13 (
             isZ (nI 1) (let h4 := sI h1 x0 27 (nI 1)
             isC h4 x0 13 (rV (ev M_Mo_goOn 0 0 [some (.ref x0), none] [] h4) fun h5 =>
             isC h5 x0 13 (nnR (hR h5 x0 12) fun r6 =>
             isC h5 x0 13 (rI (ev M_Mo_number 0 0 [some (.ref x0), some (.int (nI 1)), some (.int (nI 4)), none] [] h5) fun y8 h7 =>
             isC h7 r6 20 (inA h7 r6 (nI 1) (
             let h9 := sI h7 r6 (Int32.toNatClampNeg (nI 1)) y8
             ev M_Mo_line 0 107 [some (.ref x0)] [] h9))))))))
            (ev M_Mo_line 0 27 [some (.ref x0)] [] h1)))))
         (ev M_Mo_line 0 27 [some (.ref x0)] [] h1)))) := (ev_eq _ _ _ _ _ _).trans rfl
theorem r_Mo_line_27 (x0 : Nat) (h : MH) : ev M_Mo_line 0 27 [some (.ref x0)] [] h =
    isC h x0 13 (rI (ev M_Mo_isWord 0 0 [some (.ref x0), some (.long (lN 7497068)), none] [] h) fun y2 h1 =>
    br (y2 = (nI 0))
      (ev M_Mo_line 0 43 [some (.ref x0)] [] h1)
      (isC h1 x0 13 (nnR (hR h1 x0 13) fun r3 =>
       isC h1 r3 20 (inA h1 r3 (nI 1) (
       br ((hI h1 r3 (Int32.toNatClampNeg (nI 1))) < (nI 5))
         (isC h1 x0 13 (rV (ev M_Mo_goOn 0 0 [some (.ref x0), none] [] h1) fun h4 =>
          isC h4 x0 13 (rV (ev M_Mo_relation1 0 0 [some (.ref x0), none, none, none, none] [] h4) fun h5 =>
          ev M_Mo_line 0 107 [some (.ref x0)] [] h5)))
         (ev M_Mo_line 0 43 [some (.ref x0)] [] h1)))))) := (ev_eq _ _ _ _ _ _).trans rfl
theorem r_Mo_line_43 (x0 : Nat) (h : MH) : ev M_Mo_line 0 43 [some (.ref x0)] [] h =
    isC h x0 13 (rI (ev M_Mo_isWord 0 0 [some (.ref x0), some (.long (lN 1801807216)), none] [] h) fun y2 h1 =>
    br (y2 = (nI 0))
      (ev M_Mo_line 0 59 [some (.ref x0)] [] h1)
      (isC h1 x0 13 (
       br ((hI h1 x0 28) = (nI 0))
         (isC h1 x0 13 (
          isZ (nI 1) (let h3 := sI h1 x0 28 (nI 1)
          isC h3 x0 13 (rV (ev M_Mo_goOn 0 0 [some (.ref x0), none] [] h3) fun h4 =>
          isC h4 x0 13 (rV (ev M_Mo_formula 0 0 [some (.ref x0), none, none] [] h4) fun h5 =>
          ev M_Mo_line 0 107 [some (.ref x0)] [] h5)))))
         (ev M_Mo_line 0 59 [some (.ref x0)] [] h1)))) := (ev_eq _ _ _ _ _ _).trans rfl
theorem r_Mo_line_59 (x0 : Nat) (h : MH) : ev M_Mo_line 0 59 [some (.ref x0)] [] h =
    isC h x0 13 (rI (ev M_Mo_isWord 0 0 [some (.ref x0), some (.long (lN 431416239732)), none] [] h) fun y2 h1 =>
    br (y2 = (nI 0))
      (ev M_Mo_line 0 81 [some (.ref x0)] [] h1)
      (isC h1 x0 13 (
       br ((hI h1 x0 29) = (nI 0))
         (isC h1 x0 13 (
          isZ (nI 1) (let h3 := sI h1 x0 29 (nI 1)
          isC h3 x0 13 (rV (ev M_Mo_goOn 0 0 [some (.ref x0), none] [] h3) fun h4 =>
          isC h4 x0 13 (nnR (hR h4 x0 14) fun r5 =>
          isC h4 x0 13 (rI (ev M_Mo_number 0 0 [some (.ref x0), some (.int (nI 0)), some (.int (nI 100)), none] [] h4) fun y7 h6 =>
          isC h6 r5 20 (inA h6 r5 (nI 1) (
          let h8 := sI h6 r5 (Int32.toNatClampNeg (nI 1)) y7
          ev M_Mo_line 0 107 [some (.ref x0)] [] h8))))))))
         (ev M_Mo_line 0 81 [some (.ref x0)] [] h1)))) := (ev_eq _ _ _ _ _ _).trans rfl
theorem r_Mo_line_81 (x0 : Nat) (h : MH) : ev M_Mo_line 0 81 [some (.ref x0)] [] h =
    isC h x0 13 (rI (ev M_Mo_isWord 0 0 [some (.ref x0), some (.long (lN 1685217655)), none] [] h) fun y2 h1 =>
    br (y2 = (nI 0))
      (ev M_Mo_line 0 103 [some (.ref x0)] [] h1)
      (isC h1 x0 13 (
       br ((hI h1 x0 30) = (nI 0))
         (isC h1 x0 13 (
          isZ (nI 1) (let h3 := sI h1 x0 30 (nI 1)
          isC h3 x0 13 (rV (ev M_Mo_goOn 0 0 [some (.ref x0), none] [] h3) fun h4 =>
          isC h4 x0 13 (nnR (hR h4 x0 15) fun r5 =>
          isC h4 x0 13 (rI (ev M_Mo_number 0 0 [some (.ref x0), some (.int (nI 0)), some (.int (nI 999)), none] [] h4) fun y7 h6 =>
          isC h6 r5 20 (inA h6 r5 (nI 1) (
          let h8 := sI h6 r5 (Int32.toNatClampNeg (nI 1)) y7
          ev M_Mo_line 0 107 [some (.ref x0)] [] h8))))))))
         (ev M_Mo_line 0 103 [some (.ref x0)] [] h1)))) := (ev_eq _ _ _ _ _ _).trans rfl
theorem r_Mo_line_103 (x0 : Nat) (h : MH) : ev M_Mo_line 0 103 [some (.ref x0)] [] h =
    isC h x0 13 (rV (ev M_Mo_wrong 0 0 [some (.ref x0), some (.int (nI 2))] [] h) fun h1 =>
    ev M_Mo_line 0 107 [some (.ref x0)] [] h1) := (ev_eq _ _ _ _ _ _).trans rfl
theorem r_Mo_line_107 (x0 : Nat) (h : MH) : ev M_Mo_line 0 107 [some (.ref x0)] [] h =
    isC h x0 13 (rV (ev M_Mo_needsMark 0 0 [some (.ref x0), some (.int (nI 59))] [] h) fun h1 =>
    some (none, h1)) := (ev_eq _ _ _ _ _ _).trans rfl
set_option maxRecDepth 100000 in
set_option maxHeartbeats 4000000 in
theorem r_Mo_readAll_0 (x0 : Nat) (h : MH) : ev M_Mo_readAll 0 0 [some (.ref x0)] [] h =
    isC h x0 13 (
    isC h x0 13 (
    let h1 := sI h x0 2 (hI h x0 1)
    isC h1 x0 13 (
    let h2 := sI h1 x0 1 (nI 0)
    isC h2 x0 13 (
    let h3 := sI h2 x0 3 (nI 0)
    isC h3 x0 13 (
    let h4 := sI h3 x0 7 (nI 0)
    isC h4 x0 13 (
    let h5 := sI h4 x0 8 (mI 1)
    isC h5 x0 13 (nnR (hR h5 x0 12) fun r6 =>
    isC h5 r6 20 (inA h5 r6 (nI 1) (
    let h7 := sI h5 r6 (Int32.toNatClampNeg (nI 1)) (nI 3)
    isC h7 x0 13 (nnR (hR h7 x0 13) fun r8 =>
    isC h7 r8 20 (inA h7 r8 (nI 1) (
    let h9 := sI h7 r8 (Int32.toNatClampNeg (nI 1)) (nI 0)
    isC h9 x0 13 (nnR (hR h9 x0 14) fun r10 =>
    isC h9 r10 20 (inA h9 r10 (nI 1) (
    let h11 := sI h9 r10 (Int32.toNatClampNeg (nI 1)) (nI 0)
    isC h11 x0 13 (nnR (hR h11 x0 15) fun r12 =>
    isC h11 r12 20 (inA h11 r12 (nI 1) (
    let h13 := sI h11 r12 (Int32.toNatClampNeg (nI 1)) (nI 0)
    isC h13 x0 13 (nnR (hR h13 x0 16) fun r14 =>
    isC h13 r14 20 (inA h13 r14 (nI 1) (
    let h15 := sI h13 r14 (Int32.toNatClampNeg (nI 1)) (nI 0)
    isC h15 x0 13 (nnR (hR h15 x0 17) fun r16 =>
    isC h15 r16 20 (inA h15 r16 (nI 1) (
    let h17 := sI h15 r16 (Int32.toNatClampNeg (nI 1)) (nI 0)
    isC h17 x0 13 (
    let h18 := sI h17 x0 25 (nI 0)
    isC h18 x0 13 (
    let h19 := sI h18 x0 26 (nI 0)
    isC h19 x0 13 (
    isZ (nI 0) (let h20 := sI h19 x0 27 (nI 0)
    isC h20 x0 13 (
    isZ (nI 0) (let h21 := sI h20 x0 28 (nI 0)
    isC h21 x0 13 (
    isZ (nI 0) (let h22 := sI h21 x0 29 (nI 0)
    isC h22 x0 13 (
    isZ (nI 0) (let h23 := sI h22 x0 30 (nI 0)
    isC h23 x0 13 (rV (ev M_Mo_goOn 0 0 [some (.ref x0), none] [] h23) fun h24 =>
    ev M_Mo_readAll 0 67 [some (.ref x0)] [] h24))))))))))))))))))))))))))))))))))) := (ev_eq _ _ _ _ _ _).trans rfl
theorem r_Mo_readAll_67 (x0 : Nat) (h : MH) : ev M_Mo_readAll 0 67 [some (.ref x0)] [] h =
    isC h x0 13 (rI (ev M_Mo_isGood 0 0 [some (.ref x0)] [] h) fun y2 h1 =>
    br (y2 = (nI 0))
      (some (none, h1))
      (isC h1 x0 13 (
       br ((hI h1 x0 5) = (nI 0))
         (some (none, h1))
         (isC h1 x0 13 (rV (ev M_Mo_line 0 0 [some (.ref x0)] [] h1) fun h3 =>
          ev M_Mo_readAll 0 67 [some (.ref x0)] [] h3))))) := (ev_eq _ _ _ _ _ _).trans rfl
theorem r_Mo_takesHalf_0 (x0 : Nat) (h : MH) : ev M_Mo_takesHalf 0 0 [some (.ref x0), none, none] [] h =
    isC h x0 20 (
    nz (nI 2) (
    ev M_Mo_takesHalf 0 8 [some (.ref x0), some (.int ((nI (hN h x0)) / (nI 2))), some (.int (nI 0))] [] h)) := (ev_eq _ _ _ _ _ _).trans rfl
theorem r_Mo_takesHalf_8 (x0 : Nat) (x1 : Int32) (x2 : Int32) (h : MH) : ev M_Mo_takesHalf 0 8 [some (.ref x0), some (.int x1), some (.int x2)] [] h =
    br (x2 < x1)
      (isC h x0 20 (inA h x0 (x1 + x2) (
       isC h x0 20 (inA h x0 x2 (
       let h1 := sI h x0 (Int32.toNatClampNeg x2) (hI h x0 (Int32.toNatClampNeg (x1 + x2)))
       ev M_Mo_takesHalf 0 8 [some (.ref x0), some (.int x1), some (.int (x2 + (nI 1)))] [] h1)))))
      (some (none, h)) := (ev_eq _ _ _ _ _ _).trans rfl
set_option maxRecDepth 100000 in
set_option maxHeartbeats 4000000 in
theorem r_Mo_store_0 (x0 : Nat) (h : MH) : ev M_Mo_store 0 0 [some (.ref x0), none] [] h =
    isC h x0 13 (rV (ev M_Mo_readAll 0 0 [some (.ref x0)] [] h) fun h1 =>
    isC h1 x0 13 (
    isC h1 x0 13 (
    let h2 := sI h1 x0 9 (hI h1 x0 7)
    isC h2 x0 13 (
    isC h2 x0 13 (
    let h3 := sI h2 x0 10 (hI h2 x0 8)
    isC h3 x0 13 (
    br ((nI 0) < (hI h3 x0 7))
      (some (some (.int (mI 1)), h3))
      (isC h3 x0 13 (nnR (hR h3 x0 12) fun r4 =>
       rV (ev M_Mo_takesHalf 0 0 [some (.ref r4), none, none] [] h3) fun h5 =>
       isC h5 x0 13 (nnR (hR h5 x0 13) fun r6 =>
       rV (ev M_Mo_takesHalf 0 0 [some (.ref r6), none, none] [] h5) fun h7 =>
       isC h7 x0 13 (nnR (hR h7 x0 14) fun r8 =>
       rV (ev M_Mo_takesHalf 0 0 [some (.ref r8), none, none] [] h7) fun h9 =>
       isC h9 x0 13 (nnR (hR h9 x0 15) fun r10 =>
       rV (ev M_Mo_takesHalf 0 0 [some (.ref r10), none, none] [] h9) fun h11 =>
       isC h11 x0 13 (nnR (hR h11 x0 16) fun r12 =>
       rV (ev M_Mo_takesHalf 0 0 [some (.ref r12), none, none] [] h11) fun h13 =>
       isC h13 x0 13 (nnR (hR h13 x0 17) fun r14 =>
       rV (ev M_Mo_takesHalf 0 0 [some (.ref r14), none, none] [] h13) fun h15 =>
       isC h15 x0 13 (nnR (hR h15 x0 19) fun r16 =>
       rV (ev M_Mo_takesHalf 0 0 [some (.ref r16), none, none] [] h15) fun h17 =>
       isC h17 x0 13 (nnR (hR h17 x0 20) fun r18 =>
       rV (ev M_Mo_takesHalf 0 0 [some (.ref r18), none, none] [] h17) fun h19 =>
       isC h19 x0 13 (nnR (hR h19 x0 21) fun r20 =>
       rV (ev M_Mo_takesHalf 0 0 [some (.ref r20), none, none] [] h19) fun h21 =>
       isC h21 x0 13 (nnR (hR h21 x0 22) fun r22 =>
       rV (ev M_Mo_takesHalf 0 0 [some (.ref r22), none, none] [] h21) fun h23 =>
       isC h23 x0 13 (nnR (hR h23 x0 23) fun r24 =>
       rV (ev M_Mo_takesHalf 0 0 [some (.ref r24), none, none] [] h23) fun h25 =>
       isC h25 x0 13 (nnR (hR h25 x0 24) fun r26 =>
       rV (ev M_Mo_takesHalf 0 0 [some (.ref r26), none, none] [] h25) fun h27 =>
       ev M_Mo_store 0 54 [some (.ref x0), some (.int (nI 0))] [] h27))))))))))))))))))) := (ev_eq _ _ _ _ _ _).trans rfl
set_option maxRecDepth 100000 in
set_option maxHeartbeats 4000000 in
theorem r_Mo_store_54 (x0 : Nat) (x1 : Int32) (h : MH) : ev M_Mo_store 0 54 [some (.ref x0), some (.int x1)] [] h =
    br (x1 < (nI 80))
      (isC h x0 13 (nnR (hR h x0 34) fun r1 =>
       isC h x0 13 (nnR (hR h x0 19) fun r2 =>
       nz (nI 16) (
       isC h r2 20 (inA h r2 (x1 / (nI 16)) (
       br ((hI h r2 (Int32.toNatClampNeg (x1 / (nI 16)))) = (nI 1))
         (nz (nI 16) (
          isC h x0 13 (nnR (hR h x0 13) fun r3 =>
          isC h r3 20 (inA h r3 (nI 0) (
          br ((x1 / (nI 16)) < (hI h r3 (Int32.toNatClampNeg (nI 0))))
            (isC h x0 13 (nnR (hR h x0 22) fun r4 =>
             isC h r4 20 (inA h r4 x1 (
             ev M_Mo_store 0 84 [some (.ref x0), some (.int x1)] [(.int (hI h r4 (Int32.toNatClampNeg x1))), (.int x1), (.ref r1)] h))))
            (ev M_Mo_store 0 82 [some (.ref x0), some (.int x1)] [(.int x1), (.ref r1)] h))))))
         (ev M_Mo_store 0 82 [some (.ref x0), some (.int x1)] [(.int x1), (.ref r1)] h)))))))
      (isC h x0 13 (nnR (hR h x0 34) fun r5 =>
       isC h x0 13 (nnR (hR h x0 15) fun r6 =>
       isC h r6 20 (inA h r6 (nI 0) (
       isC h r5 20 (inA h r5 (nI 80) (
       let h7 := sI h r5 (Int32.toNatClampNeg (nI 80)) (hI h r6 (Int32.toNatClampNeg (nI 0)))
       isC h7 x0 13 (
       let h8 := sI h7 x0 36 (nI 0)
       isC h8 x0 13 (
       let h9 := sI h8 x0 37 (nI 0)
       isC h9 x0 13 (
       let h10 := sI h9 x0 57 (nI 0)
       isC h10 x0 13 (
       let h11 := sI h10 x0 50 (nI 0)
       ev M_Mo_store 0 110 [some (.ref x0), some (.int (nI 0))] [] h11))))))))))) := (ev_eq _ _ _ _ _ _).trans rfl
theorem r_Mo_store_82 (x0 : Nat) (x1 : Int32) (s0 : Nat) (s1 : Int32) (h : MH) : ev M_Mo_store 0 82 [some (.ref x0), some (.int x1)] [(.int s1), (.ref s0)] h =
    ev M_Mo_store 0 84 [some (.ref x0), some (.int x1)] [(.int (nI 0)), (.int s1), (.ref s0)] h := (ev_eq _ _ _ _ _ _).trans rfl
theorem r_Mo_store_84 (x0 : Nat) (x1 : Int32) (s0 : Nat) (s1 : Int32) (s2 : Int32) (h : MH) : ev M_Mo_store 0 84 [some (.ref x0), some (.int x1)] [(.int s2), (.int s1), (.ref s0)] h =
    isC h s0 20 (inA h s0 s1 (
    let h1 := sI h s0 (Int32.toNatClampNeg s1) s2
    ev M_Mo_store 0 54 [some (.ref x0), some (.int (x1 + (nI 1)))] [] h1)) := (ev_eq _ _ _ _ _ _).trans rfl
theorem r_Mo_store_110 (x0 : Nat) (x1 : Int32) (h : MH) : ev M_Mo_store 0 110 [some (.ref x0), some (.int x1)] [] h =
    br (x1 < (nI 3))
      (isC h x0 13 (nnR (hR h x0 63) fun r1 =>
       isC h r1 23 (inA h r1 x1 (
       let h2 := sI h r1 (Int32.toNatClampNeg x1) ((nI 0) &&& 1)
       ev M_Mo_store 0 110 [some (.ref x0), some (.int (x1 + (nI 1)))] [] h2))))
      (isC h x0 13 (nnR (hR h x0 13) fun r3 =>
       isC h r3 20 (inA h r3 (nI 0) (
       some (some (.int (hI h r3 (Int32.toNatClampNeg (nI 0)))), h))))) := (ev_eq _ _ _ _ _ _).trans rfl
theorem r_Mo_fault_0 (x0 : Nat) (x1 : Int32) (h : MH) : ev M_Mo_fault 0 0 [some (.ref x0), some (.int x1)] [] h =
    br (x1 = (nI 0))
      (isC h x0 13 (
       some (some (.int (hI h x0 9)), h)))
      (br (x1 = (nI 1))
         (isC h x0 13 (
          some (some (.int (hI h x0 10)), h)))
         (some (some (.int (mI 1)), h))) := (ev_eq _ _ _ _ _ _).trans rfl
theorem r_Mo_wide_0 (x0 : Nat) (h : MH) : ev M_Mo_wide 0 0 [some (.ref x0)] [] h =
    isC h x0 13 (nnR (hR h x0 12) fun r1 =>
    isC h r1 20 (inA h r1 (nI 0) (
    some (some (.int ((nI 1) <<< ((hI h r1 (Int32.toNatClampNeg (nI 0))) &&& 31))), h)))) := (ev_eq _ _ _ _ _ _).trans rfl
theorem r_Mo_everyBit_0 (x0 : Nat) (h : MH) : ev M_Mo_everyBit 0 0 [some (.ref x0)] [] h =
    isC h x0 13 (rI (ev M_Mo_wide 0 0 [some (.ref x0)] [] h) fun y2 h1 =>
    some (some (.int (((nI 1) <<< (y2 &&& 31)) - (nI 1))), h1)) := (ev_eq _ _ _ _ _ _).trans rfl
theorem r_Mo_isRel_0 (x0 : Nat) (x1 : Int32) (h : MH) : ev M_Mo_isRel 0 0 [some (.ref x0), some (.int x1)] [] h =
    isC h x0 13 (nnR (hR h x0 13) fun r1 =>
    isC h r1 20 (inA h r1 (nI 0) (
    rI (ev M_Mo_isIn 0 0 [some (.int x1), some (.int (nI 0)), some (.int ((hI h r1 (Int32.toNatClampNeg (nI 0))) - (nI 1)))] [] h) fun y3 h2 =>
    isZ y3 (some (some (.int y3), h2))))) := (ev_eq _ _ _ _ _ _).trans rfl
theorem r_Mo_isNode_0 (x0 : Nat) (x1 : Int32) (h : MH) : ev M_Mo_isNode 0 0 [some (.ref x0), some (.int x1)] [] h =
    isC h x0 13 (rI (ev M_Mo_wide 0 0 [some (.ref x0)] [] h) fun y2 h1 =>
    rI (ev M_Mo_isIn 0 0 [some (.int x1), some (.int (nI 0)), some (.int (y2 - (nI 1)))] [] h1) fun y4 h3 =>
    isZ y4 (some (some (.int y4), h3))) := (ev_eq _ _ _ _ _ _).trans rfl
theorem r_Mo_pushes_0 (x0 : Nat) (x1 : Int32) (h : MH) : ev M_Mo_pushes 0 0 [some (.ref x0), some (.int x1), none, none] [] h =
    ev M_Mo_pushes 0 3 [some (.ref x0), some (.int x1), some (.int (nI 0)), none] [] h := (ev_eq _ _ _ _ _ _).trans rfl
theorem r_Mo_pushes_3 (x0 : Nat) (x1 : Int32) (x2 : Int32) (h : MH) : ev M_Mo_pushes 0 3 [some (.ref x0), some (.int x1), some (.int x2), none] [] h =
    br (x2 < (nI 16))
      (br (x1 < (nI 5))
         (isC h x0 13 (nnR (hR h x0 38) fun r1 =>
          isC h r1 20 (inA h r1 (((nI 16) * x1) + x2) (
          ev M_Mo_pushes 0 28 [some (.ref x0), some (.int x1), some (.int x2), none] [(.int (hI h r1 (Int32.toNatClampNeg (((nI 16) * x1) + x2))))] h))))
         (br (x1 = (nI 10))
            (ev M_Mo_pushes 0 28 [some (.ref x0), some (.int x1), some (.int x2), none] [(.int ((nI 1) <<< (x2 &&& 31)))] h)
            (isC h x0 13 (rI (ev M_Mo_everyBit 0 0 [some (.ref x0)] [] h) fun y3 h2 =>
             ev M_Mo_pushes 0 28 [some (.ref x0), some (.int x1), some (.int x2), none] [(.int y3)] h2))))
      (isC h x0 13 (
       isC h x0 13 (
       let h4 := sI h x0 42 ((hI h x0 42) + (nI 1))
       some (none, h4)))) := (ev_eq _ _ _ _ _ _).trans rfl
theorem r_Mo_pushes_28 (x0 : Nat) (x1 : Int32) (x2 : Int32) (s0 : Int32) (h : MH) : ev M_Mo_pushes 0 28 [some (.ref x0), some (.int x1), some (.int x2), none] [(.int s0)] h =
    isC h x0 13 (nnR (hR h x0 39) fun r1 =>
    isC h x0 13 (
    isC h x0 13 (rI (ev M_Mo_wide 0 0 [some (.ref x0)] [] h) fun y3 h2 =>
    br (x2 < y3)
      (ev M_Mo_pushes 0 45 [some (.ref x0), some (.int x1), some (.int x2), none] [(.int s0), (.int (((nI 16) * (hI h x0 42)) + x2)), (.ref r1)] h2)
      (ev M_Mo_pushes 0 45 [some (.ref x0), some (.int x1), some (.int x2), none] [(.int (nI 0)), (.int (((nI 16) * (hI h x0 42)) + x2)), (.ref r1)] h2)))) := (ev_eq _ _ _ _ _ _).trans rfl
theorem r_Mo_pushes_45 (x0 : Nat) (x1 : Int32) (x2 : Int32) (s0 : Nat) (s1 : Int32) (s2 : Int32) (h : MH) : ev M_Mo_pushes 0 45 [some (.ref x0), some (.int x1), some (.int x2), none] [(.int s2), (.int s1), (.ref s0)] h =
    isC h s0 20 (inA h s0 s1 (
    let h1 := sI h s0 (Int32.toNatClampNeg s1) s2
    ev M_Mo_pushes 0 3 [some (.ref x0), some (.int x1), some (.int (x2 + (nI 1))), none] [] h1)) := (ev_eq _ _ _ _ _ _).trans rfl
theorem r_Mo_through_0 (x0 : Int32) (x1 : Nat) (x2 : Int32) (h : MH) : ev M_Mo_through 0 0 [some (.int x0), some (.ref x1), some (.int x2), none, none] [] h =
    ev M_Mo_through 0 5 [some (.int x0), some (.ref x1), some (.int x2), some (.int (nI 0)), some (.int (nI 0))] [] h := (ev_eq _ _ _ _ _ _).trans rfl
theorem r_Mo_through_5 (x0 : Int32) (x1 : Nat) (x2 : Int32) (x3 : Int32) (x4 : Int32) (h : MH) : ev M_Mo_through 0 5 [some (.int x0), some (.ref x1), some (.int x2), some (.int x3), some (.int x4)] [] h =
    br (x4 < (nI 16))
      (rI (ev M_Mo_isOf 0 0 [some (.int x0), some (.int x4)] [] h) fun y2 h1 =>
       br (y2 = (nI 0))
         (ev M_Mo_through 0 21 [some (.int x0), some (.ref x1), some (.int x2), some (.int x3), some (.int x4)] [] h1)
         (isC h1 x1 20 (inA h1 x1 (x2 + x4) (
          ev M_Mo_through 0 21 [some (.int x0), some (.ref x1), some (.int x2), some (.int (x3 ||| (hI h1 x1 (Int32.toNatClampNeg (x2 + x4))))), some (.int x4)] [] h1))))
      (some (some (.int x3), h)) := (ev_eq _ _ _ _ _ _).trans rfl
theorem r_Mo_through_21 (x0 : Int32) (x1 : Nat) (x2 : Int32) (x3 : Int32) (x4 : Int32) (h : MH) : ev M_Mo_through 0 21 [some (.int x0), some (.ref x1), some (.int x2), some (.int x3), some (.int x4)] [] h =
    ev M_Mo_through 0 5 [some (.int x0), some (.ref x1), some (.int x2), some (.int x3), some (.int (x4 + (nI 1)))] [] h := (ev_eq _ _ _ _ _ _).trans rfl
theorem r_Mo_turnsBack_0 (x0 : Nat) (x1 : Nat) (x2 : Int32) (h : MH) : ev M_Mo_turnsBack 0 0 [some (.ref x0), some (.ref x1), some (.int x2), none, none] [] h =
    ev M_Mo_turnsBack 0 3 [some (.ref x0), some (.ref x1), some (.int x2), some (.int (nI 0)), none] [] h := (ev_eq _ _ _ _ _ _).trans rfl
theorem r_Mo_turnsBack_3 (x0 : Nat) (x1 : Nat) (x2 : Int32) (x3 : Int32) (h : MH) : ev M_Mo_turnsBack 0 3 [some (.ref x0), some (.ref x1), some (.int x2), some (.int x3), none] [] h =
    br (x3 < (nI 16))
      (isC h x0 13 (nnR (hR h x0 41) fun r1 =>
       isC h r1 20 (inA h r1 x3 (
       let h2 := sI h r1 (Int32.toNatClampNeg x3) (nI 0)
       ev M_Mo_turnsBack 0 3 [some (.ref x0), some (.ref x1), some (.int x2), some (.int (x3 + (nI 1))), none] [] h2))))
      (ev M_Mo_turnsBack 0 16 [some (.ref x0), some (.ref x1), some (.int x2), some (.int (nI 0)), none] [] h) := (ev_eq _ _ _ _ _ _).trans rfl
theorem r_Mo_turnsBack_16 (x0 : Nat) (x1 : Nat) (x2 : Int32) (x3 : Int32) (h : MH) : ev M_Mo_turnsBack 0 16 [some (.ref x0), some (.ref x1), some (.int x2), some (.int x3), none] [] h =
    br (x3 < (nI 16))
      (ev M_Mo_turnsBack 0 22 [some (.ref x0), some (.ref x1), some (.int x2), some (.int x3), some (.int (nI 0))] [] h)
      (ev M_Mo_turnsBack 0 51 [some (.ref x0), some (.ref x1), some (.int x2), some (.int (nI 0)), none] [] h) := (ev_eq _ _ _ _ _ _).trans rfl
theorem r_Mo_turnsBack_22 (x0 : Nat) (x1 : Nat) (x2 : Int32) (x3 : Int32) (x4 : Int32) (h : MH) : ev M_Mo_turnsBack 0 22 [some (.ref x0), some (.ref x1), some (.int x2), some (.int x3), some (.int x4)] [] h =
    br (x4 < (nI 16))
      (isC h x1 20 (inA h x1 (x2 + x3) (
       rI (ev M_Mo_isOf 0 0 [some (.int (hI h x1 (Int32.toNatClampNeg (x2 + x3)))), some (.int x4)] [] h) fun y2 h1 =>
       br (y2 = (nI 0))
         (ev M_Mo_turnsBack 0 44 [some (.ref x0), some (.ref x1), some (.int x2), some (.int x3), some (.int x4)] [] h1)
         (isC h1 x0 13 (nnR (hR h1 x0 41) fun r3 =>
          isC h1 r3 20 (inA h1 r3 x4 (
          isC h1 r3 20 (inA h1 r3 x4 (
          let h4 := sI h1 r3 (Int32.toNatClampNeg x4) ((hI h1 r3 (Int32.toNatClampNeg x4)) ||| ((nI 1) <<< (x3 &&& 31)))
          ev M_Mo_turnsBack 0 44 [some (.ref x0), some (.ref x1), some (.int x2), some (.int x3), some (.int x4)] [] h4)))))))))
      (ev M_Mo_turnsBack 0 16 [some (.ref x0), some (.ref x1), some (.int x2), some (.int (x3 + (nI 1))), none] [] h) := (ev_eq _ _ _ _ _ _).trans rfl
theorem r_Mo_turnsBack_44 (x0 : Nat) (x1 : Nat) (x2 : Int32) (x3 : Int32) (x4 : Int32) (h : MH) : ev M_Mo_turnsBack 0 44 [some (.ref x0), some (.ref x1), some (.int x2), some (.int x3), some (.int x4)] [] h =
    ev M_Mo_turnsBack 0 22 [some (.ref x0), some (.ref x1), some (.int x2), some (.int x3), some (.int (x4 + (nI 1)))] [] h := (ev_eq _ _ _ _ _ _).trans rfl
theorem r_Mo_turnsBack_51 (x0 : Nat) (x1 : Nat) (x2 : Int32) (x3 : Int32) (h : MH) : ev M_Mo_turnsBack 0 51 [some (.ref x0), some (.ref x1), some (.int x2), some (.int x3), none] [] h =
    br (x3 < (nI 16))
      (isC h x0 13 (nnR (hR h x0 41) fun r1 =>
       isC h r1 20 (inA h r1 x3 (
       isC h x1 20 (inA h x1 (x2 + x3) (
       let h2 := sI h x1 (Int32.toNatClampNeg (x2 + x3)) (hI h r1 (Int32.toNatClampNeg x3))
       ev M_Mo_turnsBack 0 51 [some (.ref x0), some (.ref x1), some (.int x2), some (.int (x3 + (nI 1))), none] [] h2))))))
      (some (none, h)) := (ev_eq _ _ _ _ _ _).trans rfl
theorem r_Mo_joined_0 (x0 : Int32) (x1 : Int32) (x2 : Int32) (h : MH) : ev M_Mo_joined 0 0 [some (.int x0), some (.int x1), some (.int x2)] [] h =
    br (x0 = (nI 20))
      (some (some (.int (x1 ||| x2)), h))
      (br (x0 = (nI 22))
         (some (some (.int (x1 &&& x2)), h))
         (some (some (.int (x1 &&& (x2 ^^^ (mI 1)))), h))) := (ev_eq _ _ _ _ _ _).trans rfl
theorem r_Mo_works_0 (x0 : Nat) (x1 : Int32) (h : MH) : ev M_Mo_works 0 0 [some (.ref x0), some (.int x1), none, none, none] [] h =
    br (x1 < (nI 20))
      (isC h x0 13 (rV (ev M_Mo_pushes 0 0 [some (.ref x0), some (.int x1), none, none] [] h) fun h1 =>
       some (none, h1)))
      (br (x1 = (nI 24))
         (isC h x0 13 (nnR (hR h x0 39) fun r2 =>
          isC h x0 13 (
          isC h x0 13 (rV (ev M_Mo_turnsBack 0 0 [some (.ref x0), some (.ref r2), some (.int ((nI 16) * ((hI h x0 42) - (nI 1)))), none, none] [] h) fun h3 =>
          some (none, h3)))))
         (isC h x0 13 (
          isC h x0 13 (
          let h4 := sI h x0 42 ((hI h x0 42) - (nI 1))
          isC h4 x0 13 (
          isC h4 x0 13 (
          ev M_Mo_works 0 42 [some (.ref x0), some (.int x1), some (.int ((nI 16) * ((hI h4 x0 42) - (nI 1)))), some (.int ((nI 16) * (hI h4 x0 42))), some (.int (nI 0))] [] h4)))))) := (ev_eq _ _ _ _ _ _).trans rfl
set_option maxRecDepth 100000 in
set_option maxHeartbeats 4000000 in
theorem r_Mo_works_42 (x0 : Nat) (x1 : Int32) (x2 : Int32) (x3 : Int32) (x4 : Int32) (h : MH) : ev M_Mo_works 0 42 [some (.ref x0), some (.int x1), some (.int x2), some (.int x3), some (.int x4)] [] h =
    br (x4 < (nI 16))
      (isC h x0 13 (nnR (hR h x0 39) fun r1 =>
       br (x1 = (nI 23))
         (isC h x0 13 (nnR (hR h x0 39) fun r2 =>
          isC h r2 20 (inA h r2 (x2 + x4) (
          isC h x0 13 (nnR (hR h x0 39) fun r3 =>
          rI (ev M_Mo_through 0 0 [some (.int (hI h r2 (Int32.toNatClampNeg (x2 + x4)))), some (.ref r3), some (.int x3), none, none] [] h) fun y5 h4 =>
          ev M_Mo_works 0 79 [some (.ref x0), some (.int x1), some (.int x2), some (.int x3), some (.int x4)] [(.int y5), (.int (x2 + x4)), (.ref r1)] h4)))))
         (isC h x0 13 (nnR (hR h x0 39) fun r6 =>
          isC h r6 20 (inA h r6 (x2 + x4) (
          isC h x0 13 (nnR (hR h x0 39) fun r7 =>
          isC h r7 20 (inA h r7 (x3 + x4) (
          rI (ev M_Mo_joined 0 0 [some (.int x1), some (.int (hI h r6 (Int32.toNatClampNeg (x2 + x4)))), some (.int (hI h r7 (Int32.toNatClampNeg (x3 + x4))))] [] h) fun y9 h8 =>
          ev M_Mo_works 0 79 [some (.ref x0), some (.int x1), some (.int x2), some (.int x3), some (.int x4)] [(.int y9), (.int (x2 + x4)), (.ref r1)] h8)))))))))
      (some (none, h)) := (ev_eq _ _ _ _ _ _).trans rfl
theorem r_Mo_works_79 (x0 : Nat) (x1 : Int32) (x2 : Int32) (x3 : Int32) (x4 : Int32) (s0 : Nat) (s1 : Int32) (s2 : Int32) (h : MH) : ev M_Mo_works 0 79 [some (.ref x0), some (.int x1), some (.int x2), some (.int x3), some (.int x4)] [(.int s2), (.int s1), (.ref s0)] h =
    isC h s0 20 (inA h s0 s1 (
    let h1 := sI h s0 (Int32.toNatClampNeg s1) s2
    ev M_Mo_works 0 42 [some (.ref x0), some (.int x1), some (.int x2), some (.int x3), some (.int (x4 + (nI 1)))] [] h1)) := (ev_eq _ _ _ _ _ _).trans rfl
theorem r_Mo_lays2_0 (x0 : Nat) (h : MH) : ev M_Mo_lays2 0 0 [some (.ref x0), none, none] [] h =
    ev M_Mo_lays2 0 3 [some (.ref x0), some (.int (nI 0)), none] [] h := (ev_eq _ _ _ _ _ _).trans rfl
theorem r_Mo_lays2_3 (x0 : Nat) (x1 : Int32) (h : MH) : ev M_Mo_lays2 0 3 [some (.ref x0), some (.int x1), none] [] h =
    isC h x0 13 (nnR (hR h x0 13) fun r1 =>
    isC h r1 20 (inA h r1 (nI 0) (
    br (x1 < (hI h r1 (Int32.toNatClampNeg (nI 0))))
      (isC h x0 13 (
       let h2 := sI h x0 42 (nI 0)
       isC h2 x0 13 (nnR (hR h2 x0 20) fun r3 =>
       isC h2 r3 20 (inA h2 r3 x1 (
       ev M_Mo_lays2 0 18 [some (.ref x0), some (.int x1), some (.int (hI h2 r3 (Int32.toNatClampNeg x1)))] [] h2)))))
      (some (none, h))))) := (ev_eq _ _ _ _ _ _).trans rfl
theorem r_Mo_lays2_18 (x0 : Nat) (x1 : Int32) (x2 : Int32) (h : MH) : ev M_Mo_lays2 0 18 [some (.ref x0), some (.int x1), some (.int x2)] [] h =
    isC h x0 13 (nnR (hR h x0 20) fun r1 =>
    isC h r1 20 (inA h r1 x1 (
    isC h x0 13 (nnR (hR h x0 21) fun r2 =>
    isC h r2 20 (inA h r2 x1 (
    br (x2 < ((hI h r1 (Int32.toNatClampNeg x1)) + (hI h r2 (Int32.toNatClampNeg x1))))
      (isC h x0 13 (nnR (hR h x0 23) fun r3 =>
       isC h r3 20 (inA h r3 x2 (
       isC h x0 13 (rV (ev M_Mo_works 0 0 [some (.ref x0), some (.int (hI h r3 (Int32.toNatClampNeg x2))), none, none, none] [] h) fun h4 =>
       ev M_Mo_lays2 0 18 [some (.ref x0), some (.int x1), some (.int (x2 + (nI 1)))] [] h4)))))
      (ev M_Mo_lays2 0 40 [some (.ref x0), some (.int x1), some (.int (nI 0))] [] h))))))) := (ev_eq _ _ _ _ _ _).trans rfl
theorem r_Mo_lays2_40 (x0 : Nat) (x1 : Int32) (x2 : Int32) (h : MH) : ev M_Mo_lays2 0 40 [some (.ref x0), some (.int x1), some (.int x2)] [] h =
    br (x2 < (nI 16))
      (isC h x0 13 (nnR (hR h x0 38) fun r1 =>
       isC h x0 13 (nnR (hR h x0 19) fun r2 =>
       isC h r2 20 (inA h r2 x1 (
       br ((hI h r2 (Int32.toNatClampNeg x1)) = (nI 1))
         (isC h x0 13 (nnR (hR h x0 34) fun r3 =>
          isC h r3 20 (inA h r3 (((nI 16) * x1) + x2) (
          ev M_Mo_lays2 0 70 [some (.ref x0), some (.int x1), some (.int x2)] [(.int (hI h r3 (Int32.toNatClampNeg (((nI 16) * x1) + x2)))), (.int (((nI 16) * x1) + x2)), (.ref r1)] h))))
         (isC h x0 13 (nnR (hR h x0 39) fun r4 =>
          isC h r4 20 (inA h r4 x2 (
          ev M_Mo_lays2 0 70 [some (.ref x0), some (.int x1), some (.int x2)] [(.int (hI h r4 (Int32.toNatClampNeg x2))), (.int (((nI 16) * x1) + x2)), (.ref r1)] h)))))))))
      (ev M_Mo_lays2 0 3 [some (.ref x0), some (.int (x1 + (nI 1))), none] [] h) := (ev_eq _ _ _ _ _ _).trans rfl
theorem r_Mo_lays2_70 (x0 : Nat) (x1 : Int32) (x2 : Int32) (s0 : Nat) (s1 : Int32) (s2 : Int32) (h : MH) : ev M_Mo_lays2 0 70 [some (.ref x0), some (.int x1), some (.int x2)] [(.int s2), (.int s1), (.ref s0)] h =
    isC h s0 20 (inA h s0 s1 (
    let h1 := sI h s0 (Int32.toNatClampNeg s1) s2
    ev M_Mo_lays2 0 40 [some (.ref x0), some (.int x1), some (.int (x2 + (nI 1)))] [] h1)) := (ev_eq _ _ _ _ _ _).trans rfl
theorem r_Mo_manyIn_0 (x0 : Nat) (x1 : Int32) (h : MH) : ev M_Mo_manyIn 0 0 [some (.ref x0), some (.int x1), none, none] [] h =
    ev M_Mo_manyIn 0 5 [some (.ref x0), some (.int x1), some (.int (nI 0)), some (.int (nI 0))] [] h := (ev_eq _ _ _ _ _ _).trans rfl
theorem r_Mo_manyIn_5 (x0 : Nat) (x1 : Int32) (x2 : Int32) (x3 : Int32) (h : MH) : ev M_Mo_manyIn 0 5 [some (.ref x0), some (.int x1), some (.int x2), some (.int x3)] [] h =
    br (x3 < (nI 16))
      (isC h x0 20 (inA h x0 (x1 + x3) (
       rI (ev M_Mo_bitsIn 0 0 [some (.int (hI h x0 (Int32.toNatClampNeg (x1 + x3)))), none, none] [] h) fun y2 h1 =>
       ev M_Mo_manyIn 0 5 [some (.ref x0), some (.int x1), some (.int (x2 + y2)), some (.int (x3 + (nI 1)))] [] h1)))
      (some (some (.int x2), h)) := (ev_eq _ _ _ _ _ _).trans rfl
theorem r_Mo_pairsAll_0 (x0 : Nat) (h : MH) : ev M_Mo_pairsAll 0 0 [some (.ref x0), none, none] [] h =
    ev M_Mo_pairsAll 0 5 [some (.ref x0), some (.int (nI 0)), some (.int (nI 0))] [] h := (ev_eq _ _ _ _ _ _).trans rfl
theorem r_Mo_pairsAll_5 (x0 : Nat) (x1 : Int32) (x2 : Int32) (h : MH) : ev M_Mo_pairsAll 0 5 [some (.ref x0), some (.int x1), some (.int x2)] [] h =
    isC h x0 13 (nnR (hR h x0 13) fun r1 =>
    isC h r1 20 (inA h r1 (nI 0) (
    br (x2 < (hI h r1 (Int32.toNatClampNeg (nI 0))))
      (isC h x0 13 (nnR (hR h x0 19) fun r2 =>
       isC h r2 20 (inA h r2 x2 (
       br ((hI h r2 (Int32.toNatClampNeg x2)) = (nI 1))
         (isC h x0 13 (nnR (hR h x0 34) fun r3 =>
          rI (ev M_Mo_manyIn 0 0 [some (.ref r3), some (.int ((nI 16) * x2)), none, none] [] h) fun y5 h4 =>
          ev M_Mo_pairsAll 0 27 [some (.ref x0), none, some (.int x2)] [(.int y5), (.int x1)] h4))
         (ev M_Mo_pairsAll 0 27 [some (.ref x0), none, some (.int x2)] [(.int (nI 0)), (.int x1)] h)))))
      (some (some (.int x1), h))))) := (ev_eq _ _ _ _ _ _).trans rfl
theorem r_Mo_pairsAll_27 (x0 : Nat) (x2 : Int32) (s0 : Int32) (s1 : Int32) (h : MH) : ev M_Mo_pairsAll 0 27 [some (.ref x0), none, some (.int x2)] [(.int s1), (.int s0)] h =
    ev M_Mo_pairsAll 0 5 [some (.ref x0), some (.int (s0 + s1)), some (.int (x2 + (nI 1)))] [] h := (ev_eq _ _ _ _ _ _).trans rfl
theorem r_Mo_inBlock_0 (x0 : Nat) (x1 : Int32) (x2 : Int32) (x3 : Int32) (x4 : Int32) (h : MH) : ev M_Mo_inBlock 0 0 [some (.ref x0), some (.int x1), some (.int x2), some (.int x3), some (.int x4), none, none, none] [] h =
    ev M_Mo_inBlock 0 13 [some (.ref x0), some (.int x1), some (.int x2), none, some (.int x4), some (.int (nI 0)), some (.int ((((nI 1) <<< (x4 &&& 31)) - (nI 1)) <<< (x3 &&& 31))), some (.int x2)] [] h := (ev_eq _ _ _ _ _ _).trans rfl
theorem r_Mo_inBlock_13 (x0 : Nat) (x1 : Int32) (x2 : Int32) (x4 : Int32) (x5 : Int32) (x6 : Int32) (x7 : Int32) (h : MH) : ev M_Mo_inBlock 0 13 [some (.ref x0), some (.int x1), some (.int x2), none, some (.int x4), some (.int x5), some (.int x6), some (.int x7)] [] h =
    br (x7 < (x2 + x4))
      (isC h x0 20 (inA h x0 (x1 + x7) (
       rI (ev M_Mo_bitsIn 0 0 [some (.int ((hI h x0 (Int32.toNatClampNeg (x1 + x7))) &&& x6)), none, none] [] h) fun y2 h1 =>
       ev M_Mo_inBlock 0 13 [some (.ref x0), some (.int x1), some (.int x2), none, some (.int x4), some (.int (x5 + y2)), some (.int x6), some (.int (x7 + (nI 1)))] [] h1)))
      (some (some (.int x5), h)) := (ev_eq _ _ _ _ _ _).trans rfl
theorem r_Mo_laysQuarters_0 (x0 : Nat) (x1 : Nat) (x2 : Int32) (x3 : Int32) (x4 : Int32) (x5 : Int32) (h : MH) : ev M_Mo_laysQuarters 0 0 [some (.ref x0), some (.ref x1), some (.int x2), some (.int x3), some (.int x4), some (.int x5), none, none] [] h =
    isC h x0 13 (rI (ev M_Mo_wide 0 0 [some (.ref x0)] [] h) fun y2 h1 =>
    ev M_Mo_laysQuarters 0 8 [some (.ref x0), some (.ref x1), some (.int x2), some (.int x3), some (.int x4), some (.int x5), some (.int (y2 >>> (x3 &&& 31))), some (.int (nI 0))] [] h1) := (ev_eq _ _ _ _ _ _).trans rfl
theorem r_Mo_laysQuarters_8 (x0 : Nat) (x1 : Nat) (x2 : Int32) (x3 : Int32) (x4 : Int32) (x5 : Int32) (x6 : Int32) (x7 : Int32) (h : MH) : ev M_Mo_laysQuarters 0 8 [some (.ref x0), some (.ref x1), some (.int x2), some (.int x3), some (.int x4), some (.int x5), some (.int x6), some (.int x7)] [] h =
    br (x7 < (nI 4))
      (isC h x0 13 (nnR (hR h x0 43) fun r1 =>
       isC h x0 13 (
       isC h r1 20 (inA h r1 (hI h x0 47) (
       let h2 := sI h r1 (Int32.toNatClampNeg (hI h x0 47)) x3
       isC h2 x0 13 (nnR (hR h2 x0 44) fun r3 =>
       isC h2 x0 13 (
       br (x7 < (nI 2))
         (ev M_Mo_laysQuarters 0 29 [some (.ref x0), some (.ref x1), some (.int x2), some (.int x3), some (.int x4), some (.int x5), some (.int x6), some (.int x7)] [(.int (nI 0)), (.int x4), (.int (hI h2 x0 47)), (.ref r3)] h2)
         (ev M_Mo_laysQuarters 0 29 [some (.ref x0), some (.ref x1), some (.int x2), some (.int x3), some (.int x4), some (.int x5), some (.int x6), some (.int x7)] [(.int x6), (.int x4), (.int (hI h2 x0 47)), (.ref r3)] h2))))))))
      (some (none, h)) := (ev_eq _ _ _ _ _ _).trans rfl
theorem r_Mo_laysQuarters_29 (x0 : Nat) (x1 : Nat) (x2 : Int32) (x3 : Int32) (x4 : Int32) (x5 : Int32) (x6 : Int32) (x7 : Int32) (s0 : Nat) (s1 : Int32) (s2 : Int32) (s3 : Int32) (h : MH) : ev M_Mo_laysQuarters 0 29 [some (.ref x0), some (.ref x1), some (.int x2), some (.int x3), some (.int x4), some (.int x5), some (.int x6), some (.int x7)] [(.int s3), (.int s2), (.int s1), (.ref s0)] h =
    isC h s0 20 (inA h s0 s1 (
    let h1 := sI h s0 (Int32.toNatClampNeg s1) (s2 + s3)
    isC h1 x0 13 (nnR (hR h1 x0 45) fun r2 =>
    isC h1 x0 13 (
    nz (nI 2) (
    br ((x7 - x7 / (nI 2) * (nI 2)) = (nI 1))
      (ev M_Mo_laysQuarters 0 45 [some (.ref x0), some (.ref x1), some (.int x2), some (.int x3), some (.int x4), some (.int x5), some (.int x6), some (.int x7)] [(.int x6), (.int x5), (.int (hI h1 x0 47)), (.ref r2)] h1)
      (ev M_Mo_laysQuarters 0 45 [some (.ref x0), some (.ref x1), some (.int x2), some (.int x3), some (.int x4), some (.int x5), some (.int x6), some (.int x7)] [(.int (nI 0)), (.int x5), (.int (hI h1 x0 47)), (.ref r2)] h1)))))) := (ev_eq _ _ _ _ _ _).trans rfl
set_option maxRecDepth 100000 in
set_option maxHeartbeats 4000000 in
theorem r_Mo_laysQuarters_45 (x0 : Nat) (x1 : Nat) (x2 : Int32) (x3 : Int32) (x4 : Int32) (x5 : Int32) (x6 : Int32) (x7 : Int32) (s0 : Nat) (s1 : Int32) (s2 : Int32) (s3 : Int32) (h : MH) : ev M_Mo_laysQuarters 0 45 [some (.ref x0), some (.ref x1), some (.int x2), some (.int x3), some (.int x4), some (.int x5), some (.int x6), some (.int x7)] [(.int s3), (.int s2), (.int s1), (.ref s0)] h =
    isC h s0 20 (inA h s0 s1 (
    let h1 := sI h s0 (Int32.toNatClampNeg s1) (s2 + s3)
    isC h1 x0 13 (nnR (hR h1 x0 46) fun r2 =>
    isC h1 x0 13 (
    isC h1 x0 13 (nnR (hR h1 x0 44) fun r3 =>
    isC h1 x0 13 (
    isC h1 r3 20 (inA h1 r3 (hI h1 x0 47) (
    isC h1 x0 13 (nnR (hR h1 x0 45) fun r4 =>
    isC h1 x0 13 (
    isC h1 r4 20 (inA h1 r4 (hI h1 x0 47) (
    rI (ev M_Mo_inBlock 0 0 [some (.ref x1), some (.int x2), some (.int (hI h1 r3 (Int32.toNatClampNeg (hI h1 x0 47)))), some (.int (hI h1 r4 (Int32.toNatClampNeg (hI h1 x0 47)))), some (.int x6), none, none, none] [] h1) fun y6 h5 =>
    br ((nI 0) < y6)
      (ev M_Mo_laysQuarters 0 70 [some (.ref x0), some (.ref x1), some (.int x2), some (.int x3), some (.int x4), some (.int x5), some (.int x6), some (.int x7)] [(.int (nI 1)), (.int (hI h1 x0 47)), (.ref r2)] h5)
      (ev M_Mo_laysQuarters 0 70 [some (.ref x0), some (.ref x1), some (.int x2), some (.int x3), some (.int x4), some (.int x5), some (.int x6), some (.int x7)] [(.int (nI 0)), (.int (hI h1 x0 47)), (.ref r2)] h5))))))))))))) := (ev_eq _ _ _ _ _ _).trans rfl
theorem r_Mo_laysQuarters_70 (x0 : Nat) (x1 : Nat) (x2 : Int32) (x3 : Int32) (x4 : Int32) (x5 : Int32) (x6 : Int32) (x7 : Int32) (s0 : Nat) (s1 : Int32) (s2 : Int32) (h : MH) : ev M_Mo_laysQuarters 0 70 [some (.ref x0), some (.ref x1), some (.int x2), some (.int x3), some (.int x4), some (.int x5), some (.int x6), some (.int x7)] [(.int s2), (.int s1), (.ref s0)] h =
    isC h s0 20 (inA h s0 s1 (
    let h1 := sI h s0 (Int32.toNatClampNeg s1) s2
    isC h1 x0 13 (
    isC h1 x0 13 (
    let h2 := sI h1 x0 47 ((hI h1 x0 47) + (nI 1))
    ev M_Mo_laysQuarters 0 8 [some (.ref x0), some (.ref x1), some (.int x2), some (.int x3), some (.int x4), some (.int x5), some (.int x6), some (.int (x7 + (nI 1)))] [] h2)))) := (ev_eq _ _ _ _ _ _).trans rfl
theorem r_Mo_laysTree_0 (x0 : Nat) (x1 : Nat) (x2 : Int32) (h : MH) : ev M_Mo_laysTree 0 0 [some (.ref x0), some (.ref x1), some (.int x2), none] [] h =
    isC h x0 13 (
    let h1 := sI h x0 47 (nI 0)
    isC h1 x0 13 (rV (ev M_Mo_laysQuarters 0 0 [some (.ref x0), some (.ref x1), some (.int x2), some (.int (nI 1)), some (.int (nI 0)), some (.int (nI 0)), none, none] [] h1) fun h2 =>
    ev M_Mo_laysTree 0 13 [some (.ref x0), some (.ref x1), some (.int x2), some (.int (nI 0))] [] h2)) := (ev_eq _ _ _ _ _ _).trans rfl
set_option maxRecDepth 100000 in
set_option maxHeartbeats 4000000 in
theorem r_Mo_laysTree_13 (x0 : Nat) (x1 : Nat) (x2 : Int32) (x3 : Int32) (h : MH) : ev M_Mo_laysTree 0 13 [some (.ref x0), some (.ref x1), some (.int x2), some (.int x3)] [] h =
    isC h x0 13 (
    br (x3 < (hI h x0 47))
      (isC h x0 13 (nnR (hR h x0 46) fun r1 =>
       isC h r1 20 (inA h r1 x3 (
       br ((hI h r1 (Int32.toNatClampNeg x3)) = (nI 1))
         (isC h x0 13 (nnR (hR h x0 43) fun r2 =>
          isC h r2 20 (inA h r2 x3 (
          isC h x0 13 (nnR (hR h x0 12) fun r3 =>
          isC h r3 20 (inA h r3 (nI 0) (
          br ((hI h r2 (Int32.toNatClampNeg x3)) < (hI h r3 (Int32.toNatClampNeg (nI 0))))
            (isC h x0 13 (nnR (hR h x0 43) fun r4 =>
             isC h r4 20 (inA h r4 x3 (
             isC h x0 13 (nnR (hR h x0 44) fun r5 =>
             isC h r5 20 (inA h r5 x3 (
             isC h x0 13 (nnR (hR h x0 45) fun r6 =>
             isC h r6 20 (inA h r6 x3 (
             isC h x0 13 (rV (ev M_Mo_laysQuarters 0 0 [some (.ref x0), some (.ref x1), some (.int x2), some (.int ((hI h r4 (Int32.toNatClampNeg x3)) + (nI 1))), some (.int (hI h r5 (Int32.toNatClampNeg x3))), some (.int (hI h r6 (Int32.toNatClampNeg x3))), none, none] [] h) fun h7 =>
             ev M_Mo_laysTree 0 51 [some (.ref x0), some (.ref x1), some (.int x2), some (.int x3)] [] h7)))))))))))
            (ev M_Mo_laysTree 0 51 [some (.ref x0), some (.ref x1), some (.int x2), some (.int x3)] [] h))))))))
         (ev M_Mo_laysTree 0 51 [some (.ref x0), some (.ref x1), some (.int x2), some (.int x3)] [] h)))))
      (some (none, h))) := (ev_eq _ _ _ _ _ _).trans rfl
theorem r_Mo_laysTree_51 (x0 : Nat) (x1 : Nat) (x2 : Int32) (x3 : Int32) (h : MH) : ev M_Mo_laysTree 0 51 [some (.ref x0), some (.ref x1), some (.int x2), some (.int x3)] [] h =
    ev M_Mo_laysTree 0 13 [some (.ref x0), some (.ref x1), some (.int x2), some (.int (x3 + (nI 1)))] [] h := (ev_eq _ _ _ _ _ _).trans rfl
theorem r_Mo_laysRel_0 (x0 : Nat) (x1 : Int32) (h : MH) : ev M_Mo_laysRel 0 0 [some (.ref x0), some (.int x1)] [] h =
    isC h x0 13 (rI (ev M_Mo_isRel 0 0 [some (.ref x0), some (.int x1)] [] h) fun y2 h1 =>
    br (y2 = (nI 0))
      (isZ (nI 0) (some (some (.int (nI 0)), h1)))
      (isC h1 x0 13 (rV (ev M_Mo_lays2 0 0 [some (.ref x0), none, none] [] h1) fun h3 =>
       isC h3 x0 13 (nnR (hR h3 x0 38) fun r4 =>
       isC h3 x0 13 (rV (ev M_Mo_laysTree 0 0 [some (.ref x0), some (.ref r4), some (.int ((nI 16) * x1)), none] [] h3) fun h5 =>
       isZ (nI 1) (some (some (.int (nI 1)), h5))))))) := (ev_eq _ _ _ _ _ _).trans rfl
theorem r_Mo_laysTwo_0 (x0 : Nat) (x1 : Int32) (x2 : Int32) (h : MH) : ev M_Mo_laysTwo 0 0 [some (.ref x0), some (.int x1), some (.int x2)] [] h =
    isC h x0 13 (rI (ev M_Mo_isRel 0 0 [some (.ref x0), some (.int x1)] [] h) fun y2 h1 =>
    br (y2 = (nI 0))
      (isZ (nI 0) (some (some (.int (nI 0)), h1)))
      (isC h1 x0 13 (rI (ev M_Mo_isRel 0 0 [some (.ref x0), some (.int x2)] [] h1) fun y4 h3 =>
       br (y4 = (nI 0))
         (isZ (nI 0) (some (some (.int (nI 0)), h3)))
         (isC h3 x0 13 (rV (ev M_Mo_lays2 0 0 [some (.ref x0), none, none] [] h3) fun h5 =>
          isZ (nI 1) (some (some (.int (nI 1)), h5))))))) := (ev_eq _ _ _ _ _ _).trans rfl
theorem r_Mo_truth_0 (x0 : Int32) (h : MH) : ev M_Mo_truth 0 0 [some (.int x0)] [] h =
    br (x0 = (nI 0))
      (some (some (.int (nI 0)), h))
      (some (some (.int (nI 1)), h)) := (ev_eq _ _ _ _ _ _).trans rfl
set_option maxRecDepth 100000 in
set_option maxHeartbeats 4000000 in
theorem r_Mo_done_0 (x0 : Int32) (x1 : Int32) (x2 : Int32) (h : MH) : ev M_Mo_done 0 0 [some (.int x0), some (.int x1), some (.int x2)] [] h =
    br (x0 = (mI 28))
      (br (x1 = (nI 0))
         (ev M_Mo_done 0 64 [none, none, none] [] h)
         (br (x2 = (nI 0))
            (ev M_Mo_done 0 64 [none, none, none] [] h)
            (ev M_Mo_done 0 66 [none, none, none] [(.int (nI 1))] h)))
      (br (x0 = (mI 27))
      (br (x1 = x2)
         (ev M_Mo_done 0 55 [none, none, none] [(.int (nI 1))] h)
         (ev M_Mo_done 0 55 [none, none, none] [(.int (nI 0))] h))
      (br (x0 = (mI 26))
      (br (x2 < x1)
         (ev M_Mo_done 0 46 [none, none, none] [(.int (nI 1))] h)
         (ev M_Mo_done 0 46 [none, none, none] [(.int (nI 0))] h))
      (br (x0 = (mI 25))
      (br (x1 < x2)
         (ev M_Mo_done 0 37 [none, none, none] [(.int (nI 1))] h)
         (ev M_Mo_done 0 37 [none, none, none] [(.int (nI 0))] h))
      (br (x0 = (mI 24))
      (br (x2 = (nI 0))
         (some (some (.int (nI 0)), h))
         (nz x2 (
          some (some (.int (x1 - x1 / x2 * x2)), h))))
      (br (x0 = (mI 23))
      (br (x2 = (nI 0))
         (some (some (.int (nI 0)), h))
         (nz x2 (
          some (some (.int (x1 / x2)), h))))
      (br (x0 = (mI 22))
      (some (some (.int (x1 * x2)), h))
      (br (x0 = (mI 21))
      (some (some (.int (x1 - x2)), h))
      (br (x0 = (mI 20))
      (some (some (.int (x1 + x2)), h))
      (br (x1 = (nI 0))
         (br (x2 = (nI 0))
            (ev M_Mo_done 0 77 [none, none, none] [(.int (nI 0))] h)
            (ev M_Mo_done 0 73 [none, none, none] [] h))
         (ev M_Mo_done 0 73 [none, none, none] [] h)))))))))) := (ev_eq _ _ _ _ _ _).trans rfl
theorem r_Mo_done_37 (s0 : Int32) (h : MH) : ev M_Mo_done 0 37 [none, none, none] [(.int s0)] h =
    rI (ev M_Mo_truth 0 0 [some (.int s0)] [] h) fun y2 h1 =>
    some (some (.int y2), h1) := (ev_eq _ _ _ _ _ _).trans rfl
theorem r_Mo_done_46 (s0 : Int32) (h : MH) : ev M_Mo_done 0 46 [none, none, none] [(.int s0)] h =
    rI (ev M_Mo_truth 0 0 [some (.int s0)] [] h) fun y2 h1 =>
    some (some (.int y2), h1) := (ev_eq _ _ _ _ _ _).trans rfl
theorem r_Mo_done_55 (s0 : Int32) (h : MH) : ev M_Mo_done 0 55 [none, none, none] [(.int s0)] h =
    rI (ev M_Mo_truth 0 0 [some (.int s0)] [] h) fun y2 h1 =>
    some (some (.int y2), h1) := (ev_eq _ _ _ _ _ _).trans rfl
theorem r_Mo_done_64  (h : MH) : ev M_Mo_done 0 64 [none, none, none] [] h =
    ev M_Mo_done 0 66 [none, none, none] [(.int (nI 0))] h := (ev_eq _ _ _ _ _ _).trans rfl
theorem r_Mo_done_66 (s0 : Int32) (h : MH) : ev M_Mo_done 0 66 [none, none, none] [(.int s0)] h =
    rI (ev M_Mo_truth 0 0 [some (.int s0)] [] h) fun y2 h1 =>
    some (some (.int y2), h1) := (ev_eq _ _ _ _ _ _).trans rfl
theorem r_Mo_done_73  (h : MH) : ev M_Mo_done 0 73 [none, none, none] [] h =
    ev M_Mo_done 0 77 [none, none, none] [(.int (nI 1))] h := (ev_eq _ _ _ _ _ _).trans rfl
theorem r_Mo_done_77 (s0 : Int32) (h : MH) : ev M_Mo_done 0 77 [none, none, none] [(.int s0)] h =
    rI (ev M_Mo_truth 0 0 [some (.int s0)] [] h) fun y2 h1 =>
    some (some (.int y2), h1) := (ev_eq _ _ _ _ _ _).trans rfl
theorem r_Mo_keptBy_0 (x0 : Nat) (x1 : Int32) (x2 : Int32) (x3 : Int32) (h : MH) : ev M_Mo_keptBy 0 0 [some (.ref x0), some (.int x1), some (.int x2), some (.int x3), none, none, none] [] h =
    isC h x0 13 (nnR (hR h x0 16) fun r1 =>
    isC h r1 20 (inA h r1 (nI 0) (
    br ((hI h r1 (Int32.toNatClampNeg (nI 0))) = (nI 0))
      (some (some (.int (nI 1)), h))
      (ev M_Mo_keptBy 0 12 [some (.ref x0), some (.int x1), some (.int x2), some (.int x3), some (.int (nI 0)), some (.int (nI 0)), none] [] h)))) := (ev_eq _ _ _ _ _ _).trans rfl
set_option maxRecDepth 100000 in
set_option maxHeartbeats 4000000 in
theorem r_Mo_keptBy_12 (x0 : Nat) (x1 : Int32) (x2 : Int32) (x3 : Int32) (x4 : Int32) (x5 : Int32) (h : MH) : ev M_Mo_keptBy 0 12 [some (.ref x0), some (.int x1), some (.int x2), some (.int x3), some (.int x4), some (.int x5), none] [] h =
    isC h x0 13 (nnR (hR h x0 16) fun r1 =>
    isC h r1 20 (inA h r1 (nI 0) (
    br (x5 < (hI h r1 (Int32.toNatClampNeg (nI 0))))
      (isC h x0 13 (nnR (hR h x0 24) fun r2 =>
       isC h r2 20 (inA h r2 x5 (
       br ((mI 20) < (hI h r2 (Int32.toNatClampNeg x5)))
         (isC h x0 13 (nnR (hR h x0 48) fun r3 =>
          br ((hI h r2 (Int32.toNatClampNeg x5)) < (nI 0))
            (br ((hI h r2 (Int32.toNatClampNeg x5)) = (mI 10))
               (ev M_Mo_keptBy 0 45 [some (.ref x0), some (.int x1), some (.int x2), some (.int x3), some (.int x4), some (.int x5), none] [(.int x1), (.int x4), (.ref r3)] h)
               (br ((hI h r2 (Int32.toNatClampNeg x5)) = (mI 11))
                  (ev M_Mo_keptBy 0 45 [some (.ref x0), some (.int x1), some (.int x2), some (.int x3), some (.int x4), some (.int x5), none] [(.int x2), (.int x4), (.ref r3)] h)
                  (ev M_Mo_keptBy 0 45 [some (.ref x0), some (.int x1), some (.int x2), some (.int x3), some (.int x4), some (.int x5), none] [(.int x3), (.int x4), (.ref r3)] h)))
            (ev M_Mo_keptBy 0 45 [some (.ref x0), some (.int x1), some (.int x2), some (.int x3), some (.int x4), some (.int x5), none] [(.int (hI h r2 (Int32.toNatClampNeg x5))), (.int x4), (.ref r3)] h)))
         (br ((hI h r2 (Int32.toNatClampNeg x5)) = (mI 30))
            (isC h x0 13 (nnR (hR h x0 48) fun r4 =>
             isC h x0 13 (nnR (hR h x0 48) fun r5 =>
             isC h r5 20 (inA h r5 (x4 - (nI 1)) (
             br ((hI h r5 (Int32.toNatClampNeg (x4 - (nI 1)))) = (nI 0))
               (ev M_Mo_keptBy 0 67 [some (.ref x0), some (.int x1), some (.int x2), some (.int x3), some (.int x4), some (.int x5), none] [(.int (nI 1)), (.int (x4 - (nI 1))), (.ref r4)] h)
               (ev M_Mo_keptBy 0 67 [some (.ref x0), some (.int x1), some (.int x2), some (.int x3), some (.int x4), some (.int x5), none] [(.int (nI 0)), (.int (x4 - (nI 1))), (.ref r4)] h))))))
            (isC h x0 13 (nnR (hR h x0 48) fun r6 =>
             isC h x0 13 (nnR (hR h x0 48) fun r7 =>
             isC h r7 20 (inA h r7 ((x4 + (mI 1)) - (nI 1)) (
             isC h x0 13 (nnR (hR h x0 48) fun r8 =>
             isC h r8 20 (inA h r8 (x4 + (mI 1)) (
             rI (ev M_Mo_done 0 0 [some (.int (hI h r2 (Int32.toNatClampNeg x5))), some (.int (hI h r7 (Int32.toNatClampNeg ((x4 + (mI 1)) - (nI 1))))), some (.int (hI h r8 (Int32.toNatClampNeg (x4 + (mI 1)))))] [] h) fun y10 h9 =>
             isC h9 r6 20 (inA h9 r6 ((x4 + (mI 1)) - (nI 1)) (
             let h11 := sI h9 r6 (Int32.toNatClampNeg ((x4 + (mI 1)) - (nI 1))) y10
             ev M_Mo_keptBy 0 90 [some (.ref x0), some (.int x1), some (.int x2), some (.int x3), some (.int (x4 + (mI 1))), some (.int x5), none] [] h11)))))))))))))))
      (isC h x0 13 (nnR (hR h x0 48) fun r12 =>
       isC h r12 20 (inA h r12 (nI 0) (
       some (some (.int (hI h r12 (Int32.toNatClampNeg (nI 0)))), h)))))))) := (ev_eq _ _ _ _ _ _).trans rfl
theorem r_Mo_keptBy_45 (x0 : Nat) (x1 : Int32) (x2 : Int32) (x3 : Int32) (x4 : Int32) (x5 : Int32) (s0 : Nat) (s1 : Int32) (s2 : Int32) (h : MH) : ev M_Mo_keptBy 0 45 [some (.ref x0), some (.int x1), some (.int x2), some (.int x3), some (.int x4), some (.int x5), none] [(.int s2), (.int s1), (.ref s0)] h =
    isC h s0 20 (inA h s0 s1 (
    let h1 := sI h s0 (Int32.toNatClampNeg s1) s2
    ev M_Mo_keptBy 0 90 [some (.ref x0), some (.int x1), some (.int x2), some (.int x3), some (.int (x4 + (nI 1))), some (.int x5), none] [] h1)) := (ev_eq _ _ _ _ _ _).trans rfl
theorem r_Mo_keptBy_67 (x0 : Nat) (x1 : Int32) (x2 : Int32) (x3 : Int32) (x4 : Int32) (x5 : Int32) (s0 : Nat) (s1 : Int32) (s2 : Int32) (h : MH) : ev M_Mo_keptBy 0 67 [some (.ref x0), some (.int x1), some (.int x2), some (.int x3), some (.int x4), some (.int x5), none] [(.int s2), (.int s1), (.ref s0)] h =
    rI (ev M_Mo_truth 0 0 [some (.int s2)] [] h) fun y2 h1 =>
    isC h1 s0 20 (inA h1 s0 s1 (
    let h3 := sI h1 s0 (Int32.toNatClampNeg s1) y2
    ev M_Mo_keptBy 0 90 [some (.ref x0), some (.int x1), some (.int x2), some (.int x3), some (.int x4), some (.int x5), none] [] h3)) := (ev_eq _ _ _ _ _ _).trans rfl
theorem r_Mo_keptBy_90 (x0 : Nat) (x1 : Int32) (x2 : Int32) (x3 : Int32) (x4 : Int32) (x5 : Int32) (h : MH) : ev M_Mo_keptBy 0 90 [some (.ref x0), some (.int x1), some (.int x2), some (.int x3), some (.int x4), some (.int x5), none] [] h =
    ev M_Mo_keptBy 0 12 [some (.ref x0), some (.int x1), some (.int x2), some (.int x3), some (.int x4), some (.int (x5 + (nI 1))), none] [] h := (ev_eq _ _ _ _ _ _).trans rfl
theorem r_Mo_sifts_0 (x0 : Nat) (x1 : Int32) (h : MH) : ev M_Mo_sifts 0 0 [some (.ref x0), some (.int x1), none, none, none] [] h =
    isC h x0 13 (nnR (hR h x0 38) fun r1 =>
    rI (ev M_Mo_manyIn 0 0 [some (.ref r1), some (.int ((nI 16) * x1)), none, none] [] h) fun y3 h2 =>
    ev M_Mo_sifts 0 10 [some (.ref x0), some (.int x1), some (.int y3), some (.int (nI 0)), none] [] h2) := (ev_eq _ _ _ _ _ _).trans rfl
theorem r_Mo_sifts_10 (x0 : Nat) (x1 : Int32) (x2 : Int32) (x3 : Int32) (h : MH) : ev M_Mo_sifts 0 10 [some (.ref x0), some (.int x1), some (.int x2), some (.int x3), none] [] h =
    br (x3 < (nI 16))
      (isC h x0 13 (nnR (hR h x0 40) fun r1 =>
       isC h r1 20 (inA h r1 x3 (
       let h2 := sI h r1 (Int32.toNatClampNeg x3) (nI 0)
       ev M_Mo_sifts 0 21 [some (.ref x0), some (.int x1), some (.int x2), some (.int x3), some (.int (nI 0))] [] h2))))
      (some (none, h)) := (ev_eq _ _ _ _ _ _).trans rfl
set_option maxRecDepth 100000 in
set_option maxHeartbeats 4000000 in
theorem r_Mo_sifts_21 (x0 : Nat) (x1 : Int32) (x2 : Int32) (x3 : Int32) (x4 : Int32) (h : MH) : ev M_Mo_sifts 0 21 [some (.ref x0), some (.int x1), some (.int x2), some (.int x3), some (.int x4)] [] h =
    br (x4 < (nI 16))
      (isC h x0 13 (nnR (hR h x0 38) fun r1 =>
       isC h r1 20 (inA h r1 (((nI 16) * x1) + x3) (
       rI (ev M_Mo_isOf 0 0 [some (.int (hI h r1 (Int32.toNatClampNeg (((nI 16) * x1) + x3)))), some (.int x4)] [] h) fun y3 h2 =>
       br (y3 = (nI 0))
         (ev M_Mo_sifts 0 52 [some (.ref x0), some (.int x1), some (.int x2), some (.int x3), some (.int x4)] [] h2)
         (isC h2 x0 13 (rI (ev M_Mo_keptBy 0 0 [some (.ref x0), some (.int x3), some (.int x4), some (.int x2), none, none, none] [] h2) fun y5 h4 =>
          br (y5 = (nI 0))
            (ev M_Mo_sifts 0 52 [some (.ref x0), some (.int x1), some (.int x2), some (.int x3), some (.int x4)] [] h4)
            (isC h4 x0 13 (nnR (hR h4 x0 40) fun r6 =>
             isC h4 r6 20 (inA h4 r6 x3 (
             isC h4 r6 20 (inA h4 r6 x3 (
             let h7 := sI h4 r6 (Int32.toNatClampNeg x3) ((hI h4 r6 (Int32.toNatClampNeg x3)) ||| ((nI 1) <<< (x4 &&& 31)))
             ev M_Mo_sifts 0 52 [some (.ref x0), some (.int x1), some (.int x2), some (.int x3), some (.int x4)] [] h7))))))))))))
      (ev M_Mo_sifts 0 10 [some (.ref x0), some (.int x1), some (.int x2), some (.int (x3 + (nI 1))), none] [] h) := (ev_eq _ _ _ _ _ _).trans rfl
theorem r_Mo_sifts_52 (x0 : Nat) (x1 : Int32) (x2 : Int32) (x3 : Int32) (x4 : Int32) (h : MH) : ev M_Mo_sifts 0 52 [some (.ref x0), some (.int x1), some (.int x2), some (.int x3), some (.int x4)] [] h =
    ev M_Mo_sifts 0 21 [some (.ref x0), some (.int x1), some (.int x2), some (.int x3), some (.int (x4 + (nI 1)))] [] h := (ev_eq _ _ _ _ _ _).trans rfl
set_option maxRecDepth 100000 in
set_option maxHeartbeats 4000000 in
theorem r_Mo_relation2_0 (x0 : Nat) (x1 : Int32) (x2 : Int32) (h : MH) : ev M_Mo_relation2 0 0 [some (.ref x0), some (.int x1), some (.int x2)] [] h =
    isC h x0 13 (rI (ev M_Mo_laysRel 0 0 [some (.ref x0), some (.int x1)] [] h) fun y2 h1 =>
    br (y2 = (nI 0))
      (some (some (.int (mI 1)), h1))
      (br (x2 = (nI 0))
         (isC h1 x0 13 (nnR (hR h1 x0 19) fun r3 =>
          isC h1 r3 20 (inA h1 r3 x1 (
          some (some (.int (hI h1 r3 (Int32.toNatClampNeg x1))), h1)))))
         (br (x2 = (nI 1))
         (isC h1 x0 13 (nnR (hR h1 x0 38) fun r4 =>
          rI (ev M_Mo_manyIn 0 0 [some (.ref r4), some (.int ((nI 16) * x1)), none, none] [] h1) fun y6 h5 =>
          some (some (.int y6), h5)))
         (br (x2 = (nI 2))
         (isC h1 x0 13 (
          some (some (.int (hI h1 x0 47)), h1)))
         (br (x2 = (nI 3))
         (isC h1 x0 13 (rI (ev M_Mo_wide 0 0 [some (.ref x0)] [] h1) fun y8 h7 =>
          isC h7 x0 13 (rI (ev M_Mo_wide 0 0 [some (.ref x0)] [] h7) fun y10 h9 =>
          isC h9 x0 13 (
          some (some (.int ((y8 * y10) - (hI h9 x0 47))), h9)))))
         (br (x2 = (nI 4))
         (isC h1 x0 13 (rV (ev M_Mo_sifts 0 0 [some (.ref x0), some (.int x1), none, none, none] [] h1) fun h11 =>
          isC h11 x0 13 (nnR (hR h11 x0 40) fun r12 =>
          rI (ev M_Mo_manyIn 0 0 [some (.ref r12), some (.int (nI 0)), none, none] [] h11) fun y14 h13 =>
          some (some (.int y14), h13))))
         (some (some (.int (mI 1)), h1)))))))) := (ev_eq _ _ _ _ _ _).trans rfl
theorem r_Mo_arePair_0 (x0 : Nat) (x1 : Int32) (x2 : Int32) (x3 : Int32) (h : MH) : ev M_Mo_arePair 0 0 [some (.ref x0), some (.int x1), some (.int x2), some (.int x3)] [] h =
    isC h x0 13 (rI (ev M_Mo_isRel 0 0 [some (.ref x0), some (.int x1)] [] h) fun y2 h1 =>
    br (y2 = (nI 0))
      (isZ (nI 0) (some (some (.int (nI 0)), h1)))
      (isC h1 x0 13 (rI (ev M_Mo_isNode 0 0 [some (.ref x0), some (.int x2)] [] h1) fun y4 h3 =>
       br (y4 = (nI 0))
         (isZ (nI 0) (some (some (.int (nI 0)), h3)))
         (isC h3 x0 13 (rI (ev M_Mo_isNode 0 0 [some (.ref x0), some (.int x3)] [] h3) fun y6 h5 =>
          br (y6 = (nI 0))
            (isZ (nI 0) (some (some (.int (nI 0)), h5)))
            (isZ (nI 1) (some (some (.int (nI 1)), h5)))))))) := (ev_eq _ _ _ _ _ _).trans rfl
theorem r_Mo_has_0 (x0 : Nat) (x1 : Int32) (x2 : Int32) (x3 : Int32) (h : MH) : ev M_Mo_has 0 0 [some (.ref x0), some (.int x1), some (.int x2), some (.int x3)] [] h =
    isC h x0 13 (rI (ev M_Mo_arePair 0 0 [some (.ref x0), some (.int x1), some (.int x2), some (.int x3)] [] h) fun y2 h1 =>
    br (y2 = (nI 0))
      (some (some (.int (mI 1)), h1))
      (isC h1 x0 13 (rV (ev M_Mo_lays2 0 0 [some (.ref x0), none, none] [] h1) fun h3 =>
       isC h3 x0 13 (nnR (hR h3 x0 38) fun r4 =>
       isC h3 r4 20 (inA h3 r4 (((nI 16) * x1) + x2) (
       some (some (.int (((hI h3 r4 (Int32.toNatClampNeg (((nI 16) * x1) + x2))) >>> (x3 &&& 31)) &&& (nI 1))), h3))))))) := (ev_eq _ _ _ _ _ _).trans rfl
theorem r_Mo_keeps_0 (x0 : Nat) (h : MH) : ev M_Mo_keeps 0 0 [some (.ref x0), none] [] h =
    isC h x0 13 (
    br ((hI h x0 36) = (nI 40))
      (ev M_Mo_keeps 0 7 [some (.ref x0), some (.int (nI 81))] [] h)
      (ev M_Mo_keeps 0 29 [some (.ref x0), none] [] h)) := (ev_eq _ _ _ _ _ _).trans rfl
theorem r_Mo_keeps_7 (x0 : Nat) (x1 : Int32) (h : MH) : ev M_Mo_keeps 0 7 [some (.ref x0), some (.int x1)] [] h =
    br (x1 < (nI 3240))
      (isC h x0 13 (nnR (hR h x0 35) fun r1 =>
       isC h x0 13 (nnR (hR h x0 35) fun r2 =>
       isC h r2 20 (inA h r2 x1 (
       isC h r1 20 (inA h r1 (x1 - (nI 81)) (
       let h3 := sI h r1 (Int32.toNatClampNeg (x1 - (nI 81))) (hI h r2 (Int32.toNatClampNeg x1))
       ev M_Mo_keeps 0 7 [some (.ref x0), some (.int (x1 + (nI 1)))] [] h3)))))))
      (isC h x0 13 (
       isC h x0 13 (
       let h4 := sI h x0 36 ((hI h x0 36) - (nI 1))
       ev M_Mo_keeps 0 29 [some (.ref x0), none] [] h4))) := (ev_eq _ _ _ _ _ _).trans rfl
theorem r_Mo_keeps_29 (x0 : Nat) (h : MH) : ev M_Mo_keeps 0 29 [some (.ref x0), none] [] h =
    ev M_Mo_keeps 0 32 [some (.ref x0), some (.int (nI 0))] [] h := (ev_eq _ _ _ _ _ _).trans rfl
theorem r_Mo_keeps_32 (x0 : Nat) (x1 : Int32) (h : MH) : ev M_Mo_keeps 0 32 [some (.ref x0), some (.int x1)] [] h =
    br (x1 < (nI 81))
      (isC h x0 13 (nnR (hR h x0 35) fun r1 =>
       isC h x0 13 (
       isC h x0 13 (nnR (hR h x0 34) fun r2 =>
       isC h r2 20 (inA h r2 x1 (
       isC h r1 20 (inA h r1 (((nI 81) * (hI h x0 36)) + x1) (
       let h3 := sI h r1 (Int32.toNatClampNeg (((nI 81) * (hI h x0 36)) + x1)) (hI h r2 (Int32.toNatClampNeg x1))
       ev M_Mo_keeps 0 32 [some (.ref x0), some (.int (x1 + (nI 1)))] [] h3))))))))
      (isC h x0 13 (
       isC h x0 13 (
       let h4 := sI h x0 36 ((hI h x0 36) + (nI 1))
       isC h4 x0 13 (
       let h5 := sI h4 x0 37 (nI 0)
       some (none, h5))))) := (ev_eq _ _ _ _ _ _).trans rfl
theorem r_Mo_exchanges_0 (x0 : Nat) (x1 : Int32) (h : MH) : ev M_Mo_exchanges 0 0 [some (.ref x0), some (.int x1), none, none] [] h =
    ev M_Mo_exchanges 0 3 [some (.ref x0), some (.int x1), some (.int (nI 0)), none] [] h := (ev_eq _ _ _ _ _ _).trans rfl
theorem r_Mo_exchanges_3 (x0 : Nat) (x1 : Int32) (x2 : Int32) (h : MH) : ev M_Mo_exchanges 0 3 [some (.ref x0), some (.int x1), some (.int x2), none] [] h =
    br (x2 < (nI 81))
      (isC h x0 13 (nnR (hR h x0 35) fun r1 =>
       isC h r1 20 (inA h r1 (((nI 81) * x1) + x2) (
       isC h x0 13 (nnR (hR h x0 35) fun r2 =>
       isC h x0 13 (nnR (hR h x0 34) fun r3 =>
       isC h r3 20 (inA h r3 x2 (
       isC h r2 20 (inA h r2 (((nI 81) * x1) + x2) (
       let h4 := sI h r2 (Int32.toNatClampNeg (((nI 81) * x1) + x2)) (hI h r3 (Int32.toNatClampNeg x2))
       isC h4 x0 13 (nnR (hR h4 x0 34) fun r5 =>
       isC h4 r5 20 (inA h4 r5 x2 (
       let h6 := sI h4 r5 (Int32.toNatClampNeg x2) (hI h r1 (Int32.toNatClampNeg (((nI 81) * x1) + x2)))
       ev M_Mo_exchanges 0 3 [some (.ref x0), some (.int x1), some (.int (x2 + (nI 1))), none] [] h6)))))))))))))
      (some (none, h)) := (ev_eq _ _ _ _ _ _).trans rfl
theorem r_Mo_undo_0 (x0 : Nat) (h : MH) : ev M_Mo_undo 0 0 [some (.ref x0)] [] h =
    isC h x0 13 (
    br ((hI h x0 36) = (nI 0))
      (isZ (nI 0) (some (some (.int (nI 0)), h)))
      (isC h x0 13 (
       isC h x0 13 (
       let h1 := sI h x0 36 ((hI h x0 36) - (nI 1))
       isC h1 x0 13 (
       isC h1 x0 13 (
       let h2 := sI h1 x0 37 ((hI h1 x0 37) + (nI 1))
       isC h2 x0 13 (
       isC h2 x0 13 (rV (ev M_Mo_exchanges 0 0 [some (.ref x0), some (.int (hI h2 x0 36)), none, none] [] h2) fun h3 =>
       isZ (nI 1) (some (some (.int (nI 1)), h3)))))))))) := (ev_eq _ _ _ _ _ _).trans rfl
theorem r_Mo_redo_0 (x0 : Nat) (h : MH) : ev M_Mo_redo 0 0 [some (.ref x0)] [] h =
    isC h x0 13 (
    br ((hI h x0 37) = (nI 0))
      (isZ (nI 0) (some (some (.int (nI 0)), h)))
      (isC h x0 13 (
       isC h x0 13 (
       let h1 := sI h x0 37 ((hI h x0 37) - (nI 1))
       isC h1 x0 13 (
       isC h1 x0 13 (rV (ev M_Mo_exchanges 0 0 [some (.ref x0), some (.int (hI h1 x0 36)), none, none] [] h1) fun h2 =>
       isC h2 x0 13 (
       isC h2 x0 13 (
       let h3 := sI h2 x0 36 ((hI h2 x0 36) + (nI 1))
       isZ (nI 1) (some (some (.int (nI 1)), h3)))))))))) := (ev_eq _ _ _ _ _ _).trans rfl
set_option maxRecDepth 100000 in
set_option maxHeartbeats 4000000 in
theorem r_Mo_turns_0 (x0 : Nat) (x1 : Int32) (x2 : Int32) (x3 : Int32) (x4 : Int32) (h : MH) : ev M_Mo_turns 0 0 [some (.ref x0), some (.int x1), some (.int x2), some (.int x3), some (.int x4)] [] h =
    isC h x0 13 (rI (ev M_Mo_arePair 0 0 [some (.ref x0), some (.int x1), some (.int x2), some (.int x3)] [] h) fun y2 h1 =>
    br (y2 = (nI 0))
      (some (some (.int (mI 1)), h1))
      (isC h1 x0 13 (nnR (hR h1 x0 19) fun r3 =>
       isC h1 r3 20 (inA h1 r3 x1 (
       br ((hI h1 r3 (Int32.toNatClampNeg x1)) = (nI 0))
         (some (some (.int (mI 1)), h1))
         (isC h1 x0 13 (nnR (hR h1 x0 34) fun r4 =>
          isC h1 r4 20 (inA h1 r4 (((nI 16) * x1) + x2) (
          br ((((hI h1 r4 (Int32.toNatClampNeg (((nI 16) * x1) + x2))) >>> (x3 &&& 31)) &&& (nI 1)) = x4)
            (some (some (.int (mI 1)), h1))
            (isC h1 x0 13 (rV (ev M_Mo_keeps 0 0 [some (.ref x0), none] [] h1) fun h5 =>
             isC h5 x0 13 (nnR (hR h5 x0 34) fun r6 =>
             isC h5 r6 20 (inA h5 r6 (((nI 16) * x1) + x2) (
             isC h5 r6 20 (inA h5 r6 (((nI 16) * x1) + x2) (
             let h7 := sI h5 r6 (Int32.toNatClampNeg (((nI 16) * x1) + x2)) ((hI h5 r6 (Int32.toNatClampNeg (((nI 16) * x1) + x2))) ^^^ ((nI 1) <<< (x3 &&& 31)))
             isC h7 x0 13 (nnR (hR h7 x0 34) fun r8 =>
             rI (ev M_Mo_manyIn 0 0 [some (.ref r8), some (.int ((nI 16) * x1)), none, none] [] h7) fun y10 h9 =>
             some (some (.int y10), h9)))))))))))))))))) := (ev_eq _ _ _ _ _ _).trans rfl
theorem r_Mo_put_0 (x0 : Nat) (x1 : Int32) (x2 : Int32) (x3 : Int32) (h : MH) : ev M_Mo_put 0 0 [some (.ref x0), some (.int x1), some (.int x2), some (.int x3)] [] h =
    isC h x0 13 (rI (ev M_Mo_turns 0 0 [some (.ref x0), some (.int x1), some (.int x2), some (.int x3), some (.int (nI 1))] [] h) fun y2 h1 =>
    some (some (.int y2), h1)) := (ev_eq _ _ _ _ _ _).trans rfl
theorem r_Mo_take_0 (x0 : Nat) (x1 : Int32) (x2 : Int32) (x3 : Int32) (h : MH) : ev M_Mo_take 0 0 [some (.ref x0), some (.int x1), some (.int x2), some (.int x3)] [] h =
    isC h x0 13 (rI (ev M_Mo_turns 0 0 [some (.ref x0), some (.int x1), some (.int x2), some (.int x3), some (.int (nI 0))] [] h) fun y2 h1 =>
    some (some (.int y2), h1)) := (ev_eq _ _ _ _ _ _).trans rfl
theorem r_Mo_makes_0 (x0 : Nat) (x1 : Int32) (x2 : Int32) (x3 : Int32) (h : MH) : ev M_Mo_makes 0 0 [some (.ref x0), some (.int x1), some (.int x2), some (.int x3), none, none] [] h =
    ev M_Mo_makes 0 3 [some (.ref x0), some (.int x1), some (.int x2), some (.int x3), some (.int (nI 0)), none] [] h := (ev_eq _ _ _ _ _ _).trans rfl
theorem r_Mo_makes_3 (x0 : Nat) (x1 : Int32) (x2 : Int32) (x3 : Int32) (x4 : Int32) (h : MH) : ev M_Mo_makes 0 3 [some (.ref x0), some (.int x1), some (.int x2), some (.int x3), some (.int x4), none] [] h =
    br (x4 < (nI 16))
      (isC h x0 13 (nnR (hR h x0 39) fun r1 =>
       isC h x0 13 (nnR (hR h x0 38) fun r2 =>
       isC h r2 20 (inA h r2 (((nI 16) * x3) + x4) (
       isC h r1 20 (inA h r1 x4 (
       let h3 := sI h r1 (Int32.toNatClampNeg x4) (hI h r2 (Int32.toNatClampNeg (((nI 16) * x3) + x4)))
       ev M_Mo_makes 0 3 [some (.ref x0), some (.int x1), some (.int x2), some (.int x3), some (.int (x4 + (nI 1))), none] [] h3)))))))
      (br (x1 = (nI 4))
         (isC h x0 13 (nnR (hR h x0 39) fun r4 =>
          isC h x0 13 (rV (ev M_Mo_turnsBack 0 0 [some (.ref x0), some (.ref r4), some (.int (nI 0)), none, none] [] h) fun h5 =>
          ev M_Mo_makes 0 29 [some (.ref x0), some (.int x1), some (.int x2), none, none, none] [] h5)))
         (ev M_Mo_makes 0 29 [some (.ref x0), some (.int x1), some (.int x2), none, none, none] [] h)) := (ev_eq _ _ _ _ _ _).trans rfl
theorem r_Mo_makes_29 (x0 : Nat) (x1 : Int32) (x2 : Int32) (h : MH) : ev M_Mo_makes 0 29 [some (.ref x0), some (.int x1), some (.int x2), none, none, none] [] h =
    ev M_Mo_makes 0 32 [some (.ref x0), some (.int x1), some (.int x2), none, some (.int (nI 0)), none] [] h := (ev_eq _ _ _ _ _ _).trans rfl
set_option maxRecDepth 100000 in
set_option maxHeartbeats 4000000 in
theorem r_Mo_makes_32 (x0 : Nat) (x1 : Int32) (x2 : Int32) (x4 : Int32) (h : MH) : ev M_Mo_makes 0 32 [some (.ref x0), some (.int x1), some (.int x2), none, some (.int x4), none] [] h =
    br (x4 < (nI 16))
      (isC h x0 13 (nnR (hR h x0 38) fun r1 =>
       isC h r1 20 (inA h r1 (((nI 16) * x2) + x4) (
       isC h x0 13 (nnR (hR h x0 40) fun r2 =>
       br (x1 = (nI 3))
         (isC h x0 13 (nnR (hR h x0 39) fun r3 =>
          rI (ev M_Mo_through 0 0 [some (.int (hI h r1 (Int32.toNatClampNeg (((nI 16) * x2) + x4)))), some (.ref r3), some (.int (nI 0)), none, none] [] h) fun y5 h4 =>
          ev M_Mo_makes 0 75 [some (.ref x0), some (.int x1), some (.int x2), none, some (.int x4), none] [(.int y5), (.int x4), (.ref r2)] h4))
         (br (x1 = (nI 1))
            (ev M_Mo_makes 0 68 [some (.ref x0), some (.int x1), some (.int x2), none, some (.int x4), some (.int (hI h r1 (Int32.toNatClampNeg (((nI 16) * x2) + x4))))] [(.int (nI 22)), (.int x4), (.ref r2)] h)
            (br (x1 = (nI 2))
               (ev M_Mo_makes 0 68 [some (.ref x0), some (.int x1), some (.int x2), none, some (.int x4), some (.int (hI h r1 (Int32.toNatClampNeg (((nI 16) * x2) + x4))))] [(.int (nI 21)), (.int x4), (.ref r2)] h)
               (ev M_Mo_makes 0 68 [some (.ref x0), some (.int x1), some (.int x2), none, some (.int x4), some (.int (hI h r1 (Int32.toNatClampNeg (((nI 16) * x2) + x4))))] [(.int (nI 20)), (.int x4), (.ref r2)] h))))))))
      (some (none, h)) := (ev_eq _ _ _ _ _ _).trans rfl
theorem r_Mo_makes_68 (x0 : Nat) (x1 : Int32) (x2 : Int32) (x4 : Int32) (x5 : Int32) (s0 : Nat) (s1 : Int32) (s2 : Int32) (h : MH) : ev M_Mo_makes 0 68 [some (.ref x0), some (.int x1), some (.int x2), none, some (.int x4), some (.int x5)] [(.int s2), (.int s1), (.ref s0)] h =
    isC h x0 13 (nnR (hR h x0 39) fun r1 =>
    isC h r1 20 (inA h r1 x4 (
    rI (ev M_Mo_joined 0 0 [some (.int s2), some (.int x5), some (.int (hI h r1 (Int32.toNatClampNeg x4)))] [] h) fun y3 h2 =>
    ev M_Mo_makes 0 75 [some (.ref x0), some (.int x1), some (.int x2), none, some (.int x4), none] [(.int y3), (.int s1), (.ref s0)] h2))) := (ev_eq _ _ _ _ _ _).trans rfl
theorem r_Mo_makes_75 (x0 : Nat) (x1 : Int32) (x2 : Int32) (x4 : Int32) (s0 : Nat) (s1 : Int32) (s2 : Int32) (h : MH) : ev M_Mo_makes 0 75 [some (.ref x0), some (.int x1), some (.int x2), none, some (.int x4), none] [(.int s2), (.int s1), (.ref s0)] h =
    isC h s0 20 (inA h s0 s1 (
    let h1 := sI h s0 (Int32.toNatClampNeg s1) s2
    ev M_Mo_makes 0 32 [some (.ref x0), some (.int x1), some (.int x2), none, some (.int (x4 + (nI 1))), none] [] h1)) := (ev_eq _ _ _ _ _ _).trans rfl
theorem r_Mo_isHow_0 (x0 : Int32) (h : MH) : ev M_Mo_isHow 0 0 [some (.int x0)] [] h =
    rI (ev M_Mo_isIn 0 0 [some (.int x0), some (.int (nI 0)), some (.int (nI 4))] [] h) fun y2 h1 =>
    isZ y2 (some (some (.int y2), h1)) := (ev_eq _ _ _ _ _ _).trans rfl
set_option maxRecDepth 100000 in
set_option maxHeartbeats 4000000 in
theorem r_Mo_become_0 (x0 : Nat) (x1 : Int32) (x2 : Int32) (x3 : Int32) (x4 : Int32) (h : MH) : ev M_Mo_become 0 0 [some (.ref x0), some (.int x1), some (.int x2), some (.int x3), some (.int x4), none] [] h =
    isC h x0 13 (rI (ev M_Mo_isRel 0 0 [some (.ref x0), some (.int x1)] [] h) fun y2 h1 =>
    br (y2 = (nI 0))
      (some (some (.int (mI 1)), h1))
      (isC h1 x0 13 (nnR (hR h1 x0 19) fun r3 =>
       isC h1 r3 20 (inA h1 r3 x1 (
       br ((hI h1 r3 (Int32.toNatClampNeg x1)) = (nI 0))
         (some (some (.int (mI 1)), h1))
         (rI (ev M_Mo_isHow 0 0 [some (.int x2)] [] h1) fun y5 h4 =>
          br (y5 = (nI 0))
            (some (some (.int (mI 1)), h4))
            (isC h4 x0 13 (rI (ev M_Mo_laysTwo 0 0 [some (.ref x0), some (.int x3), some (.int x4)] [] h4) fun y7 h6 =>
             br (y7 = (nI 0))
               (some (some (.int (mI 1)), h6))
               (isC h6 x0 13 (rV (ev M_Mo_keeps 0 0 [some (.ref x0), none] [] h6) fun h8 =>
                isC h8 x0 13 (rV (ev M_Mo_makes 0 0 [some (.ref x0), some (.int x2), some (.int x3), some (.int x4), none, none] [] h8) fun h9 =>
                ev M_Mo_become 0 29 [some (.ref x0), some (.int x1), none, none, none, some (.int (nI 0))] [] h9))))))))))) := (ev_eq _ _ _ _ _ _).trans rfl
theorem r_Mo_become_29 (x0 : Nat) (x1 : Int32) (x5 : Int32) (h : MH) : ev M_Mo_become 0 29 [some (.ref x0), some (.int x1), none, none, none, some (.int x5)] [] h =
    br (x5 < (nI 16))
      (isC h x0 13 (nnR (hR h x0 34) fun r1 =>
       isC h x0 13 (nnR (hR h x0 40) fun r2 =>
       isC h r2 20 (inA h r2 x5 (
       isC h r1 20 (inA h r1 (((nI 16) * x1) + x5) (
       let h3 := sI h r1 (Int32.toNatClampNeg (((nI 16) * x1) + x5)) (hI h r2 (Int32.toNatClampNeg x5))
       ev M_Mo_become 0 29 [some (.ref x0), some (.int x1), none, none, none, some (.int (x5 + (nI 1)))] [] h3)))))))
      (isC h x0 13 (nnR (hR h x0 40) fun r4 =>
       rI (ev M_Mo_manyIn 0 0 [some (.ref r4), some (.int (nI 0)), none, none] [] h) fun y6 h5 =>
       some (some (.int y6), h5))) := (ev_eq _ _ _ _ _ _).trans rfl
theorem r_Mo_sift_0 (x0 : Nat) (x1 : Int32) (h : MH) : ev M_Mo_sift 0 0 [some (.ref x0), some (.int x1), none, none] [] h =
    isC h x0 13 (rI (ev M_Mo_isRel 0 0 [some (.ref x0), some (.int x1)] [] h) fun y2 h1 =>
    br (y2 = (nI 0))
      (some (some (.int (mI 1)), h1))
      (isC h1 x0 13 (nnR (hR h1 x0 19) fun r3 =>
       isC h1 r3 20 (inA h1 r3 x1 (
       br ((hI h1 r3 (Int32.toNatClampNeg x1)) = (nI 0))
         (some (some (.int (mI 1)), h1))
         (isC h1 x0 13 (rV (ev M_Mo_lays2 0 0 [some (.ref x0), none, none] [] h1) fun h4 =>
          isC h4 x0 13 (rV (ev M_Mo_keeps 0 0 [some (.ref x0), none] [] h4) fun h5 =>
          isC h5 x0 13 (nnR (hR h5 x0 34) fun r6 =>
          rI (ev M_Mo_manyIn 0 0 [some (.ref r6), some (.int ((nI 16) * x1)), none, none] [] h5) fun y8 h7 =>
          isC h7 x0 13 (rV (ev M_Mo_sifts 0 0 [some (.ref x0), some (.int x1), none, none, none] [] h7) fun h9 =>
          ev M_Mo_sift 0 28 [some (.ref x0), some (.int x1), some (.int y8), some (.int (nI 0))] [] h9)))))))))) := (ev_eq _ _ _ _ _ _).trans rfl
theorem r_Mo_sift_28 (x0 : Nat) (x1 : Int32) (x2 : Int32) (x3 : Int32) (h : MH) : ev M_Mo_sift 0 28 [some (.ref x0), some (.int x1), some (.int x2), some (.int x3)] [] h =
    br (x3 < (nI 16))
      (isC h x0 13 (nnR (hR h x0 34) fun r1 =>
       isC h x0 13 (nnR (hR h x0 40) fun r2 =>
       isC h r2 20 (inA h r2 x3 (
       isC h r1 20 (inA h r1 (((nI 16) * x1) + x3) (
       let h3 := sI h r1 (Int32.toNatClampNeg (((nI 16) * x1) + x3)) (hI h r2 (Int32.toNatClampNeg x3))
       ev M_Mo_sift 0 28 [some (.ref x0), some (.int x1), some (.int x2), some (.int (x3 + (nI 1)))] [] h3)))))))
      (isC h x0 13 (nnR (hR h x0 40) fun r4 =>
       rI (ev M_Mo_manyIn 0 0 [some (.ref r4), some (.int (nI 0)), none, none] [] h) fun y6 h5 =>
       some (some (.int (x2 - y6)), h5))) := (ev_eq _ _ _ _ _ _).trans rfl
set_option maxRecDepth 100000 in
set_option maxHeartbeats 4000000 in
theorem r_Mo_drift_0 (x0 : Nat) (h : MH) : ev M_Mo_drift 0 0 [some (.ref x0), none, none] [] h =
    isC h x0 13 (rV (ev M_Mo_keeps 0 0 [some (.ref x0), none] [] h) fun h1 =>
    isC h1 x0 13 (nnR (hR h1 x0 34) fun r2 =>
    isC h1 x0 13 (nnR (hR h1 x0 34) fun r3 =>
    isC h1 r3 20 (inA h1 r3 (nI 80) (
    nz (nI 1000) (
    isC h1 r2 20 (inA h1 r2 (nI 80) (
    let h4 := sI h1 r2 (Int32.toNatClampNeg (nI 80)) ((((nI 137) * (hI h1 r3 (Int32.toNatClampNeg (nI 80)))) + (nI 71)) - (((nI 137) * (hI h1 r3 (Int32.toNatClampNeg (nI 80)))) + (nI 71)) / (nI 1000) * (nI 1000))
    isC h4 x0 13 (nnR (hR h4 x0 34) fun r5 =>
    isC h4 r5 20 (inA h4 r5 (nI 80) (
    isC h4 x0 13 (nnR (hR h4 x0 13) fun r6 =>
    isC h4 r6 20 (inA h4 r6 (nI 0) (
    br ((hI h4 r6 (Int32.toNatClampNeg (nI 0))) = (nI 0))
      (some (some (.int (mI 1)), h4))
      (nz (nI 100) (
       isC h4 x0 13 (nnR (hR h4 x0 14) fun r7 =>
       isC h4 r7 20 (inA h4 r7 (nI 0) (
       br (((hI h4 r5 (Int32.toNatClampNeg (nI 80))) - (hI h4 r5 (Int32.toNatClampNeg (nI 80))) / (nI 100) * (nI 100)) < (hI h4 r7 (Int32.toNatClampNeg (nI 0))))
         (isC h4 x0 13 (nnR (hR h4 x0 13) fun r8 =>
          isC h4 r8 20 (inA h4 r8 (nI 0) (
          nz (hI h4 r8 (Int32.toNatClampNeg (nI 0))) (
          isC h4 x0 13 (nnR (hR h4 x0 19) fun r9 =>
          isC h4 r9 20 (inA h4 r9 ((hI h4 r5 (Int32.toNatClampNeg (nI 80))) - (hI h4 r5 (Int32.toNatClampNeg (nI 80))) / (hI h4 r8 (Int32.toNatClampNeg (nI 0))) * (hI h4 r8 (Int32.toNatClampNeg (nI 0)))) (
          br ((hI h4 r9 (Int32.toNatClampNeg ((hI h4 r5 (Int32.toNatClampNeg (nI 80))) - (hI h4 r5 (Int32.toNatClampNeg (nI 80))) / (hI h4 r8 (Int32.toNatClampNeg (nI 0))) * (hI h4 r8 (Int32.toNatClampNeg (nI 0)))))) = (nI 0))
            (some (some (.int (mI 1)), h4))
            (isC h4 x0 13 (nnR (hR h4 x0 34) fun r10 =>
             nz (nI 16) (
             isC h4 x0 13 (rI (ev M_Mo_wide 0 0 [some (.ref x0)] [] h4) fun y12 h11 =>
             nz y12 (
             isC h11 r10 20 (inA h11 r10 (((nI 16) * ((hI h4 r5 (Int32.toNatClampNeg (nI 80))) - (hI h4 r5 (Int32.toNatClampNeg (nI 80))) / (hI h4 r8 (Int32.toNatClampNeg (nI 0))) * (hI h4 r8 (Int32.toNatClampNeg (nI 0))))) + (((hI h4 r5 (Int32.toNatClampNeg (nI 80))) / (nI 16)) - ((hI h4 r5 (Int32.toNatClampNeg (nI 80))) / (nI 16)) / y12 * y12)) (
             isC h11 x0 13 (rI (ev M_Mo_wide 0 0 [some (.ref x0)] [] h11) fun y14 h13 =>
             nz y14 (
             isC h13 r10 20 (inA h13 r10 (((nI 16) * ((hI h4 r5 (Int32.toNatClampNeg (nI 80))) - (hI h4 r5 (Int32.toNatClampNeg (nI 80))) / (hI h4 r8 (Int32.toNatClampNeg (nI 0))) * (hI h4 r8 (Int32.toNatClampNeg (nI 0))))) + (((hI h4 r5 (Int32.toNatClampNeg (nI 80))) / (nI 16)) - ((hI h4 r5 (Int32.toNatClampNeg (nI 80))) / (nI 16)) / y12 * y12)) (
             let h15 := sI h13 r10 (Int32.toNatClampNeg (((nI 16) * ((hI h4 r5 (Int32.toNatClampNeg (nI 80))) - (hI h4 r5 (Int32.toNatClampNeg (nI 80))) / (hI h4 r8 (Int32.toNatClampNeg (nI 0))) * (hI h4 r8 (Int32.toNatClampNeg (nI 0))))) + (((hI h4 r5 (Int32.toNatClampNeg (nI 80))) / (nI 16)) - ((hI h4 r5 (Int32.toNatClampNeg (nI 80))) / (nI 16)) / y12 * y12))) ((hI h11 r10 (Int32.toNatClampNeg (((nI 16) * ((hI h4 r5 (Int32.toNatClampNeg (nI 80))) - (hI h4 r5 (Int32.toNatClampNeg (nI 80))) / (hI h4 r8 (Int32.toNatClampNeg (nI 0))) * (hI h4 r8 (Int32.toNatClampNeg (nI 0))))) + (((hI h4 r5 (Int32.toNatClampNeg (nI 80))) / (nI 16)) - ((hI h4 r5 (Int32.toNatClampNeg (nI 80))) / (nI 16)) / y12 * y12)))) ^^^ ((nI 1) <<< (((hI h4 r5 (Int32.toNatClampNeg (nI 80))) - (hI h4 r5 (Int32.toNatClampNeg (nI 80))) / y14 * y14) &&& 31)))
             some (some (.int ((hI h4 r5 (Int32.toNatClampNeg (nI 80))) - (hI h4 r5 (Int32.toNatClampNeg (nI 80))) / (hI h4 r8 (Int32.toNatClampNeg (nI 0))) * (hI h4 r8 (Int32.toNatClampNeg (nI 0))))), h15))))))))))))))))))))
         (some (some (.int (mI 1)), h4))))))))))))))))))))) := (ev_eq _ _ _ _ _ _).trans rfl
theorem r_Mo_isBit_0 (x0 : Nat) (x1 : Int32) (x2 : Int32) (h : MH) : ev M_Mo_isBit 0 0 [some (.ref x0), some (.int x1), some (.int x2)] [] h =
    isC h x0 13 (rI (ev M_Mo_laysRel 0 0 [some (.ref x0), some (.int x1)] [] h) fun y2 h1 =>
    br (y2 = (nI 0))
      (isZ (nI 0) (some (some (.int (nI 0)), h1)))
      (isC h1 x0 13 (
       rI (ev M_Mo_isIn 0 0 [some (.int x2), some (.int (nI 0)), some (.int ((hI h1 x0 47) - (nI 1)))] [] h1) fun y4 h3 =>
       br (y4 = (nI 0))
         (isZ (nI 0) (some (some (.int (nI 0)), h3)))
         (isZ (nI 1) (some (some (.int (nI 1)), h3)))))) := (ev_eq _ _ _ _ _ _).trans rfl
theorem r_Mo_bit_0 (x0 : Nat) (x1 : Int32) (x2 : Int32) (h : MH) : ev M_Mo_bit 0 0 [some (.ref x0), some (.int x1), some (.int x2)] [] h =
    isC h x0 13 (rI (ev M_Mo_isBit 0 0 [some (.ref x0), some (.int x1), some (.int x2)] [] h) fun y2 h1 =>
    br (y2 = (nI 0))
      (some (some (.int (mI 1)), h1))
      (isC h1 x0 13 (nnR (hR h1 x0 46) fun r3 =>
       isC h1 r3 20 (inA h1 r3 x2 (
       some (some (.int (hI h1 r3 (Int32.toNatClampNeg x2))), h1)))))) := (ev_eq _ _ _ _ _ _).trans rfl
theorem r_Mo_rankOf_0 (x0 : Nat) (x1 : Int32) (h : MH) : ev M_Mo_rankOf 0 0 [some (.ref x0), some (.int x1), none, none] [] h =
    ev M_Mo_rankOf 0 5 [some (.ref x0), some (.int x1), some (.int (nI 0)), some (.int (nI 0))] [] h := (ev_eq _ _ _ _ _ _).trans rfl
theorem r_Mo_rankOf_5 (x0 : Nat) (x1 : Int32) (x2 : Int32) (x3 : Int32) (h : MH) : ev M_Mo_rankOf 0 5 [some (.ref x0), some (.int x1), some (.int x2), some (.int x3)] [] h =
    br (x1 < x3)
      (some (some (.int x2), h))
      (isC h x0 13 (nnR (hR h x0 46) fun r1 =>
       isC h r1 20 (inA h r1 x3 (
       ev M_Mo_rankOf 0 5 [some (.ref x0), some (.int x1), some (.int (x2 + (hI h r1 (Int32.toNatClampNeg x3)))), some (.int (x3 + (nI 1)))] [] h)))) := (ev_eq _ _ _ _ _ _).trans rfl
theorem r_Mo_rank_0 (x0 : Nat) (x1 : Int32) (x2 : Int32) (h : MH) : ev M_Mo_rank 0 0 [some (.ref x0), some (.int x1), some (.int x2)] [] h =
    isC h x0 13 (rI (ev M_Mo_isBit 0 0 [some (.ref x0), some (.int x1), some (.int x2)] [] h) fun y2 h1 =>
    br (y2 = (nI 0))
      (some (some (.int (mI 1)), h1))
      (isC h1 x0 13 (rI (ev M_Mo_rankOf 0 0 [some (.ref x0), some (.int x2), none, none] [] h1) fun y4 h3 =>
       some (some (.int y4), h3)))) := (ev_eq _ _ _ _ _ _).trans rfl
set_option maxRecDepth 100000 in
set_option maxHeartbeats 4000000 in
theorem r_Mo_child_0 (x0 : Nat) (x1 : Int32) (x2 : Int32) (x3 : Int32) (h : MH) : ev M_Mo_child 0 0 [some (.ref x0), some (.int x1), some (.int x2), some (.int x3)] [] h =
    isC h x0 13 (rI (ev M_Mo_isBit 0 0 [some (.ref x0), some (.int x1), some (.int x2)] [] h) fun y2 h1 =>
    br (y2 = (nI 0))
      (some (some (.int (mI 1)), h1))
      (rI (ev M_Mo_isIn 0 0 [some (.int x3), some (.int (nI 0)), some (.int (nI 3))] [] h1) fun y4 h3 =>
       br (y4 = (nI 0))
         (some (some (.int (mI 1)), h3))
         (isC h3 x0 13 (nnR (hR h3 x0 46) fun r5 =>
          isC h3 r5 20 (inA h3 r5 x2 (
          br ((hI h3 r5 (Int32.toNatClampNeg x2)) = (nI 1))
            (isC h3 x0 13 (nnR (hR h3 x0 43) fun r6 =>
             isC h3 r6 20 (inA h3 r6 x2 (
             isC h3 x0 13 (nnR (hR h3 x0 12) fun r7 =>
             isC h3 r7 20 (inA h3 r7 (nI 0) (
             br ((hI h3 r6 (Int32.toNatClampNeg x2)) < (hI h3 r7 (Int32.toNatClampNeg (nI 0))))
               (isC h3 x0 13 (rI (ev M_Mo_rankOf 0 0 [some (.ref x0), some (.int x2), none, none] [] h3) fun y9 h8 =>
                some (some (.int (((nI 4) * y9) + x3)), h8)))
               (some (some (.int (mI 1)), h3)))))))))
            (some (some (.int (mI 1)), h3)))))))) := (ev_eq _ _ _ _ _ _).trans rfl
theorem r_Mo_place_0 (x0 : Nat) (x1 : Int32) (x2 : Int32) (x3 : Int32) (h : MH) : ev M_Mo_place 0 0 [some (.ref x0), some (.int x1), some (.int x2), some (.int x3)] [] h =
    isC h x0 13 (rI (ev M_Mo_isBit 0 0 [some (.ref x0), some (.int x1), some (.int x2)] [] h) fun y2 h1 =>
    br (y2 = (nI 0))
      (some (some (.int (mI 1)), h1))
      (br (x3 = (nI 0))
         (isC h1 x0 13 (nnR (hR h1 x0 43) fun r3 =>
          isC h1 r3 20 (inA h1 r3 x2 (
          some (some (.int (hI h1 r3 (Int32.toNatClampNeg x2))), h1)))))
         (br (x3 = (nI 1))
            (isC h1 x0 13 (nnR (hR h1 x0 44) fun r4 =>
             isC h1 r4 20 (inA h1 r4 x2 (
             some (some (.int (hI h1 r4 (Int32.toNatClampNeg x2))), h1)))))
            (br (x3 = (nI 2))
               (isC h1 x0 13 (nnR (hR h1 x0 45) fun r5 =>
                isC h1 r5 20 (inA h1 r5 x2 (
                some (some (.int (hI h1 r5 (Int32.toNatClampNeg x2))), h1)))))
               (some (some (.int (mI 1)), h1)))))) := (ev_eq _ _ _ _ _ _).trans rfl
theorem r_Mo_blocks_0 (x0 : Nat) (x1 : Int32) (x2 : Int32) (h : MH) : ev M_Mo_blocks 0 0 [some (.ref x0), some (.int x1), some (.int x2), none, none] [] h =
    isC h x0 13 (nnR (hR h x0 12) fun r1 =>
    isC h r1 20 (inA h r1 (nI 0) (
    rI (ev M_Mo_isIn 0 0 [some (.int x2), some (.int (nI 0)), some (.int (hI h r1 (Int32.toNatClampNeg (nI 0))))] [] h) fun y3 h2 =>
    br (y3 = (nI 0))
      (some (some (.int (mI 1)), h2))
      (isC h2 x0 13 (rI (ev M_Mo_laysRel 0 0 [some (.ref x0), some (.int x1)] [] h2) fun y5 h4 =>
       br (y5 = (nI 0))
         (some (some (.int (mI 1)), h4))
         (br (x2 = (nI 0))
            (isC h4 x0 13 (nnR (hR h4 x0 38) fun r6 =>
             rI (ev M_Mo_manyIn 0 0 [some (.ref r6), some (.int ((nI 16) * x1)), none, none] [] h4) fun y8 h7 =>
             br ((nI 0) < y8)
               (some (some (.int (nI 1)), h7))
               (some (some (.int (nI 0)), h7))))
            (ev M_Mo_blocks 0 32 [some (.ref x0), none, some (.int x2), some (.int (nI 0)), some (.int (nI 0))] [] h4))))))) := (ev_eq _ _ _ _ _ _).trans rfl
theorem r_Mo_blocks_32 (x0 : Nat) (x2 : Int32) (x3 : Int32) (x4 : Int32) (h : MH) : ev M_Mo_blocks 0 32 [some (.ref x0), none, some (.int x2), some (.int x3), some (.int x4)] [] h =
    isC h x0 13 (
    br (x4 < (hI h x0 47))
      (isC h x0 13 (nnR (hR h x0 43) fun r1 =>
       isC h r1 20 (inA h r1 x4 (
       br ((hI h r1 (Int32.toNatClampNeg x4)) = x2)
         (isC h x0 13 (nnR (hR h x0 46) fun r2 =>
          isC h r2 20 (inA h r2 x4 (
          ev M_Mo_blocks 0 50 [some (.ref x0), none, some (.int x2), none, some (.int x4)] [(.int (hI h r2 (Int32.toNatClampNeg x4))), (.int x3)] h))))
         (ev M_Mo_blocks 0 50 [some (.ref x0), none, some (.int x2), none, some (.int x4)] [(.int (nI 0)), (.int x3)] h)))))
      (some (some (.int x3), h))) := (ev_eq _ _ _ _ _ _).trans rfl
theorem r_Mo_blocks_50 (x0 : Nat) (x2 : Int32) (x4 : Int32) (s0 : Int32) (s1 : Int32) (h : MH) : ev M_Mo_blocks 0 50 [some (.ref x0), none, some (.int x2), none, some (.int x4)] [(.int s1), (.int s0)] h =
    ev M_Mo_blocks 0 32 [some (.ref x0), none, some (.int x2), some (.int (s0 + s1)), some (.int (x4 + (nI 1)))] [] h := (ev_eq _ _ _ _ _ _).trans rfl
theorem r_Mo_laysDown_0 (x0 : Nat) (x1 : Int32) (h : MH) : ev M_Mo_laysDown 0 0 [some (.ref x0), some (.int x1), none] [] h =
    isC h x0 13 (
    let h1 := sI h x0 50 (nI 0)
    ev M_Mo_laysDown 0 6 [some (.ref x0), some (.int x1), some (.int (nI 0))] [] h1) := (ev_eq _ _ _ _ _ _).trans rfl
theorem r_Mo_laysDown_6 (x0 : Nat) (x1 : Int32) (x2 : Int32) (h : MH) : ev M_Mo_laysDown 0 6 [some (.ref x0), some (.int x1), some (.int x2)] [] h =
    br (x2 < (nI 16))
      (rI (ev M_Mo_isOf 0 0 [some (.int x1), some (.int x2)] [] h) fun y2 h1 =>
       br (y2 = (nI 0))
         (ev M_Mo_laysDown 0 27 [some (.ref x0), some (.int x1), some (.int x2)] [] h1)
         (isC h1 x0 13 (nnR (hR h1 x0 49) fun r3 =>
          isC h1 x0 13 (
          isC h1 r3 20 (inA h1 r3 (hI h1 x0 50) (
          let h4 := sI h1 r3 (Int32.toNatClampNeg (hI h1 x0 50)) x2
          isC h4 x0 13 (
          isC h4 x0 13 (
          let h5 := sI h4 x0 50 ((hI h4 x0 50) + (nI 1))
          ev M_Mo_laysDown 0 27 [some (.ref x0), some (.int x1), some (.int x2)] [] h5))))))))
      (isC h x0 13 (
       some (some (.int (hI h x0 50)), h))) := (ev_eq _ _ _ _ _ _).trans rfl
theorem r_Mo_laysDown_27 (x0 : Nat) (x1 : Int32) (x2 : Int32) (h : MH) : ev M_Mo_laysDown 0 27 [some (.ref x0), some (.int x1), some (.int x2)] [] h =
    ev M_Mo_laysDown 0 6 [some (.ref x0), some (.int x1), some (.int (x2 + (nI 1)))] [] h := (ev_eq _ _ _ _ _ _).trans rfl
theorem r_Mo_row_0 (x0 : Nat) (x1 : Int32) (x2 : Int32) (h : MH) : ev M_Mo_row 0 0 [some (.ref x0), some (.int x1), some (.int x2)] [] h =
    isC h x0 13 (
    let h1 := sI h x0 50 (nI 0)
    isC h1 x0 13 (rI (ev M_Mo_isRel 0 0 [some (.ref x0), some (.int x1)] [] h1) fun y3 h2 =>
    br (y3 = (nI 0))
      (some (some (.int (mI 1)), h2))
      (isC h2 x0 13 (rI (ev M_Mo_isNode 0 0 [some (.ref x0), some (.int x2)] [] h2) fun y5 h4 =>
       br (y5 = (nI 0))
         (some (some (.int (mI 1)), h4))
         (isC h4 x0 13 (rV (ev M_Mo_lays2 0 0 [some (.ref x0), none, none] [] h4) fun h6 =>
          isC h6 x0 13 (nnR (hR h6 x0 38) fun r7 =>
          isC h6 r7 20 (inA h6 r7 (((nI 16) * x1) + x2) (
          isC h6 x0 13 (rI (ev M_Mo_laysDown 0 0 [some (.ref x0), some (.int (hI h6 r7 (Int32.toNatClampNeg (((nI 16) * x1) + x2)))), none] [] h6) fun y9 h8 =>
          some (some (.int y9), h8))))))))))) := (ev_eq _ _ _ _ _ _).trans rfl
theorem r_Mo_columnSet_0 (x0 : Nat) (x1 : Int32) (x2 : Int32) (h : MH) : ev M_Mo_columnSet 0 0 [some (.ref x0), some (.int x1), some (.int x2), none, none] [] h =
    ev M_Mo_columnSet 0 5 [some (.ref x0), some (.int x1), some (.int x2), some (.int (nI 0)), some (.int (nI 0))] [] h := (ev_eq _ _ _ _ _ _).trans rfl
theorem r_Mo_columnSet_5 (x0 : Nat) (x1 : Int32) (x2 : Int32) (x3 : Int32) (x4 : Int32) (h : MH) : ev M_Mo_columnSet 0 5 [some (.ref x0), some (.int x1), some (.int x2), some (.int x3), some (.int x4)] [] h =
    br (x4 < (nI 16))
      (isC h x0 13 (nnR (hR h x0 38) fun r1 =>
       isC h r1 20 (inA h r1 (((nI 16) * x1) + x4) (
       rI (ev M_Mo_isOf 0 0 [some (.int (hI h r1 (Int32.toNatClampNeg (((nI 16) * x1) + x4)))), some (.int x2)] [] h) fun y3 h2 =>
       br (y3 = (nI 0))
         (ev M_Mo_columnSet 0 26 [some (.ref x0), some (.int x1), some (.int x2), none, some (.int x4)] [(.int (nI 0)), (.int x3)] h2)
         (ev M_Mo_columnSet 0 26 [some (.ref x0), some (.int x1), some (.int x2), none, some (.int x4)] [(.int ((nI 1) <<< (x4 &&& 31))), (.int x3)] h2)))))
      (some (some (.int x3), h)) := (ev_eq _ _ _ _ _ _).trans rfl
theorem r_Mo_columnSet_26 (x0 : Nat) (x1 : Int32) (x2 : Int32) (x4 : Int32) (s0 : Int32) (s1 : Int32) (h : MH) : ev M_Mo_columnSet 0 26 [some (.ref x0), some (.int x1), some (.int x2), none, some (.int x4)] [(.int s1), (.int s0)] h =
    ev M_Mo_columnSet 0 5 [some (.ref x0), some (.int x1), some (.int x2), some (.int (s0 ||| s1)), some (.int (x4 + (nI 1)))] [] h := (ev_eq _ _ _ _ _ _).trans rfl
theorem r_Mo_column_0 (x0 : Nat) (x1 : Int32) (x2 : Int32) (h : MH) : ev M_Mo_column 0 0 [some (.ref x0), some (.int x1), some (.int x2)] [] h =
    isC h x0 13 (
    let h1 := sI h x0 50 (nI 0)
    isC h1 x0 13 (rI (ev M_Mo_isRel 0 0 [some (.ref x0), some (.int x1)] [] h1) fun y3 h2 =>
    br (y3 = (nI 0))
      (some (some (.int (mI 1)), h2))
      (isC h2 x0 13 (rI (ev M_Mo_isNode 0 0 [some (.ref x0), some (.int x2)] [] h2) fun y5 h4 =>
       br (y5 = (nI 0))
         (some (some (.int (mI 1)), h4))
         (isC h4 x0 13 (rV (ev M_Mo_lays2 0 0 [some (.ref x0), none, none] [] h4) fun h6 =>
          isC h6 x0 13 (rI (ev M_Mo_columnSet 0 0 [some (.ref x0), some (.int x1), some (.int x2), none, none] [] h6) fun y8 h7 =>
          isC h7 x0 13 (rI (ev M_Mo_laysDown 0 0 [some (.ref x0), some (.int y8), none] [] h7) fun y10 h9 =>
          some (some (.int y10), h9))))))))) := (ev_eq _ _ _ _ _ _).trans rfl
set_option maxRecDepth 100000 in
set_option maxHeartbeats 4000000 in
theorem r_Mo_isRect_0 (x0 : Nat) (x1 : Int32) (x2 : Int32) (x3 : Int32) (x4 : Int32) (x5 : Int32) (h : MH) : ev M_Mo_isRect 0 0 [some (.ref x0), some (.int x1), some (.int x2), some (.int x3), some (.int x4), some (.int x5)] [] h =
    isC h x0 13 (rI (ev M_Mo_isRel 0 0 [some (.ref x0), some (.int x1)] [] h) fun y2 h1 =>
    br (y2 = (nI 0))
      (isZ (nI 0) (some (some (.int (nI 0)), h1)))
      (isC h1 x0 13 (rI (ev M_Mo_isNode 0 0 [some (.ref x0), some (.int x2)] [] h1) fun y4 h3 =>
       br (y4 = (nI 0))
         (isZ (nI 0) (some (some (.int (nI 0)), h3)))
         (isC h3 x0 13 (rI (ev M_Mo_isNode 0 0 [some (.ref x0), some (.int x3)] [] h3) fun y6 h5 =>
          br (y6 = (nI 0))
            (isZ (nI 0) (some (some (.int (nI 0)), h5)))
            (isC h5 x0 13 (rI (ev M_Mo_isNode 0 0 [some (.ref x0), some (.int x4)] [] h5) fun y8 h7 =>
             br (y8 = (nI 0))
               (isZ (nI 0) (some (some (.int (nI 0)), h7)))
               (isC h7 x0 13 (rI (ev M_Mo_isNode 0 0 [some (.ref x0), some (.int x5)] [] h7) fun y10 h9 =>
                br (y10 = (nI 0))
                  (isZ (nI 0) (some (some (.int (nI 0)), h9)))
                  (br (x3 < x2)
                     (isZ (nI 0) (some (some (.int (nI 0)), h9)))
                     (br (x5 < x4)
                        (isZ (nI 0) (some (some (.int (nI 0)), h9)))
                        (isZ (nI 1) (some (some (.int (nI 1)), h9)))))))))))))) := (ev_eq _ _ _ _ _ _).trans rfl
theorem r_Mo_rect_0 (x0 : Nat) (x1 : Int32) (x2 : Int32) (x3 : Int32) (x4 : Int32) (x5 : Int32) (h : MH) : ev M_Mo_rect 0 0 [some (.ref x0), some (.int x1), some (.int x2), some (.int x3), some (.int x4), some (.int x5), none, none, none] [] h =
    isC h x0 13 (rI (ev M_Mo_isRect 0 0 [some (.ref x0), some (.int x1), some (.int x2), some (.int x3), some (.int x4), some (.int x5)] [] h) fun y2 h1 =>
    br (y2 = (nI 0))
      (some (some (.int (mI 1)), h1))
      (isC h1 x0 13 (rV (ev M_Mo_lays2 0 0 [some (.ref x0), none, none] [] h1) fun h3 =>
       ev M_Mo_rect 0 25 [some (.ref x0), some (.int x1), none, some (.int x3), none, none, some (.int (nI 0)), some (.int (((nI 2) <<< (x5 &&& 31)) - ((nI 1) <<< (x4 &&& 31)))), some (.int x2)] [] h3))) := (ev_eq _ _ _ _ _ _).trans rfl
theorem r_Mo_rect_25 (x0 : Nat) (x1 : Int32) (x3 : Int32) (x6 : Int32) (x7 : Int32) (x8 : Int32) (h : MH) : ev M_Mo_rect 0 25 [some (.ref x0), some (.int x1), none, some (.int x3), none, none, some (.int x6), some (.int x7), some (.int x8)] [] h =
    br (x3 < x8)
      (some (some (.int x6), h))
      (isC h x0 13 (nnR (hR h x0 38) fun r1 =>
       isC h r1 20 (inA h r1 (((nI 16) * x1) + x8) (
       rI (ev M_Mo_bitsIn 0 0 [some (.int ((hI h r1 (Int32.toNatClampNeg (((nI 16) * x1) + x8))) &&& x7)), none, none] [] h) fun y3 h2 =>
       ev M_Mo_rect 0 25 [some (.ref x0), some (.int x1), none, some (.int x3), none, none, some (.int (x6 + y3)), some (.int x7), some (.int (x8 + (nI 1)))] [] h2)))) := (ev_eq _ _ _ _ _ _).trans rfl
theorem r_Mo_looks_0 (x0 : Nat) (x1 : Int32) (x2 : Int32) (x3 : Int32) (x4 : Int32) (x5 : Int32) (h : MH) : ev M_Mo_looks 0 0 [some (.ref x0), some (.int x1), some (.int x2), some (.int x3), some (.int x4), some (.int x5), none, none, none] [] h =
    isC h x0 13 (rI (ev M_Mo_isRect 0 0 [some (.ref x0), some (.int x1), some (.int x2), some (.int x3), some (.int x4), some (.int x5)] [] h) fun y2 h1 =>
    br (y2 = (nI 0))
      (some (some (.int (mI 1)), h1))
      (isC h1 x0 13 (rI (ev M_Mo_laysRel 0 0 [some (.ref x0), some (.int x1)] [] h1) fun y4 h3 =>
       ev M_Mo_looks 0 19 [some (.ref x0), none, some (.int x2), some (.int x3), some (.int x4), some (.int x5), some (.int (nI 0)), some (.int (nI 0)), none] [] h3))) := (ev_eq _ _ _ _ _ _).trans rfl
set_option maxRecDepth 100000 in
set_option maxHeartbeats 4000000 in
theorem r_Mo_looks_19 (x0 : Nat) (x2 : Int32) (x3 : Int32) (x4 : Int32) (x5 : Int32) (x6 : Int32) (x7 : Int32) (h : MH) : ev M_Mo_looks 0 19 [some (.ref x0), none, some (.int x2), some (.int x3), some (.int x4), some (.int x5), some (.int x6), some (.int x7), none] [] h =
    isC h x0 13 (
    br (x7 < (hI h x0 47))
      (isC h x0 13 (rI (ev M_Mo_wide 0 0 [some (.ref x0)] [] h) fun y2 h1 =>
       isC h1 x0 13 (nnR (hR h1 x0 43) fun r3 =>
       isC h1 r3 20 (inA h1 r3 x7 (
       isC h1 x0 13 (nnR (hR h1 x0 44) fun r4 =>
       isC h1 r4 20 (inA h1 r4 x7 (
       br (x3 < (hI h1 r4 (Int32.toNatClampNeg x7)))
         (ev M_Mo_looks 0 63 [some (.ref x0), none, some (.int x2), some (.int x3), some (.int x4), some (.int x5), none, some (.int x7), none] [(.int x6)] h1)
         (isC h1 x0 13 (nnR (hR h1 x0 44) fun r5 =>
          isC h1 r5 20 (inA h1 r5 x7 (
          br (x2 < ((hI h1 r5 (Int32.toNatClampNeg x7)) + (y2 >>> ((hI h1 r3 (Int32.toNatClampNeg x7)) &&& 31))))
            (isC h1 x0 13 (nnR (hR h1 x0 45) fun r6 =>
             isC h1 r6 20 (inA h1 r6 x7 (
             br (x5 < (hI h1 r6 (Int32.toNatClampNeg x7)))
               (ev M_Mo_looks 0 63 [some (.ref x0), none, some (.int x2), some (.int x3), some (.int x4), some (.int x5), none, some (.int x7), none] [(.int x6)] h1)
               (isC h1 x0 13 (nnR (hR h1 x0 45) fun r7 =>
                isC h1 r7 20 (inA h1 r7 x7 (
                br (x4 < ((hI h1 r7 (Int32.toNatClampNeg x7)) + (y2 >>> ((hI h1 r3 (Int32.toNatClampNeg x7)) &&& 31))))
                  (ev M_Mo_looks 0 65 [some (.ref x0), none, some (.int x2), some (.int x3), some (.int x4), some (.int x5), none, some (.int x7), none] [(.int (nI 1)), (.int x6)] h1)
                  (ev M_Mo_looks 0 63 [some (.ref x0), none, some (.int x2), some (.int x3), some (.int x4), some (.int x5), none, some (.int x7), none] [(.int x6)] h1)))))))))
            (ev M_Mo_looks 0 63 [some (.ref x0), none, some (.int x2), some (.int x3), some (.int x4), some (.int x5), none, some (.int x7), none] [(.int x6)] h1)))))))))))))
      (some (some (.int x6), h))) := (ev_eq _ _ _ _ _ _).trans rfl
theorem r_Mo_looks_63 (x0 : Nat) (x2 : Int32) (x3 : Int32) (x4 : Int32) (x5 : Int32) (x7 : Int32) (s0 : Int32) (h : MH) : ev M_Mo_looks 0 63 [some (.ref x0), none, some (.int x2), some (.int x3), some (.int x4), some (.int x5), none, some (.int x7), none] [(.int s0)] h =
    ev M_Mo_looks 0 65 [some (.ref x0), none, some (.int x2), some (.int x3), some (.int x4), some (.int x5), none, some (.int x7), none] [(.int (nI 0)), (.int s0)] h := (ev_eq _ _ _ _ _ _).trans rfl
theorem r_Mo_looks_65 (x0 : Nat) (x2 : Int32) (x3 : Int32) (x4 : Int32) (x5 : Int32) (x7 : Int32) (s0 : Int32) (s1 : Int32) (h : MH) : ev M_Mo_looks 0 65 [some (.ref x0), none, some (.int x2), some (.int x3), some (.int x4), some (.int x5), none, some (.int x7), none] [(.int s1), (.int s0)] h =
    ev M_Mo_looks 0 19 [some (.ref x0), none, some (.int x2), some (.int x3), some (.int x4), some (.int x5), some (.int (s0 + s1)), some (.int (x7 + (nI 1))), none] [] h := (ev_eq _ _ _ _ _ _).trans rfl
theorem r_Mo_hasSome_0 (x0 : Nat) (x1 : Int32) (x2 : Int32) (x3 : Int32) (x4 : Int32) (h : MH) : ev M_Mo_hasSome 0 0 [some (.ref x0), some (.int x1), some (.int x2), some (.int x3), some (.int x4)] [] h =
    isC h x0 13 (nnR (hR h x0 38) fun r1 =>
    rI (ev M_Mo_inBlock 0 0 [some (.ref r1), some (.int ((nI 16) * x1)), some (.int x2), some (.int x3), some (.int x4), none, none, none] [] h) fun y3 h2 =>
    br ((nI 0) < y3)
      (isZ (nI 1) (some (some (.int (nI 1)), h2)))
      (isZ (nI 0) (some (some (.int (nI 0)), h2)))) := (ev_eq _ _ _ _ _ _).trans rfl
theorem r_Mo_walks_0 (x0 : Nat) (x1 : Int32) (x2 : Int32) (h : MH) : ev M_Mo_walks 0 0 [some (.ref x0), some (.int x1), some (.int x2), none, none, none, none] [] h =
    isC h x0 13 (rI (ev M_Mo_laysTwo 0 0 [some (.ref x0), some (.int x1), some (.int x2)] [] h) fun y2 h1 =>
    br (y2 = (nI 0))
      (some (some (.int (mI 1)), h1))
      (isC h1 x0 13 (rI (ev M_Mo_wide 0 0 [some (.ref x0)] [] h1) fun y4 h3 =>
       ev M_Mo_walks 0 13 [some (.ref x0), some (.int x1), some (.int x2), some (.int (nI 1)), some (.int y4), none, none] [] h3))) := (ev_eq _ _ _ _ _ _).trans rfl
theorem r_Mo_walks_13 (x0 : Nat) (x1 : Int32) (x2 : Int32) (x3 : Int32) (x4 : Int32) (h : MH) : ev M_Mo_walks 0 13 [some (.ref x0), some (.int x1), some (.int x2), some (.int x3), some (.int x4), none, none] [] h =
    br ((nI 1) < x4)
      (ev M_Mo_walks 0 19 [some (.ref x0), some (.int x1), some (.int x2), some (.int x3), some (.int x4), some (.int (nI 0)), none] [] h)
      (some (some (.int x3), h)) := (ev_eq _ _ _ _ _ _).trans rfl
theorem r_Mo_walks_19 (x0 : Nat) (x1 : Int32) (x2 : Int32) (x3 : Int32) (x4 : Int32) (x5 : Int32) (h : MH) : ev M_Mo_walks 0 19 [some (.ref x0), some (.int x1), some (.int x2), some (.int x3), some (.int x4), some (.int x5), none] [] h =
    isC h x0 13 (rI (ev M_Mo_wide 0 0 [some (.ref x0)] [] h) fun y2 h1 =>
    br (x5 < y2)
      (ev M_Mo_walks 0 26 [some (.ref x0), some (.int x1), some (.int x2), some (.int x3), some (.int x4), some (.int x5), some (.int (nI 0))] [] h1)
      (nz (nI 2) (
       ev M_Mo_walks 0 13 [some (.ref x0), some (.int x1), some (.int x2), some (.int x3), some (.int (x4 / (nI 2))), none, none] [] h1))) := (ev_eq _ _ _ _ _ _).trans rfl
set_option maxRecDepth 100000 in
set_option maxHeartbeats 4000000 in
theorem r_Mo_walks_26 (x0 : Nat) (x1 : Int32) (x2 : Int32) (x3 : Int32) (x4 : Int32) (x5 : Int32) (x6 : Int32) (h : MH) : ev M_Mo_walks 0 26 [some (.ref x0), some (.int x1), some (.int x2), some (.int x3), some (.int x4), some (.int x5), some (.int x6)] [] h =
    isC h x0 13 (rI (ev M_Mo_wide 0 0 [some (.ref x0)] [] h) fun y2 h1 =>
    br (x6 < y2)
      (isC h1 x0 13 (rI (ev M_Mo_hasSome 0 0 [some (.ref x0), some (.int x1), some (.int x5), some (.int x6), some (.int x4)] [] h1) fun y4 h3 =>
       br (y4 = (nI 0))
         (ev M_Mo_walks 0 48 [some (.ref x0), some (.int x1), some (.int x2), none, some (.int x4), some (.int x5), some (.int x6)] [(.int x3)] h3)
         (isC h3 x0 13 (rI (ev M_Mo_hasSome 0 0 [some (.ref x0), some (.int x2), some (.int x5), some (.int x6), some (.int x4)] [] h3) fun y6 h5 =>
          br (y6 = (nI 0))
            (ev M_Mo_walks 0 48 [some (.ref x0), some (.int x1), some (.int x2), none, some (.int x4), some (.int x5), some (.int x6)] [(.int x3)] h5)
            (ev M_Mo_walks 0 50 [some (.ref x0), some (.int x1), some (.int x2), none, some (.int x4), some (.int x5), some (.int x6)] [(.int (nI 4)), (.int x3)] h5)))))
      (ev M_Mo_walks 0 19 [some (.ref x0), some (.int x1), some (.int x2), some (.int x3), some (.int x4), some (.int (x5 + x4)), none] [] h1)) := (ev_eq _ _ _ _ _ _).trans rfl
theorem r_Mo_walks_48 (x0 : Nat) (x1 : Int32) (x2 : Int32) (x4 : Int32) (x5 : Int32) (x6 : Int32) (s0 : Int32) (h : MH) : ev M_Mo_walks 0 48 [some (.ref x0), some (.int x1), some (.int x2), none, some (.int x4), some (.int x5), some (.int x6)] [(.int s0)] h =
    ev M_Mo_walks 0 50 [some (.ref x0), some (.int x1), some (.int x2), none, some (.int x4), some (.int x5), some (.int x6)] [(.int (nI 0)), (.int s0)] h := (ev_eq _ _ _ _ _ _).trans rfl
theorem r_Mo_walks_50 (x0 : Nat) (x1 : Int32) (x2 : Int32) (x4 : Int32) (x5 : Int32) (x6 : Int32) (s0 : Int32) (s1 : Int32) (h : MH) : ev M_Mo_walks 0 50 [some (.ref x0), some (.int x1), some (.int x2), none, some (.int x4), some (.int x5), some (.int x6)] [(.int s1), (.int s0)] h =
    ev M_Mo_walks 0 26 [some (.ref x0), some (.int x1), some (.int x2), some (.int (s0 + s1)), some (.int x4), some (.int x5), some (.int (x6 + x4))] [] h := (ev_eq _ _ _ _ _ _).trans rfl
theorem r_Mo_products_0 (x0 : Nat) (x1 : Int32) (x2 : Int32) (h : MH) : ev M_Mo_products 0 0 [some (.ref x0), some (.int x1), some (.int x2), none, none, none, none, none] [] h =
    isC h x0 13 (rI (ev M_Mo_laysTwo 0 0 [some (.ref x0), some (.int x1), some (.int x2)] [] h) fun y2 h1 =>
    br (y2 = (nI 0))
      (some (some (.int (mI 1)), h1))
      (isC h1 x0 13 (rI (ev M_Mo_wide 0 0 [some (.ref x0)] [] h1) fun y4 h3 =>
       ev M_Mo_products 0 13 [some (.ref x0), some (.int x1), some (.int x2), some (.int (nI 0)), some (.int y4), none, none, none] [] h3))) := (ev_eq _ _ _ _ _ _).trans rfl
theorem r_Mo_products_13 (x0 : Nat) (x1 : Int32) (x2 : Int32) (x3 : Int32) (x4 : Int32) (h : MH) : ev M_Mo_products 0 13 [some (.ref x0), some (.int x1), some (.int x2), some (.int x3), some (.int x4), none, none, none] [] h =
    br ((nI 0) < x4)
      (ev M_Mo_products 0 18 [some (.ref x0), some (.int x1), some (.int x2), some (.int x3), some (.int x4), some (.int (nI 0)), none, none] [] h)
      (some (some (.int x3), h)) := (ev_eq _ _ _ _ _ _).trans rfl
theorem r_Mo_products_18 (x0 : Nat) (x1 : Int32) (x2 : Int32) (x3 : Int32) (x4 : Int32) (x5 : Int32) (h : MH) : ev M_Mo_products 0 18 [some (.ref x0), some (.int x1), some (.int x2), some (.int x3), some (.int x4), some (.int x5), none, none] [] h =
    isC h x0 13 (rI (ev M_Mo_wide 0 0 [some (.ref x0)] [] h) fun y2 h1 =>
    br (x5 < y2)
      (ev M_Mo_products 0 25 [some (.ref x0), some (.int x1), some (.int x2), some (.int x3), some (.int x4), some (.int x5), some (.int (nI 0)), none] [] h1)
      (nz (nI 2) (
       ev M_Mo_products 0 13 [some (.ref x0), some (.int x1), some (.int x2), some (.int x3), some (.int (x4 / (nI 2))), none, none, none] [] h1))) := (ev_eq _ _ _ _ _ _).trans rfl
theorem r_Mo_products_25 (x0 : Nat) (x1 : Int32) (x2 : Int32) (x3 : Int32) (x4 : Int32) (x5 : Int32) (x6 : Int32) (h : MH) : ev M_Mo_products 0 25 [some (.ref x0), some (.int x1), some (.int x2), some (.int x3), some (.int x4), some (.int x5), some (.int x6), none] [] h =
    isC h x0 13 (rI (ev M_Mo_wide 0 0 [some (.ref x0)] [] h) fun y2 h1 =>
    br (x6 < y2)
      (ev M_Mo_products 0 32 [some (.ref x0), some (.int x1), some (.int x2), some (.int x3), some (.int x4), some (.int x5), some (.int x6), some (.int (nI 0))] [] h1)
      (ev M_Mo_products 0 18 [some (.ref x0), some (.int x1), some (.int x2), some (.int x3), some (.int x4), some (.int (x5 + x4)), none, none] [] h1)) := (ev_eq _ _ _ _ _ _).trans rfl
set_option maxRecDepth 100000 in
set_option maxHeartbeats 4000000 in
theorem r_Mo_products_32 (x0 : Nat) (x1 : Int32) (x2 : Int32) (x3 : Int32) (x4 : Int32) (x5 : Int32) (x6 : Int32) (x7 : Int32) (h : MH) : ev M_Mo_products 0 32 [some (.ref x0), some (.int x1), some (.int x2), some (.int x3), some (.int x4), some (.int x5), some (.int x6), some (.int x7)] [] h =
    isC h x0 13 (rI (ev M_Mo_wide 0 0 [some (.ref x0)] [] h) fun y2 h1 =>
    br (x7 < y2)
      (isC h1 x0 13 (rI (ev M_Mo_hasSome 0 0 [some (.ref x0), some (.int x1), some (.int x5), some (.int x6), some (.int x4)] [] h1) fun y4 h3 =>
       br (y4 = (nI 0))
         (ev M_Mo_products 0 54 [some (.ref x0), some (.int x1), some (.int x2), none, some (.int x4), some (.int x5), some (.int x6), some (.int x7)] [(.int x3)] h3)
         (isC h3 x0 13 (rI (ev M_Mo_hasSome 0 0 [some (.ref x0), some (.int x2), some (.int x6), some (.int x7), some (.int x4)] [] h3) fun y6 h5 =>
          br (y6 = (nI 0))
            (ev M_Mo_products 0 54 [some (.ref x0), some (.int x1), some (.int x2), none, some (.int x4), some (.int x5), some (.int x6), some (.int x7)] [(.int x3)] h5)
            (ev M_Mo_products 0 56 [some (.ref x0), some (.int x1), some (.int x2), none, some (.int x4), some (.int x5), some (.int x6), some (.int x7)] [(.int (nI 1)), (.int x3)] h5)))))
      (ev M_Mo_products 0 25 [some (.ref x0), some (.int x1), some (.int x2), some (.int x3), some (.int x4), some (.int x5), some (.int (x6 + x4)), none] [] h1)) := (ev_eq _ _ _ _ _ _).trans rfl
theorem r_Mo_products_54 (x0 : Nat) (x1 : Int32) (x2 : Int32) (x4 : Int32) (x5 : Int32) (x6 : Int32) (x7 : Int32) (s0 : Int32) (h : MH) : ev M_Mo_products 0 54 [some (.ref x0), some (.int x1), some (.int x2), none, some (.int x4), some (.int x5), some (.int x6), some (.int x7)] [(.int s0)] h =
    ev M_Mo_products 0 56 [some (.ref x0), some (.int x1), some (.int x2), none, some (.int x4), some (.int x5), some (.int x6), some (.int x7)] [(.int (nI 0)), (.int s0)] h := (ev_eq _ _ _ _ _ _).trans rfl
theorem r_Mo_products_56 (x0 : Nat) (x1 : Int32) (x2 : Int32) (x4 : Int32) (x5 : Int32) (x6 : Int32) (x7 : Int32) (s0 : Int32) (s1 : Int32) (h : MH) : ev M_Mo_products 0 56 [some (.ref x0), some (.int x1), some (.int x2), none, some (.int x4), some (.int x5), some (.int x6), some (.int x7)] [(.int s1), (.int s0)] h =
    ev M_Mo_products 0 32 [some (.ref x0), some (.int x1), some (.int x2), some (.int (s0 + s1)), some (.int x4), some (.int x5), some (.int x6), some (.int (x7 + x4))] [] h := (ev_eq _ _ _ _ _ _).trans rfl
set_option maxRecDepth 100000 in
set_option maxHeartbeats 4000000 in
theorem r_Mo_would_0 (x0 : Nat) (x1 : Int32) (x2 : Int32) (x3 : Int32) (x4 : Int32) (h : MH) : ev M_Mo_would 0 0 [some (.ref x0), some (.int x1), some (.int x2), some (.int x3), some (.int x4)] [] h =
    rI (ev M_Mo_isHow 0 0 [some (.int x1)] [] h) fun y2 h1 =>
    br (y2 = (nI 0))
      (some (some (.int (mI 1)), h1))
      (rI (ev M_Mo_isIn 0 0 [some (.int x4), some (.int (nI 0)), some (.int (nI 1))] [] h1) fun y4 h3 =>
       br (y4 = (nI 0))
         (some (some (.int (mI 1)), h3))
         (isC h3 x0 13 (rI (ev M_Mo_laysTwo 0 0 [some (.ref x0), some (.int x2), some (.int x3)] [] h3) fun y6 h5 =>
          br (y6 = (nI 0))
            (some (some (.int (mI 1)), h5))
            (isC h5 x0 13 (rV (ev M_Mo_makes 0 0 [some (.ref x0), some (.int x1), some (.int x2), some (.int x3), none, none] [] h5) fun h7 =>
             br (x4 = (nI 0))
               (isC h7 x0 13 (nnR (hR h7 x0 40) fun r8 =>
                rI (ev M_Mo_manyIn 0 0 [some (.ref r8), some (.int (nI 0)), none, none] [] h7) fun y10 h9 =>
                some (some (.int y10), h9)))
               (isC h7 x0 13 (nnR (hR h7 x0 40) fun r11 =>
                isC h7 x0 13 (rV (ev M_Mo_laysTree 0 0 [some (.ref x0), some (.ref r11), some (.int (nI 0)), none] [] h7) fun h12 =>
                isC h12 x0 13 (
                some (some (.int (hI h12 x0 47)), h12)))))))))) := (ev_eq _ _ _ _ _ _).trans rfl
theorem r_Mo_pair_0 (x0 : Nat) (x1 : Int32) (x2 : Int32) (x3 : Int32) (h : MH) : ev M_Mo_pair 0 0 [some (.ref x0), some (.int x1), some (.int x2), some (.int x3), none, none, none] [] h =
    isC h x0 13 (rI (ev M_Mo_isRel 0 0 [some (.ref x0), some (.int x1)] [] h) fun y2 h1 =>
    br (y2 = (nI 0))
      (some (some (.int (mI 1)), h1))
      (br (x2 < (nI 0))
         (some (some (.int (mI 1)), h1))
         (rI (ev M_Mo_isIn 0 0 [some (.int x3), some (.int (nI 0)), some (.int (nI 1))] [] h1) fun y4 h3 =>
          br (y4 = (nI 0))
            (some (some (.int (mI 1)), h3))
            (isC h3 x0 13 (rV (ev M_Mo_lays2 0 0 [some (.ref x0), none, none] [] h3) fun h5 =>
             ev M_Mo_pair 0 20 [some (.ref x0), some (.int x1), some (.int x2), some (.int x3), some (.int (nI 0)), some (.int (nI 0)), none] [] h5))))) := (ev_eq _ _ _ _ _ _).trans rfl
theorem r_Mo_pair_20 (x0 : Nat) (x1 : Int32) (x2 : Int32) (x3 : Int32) (x4 : Int32) (x5 : Int32) (h : MH) : ev M_Mo_pair 0 20 [some (.ref x0), some (.int x1), some (.int x2), some (.int x3), some (.int x4), some (.int x5), none] [] h =
    br (x5 < (nI 16))
      (ev M_Mo_pair 0 26 [some (.ref x0), some (.int x1), some (.int x2), some (.int x3), some (.int x4), some (.int x5), some (.int (nI 0))] [] h)
      (some (some (.int (mI 1)), h)) := (ev_eq _ _ _ _ _ _).trans rfl
theorem r_Mo_pair_26 (x0 : Nat) (x1 : Int32) (x2 : Int32) (x3 : Int32) (x4 : Int32) (x5 : Int32) (x6 : Int32) (h : MH) : ev M_Mo_pair 0 26 [some (.ref x0), some (.int x1), some (.int x2), some (.int x3), some (.int x4), some (.int x5), some (.int x6)] [] h =
    br (x6 < (nI 16))
      (isC h x0 13 (nnR (hR h x0 38) fun r1 =>
       isC h r1 20 (inA h r1 (((nI 16) * x1) + x5) (
       rI (ev M_Mo_isOf 0 0 [some (.int (hI h r1 (Int32.toNatClampNeg (((nI 16) * x1) + x5)))), some (.int x6)] [] h) fun y3 h2 =>
       br (y3 = (nI 0))
         (ev M_Mo_pair 0 52 [some (.ref x0), some (.int x1), some (.int x2), some (.int x3), some (.int x4), some (.int x5), some (.int x6)] [] h2)
         (br (x4 = x2)
            (br (x3 = (nI 0))
               (some (some (.int x5), h2))
               (some (some (.int x6), h2)))
            (ev M_Mo_pair 0 52 [some (.ref x0), some (.int x1), some (.int x2), some (.int x3), some (.int (x4 + (nI 1))), some (.int x5), some (.int x6)] [] h2))))))
      (ev M_Mo_pair 0 20 [some (.ref x0), some (.int x1), some (.int x2), some (.int x3), some (.int x4), some (.int (x5 + (nI 1))), none] [] h) := (ev_eq _ _ _ _ _ _).trans rfl
theorem r_Mo_pair_52 (x0 : Nat) (x1 : Int32) (x2 : Int32) (x3 : Int32) (x4 : Int32) (x5 : Int32) (x6 : Int32) (h : MH) : ev M_Mo_pair 0 52 [some (.ref x0), some (.int x1), some (.int x2), some (.int x3), some (.int x4), some (.int x5), some (.int x6)] [] h =
    ev M_Mo_pair 0 26 [some (.ref x0), some (.int x1), some (.int x2), some (.int x3), some (.int x4), some (.int x5), some (.int (x6 + (nI 1)))] [] h := (ev_eq _ _ _ _ _ _).trans rfl
theorem r_Mo_unlike_0 (x0 : Nat) (x1 : Int32) (x2 : Int32) (h : MH) : ev M_Mo_unlike 0 0 [some (.ref x0), some (.int x1), some (.int x2), none, none] [] h =
    isC h x0 13 (rI (ev M_Mo_laysTwo 0 0 [some (.ref x0), some (.int x1), some (.int x2)] [] h) fun y2 h1 =>
    br (y2 = (nI 0))
      (some (some (.int (mI 1)), h1))
      (ev M_Mo_unlike 0 12 [some (.ref x0), some (.int x1), some (.int x2), some (.int (nI 0)), some (.int (nI 0))] [] h1)) := (ev_eq _ _ _ _ _ _).trans rfl
theorem r_Mo_unlike_12 (x0 : Nat) (x1 : Int32) (x2 : Int32) (x3 : Int32) (x4 : Int32) (h : MH) : ev M_Mo_unlike 0 12 [some (.ref x0), some (.int x1), some (.int x2), some (.int x3), some (.int x4)] [] h =
    br (x4 < (nI 16))
      (isC h x0 13 (nnR (hR h x0 38) fun r1 =>
       isC h r1 20 (inA h r1 (((nI 16) * x1) + x4) (
       isC h x0 13 (nnR (hR h x0 38) fun r2 =>
       isC h r2 20 (inA h r2 (((nI 16) * x2) + x4) (
       rI (ev M_Mo_bitsIn 0 0 [some (.int ((hI h r1 (Int32.toNatClampNeg (((nI 16) * x1) + x4))) ^^^ (hI h r2 (Int32.toNatClampNeg (((nI 16) * x2) + x4))))), none, none] [] h) fun y4 h3 =>
       ev M_Mo_unlike 0 12 [some (.ref x0), some (.int x1), some (.int x2), some (.int (x3 + y4)), some (.int (x4 + (nI 1)))] [] h3)))))))
      (some (some (.int x3), h)) := (ev_eq _ _ _ _ _ _).trans rfl
theorem r_Mo_within_0 (x0 : Nat) (x1 : Int32) (x2 : Int32) (h : MH) : ev M_Mo_within 0 0 [some (.ref x0), some (.int x1), some (.int x2), none, none] [] h =
    isC h x0 13 (rI (ev M_Mo_laysTwo 0 0 [some (.ref x0), some (.int x1), some (.int x2)] [] h) fun y2 h1 =>
    br (y2 = (nI 0))
      (some (some (.int (mI 1)), h1))
      (ev M_Mo_within 0 12 [some (.ref x0), some (.int x1), some (.int x2), some (.int (nI 0)), some (.int (nI 0))] [] h1)) := (ev_eq _ _ _ _ _ _).trans rfl
theorem r_Mo_within_12 (x0 : Nat) (x1 : Int32) (x2 : Int32) (x3 : Int32) (x4 : Int32) (h : MH) : ev M_Mo_within 0 12 [some (.ref x0), some (.int x1), some (.int x2), some (.int x3), some (.int x4)] [] h =
    br (x4 < (nI 16))
      (isC h x0 13 (nnR (hR h x0 38) fun r1 =>
       isC h r1 20 (inA h r1 (((nI 16) * x1) + x4) (
       isC h x0 13 (nnR (hR h x0 38) fun r2 =>
       isC h r2 20 (inA h r2 (((nI 16) * x2) + x4) (
       ev M_Mo_within 0 12 [some (.ref x0), some (.int x1), some (.int x2), some (.int (x3 ||| ((hI h r1 (Int32.toNatClampNeg (((nI 16) * x1) + x4))) &&& ((hI h r2 (Int32.toNatClampNeg (((nI 16) * x2) + x4))) ^^^ (mI 1))))), some (.int (x4 + (nI 1)))] [] h)))))))
      (br (x3 = (nI 0))
         (ev M_Mo_within 0 45 [none, none, none, none, none] [(.int (nI 1))] h)
         (ev M_Mo_within 0 45 [none, none, none, none, none] [(.int (nI 0))] h)) := (ev_eq _ _ _ _ _ _).trans rfl
theorem r_Mo_within_45 (s0 : Int32) (h : MH) : ev M_Mo_within 0 45 [none, none, none, none, none] [(.int s0)] h =
    rI (ev M_Mo_truth 0 0 [some (.int s0)] [] h) fun y2 h1 =>
    some (some (.int y2), h1) := (ev_eq _ _ _ _ _ _).trans rfl
theorem r_Mo_busiest_0 (x0 : Nat) (x1 : Int32) (x2 : Int32) (h : MH) : ev M_Mo_busiest 0 0 [some (.ref x0), some (.int x1), some (.int x2), none, none, none, none] [] h =
    isC h x0 13 (rI (ev M_Mo_isRel 0 0 [some (.ref x0), some (.int x1)] [] h) fun y2 h1 =>
    br (y2 = (nI 0))
      (some (some (.int (mI 1)), h1))
      (rI (ev M_Mo_isIn 0 0 [some (.int x2), some (.int (nI 0)), some (.int (nI 1))] [] h1) fun y4 h3 =>
       br (y4 = (nI 0))
         (some (some (.int (mI 1)), h3))
         (isC h3 x0 13 (rV (ev M_Mo_lays2 0 0 [some (.ref x0), none, none] [] h3) fun h5 =>
          ev M_Mo_busiest 0 20 [some (.ref x0), some (.int x1), some (.int x2), some (.int (nI 0)), some (.int (nI 0)), some (.int (nI 0)), none] [] h5)))) := (ev_eq _ _ _ _ _ _).trans rfl
theorem r_Mo_busiest_20 (x0 : Nat) (x1 : Int32) (x2 : Int32) (x3 : Int32) (x4 : Int32) (x5 : Int32) (h : MH) : ev M_Mo_busiest 0 20 [some (.ref x0), some (.int x1), some (.int x2), some (.int x3), some (.int x4), some (.int x5), none] [] h =
    isC h x0 13 (rI (ev M_Mo_wide 0 0 [some (.ref x0)] [] h) fun y2 h1 =>
    br (x5 < y2)
      (br (x2 = (nI 0))
         (isC h1 x0 13 (nnR (hR h1 x0 38) fun r3 =>
          isC h1 r3 20 (inA h1 r3 (((nI 16) * x1) + x5) (
          ev M_Mo_busiest 0 40 [some (.ref x0), some (.int x1), some (.int x2), some (.int x3), some (.int x4), some (.int x5), none] [(.int (hI h1 r3 (Int32.toNatClampNeg (((nI 16) * x1) + x5))))] h1))))
         (isC h1 x0 13 (rI (ev M_Mo_columnSet 0 0 [some (.ref x0), some (.int x1), some (.int x5), none, none] [] h1) fun y5 h4 =>
          ev M_Mo_busiest 0 40 [some (.ref x0), some (.int x1), some (.int x2), some (.int x3), some (.int x4), some (.int x5), none] [(.int y5)] h4)))
      (some (some (.int x3), h1))) := (ev_eq _ _ _ _ _ _).trans rfl
theorem r_Mo_busiest_40 (x0 : Nat) (x1 : Int32) (x2 : Int32) (x3 : Int32) (x4 : Int32) (x5 : Int32) (s0 : Int32) (h : MH) : ev M_Mo_busiest 0 40 [some (.ref x0), some (.int x1), some (.int x2), some (.int x3), some (.int x4), some (.int x5), none] [(.int s0)] h =
    rI (ev M_Mo_bitsIn 0 0 [some (.int s0), none, none] [] h) fun y2 h1 =>
    br (x4 < y2)
      (ev M_Mo_busiest 0 51 [some (.ref x0), some (.int x1), some (.int x2), some (.int x5), some (.int y2), some (.int x5), none] [] h1)
      (ev M_Mo_busiest 0 51 [some (.ref x0), some (.int x1), some (.int x2), some (.int x3), some (.int x4), some (.int x5), none] [] h1) := (ev_eq _ _ _ _ _ _).trans rfl
theorem r_Mo_busiest_51 (x0 : Nat) (x1 : Int32) (x2 : Int32) (x3 : Int32) (x4 : Int32) (x5 : Int32) (h : MH) : ev M_Mo_busiest 0 51 [some (.ref x0), some (.int x1), some (.int x2), some (.int x3), some (.int x4), some (.int x5), none] [] h =
    ev M_Mo_busiest 0 20 [some (.ref x0), some (.int x1), some (.int x2), some (.int x3), some (.int x4), some (.int (x5 + (nI 1))), none] [] h := (ev_eq _ _ _ _ _ _).trans rfl
set_option maxRecDepth 100000 in
set_option maxHeartbeats 4000000 in
theorem r_Mo_densest_0 (x0 : Nat) (x1 : Int32) (x2 : Int32) (x3 : Int32) (h : MH) : ev M_Mo_densest 0 0 [some (.ref x0), some (.int x1), some (.int x2), some (.int x3), none, none, none, none, none, none, none] [] h =
    isC h x0 13 (rI (ev M_Mo_isRel 0 0 [some (.ref x0), some (.int x1)] [] h) fun y2 h1 =>
    br (y2 = (nI 0))
      (some (some (.int (mI 1)), h1))
      (isC h1 x0 13 (nnR (hR h1 x0 12) fun r3 =>
       isC h1 r3 20 (inA h1 r3 (nI 0) (
       rI (ev M_Mo_isIn 0 0 [some (.int x2), some (.int (nI 0)), some (.int (hI h1 r3 (Int32.toNatClampNeg (nI 0))))] [] h1) fun y5 h4 =>
       br (y5 = (nI 0))
         (some (some (.int (mI 1)), h4))
         (rI (ev M_Mo_isIn 0 0 [some (.int x3), some (.int (nI 0)), some (.int (nI 2))] [] h4) fun y7 h6 =>
          br (y7 = (nI 0))
            (some (some (.int (mI 1)), h6))
            (isC h6 x0 13 (rV (ev M_Mo_lays2 0 0 [some (.ref x0), none, none] [] h6) fun h8 =>
             isC h8 x0 13 (rI (ev M_Mo_wide 0 0 [some (.ref x0)] [] h8) fun y10 h9 =>
             ev M_Mo_densest 0 35 [some (.ref x0), some (.int x1), none, some (.int x3), some (.int (y10 >>> (x2 &&& 31))), some (.int (nI 0)), some (.int (nI 0)), some (.int (nI 0)), some (.int (nI 0)), none, none] [] h9))))))))) := (ev_eq _ _ _ _ _ _).trans rfl
theorem r_Mo_densest_35 (x0 : Nat) (x1 : Int32) (x3 : Int32) (x4 : Int32) (x5 : Int32) (x6 : Int32) (x7 : Int32) (x8 : Int32) (h : MH) : ev M_Mo_densest 0 35 [some (.ref x0), some (.int x1), none, some (.int x3), some (.int x4), some (.int x5), some (.int x6), some (.int x7), some (.int x8), none, none] [] h =
    isC h x0 13 (rI (ev M_Mo_wide 0 0 [some (.ref x0)] [] h) fun y2 h1 =>
    br (x8 < y2)
      (ev M_Mo_densest 0 42 [some (.ref x0), some (.int x1), none, some (.int x3), some (.int x4), some (.int x5), some (.int x6), some (.int x7), some (.int x8), some (.int (nI 0)), none] [] h1)
      (br (x3 = (nI 0))
         (some (some (.int x5), h1))
         (br (x3 = (nI 1))
            (some (some (.int x6), h1))
            (some (some (.int x7), h1))))) := (ev_eq _ _ _ _ _ _).trans rfl
set_option maxRecDepth 100000 in
set_option maxHeartbeats 4000000 in
theorem r_Mo_densest_42 (x0 : Nat) (x1 : Int32) (x3 : Int32) (x4 : Int32) (x5 : Int32) (x6 : Int32) (x7 : Int32) (x8 : Int32) (x9 : Int32) (h : MH) : ev M_Mo_densest 0 42 [some (.ref x0), some (.int x1), none, some (.int x3), some (.int x4), some (.int x5), some (.int x6), some (.int x7), some (.int x8), some (.int x9), none] [] h =
    isC h x0 13 (rI (ev M_Mo_wide 0 0 [some (.ref x0)] [] h) fun y2 h1 =>
    br (x9 < y2)
      (isC h1 x0 13 (nnR (hR h1 x0 38) fun r3 =>
       rI (ev M_Mo_inBlock 0 0 [some (.ref r3), some (.int ((nI 16) * x1)), some (.int x8), some (.int x9), some (.int x4), none, none, none] [] h1) fun y5 h4 =>
       br (x7 < y5)
         (ev M_Mo_densest 0 67 [some (.ref x0), some (.int x1), none, some (.int x3), some (.int x4), some (.int x8), some (.int x9), some (.int y5), some (.int x8), some (.int x9), none] [] h4)
         (ev M_Mo_densest 0 67 [some (.ref x0), some (.int x1), none, some (.int x3), some (.int x4), some (.int x5), some (.int x6), some (.int x7), some (.int x8), some (.int x9), none] [] h4)))
      (ev M_Mo_densest 0 35 [some (.ref x0), some (.int x1), none, some (.int x3), some (.int x4), some (.int x5), some (.int x6), some (.int x7), some (.int (x8 + x4)), none, none] [] h1)) := (ev_eq _ _ _ _ _ _).trans rfl
theorem r_Mo_densest_67 (x0 : Nat) (x1 : Int32) (x3 : Int32) (x4 : Int32) (x5 : Int32) (x6 : Int32) (x7 : Int32) (x8 : Int32) (x9 : Int32) (h : MH) : ev M_Mo_densest 0 67 [some (.ref x0), some (.int x1), none, some (.int x3), some (.int x4), some (.int x5), some (.int x6), some (.int x7), some (.int x8), some (.int x9), none] [] h =
    ev M_Mo_densest 0 42 [some (.ref x0), some (.int x1), none, some (.int x3), some (.int x4), some (.int x5), some (.int x6), some (.int x7), some (.int x8), some (.int (x9 + x4)), none] [] h := (ev_eq _ _ _ _ _ _).trans rfl
theorem r_Mo_reachedFrom_0 (x0 : Nat) (x1 : Int32) (x2 : Int32) (h : MH) : ev M_Mo_reachedFrom 0 0 [some (.ref x0), some (.int x1), some (.int x2), none, none] [] h =
    ev M_Mo_reachedFrom 0 7 [some (.ref x0), some (.int x1), none, some (.int ((nI 1) <<< (x2 &&& 31))), some (.int (nI 0))] [] h := (ev_eq _ _ _ _ _ _).trans rfl
theorem r_Mo_reachedFrom_7 (x0 : Nat) (x1 : Int32) (x3 : Int32) (x4 : Int32) (h : MH) : ev M_Mo_reachedFrom 0 7 [some (.ref x0), some (.int x1), none, some (.int x3), some (.int x4)] [] h =
    br (x3 = x4)
      (some (some (.int x3), h))
      (isC h x0 13 (nnR (hR h x0 38) fun r1 =>
       rI (ev M_Mo_through 0 0 [some (.int x3), some (.ref r1), some (.int ((nI 16) * x1)), none, none] [] h) fun y3 h2 =>
       ev M_Mo_reachedFrom 0 7 [some (.ref x0), some (.int x1), none, some (.int (x3 ||| y3)), some (.int x3)] [] h2)) := (ev_eq _ _ _ _ _ _).trans rfl
theorem r_Mo_reached_0 (x0 : Nat) (x1 : Int32) (x2 : Int32) (h : MH) : ev M_Mo_reached 0 0 [some (.ref x0), some (.int x1), some (.int x2)] [] h =
    isC h x0 13 (rI (ev M_Mo_isRel 0 0 [some (.ref x0), some (.int x1)] [] h) fun y2 h1 =>
    br (y2 = (nI 0))
      (some (some (.int (mI 1)), h1))
      (isC h1 x0 13 (rI (ev M_Mo_isNode 0 0 [some (.ref x0), some (.int x2)] [] h1) fun y4 h3 =>
       br (y4 = (nI 0))
         (some (some (.int (mI 1)), h3))
         (isC h3 x0 13 (rV (ev M_Mo_lays2 0 0 [some (.ref x0), none, none] [] h3) fun h5 =>
          isC h5 x0 13 (rI (ev M_Mo_reachedFrom 0 0 [some (.ref x0), some (.int x1), some (.int x2), none, none] [] h5) fun y7 h6 =>
          some (some (.int y7), h6))))))) := (ev_eq _ _ _ _ _ _).trans rfl
theorem r_Mo_far_0 (x0 : Nat) (x1 : Int32) (x2 : Int32) (x3 : Int32) (h : MH) : ev M_Mo_far 0 0 [some (.ref x0), some (.int x1), some (.int x2), some (.int x3), none, none] [] h =
    isC h x0 13 (rI (ev M_Mo_arePair 0 0 [some (.ref x0), some (.int x1), some (.int x2), some (.int x3)] [] h) fun y2 h1 =>
    br (y2 = (nI 0))
      (some (some (.int (mI 1)), h1))
      (isC h1 x0 13 (rV (ev M_Mo_lays2 0 0 [some (.ref x0), none, none] [] h1) fun h3 =>
       ev M_Mo_far 0 17 [some (.ref x0), some (.int x1), none, some (.int x3), some (.int ((nI 1) <<< (x2 &&& 31))), some (.int (nI 0))] [] h3))) := (ev_eq _ _ _ _ _ _).trans rfl
theorem r_Mo_far_17 (x0 : Nat) (x1 : Int32) (x3 : Int32) (x4 : Int32) (x5 : Int32) (h : MH) : ev M_Mo_far 0 17 [some (.ref x0), some (.int x1), none, some (.int x3), some (.int x4), some (.int x5)] [] h =
    br (x5 < (nI 16))
      (rI (ev M_Mo_isOf 0 0 [some (.int x4), some (.int x3)] [] h) fun y2 h1 =>
       br (y2 = (nI 0))
         (isC h1 x0 13 (nnR (hR h1 x0 38) fun r3 =>
          rI (ev M_Mo_through 0 0 [some (.int x4), some (.ref r3), some (.int ((nI 16) * x1)), none, none] [] h1) fun y5 h4 =>
          ev M_Mo_far 0 17 [some (.ref x0), some (.int x1), none, some (.int x3), some (.int (x4 ||| y5)), some (.int (x5 + (nI 1)))] [] h4))
         (some (some (.int x5), h1)))
      (some (some (.int (mI 1)), h)) := (ev_eq _ _ _ _ _ _).trans rfl
theorem r_Mo_mutual_0 (x0 : Nat) (x1 : Int32) (x2 : Int32) (h : MH) : ev M_Mo_mutual 0 0 [some (.ref x0), some (.int x1), some (.int x2), none, none, none] [] h =
    isC h x0 13 (rI (ev M_Mo_isRel 0 0 [some (.ref x0), some (.int x1)] [] h) fun y2 h1 =>
    br (y2 = (nI 0))
      (some (some (.int (mI 1)), h1))
      (isC h1 x0 13 (rI (ev M_Mo_isNode 0 0 [some (.ref x0), some (.int x2)] [] h1) fun y4 h3 =>
       br (y4 = (nI 0))
         (some (some (.int (mI 1)), h3))
         (isC h3 x0 13 (rV (ev M_Mo_lays2 0 0 [some (.ref x0), none, none] [] h3) fun h5 =>
          isC h5 x0 13 (rI (ev M_Mo_reachedFrom 0 0 [some (.ref x0), some (.int x1), some (.int x2), none, none] [] h5) fun y7 h6 =>
          ev M_Mo_mutual 0 22 [some (.ref x0), some (.int x1), some (.int x2), some (.int y7), some (.int (nI 0)), some (.int (nI 0))] [] h6)))))) := (ev_eq _ _ _ _ _ _).trans rfl
theorem r_Mo_mutual_22 (x0 : Nat) (x1 : Int32) (x2 : Int32) (x3 : Int32) (x4 : Int32) (x5 : Int32) (h : MH) : ev M_Mo_mutual 0 22 [some (.ref x0), some (.int x1), some (.int x2), some (.int x3), some (.int x4), some (.int x5)] [] h =
    isC h x0 13 (rI (ev M_Mo_wide 0 0 [some (.ref x0)] [] h) fun y2 h1 =>
    br (x5 < y2)
      (rI (ev M_Mo_isOf 0 0 [some (.int x3), some (.int x5)] [] h1) fun y4 h3 =>
       br (y4 = (nI 0))
         (ev M_Mo_mutual 0 43 [some (.ref x0), some (.int x1), some (.int x2), some (.int x3), none, some (.int x5)] [(.int x4)] h3)
         (isC h3 x0 13 (rI (ev M_Mo_reachedFrom 0 0 [some (.ref x0), some (.int x1), some (.int x5), none, none] [] h3) fun y6 h5 =>
          rI (ev M_Mo_isOf 0 0 [some (.int y6), some (.int x2)] [] h5) fun y8 h7 =>
          br (y8 = (nI 0))
            (ev M_Mo_mutual 0 43 [some (.ref x0), some (.int x1), some (.int x2), some (.int x3), none, some (.int x5)] [(.int x4)] h7)
            (ev M_Mo_mutual 0 45 [some (.ref x0), some (.int x1), some (.int x2), some (.int x3), none, some (.int x5)] [(.int ((nI 1) <<< (x5 &&& 31))), (.int x4)] h7))))
      (some (some (.int x4), h1))) := (ev_eq _ _ _ _ _ _).trans rfl
theorem r_Mo_mutual_43 (x0 : Nat) (x1 : Int32) (x2 : Int32) (x3 : Int32) (x5 : Int32) (s0 : Int32) (h : MH) : ev M_Mo_mutual 0 43 [some (.ref x0), some (.int x1), some (.int x2), some (.int x3), none, some (.int x5)] [(.int s0)] h =
    ev M_Mo_mutual 0 45 [some (.ref x0), some (.int x1), some (.int x2), some (.int x3), none, some (.int x5)] [(.int (nI 0)), (.int s0)] h := (ev_eq _ _ _ _ _ _).trans rfl
theorem r_Mo_mutual_45 (x0 : Nat) (x1 : Int32) (x2 : Int32) (x3 : Int32) (x5 : Int32) (s0 : Int32) (s1 : Int32) (h : MH) : ev M_Mo_mutual 0 45 [some (.ref x0), some (.int x1), some (.int x2), some (.int x3), none, some (.int x5)] [(.int s1), (.int s0)] h =
    ev M_Mo_mutual 0 22 [some (.ref x0), some (.int x1), some (.int x2), some (.int x3), some (.int (s0 ||| s1)), some (.int (x5 + (nI 1)))] [] h := (ev_eq _ _ _ _ _ _).trans rfl
theorem r_Mo_closure_0 (x0 : Nat) (x1 : Int32) (h : MH) : ev M_Mo_closure 0 0 [some (.ref x0), some (.int x1), none, none, none, none] [] h =
    isC h x0 13 (rI (ev M_Mo_isRel 0 0 [some (.ref x0), some (.int x1)] [] h) fun y2 h1 =>
    br (y2 = (nI 0))
      (some (some (.int (mI 1)), h1))
      (isC h1 x0 13 (rV (ev M_Mo_lays2 0 0 [some (.ref x0), none, none] [] h1) fun h3 =>
       ev M_Mo_closure 0 13 [some (.ref x0), some (.int x1), some (.int (nI 0)), some (.int (nI 0)), none, none] [] h3))) := (ev_eq _ _ _ _ _ _).trans rfl
theorem r_Mo_closure_13 (x0 : Nat) (x1 : Int32) (x2 : Int32) (x3 : Int32) (h : MH) : ev M_Mo_closure 0 13 [some (.ref x0), some (.int x1), some (.int x2), some (.int x3), none, none] [] h =
    isC h x0 13 (rI (ev M_Mo_wide 0 0 [some (.ref x0)] [] h) fun y2 h1 =>
    br (x3 < y2)
      (ev M_Mo_closure 0 22 [some (.ref x0), some (.int x1), some (.int x2), some (.int x3), some (.int (nI 0)), some (.int (nI 0))] [] h1)
      (some (some (.int x2), h1))) := (ev_eq _ _ _ _ _ _).trans rfl
set_option maxRecDepth 100000 in
set_option maxHeartbeats 4000000 in
theorem r_Mo_closure_22 (x0 : Nat) (x1 : Int32) (x2 : Int32) (x3 : Int32) (x4 : Int32) (x5 : Int32) (h : MH) : ev M_Mo_closure 0 22 [some (.ref x0), some (.int x1), some (.int x2), some (.int x3), some (.int x4), some (.int x5)] [] h =
    isC h x0 13 (rI (ev M_Mo_wide 0 0 [some (.ref x0)] [] h) fun y2 h1 =>
    br (x5 < y2)
      (isC h1 x0 13 (nnR (hR h1 x0 38) fun r3 =>
       isC h1 r3 20 (inA h1 r3 (((nI 16) * x1) + x3) (
       rI (ev M_Mo_isOf 0 0 [some (.int (hI h1 r3 (Int32.toNatClampNeg (((nI 16) * x1) + x3)))), some (.int x5)] [] h1) fun y5 h4 =>
       br (y5 = (nI 0))
         (ev M_Mo_closure 0 45 [some (.ref x0), some (.int x1), some (.int x2), some (.int x3), none, some (.int x5)] [(.int (nI 0)), (.int x4)] h4)
         (isC h4 x0 13 (rI (ev M_Mo_reachedFrom 0 0 [some (.ref x0), some (.int x1), some (.int x5), none, none] [] h4) fun y7 h6 =>
          ev M_Mo_closure 0 45 [some (.ref x0), some (.int x1), some (.int x2), some (.int x3), none, some (.int x5)] [(.int y7), (.int x4)] h6))))))
      (rI (ev M_Mo_bitsIn 0 0 [some (.int x4), none, none] [] h1) fun y9 h8 =>
       ev M_Mo_closure 0 13 [some (.ref x0), some (.int x1), some (.int (x2 + y9)), some (.int (x3 + (nI 1))), none, none] [] h8)) := (ev_eq _ _ _ _ _ _).trans rfl
theorem r_Mo_closure_45 (x0 : Nat) (x1 : Int32) (x2 : Int32) (x3 : Int32) (x5 : Int32) (s0 : Int32) (s1 : Int32) (h : MH) : ev M_Mo_closure 0 45 [some (.ref x0), some (.int x1), some (.int x2), some (.int x3), none, some (.int x5)] [(.int s1), (.int s0)] h =
    ev M_Mo_closure 0 22 [some (.ref x0), some (.int x1), some (.int x2), some (.int x3), some (.int (s0 ||| s1)), some (.int (x5 + (nI 1)))] [] h := (ev_eq _ _ _ _ _ _).trans rfl
theorem r_Mo_settles_0 (x0 : Nat) (x1 : Int32) (h : MH) : ev M_Mo_settles 0 0 [some (.ref x0), some (.int x1), none, none, none] [] h =
    isC h x0 13 (rI (ev M_Mo_isRel 0 0 [some (.ref x0), some (.int x1)] [] h) fun y2 h1 =>
    br (y2 = (nI 0))
      (some (some (.int (mI 1)), h1))
      (isC h1 x0 13 (rV (ev M_Mo_lays2 0 0 [some (.ref x0), none, none] [] h1) fun h3 =>
       ev M_Mo_settles 0 11 [some (.ref x0), some (.int x1), some (.int (nI 0)), none, none] [] h3))) := (ev_eq _ _ _ _ _ _).trans rfl
theorem r_Mo_settles_11 (x0 : Nat) (x1 : Int32) (x2 : Int32) (h : MH) : ev M_Mo_settles 0 11 [some (.ref x0), some (.int x1), some (.int x2), none, none] [] h =
    br (x2 < (nI 16))
      (isC h x0 13 (nnR (hR h x0 40) fun r1 =>
       isC h x0 13 (nnR (hR h x0 38) fun r2 =>
       isC h r2 20 (inA h r2 (((nI 16) * x1) + x2) (
       isC h r1 20 (inA h r1 x2 (
       let h3 := sI h r1 (Int32.toNatClampNeg x2) (hI h r2 (Int32.toNatClampNeg (((nI 16) * x1) + x2)))
       ev M_Mo_settles 0 11 [some (.ref x0), some (.int x1), some (.int (x2 + (nI 1))), none, none] [] h3)))))))
      (ev M_Mo_settles 0 33 [some (.ref x0), none, some (.int (nI 0)), some (.int (nI 1)), none] [] h) := (ev_eq _ _ _ _ _ _).trans rfl
theorem r_Mo_settles_33 (x0 : Nat) (x2 : Int32) (x3 : Int32) (h : MH) : ev M_Mo_settles 0 33 [some (.ref x0), none, some (.int x2), some (.int x3), none] [] h =
    br (x3 = (nI 0))
      (some (some (.int x2), h))
      (ev M_Mo_settles 0 40 [some (.ref x0), none, some (.int x2), some (.int (nI 0)), some (.int (nI 0))] [] h) := (ev_eq _ _ _ _ _ _).trans rfl
set_option maxRecDepth 100000 in
set_option maxHeartbeats 4000000 in
theorem r_Mo_settles_40 (x0 : Nat) (x2 : Int32) (x3 : Int32) (x4 : Int32) (h : MH) : ev M_Mo_settles 0 40 [some (.ref x0), none, some (.int x2), some (.int x3), some (.int x4)] [] h =
    br (x4 < (nI 16))
      (isC h x0 13 (nnR (hR h x0 41) fun r1 =>
       isC h x0 13 (nnR (hR h x0 40) fun r2 =>
       isC h r2 20 (inA h r2 x4 (
       isC h x0 13 (nnR (hR h x0 40) fun r3 =>
       isC h r3 20 (inA h r3 x4 (
       isC h x0 13 (nnR (hR h x0 40) fun r4 =>
       rI (ev M_Mo_through 0 0 [some (.int (hI h r3 (Int32.toNatClampNeg x4))), some (.ref r4), some (.int (nI 0)), none, none] [] h) fun y6 h5 =>
       isC h5 r1 20 (inA h5 r1 x4 (
       let h7 := sI h5 r1 (Int32.toNatClampNeg x4) ((hI h r2 (Int32.toNatClampNeg x4)) ||| y6)
       br (x3 = (nI 0))
         (isC h7 x0 13 (nnR (hR h7 x0 41) fun r8 =>
          isC h7 r8 20 (inA h7 r8 x4 (
          isC h7 x0 13 (nnR (hR h7 x0 40) fun r9 =>
          isC h7 r9 20 (inA h7 r9 x4 (
          br ((hI h7 r8 (Int32.toNatClampNeg x4)) = (hI h7 r9 (Int32.toNatClampNeg x4)))
            (ev M_Mo_settles 0 76 [some (.ref x0), none, some (.int x2), none, some (.int x4)] [(.int (nI 0))] h7)
            (ev M_Mo_settles 0 72 [some (.ref x0), none, some (.int x2), none, some (.int x4)] [] h7))))))))
         (ev M_Mo_settles 0 72 [some (.ref x0), none, some (.int x2), none, some (.int x4)] [] h7))))))))))))
      (ev M_Mo_settles 0 82 [some (.ref x0), none, some (.int x2), some (.int x3), some (.int (nI 0))] [] h) := (ev_eq _ _ _ _ _ _).trans rfl
theorem r_Mo_settles_72 (x0 : Nat) (x2 : Int32) (x4 : Int32) (h : MH) : ev M_Mo_settles 0 72 [some (.ref x0), none, some (.int x2), none, some (.int x4)] [] h =
    ev M_Mo_settles 0 76 [some (.ref x0), none, some (.int x2), none, some (.int x4)] [(.int (nI 1))] h := (ev_eq _ _ _ _ _ _).trans rfl
theorem r_Mo_settles_76 (x0 : Nat) (x2 : Int32) (x4 : Int32) (s0 : Int32) (h : MH) : ev M_Mo_settles 0 76 [some (.ref x0), none, some (.int x2), none, some (.int x4)] [(.int s0)] h =
    ev M_Mo_settles 0 40 [some (.ref x0), none, some (.int x2), some (.int s0), some (.int (x4 + (nI 1)))] [] h := (ev_eq _ _ _ _ _ _).trans rfl
theorem r_Mo_settles_82 (x0 : Nat) (x2 : Int32) (x3 : Int32) (x4 : Int32) (h : MH) : ev M_Mo_settles 0 82 [some (.ref x0), none, some (.int x2), some (.int x3), some (.int x4)] [] h =
    br (x4 < (nI 16))
      (isC h x0 13 (nnR (hR h x0 40) fun r1 =>
       isC h x0 13 (nnR (hR h x0 41) fun r2 =>
       isC h r2 20 (inA h r2 x4 (
       isC h r1 20 (inA h r1 x4 (
       let h3 := sI h r1 (Int32.toNatClampNeg x4) (hI h r2 (Int32.toNatClampNeg x4))
       ev M_Mo_settles 0 82 [some (.ref x0), none, some (.int x2), some (.int x3), some (.int (x4 + (nI 1)))] [] h3)))))))
      (br (x3 = (nI 0))
         (ev M_Mo_settles 0 102 [some (.ref x0), none, none, some (.int x3), none] [(.int (nI 0)), (.int x2)] h)
         (ev M_Mo_settles 0 102 [some (.ref x0), none, none, some (.int x3), none] [(.int (nI 1)), (.int x2)] h)) := (ev_eq _ _ _ _ _ _).trans rfl
theorem r_Mo_settles_102 (x0 : Nat) (x3 : Int32) (s0 : Int32) (s1 : Int32) (h : MH) : ev M_Mo_settles 0 102 [some (.ref x0), none, none, some (.int x3), none] [(.int s1), (.int s0)] h =
    ev M_Mo_settles 0 33 [some (.ref x0), none, some (.int (s0 + s1)), some (.int x3), none] [] h := (ev_eq _ _ _ _ _ _).trans rfl
theorem r_Mo_parts_0 (x0 : Nat) (x1 : Int32) (h : MH) : ev M_Mo_parts 0 0 [some (.ref x0), some (.int x1), none, none, none, none, none, none] [] h =
    isC h x0 13 (rI (ev M_Mo_isRel 0 0 [some (.ref x0), some (.int x1)] [] h) fun y2 h1 =>
    br (y2 = (nI 0))
      (some (some (.int (mI 1)), h1))
      (isC h1 x0 13 (rV (ev M_Mo_lays2 0 0 [some (.ref x0), none, none] [] h1) fun h3 =>
       ev M_Mo_parts 0 15 [some (.ref x0), some (.int x1), some (.int (nI 0)), some (.int (nI 0)), some (.int (nI 0)), none, none, none] [] h3))) := (ev_eq _ _ _ _ _ _).trans rfl
theorem r_Mo_parts_15 (x0 : Nat) (x1 : Int32) (x2 : Int32) (x3 : Int32) (x4 : Int32) (h : MH) : ev M_Mo_parts 0 15 [some (.ref x0), some (.int x1), some (.int x2), some (.int x3), some (.int x4), none, none, none] [] h =
    isC h x0 13 (rI (ev M_Mo_wide 0 0 [some (.ref x0)] [] h) fun y2 h1 =>
    br (x4 < y2)
      (rI (ev M_Mo_isOf 0 0 [some (.int x2), some (.int x4)] [] h1) fun y4 h3 =>
       br (y4 = (nI 0))
         (ev M_Mo_parts 0 32 [some (.ref x0), some (.int x1), some (.int x2), some (.int (x3 + (nI 1))), some (.int x4), some (.int ((nI 1) <<< (x4 &&& 31))), some (.int (nI 0)), none] [] h3)
         (ev M_Mo_parts 0 82 [some (.ref x0), some (.int x1), some (.int x2), some (.int x3), some (.int x4), none, none, none] [] h3))
      (some (some (.int x3), h1))) := (ev_eq _ _ _ _ _ _).trans rfl
theorem r_Mo_parts_32 (x0 : Nat) (x1 : Int32) (x2 : Int32) (x3 : Int32) (x4 : Int32) (x5 : Int32) (x6 : Int32) (h : MH) : ev M_Mo_parts 0 32 [some (.ref x0), some (.int x1), some (.int x2), some (.int x3), some (.int x4), some (.int x5), some (.int x6), none] [] h =
    br (x5 = x6)
      (ev M_Mo_parts 0 82 [some (.ref x0), some (.int x1), some (.int (x2 ||| x5)), some (.int x3), some (.int x4), none, none, none] [] h)
      (isC h x0 13 (nnR (hR h x0 38) fun r1 =>
       rI (ev M_Mo_through 0 0 [some (.int x5), some (.ref r1), some (.int ((nI 16) * x1)), none, none] [] h) fun y3 h2 =>
       ev M_Mo_parts 0 50 [some (.ref x0), some (.int x1), some (.int x2), some (.int x3), some (.int x4), some (.int (x5 ||| y3)), some (.int x5), some (.int (nI 0))] [] h2)) := (ev_eq _ _ _ _ _ _).trans rfl
theorem r_Mo_parts_50 (x0 : Nat) (x1 : Int32) (x2 : Int32) (x3 : Int32) (x4 : Int32) (x5 : Int32) (x6 : Int32) (x7 : Int32) (h : MH) : ev M_Mo_parts 0 50 [some (.ref x0), some (.int x1), some (.int x2), some (.int x3), some (.int x4), some (.int x5), some (.int x6), some (.int x7)] [] h =
    isC h x0 13 (rI (ev M_Mo_wide 0 0 [some (.ref x0)] [] h) fun y2 h1 =>
    br (x7 < y2)
      (isC h1 x0 13 (nnR (hR h1 x0 38) fun r3 =>
       isC h1 r3 20 (inA h1 r3 (((nI 16) * x1) + x7) (
       br (((hI h1 r3 (Int32.toNatClampNeg (((nI 16) * x1) + x7))) &&& x5) = (nI 0))
         (ev M_Mo_parts 0 72 [some (.ref x0), some (.int x1), some (.int x2), some (.int x3), some (.int x4), none, some (.int x6), some (.int x7)] [(.int (nI 0)), (.int x5)] h1)
         (ev M_Mo_parts 0 72 [some (.ref x0), some (.int x1), some (.int x2), some (.int x3), some (.int x4), none, some (.int x6), some (.int x7)] [(.int ((nI 1) <<< (x7 &&& 31))), (.int x5)] h1)))))
      (ev M_Mo_parts 0 32 [some (.ref x0), some (.int x1), some (.int x2), some (.int x3), some (.int x4), some (.int x5), some (.int x6), none] [] h1)) := (ev_eq _ _ _ _ _ _).trans rfl
theorem r_Mo_parts_72 (x0 : Nat) (x1 : Int32) (x2 : Int32) (x3 : Int32) (x4 : Int32) (x6 : Int32) (x7 : Int32) (s0 : Int32) (s1 : Int32) (h : MH) : ev M_Mo_parts 0 72 [some (.ref x0), some (.int x1), some (.int x2), some (.int x3), some (.int x4), none, some (.int x6), some (.int x7)] [(.int s1), (.int s0)] h =
    ev M_Mo_parts 0 50 [some (.ref x0), some (.int x1), some (.int x2), some (.int x3), some (.int x4), some (.int (s0 ||| s1)), some (.int x6), some (.int (x7 + (nI 1)))] [] h := (ev_eq _ _ _ _ _ _).trans rfl
theorem r_Mo_parts_82 (x0 : Nat) (x1 : Int32) (x2 : Int32) (x3 : Int32) (x4 : Int32) (h : MH) : ev M_Mo_parts 0 82 [some (.ref x0), some (.int x1), some (.int x2), some (.int x3), some (.int x4), none, none, none] [] h =
    ev M_Mo_parts 0 15 [some (.ref x0), some (.int x1), some (.int x2), some (.int x3), some (.int (x4 + (nI 1))), none, none, none] [] h := (ev_eq _ _ _ _ _ _).trans rfl
set_option maxRecDepth 100000 in
set_option maxHeartbeats 4000000 in
theorem r_Mo_isSoIn_0 (x0 : Nat) (x1 : Int32) (x2 : Int32) (x3 : Int32) (h : MH) : ev M_Mo_isSoIn 0 0 [some (.ref x0), some (.int x1), some (.int x2), some (.int x3), none] [] h =
    isC h x0 13 (nnR (hR h x0 38) fun r1 =>
    isC h r1 20 (inA h r1 (((nI 16) * x1) + x3) (
    br (x2 = (nI 0))
      (rI (ev M_Mo_isOf 0 0 [some (.int (hI h r1 (Int32.toNatClampNeg (((nI 16) * x1) + x3)))), some (.int x3)] [] h) fun y3 h2 =>
       isZ y3 (some (some (.int y3), h2)))
      (br (x2 = (nI 1))
      (isC h x0 13 (rI (ev M_Mo_columnSet 0 0 [some (.ref x0), some (.int x1), some (.int x3), none, none] [] h) fun y5 h4 =>
       br ((hI h r1 (Int32.toNatClampNeg (((nI 16) * x1) + x3))) = y5)
         (isZ (nI 1) (some (some (.int (nI 1)), h4)))
         (isZ (nI 0) (some (some (.int (nI 0)), h4)))))
      (br (x2 = (nI 2))
      (isC h x0 13 (nnR (hR h x0 38) fun r6 =>
       rI (ev M_Mo_through 0 0 [some (.int (hI h r1 (Int32.toNatClampNeg (((nI 16) * x1) + x3)))), some (.ref r6), some (.int ((nI 16) * x1)), none, none] [] h) fun y8 h7 =>
       br ((y8 &&& ((hI h r1 (Int32.toNatClampNeg (((nI 16) * x1) + x3))) ^^^ (mI 1))) = (nI 0))
         (isZ (nI 1) (some (some (.int (nI 1)), h7)))
         (isZ (nI 0) (some (some (.int (nI 0)), h7)))))
      (br (x2 = (nI 3))
      (rI (ev M_Mo_bitsIn 0 0 [some (.int (hI h r1 (Int32.toNatClampNeg (((nI 16) * x1) + x3)))), none, none] [] h) fun y10 h9 =>
       br (y10 < (nI 2))
         (isZ (nI 1) (some (some (.int (nI 1)), h9)))
         (isZ (nI 0) (some (some (.int (nI 0)), h9))))
      (br (x2 = (nI 4))
      (isC h x0 13 (rI (ev M_Mo_columnSet 0 0 [some (.ref x0), some (.int x1), some (.int x3), none, none] [] h) fun y12 h11 =>
       rI (ev M_Mo_bitsIn 0 0 [some (.int y12), none, none] [] h11) fun y14 h13 =>
       br (y14 < (nI 2))
         (isZ (nI 1) (some (some (.int (nI 1)), h13)))
         (isZ (nI 0) (some (some (.int (nI 0)), h13)))))
      (br ((hI h r1 (Int32.toNatClampNeg (((nI 16) * x1) + x3))) = (nI 0))
         (isZ (nI 0) (some (some (.int (nI 0)), h)))
         (isZ (nI 1) (some (some (.int (nI 1)), h))))))))))) := (ev_eq _ _ _ _ _ _).trans rfl
theorem r_Mo_is_0 (x0 : Nat) (x1 : Int32) (x2 : Int32) (h : MH) : ev M_Mo_is 0 0 [some (.ref x0), some (.int x1), some (.int x2), none, none] [] h =
    isC h x0 13 (rI (ev M_Mo_isRel 0 0 [some (.ref x0), some (.int x1)] [] h) fun y2 h1 =>
    br (y2 = (nI 0))
      (some (some (.int (mI 1)), h1))
      (rI (ev M_Mo_isIn 0 0 [some (.int x2), some (.int (nI 0)), some (.int (nI 5))] [] h1) fun y4 h3 =>
       br (y4 = (nI 0))
         (some (some (.int (mI 1)), h3))
         (isC h3 x0 13 (rV (ev M_Mo_lays2 0 0 [some (.ref x0), none, none] [] h3) fun h5 =>
          ev M_Mo_is 0 18 [some (.ref x0), some (.int x1), some (.int x2), some (.int (nI 1)), some (.int (nI 0))] [] h5)))) := (ev_eq _ _ _ _ _ _).trans rfl
theorem r_Mo_is_18 (x0 : Nat) (x1 : Int32) (x2 : Int32) (x3 : Int32) (x4 : Int32) (h : MH) : ev M_Mo_is 0 18 [some (.ref x0), some (.int x1), some (.int x2), some (.int x3), some (.int x4)] [] h =
    isC h x0 13 (rI (ev M_Mo_wide 0 0 [some (.ref x0)] [] h) fun y2 h1 =>
    br (x4 < y2)
      (br (x3 = (nI 0))
         (ev M_Mo_is 0 33 [some (.ref x0), some (.int x1), some (.int x2), none, some (.int x4)] [] h1)
         (isC h1 x0 13 (rI (ev M_Mo_isSoIn 0 0 [some (.ref x0), some (.int x1), some (.int x2), some (.int x4), none] [] h1) fun y4 h3 =>
          br (y4 = (nI 0))
            (ev M_Mo_is 0 33 [some (.ref x0), some (.int x1), some (.int x2), none, some (.int x4)] [] h3)
            (ev M_Mo_is 0 35 [some (.ref x0), some (.int x1), some (.int x2), none, some (.int x4)] [(.int (nI 1))] h3))))
      (rI (ev M_Mo_truth 0 0 [some (.int x3)] [] h1) fun y6 h5 =>
       some (some (.int y6), h5))) := (ev_eq _ _ _ _ _ _).trans rfl
theorem r_Mo_is_33 (x0 : Nat) (x1 : Int32) (x2 : Int32) (x4 : Int32) (h : MH) : ev M_Mo_is 0 33 [some (.ref x0), some (.int x1), some (.int x2), none, some (.int x4)] [] h =
    ev M_Mo_is 0 35 [some (.ref x0), some (.int x1), some (.int x2), none, some (.int x4)] [(.int (nI 0))] h := (ev_eq _ _ _ _ _ _).trans rfl
theorem r_Mo_is_35 (x0 : Nat) (x1 : Int32) (x2 : Int32) (x4 : Int32) (s0 : Int32) (h : MH) : ev M_Mo_is 0 35 [some (.ref x0), some (.int x1), some (.int x2), none, some (.int x4)] [(.int s0)] h =
    ev M_Mo_is 0 18 [some (.ref x0), some (.int x1), some (.int x2), some (.int s0), some (.int (x4 + (nI 1)))] [] h := (ev_eq _ _ _ _ _ _).trans rfl
theorem r_Mo_law_0 (x0 : Nat) (x1 : Int32) (x2 : Int32) (h : MH) : ev M_Mo_law 0 0 [some (.ref x0), some (.int x1), some (.int x2)] [] h =
    isC h x0 13 (nnR (hR h x0 12) fun r1 =>
    isC h r1 20 (inA h r1 (nI 0) (
    rI (ev M_Mo_isIn 0 0 [some (.int x2), some (.int (hI h r1 (Int32.toNatClampNeg (nI 0)))), some (.int (nI 6))] [] h) fun y3 h2 =>
    br (y3 = (nI 0))
      (some (some (.int (mI 1)), h2))
      (isC h2 x0 13 (rI (ev M_Mo_laysRel 0 0 [some (.ref x0), some (.int x1)] [] h2) fun y5 h4 =>
       br (y5 = (nI 0))
         (some (some (.int (mI 1)), h4))
         (isC h4 x0 13 (nnR (hR h4 x0 38) fun r6 =>
          rI (ev M_Mo_manyIn 0 0 [some (.ref r6), some (.int ((nI 16) * x1)), none, none] [] h4) fun y8 h7 =>
          br (y8 = (nI 0))
            (some (some (.int (nI 4)), h7))
            (isC h7 x0 13 (
             isC h7 x0 13 (nnR (hR h7 x0 12) fun r9 =>
             isC h7 r9 20 (inA h7 r9 (nI 0) (
             some (some (.int ((hI h7 x0 47) + ((nI 4) * (x2 - (hI h7 r9 (Int32.toNatClampNeg (nI 0))))))), h7))))))))))))) := (ev_eq _ _ _ _ _ _).trans rfl
theorem r_Mo_common_0 (x0 : Int32) (x1 : Int32) (h : MH) : ev M_Mo_common 0 0 [some (.int x0), some (.int x1), none, none, none] [] h =
    ev M_Mo_common 0 5 [none, none, some (.int x0), some (.int x1), none] [] h := (ev_eq _ _ _ _ _ _).trans rfl
theorem r_Mo_common_5 (x2 : Int32) (x3 : Int32) (h : MH) : ev M_Mo_common 0 5 [none, none, some (.int x2), some (.int x3), none] [] h =
    br (x3 = (nI 0))
      (some (some (.int x2), h))
      (nz x3 (
       ev M_Mo_common 0 5 [none, none, some (.int x3), some (.int (x2 - x2 / x3 * x3)), none] [] h)) := (ev_eq _ _ _ _ _ _).trans rfl
theorem r_Mo_odds_0 (x0 : Nat) (x1 : Int32) (x2 : Int32) (h : MH) : ev M_Mo_odds 0 0 [some (.ref x0), some (.int x1), some (.int x2), none, none, none] [] h =
    rI (ev M_Mo_isIn 0 0 [some (.int x1), some (.int (nI 0)), some (.int (nI 4))] [] h) fun y2 h1 =>
    br (y2 = (nI 0))
      (some (some (.int (mI 1)), h1))
      (rI (ev M_Mo_isIn 0 0 [some (.int x2), some (.int (nI 0)), some (.int (nI 1))] [] h1) fun y4 h3 =>
       br (y4 = (nI 0))
         (some (some (.int (mI 1)), h3))
         (ev M_Mo_odds 0 19 [some (.ref x0), some (.int x1), some (.int x2), some (.int (nI 1)), some (.int (nI 1)), some (.int (nI 0))] [] h3)) := (ev_eq _ _ _ _ _ _).trans rfl
theorem r_Mo_odds_19 (x0 : Nat) (x1 : Int32) (x2 : Int32) (x3 : Int32) (x4 : Int32) (x5 : Int32) (h : MH) : ev M_Mo_odds 0 19 [some (.ref x0), some (.int x1), some (.int x2), some (.int x3), some (.int x4), some (.int x5)] [] h =
    br (x5 < x1)
      (isC h x0 13 (nnR (hR h x0 14) fun r1 =>
       isC h r1 20 (inA h r1 (nI 0) (
       ev M_Mo_odds 0 19 [some (.ref x0), some (.int x1), some (.int x2), some (.int (x3 * ((nI 100) - (hI h r1 (Int32.toNatClampNeg (nI 0)))))), some (.int (x4 * (nI 100))), some (.int (x5 + (nI 1)))] [] h))))
      (br (x2 = (nI 0))
         (ev M_Mo_odds 0 43 [none, none, none, some (.int x3), some (.int x4), none] [(.int x3)] h)
         (ev M_Mo_odds 0 43 [none, none, none, some (.int x3), some (.int x4), none] [(.int x4)] h)) := (ev_eq _ _ _ _ _ _).trans rfl
theorem r_Mo_odds_43 (x3 : Int32) (x4 : Int32) (s0 : Int32) (h : MH) : ev M_Mo_odds 0 43 [none, none, none, some (.int x3), some (.int x4), none] [(.int s0)] h =
    rI (ev M_Mo_common 0 0 [some (.int x4), some (.int x3), none, none, none] [] h) fun y2 h1 =>
    nz y2 (
    some (some (.int (s0 / y2)), h1)) := (ev_eq _ _ _ _ _ _).trans rfl
theorem r_Mo_lies_0 (x0 : Nat) (x1 : Int32) (h : MH) : ev M_Mo_lies 0 0 [some (.ref x0), some (.int x1)] [] h =
    isC h x0 13 (
    rI (ev M_Mo_isIn 0 0 [some (.int x1), some (.int (nI 0)), some (.int ((hI h x0 50) - (nI 1)))] [] h) fun y2 h1 =>
    br (y2 = (nI 0))
      (some (some (.int (mI 2)), h1))
      (isC h1 x0 13 (nnR (hR h1 x0 49) fun r3 =>
       isC h1 r3 20 (inA h1 r3 x1 (
       some (some (.int (hI h1 r3 (Int32.toNatClampNeg x1))), h1)))))) := (ev_eq _ _ _ _ _ _).trans rfl
theorem r_Mo_isBlock_0 (x0 : Nat) (x1 : Int32) (x2 : Int32) (h : MH) : ev M_Mo_isBlock 0 0 [some (.ref x0), some (.int x1), some (.int x2)] [] h =
    isC h x0 13 (nnR (hR h x0 12) fun r1 =>
    isC h r1 20 (inA h r1 (nI 0) (
    rI (ev M_Mo_isIn 0 0 [some (.int x1), some (.int (nI 0)), some (.int (hI h r1 (Int32.toNatClampNeg (nI 0))))] [] h) fun y3 h2 =>
    br (y3 = (nI 0))
      (isZ (nI 0) (some (some (.int (nI 0)), h2)))
      (rI (ev M_Mo_isIn 0 0 [some (.int x2), some (.int (nI 0)), some (.int (((nI 1) <<< (((nI 2) * x1) &&& 31)) - (nI 1)))] [] h2) fun y5 h4 =>
       br (y5 = (nI 0))
         (isZ (nI 0) (some (some (.int (nI 0)), h4)))
         (isZ (nI 1) (some (some (.int (nI 1)), h4))))))) := (ev_eq _ _ _ _ _ _).trans rfl
set_option maxRecDepth 100000 in
set_option maxHeartbeats 4000000 in
theorem r_Mo_seen_0 (x0 : Nat) (x1 : Int32) (x2 : Int32) (x3 : Int32) (x4 : Int32) (h : MH) : ev M_Mo_seen 0 0 [some (.ref x0), some (.int x1), some (.int x2), some (.int x3), some (.int x4)] [] h =
    isC h x0 13 (rI (ev M_Mo_isBlock 0 0 [some (.ref x0), some (.int x1), some (.int x2)] [] h) fun y2 h1 =>
    br (y2 = (nI 0))
      (some (some (.int (mI 1)), h1))
      (rI (ev M_Mo_isIn 0 0 [some (.int x3), some (.int (nI 0)), some (.int (nI 256))] [] h1) fun y4 h3 =>
       br (y4 = (nI 0))
         (some (some (.int (mI 1)), h3))
         (isC h3 x0 13 (
          br ((hI h3 x0 57) = (nI 30))
            (some (some (.int (mI 1)), h3))
            (isC h3 x0 13 (nnR (hR h3 x0 13) fun r5 =>
             isC h3 r5 20 (inA h3 r5 (nI 0) (
             br ((hI h3 r5 (Int32.toNatClampNeg (nI 0))) = (nI 0))
               (some (some (.int (mI 1)), h3))
               (isC h3 x0 13 (nnR (hR h3 x0 51) fun r6 =>
                isC h3 x0 13 (
                isC h3 r6 20 (inA h3 r6 (hI h3 x0 57) (
                let h7 := sI h3 r6 (Int32.toNatClampNeg (hI h3 x0 57)) x1
                isC h7 x0 13 (nnR (hR h7 x0 52) fun r8 =>
                isC h7 x0 13 (
                isC h7 r8 20 (inA h7 r8 (hI h7 x0 57) (
                let h9 := sI h7 r8 (Int32.toNatClampNeg (hI h7 x0 57)) x2
                isC h9 x0 13 (nnR (hR h9 x0 53) fun r10 =>
                isC h9 x0 13 (
                isC h9 r10 20 (inA h9 r10 (hI h9 x0 57) (
                let h11 := sI h9 r10 (Int32.toNatClampNeg (hI h9 x0 57)) x3
                isC h11 x0 13 (nnR (hR h11 x0 54) fun r12 =>
                isC h11 x0 13 (
                rI (ev M_Mo_truth 0 0 [some (.int x4)] [] h11) fun y14 h13 =>
                isC h13 r12 20 (inA h13 r12 (hI h11 x0 57) (
                let h15 := sI h13 r12 (Int32.toNatClampNeg (hI h11 x0 57)) y14
                isC h15 x0 13 (nnR (hR h15 x0 55) fun r16 =>
                isC h15 x0 13 (
                isC h15 x0 13 (
                isC h15 r16 20 (inA h15 r16 (hI h15 x0 57) (
                let h17 := sI h15 r16 (Int32.toNatClampNeg (hI h15 x0 57)) (hI h15 x0 58)
                isC h17 x0 13 (nnR (hR h17 x0 56) fun r18 =>
                isC h17 x0 13 (
                isC h17 r18 20 (inA h17 r18 (hI h17 x0 57) (
                let h19 := sI h17 r18 (Int32.toNatClampNeg (hI h17 x0 57)) (mI 1)
                isC h19 x0 13 (
                isC h19 x0 13 (
                let h20 := sI h19 x0 57 ((hI h19 x0 57) + (nI 1))
                isC h20 x0 13 (
                some (some (.int ((hI h20 x0 57) - (nI 1))), h20)))))))))))))))))))))))))))))))))))))) := (ev_eq _ _ _ _ _ _).trans rfl
theorem r_Mo_untell_0 (x0 : Nat) (x1 : Int32) (h : MH) : ev M_Mo_untell 0 0 [some (.ref x0), some (.int x1)] [] h =
    isC h x0 13 (
    rI (ev M_Mo_isIn 0 0 [some (.int x1), some (.int (nI 0)), some (.int ((hI h x0 57) - (nI 1)))] [] h) fun y2 h1 =>
    br (y2 = (nI 0))
      (isZ (nI 0) (some (some (.int (nI 0)), h1)))
      (isC h1 x0 13 (nnR (hR h1 x0 56) fun r3 =>
       isC h1 r3 20 (inA h1 r3 x1 (
       br ((hI h1 r3 (Int32.toNatClampNeg x1)) = (mI 1))
         (isC h1 x0 13 (nnR (hR h1 x0 56) fun r4 =>
          isC h1 x0 13 (
          isC h1 r4 20 (inA h1 r4 x1 (
          let h5 := sI h1 r4 (Int32.toNatClampNeg x1) (hI h1 x0 58)
          isZ (nI 1) (some (some (.int (nI 1)), h5)))))))
         (isZ (nI 0) (some (some (.int (nI 0)), h1)))))))) := (ev_eq _ _ _ _ _ _).trans rfl
theorem r_Mo_later_0 (x0 : Nat) (x1 : Int32) (h : MH) : ev M_Mo_later 0 0 [some (.ref x0), some (.int x1)] [] h =
    rI (ev M_Mo_isIn 0 0 [some (.int x1), some (.int (nI 0)), some (.int (nI 1000))] [] h) fun y2 h1 =>
    br (y2 = (nI 0))
      (some (some (.int (mI 1)), h1))
      (isC h1 x0 13 (
       br ((nI 100000) < ((hI h1 x0 58) + x1))
         (some (some (.int (mI 1)), h1))
         (isC h1 x0 13 (
          isC h1 x0 13 (
          let h3 := sI h1 x0 58 ((hI h1 x0 58) + x1)
          isC h3 x0 13 (
          some (some (.int (hI h3 x0 58)), h3))))))) := (ev_eq _ _ _ _ _ _).trans rfl
theorem r_Mo_laysFirst_0 (x0 : Nat) (h : MH) : ev M_Mo_laysFirst 0 0 [some (.ref x0), none] [] h =
    ev M_Mo_laysFirst 0 3 [some (.ref x0), some (.int (nI 0))] [] h := (ev_eq _ _ _ _ _ _).trans rfl
theorem r_Mo_laysFirst_3 (x0 : Nat) (x1 : Int32) (h : MH) : ev M_Mo_laysFirst 0 3 [some (.ref x0), some (.int x1)] [] h =
    br (x1 < (nI 16))
      (isC h x0 13 (nnR (hR h x0 59) fun r1 =>
       isC h r1 20 (inA h r1 x1 (
       let h2 := sI h r1 (Int32.toNatClampNeg x1) (nI 0)
       ev M_Mo_laysFirst 0 3 [some (.ref x0), some (.int (x1 + (nI 1)))] [] h2))))
      (isC h x0 13 (nnR (hR h x0 13) fun r3 =>
       isC h r3 20 (inA h r3 (nI 0) (
       br ((hI h r3 (Int32.toNatClampNeg (nI 0))) = (nI 0))
         (some (none, h))
         (isC h x0 13 (rV (ev M_Mo_lays2 0 0 [some (.ref x0), none, none] [] h) fun h4 =>
          ev M_Mo_laysFirst 0 24 [some (.ref x0), some (.int (nI 0))] [] h4)))))) := (ev_eq _ _ _ _ _ _).trans rfl
theorem r_Mo_laysFirst_24 (x0 : Nat) (x1 : Int32) (h : MH) : ev M_Mo_laysFirst 0 24 [some (.ref x0), some (.int x1)] [] h =
    br (x1 < (nI 16))
      (isC h x0 13 (nnR (hR h x0 59) fun r1 =>
       isC h x0 13 (nnR (hR h x0 19) fun r2 =>
       isC h r2 20 (inA h r2 (nI 0) (
       br ((hI h r2 (Int32.toNatClampNeg (nI 0))) = (nI 1))
         (isC h x0 13 (nnR (hR h x0 22) fun r3 =>
          isC h r3 20 (inA h r3 x1 (
          ev M_Mo_laysFirst 0 46 [some (.ref x0), some (.int x1)] [(.int (hI h r3 (Int32.toNatClampNeg x1))), (.int x1), (.ref r1)] h))))
         (isC h x0 13 (nnR (hR h x0 38) fun r4 =>
          isC h r4 20 (inA h r4 x1 (
          ev M_Mo_laysFirst 0 46 [some (.ref x0), some (.int x1)] [(.int (hI h r4 (Int32.toNatClampNeg x1))), (.int x1), (.ref r1)] h)))))))))
      (some (none, h)) := (ev_eq _ _ _ _ _ _).trans rfl
theorem r_Mo_laysFirst_46 (x0 : Nat) (x1 : Int32) (s0 : Nat) (s1 : Int32) (s2 : Int32) (h : MH) : ev M_Mo_laysFirst 0 46 [some (.ref x0), some (.int x1)] [(.int s2), (.int s1), (.ref s0)] h =
    isC h s0 20 (inA h s0 s1 (
    let h1 := sI h s0 (Int32.toNatClampNeg s1) s2
    ev M_Mo_laysFirst 0 24 [some (.ref x0), some (.int (x1 + (nI 1)))] [] h1)) := (ev_eq _ _ _ _ _ _).trans rfl
set_option maxRecDepth 100000 in
set_option maxHeartbeats 4000000 in
theorem r_Mo_countBy_0 (x0 : Nat) (x1 : Int32) (x2 : Int32) (x3 : Int32) (h : MH) : ev M_Mo_countBy 0 0 [some (.ref x0), some (.int x1), some (.int x2), some (.int x3), none, none, none, none, none, none] [] h =
    isC h x0 13 (rI (ev M_Mo_wide 0 0 [some (.ref x0)] [] h) fun y2 h1 =>
    isC h1 x0 13 (nnR (hR h1 x0 59) fun r3 =>
    rI (ev M_Mo_inBlock 0 0 [some (.ref r3), some (.int (nI 0)), some (.int ((x3 >>> (x2 &&& 31)) * (y2 >>> (x2 &&& 31)))), some (.int ((x3 &&& (((nI 1) <<< (x2 &&& 31)) - (nI 1))) * (y2 >>> (x2 &&& 31)))), some (.int (y2 >>> (x2 &&& 31))), none, none, none] [] h1) fun y5 h4 =>
    br (x1 < (nI 0))
      (some (some (.int y5), h4))
      (isC h4 x0 13 (rI (ev M_Mo_wide 0 0 [some (.ref x0)] [] h4) fun y7 h6 =>
       nz y7 (
       isC h6 x0 13 (rI (ev M_Mo_wide 0 0 [some (.ref x0)] [] h6) fun y9 h8 =>
       nz y9 (
       rI (ev M_Mo_isIn 0 0 [some (.int (x1 / y7)), some (.int ((x3 >>> (x2 &&& 31)) * (y2 >>> (x2 &&& 31)))), some (.int ((((x3 >>> (x2 &&& 31)) * (y2 >>> (x2 &&& 31))) + (y2 >>> (x2 &&& 31))) - (nI 1)))] [] h8) fun y11 h10 =>
       br (y11 = (nI 0))
         (some (some (.int y5), h10))
         (rI (ev M_Mo_isIn 0 0 [some (.int (x1 - x1 / y9 * y9)), some (.int ((x3 &&& (((nI 1) <<< (x2 &&& 31)) - (nI 1))) * (y2 >>> (x2 &&& 31)))), some (.int ((((x3 &&& (((nI 1) <<< (x2 &&& 31)) - (nI 1))) * (y2 >>> (x2 &&& 31))) + (y2 >>> (x2 &&& 31))) - (nI 1)))] [] h10) fun y13 h12 =>
          br (y13 = (nI 0))
            (some (some (.int y5), h12))
            (isC h12 x0 13 (nnR (hR h12 x0 59) fun r14 =>
             isC h12 r14 20 (inA h12 r14 (x1 / y7) (
             rI (ev M_Mo_isOf 0 0 [some (.int (hI h12 r14 (Int32.toNatClampNeg (x1 / y7)))), some (.int (x1 - x1 / y9 * y9))] [] h12) fun y16 h15 =>
             br (y16 = (nI 0))
               (some (some (.int (y5 + (nI 1))), h15))
               (some (some (.int (y5 - (nI 1))), h15)))))))))))))) := (ev_eq _ _ _ _ _ _).trans rfl
theorem r_Mo_doesCount_0 (x0 : Nat) (x1 : Int32) (x2 : Int32) (h : MH) : ev M_Mo_doesCount 0 0 [some (.ref x0), some (.int x1), some (.int x2)] [] h =
    isC h x0 13 (nnR (hR h x0 55) fun r1 =>
    isC h r1 20 (inA h r1 x1 (
    br (x2 < (hI h r1 (Int32.toNatClampNeg x1)))
      (isZ (nI 0) (some (some (.int (nI 0)), h)))
      (isC h x0 13 (nnR (hR h x0 56) fun r2 =>
       isC h r2 20 (inA h r2 x1 (
       br ((hI h r2 (Int32.toNatClampNeg x1)) = (mI 1))
         (ev M_Mo_doesCount 0 19 [none, none, none] [] h)
         (isC h x0 13 (nnR (hR h x0 56) fun r3 =>
          isC h r3 20 (inA h r3 x1 (
          br (x2 < (hI h r3 (Int32.toNatClampNeg x1)))
            (ev M_Mo_doesCount 0 19 [none, none, none] [] h)
            (isZ (nI 0) (some (some (.int (nI 0)), h)))))))))))))) := (ev_eq _ _ _ _ _ _).trans rfl
theorem r_Mo_doesCount_19  (h : MH) : ev M_Mo_doesCount 0 19 [none, none, none] [] h =
    isZ (nI 1) (some (some (.int (nI 1)), h)) := (ev_eq _ _ _ _ _ _).trans rfl
theorem r_Mo_fitsBy_0 (x0 : Nat) (x1 : Int32) (x2 : Int32) (h : MH) : ev M_Mo_fitsBy 0 0 [some (.ref x0), some (.int x1), some (.int x2), none] [] h =
    ev M_Mo_fitsBy 0 3 [some (.ref x0), some (.int x1), some (.int x2), some (.int (nI 0))] [] h := (ev_eq _ _ _ _ _ _).trans rfl
set_option maxRecDepth 100000 in
set_option maxHeartbeats 4000000 in
theorem r_Mo_fitsBy_3 (x0 : Nat) (x1 : Int32) (x2 : Int32) (x3 : Int32) (h : MH) : ev M_Mo_fitsBy 0 3 [some (.ref x0), some (.int x1), some (.int x2), some (.int x3)] [] h =
    isC h x0 13 (
    br (x3 < (hI h x0 57))
      (isC h x0 13 (rI (ev M_Mo_doesCount 0 0 [some (.ref x0), some (.int x3), some (.int x2)] [] h) fun y2 h1 =>
       br (y2 = (nI 0))
         (ev M_Mo_fitsBy 0 46 [some (.ref x0), some (.int x1), some (.int x2), some (.int x3)] [] h1)
         (isC h1 x0 13 (nnR (hR h1 x0 51) fun r3 =>
          isC h1 r3 20 (inA h1 r3 x3 (
          isC h1 x0 13 (nnR (hR h1 x0 52) fun r4 =>
          isC h1 r4 20 (inA h1 r4 x3 (
          isC h1 x0 13 (rI (ev M_Mo_countBy 0 0 [some (.ref x0), some (.int x1), some (.int (hI h1 r3 (Int32.toNatClampNeg x3))), some (.int (hI h1 r4 (Int32.toNatClampNeg x3))), none, none, none, none, none, none] [] h1) fun y6 h5 =>
          isC h5 x0 13 (nnR (hR h5 x0 53) fun r7 =>
          isC h5 r7 20 (inA h5 r7 x3 (
          br (y6 = (hI h5 r7 (Int32.toNatClampNeg x3)))
            (ev M_Mo_fitsBy 0 32 [some (.ref x0), some (.int x1), some (.int x2), some (.int x3)] [(.int (nI 1))] h5)
            (ev M_Mo_fitsBy 0 32 [some (.ref x0), some (.int x1), some (.int x2), some (.int x3)] [(.int (nI 0))] h5))))))))))))))
      (isZ (nI 1) (some (some (.int (nI 1)), h)))) := (ev_eq _ _ _ _ _ _).trans rfl
theorem r_Mo_fitsBy_32 (x0 : Nat) (x1 : Int32) (x2 : Int32) (x3 : Int32) (s0 : Int32) (h : MH) : ev M_Mo_fitsBy 0 32 [some (.ref x0), some (.int x1), some (.int x2), some (.int x3)] [(.int s0)] h =
    isC h x0 13 (nnR (hR h x0 54) fun r1 =>
    isC h r1 20 (inA h r1 x3 (
    br ((hI h r1 (Int32.toNatClampNeg x3)) = (nI 1))
      (ev M_Mo_fitsBy 0 42 [some (.ref x0), some (.int x1), some (.int x2), some (.int x3)] [(.int (nI 1)), (.int s0)] h)
      (ev M_Mo_fitsBy 0 42 [some (.ref x0), some (.int x1), some (.int x2), some (.int x3)] [(.int (nI 0)), (.int s0)] h)))) := (ev_eq _ _ _ _ _ _).trans rfl
theorem r_Mo_fitsBy_42 (x0 : Nat) (x1 : Int32) (x2 : Int32) (x3 : Int32) (s0 : Int32) (s1 : Int32) (h : MH) : ev M_Mo_fitsBy 0 42 [some (.ref x0), some (.int x1), some (.int x2), some (.int x3)] [(.int s1), (.int s0)] h =
    br (s0 = s1)
      (ev M_Mo_fitsBy 0 46 [some (.ref x0), some (.int x1), some (.int x2), some (.int x3)] [] h)
      (isZ (nI 0) (some (some (.int (nI 0)), h))) := (ev_eq _ _ _ _ _ _).trans rfl
theorem r_Mo_fitsBy_46 (x0 : Nat) (x1 : Int32) (x2 : Int32) (x3 : Int32) (h : MH) : ev M_Mo_fitsBy 0 46 [some (.ref x0), some (.int x1), some (.int x2), some (.int x3)] [] h =
    ev M_Mo_fitsBy 0 3 [some (.ref x0), some (.int x1), some (.int x2), some (.int (x3 + (nI 1)))] [] h := (ev_eq _ _ _ _ _ _).trans rfl
theorem r_Mo_lastPair_0 (x0 : Nat) (h : MH) : ev M_Mo_lastPair 0 0 [some (.ref x0)] [] h =
    isC h x0 13 (nnR (hR h x0 13) fun r1 =>
    isC h r1 20 (inA h r1 (nI 0) (
    br ((hI h r1 (Int32.toNatClampNeg (nI 0))) = (nI 0))
      (some (some (.int (mI 2)), h))
      (isC h x0 13 (rI (ev M_Mo_wide 0 0 [some (.ref x0)] [] h) fun y3 h2 =>
       isC h2 x0 13 (rI (ev M_Mo_wide 0 0 [some (.ref x0)] [] h2) fun y5 h4 =>
       some (some (.int ((y3 * y5) - (nI 1))), h4))))))) := (ev_eq _ _ _ _ _ _).trans rfl
theorem r_Mo_fits_0 (x0 : Nat) (x1 : Int32) (h : MH) : ev M_Mo_fits 0 0 [some (.ref x0), some (.int x1), none, none] [] h =
    isC h x0 13 (rV (ev M_Mo_laysFirst 0 0 [some (.ref x0), none] [] h) fun h1 =>
    ev M_Mo_fits 0 7 [some (.ref x0), some (.int x1), some (.int (nI 0)), some (.int (mI 1))] [] h1) := (ev_eq _ _ _ _ _ _).trans rfl
theorem r_Mo_fits_7 (x0 : Nat) (x1 : Int32) (x2 : Int32) (x3 : Int32) (h : MH) : ev M_Mo_fits 0 7 [some (.ref x0), some (.int x1), some (.int x2), some (.int x3)] [] h =
    isC h x0 13 (rI (ev M_Mo_lastPair 0 0 [some (.ref x0)] [] h) fun y2 h1 =>
    br (y2 < x3)
      (some (some (.int x2), h1))
      (isC h1 x0 13 (rI (ev M_Mo_fitsBy 0 0 [some (.ref x0), some (.int x3), some (.int x1), none] [] h1) fun y4 h3 =>
       rI (ev M_Mo_truth 0 0 [some (.int y4)] [] h3) fun y6 h5 =>
       ev M_Mo_fits 0 7 [some (.ref x0), some (.int x1), some (.int (x2 + y6)), some (.int (x3 + (nI 1)))] [] h5))) := (ev_eq _ _ _ _ _ _).trans rfl
theorem r_Mo_fit_0 (x0 : Nat) (x1 : Int32) (x2 : Int32) (h : MH) : ev M_Mo_fit 0 0 [some (.ref x0), some (.int x1), some (.int x2), none, none] [] h =
    isC h x0 13 (rV (ev M_Mo_laysFirst 0 0 [some (.ref x0), none] [] h) fun h1 =>
    ev M_Mo_fit 0 7 [some (.ref x0), some (.int x1), some (.int x2), some (.int (nI 0)), some (.int (mI 1))] [] h1) := (ev_eq _ _ _ _ _ _).trans rfl
theorem r_Mo_fit_7 (x0 : Nat) (x1 : Int32) (x2 : Int32) (x3 : Int32) (x4 : Int32) (h : MH) : ev M_Mo_fit 0 7 [some (.ref x0), some (.int x1), some (.int x2), some (.int x3), some (.int x4)] [] h =
    isC h x0 13 (rI (ev M_Mo_lastPair 0 0 [some (.ref x0)] [] h) fun y2 h1 =>
    br (y2 < x4)
      (some (some (.int (mI 2)), h1))
      (br (x1 < (nI 0))
         (some (some (.int (mI 2)), h1))
         (isC h1 x0 13 (rI (ev M_Mo_fitsBy 0 0 [some (.ref x0), some (.int x4), some (.int x2), none] [] h1) fun y4 h3 =>
          br (y4 = (nI 0))
            (ev M_Mo_fit 0 26 [some (.ref x0), some (.int x1), some (.int x2), some (.int x3), some (.int x4)] [] h3)
            (br (x3 = x1)
               (some (some (.int x4), h3))
               (ev M_Mo_fit 0 26 [some (.ref x0), some (.int x1), some (.int x2), some (.int (x3 + (nI 1))), some (.int x4)] [] h3)))))) := (ev_eq _ _ _ _ _ _).trans rfl
theorem r_Mo_fit_26 (x0 : Nat) (x1 : Int32) (x2 : Int32) (x3 : Int32) (x4 : Int32) (h : MH) : ev M_Mo_fit 0 26 [some (.ref x0), some (.int x1), some (.int x2), some (.int x3), some (.int x4)] [] h =
    ev M_Mo_fit 0 7 [some (.ref x0), some (.int x1), some (.int x2), some (.int x3), some (.int (x4 + (nI 1)))] [] h := (ev_eq _ _ _ _ _ _).trans rfl
theorem r_Mo_leftBy_0 (x0 : Nat) (x1 : Int32) (x2 : Int32) (h : MH) : ev M_Mo_leftBy 0 0 [some (.ref x0), some (.int x1), some (.int x2), none, none, none] [] h =
    ev M_Mo_leftBy 0 3 [some (.ref x0), some (.int x1), some (.int x2), some (.int (nI 0)), none, none] [] h := (ev_eq _ _ _ _ _ _).trans rfl
theorem r_Mo_leftBy_3 (x0 : Nat) (x1 : Int32) (x2 : Int32) (x3 : Int32) (h : MH) : ev M_Mo_leftBy 0 3 [some (.ref x0), some (.int x1), some (.int x2), some (.int x3), none, none] [] h =
    br (x3 < (nI 258))
      (isC h x0 13 (nnR (hR h x0 61) fun r1 =>
       isC h r1 20 (inA h r1 x3 (
       let h2 := sI h r1 (Int32.toNatClampNeg x3) (nI 0)
       ev M_Mo_leftBy 0 3 [some (.ref x0), some (.int x1), some (.int x2), some (.int (x3 + (nI 1))), none, none] [] h2))))
      (ev M_Mo_leftBy 0 18 [some (.ref x0), some (.int x1), some (.int x2), some (.int (nI 0)), some (.int (mI 1)), none] [] h) := (ev_eq _ _ _ _ _ _).trans rfl
set_option maxRecDepth 100000 in
set_option maxHeartbeats 4000000 in
theorem r_Mo_leftBy_18 (x0 : Nat) (x1 : Int32) (x2 : Int32) (x3 : Int32) (x4 : Int32) (h : MH) : ev M_Mo_leftBy 0 18 [some (.ref x0), some (.int x1), some (.int x2), some (.int x3), some (.int x4), none] [] h =
    isC h x0 13 (rI (ev M_Mo_lastPair 0 0 [some (.ref x0)] [] h) fun y2 h1 =>
    br (y2 < x4)
      (some (some (.int x3), h1))
      (isC h1 x0 13 (nnR (hR h1 x0 60) fun r3 =>
       isC h1 r3 20 (inA h1 r3 (x4 + (nI 1)) (
       br ((hI h1 r3 (Int32.toNatClampNeg (x4 + (nI 1)))) = (nI 0))
         (ev M_Mo_leftBy 0 59 [some (.ref x0), some (.int x1), some (.int x2), some (.int x3), some (.int x4), none] [] h1)
         (isC h1 x0 13 (rI (ev M_Mo_countBy 0 0 [some (.ref x0), some (.int x4), some (.int x1), some (.int x2), none, none, none, none, none, none] [] h1) fun y5 h4 =>
          isC h4 x0 13 (nnR (hR h4 x0 61) fun r6 =>
          isC h4 r6 20 (inA h4 r6 y5 (
          isC h4 r6 20 (inA h4 r6 y5 (
          let h7 := sI h4 r6 (Int32.toNatClampNeg y5) ((hI h4 r6 (Int32.toNatClampNeg y5)) + (nI 1))
          isC h7 x0 13 (nnR (hR h7 x0 61) fun r8 =>
          isC h7 r8 20 (inA h7 r8 y5 (
          br (x3 < (hI h7 r8 (Int32.toNatClampNeg y5)))
            (isC h7 x0 13 (nnR (hR h7 x0 61) fun r9 =>
             isC h7 r9 20 (inA h7 r9 y5 (
             ev M_Mo_leftBy 0 57 [some (.ref x0), some (.int x1), some (.int x2), none, some (.int x4), none] [(.int (hI h7 r9 (Int32.toNatClampNeg y5)))] h7))))
            (ev M_Mo_leftBy 0 57 [some (.ref x0), some (.int x1), some (.int x2), none, some (.int x4), none] [(.int x3)] h7)))))))))))))))) := (ev_eq _ _ _ _ _ _).trans rfl
theorem r_Mo_leftBy_57 (x0 : Nat) (x1 : Int32) (x2 : Int32) (x4 : Int32) (s0 : Int32) (h : MH) : ev M_Mo_leftBy 0 57 [some (.ref x0), some (.int x1), some (.int x2), none, some (.int x4), none] [(.int s0)] h =
    ev M_Mo_leftBy 0 59 [some (.ref x0), some (.int x1), some (.int x2), some (.int s0), some (.int x4), none] [] h := (ev_eq _ _ _ _ _ _).trans rfl
theorem r_Mo_leftBy_59 (x0 : Nat) (x1 : Int32) (x2 : Int32) (x3 : Int32) (x4 : Int32) (h : MH) : ev M_Mo_leftBy 0 59 [some (.ref x0), some (.int x1), some (.int x2), some (.int x3), some (.int x4), none] [] h =
    ev M_Mo_leftBy 0 18 [some (.ref x0), some (.int x1), some (.int x2), some (.int x3), some (.int (x4 + (nI 1))), none] [] h := (ev_eq _ _ _ _ _ _).trans rfl
theorem r_Mo_ask_0 (x0 : Nat) (x1 : Int32) (x2 : Int32) (x3 : Int32) (h : MH) : ev M_Mo_ask 0 0 [some (.ref x0), some (.int x1), some (.int x2), some (.int x3), none, none, none, none, none] [] h =
    isC h x0 13 (nnR (hR h x0 12) fun r1 =>
    isC h r1 20 (inA h r1 (nI 0) (
    rI (ev M_Mo_isIn 0 0 [some (.int x1), some (.int (nI 0)), some (.int (hI h r1 (Int32.toNatClampNeg (nI 0))))] [] h) fun y3 h2 =>
    br (y3 = (nI 0))
      (some (some (.int (mI 1)), h2))
      (rI (ev M_Mo_isIn 0 0 [some (.int x2), some (.int (nI 0)), some (.int (nI 1))] [] h2) fun y5 h4 =>
       br (y5 = (nI 0))
         (some (some (.int (mI 1)), h4))
         (isC h4 x0 13 (rV (ev M_Mo_laysFirst 0 0 [some (.ref x0), none] [] h4) fun h6 =>
          ev M_Mo_ask 0 22 [some (.ref x0), some (.int x1), some (.int x2), some (.int x3), some (.int (nI 0)), some (.int (mI 1)), none, none, none] [] h6)))))) := (ev_eq _ _ _ _ _ _).trans rfl
set_option maxRecDepth 100000 in
set_option maxHeartbeats 4000000 in
theorem r_Mo_ask_22 (x0 : Nat) (x1 : Int32) (x2 : Int32) (x3 : Int32) (x4 : Int32) (x5 : Int32) (h : MH) : ev M_Mo_ask 0 22 [some (.ref x0), some (.int x1), some (.int x2), some (.int x3), some (.int x4), some (.int x5), none, none, none] [] h =
    isC h x0 13 (rI (ev M_Mo_lastPair 0 0 [some (.ref x0)] [] h) fun y2 h1 =>
    br (y2 < x5)
      (br (x4 = (nI 0))
         (some (some (.int (mI 1)), h1))
         (ev M_Mo_ask 0 59 [some (.ref x0), some (.int x1), some (.int x2), none, none, some (.int (mI 1)), some (.int (nI 0)), some (.int (nI 0)), none] [] h1))
      (isC h1 x0 13 (nnR (hR h1 x0 60) fun r3 =>
       isC h1 x0 13 (rI (ev M_Mo_fitsBy 0 0 [some (.ref x0), some (.int x5), some (.int x3), none] [] h1) fun y5 h4 =>
       rI (ev M_Mo_truth 0 0 [some (.int y5)] [] h4) fun y7 h6 =>
       isC h6 r3 20 (inA h6 r3 (x5 + (nI 1)) (
       let h8 := sI h6 r3 (Int32.toNatClampNeg (x5 + (nI 1))) y7
       isC h8 x0 13 (nnR (hR h8 x0 60) fun r9 =>
       isC h8 r9 20 (inA h8 r9 (x5 + (nI 1)) (
       ev M_Mo_ask 0 22 [some (.ref x0), some (.int x1), some (.int x2), some (.int x3), some (.int (x4 + (hI h8 r9 (Int32.toNatClampNeg (x5 + (nI 1)))))), some (.int (x5 + (nI 1))), none, none, none] [] h8))))))))) := (ev_eq _ _ _ _ _ _).trans rfl
theorem r_Mo_ask_59 (x0 : Nat) (x1 : Int32) (x2 : Int32) (x5 : Int32) (x6 : Int32) (x7 : Int32) (h : MH) : ev M_Mo_ask 0 59 [some (.ref x0), some (.int x1), some (.int x2), none, none, some (.int x5), some (.int x6), some (.int x7), none] [] h =
    br (x7 < ((nI 1) <<< (((nI 2) * x1) &&& 31)))
      (isC h x0 13 (rI (ev M_Mo_leftBy 0 0 [some (.ref x0), some (.int x1), some (.int x7), none, none, none] [] h) fun y2 h1 =>
       br (x5 = (mI 1))
         (ev M_Mo_ask 0 79 [some (.ref x0), some (.int x1), some (.int x2), none, none, none, none, some (.int x7), some (.int y2)] [] h1)
         (br (y2 < x6)
            (ev M_Mo_ask 0 79 [some (.ref x0), some (.int x1), some (.int x2), none, none, none, none, some (.int x7), some (.int y2)] [] h1)
            (ev M_Mo_ask 0 84 [some (.ref x0), some (.int x1), some (.int x2), none, none, some (.int x5), some (.int x6), some (.int x7), none] [] h1))))
      (br (x2 = (nI 0))
         (some (some (.int x5), h))
         (some (some (.int x6), h))) := (ev_eq _ _ _ _ _ _).trans rfl
theorem r_Mo_ask_79 (x0 : Nat) (x1 : Int32) (x2 : Int32) (x7 : Int32) (x8 : Int32) (h : MH) : ev M_Mo_ask 0 79 [some (.ref x0), some (.int x1), some (.int x2), none, none, none, none, some (.int x7), some (.int x8)] [] h =
    ev M_Mo_ask 0 84 [some (.ref x0), some (.int x1), some (.int x2), none, none, some (.int x7), some (.int x8), some (.int x7), none] [] h := (ev_eq _ _ _ _ _ _).trans rfl
theorem r_Mo_ask_84 (x0 : Nat) (x1 : Int32) (x2 : Int32) (x5 : Int32) (x6 : Int32) (x7 : Int32) (h : MH) : ev M_Mo_ask 0 84 [some (.ref x0), some (.int x1), some (.int x2), none, none, some (.int x5), some (.int x6), some (.int x7), none] [] h =
    ev M_Mo_ask 0 59 [some (.ref x0), some (.int x1), some (.int x2), none, none, some (.int x5), some (.int x6), some (.int (x7 + (nI 1))), none] [] h := (ev_eq _ _ _ _ _ _).trans rfl
theorem r_Mo_image_0 (x0 : Nat) (x1 : Int32) (h : MH) : ev M_Mo_image 0 0 [some (.ref x0), some (.int x1), none] [] h =
    rI (ev M_Mo_isIn 0 0 [some (.int x1), some (.int (nI 0)), some (.int (nI 2))] [] h) fun y2 h1 =>
    br (y2 = (nI 0))
      (some (some (.int (mI 1)), h1))
      (isC h1 x0 13 (nnR (hR h1 x0 63) fun r3 =>
       isC h1 r3 23 (inA h1 r3 x1 (
       let h4 := sI h1 r3 (Int32.toNatClampNeg x1) ((nI 1) &&& 1)
       ev M_Mo_image 0 15 [some (.ref x0), some (.int x1), some (.int (nI 0))] [] h4)))) := (ev_eq _ _ _ _ _ _).trans rfl
theorem r_Mo_image_15 (x0 : Nat) (x1 : Int32) (x2 : Int32) (h : MH) : ev M_Mo_image 0 15 [some (.ref x0), some (.int x1), some (.int x2)] [] h =
    br (x2 < (nI 81))
      (isC h x0 13 (nnR (hR h x0 62) fun r1 =>
       isC h x0 13 (nnR (hR h x0 34) fun r2 =>
       isC h r2 20 (inA h r2 x2 (
       isC h r1 20 (inA h r1 (((nI 81) * x1) + x2) (
       let h3 := sI h r1 (Int32.toNatClampNeg (((nI 81) * x1) + x2)) (hI h r2 (Int32.toNatClampNeg x2))
       ev M_Mo_image 0 15 [some (.ref x0), some (.int x1), some (.int (x2 + (nI 1)))] [] h3)))))))
      (isC h x0 13 (rI (ev M_Mo_pairsAll 0 0 [some (.ref x0), none, none] [] h) fun y5 h4 =>
       some (some (.int y5), h4))) := (ev_eq _ _ _ _ _ _).trans rfl
theorem r_Mo_back_0 (x0 : Nat) (x1 : Int32) (h : MH) : ev M_Mo_back 0 0 [some (.ref x0), some (.int x1), none] [] h =
    rI (ev M_Mo_isIn 0 0 [some (.int x1), some (.int (nI 0)), some (.int (nI 2))] [] h) fun y2 h1 =>
    br (y2 = (nI 0))
      (some (some (.int (mI 1)), h1))
      (isC h1 x0 13 (nnR (hR h1 x0 63) fun r3 =>
       isC h1 r3 23 (inA h1 r3 x1 (
       br ((hI h1 r3 (Int32.toNatClampNeg x1)) = (nI 0))
         (some (some (.int (mI 1)), h1))
         (ev M_Mo_back 0 15 [some (.ref x0), some (.int x1), some (.int (nI 0))] [] h1))))) := (ev_eq _ _ _ _ _ _).trans rfl
theorem r_Mo_back_15 (x0 : Nat) (x1 : Int32) (x2 : Int32) (h : MH) : ev M_Mo_back 0 15 [some (.ref x0), some (.int x1), some (.int x2)] [] h =
    br (x2 < (nI 81))
      (isC h x0 13 (nnR (hR h x0 34) fun r1 =>
       isC h x0 13 (nnR (hR h x0 62) fun r2 =>
       isC h r2 20 (inA h r2 (((nI 81) * x1) + x2) (
       isC h r1 20 (inA h r1 x2 (
       let h3 := sI h r1 (Int32.toNatClampNeg x2) (hI h r2 (Int32.toNatClampNeg (((nI 81) * x1) + x2)))
       ev M_Mo_back 0 15 [some (.ref x0), some (.int x1), some (.int (x2 + (nI 1)))] [] h3)))))))
      (isC h x0 13 (
       let h4 := sI h x0 36 (nI 0)
       isC h4 x0 13 (
       let h5 := sI h4 x0 37 (nI 0)
       isC h5 x0 13 (rI (ev M_Mo_pairsAll 0 0 [some (.ref x0), none, none] [] h5) fun y7 h6 =>
       some (some (.int y7), h6))))) := (ev_eq _ _ _ _ _ _).trans rfl
theorem r_Mo_toldSet_0 (x0 : Nat) (h : MH) : ev M_Mo_toldSet 0 0 [some (.ref x0), none, none] [] h =
    ev M_Mo_toldSet 0 5 [some (.ref x0), some (.int (nI 0)), some (.int (nI 0))] [] h := (ev_eq _ _ _ _ _ _).trans rfl
theorem r_Mo_toldSet_5 (x0 : Nat) (x1 : Int32) (x2 : Int32) (h : MH) : ev M_Mo_toldSet 0 5 [some (.ref x0), some (.int x1), some (.int x2)] [] h =
    isC h x0 13 (nnR (hR h x0 13) fun r1 =>
    isC h r1 20 (inA h r1 (nI 0) (
    br (x2 < (hI h r1 (Int32.toNatClampNeg (nI 0))))
      (isC h x0 13 (nnR (hR h x0 19) fun r2 =>
       isC h r2 20 (inA h r2 x2 (
       ev M_Mo_toldSet 0 5 [some (.ref x0), some (.int (x1 ||| ((hI h r2 (Int32.toNatClampNeg x2)) <<< (x2 &&& 31)))), some (.int (x2 + (nI 1)))] [] h))))
      (some (some (.int x1), h))))) := (ev_eq _ _ _ _ _ _).trans rfl
set_option maxRecDepth 100000 in
set_option maxHeartbeats 4000000 in
theorem r_Mo_about_0 (x0 : Nat) (x1 : Int32) (h : MH) : ev M_Mo_about 0 0 [some (.ref x0), some (.int x1)] [] h =
    br (x1 = (nI 0))
      (isC h x0 13 (nnR (hR h x0 13) fun r1 =>
       isC h r1 20 (inA h r1 (nI 0) (
       some (some (.int (hI h r1 (Int32.toNatClampNeg (nI 0)))), h)))))
      (br (x1 = (nI 1))
      (isC h x0 13 (nnR (hR h x0 12) fun r2 =>
       isC h r2 20 (inA h r2 (nI 0) (
       some (some (.int (hI h r2 (Int32.toNatClampNeg (nI 0)))), h)))))
      (br (x1 = (nI 2))
      (isC h x0 13 (rI (ev M_Mo_wide 0 0 [some (.ref x0)] [] h) fun y4 h3 =>
       some (some (.int y4), h3)))
      (br (x1 = (nI 3))
      (isC h x0 13 (rI (ev M_Mo_toldSet 0 0 [some (.ref x0), none, none] [] h) fun y6 h5 =>
       some (some (.int y6), h5)))
      (br (x1 = (nI 4))
      (isC h x0 13 (rI (ev M_Mo_pairsAll 0 0 [some (.ref x0), none, none] [] h) fun y8 h7 =>
       some (some (.int y8), h7)))
      (br (x1 = (nI 5))
      (isC h x0 13 (nnR (hR h x0 34) fun r9 =>
       isC h r9 20 (inA h r9 (nI 80) (
       some (some (.int (hI h r9 (Int32.toNatClampNeg (nI 80)))), h)))))
      (br (x1 = (nI 6))
      (isC h x0 13 (
       some (some (.int (hI h x0 36)), h)))
      (br (x1 = (nI 7))
      (isC h x0 13 (
       some (some (.int (hI h x0 37)), h)))
      (br (x1 = (nI 8))
      (isC h x0 13 (
       some (some (.int (hI h x0 57)), h)))
      (br (x1 = (nI 9))
      (isC h x0 13 (
       some (some (.int (hI h x0 58)), h)))
      (br (x1 = (nI 10))
      (isC h x0 13 (
       some (some (.int (hI h x0 1)), h)))
      (br (x1 = (nI 11))
      (isC h x0 13 (nnR (hR h x0 17) fun r10 =>
       isC h r10 20 (inA h r10 (nI 0) (
       some (some (.int (hI h r10 (Int32.toNatClampNeg (nI 0)))), h)))))
      (br (x1 = (nI 12))
      (isC h x0 13 (
       some (some (.int (hI h x0 50)), h)))
      (br (x1 = (nI 13))
      (isC h x0 13 (nnR (hR h x0 14) fun r11 =>
       isC h r11 20 (inA h r11 (nI 0) (
       some (some (.int (hI h r11 (Int32.toNatClampNeg (nI 0)))), h)))))
      (some (some (.int (mI 1)), h))))))))))))))) := (ev_eq _ _ _ _ _ _).trans rfl
