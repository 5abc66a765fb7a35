/-! What each stretch of the code does, by program (wip/whole/gen2.py). -/
theorem r_Reader_init_0 (x0 : Nat) (h : MH) : ev M_Reader_init 0 0 [some (.ref x0)] [] h =
    isC h x0 6 (
    let h1 := sI h x0 1 (mI 1)
    let h2 := nw h1 8 9
    rV (ev M_Scanner_init 0 0 [some (.ref (hT h1)), none, none, none] [] h2) fun h3 =>
    isC h3 x0 6 (
    let h4 := sR h3 x0 2 (hT h1)
    ev M_Reader_init 0 11 [none] [] h4)) := (ev_eq _ _ _ _ _ _).trans rfl
theorem r_Reader_init_11  (h : MH) : ev M_Reader_init 0 11 [none] [] h =
    some (none, h) := (ev_eq _ _ _ _ _ _).trans rfl
theorem r_Reader_read_0 (x0 : Nat) (x1 : Nat) (x2 : Int32) (x3 : Nat) (h : MH) : ev M_Reader_read 0 0 [some (.ref x0), some (.ref x1), some (.int x2), some (.ref x3), none] [] h =
    isC h x0 6 (
    let h1 := sR h x0 3 x3
    isC h1 x0 6 (nnR (hR h1 x0 3) fun r2 =>
    isC h1 r2 5 (rV (ev M_Plan_clear 0 0 [some (.ref r2)] [] h1) fun h3 =>
    isC h3 x0 6 (
    let h4 := sI h3 x0 0 (nI 0)
    isC h4 x0 6 (
    let h5 := sI h4 x0 1 (mI 1)
    isC h5 x0 6 (
    let h6 := sI h5 x0 4 (nI 0)
    isC h6 x0 6 (
    let h7 := sI h6 x0 5 (nI 0)
    isC h7 x0 6 (nnR (hR h7 x0 2) fun r8 =>
    isC h7 r8 8 (rV (ev M_Scanner_begin 0 0 [some (.ref r8), some (.ref x1), some (.int x2)] [] h7) fun h9 =>
    ev M_Reader_read 0 26 [some (.ref x0), none, none, none, some (.int (nI 0))] [] h9))))))))) := (ev_eq _ _ _ _ _ _).trans rfl
set_option maxRecDepth 100000 in
set_option maxHeartbeats 4000000 in
theorem r_Reader_read_26 (x0 : Nat) (x4 : Int32) (h : MH) : ev M_Reader_read 0 26 [some (.ref x0), none, none, none, some (.int x4)] [] h =
    br (x4 < (nI 1600))
      (isC h x0 6 (
       br ((hI h x0 0) = (nI 0))
         (isC h x0 6 (nnR (hR h x0 2) fun r1 =>
          isC h r1 8 (
          br ((hI h r1 0) = (nI 2))
            (ev M_Reader_read 0 84 [some (.ref x0), none, none, none, none] [] h)
            (isC h x0 6 (nnR (hR h x0 2) fun r2 =>
             isC h r2 8 (
             br ((hI h r2 0) = (nI 100))
               (isC h x0 6 (rV (ev M_Reader_readLevels 0 0 [some (.ref x0)] [] h) fun h3 =>
                ev M_Reader_read 0 78 [some (.ref x0), none, none, none, some (.int x4)] [] h3))
               (br ((hI h r2 0) = (nI 101))
               (isC h x0 6 (rV (ev M_Reader_readRelation 0 0 [some (.ref x0), none, none, none, none] [] h) fun h4 =>
                ev M_Reader_read 0 78 [some (.ref x0), none, none, none, some (.int x4)] [] h4))
               (br ((hI h r2 0) = (nI 102))
               (ev M_Reader_read 0 74 [some (.ref x0), none, none, none, some (.int x4)] [] h)
               (br ((hI h r2 0) = (nI 103))
               (ev M_Reader_read 0 74 [some (.ref x0), none, none, none, some (.int x4)] [] h)
               (br ((hI h r2 0) = (nI 104))
               (isC h x0 6 (rV (ev M_Reader_startLineOnce 0 0 [some (.ref x0), none] [] h) fun h5 =>
                isC h5 x0 6 (rV (ev M_Reader_readOrs 0 0 [some (.ref x0), some (.int (nI 0)), none] [] h5) fun h6 =>
                ev M_Reader_read 0 78 [some (.ref x0), none, none, none, some (.int x4)] [] h6)))
               (br ((hI h r2 0) = (nI 105))
               (isC h x0 6 (rV (ev M_Reader_startLineOnce 0 0 [some (.ref x0), none] [] h) fun h7 =>
                isC h7 x0 6 (nnR (hR h7 x0 3) fun r8 =>
                isC h7 x0 6 (rI (ev M_Reader_readNumber 0 0 [some (.ref x0), some (.int (nI 0)), some (.int (nI 100)), none] [] h7) fun y10 h9 =>
                isC h9 r8 5 (
                let h11 := sI h9 r8 3 y10
                ev M_Reader_read 0 78 [some (.ref x0), none, none, none, some (.int x4)] [] h11)))))
               (br ((hI h r2 0) = (nI 106))
               (isC h x0 6 (rV (ev M_Reader_startLineOnce 0 0 [some (.ref x0), none] [] h) fun h12 =>
                isC h12 x0 6 (nnR (hR h12 x0 3) fun r13 =>
                isC h12 x0 6 (rI (ev M_Reader_readNumber 0 0 [some (.ref x0), some (.int (nI 0)), some (.int (nI 999)), none] [] h12) fun y15 h14 =>
                isC h14 r13 5 (
                let h16 := sI h14 r13 4 y15
                ev M_Reader_read 0 78 [some (.ref x0), none, none, none, some (.int x4)] [] h16)))))
               (ev M_Reader_read 0 74 [some (.ref x0), none, none, none, some (.int x4)] [] h)))))))))))))
         (ev M_Reader_read 0 84 [some (.ref x0), none, none, none, none] [] h)))
      (ev M_Reader_read 0 84 [some (.ref x0), none, none, none, none] [] h) := (ev_eq _ _ _ _ _ _).trans rfl
theorem r_Reader_read_74 (x0 : Nat) (x4 : Int32) (h : MH) : ev M_Reader_read 0 74 [some (.ref x0), none, none, none, some (.int x4)] [] h =
    isC h x0 6 (rV (ev M_Reader_fail 0 0 [some (.ref x0), some (.int (nI 2))] [] h) fun h1 =>
    ev M_Reader_read 0 78 [some (.ref x0), none, none, none, some (.int x4)] [] h1) := (ev_eq _ _ _ _ _ _).trans rfl
theorem r_Reader_read_78 (x0 : Nat) (x4 : Int32) (h : MH) : ev M_Reader_read 0 78 [some (.ref x0), none, none, none, some (.int x4)] [] h =
    isC h x0 6 (rV (ev M_Reader_expect 0 0 [some (.ref x0), some (.int (nI 59))] [] h) fun h1 =>
    ev M_Reader_read 0 26 [some (.ref x0), none, none, none, some (.int (x4 + (nI 1)))] [] h1) := (ev_eq _ _ _ _ _ _).trans rfl
theorem r_Reader_read_84 (x0 : Nat) (h : MH) : ev M_Reader_read 0 84 [some (.ref x0), none, none, none, none] [] h =
    isC h x0 6 (
    br ((hI h x0 0) = (nI 0))
      (isZ (nI 1) (some (some (.int (nI 1)), h)))
      (isZ (nI 0) (some (some (.int (nI 0)), h)))) := (ev_eq _ _ _ _ _ _).trans rfl
theorem r_Reader_fail_0 (x0 : Nat) (x1 : Int32) (h : MH) : ev M_Reader_fail 0 0 [some (.ref x0), some (.int x1)] [] h =
    isC h x0 6 (
    br ((hI h x0 0) = (nI 0))
      (isC h x0 6 (nnR (hR h x0 2) fun r1 =>
       isC h r1 8 (
       br ((hI h r1 0) = (nI 1))
         (ev M_Reader_fail 0 13 [some (.ref x0), none] [(.int (nI 1)), (.ref x0)] h)
         (ev M_Reader_fail 0 13 [some (.ref x0), none] [(.int x1), (.ref x0)] h))))
      (some (none, h))) := (ev_eq _ _ _ _ _ _).trans rfl
theorem r_Reader_fail_13 (x0 : Nat) (s0 : Nat) (s1 : Int32) (h : MH) : ev M_Reader_fail 0 13 [some (.ref x0), none] [(.int s1), (.ref s0)] h =
    isC h s0 6 (
    let h1 := sI h s0 0 s1
    isC h1 x0 6 (nnR (hR h1 x0 2) fun r2 =>
    isC h1 r2 8 (
    isC h1 x0 6 (
    let h3 := sI h1 x0 1 (hI h1 r2 1)
    isC h3 x0 6 (nnR (hR h3 x0 2) fun r4 =>
    isC h3 r4 8 (rV (ev M_Scanner_halt 0 0 [some (.ref r4)] [] h3) fun h5 =>
    some (none, h5))))))) := (ev_eq _ _ _ _ _ _).trans rfl
theorem r_Reader_expect_0 (x0 : Nat) (x1 : Int32) (h : MH) : ev M_Reader_expect 0 0 [some (.ref x0), some (.int x1)] [] h =
    isC h x0 6 (nnR (hR h x0 2) fun r1 =>
    isC h r1 8 (
    br ((hI h r1 0) = x1)
      (isC h x0 6 (nnR (hR h x0 2) fun r2 =>
       isC h r2 8 (rV (ev M_Scanner_step 0 0 [some (.ref r2)] [] h) fun h3 =>
       some (none, h3))))
      (isC h x0 6 (rV (ev M_Reader_fail 0 0 [some (.ref x0), some (.int (nI 2))] [] h) fun h4 =>
       some (none, h4))))) := (ev_eq _ _ _ _ _ _).trans rfl
theorem r_Reader_readNumber_0 (x0 : Nat) (x1 : Int32) (x2 : Int32) (h : MH) : ev M_Reader_readNumber 0 0 [some (.ref x0), some (.int x1), some (.int x2), none] [] h =
    isC h x0 6 (nnR (hR h x0 2) fun r1 =>
    isC h r1 8 (
    isC h x0 6 (nnR (hR h x0 2) fun r2 =>
    isC h r2 8 (
    br ((hI h r2 0) = (nI 3))
      (br ((hI h r1 2) < x1)
         (ev M_Reader_readNumber 0 20 [some (.ref x0), some (.int x1), none, none] [] h)
         (br (x2 < (hI h r1 2))
            (ev M_Reader_readNumber 0 20 [some (.ref x0), some (.int x1), none, none] [] h)
            (isC h x0 6 (nnR (hR h x0 2) fun r3 =>
             isC h r3 8 (rV (ev M_Scanner_step 0 0 [some (.ref r3)] [] h) fun h4 =>
             some (some (.int (hI h r1 2)), h4))))))
      (isC h x0 6 (rV (ev M_Reader_fail 0 0 [some (.ref x0), some (.int (nI 2))] [] h) fun h5 =>
       some (some (.int x1), h5))))))) := (ev_eq _ _ _ _ _ _).trans rfl
theorem r_Reader_readNumber_20 (x0 : Nat) (x1 : Int32) (h : MH) : ev M_Reader_readNumber 0 20 [some (.ref x0), some (.int x1), none, none] [] h =
    isC h x0 6 (rV (ev M_Reader_fail 0 0 [some (.ref x0), some (.int (nI 4))] [] h) fun h1 =>
    some (some (.int x1), h1)) := (ev_eq _ _ _ _ _ _).trans rfl
theorem r_Reader_startLineOnce_0 (x0 : Nat) (h : MH) : ev M_Reader_startLineOnce 0 0 [some (.ref x0), none] [] h =
    isC h x0 6 (nnR (hR h x0 2) fun r1 =>
    isC h r1 8 (
    isC h x0 6 (
    br (((hI h x0 4) &&& ((nI 1) <<< (((hI h r1 0) - (nI 100)) &&& 31))) = (nI 0))
      (ev M_Reader_startLineOnce 0 17 [some (.ref x0), some (.int ((nI 1) <<< (((hI h r1 0) - (nI 100)) &&& 31)))] [] h)
      (isC h x0 6 (rV (ev M_Reader_fail 0 0 [some (.ref x0), some (.int (nI 2))] [] h) fun h2 =>
       ev M_Reader_startLineOnce 0 17 [some (.ref x0), some (.int ((nI 1) <<< (((hI h r1 0) - (nI 100)) &&& 31)))] [] h2))))) := (ev_eq _ _ _ _ _ _).trans rfl
theorem r_Reader_startLineOnce_17 (x0 : Nat) (x1 : Int32) (h : MH) : ev M_Reader_startLineOnce 0 17 [some (.ref x0), some (.int x1)] [] h =
    isC h x0 6 (
    isC h x0 6 (
    let h1 := sI h x0 4 ((hI h x0 4) ||| x1)
    isC h1 x0 6 (nnR (hR h1 x0 2) fun r2 =>
    isC h1 r2 8 (rV (ev M_Scanner_step 0 0 [some (.ref r2)] [] h1) fun h3 =>
    some (none, h3))))) := (ev_eq _ _ _ _ _ _).trans rfl
theorem r_Reader_readLevels_0 (x0 : Nat) (h : MH) : ev M_Reader_readLevels 0 0 [some (.ref x0)] [] h =
    isC h x0 6 (nnR (hR h x0 3) fun r1 =>
    isC h r1 5 (
    br ((nI 0) < (hI h r1 1))
      (isC h x0 6 (rV (ev M_Reader_fail 0 0 [some (.ref x0), some (.int (nI 2))] [] h) fun h2 =>
       some (none, h2)))
      (isC h x0 6 (rV (ev M_Reader_startLineOnce 0 0 [some (.ref x0), none] [] h) fun h3 =>
       isC h3 x0 6 (nnR (hR h3 x0 3) fun r4 =>
       isC h3 x0 6 (rI (ev M_Reader_readNumber 0 0 [some (.ref x0), some (.int (nI 1)), some (.int (nI 4)), none] [] h3) fun y6 h5 =>
       isC h5 r4 5 (
       let h7 := sI h5 r4 0 y6
       some (none, h7)))))))) := (ev_eq _ _ _ _ _ _).trans rfl
theorem r_Reader_readRelation_0 (x0 : Nat) (h : MH) : ev M_Reader_readRelation 0 0 [some (.ref x0), none, none, none, none] [] h =
    isC h x0 6 (nnR (hR h x0 3) fun r1 =>
    isC h r1 5 (rI (ev M_Plan_isFull 0 0 [some (.ref r1)] [] h) fun y3 h2 =>
    br (y3 = (nI 0))
      (isC h2 x0 6 (nnR (hR h2 x0 2) fun r4 =>
       isC h2 r4 8 (rV (ev M_Scanner_step 0 0 [some (.ref r4)] [] h2) fun h5 =>
       isC h5 x0 6 (nnR (hR h5 x0 2) fun r6 =>
       isC h5 r6 8 (
       isC h5 x0 6 (rV (ev M_Reader_readNewName 0 0 [some (.ref x0)] [] h5) fun h7 =>
       isC h7 x0 6 (nnR (hR h7 x0 2) fun r8 =>
       isC h7 r8 8 (
       br ((hI h7 r8 0) = (nI 102))
         (ev M_Reader_readRelation 0 26 [some (.ref x0), some (.long (hL h5 r6 3)), none, none, none] [(.int (nI 1))] h7)
         (ev M_Reader_readRelation 0 26 [some (.ref x0), some (.long (hL h5 r6 3)), none, none, none] [(.int (nI 0))] h7)))))))))
      (isC h2 x0 6 (rV (ev M_Reader_fail 0 0 [some (.ref x0), some (.int (nI 2))] [] h2) fun h9 =>
       some (none, h9))))) := (ev_eq _ _ _ _ _ _).trans rfl
theorem r_Reader_readRelation_26 (x0 : Nat) (x1 : Int64) (s0 : Int32) (h : MH) : ev M_Reader_readRelation 0 26 [some (.ref x0), some (.long x1), none, none, none] [(.int s0)] h =
    isC h x0 6 (nnR (hR h x0 3) fun r1 =>
    isC h r1 5 (rR (ev M_Plan_begin 0 0 [some (.ref r1), none] [] h) fun r3 h2 =>
    br (s0 = (nI 0))
      (isC h2 x0 6 (rV (ev M_Reader_expect 0 0 [some (.ref x0), some (.int (nI 103))] [] h2) fun h4 =>
       isC h4 x0 6 (rV (ev M_Reader_readJoined 0 0 [some (.ref x0), some (.int (nI 0)), none, none] [] h4) fun h5 =>
       ev M_Reader_readRelation 0 47 [some (.ref x0), some (.long x1), none, some (.int s0), none] [] h5)))
      (isC h2 x0 6 (nnR (hR h2 x0 2) fun r6 =>
       isC h2 r6 8 (rV (ev M_Scanner_step 0 0 [some (.ref r6)] [] h2) fun h7 =>
       isC h7 x0 6 (rV (ev M_Reader_readPairs 0 0 [some (.ref x0), some (.ref r3), none, none, none, none] [] h7) fun h8 =>
       ev M_Reader_readRelation 0 47 [some (.ref x0), some (.long x1), none, some (.int s0), none] [] h8)))))) := (ev_eq _ _ _ _ _ _).trans rfl
theorem r_Reader_readRelation_47 (x0 : Nat) (x1 : Int64) (x3 : Int32) (h : MH) : ev M_Reader_readRelation 0 47 [some (.ref x0), some (.long x1), none, some (.int x3), none] [] h =
    isC h x0 6 (nnR (hR h x0 3) fun r1 =>
    isC h r1 5 (rV (ev M_Plan_finish 0 0 [some (.ref r1), some (.long x1), none, some (.int x3)] [] h) fun h2 =>
    some (none, h2))) := (ev_eq _ _ _ _ _ _).trans rfl
theorem r_Reader_readNewName_0 (x0 : Nat) (h : MH) : ev M_Reader_readNewName 0 0 [some (.ref x0)] [] h =
    isC h x0 6 (nnR (hR h x0 2) fun r1 =>
    isC h r1 8 (
    br ((hI h r1 0) = (nI 4))
      (isC h x0 6 (nnR (hR h x0 3) fun r2 =>
       isC h x0 6 (nnR (hR h x0 2) fun r3 =>
       isC h r3 8 (
       isC h r2 5 (rI (ev M_Plan_find 0 0 [some (.ref r2), some (.long (hL h r3 3)), none, none] [] h) fun y5 h4 =>
       br (y5 = (mI 1))
         (isC h4 x0 6 (nnR (hR h4 x0 2) fun r6 =>
          isC h4 r6 8 (rV (ev M_Scanner_step 0 0 [some (.ref r6)] [] h4) fun h7 =>
          some (none, h7))))
         (isC h4 x0 6 (rV (ev M_Reader_fail 0 0 [some (.ref x0), some (.int (nI 3))] [] h4) fun h8 =>
          some (none, h8))))))))
      (isC h x0 6 (rV (ev M_Reader_fail 0 0 [some (.ref x0), some (.int (nI 2))] [] h) fun h9 =>
       some (none, h9))))) := (ev_eq _ _ _ _ _ _).trans rfl
theorem r_Reader_readPairs_0 (x0 : Nat) (x1 : Nat) (h : MH) : ev M_Reader_readPairs 0 0 [some (.ref x0), some (.ref x1), none, none, none, none] [] h =
    isC h x0 6 (nnR (hR h x0 3) fun r1 =>
    isC h r1 5 (rI (ev M_Plan_size 0 0 [some (.ref r1)] [] h) fun y3 h2 =>
    ev M_Reader_readPairs 0 9 [some (.ref x0), some (.ref x1), some (.int (y3 - (nI 1))), some (.int (nI 0)), none, none] [] h2)) := (ev_eq _ _ _ _ _ _).trans rfl
theorem r_Reader_readPairs_9 (x0 : Nat) (x1 : Nat) (x2 : Int32) (x3 : Int32) (h : MH) : ev M_Reader_readPairs 0 9 [some (.ref x0), some (.ref x1), some (.int x2), some (.int x3), none, none] [] h =
    br (x3 < (nI 40))
      (isC h x0 6 (nnR (hR h x0 2) fun r1 =>
       isC h r1 8 (
       br ((hI h r1 0) = (nI 3))
         (isC h x0 6 (rI (ev M_Reader_readNumber 0 0 [some (.ref x0), some (.int (nI 0)), some (.int x2), none] [] h) fun y3 h2 =>
          isC h2 x0 6 (rI (ev M_Reader_readNumber 0 0 [some (.ref x0), some (.int (nI 0)), some (.int x2), none] [] h2) fun y5 h4 =>
          isC h4 x1 3 (rV (ev M_Grid_add 0 0 [some (.ref x1), some (.int y3), some (.int y5)] [] h4) fun h6 =>
          ev M_Reader_readPairs 0 9 [some (.ref x0), some (.ref x1), some (.int x2), some (.int (x3 + (nI 1))), none, none] [] h6))))
         (ev M_Reader_readPairs 0 34 [some (.ref x0), none, none, none, none, none] [] h))))
      (ev M_Reader_readPairs 0 34 [some (.ref x0), none, none, none, none, none] [] h) := (ev_eq _ _ _ _ _ _).trans rfl
theorem r_Reader_readPairs_34 (x0 : Nat) (h : MH) : ev M_Reader_readPairs 0 34 [some (.ref x0), none, none, none, none, none] [] h =
    isC h x0 6 (nnR (hR h x0 2) fun r1 =>
    isC h r1 8 (
    br ((hI h r1 0) = (nI 3))
      (isC h x0 6 (rV (ev M_Reader_fail 0 0 [some (.ref x0), some (.int (nI 2))] [] h) fun h2 =>
       some (none, h2)))
      (some (none, h)))) := (ev_eq _ _ _ _ _ _).trans rfl
theorem r_Reader_readJoined_0 (x0 : Nat) (x1 : Int32) (d : Nat) (h : MH) : ev M_Reader_readJoined d 0 [some (.ref x0), some (.int x1), none, none] [] h =
    isC h x0 6 (rV (ev M_Reader_readMet d 0 [some (.ref x0), some (.int x1), none, none] [] h) fun h1 =>
    ev M_Reader_readJoined d 6 [some (.ref x0), some (.int x1), some (.int (nI 0)), none] [] h1) := (ev_eq _ _ _ _ _ _).trans rfl
theorem r_Reader_readJoined_6 (x0 : Nat) (x1 : Int32) (x2 : Int32) (d : Nat) (h : MH) : ev M_Reader_readJoined d 6 [some (.ref x0), some (.int x1), some (.int x2), none] [] h =
    br (x2 < (nI 1600))
      (isC h x0 6 (nnR (hR h x0 2) fun r1 =>
       isC h r1 8 (
       rI (ev M_Reader_isOrOrLess 0 0 [some (.int (hI h r1 0))] [] h) fun y3 h2 =>
       br (y3 = (nI 0))
         (some (none, h2))
         (isC h2 x0 6 (nnR (hR h2 x0 2) fun r4 =>
          isC h2 r4 8 (
          br ((hI h2 r4 0) = (nI 107))
            (ev M_Reader_readJoined d 23 [some (.ref x0), some (.int x1), some (.int x2), none] [(.int (nI 0))] h2)
            (ev M_Reader_readJoined d 23 [some (.ref x0), some (.int x1), some (.int x2), none] [(.int (nI 2))] h2)))))))
      (some (none, h)) := (ev_eq _ _ _ _ _ _).trans rfl
theorem r_Reader_readJoined_23 (x0 : Nat) (x1 : Int32) (x2 : Int32) (s0 : Int32) (d : Nat) (h : MH) : ev M_Reader_readJoined d 23 [some (.ref x0), some (.int x1), some (.int x2), none] [(.int s0)] h =
    isC h x0 6 (nnR (hR h x0 2) fun r1 =>
    isC h r1 8 (rV (ev M_Scanner_step 0 0 [some (.ref r1)] [] h) fun h2 =>
    isC h2 x0 6 (rV (ev M_Reader_readMet d 0 [some (.ref x0), some (.int x1), none, none] [] h2) fun h3 =>
    isC h3 x0 6 (nnR (hR h3 x0 3) fun r4 =>
    isC h3 r4 5 (rV (ev M_Plan_addPart 0 0 [some (.ref r4), some (.int ((nI 20) + s0))] [] h3) fun h5 =>
    ev M_Reader_readJoined d 6 [some (.ref x0), some (.int x1), some (.int (x2 + (nI 1))), none] [] h5))))) := (ev_eq _ _ _ _ _ _).trans rfl
theorem r_Reader_isOrOrLess_0 (x0 : Int32) (h : MH) : ev M_Reader_isOrOrLess 0 0 [some (.int x0)] [] h =
    br (x0 = (nI 107))
      (ev M_Reader_isOrOrLess 0 7 [none] [] h)
      (br (x0 = (nI 108))
         (ev M_Reader_isOrOrLess 0 7 [none] [] h)
         (isZ (nI 0) (some (some (.int (nI 0)), h)))) := (ev_eq _ _ _ _ _ _).trans rfl
theorem r_Reader_isOrOrLess_7  (h : MH) : ev M_Reader_isOrOrLess 0 7 [none] [] h =
    isZ (nI 1) (some (some (.int (nI 1)), h)) := (ev_eq _ _ _ _ _ _).trans rfl
theorem r_Reader_readMet_0 (x0 : Nat) (x1 : Int32) (d : Nat) (h : MH) : ev M_Reader_readMet d 0 [some (.ref x0), some (.int x1), none, none] [] h =
    isC h x0 6 (rV (ev M_Reader_readOne d 0 [some (.ref x0), some (.int x1)] [] h) fun h1 =>
    ev M_Reader_readMet d 6 [some (.ref x0), some (.int x1), some (.int (nI 0)), none] [] h1) := (ev_eq _ _ _ _ _ _).trans rfl
theorem r_Reader_readMet_6 (x0 : Nat) (x1 : Int32) (x2 : Int32) (d : Nat) (h : MH) : ev M_Reader_readMet d 6 [some (.ref x0), some (.int x1), some (.int x2), none] [] h =
    br (x2 < (nI 1600))
      (isC h x0 6 (nnR (hR h x0 2) fun r1 =>
       isC h r1 8 (
       rI (ev M_Reader_isAndOrThen 0 0 [some (.int (hI h r1 0))] [] h) fun y3 h2 =>
       br (y3 = (nI 0))
         (some (none, h2))
         (isC h2 x0 6 (nnR (hR h2 x0 2) fun r4 =>
          isC h2 r4 8 (
          br ((hI h2 r4 0) = (nI 109))
            (ev M_Reader_readMet d 23 [some (.ref x0), some (.int x1), some (.int x2), none] [(.int (nI 1))] h2)
            (ev M_Reader_readMet d 23 [some (.ref x0), some (.int x1), some (.int x2), none] [(.int (nI 3))] h2)))))))
      (some (none, h)) := (ev_eq _ _ _ _ _ _).trans rfl
theorem r_Reader_readMet_23 (x0 : Nat) (x1 : Int32) (x2 : Int32) (s0 : Int32) (d : Nat) (h : MH) : ev M_Reader_readMet d 23 [some (.ref x0), some (.int x1), some (.int x2), none] [(.int s0)] h =
    isC h x0 6 (nnR (hR h x0 2) fun r1 =>
    isC h r1 8 (rV (ev M_Scanner_step 0 0 [some (.ref r1)] [] h) fun h2 =>
    isC h2 x0 6 (rV (ev M_Reader_readOne d 0 [some (.ref x0), some (.int x1)] [] h2) fun h3 =>
    isC h3 x0 6 (nnR (hR h3 x0 3) fun r4 =>
    isC h3 r4 5 (rV (ev M_Plan_addPart 0 0 [some (.ref r4), some (.int ((nI 20) + s0))] [] h3) fun h5 =>
    ev M_Reader_readMet d 6 [some (.ref x0), some (.int x1), some (.int (x2 + (nI 1))), none] [] h5))))) := (ev_eq _ _ _ _ _ _).trans rfl
theorem r_Reader_isAndOrThen_0 (x0 : Int32) (h : MH) : ev M_Reader_isAndOrThen 0 0 [some (.int x0)] [] h =
    br (x0 = (nI 109))
      (ev M_Reader_isAndOrThen 0 7 [none] [] h)
      (br (x0 = (nI 110))
         (ev M_Reader_isAndOrThen 0 7 [none] [] h)
         (isZ (nI 0) (some (some (.int (nI 0)), h)))) := (ev_eq _ _ _ _ _ _).trans rfl
theorem r_Reader_isAndOrThen_7  (h : MH) : ev M_Reader_isAndOrThen 0 7 [none] [] h =
    isZ (nI 1) (some (some (.int (nI 1)), h)) := (ev_eq _ _ _ _ _ _).trans rfl
set_option maxRecDepth 100000 in
set_option maxHeartbeats 4000000 in
theorem r_Reader_readOne_0 (x0 : Nat) (x1 : Int32) (d : Nat) (h : MH) : ev M_Reader_readOne d 0 [some (.ref x0), some (.int x1)] [] h =
    br ((nI 5) < x1)
      (isC h x0 6 (rV (ev M_Reader_fail 0 0 [some (.ref x0), some (.int (nI 2))] [] h) fun h1 =>
       some (none, h1)))
      (isC h x0 6 (nnR (hR h x0 2) fun r2 =>
       isC h r2 8 (
       br ((hI h r2 0) = (nI 4))
         (isC h x0 6 (nnR (hR h x0 3) fun r3 =>
          isC h x0 6 (nnR (hR h x0 2) fun r4 =>
          isC h r4 8 (
          isC h r3 5 (rI (ev M_Plan_find 0 0 [some (.ref r3), some (.long (hL h r4 3)), none, none] [] h) fun y6 h5 =>
          isC h5 x0 6 (rV (ev M_Reader_readLeaf 0 0 [some (.ref x0), some (.int y6)] [] h5) fun h7 =>
          some (none, h7)))))))
         (br ((hI h r2 0) = (nI 40))
         (isC h x0 6 (nnR (hR h x0 2) fun r8 =>
          isC h r8 8 (rV (ev M_Scanner_step 0 0 [some (.ref r8)] [] h) fun h9 =>
          isC h9 x0 6 (if d < 8 then rV (ev M_Reader_readJoined (d + 1) 0 [some (.ref x0), some (.int (x1 + (nI 1))), none, none] [] h9) fun h10 =>
          isC h10 x0 6 (rV (ev M_Reader_expect 0 0 [some (.ref x0), some (.int (nI 41))] [] h10) fun h11 =>
          some (none, h11)) else none))))
         (br ((hI h r2 0) = (nI 111))
         (isC h x0 6 (nnR (hR h x0 2) fun r12 =>
          isC h r12 8 (rV (ev M_Scanner_step 0 0 [some (.ref r12)] [] h) fun h13 =>
          isC h13 x0 6 (if d < 8 then rV (ev M_Reader_readOne (d + 1) 0 [some (.ref x0), some (.int (x1 + (nI 1)))] [] h13) fun h14 =>
          isC h14 x0 6 (nnR (hR h14 x0 3) fun r15 =>
          isC h14 r15 5 (rV (ev M_Plan_addPart 0 0 [some (.ref r15), some (.int (nI 12))] [] h14) fun h16 =>
          some (none, h16))) else none))))
         (br ((hI h r2 0) = (nI 112))
         (isC h x0 6 (rV (ev M_Reader_readLeaf 0 0 [some (.ref x0), some (.int (nI 10))] [] h) fun h17 =>
          some (none, h17)))
         (br ((hI h r2 0) = (nI 113))
         (isC h x0 6 (rV (ev M_Reader_readLeaf 0 0 [some (.ref x0), some (.int (nI 11))] [] h) fun h18 =>
          some (none, h18)))
         (isC h x0 6 (rV (ev M_Reader_fail 0 0 [some (.ref x0), some (.int (nI 2))] [] h) fun h19 =>
          some (none, h19)))))))))) := (ev_eq _ _ _ _ _ _).trans rfl
theorem r_Reader_readLeaf_0 (x0 : Nat) (x1 : Int32) (h : MH) : ev M_Reader_readLeaf 0 0 [some (.ref x0), some (.int x1)] [] h =
    isC h x0 6 (
    br ((hI h x0 5) < (nI 30))
      (br (x1 = (mI 1))
         (isC h x0 6 (rV (ev M_Reader_fail 0 0 [some (.ref x0), some (.int (nI 5))] [] h) fun h1 =>
          some (none, h1)))
         (isC h x0 6 (
          isC h x0 6 (
          let h2 := sI h x0 5 ((hI h x0 5) + (nI 1))
          isC h2 x0 6 (nnR (hR h2 x0 3) fun r3 =>
          isC h2 r3 5 (rV (ev M_Plan_addPart 0 0 [some (.ref r3), some (.int x1)] [] h2) fun h4 =>
          isC h4 x0 6 (nnR (hR h4 x0 2) fun r5 =>
          isC h4 r5 8 (rV (ev M_Scanner_step 0 0 [some (.ref r5)] [] h4) fun h6 =>
          some (none, h6)))))))))
      (isC h x0 6 (rV (ev M_Reader_fail 0 0 [some (.ref x0), some (.int (nI 2))] [] h) fun h7 =>
       some (none, h7)))) := (ev_eq _ _ _ _ _ _).trans rfl
theorem r_Reader_readOrs_0 (x0 : Nat) (x1 : Int32) (d : Nat) (h : MH) : ev M_Reader_readOrs d 0 [some (.ref x0), some (.int x1), none] [] h =
    isC h x0 6 (rV (ev M_Reader_readAnds d 0 [some (.ref x0), some (.int x1), none] [] h) fun h1 =>
    ev M_Reader_readOrs d 6 [some (.ref x0), some (.int x1), some (.int (nI 0))] [] h1) := (ev_eq _ _ _ _ _ _).trans rfl
theorem r_Reader_readOrs_6 (x0 : Nat) (x1 : Int32) (x2 : Int32) (d : Nat) (h : MH) : ev M_Reader_readOrs d 6 [some (.ref x0), some (.int x1), some (.int x2)] [] h =
    br (x2 < (nI 1600))
      (isC h x0 6 (nnR (hR h x0 2) fun r1 =>
       isC h r1 8 (
       br ((hI h r1 0) = (nI 107))
         (isC h x0 6 (nnR (hR h x0 2) fun r2 =>
          isC h r2 8 (rV (ev M_Scanner_step 0 0 [some (.ref r2)] [] h) fun h3 =>
          isC h3 x0 6 (rV (ev M_Reader_readAnds d 0 [some (.ref x0), some (.int x1), none] [] h3) fun h4 =>
          isC h4 x0 6 (nnR (hR h4 x0 3) fun r5 =>
          isC h4 r5 5 (nnR (hR h4 r5 6) fun r6 =>
          isC h4 r6 2 (rV (ev M_Formula_addPart 0 0 [some (.ref r6), some (.int (nI 107))] [] h4) fun h7 =>
          ev M_Reader_readOrs d 6 [some (.ref x0), some (.int x1), some (.int (x2 + (nI 1)))] [] h7)))))))
         (some (none, h)))))
      (some (none, h)) := (ev_eq _ _ _ _ _ _).trans rfl
theorem r_Reader_readAnds_0 (x0 : Nat) (x1 : Int32) (d : Nat) (h : MH) : ev M_Reader_readAnds d 0 [some (.ref x0), some (.int x1), none] [] h =
    isC h x0 6 (rV (ev M_Reader_readNots d 0 [some (.ref x0), some (.int x1)] [] h) fun h1 =>
    ev M_Reader_readAnds d 6 [some (.ref x0), some (.int x1), some (.int (nI 0))] [] h1) := (ev_eq _ _ _ _ _ _).trans rfl
theorem r_Reader_readAnds_6 (x0 : Nat) (x1 : Int32) (x2 : Int32) (d : Nat) (h : MH) : ev M_Reader_readAnds d 6 [some (.ref x0), some (.int x1), some (.int x2)] [] h =
    br (x2 < (nI 1600))
      (isC h x0 6 (nnR (hR h x0 2) fun r1 =>
       isC h r1 8 (
       br ((hI h r1 0) = (nI 109))
         (isC h x0 6 (nnR (hR h x0 2) fun r2 =>
          isC h r2 8 (rV (ev M_Scanner_step 0 0 [some (.ref r2)] [] h) fun h3 =>
          isC h3 x0 6 (rV (ev M_Reader_readNots d 0 [some (.ref x0), some (.int x1)] [] h3) fun h4 =>
          isC h4 x0 6 (nnR (hR h4 x0 3) fun r5 =>
          isC h4 r5 5 (nnR (hR h4 r5 6) fun r6 =>
          isC h4 r6 2 (rV (ev M_Formula_addPart 0 0 [some (.ref r6), some (.int (nI 109))] [] h4) fun h7 =>
          ev M_Reader_readAnds d 6 [some (.ref x0), some (.int x1), some (.int (x2 + (nI 1)))] [] h7)))))))
         (some (none, h)))))
      (some (none, h)) := (ev_eq _ _ _ _ _ _).trans rfl
theorem r_Reader_readNots_0 (x0 : Nat) (x1 : Int32) (d : Nat) (h : MH) : ev M_Reader_readNots d 0 [some (.ref x0), some (.int x1)] [] h =
    isC h x0 6 (nnR (hR h x0 2) fun r1 =>
    isC h r1 8 (
    br ((hI h r1 0) = (nI 114))
      (br ((nI 6) < x1)
         (isC h x0 6 (rV (ev M_Reader_fail 0 0 [some (.ref x0), some (.int (nI 2))] [] h) fun h2 =>
          some (none, h2)))
         (isC h x0 6 (nnR (hR h x0 2) fun r3 =>
          isC h r3 8 (rV (ev M_Scanner_step 0 0 [some (.ref r3)] [] h) fun h4 =>
          isC h4 x0 6 (if d < 8 then rV (ev M_Reader_readNots (d + 1) 0 [some (.ref x0), some (.int (x1 + (nI 1)))] [] h4) fun h5 =>
          isC h5 x0 6 (nnR (hR h5 x0 3) fun r6 =>
          isC h5 r6 5 (nnR (hR h5 r6 6) fun r7 =>
          isC h5 r7 2 (rV (ev M_Formula_addPart 0 0 [some (.ref r7), some (.int (nI 114))] [] h5) fun h8 =>
          some (none, h8)))) else none)))))
      (isC h x0 6 (rV (ev M_Reader_readCompared d 0 [some (.ref x0), some (.int x1), none] [] h) fun h9 =>
       some (none, h9))))) := (ev_eq _ _ _ _ _ _).trans rfl
theorem r_Reader_readCompared_0 (x0 : Nat) (x1 : Int32) (d : Nat) (h : MH) : ev M_Reader_readCompared d 0 [some (.ref x0), some (.int x1), none] [] h =
    isC h x0 6 (rV (ev M_Reader_readSum d 0 [some (.ref x0), some (.int x1), none, none] [] h) fun h1 =>
    isC h1 x0 6 (nnR (hR h1 x0 2) fun r2 =>
    isC h1 r2 8 (
    br ((hI h1 r2 0) = (nI 60))
      (ev M_Reader_readCompared d 17 [some (.ref x0), some (.int x1), some (.int (hI h1 r2 0))] [] h1)
      (br ((hI h1 r2 0) = (nI 62))
         (ev M_Reader_readCompared d 17 [some (.ref x0), some (.int x1), some (.int (hI h1 r2 0))] [] h1)
         (br ((hI h1 r2 0) = (nI 61))
            (ev M_Reader_readCompared d 17 [some (.ref x0), some (.int x1), some (.int (hI h1 r2 0))] [] h1)
            (some (none, h1))))))) := (ev_eq _ _ _ _ _ _).trans rfl
theorem r_Reader_readCompared_17 (x0 : Nat) (x1 : Int32) (x2 : Int32) (d : Nat) (h : MH) : ev M_Reader_readCompared d 17 [some (.ref x0), some (.int x1), some (.int x2)] [] h =
    isC h x0 6 (nnR (hR h x0 2) fun r1 =>
    isC h r1 8 (rV (ev M_Scanner_step 0 0 [some (.ref r1)] [] h) fun h2 =>
    isC h2 x0 6 (rV (ev M_Reader_readSum d 0 [some (.ref x0), some (.int x1), none, none] [] h2) fun h3 =>
    isC h3 x0 6 (nnR (hR h3 x0 3) fun r4 =>
    isC h3 r4 5 (nnR (hR h3 r4 6) fun r5 =>
    isC h3 r5 2 (rV (ev M_Formula_addPart 0 0 [some (.ref r5), some (.int x2)] [] h3) fun h6 =>
    some (none, h6))))))) := (ev_eq _ _ _ _ _ _).trans rfl
theorem r_Reader_readSum_0 (x0 : Nat) (x1 : Int32) (d : Nat) (h : MH) : ev M_Reader_readSum d 0 [some (.ref x0), some (.int x1), none, none] [] h =
    isC h x0 6 (rV (ev M_Reader_readTerm d 0 [some (.ref x0), some (.int x1), none, none] [] h) fun h1 =>
    isC h1 x0 6 (nnR (hR h1 x0 2) fun r2 =>
    isC h1 r2 8 (
    ev M_Reader_readSum d 10 [some (.ref x0), some (.int x1), some (.int (hI h1 r2 0)), some (.int (nI 0))] [] h1))) := (ev_eq _ _ _ _ _ _).trans rfl
theorem r_Reader_readSum_10 (x0 : Nat) (x1 : Int32) (x2 : Int32) (x3 : Int32) (d : Nat) (h : MH) : ev M_Reader_readSum d 10 [some (.ref x0), some (.int x1), some (.int x2), some (.int x3)] [] h =
    br (x3 < (nI 1600))
      (br (x2 = (nI 43))
         (ev M_Reader_readSum d 20 [some (.ref x0), some (.int x1), some (.int x2), some (.int x3)] [] h)
         (br (x2 = (nI 45))
            (ev M_Reader_readSum d 20 [some (.ref x0), some (.int x1), some (.int x2), some (.int x3)] [] h)
            (some (none, h))))
      (some (none, h)) := (ev_eq _ _ _ _ _ _).trans rfl
theorem r_Reader_readSum_20 (x0 : Nat) (x1 : Int32) (x2 : Int32) (x3 : Int32) (d : Nat) (h : MH) : ev M_Reader_readSum d 20 [some (.ref x0), some (.int x1), some (.int x2), some (.int x3)] [] h =
    isC h x0 6 (nnR (hR h x0 2) fun r1 =>
    isC h r1 8 (rV (ev M_Scanner_step 0 0 [some (.ref r1)] [] h) fun h2 =>
    isC h2 x0 6 (rV (ev M_Reader_readTerm d 0 [some (.ref x0), some (.int x1), none, none] [] h2) fun h3 =>
    isC h3 x0 6 (nnR (hR h3 x0 3) fun r4 =>
    isC h3 r4 5 (nnR (hR h3 r4 6) fun r5 =>
    isC h3 r5 2 (rV (ev M_Formula_addPart 0 0 [some (.ref r5), some (.int x2)] [] h3) fun h6 =>
    isC h6 x0 6 (nnR (hR h6 x0 2) fun r7 =>
    isC h6 r7 8 (
    ev M_Reader_readSum d 10 [some (.ref x0), some (.int x1), some (.int (hI h6 r7 0)), some (.int (x3 + (nI 1)))] [] h6)))))))) := (ev_eq _ _ _ _ _ _).trans rfl
theorem r_Reader_readTerm_0 (x0 : Nat) (x1 : Int32) (d : Nat) (h : MH) : ev M_Reader_readTerm d 0 [some (.ref x0), some (.int x1), none, none] [] h =
    isC h x0 6 (rV (ev M_Reader_readUnit d 0 [some (.ref x0), some (.int x1)] [] h) fun h1 =>
    isC h1 x0 6 (nnR (hR h1 x0 2) fun r2 =>
    isC h1 r2 8 (
    ev M_Reader_readTerm d 10 [some (.ref x0), some (.int x1), some (.int (hI h1 r2 0)), some (.int (nI 0))] [] h1))) := (ev_eq _ _ _ _ _ _).trans rfl
theorem r_Reader_readTerm_10 (x0 : Nat) (x1 : Int32) (x2 : Int32) (x3 : Int32) (d : Nat) (h : MH) : ev M_Reader_readTerm d 10 [some (.ref x0), some (.int x1), some (.int x2), some (.int x3)] [] h =
    br (x3 < (nI 1600))
      (br (x2 = (nI 42))
         (ev M_Reader_readTerm d 23 [some (.ref x0), some (.int x1), some (.int x2), some (.int x3)] [] h)
         (br (x2 = (nI 47))
            (ev M_Reader_readTerm d 23 [some (.ref x0), some (.int x1), some (.int x2), some (.int x3)] [] h)
            (br (x2 = (nI 37))
               (ev M_Reader_readTerm d 23 [some (.ref x0), some (.int x1), some (.int x2), some (.int x3)] [] h)
               (some (none, h)))))
      (some (none, h)) := (ev_eq _ _ _ _ _ _).trans rfl
theorem r_Reader_readTerm_23 (x0 : Nat) (x1 : Int32) (x2 : Int32) (x3 : Int32) (d : Nat) (h : MH) : ev M_Reader_readTerm d 23 [some (.ref x0), some (.int x1), some (.int x2), some (.int x3)] [] h =
    isC h x0 6 (nnR (hR h x0 2) fun r1 =>
    isC h r1 8 (rV (ev M_Scanner_step 0 0 [some (.ref r1)] [] h) fun h2 =>
    isC h2 x0 6 (rV (ev M_Reader_readUnit d 0 [some (.ref x0), some (.int x1)] [] h2) fun h3 =>
    isC h3 x0 6 (nnR (hR h3 x0 3) fun r4 =>
    isC h3 r4 5 (nnR (hR h3 r4 6) fun r5 =>
    isC h3 r5 2 (rV (ev M_Formula_addPart 0 0 [some (.ref r5), some (.int x2)] [] h3) fun h6 =>
    isC h6 x0 6 (nnR (hR h6 x0 2) fun r7 =>
    isC h6 r7 8 (
    ev M_Reader_readTerm d 10 [some (.ref x0), some (.int x1), some (.int (hI h6 r7 0)), some (.int (x3 + (nI 1)))] [] h6)))))))) := (ev_eq _ _ _ _ _ _).trans rfl
set_option maxRecDepth 100000 in
set_option maxHeartbeats 4000000 in
theorem r_Reader_readUnit_0 (x0 : Nat) (x1 : Int32) (d : Nat) (h : MH) : ev M_Reader_readUnit d 0 [some (.ref x0), some (.int x1)] [] h =
    isC h x0 6 (nnR (hR h x0 3) fun r1 =>
    isC h r1 5 (
    br ((hI h r1 5) < (nI 30))
      (isC h x0 6 (nnR (hR h x0 3) fun r2 =>
       isC h r2 5 (
       isC h r2 5 (
       let h3 := sI h r2 5 ((hI h r2 5) + (nI 1))
       isC h3 x0 6 (nnR (hR h3 x0 2) fun r4 =>
       isC h3 r4 8 (
       br ((hI h3 r4 0) = (nI 3))
         (isC h3 x0 6 (nnR (hR h3 x0 3) fun r5 =>
          isC h3 r5 5 (nnR (hR h3 r5 6) fun r6 =>
          isC h3 x0 6 (rI (ev M_Reader_readNumber 0 0 [some (.ref x0), some (.int (nI 0)), some (.int (nI 9999)), none] [] h3) fun y8 h7 =>
          isC h7 r6 2 (rV (ev M_Formula_addNumber 0 0 [some (.ref r6), some (.int y8)] [] h7) fun h9 =>
          some (none, h9))))))
         (br ((hI h3 r4 0) = (nI 40))
         (isC h3 x0 6 (rV (ev M_Reader_readBracket d 0 [some (.ref x0), some (.int x1)] [] h3) fun h10 =>
          some (none, h10)))
         (br ((hI h3 r4 0) = (nI 115))
         (ev M_Reader_readUnit d 30 [some (.ref x0), none] [] h3)
         (br ((hI h3 r4 0) = (nI 116))
         (ev M_Reader_readUnit d 30 [some (.ref x0), none] [] h3)
         (br ((hI h3 r4 0) = (nI 117))
         (ev M_Reader_readUnit d 30 [some (.ref x0), none] [] h3)
         (isC h3 x0 6 (rV (ev M_Reader_fail 0 0 [some (.ref x0), some (.int (nI 2))] [] h3) fun h11 =>
          some (none, h11)))))))))))))
      (isC h x0 6 (rV (ev M_Reader_fail 0 0 [some (.ref x0), some (.int (nI 2))] [] h) fun h12 =>
       some (none, h12))))) := (ev_eq _ _ _ _ _ _).trans rfl
theorem r_Reader_readUnit_30 (x0 : Nat) (d : Nat) (h : MH) : ev M_Reader_readUnit d 30 [some (.ref x0), none] [] h =
    isC h x0 6 (nnR (hR h x0 3) fun r1 =>
    isC h r1 5 (nnR (hR h r1 6) fun r2 =>
    isC h x0 6 (nnR (hR h x0 2) fun r3 =>
    isC h r3 8 (
    isC h r2 2 (rV (ev M_Formula_addPart 0 0 [some (.ref r2), some (.int (hI h r3 0))] [] h) fun h4 =>
    isC h4 x0 6 (nnR (hR h4 x0 2) fun r5 =>
    isC h4 r5 8 (rV (ev M_Scanner_step 0 0 [some (.ref r5)] [] h4) fun h6 =>
    some (none, h6)))))))) := (ev_eq _ _ _ _ _ _).trans rfl
theorem r_Reader_readBracket_0 (x0 : Nat) (x1 : Int32) (d : Nat) (h : MH) : ev M_Reader_readBracket d 0 [some (.ref x0), some (.int x1)] [] h =
    br ((nI 6) < x1)
      (isC h x0 6 (rV (ev M_Reader_fail 0 0 [some (.ref x0), some (.int (nI 2))] [] h) fun h1 =>
       some (none, h1)))
      (isC h x0 6 (nnR (hR h x0 2) fun r2 =>
       isC h r2 8 (rV (ev M_Scanner_step 0 0 [some (.ref r2)] [] h) fun h3 =>
       isC h3 x0 6 (if d < 8 then rV (ev M_Reader_readOrs (d + 1) 0 [some (.ref x0), some (.int (x1 + (nI 1))), none] [] h3) fun h4 =>
       isC h4 x0 6 (rV (ev M_Reader_expect 0 0 [some (.ref x0), some (.int (nI 41))] [] h4) fun h5 =>
       some (none, h5)) else none)))) := (ev_eq _ _ _ _ _ _).trans rfl
theorem r_Scanner_init_0 (x0 : Nat) (h : MH) : ev M_Scanner_init 0 0 [some (.ref x0), none, none, none] [] h =
    okN (nI 18) fun n2 =>
    let h1 := nw h 22 n2
    isC h1 x0 8 (
    let h3 := sR h1 x0 4 (hT h)
    ev M_Scanner_init 0 9 [some (.ref x0), some (.int (nI 0)), none, none] [] h3) := (ev_eq _ _ _ _ _ _).trans rfl
theorem r_Scanner_init_9 (x0 : Nat) (x1 : Int32) (h : MH) : ev M_Scanner_init 0 9 [some (.ref x0), some (.int x1), none, none] [] h =
    ev M_Scanner_init 0 12 [some (.ref x0), some (.int x1), some (.int (nI 0)), none] [] h := (ev_eq _ _ _ _ _ _).trans rfl
theorem r_Scanner_init_12 (x0 : Nat) (x1 : Int32) (x2 : Int32) (h : MH) : ev M_Scanner_init 0 12 [some (.ref x0), some (.int x1), some (.int x2), none] [] h =
    nnR (hR h 0 1000) fun r1 =>
    isC h r1 30 (rI (ev M_String_length 0 0 [some (.ref r1)] [] h) fun y3 h2 =>
    br (x2 < y3)
      (br (x1 < (nI 18))
         (nnR (hR h2 0 1000) fun r4 =>
          isC h2 r4 30 (rI (ev M_String_charAt 0 0 [some (.ref r4), some (.int x2)] [] h2) fun y6 h5 =>
          ev M_Scanner_init 0 24 [some (.ref x0), some (.int x1), some (.int x2), some (.int y6)] [] h5))
         (some (none, h2)))
      (some (none, h2))) := (ev_eq _ _ _ _ _ _).trans rfl
theorem r_Scanner_init_24 (x0 : Nat) (x1 : Int32) (x2 : Int32) (x3 : Int32) (h : MH) : ev M_Scanner_init 0 24 [some (.ref x0), some (.int x1), some (.int x2), some (.int x3)] [] h =
    br (x3 = (nI 32))
      (ev M_Scanner_init 0 43 [some (.ref x0), some (.int (x1 + (nI 1))), some (.int x2), none] [] h)
      (isC h x0 8 (nnR (hR h x0 4) fun r1 =>
       isC h x0 8 (nnR (hR h x0 4) fun r2 =>
       isC h r2 22 (inA h r2 x1 (
       isC h r1 22 (inA h r1 x1 (
       let h3 := sL h r1 (Int32.toNatClampNeg x1) (((hL h r2 (Int32.toNatClampNeg x1)) <<< (Int32.toInt64 (nI 8) &&& 63)) ||| (Int32.toInt64 x3))
       ev M_Scanner_init 0 43 [some (.ref x0), some (.int x1), some (.int x2), none] [] h3))))))) := (ev_eq _ _ _ _ _ _).trans rfl
theorem r_Scanner_init_43 (x0 : Nat) (x1 : Int32) (x2 : Int32) (h : MH) : ev M_Scanner_init 0 43 [some (.ref x0), some (.int x1), some (.int x2), none] [] h =
    ev M_Scanner_init 0 12 [some (.ref x0), some (.int x1), some (.int (x2 + (nI 1))), none] [] h := (ev_eq _ _ _ _ _ _).trans rfl
theorem r_Scanner_begin_0 (x0 : Nat) (x1 : Nat) (x2 : Int32) (h : MH) : ev M_Scanner_begin 0 0 [some (.ref x0), some (.ref x1), some (.int x2)] [] h =
    isC h x0 8 (
    let h1 := sR h x0 5 x1
    isC h1 x1 21 (
    ev M_Scanner_begin 0 15 [some (.ref x0), none, none] [(.int (if (nI 0) < (if (nI (hN h1 x1)) < x2 then (nI (hN h1 x1)) else x2) then (if (nI (hN h1 x1)) < x2 then (nI (hN h1 x1)) else x2) else (nI 0))), (.ref x0)] h1)) := (ev_eq _ _ _ _ _ _).trans rfl
theorem r_Scanner_begin_15 (x0 : Nat) (s0 : Nat) (s1 : Int32) (h : MH) : ev M_Scanner_begin 0 15 [some (.ref x0), none, none] [(.int s1), (.ref s0)] h =
    isC h s0 8 (
    let h1 := sI h s0 6 s1
    isC h1 x0 8 (
    let h2 := sI h1 x0 7 (nI 0)
    isC h2 x0 8 (
    isZ (nI 0) (let h3 := sI h2 x0 8 (nI 0)
    isC h3 x0 8 (rV (ev M_Scanner_step 0 0 [some (.ref x0)] [] h3) fun h4 =>
    some (none, h4)))))) := (ev_eq _ _ _ _ _ _).trans rfl
theorem r_Scanner_halt_0 (x0 : Nat) (h : MH) : ev M_Scanner_halt 0 0 [some (.ref x0)] [] h =
    isC h x0 8 (
    isZ (nI 1) (let h1 := sI h x0 8 (nI 1)
    isC h1 x0 8 (
    let h2 := sI h1 x0 0 (nI 1)
    some (none, h2)))) := (ev_eq _ _ _ _ _ _).trans rfl
theorem r_Scanner_step_0 (x0 : Nat) (h : MH) : ev M_Scanner_step 0 0 [some (.ref x0)] [] h =
    isC h x0 8 (
    br ((hI h x0 8) = (nI 0))
      (ev M_Scanner_step 0 5 [some (.ref x0)] [] h)
      (some (none, h))) := (ev_eq _ _ _ _ _ _).trans rfl
theorem r_Scanner_step_5 (x0 : Nat) (h : MH) : ev M_Scanner_step 0 5 [some (.ref x0)] [] h =
    isC h x0 8 (
    isC h x0 8 (
    br ((hI h x0 7) < (hI h x0 6))
      (isC h x0 8 (nnR (hR h x0 5) fun r1 =>
       isC h x0 8 (
       isC h r1 21 (inA h r1 (hI h x0 7) (
       rI (ev M_Scanner_isBlank 0 0 [some (.int (hI h r1 (Int32.toNatClampNeg (hI h x0 7))))] [] h) fun y3 h2 =>
       br (y3 = (nI 0))
         (ev M_Scanner_step 0 25 [some (.ref x0)] [] h2)
         (isC h2 x0 8 (
          isC h2 x0 8 (
          let h4 := sI h2 x0 7 ((hI h2 x0 7) + (nI 1))
          ev M_Scanner_step 0 5 [some (.ref x0)] [] h4))))))))
      (ev M_Scanner_step 0 25 [some (.ref x0)] [] h))) := (ev_eq _ _ _ _ _ _).trans rfl
set_option maxRecDepth 100000 in
set_option maxHeartbeats 4000000 in
theorem r_Scanner_step_25 (x0 : Nat) (h : MH) : ev M_Scanner_step 0 25 [some (.ref x0)] [] h =
    isC h x0 8 (
    isC h x0 8 (
    let h1 := sI h x0 1 (hI h x0 7)
    isC h1 x0 8 (
    isC h1 x0 8 (
    br ((hI h1 x0 7) < (hI h1 x0 6))
      (isC h1 x0 8 (nnR (hR h1 x0 5) fun r2 =>
       isC h1 x0 8 (
       isC h1 r2 21 (inA h1 r2 (hI h1 x0 7) (
       rI (ev M_Scanner_isLetter 0 0 [some (.int (hI h1 r2 (Int32.toNatClampNeg (hI h1 x0 7))))] [] h1) fun y4 h3 =>
       br (y4 = (nI 0))
         (isC h3 x0 8 (nnR (hR h3 x0 5) fun r5 =>
          isC h3 x0 8 (
          isC h3 r5 21 (inA h3 r5 (hI h3 x0 7) (
          rI (ev M_Scanner_isDigit 0 0 [some (.int (hI h3 r5 (Int32.toNatClampNeg (hI h3 x0 7))))] [] h3) fun y7 h6 =>
          br (y7 = (nI 0))
            (isC h6 x0 8 (rV (ev M_Scanner_readSign 0 0 [some (.ref x0), none] [] h6) fun h8 =>
             some (none, h8)))
            (isC h6 x0 8 (rV (ev M_Scanner_readNumber 0 0 [some (.ref x0), none, none, none] [] h6) fun h9 =>
             some (none, h9))))))))
         (isC h3 x0 8 (rV (ev M_Scanner_readWord 0 0 [some (.ref x0), none, none, none] [] h3) fun h10 =>
          some (none, h10))))))))
      (isC h1 x0 8 (
       let h11 := sI h1 x0 0 (nI 2)
       some (none, h11))))))) := (ev_eq _ _ _ _ _ _).trans rfl
theorem r_Scanner_readSign_0 (x0 : Nat) (h : MH) : ev M_Scanner_readSign 0 0 [some (.ref x0), none] [] h =
    isC h x0 8 (nnR (hR h x0 5) fun r1 =>
    isC h x0 8 (
    isC h r1 21 (inA h r1 (hI h x0 7) (
    br ((hI h r1 (Int32.toNatClampNeg (hI h x0 7))) < (nI 0))
      (ev M_Scanner_readSign 0 17 [some (.ref x0), none] [(.ref x0)] h)
      (nnR (hR h 0 1001) fun r2 =>
       isC h r2 30 (rI (ev M_String_indexOf1 0 0 [some (.ref r2), some (.int (UInt32.toInt32 (Int32.toUInt32 (hI h r1 (Int32.toNatClampNeg (hI h x0 7))) % 65536)))] [] h) fun y4 h3 =>
       br (y4 < (nI 0))
         (ev M_Scanner_readSign 0 17 [some (.ref x0), none] [(.ref x0)] h3)
         (ev M_Scanner_readSign 0 19 [some (.ref x0), none] [(.int (hI h r1 (Int32.toNatClampNeg (hI h x0 7)))), (.ref x0)] h3))))))) := (ev_eq _ _ _ _ _ _).trans rfl
theorem r_Scanner_readSign_17 (x0 : Nat) (s0 : Nat) (h : MH) : ev M_Scanner_readSign 0 17 [some (.ref x0), none] [(.ref s0)] h =
    ev M_Scanner_readSign 0 19 [some (.ref x0), none] [(.int (nI 1)), (.ref s0)] h := (ev_eq _ _ _ _ _ _).trans rfl
theorem r_Scanner_readSign_19 (x0 : Nat) (s0 : Nat) (s1 : Int32) (h : MH) : ev M_Scanner_readSign 0 19 [some (.ref x0), none] [(.int s1), (.ref s0)] h =
    isC h s0 8 (
    let h1 := sI h s0 0 s1
    isC h1 x0 8 (
    isC h1 x0 8 (
    let h2 := sI h1 x0 7 ((hI h1 x0 7) + (nI 1))
    some (none, h2)))) := (ev_eq _ _ _ _ _ _).trans rfl
theorem r_Scanner_readWord_0 (x0 : Nat) (h : MH) : ev M_Scanner_readWord 0 0 [some (.ref x0), none, none, none] [] h =
    ev M_Scanner_readWord 0 3 [some (.ref x0), some (.long (lN 0)), none, none] [] h := (ev_eq _ _ _ _ _ _).trans rfl
theorem r_Scanner_readWord_3 (x0 : Nat) (x1 : Int64) (h : MH) : ev M_Scanner_readWord 0 3 [some (.ref x0), some (.long x1), none, none] [] h =
    isC h x0 8 (
    isC h x0 8 (
    br ((hI h x0 7) < (hI h x0 6))
      (isC h x0 8 (nnR (hR h x0 5) fun r1 =>
       isC h x0 8 (
       isC h r1 21 (inA h r1 (hI h x0 7) (
       rI (ev M_Scanner_isLetter 0 0 [some (.int (hI h r1 (Int32.toNatClampNeg (hI h x0 7))))] [] h) fun y3 h2 =>
       br (y3 = (nI 0))
         (ev M_Scanner_readWord 0 34 [some (.ref x0), some (.long x1), none, none] [] h2)
         (isC h2 x0 8 (nnR (hR h2 x0 5) fun r4 =>
          isC h2 x0 8 (
          isC h2 r4 21 (inA h2 r4 (hI h2 x0 7) (
          isC h2 x0 8 (
          isC h2 x0 8 (
          let h5 := sI h2 x0 7 ((hI h2 x0 7) + (nI 1))
          ev M_Scanner_readWord 0 3 [some (.ref x0), some (.long ((x1 <<< (Int32.toInt64 (nI 8) &&& 63)) ||| (Int32.toInt64 (hI h2 r4 (Int32.toNatClampNeg (hI h2 x0 7)))))), none, none] [] h5))))))))))))
      (ev M_Scanner_readWord 0 34 [some (.ref x0), some (.long x1), none, none] [] h))) := (ev_eq _ _ _ _ _ _).trans rfl
theorem r_Scanner_readWord_34 (x0 : Nat) (x1 : Int64) (h : MH) : ev M_Scanner_readWord 0 34 [some (.ref x0), some (.long x1), none, none] [] h =
    isC h x0 8 (
    let h1 := sL h x0 3 x1
    isC h1 x0 8 (
    let h2 := sI h1 x0 0 (nI 4)
    ev M_Scanner_readWord 0 43 [some (.ref x0), some (.long x1), none, some (.int (nI 0))] [] h2)) := (ev_eq _ _ _ _ _ _).trans rfl
theorem r_Scanner_readWord_43 (x0 : Nat) (x1 : Int64) (x3 : Int32) (h : MH) : ev M_Scanner_readWord 0 43 [some (.ref x0), some (.long x1), none, some (.int x3)] [] h =
    br (x3 < (nI 18))
      (isC h x0 8 (nnR (hR h x0 4) fun r1 =>
       isC h r1 22 (inA h r1 x3 (
       br ((lg_cmp (hL h r1 (Int32.toNatClampNeg x3)) x1) = (nI 0))
         (isC h x0 8 (
          let h2 := sI h x0 0 ((nI 100) + x3)
          ev M_Scanner_readWord 0 59 [some (.ref x0), some (.long x1), none, some (.int x3)] [] h2))
         (ev M_Scanner_readWord 0 59 [some (.ref x0), some (.long x1), none, some (.int x3)] [] h)))))
      (isC h x0 8 (
       isC h x0 8 (
       br ((nI 8) < ((hI h x0 7) - (hI h x0 1)))
         (isC h x0 8 (
          let h3 := sI h x0 0 (nI 1)
          some (none, h3)))
         (some (none, h))))) := (ev_eq _ _ _ _ _ _).trans rfl
theorem r_Scanner_readWord_59 (x0 : Nat) (x1 : Int64) (x3 : Int32) (h : MH) : ev M_Scanner_readWord 0 59 [some (.ref x0), some (.long x1), none, some (.int x3)] [] h =
    ev M_Scanner_readWord 0 43 [some (.ref x0), some (.long x1), none, some (.int (x3 + (nI 1)))] [] h := (ev_eq _ _ _ _ _ _).trans rfl
theorem r_Scanner_readNumber_0 (x0 : Nat) (h : MH) : ev M_Scanner_readNumber 0 0 [some (.ref x0), none, none, none] [] h =
    ev M_Scanner_readNumber 0 3 [some (.ref x0), some (.int (nI 0)), none, none] [] h := (ev_eq _ _ _ _ _ _).trans rfl
theorem r_Scanner_readNumber_3 (x0 : Nat) (x1 : Int32) (h : MH) : ev M_Scanner_readNumber 0 3 [some (.ref x0), some (.int x1), none, none] [] h =
    isC h x0 8 (
    isC h x0 8 (
    br ((hI h x0 7) < (hI h x0 6))
      (isC h x0 8 (nnR (hR h x0 5) fun r1 =>
       isC h x0 8 (
       isC h r1 21 (inA h r1 (hI h x0 7) (
       rI (ev M_Scanner_isDigit 0 0 [some (.int (hI h r1 (Int32.toNatClampNeg (hI h x0 7))))] [] h) fun y3 h2 =>
       br (y3 = (nI 0))
         (ev M_Scanner_readNumber 0 35 [some (.ref x0), some (.int x1), none, none] [] h2)
         (isC h2 x0 8 (nnR (hR h2 x0 5) fun r4 =>
          isC h2 x0 8 (
          isC h2 r4 21 (inA h2 r4 (hI h2 x0 7) (
          isC h2 x0 8 (
          isC h2 x0 8 (
          let h5 := sI h2 x0 7 ((hI h2 x0 7) + (nI 1))
          ev M_Scanner_readNumber 0 3 [some (.ref x0), some (.int (((x1 * (nI 10)) + (hI h2 r4 (Int32.toNatClampNeg (hI h2 x0 7)))) - (nI 48))), none, none] [] h5))))))))))))
      (ev M_Scanner_readNumber 0 35 [some (.ref x0), some (.int x1), none, none] [] h))) := (ev_eq _ _ _ _ _ _).trans rfl
theorem r_Scanner_readNumber_35 (x0 : Nat) (x1 : Int32) (h : MH) : ev M_Scanner_readNumber 0 35 [some (.ref x0), some (.int x1), none, none] [] h =
    isC h x0 8 (
    let h1 := sI h x0 2 x1
    isC h1 x0 8 (
    isC h1 x0 8 (
    br ((nI 4) < ((hI h1 x0 7) - (hI h1 x0 1)))
      (ev M_Scanner_readNumber 0 49 [some (.ref x0), none, none, none] [(.int (nI 1))] h1)
      (ev M_Scanner_readNumber 0 49 [some (.ref x0), none, none, none] [(.int (nI 0))] h1)))) := (ev_eq _ _ _ _ _ _).trans rfl
theorem r_Scanner_readNumber_49 (x0 : Nat) (s0 : Int32) (h : MH) : ev M_Scanner_readNumber 0 49 [some (.ref x0), none, none, none] [(.int s0)] h =
    isC h x0 8 (
    isC h x0 8 (
    br ((hI h x0 7) < (hI h x0 6))
      (isC h x0 8 (nnR (hR h x0 5) fun r1 =>
       isC h x0 8 (
       isC h r1 21 (inA h r1 (hI h x0 7) (
       rI (ev M_Scanner_isLetter 0 0 [some (.int (hI h r1 (Int32.toNatClampNeg (hI h x0 7))))] [] h) fun y3 h2 =>
       br (y3 = (nI 0))
         (ev M_Scanner_readNumber 0 65 [some (.ref x0), none, some (.int s0), none] [] h2)
         (ev M_Scanner_readNumber 0 67 [some (.ref x0), none, some (.int s0), none] [(.int (nI 1))] h2))))))
      (ev M_Scanner_readNumber 0 65 [some (.ref x0), none, some (.int s0), none] [] h))) := (ev_eq _ _ _ _ _ _).trans rfl
theorem r_Scanner_readNumber_65 (x0 : Nat) (x2 : Int32) (h : MH) : ev M_Scanner_readNumber 0 65 [some (.ref x0), none, some (.int x2), none] [] h =
    ev M_Scanner_readNumber 0 67 [some (.ref x0), none, some (.int x2), none] [(.int (nI 0))] h := (ev_eq _ _ _ _ _ _).trans rfl
theorem r_Scanner_readNumber_67 (x0 : Nat) (x2 : Int32) (s0 : Int32) (h : MH) : ev M_Scanner_readNumber 0 67 [some (.ref x0), none, some (.int x2), none] [(.int s0)] h =
    br (x2 = (nI 0))
      (br (s0 = (nI 0))
         (ev M_Scanner_readNumber 0 78 [none, none, none, none] [(.int (nI 3)), (.ref x0)] h)
         (ev M_Scanner_readNumber 0 74 [none, none, none, none] [(.ref x0)] h))
      (ev M_Scanner_readNumber 0 74 [none, none, none, none] [(.ref x0)] h) := (ev_eq _ _ _ _ _ _).trans rfl
theorem r_Scanner_readNumber_74 (s0 : Nat) (h : MH) : ev M_Scanner_readNumber 0 74 [none, none, none, none] [(.ref s0)] h =
    ev M_Scanner_readNumber 0 78 [none, none, none, none] [(.int (nI 1)), (.ref s0)] h := (ev_eq _ _ _ _ _ _).trans rfl
theorem r_Scanner_readNumber_78 (s0 : Nat) (s1 : Int32) (h : MH) : ev M_Scanner_readNumber 0 78 [none, none, none, none] [(.int s1), (.ref s0)] h =
    isC h s0 8 (
    let h1 := sI h s0 0 s1
    some (none, h1)) := (ev_eq _ _ _ _ _ _).trans rfl
theorem r_Scanner_isBlank_0 (x0 : Int32) (h : MH) : ev M_Scanner_isBlank 0 0 [some (.int x0)] [] h =
    br (x0 = (nI 32))
      (ev M_Scanner_isBlank 0 7 [none] [] h)
      (br (x0 = (nI 10))
         (ev M_Scanner_isBlank 0 7 [none] [] h)
         (isZ (nI 0) (some (some (.int (nI 0)), h)))) := (ev_eq _ _ _ _ _ _).trans rfl
theorem r_Scanner_isBlank_7  (h : MH) : ev M_Scanner_isBlank 0 7 [none] [] h =
    isZ (nI 1) (some (some (.int (nI 1)), h)) := (ev_eq _ _ _ _ _ _).trans rfl
theorem r_Scanner_isLetter_0 (x0 : Int32) (h : MH) : ev M_Scanner_isLetter 0 0 [some (.int x0)] [] h =
    br (x0 < (nI 97))
      (isZ (nI 0) (some (some (.int (nI 0)), h)))
      (br ((nI 122) < x0)
         (isZ (nI 0) (some (some (.int (nI 0)), h)))
         (isZ (nI 1) (some (some (.int (nI 1)), h)))) := (ev_eq _ _ _ _ _ _).trans rfl
theorem r_Scanner_isDigit_0 (x0 : Int32) (h : MH) : ev M_Scanner_isDigit 0 0 [some (.int x0)] [] h =
    br (x0 < (nI 48))
      (isZ (nI 0) (some (some (.int (nI 0)), h)))
      (br ((nI 57) < x0)
         (isZ (nI 0) (some (some (.int (nI 0)), h)))
         (isZ (nI 1) (some (some (.int (nI 1)), h)))) := (ev_eq _ _ _ _ _ _).trans rfl
set_option maxRecDepth 100000 in
set_option maxHeartbeats 4000000 in
theorem r_Integer_bitCount_0 (x0 : Int32) (h : MH) : ev M_Integer_bitCount 0 0 [some (.int x0)] [] h =
    some (some (.int ((((((((x0 - (((x0.toUInt32 >>> ((nI 1).toUInt32 &&& Int32.toUInt32 31)).toInt32) &&& (nI 1431655765))) &&& (nI 858993459)) + ((((x0 - (((x0.toUInt32 >>> ((nI 1).toUInt32 &&& Int32.toUInt32 31)).toInt32) &&& (nI 1431655765))).toUInt32 >>> ((nI 2).toUInt32 &&& Int32.toUInt32 31)).toInt32) &&& (nI 858993459))) + (((((x0 - (((x0.toUInt32 >>> ((nI 1).toUInt32 &&& Int32.toUInt32 31)).toInt32) &&& (nI 1431655765))) &&& (nI 858993459)) + ((((x0 - (((x0.toUInt32 >>> ((nI 1).toUInt32 &&& Int32.toUInt32 31)).toInt32) &&& (nI 1431655765))).toUInt32 >>> ((nI 2).toUInt32 &&& Int32.toUInt32 31)).toInt32) &&& (nI 858993459))).toUInt32 >>> ((nI 4).toUInt32 &&& Int32.toUInt32 31)).toInt32)) &&& (nI 252645135)) + (((((((x0 - (((x0.toUInt32 >>> ((nI 1).toUInt32 &&& Int32.toUInt32 31)).toInt32) &&& (nI 1431655765))) &&& (nI 858993459)) + ((((x0 - (((x0.toUInt32 >>> ((nI 1).toUInt32 &&& Int32.toUInt32 31)).toInt32) &&& (nI 1431655765))).toUInt32 >>> ((nI 2).toUInt32 &&& Int32.toUInt32 31)).toInt32) &&& (nI 858993459))) + (((((x0 - (((x0.toUInt32 >>> ((nI 1).toUInt32 &&& Int32.toUInt32 31)).toInt32) &&& (nI 1431655765))) &&& (nI 858993459)) + ((((x0 - (((x0.toUInt32 >>> ((nI 1).toUInt32 &&& Int32.toUInt32 31)).toInt32) &&& (nI 1431655765))).toUInt32 >>> ((nI 2).toUInt32 &&& Int32.toUInt32 31)).toInt32) &&& (nI 858993459))).toUInt32 >>> ((nI 4).toUInt32 &&& Int32.toUInt32 31)).toInt32)) &&& (nI 252645135)).toUInt32 >>> ((nI 8).toUInt32 &&& Int32.toUInt32 31)).toInt32)) + ((((((((x0 - (((x0.toUInt32 >>> ((nI 1).toUInt32 &&& Int32.toUInt32 31)).toInt32) &&& (nI 1431655765))) &&& (nI 858993459)) + ((((x0 - (((x0.toUInt32 >>> ((nI 1).toUInt32 &&& Int32.toUInt32 31)).toInt32) &&& (nI 1431655765))).toUInt32 >>> ((nI 2).toUInt32 &&& Int32.toUInt32 31)).toInt32) &&& (nI 858993459))) + (((((x0 - (((x0.toUInt32 >>> ((nI 1).toUInt32 &&& Int32.toUInt32 31)).toInt32) &&& (nI 1431655765))) &&& (nI 858993459)) + ((((x0 - (((x0.toUInt32 >>> ((nI 1).toUInt32 &&& Int32.toUInt32 31)).toInt32) &&& (nI 1431655765))).toUInt32 >>> ((nI 2).toUInt32 &&& Int32.toUInt32 31)).toInt32) &&& (nI 858993459))).toUInt32 >>> ((nI 4).toUInt32 &&& Int32.toUInt32 31)).toInt32)) &&& (nI 252645135)) + (((((((x0 - (((x0.toUInt32 >>> ((nI 1).toUInt32 &&& Int32.toUInt32 31)).toInt32) &&& (nI 1431655765))) &&& (nI 858993459)) + ((((x0 - (((x0.toUInt32 >>> ((nI 1).toUInt32 &&& Int32.toUInt32 31)).toInt32) &&& (nI 1431655765))).toUInt32 >>> ((nI 2).toUInt32 &&& Int32.toUInt32 31)).toInt32) &&& (nI 858993459))) + (((((x0 - (((x0.toUInt32 >>> ((nI 1).toUInt32 &&& Int32.toUInt32 31)).toInt32) &&& (nI 1431655765))) &&& (nI 858993459)) + ((((x0 - (((x0.toUInt32 >>> ((nI 1).toUInt32 &&& Int32.toUInt32 31)).toInt32) &&& (nI 1431655765))).toUInt32 >>> ((nI 2).toUInt32 &&& Int32.toUInt32 31)).toInt32) &&& (nI 858993459))).toUInt32 >>> ((nI 4).toUInt32 &&& Int32.toUInt32 31)).toInt32)) &&& (nI 252645135)).toUInt32 >>> ((nI 8).toUInt32 &&& Int32.toUInt32 31)).toInt32)).toUInt32 >>> ((nI 16).toUInt32 &&& Int32.toUInt32 31)).toInt32)) &&& (nI 63))), h) := (ev_eq _ _ _ _ _ _).trans rfl
theorem r_String_length_0 (x0 : Nat) (h : MH) : ev M_String_length 0 0 [some (.ref x0)] [] h =
    isC h x0 30 (nnR (hR h x0 0) fun r1 =>
    isB h r1 (
    isC h x0 30 (rI (ev M_String_coder 0 0 [some (.ref x0)] [] h) fun y3 h2 =>
    some (some (.int ((nI (hN h r1)) >>> (y3 &&& 31))), h2)))) := (ev_eq _ _ _ _ _ _).trans rfl
theorem r_String_charAt_0 (x0 : Nat) (x1 : Int32) (h : MH) : ev M_String_charAt 0 0 [some (.ref x0), some (.int x1)] [] h =
    isC h x0 30 (rI (ev M_String_isLatin1 0 0 [some (.ref x0)] [] h) fun y2 h1 =>
    br (y2 = (nI 0))
      (isC h1 x0 30 (nnR (hR h1 x0 0) fun r3 =>
       none))
      (isC h1 x0 30 (nnR (hR h1 x0 0) fun r4 =>
       rI (ev M_StringLatin1_charAt 0 0 [some (.ref r4), some (.int x1)] [] h1) fun y6 h5 =>
       narI 3 y6 (some (some (.int y6), h5))))) := (ev_eq _ _ _ _ _ _).trans rfl
theorem r_String_indexOf1_0 (x0 : Nat) (x1 : Int32) (h : MH) : ev M_String_indexOf1 0 0 [some (.ref x0), some (.int x1)] [] h =
    isC h x0 30 (rI (ev M_String_indexOf2 0 0 [some (.ref x0), some (.int x1), some (.int (nI 0))] [] h) fun y2 h1 =>
    some (some (.int y2), h1)) := (ev_eq _ _ _ _ _ _).trans rfl
theorem r_String_indexOf2_0 (x0 : Nat) (x1 : Int32) (x2 : Int32) (h : MH) : ev M_String_indexOf2 0 0 [some (.ref x0), some (.int x1), some (.int x2)] [] h =
    isC h x0 30 (rI (ev M_String_isLatin1 0 0 [some (.ref x0)] [] h) fun y2 h1 =>
    br (y2 = (nI 0))
      (isC h1 x0 30 (nnR (hR h1 x0 0) fun r3 =>
       isC h1 x0 30 (rI (ev M_String_length 0 0 [some (.ref x0)] [] h1) fun y5 h4 =>
       none)))
      (isC h1 x0 30 (nnR (hR h1 x0 0) fun r6 =>
       isC h1 x0 30 (rI (ev M_String_length 0 0 [some (.ref x0)] [] h1) fun y8 h7 =>
       rI (ev M_StringLatin1_indexOf 0 0 [some (.ref r6), some (.int x1), some (.int x2), some (.int y8)] [] h7) fun y10 h9 =>
       some (some (.int y10), h9))))) := (ev_eq _ _ _ _ _ _).trans rfl
theorem r_String_coder_0 (x0 : Nat) (h : MH) : ev M_String_coder 0 0 [some (.ref x0)] [] h =
    br ((nI 1) = (nI 0))
      (narI 2 (nI 1) (some (some (.int (nI 1)), h)))
      (isC h x0 30 (
       narI 2 (hI h x0 1) (some (some (.int (hI h x0 1)), h)))) := (ev_eq _ _ _ _ _ _).trans rfl
theorem r_String_isLatin1_0 (x0 : Nat) (h : MH) : ev M_String_isLatin1 0 0 [some (.ref x0)] [] h =
    br ((nI 1) = (nI 0))
      (isZ (nI 0) (some (some (.int (nI 0)), h)))
      (isC h x0 30 (
       br ((hI h x0 1) = (nI 0))
         (isZ (nI 1) (some (some (.int (nI 1)), h)))
         (isZ (nI 0) (some (some (.int (nI 0)), h))))) := (ev_eq _ _ _ _ _ _).trans rfl
theorem r_String_checkIndex_0 (x0 : Int32) (x1 : Int32) (h : MH) : ev M_String_checkIndex 0 0 [some (.int x0), some (.int x1)] [] h =
    anyR (hR h 0 1002) fun v1 => rI (ev M_Preconditions_checkIndex 0 0 [some (.int x0), some (.int x1), some v1] [] h) fun y3 h2 =>
    some (none, h2) := (ev_eq _ _ _ _ _ _).trans rfl
theorem r_StringLatin1_charAt_0 (x0 : Nat) (x1 : Int32) (h : MH) : ev M_StringLatin1_charAt 0 0 [some (.ref x0), some (.int x1)] [] h =
    isB h x0 (
    rV (ev M_String_checkIndex 0 0 [some (.int x1), some (.int (nI (hN h x0)))] [] h) fun h1 =>
    isB h1 x0 (inA h1 x0 x1 (
    narI 3 (UInt32.toInt32 (Int32.toUInt32 ((hI h1 x0 (100 + Int32.toNatClampNeg x1)) &&& (nI 255)) % 65536)) (some (some (.int (UInt32.toInt32 (Int32.toUInt32 ((hI h1 x0 (100 + Int32.toNatClampNeg x1)) &&& (nI 255)) % 65536))), h1))))) := (ev_eq _ _ _ _ _ _).trans rfl
theorem r_StringLatin1_canEncode_0 (x0 : Int32) (h : MH) : ev M_StringLatin1_canEncode 0 0 [some (.int x0)] [] h =
    br (x0 < (nI 0))
      (isZ (nI 0) (some (some (.int (nI 0)), h)))
      (br ((nI 255) < x0)
         (isZ (nI 0) (some (some (.int (nI 0)), h)))
         (isZ (nI 1) (some (some (.int (nI 1)), h)))) := (ev_eq _ _ _ _ _ _).trans rfl
theorem r_StringLatin1_indexOf_0 (x0 : Nat) (x1 : Int32) (x2 : Int32) (x3 : Int32) (h : MH) : ev M_StringLatin1_indexOf 0 0 [some (.ref x0), some (.int x1), some (.int x2), some (.int x3)] [] h =
    rI (ev M_StringLatin1_canEncode 0 0 [some (.int x1)] [] h) fun y2 h1 =>
    br (y2 = (nI 0))
      (some (some (.int (mI 1)), h1))
      (isB h1 x0 (
       br ((if x2 < (nI 0) then (nI 0) else x2) < (if (nI (hN h1 x0)) < x3 then (nI (hN h1 x0)) else x3))
         (rI (ev M_StringLatin1_indexOfChar 0 0 [some (.ref x0), some (.int x1), some (.int (if x2 < (nI 0) then (nI 0) else x2)), some (.int (if (nI (hN h1 x0)) < x3 then (nI (hN h1 x0)) else x3)), none, none] [] h1) fun y4 h3 =>
          some (some (.int y4), h3))
         (some (some (.int (mI 1)), h1)))) := (ev_eq _ _ _ _ _ _).trans rfl
theorem r_StringLatin1_indexOfChar_0 (x0 : Nat) (x1 : Int32) (x2 : Int32) (x3 : Int32) (h : MH) : ev M_StringLatin1_indexOfChar 0 0 [some (.ref x0), some (.int x1), some (.int x2), some (.int x3), none, none] [] h =
    ev M_StringLatin1_indexOfChar 0 6 [some (.ref x0), none, none, some (.int x3), some (.int (Int8.toInt32 (Int32.toInt8 x1))), some (.int x2)] [] h := (ev_eq _ _ _ _ _ _).trans rfl
theorem r_StringLatin1_indexOfChar_6 (x0 : Nat) (x3 : Int32) (x4 : Int32) (x5 : Int32) (h : MH) : ev M_StringLatin1_indexOfChar 0 6 [some (.ref x0), none, none, some (.int x3), some (.int x4), some (.int x5)] [] h =
    br (x5 < x3)
      (isB h x0 (inA h x0 x5 (
       br ((hI h x0 (100 + Int32.toNatClampNeg x5)) = x4)
         (some (some (.int x5), h))
         (ev M_StringLatin1_indexOfChar 0 6 [some (.ref x0), none, none, some (.int x3), some (.int x4), some (.int (x5 + (nI 1)))] [] h))))
      (some (some (.int (mI 1)), h)) := (ev_eq _ _ _ _ _ _).trans rfl
theorem r_Arrays_fill_0 (x0 : Nat) (x1 : Int32) (h : MH) : ev M_Arrays_fill 0 0 [some (.ref x0), some (.int x1), none, none] [] h =
    isC h x0 20 (
    ev M_Arrays_fill 0 6 [some (.ref x0), some (.int x1), some (.int (nI 0)), some (.int (nI (hN h x0)))] [] h) := (ev_eq _ _ _ _ _ _).trans rfl
theorem r_Arrays_fill_6 (x0 : Nat) (x1 : Int32) (x2 : Int32) (x3 : Int32) (h : MH) : ev M_Arrays_fill 0 6 [some (.ref x0), some (.int x1), some (.int x2), some (.int x3)] [] h =
    br (x2 < x3)
      (isC h x0 20 (inA h x0 x2 (
       let h1 := sI h x0 (Int32.toNatClampNeg x2) x1
       ev M_Arrays_fill 0 6 [some (.ref x0), some (.int x1), some (.int (x2 + (nI 1))), some (.int x3)] [] h1)))
      (some (none, h)) := (ev_eq _ _ _ _ _ _).trans rfl
theorem r_Preconditions_checkIndex_0 (x0 : Int32) (x1 : Int32) (x2 : Nat) (h : MH) : ev M_Preconditions_checkIndex 0 0 [some (.int x0), some (.int x1), some (.ref x2)] [] h =
    br (x0 < (nI 0))
      (ev M_Preconditions_checkIndex 0 6 [some (.int x0), some (.int x1), some (.ref x2)] [] h)
      (br (x0 < x1)
         (some (some (.int x0), h))
         (ev M_Preconditions_checkIndex 0 6 [some (.int x0), some (.int x1), some (.ref x2)] [] h)) := (ev_eq _ _ _ _ _ _).trans rfl
theorem r_Preconditions_checkIndex_6 (x0 : Int32) (x1 : Int32) (x2 : Nat) (h : MH) : ev M_Preconditions_checkIndex 0 6 [some (.int x0), some (.int x1), some (.ref x2)] [] h =
    none := (ev_eq _ _ _ _ _ _).trans rfl
set_option maxRecDepth 100000 in
set_option maxHeartbeats 4000000 in
theorem r_Law_law_0 (x0 : Nat) (h : MH) : ev M_Law_law 0 0 [some (.ref x0), none, none, none] [] h =
    let h1 := nw h 12 15
    rV (ev M_PT_init 0 0 [some (.ref (hT h)), none] [] h1) fun h2 =>
    let h3 := nw h2 13 64
    rV (ev M_Mo_init 0 0 [some (.ref (hT h2))] [] h3) fun h4 =>
    ev M_Law_law 0 11 [some (.ref x0), some (.ref (hT h)), some (.ref (hT h2)), some (.int (nI 0))] [] h4 := (ev_eq _ _ _ _ _ _).trans rfl
set_option maxRecDepth 100000 in
set_option maxHeartbeats 4000000 in
theorem r_Law_law_11 (x0 : Nat) (x1 : Nat) (x2 : Nat) (x3 : Int32) (h : MH) : ev M_Law_law 0 11 [some (.ref x0), some (.ref x1), some (.ref x2), some (.int x3)] [] h =
    isC h x0 99 (
    br (((nI (hN h x0)) - (nI 6)) < x3)
      (isZ (nI 1) (some (some (.int (nI 1)), h)))
      (isC h x0 99 (inA h x0 x3 (
       br (((hI h x0 (Int32.toNatClampNeg x3)) &&& (nI 63)) = (nI 0))
         (isC h x0 99 (inA h x0 (x3 + (nI 1)) (
          isC h x0 99 (inA h x0 (x3 + (nI 2)) (
          isC h x0 99 (inA h x0 (x3 + (nI 3)) (
          isC h x0 99 (inA h x0 (x3 + (nI 4)) (
          isC h x0 99 (inA h x0 (x3 + (nI 5)) (
          isC h x1 12 (rI (ev M_PT_feed 0 0 [some (.ref x1), some (.int (hI h x0 (Int32.toNatClampNeg (x3 + (nI 1))))), some (.int (hI h x0 (Int32.toNatClampNeg (x3 + (nI 2))))), some (.int (hI h x0 (Int32.toNatClampNeg (x3 + (nI 3))))), some (.int (hI h x0 (Int32.toNatClampNeg (x3 + (nI 4))))), some (.int (hI h x0 (Int32.toNatClampNeg (x3 + (nI 5)))))] [] h) fun y2 h1 =>
          isC h1 x0 99 (inA h1 x0 (x3 + (nI 1)) (
          isC h1 x0 99 (inA h1 x0 (x3 + (nI 2)) (
          isC h1 x0 99 (inA h1 x0 (x3 + (nI 3)) (
          isC h1 x0 99 (inA h1 x0 (x3 + (nI 4)) (
          isC h1 x0 99 (inA h1 x0 (x3 + (nI 5)) (
          isC h1 x2 13 (rI (ev M_Mo_feed 0 0 [some (.ref x2), some (.int (hI h1 x0 (Int32.toNatClampNeg (x3 + (nI 1))))), some (.int (hI h1 x0 (Int32.toNatClampNeg (x3 + (nI 2))))), some (.int (hI h1 x0 (Int32.toNatClampNeg (x3 + (nI 3))))), some (.int (hI h1 x0 (Int32.toNatClampNeg (x3 + (nI 4))))), some (.int (hI h1 x0 (Int32.toNatClampNeg (x3 + (nI 5)))))] [] h1) fun y4 h3 =>
          br (y2 = y4)
            (ev M_Law_law 0 1387 [some (.ref x0), some (.ref x1), some (.ref x2), some (.int x3)] [] h3)
            (isZ (nI 0) (some (some (.int (nI 0)), h3))))))))))))))))))))))))))
         (br (((hI h x0 (Int32.toNatClampNeg x3)) &&& (nI 63)) = (nI 1))
         (isC h x0 99 (inA h x0 (x3 + (nI 1)) (
          isC h x1 12 (rI (ev M_PT_end 0 0 [some (.ref x1), some (.int (hI h x0 (Int32.toNatClampNeg (x3 + (nI 1)))))] [] h) fun y6 h5 =>
          isC h5 x0 99 (inA h5 x0 (x3 + (nI 1)) (
          isC h5 x2 13 (rI (ev M_Mo_end 0 0 [some (.ref x2), some (.int (hI h5 x0 (Int32.toNatClampNeg (x3 + (nI 1)))))] [] h5) fun y8 h7 =>
          br (y6 = y8)
            (ev M_Law_law 0 1387 [some (.ref x0), some (.ref x1), some (.ref x2), some (.int x3)] [] h7)
            (isZ (nI 0) (some (some (.int (nI 0)), h7))))))))))
         (br (((hI h x0 (Int32.toNatClampNeg x3)) &&& (nI 63)) = (nI 2))
         (isC h x1 12 (rI (ev M_PT_store 0 0 [some (.ref x1), none, none] [] h) fun y10 h9 =>
          isC h9 x2 13 (rI (ev M_Mo_store 0 0 [some (.ref x2), none] [] h9) fun y12 h11 =>
          br (y10 = y12)
            (ev M_Law_law 0 1387 [some (.ref x0), some (.ref x1), some (.ref x2), some (.int x3)] [] h11)
            (isZ (nI 0) (some (some (.int (nI 0)), h11))))))
         (br (((hI h x0 (Int32.toNatClampNeg x3)) &&& (nI 63)) = (nI 3))
         (isC h x0 99 (inA h x0 (x3 + (nI 1)) (
          isC h x1 12 (rI (ev M_PT_fault 0 0 [some (.ref x1), some (.int (hI h x0 (Int32.toNatClampNeg (x3 + (nI 1)))))] [] h) fun y14 h13 =>
          isC h13 x0 99 (inA h13 x0 (x3 + (nI 1)) (
          isC h13 x2 13 (rI (ev M_Mo_fault 0 0 [some (.ref x2), some (.int (hI h13 x0 (Int32.toNatClampNeg (x3 + (nI 1)))))] [] h13) fun y16 h15 =>
          br (y14 = y16)
            (ev M_Law_law 0 1387 [some (.ref x0), some (.ref x1), some (.ref x2), some (.int x3)] [] h15)
            (isZ (nI 0) (some (some (.int (nI 0)), h15))))))))))
         (br (((hI h x0 (Int32.toNatClampNeg x3)) &&& (nI 63)) = (nI 4))
         (isC h x0 99 (inA h x0 (x3 + (nI 1)) (
          isC h x0 99 (inA h x0 (x3 + (nI 2)) (
          isC h x1 12 (rI (ev M_PT_relation 0 0 [some (.ref x1), some (.int (hI h x0 (Int32.toNatClampNeg (x3 + (nI 1))))), some (.int (hI h x0 (Int32.toNatClampNeg (x3 + (nI 2))))), none] [] h) fun y18 h17 =>
          isC h17 x0 99 (inA h17 x0 (x3 + (nI 1)) (
          isC h17 x0 99 (inA h17 x0 (x3 + (nI 2)) (
          isC h17 x2 13 (rI (ev M_Mo_relation2 0 0 [some (.ref x2), some (.int (hI h17 x0 (Int32.toNatClampNeg (x3 + (nI 1))))), some (.int (hI h17 x0 (Int32.toNatClampNeg (x3 + (nI 2)))))] [] h17) fun y20 h19 =>
          br (y18 = y20)
            (ev M_Law_law 0 1387 [some (.ref x0), some (.ref x1), some (.ref x2), some (.int x3)] [] h19)
            (isZ (nI 0) (some (some (.int (nI 0)), h19))))))))))))))
         (br (((hI h x0 (Int32.toNatClampNeg x3)) &&& (nI 63)) = (nI 5))
         (isC h x0 99 (inA h x0 (x3 + (nI 1)) (
          isC h x0 99 (inA h x0 (x3 + (nI 2)) (
          isC h x0 99 (inA h x0 (x3 + (nI 3)) (
          isC h x1 12 (rI (ev M_PT_has 0 0 [some (.ref x1), some (.int (hI h x0 (Int32.toNatClampNeg (x3 + (nI 1))))), some (.int (hI h x0 (Int32.toNatClampNeg (x3 + (nI 2))))), some (.int (hI h x0 (Int32.toNatClampNeg (x3 + (nI 3)))))] [] h) fun y22 h21 =>
          isC h21 x0 99 (inA h21 x0 (x3 + (nI 1)) (
          isC h21 x0 99 (inA h21 x0 (x3 + (nI 2)) (
          isC h21 x0 99 (inA h21 x0 (x3 + (nI 3)) (
          isC h21 x2 13 (rI (ev M_Mo_has 0 0 [some (.ref x2), some (.int (hI h21 x0 (Int32.toNatClampNeg (x3 + (nI 1))))), some (.int (hI h21 x0 (Int32.toNatClampNeg (x3 + (nI 2))))), some (.int (hI h21 x0 (Int32.toNatClampNeg (x3 + (nI 3)))))] [] h21) fun y24 h23 =>
          br (y22 = y24)
            (ev M_Law_law 0 1387 [some (.ref x0), some (.ref x1), some (.ref x2), some (.int x3)] [] h23)
            (isZ (nI 0) (some (some (.int (nI 0)), h23))))))))))))))))))
         (br (((hI h x0 (Int32.toNatClampNeg x3)) &&& (nI 63)) = (nI 6))
         (isC h x0 99 (inA h x0 (x3 + (nI 1)) (
          isC h x0 99 (inA h x0 (x3 + (nI 2)) (
          isC h x0 99 (inA h x0 (x3 + (nI 3)) (
          isC h x1 12 (rI (ev M_PT_put 0 0 [some (.ref x1), some (.int (hI h x0 (Int32.toNatClampNeg (x3 + (nI 1))))), some (.int (hI h x0 (Int32.toNatClampNeg (x3 + (nI 2))))), some (.int (hI h x0 (Int32.toNatClampNeg (x3 + (nI 3)))))] [] h) fun y26 h25 =>
          isC h25 x0 99 (inA h25 x0 (x3 + (nI 1)) (
          isC h25 x0 99 (inA h25 x0 (x3 + (nI 2)) (
          isC h25 x0 99 (inA h25 x0 (x3 + (nI 3)) (
          isC h25 x2 13 (rI (ev M_Mo_put 0 0 [some (.ref x2), some (.int (hI h25 x0 (Int32.toNatClampNeg (x3 + (nI 1))))), some (.int (hI h25 x0 (Int32.toNatClampNeg (x3 + (nI 2))))), some (.int (hI h25 x0 (Int32.toNatClampNeg (x3 + (nI 3)))))] [] h25) fun y28 h27 =>
          br (y26 = y28)
            (ev M_Law_law 0 1387 [some (.ref x0), some (.ref x1), some (.ref x2), some (.int x3)] [] h27)
            (isZ (nI 0) (some (some (.int (nI 0)), h27))))))))))))))))))
         (br (((hI h x0 (Int32.toNatClampNeg x3)) &&& (nI 63)) = (nI 7))
         (isC h x0 99 (inA h x0 (x3 + (nI 1)) (
          isC h x0 99 (inA h x0 (x3 + (nI 2)) (
          isC h x0 99 (inA h x0 (x3 + (nI 3)) (
          isC h x1 12 (rI (ev M_PT_take 0 0 [some (.ref x1), some (.int (hI h x0 (Int32.toNatClampNeg (x3 + (nI 1))))), some (.int (hI h x0 (Int32.toNatClampNeg (x3 + (nI 2))))), some (.int (hI h x0 (Int32.toNatClampNeg (x3 + (nI 3)))))] [] h) fun y30 h29 =>
          isC h29 x0 99 (inA h29 x0 (x3 + (nI 1)) (
          isC h29 x0 99 (inA h29 x0 (x3 + (nI 2)) (
          isC h29 x0 99 (inA h29 x0 (x3 + (nI 3)) (
          isC h29 x2 13 (rI (ev M_Mo_take 0 0 [some (.ref x2), some (.int (hI h29 x0 (Int32.toNatClampNeg (x3 + (nI 1))))), some (.int (hI h29 x0 (Int32.toNatClampNeg (x3 + (nI 2))))), some (.int (hI h29 x0 (Int32.toNatClampNeg (x3 + (nI 3)))))] [] h29) fun y32 h31 =>
          br (y30 = y32)
            (ev M_Law_law 0 1387 [some (.ref x0), some (.ref x1), some (.ref x2), some (.int x3)] [] h31)
            (isZ (nI 0) (some (some (.int (nI 0)), h31))))))))))))))))))
         (br (((hI h x0 (Int32.toNatClampNeg x3)) &&& (nI 63)) = (nI 8))
         (isC h x0 99 (inA h x0 (x3 + (nI 1)) (
          isC h x0 99 (inA h x0 (x3 + (nI 2)) (
          isC h x0 99 (inA h x0 (x3 + (nI 3)) (
          isC h x0 99 (inA h x0 (x3 + (nI 4)) (
          isC h x1 12 (rI (ev M_PT_become 0 0 [some (.ref x1), some (.int (hI h x0 (Int32.toNatClampNeg (x3 + (nI 1))))), some (.int (hI h x0 (Int32.toNatClampNeg (x3 + (nI 2))))), some (.int (hI h x0 (Int32.toNatClampNeg (x3 + (nI 3))))), some (.int (hI h x0 (Int32.toNatClampNeg (x3 + (nI 4)))))] [] h) fun y34 h33 =>
          isC h33 x0 99 (inA h33 x0 (x3 + (nI 1)) (
          isC h33 x0 99 (inA h33 x0 (x3 + (nI 2)) (
          isC h33 x0 99 (inA h33 x0 (x3 + (nI 3)) (
          isC h33 x0 99 (inA h33 x0 (x3 + (nI 4)) (
          isC h33 x2 13 (rI (ev M_Mo_become 0 0 [some (.ref x2), some (.int (hI h33 x0 (Int32.toNatClampNeg (x3 + (nI 1))))), some (.int (hI h33 x0 (Int32.toNatClampNeg (x3 + (nI 2))))), some (.int (hI h33 x0 (Int32.toNatClampNeg (x3 + (nI 3))))), some (.int (hI h33 x0 (Int32.toNatClampNeg (x3 + (nI 4))))), none] [] h33) fun y36 h35 =>
          br (y34 = y36)
            (ev M_Law_law 0 1387 [some (.ref x0), some (.ref x1), some (.ref x2), some (.int x3)] [] h35)
            (isZ (nI 0) (some (some (.int (nI 0)), h35))))))))))))))))))))))
         (br (((hI h x0 (Int32.toNatClampNeg x3)) &&& (nI 63)) = (nI 9))
         (isC h x0 99 (inA h x0 (x3 + (nI 1)) (
          isC h x1 12 (rI (ev M_PT_sift 0 0 [some (.ref x1), some (.int (hI h x0 (Int32.toNatClampNeg (x3 + (nI 1))))), none] [] h) fun y38 h37 =>
          isC h37 x0 99 (inA h37 x0 (x3 + (nI 1)) (
          isC h37 x2 13 (rI (ev M_Mo_sift 0 0 [some (.ref x2), some (.int (hI h37 x0 (Int32.toNatClampNeg (x3 + (nI 1))))), none, none] [] h37) fun y40 h39 =>
          br (y38 = y40)
            (ev M_Law_law 0 1387 [some (.ref x0), some (.ref x1), some (.ref x2), some (.int x3)] [] h39)
            (isZ (nI 0) (some (some (.int (nI 0)), h39))))))))))
         (br (((hI h x0 (Int32.toNatClampNeg x3)) &&& (nI 63)) = (nI 10))
         (isC h x1 12 (rI (ev M_PT_drift 0 0 [some (.ref x1), none, none] [] h) fun y42 h41 =>
          isC h41 x2 13 (rI (ev M_Mo_drift 0 0 [some (.ref x2), none, none] [] h41) fun y44 h43 =>
          br (y42 = y44)
            (ev M_Law_law 0 1387 [some (.ref x0), some (.ref x1), some (.ref x2), some (.int x3)] [] h43)
            (isZ (nI 0) (some (some (.int (nI 0)), h43))))))
         (br (((hI h x0 (Int32.toNatClampNeg x3)) &&& (nI 63)) = (nI 11))
         (isC h x1 12 (rI (ev M_PT_undo 0 0 [some (.ref x1), none] [] h) fun y46 h45 =>
          isC h45 x2 13 (rI (ev M_Mo_undo 0 0 [some (.ref x2)] [] h45) fun y48 h47 =>
          br (y46 = y48)
            (ev M_Law_law 0 1387 [some (.ref x0), some (.ref x1), some (.ref x2), some (.int x3)] [] h47)
            (isZ (nI 0) (some (some (.int (nI 0)), h47))))))
         (br (((hI h x0 (Int32.toNatClampNeg x3)) &&& (nI 63)) = (nI 12))
         (isC h x1 12 (rI (ev M_PT_redo 0 0 [some (.ref x1), none] [] h) fun y50 h49 =>
          isC h49 x2 13 (rI (ev M_Mo_redo 0 0 [some (.ref x2)] [] h49) fun y52 h51 =>
          br (y50 = y52)
            (ev M_Law_law 0 1387 [some (.ref x0), some (.ref x1), some (.ref x2), some (.int x3)] [] h51)
            (isZ (nI 0) (some (some (.int (nI 0)), h51))))))
         (br (((hI h x0 (Int32.toNatClampNeg x3)) &&& (nI 63)) = (nI 13))
         (isC h x0 99 (inA h x0 (x3 + (nI 1)) (
          isC h x0 99 (inA h x0 (x3 + (nI 2)) (
          isC h x1 12 (rI (ev M_PT_bit 0 0 [some (.ref x1), some (.int (hI h x0 (Int32.toNatClampNeg (x3 + (nI 1))))), some (.int (hI h x0 (Int32.toNatClampNeg (x3 + (nI 2)))))] [] h) fun y54 h53 =>
          isC h53 x0 99 (inA h53 x0 (x3 + (nI 1)) (
          isC h53 x0 99 (inA h53 x0 (x3 + (nI 2)) (
          isC h53 x2 13 (rI (ev M_Mo_bit 0 0 [some (.ref x2), some (.int (hI h53 x0 (Int32.toNatClampNeg (x3 + (nI 1))))), some (.int (hI h53 x0 (Int32.toNatClampNeg (x3 + (nI 2)))))] [] h53) fun y56 h55 =>
          br (y54 = y56)
            (ev M_Law_law 0 1387 [some (.ref x0), some (.ref x1), some (.ref x2), some (.int x3)] [] h55)
            (isZ (nI 0) (some (some (.int (nI 0)), h55))))))))))))))
         (br (((hI h x0 (Int32.toNatClampNeg x3)) &&& (nI 63)) = (nI 14))
         (isC h x0 99 (inA h x0 (x3 + (nI 1)) (
          isC h x0 99 (inA h x0 (x3 + (nI 2)) (
          isC h x1 12 (rI (ev M_PT_rank 0 0 [some (.ref x1), some (.int (hI h x0 (Int32.toNatClampNeg (x3 + (nI 1))))), some (.int (hI h x0 (Int32.toNatClampNeg (x3 + (nI 2)))))] [] h) fun y58 h57 =>
          isC h57 x0 99 (inA h57 x0 (x3 + (nI 1)) (
          isC h57 x0 99 (inA h57 x0 (x3 + (nI 2)) (
          isC h57 x2 13 (rI (ev M_Mo_rank 0 0 [some (.ref x2), some (.int (hI h57 x0 (Int32.toNatClampNeg (x3 + (nI 1))))), some (.int (hI h57 x0 (Int32.toNatClampNeg (x3 + (nI 2)))))] [] h57) fun y60 h59 =>
          br (y58 = y60)
            (ev M_Law_law 0 1387 [some (.ref x0), some (.ref x1), some (.ref x2), some (.int x3)] [] h59)
            (isZ (nI 0) (some (some (.int (nI 0)), h59))))))))))))))
         (br (((hI h x0 (Int32.toNatClampNeg x3)) &&& (nI 63)) = (nI 15))
         (isC h x0 99 (inA h x0 (x3 + (nI 1)) (
          isC h x0 99 (inA h x0 (x3 + (nI 2)) (
          isC h x0 99 (inA h x0 (x3 + (nI 3)) (
          isC h x1 12 (rI (ev M_PT_child 0 0 [some (.ref x1), some (.int (hI h x0 (Int32.toNatClampNeg (x3 + (nI 1))))), some (.int (hI h x0 (Int32.toNatClampNeg (x3 + (nI 2))))), some (.int (hI h x0 (Int32.toNatClampNeg (x3 + (nI 3)))))] [] h) fun y62 h61 =>
          isC h61 x0 99 (inA h61 x0 (x3 + (nI 1)) (
          isC h61 x0 99 (inA h61 x0 (x3 + (nI 2)) (
          isC h61 x0 99 (inA h61 x0 (x3 + (nI 3)) (
          isC h61 x2 13 (rI (ev M_Mo_child 0 0 [some (.ref x2), some (.int (hI h61 x0 (Int32.toNatClampNeg (x3 + (nI 1))))), some (.int (hI h61 x0 (Int32.toNatClampNeg (x3 + (nI 2))))), some (.int (hI h61 x0 (Int32.toNatClampNeg (x3 + (nI 3)))))] [] h61) fun y64 h63 =>
          br (y62 = y64)
            (ev M_Law_law 0 1387 [some (.ref x0), some (.ref x1), some (.ref x2), some (.int x3)] [] h63)
            (isZ (nI 0) (some (some (.int (nI 0)), h63))))))))))))))))))
         (br (((hI h x0 (Int32.toNatClampNeg x3)) &&& (nI 63)) = (nI 16))
         (isC h x0 99 (inA h x0 (x3 + (nI 1)) (
          isC h x0 99 (inA h x0 (x3 + (nI 2)) (
          isC h x0 99 (inA h x0 (x3 + (nI 3)) (
          isC h x1 12 (rI (ev M_PT_place 0 0 [some (.ref x1), some (.int (hI h x0 (Int32.toNatClampNeg (x3 + (nI 1))))), some (.int (hI h x0 (Int32.toNatClampNeg (x3 + (nI 2))))), some (.int (hI h x0 (Int32.toNatClampNeg (x3 + (nI 3)))))] [] h) fun y66 h65 =>
          isC h65 x0 99 (inA h65 x0 (x3 + (nI 1)) (
          isC h65 x0 99 (inA h65 x0 (x3 + (nI 2)) (
          isC h65 x0 99 (inA h65 x0 (x3 + (nI 3)) (
          isC h65 x2 13 (rI (ev M_Mo_place 0 0 [some (.ref x2), some (.int (hI h65 x0 (Int32.toNatClampNeg (x3 + (nI 1))))), some (.int (hI h65 x0 (Int32.toNatClampNeg (x3 + (nI 2))))), some (.int (hI h65 x0 (Int32.toNatClampNeg (x3 + (nI 3)))))] [] h65) fun y68 h67 =>
          br (y66 = y68)
            (ev M_Law_law 0 1387 [some (.ref x0), some (.ref x1), some (.ref x2), some (.int x3)] [] h67)
            (isZ (nI 0) (some (some (.int (nI 0)), h67))))))))))))))))))
         (br (((hI h x0 (Int32.toNatClampNeg x3)) &&& (nI 63)) = (nI 17))
         (isC h x0 99 (inA h x0 (x3 + (nI 1)) (
          isC h x0 99 (inA h x0 (x3 + (nI 2)) (
          isC h x1 12 (rI (ev M_PT_blocks 0 0 [some (.ref x1), some (.int (hI h x0 (Int32.toNatClampNeg (x3 + (nI 1))))), some (.int (hI h x0 (Int32.toNatClampNeg (x3 + (nI 2)))))] [] h) fun y70 h69 =>
          isC h69 x0 99 (inA h69 x0 (x3 + (nI 1)) (
          isC h69 x0 99 (inA h69 x0 (x3 + (nI 2)) (
          isC h69 x2 13 (rI (ev M_Mo_blocks 0 0 [some (.ref x2), some (.int (hI h69 x0 (Int32.toNatClampNeg (x3 + (nI 1))))), some (.int (hI h69 x0 (Int32.toNatClampNeg (x3 + (nI 2))))), none, none] [] h69) fun y72 h71 =>
          br (y70 = y72)
            (ev M_Law_law 0 1387 [some (.ref x0), some (.ref x1), some (.ref x2), some (.int x3)] [] h71)
            (isZ (nI 0) (some (some (.int (nI 0)), h71))))))))))))))
         (br (((hI h x0 (Int32.toNatClampNeg x3)) &&& (nI 63)) = (nI 18))
         (isC h x0 99 (inA h x0 (x3 + (nI 1)) (
          isC h x0 99 (inA h x0 (x3 + (nI 2)) (
          isC h x1 12 (rI (ev M_PT_row 0 0 [some (.ref x1), some (.int (hI h x0 (Int32.toNatClampNeg (x3 + (nI 1))))), some (.int (hI h x0 (Int32.toNatClampNeg (x3 + (nI 2)))))] [] h) fun y74 h73 =>
          isC h73 x0 99 (inA h73 x0 (x3 + (nI 1)) (
          isC h73 x0 99 (inA h73 x0 (x3 + (nI 2)) (
          isC h73 x2 13 (rI (ev M_Mo_row 0 0 [some (.ref x2), some (.int (hI h73 x0 (Int32.toNatClampNeg (x3 + (nI 1))))), some (.int (hI h73 x0 (Int32.toNatClampNeg (x3 + (nI 2)))))] [] h73) fun y76 h75 =>
          br (y74 = y76)
            (ev M_Law_law 0 1387 [some (.ref x0), some (.ref x1), some (.ref x2), some (.int x3)] [] h75)
            (isZ (nI 0) (some (some (.int (nI 0)), h75))))))))))))))
         (br (((hI h x0 (Int32.toNatClampNeg x3)) &&& (nI 63)) = (nI 19))
         (isC h x0 99 (inA h x0 (x3 + (nI 1)) (
          isC h x0 99 (inA h x0 (x3 + (nI 2)) (
          isC h x1 12 (rI (ev M_PT_column 0 0 [some (.ref x1), some (.int (hI h x0 (Int32.toNatClampNeg (x3 + (nI 1))))), some (.int (hI h x0 (Int32.toNatClampNeg (x3 + (nI 2)))))] [] h) fun y78 h77 =>
          isC h77 x0 99 (inA h77 x0 (x3 + (nI 1)) (
          isC h77 x0 99 (inA h77 x0 (x3 + (nI 2)) (
          isC h77 x2 13 (rI (ev M_Mo_column 0 0 [some (.ref x2), some (.int (hI h77 x0 (Int32.toNatClampNeg (x3 + (nI 1))))), some (.int (hI h77 x0 (Int32.toNatClampNeg (x3 + (nI 2)))))] [] h77) fun y80 h79 =>
          br (y78 = y80)
            (ev M_Law_law 0 1387 [some (.ref x0), some (.ref x1), some (.ref x2), some (.int x3)] [] h79)
            (isZ (nI 0) (some (some (.int (nI 0)), h79))))))))))))))
         (br (((hI h x0 (Int32.toNatClampNeg x3)) &&& (nI 63)) = (nI 20))
         (isC h x0 99 (inA h x0 (x3 + (nI 1)) (
          isC h x0 99 (inA h x0 (x3 + (nI 2)) (
          isC h x0 99 (inA h x0 (x3 + (nI 3)) (
          isC h x0 99 (inA h x0 (x3 + (nI 4)) (
          isC h x0 99 (inA h x0 (x3 + (nI 5)) (
          isC h x1 12 (rI (ev M_PT_rect 0 0 [some (.ref x1), some (.int (hI h x0 (Int32.toNatClampNeg (x3 + (nI 1))))), some (.int (hI h x0 (Int32.toNatClampNeg (x3 + (nI 2))))), some (.int (hI h x0 (Int32.toNatClampNeg (x3 + (nI 3))))), some (.int (hI h x0 (Int32.toNatClampNeg (x3 + (nI 4))))), some (.int (hI h x0 (Int32.toNatClampNeg (x3 + (nI 5)))))] [] h) fun y82 h81 =>
          isC h81 x0 99 (inA h81 x0 (x3 + (nI 1)) (
          isC h81 x0 99 (inA h81 x0 (x3 + (nI 2)) (
          isC h81 x0 99 (inA h81 x0 (x3 + (nI 3)) (
          isC h81 x0 99 (inA h81 x0 (x3 + (nI 4)) (
          isC h81 x0 99 (inA h81 x0 (x3 + (nI 5)) (
          isC h81 x2 13 (rI (ev M_Mo_rect 0 0 [some (.ref x2), some (.int (hI h81 x0 (Int32.toNatClampNeg (x3 + (nI 1))))), some (.int (hI h81 x0 (Int32.toNatClampNeg (x3 + (nI 2))))), some (.int (hI h81 x0 (Int32.toNatClampNeg (x3 + (nI 3))))), some (.int (hI h81 x0 (Int32.toNatClampNeg (x3 + (nI 4))))), some (.int (hI h81 x0 (Int32.toNatClampNeg (x3 + (nI 5))))), none, none, none] [] h81) fun y84 h83 =>
          br (y82 = y84)
            (ev M_Law_law 0 1387 [some (.ref x0), some (.ref x1), some (.ref x2), some (.int x3)] [] h83)
            (isZ (nI 0) (some (some (.int (nI 0)), h83))))))))))))))))))))))))))
         (br (((hI h x0 (Int32.toNatClampNeg x3)) &&& (nI 63)) = (nI 21))
         (isC h x0 99 (inA h x0 (x3 + (nI 1)) (
          isC h x0 99 (inA h x0 (x3 + (nI 2)) (
          isC h x0 99 (inA h x0 (x3 + (nI 3)) (
          isC h x0 99 (inA h x0 (x3 + (nI 4)) (
          isC h x0 99 (inA h x0 (x3 + (nI 5)) (
          isC h x1 12 (rI (ev M_PT_looks 0 0 [some (.ref x1), some (.int (hI h x0 (Int32.toNatClampNeg (x3 + (nI 1))))), some (.int (hI h x0 (Int32.toNatClampNeg (x3 + (nI 2))))), some (.int (hI h x0 (Int32.toNatClampNeg (x3 + (nI 3))))), some (.int (hI h x0 (Int32.toNatClampNeg (x3 + (nI 4))))), some (.int (hI h x0 (Int32.toNatClampNeg (x3 + (nI 5)))))] [] h) fun y86 h85 =>
          isC h85 x0 99 (inA h85 x0 (x3 + (nI 1)) (
          isC h85 x0 99 (inA h85 x0 (x3 + (nI 2)) (
          isC h85 x0 99 (inA h85 x0 (x3 + (nI 3)) (
          isC h85 x0 99 (inA h85 x0 (x3 + (nI 4)) (
          isC h85 x0 99 (inA h85 x0 (x3 + (nI 5)) (
          isC h85 x2 13 (rI (ev M_Mo_looks 0 0 [some (.ref x2), some (.int (hI h85 x0 (Int32.toNatClampNeg (x3 + (nI 1))))), some (.int (hI h85 x0 (Int32.toNatClampNeg (x3 + (nI 2))))), some (.int (hI h85 x0 (Int32.toNatClampNeg (x3 + (nI 3))))), some (.int (hI h85 x0 (Int32.toNatClampNeg (x3 + (nI 4))))), some (.int (hI h85 x0 (Int32.toNatClampNeg (x3 + (nI 5))))), none, none, none] [] h85) fun y88 h87 =>
          br (y86 = y88)
            (ev M_Law_law 0 1387 [some (.ref x0), some (.ref x1), some (.ref x2), some (.int x3)] [] h87)
            (isZ (nI 0) (some (some (.int (nI 0)), h87))))))))))))))))))))))))))
         (br (((hI h x0 (Int32.toNatClampNeg x3)) &&& (nI 63)) = (nI 22))
         (isC h x0 99 (inA h x0 (x3 + (nI 1)) (
          isC h x0 99 (inA h x0 (x3 + (nI 2)) (
          isC h x1 12 (rI (ev M_PT_walks 0 0 [some (.ref x1), some (.int (hI h x0 (Int32.toNatClampNeg (x3 + (nI 1))))), some (.int (hI h x0 (Int32.toNatClampNeg (x3 + (nI 2)))))] [] h) fun y90 h89 =>
          isC h89 x0 99 (inA h89 x0 (x3 + (nI 1)) (
          isC h89 x0 99 (inA h89 x0 (x3 + (nI 2)) (
          isC h89 x2 13 (rI (ev M_Mo_walks 0 0 [some (.ref x2), some (.int (hI h89 x0 (Int32.toNatClampNeg (x3 + (nI 1))))), some (.int (hI h89 x0 (Int32.toNatClampNeg (x3 + (nI 2))))), none, none, none, none] [] h89) fun y92 h91 =>
          br (y90 = y92)
            (ev M_Law_law 0 1387 [some (.ref x0), some (.ref x1), some (.ref x2), some (.int x3)] [] h91)
            (isZ (nI 0) (some (some (.int (nI 0)), h91))))))))))))))
         (br (((hI h x0 (Int32.toNatClampNeg x3)) &&& (nI 63)) = (nI 23))
         (isC h x0 99 (inA h x0 (x3 + (nI 1)) (
          isC h x0 99 (inA h x0 (x3 + (nI 2)) (
          isC h x1 12 (rI (ev M_PT_products 0 0 [some (.ref x1), some (.int (hI h x0 (Int32.toNatClampNeg (x3 + (nI 1))))), some (.int (hI h x0 (Int32.toNatClampNeg (x3 + (nI 2)))))] [] h) fun y94 h93 =>
          isC h93 x0 99 (inA h93 x0 (x3 + (nI 1)) (
          isC h93 x0 99 (inA h93 x0 (x3 + (nI 2)) (
          isC h93 x2 13 (rI (ev M_Mo_products 0 0 [some (.ref x2), some (.int (hI h93 x0 (Int32.toNatClampNeg (x3 + (nI 1))))), some (.int (hI h93 x0 (Int32.toNatClampNeg (x3 + (nI 2))))), none, none, none, none, none] [] h93) fun y96 h95 =>
          br (y94 = y96)
            (ev M_Law_law 0 1387 [some (.ref x0), some (.ref x1), some (.ref x2), some (.int x3)] [] h95)
            (isZ (nI 0) (some (some (.int (nI 0)), h95))))))))))))))
         (br (((hI h x0 (Int32.toNatClampNeg x3)) &&& (nI 63)) = (nI 24))
         (isC h x0 99 (inA h x0 (x3 + (nI 1)) (
          isC h x0 99 (inA h x0 (x3 + (nI 2)) (
          isC h x0 99 (inA h x0 (x3 + (nI 3)) (
          isC h x0 99 (inA h x0 (x3 + (nI 4)) (
          isC h x1 12 (rI (ev M_PT_would 0 0 [some (.ref x1), some (.int (hI h x0 (Int32.toNatClampNeg (x3 + (nI 1))))), some (.int (hI h x0 (Int32.toNatClampNeg (x3 + (nI 2))))), some (.int (hI h x0 (Int32.toNatClampNeg (x3 + (nI 3))))), some (.int (hI h x0 (Int32.toNatClampNeg (x3 + (nI 4)))))] [] h) fun y98 h97 =>
          isC h97 x0 99 (inA h97 x0 (x3 + (nI 1)) (
          isC h97 x0 99 (inA h97 x0 (x3 + (nI 2)) (
          isC h97 x0 99 (inA h97 x0 (x3 + (nI 3)) (
          isC h97 x0 99 (inA h97 x0 (x3 + (nI 4)) (
          isC h97 x2 13 (rI (ev M_Mo_would 0 0 [some (.ref x2), some (.int (hI h97 x0 (Int32.toNatClampNeg (x3 + (nI 1))))), some (.int (hI h97 x0 (Int32.toNatClampNeg (x3 + (nI 2))))), some (.int (hI h97 x0 (Int32.toNatClampNeg (x3 + (nI 3))))), some (.int (hI h97 x0 (Int32.toNatClampNeg (x3 + (nI 4)))))] [] h97) fun y100 h99 =>
          br (y98 = y100)
            (ev M_Law_law 0 1387 [some (.ref x0), some (.ref x1), some (.ref x2), some (.int x3)] [] h99)
            (isZ (nI 0) (some (some (.int (nI 0)), h99))))))))))))))))))))))
         (br (((hI h x0 (Int32.toNatClampNeg x3)) &&& (nI 63)) = (nI 25))
         (isC h x0 99 (inA h x0 (x3 + (nI 1)) (
          isC h x0 99 (inA h x0 (x3 + (nI 2)) (
          isC h x0 99 (inA h x0 (x3 + (nI 3)) (
          isC h x1 12 (rI (ev M_PT_pair 0 0 [some (.ref x1), some (.int (hI h x0 (Int32.toNatClampNeg (x3 + (nI 1))))), some (.int (hI h x0 (Int32.toNatClampNeg (x3 + (nI 2))))), some (.int (hI h x0 (Int32.toNatClampNeg (x3 + (nI 3))))), none] [] h) fun y102 h101 =>
          isC h101 x0 99 (inA h101 x0 (x3 + (nI 1)) (
          isC h101 x0 99 (inA h101 x0 (x3 + (nI 2)) (
          isC h101 x0 99 (inA h101 x0 (x3 + (nI 3)) (
          isC h101 x2 13 (rI (ev M_Mo_pair 0 0 [some (.ref x2), some (.int (hI h101 x0 (Int32.toNatClampNeg (x3 + (nI 1))))), some (.int (hI h101 x0 (Int32.toNatClampNeg (x3 + (nI 2))))), some (.int (hI h101 x0 (Int32.toNatClampNeg (x3 + (nI 3))))), none, none, none] [] h101) fun y104 h103 =>
          br (y102 = y104)
            (ev M_Law_law 0 1387 [some (.ref x0), some (.ref x1), some (.ref x2), some (.int x3)] [] h103)
            (isZ (nI 0) (some (some (.int (nI 0)), h103))))))))))))))))))
         (br (((hI h x0 (Int32.toNatClampNeg x3)) &&& (nI 63)) = (nI 26))
         (isC h x0 99 (inA h x0 (x3 + (nI 1)) (
          isC h x0 99 (inA h x0 (x3 + (nI 2)) (
          isC h x1 12 (rI (ev M_PT_unlike 0 0 [some (.ref x1), some (.int (hI h x0 (Int32.toNatClampNeg (x3 + (nI 1))))), some (.int (hI h x0 (Int32.toNatClampNeg (x3 + (nI 2))))), none] [] h) fun y106 h105 =>
          isC h105 x0 99 (inA h105 x0 (x3 + (nI 1)) (
          isC h105 x0 99 (inA h105 x0 (x3 + (nI 2)) (
          isC h105 x2 13 (rI (ev M_Mo_unlike 0 0 [some (.ref x2), some (.int (hI h105 x0 (Int32.toNatClampNeg (x3 + (nI 1))))), some (.int (hI h105 x0 (Int32.toNatClampNeg (x3 + (nI 2))))), none, none] [] h105) fun y108 h107 =>
          br (y106 = y108)
            (ev M_Law_law 0 1387 [some (.ref x0), some (.ref x1), some (.ref x2), some (.int x3)] [] h107)
            (isZ (nI 0) (some (some (.int (nI 0)), h107))))))))))))))
         (br (((hI h x0 (Int32.toNatClampNeg x3)) &&& (nI 63)) = (nI 27))
         (isC h x0 99 (inA h x0 (x3 + (nI 1)) (
          isC h x0 99 (inA h x0 (x3 + (nI 2)) (
          isC h x1 12 (rI (ev M_PT_within 0 0 [some (.ref x1), some (.int (hI h x0 (Int32.toNatClampNeg (x3 + (nI 1))))), some (.int (hI h x0 (Int32.toNatClampNeg (x3 + (nI 2)))))] [] h) fun y110 h109 =>
          isC h109 x0 99 (inA h109 x0 (x3 + (nI 1)) (
          isC h109 x0 99 (inA h109 x0 (x3 + (nI 2)) (
          isC h109 x2 13 (rI (ev M_Mo_within 0 0 [some (.ref x2), some (.int (hI h109 x0 (Int32.toNatClampNeg (x3 + (nI 1))))), some (.int (hI h109 x0 (Int32.toNatClampNeg (x3 + (nI 2))))), none, none] [] h109) fun y112 h111 =>
          br (y110 = y112)
            (ev M_Law_law 0 1387 [some (.ref x0), some (.ref x1), some (.ref x2), some (.int x3)] [] h111)
            (isZ (nI 0) (some (some (.int (nI 0)), h111))))))))))))))
         (br (((hI h x0 (Int32.toNatClampNeg x3)) &&& (nI 63)) = (nI 28))
         (isC h x0 99 (inA h x0 (x3 + (nI 1)) (
          isC h x0 99 (inA h x0 (x3 + (nI 2)) (
          isC h x1 12 (rI (ev M_PT_busiest 0 0 [some (.ref x1), some (.int (hI h x0 (Int32.toNatClampNeg (x3 + (nI 1))))), some (.int (hI h x0 (Int32.toNatClampNeg (x3 + (nI 2))))), none, none, none, none, none] [] h) fun y114 h113 =>
          isC h113 x0 99 (inA h113 x0 (x3 + (nI 1)) (
          isC h113 x0 99 (inA h113 x0 (x3 + (nI 2)) (
          isC h113 x2 13 (rI (ev M_Mo_busiest 0 0 [some (.ref x2), some (.int (hI h113 x0 (Int32.toNatClampNeg (x3 + (nI 1))))), some (.int (hI h113 x0 (Int32.toNatClampNeg (x3 + (nI 2))))), none, none, none, none] [] h113) fun y116 h115 =>
          br (y114 = y116)
            (ev M_Law_law 0 1387 [some (.ref x0), some (.ref x1), some (.ref x2), some (.int x3)] [] h115)
            (isZ (nI 0) (some (some (.int (nI 0)), h115))))))))))))))
         (br (((hI h x0 (Int32.toNatClampNeg x3)) &&& (nI 63)) = (nI 29))
         (isC h x0 99 (inA h x0 (x3 + (nI 1)) (
          isC h x0 99 (inA h x0 (x3 + (nI 2)) (
          isC h x0 99 (inA h x0 (x3 + (nI 3)) (
          isC h x1 12 (rI (ev M_PT_densest 0 0 [some (.ref x1), some (.int (hI h x0 (Int32.toNatClampNeg (x3 + (nI 1))))), some (.int (hI h x0 (Int32.toNatClampNeg (x3 + (nI 2))))), some (.int (hI h x0 (Int32.toNatClampNeg (x3 + (nI 3))))), none, none, none, none, none] [] h) fun y118 h117 =>
          isC h117 x0 99 (inA h117 x0 (x3 + (nI 1)) (
          isC h117 x0 99 (inA h117 x0 (x3 + (nI 2)) (
          isC h117 x0 99 (inA h117 x0 (x3 + (nI 3)) (
          isC h117 x2 13 (rI (ev M_Mo_densest 0 0 [some (.ref x2), some (.int (hI h117 x0 (Int32.toNatClampNeg (x3 + (nI 1))))), some (.int (hI h117 x0 (Int32.toNatClampNeg (x3 + (nI 2))))), some (.int (hI h117 x0 (Int32.toNatClampNeg (x3 + (nI 3))))), none, none, none, none, none, none, none] [] h117) fun y120 h119 =>
          br (y118 = y120)
            (ev M_Law_law 0 1387 [some (.ref x0), some (.ref x1), some (.ref x2), some (.int x3)] [] h119)
            (isZ (nI 0) (some (some (.int (nI 0)), h119))))))))))))))))))
         (br (((hI h x0 (Int32.toNatClampNeg x3)) &&& (nI 63)) = (nI 30))
         (isC h x0 99 (inA h x0 (x3 + (nI 1)) (
          isC h x0 99 (inA h x0 (x3 + (nI 2)) (
          isC h x1 12 (rI (ev M_PT_reached 0 0 [some (.ref x1), some (.int (hI h x0 (Int32.toNatClampNeg (x3 + (nI 1))))), some (.int (hI h x0 (Int32.toNatClampNeg (x3 + (nI 2)))))] [] h) fun y122 h121 =>
          isC h121 x0 99 (inA h121 x0 (x3 + (nI 1)) (
          isC h121 x0 99 (inA h121 x0 (x3 + (nI 2)) (
          isC h121 x2 13 (rI (ev M_Mo_reached 0 0 [some (.ref x2), some (.int (hI h121 x0 (Int32.toNatClampNeg (x3 + (nI 1))))), some (.int (hI h121 x0 (Int32.toNatClampNeg (x3 + (nI 2)))))] [] h121) fun y124 h123 =>
          br (y122 = y124)
            (ev M_Law_law 0 1387 [some (.ref x0), some (.ref x1), some (.ref x2), some (.int x3)] [] h123)
            (isZ (nI 0) (some (some (.int (nI 0)), h123))))))))))))))
         (br (((hI h x0 (Int32.toNatClampNeg x3)) &&& (nI 63)) = (nI 31))
         (isC h x0 99 (inA h x0 (x3 + (nI 1)) (
          isC h x0 99 (inA h x0 (x3 + (nI 2)) (
          isC h x0 99 (inA h x0 (x3 + (nI 3)) (
          isC h x1 12 (rI (ev M_PT_far 0 0 [some (.ref x1), some (.int (hI h x0 (Int32.toNatClampNeg (x3 + (nI 1))))), some (.int (hI h x0 (Int32.toNatClampNeg (x3 + (nI 2))))), some (.int (hI h x0 (Int32.toNatClampNeg (x3 + (nI 3)))))] [] h) fun y126 h125 =>
          isC h125 x0 99 (inA h125 x0 (x3 + (nI 1)) (
          isC h125 x0 99 (inA h125 x0 (x3 + (nI 2)) (
          isC h125 x0 99 (inA h125 x0 (x3 + (nI 3)) (
          isC h125 x2 13 (rI (ev M_Mo_far 0 0 [some (.ref x2), some (.int (hI h125 x0 (Int32.toNatClampNeg (x3 + (nI 1))))), some (.int (hI h125 x0 (Int32.toNatClampNeg (x3 + (nI 2))))), some (.int (hI h125 x0 (Int32.toNatClampNeg (x3 + (nI 3))))), none, none] [] h125) fun y128 h127 =>
          br (y126 = y128)
            (ev M_Law_law 0 1387 [some (.ref x0), some (.ref x1), some (.ref x2), some (.int x3)] [] h127)
            (isZ (nI 0) (some (some (.int (nI 0)), h127))))))))))))))))))
         (br (((hI h x0 (Int32.toNatClampNeg x3)) &&& (nI 63)) = (nI 32))
         (isC h x0 99 (inA h x0 (x3 + (nI 1)) (
          isC h x0 99 (inA h x0 (x3 + (nI 2)) (
          isC h x1 12 (rI (ev M_PT_mutual 0 0 [some (.ref x1), some (.int (hI h x0 (Int32.toNatClampNeg (x3 + (nI 1))))), some (.int (hI h x0 (Int32.toNatClampNeg (x3 + (nI 2)))))] [] h) fun y130 h129 =>
          isC h129 x0 99 (inA h129 x0 (x3 + (nI 1)) (
          isC h129 x0 99 (inA h129 x0 (x3 + (nI 2)) (
          isC h129 x2 13 (rI (ev M_Mo_mutual 0 0 [some (.ref x2), some (.int (hI h129 x0 (Int32.toNatClampNeg (x3 + (nI 1))))), some (.int (hI h129 x0 (Int32.toNatClampNeg (x3 + (nI 2))))), none, none, none] [] h129) fun y132 h131 =>
          br (y130 = y132)
            (ev M_Law_law 0 1387 [some (.ref x0), some (.ref x1), some (.ref x2), some (.int x3)] [] h131)
            (isZ (nI 0) (some (some (.int (nI 0)), h131))))))))))))))
         (br (((hI h x0 (Int32.toNatClampNeg x3)) &&& (nI 63)) = (nI 33))
         (isC h x0 99 (inA h x0 (x3 + (nI 1)) (
          isC h x1 12 (rI (ev M_PT_closure 0 0 [some (.ref x1), some (.int (hI h x0 (Int32.toNatClampNeg (x3 + (nI 1)))))] [] h) fun y134 h133 =>
          isC h133 x0 99 (inA h133 x0 (x3 + (nI 1)) (
          isC h133 x2 13 (rI (ev M_Mo_closure 0 0 [some (.ref x2), some (.int (hI h133 x0 (Int32.toNatClampNeg (x3 + (nI 1))))), none, none, none, none] [] h133) fun y136 h135 =>
          br (y134 = y136)
            (ev M_Law_law 0 1387 [some (.ref x0), some (.ref x1), some (.ref x2), some (.int x3)] [] h135)
            (isZ (nI 0) (some (some (.int (nI 0)), h135))))))))))
         (br (((hI h x0 (Int32.toNatClampNeg x3)) &&& (nI 63)) = (nI 34))
         (isC h x0 99 (inA h x0 (x3 + (nI 1)) (
          isC h x1 12 (rI (ev M_PT_settles 0 0 [some (.ref x1), some (.int (hI h x0 (Int32.toNatClampNeg (x3 + (nI 1)))))] [] h) fun y138 h137 =>
          isC h137 x0 99 (inA h137 x0 (x3 + (nI 1)) (
          isC h137 x2 13 (rI (ev M_Mo_settles 0 0 [some (.ref x2), some (.int (hI h137 x0 (Int32.toNatClampNeg (x3 + (nI 1))))), none, none, none] [] h137) fun y140 h139 =>
          br (y138 = y140)
            (ev M_Law_law 0 1387 [some (.ref x0), some (.ref x1), some (.ref x2), some (.int x3)] [] h139)
            (isZ (nI 0) (some (some (.int (nI 0)), h139))))))))))
         (br (((hI h x0 (Int32.toNatClampNeg x3)) &&& (nI 63)) = (nI 35))
         (isC h x0 99 (inA h x0 (x3 + (nI 1)) (
          isC h x1 12 (rI (ev M_PT_parts 0 0 [some (.ref x1), some (.int (hI h x0 (Int32.toNatClampNeg (x3 + (nI 1)))))] [] h) fun y142 h141 =>
          isC h141 x0 99 (inA h141 x0 (x3 + (nI 1)) (
          isC h141 x2 13 (rI (ev M_Mo_parts 0 0 [some (.ref x2), some (.int (hI h141 x0 (Int32.toNatClampNeg (x3 + (nI 1))))), none, none, none, none, none, none] [] h141) fun y144 h143 =>
          br (y142 = y144)
            (ev M_Law_law 0 1387 [some (.ref x0), some (.ref x1), some (.ref x2), some (.int x3)] [] h143)
            (isZ (nI 0) (some (some (.int (nI 0)), h143))))))))))
         (br (((hI h x0 (Int32.toNatClampNeg x3)) &&& (nI 63)) = (nI 36))
         (isC h x0 99 (inA h x0 (x3 + (nI 1)) (
          isC h x0 99 (inA h x0 (x3 + (nI 2)) (
          isC h x1 12 (rI (ev M_PT_is 0 0 [some (.ref x1), some (.int (hI h x0 (Int32.toNatClampNeg (x3 + (nI 1))))), some (.int (hI h x0 (Int32.toNatClampNeg (x3 + (nI 2)))))] [] h) fun y146 h145 =>
          isC h145 x0 99 (inA h145 x0 (x3 + (nI 1)) (
          isC h145 x0 99 (inA h145 x0 (x3 + (nI 2)) (
          isC h145 x2 13 (rI (ev M_Mo_is 0 0 [some (.ref x2), some (.int (hI h145 x0 (Int32.toNatClampNeg (x3 + (nI 1))))), some (.int (hI h145 x0 (Int32.toNatClampNeg (x3 + (nI 2))))), none, none] [] h145) fun y148 h147 =>
          br (y146 = y148)
            (ev M_Law_law 0 1387 [some (.ref x0), some (.ref x1), some (.ref x2), some (.int x3)] [] h147)
            (isZ (nI 0) (some (some (.int (nI 0)), h147))))))))))))))
         (br (((hI h x0 (Int32.toNatClampNeg x3)) &&& (nI 63)) = (nI 37))
         (isC h x0 99 (inA h x0 (x3 + (nI 1)) (
          isC h x0 99 (inA h x0 (x3 + (nI 2)) (
          isC h x1 12 (rI (ev M_PT_law 0 0 [some (.ref x1), some (.int (hI h x0 (Int32.toNatClampNeg (x3 + (nI 1))))), some (.int (hI h x0 (Int32.toNatClampNeg (x3 + (nI 2))))), none] [] h) fun y150 h149 =>
          isC h149 x0 99 (inA h149 x0 (x3 + (nI 1)) (
          isC h149 x0 99 (inA h149 x0 (x3 + (nI 2)) (
          isC h149 x2 13 (rI (ev M_Mo_law 0 0 [some (.ref x2), some (.int (hI h149 x0 (Int32.toNatClampNeg (x3 + (nI 1))))), some (.int (hI h149 x0 (Int32.toNatClampNeg (x3 + (nI 2)))))] [] h149) fun y152 h151 =>
          br (y150 = y152)
            (ev M_Law_law 0 1387 [some (.ref x0), some (.ref x1), some (.ref x2), some (.int x3)] [] h151)
            (isZ (nI 0) (some (some (.int (nI 0)), h151))))))))))))))
         (br (((hI h x0 (Int32.toNatClampNeg x3)) &&& (nI 63)) = (nI 38))
         (isC h x0 99 (inA h x0 (x3 + (nI 1)) (
          isC h x0 99 (inA h x0 (x3 + (nI 2)) (
          isC h x1 12 (rI (ev M_PT_odds 0 0 [some (.ref x1), some (.int (hI h x0 (Int32.toNatClampNeg (x3 + (nI 1))))), some (.int (hI h x0 (Int32.toNatClampNeg (x3 + (nI 2))))), none, none, none] [] h) fun y154 h153 =>
          isC h153 x0 99 (inA h153 x0 (x3 + (nI 1)) (
          isC h153 x0 99 (inA h153 x0 (x3 + (nI 2)) (
          isC h153 x2 13 (rI (ev M_Mo_odds 0 0 [some (.ref x2), some (.int (hI h153 x0 (Int32.toNatClampNeg (x3 + (nI 1))))), some (.int (hI h153 x0 (Int32.toNatClampNeg (x3 + (nI 2))))), none, none, none] [] h153) fun y156 h155 =>
          br (y154 = y156)
            (ev M_Law_law 0 1387 [some (.ref x0), some (.ref x1), some (.ref x2), some (.int x3)] [] h155)
            (isZ (nI 0) (some (some (.int (nI 0)), h155))))))))))))))
         (br (((hI h x0 (Int32.toNatClampNeg x3)) &&& (nI 63)) = (nI 39))
         (isC h x0 99 (inA h x0 (x3 + (nI 1)) (
          isC h x1 12 (rI (ev M_PT_lies 0 0 [some (.ref x1), some (.int (hI h x0 (Int32.toNatClampNeg (x3 + (nI 1)))))] [] h) fun y158 h157 =>
          isC h157 x0 99 (inA h157 x0 (x3 + (nI 1)) (
          isC h157 x2 13 (rI (ev M_Mo_lies 0 0 [some (.ref x2), some (.int (hI h157 x0 (Int32.toNatClampNeg (x3 + (nI 1)))))] [] h157) fun y160 h159 =>
          br (y158 = y160)
            (ev M_Law_law 0 1387 [some (.ref x0), some (.ref x1), some (.ref x2), some (.int x3)] [] h159)
            (isZ (nI 0) (some (some (.int (nI 0)), h159))))))))))
         (br (((hI h x0 (Int32.toNatClampNeg x3)) &&& (nI 63)) = (nI 40))
         (isC h x0 99 (inA h x0 (x3 + (nI 1)) (
          isC h x0 99 (inA h x0 (x3 + (nI 2)) (
          isC h x0 99 (inA h x0 (x3 + (nI 3)) (
          isC h x0 99 (inA h x0 (x3 + (nI 4)) (
          br ((hI h x0 (Int32.toNatClampNeg (x3 + (nI 4)))) = (nI 0))
            (ev M_Law_law 0 1189 [some (.ref x0), some (.ref x1), some (.ref x2), some (.int x3)] [(.int (nI 0)), (.int (hI h x0 (Int32.toNatClampNeg (x3 + (nI 3))))), (.int (hI h x0 (Int32.toNatClampNeg (x3 + (nI 2))))), (.int (hI h x0 (Int32.toNatClampNeg (x3 + (nI 1))))), (.ref x1)] h)
            (ev M_Law_law 0 1189 [some (.ref x0), some (.ref x1), some (.ref x2), some (.int x3)] [(.int (nI 1)), (.int (hI h x0 (Int32.toNatClampNeg (x3 + (nI 3))))), (.int (hI h x0 (Int32.toNatClampNeg (x3 + (nI 2))))), (.int (hI h x0 (Int32.toNatClampNeg (x3 + (nI 1))))), (.ref x1)] h))))))))))
         (br (((hI h x0 (Int32.toNatClampNeg x3)) &&& (nI 63)) = (nI 41))
         (isC h x0 99 (inA h x0 (x3 + (nI 1)) (
          isC h x1 12 (rI (ev M_PT_untell 0 0 [some (.ref x1), some (.int (hI h x0 (Int32.toNatClampNeg (x3 + (nI 1)))))] [] h) fun y162 h161 =>
          isC h161 x0 99 (inA h161 x0 (x3 + (nI 1)) (
          isC h161 x2 13 (rI (ev M_Mo_untell 0 0 [some (.ref x2), some (.int (hI h161 x0 (Int32.toNatClampNeg (x3 + (nI 1)))))] [] h161) fun y164 h163 =>
          br (y162 = y164)
            (ev M_Law_law 0 1387 [some (.ref x0), some (.ref x1), some (.ref x2), some (.int x3)] [] h163)
            (isZ (nI 0) (some (some (.int (nI 0)), h163))))))))))
         (br (((hI h x0 (Int32.toNatClampNeg x3)) &&& (nI 63)) = (nI 42))
         (isC h x0 99 (inA h x0 (x3 + (nI 1)) (
          isC h x1 12 (rI (ev M_PT_later 0 0 [some (.ref x1), some (.int (hI h x0 (Int32.toNatClampNeg (x3 + (nI 1)))))] [] h) fun y166 h165 =>
          isC h165 x0 99 (inA h165 x0 (x3 + (nI 1)) (
          isC h165 x2 13 (rI (ev M_Mo_later 0 0 [some (.ref x2), some (.int (hI h165 x0 (Int32.toNatClampNeg (x3 + (nI 1)))))] [] h165) fun y168 h167 =>
          br (y166 = y168)
            (ev M_Law_law 0 1387 [some (.ref x0), some (.ref x1), some (.ref x2), some (.int x3)] [] h167)
            (isZ (nI 0) (some (some (.int (nI 0)), h167))))))))))
         (br (((hI h x0 (Int32.toNatClampNeg x3)) &&& (nI 63)) = (nI 43))
         (isC h x0 99 (inA h x0 (x3 + (nI 1)) (
          isC h x1 12 (rI (ev M_PT_fits 0 0 [some (.ref x1), some (.int (hI h x0 (Int32.toNatClampNeg (x3 + (nI 1)))))] [] h) fun y170 h169 =>
          isC h169 x0 99 (inA h169 x0 (x3 + (nI 1)) (
          isC h169 x2 13 (rI (ev M_Mo_fits 0 0 [some (.ref x2), some (.int (hI h169 x0 (Int32.toNatClampNeg (x3 + (nI 1))))), none, none] [] h169) fun y172 h171 =>
          br (y170 = y172)
            (ev M_Law_law 0 1387 [some (.ref x0), some (.ref x1), some (.ref x2), some (.int x3)] [] h171)
            (isZ (nI 0) (some (some (.int (nI 0)), h171))))))))))
         (br (((hI h x0 (Int32.toNatClampNeg x3)) &&& (nI 63)) = (nI 44))
         (isC h x0 99 (inA h x0 (x3 + (nI 1)) (
          isC h x0 99 (inA h x0 (x3 + (nI 2)) (
          isC h x1 12 (rI (ev M_PT_fit 0 0 [some (.ref x1), some (.int (hI h x0 (Int32.toNatClampNeg (x3 + (nI 1))))), some (.int (hI h x0 (Int32.toNatClampNeg (x3 + (nI 2)))))] [] h) fun y174 h173 =>
          isC h173 x0 99 (inA h173 x0 (x3 + (nI 1)) (
          isC h173 x0 99 (inA h173 x0 (x3 + (nI 2)) (
          isC h173 x2 13 (rI (ev M_Mo_fit 0 0 [some (.ref x2), some (.int (hI h173 x0 (Int32.toNatClampNeg (x3 + (nI 1))))), some (.int (hI h173 x0 (Int32.toNatClampNeg (x3 + (nI 2))))), none, none] [] h173) fun y176 h175 =>
          br (y174 = y176)
            (ev M_Law_law 0 1387 [some (.ref x0), some (.ref x1), some (.ref x2), some (.int x3)] [] h175)
            (isZ (nI 0) (some (some (.int (nI 0)), h175))))))))))))))
         (br (((hI h x0 (Int32.toNatClampNeg x3)) &&& (nI 63)) = (nI 45))
         (isC h x0 99 (inA h x0 (x3 + (nI 1)) (
          isC h x0 99 (inA h x0 (x3 + (nI 2)) (
          isC h x0 99 (inA h x0 (x3 + (nI 3)) (
          isC h x1 12 (rI (ev M_PT_ask 0 0 [some (.ref x1), some (.int (hI h x0 (Int32.toNatClampNeg (x3 + (nI 1))))), some (.int (hI h x0 (Int32.toNatClampNeg (x3 + (nI 2))))), some (.int (hI h x0 (Int32.toNatClampNeg (x3 + (nI 3)))))] [] h) fun y178 h177 =>
          isC h177 x0 99 (inA h177 x0 (x3 + (nI 1)) (
          isC h177 x0 99 (inA h177 x0 (x3 + (nI 2)) (
          isC h177 x0 99 (inA h177 x0 (x3 + (nI 3)) (
          isC h177 x2 13 (rI (ev M_Mo_ask 0 0 [some (.ref x2), some (.int (hI h177 x0 (Int32.toNatClampNeg (x3 + (nI 1))))), some (.int (hI h177 x0 (Int32.toNatClampNeg (x3 + (nI 2))))), some (.int (hI h177 x0 (Int32.toNatClampNeg (x3 + (nI 3))))), none, none, none, none, none] [] h177) fun y180 h179 =>
          br (y178 = y180)
            (ev M_Law_law 0 1387 [some (.ref x0), some (.ref x1), some (.ref x2), some (.int x3)] [] h179)
            (isZ (nI 0) (some (some (.int (nI 0)), h179))))))))))))))))))
         (br (((hI h x0 (Int32.toNatClampNeg x3)) &&& (nI 63)) = (nI 46))
         (isC h x0 99 (inA h x0 (x3 + (nI 1)) (
          isC h x1 12 (rI (ev M_PT_image 0 0 [some (.ref x1), some (.int (hI h x0 (Int32.toNatClampNeg (x3 + (nI 1)))))] [] h) fun y182 h181 =>
          isC h181 x0 99 (inA h181 x0 (x3 + (nI 1)) (
          isC h181 x2 13 (rI (ev M_Mo_image 0 0 [some (.ref x2), some (.int (hI h181 x0 (Int32.toNatClampNeg (x3 + (nI 1))))), none] [] h181) fun y184 h183 =>
          br (y182 = y184)
            (ev M_Law_law 0 1387 [some (.ref x0), some (.ref x1), some (.ref x2), some (.int x3)] [] h183)
            (isZ (nI 0) (some (some (.int (nI 0)), h183))))))))))
         (br (((hI h x0 (Int32.toNatClampNeg x3)) &&& (nI 63)) = (nI 47))
         (isC h x0 99 (inA h x0 (x3 + (nI 1)) (
          isC h x1 12 (rI (ev M_PT_back 0 0 [some (.ref x1), some (.int (hI h x0 (Int32.toNatClampNeg (x3 + (nI 1)))))] [] h) fun y186 h185 =>
          isC h185 x0 99 (inA h185 x0 (x3 + (nI 1)) (
          isC h185 x2 13 (rI (ev M_Mo_back 0 0 [some (.ref x2), some (.int (hI h185 x0 (Int32.toNatClampNeg (x3 + (nI 1))))), none] [] h185) fun y188 h187 =>
          br (y186 = y188)
            (ev M_Law_law 0 1387 [some (.ref x0), some (.ref x1), some (.ref x2), some (.int x3)] [] h187)
            (isZ (nI 0) (some (some (.int (nI 0)), h187))))))))))
         (br (((hI h x0 (Int32.toNatClampNeg x3)) &&& (nI 63)) = (nI 48))
         (isC h x0 99 (inA h x0 (x3 + (nI 1)) (
          isC h x1 12 (rI (ev M_PT_about 0 0 [some (.ref x1), some (.int (hI h x0 (Int32.toNatClampNeg (x3 + (nI 1)))))] [] h) fun y190 h189 =>
          isC h189 x0 99 (inA h189 x0 (x3 + (nI 1)) (
          isC h189 x2 13 (rI (ev M_Mo_about 0 0 [some (.ref x2), some (.int (hI h189 x0 (Int32.toNatClampNeg (x3 + (nI 1)))))] [] h189) fun y192 h191 =>
          br (y190 = y192)
            (ev M_Law_law 0 1387 [some (.ref x0), some (.ref x1), some (.ref x2), some (.int x3)] [] h191)
            (isZ (nI 0) (some (some (.int (nI 0)), h191))))))))))
         (ev M_Law_law 0 1387 [some (.ref x0), some (.ref x1), some (.ref x2), some (.int x3)] [] h))))))))))))))))))))))))))))))))))))))))))))))))))))) := (ev_eq _ _ _ _ _ _).trans rfl
set_option maxRecDepth 100000 in
set_option maxHeartbeats 4000000 in
theorem r_Law_law_1189 (x0 : Nat) (x1 : Nat) (x2 : Nat) (x3 : Int32) (s0 : Nat) (s1 : Int32) (s2 : Int32) (s3 : Int32) (s4 : Int32) (h : MH) : ev M_Law_law 0 1189 [some (.ref x0), some (.ref x1), some (.ref x2), some (.int x3)] [(.int s4), (.int s3), (.int s2), (.int s1), (.ref s0)] h =
    isC h s0 12 (rI (ev M_PT_seen 0 0 [some (.ref s0), some (.int s1), some (.int s2), some (.int s3), some (.int s4)] [] h) fun y2 h1 =>
    isC h1 x0 99 (inA h1 x0 (x3 + (nI 1)) (
    isC h1 x0 99 (inA h1 x0 (x3 + (nI 2)) (
    isC h1 x0 99 (inA h1 x0 (x3 + (nI 3)) (
    isC h1 x0 99 (inA h1 x0 (x3 + (nI 4)) (
    br ((hI h1 x0 (Int32.toNatClampNeg (x3 + (nI 4)))) = (nI 0))
      (ev M_Law_law 0 1216 [some (.ref x0), some (.ref x1), some (.ref x2), some (.int x3)] [(.int (nI 0)), (.int (hI h1 x0 (Int32.toNatClampNeg (x3 + (nI 3))))), (.int (hI h1 x0 (Int32.toNatClampNeg (x3 + (nI 2))))), (.int (hI h1 x0 (Int32.toNatClampNeg (x3 + (nI 1))))), (.ref x2), (.int y2)] h1)
      (ev M_Law_law 0 1216 [some (.ref x0), some (.ref x1), some (.ref x2), some (.int x3)] [(.int (nI 1)), (.int (hI h1 x0 (Int32.toNatClampNeg (x3 + (nI 3))))), (.int (hI h1 x0 (Int32.toNatClampNeg (x3 + (nI 2))))), (.int (hI h1 x0 (Int32.toNatClampNeg (x3 + (nI 1))))), (.ref x2), (.int y2)] h1)))))))))) := (ev_eq _ _ _ _ _ _).trans rfl
set_option maxRecDepth 100000 in
set_option maxHeartbeats 4000000 in
theorem r_Law_law_1216 (x0 : Nat) (x1 : Nat) (x2 : Nat) (x3 : Int32) (s0 : Int32) (s1 : Nat) (s2 : Int32) (s3 : Int32) (s4 : Int32) (s5 : Int32) (h : MH) : ev M_Law_law 0 1216 [some (.ref x0), some (.ref x1), some (.ref x2), some (.int x3)] [(.int s5), (.int s4), (.int s3), (.int s2), (.ref s1), (.int s0)] h =
    isC h s1 13 (rI (ev M_Mo_seen 0 0 [some (.ref s1), some (.int s2), some (.int s3), some (.int s4), some (.int s5)] [] h) fun y2 h1 =>
    br (s0 = y2)
      (ev M_Law_law 0 1387 [some (.ref x0), some (.ref x1), some (.ref x2), some (.int x3)] [] h1)
      (isZ (nI 0) (some (some (.int (nI 0)), h1)))) := (ev_eq _ _ _ _ _ _).trans rfl
set_option maxRecDepth 100000 in
set_option maxHeartbeats 4000000 in
theorem r_Law_law_1387 (x0 : Nat) (x1 : Nat) (x2 : Nat) (x3 : Int32) (h : MH) : ev M_Law_law 0 1387 [some (.ref x0), some (.ref x1), some (.ref x2), some (.int x3)] [] h =
    ev M_Law_law 0 11 [some (.ref x0), some (.ref x1), some (.ref x2), some (.int (x3 + (nI 6)))] [] h := (ev_eq _ _ _ _ _ _).trans rfl
