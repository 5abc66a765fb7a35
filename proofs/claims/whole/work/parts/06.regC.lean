/-! What each stretch of the code does, by program (wip/whole/gen2.py). -/
theorem r_PT_init_0 (x0 : Nat) (h : MH) : ev M_PT_init 0 0 [some (.ref x0), none] [] h =
    okN (nI 1600) fun n2 =>
    let h1 := nw h 21 n2
    isC h1 x0 12 (
    let h3 := sR h1 x0 0 (hT h)
    let h4 := nw h3 5 11
    rV (ev M_Plan_init 0 0 [some (.ref (hT h3)), none] [] h4) fun h5 =>
    isC h5 x0 12 (
    let h6 := sR h5 x0 2 (hT h3)
    ev M_PT_init 0 12 [some (.ref x0), none] [] h6)) := (ev_eq _ _ _ _ _ _).trans rfl
theorem r_PT_init_12 (x0 : Nat) (h : MH) : ev M_PT_init 0 12 [some (.ref x0), none] [] h =
    let h1 := nw h 5 11
    rV (ev M_Plan_init 0 0 [some (.ref (hT h)), none] [] h1) fun h2 =>
    isC h2 x0 12 (
    let h3 := sR h2 x0 3 (hT h)
    let h4 := nw h3 6 6
    rV (ev M_Reader_init 0 0 [some (.ref (hT h3))] [] h4) fun h5 =>
    isC h5 x0 12 (
    let h6 := sR h5 x0 4 (hT h3)
    ev M_PT_init 0 23 [some (.ref x0), none] [] h6)) := (ev_eq _ _ _ _ _ _).trans rfl
theorem r_PT_init_23 (x0 : Nat) (h : MH) : ev M_PT_init 0 23 [some (.ref x0), none] [] h =
    let h1 := nw h 7 5
    rV (ev M_Relations_init 0 0 [some (.ref (hT h)), none] [] h1) fun h2 =>
    isC h2 x0 12 (
    let h3 := sR h2 x0 5 (hT h)
    let h4 := nw h3 4 7
    rV (ev M_History_init 0 0 [some (.ref (hT h3))] [] h4) fun h5 =>
    isC h5 x0 12 (
    let h6 := sR h5 x0 6 (hT h3)
    ev M_PT_init 0 34 [some (.ref x0), none] [] h6)) := (ev_eq _ _ _ _ _ _).trans rfl
theorem r_PT_init_34 (x0 : Nat) (h : MH) : ev M_PT_init 0 34 [some (.ref x0), none] [] h =
    okN (nI 3) fun n2 =>
    let h1 := nw h 25 n2
    isC h1 x0 12 (
    let h3 := sR h1 x0 7 (hT h)
    ev M_PT_init 0 41 [some (.ref x0), some (.int (nI 0))] [] h3) := (ev_eq _ _ _ _ _ _).trans rfl
theorem r_PT_init_41 (x0 : Nat) (x1 : Int32) (h : MH) : ev M_PT_init 0 41 [some (.ref x0), some (.int x1)] [] h =
    br (x1 < (nI 3))
      (isC h x0 12 (nnR (hR h x0 7) fun r1 =>
       let h2 := nw h 1 3
       rV (ev M_Box_init 0 0 [some (.ref (hT h)), none] [] h2) fun h3 =>
       isC h3 r1 25 (inA h3 r1 x1 (
       isC h3 (hT h) 1 (let h4 := sR h3 r1 (Int32.toNatClampNeg x1) (hT h)
       ev M_PT_init 0 52 [some (.ref x0), some (.int x1)] [] h4)))))
      (let h5 := nw h 9 16
       rV (ev M_Sightings_init 0 0 [some (.ref (hT h))] [] h5) fun h6 =>
       isC h6 x0 12 (
       let h7 := sR h6 x0 8 (hT h)
       let h8 := nw h7 11 6
       rV (ev M_Tree_init 0 0 [some (.ref (hT h7)), none] [] h8) fun h9 =>
       isC h9 x0 12 (
       let h10 := sR h9 x0 9 (hT h7)
       ev M_PT_init 0 65 [some (.ref x0), none] [] h10))) := (ev_eq _ _ _ _ _ _).trans rfl
theorem r_PT_init_52 (x0 : Nat) (x1 : Int32) (h : MH) : ev M_PT_init 0 52 [some (.ref x0), some (.int x1)] [] h =
    ev M_PT_init 0 41 [some (.ref x0), some (.int (x1 + (nI 1)))] [] h := (ev_eq _ _ _ _ _ _).trans rfl
theorem r_PT_init_65 (x0 : Nat) (h : MH) : ev M_PT_init 0 65 [some (.ref x0), none] [] h =
    let h1 := nw h 11 6
    rV (ev M_Tree_init 0 0 [some (.ref (hT h)), none] [] h1) fun h2 =>
    isC h2 x0 12 (
    let h3 := sR h2 x0 10 (hT h)
    let h4 := nw h3 3 2
    rV (ev M_Grid_init 0 0 [some (.ref (hT h3))] [] h4) fun h5 =>
    isC h5 x0 12 (
    let h6 := sR h5 x0 11 (hT h3)
    ev M_PT_init 0 76 [some (.ref x0), none] [] h6)) := (ev_eq _ _ _ _ _ _).trans rfl
theorem r_PT_init_76 (x0 : Nat) (h : MH) : ev M_PT_init 0 76 [some (.ref x0), none] [] h =
    let h1 := nw h 10 2
    rV (ev M_Steps_init 0 0 [some (.ref (hT h))] [] h1) fun h2 =>
    isC h2 x0 12 (
    let h3 := sR h2 x0 12 (hT h)
    okN (nI 16) fun n5 =>
    let h4 := nw h3 20 n5
    isC h4 x0 12 (
    let h6 := sR h4 x0 13 (hT h3)
    ev M_PT_init 0 86 [some (.ref x0), none] [] h6)) := (ev_eq _ _ _ _ _ _).trans rfl
theorem r_PT_init_86 (x0 : Nat) (h : MH) : ev M_PT_init 0 86 [some (.ref x0), none] [] h =
    isC h x0 12 (rV (ev M_PT_startAnew 0 0 [some (.ref x0), none] [] h) fun h1 =>
    some (none, h1)) := (ev_eq _ _ _ _ _ _).trans rfl
theorem r_PT_feed_0 (x0 : Nat) (x1 : Int32) (x2 : Int32) (x3 : Int32) (x4 : Int32) (x5 : Int32) (h : MH) : ev M_PT_feed 0 0 [some (.ref x0), some (.int x1), some (.int x2), some (.int x3), some (.int x4), some (.int x5)] [] h =
    isC h x0 12 (
    br ((nI 1600) < ((hI h x0 1) + (nI 20)))
      (some (some (.int (mI 1)), h))
      (isC h x0 12 (rV (ev M_PT_layBytes 0 0 [some (.ref x0), some (.int x1), none] [] h) fun h1 =>
       isC h1 x0 12 (rV (ev M_PT_layBytes 0 0 [some (.ref x0), some (.int x2), none] [] h1) fun h2 =>
       isC h2 x0 12 (rV (ev M_PT_layBytes 0 0 [some (.ref x0), some (.int x3), none] [] h2) fun h3 =>
       isC h3 x0 12 (rV (ev M_PT_layBytes 0 0 [some (.ref x0), some (.int x4), none] [] h3) fun h4 =>
       isC h4 x0 12 (rV (ev M_PT_layBytes 0 0 [some (.ref x0), some (.int x5), none] [] h4) fun h5 =>
       isC h5 x0 12 (
       some (some (.int (hI h5 x0 1)), h5))))))))) := (ev_eq _ _ _ _ _ _).trans rfl
theorem r_PT_layBytes_0 (x0 : Nat) (x1 : Int32) (h : MH) : ev M_PT_layBytes 0 0 [some (.ref x0), some (.int x1), none] [] h =
    ev M_PT_layBytes 0 3 [some (.ref x0), some (.int x1), some (.int (nI 24))] [] h := (ev_eq _ _ _ _ _ _).trans rfl
theorem r_PT_layBytes_3 (x0 : Nat) (x1 : Int32) (x2 : Int32) (h : MH) : ev M_PT_layBytes 0 3 [some (.ref x0), some (.int x1), some (.int x2)] [] h =
    br (x2 < (nI 0))
      (some (none, h))
      (isC h x0 12 (
       br ((hI h x0 1) < (nI 1600))
         (isC h x0 12 (nnR (hR h x0 0) fun r1 =>
          isC h x0 12 (
          isC h r1 21 (inA h r1 (hI h x0 1) (
          let h2 := sI h r1 (Int32.toNatClampNeg (hI h x0 1)) (Int8.toInt32 (Int32.toInt8 (Int8.toInt32 (Int32.toInt8 (x1 >>> (x2 &&& 31))))))
          isC h2 x0 12 (
          isC h2 x0 12 (
          let h3 := sI h2 x0 1 ((hI h2 x0 1) + (nI 1))
          ev M_PT_layBytes 0 3 [some (.ref x0), some (.int x1), some (.int (x2 + (mI 8)))] [] h3)))))))
         (some (none, h)))) := (ev_eq _ _ _ _ _ _).trans rfl
theorem r_PT_end_0 (x0 : Nat) (x1 : Int32) (h : MH) : ev M_PT_end 0 0 [some (.ref x0), some (.int x1)] [] h =
    br (x1 < (nI 0))
      (some (some (.int (mI 1)), h))
      (isC h x0 12 (
       br ((hI h x0 1) < x1)
         (some (some (.int (mI 1)), h))
         (isC h x0 12 (
          let h1 := sI h x0 1 x1
          some (some (.int x1), h1))))) := (ev_eq _ _ _ _ _ _).trans rfl
theorem r_PT_store_0 (x0 : Nat) (h : MH) : ev M_PT_store 0 0 [some (.ref x0), none, none] [] h =
    isC h x0 12 (nnR (hR h x0 4) fun r1 =>
    isC h x0 12 (nnR (hR h x0 0) fun r2 =>
    isC h x0 12 (
    isC h x0 12 (nnR (hR h x0 3) fun r3 =>
    isC h r1 6 (rI (ev M_Reader_read 0 0 [some (.ref r1), some (.ref r2), some (.int (hI h x0 1)), some (.ref r3), none] [] h) fun y5 h4 =>
    isC h4 x0 12 (
    let h6 := sI h4 x0 1 (nI 0)
    br (y5 = (nI 0))
      (some (some (.int (mI 1)), h6))
      (isC h6 x0 12 (nnR (hR h6 x0 2) fun r7 =>
       isC h6 x0 12 (nnR (hR h6 x0 3) fun r8 =>
       isC h6 x0 12 (
       let h9 := sR h6 x0 2 r8
       isC h9 x0 12 (
       let h10 := sR h9 x0 3 r7
       isC h10 x0 12 (rV (ev M_PT_startAnew 0 0 [some (.ref x0), none] [] h10) fun h11 =>
       isC h11 x0 12 (nnR (hR h11 x0 2) fun r12 =>
       isC h11 r12 5 (
       some (some (.int (hI h11 r12 1)), h11))))))))))))))) := (ev_eq _ _ _ _ _ _).trans rfl
theorem r_PT_startAnew_0 (x0 : Nat) (h : MH) : ev M_PT_startAnew 0 0 [some (.ref x0), none] [] h =
    isC h x0 12 (nnR (hR h x0 5) fun r1 =>
    isC h x0 12 (nnR (hR h x0 2) fun r2 =>
    isC h r1 7 (rV (ev M_Relations_begin 0 0 [some (.ref r1), some (.ref r2), none] [] h) fun h3 =>
    isC h3 x0 12 (nnR (hR h3 x0 6) fun r4 =>
    isC h3 r4 4 (rV (ev M_History_forget 0 0 [some (.ref r4)] [] h3) fun h5 =>
    ev M_PT_startAnew 0 11 [some (.ref x0), some (.int (nI 0))] [] h5))))) := (ev_eq _ _ _ _ _ _).trans rfl
theorem r_PT_startAnew_11 (x0 : Nat) (x1 : Int32) (h : MH) : ev M_PT_startAnew 0 11 [some (.ref x0), some (.int x1)] [] h =
    br (x1 < (nI 3))
      (isC h x0 12 (nnR (hR h x0 7) fun r1 =>
       isC h r1 25 (inA h r1 x1 (nnR (hR h r1 (Int32.toNatClampNeg x1)) fun r2 =>
       isC h r2 1 (
       isZ (nI 0) (let h3 := sI h r2 0 (nI 0)
       ev M_PT_startAnew 0 11 [some (.ref x0), some (.int (x1 + (nI 1)))] [] h3))))))
      (isC h x0 12 (nnR (hR h x0 8) fun r4 =>
       isC h x0 12 (nnR (hR h x0 2) fun r5 =>
       isC h x0 12 (nnR (hR h x0 5) fun r6 =>
       isC h r6 7 (nnR (hR h r6 0) fun r7 =>
       isC h r7 24 (inA h r7 (nI 0) (nnR (hR h r7 (Int32.toNatClampNeg (nI 0))) fun r8 =>
       isC h r4 9 (rV (ev M_Sightings_begin 0 0 [some (.ref r4), some (.ref r5), some (.ref r8)] [] h) fun h9 =>
       isC h9 x0 12 (
       let h10 := sI h9 x0 14 (nI 0)
       some (none, h10)))))))))) := (ev_eq _ _ _ _ _ _).trans rfl
theorem r_PT_fault_0 (x0 : Nat) (x1 : Int32) (h : MH) : ev M_PT_fault 0 0 [some (.ref x0), some (.int x1)] [] h =
    br (x1 = (nI 0))
      (isC h x0 12 (nnR (hR h x0 4) fun r1 =>
       isC h r1 6 (
       some (some (.int (hI h r1 0)), h))))
      (br (x1 = (nI 1))
      (isC h x0 12 (nnR (hR h x0 4) fun r2 =>
       isC h r2 6 (
       some (some (.int (hI h r2 1)), h))))
      (some (some (.int (mI 1)), h))) := (ev_eq _ _ _ _ _ _).trans rfl
theorem r_PT_isRelation_0 (x0 : Nat) (x1 : Int32) (h : MH) : ev M_PT_isRelation 0 0 [some (.ref x0), some (.int x1)] [] h =
    br (x1 < (nI 0))
      (isZ (nI 0) (some (some (.int (nI 0)), h)))
      (isC h x0 12 (nnR (hR h x0 2) fun r1 =>
       isC h r1 5 (
       br (x1 < (hI h r1 1))
         (isZ (nI 1) (some (some (.int (nI 1)), h)))
         (isZ (nI 0) (some (some (.int (nI 0)), h)))))) := (ev_eq _ _ _ _ _ _).trans rfl
theorem r_PT_areRelations_0 (x0 : Nat) (x1 : Int32) (x2 : Int32) (h : MH) : ev M_PT_areRelations 0 0 [some (.ref x0), some (.int x1), some (.int x2)] [] h =
    isC h x0 12 (rI (ev M_PT_isRelation 0 0 [some (.ref x0), some (.int x1)] [] h) fun y2 h1 =>
    br (y2 = (nI 0))
      (isZ (nI 0) (some (some (.int (nI 0)), h1)))
      (isC h1 x0 12 (rI (ev M_PT_isRelation 0 0 [some (.ref x0), some (.int x2)] [] h1) fun y4 h3 =>
       br (y4 = (nI 0))
         (isZ (nI 0) (some (some (.int (nI 0)), h3)))
         (isZ (nI 1) (some (some (.int (nI 1)), h3)))))) := (ev_eq _ _ _ _ _ _).trans rfl
theorem r_PT_isToldOne_0 (x0 : Nat) (x1 : Int32) (h : MH) : ev M_PT_isToldOne 0 0 [some (.ref x0), some (.int x1)] [] h =
    isC h x0 12 (rI (ev M_PT_isRelation 0 0 [some (.ref x0), some (.int x1)] [] h) fun y2 h1 =>
    br (y2 = (nI 0))
      (isZ (nI 0) (some (some (.int (nI 0)), h1)))
      (isC h1 x0 12 (nnR (hR h1 x0 2) fun r3 =>
       isC h1 r3 5 (rI (ev M_Plan_isTold 0 0 [some (.ref r3), some (.int x1)] [] h1) fun y5 h4 =>
       br (y5 = (nI 0))
         (isZ (nI 0) (some (some (.int (nI 0)), h4)))
         (isZ (nI 1) (some (some (.int (nI 1)), h4))))))) := (ev_eq _ _ _ _ _ _).trans rfl
theorem r_PT_isNode_0 (x0 : Nat) (x1 : Int32) (h : MH) : ev M_PT_isNode 0 0 [some (.ref x0), some (.int x1)] [] h =
    br (x1 < (nI 0))
      (isZ (nI 0) (some (some (.int (nI 0)), h)))
      (isC h x0 12 (nnR (hR h x0 2) fun r1 =>
       isC h r1 5 (rI (ev M_Plan_size 0 0 [some (.ref r1)] [] h) fun y3 h2 =>
       br (x1 < y3)
         (isZ (nI 1) (some (some (.int (nI 1)), h2)))
         (isZ (nI 0) (some (some (.int (nI 0)), h2)))))) := (ev_eq _ _ _ _ _ _).trans rfl
theorem r_PT_isLevel_0 (x0 : Nat) (x1 : Int32) (h : MH) : ev M_PT_isLevel 0 0 [some (.ref x0), some (.int x1)] [] h =
    br (x1 < (nI 0))
      (isZ (nI 0) (some (some (.int (nI 0)), h)))
      (isC h x0 12 (nnR (hR h x0 2) fun r1 =>
       isC h r1 5 (
       br ((hI h r1 0) < x1)
         (isZ (nI 0) (some (some (.int (nI 0)), h)))
         (isZ (nI 1) (some (some (.int (nI 1)), h)))))) := (ev_eq _ _ _ _ _ _).trans rfl
set_option maxRecDepth 100000 in
set_option maxHeartbeats 4000000 in
theorem r_PT_isRectangle_0 (x0 : Nat) (x1 : Int32) (x2 : Int32) (x3 : Int32) (x4 : Int32) (h : MH) : ev M_PT_isRectangle 0 0 [some (.ref x0), some (.int x1), some (.int x2), some (.int x3), some (.int x4)] [] h =
    isC h x0 12 (rI (ev M_PT_isNode 0 0 [some (.ref x0), some (.int x1)] [] h) fun y2 h1 =>
    br (y2 = (nI 0))
      (isZ (nI 0) (some (some (.int (nI 0)), h1)))
      (isC h1 x0 12 (rI (ev M_PT_isNode 0 0 [some (.ref x0), some (.int x2)] [] h1) fun y4 h3 =>
       br (y4 = (nI 0))
         (isZ (nI 0) (some (some (.int (nI 0)), h3)))
         (isC h3 x0 12 (rI (ev M_PT_isNode 0 0 [some (.ref x0), some (.int x3)] [] h3) fun y6 h5 =>
          br (y6 = (nI 0))
            (isZ (nI 0) (some (some (.int (nI 0)), h5)))
            (isC h5 x0 12 (rI (ev M_PT_isNode 0 0 [some (.ref x0), some (.int x4)] [] h5) fun y8 h7 =>
             br (y8 = (nI 0))
               (isZ (nI 0) (some (some (.int (nI 0)), h7)))
               (br (x2 < x1)
                  (isZ (nI 0) (some (some (.int (nI 0)), h7)))
                  (br (x4 < x3)
                     (isZ (nI 0) (some (some (.int (nI 0)), h7)))
                     (isZ (nI 1) (some (some (.int (nI 1)), h7)))))))))))) := (ev_eq _ _ _ _ _ _).trans rfl
set_option maxRecDepth 100000 in
set_option maxHeartbeats 4000000 in
theorem r_PT_relation_0 (x0 : Nat) (x1 : Int32) (x2 : Int32) (h : MH) : ev M_PT_relation 0 0 [some (.ref x0), some (.int x1), some (.int x2), none] [] h =
    isC h x0 12 (rI (ev M_PT_isRelation 0 0 [some (.ref x0), some (.int x1)] [] h) fun y2 h1 =>
    br (y2 = (nI 0))
      (some (some (.int (mI 1)), h1))
      (isC h1 x0 12 (nnR (hR h1 x0 5) fun r3 =>
       isC h1 r3 7 (nnR (hR h1 r3 0) fun r4 =>
       isC h1 r4 24 (inA h1 r4 x1 (nnR (hR h1 r4 (Int32.toNatClampNeg x1)) fun r5 =>
       br (x2 = (nI 0))
         (isC h1 x0 12 (nnR (hR h1 x0 2) fun r6 =>
          isC h1 r6 5 (rI (ev M_Plan_isTold 0 0 [some (.ref r6), some (.int x1)] [] h1) fun y8 h7 =>
          br (y8 = (nI 0))
            (some (some (.int (nI 0)), h7))
            (some (some (.int (nI 1)), h7)))))
         (br (x2 = (nI 1))
         (isC h1 r5 3 (rI (ev M_Grid_count 0 0 [some (.ref r5), none, none] [] h1) fun y10 h9 =>
          some (some (.int y10), h9)))
         (br (x2 = (nI 2))
         (isC h1 x0 12 (rI (ev M_PT_bitsOf 0 0 [some (.ref x0), some (.ref r5)] [] h1) fun y12 h11 =>
          some (some (.int y12), h11)))
         (br (x2 = (nI 3))
         (isC h1 x0 12 (nnR (hR h1 x0 2) fun r13 =>
          isC h1 r13 5 (rI (ev M_Plan_size 0 0 [some (.ref r13)] [] h1) fun y15 h14 =>
          isC h14 x0 12 (nnR (hR h14 x0 2) fun r16 =>
          isC h14 r16 5 (rI (ev M_Plan_size 0 0 [some (.ref r16)] [] h14) fun y18 h17 =>
          isC h17 x0 12 (rI (ev M_PT_bitsOf 0 0 [some (.ref x0), some (.ref r5)] [] h17) fun y20 h19 =>
          some (some (.int ((y15 * y18) - y20)), h19)))))))
         (br (x2 = (nI 4))
         (isC h1 x0 12 (nnR (hR h1 x0 11) fun r21 =>
          isC h1 x0 12 (rV (ev M_PT_siftInto 0 0 [some (.ref x0), some (.ref r21), some (.ref r5), none, none, none] [] h1) fun h22 =>
          isC h22 x0 12 (nnR (hR h22 x0 11) fun r23 =>
          isC h22 r23 3 (rI (ev M_Grid_count 0 0 [some (.ref r23), none, none] [] h22) fun y25 h24 =>
          some (some (.int y25), h24))))))
         (some (some (.int (mI 1)), h1)))))))))))) := (ev_eq _ _ _ _ _ _).trans rfl
theorem r_PT_bitsOf_0 (x0 : Nat) (x1 : Nat) (h : MH) : ev M_PT_bitsOf 0 0 [some (.ref x0), some (.ref x1)] [] h =
    isC h x0 12 (nnR (hR h x0 9) fun r1 =>
    isC h x0 12 (nnR (hR h x0 2) fun r2 =>
    isC h r2 5 (
    isC h r1 11 (rV (ev M_Tree_grow 0 0 [some (.ref r1), some (.ref x1), some (.int (hI h r2 0)), none] [] h) fun h3 =>
    isC h3 x0 12 (nnR (hR h3 x0 9) fun r4 =>
    isC h3 r4 11 (rI (ev M_Tree_countBits 0 0 [some (.ref r4), none, none] [] h3) fun y6 h5 =>
    some (some (.int y6), h5))))))) := (ev_eq _ _ _ _ _ _).trans rfl
theorem r_PT_has_0 (x0 : Nat) (x1 : Int32) (x2 : Int32) (x3 : Int32) (h : MH) : ev M_PT_has 0 0 [some (.ref x0), some (.int x1), some (.int x2), some (.int x3)] [] h =
    isC h x0 12 (rI (ev M_PT_isRelation 0 0 [some (.ref x0), some (.int x1)] [] h) fun y2 h1 =>
    br (y2 = (nI 0))
      (some (some (.int (mI 1)), h1))
      (isC h1 x0 12 (rI (ev M_PT_isNode 0 0 [some (.ref x0), some (.int x2)] [] h1) fun y4 h3 =>
       br (y4 = (nI 0))
         (some (some (.int (mI 1)), h3))
         (isC h3 x0 12 (rI (ev M_PT_isNode 0 0 [some (.ref x0), some (.int x3)] [] h3) fun y6 h5 =>
          br (y6 = (nI 0))
            (some (some (.int (mI 1)), h5))
            (isC h5 x0 12 (nnR (hR h5 x0 5) fun r7 =>
             isC h5 r7 7 (nnR (hR h5 r7 0) fun r8 =>
             isC h5 r8 24 (inA h5 r8 x1 (nnR (hR h5 r8 (Int32.toNatClampNeg x1)) fun r9 =>
             isC h5 r9 3 (rI (ev M_Grid_holds 0 0 [some (.ref r9), some (.int x2), some (.int x3)] [] h5) fun y11 h10 =>
             br (y11 = (nI 0))
               (some (some (.int (nI 0)), h10))
               (some (some (.int (nI 1)), h10))))))))))))) := (ev_eq _ _ _ _ _ _).trans rfl
theorem r_PT_put_0 (x0 : Nat) (x1 : Int32) (x2 : Int32) (x3 : Int32) (h : MH) : ev M_PT_put 0 0 [some (.ref x0), some (.int x1), some (.int x2), some (.int x3)] [] h =
    isC h x0 12 (rI (ev M_PT_turnPair 0 0 [some (.ref x0), some (.int x1), some (.int x2), some (.int x3), some (.int (nI 0))] [] h) fun y2 h1 =>
    some (some (.int y2), h1)) := (ev_eq _ _ _ _ _ _).trans rfl
theorem r_PT_take_0 (x0 : Nat) (x1 : Int32) (x2 : Int32) (x3 : Int32) (h : MH) : ev M_PT_take 0 0 [some (.ref x0), some (.int x1), some (.int x2), some (.int x3)] [] h =
    isC h x0 12 (rI (ev M_PT_turnPair 0 0 [some (.ref x0), some (.int x1), some (.int x2), some (.int x3), some (.int (nI 1))] [] h) fun y2 h1 =>
    some (some (.int y2), h1)) := (ev_eq _ _ _ _ _ _).trans rfl
set_option maxRecDepth 100000 in
set_option maxHeartbeats 4000000 in
theorem r_PT_turnPair_0 (x0 : Nat) (x1 : Int32) (x2 : Int32) (x3 : Int32) (x4 : Int32) (h : MH) : ev M_PT_turnPair 0 0 [some (.ref x0), some (.int x1), some (.int x2), some (.int x3), some (.int x4)] [] h =
    isC h x0 12 (rI (ev M_PT_isToldOne 0 0 [some (.ref x0), some (.int x1)] [] h) fun y2 h1 =>
    br (y2 = (nI 0))
      (some (some (.int (mI 1)), h1))
      (isC h1 x0 12 (rI (ev M_PT_has 0 0 [some (.ref x0), some (.int x1), some (.int x2), some (.int x3)] [] h1) fun y4 h3 =>
       br (y4 = x4)
         (isC h3 x0 12 (nnR (hR h3 x0 11) fun r5 =>
          isC h3 x0 12 (nnR (hR h3 x0 5) fun r6 =>
          isC h3 r6 7 (nnR (hR h3 r6 0) fun r7 =>
          isC h3 r7 24 (inA h3 r7 x1 (nnR (hR h3 r7 (Int32.toNatClampNeg x1)) fun r8 =>
          isC h3 r5 3 (rV (ev M_Grid_copyFrom 0 0 [some (.ref r5), some (.ref r8)] [] h3) fun h9 =>
          isC h9 x0 12 (nnR (hR h9 x0 11) fun r10 =>
          isC h9 r10 3 (rV (ev M_Grid_turn 0 0 [some (.ref r10), some (.int x2), some (.int x3)] [] h9) fun h11 =>
          isC h11 x0 12 (nnR (hR h11 x0 11) fun r12 =>
          isC h11 x0 12 (nnR (hR h11 x0 5) fun r13 =>
          isC h11 r13 7 (
          isC h11 x0 12 (rV (ev M_PT_perform 0 0 [some (.ref x0), some (.int x1), some (.ref r12), some (.int (hI h11 r13 1))] [] h11) fun h14 =>
          isC h14 x0 12 (nnR (hR h14 x0 5) fun r15 =>
          isC h14 r15 7 (nnR (hR h14 r15 0) fun r16 =>
          isC h14 r16 24 (inA h14 r16 x1 (nnR (hR h14 r16 (Int32.toNatClampNeg x1)) fun r17 =>
          isC h14 r17 3 (rI (ev M_Grid_count 0 0 [some (.ref r17), none, none] [] h14) fun y19 h18 =>
          some (some (.int y19), h18)))))))))))))))))))
         (some (some (.int (mI 1)), h3))))) := (ev_eq _ _ _ _ _ _).trans rfl
theorem r_PT_become_0 (x0 : Nat) (x1 : Int32) (x2 : Int32) (x3 : Int32) (x4 : Int32) (h : MH) : ev M_PT_become 0 0 [some (.ref x0), some (.int x1), some (.int x2), some (.int x3), some (.int x4)] [] h =
    isC h x0 12 (rI (ev M_PT_isToldOne 0 0 [some (.ref x0), some (.int x1)] [] h) fun y2 h1 =>
    br (y2 = (nI 0))
      (some (some (.int (mI 1)), h1))
      (isC h1 x0 12 (rI (ev M_PT_makeOfTwo 0 0 [some (.ref x0), some (.int x2), some (.int x3), some (.int x4)] [] h1) fun y4 h3 =>
       br (y4 = (nI 0))
         (some (some (.int (mI 1)), h3))
         (isC h3 x0 12 (nnR (hR h3 x0 11) fun r5 =>
          isC h3 x0 12 (nnR (hR h3 x0 5) fun r6 =>
          isC h3 r6 7 (
          isC h3 x0 12 (rV (ev M_PT_perform 0 0 [some (.ref x0), some (.int x1), some (.ref r5), some (.int (hI h3 r6 1))] [] h3) fun h7 =>
          isC h7 x0 12 (nnR (hR h7 x0 5) fun r8 =>
          isC h7 r8 7 (nnR (hR h7 r8 0) fun r9 =>
          isC h7 r9 24 (inA h7 r9 x1 (nnR (hR h7 r9 (Int32.toNatClampNeg x1)) fun r10 =>
          isC h7 r10 3 (rI (ev M_Grid_count 0 0 [some (.ref r10), none, none] [] h7) fun y12 h11 =>
          some (some (.int y12), h11)))))))))))))) := (ev_eq _ _ _ _ _ _).trans rfl
set_option maxRecDepth 100000 in
set_option maxHeartbeats 4000000 in
theorem r_PT_makeOfTwo_0 (x0 : Nat) (x1 : Int32) (x2 : Int32) (x3 : Int32) (h : MH) : ev M_PT_makeOfTwo 0 0 [some (.ref x0), some (.int x1), some (.int x2), some (.int x3)] [] h =
    br (x1 < (nI 0))
      (isZ (nI 0) (some (some (.int (nI 0)), h)))
      (br ((nI 4) < x1)
         (isZ (nI 0) (some (some (.int (nI 0)), h)))
         (isC h x0 12 (rI (ev M_PT_areRelations 0 0 [some (.ref x0), some (.int x2), some (.int x3)] [] h) fun y2 h1 =>
          br (y2 = (nI 0))
            (isZ (nI 0) (some (some (.int (nI 0)), h1)))
            (isC h1 x0 12 (nnR (hR h1 x0 11) fun r3 =>
             isC h1 x0 12 (nnR (hR h1 x0 5) fun r4 =>
             isC h1 r4 7 (nnR (hR h1 r4 0) fun r5 =>
             isC h1 r5 24 (inA h1 r5 x2 (nnR (hR h1 r5 (Int32.toNatClampNeg x2)) fun r6 =>
             isC h1 x0 12 (nnR (hR h1 x0 5) fun r7 =>
             isC h1 r7 7 (nnR (hR h1 r7 0) fun r8 =>
             isC h1 r8 24 (inA h1 r8 x3 (nnR (hR h1 r8 (Int32.toNatClampNeg x3)) fun r9 =>
             isC h1 r3 3 (rV (ev M_Grid_join 0 0 [some (.ref r3), some (.int x1), some (.ref r6), some (.ref r9), none, none] [] h1) fun h10 =>
             isZ (nI 1) (some (some (.int (nI 1)), h10)))))))))))))))) := (ev_eq _ _ _ _ _ _).trans rfl
set_option maxRecDepth 100000 in
set_option maxHeartbeats 4000000 in
theorem r_PT_sift_0 (x0 : Nat) (x1 : Int32) (h : MH) : ev M_PT_sift 0 0 [some (.ref x0), some (.int x1), none] [] h =
    isC h x0 12 (rI (ev M_PT_isToldOne 0 0 [some (.ref x0), some (.int x1)] [] h) fun y2 h1 =>
    br (y2 = (nI 0))
      (some (some (.int (mI 1)), h1))
      (isC h1 x0 12 (nnR (hR h1 x0 5) fun r3 =>
       isC h1 r3 7 (nnR (hR h1 r3 0) fun r4 =>
       isC h1 r4 24 (inA h1 r4 x1 (nnR (hR h1 r4 (Int32.toNatClampNeg x1)) fun r5 =>
       isC h1 r5 3 (rI (ev M_Grid_count 0 0 [some (.ref r5), none, none] [] h1) fun y7 h6 =>
       isC h6 x0 12 (nnR (hR h6 x0 11) fun r8 =>
       isC h6 x0 12 (nnR (hR h6 x0 5) fun r9 =>
       isC h6 r9 7 (nnR (hR h6 r9 0) fun r10 =>
       isC h6 r10 24 (inA h6 r10 x1 (nnR (hR h6 r10 (Int32.toNatClampNeg x1)) fun r11 =>
       isC h6 x0 12 (rV (ev M_PT_siftInto 0 0 [some (.ref x0), some (.ref r8), some (.ref r11), none, none, none] [] h6) fun h12 =>
       isC h12 x0 12 (nnR (hR h12 x0 11) fun r13 =>
       isC h12 x0 12 (nnR (hR h12 x0 5) fun r14 =>
       isC h12 r14 7 (
       isC h12 x0 12 (rV (ev M_PT_perform 0 0 [some (.ref x0), some (.int x1), some (.ref r13), some (.int (hI h12 r14 1))] [] h12) fun h15 =>
       isC h15 x0 12 (nnR (hR h15 x0 5) fun r16 =>
       isC h15 r16 7 (nnR (hR h15 r16 0) fun r17 =>
       isC h15 r17 24 (inA h15 r17 x1 (nnR (hR h15 r17 (Int32.toNatClampNeg x1)) fun r18 =>
       isC h15 r18 3 (rI (ev M_Grid_count 0 0 [some (.ref r18), none, none] [] h15) fun y20 h19 =>
       some (some (.int (y7 - y20)), h19))))))))))))))))))))))) := (ev_eq _ _ _ _ _ _).trans rfl
theorem r_PT_siftInto_0 (x0 : Nat) (x1 : Nat) (x2 : Nat) (h : MH) : ev M_PT_siftInto 0 0 [some (.ref x0), some (.ref x1), some (.ref x2), none, none, none] [] h =
    isC h x2 3 (rI (ev M_Grid_count 0 0 [some (.ref x2), none, none] [] h) fun y2 h1 =>
    isC h1 x1 3 (rV (ev M_Grid_copyFrom 0 0 [some (.ref x1), some (.ref x2)] [] h1) fun h3 =>
    ev M_PT_siftInto 0 9 [some (.ref x0), some (.ref x1), some (.ref x2), some (.int y2), some (.int (nI 0)), none] [] h3)) := (ev_eq _ _ _ _ _ _).trans rfl
theorem r_PT_siftInto_9 (x0 : Nat) (x1 : Nat) (x2 : Nat) (x3 : Int32) (x4 : Int32) (h : MH) : ev M_PT_siftInto 0 9 [some (.ref x0), some (.ref x1), some (.ref x2), some (.int x3), some (.int x4), none] [] h =
    isC h x2 3 (
    br (x4 < (hI h x2 1))
      (ev M_PT_siftInto 0 16 [some (.ref x0), some (.ref x1), some (.ref x2), some (.int x3), some (.int x4), some (.int (nI 0))] [] h)
      (some (none, h))) := (ev_eq _ _ _ _ _ _).trans rfl
set_option maxRecDepth 100000 in
set_option maxHeartbeats 4000000 in
theorem r_PT_siftInto_16 (x0 : Nat) (x1 : Nat) (x2 : Nat) (x3 : Int32) (x4 : Int32) (x5 : Int32) (h : MH) : ev M_PT_siftInto 0 16 [some (.ref x0), some (.ref x1), some (.ref x2), some (.int x3), some (.int x4), some (.int x5)] [] h =
    isC h x2 3 (
    br (x5 < (hI h x2 1))
      (isC h x2 3 (rI (ev M_Grid_holds 0 0 [some (.ref x2), some (.int x4), some (.int x5)] [] h) fun y2 h1 =>
       br (y2 = (nI 0))
         (ev M_PT_siftInto 0 38 [some (.ref x0), some (.ref x1), some (.ref x2), some (.int x3), some (.int x4), some (.int x5)] [] h1)
         (isC h1 x0 12 (nnR (hR h1 x0 2) fun r3 =>
          isC h1 r3 5 (nnR (hR h1 r3 6) fun r4 =>
          isC h1 r4 2 (rI (ev M_Formula_work 0 0 [some (.ref r4), some (.int x4), some (.int x5), some (.int x3), none, none, none] [] h1) fun y6 h5 =>
          br (y6 = (nI 0))
            (isC h5 x1 3 (rV (ev M_Grid_turn 0 0 [some (.ref x1), some (.int x4), some (.int x5)] [] h5) fun h7 =>
             ev M_PT_siftInto 0 38 [some (.ref x0), some (.ref x1), some (.ref x2), some (.int x3), some (.int x4), some (.int x5)] [] h7))
            (ev M_PT_siftInto 0 38 [some (.ref x0), some (.ref x1), some (.ref x2), some (.int x3), some (.int x4), some (.int x5)] [] h5)))))))
      (ev M_PT_siftInto 0 9 [some (.ref x0), some (.ref x1), some (.ref x2), some (.int x3), some (.int (x4 + (nI 1))), none] [] h)) := (ev_eq _ _ _ _ _ _).trans rfl
theorem r_PT_siftInto_38 (x0 : Nat) (x1 : Nat) (x2 : Nat) (x3 : Int32) (x4 : Int32) (x5 : Int32) (h : MH) : ev M_PT_siftInto 0 38 [some (.ref x0), some (.ref x1), some (.ref x2), some (.int x3), some (.int x4), some (.int x5)] [] h =
    ev M_PT_siftInto 0 16 [some (.ref x0), some (.ref x1), some (.ref x2), some (.int x3), some (.int x4), some (.int (x5 + (nI 1)))] [] h := (ev_eq _ _ _ _ _ _).trans rfl
set_option maxRecDepth 100000 in
set_option maxHeartbeats 4000000 in
theorem r_PT_drift_0 (x0 : Nat) (h : MH) : ev M_PT_drift 0 0 [some (.ref x0), none, none] [] h =
    isC h x0 12 (nnR (hR h x0 5) fun r1 =>
    isC h r1 7 (
    nz (nI 1000) (
    isC h x0 12 (rI (ev M_PT_driftsTo 0 0 [some (.ref x0), some (.int ((((hI h r1 1) * (nI 137)) + (nI 71)) - (((hI h r1 1) * (nI 137)) + (nI 71)) / (nI 1000) * (nI 1000))), none] [] h) fun y3 h2 =>
    br (y3 = (mI 1))
      (ev M_PT_drift 0 41 [some (.ref x0), some (.int ((((hI h r1 1) * (nI 137)) + (nI 71)) - (((hI h r1 1) * (nI 137)) + (nI 71)) / (nI 1000) * (nI 1000))), some (.int y3)] [] h2)
      (isC h2 x0 12 (nnR (hR h2 x0 11) fun r4 =>
       isC h2 x0 12 (nnR (hR h2 x0 5) fun r5 =>
       isC h2 r5 7 (nnR (hR h2 r5 0) fun r6 =>
       isC h2 r6 24 (inA h2 r6 y3 (nnR (hR h2 r6 (Int32.toNatClampNeg y3)) fun r7 =>
       isC h2 r4 3 (rV (ev M_Grid_copyFrom 0 0 [some (.ref r4), some (.ref r7)] [] h2) fun h8 =>
       isC h8 x0 12 (nnR (hR h8 x0 11) fun r9 =>
       nz (nI 16) (
       isC h8 x0 12 (nnR (hR h8 x0 2) fun r10 =>
       isC h8 r10 5 (rI (ev M_Plan_size 0 0 [some (.ref r10)] [] h8) fun y12 h11 =>
       nz y12 (
       isC h11 x0 12 (nnR (hR h11 x0 2) fun r13 =>
       isC h11 r13 5 (rI (ev M_Plan_size 0 0 [some (.ref r13)] [] h11) fun y15 h14 =>
       nz y15 (
       isC h14 r9 3 (rV (ev M_Grid_turn 0 0 [some (.ref r9), some (.int ((((((hI h r1 1) * (nI 137)) + (nI 71)) - (((hI h r1 1) * (nI 137)) + (nI 71)) / (nI 1000) * (nI 1000)) / (nI 16)) - (((((hI h r1 1) * (nI 137)) + (nI 71)) - (((hI h r1 1) * (nI 137)) + (nI 71)) / (nI 1000) * (nI 1000)) / (nI 16)) / y12 * y12)), some (.int (((((hI h r1 1) * (nI 137)) + (nI 71)) - (((hI h r1 1) * (nI 137)) + (nI 71)) / (nI 1000) * (nI 1000)) - ((((hI h r1 1) * (nI 137)) + (nI 71)) - (((hI h r1 1) * (nI 137)) + (nI 71)) / (nI 1000) * (nI 1000)) / y15 * y15))] [] h14) fun h16 =>
       ev M_PT_drift 0 41 [some (.ref x0), some (.int ((((hI h r1 1) * (nI 137)) + (nI 71)) - (((hI h r1 1) * (nI 137)) + (nI 71)) / (nI 1000) * (nI 1000))), some (.int y3)] [] h16)))))))))))))))))))) := (ev_eq _ _ _ _ _ _).trans rfl
theorem r_PT_drift_41 (x0 : Nat) (x1 : Int32) (x2 : Int32) (h : MH) : ev M_PT_drift 0 41 [some (.ref x0), some (.int x1), some (.int x2)] [] h =
    isC h x0 12 (nnR (hR h x0 11) fun r1 =>
    isC h x0 12 (rV (ev M_PT_perform 0 0 [some (.ref x0), some (.int x2), some (.ref r1), some (.int x1)] [] h) fun h2 =>
    some (some (.int x2), h2))) := (ev_eq _ _ _ _ _ _).trans rfl
theorem r_PT_driftsTo_0 (x0 : Nat) (x1 : Int32) (h : MH) : ev M_PT_driftsTo 0 0 [some (.ref x0), some (.int x1), none] [] h =
    isC h x0 12 (nnR (hR h x0 2) fun r1 =>
    isC h r1 5 (
    br ((hI h r1 1) = (nI 0))
      (some (some (.int (mI 1)), h))
      (nz (nI 100) (
       isC h x0 12 (nnR (hR h x0 2) fun r2 =>
       isC h r2 5 (
       br ((x1 - x1 / (nI 100) * (nI 100)) < (hI h r2 3))
         (isC h x0 12 (nnR (hR h x0 2) fun r3 =>
          isC h r3 5 (
          nz (hI h r3 1) (
          isC h x0 12 (nnR (hR h x0 2) fun r4 =>
          isC h r4 5 (rI (ev M_Plan_isTold 0 0 [some (.ref r4), some (.int (x1 - x1 / (hI h r3 1) * (hI h r3 1)))] [] h) fun y6 h5 =>
          br (y6 = (nI 0))
            (some (some (.int (mI 1)), h5))
            (some (some (.int (x1 - x1 / (hI h r3 1) * (hI h r3 1))), h5))))))))
         (some (some (.int (mI 1)), h)))))))) := (ev_eq _ _ _ _ _ _).trans rfl
theorem r_PT_perform_0 (x0 : Nat) (x1 : Int32) (x2 : Nat) (x3 : Int32) (h : MH) : ev M_PT_perform 0 0 [some (.ref x0), some (.int x1), some (.ref x2), some (.int x3)] [] h =
    isC h x0 12 (nnR (hR h x0 6) fun r1 =>
    isC h x0 12 (nnR (hR h x0 5) fun r2 =>
    isC h r1 4 (rV (ev M_History_add 0 0 [some (.ref r1), some (.int x1), some (.ref r2), some (.ref x2), some (.int x3), none, none] [] h) fun h3 =>
    isC h3 x0 12 (nnR (hR h3 x0 6) fun r4 =>
    isC h3 x0 12 (nnR (hR h3 x0 5) fun r5 =>
    isC h3 r4 4 (rI (ev M_History_goOn 0 0 [some (.ref r4), some (.ref r5), none] [] h3) fun y7 h6 =>
    isC h6 x0 12 (nnR (hR h6 x0 5) fun r8 =>
    isC h6 r8 7 (rV (ev M_Relations_derive 0 0 [some (.ref r8), none, none, none] [] h6) fun h9 =>
    some (none, h9))))))))) := (ev_eq _ _ _ _ _ _).trans rfl
theorem r_PT_undo_0 (x0 : Nat) (h : MH) : ev M_PT_undo 0 0 [some (.ref x0), none] [] h =
    isC h x0 12 (nnR (hR h x0 6) fun r1 =>
    isC h x0 12 (nnR (hR h x0 5) fun r2 =>
    isC h r1 4 (rI (ev M_History_goBack 0 0 [some (.ref r1), some (.ref r2), none] [] h) fun y4 h3 =>
    isC h3 x0 12 (nnR (hR h3 x0 5) fun r5 =>
    isC h3 r5 7 (rV (ev M_Relations_derive 0 0 [some (.ref r5), none, none, none] [] h3) fun h6 =>
    isZ y4 (some (some (.int y4), h6))))))) := (ev_eq _ _ _ _ _ _).trans rfl
theorem r_PT_redo_0 (x0 : Nat) (h : MH) : ev M_PT_redo 0 0 [some (.ref x0), none] [] h =
    isC h x0 12 (nnR (hR h x0 6) fun r1 =>
    isC h x0 12 (nnR (hR h x0 5) fun r2 =>
    isC h r1 4 (rI (ev M_History_goOn 0 0 [some (.ref r1), some (.ref r2), none] [] h) fun y4 h3 =>
    isC h3 x0 12 (nnR (hR h3 x0 5) fun r5 =>
    isC h3 r5 7 (rV (ev M_Relations_derive 0 0 [some (.ref r5), none, none, none] [] h3) fun h6 =>
    isZ y4 (some (some (.int y4), h6))))))) := (ev_eq _ _ _ _ _ _).trans rfl
theorem r_PT_bit_0 (x0 : Nat) (x1 : Int32) (x2 : Int32) (h : MH) : ev M_PT_bit 0 0 [some (.ref x0), some (.int x1), some (.int x2)] [] h =
    isC h x0 12 (rI (ev M_PT_isBit 0 0 [some (.ref x0), some (.int x1), some (.int x2)] [] h) fun y2 h1 =>
    br (y2 = (nI 0))
      (some (some (.int (mI 1)), h1))
      (isC h1 x0 12 (nnR (hR h1 x0 9) fun r3 =>
       isC h1 r3 11 (rI (ev M_Tree_bitAt 0 0 [some (.ref r3), some (.int x2)] [] h1) fun y5 h4 =>
       some (some (.int y5), h4))))) := (ev_eq _ _ _ _ _ _).trans rfl
theorem r_PT_rank_0 (x0 : Nat) (x1 : Int32) (x2 : Int32) (h : MH) : ev M_PT_rank 0 0 [some (.ref x0), some (.int x1), some (.int x2)] [] h =
    isC h x0 12 (rI (ev M_PT_isBit 0 0 [some (.ref x0), some (.int x1), some (.int x2)] [] h) fun y2 h1 =>
    br (y2 = (nI 0))
      (some (some (.int (mI 1)), h1))
      (isC h1 x0 12 (nnR (hR h1 x0 9) fun r3 =>
       isC h1 r3 11 (rI (ev M_Tree_rankAt 0 0 [some (.ref r3), some (.int x2), none, none] [] h1) fun y5 h4 =>
       some (some (.int y5), h4))))) := (ev_eq _ _ _ _ _ _).trans rfl
set_option maxRecDepth 100000 in
set_option maxHeartbeats 4000000 in
theorem r_PT_child_0 (x0 : Nat) (x1 : Int32) (x2 : Int32) (x3 : Int32) (h : MH) : ev M_PT_child 0 0 [some (.ref x0), some (.int x1), some (.int x2), some (.int x3)] [] h =
    br (x3 < (nI 0))
      (some (some (.int (mI 1)), h))
      (br ((nI 3) < x3)
         (some (some (.int (mI 1)), h))
         (isC h x0 12 (rI (ev M_PT_isBit 0 0 [some (.ref x0), some (.int x1), some (.int x2)] [] h) fun y2 h1 =>
          br (y2 = (nI 0))
            (some (some (.int (mI 1)), h1))
            (isC h1 x0 12 (nnR (hR h1 x0 9) fun r3 =>
             isC h1 r3 11 (rI (ev M_Tree_bitAt 0 0 [some (.ref r3), some (.int x2)] [] h1) fun y5 h4 =>
             br (y5 = (nI 0))
               (some (some (.int (mI 1)), h4))
               (isC h4 x0 12 (nnR (hR h4 x0 9) fun r6 =>
                isC h4 r6 11 (rI (ev M_Tree_levelAt 0 0 [some (.ref r6), some (.int x2)] [] h4) fun y8 h7 =>
                isC h7 x0 12 (nnR (hR h7 x0 2) fun r9 =>
                isC h7 r9 5 (
                br (y8 = (hI h7 r9 0))
                  (some (some (.int (mI 1)), h7))
                  (isC h7 x0 12 (nnR (hR h7 x0 9) fun r10 =>
                   isC h7 r10 11 (rI (ev M_Tree_rankAt 0 0 [some (.ref r10), some (.int x2), none, none] [] h7) fun y12 h11 =>
                   some (some (.int (((nI 4) * y12) + x3)), h11))))))))))))))) := (ev_eq _ _ _ _ _ _).trans rfl
theorem r_PT_place_0 (x0 : Nat) (x1 : Int32) (x2 : Int32) (x3 : Int32) (h : MH) : ev M_PT_place 0 0 [some (.ref x0), some (.int x1), some (.int x2), some (.int x3)] [] h =
    isC h x0 12 (rI (ev M_PT_isBit 0 0 [some (.ref x0), some (.int x1), some (.int x2)] [] h) fun y2 h1 =>
    br (y2 = (nI 0))
      (some (some (.int (mI 1)), h1))
      (br (x3 = (nI 0))
         (isC h1 x0 12 (nnR (hR h1 x0 9) fun r3 =>
          isC h1 r3 11 (rI (ev M_Tree_levelAt 0 0 [some (.ref r3), some (.int x2)] [] h1) fun y5 h4 =>
          some (some (.int y5), h4))))
         (br (x3 = (nI 1))
         (isC h1 x0 12 (nnR (hR h1 x0 9) fun r6 =>
          isC h1 r6 11 (rI (ev M_Tree_firstRowAt 0 0 [some (.ref r6), some (.int x2)] [] h1) fun y8 h7 =>
          some (some (.int y8), h7))))
         (br (x3 = (nI 2))
         (isC h1 x0 12 (nnR (hR h1 x0 9) fun r9 =>
          isC h1 r9 11 (rI (ev M_Tree_firstColumnAt 0 0 [some (.ref r9), some (.int x2)] [] h1) fun y11 h10 =>
          some (some (.int y11), h10))))
         (some (some (.int (mI 1)), h1)))))) := (ev_eq _ _ _ _ _ _).trans rfl
set_option maxRecDepth 100000 in
set_option maxHeartbeats 4000000 in
theorem r_PT_isBit_0 (x0 : Nat) (x1 : Int32) (x2 : Int32) (h : MH) : ev M_PT_isBit 0 0 [some (.ref x0), some (.int x1), some (.int x2)] [] h =
    isC h x0 12 (rI (ev M_PT_isRelation 0 0 [some (.ref x0), some (.int x1)] [] h) fun y2 h1 =>
    br (y2 = (nI 0))
      (isZ (nI 0) (some (some (.int (nI 0)), h1)))
      (br (x2 < (nI 0))
         (isZ (nI 0) (some (some (.int (nI 0)), h1)))
         (isC h1 x0 12 (nnR (hR h1 x0 9) fun r3 =>
          isC h1 x0 12 (nnR (hR h1 x0 5) fun r4 =>
          isC h1 r4 7 (nnR (hR h1 r4 0) fun r5 =>
          isC h1 r5 24 (inA h1 r5 x1 (nnR (hR h1 r5 (Int32.toNatClampNeg x1)) fun r6 =>
          isC h1 x0 12 (nnR (hR h1 x0 2) fun r7 =>
          isC h1 r7 5 (
          isC h1 r3 11 (rV (ev M_Tree_grow 0 0 [some (.ref r3), some (.ref r6), some (.int (hI h1 r7 0)), none] [] h1) fun h8 =>
          isC h8 x0 12 (nnR (hR h8 x0 9) fun r9 =>
          isC h8 r9 11 (rV (ev M_Tree_layBits 0 0 [some (.ref r9), none] [] h8) fun h10 =>
          isC h10 x0 12 (nnR (hR h10 x0 9) fun r11 =>
          isC h10 r11 11 (rI (ev M_Tree_countBits 0 0 [some (.ref r11), none, none] [] h10) fun y13 h12 =>
          br (x2 < y13)
            (isZ (nI 1) (some (some (.int (nI 1)), h12)))
            (isZ (nI 0) (some (some (.int (nI 0)), h12)))))))))))))))))) := (ev_eq _ _ _ _ _ _).trans rfl
set_option maxRecDepth 100000 in
set_option maxHeartbeats 4000000 in
theorem r_PT_blocks_0 (x0 : Nat) (x1 : Int32) (x2 : Int32) (h : MH) : ev M_PT_blocks 0 0 [some (.ref x0), some (.int x1), some (.int x2)] [] h =
    isC h x0 12 (rI (ev M_PT_isRelation 0 0 [some (.ref x0), some (.int x1)] [] h) fun y2 h1 =>
    br (y2 = (nI 0))
      (some (some (.int (mI 1)), h1))
      (isC h1 x0 12 (rI (ev M_PT_isLevel 0 0 [some (.ref x0), some (.int x2)] [] h1) fun y4 h3 =>
       br (y4 = (nI 0))
         (some (some (.int (mI 1)), h3))
         (isC h3 x0 12 (nnR (hR h3 x0 9) fun r5 =>
          isC h3 x0 12 (nnR (hR h3 x0 5) fun r6 =>
          isC h3 r6 7 (nnR (hR h3 r6 0) fun r7 =>
          isC h3 r7 24 (inA h3 r7 x1 (nnR (hR h3 r7 (Int32.toNatClampNeg x1)) fun r8 =>
          isC h3 x0 12 (nnR (hR h3 x0 2) fun r9 =>
          isC h3 r9 5 (
          isC h3 r5 11 (rV (ev M_Tree_grow 0 0 [some (.ref r5), some (.ref r8), some (.int (hI h3 r9 0)), none] [] h3) fun h10 =>
          isC h10 x0 12 (nnR (hR h10 x0 9) fun r11 =>
          isC h10 r11 11 (rR (ev M_Tree_filledOn 0 0 [some (.ref r11), some (.int x2)] [] h10) fun r13 h12 =>
          isC h12 r13 3 (rI (ev M_Grid_count 0 0 [some (.ref r13), none, none] [] h12) fun y15 h14 =>
          some (some (.int y15), h14)))))))))))))))) := (ev_eq _ _ _ _ _ _).trans rfl
theorem r_PT_row_0 (x0 : Nat) (x1 : Int32) (x2 : Int32) (h : MH) : ev M_PT_row 0 0 [some (.ref x0), some (.int x1), some (.int x2)] [] h =
    isC h x0 12 (
    let h1 := sI h x0 14 (nI 0)
    isC h1 x0 12 (rI (ev M_PT_isRelation 0 0 [some (.ref x0), some (.int x1)] [] h1) fun y3 h2 =>
    br (y3 = (nI 0))
      (some (some (.int (mI 1)), h2))
      (isC h2 x0 12 (rI (ev M_PT_isNode 0 0 [some (.ref x0), some (.int x2)] [] h2) fun y5 h4 =>
       br (y5 = (nI 0))
         (some (some (.int (mI 1)), h4))
         (isC h4 x0 12 (nnR (hR h4 x0 5) fun r6 =>
          isC h4 r6 7 (nnR (hR h4 r6 0) fun r7 =>
          isC h4 r7 24 (inA h4 r7 x1 (nnR (hR h4 r7 (Int32.toNatClampNeg x1)) fun r8 =>
          isC h4 r8 3 (nnR (hR h4 r8 0) fun r9 =>
          isC h4 r9 20 (inA h4 r9 x2 (
          isC h4 x0 12 (rV (ev M_PT_layNodes 0 0 [some (.ref x0), some (.int (hI h4 r9 (Int32.toNatClampNeg x2))), none] [] h4) fun h10 =>
          isC h10 x0 12 (
          some (some (.int (hI h10 x0 14)), h10))))))))))))))) := (ev_eq _ _ _ _ _ _).trans rfl
theorem r_PT_column_0 (x0 : Nat) (x1 : Int32) (x2 : Int32) (h : MH) : ev M_PT_column 0 0 [some (.ref x0), some (.int x1), some (.int x2)] [] h =
    isC h x0 12 (
    let h1 := sI h x0 14 (nI 0)
    isC h1 x0 12 (rI (ev M_PT_isRelation 0 0 [some (.ref x0), some (.int x1)] [] h1) fun y3 h2 =>
    br (y3 = (nI 0))
      (some (some (.int (mI 1)), h2))
      (isC h2 x0 12 (rI (ev M_PT_isNode 0 0 [some (.ref x0), some (.int x2)] [] h2) fun y5 h4 =>
       br (y5 = (nI 0))
         (some (some (.int (mI 1)), h4))
         (isC h4 x0 12 (nnR (hR h4 x0 5) fun r6 =>
          isC h4 r6 7 (nnR (hR h4 r6 0) fun r7 =>
          isC h4 r7 24 (inA h4 r7 x1 (nnR (hR h4 r7 (Int32.toNatClampNeg x1)) fun r8 =>
          isC h4 r8 3 (rI (ev M_Grid_rowsWith 0 0 [some (.ref r8), some (.int x2), none, none] [] h4) fun y10 h9 =>
          isC h9 x0 12 (rV (ev M_PT_layNodes 0 0 [some (.ref x0), some (.int y10), none] [] h9) fun h11 =>
          isC h11 x0 12 (
          some (some (.int (hI h11 x0 14)), h11))))))))))))) := (ev_eq _ _ _ _ _ _).trans rfl
theorem r_PT_layNodes_0 (x0 : Nat) (x1 : Int32) (h : MH) : ev M_PT_layNodes 0 0 [some (.ref x0), some (.int x1), none] [] h =
    ev M_PT_layNodes 0 3 [some (.ref x0), some (.int x1), some (.int (nI 0))] [] h := (ev_eq _ _ _ _ _ _).trans rfl
theorem r_PT_layNodes_3 (x0 : Nat) (x1 : Int32) (x2 : Int32) (h : MH) : ev M_PT_layNodes 0 3 [some (.ref x0), some (.int x1), some (.int x2)] [] h =
    br (x2 < (nI 16))
      (br (((x1 >>> (x2 &&& 31)) &&& (nI 1)) = (nI 1))
         (isC h x0 12 (nnR (hR h x0 13) fun r1 =>
          isC h x0 12 (
          isC h r1 20 (inA h r1 (hI h x0 14) (
          let h2 := sI h r1 (Int32.toNatClampNeg (hI h x0 14)) x2
          isC h2 x0 12 (
          isC h2 x0 12 (
          let h3 := sI h2 x0 14 ((hI h2 x0 14) + (nI 1))
          ev M_PT_layNodes 0 26 [some (.ref x0), some (.int x1), some (.int x2)] [] h3)))))))
         (ev M_PT_layNodes 0 26 [some (.ref x0), some (.int x1), some (.int x2)] [] h))
      (some (none, h)) := (ev_eq _ _ _ _ _ _).trans rfl
theorem r_PT_layNodes_26 (x0 : Nat) (x1 : Int32) (x2 : Int32) (h : MH) : ev M_PT_layNodes 0 26 [some (.ref x0), some (.int x1), some (.int x2)] [] h =
    ev M_PT_layNodes 0 3 [some (.ref x0), some (.int x1), some (.int (x2 + (nI 1)))] [] h := (ev_eq _ _ _ _ _ _).trans rfl
theorem r_PT_rect_0 (x0 : Nat) (x1 : Int32) (x2 : Int32) (x3 : Int32) (x4 : Int32) (x5 : Int32) (h : MH) : ev M_PT_rect 0 0 [some (.ref x0), some (.int x1), some (.int x2), some (.int x3), some (.int x4), some (.int x5)] [] h =
    isC h x0 12 (rI (ev M_PT_isRelation 0 0 [some (.ref x0), some (.int x1)] [] h) fun y2 h1 =>
    br (y2 = (nI 0))
      (some (some (.int (mI 1)), h1))
      (isC h1 x0 12 (rI (ev M_PT_isRectangle 0 0 [some (.ref x0), some (.int x2), some (.int x3), some (.int x4), some (.int x5)] [] h1) fun y4 h3 =>
       br (y4 = (nI 0))
         (some (some (.int (mI 1)), h3))
         (isC h3 x0 12 (nnR (hR h3 x0 5) fun r5 =>
          isC h3 r5 7 (nnR (hR h3 r5 0) fun r6 =>
          isC h3 r6 24 (inA h3 r6 x1 (nnR (hR h3 r6 (Int32.toNatClampNeg x1)) fun r7 =>
          isC h3 r7 3 (rI (ev M_Grid_countIn 0 0 [some (.ref r7), some (.int x2), some (.int x3), some (.int x4), some (.int x5), none, none, none] [] h3) fun y9 h8 =>
          some (some (.int y9), h8)))))))))) := (ev_eq _ _ _ _ _ _).trans rfl
set_option maxRecDepth 100000 in
set_option maxHeartbeats 4000000 in
theorem r_PT_looks_0 (x0 : Nat) (x1 : Int32) (x2 : Int32) (x3 : Int32) (x4 : Int32) (x5 : Int32) (h : MH) : ev M_PT_looks 0 0 [some (.ref x0), some (.int x1), some (.int x2), some (.int x3), some (.int x4), some (.int x5)] [] h =
    isC h x0 12 (rI (ev M_PT_isRelation 0 0 [some (.ref x0), some (.int x1)] [] h) fun y2 h1 =>
    br (y2 = (nI 0))
      (some (some (.int (mI 1)), h1))
      (isC h1 x0 12 (rI (ev M_PT_isRectangle 0 0 [some (.ref x0), some (.int x2), some (.int x3), some (.int x4), some (.int x5)] [] h1) fun y4 h3 =>
       br (y4 = (nI 0))
         (some (some (.int (mI 1)), h3))
         (isC h3 x0 12 (nnR (hR h3 x0 9) fun r5 =>
          isC h3 x0 12 (nnR (hR h3 x0 5) fun r6 =>
          isC h3 r6 7 (nnR (hR h3 r6 0) fun r7 =>
          isC h3 r7 24 (inA h3 r7 x1 (nnR (hR h3 r7 (Int32.toNatClampNeg x1)) fun r8 =>
          isC h3 x0 12 (nnR (hR h3 x0 2) fun r9 =>
          isC h3 r9 5 (
          isC h3 r5 11 (rV (ev M_Tree_grow 0 0 [some (.ref r5), some (.ref r8), some (.int (hI h3 r9 0)), none] [] h3) fun h10 =>
          isC h10 x0 12 (nnR (hR h10 x0 9) fun r11 =>
          isC h10 r11 11 (rV (ev M_Tree_layBits 0 0 [some (.ref r11), none] [] h10) fun h12 =>
          isC h12 x0 12 (nnR (hR h12 x0 9) fun r13 =>
          isC h12 r13 11 (rI (ev M_Tree_countBitsIn 0 0 [some (.ref r13), some (.int x2), some (.int x3), some (.int x4), some (.int x5), none, none, none, none, none] [] h12) fun y15 h14 =>
          some (some (.int y15), h14))))))))))))))))) := (ev_eq _ _ _ _ _ _).trans rfl
theorem r_PT_walks_0 (x0 : Nat) (x1 : Int32) (x2 : Int32) (h : MH) : ev M_PT_walks 0 0 [some (.ref x0), some (.int x1), some (.int x2)] [] h =
    isC h x0 12 (rI (ev M_PT_growBoth 0 0 [some (.ref x0), some (.int x1), some (.int x2)] [] h) fun y2 h1 =>
    br (y2 = (nI 0))
      (some (some (.int (mI 1)), h1))
      (isC h1 x0 12 (nnR (hR h1 x0 9) fun r3 =>
       isC h1 x0 12 (nnR (hR h1 x0 10) fun r4 =>
       isC h1 r3 11 (rI (ev M_Tree_walkBeside 0 0 [some (.ref r3), some (.ref r4), none, none, none, none, none] [] h1) fun y6 h5 =>
       some (some (.int y6), h5)))))) := (ev_eq _ _ _ _ _ _).trans rfl
theorem r_PT_products_0 (x0 : Nat) (x1 : Int32) (x2 : Int32) (h : MH) : ev M_PT_products 0 0 [some (.ref x0), some (.int x1), some (.int x2)] [] h =
    isC h x0 12 (rI (ev M_PT_growBoth 0 0 [some (.ref x0), some (.int x1), some (.int x2)] [] h) fun y2 h1 =>
    br (y2 = (nI 0))
      (some (some (.int (mI 1)), h1))
      (isC h1 x0 12 (nnR (hR h1 x0 9) fun r3 =>
       isC h1 x0 12 (nnR (hR h1 x0 10) fun r4 =>
       isC h1 r3 11 (rI (ev M_Tree_multiplyBy 0 0 [some (.ref r3), some (.ref r4), none, none, none, none, none] [] h1) fun y6 h5 =>
       some (some (.int y6), h5)))))) := (ev_eq _ _ _ _ _ _).trans rfl
set_option maxRecDepth 100000 in
set_option maxHeartbeats 4000000 in
theorem r_PT_growBoth_0 (x0 : Nat) (x1 : Int32) (x2 : Int32) (h : MH) : ev M_PT_growBoth 0 0 [some (.ref x0), some (.int x1), some (.int x2)] [] h =
    isC h x0 12 (rI (ev M_PT_areRelations 0 0 [some (.ref x0), some (.int x1), some (.int x2)] [] h) fun y2 h1 =>
    br (y2 = (nI 0))
      (isZ (nI 0) (some (some (.int (nI 0)), h1)))
      (isC h1 x0 12 (nnR (hR h1 x0 9) fun r3 =>
       isC h1 x0 12 (nnR (hR h1 x0 5) fun r4 =>
       isC h1 r4 7 (nnR (hR h1 r4 0) fun r5 =>
       isC h1 r5 24 (inA h1 r5 x1 (nnR (hR h1 r5 (Int32.toNatClampNeg x1)) fun r6 =>
       isC h1 x0 12 (nnR (hR h1 x0 2) fun r7 =>
       isC h1 r7 5 (
       isC h1 r3 11 (rV (ev M_Tree_grow 0 0 [some (.ref r3), some (.ref r6), some (.int (hI h1 r7 0)), none] [] h1) fun h8 =>
       isC h8 x0 12 (nnR (hR h8 x0 10) fun r9 =>
       isC h8 x0 12 (nnR (hR h8 x0 5) fun r10 =>
       isC h8 r10 7 (nnR (hR h8 r10 0) fun r11 =>
       isC h8 r11 24 (inA h8 r11 x2 (nnR (hR h8 r11 (Int32.toNatClampNeg x2)) fun r12 =>
       isC h8 x0 12 (nnR (hR h8 x0 2) fun r13 =>
       isC h8 r13 5 (
       isC h8 r9 11 (rV (ev M_Tree_grow 0 0 [some (.ref r9), some (.ref r12), some (.int (hI h8 r13 0)), none] [] h8) fun h14 =>
       isZ (nI 1) (some (some (.int (nI 1)), h14)))))))))))))))))))) := (ev_eq _ _ _ _ _ _).trans rfl
theorem r_PT_would_0 (x0 : Nat) (x1 : Int32) (x2 : Int32) (x3 : Int32) (x4 : Int32) (h : MH) : ev M_PT_would 0 0 [some (.ref x0), some (.int x1), some (.int x2), some (.int x3), some (.int x4)] [] h =
    isC h x0 12 (rI (ev M_PT_makeOfTwo 0 0 [some (.ref x0), some (.int x1), some (.int x2), some (.int x3)] [] h) fun y2 h1 =>
    br (y2 = (nI 0))
      (some (some (.int (mI 1)), h1))
      (br (x4 = (nI 0))
         (isC h1 x0 12 (nnR (hR h1 x0 11) fun r3 =>
          isC h1 r3 3 (rI (ev M_Grid_count 0 0 [some (.ref r3), none, none] [] h1) fun y5 h4 =>
          some (some (.int y5), h4))))
         (br (x4 = (nI 1))
         (isC h1 x0 12 (nnR (hR h1 x0 11) fun r6 =>
          isC h1 x0 12 (rI (ev M_PT_bitsOf 0 0 [some (.ref x0), some (.ref r6)] [] h1) fun y8 h7 =>
          some (some (.int y8), h7))))
         (some (some (.int (mI 1)), h1))))) := (ev_eq _ _ _ _ _ _).trans rfl
set_option maxRecDepth 100000 in
set_option maxHeartbeats 4000000 in
theorem r_PT_pair_0 (x0 : Nat) (x1 : Int32) (x2 : Int32) (x3 : Int32) (h : MH) : ev M_PT_pair 0 0 [some (.ref x0), some (.int x1), some (.int x2), some (.int x3), none] [] h =
    isC h x0 12 (rI (ev M_PT_isRelation 0 0 [some (.ref x0), some (.int x1)] [] h) fun y2 h1 =>
    br (y2 = (nI 0))
      (some (some (.int (mI 1)), h1))
      (br (x2 < (nI 0))
         (some (some (.int (mI 1)), h1))
         (br (x3 < (nI 0))
            (some (some (.int (mI 1)), h1))
            (br ((nI 1) < x3)
               (some (some (.int (mI 1)), h1))
               (isC h1 x0 12 (nnR (hR h1 x0 5) fun r3 =>
                isC h1 r3 7 (nnR (hR h1 r3 0) fun r4 =>
                isC h1 r4 24 (inA h1 r4 x1 (nnR (hR h1 r4 (Int32.toNatClampNeg x1)) fun r5 =>
                isC h1 r5 3 (rI (ev M_Grid_findPair 0 0 [some (.ref r5), some (.int x2), none, none, none] [] h1) fun y7 h6 =>
                br (y7 = (mI 1))
                  (some (some (.int (mI 1)), h6))
                  (br (x3 = (nI 0))
                     (nz (nI 16) (
                      some (some (.int (y7 / (nI 16))), h6)))
                     (nz (nI 16) (
                      some (some (.int (y7 - y7 / (nI 16) * (nI 16))), h6)))))))))))))) := (ev_eq _ _ _ _ _ _).trans rfl
set_option maxRecDepth 100000 in
set_option maxHeartbeats 4000000 in
theorem r_PT_unlike_0 (x0 : Nat) (x1 : Int32) (x2 : Int32) (h : MH) : ev M_PT_unlike 0 0 [some (.ref x0), some (.int x1), some (.int x2), none] [] h =
    isC h x0 12 (rI (ev M_PT_areRelations 0 0 [some (.ref x0), some (.int x1), some (.int x2)] [] h) fun y2 h1 =>
    br (y2 = (nI 0))
      (some (some (.int (mI 1)), h1))
      (isC h1 x0 12 (nnR (hR h1 x0 11) fun r3 =>
       isC h1 x0 12 (nnR (hR h1 x0 5) fun r4 =>
       isC h1 r4 7 (nnR (hR h1 r4 0) fun r5 =>
       isC h1 r5 24 (inA h1 r5 x1 (nnR (hR h1 r5 (Int32.toNatClampNeg x1)) fun r6 =>
       isC h1 x0 12 (nnR (hR h1 x0 5) fun r7 =>
       isC h1 r7 7 (nnR (hR h1 r7 0) fun r8 =>
       isC h1 r8 24 (inA h1 r8 x2 (nnR (hR h1 r8 (Int32.toNatClampNeg x2)) fun r9 =>
       isC h1 r3 3 (rV (ev M_Grid_join 0 0 [some (.ref r3), some (.int (nI 2)), some (.ref r6), some (.ref r9), none, none] [] h1) fun h10 =>
       isC h10 x0 12 (nnR (hR h10 x0 11) fun r11 =>
       isC h10 r11 3 (rI (ev M_Grid_count 0 0 [some (.ref r11), none, none] [] h10) fun y13 h12 =>
       isC h12 x0 12 (nnR (hR h12 x0 11) fun r14 =>
       isC h12 x0 12 (nnR (hR h12 x0 5) fun r15 =>
       isC h12 r15 7 (nnR (hR h12 r15 0) fun r16 =>
       isC h12 r16 24 (inA h12 r16 x2 (nnR (hR h12 r16 (Int32.toNatClampNeg x2)) fun r17 =>
       isC h12 x0 12 (nnR (hR h12 x0 5) fun r18 =>
       isC h12 r18 7 (nnR (hR h12 r18 0) fun r19 =>
       isC h12 r19 24 (inA h12 r19 x1 (nnR (hR h12 r19 (Int32.toNatClampNeg x1)) fun r20 =>
       isC h12 r14 3 (rV (ev M_Grid_join 0 0 [some (.ref r14), some (.int (nI 2)), some (.ref r17), some (.ref r20), none, none] [] h12) fun h21 =>
       isC h21 x0 12 (nnR (hR h21 x0 11) fun r22 =>
       isC h21 r22 3 (rI (ev M_Grid_count 0 0 [some (.ref r22), none, none] [] h21) fun y24 h23 =>
       some (some (.int (y13 + y24)), h23))))))))))))))))))))))))))) := (ev_eq _ _ _ _ _ _).trans rfl
theorem r_PT_within_0 (x0 : Nat) (x1 : Int32) (x2 : Int32) (h : MH) : ev M_PT_within 0 0 [some (.ref x0), some (.int x1), some (.int x2)] [] h =
    isC h x0 12 (rI (ev M_PT_areRelations 0 0 [some (.ref x0), some (.int x1), some (.int x2)] [] h) fun y2 h1 =>
    br (y2 = (nI 0))
      (some (some (.int (mI 1)), h1))
      (isC h1 x0 12 (nnR (hR h1 x0 11) fun r3 =>
       isC h1 x0 12 (nnR (hR h1 x0 5) fun r4 =>
       isC h1 r4 7 (nnR (hR h1 r4 0) fun r5 =>
       isC h1 r5 24 (inA h1 r5 x1 (nnR (hR h1 r5 (Int32.toNatClampNeg x1)) fun r6 =>
       isC h1 x0 12 (nnR (hR h1 x0 5) fun r7 =>
       isC h1 r7 7 (nnR (hR h1 r7 0) fun r8 =>
       isC h1 r8 24 (inA h1 r8 x2 (nnR (hR h1 r8 (Int32.toNatClampNeg x2)) fun r9 =>
       isC h1 r3 3 (rV (ev M_Grid_join 0 0 [some (.ref r3), some (.int (nI 2)), some (.ref r6), some (.ref r9), none, none] [] h1) fun h10 =>
       isC h10 x0 12 (nnR (hR h10 x0 11) fun r11 =>
       isC h10 r11 3 (rI (ev M_Grid_count 0 0 [some (.ref r11), none, none] [] h10) fun y13 h12 =>
       br (y13 = (nI 0))
         (some (some (.int (nI 1)), h12))
         (some (some (.int (nI 0)), h12)))))))))))))))) := (ev_eq _ _ _ _ _ _).trans rfl
theorem r_PT_busiest_0 (x0 : Nat) (x1 : Int32) (x2 : Int32) (h : MH) : ev M_PT_busiest 0 0 [some (.ref x0), some (.int x1), some (.int x2), none, none, none, none, none] [] h =
    isC h x0 12 (rI (ev M_PT_isRelation 0 0 [some (.ref x0), some (.int x1)] [] h) fun y2 h1 =>
    br (y2 = (nI 0))
      (some (some (.int (mI 1)), h1))
      (br (x2 < (nI 0))
         (some (some (.int (mI 1)), h1))
         (br ((nI 1) < x2)
            (some (some (.int (mI 1)), h1))
            (isC h1 x0 12 (nnR (hR h1 x0 5) fun r3 =>
             isC h1 r3 7 (nnR (hR h1 r3 0) fun r4 =>
             isC h1 r4 24 (inA h1 r4 x1 (nnR (hR h1 r4 (Int32.toNatClampNeg x1)) fun r5 =>
             ev M_PT_busiest 0 24 [none, none, some (.int x2), some (.ref r5), some (.int (nI 0)), some (.int (mI 1)), some (.int (nI 0)), none] [] h1)))))))) := (ev_eq _ _ _ _ _ _).trans rfl
theorem r_PT_busiest_24 (x2 : Int32) (x3 : Nat) (x4 : Int32) (x5 : Int32) (x6 : Int32) (h : MH) : ev M_PT_busiest 0 24 [none, none, some (.int x2), some (.ref x3), some (.int x4), some (.int x5), some (.int x6), none] [] h =
    isC h x3 3 (
    br (x6 < (hI h x3 1))
      (br (x2 = (nI 0))
         (isC h x3 3 (nnR (hR h x3 0) fun r1 =>
          isC h r1 20 (inA h r1 x6 (
          ev M_PT_busiest 0 39 [none, none, some (.int x2), some (.ref x3), some (.int x4), some (.int x5), some (.int x6), none] [(.int (hI h r1 (Int32.toNatClampNeg x6)))] h))))
         (isC h x3 3 (rI (ev M_Grid_rowsWith 0 0 [some (.ref x3), some (.int x6), none, none] [] h) fun y3 h2 =>
          ev M_PT_busiest 0 39 [none, none, some (.int x2), some (.ref x3), some (.int x4), some (.int x5), some (.int x6), none] [(.int y3)] h2)))
      (some (some (.int x4), h))) := (ev_eq _ _ _ _ _ _).trans rfl
theorem r_PT_busiest_39 (x2 : Int32) (x3 : Nat) (x4 : Int32) (x5 : Int32) (x6 : Int32) (s0 : Int32) (h : MH) : ev M_PT_busiest 0 39 [none, none, some (.int x2), some (.ref x3), some (.int x4), some (.int x5), some (.int x6), none] [(.int s0)] h =
    rI (ev M_Integer_bitCount 0 0 [some (.int s0)] [] h) fun y2 h1 =>
    br (x5 < y2)
      (ev M_PT_busiest 0 49 [none, none, some (.int x2), some (.ref x3), some (.int x6), some (.int y2), some (.int x6), none] [] h1)
      (ev M_PT_busiest 0 49 [none, none, some (.int x2), some (.ref x3), some (.int x4), some (.int x5), some (.int x6), none] [] h1) := (ev_eq _ _ _ _ _ _).trans rfl
theorem r_PT_busiest_49 (x2 : Int32) (x3 : Nat) (x4 : Int32) (x5 : Int32) (x6 : Int32) (h : MH) : ev M_PT_busiest 0 49 [none, none, some (.int x2), some (.ref x3), some (.int x4), some (.int x5), some (.int x6), none] [] h =
    ev M_PT_busiest 0 24 [none, none, some (.int x2), some (.ref x3), some (.int x4), some (.int x5), some (.int (x6 + (nI 1))), none] [] h := (ev_eq _ _ _ _ _ _).trans rfl
set_option maxRecDepth 100000 in
set_option maxHeartbeats 4000000 in
theorem r_PT_densest_0 (x0 : Nat) (x1 : Int32) (x2 : Int32) (x3 : Int32) (h : MH) : ev M_PT_densest 0 0 [some (.ref x0), some (.int x1), some (.int x2), some (.int x3), none, none, none, none, none] [] h =
    isC h x0 12 (rI (ev M_PT_isRelation 0 0 [some (.ref x0), some (.int x1)] [] h) fun y2 h1 =>
    br (y2 = (nI 0))
      (some (some (.int (mI 1)), h1))
      (isC h1 x0 12 (rI (ev M_PT_isLevel 0 0 [some (.ref x0), some (.int x2)] [] h1) fun y4 h3 =>
       br (y4 = (nI 0))
         (some (some (.int (mI 1)), h3))
         (br (x3 < (nI 0))
            (some (some (.int (mI 1)), h3))
            (br ((nI 2) < x3)
               (some (some (.int (mI 1)), h3))
               (isC h3 x0 12 (nnR (hR h3 x0 5) fun r5 =>
                isC h3 r5 7 (nnR (hR h3 r5 0) fun r6 =>
                isC h3 r6 24 (inA h3 r6 x1 (nnR (hR h3 r6 (Int32.toNatClampNeg x1)) fun r7 =>
                isC h3 x0 12 (nnR (hR h3 x0 2) fun r8 =>
                isC h3 r8 5 (
                isC h3 r7 3 (rI (ev M_Grid_fullestBlock 0 0 [some (.ref r7), some (.int x2), some (.int (hI h3 r8 0)), none, none, none, none] [] h3) fun y10 h9 =>
                isC h9 x0 12 (nnR (hR h9 x0 2) fun r11 =>
                isC h9 r11 5 (
                br (x3 = (nI 0))
                  (some (some (.int ((y10 >>> (x2 &&& 31)) <<< (((hI h9 r11 0) - x2) &&& 31))), h9))
                  (br (x3 = (nI 1))
                  (some (some (.int ((y10 &&& (((nI 1) <<< (x2 &&& 31)) - (nI 1))) <<< (((hI h9 r11 0) - x2) &&& 31))), h9))
                  (isC h9 x0 12 (nnR (hR h9 x0 2) fun r12 =>
                   isC h9 r12 5 (
                   isC h9 r7 3 (rI (ev M_Grid_countInBlock 0 0 [some (.ref r7), some (.int y10), some (.int x2), some (.int (hI h9 r12 0)), none, none, none] [] h9) fun y14 h13 =>
                   some (some (.int y14), h13))))))))))))))))))))) := (ev_eq _ _ _ _ _ _).trans rfl
theorem r_PT_reached_0 (x0 : Nat) (x1 : Int32) (x2 : Int32) (h : MH) : ev M_PT_reached 0 0 [some (.ref x0), some (.int x1), some (.int x2)] [] h =
    isC h x0 12 (rI (ev M_PT_isRelation 0 0 [some (.ref x0), some (.int x1)] [] h) fun y2 h1 =>
    br (y2 = (nI 0))
      (some (some (.int (mI 1)), h1))
      (isC h1 x0 12 (rI (ev M_PT_isNode 0 0 [some (.ref x0), some (.int x2)] [] h1) fun y4 h3 =>
       br (y4 = (nI 0))
         (some (some (.int (mI 1)), h3))
         (isC h3 x0 12 (nnR (hR h3 x0 12) fun r5 =>
          isC h3 x0 12 (nnR (hR h3 x0 5) fun r6 =>
          isC h3 r6 7 (nnR (hR h3 r6 0) fun r7 =>
          isC h3 r7 24 (inA h3 r7 x1 (nnR (hR h3 r7 (Int32.toNatClampNeg x1)) fun r8 =>
          isC h3 r5 10 (rI (ev M_Steps_allFrom 0 0 [some (.ref r5), some (.ref r8), some (.int x2), none, none] [] h3) fun y10 h9 =>
          some (some (.int y10), h9))))))))))) := (ev_eq _ _ _ _ _ _).trans rfl
theorem r_PT_far_0 (x0 : Nat) (x1 : Int32) (x2 : Int32) (x3 : Int32) (h : MH) : ev M_PT_far 0 0 [some (.ref x0), some (.int x1), some (.int x2), some (.int x3)] [] h =
    isC h x0 12 (rI (ev M_PT_isRelation 0 0 [some (.ref x0), some (.int x1)] [] h) fun y2 h1 =>
    br (y2 = (nI 0))
      (some (some (.int (mI 1)), h1))
      (isC h1 x0 12 (rI (ev M_PT_isNode 0 0 [some (.ref x0), some (.int x2)] [] h1) fun y4 h3 =>
       br (y4 = (nI 0))
         (some (some (.int (mI 1)), h3))
         (isC h3 x0 12 (rI (ev M_PT_isNode 0 0 [some (.ref x0), some (.int x3)] [] h3) fun y6 h5 =>
          br (y6 = (nI 0))
            (some (some (.int (mI 1)), h5))
            (isC h5 x0 12 (nnR (hR h5 x0 12) fun r7 =>
             isC h5 x0 12 (nnR (hR h5 x0 5) fun r8 =>
             isC h5 r8 7 (nnR (hR h5 r8 0) fun r9 =>
             isC h5 r9 24 (inA h5 r9 x1 (nnR (hR h5 r9 (Int32.toNatClampNeg x1)) fun r10 =>
             isC h5 r7 10 (rI (ev M_Steps_fewest 0 0 [some (.ref r7), some (.ref r10), some (.int x2), some (.int x3), none, none] [] h5) fun y12 h11 =>
             some (some (.int y12), h11))))))))))))) := (ev_eq _ _ _ _ _ _).trans rfl
theorem r_PT_mutual_0 (x0 : Nat) (x1 : Int32) (x2 : Int32) (h : MH) : ev M_PT_mutual 0 0 [some (.ref x0), some (.int x1), some (.int x2)] [] h =
    isC h x0 12 (rI (ev M_PT_isRelation 0 0 [some (.ref x0), some (.int x1)] [] h) fun y2 h1 =>
    br (y2 = (nI 0))
      (some (some (.int (mI 1)), h1))
      (isC h1 x0 12 (rI (ev M_PT_isNode 0 0 [some (.ref x0), some (.int x2)] [] h1) fun y4 h3 =>
       br (y4 = (nI 0))
         (some (some (.int (mI 1)), h3))
         (isC h3 x0 12 (nnR (hR h3 x0 12) fun r5 =>
          isC h3 x0 12 (nnR (hR h3 x0 5) fun r6 =>
          isC h3 r6 7 (nnR (hR h3 r6 0) fun r7 =>
          isC h3 r7 24 (inA h3 r7 x1 (nnR (hR h3 r7 (Int32.toNatClampNeg x1)) fun r8 =>
          isC h3 r5 10 (rI (ev M_Steps_bothWays 0 0 [some (.ref r5), some (.ref r8), some (.int x2)] [] h3) fun y10 h9 =>
          some (some (.int y10), h9))))))))))) := (ev_eq _ _ _ _ _ _).trans rfl
theorem r_PT_closure_0 (x0 : Nat) (x1 : Int32) (h : MH) : ev M_PT_closure 0 0 [some (.ref x0), some (.int x1)] [] h =
    isC h x0 12 (rI (ev M_PT_isRelation 0 0 [some (.ref x0), some (.int x1)] [] h) fun y2 h1 =>
    br (y2 = (nI 0))
      (some (some (.int (mI 1)), h1))
      (isC h1 x0 12 (nnR (hR h1 x0 12) fun r3 =>
       isC h1 x0 12 (nnR (hR h1 x0 5) fun r4 =>
       isC h1 r4 7 (nnR (hR h1 r4 0) fun r5 =>
       isC h1 r5 24 (inA h1 r5 x1 (nnR (hR h1 r5 (Int32.toNatClampNeg x1)) fun r6 =>
       isC h1 r3 10 (rI (ev M_Steps_countClosure 0 0 [some (.ref r3), some (.ref r6)] [] h1) fun y8 h7 =>
       some (some (.int y8), h7))))))))) := (ev_eq _ _ _ _ _ _).trans rfl
theorem r_PT_settles_0 (x0 : Nat) (x1 : Int32) (h : MH) : ev M_PT_settles 0 0 [some (.ref x0), some (.int x1)] [] h =
    isC h x0 12 (rI (ev M_PT_isRelation 0 0 [some (.ref x0), some (.int x1)] [] h) fun y2 h1 =>
    br (y2 = (nI 0))
      (some (some (.int (mI 1)), h1))
      (isC h1 x0 12 (nnR (hR h1 x0 12) fun r3 =>
       isC h1 x0 12 (nnR (hR h1 x0 5) fun r4 =>
       isC h1 r4 7 (nnR (hR h1 r4 0) fun r5 =>
       isC h1 r5 24 (inA h1 r5 x1 (nnR (hR h1 r5 (Int32.toNatClampNeg x1)) fun r6 =>
       isC h1 r3 10 (rI (ev M_Steps_countGoes 0 0 [some (.ref r3), some (.ref r6)] [] h1) fun y8 h7 =>
       some (some (.int y8), h7))))))))) := (ev_eq _ _ _ _ _ _).trans rfl
theorem r_PT_parts_0 (x0 : Nat) (x1 : Int32) (h : MH) : ev M_PT_parts 0 0 [some (.ref x0), some (.int x1)] [] h =
    isC h x0 12 (rI (ev M_PT_isRelation 0 0 [some (.ref x0), some (.int x1)] [] h) fun y2 h1 =>
    br (y2 = (nI 0))
      (some (some (.int (mI 1)), h1))
      (isC h1 x0 12 (nnR (hR h1 x0 12) fun r3 =>
       isC h1 x0 12 (nnR (hR h1 x0 5) fun r4 =>
       isC h1 r4 7 (nnR (hR h1 r4 0) fun r5 =>
       isC h1 r5 24 (inA h1 r5 x1 (nnR (hR h1 r5 (Int32.toNatClampNeg x1)) fun r6 =>
       isC h1 r3 10 (rI (ev M_Steps_countSets 0 0 [some (.ref r3), some (.ref r6), none, none, none] [] h1) fun y8 h7 =>
       some (some (.int y8), h7))))))))) := (ev_eq _ _ _ _ _ _).trans rfl
theorem r_PT_is_0 (x0 : Nat) (x1 : Int32) (x2 : Int32) (h : MH) : ev M_PT_is 0 0 [some (.ref x0), some (.int x1), some (.int x2)] [] h =
    isC h x0 12 (rI (ev M_PT_isRelation 0 0 [some (.ref x0), some (.int x1)] [] h) fun y2 h1 =>
    br (y2 = (nI 0))
      (some (some (.int (mI 1)), h1))
      (br (x2 < (nI 0))
         (some (some (.int (mI 1)), h1))
         (br ((nI 5) < x2)
            (some (some (.int (mI 1)), h1))
            (isC h1 x0 12 (nnR (hR h1 x0 5) fun r3 =>
             isC h1 r3 7 (nnR (hR h1 r3 0) fun r4 =>
             isC h1 r4 24 (inA h1 r4 x1 (nnR (hR h1 r4 (Int32.toNatClampNeg x1)) fun r5 =>
             isC h1 x0 12 (rI (ev M_PT_holdsFor 0 0 [some (.ref x0), some (.ref r5), some (.int x2)] [] h1) fun y7 h6 =>
             br (y7 = (nI 0))
               (some (some (.int (nI 0)), h6))
               (some (some (.int (nI 1)), h6))))))))))) := (ev_eq _ _ _ _ _ _).trans rfl
set_option maxRecDepth 100000 in
set_option maxHeartbeats 4000000 in
theorem r_PT_holdsFor_0 (x0 : Nat) (x1 : Nat) (x2 : Int32) (h : MH) : ev M_PT_holdsFor 0 0 [some (.ref x0), some (.ref x1), some (.int x2)] [] h =
    br (x2 = (nI 0))
      (isC h x1 3 (rI (ev M_Grid_hasEachOwn 0 0 [some (.ref x1), none] [] h) fun y2 h1 =>
       isZ y2 (some (some (.int y2), h1))))
      (br (x2 = (nI 1))
      (isC h x1 3 (rI (ev M_Grid_isEven 0 0 [some (.ref x1), none] [] h) fun y4 h3 =>
       isZ y4 (some (some (.int y4), h3))))
      (br (x2 = (nI 2))
      (isC h x0 12 (nnR (hR h x0 11) fun r5 =>
       isC h r5 3 (rV (ev M_Grid_join 0 0 [some (.ref r5), some (.int (nI 3)), some (.ref x1), some (.ref x1), none, none] [] h) fun h6 =>
       isC h6 x0 12 (nnR (hR h6 x0 11) fun r7 =>
       isC h6 r7 3 (rI (ev M_Grid_isWithin 0 0 [some (.ref r7), some (.ref x1), none] [] h6) fun y9 h8 =>
       isZ y9 (some (some (.int y9), h8)))))))
      (br (x2 = (nI 3))
      (isC h x1 3 (rI (ev M_Grid_mostInARow 0 0 [some (.ref x1), none, none] [] h) fun y11 h10 =>
       br ((nI 1) < y11)
         (isZ (nI 0) (some (some (.int (nI 0)), h10)))
         (isZ (nI 1) (some (some (.int (nI 1)), h10)))))
      (br (x2 = (nI 4))
      (isC h x1 3 (rI (ev M_Grid_mostInAColumn 0 0 [some (.ref x1), none, none] [] h) fun y13 h12 =>
       br ((nI 1) < y13)
         (isZ (nI 0) (some (some (.int (nI 0)), h12)))
         (isZ (nI 1) (some (some (.int (nI 1)), h12)))))
      (isC h x1 3 (rI (ev M_Grid_leastInARow 0 0 [some (.ref x1), none, none] [] h) fun y15 h14 =>
       br (y15 < (nI 1))
         (isZ (nI 0) (some (some (.int (nI 0)), h14)))
         (isZ (nI 1) (some (some (.int (nI 1)), h14))))))))) := (ev_eq _ _ _ _ _ _).trans rfl
set_option maxRecDepth 100000 in
set_option maxHeartbeats 4000000 in
theorem r_PT_law_0 (x0 : Nat) (x1 : Int32) (x2 : Int32) (h : MH) : ev M_PT_law 0 0 [some (.ref x0), some (.int x1), some (.int x2), none] [] h =
    isC h x0 12 (rI (ev M_PT_isRelation 0 0 [some (.ref x0), some (.int x1)] [] h) fun y2 h1 =>
    br (y2 = (nI 0))
      (some (some (.int (mI 1)), h1))
      (isC h1 x0 12 (nnR (hR h1 x0 2) fun r3 =>
       isC h1 r3 5 (
       br (x2 < (hI h1 r3 0))
         (some (some (.int (mI 1)), h1))
         (br ((nI 6) < x2)
            (some (some (.int (mI 1)), h1))
            (isC h1 x0 12 (nnR (hR h1 x0 5) fun r4 =>
             isC h1 r4 7 (nnR (hR h1 r4 0) fun r5 =>
             isC h1 r5 24 (inA h1 r5 x1 (nnR (hR h1 r5 (Int32.toNatClampNeg x1)) fun r6 =>
             isC h1 x0 12 (rI (ev M_PT_bitsOf 0 0 [some (.ref x0), some (.ref r6)] [] h1) fun y8 h7 =>
             isC h7 x0 12 (nnR (hR h7 x0 5) fun r9 =>
             isC h7 r9 7 (nnR (hR h7 r9 0) fun r10 =>
             isC h7 r10 24 (inA h7 r10 x1 (nnR (hR h7 r10 (Int32.toNatClampNeg x1)) fun r11 =>
             isC h7 r11 3 (rI (ev M_Grid_count 0 0 [some (.ref r11), none, none] [] h7) fun y13 h12 =>
             br (y13 = (nI 0))
               (some (some (.int y8), h12))
               (isC h12 x0 12 (nnR (hR h12 x0 2) fun r14 =>
                isC h12 r14 5 (
                some (some (.int (y8 + ((nI 4) * (x2 - (hI h12 r14 0))))), h12)))))))))))))))))))) := (ev_eq _ _ _ _ _ _).trans rfl
theorem r_PT_odds_0 (x0 : Nat) (x1 : Int32) (x2 : Int32) (h : MH) : ev M_PT_odds 0 0 [some (.ref x0), some (.int x1), some (.int x2), none, none, none] [] h =
    br (x1 < (nI 0))
      (some (some (.int (mI 1)), h))
      (br ((nI 4) < x1)
         (some (some (.int (mI 1)), h))
         (br (x2 < (nI 0))
            (some (some (.int (mI 1)), h))
            (br ((nI 1) < x2)
               (some (some (.int (mI 1)), h))
               (ev M_PT_odds 0 19 [some (.ref x0), some (.int x1), some (.int x2), some (.int (nI 1)), some (.int (nI 1)), some (.int (nI 0))] [] h)))) := (ev_eq _ _ _ _ _ _).trans rfl
theorem r_PT_odds_19 (x0 : Nat) (x1 : Int32) (x2 : Int32) (x3 : Int32) (x4 : Int32) (x5 : Int32) (h : MH) : ev M_PT_odds 0 19 [some (.ref x0), some (.int x1), some (.int x2), some (.int x3), some (.int x4), some (.int x5)] [] h =
    br (x5 < x1)
      (isC h x0 12 (nnR (hR h x0 2) fun r1 =>
       isC h r1 5 (
       ev M_PT_odds 0 19 [some (.ref x0), some (.int x1), some (.int x2), some (.int (x3 * ((nI 100) - (hI h r1 3)))), some (.int (x4 * (nI 100))), some (.int (x5 + (nI 1)))] [] h)))
      (rI (ev M_PT_commonDivisor 0 0 [some (.int x4), some (.int x3), none, none, none, none] [] h) fun y3 h2 =>
       br (x2 = (nI 0))
         (nz y3 (
          some (some (.int (x3 / y3)), h2)))
         (nz y3 (
          some (some (.int (x4 / y3)), h2)))) := (ev_eq _ _ _ _ _ _).trans rfl
theorem r_PT_commonDivisor_0 (x0 : Int32) (x1 : Int32) (h : MH) : ev M_PT_commonDivisor 0 0 [some (.int x0), some (.int x1), none, none, none, none] [] h =
    ev M_PT_commonDivisor 0 7 [none, none, some (.int x0), some (.int x1), some (.int (nI 0)), none] [] h := (ev_eq _ _ _ _ _ _).trans rfl
theorem r_PT_commonDivisor_7 (x2 : Int32) (x3 : Int32) (x4 : Int32) (h : MH) : ev M_PT_commonDivisor 0 7 [none, none, some (.int x2), some (.int x3), some (.int x4), none] [] h =
    br (x4 < (nI 64))
      (br ((nI 0) < x3)
         (nz x3 (
          ev M_PT_commonDivisor 0 7 [none, none, some (.int x3), some (.int (x2 - x2 / x3 * x3)), some (.int (x4 + (nI 1))), none] [] h))
         (ev M_PT_commonDivisor 0 23 [none, none, some (.int x2), none, none, none] [] h))
      (ev M_PT_commonDivisor 0 23 [none, none, some (.int x2), none, none, none] [] h) := (ev_eq _ _ _ _ _ _).trans rfl
theorem r_PT_commonDivisor_23 (x2 : Int32) (h : MH) : ev M_PT_commonDivisor 0 23 [none, none, some (.int x2), none, none, none] [] h =
    some (some (.int (if x2 < (nI 1) then (nI 1) else x2)), h) := (ev_eq _ _ _ _ _ _).trans rfl
theorem r_PT_lies_0 (x0 : Nat) (x1 : Int32) (h : MH) : ev M_PT_lies 0 0 [some (.ref x0), some (.int x1)] [] h =
    br (x1 < (nI 0))
      (some (some (.int (mI 2)), h))
      (isC h x0 12 (
       br (x1 < (hI h x0 14))
         (isC h x0 12 (nnR (hR h x0 13) fun r1 =>
          isC h r1 20 (inA h r1 x1 (
          some (some (.int (hI h r1 (Int32.toNatClampNeg x1))), h)))))
         (some (some (.int (mI 2)), h)))) := (ev_eq _ _ _ _ _ _).trans rfl
theorem r_PT_seen_0 (x0 : Nat) (x1 : Int32) (x2 : Int32) (x3 : Int32) (x4 : Int32) (h : MH) : ev M_PT_seen 0 0 [some (.ref x0), some (.int x1), some (.int x2), some (.int x3), some (.int x4)] [] h =
    isC h x0 12 (nnR (hR h x0 2) fun r1 =>
    isC h r1 5 (
    br ((hI h r1 1) = (nI 0))
      (some (some (.int (mI 1)), h))
      (isC h x0 12 (rI (ev M_PT_isLevel 0 0 [some (.ref x0), some (.int x1)] [] h) fun y3 h2 =>
       br (y3 = (nI 0))
         (some (some (.int (mI 1)), h2))
         (br (x3 < (nI 0))
            (some (some (.int (mI 1)), h2))
            (br ((nI 256) < x3)
               (some (some (.int (mI 1)), h2))
               (br (x2 < (nI 0))
                  (some (some (.int (mI 1)), h2))
                  (br (x2 < ((nI 1) <<< (((nI 2) * x1) &&& 31)))
                     (isC h2 x0 12 (nnR (hR h2 x0 8) fun r4 =>
                      isC h2 r4 9 (rI (ev M_Sightings_tell 0 0 [some (.ref r4), some (.int x1), some (.int x2), some (.int x3), some (.int x4)] [] h2) fun y6 h5 =>
                      some (some (.int y6), h5))))
                     (some (some (.int (mI 1)), h2)))))))))) := (ev_eq _ _ _ _ _ _).trans rfl
theorem r_PT_untell_0 (x0 : Nat) (x1 : Int32) (h : MH) : ev M_PT_untell 0 0 [some (.ref x0), some (.int x1)] [] h =
    isC h x0 12 (nnR (hR h x0 8) fun r1 =>
    isC h r1 9 (rI (ev M_Sightings_takeBack 0 0 [some (.ref r1), some (.int x1)] [] h) fun y3 h2 =>
    isZ y3 (some (some (.int y3), h2)))) := (ev_eq _ _ _ _ _ _).trans rfl
theorem r_PT_later_0 (x0 : Nat) (x1 : Int32) (h : MH) : ev M_PT_later 0 0 [some (.ref x0), some (.int x1)] [] h =
    br (x1 < (nI 0))
      (some (some (.int (mI 1)), h))
      (br ((nI 1000) < x1)
         (some (some (.int (mI 1)), h))
         (isC h x0 12 (nnR (hR h x0 8) fun r1 =>
          isC h r1 9 (
          br ((nI 100000) < ((hI h r1 0) + x1))
            (some (some (.int (mI 1)), h))
            (isC h x0 12 (nnR (hR h x0 8) fun r2 =>
             isC h r2 9 (
             isC h r2 9 (
             let h3 := sI h r2 0 ((hI h r2 0) + x1)
             isC h3 x0 12 (nnR (hR h3 x0 8) fun r4 =>
             isC h3 r4 9 (
             some (some (.int (hI h3 r4 0)), h3))))))))))) := (ev_eq _ _ _ _ _ _).trans rfl
theorem r_PT_fits_0 (x0 : Nat) (x1 : Int32) (h : MH) : ev M_PT_fits 0 0 [some (.ref x0), some (.int x1)] [] h =
    isC h x0 12 (nnR (hR h x0 8) fun r1 =>
    isC h r1 9 (rI (ev M_Sightings_countFits 0 0 [some (.ref r1), some (.int x1)] [] h) fun y3 h2 =>
    some (some (.int y3), h2))) := (ev_eq _ _ _ _ _ _).trans rfl
theorem r_PT_fit_0 (x0 : Nat) (x1 : Int32) (x2 : Int32) (h : MH) : ev M_PT_fit 0 0 [some (.ref x0), some (.int x1), some (.int x2)] [] h =
    isC h x0 12 (nnR (hR h x0 8) fun r1 =>
    isC h r1 9 (rI (ev M_Sightings_findFit 0 0 [some (.ref r1), some (.int x1), some (.int x2), none] [] h) fun y3 h2 =>
    some (some (.int y3), h2))) := (ev_eq _ _ _ _ _ _).trans rfl
theorem r_PT_ask_0 (x0 : Nat) (x1 : Int32) (x2 : Int32) (x3 : Int32) (h : MH) : ev M_PT_ask 0 0 [some (.ref x0), some (.int x1), some (.int x2), some (.int x3)] [] h =
    isC h x0 12 (rI (ev M_PT_isLevel 0 0 [some (.ref x0), some (.int x1)] [] h) fun y2 h1 =>
    br (y2 = (nI 0))
      (some (some (.int (mI 1)), h1))
      (br (x2 < (nI 0))
         (some (some (.int (mI 1)), h1))
         (br ((nI 1) < x2)
            (some (some (.int (mI 1)), h1))
            (isC h1 x0 12 (nnR (hR h1 x0 8) fun r3 =>
             br (x2 = (nI 1))
               (ev M_PT_ask 0 22 [none, none, none, none] [(.int (nI 1)), (.int x3), (.int x1), (.ref r3)] h1)
               (ev M_PT_ask 0 22 [none, none, none, none] [(.int (nI 0)), (.int x3), (.int x1), (.ref r3)] h1)))))) := (ev_eq _ _ _ _ _ _).trans rfl
theorem r_PT_ask_22 (s0 : Nat) (s1 : Int32) (s2 : Int32) (s3 : Int32) (h : MH) : ev M_PT_ask 0 22 [none, none, none, none] [(.int s3), (.int s2), (.int s1), (.ref s0)] h =
    isC h s0 9 (rI (ev M_Sightings_bestBlock 0 0 [some (.ref s0), some (.int s1), some (.int s2), some (.int s3), none, none, none, none, none, none, none] [] h) fun y2 h1 =>
    some (some (.int y2), h1)) := (ev_eq _ _ _ _ _ _).trans rfl
theorem r_PT_image_0 (x0 : Nat) (x1 : Int32) (h : MH) : ev M_PT_image 0 0 [some (.ref x0), some (.int x1)] [] h =
    br (x1 < (nI 0))
      (some (some (.int (mI 1)), h))
      (br (x1 < (nI 3))
         (isC h x0 12 (nnR (hR h x0 7) fun r1 =>
          isC h r1 25 (inA h r1 x1 (nnR (hR h r1 (Int32.toNatClampNeg x1)) fun r2 =>
          isC h x0 12 (nnR (hR h x0 5) fun r3 =>
          isC h r2 1 (rV (ev M_Box_keep 0 0 [some (.ref r2), some (.ref r3), none] [] h) fun h4 =>
          isC h4 x0 12 (nnR (hR h4 x0 5) fun r5 =>
          isC h4 r5 7 (rI (ev M_Relations_countTold 0 0 [some (.ref r5), none, none] [] h4) fun y7 h6 =>
          some (some (.int y7), h6)))))))))
         (some (some (.int (mI 1)), h))) := (ev_eq _ _ _ _ _ _).trans rfl
theorem r_PT_back_0 (x0 : Nat) (x1 : Int32) (h : MH) : ev M_PT_back 0 0 [some (.ref x0), some (.int x1)] [] h =
    br (x1 < (nI 0))
      (some (some (.int (mI 1)), h))
      (br (x1 < (nI 3))
         (isC h x0 12 (nnR (hR h x0 7) fun r1 =>
          isC h r1 25 (inA h r1 x1 (nnR (hR h r1 (Int32.toNatClampNeg x1)) fun r2 =>
          isC h r2 1 (
          br ((hI h r2 0) = (nI 0))
            (some (some (.int (mI 1)), h))
            (isC h x0 12 (nnR (hR h x0 7) fun r3 =>
             isC h r3 25 (inA h r3 x1 (nnR (hR h r3 (Int32.toNatClampNeg x1)) fun r4 =>
             isC h x0 12 (nnR (hR h x0 5) fun r5 =>
             isC h r4 1 (rV (ev M_Box_giveBack 0 0 [some (.ref r4), some (.ref r5), none] [] h) fun h6 =>
             isC h6 x0 12 (nnR (hR h6 x0 6) fun r7 =>
             isC h6 r7 4 (rV (ev M_History_forget 0 0 [some (.ref r7)] [] h6) fun h8 =>
             isC h8 x0 12 (nnR (hR h8 x0 5) fun r9 =>
             isC h8 r9 7 (rI (ev M_Relations_countTold 0 0 [some (.ref r9), none, none] [] h8) fun y11 h10 =>
             some (some (.int y11), h10))))))))))))))))
         (some (some (.int (mI 1)), h))) := (ev_eq _ _ _ _ _ _).trans rfl
set_option maxRecDepth 100000 in
set_option maxHeartbeats 4000000 in
theorem r_PT_about_0 (x0 : Nat) (x1 : Int32) (h : MH) : ev M_PT_about 0 0 [some (.ref x0), some (.int x1)] [] h =
    br (x1 = (nI 0))
      (isC h x0 12 (nnR (hR h x0 2) fun r1 =>
       isC h r1 5 (
       some (some (.int (hI h r1 1)), h))))
      (br (x1 = (nI 1))
      (isC h x0 12 (nnR (hR h x0 2) fun r2 =>
       isC h r2 5 (
       some (some (.int (hI h r2 0)), h))))
      (br (x1 = (nI 2))
      (isC h x0 12 (nnR (hR h x0 2) fun r3 =>
       isC h r3 5 (rI (ev M_Plan_size 0 0 [some (.ref r3)] [] h) fun y5 h4 =>
       some (some (.int y5), h4))))
      (br (x1 = (nI 3))
      (isC h x0 12 (nnR (hR h x0 2) fun r6 =>
       isC h r6 5 (
       some (some (.int (hI h r6 2)), h))))
      (br (x1 = (nI 4))
      (isC h x0 12 (nnR (hR h x0 5) fun r7 =>
       isC h r7 7 (rI (ev M_Relations_countTold 0 0 [some (.ref r7), none, none] [] h) fun y9 h8 =>
       some (some (.int y9), h8))))
      (br (x1 = (nI 5))
      (isC h x0 12 (nnR (hR h x0 5) fun r10 =>
       isC h r10 7 (
       some (some (.int (hI h r10 1)), h))))
      (br (x1 = (nI 6))
      (isC h x0 12 (nnR (hR h x0 6) fun r11 =>
       isC h r11 4 (
       some (some (.int (hI h r11 1)), h))))
      (br (x1 = (nI 7))
      (isC h x0 12 (nnR (hR h x0 6) fun r12 =>
       isC h r12 4 (
       isC h x0 12 (nnR (hR h x0 6) fun r13 =>
       isC h r13 4 (
       some (some (.int ((hI h r12 0) - (hI h r13 1))), h))))))
      (br (x1 = (nI 8))
      (isC h x0 12 (nnR (hR h x0 8) fun r14 =>
       isC h r14 9 (
       some (some (.int (hI h r14 1)), h))))
      (br (x1 = (nI 9))
      (isC h x0 12 (nnR (hR h x0 8) fun r15 =>
       isC h r15 9 (
       some (some (.int (hI h r15 0)), h))))
      (br (x1 = (nI 10))
      (isC h x0 12 (
       some (some (.int (hI h x0 1)), h)))
      (br (x1 = (nI 11))
      (isC h x0 12 (nnR (hR h x0 2) fun r16 =>
       isC h r16 5 (
       some (some (.int (hI h r16 5)), h))))
      (br (x1 = (nI 12))
      (isC h x0 12 (
       some (some (.int (hI h x0 14)), h)))
      (br (x1 = (nI 13))
      (isC h x0 12 (nnR (hR h x0 2) fun r17 =>
       isC h r17 5 (
       some (some (.int (hI h r17 3)), h))))
      (some (some (.int (mI 1)), h))))))))))))))) := (ev_eq _ _ _ _ _ _).trans rfl
