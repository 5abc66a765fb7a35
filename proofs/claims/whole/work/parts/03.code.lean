/-! The methods' code for the small machine, by program (wip/whole/gen2.py) out of the printed names. -/
noncomputable def k_Box_init : List Ent := [
  (.aload_n 0, 0, []), (.invokespecial 3, 1, [3, 2, 83]), (.aload_n 0, 4, []), (.iconst 5, 5, [1, 5]), (.anewarray 9, 6, [24, 2, 84]), (.putfield 11, 9, [1, 2, 2, 2, 89]),
  (.iconst 0, 12, [1, 0]), (.istore_n 1, 13, []), (.nop, 14, [9, 1, 1]), (.iload_n 1, 14, []), (.iconst 5, 15, [1, 5]), (.if_icmp .ge 22, 16, [1, 10]),
  (.aload_n 0, 19, []), (.getfield 11, 20, [1, 2, 2, 2, 89]), (.iload_n 1, 23, []), (.new 9, 24, [3, 2, 2, 84, 1, 57, 1, 4]), (.dup, 27, []), (.invokespecial 17, 28, [2, 11, 0, 0, 1, 0, 0, 1, 2, 85]),
  (.aastore, 31, [24, 3]), (.nop, 32, [20, 1, 1]), (.iinc 1 1, 32, [1, 1]), (.goto (-21), 35, [0, 9, 1, 1]), (.return_, 38, [])
  ]
noncomputable def k_Box_keep : List Ent := [
  (.aload_n 0, 0, []), (.iconst 1, 1, [1, 1]), (.putfield 18, 2, [1, 0, 3, 2, 86]), (.aload_n 0, 5, []), (.aload_n 1, 6, []), (.getfield 22, 7, [7, 1, 0, 2, 27]),
  (.putfield 28, 10, [1, 1, 0, 2, 88]), (.iconst 0, 13, [1, 0]), (.istore_n 2, 14, []), (.nop, 15, [10, 1, 1, 1]), (.iload_n 2, 15, []), (.iconst 5, 16, [1, 5]),
  (.if_icmp .ge 24, 17, [1, 11]), (.aload_n 0, 20, []), (.getfield 11, 21, [1, 2, 2, 2, 89]), (.iload_n 2, 24, []), (.aaload, 25, [24]), (.aload_n 1, 26, []),
  (.getfield 29, 27, [7, 0, 2, 2, 24]), (.iload_n 2, 30, []), (.aaload, 31, [24]), (.invokevirtual 30, 32, [1, 13, 1, 0, 2, 3, 0, 0, 6, 105]), (.iinc 2 1, 35, [1, 1]), (.goto (-23), 38, [0, 10, 1, 1, 1]),
  (.return_, 41, [])
  ]
noncomputable def k_Box_giveBack : List Ent := [
  (.aload_n 1, 0, []), (.aload_n 0, 1, []), (.getfield 28, 2, [1, 1, 0, 2, 88]), (.putfield 22, 5, [7, 1, 0, 2, 27]), (.iconst 0, 8, [1, 0]), (.istore_n 2, 9, []),
  (.nop, 10, [7, 1, 1, 1]), (.iload_n 2, 10, []), (.iconst 5, 11, [1, 5]), (.if_icmp .ge 24, 12, [1, 11]), (.aload_n 1, 15, []), (.getfield 29, 16, [7, 0, 2, 2, 24]),
  (.iload_n 2, 19, []), (.aaload, 20, [24]), (.aload_n 0, 21, []), (.getfield 11, 22, [1, 2, 2, 2, 89]), (.iload_n 2, 25, []), (.aaload, 26, [24]),
  (.invokevirtual 30, 27, [1, 13, 1, 0, 2, 3, 0, 0, 6, 105]), (.iinc 2 1, 30, [1, 1]), (.goto (-23), 33, [0, 7, 1, 1, 1]), (.return_, 36, [])
  ]
noncomputable def k_Formula_init : List Ent := [
  (.aload_n 0, 0, []), (.invokespecial 1, 1, [3, 1, 42]), (.aload_n 0, 4, []), (.sipush 320, 5, [1, 320]), (.newarray .int, 8, [20, 1, 54]), (.putfield 9, 10, [2, 0, 2, 1, 43]),
  (.aload_n 0, 13, []), (.bipush 32, 14, [1, 32]), (.newarray .int, 16, [20, 1, 54]), (.putfield 13, 18, [2, 2, 2, 1, 45]), (.nop, 21, [11, 0]), (.return_, 21, [])
  ]
noncomputable def k_Formula_clear : List Ent := [
  (.aload_n 0, 0, []), (.iconst 0, 1, [1, 0]), (.putfield 16, 2, [2, 1, 0, 1, 44]), (.return_, 5, [])
  ]
noncomputable def k_Formula_addNumber : List Ent := [
  (.aload_n 0, 0, []), (.iconst (-1), 1, [0, 1]), (.iload_n 1, 2, []), (.isub, 3, []), (.invokevirtual 20, 4, [1, 6, 1, 0, 2, 2, 0, 0, 4, 77]), (.return_, 7, [])
  ]
noncomputable def k_Formula_addPart : List Ent := [
  (.aload_n 0, 0, []), (.getfield 16, 1, [2, 1, 0, 1, 44]), (.sipush 320, 4, [1, 320]), (.if_icmp .ge 23, 7, [1, 12]), (.aload_n 0, 10, []), (.getfield 9, 11, [2, 0, 2, 1, 43]),
  (.aload_n 0, 14, []), (.getfield 16, 15, [2, 1, 0, 1, 44]), (.iload_n 1, 18, []), (.iastore, 19, []), (.aload_n 0, 20, []), (.dup, 21, []),
  (.getfield 16, 22, [2, 1, 0, 1, 44]), (.iconst 1, 25, [1, 1]), (.iadd, 26, []), (.putfield 16, 27, [2, 1, 0, 1, 44]), (.return_, 30, [])
  ]
noncomputable def k_Formula_work : List Ent := [
  (.aload_n 0, 0, []), (.getfield 16, 1, [2, 1, 0, 1, 44]), (.ifCond .ne 5, 4, [1, 2]), (.iconst 1, 7, [1, 1]), (.ireturn, 8, [0]), (.iconst 0, 9, [1, 0]),
  (.istore 4, 10, []), (.iconst 0, 12, [1, 0]), (.istore 5, 13, []), (.nop, 15, [10, 1, 1, 1, 1, 1, 1, 0]), (.iload 5, 15, []), (.aload_n 0, 17, []),
  (.getfield 16, 18, [2, 1, 0, 1, 44]), (.if_icmp .ge 134, 21, [1, 70]), (.aload_n 0, 24, []), (.getfield 9, 25, [2, 0, 2, 1, 43]), (.iload 5, 28, []), (.iaload, 30, [20]),
  (.istore 6, 31, []), (.iload 6, 33, []), (.invokestatic 24, 35, [0, 8, 1, 1, 1, 0, 0, 0, 4, 146]), (.ifCond .eq 31, 38, [1, 14]), (.iload 4, 41, []), (.bipush 32, 43, [1, 32]),
  (.if_icmp .ge 104, 45, [1, 56]), (.aload_n 0, 48, []), (.getfield 13, 49, [2, 2, 2, 1, 45]), (.iload 4, 52, []), (.iload 6, 54, []), (.iload_n 1, 56, []),
  (.iload_n 2, 57, []), (.iload_n 3, 58, []), (.invokestatic 28, 59, [0, 9, 4, 1, 4, 0, 0, 0, 4, 149]), (.iastore, 62, []), (.iinc 4 1, 63, [1, 1]), (.goto 83, 66, [1, 45]),
  (.iload 6, 69, []), (.bipush 114, 71, [1, 114]), (.if_icmp .ne 37, 73, [1, 20]), (.iload 4, 76, []), (.ifCond .le 71, 78, [1, 40]), (.aload_n 0, 81, []),
  (.getfield 13, 82, [2, 2, 2, 1, 45]), (.iload 4, 85, []), (.iconst 1, 87, [1, 1]), (.isub, 88, []), (.aload_n 0, 89, []), (.getfield 13, 90, [2, 2, 2, 1, 45]),
  (.iload 4, 93, []), (.iconst 1, 95, [1, 1]), (.isub, 96, []), (.iaload, 97, [20]), (.ifCond .ne 7, 98, [1, 2]), (.iconst 1, 101, [1, 1]),
  (.goto 4, 102, [1, 1]), (.iconst 0, 105, [1, 0]), (.nop, 106, [57, 1, 1, 1, 1, 1, 1, 0]), (.iastore, 106, []), (.goto 42, 107, [1, 22]), (.iload 4, 110, []),
  (.iconst 1, 112, [1, 1]), (.if_icmp .le 36, 113, [1, 19]), (.iinc 4 (-1), 116, [0, 1]), (.aload_n 0, 119, []), (.getfield 13, 120, [2, 2, 2, 1, 45]), (.iload 4, 123, []),
  (.iconst 1, 125, [1, 1]), (.isub, 126, []), (.iload 6, 127, []), (.aload_n 0, 129, []), (.getfield 13, 130, [2, 2, 2, 1, 45]), (.iload 4, 133, []),
  (.iconst 1, 135, [1, 1]), (.isub, 136, []), (.iaload, 137, [20]), (.aload_n 0, 138, []), (.getfield 13, 139, [2, 2, 2, 1, 45]), (.iload 4, 142, []),
  (.iaload, 144, [20]), (.invokestatic 34, 145, [0, 10, 3, 1, 3, 0, 0, 0, 4, 152]), (.iastore, 148, []), (.nop, 149, [82, 1, 1, 1, 1, 1, 1, 0]), (.iinc 5 1, 149, [1, 1]), (.goto (-137), 152, [0, 10, 1, 1, 1, 1, 1, 1, 0]),
  (.aload_n 0, 155, []), (.getfield 13, 156, [2, 2, 2, 1, 45]), (.iconst 0, 159, [1, 0]), (.iaload, 160, [20]), (.ireturn, 161, [0])
  ]
noncomputable def k_Formula_isUnit : List Ent := [
  (.iload_n 0, 0, []), (.ifCond .lt 21, 1, [1, 9]), (.iload_n 0, 4, []), (.bipush 115, 5, [1, 115]), (.if_icmp .eq 15, 7, [1, 6]), (.iload_n 0, 10, []),
  (.bipush 116, 11, [1, 116]), (.if_icmp .eq 9, 13, [1, 3]), (.iload_n 0, 16, []), (.bipush 117, 17, [1, 117]), (.if_icmp .ne 7, 19, [1, 3]), (.nop, 22, [12, 0]),
  (.iconst 1, 22, [1, 1]), (.goto 4, 23, [1, 1]), (.iconst 0, 26, [1, 0]), (.ireturn, 27, [1])
  ]
noncomputable def k_Formula_unitWorth : List Ent := [
  (.iload_n 0, 0, []), (.tableswitch 33 115 117 #[27, 29, 31], 1, [6, 0, 2, 4]), (.iload_n 1, 28, []), (.ireturn, 29, [0]), (.iload_n 2, 30, []), (.ireturn, 31, [0]),
  (.iload_n 3, 32, []), (.ireturn, 33, [0]), (.iconst (-1), 34, [0, 1]), (.iload_n 0, 35, []), (.isub, 36, []), (.ireturn, 37, [0])
  ]
noncomputable def k_Formula_reckon : List Ent := [
  (.iload_n 0, 0, []), (.lookupswitch 166 #[(37, 107), (42, 91), (43, 83), (45, 87), (47, 95), (60, 119), (61, 141), (62, 130), (109, 152)], 1, [57, 20, 8, 0, 4, 12, 28, 42, 35, 49]), (.iload_n 1, 84, []), (.iload_n 2, 85, []), (.iadd, 86, []), (.ireturn, 87, [0]),
  (.iload_n 1, 88, []), (.iload_n 2, 89, []), (.isub, 90, []), (.ireturn, 91, [0]), (.iload_n 1, 92, []), (.iload_n 2, 93, []),
  (.imul, 94, []), (.ireturn, 95, [0]), (.iload_n 2, 96, []), (.ifCond .ne 7, 97, [1, 2]), (.iconst 0, 100, [1, 0]), (.goto 6, 101, [1, 3]),
  (.iload_n 1, 104, []), (.iload_n 2, 105, []), (.idiv, 106, []), (.ireturn, 107, [0]), (.iload_n 2, 108, []), (.ifCond .ne 7, 109, [1, 2]),
  (.iconst 0, 112, [1, 0]), (.goto 6, 113, [1, 3]), (.iload_n 1, 116, []), (.iload_n 2, 117, []), (.irem, 118, []), (.ireturn, 119, [0]),
  (.iload_n 1, 120, []), (.iload_n 2, 121, []), (.if_icmp .ge 7, 122, [1, 2]), (.iconst 1, 125, [1, 1]), (.goto 4, 126, [1, 1]), (.iconst 0, 129, [1, 0]),
  (.ireturn, 130, [0]), (.iload_n 1, 131, []), (.iload_n 2, 132, []), (.if_icmp .le 7, 133, [1, 2]), (.iconst 1, 136, [1, 1]), (.goto 4, 137, [1, 1]),
  (.iconst 0, 140, [1, 0]), (.ireturn, 141, [0]), (.iload_n 1, 142, []), (.iload_n 2, 143, []), (.if_icmp .ne 7, 144, [1, 2]), (.iconst 1, 147, [1, 1]),
  (.goto 4, 148, [1, 1]), (.iconst 0, 151, [1, 0]), (.ireturn, 152, [0]), (.iload_n 1, 153, []), (.ifCond .eq 11, 154, [1, 4]), (.iload_n 2, 157, []),
  (.ifCond .eq 7, 158, [1, 2]), (.iconst 1, 161, [1, 1]), (.goto 4, 162, [1, 1]), (.iconst 0, 165, [1, 0]), (.ireturn, 166, [0]), (.iload_n 1, 167, []),
  (.ifCond .ne 7, 168, [1, 2]), (.iload_n 2, 171, []), (.ifCond .eq 7, 172, [1, 3]), (.nop, 175, [64, 0, 0, 0]), (.iconst 1, 175, [1, 1]), (.goto 4, 176, [1, 1]),
  (.iconst 0, 179, [1, 0]), (.ireturn, 180, [0])
  ]
noncomputable def k_Grid_init : List Ent := [
  (.aload_n 0, 0, []), (.invokespecial 3, 1, [3, 1, 61]), (.aload_n 0, 4, []), (.bipush 16, 5, [1, 16]), (.newarray .int, 7, [20, 1, 54]), (.putfield 9, 9, [3, 0, 2, 1, 62]),
  (.return_, 12, [])
  ]
noncomputable def k_Grid_clear : List Ent := [
  (.aload_n 0, 0, []), (.iconst 0, 1, [1, 0]), (.iload_n 1, 2, []), (.bipush 16, 3, [1, 16]), (.invokestatic 15, 5, [5, 2, 236]), (.invokestatic 21, 8, [4, 2, 239]),
  (.putfield 24, 11, [3, 1, 0, 1, 70]), (.aload_n 0, 14, []), (.getfield 9, 15, [3, 0, 2, 1, 62]), (.iconst 0, 18, [1, 0]), (.invokestatic 28, 19, [0, 343, 2, 0, 4, 0, 0, 0, 3, 2]), (.return_, 22, [])
  ]
noncomputable def k_Grid_copyFrom : List Ent := [
  (.aload_n 0, 0, []), (.aload_n 1, 1, []), (.getfield 24, 2, [3, 1, 0, 1, 70]), (.putfield 24, 5, [3, 1, 0, 1, 70]), (.aload_n 1, 8, []), (.getfield 9, 9, [3, 0, 2, 1, 62]),
  (.iconst 0, 12, [1, 0]), (.aload_n 0, 13, []), (.getfield 9, 14, [3, 0, 2, 1, 62]), (.iconst 0, 17, [1, 0]), (.bipush 16, 18, [1, 16]), (.invokestatic 34, 20, [6, 2, 213]),
  (.return_, 23, [])
  ]
noncomputable def k_Grid_isInside : List Ent := [
  (.iload_n 1, 0, []), (.ifCond .lt 27, 1, [1, 12]), (.iload_n 1, 4, []), (.aload_n 0, 5, []), (.getfield 24, 6, [3, 1, 0, 1, 70]), (.if_icmp .ge 19, 9, [1, 8]),
  (.iload_n 2, 12, []), (.ifCond .lt 15, 13, [1, 6]), (.iload_n 2, 16, []), (.aload_n 0, 17, []), (.getfield 24, 18, [3, 1, 0, 1, 70]), (.if_icmp .ge 7, 21, [1, 2]),
  (.iconst 1, 24, [1, 1]), (.goto 4, 25, [1, 1]), (.iconst 0, 28, [1, 0]), (.ireturn, 29, [1])
  ]
noncomputable def k_Grid_holds : List Ent := [
  (.aload_n 0, 0, []), (.iload_n 1, 1, []), (.iload_n 2, 2, []), (.invokevirtual 40, 3, [1, 14, 2, 1, 3, 3, 0, 0, 4, 5]), (.ifCond .eq 21, 6, [1, 12]), (.aload_n 0, 9, []),
  (.getfield 9, 10, [3, 0, 2, 1, 62]), (.iload_n 1, 13, []), (.iaload, 14, [20]), (.iload_n 2, 15, []), (.ishr, 16, []), (.iconst 1, 17, [1, 1]),
  (.iand, 18, []), (.iconst 1, 19, [1, 1]), (.if_icmp .ne 7, 20, [1, 2]), (.iconst 1, 23, [1, 1]), (.goto 4, 24, [1, 1]), (.iconst 0, 27, [1, 0]),
  (.ireturn, 28, [1])
  ]
noncomputable def k_Grid_turn : List Ent := [
  (.aload_n 0, 0, []), (.iload_n 1, 1, []), (.iload_n 2, 2, []), (.invokevirtual 40, 3, [1, 14, 2, 1, 3, 3, 0, 0, 4, 5]), (.ifCond .eq 15, 6, [1, 10]), (.aload_n 0, 9, []),
  (.getfield 9, 10, [3, 0, 2, 1, 62]), (.iload_n 1, 13, []), (.dup2, 14, []), (.iaload, 15, [20]), (.iconst 1, 16, [1, 1]), (.iload_n 2, 17, []),
  (.ishl, 18, []), (.ixor, 19, []), (.iastore, 20, []), (.return_, 21, [])
  ]
noncomputable def k_Grid_add : List Ent := [
  (.aload_n 0, 0, []), (.iload_n 1, 1, []), (.iload_n 2, 2, []), (.invokevirtual 40, 3, [1, 14, 2, 1, 3, 3, 0, 0, 4, 5]), (.ifCond .eq 15, 6, [1, 10]), (.aload_n 0, 9, []),
  (.getfield 9, 10, [3, 0, 2, 1, 62]), (.iload_n 1, 13, []), (.dup2, 14, []), (.iaload, 15, [20]), (.iconst 1, 16, [1, 1]), (.iload_n 2, 17, []),
  (.ishl, 18, []), (.ior, 19, []), (.iastore, 20, []), (.return_, 21, [])
  ]
noncomputable def k_Grid_fillSame : List Ent := [
  (.aload_n 0, 0, []), (.iload_n 1, 1, []), (.invokevirtual 44, 2, [1, 12, 1, 0, 2, 3, 0, 0, 2, 232]), (.iconst 0, 5, [1, 0]), (.istore_n 2, 6, []), (.nop, 7, [6, 1, 0, 1]),
  (.iload_n 2, 7, []), (.aload_n 0, 8, []), (.getfield 24, 9, [3, 1, 0, 1, 70]), (.if_icmp .ge 18, 12, [1, 9]), (.aload_n 0, 15, []), (.getfield 9, 16, [3, 0, 2, 1, 62]),
  (.iload_n 2, 19, []), (.iconst 1, 20, [1, 1]), (.iload_n 2, 21, []), (.ishl, 22, []), (.iastore, 23, []), (.iinc 2 1, 24, [1, 1]),
  (.goto (-20), 27, [0, 6, 1, 0, 1]), (.return_, 30, [])
  ]
noncomputable def k_Grid_fillAll : List Ent := [
  (.aload_n 0, 0, []), (.iload_n 1, 1, []), (.invokevirtual 44, 2, [1, 12, 1, 0, 2, 3, 0, 0, 2, 232]), (.iconst 0, 5, [1, 0]), (.istore_n 2, 6, []), (.nop, 7, [6, 1, 0, 1]),
  (.iload_n 2, 7, []), (.aload_n 0, 8, []), (.getfield 24, 9, [3, 1, 0, 1, 70]), (.if_icmp .ge 23, 12, [1, 12]), (.aload_n 0, 15, []), (.getfield 9, 16, [3, 0, 2, 1, 62]),
  (.iload_n 2, 19, []), (.iconst 1, 20, [1, 1]), (.aload_n 0, 21, []), (.getfield 24, 22, [3, 1, 0, 1, 70]), (.ishl, 25, []), (.iconst 1, 26, [1, 1]),
  (.isub, 27, []), (.iastore, 28, []), (.iinc 2 1, 29, [1, 1]), (.goto (-25), 32, [0, 6, 1, 0, 1]), (.return_, 35, [])
  ]
noncomputable def k_Grid_join : List Ent := [
  (.aload_n 0, 0, []), (.aload_n 2, 1, []), (.getfield 24, 2, [3, 1, 0, 1, 70]), (.invokevirtual 44, 5, [1, 12, 1, 0, 2, 3, 0, 0, 2, 232]), (.iconst 0, 8, [1, 0]), (.istore 4, 9, []),
  (.nop, 11, [7, 1, 1, 1, 1, 1, 0]), (.iload 4, 11, []), (.aload_n 0, 13, []), (.getfield 24, 14, [3, 1, 0, 1, 70]), (.if_icmp .ge 143, 17, [1, 62]), (.aload_n 2, 20, []),
  (.getfield 9, 21, [3, 0, 2, 1, 62]), (.iload 4, 24, []), (.iaload, 26, [20]), (.istore 5, 27, []), (.iload_n 1, 29, []), (.tableswitch 108 0 3 #[30, 50, 70, 92], 30, [43, 0, 11, 22, 35]),
  (.aload_n 0, 60, []), (.getfield 9, 61, [3, 0, 2, 1, 62]), (.iload 4, 64, []), (.iload 5, 66, []), (.aload_n 3, 68, []), (.getfield 9, 69, [3, 0, 2, 1, 62]),
  (.iload 4, 72, []), (.iaload, 74, [20]), (.ior, 75, []), (.iastore, 76, []), (.goto 77, 77, [1, 41]), (.aload_n 0, 80, []),
  (.getfield 9, 81, [3, 0, 2, 1, 62]), (.iload 4, 84, []), (.iload 5, 86, []), (.aload_n 3, 88, []), (.getfield 9, 89, [3, 0, 2, 1, 62]), (.iload 4, 92, []),
  (.iaload, 94, [20]), (.iand, 95, []), (.iastore, 96, []), (.goto 57, 97, [1, 30]), (.aload_n 0, 100, []), (.getfield 9, 101, [3, 0, 2, 1, 62]),
  (.iload 4, 104, []), (.iload 5, 106, []), (.aload_n 3, 108, []), (.getfield 9, 109, [3, 0, 2, 1, 62]), (.iload 4, 112, []), (.iaload, 114, [20]),
  (.iconst (-1), 115, [0, 1]), (.ixor, 116, []), (.iand, 117, []), (.iastore, 118, []), (.goto 35, 119, [1, 17]), (.aload_n 0, 122, []),
  (.getfield 9, 123, [3, 0, 2, 1, 62]), (.iload 4, 126, []), (.aload_n 3, 128, []), (.iload 5, 129, []), (.invokevirtual 48, 131, [1, 22, 1, 1, 4, 3, 0, 0, 3, 25]), (.iastore, 134, []),
  (.goto 19, 135, [1, 9]), (.aload_n 0, 138, []), (.getfield 9, 139, [3, 0, 2, 1, 62]), (.iload 4, 142, []), (.iload 5, 144, []), (.aload_n 3, 146, []),
  (.iload 4, 147, []), (.invokevirtual 52, 149, [1, 23, 1, 1, 4, 3, 0, 0, 3, 17]), (.ior, 152, []), (.iastore, 153, []), (.nop, 154, [71, 1, 1, 1, 1, 1, 0]), (.iinc 4 1, 154, [1, 1]),
  (.goto (-146), 157, [0, 7, 1, 1, 1, 1, 1, 0]), (.return_, 160, [])
  ]
noncomputable def k_Grid_changeOver : List Ent := [
  (.aload_n 0, 0, []), (.aload_n 1, 1, []), (.getfield 24, 2, [3, 1, 0, 1, 70]), (.invokevirtual 44, 5, [1, 12, 1, 0, 2, 3, 0, 0, 2, 232]), (.iconst 0, 8, [1, 0]), (.istore_n 2, 9, []),
  (.nop, 10, [7, 1, 1, 1]), (.iload_n 2, 10, []), (.aload_n 0, 11, []), (.getfield 24, 12, [3, 1, 0, 1, 70]), (.if_icmp .ge 20, 15, [1, 9]), (.aload_n 0, 18, []),
  (.getfield 9, 19, [3, 0, 2, 1, 62]), (.iload_n 2, 22, []), (.aload_n 1, 23, []), (.iload_n 2, 24, []), (.invokevirtual 52, 25, [1, 23, 1, 1, 4, 3, 0, 0, 3, 17]), (.iastore, 28, []),
  (.iinc 2 1, 29, [1, 1]), (.goto (-22), 32, [0, 7, 1, 1, 1]), (.return_, 35, [])
  ]
noncomputable def k_Grid_stepFrom : List Ent := [
  (.iconst 0, 0, [1, 0]), (.istore_n 2, 1, []), (.iconst 0, 2, [1, 0]), (.istore_n 3, 3, []), (.nop, 4, [5, 1, 1, 1, 1]), (.iload_n 3, 4, []),
  (.aload_n 0, 5, []), (.getfield 24, 6, [3, 1, 0, 1, 70]), (.if_icmp .ge 27, 9, [1, 17]), (.iload_n 1, 12, []), (.iload_n 3, 13, []), (.ishr, 14, []),
  (.iconst 1, 15, [1, 1]), (.iand, 16, []), (.iconst 1, 17, [1, 1]), (.if_icmp .ne 12, 18, [1, 7]), (.iload_n 2, 21, []), (.aload_n 0, 22, []),
  (.getfield 9, 23, [3, 0, 2, 1, 62]), (.iload_n 3, 26, []), (.iaload, 27, [20]), (.ior, 28, []), (.istore_n 2, 29, []), (.nop, 30, [24, 1, 1, 1, 1]),
  (.iinc 3 1, 30, [1, 1]), (.goto (-29), 33, [0, 5, 1, 1, 1, 1]), (.iload_n 2, 36, []), (.ireturn, 37, [0])
  ]
noncomputable def k_Grid_rowsWith : List Ent := [
  (.iconst 0, 0, [1, 0]), (.istore_n 2, 1, []), (.iconst 0, 2, [1, 0]), (.istore_n 3, 3, []), (.nop, 4, [5, 1, 1, 1, 1]), (.iload_n 3, 4, []),
  (.aload_n 0, 5, []), (.getfield 24, 6, [3, 1, 0, 1, 70]), (.if_icmp .ge 29, 9, [1, 19]), (.aload_n 0, 12, []), (.getfield 9, 13, [3, 0, 2, 1, 62]), (.iload_n 3, 16, []),
  (.iaload, 17, [20]), (.iload_n 1, 18, []), (.ishr, 19, []), (.iconst 1, 20, [1, 1]), (.iand, 21, []), (.iconst 1, 22, [1, 1]),
  (.if_icmp .ne 9, 23, [1, 6]), (.iload_n 2, 26, []), (.iconst 1, 27, [1, 1]), (.iload_n 3, 28, []), (.ishl, 29, []), (.ior, 30, []),
  (.istore_n 2, 31, []), (.nop, 32, [26, 1, 1, 1, 1]), (.iinc 3 1, 32, [1, 1]), (.goto (-31), 35, [0, 5, 1, 1, 1, 1]), (.iload_n 2, 38, []), (.ireturn, 39, [0])
  ]
noncomputable def k_Grid_count : List Ent := [
  (.iconst 0, 0, [1, 0]), (.istore_n 1, 1, []), (.iconst 0, 2, [1, 0]), (.istore_n 2, 3, []), (.nop, 4, [5, 1, 1, 1]), (.iload_n 2, 4, []),
  (.aload_n 0, 5, []), (.getfield 24, 6, [3, 1, 0, 1, 70]), (.if_icmp .ge 21, 9, [1, 10]), (.iload_n 1, 12, []), (.aload_n 0, 13, []), (.getfield 9, 14, [3, 0, 2, 1, 62]),
  (.iload_n 2, 17, []), (.iaload, 18, [20]), (.invokestatic 55, 19, [0, 331, 1, 1, 1, 0, 0, 0, 4, 106]), (.iadd, 22, []), (.istore_n 1, 23, []), (.iinc 2 1, 24, [1, 1]),
  (.goto (-23), 27, [0, 5, 1, 1, 1]), (.iload_n 1, 30, []), (.ireturn, 31, [0])
  ]
noncomputable def k_Grid_countIn : List Ent := [
  (.iconst 1, 0, [1, 1]), (.iload 4, 1, []), (.iconst 1, 3, [1, 1]), (.iadd, 4, []), (.ishl, 5, []), (.iconst 1, 6, [1, 1]),
  (.iload_n 3, 7, []), (.ishl, 8, []), (.isub, 9, []), (.istore 5, 10, []), (.iconst 0, 12, [1, 0]), (.istore 6, 13, []),
  (.iconst 0, 15, [1, 0]), (.iload_n 1, 16, []), (.invokestatic 21, 17, [4, 2, 239]), (.istore 7, 20, []), (.nop, 22, [17, 1, 0, 1, 0, 0, 1, 1, 1]), (.iload 7, 22, []),
  (.iload_n 2, 24, []), (.if_icmp .gt 36, 25, [1, 16]), (.iload 7, 28, []), (.aload_n 0, 30, []), (.getfield 24, 31, [3, 1, 0, 1, 70]), (.if_icmp .ge 27, 34, [1, 12]),
  (.iload 6, 37, []), (.aload_n 0, 39, []), (.getfield 9, 40, [3, 0, 2, 1, 62]), (.iload 7, 43, []), (.iaload, 45, [20]), (.iload 5, 46, []),
  (.iand, 48, []), (.invokestatic 55, 49, [0, 331, 1, 1, 1, 0, 0, 0, 4, 106]), (.iadd, 52, []), (.istore 6, 53, []), (.iinc 7 1, 55, [1, 1]), (.goto (-36), 58, [0, 17, 1, 0, 1, 0, 0, 1, 1, 1]),
  (.iload 6, 61, []), (.ireturn, 63, [0])
  ]
noncomputable def k_Grid_countInBlock : List Ent := [
  (.iconst 1, 0, [1, 1]), (.iload_n 3, 1, []), (.iload_n 2, 2, []), (.isub, 3, []), (.ishl, 4, []), (.istore 4, 5, []),
  (.iload_n 1, 7, []), (.iload_n 2, 8, []), (.ishr, 9, []), (.iload 4, 10, []), (.imul, 12, []), (.istore 5, 13, []),
  (.iload_n 1, 15, []), (.iconst 1, 16, [1, 1]), (.iload_n 2, 17, []), (.ishl, 18, []), (.iconst 1, 19, [1, 1]), (.isub, 20, []),
  (.iand, 21, []), (.iload 4, 22, []), (.imul, 24, []), (.istore 6, 25, []), (.aload_n 0, 27, []), (.iload 5, 28, []),
  (.iload 5, 30, []), (.iload 4, 32, []), (.iadd, 34, []), (.iconst 1, 35, [1, 1]), (.isub, 36, []), (.iload 6, 37, []),
  (.iload 6, 39, []), (.iload 4, 41, []), (.iadd, 43, []), (.iconst 1, 44, [1, 1]), (.isub, 45, []), (.invokevirtual 60, 46, [1, 25, 4, 1, 8, 3, 0, 0, 5, 164]),
  (.ireturn, 49, [0])
  ]
noncomputable def k_Grid_fullestBlock : List Ent := [
  (.iconst 0, 0, [1, 0]), (.istore_n 3, 1, []), (.iconst (-1), 2, [0, 1]), (.istore 4, 3, []), (.iconst 0, 5, [1, 0]), (.istore 5, 6, []),
  (.nop, 8, [7, 1, 1, 1, 1, 1, 1, 0]), (.iload 5, 8, []), (.iconst 1, 10, [1, 1]), (.iconst 2, 11, [1, 2]), (.iload_n 1, 12, []), (.imul, 13, []),
  (.ishl, 14, []), (.if_icmp .ge 33, 15, [1, 16]), (.aload_n 0, 18, []), (.iload 5, 19, []), (.iload_n 1, 21, []), (.iload_n 2, 22, []),
  (.invokevirtual 64, 23, [1, 26, 3, 1, 7, 3, 0, 0, 5, 160]), (.istore 6, 26, []), (.iload 6, 28, []), (.iload 4, 30, []), (.if_icmp .le 10, 32, [1, 4]), (.iload 6, 35, []),
  (.istore 4, 37, []), (.iload 5, 39, []), (.istore_n 3, 41, []), (.nop, 42, [28, 1, 1, 1, 1, 1, 1, 0]), (.iinc 5 1, 42, [1, 1]), (.goto (-37), 45, [0, 7, 1, 1, 1, 1, 1, 1, 0]),
  (.iload_n 3, 48, []), (.ireturn, 49, [0])
  ]
noncomputable def k_Grid_findPair : List Ent := [
  (.iload_n 1, 0, []), (.istore_n 2, 1, []), (.iconst 0, 2, [1, 0]), (.istore_n 3, 3, []), (.nop, 4, [5, 1, 0, 1, 1, 0]), (.iload_n 3, 4, []),
  (.aload_n 0, 5, []), (.getfield 24, 6, [3, 1, 0, 1, 70]), (.if_icmp .ge 52, 9, [1, 26]), (.iconst 0, 12, [1, 0]), (.istore 4, 13, []), (.nop, 15, [12, 1, 0, 1, 1, 1]),
  (.iload 4, 15, []), (.aload_n 0, 17, []), (.getfield 24, 18, [3, 1, 0, 1, 70]), (.if_icmp .ge 34, 21, [1, 17]), (.aload_n 0, 24, []), (.iload_n 3, 25, []),
  (.iload 4, 26, []), (.invokevirtual 68, 28, [1, 15, 2, 1, 3, 3, 0, 0, 5, 138]), (.ifCond .eq 18, 31, [1, 9]), (.iload_n 2, 34, []), (.ifCond .ne 11, 35, [1, 6]), (.bipush 16, 38, [1, 16]),
  (.iload_n 3, 40, []), (.imul, 41, []), (.iload 4, 42, []), (.iadd, 44, []), (.ireturn, 45, [0]), (.iinc 2 (-1), 46, [0, 1]),
  (.nop, 49, [31, 1, 0, 1, 1, 1]), (.iinc 4 1, 49, [1, 1]), (.goto (-37), 52, [0, 12, 1, 0, 1, 1, 1]), (.iinc 3 1, 55, [1, 1]), (.goto (-54), 58, [0, 5, 1, 0, 1, 1, 0]), (.iconst (-1), 61, [0, 1]),
  (.ireturn, 62, [0])
  ]
noncomputable def k_Grid_isWithin : List Ent := [
  (.iconst 0, 0, [1, 0]), (.istore_n 2, 1, []), (.nop, 2, [3, 1, 1, 1]), (.iload_n 2, 2, []), (.aload_n 0, 3, []), (.getfield 24, 4, [3, 1, 0, 1, 70]),
  (.if_icmp .ge 29, 7, [1, 16]), (.aload_n 0, 10, []), (.getfield 9, 11, [3, 0, 2, 1, 62]), (.iload_n 2, 14, []), (.iaload, 15, [20]), (.aload_n 1, 16, []),
  (.getfield 9, 17, [3, 0, 2, 1, 62]), (.iload_n 2, 20, []), (.iaload, 21, [20]), (.iconst (-1), 22, [0, 1]), (.ixor, 23, []), (.iand, 24, []),
  (.ifCond .eq 5, 25, [1, 2]), (.iconst 0, 28, [1, 0]), (.ireturn, 29, [1]), (.iinc 2 1, 30, [1, 1]), (.goto (-31), 33, [0, 3, 1, 1, 1]), (.iconst 1, 36, [1, 1]),
  (.ireturn, 37, [1])
  ]
noncomputable def k_Grid_hasEachOwn : List Ent := [
  (.iconst 0, 0, [1, 0]), (.istore_n 1, 1, []), (.nop, 2, [3, 1, 1]), (.iload_n 1, 2, []), (.aload_n 0, 3, []), (.getfield 24, 4, [3, 1, 0, 1, 70]),
  (.if_icmp .ge 20, 7, [1, 9]), (.aload_n 0, 10, []), (.iload_n 1, 11, []), (.iload_n 1, 12, []), (.invokevirtual 68, 13, [1, 15, 2, 1, 3, 3, 0, 0, 5, 138]), (.ifCond .ne 5, 16, [1, 2]),
  (.iconst 0, 19, [1, 0]), (.ireturn, 20, [1]), (.iinc 1 1, 21, [1, 1]), (.goto (-22), 24, [0, 3, 1, 1]), (.iconst 1, 27, [1, 1]), (.ireturn, 28, [1])
  ]
noncomputable def k_Grid_isEven : List Ent := [
  (.iconst 0, 0, [1, 0]), (.istore_n 1, 1, []), (.nop, 2, [3, 1, 1]), (.iload_n 1, 2, []), (.aload_n 0, 3, []), (.getfield 24, 4, [3, 1, 0, 1, 70]),
  (.if_icmp .ge 25, 7, [1, 12]), (.aload_n 0, 10, []), (.getfield 9, 11, [3, 0, 2, 1, 62]), (.iload_n 1, 14, []), (.iaload, 15, [20]), (.aload_n 0, 16, []),
  (.iload_n 1, 17, []), (.invokevirtual 52, 18, [1, 23, 1, 1, 4, 3, 0, 0, 3, 17]), (.if_icmp .eq 5, 21, [1, 2]), (.iconst 0, 24, [1, 0]), (.ireturn, 25, [1]), (.iinc 1 1, 26, [1, 1]),
  (.goto (-27), 29, [0, 3, 1, 1]), (.iconst 1, 32, [1, 1]), (.ireturn, 33, [1])
  ]
noncomputable def k_Grid_mostInARow : List Ent := [
  (.iconst 0, 0, [1, 0]), (.istore_n 1, 1, []), (.iconst 0, 2, [1, 0]), (.istore_n 2, 3, []), (.nop, 4, [5, 1, 1, 1]), (.iload_n 2, 4, []),
  (.aload_n 0, 5, []), (.getfield 24, 6, [3, 1, 0, 1, 70]), (.if_icmp .ge 23, 9, [1, 10]), (.iload_n 1, 12, []), (.aload_n 0, 13, []), (.getfield 9, 14, [3, 0, 2, 1, 62]),
  (.iload_n 2, 17, []), (.iaload, 18, [20]), (.invokestatic 55, 19, [0, 331, 1, 1, 1, 0, 0, 0, 4, 106]), (.invokestatic 21, 22, [4, 2, 239]), (.istore_n 1, 25, []), (.iinc 2 1, 26, [1, 1]),
  (.goto (-25), 29, [0, 5, 1, 1, 1]), (.iload_n 1, 32, []), (.ireturn, 33, [0])
  ]
noncomputable def k_Grid_leastInARow : List Ent := [
  (.aload_n 0, 0, []), (.getfield 24, 1, [3, 1, 0, 1, 70]), (.istore_n 1, 4, []), (.iconst 0, 5, [1, 0]), (.istore_n 2, 6, []), (.nop, 7, [6, 1, 1, 1]),
  (.iload_n 2, 7, []), (.aload_n 0, 8, []), (.getfield 24, 9, [3, 1, 0, 1, 70]), (.if_icmp .ge 23, 12, [1, 10]), (.iload_n 1, 15, []), (.aload_n 0, 16, []),
  (.getfield 9, 17, [3, 0, 2, 1, 62]), (.iload_n 2, 20, []), (.iaload, 21, [20]), (.invokestatic 55, 22, [0, 331, 1, 1, 1, 0, 0, 0, 4, 106]), (.invokestatic 15, 25, [5, 2, 236]), (.istore_n 1, 28, []),
  (.iinc 2 1, 29, [1, 1]), (.goto (-25), 32, [0, 6, 1, 1, 1]), (.iload_n 1, 35, []), (.ireturn, 36, [0])
  ]
noncomputable def k_Grid_mostInAColumn : List Ent := [
  (.iconst 0, 0, [1, 0]), (.istore_n 1, 1, []), (.iconst 0, 2, [1, 0]), (.istore_n 2, 3, []), (.nop, 4, [5, 1, 1, 1]), (.iload_n 2, 4, []),
  (.aload_n 0, 5, []), (.getfield 24, 6, [3, 1, 0, 1, 70]), (.if_icmp .ge 22, 9, [1, 9]), (.iload_n 1, 12, []), (.aload_n 0, 13, []), (.iload_n 2, 14, []),
  (.invokevirtual 52, 15, [1, 23, 1, 1, 4, 3, 0, 0, 3, 17]), (.invokestatic 55, 18, [0, 331, 1, 1, 1, 0, 0, 0, 4, 106]), (.invokestatic 21, 21, [4, 2, 239]), (.istore_n 1, 24, []), (.iinc 2 1, 25, [1, 1]), (.goto (-24), 28, [0, 5, 1, 1, 1]),
  (.iload_n 1, 31, []), (.ireturn, 32, [0])
  ]
noncomputable def k_Grid_halve : List Ent := [
  (.aload_n 0, 0, []), (.aload_n 1, 1, []), (.getfield 24, 2, [3, 1, 0, 1, 70]), (.iconst 2, 5, [1, 2]), (.idiv, 6, []), (.invokevirtual 44, 7, [1, 12, 1, 0, 2, 3, 0, 0, 2, 232]),
  (.iconst 0, 10, [1, 0]), (.istore_n 2, 11, []), (.nop, 12, [9, 1, 1, 1, 0, 0]), (.iload_n 2, 12, []), (.aload_n 0, 13, []), (.getfield 24, 14, [3, 1, 0, 1, 70]),
  (.if_icmp .ge 71, 17, [1, 46]), (.aload_n 1, 20, []), (.getfield 9, 21, [3, 0, 2, 1, 62]), (.iconst 2, 24, [1, 2]), (.iload_n 2, 25, []), (.imul, 26, []),
  (.iaload, 27, [20]), (.aload_n 1, 28, []), (.getfield 9, 29, [3, 0, 2, 1, 62]), (.iconst 2, 32, [1, 2]), (.iload_n 2, 33, []), (.imul, 34, []),
  (.iconst 1, 35, [1, 1]), (.iadd, 36, []), (.iaload, 37, [20]), (.ior, 38, []), (.istore_n 3, 39, []), (.iconst 0, 40, [1, 0]),
  (.istore 4, 41, []), (.nop, 43, [32, 1, 1, 1, 1, 1]), (.iload 4, 43, []), (.aload_n 0, 45, []), (.getfield 24, 46, [3, 1, 0, 1, 70]), (.if_icmp .ge 33, 49, [1, 21]),
  (.iload_n 3, 52, []), (.iconst 2, 53, [1, 2]), (.iload 4, 54, []), (.imul, 56, []), (.ishr, 57, []), (.iconst 3, 58, [1, 3]),
  (.iand, 59, []), (.ifCond .eq 16, 60, [1, 10]), (.aload_n 0, 63, []), (.getfield 9, 64, [3, 0, 2, 1, 62]), (.iload_n 2, 67, []), (.dup2, 68, []),
  (.iaload, 69, [20]), (.iconst 1, 70, [1, 1]), (.iload 4, 71, []), (.ishl, 73, []), (.ior, 74, []), (.iastore, 75, []),
  (.nop, 76, [55, 1, 1, 1, 1, 1]), (.iinc 4 1, 76, [1, 1]), (.goto (-36), 79, [0, 32, 1, 1, 1, 1, 1]), (.iinc 2 1, 82, [1, 1]), (.goto (-73), 85, [0, 9, 1, 1, 1, 0, 0]), (.return_, 88, [])
  ]
noncomputable def k_History_init : List Ent := [
  (.aload_n 0, 0, []), (.invokespecial 3, 1, [3, 2, 50]), (.aload_n 0, 4, []), (.bipush 40, 5, [1, 40]), (.newarray .int, 7, [20, 1, 54]), (.putfield 9, 9, [4, 3, 2, 2, 58]),
  (.aload_n 0, 12, []), (.bipush 40, 13, [1, 40]), (.bipush 16, 15, [1, 16]), (.multianewarray 15 2, 17, [26, 2, 51]), (.putfield 17, 21, [4, 4, 2, 2, 59]), (.nop, 24, [12, 1]),
  (.aload_n 0, 24, []), (.bipush 40, 25, [1, 40]), (.newarray .int, 27, [20, 1, 54]), (.putfield 20, 29, [4, 5, 2, 2, 60]), (.aload_n 0, 32, []), (.bipush 40, 33, [1, 40]),
  (.newarray .int, 35, [20, 1, 54]), (.putfield 23, 37, [4, 6, 2, 2, 61]), (.nop, 40, [21, 0]), (.return_, 40, [])
  ]
noncomputable def k_History_forget : List Ent := [
  (.aload_n 0, 0, []), (.iconst 0, 1, [1, 0]), (.putfield 26, 2, [4, 0, 0, 2, 53]), (.aload_n 0, 5, []), (.iconst 0, 6, [1, 0]), (.putfield 30, 7, [4, 1, 0, 2, 55]),
  (.aload_n 0, 10, []), (.iconst 0, 11, [1, 0]), (.putfield 33, 12, [4, 2, 0, 2, 57]), (.return_, 15, [])
  ]
noncomputable def k_History_slotOf : List Ent := [
  (.aload_n 0, 0, []), (.getfield 33, 1, [4, 2, 0, 2, 57]), (.iload_n 1, 4, []), (.iadd, 5, []), (.bipush 40, 6, [1, 40]), (.irem, 8, []),
  (.ireturn, 9, [0])
  ]
noncomputable def k_History_add : List Ent := [
  (.aload_n 0, 0, []), (.getfield 30, 1, [4, 1, 0, 2, 55]), (.bipush 40, 4, [1, 40]), (.if_icmp .lt 18, 6, [1, 8]), (.aload_n 0, 9, []), (.aload_n 0, 10, []),
  (.iconst 1, 11, [1, 1]), (.invokevirtual 36, 12, [1, 38, 1, 1, 2, 4, 0, 0, 4, 188]), (.putfield 33, 15, [4, 2, 0, 2, 57]), (.aload_n 0, 18, []), (.bipush 39, 19, [1, 39]), (.putfield 30, 21, [4, 1, 0, 2, 55]),
  (.nop, 24, [13, 1, 1, 1, 1, 1, 0, 0]), (.aload_n 0, 24, []), (.aload_n 0, 25, []), (.getfield 30, 26, [4, 1, 0, 2, 55]), (.invokevirtual 36, 29, [1, 38, 1, 1, 2, 4, 0, 0, 4, 188]), (.istore 5, 32, []),
  (.aload_n 0, 34, []), (.getfield 9, 35, [4, 3, 2, 2, 58]), (.iload 5, 38, []), (.iload_n 1, 40, []), (.iastore, 41, []), (.aload_n 0, 42, []),
  (.getfield 20, 43, [4, 5, 2, 2, 60]), (.iload 5, 46, []), (.aload_n 2, 48, []), (.getfield 40, 49, [7, 1, 0, 2, 29]), (.iastore, 52, []), (.aload_n 0, 53, []),
  (.getfield 23, 54, [4, 6, 2, 2, 61]), (.iload 5, 57, []), (.iload 4, 59, []), (.iastore, 61, []), (.iconst 0, 62, [1, 0]), (.istore 6, 63, []),
  (.nop, 65, [37, 1, 1, 1, 1, 0, 1, 1]), (.iload 6, 65, []), (.bipush 16, 67, [1, 16]), (.if_icmp .ge 48, 69, [1, 25]), (.iload_n 1, 72, []), (.ifCond .lt 44, 73, [1, 23]),
  (.iload_n 1, 76, []), (.iconst 5, 77, [1, 5]), (.if_icmp .ge 39, 78, [1, 20]), (.aload_n 0, 81, []), (.getfield 17, 82, [4, 4, 2, 2, 59]), (.iload 5, 85, []),
  (.aaload, 87, [26]), (.iload 6, 88, []), (.aload_n 2, 90, []), (.getfield 45, 91, [7, 0, 2, 2, 25]), (.iload_n 1, 94, []), (.aaload, 95, [24]),
  (.getfield 49, 96, [3, 0, 2, 1, 64]), (.iload 6, 99, []), (.iaload, 101, [20]), (.aload_n 3, 102, []), (.getfield 49, 103, [3, 0, 2, 1, 64]), (.iload 6, 106, []),
  (.iaload, 108, [20]), (.ixor, 109, []), (.iastore, 110, []), (.iinc 6 1, 111, [1, 1]), (.goto (-49), 114, [0, 37, 1, 1, 1, 1, 0, 1, 1]), (.nop, 117, [66, 1, 0, 0, 0, 0, 0, 0]),
  (.aload_n 0, 117, []), (.aload_n 0, 118, []), (.getfield 30, 119, [4, 1, 0, 2, 55]), (.iconst 1, 122, [1, 1]), (.iadd, 123, []), (.putfield 26, 124, [4, 0, 0, 2, 53]),
  (.return_, 127, [])
  ]
noncomputable def k_History_goOn : List Ent := [
  (.aload_n 0, 0, []), (.getfield 30, 1, [4, 1, 0, 2, 55]), (.aload_n 0, 4, []), (.getfield 26, 5, [4, 0, 0, 2, 53]), (.if_icmp .lt 5, 8, [1, 2]), (.iconst 0, 11, [1, 0]),
  (.ireturn, 12, [1]), (.aload_n 0, 13, []), (.aload_n 0, 14, []), (.getfield 30, 15, [4, 1, 0, 2, 55]), (.invokevirtual 36, 18, [1, 38, 1, 1, 2, 4, 0, 0, 4, 188]), (.istore_n 2, 21, []),
  (.aload_n 1, 22, []), (.aload_n 0, 23, []), (.getfield 9, 24, [4, 3, 2, 2, 58]), (.iload_n 2, 27, []), (.iaload, 28, [20]), (.aload_n 0, 29, []),
  (.getfield 17, 30, [4, 4, 2, 2, 59]), (.iload_n 2, 33, []), (.aaload, 34, [26]), (.aload_n 0, 35, []), (.getfield 23, 36, [4, 6, 2, 2, 61]), (.iload_n 2, 39, []),
  (.iaload, 40, [20]), (.invokevirtual 54, 41, [1, 78, 3, 0, 5, 7, 0, 0, 4, 196]), (.aload_n 0, 44, []), (.dup, 45, []), (.getfield 30, 46, [4, 1, 0, 2, 55]), (.iconst 1, 49, [1, 1]),
  (.iadd, 50, []), (.putfield 30, 51, [4, 1, 0, 2, 55]), (.iconst 1, 54, [1, 1]), (.ireturn, 55, [1])
  ]
noncomputable def k_History_goBack : List Ent := [
  (.aload_n 0, 0, []), (.getfield 30, 1, [4, 1, 0, 2, 55]), (.ifCond .gt 5, 4, [1, 2]), (.iconst 0, 7, [1, 0]), (.ireturn, 8, [1]), (.aload_n 0, 9, []),
  (.dup, 10, []), (.getfield 30, 11, [4, 1, 0, 2, 55]), (.iconst 1, 14, [1, 1]), (.isub, 15, []), (.putfield 30, 16, [4, 1, 0, 2, 55]), (.aload_n 0, 19, []),
  (.aload_n 0, 20, []), (.getfield 30, 21, [4, 1, 0, 2, 55]), (.invokevirtual 36, 24, [1, 38, 1, 1, 2, 4, 0, 0, 4, 188]), (.istore_n 2, 27, []), (.aload_n 1, 28, []), (.aload_n 0, 29, []),
  (.getfield 9, 30, [4, 3, 2, 2, 58]), (.iload_n 2, 33, []), (.iaload, 34, [20]), (.aload_n 0, 35, []), (.getfield 17, 36, [4, 4, 2, 2, 59]), (.iload_n 2, 39, []),
  (.aaload, 40, [26]), (.aload_n 0, 41, []), (.getfield 20, 42, [4, 5, 2, 2, 60]), (.iload_n 2, 45, []), (.iaload, 46, [20]), (.invokevirtual 54, 47, [1, 78, 3, 0, 5, 7, 0, 0, 4, 196]),
  (.iconst 1, 50, [1, 1]), (.ireturn, 51, [1])
  ]
noncomputable def k_Plan_init : List Ent := [
  (.aload_n 0, 0, []), (.invokespecial 3, 1, [3, 1, 36]), (.aload_n 0, 4, []), (.new 9, 5, [2, 3, 1, 37, 1, 38, 1, 3]), (.dup, 8, []), (.invokespecial 11, 9, [2, 3, 0, 0, 1, 0, 0, 1, 1, 39]),
  (.putfield 12, 12, [5, 6, 2, 1, 108]), (.aload_n 0, 15, []), (.iconst 5, 16, [1, 5]), (.newarray .long, 17, [22, 1, 79]), (.putfield 18, 19, [5, 7, 2, 1, 111]), (.nop, 22, [12, 1, 0]),
  (.aload_n 0, 22, []), (.iconst 5, 23, [1, 5]), (.anewarray 22, 24, [24, 1, 55]), (.putfield 24, 27, [5, 8, 2, 1, 112]), (.aload_n 0, 30, []), (.sipush 256, 31, [1, 256]),
  (.newarray .int, 34, [20, 1, 54]), (.putfield 28, 36, [5, 9, 2, 1, 114]), (.nop, 39, [21, 1, 0]), (.iconst 0, 39, [1, 0]), (.istore_n 1, 40, []), (.nop, 41, [24, 1, 1]),
  (.iload_n 1, 41, []), (.iconst 5, 42, [1, 5]), (.if_icmp .ge 22, 43, [1, 10]), (.aload_n 0, 46, []), (.getfield 24, 47, [5, 8, 2, 1, 112]), (.iload_n 1, 50, []),
  (.new 22, 51, [3, 2, 1, 55, 1, 57, 1, 4]), (.dup, 54, []), (.invokespecial 32, 55, [2, 11, 0, 0, 1, 0, 0, 1, 1, 58]), (.aastore, 58, [24, 3]), (.nop, 59, [35, 1, 1]), (.iinc 1 1, 59, [1, 1]),
  (.goto (-21), 62, [0, 24, 1, 1]), (.aload_n 0, 65, []), (.invokevirtual 33, 66, [1, 43, 0, 0, 1, 5, 0, 0, 1, 80]), (.return_, 69, [])
  ]
noncomputable def k_Plan_clear : List Ent := [
  (.aload_n 0, 0, []), (.iconst 3, 1, [1, 3]), (.putfield 36, 2, [5, 0, 0, 1, 88]), (.aload_n 0, 5, []), (.iconst 0, 6, [1, 0]), (.putfield 40, 7, [5, 1, 0, 1, 92]),
  (.aload_n 0, 10, []), (.iconst 0, 11, [1, 0]), (.putfield 43, 12, [5, 2, 0, 1, 97]), (.aload_n 0, 15, []), (.iconst 0, 16, [1, 0]), (.putfield 46, 17, [5, 3, 0, 1, 99]),
  (.aload_n 0, 20, []), (.iconst 0, 21, [1, 0]), (.putfield 49, 22, [5, 4, 0, 1, 103]), (.aload_n 0, 25, []), (.iconst 0, 26, [1, 0]), (.putfield 52, 27, [5, 5, 0, 1, 105]),
  (.aload_n 0, 30, []), (.iconst 0, 31, [1, 0]), (.putfield 55, 32, [5, 10, 0, 1, 116]), (.aload_n 0, 35, []), (.getfield 12, 36, [5, 6, 2, 1, 108]), (.invokevirtual 58, 39, [1, 4, 0, 0, 1, 2, 0, 0, 1, 84]),
  (.return_, 42, [])
  ]
noncomputable def k_Plan_size : List Ent := [
  (.iconst 1, 0, [1, 1]), (.aload_n 0, 1, []), (.getfield 36, 2, [5, 0, 0, 1, 88]), (.ishl, 5, []), (.ireturn, 6, [0])
  ]
noncomputable def k_Plan_isTold : List Ent := [
  (.aload_n 0, 0, []), (.getfield 43, 1, [5, 2, 0, 1, 97]), (.iload_n 1, 4, []), (.ishr, 5, []), (.iconst 1, 6, [1, 1]), (.iand, 7, []),
  (.iconst 1, 8, [1, 1]), (.if_icmp .ne 7, 9, [1, 2]), (.iconst 1, 12, [1, 1]), (.goto 4, 13, [1, 1]), (.iconst 0, 16, [1, 0]), (.ireturn, 17, [1])
  ]
noncomputable def k_Plan_isFull : List Ent := [
  (.aload_n 0, 0, []), (.getfield 40, 1, [5, 1, 0, 1, 92]), (.iconst 5, 4, [1, 5]), (.if_icmp .lt 7, 5, [1, 2]), (.iconst 1, 8, [1, 1]), (.goto 4, 9, [1, 1]),
  (.iconst 0, 12, [1, 0]), (.ireturn, 13, [1])
  ]
noncomputable def k_Plan_begin : List Ent := [
  (.aload_n 0, 0, []), (.getfield 24, 1, [5, 8, 2, 1, 112]), (.aload_n 0, 4, []), (.getfield 40, 5, [5, 1, 0, 1, 92]), (.iconst 4, 8, [1, 4]), (.invokestatic 59, 9, [5, 3, 233]),
  (.aaload, 12, [24]), (.astore_n 1, 13, []), (.aload_n 1, 14, []), (.aload_n 0, 15, []), (.invokevirtual 65, 16, [1, 44, 0, 1, 1, 5, 0, 0, 3, 234]), (.invokevirtual 69, 19, [1, 12, 1, 0, 2, 3, 0, 0, 3, 235]),
  (.aload_n 1, 22, []), (.areturn, 23, [])
  ]
noncomputable def k_Plan_finish : List Ent := [
  (.aload_n 0, 0, []), (.invokevirtual 72, 1, [1, 46, 0, 1, 1, 5, 0, 0, 4, 43]), (.ifCond .eq 4, 4, [1, 1]), (.return_, 7, []), (.iload_n 3, 8, []), (.ifCond .eq 21, 9, [1, 10]),
  (.aload_n 0, 12, []), (.dup, 13, []), (.getfield 43, 14, [5, 2, 0, 1, 97]), (.iconst 1, 17, [1, 1]), (.aload_n 0, 18, []), (.getfield 40, 19, [5, 1, 0, 1, 92]),
  (.ishl, 22, []), (.ior, 23, []), (.putfield 43, 24, [5, 2, 0, 1, 97]), (.goto 14, 27, [1, 6]), (.aload_n 0, 30, []), (.bipush 30, 31, [1, 30]),
  (.aload_n 0, 33, []), (.getfield 40, 34, [5, 1, 0, 1, 92]), (.iadd, 37, []), (.invokevirtual 76, 38, [1, 50, 1, 0, 2, 5, 0, 0, 4, 44]), (.nop, 41, [23, 1, 1, 0, 0]), (.aload_n 0, 41, []),
  (.getfield 18, 42, [5, 7, 2, 1, 111]), (.aload_n 0, 45, []), (.getfield 40, 46, [5, 1, 0, 1, 92]), (.lload_n 1, 49, []), (.lastore, 50, []), (.aload_n 0, 51, []),
  (.dup, 52, []), (.getfield 40, 53, [5, 1, 0, 1, 92]), (.iconst 1, 56, [1, 1]), (.iadd, 57, []), (.putfield 40, 58, [5, 1, 0, 1, 92]), (.return_, 61, [])
  ]
noncomputable def k_Plan_find : List Ent := [
  (.iconst 0, 0, [1, 0]), (.istore_n 3, 1, []), (.nop, 2, [3, 1, 1, 0, 1]), (.iload_n 3, 2, []), (.aload_n 0, 3, []), (.getfield 40, 4, [5, 1, 0, 1, 92]),
  (.if_icmp .ge 27, 7, [1, 14]), (.iload_n 3, 10, []), (.iconst 5, 11, [1, 5]), (.if_icmp .ge 22, 12, [1, 11]), (.aload_n 0, 15, []), (.getfield 18, 16, [5, 7, 2, 1, 111]),
  (.iload_n 3, 19, []), (.laload, 20, []), (.lload_n 1, 21, []), (.lcmp, 22, []), (.ifCond .ne 5, 23, [1, 2]), (.iload_n 3, 26, []),
  (.ireturn, 27, [0]), (.iinc 3 1, 28, [1, 1]), (.goto (-29), 31, [0, 3, 1, 1, 0, 1]), (.iconst (-1), 34, [0, 1]), (.ireturn, 35, [0])
  ]
noncomputable def k_Plan_addPart : List Ent := [
  (.aload_n 0, 0, []), (.getfield 55, 1, [5, 10, 0, 1, 116]), (.sipush 256, 4, [1, 256]), (.if_icmp .ge 23, 7, [1, 12]), (.aload_n 0, 10, []), (.getfield 28, 11, [5, 9, 2, 1, 114]),
  (.aload_n 0, 14, []), (.getfield 55, 15, [5, 10, 0, 1, 116]), (.iload_n 1, 18, []), (.iastore, 19, []), (.aload_n 0, 20, []), (.dup, 21, []),
  (.getfield 55, 22, [5, 10, 0, 1, 116]), (.iconst 1, 25, [1, 1]), (.iadd, 26, []), (.putfield 55, 27, [5, 10, 0, 1, 116]), (.return_, 30, [])
  ]
noncomputable def k_Reader_init : List Ent := [
  (.aload_n 0, 0, []), (.invokespecial 3, 1, [3, 1, 146]), (.aload_n 0, 4, []), (.iconst (-1), 5, [0, 1]), (.putfield 9, 6, [6, 1, 0, 1, 236]), (.aload_n 0, 9, []),
  (.new 15, 10, [8, 9, 1, 147, 1, 148, 1, 6]), (.dup, 13, []), (.invokespecial 17, 14, [2, 82, 0, 0, 4, 0, 0, 0, 1, 149]), (.putfield 18, 17, [6, 2, 2, 1, 238]), (.nop, 20, [11, 0]), (.return_, 20, [])
  ]
noncomputable def k_Reader_read : List Ent := [
  (.aload_n 0, 0, []), (.aload_n 3, 1, []), (.putfield 22, 2, [6, 3, 2, 1, 239]), (.aload_n 0, 5, []), (.getfield 22, 6, [6, 3, 2, 1, 239]), (.invokevirtual 26, 9, [1, 43, 0, 0, 1, 5, 0, 0, 3, 104]),
  (.aload_n 0, 12, []), (.iconst 0, 13, [1, 0]), (.putfield 31, 14, [6, 0, 0, 1, 234]), (.aload_n 0, 17, []), (.iconst (-1), 18, [0, 1]), (.putfield 9, 19, [6, 1, 0, 1, 236]),
  (.aload_n 0, 22, []), (.iconst 0, 23, [1, 0]), (.putfield 34, 24, [6, 4, 0, 2, 0]), (.aload_n 0, 27, []), (.iconst 0, 28, [1, 0]), (.putfield 37, 29, [6, 5, 0, 2, 1]),
  (.aload_n 0, 32, []), (.getfield 18, 33, [6, 2, 2, 1, 238]), (.aload_n 1, 36, []), (.iload_n 2, 37, []), (.invokevirtual 40, 38, [1, 83, 2, 0, 3, 8, 0, 0, 3, 105]), (.iconst 0, 41, [1, 0]),
  (.istore 4, 42, []), (.nop, 44, [26, 1, 0, 0, 0, 1]), (.iload 4, 44, []), (.sipush 1600, 46, [1, 1600]), (.if_icmp .ge 157, 49, [1, 54]), (.aload_n 0, 52, []),
  (.getfield 31, 53, [6, 0, 0, 1, 234]), (.ifCond .ne 150, 56, [1, 51]), (.aload_n 0, 59, []), (.getfield 18, 60, [6, 2, 2, 1, 238]), (.getfield 44, 63, [8, 0, 0, 1, 202]), (.iconst 2, 66, [1, 2]),
  (.if_icmp .eq 139, 67, [1, 46]), (.aload_n 0, 70, []), (.getfield 18, 71, [6, 2, 2, 1, 238]), (.getfield 44, 74, [8, 0, 0, 1, 202]), (.tableswitch 112 100 106 #[43, 50, 112, 112, 57, 69, 90], 77, [32, 0, 3, 32, 32, 6, 12, 22]), (.aload_n 0, 120, []),
  (.invokevirtual 47, 121, [1, 57, 0, 0, 1, 6, 0, 0, 3, 192]), (.goto 70, 124, [1, 33]), (.aload_n 0, 127, []), (.invokevirtual 50, 128, [1, 58, 0, 0, 5, 6, 0, 0, 3, 213]), (.goto 63, 131, [1, 30]), (.aload_n 0, 134, []),
  (.invokevirtual 53, 135, [1, 56, 0, 0, 2, 6, 0, 0, 3, 204]), (.aload_n 0, 138, []), (.iconst 0, 139, [1, 0]), (.invokevirtual 56, 140, [1, 67, 1, 0, 3, 6, 0, 0, 4, 45]), (.goto 51, 143, [1, 24]), (.aload_n 0, 146, []),
  (.invokevirtual 53, 147, [1, 56, 0, 0, 2, 6, 0, 0, 3, 204]), (.aload_n 0, 150, []), (.getfield 22, 151, [6, 3, 2, 1, 239]), (.aload_n 0, 154, []), (.iconst 0, 155, [1, 0]), (.bipush 100, 156, [1, 100]),
  (.invokevirtual 60, 158, [1, 55, 2, 1, 4, 6, 0, 0, 3, 209]), (.putfield 64, 161, [5, 3, 0, 1, 100]), (.goto 30, 164, [1, 14]), (.aload_n 0, 167, []), (.invokevirtual 53, 168, [1, 56, 0, 0, 2, 6, 0, 0, 3, 204]), (.aload_n 0, 171, []),
  (.getfield 22, 172, [6, 3, 2, 1, 239]), (.aload_n 0, 175, []), (.iconst 0, 176, [1, 0]), (.sipush 999, 177, [1, 999]), (.invokevirtual 60, 180, [1, 55, 2, 1, 4, 6, 0, 0, 3, 209]), (.putfield 67, 183, [5, 4, 0, 1, 104]),
  (.goto 8, 186, [1, 4]), (.nop, 189, [74, 1, 0, 0, 0, 1]), (.aload_n 0, 189, []), (.iconst 2, 190, [1, 2]), (.invokevirtual 70, 191, [1, 53, 1, 0, 2, 6, 0, 0, 3, 196]), (.nop, 194, [78, 1, 0, 0, 0, 1]),
  (.aload_n 0, 194, []), (.bipush 59, 195, [1, 59]), (.invokevirtual 73, 197, [1, 54, 1, 0, 2, 6, 0, 0, 4, 9]), (.iinc 4 1, 200, [1, 1]), (.goto (-159), 203, [0, 26, 1, 0, 0, 0, 1]), (.nop, 206, [84, 1, 0, 0, 0, 0]),
  (.aload_n 0, 206, []), (.getfield 31, 207, [6, 0, 0, 1, 234]), (.ifCond .ne 7, 210, [1, 2]), (.iconst 1, 213, [1, 1]), (.goto 4, 214, [1, 1]), (.iconst 0, 217, [1, 0]),
  (.ireturn, 218, [1])
  ]
noncomputable def k_Reader_fail : List Ent := [
  (.aload_n 0, 0, []), (.getfield 31, 1, [6, 0, 0, 1, 234]), (.ifCond .ne 41, 4, [1, 19]), (.aload_n 0, 7, []), (.aload_n 0, 8, []), (.getfield 18, 9, [6, 2, 2, 1, 238]),
  (.getfield 44, 12, [8, 0, 0, 1, 202]), (.iconst 1, 15, [1, 1]), (.if_icmp .ne 7, 16, [1, 2]), (.iconst 1, 19, [1, 1]), (.goto 4, 20, [1, 1]), (.iload_n 1, 23, []),
  (.nop, 24, [13, 1, 0]), (.putfield 31, 24, [6, 0, 0, 1, 234]), (.aload_n 0, 27, []), (.aload_n 0, 28, []), (.getfield 18, 29, [6, 2, 2, 1, 238]), (.getfield 76, 32, [8, 1, 0, 1, 204]),
  (.putfield 9, 35, [6, 1, 0, 1, 236]), (.aload_n 0, 38, []), (.getfield 18, 39, [6, 2, 2, 1, 238]), (.invokevirtual 79, 42, [1, 84, 0, 0, 1, 8, 0, 0, 3, 200]), (.return_, 45, [])
  ]
noncomputable def k_Reader_expect : List Ent := [
  (.aload_n 0, 0, []), (.getfield 18, 1, [6, 2, 2, 1, 238]), (.getfield 44, 4, [8, 0, 0, 1, 202]), (.iload_n 1, 7, []), (.if_icmp .ne 13, 8, [1, 4]), (.aload_n 0, 11, []),
  (.getfield 18, 12, [6, 2, 2, 1, 238]), (.invokevirtual 82, 15, [1, 85, 0, 0, 1, 8, 0, 0, 3, 208]), (.goto 8, 18, [1, 3]), (.aload_n 0, 21, []), (.iconst 2, 22, [1, 2]), (.invokevirtual 70, 23, [1, 53, 1, 0, 2, 6, 0, 0, 3, 196]),
  (.return_, 26, [])
  ]
noncomputable def k_Reader_readNumber : List Ent := [
  (.aload_n 0, 0, []), (.getfield 18, 1, [6, 2, 2, 1, 238]), (.getfield 85, 4, [8, 2, 0, 1, 206]), (.istore_n 3, 7, []), (.aload_n 0, 8, []), (.getfield 18, 9, [6, 2, 2, 1, 238]),
  (.getfield 44, 12, [8, 0, 0, 1, 202]), (.iconst 3, 15, [1, 3]), (.if_icmp .eq 11, 16, [1, 4]), (.aload_n 0, 19, []), (.iconst 2, 20, [1, 2]), (.invokevirtual 70, 21, [1, 53, 1, 0, 2, 6, 0, 0, 3, 196]),
  (.goto 30, 24, [1, 16]), (.iload_n 3, 27, []), (.iload_n 1, 28, []), (.if_icmp .lt 8, 29, [1, 3]), (.iload_n 3, 32, []), (.iload_n 2, 33, []),
  (.if_icmp .le 11, 34, [1, 5]), (.nop, 37, [20, 1, 1, 0, 0]), (.aload_n 0, 37, []), (.iconst 4, 38, [1, 4]), (.invokevirtual 70, 39, [1, 53, 1, 0, 2, 6, 0, 0, 3, 196]), (.goto 12, 42, [1, 5]),
  (.aload_n 0, 45, []), (.getfield 18, 46, [6, 2, 2, 1, 238]), (.invokevirtual 82, 49, [1, 85, 0, 0, 1, 8, 0, 0, 3, 208]), (.iload_n 3, 52, []), (.ireturn, 53, [0]), (.iload_n 1, 54, []),
  (.ireturn, 55, [0])
  ]
noncomputable def k_Reader_startLineOnce : List Ent := [
  (.iconst 1, 0, [1, 1]), (.aload_n 0, 1, []), (.getfield 18, 2, [6, 2, 2, 1, 238]), (.getfield 44, 5, [8, 0, 0, 1, 202]), (.bipush 100, 8, [1, 100]), (.isub, 10, []),
  (.ishl, 11, []), (.istore_n 1, 12, []), (.aload_n 0, 13, []), (.getfield 34, 14, [6, 4, 0, 2, 0]), (.iload_n 1, 17, []), (.iand, 18, []),
  (.ifCond .eq 8, 19, [1, 3]), (.aload_n 0, 22, []), (.iconst 2, 23, [1, 2]), (.invokevirtual 70, 24, [1, 53, 1, 0, 2, 6, 0, 0, 3, 196]), (.nop, 27, [17, 1, 1]), (.aload_n 0, 27, []),
  (.dup, 28, []), (.getfield 34, 29, [6, 4, 0, 2, 0]), (.iload_n 1, 32, []), (.ior, 33, []), (.putfield 34, 34, [6, 4, 0, 2, 0]), (.aload_n 0, 37, []),
  (.getfield 18, 38, [6, 2, 2, 1, 238]), (.invokevirtual 82, 41, [1, 85, 0, 0, 1, 8, 0, 0, 3, 208]), (.return_, 44, [])
  ]
noncomputable def k_Reader_readLevels : List Ent := [
  (.aload_n 0, 0, []), (.getfield 22, 1, [6, 3, 2, 1, 239]), (.getfield 88, 4, [5, 1, 0, 1, 96]), (.ifCond .le 9, 7, [1, 4]), (.aload_n 0, 10, []), (.iconst 2, 11, [1, 2]),
  (.invokevirtual 70, 12, [1, 53, 1, 0, 2, 6, 0, 0, 3, 196]), (.return_, 15, []), (.aload_n 0, 16, []), (.invokevirtual 53, 17, [1, 56, 0, 0, 2, 6, 0, 0, 3, 204]), (.aload_n 0, 20, []), (.getfield 22, 21, [6, 3, 2, 1, 239]),
  (.aload_n 0, 24, []), (.iconst 1, 25, [1, 1]), (.iconst 4, 26, [1, 4]), (.invokevirtual 60, 27, [1, 55, 2, 1, 4, 6, 0, 0, 3, 209]), (.putfield 91, 30, [5, 0, 0, 1, 90]), (.return_, 33, [])
  ]
noncomputable def k_Reader_readRelation : List Ent := [
  (.aload_n 0, 0, []), (.getfield 22, 1, [6, 3, 2, 1, 239]), (.invokevirtual 94, 4, [1, 46, 0, 1, 1, 5, 0, 0, 3, 217]), (.ifCond .eq 9, 7, [1, 4]), (.aload_n 0, 10, []), (.iconst 2, 11, [1, 2]),
  (.invokevirtual 70, 12, [1, 53, 1, 0, 2, 6, 0, 0, 3, 196]), (.return_, 15, []), (.aload_n 0, 16, []), (.getfield 18, 17, [6, 2, 2, 1, 238]), (.invokevirtual 82, 20, [1, 85, 0, 0, 1, 8, 0, 0, 3, 208]), (.aload_n 0, 23, []),
  (.getfield 18, 24, [6, 2, 2, 1, 238]), (.getfield 98, 27, [8, 3, 1, 1, 209]), (.lstore_n 1, 30, []), (.aload_n 0, 31, []), (.invokevirtual 102, 32, [1, 59, 0, 0, 1, 6, 0, 0, 3, 221]), (.aload_n 0, 35, []),
  (.getfield 18, 36, [6, 2, 2, 1, 238]), (.getfield 44, 39, [8, 0, 0, 1, 202]), (.bipush 102, 42, [1, 102]), (.if_icmp .ne 7, 44, [1, 2]), (.iconst 1, 47, [1, 1]), (.goto 4, 48, [1, 1]),
  (.iconst 0, 51, [1, 0]), (.nop, 52, [26, 1, 1, 0, 0, 0]), (.istore_n 3, 52, []), (.aload_n 0, 53, []), (.getfield 22, 54, [6, 3, 2, 1, 239]), (.invokevirtual 105, 57, [1, 47, 0, 2, 2, 5, 0, 0, 3, 229]),
  (.astore 4, 60, []), (.iload_n 3, 62, []), (.ifCond .eq 19, 63, [1, 7]), (.aload_n 0, 66, []), (.getfield 18, 67, [6, 2, 2, 1, 238]), (.invokevirtual 82, 70, [1, 85, 0, 0, 1, 8, 0, 0, 3, 208]),
  (.aload_n 0, 73, []), (.aload 4, 74, []), (.invokevirtual 108, 76, [1, 60, 1, 0, 6, 6, 0, 0, 3, 236]), (.goto 14, 79, [1, 6]), (.aload_n 0, 82, []), (.bipush 103, 83, [1, 103]),
  (.invokevirtual 73, 85, [1, 54, 1, 0, 2, 6, 0, 0, 4, 9]), (.aload_n 0, 88, []), (.iconst 0, 89, [1, 0]), (.invokevirtual 112, 90, [1, 61, 1, 0, 4, 6, 0, 0, 4, 13]), (.nop, 93, [47, 1, 1, 0, 1, 0]), (.aload_n 0, 93, []),
  (.getfield 22, 94, [6, 3, 2, 1, 239]), (.lload_n 1, 97, []), (.iload_n 3, 98, []), (.invokevirtual 115, 99, [1, 48, 2, 0, 4, 5, 0, 0, 4, 39]), (.return_, 102, [])
  ]
noncomputable def k_Reader_readNewName : List Ent := [
  (.aload_n 0, 0, []), (.getfield 18, 1, [6, 2, 2, 1, 238]), (.getfield 44, 4, [8, 0, 0, 1, 202]), (.iconst 4, 7, [1, 4]), (.if_icmp .eq 11, 8, [1, 4]), (.aload_n 0, 11, []),
  (.iconst 2, 12, [1, 2]), (.invokevirtual 70, 13, [1, 53, 1, 0, 2, 6, 0, 0, 3, 196]), (.goto 36, 16, [1, 15]), (.aload_n 0, 19, []), (.getfield 22, 20, [6, 3, 2, 1, 239]), (.aload_n 0, 23, []),
  (.getfield 18, 24, [6, 2, 2, 1, 238]), (.getfield 98, 27, [8, 3, 1, 1, 209]), (.invokevirtual 119, 30, [1, 49, 1, 1, 4, 5, 0, 0, 3, 225]), (.iconst (-1), 33, [0, 1]), (.if_icmp .eq 11, 34, [1, 4]), (.aload_n 0, 37, []),
  (.iconst 3, 38, [1, 3]), (.invokevirtual 70, 39, [1, 53, 1, 0, 2, 6, 0, 0, 3, 196]), (.goto 10, 42, [1, 3]), (.aload_n 0, 45, []), (.getfield 18, 46, [6, 2, 2, 1, 238]), (.invokevirtual 82, 49, [1, 85, 0, 0, 1, 8, 0, 0, 3, 208]),
  (.return_, 52, [])
  ]
noncomputable def k_Reader_readPairs : List Ent := [
  (.aload_n 0, 0, []), (.getfield 22, 1, [6, 3, 2, 1, 239]), (.invokevirtual 123, 4, [1, 44, 0, 1, 1, 5, 0, 0, 4, 0]), (.iconst 1, 7, [1, 1]), (.isub, 8, []), (.istore_n 2, 9, []),
  (.iconst 0, 10, [1, 0]), (.istore_n 3, 11, []), (.nop, 12, [9, 1, 1, 1, 1, 0, 0]), (.iload_n 3, 12, []), (.bipush 40, 13, [1, 40]), (.if_icmp .ge 44, 15, [1, 21]),
  (.aload_n 0, 18, []), (.getfield 18, 19, [6, 2, 2, 1, 238]), (.getfield 44, 22, [8, 0, 0, 1, 202]), (.iconst 3, 25, [1, 3]), (.if_icmp .ne 33, 26, [1, 16]), (.aload_n 0, 29, []),
  (.iconst 0, 30, [1, 0]), (.iload_n 2, 31, []), (.invokevirtual 60, 32, [1, 55, 2, 1, 4, 6, 0, 0, 3, 209]), (.istore 4, 35, []), (.aload_n 0, 37, []), (.iconst 0, 38, [1, 0]),
  (.iload_n 2, 39, []), (.invokevirtual 60, 40, [1, 55, 2, 1, 4, 6, 0, 0, 3, 209]), (.istore 5, 43, []), (.aload_n 1, 45, []), (.iload 4, 46, []), (.iload 5, 48, []),
  (.invokevirtual 127, 50, [1, 17, 2, 0, 3, 3, 0, 0, 4, 1]), (.iinc 3 1, 53, [1, 1]), (.goto (-44), 56, [0, 9, 1, 1, 1, 1, 0, 0]), (.nop, 59, [34, 1, 0, 0, 0, 0, 0]), (.aload_n 0, 59, []), (.getfield 18, 60, [6, 2, 2, 1, 238]),
  (.getfield 44, 63, [8, 0, 0, 1, 202]), (.iconst 3, 66, [1, 3]), (.if_icmp .ne 8, 67, [1, 3]), (.aload_n 0, 70, []), (.iconst 2, 71, [1, 2]), (.invokevirtual 70, 72, [1, 53, 1, 0, 2, 6, 0, 0, 3, 196]),
  (.return_, 75, [])
  ]
noncomputable def k_Reader_readJoined : List Ent := [
  (.aload_n 0, 0, []), (.iload_n 1, 1, []), (.invokevirtual 133, 2, [1, 63, 1, 0, 4, 6, 1, 0, 4, 17]), (.iconst 0, 5, [1, 0]), (.istore_n 2, 6, []), (.nop, 7, [6, 1, 1, 1, 0]),
  (.iload_n 2, 7, []), (.sipush 1600, 8, [1, 1600]), (.if_icmp .ge 63, 11, [1, 29]), (.aload_n 0, 14, []), (.getfield 18, 15, [6, 2, 2, 1, 238]), (.getfield 44, 18, [8, 0, 0, 1, 202]),
  (.invokestatic 136, 21, [0, 62, 1, 1, 1, 0, 0, 0, 4, 36]), (.ifCond .eq 50, 24, [1, 24]), (.aload_n 0, 27, []), (.getfield 18, 28, [6, 2, 2, 1, 238]), (.getfield 44, 31, [8, 0, 0, 1, 202]), (.bipush 107, 34, [1, 107]),
  (.if_icmp .ne 7, 36, [1, 2]), (.iconst 0, 39, [1, 0]), (.goto 4, 40, [1, 1]), (.iconst 2, 43, [1, 2]), (.nop, 44, [23, 1, 1, 1, 0]), (.istore_n 3, 44, []),
  (.aload_n 0, 45, []), (.getfield 18, 46, [6, 2, 2, 1, 238]), (.invokevirtual 82, 49, [1, 85, 0, 0, 1, 8, 0, 0, 3, 208]), (.aload_n 0, 52, []), (.iload_n 1, 53, []), (.invokevirtual 133, 54, [1, 63, 1, 0, 4, 6, 1, 0, 4, 17]),
  (.aload_n 0, 57, []), (.getfield 22, 58, [6, 3, 2, 1, 239]), (.bipush 20, 61, [1, 20]), (.iload_n 3, 63, []), (.iadd, 64, []), (.invokevirtual 140, 65, [1, 50, 1, 0, 2, 5, 0, 0, 4, 25]),
  (.iinc 2 1, 68, [1, 1]), (.goto (-64), 71, [0, 6, 1, 1, 1, 0]), (.return_, 74, [])
  ]
noncomputable def k_Reader_isOrOrLess : List Ent := [
  (.iload_n 0, 0, []), (.bipush 107, 1, [1, 107]), (.if_icmp .eq 9, 3, [1, 3]), (.iload_n 0, 6, []), (.bipush 108, 7, [1, 108]), (.if_icmp .ne 7, 9, [1, 3]),
  (.nop, 12, [7, 0]), (.iconst 1, 12, [1, 1]), (.goto 4, 13, [1, 1]), (.iconst 0, 16, [1, 0]), (.ireturn, 17, [1])
  ]
noncomputable def k_Reader_readMet : List Ent := [
  (.aload_n 0, 0, []), (.iload_n 1, 1, []), (.invokevirtual 143, 2, [1, 65, 1, 0, 2, 6, 1, 0, 4, 21]), (.iconst 0, 5, [1, 0]), (.istore_n 2, 6, []), (.nop, 7, [6, 1, 1, 1, 0]),
  (.iload_n 2, 7, []), (.sipush 1600, 8, [1, 1600]), (.if_icmp .ge 63, 11, [1, 29]), (.aload_n 0, 14, []), (.getfield 18, 15, [6, 2, 2, 1, 238]), (.getfield 44, 18, [8, 0, 0, 1, 202]),
  (.invokestatic 146, 21, [0, 64, 1, 1, 1, 0, 0, 0, 4, 33]), (.ifCond .eq 50, 24, [1, 24]), (.aload_n 0, 27, []), (.getfield 18, 28, [6, 2, 2, 1, 238]), (.getfield 44, 31, [8, 0, 0, 1, 202]), (.bipush 109, 34, [1, 109]),
  (.if_icmp .ne 7, 36, [1, 2]), (.iconst 1, 39, [1, 1]), (.goto 4, 40, [1, 1]), (.iconst 3, 43, [1, 3]), (.nop, 44, [23, 1, 1, 1, 0]), (.istore_n 3, 44, []),
  (.aload_n 0, 45, []), (.getfield 18, 46, [6, 2, 2, 1, 238]), (.invokevirtual 82, 49, [1, 85, 0, 0, 1, 8, 0, 0, 3, 208]), (.aload_n 0, 52, []), (.iload_n 1, 53, []), (.invokevirtual 143, 54, [1, 65, 1, 0, 2, 6, 1, 0, 4, 21]),
  (.aload_n 0, 57, []), (.getfield 22, 58, [6, 3, 2, 1, 239]), (.bipush 20, 61, [1, 20]), (.iload_n 3, 63, []), (.iadd, 64, []), (.invokevirtual 140, 65, [1, 50, 1, 0, 2, 5, 0, 0, 4, 25]),
  (.iinc 2 1, 68, [1, 1]), (.goto (-64), 71, [0, 6, 1, 1, 1, 0]), (.return_, 74, [])
  ]
noncomputable def k_Reader_isAndOrThen : List Ent := [
  (.iload_n 0, 0, []), (.bipush 109, 1, [1, 109]), (.if_icmp .eq 9, 3, [1, 3]), (.iload_n 0, 6, []), (.bipush 110, 7, [1, 110]), (.if_icmp .ne 7, 9, [1, 3]),
  (.nop, 12, [7, 0]), (.iconst 1, 12, [1, 1]), (.goto 4, 13, [1, 1]), (.iconst 0, 16, [1, 0]), (.ireturn, 17, [1])
  ]
noncomputable def k_Reader_readOne : List Ent := [
  (.iload_n 1, 0, []), (.iconst 5, 1, [1, 5]), (.if_icmp .le 9, 2, [1, 4]), (.aload_n 0, 5, []), (.iconst 2, 6, [1, 2]), (.invokevirtual 70, 7, [1, 53, 1, 0, 2, 6, 0, 0, 3, 196]),
  (.return_, 10, []), (.aload_n 0, 11, []), (.getfield 18, 12, [6, 2, 2, 1, 238]), (.getfield 44, 15, [8, 0, 0, 1, 202]), (.lookupswitch 138 #[(4, 117), (40, 76), (111, 50), (112, 99), (113, 108)], 18, [42, 33, 13, 0, 25, 29]), (.aload_n 0, 68, []),
  (.getfield 18, 69, [6, 2, 2, 1, 238]), (.invokevirtual 82, 72, [1, 85, 0, 0, 1, 8, 0, 0, 3, 208]), (.aload_n 0, 75, []), (.iload_n 1, 76, []), (.iconst 1, 77, [1, 1]), (.iadd, 78, []),
  (.invokevirtual 143, 79, [1, 65, 1, 0, 2, 6, 2, 0, 4, 21]), (.aload_n 0, 82, []), (.getfield 22, 83, [6, 3, 2, 1, 239]), (.bipush 12, 86, [1, 12]), (.invokevirtual 140, 88, [1, 50, 1, 0, 2, 5, 0, 0, 4, 25]), (.goto 70, 91, [1, 32]),
  (.aload_n 0, 94, []), (.getfield 18, 95, [6, 2, 2, 1, 238]), (.invokevirtual 82, 98, [1, 85, 0, 0, 1, 8, 0, 0, 3, 208]), (.aload_n 0, 101, []), (.iload_n 1, 102, []), (.iconst 1, 103, [1, 1]),
  (.iadd, 104, []), (.invokevirtual 112, 105, [1, 61, 1, 0, 4, 6, 2, 0, 4, 13]), (.aload_n 0, 108, []), (.bipush 41, 109, [1, 41]), (.invokevirtual 73, 111, [1, 54, 1, 0, 2, 6, 0, 0, 4, 9]), (.goto 47, 114, [1, 20]),
  (.aload_n 0, 117, []), (.bipush 10, 118, [1, 10]), (.invokevirtual 149, 120, [1, 66, 1, 0, 2, 6, 0, 0, 4, 29]), (.goto 38, 123, [1, 16]), (.aload_n 0, 126, []), (.bipush 11, 127, [1, 11]),
  (.invokevirtual 149, 129, [1, 66, 1, 0, 2, 6, 0, 0, 4, 29]), (.goto 29, 132, [1, 12]), (.aload_n 0, 135, []), (.aload_n 0, 136, []), (.getfield 22, 137, [6, 3, 2, 1, 239]), (.aload_n 0, 140, []),
  (.getfield 18, 141, [6, 2, 2, 1, 238]), (.getfield 98, 144, [8, 3, 1, 1, 209]), (.invokevirtual 119, 147, [1, 49, 1, 1, 4, 5, 0, 0, 3, 225]), (.invokevirtual 149, 150, [1, 66, 1, 0, 2, 6, 0, 0, 4, 29]), (.goto 8, 153, [1, 3]), (.aload_n 0, 156, []),
  (.iconst 2, 157, [1, 2]), (.invokevirtual 70, 158, [1, 53, 1, 0, 2, 6, 0, 0, 3, 196]), (.return_, 161, [])
  ]
noncomputable def k_Reader_readLeaf : List Ent := [
  (.aload_n 0, 0, []), (.getfield 37, 1, [6, 5, 0, 2, 1]), (.bipush 30, 4, [1, 30]), (.if_icmp .lt 11, 6, [1, 4]), (.aload_n 0, 9, []), (.iconst 2, 10, [1, 2]),
  (.invokevirtual 70, 11, [1, 53, 1, 0, 2, 6, 0, 0, 3, 196]), (.goto 41, 14, [1, 20]), (.iload_n 1, 17, []), (.iconst (-1), 18, [0, 1]), (.if_icmp .ne 11, 19, [1, 4]), (.aload_n 0, 22, []),
  (.iconst 5, 23, [1, 5]), (.invokevirtual 70, 24, [1, 53, 1, 0, 2, 6, 0, 0, 3, 196]), (.goto 28, 27, [1, 13]), (.aload_n 0, 30, []), (.dup, 31, []), (.getfield 37, 32, [6, 5, 0, 2, 1]),
  (.iconst 1, 35, [1, 1]), (.iadd, 36, []), (.putfield 37, 37, [6, 5, 0, 2, 1]), (.aload_n 0, 40, []), (.getfield 22, 41, [6, 3, 2, 1, 239]), (.iload_n 1, 44, []),
  (.invokevirtual 140, 45, [1, 50, 1, 0, 2, 5, 0, 0, 4, 25]), (.aload_n 0, 48, []), (.getfield 18, 49, [6, 2, 2, 1, 238]), (.invokevirtual 82, 52, [1, 85, 0, 0, 1, 8, 0, 0, 3, 208]), (.return_, 55, [])
  ]
noncomputable def k_Reader_readOrs : List Ent := [
  (.aload_n 0, 0, []), (.iload_n 1, 1, []), (.invokevirtual 152, 2, [1, 68, 1, 0, 3, 6, 1, 0, 4, 49]), (.iconst 0, 5, [1, 0]), (.istore_n 2, 6, []), (.nop, 7, [6, 1, 1, 1]),
  (.iload_n 2, 7, []), (.sipush 1600, 8, [1, 1600]), (.if_icmp .ge 45, 11, [1, 18]), (.aload_n 0, 14, []), (.getfield 18, 15, [6, 2, 2, 1, 238]), (.getfield 44, 18, [8, 0, 0, 1, 202]),
  (.bipush 107, 21, [1, 107]), (.if_icmp .ne 33, 23, [1, 13]), (.aload_n 0, 26, []), (.getfield 18, 27, [6, 2, 2, 1, 238]), (.invokevirtual 82, 30, [1, 85, 0, 0, 1, 8, 0, 0, 3, 208]), (.aload_n 0, 33, []),
  (.iload_n 1, 34, []), (.invokevirtual 152, 35, [1, 68, 1, 0, 3, 6, 1, 0, 4, 49]), (.aload_n 0, 38, []), (.getfield 22, 39, [6, 3, 2, 1, 239]), (.getfield 155, 42, [5, 6, 2, 1, 109]), (.bipush 107, 45, [1, 107]),
  (.invokevirtual 159, 47, [1, 6, 1, 0, 2, 2, 0, 0, 4, 81]), (.iinc 2 1, 50, [1, 1]), (.goto (-46), 53, [0, 6, 1, 1, 1]), (.return_, 56, [])
  ]
noncomputable def k_Reader_readAnds : List Ent := [
  (.aload_n 0, 0, []), (.iload_n 1, 1, []), (.invokevirtual 162, 2, [1, 69, 1, 0, 2, 6, 1, 0, 4, 53]), (.iconst 0, 5, [1, 0]), (.istore_n 2, 6, []), (.nop, 7, [6, 1, 1, 1]),
  (.iload_n 2, 7, []), (.sipush 1600, 8, [1, 1600]), (.if_icmp .ge 45, 11, [1, 18]), (.aload_n 0, 14, []), (.getfield 18, 15, [6, 2, 2, 1, 238]), (.getfield 44, 18, [8, 0, 0, 1, 202]),
  (.bipush 109, 21, [1, 109]), (.if_icmp .ne 33, 23, [1, 13]), (.aload_n 0, 26, []), (.getfield 18, 27, [6, 2, 2, 1, 238]), (.invokevirtual 82, 30, [1, 85, 0, 0, 1, 8, 0, 0, 3, 208]), (.aload_n 0, 33, []),
  (.iload_n 1, 34, []), (.invokevirtual 162, 35, [1, 69, 1, 0, 2, 6, 1, 0, 4, 53]), (.aload_n 0, 38, []), (.getfield 22, 39, [6, 3, 2, 1, 239]), (.getfield 155, 42, [5, 6, 2, 1, 109]), (.bipush 109, 45, [1, 109]),
  (.invokevirtual 159, 47, [1, 6, 1, 0, 2, 2, 0, 0, 4, 81]), (.iinc 2 1, 50, [1, 1]), (.goto (-46), 53, [0, 6, 1, 1, 1]), (.return_, 56, [])
  ]
noncomputable def k_Reader_readNots : List Ent := [
  (.aload_n 0, 0, []), (.getfield 18, 1, [6, 2, 2, 1, 238]), (.getfield 44, 4, [8, 0, 0, 1, 202]), (.bipush 114, 7, [1, 114]), (.if_icmp .eq 11, 9, [1, 4]), (.aload_n 0, 12, []),
  (.iload_n 1, 13, []), (.invokevirtual 165, 14, [1, 70, 1, 0, 3, 6, 1, 0, 4, 57]), (.goto 43, 17, [1, 20]), (.iload_n 1, 20, []), (.bipush 6, 21, [1, 6]), (.if_icmp .le 11, 23, [1, 4]),
  (.aload_n 0, 26, []), (.iconst 2, 27, [1, 2]), (.invokevirtual 70, 28, [1, 53, 1, 0, 2, 6, 0, 0, 3, 196]), (.goto 29, 31, [1, 13]), (.aload_n 0, 34, []), (.getfield 18, 35, [6, 2, 2, 1, 238]),
  (.invokevirtual 82, 38, [1, 85, 0, 0, 1, 8, 0, 0, 3, 208]), (.aload_n 0, 41, []), (.iload_n 1, 42, []), (.iconst 1, 43, [1, 1]), (.iadd, 44, []), (.invokevirtual 162, 45, [1, 69, 1, 0, 2, 6, 2, 0, 4, 53]),
  (.aload_n 0, 48, []), (.getfield 22, 49, [6, 3, 2, 1, 239]), (.getfield 155, 52, [5, 6, 2, 1, 109]), (.bipush 114, 55, [1, 114]), (.invokevirtual 159, 57, [1, 6, 1, 0, 2, 2, 0, 0, 4, 81]), (.return_, 60, [])
  ]
noncomputable def k_Reader_readCompared : List Ent := [
  (.aload_n 0, 0, []), (.iload_n 1, 1, []), (.invokevirtual 168, 2, [1, 71, 1, 0, 4, 6, 1, 0, 4, 61]), (.aload_n 0, 5, []), (.getfield 18, 6, [6, 2, 2, 1, 238]), (.getfield 44, 9, [8, 0, 0, 1, 202]),
  (.istore_n 2, 12, []), (.iload_n 2, 13, []), (.bipush 60, 14, [1, 60]), (.if_icmp .eq 15, 16, [1, 6]), (.iload_n 2, 19, []), (.bipush 62, 20, [1, 62]),
  (.if_icmp .eq 9, 22, [1, 3]), (.iload_n 2, 25, []), (.bipush 61, 26, [1, 61]), (.if_icmp .ne 26, 28, [1, 12]), (.nop, 31, [17, 1, 1, 1]), (.aload_n 0, 31, []),
  (.getfield 18, 32, [6, 2, 2, 1, 238]), (.invokevirtual 82, 35, [1, 85, 0, 0, 1, 8, 0, 0, 3, 208]), (.aload_n 0, 38, []), (.iload_n 1, 39, []), (.invokevirtual 168, 40, [1, 71, 1, 0, 4, 6, 1, 0, 4, 61]), (.aload_n 0, 43, []),
  (.getfield 22, 44, [6, 3, 2, 1, 239]), (.getfield 155, 47, [5, 6, 2, 1, 109]), (.iload_n 2, 50, []), (.invokevirtual 159, 51, [1, 6, 1, 0, 2, 2, 0, 0, 4, 81]), (.return_, 54, [])
  ]
noncomputable def k_Reader_readSum : List Ent := [
  (.aload_n 0, 0, []), (.iload_n 1, 1, []), (.invokevirtual 171, 2, [1, 72, 1, 0, 4, 6, 1, 0, 4, 65]), (.aload_n 0, 5, []), (.getfield 18, 6, [6, 2, 2, 1, 238]), (.getfield 44, 9, [8, 0, 0, 1, 202]),
  (.istore_n 2, 12, []), (.iconst 0, 13, [1, 0]), (.istore_n 3, 14, []), (.nop, 15, [10, 1, 1, 1, 1]), (.iload_n 3, 15, []), (.sipush 1600, 16, [1, 1600]),
  (.if_icmp .ge 52, 19, [1, 24]), (.iload_n 2, 22, []), (.bipush 43, 23, [1, 43]), (.if_icmp .eq 9, 25, [1, 3]), (.iload_n 2, 28, []), (.bipush 45, 29, [1, 45]),
  (.if_icmp .ne 40, 31, [1, 18]), (.nop, 34, [20, 1, 1, 1, 1]), (.aload_n 0, 34, []), (.getfield 18, 35, [6, 2, 2, 1, 238]), (.invokevirtual 82, 38, [1, 85, 0, 0, 1, 8, 0, 0, 3, 208]), (.aload_n 0, 41, []),
  (.iload_n 1, 42, []), (.invokevirtual 171, 43, [1, 72, 1, 0, 4, 6, 1, 0, 4, 65]), (.aload_n 0, 46, []), (.getfield 22, 47, [6, 3, 2, 1, 239]), (.getfield 155, 50, [5, 6, 2, 1, 109]), (.iload_n 2, 53, []),
  (.invokevirtual 159, 54, [1, 6, 1, 0, 2, 2, 0, 0, 4, 81]), (.aload_n 0, 57, []), (.getfield 18, 58, [6, 2, 2, 1, 238]), (.getfield 44, 61, [8, 0, 0, 1, 202]), (.istore_n 2, 64, []), (.iinc 3 1, 65, [1, 1]),
  (.goto (-53), 68, [0, 10, 1, 1, 1, 1]), (.return_, 71, [])
  ]
noncomputable def k_Reader_readTerm : List Ent := [
  (.aload_n 0, 0, []), (.iload_n 1, 1, []), (.invokevirtual 174, 2, [1, 73, 1, 0, 2, 6, 1, 0, 4, 69]), (.aload_n 0, 5, []), (.getfield 18, 6, [6, 2, 2, 1, 238]), (.getfield 44, 9, [8, 0, 0, 1, 202]),
  (.istore_n 2, 12, []), (.iconst 0, 13, [1, 0]), (.istore_n 3, 14, []), (.nop, 15, [10, 1, 1, 1, 1]), (.iload_n 3, 15, []), (.sipush 1600, 16, [1, 1600]),
  (.if_icmp .ge 58, 19, [1, 27]), (.iload_n 2, 22, []), (.bipush 42, 23, [1, 42]), (.if_icmp .eq 15, 25, [1, 6]), (.iload_n 2, 28, []), (.bipush 47, 29, [1, 47]),
  (.if_icmp .eq 9, 31, [1, 3]), (.iload_n 2, 34, []), (.bipush 37, 35, [1, 37]), (.if_icmp .ne 40, 37, [1, 18]), (.nop, 40, [23, 1, 1, 1, 1]), (.aload_n 0, 40, []),
  (.getfield 18, 41, [6, 2, 2, 1, 238]), (.invokevirtual 82, 44, [1, 85, 0, 0, 1, 8, 0, 0, 3, 208]), (.aload_n 0, 47, []), (.iload_n 1, 48, []), (.invokevirtual 174, 49, [1, 73, 1, 0, 2, 6, 1, 0, 4, 69]), (.aload_n 0, 52, []),
  (.getfield 22, 53, [6, 3, 2, 1, 239]), (.getfield 155, 56, [5, 6, 2, 1, 109]), (.iload_n 2, 59, []), (.invokevirtual 159, 60, [1, 6, 1, 0, 2, 2, 0, 0, 4, 81]), (.aload_n 0, 63, []), (.getfield 18, 64, [6, 2, 2, 1, 238]),
  (.getfield 44, 67, [8, 0, 0, 1, 202]), (.istore_n 2, 70, []), (.iinc 3 1, 71, [1, 1]), (.goto (-59), 74, [0, 10, 1, 1, 1, 1]), (.return_, 77, [])
  ]
noncomputable def k_Reader_readUnit : List Ent := [
  (.aload_n 0, 0, []), (.getfield 22, 1, [6, 3, 2, 1, 239]), (.getfield 177, 4, [5, 5, 0, 1, 106]), (.bipush 30, 7, [1, 30]), (.if_icmp .lt 9, 9, [1, 4]), (.aload_n 0, 12, []),
  (.iconst 2, 13, [1, 2]), (.invokevirtual 70, 14, [1, 53, 1, 0, 2, 6, 0, 0, 3, 196]), (.return_, 17, []), (.aload_n 0, 18, []), (.getfield 22, 19, [6, 3, 2, 1, 239]), (.dup, 22, []),
  (.getfield 177, 23, [5, 5, 0, 1, 106]), (.iconst 1, 26, [1, 1]), (.iadd, 27, []), (.putfield 177, 28, [5, 5, 0, 1, 106]), (.aload_n 0, 31, []), (.getfield 18, 32, [6, 2, 2, 1, 238]),
  (.getfield 44, 35, [8, 0, 0, 1, 202]), (.lookupswitch 106 #[(3, 50), (40, 98), (115, 71), (116, 71), (117, 71)], 38, [25, 0, 21, 9, 9, 9]), (.aload_n 0, 88, []), (.getfield 22, 89, [6, 3, 2, 1, 239]), (.getfield 155, 92, [5, 6, 2, 1, 109]), (.aload_n 0, 95, []),
  (.iconst 0, 96, [1, 0]), (.sipush 9999, 97, [1, 9999]), (.invokevirtual 60, 100, [1, 55, 2, 1, 4, 6, 0, 0, 3, 209]), (.invokevirtual 180, 103, [1, 5, 1, 0, 2, 2, 0, 0, 4, 73]), (.goto 43, 106, [1, 19]), (.nop, 109, [30, 1, 0]),
  (.aload_n 0, 109, []), (.getfield 22, 110, [6, 3, 2, 1, 239]), (.getfield 155, 113, [5, 6, 2, 1, 109]), (.aload_n 0, 116, []), (.getfield 18, 117, [6, 2, 2, 1, 238]), (.getfield 44, 120, [8, 0, 0, 1, 202]),
  (.invokevirtual 159, 123, [1, 6, 1, 0, 2, 2, 0, 0, 4, 81]), (.aload_n 0, 126, []), (.getfield 18, 127, [6, 2, 2, 1, 238]), (.invokevirtual 82, 130, [1, 85, 0, 0, 1, 8, 0, 0, 3, 208]), (.goto 16, 133, [1, 7]), (.aload_n 0, 136, []),
  (.iload_n 1, 137, []), (.invokevirtual 183, 138, [1, 74, 1, 0, 2, 6, 1, 0, 4, 82]), (.goto 8, 141, [1, 3]), (.aload_n 0, 144, []), (.iconst 2, 145, [1, 2]), (.invokevirtual 70, 146, [1, 53, 1, 0, 2, 6, 0, 0, 3, 196]),
  (.return_, 149, [])
  ]
noncomputable def k_Reader_readBracket : List Ent := [
  (.iload_n 1, 0, []), (.bipush 6, 1, [1, 6]), (.if_icmp .le 9, 3, [1, 4]), (.aload_n 0, 6, []), (.iconst 2, 7, [1, 2]), (.invokevirtual 70, 8, [1, 53, 1, 0, 2, 6, 0, 0, 3, 196]),
  (.return_, 11, []), (.aload_n 0, 12, []), (.getfield 18, 13, [6, 2, 2, 1, 238]), (.invokevirtual 82, 16, [1, 85, 0, 0, 1, 8, 0, 0, 3, 208]), (.aload_n 0, 19, []), (.iload_n 1, 20, []),
  (.iconst 1, 21, [1, 1]), (.iadd, 22, []), (.invokevirtual 56, 23, [1, 67, 1, 0, 3, 6, 2, 0, 4, 45]), (.aload_n 0, 26, []), (.bipush 41, 27, [1, 41]), (.invokevirtual 73, 29, [1, 54, 1, 0, 2, 6, 0, 0, 4, 9]),
  (.return_, 32, [])
  ]
noncomputable def k_Relations_init : List Ent := [
  (.aload_n 0, 0, []), (.invokespecial 3, 1, [3, 2, 20]), (.aload_n 0, 4, []), (.iconst 5, 5, [1, 5]), (.anewarray 9, 6, [24, 2, 21]), (.putfield 11, 9, [7, 0, 2, 2, 23]),
  (.aload_n 0, 12, []), (.bipush 16, 13, [1, 16]), (.anewarray 9, 15, [24, 2, 21]), (.putfield 17, 18, [7, 3, 2, 2, 32]), (.nop, 21, [11, 1, 0]), (.aload_n 0, 21, []),
  (.new 9, 22, [3, 2, 2, 21, 1, 57, 1, 4]), (.dup, 25, []), (.invokespecial 20, 26, [2, 11, 0, 0, 1, 0, 0, 1, 2, 22]), (.putfield 21, 29, [7, 4, 2, 2, 33]), (.iconst 0, 32, [1, 0]), (.istore_n 1, 33, []),
  (.nop, 34, [19, 1, 1]), (.iload_n 1, 34, []), (.iconst 5, 35, [1, 5]), (.if_icmp .ge 22, 36, [1, 10]), (.aload_n 0, 39, []), (.getfield 11, 40, [7, 0, 2, 2, 23]),
  (.iload_n 1, 43, []), (.new 9, 44, [3, 2, 2, 21, 1, 57, 1, 4]), (.dup, 47, []), (.invokespecial 20, 48, [2, 11, 0, 0, 1, 0, 0, 1, 2, 22]), (.aastore, 51, [24, 3]), (.nop, 52, [30, 1, 1]),
  (.iinc 1 1, 52, [1, 1]), (.goto (-21), 55, [0, 19, 1, 1]), (.iconst 0, 58, [1, 0]), (.istore_n 1, 59, []), (.nop, 60, [35, 1, 1]), (.iload_n 1, 60, []),
  (.bipush 16, 61, [1, 16]), (.if_icmp .ge 22, 63, [1, 10]), (.aload_n 0, 66, []), (.getfield 17, 67, [7, 3, 2, 2, 32]), (.iload_n 1, 70, []), (.new 9, 71, [3, 2, 2, 21, 1, 57, 1, 4]),
  (.dup, 74, []), (.invokespecial 20, 75, [2, 11, 0, 0, 1, 0, 0, 1, 2, 22]), (.aastore, 78, [24, 3]), (.nop, 79, [46, 1, 1]), (.iinc 1 1, 79, [1, 1]), (.goto (-22), 82, [0, 35, 1, 1]),
  (.return_, 85, [])
  ]
noncomputable def k_Relations_begin : List Ent := [
  (.aload_n 0, 0, []), (.aload_n 1, 1, []), (.putfield 25, 2, [7, 2, 2, 2, 31]), (.aload_n 0, 5, []), (.aload_n 1, 6, []), (.getfield 29, 7, [5, 4, 0, 1, 102]),
  (.putfield 35, 10, [7, 1, 0, 2, 28]), (.iconst 0, 13, [1, 0]), (.istore_n 2, 14, []), (.nop, 15, [10, 1, 1, 1]), (.iload_n 2, 15, []), (.aload_n 1, 16, []),
  (.getfield 38, 17, [5, 1, 0, 1, 94]), (.if_icmp .ge 24, 20, [1, 11]), (.aload_n 0, 23, []), (.getfield 11, 24, [7, 0, 2, 2, 23]), (.iload_n 2, 27, []), (.aaload, 28, [24]),
  (.aload_n 1, 29, []), (.getfield 41, 30, [5, 8, 2, 1, 113]), (.iload_n 2, 33, []), (.aaload, 34, [24]), (.invokevirtual 42, 35, [1, 13, 1, 0, 2, 3, 0, 0, 2, 209]), (.iinc 2 1, 38, [1, 1]),
  (.goto (-26), 41, [0, 10, 1, 1, 1]), (.aload_n 0, 44, []), (.invokevirtual 46, 45, [1, 79, 0, 0, 4, 7, 0, 0, 2, 216]), (.return_, 48, [])
  ]
noncomputable def k_Relations_countTold : List Ent := [
  (.iconst 0, 0, [1, 0]), (.istore_n 1, 1, []), (.iconst 0, 2, [1, 0]), (.istore_n 2, 3, []), (.nop, 4, [5, 1, 1, 1]), (.aload_n 0, 4, []),
  (.getfield 25, 5, [7, 2, 2, 2, 31]), (.ifnull 43, 8, [1, 21]), (.iload_n 2, 11, []), (.aload_n 0, 12, []), (.getfield 25, 13, [7, 2, 2, 2, 31]), (.getfield 38, 16, [5, 1, 0, 1, 94]),
  (.if_icmp .ge 32, 19, [1, 16]), (.aload_n 0, 22, []), (.getfield 25, 23, [7, 2, 2, 2, 31]), (.iload_n 2, 26, []), (.invokevirtual 49, 27, [1, 45, 1, 1, 2, 5, 0, 0, 6, 110]), (.ifCond .eq 15, 30, [1, 8]),
  (.iload_n 1, 33, []), (.aload_n 0, 34, []), (.getfield 11, 35, [7, 0, 2, 2, 23]), (.iload_n 2, 38, []), (.aaload, 39, [24]), (.invokevirtual 53, 40, [1, 24, 0, 1, 3, 3, 0, 0, 6, 111]),
  (.iadd, 43, []), (.istore_n 1, 44, []), (.nop, 45, [27, 1, 1, 1]), (.iinc 2 1, 45, [1, 1]), (.goto (-44), 48, [0, 5, 1, 1, 1]), (.iload_n 1, 51, []),
  (.ireturn, 52, [0])
  ]
noncomputable def k_Relations_turnAll : List Ent := [
  (.aload_n 0, 0, []), (.iload_n 3, 1, []), (.putfield 35, 2, [7, 1, 0, 2, 28]), (.iload_n 1, 5, []), (.ifCond .lt 8, 6, [1, 3]), (.iload_n 1, 9, []),
  (.iconst 5, 10, [1, 5]), (.if_icmp .lt 4, 11, [1, 1]), (.return_, 14, []), (.iconst 0, 15, [1, 0]), (.istore 4, 16, []), (.nop, 18, [12, 1, 1, 1, 0, 1]),
  (.iload 4, 18, []), (.bipush 16, 20, [1, 16]), (.if_icmp .ge 35, 22, [1, 19]), (.iload 4, 25, []), (.aload_n 2, 27, []), (.arraylength, 28, [20]),
  (.if_icmp .ge 28, 29, [1, 15]), (.aload_n 0, 32, []), (.getfield 11, 33, [7, 0, 2, 2, 23]), (.iload_n 1, 36, []), (.aaload, 37, [24]), (.getfield 57, 38, [3, 0, 2, 1, 63]),
  (.iload 4, 41, []), (.dup2, 43, []), (.iaload, 44, [20]), (.aload_n 2, 45, []), (.iload 4, 46, []), (.iaload, 48, [20]),
  (.ixor, 49, []), (.iastore, 50, []), (.iinc 4 1, 51, [1, 1]), (.goto (-36), 54, [0, 12, 1, 1, 1, 0, 1]), (.return_, 57, [])
  ]
noncomputable def k_Relations_derive : List Ent := [
  (.iconst 0, 0, [1, 0]), (.istore_n 1, 1, []), (.iconst 0, 2, [1, 0]), (.istore_n 2, 3, []), (.nop, 4, [5, 1, 1, 1, 0]), (.aload_n 0, 4, []),
  (.getfield 25, 5, [7, 2, 2, 2, 31]), (.ifnull 59, 8, [1, 30]), (.iload_n 2, 11, []), (.aload_n 0, 12, []), (.getfield 25, 13, [7, 2, 2, 2, 31]), (.getfield 61, 16, [5, 10, 0, 1, 117]),
  (.if_icmp .ge 48, 19, [1, 25]), (.iload_n 2, 22, []), (.sipush 256, 23, [1, 256]), (.if_icmp .ge 41, 26, [1, 22]), (.aload_n 0, 29, []), (.getfield 25, 30, [7, 2, 2, 2, 31]),
  (.getfield 64, 33, [5, 9, 2, 1, 115]), (.iload_n 2, 36, []), (.iaload, 37, [20]), (.istore_n 3, 38, []), (.iload_n 3, 39, []), (.bipush 12, 40, [1, 12]),
  (.if_icmp .ge 12, 42, [1, 5]), (.aload_n 0, 45, []), (.iload_n 3, 46, []), (.iload_n 1, 47, []), (.invokevirtual 67, 48, [1, 80, 2, 1, 3, 7, 0, 0, 2, 220]), (.goto 9, 51, [1, 4]),
  (.aload_n 0, 54, []), (.iload_n 3, 55, []), (.iload_n 1, 56, []), (.invokevirtual 71, 57, [1, 81, 2, 1, 3, 7, 0, 0, 3, 9]), (.nop, 60, [35, 1, 0, 1, 0]), (.istore_n 1, 60, []),
  (.iinc 2 1, 61, [1, 1]), (.goto (-60), 64, [0, 5, 1, 1, 1, 0]), (.return_, 67, [])
  ]
noncomputable def k_Relations_openPart : List Ent := [
  (.iload_n 2, 0, []), (.ifCond .lt 9, 1, [1, 3]), (.iload_n 2, 4, []), (.bipush 16, 5, [1, 16]), (.if_icmp .lt 5, 7, [1, 2]), (.iload_n 2, 10, []),
  (.ireturn, 11, [0]), (.iload_n 1, 12, []), (.bipush 10, 13, [1, 10]), (.if_icmp .ne 22, 15, [1, 9]), (.aload_n 0, 18, []), (.getfield 17, 19, [7, 3, 2, 2, 32]),
  (.iload_n 2, 22, []), (.aaload, 23, [24]), (.aload_n 0, 24, []), (.getfield 25, 25, [7, 2, 2, 2, 31]), (.invokevirtual 74, 28, [1, 44, 0, 1, 1, 5, 0, 0, 2, 224]), (.invokevirtual 77, 31, [1, 18, 1, 0, 3, 3, 0, 0, 2, 228]),
  (.goto 52, 34, [1, 26]), (.iload_n 1, 37, []), (.bipush 11, 38, [1, 11]), (.if_icmp .ne 22, 40, [1, 9]), (.aload_n 0, 43, []), (.getfield 17, 44, [7, 3, 2, 2, 32]),
  (.iload_n 2, 47, []), (.aaload, 48, [24]), (.aload_n 0, 49, []), (.getfield 25, 50, [7, 2, 2, 2, 31]), (.invokevirtual 74, 53, [1, 44, 0, 1, 1, 5, 0, 0, 2, 224]), (.invokevirtual 81, 56, [1, 19, 1, 0, 3, 3, 0, 0, 3, 5]),
  (.goto 27, 59, [1, 14]), (.iload_n 1, 62, []), (.ifCond .lt 23, 63, [1, 12]), (.iload_n 1, 66, []), (.iconst 5, 67, [1, 5]), (.if_icmp .ge 18, 68, [1, 9]),
  (.aload_n 0, 71, []), (.getfield 17, 72, [7, 3, 2, 2, 32]), (.iload_n 2, 75, []), (.aaload, 76, [24]), (.aload_n 0, 77, []), (.getfield 11, 78, [7, 0, 2, 2, 23]),
  (.iload_n 1, 81, []), (.aaload, 82, [24]), (.invokevirtual 42, 83, [1, 13, 1, 0, 2, 3, 0, 0, 2, 209]), (.nop, 86, [46, 0, 0, 1]), (.iload_n 2, 86, []), (.iconst 1, 87, [1, 1]),
  (.iadd, 88, []), (.ireturn, 89, [0])
  ]
noncomputable def k_Relations_workPart : List Ent := [
  (.iload_n 1, 0, []), (.bipush 12, 1, [1, 12]), (.if_icmp .ne 40, 3, [1, 21]), (.iload_n 2, 6, []), (.ifCond .le 36, 7, [1, 19]), (.aload_n 0, 10, []),
  (.getfield 21, 11, [7, 4, 2, 2, 33]), (.aload_n 0, 14, []), (.getfield 17, 15, [7, 3, 2, 2, 32]), (.iload_n 2, 18, []), (.iconst 1, 19, [1, 1]), (.isub, 20, []),
  (.aaload, 21, [24]), (.invokevirtual 84, 22, [1, 21, 1, 0, 3, 3, 0, 0, 3, 13]), (.aload_n 0, 25, []), (.getfield 17, 26, [7, 3, 2, 2, 32]), (.iload_n 2, 29, []), (.iconst 1, 30, [1, 1]),
  (.isub, 31, []), (.aaload, 32, [24]), (.aload_n 0, 33, []), (.getfield 21, 34, [7, 4, 2, 2, 33]), (.invokevirtual 42, 37, [1, 13, 1, 0, 2, 3, 0, 0, 2, 209]), (.goto 106, 40, [1, 67]),
  (.nop, 43, [25, 1, 1, 1]), (.iload_n 1, 43, []), (.bipush 20, 44, [1, 20]), (.if_icmp .lt 60, 46, [1, 37]), (.iload_n 1, 49, []), (.bipush 30, 50, [1, 30]),
  (.if_icmp .ge 54, 52, [1, 34]), (.iload_n 2, 55, []), (.iconst 1, 56, [1, 1]), (.if_icmp .le 49, 57, [1, 31]), (.aload_n 0, 60, []), (.getfield 21, 61, [7, 4, 2, 2, 33]),
  (.iload_n 1, 64, []), (.bipush 20, 65, [1, 20]), (.isub, 67, []), (.aload_n 0, 68, []), (.getfield 17, 69, [7, 3, 2, 2, 32]), (.iload_n 2, 72, []),
  (.iconst 2, 73, [1, 2]), (.isub, 74, []), (.aaload, 75, [24]), (.aload_n 0, 76, []), (.getfield 17, 77, [7, 3, 2, 2, 32]), (.iload_n 2, 80, []),
  (.iconst 1, 81, [1, 1]), (.isub, 82, []), (.aaload, 83, [24]), (.invokevirtual 87, 84, [1, 20, 3, 0, 6, 3, 0, 0, 3, 21]), (.aload_n 0, 87, []), (.getfield 17, 88, [7, 3, 2, 2, 32]),
  (.iload_n 2, 91, []), (.iconst 2, 92, [1, 2]), (.isub, 93, []), (.aaload, 94, [24]), (.aload_n 0, 95, []), (.getfield 21, 96, [7, 4, 2, 2, 33]),
  (.invokevirtual 42, 99, [1, 13, 1, 0, 2, 3, 0, 0, 2, 209]), (.iload_n 2, 102, []), (.iconst 1, 103, [1, 1]), (.isub, 104, []), (.ireturn, 105, [0]), (.nop, 106, [66, 1, 1, 1]),
  (.iload_n 1, 106, []), (.bipush 30, 107, [1, 30]), (.if_icmp .lt 37, 109, [1, 22]), (.iload_n 1, 112, []), (.bipush 35, 113, [1, 35]), (.if_icmp .ge 31, 115, [1, 19]),
  (.iload_n 2, 118, []), (.ifCond .le 27, 119, [1, 17]), (.aload_n 0, 122, []), (.getfield 11, 123, [7, 0, 2, 2, 23]), (.iload_n 1, 126, []), (.bipush 30, 127, [1, 30]),
  (.isub, 129, []), (.aaload, 130, [24]), (.aload_n 0, 131, []), (.getfield 17, 132, [7, 3, 2, 2, 32]), (.iload_n 2, 135, []), (.iconst 1, 136, [1, 1]),
  (.isub, 137, []), (.aaload, 138, [24]), (.invokevirtual 42, 139, [1, 13, 1, 0, 2, 3, 0, 0, 2, 209]), (.iload_n 2, 142, []), (.iconst 1, 143, [1, 1]), (.isub, 144, []),
  (.ireturn, 145, [0]), (.iload_n 2, 146, []), (.ireturn, 147, [0])
  ]
noncomputable def k_Scanner_init : List Ent := [
  (.aload_n 0, 0, []), (.invokespecial 1, 1, [3, 1, 152]), (.aload_n 0, 4, []), (.bipush 18, 5, [1, 18]), (.newarray .long, 7, [22, 1, 79]), (.putfield 9, 9, [8, 4, 2, 1, 210]),
  (.iconst 0, 12, [1, 0]), (.istore_n 1, 13, []), (.nop, 14, [9, 1, 1, 0, 0]), (.iconst 0, 14, [1, 0]), (.istore_n 2, 15, []), (.nop, 16, [12, 1, 1, 1, 0]),
  (.iload_n 2, 16, []), (.ldc 13, 17, [98, 1000]), (.invokevirtual 15, 19, [1, 332, 0, 1, 1, 30, 0, 0, 1, 154]), (.if_icmp .ge 52, 22, [1, 29]), (.iload_n 1, 25, []), (.bipush 18, 26, [1, 18]),
  (.if_icmp .ge 46, 28, [1, 26]), (.ldc 13, 31, [98, 1000]), (.iload_n 2, 33, []), (.invokevirtual 21, 34, [1, 333, 1, 1, 2, 30, 0, 0, 1, 164]), (.istore_n 3, 37, []), (.nop, 38, [24, 1, 1, 1, 1]),
  (.iload_n 3, 38, []), (.bipush 32, 39, [1, 32]), (.if_icmp .ne 9, 41, [1, 2]), (.iinc 1 1, 44, [1, 1]), (.goto 21, 47, [1, 13]), (.aload_n 0, 50, []),
  (.getfield 9, 51, [8, 4, 2, 1, 210]), (.iload_n 1, 54, []), (.aload_n 0, 55, []), (.getfield 9, 56, [8, 4, 2, 1, 210]), (.iload_n 1, 59, []), (.laload, 60, []),
  (.bipush 8, 61, [1, 8]), (.lshl, 63, []), (.iload_n 3, 64, []), (.i2l, 65, []), (.lor, 66, []), (.lastore, 67, []),
  (.nop, 68, [43, 1, 1, 1, 0]), (.iinc 2 1, 68, [1, 1]), (.goto (-55), 71, [0, 12, 1, 1, 1, 0]), (.return_, 74, [])
  ]
noncomputable def k_Scanner_begin : List Ent := [
  (.aload_n 0, 0, []), (.aload_n 1, 1, []), (.putfield 25, 2, [8, 5, 2, 1, 211]), (.aload_n 0, 5, []), (.aload_n 1, 6, []), (.ifnonnull 7, 7, [1, 2]),
  (.iconst 0, 10, [1, 0]), (.goto 13, 11, [1, 6]), (.iconst 0, 14, [1, 0]), (.iload_n 2, 15, []), (.aload_n 1, 16, []), (.arraylength, 17, [21]),
  (.invokestatic 29, 18, [5, 3, 109]), (.invokestatic 35, 21, [4, 3, 110]), (.nop, 24, [15, 1, 0, 0]), (.putfield 38, 24, [8, 6, 0, 1, 212]), (.aload_n 0, 27, []), (.iconst 0, 28, [1, 0]),
  (.putfield 41, 29, [8, 7, 0, 1, 213]), (.aload_n 0, 32, []), (.iconst 0, 33, [1, 0]), (.putfield 44, 34, [8, 8, 3, 1, 214]), (.aload_n 0, 37, []), (.invokevirtual 48, 38, [1, 85, 0, 0, 1, 8, 0, 0, 3, 111]),
  (.return_, 41, [])
  ]
noncomputable def k_Scanner_halt : List Ent := [
  (.aload_n 0, 0, []), (.iconst 1, 1, [1, 1]), (.putfield 44, 2, [8, 8, 3, 1, 214]), (.aload_n 0, 5, []), (.iconst 1, 6, [1, 1]), (.putfield 51, 7, [8, 0, 0, 1, 203]),
  (.return_, 10, [])
  ]
noncomputable def k_Scanner_step : List Ent := [
  (.aload_n 0, 0, []), (.getfield 44, 1, [8, 8, 0, 1, 214]), (.ifCond .eq 4, 4, [1, 1]), (.return_, 7, []), (.nop, 8, [5, 1]), (.aload_n 0, 8, []),
  (.getfield 41, 9, [8, 7, 0, 1, 213]), (.aload_n 0, 12, []), (.getfield 38, 13, [8, 6, 0, 1, 212]), (.if_icmp .ge 31, 16, [1, 14]), (.aload_n 0, 19, []), (.getfield 25, 20, [8, 5, 2, 1, 211]),
  (.aload_n 0, 23, []), (.getfield 41, 24, [8, 7, 0, 1, 213]), (.baload, 27, [21]), (.invokestatic 54, 28, [0, 89, 1, 1, 1, 0, 0, 0, 3, 115]), (.ifCond .eq 16, 31, [1, 7]), (.aload_n 0, 34, []),
  (.dup, 35, []), (.getfield 41, 36, [8, 7, 0, 1, 213]), (.iconst 1, 39, [1, 1]), (.iadd, 40, []), (.putfield 41, 41, [8, 7, 0, 1, 213]), (.goto (-36), 44, [0, 5, 1]),
  (.nop, 47, [25, 1]), (.aload_n 0, 47, []), (.aload_n 0, 48, []), (.getfield 41, 49, [8, 7, 0, 1, 213]), (.putfield 58, 52, [8, 1, 0, 1, 205]), (.aload_n 0, 55, []),
  (.getfield 41, 56, [8, 7, 0, 1, 213]), (.aload_n 0, 59, []), (.getfield 38, 60, [8, 6, 0, 1, 212]), (.if_icmp .lt 11, 63, [1, 4]), (.aload_n 0, 66, []), (.iconst 2, 67, [1, 2]),
  (.putfield 51, 68, [8, 0, 0, 1, 203]), (.goto 51, 71, [1, 22]), (.aload_n 0, 74, []), (.getfield 25, 75, [8, 5, 2, 1, 211]), (.aload_n 0, 78, []), (.getfield 41, 79, [8, 7, 0, 1, 213]),
  (.baload, 82, [21]), (.invokestatic 61, 83, [0, 90, 1, 1, 1, 0, 0, 0, 3, 118]), (.ifCond .eq 10, 86, [1, 3]), (.aload_n 0, 89, []), (.invokevirtual 64, 90, [1, 87, 0, 0, 4, 8, 0, 0, 3, 121]), (.goto 29, 93, [1, 12]),
  (.aload_n 0, 96, []), (.getfield 25, 97, [8, 5, 2, 1, 211]), (.aload_n 0, 100, []), (.getfield 41, 101, [8, 7, 0, 1, 213]), (.baload, 104, [21]), (.invokestatic 67, 105, [0, 91, 1, 1, 1, 0, 0, 0, 3, 125]),
  (.ifCond .eq 10, 108, [1, 3]), (.aload_n 0, 111, []), (.invokevirtual 70, 112, [1, 88, 0, 0, 4, 8, 0, 0, 3, 128]), (.goto 7, 115, [1, 2]), (.aload_n 0, 118, []), (.invokevirtual 73, 119, [1, 86, 0, 0, 2, 8, 0, 0, 3, 132]),
  (.return_, 122, [])
  ]
noncomputable def k_Scanner_readSign : List Ent := [
  (.aload_n 0, 0, []), (.getfield 25, 1, [8, 5, 2, 1, 211]), (.aload_n 0, 4, []), (.getfield 41, 5, [8, 7, 0, 1, 213]), (.baload, 8, [21]), (.istore_n 1, 9, []),
  (.aload_n 0, 10, []), (.iload_n 1, 11, []), (.ifCond .lt 17, 12, [1, 7]), (.ldc 76, 15, [98, 1001]), (.iload_n 1, 17, []), (.i2c, 18, []),
  (.invokevirtual 78, 19, [1, 334, 1, 1, 2, 30, 0, 0, 3, 137]), (.ifCond .lt 7, 22, [1, 2]), (.iload_n 1, 25, []), (.goto 4, 26, [1, 2]), (.nop, 29, [17, 1, 0]), (.iconst 1, 29, [1, 1]),
  (.nop, 30, [19, 1, 0]), (.putfield 51, 30, [8, 0, 0, 1, 203]), (.aload_n 0, 33, []), (.dup, 34, []), (.getfield 41, 35, [8, 7, 0, 1, 213]), (.iconst 1, 38, [1, 1]),
  (.iadd, 39, []), (.putfield 41, 40, [8, 7, 0, 1, 213]), (.return_, 43, [])
  ]
noncomputable def k_Scanner_readWord : List Ent := [
  (.lconst 0, 0, []), (.lstore_n 1, 1, []), (.nop, 2, [3, 1, 1, 0, 0]), (.aload_n 0, 2, []), (.getfield 41, 3, [8, 7, 0, 1, 213]), (.aload_n 0, 6, []),
  (.getfield 38, 7, [8, 6, 0, 1, 212]), (.if_icmp .ge 47, 10, [1, 25]), (.aload_n 0, 13, []), (.getfield 25, 14, [8, 5, 2, 1, 211]), (.aload_n 0, 17, []), (.getfield 41, 18, [8, 7, 0, 1, 213]),
  (.baload, 21, [21]), (.invokestatic 61, 22, [0, 90, 1, 1, 1, 0, 0, 0, 3, 118]), (.ifCond .eq 32, 25, [1, 18]), (.lload_n 1, 28, []), (.bipush 8, 29, [1, 8]), (.lshl, 31, []),
  (.aload_n 0, 32, []), (.getfield 25, 33, [8, 5, 2, 1, 211]), (.aload_n 0, 36, []), (.getfield 41, 37, [8, 7, 0, 1, 213]), (.baload, 40, [21]), (.i2l, 41, []),
  (.lor, 42, []), (.lstore_n 1, 43, []), (.aload_n 0, 44, []), (.dup, 45, []), (.getfield 41, 46, [8, 7, 0, 1, 213]), (.iconst 1, 49, [1, 1]),
  (.iadd, 50, []), (.putfield 41, 51, [8, 7, 0, 1, 213]), (.goto (-52), 54, [0, 3, 1, 1, 0, 0]), (.nop, 57, [34, 1, 1, 0, 0]), (.aload_n 0, 57, []), (.lload_n 1, 58, []),
  (.putfield 82, 59, [8, 3, 1, 1, 208]), (.aload_n 0, 62, []), (.iconst 4, 63, [1, 4]), (.putfield 51, 64, [8, 0, 0, 1, 203]), (.iconst 0, 67, [1, 0]), (.istore_n 3, 68, []),
  (.nop, 69, [43, 1, 1, 0, 1]), (.iload_n 3, 69, []), (.bipush 18, 70, [1, 18]), (.if_icmp .ge 28, 72, [1, 15]), (.aload_n 0, 75, []), (.getfield 9, 76, [8, 4, 2, 1, 210]),
  (.iload_n 3, 79, []), (.laload, 80, []), (.lload_n 1, 81, []), (.lcmp, 82, []), (.ifCond .ne 11, 83, [1, 5]), (.aload_n 0, 86, []),
  (.bipush 100, 87, [1, 100]), (.iload_n 3, 89, []), (.iadd, 90, []), (.putfield 51, 91, [8, 0, 0, 1, 203]), (.nop, 94, [59, 1, 1, 0, 1]), (.iinc 3 1, 94, [1, 1]),
  (.goto (-28), 97, [0, 43, 1, 1, 0, 1]), (.aload_n 0, 100, []), (.getfield 41, 101, [8, 7, 0, 1, 213]), (.aload_n 0, 104, []), (.getfield 58, 105, [8, 1, 0, 1, 205]), (.isub, 108, []),
  (.bipush 8, 109, [1, 8]), (.if_icmp .le 8, 111, [1, 3]), (.aload_n 0, 114, []), (.iconst 1, 115, [1, 1]), (.putfield 51, 116, [8, 0, 0, 1, 203]), (.return_, 119, [])
  ]
noncomputable def k_Scanner_readNumber : List Ent := [
  (.iconst 0, 0, [1, 0]), (.istore_n 1, 1, []), (.nop, 2, [3, 1, 1, 0, 0]), (.aload_n 0, 2, []), (.getfield 41, 3, [8, 7, 0, 1, 213]), (.aload_n 0, 6, []),
  (.getfield 38, 7, [8, 6, 0, 1, 212]), (.if_icmp .ge 49, 10, [1, 26]), (.aload_n 0, 13, []), (.getfield 25, 14, [8, 5, 2, 1, 211]), (.aload_n 0, 17, []), (.getfield 41, 18, [8, 7, 0, 1, 213]),
  (.baload, 21, [21]), (.invokestatic 67, 22, [0, 91, 1, 1, 1, 0, 0, 0, 3, 125]), (.ifCond .eq 34, 25, [1, 19]), (.iload_n 1, 28, []), (.bipush 10, 29, [1, 10]), (.imul, 31, []),
  (.aload_n 0, 32, []), (.getfield 25, 33, [8, 5, 2, 1, 211]), (.aload_n 0, 36, []), (.getfield 41, 37, [8, 7, 0, 1, 213]), (.baload, 40, [21]), (.iadd, 41, []),
  (.bipush 48, 42, [1, 48]), (.isub, 44, []), (.istore_n 1, 45, []), (.aload_n 0, 46, []), (.dup, 47, []), (.getfield 41, 48, [8, 7, 0, 1, 213]),
  (.iconst 1, 51, [1, 1]), (.iadd, 52, []), (.putfield 41, 53, [8, 7, 0, 1, 213]), (.goto (-54), 56, [0, 3, 1, 1, 0, 0]), (.nop, 59, [35, 1, 1, 0, 0]), (.aload_n 0, 59, []),
  (.iload_n 1, 60, []), (.putfield 86, 61, [8, 2, 0, 1, 207]), (.aload_n 0, 64, []), (.getfield 41, 65, [8, 7, 0, 1, 213]), (.aload_n 0, 68, []), (.getfield 58, 69, [8, 1, 0, 1, 205]),
  (.isub, 72, []), (.iconst 4, 73, [1, 4]), (.if_icmp .le 7, 74, [1, 2]), (.iconst 1, 77, [1, 1]), (.goto 4, 78, [1, 1]), (.iconst 0, 81, [1, 0]),
  (.nop, 82, [49, 1, 0, 0, 0]), (.istore_n 2, 82, []), (.aload_n 0, 83, []), (.getfield 41, 84, [8, 7, 0, 1, 213]), (.aload_n 0, 87, []), (.getfield 38, 88, [8, 6, 0, 1, 212]),
  (.if_icmp .ge 22, 91, [1, 9]), (.aload_n 0, 94, []), (.getfield 25, 95, [8, 5, 2, 1, 211]), (.aload_n 0, 98, []), (.getfield 41, 99, [8, 7, 0, 1, 213]), (.baload, 102, [21]),
  (.invokestatic 61, 103, [0, 90, 1, 1, 1, 0, 0, 0, 3, 118]), (.ifCond .eq 7, 106, [1, 2]), (.iconst 1, 109, [1, 1]), (.goto 4, 110, [1, 2]), (.nop, 113, [65, 1, 0, 1, 0]), (.iconst 0, 113, [1, 0]),
  (.nop, 114, [67, 1, 0, 1, 0]), (.istore_n 3, 114, []), (.aload_n 0, 115, []), (.iload_n 2, 116, []), (.ifCond .ne 7, 117, [1, 2]), (.iload_n 3, 120, []),
  (.ifCond .eq 7, 121, [1, 3]), (.nop, 124, [74, 0, 0, 0, 0]), (.iconst 1, 124, [1, 1]), (.goto 4, 125, [1, 1]), (.iconst 3, 128, [1, 3]), (.nop, 129, [78, 0, 0, 0, 0]),
  (.putfield 51, 129, [8, 0, 0, 1, 203]), (.return_, 132, [])
  ]
noncomputable def k_Scanner_isBlank : List Ent := [
  (.iload_n 0, 0, []), (.bipush 32, 1, [1, 32]), (.if_icmp .eq 9, 3, [1, 3]), (.iload_n 0, 6, []), (.bipush 10, 7, [1, 10]), (.if_icmp .ne 7, 9, [1, 3]),
  (.nop, 12, [7, 0]), (.iconst 1, 12, [1, 1]), (.goto 4, 13, [1, 1]), (.iconst 0, 16, [1, 0]), (.ireturn, 17, [1])
  ]
noncomputable def k_Scanner_isLetter : List Ent := [
  (.iload_n 0, 0, []), (.bipush 97, 1, [1, 97]), (.if_icmp .lt 13, 3, [1, 5]), (.iload_n 0, 6, []), (.bipush 122, 7, [1, 122]), (.if_icmp .gt 7, 9, [1, 2]),
  (.iconst 1, 12, [1, 1]), (.goto 4, 13, [1, 1]), (.iconst 0, 16, [1, 0]), (.ireturn, 17, [1])
  ]
noncomputable def k_Scanner_isDigit : List Ent := [
  (.iload_n 0, 0, []), (.bipush 48, 1, [1, 48]), (.if_icmp .lt 13, 3, [1, 5]), (.iload_n 0, 6, []), (.bipush 57, 7, [1, 57]), (.if_icmp .gt 7, 9, [1, 2]),
  (.iconst 1, 12, [1, 1]), (.goto 4, 13, [1, 1]), (.iconst 0, 16, [1, 0]), (.ireturn, 17, [1])
  ]
noncomputable def k_Sightings_init : List Ent := [
  (.aload_n 0, 0, []), (.invokespecial 3, 1, [3, 2, 102]), (.aload_n 0, 4, []), (.new 9, 5, [3, 2, 2, 103, 1, 57, 1, 4]), (.dup, 8, []), (.invokespecial 11, 9, [2, 11, 0, 0, 1, 0, 0, 1, 2, 104]),
  (.putfield 12, 12, [9, 4, 2, 2, 111]), (.aload_n 0, 15, []), (.bipush 30, 16, [1, 30]), (.newarray .int, 18, [20, 1, 54]), (.putfield 18, 20, [9, 5, 2, 2, 112]), (.nop, 23, [12, 1]),
  (.aload_n 0, 23, []), (.bipush 30, 24, [1, 30]), (.newarray .int, 26, [20, 1, 54]), (.putfield 22, 28, [9, 6, 2, 2, 113]), (.aload_n 0, 31, []), (.bipush 30, 32, [1, 30]),
  (.newarray .int, 34, [20, 1, 54]), (.putfield 25, 36, [9, 7, 2, 2, 114]), (.nop, 39, [21, 1]), (.aload_n 0, 39, []), (.bipush 30, 40, [1, 30]), (.newarray .int, 42, [20, 1, 54]),
  (.putfield 28, 44, [9, 8, 2, 2, 115]), (.aload_n 0, 47, []), (.bipush 30, 48, [1, 30]), (.newarray .boolean, 50, [23, 2, 156]), (.putfield 31, 52, [9, 9, 2, 2, 116]), (.nop, 55, [30, 1]),
  (.aload_n 0, 55, []), (.bipush 30, 56, [1, 30]), (.newarray .int, 58, [20, 1, 54]), (.putfield 35, 60, [9, 10, 2, 2, 117]), (.aload_n 0, 63, []), (.bipush 30, 64, [1, 30]),
  (.newarray .int, 66, [20, 1, 54]), (.putfield 38, 68, [9, 11, 2, 2, 118]), (.nop, 71, [39, 1]), (.aload_n 0, 71, []), (.new 9, 72, [3, 2, 2, 103, 1, 57, 1, 4]), (.dup, 75, []),
  (.invokespecial 11, 76, [2, 11, 0, 0, 1, 0, 0, 1, 2, 104]), (.putfield 41, 79, [9, 13, 2, 2, 120]), (.aload_n 0, 82, []), (.new 9, 83, [3, 2, 2, 103, 1, 57, 1, 4]), (.dup, 86, []), (.invokespecial 11, 87, [2, 11, 0, 0, 1, 0, 0, 1, 2, 104]),
  (.putfield 44, 90, [9, 14, 2, 2, 121]), (.nop, 93, [50, 1]), (.aload_n 0, 93, []), (.new 9, 94, [3, 2, 2, 103, 1, 57, 1, 4]), (.dup, 97, []), (.invokespecial 11, 98, [2, 11, 0, 0, 1, 0, 0, 1, 2, 104]),
  (.putfield 47, 101, [9, 15, 2, 2, 122]), (.return_, 104, [])
  ]
noncomputable def k_Sightings_begin : List Ent := [
  (.aload_n 0, 0, []), (.iconst 0, 1, [1, 0]), (.putfield 50, 2, [9, 1, 0, 2, 107]), (.aload_n 0, 5, []), (.aload_n 1, 6, []), (.getfield 54, 7, [5, 1, 0, 1, 93]),
  (.ifCond .le 7, 10, [1, 2]), (.iconst 1, 13, [1, 1]), (.goto 4, 14, [1, 1]), (.iconst 0, 17, [1, 0]), (.nop, 18, [11, 1, 1, 1]), (.putfield 59, 18, [9, 2, 3, 2, 109]),
  (.aload_n 0, 21, []), (.aload_n 1, 22, []), (.getfield 63, 23, [5, 0, 0, 1, 89]), (.putfield 66, 26, [9, 3, 0, 2, 110]), (.aload_n 0, 29, []), (.getfield 12, 30, [9, 4, 2, 2, 111]),
  (.aload_n 2, 33, []), (.invokevirtual 67, 34, [1, 13, 1, 0, 2, 3, 0, 0, 3, 37]), (.return_, 37, [])
  ]
noncomputable def k_Sightings_tell : List Ent := [
  (.aload_n 0, 0, []), (.getfield 50, 1, [9, 1, 0, 2, 107]), (.bipush 30, 4, [1, 30]), (.if_icmp .lt 5, 6, [1, 2]), (.iconst (-1), 9, [0, 1]), (.ireturn, 10, [0]),
  (.aload_n 0, 11, []), (.getfield 18, 12, [9, 5, 2, 2, 112]), (.aload_n 0, 15, []), (.getfield 50, 16, [9, 1, 0, 2, 107]), (.iload_n 1, 19, []), (.iastore, 20, []),
  (.aload_n 0, 21, []), (.getfield 22, 22, [9, 6, 2, 2, 113]), (.aload_n 0, 25, []), (.getfield 50, 26, [9, 1, 0, 2, 107]), (.iload_n 2, 29, []), (.iastore, 30, []),
  (.aload_n 0, 31, []), (.getfield 25, 32, [9, 7, 2, 2, 114]), (.aload_n 0, 35, []), (.getfield 50, 36, [9, 1, 0, 2, 107]), (.iload_n 3, 39, []), (.iastore, 40, []),
  (.aload_n 0, 41, []), (.getfield 28, 42, [9, 8, 2, 2, 115]), (.aload_n 0, 45, []), (.getfield 50, 46, [9, 1, 0, 2, 107]), (.aload_n 0, 49, []), (.getfield 12, 50, [9, 4, 2, 2, 111]),
  (.iload_n 2, 53, []), (.iload_n 1, 54, []), (.aload_n 0, 55, []), (.getfield 66, 56, [9, 3, 0, 2, 110]), (.invokevirtual 71, 59, [1, 26, 3, 1, 7, 3, 0, 0, 6, 41]), (.iastore, 62, []),
  (.aload_n 0, 63, []), (.getfield 31, 64, [9, 9, 2, 2, 116]), (.aload_n 0, 67, []), (.getfield 50, 68, [9, 1, 0, 2, 107]), (.iload 4, 71, []), (.bastore, 73, [23]),
  (.aload_n 0, 74, []), (.getfield 35, 75, [9, 10, 2, 2, 117]), (.aload_n 0, 78, []), (.getfield 50, 79, [9, 1, 0, 2, 107]), (.aload_n 0, 82, []), (.getfield 75, 83, [9, 0, 0, 2, 105]),
  (.iastore, 86, []), (.aload_n 0, 87, []), (.getfield 38, 88, [9, 11, 2, 2, 118]), (.aload_n 0, 91, []), (.getfield 50, 92, [9, 1, 0, 2, 107]), (.iconst (-1), 95, [0, 1]),
  (.iastore, 96, []), (.aload_n 0, 97, []), (.dup, 98, []), (.getfield 50, 99, [9, 1, 0, 2, 107]), (.iconst 1, 102, [1, 1]), (.iadd, 103, []),
  (.putfield 50, 104, [9, 1, 0, 2, 107]), (.aload_n 0, 107, []), (.getfield 50, 108, [9, 1, 0, 2, 107]), (.iconst 1, 111, [1, 1]), (.isub, 112, []), (.ireturn, 113, [0])
  ]
noncomputable def k_Sightings_takeBack : List Ent := [
  (.iload_n 1, 0, []), (.ifCond .lt 21, 1, [1, 10]), (.iload_n 1, 4, []), (.aload_n 0, 5, []), (.getfield 50, 6, [9, 1, 0, 2, 107]), (.if_icmp .ge 13, 9, [1, 6]),
  (.aload_n 0, 12, []), (.getfield 38, 13, [9, 11, 2, 2, 118]), (.iload_n 1, 16, []), (.iaload, 17, [20]), (.iconst (-1), 18, [0, 1]), (.if_icmp .eq 5, 19, [1, 2]),
  (.iconst 0, 22, [1, 0]), (.ireturn, 23, [1]), (.aload_n 0, 24, []), (.getfield 38, 25, [9, 11, 2, 2, 118]), (.iload_n 1, 28, []), (.aload_n 0, 29, []),
  (.getfield 75, 30, [9, 0, 0, 2, 105]), (.iastore, 33, []), (.iconst 1, 34, [1, 1]), (.ireturn, 35, [1])
  ]
noncomputable def k_Sightings_gatherFits : List Ent := [
  (.aload_n 0, 0, []), (.aload_n 0, 1, []), (.getfield 59, 2, [9, 2, 0, 2, 109]), (.putfield 78, 5, [9, 12, 3, 2, 119]), (.aload_n 0, 8, []), (.getfield 41, 9, [9, 13, 2, 2, 120]),
  (.aload_n 0, 12, []), (.getfield 59, 13, [9, 2, 0, 2, 109]), (.ifCond .eq 13, 16, [1, 4]), (.aload_n 0, 19, []), (.getfield 12, 20, [9, 4, 2, 2, 111]), (.getfield 81, 23, [3, 1, 0, 1, 71]),
  (.goto 4, 26, [1, 1]), (.iconst 0, 29, [1, 0]), (.nop, 30, [15, 1, 1, 0, 0]), (.invokevirtual 84, 30, [1, 19, 1, 0, 3, 3, 0, 0, 6, 67]), (.iconst 0, 33, [1, 0]), (.istore_n 2, 34, []),
  (.nop, 35, [19, 1, 1, 1, 0]), (.iload_n 2, 35, []), (.aload_n 0, 36, []), (.getfield 50, 37, [9, 1, 0, 2, 107]), (.if_icmp .ge 54, 40, [1, 32]), (.aload_n 0, 43, []),
  (.getfield 38, 44, [9, 11, 2, 2, 118]), (.iload_n 2, 47, []), (.iaload, 48, [20]), (.iconst (-1), 49, [0, 1]), (.if_icmp .eq 17, 50, [1, 8]), (.aload_n 0, 53, []),
  (.getfield 38, 54, [9, 11, 2, 2, 118]), (.iload_n 2, 57, []), (.iaload, 58, [20]), (.iload_n 1, 59, []), (.if_icmp .gt 7, 60, [1, 2]), (.iconst 1, 63, [1, 1]),
  (.goto 4, 64, [1, 2]), (.nop, 67, [38, 1, 1, 1, 0]), (.iconst 0, 67, [1, 0]), (.nop, 68, [40, 1, 1, 1, 0]), (.istore_n 3, 68, []), (.aload_n 0, 69, []),
  (.getfield 35, 70, [9, 10, 2, 2, 117]), (.iload_n 2, 73, []), (.iaload, 74, [20]), (.iload_n 1, 75, []), (.if_icmp .gt 12, 76, [1, 5]), (.iload_n 3, 79, []),
  (.ifCond .ne 8, 80, [1, 3]), (.aload_n 0, 83, []), (.iload_n 2, 84, []), (.invokevirtual 88, 85, [1, 97, 1, 0, 13, 9, 0, 0, 6, 68]), (.nop, 88, [53, 1, 1, 1, 0]), (.iinc 2 1, 88, [1, 1]),
  (.goto (-56), 91, [0, 19, 1, 1, 1, 0]), (.return_, 94, [])
  ]
noncomputable def k_Sightings_dropUnfit : List Ent := [
  (.aload_n 0, 0, []), (.iload_n 1, 1, []), (.aload_n 0, 2, []), (.getfield 28, 3, [9, 8, 2, 2, 115]), (.iload_n 1, 6, []), (.iaload, 7, [20]),
  (.invokevirtual 91, 8, [1, 98, 2, 1, 3, 9, 0, 0, 6, 72]), (.istore_n 2, 11, []), (.aload_n 0, 12, []), (.iload_n 1, 13, []), (.aload_n 0, 14, []), (.getfield 28, 15, [9, 8, 2, 2, 115]),
  (.iload_n 1, 18, []), (.iaload, 19, [20]), (.iconst 1, 20, [1, 1]), (.isub, 21, []), (.invokevirtual 91, 22, [1, 98, 2, 1, 3, 9, 0, 0, 6, 72]), (.istore_n 3, 25, []),
  (.aload_n 0, 26, []), (.iload_n 1, 27, []), (.aload_n 0, 28, []), (.getfield 28, 29, [9, 8, 2, 2, 115]), (.iload_n 1, 32, []), (.iaload, 33, [20]),
  (.iconst 1, 34, [1, 1]), (.iadd, 35, []), (.invokevirtual 91, 36, [1, 98, 2, 1, 3, 9, 0, 0, 6, 72]), (.istore 4, 39, []), (.aload_n 0, 41, []), (.getfield 18, 42, [9, 5, 2, 2, 112]),
  (.iload_n 1, 45, []), (.iaload, 46, [20]), (.istore 5, 47, []), (.aload_n 0, 49, []), (.getfield 66, 50, [9, 3, 0, 2, 110]), (.iload 5, 53, []),
  (.isub, 55, []), (.istore 6, 56, []), (.aload_n 0, 58, []), (.getfield 22, 59, [9, 6, 2, 2, 113]), (.iload_n 1, 62, []), (.iaload, 63, [20]),
  (.iload 5, 64, []), (.ishr, 66, []), (.istore 7, 67, []), (.aload_n 0, 69, []), (.getfield 22, 70, [9, 6, 2, 2, 113]), (.iload_n 1, 73, []),
  (.iaload, 74, [20]), (.iconst 1, 75, [1, 1]), (.iload 5, 76, []), (.ishl, 78, []), (.iconst 1, 79, [1, 1]), (.isub, 80, []),
  (.iand, 81, []), (.iload 6, 82, []), (.ishl, 84, []), (.istore 8, 85, []), (.iconst 1, 87, [1, 1]), (.iconst 1, 88, [1, 1]),
  (.iload 6, 89, []), (.ishl, 91, []), (.ishl, 92, []), (.iconst 1, 93, [1, 1]), (.isub, 94, []), (.iload 8, 95, []),
  (.ishl, 97, []), (.istore 9, 98, []), (.aload_n 0, 100, []), (.aload_n 0, 101, []), (.getfield 78, 102, [9, 12, 0, 2, 119]), (.ifCond .eq 11, 105, [1, 4]),
  (.iload_n 2, 108, []), (.ifCond .eq 7, 109, [1, 2]), (.iconst 1, 112, [1, 1]), (.goto 4, 113, [1, 2]), (.nop, 116, [77, 1, 0, 1, 1, 1, 0, 1, 1, 0, 1, 0, 0, 0]), (.iconst 0, 116, [1, 0]),
  (.nop, 117, [79, 1, 0, 1, 1, 1, 0, 1, 1, 0, 1, 0, 0, 0]), (.putfield 78, 117, [9, 12, 3, 2, 119]), (.iconst 0, 120, [1, 0]), (.istore 10, 121, []), (.nop, 123, [83, 1, 0, 1, 1, 1, 0, 1, 1, 0, 1, 1, 0, 0]), (.iload 10, 123, []),
  (.aload_n 0, 125, []), (.getfield 41, 126, [9, 13, 2, 2, 120]), (.getfield 81, 129, [3, 1, 0, 1, 71]), (.if_icmp .ge 103, 132, [1, 58]), (.iload 10, 135, []), (.iload 6, 137, []),
  (.ishr, 139, []), (.iload 7, 140, []), (.if_icmp .ne 8, 142, [1, 2]), (.iload 9, 145, []), (.goto 4, 147, [1, 1]), (.iconst 0, 150, [1, 0]),
  (.nop, 151, [97, 1, 0, 1, 1, 1, 0, 1, 1, 0, 1, 1, 0, 0]), (.istore 11, 151, []), (.iload_n 2, 153, []), (.ifCond .eq 10, 154, [1, 4]), (.iload 11, 157, []), (.iconst (-1), 159, [0, 1]),
  (.ixor, 160, []), (.goto 4, 161, [1, 1]), (.iconst 0, 164, [1, 0]), (.nop, 165, [106, 1, 0, 1, 1, 1, 0, 1, 1, 0, 1, 1, 1, 0]), (.istore 12, 165, []), (.iload_n 3, 167, []),
  (.ifCond .eq 21, 168, [1, 10]), (.iload 12, 171, []), (.iload 11, 173, []), (.aload_n 0, 175, []), (.getfield 12, 176, [9, 4, 2, 2, 111]), (.getfield 95, 179, [3, 0, 2, 1, 65]),
  (.iload 10, 182, []), (.iaload, 184, [20]), (.iand, 185, []), (.ior, 186, []), (.istore 12, 187, []), (.nop, 189, [120, 1, 0, 1, 1, 1, 0, 1, 1, 0, 1, 1, 1, 1]),
  (.iload 4, 189, []), (.ifCond .eq 23, 191, [1, 12]), (.iload 12, 194, []), (.iload 11, 196, []), (.aload_n 0, 198, []), (.getfield 12, 199, [9, 4, 2, 2, 111]),
  (.getfield 95, 202, [3, 0, 2, 1, 65]), (.iload 10, 205, []), (.iaload, 207, [20]), (.iconst (-1), 208, [0, 1]), (.ixor, 209, []), (.iand, 210, []),
  (.ior, 211, []), (.istore 12, 212, []), (.nop, 214, [135, 1, 0, 1, 1, 1, 0, 1, 1, 0, 1, 1, 0, 1]), (.aload_n 0, 214, []), (.getfield 41, 215, [9, 13, 2, 2, 120]), (.getfield 95, 218, [3, 0, 2, 1, 65]),
  (.iload 10, 221, []), (.dup2, 223, []), (.iaload, 224, [20]), (.iload 12, 225, []), (.iand, 227, []), (.iastore, 228, []),
  (.iinc 10 1, 229, [1, 1]), (.goto (-109), 232, [0, 83, 1, 0, 1, 1, 1, 0, 1, 1, 0, 1, 1, 0, 0]), (.return_, 235, [])
  ]
noncomputable def k_Sightings_fitsWith : List Ent := [
  (.iload_n 2, 0, []), (.aload_n 0, 1, []), (.getfield 25, 2, [9, 7, 2, 2, 114]), (.iload_n 1, 5, []), (.iaload, 6, [20]), (.if_icmp .ne 7, 7, [1, 2]),
  (.iconst 1, 10, [1, 1]), (.goto 4, 11, [1, 1]), (.iconst 0, 14, [1, 0]), (.nop, 15, [10, 1, 1, 0]), (.aload_n 0, 15, []), (.getfield 31, 16, [9, 9, 2, 2, 116]),
  (.iload_n 1, 19, []), (.baload, 20, [23]), (.if_icmp .ne 7, 21, [1, 2]), (.iconst 1, 24, [1, 1]), (.goto 4, 25, [1, 1]), (.iconst 0, 28, [1, 0]),
  (.ireturn, 29, [1])
  ]
noncomputable def k_Sightings_countFits : List Ent := [
  (.aload_n 0, 0, []), (.iload_n 1, 1, []), (.invokevirtual 98, 2, [1, 96, 1, 0, 4, 9, 0, 0, 6, 63]), (.aload_n 0, 5, []), (.getfield 41, 6, [9, 13, 2, 2, 120]), (.invokevirtual 101, 9, [1, 24, 0, 1, 3, 3, 0, 0, 6, 76]),
  (.aload_n 0, 12, []), (.getfield 78, 13, [9, 12, 0, 2, 119]), (.ifCond .eq 7, 16, [1, 2]), (.iconst 1, 19, [1, 1]), (.goto 4, 20, [1, 1]), (.iconst 0, 23, [1, 0]),
  (.nop, 24, [13, 0, 0]), (.iadd, 24, []), (.ireturn, 25, [0])
  ]
noncomputable def k_Sightings_findFit : List Ent := [
  (.aload_n 0, 0, []), (.iload_n 2, 1, []), (.invokevirtual 98, 2, [1, 96, 1, 0, 4, 9, 0, 0, 6, 63]), (.iload_n 1, 5, []), (.ifCond .ge 6, 6, [1, 2]), (.bipush (-2), 9, [0, 2]),
  (.ireturn, 11, [0]), (.aload_n 0, 12, []), (.getfield 78, 13, [9, 12, 0, 2, 119]), (.ifCond .eq 9, 16, [1, 4]), (.iload_n 1, 19, []), (.ifCond .ne 5, 20, [1, 2]),
  (.iconst (-1), 23, [0, 1]), (.ireturn, 24, [0]), (.nop, 25, [15, 1, 1, 0, 0]), (.aload_n 0, 25, []), (.getfield 41, 26, [9, 13, 2, 2, 120]), (.aload_n 0, 29, []),
  (.getfield 78, 30, [9, 12, 0, 2, 119]), (.ifCond .eq 9, 33, [1, 4]), (.iload_n 1, 36, []), (.iconst 1, 37, [1, 1]), (.isub, 38, []), (.goto 4, 39, [1, 1]),
  (.iload_n 1, 42, []), (.nop, 43, [26, 1, 0, 0, 0]), (.invokevirtual 105, 43, [1, 28, 1, 1, 5, 3, 0, 0, 6, 85]), (.istore_n 3, 46, []), (.iload_n 3, 47, []), (.iconst (-1), 48, [0, 1]),
  (.if_icmp .ne 6, 49, [1, 2]), (.bipush (-2), 52, [0, 2]), (.ireturn, 54, [0]), (.iload_n 3, 55, []), (.bipush 16, 56, [1, 16]), (.idiv, 58, []),
  (.aload_n 0, 59, []), (.getfield 12, 60, [9, 4, 2, 2, 111]), (.getfield 81, 63, [3, 1, 0, 1, 71]), (.imul, 66, []), (.iload_n 3, 67, []), (.bipush 16, 68, [1, 16]),
  (.irem, 70, []), (.iadd, 71, []), (.ireturn, 72, [0])
  ]
noncomputable def k_Sightings_bestBlock : List Ent := [
  (.aload_n 0, 0, []), (.iload_n 2, 1, []), (.invokevirtual 109, 2, [1, 99, 1, 1, 2, 9, 0, 0, 6, 94]), (.istore 4, 5, []), (.iload 4, 7, []), (.ifCond .ne 5, 9, [1, 2]),
  (.iconst (-1), 12, [0, 1]), (.ireturn, 13, [0]), (.aload_n 0, 14, []), (.getfield 44, 15, [9, 14, 2, 2, 121]), (.iconst 1, 18, [1, 1]), (.aload_n 0, 19, []),
  (.getfield 41, 20, [9, 13, 2, 2, 120]), (.aload_n 0, 23, []), (.getfield 12, 24, [9, 4, 2, 2, 111]), (.invokevirtual 112, 27, [1, 20, 3, 0, 6, 3, 0, 0, 6, 95]), (.aload_n 0, 30, []), (.getfield 47, 31, [9, 15, 2, 2, 122]),
  (.iconst 2, 34, [1, 2]), (.aload_n 0, 35, []), (.getfield 41, 36, [9, 13, 2, 2, 120]), (.aload_n 0, 39, []), (.getfield 12, 40, [9, 4, 2, 2, 111]), (.invokevirtual 112, 43, [1, 20, 3, 0, 6, 3, 0, 0, 6, 95]),
  (.iconst 0, 46, [1, 0]), (.istore 5, 47, []), (.iload 4, 49, []), (.iconst 1, 51, [1, 1]), (.iadd, 52, []), (.istore 6, 53, []),
  (.iconst 0, 55, [1, 0]), (.istore 7, 56, []), (.nop, 58, [33, 1, 1, 0, 1, 1, 1, 1, 1, 0, 0, 0]), (.iload 7, 58, []), (.iconst 1, 60, [1, 1]), (.iconst 2, 61, [1, 2]),
  (.iload_n 1, 62, []), (.imul, 63, []), (.ishl, 64, []), (.if_icmp .ge 76, 65, [1, 36]), (.aload_n 0, 68, []), (.getfield 44, 69, [9, 14, 2, 2, 121]),
  (.iload 7, 72, []), (.iload_n 1, 74, []), (.aload_n 0, 75, []), (.getfield 66, 76, [9, 3, 0, 2, 110]), (.invokevirtual 71, 79, [1, 26, 3, 1, 7, 3, 0, 0, 6, 41]), (.istore 8, 82, []),
  (.aload_n 0, 84, []), (.getfield 47, 85, [9, 15, 2, 2, 122]), (.iload 7, 88, []), (.iload_n 1, 90, []), (.aload_n 0, 91, []), (.getfield 66, 92, [9, 3, 0, 2, 110]),
  (.invokevirtual 71, 95, [1, 26, 3, 1, 7, 3, 0, 0, 6, 41]), (.istore 9, 98, []), (.iload 4, 100, []), (.iload 8, 102, []), (.isub, 104, []), (.iload 9, 105, []),
  (.isub, 107, []), (.iload 8, 108, []), (.iload 9, 110, []), (.invokestatic 116, 112, [4, 6, 96]), (.invokestatic 116, 115, [4, 6, 96]), (.istore 10, 118, []),
  (.iload 10, 120, []), (.iload 6, 122, []), (.if_icmp .ge 11, 124, [1, 4]), (.iload 10, 127, []), (.istore 6, 129, []), (.iload 7, 131, []),
  (.istore 5, 133, []), (.nop, 135, [74, 1, 1, 0, 1, 1, 1, 1, 1, 0, 0, 0]), (.iinc 7 1, 135, [1, 1]), (.goto (-80), 138, [0, 33, 1, 1, 0, 1, 1, 1, 1, 1, 0, 0, 0]), (.iload_n 3, 141, []), (.ifCond .eq 8, 142, [1, 2]),
  (.iload 6, 145, []), (.goto 5, 147, [1, 1]), (.iload 5, 150, []), (.ireturn, 152, [0])
  ]
noncomputable def k_Steps_init : List Ent := [
  (.aload_n 0, 0, []), (.invokespecial 3, 1, [3, 2, 191]), (.aload_n 0, 4, []), (.new 9, 5, [3, 2, 2, 192, 1, 57, 1, 4]), (.dup, 8, []), (.invokespecial 11, 9, [2, 11, 0, 0, 1, 0, 0, 1, 2, 193]),
  (.putfield 12, 12, [10, 0, 2, 2, 194]), (.aload_n 0, 15, []), (.new 9, 16, [3, 2, 2, 192, 1, 57, 1, 4]), (.dup, 19, []), (.invokespecial 11, 20, [2, 11, 0, 0, 1, 0, 0, 1, 2, 193]), (.putfield 18, 23, [10, 1, 2, 2, 195]),
  (.nop, 26, [13, 0]), (.return_, 26, [])
  ]
noncomputable def k_Steps_allFrom : List Ent := [
  (.iconst 1, 0, [1, 1]), (.iload_n 2, 1, []), (.ishl, 2, []), (.istore_n 3, 3, []), (.iconst 0, 4, [1, 0]), (.istore 4, 5, []),
  (.nop, 7, [7, 0, 1, 0, 1, 1]), (.iload 4, 7, []), (.aload_n 1, 9, []), (.getfield 21, 10, [3, 1, 0, 1, 69]), (.if_icmp .ge 17, 13, [1, 8]), (.iload_n 3, 16, []),
  (.aload_n 1, 17, []), (.iload_n 3, 18, []), (.invokevirtual 25, 19, [1, 22, 1, 1, 4, 3, 0, 0, 5, 174]), (.ior, 22, []), (.istore_n 3, 23, []), (.iinc 4 1, 24, [1, 1]),
  (.goto (-20), 27, [0, 7, 0, 1, 0, 1, 1]), (.iload_n 3, 30, []), (.ireturn, 31, [0])
  ]
noncomputable def k_Steps_fewest : List Ent := [
  (.iconst 1, 0, [1, 1]), (.iload_n 2, 1, []), (.ishl, 2, []), (.istore 4, 3, []), (.iconst 0, 5, [1, 0]), (.istore 5, 6, []),
  (.nop, 8, [7, 0, 1, 0, 1, 1, 1]), (.iload 5, 8, []), (.aload_n 1, 10, []), (.getfield 21, 11, [3, 1, 0, 1, 69]), (.if_icmp .ge 33, 14, [1, 17]), (.iload 4, 17, []),
  (.iload_n 3, 19, []), (.ishr, 20, []), (.iconst 1, 21, [1, 1]), (.iand, 22, []), (.iconst 1, 23, [1, 1]), (.if_icmp .ne 6, 24, [1, 2]),
  (.iload 5, 27, []), (.ireturn, 29, [0]), (.iload 4, 30, []), (.aload_n 1, 32, []), (.iload 4, 33, []), (.invokevirtual 25, 35, [1, 22, 1, 1, 4, 3, 0, 0, 5, 174]),
  (.ior, 38, []), (.istore 4, 39, []), (.iinc 5 1, 41, [1, 1]), (.goto (-36), 44, [0, 7, 0, 1, 0, 1, 1, 1]), (.iconst (-1), 47, [0, 1]), (.ireturn, 48, [0])
  ]
noncomputable def k_Steps_bothWays : List Ent := [
  (.aload_n 0, 0, []), (.getfield 12, 1, [10, 0, 2, 2, 194]), (.aload_n 1, 4, []), (.invokevirtual 29, 5, [1, 21, 1, 0, 3, 3, 0, 0, 5, 191]), (.aload_n 0, 8, []), (.aload_n 1, 9, []),
  (.iload_n 2, 10, []), (.invokevirtual 33, 11, [1, 103, 2, 1, 5, 10, 0, 0, 5, 192]), (.aload_n 0, 14, []), (.aload_n 0, 15, []), (.getfield 12, 16, [10, 0, 2, 2, 194]), (.iload_n 2, 19, []),
  (.invokevirtual 33, 20, [1, 103, 2, 1, 5, 10, 0, 0, 5, 192]), (.iand, 23, []), (.ireturn, 24, [0])
  ]
noncomputable def k_Steps_countClosure : List Ent := [
  (.aload_n 0, 0, []), (.aload_n 1, 1, []), (.invokevirtual 37, 2, [1, 108, 1, 1, 5, 10, 0, 0, 5, 201]), (.pop, 5, []), (.aload_n 0, 6, []), (.getfield 12, 7, [10, 0, 2, 2, 194]),
  (.invokevirtual 41, 10, [1, 24, 0, 1, 3, 3, 0, 0, 5, 211]), (.ireturn, 13, [0])
  ]
noncomputable def k_Steps_countGoes : List Ent := [
  (.aload_n 0, 0, []), (.aload_n 1, 1, []), (.invokevirtual 37, 2, [1, 108, 1, 1, 5, 10, 0, 0, 5, 201]), (.ireturn, 5, [0])
  ]
noncomputable def k_Steps_settle : List Ent := [
  (.aload_n 0, 0, []), (.getfield 12, 1, [10, 0, 2, 2, 194]), (.aload_n 1, 4, []), (.invokevirtual 45, 5, [1, 13, 1, 0, 2, 3, 0, 0, 5, 205]), (.iconst 0, 8, [1, 0]), (.istore_n 2, 9, []),
  (.iconst 0, 10, [1, 0]), (.istore_n 3, 11, []), (.nop, 12, [9, 1, 0, 1, 1, 0]), (.iload_n 3, 12, []), (.bipush 16, 13, [1, 16]), (.if_icmp .ge 88, 15, [1, 42]),
  (.aload_n 0, 18, []), (.getfield 18, 19, [10, 1, 2, 2, 195]), (.iconst 3, 22, [1, 3]), (.aload_n 0, 23, []), (.getfield 12, 24, [10, 0, 2, 2, 194]), (.aload_n 0, 27, []),
  (.getfield 12, 28, [10, 0, 2, 2, 194]), (.invokevirtual 48, 31, [1, 20, 3, 0, 6, 3, 0, 0, 5, 206]), (.aload_n 0, 34, []), (.getfield 18, 35, [10, 1, 2, 2, 195]), (.aload_n 0, 38, []), (.getfield 12, 39, [10, 0, 2, 2, 194]),
  (.invokevirtual 52, 42, [1, 29, 1, 1, 3, 3, 0, 0, 5, 207]), (.ifCond .eq 5, 45, [1, 2]), (.iload_n 2, 48, []), (.ireturn, 49, [0]), (.iconst 0, 50, [1, 0]), (.istore 4, 51, []),
  (.nop, 53, [31, 1, 0, 1, 1, 1]), (.iload 4, 53, []), (.aload_n 0, 55, []), (.getfield 12, 56, [10, 0, 2, 2, 194]), (.getfield 21, 59, [3, 1, 0, 1, 69]), (.if_icmp .ge 32, 62, [1, 15]),
  (.aload_n 0, 65, []), (.getfield 12, 66, [10, 0, 2, 2, 194]), (.getfield 56, 69, [3, 0, 2, 1, 66]), (.iload 4, 72, []), (.dup2, 74, []), (.iaload, 75, [20]),
  (.aload_n 0, 76, []), (.getfield 18, 77, [10, 1, 2, 2, 195]), (.getfield 56, 80, [3, 0, 2, 1, 66]), (.iload 4, 83, []), (.iaload, 85, [20]), (.ior, 86, []),
  (.iastore, 87, []), (.iinc 4 1, 88, [1, 1]), (.goto (-38), 91, [0, 31, 1, 0, 1, 1, 1]), (.iinc 2 1, 94, [1, 1]), (.iinc 3 1, 97, [1, 1]), (.goto (-88), 100, [0, 9, 1, 0, 1, 1, 0]),
  (.iload_n 2, 103, []), (.ireturn, 104, [0])
  ]
noncomputable def k_Steps_countSets : List Ent := [
  (.aload_n 0, 0, []), (.getfield 12, 1, [10, 0, 2, 2, 194]), (.iconst 4, 4, [1, 4]), (.aload_n 1, 5, []), (.aload_n 1, 6, []), (.invokevirtual 48, 7, [1, 20, 3, 0, 6, 3, 0, 0, 5, 206]),
  (.iconst 0, 10, [1, 0]), (.istore_n 2, 11, []), (.iconst 0, 12, [1, 0]), (.istore_n 3, 13, []), (.iconst 0, 14, [1, 0]), (.istore 4, 15, []),
  (.nop, 17, [13, 1, 0, 1, 1, 1]), (.iload 4, 17, []), (.aload_n 0, 19, []), (.getfield 12, 20, [10, 0, 2, 2, 194]), (.getfield 21, 23, [3, 1, 0, 1, 69]), (.if_icmp .ge 34, 26, [1, 18]),
  (.iload_n 2, 29, []), (.iload 4, 30, []), (.ishr, 32, []), (.iconst 1, 33, [1, 1]), (.iand, 34, []), (.ifCond .ne 19, 35, [1, 9]),
  (.iload_n 2, 38, []), (.aload_n 0, 39, []), (.aload_n 0, 40, []), (.getfield 12, 41, [10, 0, 2, 2, 194]), (.iload 4, 44, []), (.invokevirtual 33, 46, [1, 103, 2, 1, 5, 10, 0, 0, 5, 192]),
  (.ior, 49, []), (.istore_n 2, 50, []), (.iinc 3 1, 51, [1, 1]), (.nop, 54, [34, 1, 0, 1, 1, 1]), (.iinc 4 1, 54, [1, 1]), (.goto (-40), 57, [0, 13, 1, 0, 1, 1, 1]),
  (.iload_n 3, 60, []), (.ireturn, 61, [0])
  ]
noncomputable def k_Tree_init : List Ent := [
  (.aload_n 0, 0, []), (.invokespecial 3, 1, [3, 2, 162]), (.aload_n 0, 4, []), (.iconst 5, 5, [1, 5]), (.anewarray 9, 6, [24, 2, 163]), (.putfield 11, 9, [11, 0, 2, 2, 165]),
  (.aload_n 0, 12, []), (.sipush 340, 13, [1, 340]), (.newarray .int, 16, [20, 1, 54]), (.putfield 17, 18, [11, 1, 2, 2, 166]), (.nop, 21, [11, 1, 0]), (.aload_n 0, 21, []),
  (.sipush 340, 22, [1, 340]), (.newarray .int, 25, [20, 1, 54]), (.putfield 21, 27, [11, 2, 2, 2, 167]), (.aload_n 0, 30, []), (.sipush 340, 31, [1, 340]), (.newarray .int, 34, [20, 1, 54]),
  (.putfield 24, 36, [11, 3, 2, 2, 168]), (.nop, 39, [20, 1, 0]), (.iconst 0, 39, [1, 0]), (.istore_n 1, 40, []), (.nop, 41, [23, 1, 1]), (.iload_n 1, 41, []),
  (.iconst 4, 42, [1, 4]), (.if_icmp .gt 22, 43, [1, 10]), (.aload_n 0, 46, []), (.getfield 11, 47, [11, 0, 2, 2, 165]), (.iload_n 1, 50, []), (.new 9, 51, [3, 2, 2, 163, 1, 57, 1, 4]),
  (.dup, 54, []), (.invokespecial 27, 55, [2, 11, 0, 0, 1, 0, 0, 1, 2, 164]), (.aastore, 58, [24, 3]), (.nop, 59, [34, 1, 1]), (.iinc 1 1, 59, [1, 1]), (.goto (-21), 62, [0, 23, 1, 1]),
  (.return_, 65, [])
  ]
noncomputable def k_Tree_grow : List Ent := [
  (.aload_n 0, 0, []), (.iconst 1, 1, [1, 1]), (.iload_n 2, 2, []), (.iconst 4, 3, [1, 4]), (.invokestatic 28, 4, [5, 4, 120]), (.invokestatic 34, 7, [4, 4, 121]),
  (.putfield 37, 10, [11, 5, 0, 2, 170]), (.aload_n 0, 13, []), (.getfield 11, 14, [11, 0, 2, 2, 165]), (.aload_n 0, 17, []), (.getfield 37, 18, [11, 5, 0, 2, 170]), (.aaload, 21, [24]),
  (.aload_n 1, 22, []), (.invokevirtual 41, 23, [1, 13, 1, 0, 2, 3, 0, 0, 4, 122]), (.aload_n 0, 26, []), (.getfield 37, 27, [11, 5, 0, 2, 170]), (.iconst 1, 30, [1, 1]), (.isub, 31, []),
  (.istore_n 3, 32, []), (.nop, 33, [20, 1, 0, 0, 1]), (.iload_n 3, 33, []), (.ifCond .lt 26, 34, [1, 13]), (.aload_n 0, 37, []), (.getfield 11, 38, [11, 0, 2, 2, 165]),
  (.iload_n 3, 41, []), (.aaload, 42, [24]), (.aload_n 0, 43, []), (.getfield 11, 44, [11, 0, 2, 2, 165]), (.iload_n 3, 47, []), (.iconst 1, 48, [1, 1]),
  (.iadd, 49, []), (.aaload, 50, [24]), (.invokevirtual 45, 51, [1, 35, 1, 0, 5, 3, 0, 0, 4, 123]), (.iinc 3 (-1), 54, [0, 1]), (.goto (-24), 57, [0, 20, 1, 0, 0, 1]), (.return_, 60, [])
  ]
noncomputable def k_Tree_filledOn : List Ent := [
  (.aload_n 0, 0, []), (.getfield 11, 1, [11, 0, 2, 2, 165]), (.iconst 0, 4, [1, 0]), (.iload_n 1, 5, []), (.aload_n 0, 6, []), (.getfield 37, 7, [11, 5, 0, 2, 170]),
  (.invokestatic 28, 10, [5, 4, 120]), (.invokestatic 34, 13, [4, 4, 121]), (.aaload, 16, [24]), (.areturn, 17, [])
  ]
noncomputable def k_Tree_countBits : List Ent := [
  (.iconst 4, 0, [1, 4]), (.istore_n 1, 1, []), (.iconst 1, 2, [1, 1]), (.istore_n 2, 3, []), (.nop, 4, [5, 1, 1, 1]), (.iload_n 2, 4, []),
  (.aload_n 0, 5, []), (.getfield 37, 6, [11, 5, 0, 2, 170]), (.if_icmp .ge 23, 9, [1, 12]), (.iload_n 1, 12, []), (.iconst 4, 13, [1, 4]), (.aload_n 0, 14, []),
  (.getfield 11, 15, [11, 0, 2, 2, 165]), (.iload_n 2, 18, []), (.aaload, 19, [24]), (.invokevirtual 48, 20, [1, 24, 0, 1, 3, 3, 0, 0, 4, 131]), (.imul, 23, []), (.iadd, 24, []),
  (.istore_n 1, 25, []), (.iinc 2 1, 26, [1, 1]), (.goto (-25), 29, [0, 5, 1, 1, 1]), (.iload_n 1, 32, []), (.ireturn, 33, [0])
  ]
noncomputable def k_Tree_layBits : List Ent := [
  (.aload_n 0, 0, []), (.iconst 0, 1, [1, 0]), (.putfield 52, 2, [11, 4, 0, 2, 169]), (.aload_n 0, 5, []), (.iconst 1, 6, [1, 1]), (.iconst 0, 7, [1, 0]),
  (.iconst 0, 8, [1, 0]), (.invokevirtual 55, 9, [1, 115, 3, 0, 5, 11, 0, 0, 5, 14]), (.iconst 0, 12, [1, 0]), (.istore_n 1, 13, []), (.nop, 14, [11, 1, 1]), (.iload_n 1, 14, []),
  (.aload_n 0, 15, []), (.getfield 52, 16, [11, 4, 0, 2, 169]), (.if_icmp .ge 66, 19, [1, 38]), (.iload_n 1, 22, []), (.sipush 340, 23, [1, 340]), (.if_icmp .ge 59, 26, [1, 35]),
  (.aload_n 0, 29, []), (.getfield 17, 30, [11, 1, 2, 2, 166]), (.iload_n 1, 33, []), (.iaload, 34, [20]), (.aload_n 0, 35, []), (.getfield 37, 36, [11, 5, 0, 2, 170]),
  (.if_icmp .ge 40, 39, [1, 25]), (.aload_n 0, 42, []), (.iload_n 1, 43, []), (.invokevirtual 59, 44, [1, 117, 1, 1, 2, 11, 0, 0, 5, 18]), (.iconst 1, 47, [1, 1]), (.if_icmp .ne 31, 48, [1, 20]),
  (.aload_n 0, 51, []), (.aload_n 0, 52, []), (.getfield 17, 53, [11, 1, 2, 2, 166]), (.iload_n 1, 56, []), (.iaload, 57, [20]), (.iconst 1, 58, [1, 1]),
  (.iadd, 59, []), (.iconst 2, 60, [1, 2]), (.aload_n 0, 61, []), (.getfield 21, 62, [11, 2, 2, 2, 167]), (.iload_n 1, 65, []), (.iaload, 66, [20]),
  (.imul, 67, []), (.iconst 2, 68, [1, 2]), (.aload_n 0, 69, []), (.getfield 24, 70, [11, 3, 2, 2, 168]), (.iload_n 1, 73, []), (.iaload, 74, [20]),
  (.imul, 75, []), (.invokevirtual 55, 76, [1, 115, 3, 0, 5, 11, 0, 0, 5, 14]), (.nop, 79, [51, 1, 1]), (.iinc 1 1, 79, [1, 1]), (.goto (-68), 82, [0, 11, 1, 1]), (.return_, 85, [])
  ]
noncomputable def k_Tree_layQuarters : List Ent := [
  (.iconst 0, 0, [1, 0]), (.istore 4, 1, []), (.nop, 3, [3, 1, 1, 1, 1, 1]), (.iload 4, 3, []), (.iconst 4, 5, [1, 4]), (.if_icmp .ge 69, 6, [1, 38]),
  (.aload_n 0, 9, []), (.getfield 52, 10, [11, 4, 0, 2, 169]), (.sipush 340, 13, [1, 340]), (.if_icmp .ge 59, 16, [1, 34]), (.aload_n 0, 19, []), (.getfield 17, 20, [11, 1, 2, 2, 166]),
  (.aload_n 0, 23, []), (.getfield 52, 24, [11, 4, 0, 2, 169]), (.iload_n 1, 27, []), (.iastore, 28, []), (.aload_n 0, 29, []), (.getfield 21, 30, [11, 2, 2, 2, 167]),
  (.aload_n 0, 33, []), (.getfield 52, 34, [11, 4, 0, 2, 169]), (.iload_n 2, 37, []), (.iload 4, 38, []), (.iconst 2, 40, [1, 2]), (.idiv, 41, []),
  (.iadd, 42, []), (.iastore, 43, []), (.aload_n 0, 44, []), (.getfield 24, 45, [11, 3, 2, 2, 168]), (.aload_n 0, 48, []), (.getfield 52, 49, [11, 4, 0, 2, 169]),
  (.iload_n 3, 52, []), (.iload 4, 53, []), (.iconst 2, 55, [1, 2]), (.irem, 56, []), (.iadd, 57, []), (.iastore, 58, []),
  (.aload_n 0, 59, []), (.dup, 60, []), (.getfield 52, 61, [11, 4, 0, 2, 169]), (.iconst 1, 64, [1, 1]), (.iadd, 65, []), (.putfield 52, 66, [11, 4, 0, 2, 169]),
  (.iinc 4 1, 69, [1, 1]), (.goto (-69), 72, [0, 3, 1, 1, 1, 1, 1]), (.return_, 75, [])
  ]
noncomputable def k_Tree_isLaid : List Ent := [
  (.iload_n 1, 0, []), (.ifCond .lt 15, 1, [1, 6]), (.iload_n 1, 4, []), (.aload_n 0, 5, []), (.getfield 52, 6, [11, 4, 0, 2, 169]), (.if_icmp .ge 7, 9, [1, 2]),
  (.iconst 1, 12, [1, 1]), (.goto 4, 13, [1, 1]), (.iconst 0, 16, [1, 0]), (.ireturn, 17, [1])
  ]
noncomputable def k_Tree_bitAt : List Ent := [
  (.aload_n 0, 0, []), (.iload_n 1, 1, []), (.invokevirtual 63, 2, [1, 116, 1, 1, 2, 11, 0, 0, 5, 22]), (.ifCond .eq 35, 5, [1, 18]), (.aload_n 0, 8, []), (.aload_n 0, 9, []),
  (.getfield 17, 10, [11, 1, 2, 2, 166]), (.iload_n 1, 13, []), (.iaload, 14, [20]), (.invokevirtual 67, 15, [1, 112, 1, 2, 2, 11, 0, 0, 5, 26]), (.aload_n 0, 18, []), (.getfield 21, 19, [11, 2, 2, 2, 167]),
  (.iload_n 1, 22, []), (.iaload, 23, [20]), (.aload_n 0, 24, []), (.getfield 24, 25, [11, 3, 2, 2, 168]), (.iload_n 1, 28, []), (.iaload, 29, [20]),
  (.invokevirtual 71, 30, [1, 15, 2, 1, 3, 3, 0, 0, 5, 30]), (.ifCond .eq 7, 33, [1, 2]), (.iconst 1, 36, [1, 1]), (.goto 4, 37, [1, 1]), (.iconst 0, 40, [1, 0]), (.ireturn, 41, [0])
  ]
noncomputable def k_Tree_rankAt : List Ent := [
  (.iconst 0, 0, [1, 0]), (.istore_n 2, 1, []), (.iconst 0, 2, [1, 0]), (.istore_n 3, 3, []), (.nop, 4, [5, 1, 1, 1, 1]), (.iload_n 3, 4, []),
  (.iload_n 1, 5, []), (.if_icmp .gt 25, 6, [1, 12]), (.iload_n 3, 9, []), (.aload_n 0, 10, []), (.getfield 52, 11, [11, 4, 0, 2, 169]), (.if_icmp .ge 17, 14, [1, 8]),
  (.iload_n 2, 17, []), (.aload_n 0, 18, []), (.iload_n 3, 19, []), (.invokevirtual 59, 20, [1, 117, 1, 1, 2, 11, 0, 0, 5, 18]), (.iadd, 23, []), (.istore_n 2, 24, []),
  (.iinc 3 1, 25, [1, 1]), (.goto (-24), 28, [0, 5, 1, 1, 1, 1]), (.iload_n 2, 31, []), (.ireturn, 32, [0])
  ]
noncomputable def k_Tree_levelAt : List Ent := [
  (.aload_n 0, 0, []), (.iload_n 1, 1, []), (.invokevirtual 63, 2, [1, 116, 1, 1, 2, 11, 0, 0, 5, 22]), (.ifCond .eq 12, 5, [1, 5]), (.aload_n 0, 8, []), (.getfield 17, 9, [11, 1, 2, 2, 166]),
  (.iload_n 1, 12, []), (.iaload, 13, [20]), (.goto 4, 14, [1, 1]), (.iconst 0, 17, [1, 0]), (.ireturn, 18, [0])
  ]
noncomputable def k_Tree_firstRowAt : List Ent := [
  (.aload_n 0, 0, []), (.iload_n 1, 1, []), (.invokevirtual 63, 2, [1, 116, 1, 1, 2, 11, 0, 0, 5, 22]), (.ifCond .eq 24, 5, [1, 13]), (.aload_n 0, 8, []), (.getfield 21, 9, [11, 2, 2, 2, 167]),
  (.iload_n 1, 12, []), (.iaload, 13, [20]), (.aload_n 0, 14, []), (.getfield 37, 15, [11, 5, 0, 2, 170]), (.aload_n 0, 18, []), (.getfield 17, 19, [11, 1, 2, 2, 166]),
  (.iload_n 1, 22, []), (.iaload, 23, [20]), (.isub, 24, []), (.ishl, 25, []), (.goto 4, 26, [1, 1]), (.iconst 0, 29, [1, 0]),
  (.ireturn, 30, [0])
  ]
noncomputable def k_Tree_firstColumnAt : List Ent := [
  (.aload_n 0, 0, []), (.iload_n 1, 1, []), (.invokevirtual 63, 2, [1, 116, 1, 1, 2, 11, 0, 0, 5, 22]), (.ifCond .eq 24, 5, [1, 13]), (.aload_n 0, 8, []), (.getfield 24, 9, [11, 3, 2, 2, 168]),
  (.iload_n 1, 12, []), (.iaload, 13, [20]), (.aload_n 0, 14, []), (.getfield 37, 15, [11, 5, 0, 2, 170]), (.aload_n 0, 18, []), (.getfield 17, 19, [11, 1, 2, 2, 166]),
  (.iload_n 1, 22, []), (.iaload, 23, [20]), (.isub, 24, []), (.ishl, 25, []), (.goto 4, 26, [1, 1]), (.iconst 0, 29, [1, 0]),
  (.ireturn, 30, [0])
  ]
noncomputable def k_Tree_countBitsIn : List Ent := [
  (.iconst 0, 0, [1, 0]), (.istore 5, 1, []), (.iconst 0, 3, [1, 0]), (.istore 6, 4, []), (.nop, 6, [5, 1, 1, 1, 1, 1, 1, 1, 0, 0, 0]), (.iload 6, 6, []),
  (.aload_n 0, 8, []), (.getfield 52, 9, [11, 4, 0, 2, 169]), (.if_icmp .ge 77, 12, [1, 40]), (.iconst 1, 15, [1, 1]), (.aload_n 0, 16, []), (.getfield 37, 17, [11, 5, 0, 2, 170]),
  (.aload_n 0, 20, []), (.getfield 17, 21, [11, 1, 2, 2, 166]), (.iload 6, 24, []), (.iaload, 26, [20]), (.isub, 27, []), (.ishl, 28, []),
  (.iconst 1, 29, [1, 1]), (.isub, 30, []), (.istore 7, 31, []), (.aload_n 0, 33, []), (.iload 6, 34, []), (.invokevirtual 75, 36, [1, 120, 1, 1, 2, 11, 0, 0, 5, 102]),
  (.istore 8, 39, []), (.aload_n 0, 41, []), (.iload 6, 42, []), (.invokevirtual 78, 44, [1, 121, 1, 1, 2, 11, 0, 0, 5, 103]), (.istore 9, 47, []), (.iload 8, 49, []),
  (.iload_n 2, 51, []), (.if_icmp .gt 31, 52, [1, 14]), (.iload 8, 55, []), (.iload 7, 57, []), (.iadd, 59, []), (.iload_n 1, 60, []),
  (.if_icmp .lt 22, 61, [1, 9]), (.iload 9, 64, []), (.iload 4, 66, []), (.if_icmp .gt 15, 68, [1, 6]), (.iload 9, 71, []), (.iload 7, 73, []),
  (.iadd, 75, []), (.iload_n 3, 76, []), (.if_icmp .lt 6, 77, [1, 1]), (.iinc 5 1, 80, [1, 1]), (.nop, 83, [47, 1, 1, 1, 1, 1, 1, 1, 0, 0, 0]), (.iinc 6 1, 83, [1, 1]),
  (.goto (-80), 86, [0, 5, 1, 1, 1, 1, 1, 1, 1, 0, 0, 0]), (.iload 5, 89, []), (.ireturn, 91, [0])
  ]
noncomputable def k_Tree_walkBeside : List Ent := [
  (.iconst 1, 0, [1, 1]), (.istore_n 2, 1, []), (.iconst 0, 2, [1, 0]), (.istore_n 3, 3, []), (.nop, 4, [5, 1, 1, 1, 1, 0, 0, 0]), (.iload_n 3, 4, []),
  (.aload_n 0, 5, []), (.getfield 37, 6, [11, 5, 0, 2, 170]), (.if_icmp .ge 68, 9, [1, 35]), (.aload_n 0, 12, []), (.getfield 11, 13, [11, 0, 2, 2, 165]), (.iload_n 3, 16, []),
  (.aaload, 17, [24]), (.astore 4, 18, []), (.aload_n 1, 20, []), (.iload_n 3, 21, []), (.invokevirtual 67, 22, [1, 112, 1, 2, 2, 11, 0, 0, 5, 26]), (.astore 5, 25, []),
  (.iconst 0, 27, [1, 0]), (.istore 6, 28, []), (.nop, 30, [21, 1, 1, 1, 1, 1, 1, 1]), (.iload 6, 30, []), (.aload 4, 32, []), (.getfield 81, 34, [3, 1, 0, 1, 72]),
  (.if_icmp .ge 34, 37, [1, 17]), (.iload_n 2, 40, []), (.iconst 4, 41, [1, 4]), (.aload 4, 42, []), (.getfield 84, 44, [3, 0, 2, 1, 67]), (.iload 6, 47, []),
  (.iaload, 49, [20]), (.aload 5, 50, []), (.getfield 84, 52, [3, 0, 2, 1, 67]), (.iload 6, 55, []), (.iaload, 57, [20]), (.iand, 58, []),
  (.invokestatic 87, 59, [0, 331, 1, 1, 1, 0, 0, 0, 5, 116]), (.imul, 62, []), (.iadd, 63, []), (.istore_n 2, 64, []), (.iinc 6 1, 65, [1, 1]), (.goto (-38), 68, [0, 21, 1, 1, 1, 1, 1, 1, 1]),
  (.iinc 3 1, 71, [1, 1]), (.goto (-70), 74, [0, 5, 1, 1, 1, 1, 0, 0, 0]), (.iload_n 2, 77, []), (.ireturn, 78, [0])
  ]
noncomputable def k_Tree_multiplyBy : List Ent := [
  (.iconst 0, 0, [1, 0]), (.istore_n 2, 1, []), (.iconst 0, 2, [1, 0]), (.istore_n 3, 3, []), (.nop, 4, [5, 1, 1, 1, 1, 0, 0, 0]), (.iload_n 3, 4, []),
  (.aload_n 0, 5, []), (.getfield 37, 6, [11, 5, 0, 2, 170]), (.if_icmp .gt 68, 9, [1, 33]), (.aload_n 0, 12, []), (.getfield 11, 13, [11, 0, 2, 2, 165]), (.iload_n 3, 16, []),
  (.aaload, 17, [24]), (.astore 4, 18, []), (.aload_n 1, 20, []), (.iload_n 3, 21, []), (.invokevirtual 67, 22, [1, 112, 1, 2, 2, 11, 0, 0, 5, 26]), (.astore 5, 25, []),
  (.iconst 0, 27, [1, 0]), (.istore 6, 28, []), (.nop, 30, [21, 1, 1, 1, 1, 1, 1, 1]), (.iload 6, 30, []), (.aload 4, 32, []), (.getfield 81, 34, [3, 1, 0, 1, 72]),
  (.if_icmp .ge 34, 37, [1, 15]), (.iload_n 2, 40, []), (.aload 4, 41, []), (.iload 6, 43, []), (.invokevirtual 92, 45, [1, 23, 1, 1, 4, 3, 0, 0, 5, 125]), (.invokestatic 87, 48, [0, 331, 1, 1, 1, 0, 0, 0, 5, 116]),
  (.aload 5, 51, []), (.getfield 84, 53, [3, 0, 2, 1, 67]), (.iload 6, 56, []), (.iaload, 58, [20]), (.invokestatic 87, 59, [0, 331, 1, 1, 1, 0, 0, 0, 5, 116]), (.imul, 62, []),
  (.iadd, 63, []), (.istore_n 2, 64, []), (.iinc 6 1, 65, [1, 1]), (.goto (-38), 68, [0, 21, 1, 1, 1, 1, 1, 1, 1]), (.iinc 3 1, 71, [1, 1]), (.goto (-70), 74, [0, 5, 1, 1, 1, 1, 0, 0, 0]),
  (.iload_n 2, 77, []), (.ireturn, 78, [0])
  ]
noncomputable def k_PT_init : List Ent := [
  (.aload_n 0, 0, []), (.invokespecial 1, 1, [3, 1, 28]), (.aload_n 0, 4, []), (.sipush 1600, 5, [1, 1600]), (.newarray .byte, 8, [21, 1, 53]), (.putfield 9, 10, [12, 0, 2, 3, 38]),
  (.aload_n 0, 13, []), (.new 13, 14, [5, 11, 1, 31, 1, 32, 1, 2]), (.dup, 17, []), (.invokespecial 15, 18, [2, 42, 0, 0, 2, 0, 0, 0, 1, 33]), (.putfield 16, 21, [12, 2, 2, 3, 40]), (.nop, 24, [12, 1, 0]),
  (.aload_n 0, 24, []), (.new 13, 25, [5, 11, 1, 31, 1, 32, 1, 2]), (.dup, 28, []), (.invokespecial 15, 29, [2, 42, 0, 0, 2, 0, 0, 0, 1, 33]), (.putfield 20, 32, [12, 3, 2, 3, 41]), (.aload_n 0, 35, []),
  (.new 23, 36, [6, 6, 1, 141, 1, 142, 1, 5]), (.dup, 39, []), (.invokespecial 25, 40, [2, 51, 0, 0, 1, 0, 0, 1, 1, 143]), (.putfield 26, 43, [12, 4, 2, 3, 42]), (.nop, 46, [23, 1, 0]), (.aload_n 0, 46, []),
  (.new 30, 47, [7, 5, 2, 15, 2, 16, 1, 11]), (.dup, 50, []), (.invokespecial 32, 51, [2, 75, 0, 0, 2, 0, 0, 0, 2, 17]), (.putfield 33, 54, [12, 5, 2, 3, 43]), (.aload_n 0, 57, []), (.new 37, 58, [4, 7, 2, 45, 2, 46, 1, 12]),
  (.dup, 61, []), (.invokespecial 39, 62, [2, 36, 0, 0, 1, 0, 0, 1, 2, 47]), (.putfield 40, 65, [12, 6, 2, 3, 44]), (.nop, 68, [34, 1, 0]), (.aload_n 0, 68, []), (.iconst 3, 69, [1, 3]),
  (.anewarray 44, 70, [25, 2, 77]), (.putfield 46, 73, [12, 7, 2, 3, 45]), (.iconst 0, 76, [1, 0]), (.istore_n 1, 77, []), (.nop, 78, [41, 1, 1]), (.iload_n 1, 78, []),
  (.iconst 3, 79, [1, 3]), (.if_icmp .ge 22, 80, [1, 10]), (.aload_n 0, 83, []), (.getfield 46, 84, [12, 7, 2, 3, 45]), (.iload_n 1, 87, []), (.new 44, 88, [1, 3, 2, 77, 2, 79, 1, 13]),
  (.dup, 91, []), (.invokespecial 50, 92, [2, 0, 0, 0, 2, 0, 0, 0, 2, 80]), (.aastore, 95, [25, 1]), (.nop, 96, [52, 1, 1]), (.iinc 1 1, 96, [1, 1]), (.goto (-21), 99, [0, 41, 1, 1]),
  (.aload_n 0, 102, []), (.new 51, 103, [9, 16, 2, 97, 2, 98, 1, 14]), (.dup, 106, []), (.invokespecial 53, 107, [2, 92, 0, 0, 1, 0, 0, 1, 2, 99]), (.putfield 54, 110, [12, 8, 2, 3, 46]), (.aload_n 0, 113, []),
  (.new 58, 114, [11, 6, 2, 157, 2, 158, 1, 15]), (.dup, 117, []), (.invokespecial 60, 118, [2, 110, 0, 0, 2, 0, 0, 0, 2, 159]), (.putfield 61, 121, [12, 9, 2, 3, 47]), (.nop, 124, [65, 1, 0]), (.aload_n 0, 124, []),
  (.new 58, 125, [11, 6, 2, 157, 2, 158, 1, 15]), (.dup, 128, []), (.invokespecial 60, 129, [2, 110, 0, 0, 2, 0, 0, 0, 2, 159]), (.putfield 65, 132, [12, 10, 2, 3, 48]), (.aload_n 0, 135, []), (.new 68, 136, [3, 2, 2, 184, 1, 57, 1, 4]),
  (.dup, 139, []), (.invokespecial 70, 140, [2, 11, 0, 0, 1, 0, 0, 1, 2, 185]), (.putfield 71, 143, [12, 11, 2, 3, 49]), (.nop, 146, [76, 1, 0]), (.aload_n 0, 146, []), (.new 75, 147, [10, 2, 2, 186, 2, 187, 1, 16]),
  (.dup, 150, []), (.invokespecial 77, 151, [2, 102, 0, 0, 1, 0, 0, 1, 2, 188]), (.putfield 78, 154, [12, 12, 2, 3, 50]), (.aload_n 0, 157, []), (.bipush 16, 158, [1, 16]), (.newarray .int, 160, [20, 1, 54]),
  (.putfield 82, 162, [12, 13, 2, 3, 51]), (.nop, 165, [86, 1, 0]), (.aload_n 0, 165, []), (.invokevirtual 86, 166, [1, 130, 0, 0, 2, 12, 0, 0, 2, 201]), (.return_, 169, [])
  ]
noncomputable def k_PT_feed : List Ent := [
  (.aload_n 0, 0, []), (.getfield 89, 1, [12, 1, 0, 3, 39]), (.bipush 20, 4, [1, 20]), (.iadd, 6, []), (.sipush 1600, 7, [1, 1600]), (.if_icmp .le 5, 10, [1, 2]),
  (.iconst (-1), 13, [0, 1]), (.ireturn, 14, [0]), (.aload_n 0, 15, []), (.iload_n 1, 16, []), (.invokevirtual 93, 17, [1, 127, 1, 0, 3, 12, 0, 0, 3, 88]), (.aload_n 0, 20, []),
  (.iload_n 2, 21, []), (.invokevirtual 93, 22, [1, 127, 1, 0, 3, 12, 0, 0, 3, 88]), (.aload_n 0, 25, []), (.iload_n 3, 26, []), (.invokevirtual 93, 27, [1, 127, 1, 0, 3, 12, 0, 0, 3, 88]), (.aload_n 0, 30, []),
  (.iload 4, 31, []), (.invokevirtual 93, 33, [1, 127, 1, 0, 3, 12, 0, 0, 3, 88]), (.aload_n 0, 36, []), (.iload 5, 37, []), (.invokevirtual 93, 39, [1, 127, 1, 0, 3, 12, 0, 0, 3, 88]), (.aload_n 0, 42, []),
  (.getfield 89, 43, [12, 1, 0, 3, 39]), (.ireturn, 46, [0])
  ]
noncomputable def k_PT_layBytes : List Ent := [
  (.bipush 24, 0, [1, 24]), (.istore_n 2, 2, []), (.nop, 3, [3, 1, 1, 1]), (.iload_n 2, 3, []), (.ifCond .lt 42, 4, [1, 21]), (.aload_n 0, 7, []),
  (.getfield 89, 8, [12, 1, 0, 3, 39]), (.sipush 1600, 11, [1, 1600]), (.if_icmp .ge 32, 14, [1, 17]), (.aload_n 0, 17, []), (.getfield 9, 18, [12, 0, 2, 3, 38]), (.aload_n 0, 21, []),
  (.getfield 89, 22, [12, 1, 0, 3, 39]), (.iload_n 1, 25, []), (.iload_n 2, 26, []), (.ishr, 27, []), (.i2b, 28, []), (.bastore, 29, [21]),
  (.aload_n 0, 30, []), (.dup, 31, []), (.getfield 89, 32, [12, 1, 0, 3, 39]), (.iconst 1, 35, [1, 1]), (.iadd, 36, []), (.putfield 89, 37, [12, 1, 0, 3, 39]),
  (.iinc 2 (-8), 40, [0, 8]), (.goto (-40), 43, [0, 3, 1, 1, 1]), (.return_, 46, [])
  ]
noncomputable def k_PT_end : List Ent := [
  (.iload_n 1, 0, []), (.ifCond .lt 11, 1, [1, 4]), (.iload_n 1, 4, []), (.aload_n 0, 5, []), (.getfield 89, 6, [12, 1, 0, 3, 39]), (.if_icmp .le 5, 9, [1, 2]),
  (.iconst (-1), 12, [0, 1]), (.ireturn, 13, [0]), (.aload_n 0, 14, []), (.iload_n 1, 15, []), (.putfield 89, 16, [12, 1, 0, 3, 39]), (.iload_n 1, 19, []),
  (.ireturn, 20, [0])
  ]
noncomputable def k_PT_store : List Ent := [
  (.aload_n 0, 0, []), (.getfield 26, 1, [12, 4, 2, 3, 42]), (.aload_n 0, 4, []), (.getfield 9, 5, [12, 0, 2, 3, 38]), (.aload_n 0, 8, []), (.getfield 89, 9, [12, 1, 0, 3, 39]),
  (.aload_n 0, 12, []), (.getfield 20, 13, [12, 3, 2, 3, 41]), (.invokevirtual 97, 16, [1, 52, 3, 1, 5, 6, 0, 0, 3, 100]), (.istore_n 1, 19, []), (.aload_n 0, 20, []), (.iconst 0, 21, [1, 0]),
  (.putfield 89, 22, [12, 1, 0, 3, 39]), (.iload_n 1, 25, []), (.ifCond .ne 5, 26, [1, 2]), (.iconst (-1), 29, [0, 1]), (.ireturn, 30, [0]), (.aload_n 0, 31, []),
  (.getfield 16, 32, [12, 2, 2, 3, 40]), (.astore_n 2, 35, []), (.aload_n 0, 36, []), (.aload_n 0, 37, []), (.getfield 20, 38, [12, 3, 2, 3, 41]), (.putfield 16, 41, [12, 2, 2, 3, 40]),
  (.aload_n 0, 44, []), (.aload_n 2, 45, []), (.putfield 20, 46, [12, 3, 2, 3, 41]), (.aload_n 0, 49, []), (.invokevirtual 86, 50, [1, 130, 0, 0, 2, 12, 0, 0, 2, 201]), (.aload_n 0, 53, []),
  (.getfield 16, 54, [12, 2, 2, 3, 40]), (.getfield 101, 57, [5, 1, 0, 1, 95]), (.ireturn, 60, [0])
  ]
noncomputable def k_PT_startAnew : List Ent := [
  (.aload_n 0, 0, []), (.getfield 33, 1, [12, 5, 2, 3, 43]), (.aload_n 0, 4, []), (.getfield 16, 5, [12, 2, 2, 3, 40]), (.invokevirtual 103, 8, [1, 76, 1, 0, 3, 7, 0, 0, 2, 205]), (.aload_n 0, 11, []),
  (.getfield 40, 12, [12, 6, 2, 3, 44]), (.invokevirtual 107, 15, [1, 37, 0, 0, 1, 4, 0, 0, 3, 29]), (.iconst 0, 18, [1, 0]), (.istore_n 1, 19, []), (.nop, 20, [11, 1, 1]), (.iload_n 1, 20, []),
  (.iconst 3, 21, [1, 3]), (.if_icmp .ge 19, 22, [1, 8]), (.aload_n 0, 25, []), (.getfield 46, 26, [12, 7, 2, 3, 45]), (.iload_n 1, 29, []), (.aaload, 30, [25]),
  (.iconst 0, 31, [1, 0]), (.putfield 110, 32, [1, 0, 3, 2, 87]), (.iinc 1 1, 35, [1, 1]), (.goto (-18), 38, [0, 11, 1, 1]), (.aload_n 0, 41, []), (.getfield 54, 42, [12, 8, 2, 3, 46]),
  (.aload_n 0, 45, []), (.getfield 16, 46, [12, 2, 2, 3, 40]), (.aload_n 0, 49, []), (.getfield 33, 50, [12, 5, 2, 3, 43]), (.getfield 114, 53, [7, 0, 2, 2, 26]), (.iconst 0, 56, [1, 0]),
  (.aaload, 57, [24]), (.invokevirtual 118, 58, [1, 93, 2, 0, 3, 9, 0, 0, 3, 33]), (.aload_n 0, 61, []), (.iconst 0, 62, [1, 0]), (.putfield 121, 63, [12, 14, 0, 3, 52]), (.return_, 66, [])
  ]
noncomputable def k_PT_fault : List Ent := [
  (.iload_n 1, 0, []), (.lookupswitch 43 #[(0, 27), (1, 35)], 1, [8, 0, 4]), (.aload_n 0, 28, []), (.getfield 26, 29, [12, 4, 2, 3, 42]), (.getfield 124, 32, [6, 0, 0, 1, 235]), (.ireturn, 35, [0]),
  (.aload_n 0, 36, []), (.getfield 26, 37, [12, 4, 2, 3, 42]), (.getfield 127, 40, [6, 1, 0, 1, 237]), (.ireturn, 43, [0]), (.iconst (-1), 44, [0, 1]), (.ireturn, 45, [0])
  ]
noncomputable def k_PT_isRelation : List Ent := [
  (.iload_n 1, 0, []), (.ifCond .lt 18, 1, [1, 7]), (.iload_n 1, 4, []), (.aload_n 0, 5, []), (.getfield 16, 6, [12, 2, 2, 3, 40]), (.getfield 101, 9, [5, 1, 0, 1, 95]),
  (.if_icmp .ge 7, 12, [1, 2]), (.iconst 1, 15, [1, 1]), (.goto 4, 16, [1, 1]), (.iconst 0, 19, [1, 0]), (.ireturn, 20, [1])
  ]
noncomputable def k_PT_areRelations : List Ent := [
  (.aload_n 0, 0, []), (.iload_n 1, 1, []), (.invokevirtual 130, 2, [1, 132, 1, 1, 2, 12, 0, 0, 4, 94]), (.ifCond .eq 15, 5, [1, 6]), (.aload_n 0, 8, []), (.iload_n 2, 9, []),
  (.invokevirtual 130, 10, [1, 132, 1, 1, 2, 12, 0, 0, 4, 94]), (.ifCond .eq 7, 13, [1, 2]), (.iconst 1, 16, [1, 1]), (.goto 4, 17, [1, 1]), (.iconst 0, 20, [1, 0]), (.ireturn, 21, [1])
  ]
noncomputable def k_PT_isToldOne : List Ent := [
  (.aload_n 0, 0, []), (.iload_n 1, 1, []), (.invokevirtual 130, 2, [1, 132, 1, 1, 2, 12, 0, 0, 4, 94]), (.ifCond .eq 18, 5, [1, 7]), (.aload_n 0, 8, []), (.getfield 16, 9, [12, 2, 2, 3, 40]),
  (.iload_n 1, 12, []), (.invokevirtual 134, 13, [1, 45, 1, 1, 2, 5, 0, 0, 4, 98]), (.ifCond .eq 7, 16, [1, 2]), (.iconst 1, 19, [1, 1]), (.goto 4, 20, [1, 1]), (.iconst 0, 23, [1, 0]),
  (.ireturn, 24, [1])
  ]
noncomputable def k_PT_isNode : List Ent := [
  (.iload_n 1, 0, []), (.ifCond .lt 18, 1, [1, 7]), (.iload_n 1, 4, []), (.aload_n 0, 5, []), (.getfield 16, 6, [12, 2, 2, 3, 40]), (.invokevirtual 137, 9, [1, 44, 0, 1, 1, 5, 0, 0, 4, 132]),
  (.if_icmp .ge 7, 12, [1, 2]), (.iconst 1, 15, [1, 1]), (.goto 4, 16, [1, 1]), (.iconst 0, 19, [1, 0]), (.ireturn, 20, [1])
  ]
noncomputable def k_PT_isLevel : List Ent := [
  (.iload_n 1, 0, []), (.ifCond .lt 18, 1, [1, 7]), (.iload_n 1, 4, []), (.aload_n 0, 5, []), (.getfield 16, 6, [12, 2, 2, 3, 40]), (.getfield 141, 9, [5, 0, 0, 1, 91]),
  (.if_icmp .gt 7, 12, [1, 2]), (.iconst 1, 15, [1, 1]), (.goto 4, 16, [1, 1]), (.iconst 0, 19, [1, 0]), (.ireturn, 20, [1])
  ]
noncomputable def k_PT_isRectangle : List Ent := [
  (.aload_n 0, 0, []), (.iload_n 1, 1, []), (.invokevirtual 144, 2, [1, 135, 1, 1, 2, 12, 0, 0, 4, 163]), (.ifCond .eq 43, 5, [1, 20]), (.aload_n 0, 8, []), (.iload_n 2, 9, []),
  (.invokevirtual 144, 10, [1, 135, 1, 1, 2, 12, 0, 0, 4, 163]), (.ifCond .eq 35, 13, [1, 16]), (.aload_n 0, 16, []), (.iload_n 3, 17, []), (.invokevirtual 144, 18, [1, 135, 1, 1, 2, 12, 0, 0, 4, 163]), (.ifCond .eq 27, 21, [1, 12]),
  (.aload_n 0, 24, []), (.iload 4, 25, []), (.invokevirtual 144, 27, [1, 135, 1, 1, 2, 12, 0, 0, 4, 163]), (.ifCond .eq 18, 30, [1, 8]), (.iload_n 1, 33, []), (.iload_n 2, 34, []),
  (.if_icmp .gt 13, 35, [1, 5]), (.iload_n 3, 38, []), (.iload 4, 39, []), (.if_icmp .gt 7, 41, [1, 2]), (.iconst 1, 44, [1, 1]), (.goto 4, 45, [1, 1]),
  (.iconst 0, 48, [1, 0]), (.ireturn, 49, [1])
  ]
noncomputable def k_PT_relation : List Ent := [
  (.aload_n 0, 0, []), (.iload_n 1, 1, []), (.invokevirtual 130, 2, [1, 132, 1, 1, 2, 12, 0, 0, 4, 94]), (.ifCond .ne 5, 5, [1, 2]), (.iconst (-1), 8, [0, 1]), (.ireturn, 9, [0]),
  (.aload_n 0, 10, []), (.getfield 33, 11, [12, 5, 2, 3, 43]), (.getfield 114, 14, [7, 0, 2, 2, 26]), (.iload_n 1, 17, []), (.aaload, 18, [24]), (.astore_n 3, 19, []),
  (.iload_n 2, 20, []), (.tableswitch 102 0 4 #[35, 52, 57, 63, 85], 21, [37, 0, 9, 12, 16, 28]), (.aload_n 0, 56, []), (.getfield 16, 57, [12, 2, 2, 3, 40]), (.iload_n 1, 60, []), (.invokevirtual 134, 61, [1, 45, 1, 1, 2, 5, 0, 0, 4, 98]),
  (.ifCond .eq 7, 64, [1, 2]), (.iconst 1, 67, [1, 1]), (.goto 4, 68, [1, 1]), (.iconst 0, 71, [1, 0]), (.ireturn, 72, [0]), (.aload_n 3, 73, []),
  (.invokevirtual 147, 74, [1, 24, 0, 1, 3, 3, 0, 0, 4, 102]), (.ireturn, 77, [0]), (.aload_n 0, 78, []), (.aload_n 3, 79, []), (.invokevirtual 150, 80, [1, 139, 1, 1, 2, 12, 0, 0, 4, 112]), (.ireturn, 83, [0]),
  (.aload_n 0, 84, []), (.getfield 16, 85, [12, 2, 2, 3, 40]), (.invokevirtual 137, 88, [1, 44, 0, 1, 1, 5, 0, 0, 4, 132]), (.aload_n 0, 91, []), (.getfield 16, 92, [12, 2, 2, 3, 40]), (.invokevirtual 137, 95, [1, 44, 0, 1, 1, 5, 0, 0, 4, 132]),
  (.imul, 98, []), (.aload_n 0, 99, []), (.aload_n 3, 100, []), (.invokevirtual 150, 101, [1, 139, 1, 1, 2, 12, 0, 0, 4, 112]), (.isub, 104, []), (.ireturn, 105, [0]),
  (.aload_n 0, 106, []), (.aload_n 0, 107, []), (.getfield 71, 108, [12, 11, 2, 3, 49]), (.aload_n 3, 111, []), (.invokevirtual 154, 112, [1, 147, 2, 0, 6, 12, 0, 0, 4, 133]), (.aload_n 0, 115, []),
  (.getfield 71, 116, [12, 11, 2, 3, 49]), (.invokevirtual 147, 119, [1, 24, 0, 1, 3, 3, 0, 0, 4, 102]), (.ireturn, 122, [0]), (.iconst (-1), 123, [0, 1]), (.ireturn, 124, [0])
  ]
noncomputable def k_PT_bitsOf : List Ent := [
  (.aload_n 0, 0, []), (.getfield 61, 1, [12, 9, 2, 3, 47]), (.aload_n 1, 4, []), (.aload_n 0, 5, []), (.getfield 16, 6, [12, 2, 2, 3, 40]), (.getfield 141, 9, [5, 0, 0, 1, 91]),
  (.invokevirtual 158, 12, [1, 111, 2, 0, 4, 11, 0, 0, 4, 116]), (.aload_n 0, 15, []), (.getfield 61, 16, [12, 9, 2, 3, 47]), (.invokevirtual 162, 19, [1, 113, 0, 1, 3, 11, 0, 0, 4, 127]), (.ireturn, 22, [0])
  ]
noncomputable def k_PT_has : List Ent := [
  (.aload_n 0, 0, []), (.iload_n 1, 1, []), (.invokevirtual 130, 2, [1, 132, 1, 1, 2, 12, 0, 0, 4, 94]), (.ifCond .eq 19, 5, [1, 8]), (.aload_n 0, 8, []), (.iload_n 2, 9, []),
  (.invokevirtual 144, 10, [1, 135, 1, 1, 2, 12, 0, 0, 4, 163]), (.ifCond .eq 11, 13, [1, 4]), (.aload_n 0, 16, []), (.iload_n 3, 17, []), (.invokevirtual 144, 18, [1, 135, 1, 1, 2, 12, 0, 0, 4, 163]), (.ifCond .ne 5, 21, [1, 2]),
  (.iconst (-1), 24, [0, 1]), (.ireturn, 25, [0]), (.aload_n 0, 26, []), (.getfield 33, 27, [12, 5, 2, 3, 43]), (.getfield 114, 30, [7, 0, 2, 2, 26]), (.iload_n 1, 33, []),
  (.aaload, 34, [24]), (.iload_n 2, 35, []), (.iload_n 3, 36, []), (.invokevirtual 165, 37, [1, 15, 2, 1, 3, 3, 0, 0, 4, 138]), (.ifCond .eq 7, 40, [1, 2]), (.iconst 1, 43, [1, 1]),
  (.goto 4, 44, [1, 1]), (.iconst 0, 47, [1, 0]), (.ireturn, 48, [0])
  ]
noncomputable def k_PT_put : List Ent := [
  (.aload_n 0, 0, []), (.iload_n 1, 1, []), (.iload_n 2, 2, []), (.iload_n 3, 3, []), (.iconst 0, 4, [1, 0]), (.invokevirtual 169, 5, [1, 143, 4, 1, 5, 12, 0, 0, 4, 171]),
  (.ireturn, 8, [0])
  ]
noncomputable def k_PT_take : List Ent := [
  (.aload_n 0, 0, []), (.iload_n 1, 1, []), (.iload_n 2, 2, []), (.iload_n 3, 3, []), (.iconst 1, 4, [1, 1]), (.invokevirtual 169, 5, [1, 143, 4, 1, 5, 12, 0, 0, 4, 171]),
  (.ireturn, 8, [0])
  ]
noncomputable def k_PT_turnPair : List Ent := [
  (.aload_n 0, 0, []), (.iload_n 1, 1, []), (.invokevirtual 173, 2, [1, 134, 1, 1, 2, 12, 0, 0, 4, 175]), (.ifCond .eq 15, 5, [1, 7]), (.aload_n 0, 8, []), (.iload_n 1, 9, []),
  (.iload_n 2, 10, []), (.iload_n 3, 11, []), (.invokevirtual 176, 12, [1, 140, 3, 1, 4, 12, 0, 0, 4, 179]), (.iload 4, 15, []), (.if_icmp .eq 5, 17, [1, 2]), (.iconst (-1), 20, [0, 1]),
  (.ireturn, 21, [0]), (.aload_n 0, 22, []), (.getfield 71, 23, [12, 11, 2, 3, 49]), (.aload_n 0, 26, []), (.getfield 33, 27, [12, 5, 2, 3, 43]), (.getfield 114, 30, [7, 0, 2, 2, 26]),
  (.iload_n 1, 33, []), (.aaload, 34, [24]), (.invokevirtual 180, 35, [1, 13, 1, 0, 2, 3, 0, 0, 4, 137]), (.aload_n 0, 38, []), (.getfield 71, 39, [12, 11, 2, 3, 49]), (.iload_n 2, 42, []),
  (.iload_n 3, 43, []), (.invokevirtual 184, 44, [1, 16, 2, 0, 3, 3, 0, 0, 4, 155]), (.aload_n 0, 47, []), (.iload_n 1, 48, []), (.aload_n 0, 49, []), (.getfield 71, 50, [12, 11, 2, 3, 49]),
  (.aload_n 0, 53, []), (.getfield 33, 54, [12, 5, 2, 3, 43]), (.getfield 188, 57, [7, 1, 0, 2, 30]), (.invokevirtual 191, 60, [1, 150, 3, 0, 4, 12, 0, 0, 4, 180]), (.aload_n 0, 63, []), (.getfield 33, 64, [12, 5, 2, 3, 43]),
  (.getfield 114, 67, [7, 0, 2, 2, 26]), (.iload_n 1, 70, []), (.aaload, 71, [24]), (.invokevirtual 147, 72, [1, 24, 0, 1, 3, 3, 0, 0, 4, 102]), (.ireturn, 75, [0])
  ]
noncomputable def k_PT_become : List Ent := [
  (.aload_n 0, 0, []), (.iload_n 1, 1, []), (.invokevirtual 173, 2, [1, 134, 1, 1, 2, 12, 0, 0, 4, 175]), (.ifCond .eq 14, 5, [1, 6]), (.aload_n 0, 8, []), (.iload_n 2, 9, []),
  (.iload_n 3, 10, []), (.iload 4, 11, []), (.invokevirtual 195, 13, [1, 145, 3, 1, 4, 12, 0, 0, 4, 209]), (.ifCond .ne 5, 16, [1, 2]), (.iconst (-1), 19, [0, 1]), (.ireturn, 20, [0]),
  (.aload_n 0, 21, []), (.iload_n 1, 22, []), (.aload_n 0, 23, []), (.getfield 71, 24, [12, 11, 2, 3, 49]), (.aload_n 0, 27, []), (.getfield 33, 28, [12, 5, 2, 3, 43]),
  (.getfield 188, 31, [7, 1, 0, 2, 30]), (.invokevirtual 191, 34, [1, 150, 3, 0, 4, 12, 0, 0, 4, 180]), (.aload_n 0, 37, []), (.getfield 33, 38, [12, 5, 2, 3, 43]), (.getfield 114, 41, [7, 0, 2, 2, 26]), (.iload_n 1, 44, []),
  (.aaload, 45, [24]), (.invokevirtual 147, 46, [1, 24, 0, 1, 3, 3, 0, 0, 4, 102]), (.ireturn, 49, [0])
  ]
noncomputable def k_PT_makeOfTwo : List Ent := [
  (.iload_n 1, 0, []), (.ifCond .lt 17, 1, [1, 8]), (.iload_n 1, 4, []), (.iconst 4, 5, [1, 4]), (.if_icmp .gt 12, 6, [1, 5]), (.aload_n 0, 9, []),
  (.iload_n 2, 10, []), (.iload_n 3, 11, []), (.invokevirtual 199, 12, [1, 133, 2, 1, 3, 12, 0, 0, 4, 213]), (.ifCond .ne 5, 15, [1, 2]), (.iconst 0, 18, [1, 0]), (.ireturn, 19, [1]),
  (.aload_n 0, 20, []), (.getfield 71, 21, [12, 11, 2, 3, 49]), (.iload_n 1, 24, []), (.aload_n 0, 25, []), (.getfield 33, 26, [12, 5, 2, 3, 43]), (.getfield 114, 29, [7, 0, 2, 2, 26]),
  (.iload_n 2, 32, []), (.aaload, 33, [24]), (.aload_n 0, 34, []), (.getfield 33, 35, [12, 5, 2, 3, 43]), (.getfield 114, 38, [7, 0, 2, 2, 26]), (.iload_n 3, 41, []),
  (.aaload, 42, [24]), (.invokevirtual 202, 43, [1, 20, 3, 0, 6, 3, 0, 0, 4, 217]), (.iconst 1, 46, [1, 1]), (.ireturn, 47, [1])
  ]
noncomputable def k_PT_sift : List Ent := [
  (.aload_n 0, 0, []), (.iload_n 1, 1, []), (.invokevirtual 173, 2, [1, 134, 1, 1, 2, 12, 0, 0, 4, 175]), (.ifCond .ne 5, 5, [1, 2]), (.iconst (-1), 8, [0, 1]), (.ireturn, 9, [0]),
  (.aload_n 0, 10, []), (.getfield 33, 11, [12, 5, 2, 3, 43]), (.getfield 114, 14, [7, 0, 2, 2, 26]), (.iload_n 1, 17, []), (.aaload, 18, [24]), (.invokevirtual 147, 19, [1, 24, 0, 1, 3, 3, 0, 0, 4, 102]),
  (.istore_n 2, 22, []), (.aload_n 0, 23, []), (.aload_n 0, 24, []), (.getfield 71, 25, [12, 11, 2, 3, 49]), (.aload_n 0, 28, []), (.getfield 33, 29, [12, 5, 2, 3, 43]),
  (.getfield 114, 32, [7, 0, 2, 2, 26]), (.iload_n 1, 35, []), (.aaload, 36, [24]), (.invokevirtual 154, 37, [1, 147, 2, 0, 6, 12, 0, 0, 4, 133]), (.aload_n 0, 40, []), (.iload_n 1, 41, []),
  (.aload_n 0, 42, []), (.getfield 71, 43, [12, 11, 2, 3, 49]), (.aload_n 0, 46, []), (.getfield 33, 47, [12, 5, 2, 3, 43]), (.getfield 188, 50, [7, 1, 0, 2, 30]), (.invokevirtual 191, 53, [1, 150, 3, 0, 4, 12, 0, 0, 4, 180]),
  (.iload_n 2, 56, []), (.aload_n 0, 57, []), (.getfield 33, 58, [12, 5, 2, 3, 43]), (.getfield 114, 61, [7, 0, 2, 2, 26]), (.iload_n 1, 64, []), (.aaload, 65, [24]),
  (.invokevirtual 147, 66, [1, 24, 0, 1, 3, 3, 0, 0, 4, 102]), (.isub, 69, []), (.ireturn, 70, [0])
  ]
noncomputable def k_PT_siftInto : List Ent := [
  (.aload_n 2, 0, []), (.invokevirtual 147, 1, [1, 24, 0, 1, 3, 3, 0, 0, 4, 102]), (.istore_n 3, 4, []), (.aload_n 1, 5, []), (.aload_n 2, 6, []), (.invokevirtual 180, 7, [1, 13, 1, 0, 2, 3, 0, 0, 4, 137]),
  (.iconst 0, 10, [1, 0]), (.istore 4, 11, []), (.nop, 13, [9, 1, 1, 1, 1, 1, 0]), (.iload 4, 13, []), (.aload_n 2, 15, []), (.getfield 206, 16, [3, 1, 0, 1, 73]),
  (.if_icmp .ge 64, 19, [1, 29]), (.iconst 0, 22, [1, 0]), (.istore 5, 23, []), (.nop, 25, [16, 1, 1, 1, 1, 1, 1]), (.iload 5, 25, []), (.aload_n 2, 27, []),
  (.getfield 206, 28, [3, 1, 0, 1, 73]), (.if_icmp .ge 46, 31, [1, 20]), (.aload_n 2, 34, []), (.iload 4, 35, []), (.iload 5, 37, []), (.invokevirtual 165, 39, [1, 15, 2, 1, 3, 3, 0, 0, 4, 138]),
  (.ifCond .eq 29, 42, [1, 12]), (.aload_n 0, 45, []), (.getfield 16, 46, [12, 2, 2, 3, 40]), (.getfield 208, 49, [5, 6, 2, 1, 110]), (.iload 4, 52, []), (.iload 5, 54, []),
  (.iload_n 3, 56, []), (.invokevirtual 212, 57, [1, 7, 3, 1, 7, 2, 0, 0, 4, 142]), (.ifCond .ne 11, 60, [1, 4]), (.aload_n 1, 63, []), (.iload 4, 64, []), (.iload 5, 66, []),
  (.invokevirtual 184, 68, [1, 16, 2, 0, 3, 3, 0, 0, 4, 155]), (.nop, 71, [38, 1, 1, 1, 1, 1, 1]), (.iinc 5 1, 71, [1, 1]), (.goto (-49), 74, [0, 16, 1, 1, 1, 1, 1, 1]), (.iinc 4 1, 77, [1, 1]), (.goto (-67), 80, [0, 9, 1, 1, 1, 1, 1, 0]),
  (.return_, 83, [])
  ]
noncomputable def k_PT_drift : List Ent := [
  (.aload_n 0, 0, []), (.getfield 33, 1, [12, 5, 2, 3, 43]), (.getfield 188, 4, [7, 1, 0, 2, 30]), (.sipush 137, 7, [1, 137]), (.imul, 10, []), (.bipush 71, 11, [1, 71]),
  (.iadd, 13, []), (.sipush 1000, 14, [1, 1000]), (.irem, 17, []), (.istore_n 1, 18, []), (.aload_n 0, 19, []), (.iload_n 1, 20, []),
  (.invokevirtual 217, 21, [1, 149, 1, 1, 3, 12, 0, 0, 4, 226]), (.istore_n 2, 24, []), (.iload_n 2, 25, []), (.iconst (-1), 26, [0, 1]), (.if_icmp .eq 47, 27, [1, 23]), (.aload_n 0, 30, []),
  (.getfield 71, 31, [12, 11, 2, 3, 49]), (.aload_n 0, 34, []), (.getfield 33, 35, [12, 5, 2, 3, 43]), (.getfield 114, 38, [7, 0, 2, 2, 26]), (.iload_n 2, 41, []), (.aaload, 42, [24]),
  (.invokevirtual 180, 43, [1, 13, 1, 0, 2, 3, 0, 0, 4, 137]), (.aload_n 0, 46, []), (.getfield 71, 47, [12, 11, 2, 3, 49]), (.iload_n 1, 50, []), (.bipush 16, 51, [1, 16]), (.idiv, 53, []),
  (.aload_n 0, 54, []), (.getfield 16, 55, [12, 2, 2, 3, 40]), (.invokevirtual 137, 58, [1, 44, 0, 1, 1, 5, 0, 0, 4, 132]), (.irem, 61, []), (.iload_n 1, 62, []), (.aload_n 0, 63, []),
  (.getfield 16, 64, [12, 2, 2, 3, 40]), (.invokevirtual 137, 67, [1, 44, 0, 1, 1, 5, 0, 0, 4, 132]), (.irem, 70, []), (.invokevirtual 184, 71, [1, 16, 2, 0, 3, 3, 0, 0, 4, 155]), (.nop, 74, [41, 1, 1, 1]), (.aload_n 0, 74, []),
  (.iload_n 2, 75, []), (.aload_n 0, 76, []), (.getfield 71, 77, [12, 11, 2, 3, 49]), (.iload_n 1, 80, []), (.invokevirtual 191, 81, [1, 150, 3, 0, 4, 12, 0, 0, 4, 180]), (.iload_n 2, 84, []),
  (.ireturn, 85, [0])
  ]
noncomputable def k_PT_driftsTo : List Ent := [
  (.aload_n 0, 0, []), (.getfield 16, 1, [12, 2, 2, 3, 40]), (.getfield 101, 4, [5, 1, 0, 1, 95]), (.ifCond .eq 17, 7, [1, 7]), (.iload_n 1, 10, []), (.bipush 100, 11, [1, 100]),
  (.irem, 13, []), (.aload_n 0, 14, []), (.getfield 16, 15, [12, 2, 2, 3, 40]), (.getfield 221, 18, [5, 3, 0, 1, 101]), (.if_icmp .lt 5, 21, [1, 2]), (.iconst (-1), 24, [0, 1]),
  (.ireturn, 25, [0]), (.iload_n 1, 26, []), (.aload_n 0, 27, []), (.getfield 16, 28, [12, 2, 2, 3, 40]), (.getfield 101, 31, [5, 1, 0, 1, 95]), (.irem, 34, []),
  (.istore_n 2, 35, []), (.aload_n 0, 36, []), (.getfield 16, 37, [12, 2, 2, 3, 40]), (.iload_n 2, 40, []), (.invokevirtual 134, 41, [1, 45, 1, 1, 2, 5, 0, 0, 4, 98]), (.ifCond .eq 7, 44, [1, 2]),
  (.iload_n 2, 47, []), (.goto 4, 48, [1, 1]), (.iconst (-1), 51, [0, 1]), (.ireturn, 52, [0])
  ]
noncomputable def k_PT_perform : List Ent := [
  (.aload_n 0, 0, []), (.getfield 40, 1, [12, 6, 2, 3, 44]), (.iload_n 1, 4, []), (.aload_n 0, 5, []), (.getfield 33, 6, [12, 5, 2, 3, 43]), (.aload_n 2, 9, []),
  (.iload_n 3, 10, []), (.invokevirtual 224, 11, [1, 39, 4, 0, 7, 4, 0, 0, 4, 184]), (.aload_n 0, 14, []), (.getfield 40, 15, [12, 6, 2, 3, 44]), (.aload_n 0, 18, []), (.getfield 33, 19, [12, 5, 2, 3, 43]),
  (.invokevirtual 228, 22, [1, 40, 1, 1, 3, 4, 0, 0, 4, 192]), (.pop, 25, []), (.aload_n 0, 26, []), (.getfield 33, 27, [12, 5, 2, 3, 43]), (.invokevirtual 232, 30, [1, 79, 0, 0, 4, 7, 0, 0, 4, 200]), (.return_, 33, [])
  ]
noncomputable def k_PT_undo : List Ent := [
  (.aload_n 0, 0, []), (.getfield 40, 1, [12, 6, 2, 3, 44]), (.aload_n 0, 4, []), (.getfield 33, 5, [12, 5, 2, 3, 43]), (.invokevirtual 235, 8, [1, 41, 1, 1, 3, 4, 0, 0, 4, 234]), (.istore_n 1, 11, []),
  (.aload_n 0, 12, []), (.getfield 33, 13, [12, 5, 2, 3, 43]), (.invokevirtual 232, 16, [1, 79, 0, 0, 4, 7, 0, 0, 4, 200]), (.iload_n 1, 19, []), (.ireturn, 20, [1])
  ]
noncomputable def k_PT_redo : List Ent := [
  (.aload_n 0, 0, []), (.getfield 40, 1, [12, 6, 2, 3, 44]), (.aload_n 0, 4, []), (.getfield 33, 5, [12, 5, 2, 3, 43]), (.invokevirtual 228, 8, [1, 40, 1, 1, 3, 4, 0, 0, 4, 192]), (.istore_n 1, 11, []),
  (.aload_n 0, 12, []), (.getfield 33, 13, [12, 5, 2, 3, 43]), (.invokevirtual 232, 16, [1, 79, 0, 0, 4, 7, 0, 0, 4, 200]), (.iload_n 1, 19, []), (.ireturn, 20, [1])
  ]
noncomputable def k_PT_bit : List Ent := [
  (.aload_n 0, 0, []), (.iload_n 1, 1, []), (.iload_n 2, 2, []), (.invokevirtual 238, 3, [1, 157, 2, 1, 3, 12, 0, 0, 5, 6]), (.ifCond .eq 14, 6, [1, 5]), (.aload_n 0, 9, []),
  (.getfield 61, 10, [12, 9, 2, 3, 47]), (.iload_n 2, 13, []), (.invokevirtual 241, 14, [1, 117, 1, 1, 2, 11, 0, 0, 5, 31]), (.goto 4, 17, [1, 1]), (.iconst (-1), 20, [0, 1]), (.ireturn, 21, [0])
  ]
noncomputable def k_PT_rank : List Ent := [
  (.aload_n 0, 0, []), (.iload_n 1, 1, []), (.iload_n 2, 2, []), (.invokevirtual 238, 3, [1, 157, 2, 1, 3, 12, 0, 0, 5, 6]), (.ifCond .eq 14, 6, [1, 5]), (.aload_n 0, 9, []),
  (.getfield 61, 10, [12, 9, 2, 3, 47]), (.iload_n 2, 13, []), (.invokevirtual 244, 14, [1, 118, 1, 1, 4, 11, 0, 0, 5, 36]), (.goto 4, 17, [1, 1]), (.iconst (-1), 20, [0, 1]), (.ireturn, 21, [0])
  ]
noncomputable def k_PT_child : List Ent := [
  (.iload_n 3, 0, []), (.ifCond .lt 17, 1, [1, 8]), (.iload_n 3, 4, []), (.iconst 3, 5, [1, 3]), (.if_icmp .gt 12, 6, [1, 5]), (.aload_n 0, 9, []),
  (.iload_n 1, 10, []), (.iload_n 2, 11, []), (.invokevirtual 238, 12, [1, 157, 2, 1, 3, 12, 0, 0, 5, 6]), (.ifCond .ne 5, 15, [1, 2]), (.iconst (-1), 18, [0, 1]), (.ireturn, 19, [0]),
  (.aload_n 0, 20, []), (.getfield 61, 21, [12, 9, 2, 3, 47]), (.iload_n 2, 24, []), (.invokevirtual 241, 25, [1, 117, 1, 1, 2, 11, 0, 0, 5, 31]), (.ifCond .eq 21, 28, [1, 8]), (.aload_n 0, 31, []),
  (.getfield 61, 32, [12, 9, 2, 3, 47]), (.iload_n 2, 35, []), (.invokevirtual 247, 36, [1, 119, 1, 1, 2, 11, 0, 0, 5, 44]), (.aload_n 0, 39, []), (.getfield 16, 40, [12, 2, 2, 3, 40]), (.getfield 141, 43, [5, 0, 0, 1, 91]),
  (.if_icmp .ne 5, 46, [1, 2]), (.iconst (-1), 49, [0, 1]), (.ireturn, 50, [0]), (.iconst 4, 51, [1, 4]), (.aload_n 0, 52, []), (.getfield 61, 53, [12, 9, 2, 3, 47]),
  (.iload_n 2, 56, []), (.invokevirtual 244, 57, [1, 118, 1, 1, 4, 11, 0, 0, 5, 36]), (.imul, 60, []), (.iload_n 3, 61, []), (.iadd, 62, []), (.ireturn, 63, [0])
  ]
noncomputable def k_PT_place : List Ent := [
  (.aload_n 0, 0, []), (.iload_n 1, 1, []), (.iload_n 2, 2, []), (.invokevirtual 238, 3, [1, 157, 2, 1, 3, 12, 0, 0, 5, 6]), (.ifCond .ne 5, 6, [1, 2]), (.iconst (-1), 9, [0, 1]),
  (.ireturn, 10, [0]), (.iload_n 3, 11, []), (.tableswitch 55 0 2 #[28, 37, 46], 12, [15, 0, 5, 10]), (.aload_n 0, 40, []), (.getfield 61, 41, [12, 9, 2, 3, 47]), (.iload_n 2, 44, []),
  (.invokevirtual 247, 45, [1, 119, 1, 1, 2, 11, 0, 0, 5, 44]), (.ireturn, 48, [0]), (.aload_n 0, 49, []), (.getfield 61, 50, [12, 9, 2, 3, 47]), (.iload_n 2, 53, []), (.invokevirtual 250, 54, [1, 120, 1, 1, 2, 11, 0, 0, 5, 52]),
  (.ireturn, 57, [0]), (.aload_n 0, 58, []), (.getfield 61, 59, [12, 9, 2, 3, 47]), (.iload_n 2, 62, []), (.invokevirtual 253, 63, [1, 121, 1, 1, 2, 11, 0, 0, 5, 56]), (.ireturn, 66, [0]),
  (.iconst (-1), 67, [0, 1]), (.ireturn, 68, [0])
  ]
noncomputable def k_PT_isBit : List Ent := [
  (.aload_n 0, 0, []), (.iload_n 1, 1, []), (.invokevirtual 130, 2, [1, 132, 1, 1, 2, 12, 0, 0, 4, 94]), (.ifCond .eq 7, 5, [1, 2]), (.iload_n 2, 8, []), (.ifCond .ge 5, 9, [1, 2]),
  (.iconst 0, 12, [1, 0]), (.ireturn, 13, [1]), (.aload_n 0, 14, []), (.getfield 61, 15, [12, 9, 2, 3, 47]), (.aload_n 0, 18, []), (.getfield 33, 19, [12, 5, 2, 3, 43]),
  (.getfield 114, 22, [7, 0, 2, 2, 26]), (.iload_n 1, 25, []), (.aaload, 26, [24]), (.aload_n 0, 27, []), (.getfield 16, 28, [12, 2, 2, 3, 40]), (.getfield 141, 31, [5, 0, 0, 1, 91]),
  (.invokevirtual 158, 34, [1, 111, 2, 0, 4, 11, 0, 0, 4, 116]), (.aload_n 0, 37, []), (.getfield 61, 38, [12, 9, 2, 3, 47]), (.invokevirtual 256, 41, [1, 114, 0, 0, 2, 11, 0, 0, 5, 10]), (.iload_n 2, 44, []), (.aload_n 0, 45, []),
  (.getfield 61, 46, [12, 9, 2, 3, 47]), (.invokevirtual 162, 49, [1, 113, 0, 1, 3, 11, 0, 0, 4, 127]), (.if_icmp .ge 7, 52, [1, 2]), (.iconst 1, 55, [1, 1]), (.goto 4, 56, [1, 1]), (.iconst 0, 59, [1, 0]),
  (.ireturn, 60, [1])
  ]
noncomputable def k_PT_blocks : List Ent := [
  (.aload_n 0, 0, []), (.iload_n 1, 1, []), (.invokevirtual 130, 2, [1, 132, 1, 1, 2, 12, 0, 0, 4, 94]), (.ifCond .eq 11, 5, [1, 4]), (.aload_n 0, 8, []), (.iload_n 2, 9, []),
  (.invokevirtual 259, 10, [1, 136, 1, 1, 2, 12, 0, 0, 5, 64]), (.ifCond .ne 5, 13, [1, 2]), (.iconst (-1), 16, [0, 1]), (.ireturn, 17, [0]), (.aload_n 0, 18, []), (.getfield 61, 19, [12, 9, 2, 3, 47]),
  (.aload_n 0, 22, []), (.getfield 33, 23, [12, 5, 2, 3, 43]), (.getfield 114, 26, [7, 0, 2, 2, 26]), (.iload_n 1, 29, []), (.aaload, 30, [24]), (.aload_n 0, 31, []),
  (.getfield 16, 32, [12, 2, 2, 3, 40]), (.getfield 141, 35, [5, 0, 0, 1, 91]), (.invokevirtual 158, 38, [1, 111, 2, 0, 4, 11, 0, 0, 4, 116]), (.aload_n 0, 41, []), (.getfield 61, 42, [12, 9, 2, 3, 47]), (.iload_n 2, 45, []),
  (.invokevirtual 262, 46, [1, 112, 1, 2, 2, 11, 0, 0, 5, 68]), (.invokevirtual 147, 49, [1, 24, 0, 1, 3, 3, 0, 0, 4, 102]), (.ireturn, 52, [0])
  ]
noncomputable def k_PT_row : List Ent := [
  (.aload_n 0, 0, []), (.iconst 0, 1, [1, 0]), (.putfield 121, 2, [12, 14, 0, 3, 52]), (.aload_n 0, 5, []), (.iload_n 1, 6, []), (.invokevirtual 130, 7, [1, 132, 1, 1, 2, 12, 0, 0, 4, 94]),
  (.ifCond .eq 11, 10, [1, 4]), (.aload_n 0, 13, []), (.iload_n 2, 14, []), (.invokevirtual 144, 15, [1, 135, 1, 1, 2, 12, 0, 0, 4, 163]), (.ifCond .ne 5, 18, [1, 2]), (.iconst (-1), 21, [0, 1]),
  (.ireturn, 22, [0]), (.aload_n 0, 23, []), (.aload_n 0, 24, []), (.getfield 33, 25, [12, 5, 2, 3, 43]), (.getfield 114, 28, [7, 0, 2, 2, 26]), (.iload_n 1, 31, []),
  (.aaload, 32, [24]), (.getfield 266, 33, [3, 0, 2, 1, 68]), (.iload_n 2, 36, []), (.iaload, 37, [20]), (.invokevirtual 269, 38, [1, 161, 1, 0, 3, 12, 0, 0, 5, 73]), (.aload_n 0, 41, []),
  (.getfield 121, 42, [12, 14, 0, 3, 52]), (.ireturn, 45, [0])
  ]
noncomputable def k_PT_column : List Ent := [
  (.aload_n 0, 0, []), (.iconst 0, 1, [1, 0]), (.putfield 121, 2, [12, 14, 0, 3, 52]), (.aload_n 0, 5, []), (.iload_n 1, 6, []), (.invokevirtual 130, 7, [1, 132, 1, 1, 2, 12, 0, 0, 4, 94]),
  (.ifCond .eq 11, 10, [1, 4]), (.aload_n 0, 13, []), (.iload_n 2, 14, []), (.invokevirtual 144, 15, [1, 135, 1, 1, 2, 12, 0, 0, 4, 163]), (.ifCond .ne 5, 18, [1, 2]), (.iconst (-1), 21, [0, 1]),
  (.ireturn, 22, [0]), (.aload_n 0, 23, []), (.aload_n 0, 24, []), (.getfield 33, 25, [12, 5, 2, 3, 43]), (.getfield 114, 28, [7, 0, 2, 2, 26]), (.iload_n 1, 31, []),
  (.aaload, 32, [24]), (.iload_n 2, 33, []), (.invokevirtual 272, 34, [1, 23, 1, 1, 4, 3, 0, 0, 5, 81]), (.invokevirtual 269, 37, [1, 161, 1, 0, 3, 12, 0, 0, 5, 73]), (.aload_n 0, 40, []), (.getfield 121, 41, [12, 14, 0, 3, 52]),
  (.ireturn, 44, [0])
  ]
noncomputable def k_PT_layNodes : List Ent := [
  (.iconst 0, 0, [1, 0]), (.istore_n 2, 1, []), (.nop, 2, [3, 1, 1, 1]), (.iload_n 2, 2, []), (.bipush 16, 3, [1, 16]), (.if_icmp .ge 38, 5, [1, 22]),
  (.iload_n 1, 8, []), (.iload_n 2, 9, []), (.ishr, 10, []), (.iconst 1, 11, [1, 1]), (.iand, 12, []), (.iconst 1, 13, [1, 1]),
  (.if_icmp .ne 23, 14, [1, 12]), (.aload_n 0, 17, []), (.getfield 82, 18, [12, 13, 2, 3, 51]), (.aload_n 0, 21, []), (.getfield 121, 22, [12, 14, 0, 3, 52]), (.iload_n 2, 25, []),
  (.iastore, 26, []), (.aload_n 0, 27, []), (.dup, 28, []), (.getfield 121, 29, [12, 14, 0, 3, 52]), (.iconst 1, 32, [1, 1]), (.iadd, 33, []),
  (.putfield 121, 34, [12, 14, 0, 3, 52]), (.nop, 37, [26, 1, 1, 1]), (.iinc 2 1, 37, [1, 1]), (.goto (-38), 40, [0, 3, 1, 1, 1]), (.return_, 43, [])
  ]
noncomputable def k_PT_rect : List Ent := [
  (.aload_n 0, 0, []), (.iload_n 1, 1, []), (.invokevirtual 130, 2, [1, 132, 1, 1, 2, 12, 0, 0, 4, 94]), (.ifCond .eq 16, 5, [1, 7]), (.aload_n 0, 8, []), (.iload_n 2, 9, []),
  (.iload_n 3, 10, []), (.iload 4, 11, []), (.iload 5, 13, []), (.invokevirtual 275, 15, [1, 137, 4, 1, 5, 12, 0, 0, 5, 86]), (.ifCond .ne 5, 18, [1, 2]), (.iconst (-1), 21, [0, 1]),
  (.ireturn, 22, [0]), (.aload_n 0, 23, []), (.getfield 33, 24, [12, 5, 2, 3, 43]), (.getfield 114, 27, [7, 0, 2, 2, 26]), (.iload_n 1, 30, []), (.aaload, 31, [24]),
  (.iload_n 2, 32, []), (.iload_n 3, 33, []), (.iload 4, 34, []), (.iload 5, 36, []), (.invokevirtual 279, 38, [1, 25, 4, 1, 8, 3, 0, 0, 5, 90]), (.ireturn, 41, [0])
  ]
noncomputable def k_PT_looks : List Ent := [
  (.aload_n 0, 0, []), (.iload_n 1, 1, []), (.invokevirtual 130, 2, [1, 132, 1, 1, 2, 12, 0, 0, 4, 94]), (.ifCond .eq 16, 5, [1, 7]), (.aload_n 0, 8, []), (.iload_n 2, 9, []),
  (.iload_n 3, 10, []), (.iload 4, 11, []), (.iload 5, 13, []), (.invokevirtual 275, 15, [1, 137, 4, 1, 5, 12, 0, 0, 5, 86]), (.ifCond .ne 5, 18, [1, 2]), (.iconst (-1), 21, [0, 1]),
  (.ireturn, 22, [0]), (.aload_n 0, 23, []), (.getfield 61, 24, [12, 9, 2, 3, 47]), (.aload_n 0, 27, []), (.getfield 33, 28, [12, 5, 2, 3, 43]), (.getfield 114, 31, [7, 0, 2, 2, 26]),
  (.iload_n 1, 34, []), (.aaload, 35, [24]), (.aload_n 0, 36, []), (.getfield 16, 37, [12, 2, 2, 3, 40]), (.getfield 141, 40, [5, 0, 0, 1, 91]), (.invokevirtual 158, 43, [1, 111, 2, 0, 4, 11, 0, 0, 4, 116]),
  (.aload_n 0, 46, []), (.getfield 61, 47, [12, 9, 2, 3, 47]), (.invokevirtual 256, 50, [1, 114, 0, 0, 2, 11, 0, 0, 5, 10]), (.aload_n 0, 53, []), (.getfield 61, 54, [12, 9, 2, 3, 47]), (.iload_n 2, 57, []),
  (.iload_n 3, 58, []), (.iload 4, 59, []), (.iload 5, 61, []), (.invokevirtual 282, 63, [1, 122, 4, 1, 10, 11, 0, 0, 5, 98]), (.ireturn, 66, [0])
  ]
noncomputable def k_PT_walks : List Ent := [
  (.aload_n 0, 0, []), (.iload_n 1, 1, []), (.iload_n 2, 2, []), (.invokevirtual 285, 3, [1, 166, 2, 1, 3, 12, 0, 0, 5, 108]), (.ifCond .ne 5, 6, [1, 2]), (.iconst (-1), 9, [0, 1]),
  (.ireturn, 10, [0]), (.aload_n 0, 11, []), (.getfield 61, 12, [12, 9, 2, 3, 47]), (.aload_n 0, 15, []), (.getfield 65, 16, [12, 10, 2, 3, 48]), (.invokevirtual 288, 19, [1, 123, 1, 1, 7, 11, 0, 0, 5, 112]),
  (.ireturn, 22, [0])
  ]
noncomputable def k_PT_products : List Ent := [
  (.aload_n 0, 0, []), (.iload_n 1, 1, []), (.iload_n 2, 2, []), (.invokevirtual 285, 3, [1, 166, 2, 1, 3, 12, 0, 0, 5, 108]), (.ifCond .ne 5, 6, [1, 2]), (.iconst (-1), 9, [0, 1]),
  (.ireturn, 10, [0]), (.aload_n 0, 11, []), (.getfield 61, 12, [12, 9, 2, 3, 47]), (.aload_n 0, 15, []), (.getfield 65, 16, [12, 10, 2, 3, 48]), (.invokevirtual 292, 19, [1, 124, 1, 1, 7, 11, 0, 0, 5, 121]),
  (.ireturn, 22, [0])
  ]
noncomputable def k_PT_growBoth : List Ent := [
  (.aload_n 0, 0, []), (.iload_n 1, 1, []), (.iload_n 2, 2, []), (.invokevirtual 199, 3, [1, 133, 2, 1, 3, 12, 0, 0, 4, 213]), (.ifCond .ne 5, 6, [1, 2]), (.iconst 0, 9, [1, 0]),
  (.ireturn, 10, [1]), (.aload_n 0, 11, []), (.getfield 61, 12, [12, 9, 2, 3, 47]), (.aload_n 0, 15, []), (.getfield 33, 16, [12, 5, 2, 3, 43]), (.getfield 114, 19, [7, 0, 2, 2, 26]),
  (.iload_n 1, 22, []), (.aaload, 23, [24]), (.aload_n 0, 24, []), (.getfield 16, 25, [12, 2, 2, 3, 40]), (.getfield 141, 28, [5, 0, 0, 1, 91]), (.invokevirtual 158, 31, [1, 111, 2, 0, 4, 11, 0, 0, 4, 116]),
  (.aload_n 0, 34, []), (.getfield 65, 35, [12, 10, 2, 3, 48]), (.aload_n 0, 38, []), (.getfield 33, 39, [12, 5, 2, 3, 43]), (.getfield 114, 42, [7, 0, 2, 2, 26]), (.iload_n 2, 45, []),
  (.aaload, 46, [24]), (.aload_n 0, 47, []), (.getfield 16, 48, [12, 2, 2, 3, 40]), (.getfield 141, 51, [5, 0, 0, 1, 91]), (.invokevirtual 158, 54, [1, 111, 2, 0, 4, 11, 0, 0, 4, 116]), (.iconst 1, 57, [1, 1]),
  (.ireturn, 58, [1])
  ]
noncomputable def k_PT_would : List Ent := [
  (.aload_n 0, 0, []), (.iload_n 1, 1, []), (.iload_n 2, 2, []), (.iload_n 3, 3, []), (.invokevirtual 195, 4, [1, 145, 3, 1, 4, 12, 0, 0, 4, 209]), (.ifCond .ne 5, 7, [1, 2]),
  (.iconst (-1), 10, [0, 1]), (.ireturn, 11, [0]), (.iload 4, 12, []), (.lookupswitch 43 #[(0, 26), (1, 34)], 14, [9, 0, 4]), (.aload_n 0, 40, []), (.getfield 71, 41, [12, 11, 2, 3, 49]),
  (.invokevirtual 147, 44, [1, 24, 0, 1, 3, 3, 0, 0, 4, 102]), (.ireturn, 47, [0]), (.aload_n 0, 48, []), (.aload_n 0, 49, []), (.getfield 71, 50, [12, 11, 2, 3, 49]), (.invokevirtual 150, 53, [1, 139, 1, 1, 2, 12, 0, 0, 4, 112]),
  (.ireturn, 56, [0]), (.iconst (-1), 57, [0, 1]), (.ireturn, 58, [0])
  ]
noncomputable def k_PT_pair : List Ent := [
  (.aload_n 0, 0, []), (.iload_n 1, 1, []), (.invokevirtual 130, 2, [1, 132, 1, 1, 2, 12, 0, 0, 4, 94]), (.ifCond .eq 16, 5, [1, 7]), (.iload_n 2, 8, []), (.ifCond .lt 12, 9, [1, 5]),
  (.iload_n 3, 12, []), (.ifCond .lt 8, 13, [1, 3]), (.iload_n 3, 16, []), (.iconst 1, 17, [1, 1]), (.if_icmp .le 5, 18, [1, 2]), (.iconst (-1), 21, [0, 1]),
  (.ireturn, 22, [0]), (.aload_n 0, 23, []), (.getfield 33, 24, [12, 5, 2, 3, 43]), (.getfield 114, 27, [7, 0, 2, 2, 26]), (.iload_n 1, 30, []), (.aaload, 31, [24]),
  (.iload_n 2, 32, []), (.invokevirtual 295, 33, [1, 28, 1, 1, 5, 3, 0, 0, 5, 134]), (.istore 4, 36, []), (.iload 4, 38, []), (.iconst (-1), 40, [0, 1]), (.if_icmp .ne 5, 41, [1, 2]),
  (.iconst (-1), 44, [0, 1]), (.ireturn, 45, [0]), (.iload_n 3, 46, []), (.ifCond .ne 11, 47, [1, 4]), (.iload 4, 50, []), (.bipush 16, 52, [1, 16]),
  (.idiv, 54, []), (.goto 8, 55, [1, 3]), (.iload 4, 58, []), (.bipush 16, 60, [1, 16]), (.irem, 62, []), (.ireturn, 63, [0])
  ]
noncomputable def k_PT_unlike : List Ent := [
  (.aload_n 0, 0, []), (.iload_n 1, 1, []), (.iload_n 2, 2, []), (.invokevirtual 199, 3, [1, 133, 2, 1, 3, 12, 0, 0, 4, 213]), (.ifCond .ne 5, 6, [1, 2]), (.iconst (-1), 9, [0, 1]),
  (.ireturn, 10, [0]), (.aload_n 0, 11, []), (.getfield 71, 12, [12, 11, 2, 3, 49]), (.iconst 2, 15, [1, 2]), (.aload_n 0, 16, []), (.getfield 33, 17, [12, 5, 2, 3, 43]),
  (.getfield 114, 20, [7, 0, 2, 2, 26]), (.iload_n 1, 23, []), (.aaload, 24, [24]), (.aload_n 0, 25, []), (.getfield 33, 26, [12, 5, 2, 3, 43]), (.getfield 114, 29, [7, 0, 2, 2, 26]),
  (.iload_n 2, 32, []), (.aaload, 33, [24]), (.invokevirtual 202, 34, [1, 20, 3, 0, 6, 3, 0, 0, 4, 217]), (.aload_n 0, 37, []), (.getfield 71, 38, [12, 11, 2, 3, 49]), (.invokevirtual 147, 41, [1, 24, 0, 1, 3, 3, 0, 0, 4, 102]),
  (.istore_n 3, 44, []), (.aload_n 0, 45, []), (.getfield 71, 46, [12, 11, 2, 3, 49]), (.iconst 2, 49, [1, 2]), (.aload_n 0, 50, []), (.getfield 33, 51, [12, 5, 2, 3, 43]),
  (.getfield 114, 54, [7, 0, 2, 2, 26]), (.iload_n 2, 57, []), (.aaload, 58, [24]), (.aload_n 0, 59, []), (.getfield 33, 60, [12, 5, 2, 3, 43]), (.getfield 114, 63, [7, 0, 2, 2, 26]),
  (.iload_n 1, 66, []), (.aaload, 67, [24]), (.invokevirtual 202, 68, [1, 20, 3, 0, 6, 3, 0, 0, 4, 217]), (.iload_n 3, 71, []), (.aload_n 0, 72, []), (.getfield 71, 73, [12, 11, 2, 3, 49]),
  (.invokevirtual 147, 76, [1, 24, 0, 1, 3, 3, 0, 0, 4, 102]), (.iadd, 79, []), (.ireturn, 80, [0])
  ]
noncomputable def k_PT_within : List Ent := [
  (.aload_n 0, 0, []), (.iload_n 1, 1, []), (.iload_n 2, 2, []), (.invokevirtual 199, 3, [1, 133, 2, 1, 3, 12, 0, 0, 4, 213]), (.ifCond .ne 5, 6, [1, 2]), (.iconst (-1), 9, [0, 1]),
  (.ireturn, 10, [0]), (.aload_n 0, 11, []), (.getfield 71, 12, [12, 11, 2, 3, 49]), (.iconst 2, 15, [1, 2]), (.aload_n 0, 16, []), (.getfield 33, 17, [12, 5, 2, 3, 43]),
  (.getfield 114, 20, [7, 0, 2, 2, 26]), (.iload_n 1, 23, []), (.aaload, 24, [24]), (.aload_n 0, 25, []), (.getfield 33, 26, [12, 5, 2, 3, 43]), (.getfield 114, 29, [7, 0, 2, 2, 26]),
  (.iload_n 2, 32, []), (.aaload, 33, [24]), (.invokevirtual 202, 34, [1, 20, 3, 0, 6, 3, 0, 0, 4, 217]), (.aload_n 0, 37, []), (.getfield 71, 38, [12, 11, 2, 3, 49]), (.invokevirtual 147, 41, [1, 24, 0, 1, 3, 3, 0, 0, 4, 102]),
  (.ifCond .ne 7, 44, [1, 2]), (.iconst 1, 47, [1, 1]), (.goto 4, 48, [1, 1]), (.iconst 0, 51, [1, 0]), (.ireturn, 52, [0])
  ]
noncomputable def k_PT_busiest : List Ent := [
  (.aload_n 0, 0, []), (.iload_n 1, 1, []), (.invokevirtual 130, 2, [1, 132, 1, 1, 2, 12, 0, 0, 4, 94]), (.ifCond .eq 12, 5, [1, 5]), (.iload_n 2, 8, []), (.ifCond .lt 8, 9, [1, 3]),
  (.iload_n 2, 12, []), (.iconst 1, 13, [1, 1]), (.if_icmp .le 5, 14, [1, 2]), (.iconst (-1), 17, [0, 1]), (.ireturn, 18, [0]), (.aload_n 0, 19, []),
  (.getfield 33, 20, [12, 5, 2, 3, 43]), (.getfield 114, 23, [7, 0, 2, 2, 26]), (.iload_n 1, 26, []), (.aaload, 27, [24]), (.astore_n 3, 28, []), (.iconst 0, 29, [1, 0]),
  (.istore 4, 30, []), (.iconst (-1), 32, [0, 1]), (.istore 5, 33, []), (.iconst 0, 35, [1, 0]), (.istore 6, 36, []), (.nop, 38, [24, 0, 0, 1, 1, 1, 1, 1, 0]),
  (.iload 6, 38, []), (.aload_n 3, 40, []), (.getfield 206, 41, [3, 1, 0, 1, 73]), (.if_icmp .ge 49, 44, [1, 23]), (.iload_n 2, 47, []), (.ifCond .ne 13, 48, [1, 5]),
  (.aload_n 3, 51, []), (.getfield 266, 52, [3, 0, 2, 1, 68]), (.iload 6, 55, []), (.iaload, 57, [20]), (.goto 9, 58, [1, 3]), (.aload_n 3, 61, []),
  (.iload 6, 62, []), (.invokevirtual 272, 64, [1, 23, 1, 1, 4, 3, 0, 0, 5, 81]), (.nop, 67, [39, 0, 0, 1, 1, 1, 1, 1, 0]), (.invokestatic 298, 67, [0, 331, 1, 1, 1, 0, 0, 0, 5, 151]), (.istore 7, 70, []), (.iload 7, 72, []),
  (.iload 5, 74, []), (.if_icmp .le 11, 76, [1, 4]), (.iload 7, 79, []), (.istore 5, 81, []), (.iload 6, 83, []), (.istore 4, 85, []),
  (.nop, 87, [49, 0, 0, 1, 1, 1, 1, 1, 0]), (.iinc 6 1, 87, [1, 1]), (.goto (-52), 90, [0, 24, 0, 0, 1, 1, 1, 1, 1, 0]), (.iload 4, 93, []), (.ireturn, 95, [0])
  ]
noncomputable def k_PT_densest : List Ent := [
  (.aload_n 0, 0, []), (.iload_n 1, 1, []), (.invokevirtual 130, 2, [1, 132, 1, 1, 2, 12, 0, 0, 4, 94]), (.ifCond .eq 20, 5, [1, 9]), (.aload_n 0, 8, []), (.iload_n 2, 9, []),
  (.invokevirtual 259, 10, [1, 136, 1, 1, 2, 12, 0, 0, 5, 64]), (.ifCond .eq 12, 13, [1, 5]), (.iload_n 3, 16, []), (.ifCond .lt 8, 17, [1, 3]), (.iload_n 3, 20, []), (.iconst 2, 21, [1, 2]),
  (.if_icmp .le 5, 22, [1, 2]), (.iconst (-1), 25, [0, 1]), (.ireturn, 26, [0]), (.aload_n 0, 27, []), (.getfield 33, 28, [12, 5, 2, 3, 43]), (.getfield 114, 31, [7, 0, 2, 2, 26]),
  (.iload_n 1, 34, []), (.aaload, 35, [24]), (.astore 4, 36, []), (.aload 4, 38, []), (.iload_n 2, 40, []), (.aload_n 0, 41, []),
  (.getfield 16, 42, [12, 2, 2, 3, 40]), (.getfield 141, 45, [5, 0, 0, 1, 91]), (.invokevirtual 303, 48, [1, 27, 2, 1, 7, 3, 0, 0, 5, 156]), (.istore 5, 51, []), (.aload_n 0, 53, []), (.getfield 16, 54, [12, 2, 2, 3, 40]),
  (.getfield 141, 57, [5, 0, 0, 1, 91]), (.iload_n 2, 60, []), (.isub, 61, []), (.istore 6, 62, []), (.iload 5, 64, []), (.iload_n 2, 66, []),
  (.ishr, 67, []), (.istore 7, 68, []), (.iload 5, 70, []), (.iconst 1, 72, [1, 1]), (.iload_n 2, 73, []), (.ishl, 74, []),
  (.iconst 1, 75, [1, 1]), (.isub, 76, []), (.iand, 77, []), (.istore 8, 78, []), (.iload_n 3, 80, []), (.lookupswitch 39 #[(0, 27), (1, 33)], 81, [8, 0, 4]),
  (.iload 7, 108, []), (.iload 6, 110, []), (.ishl, 112, []), (.ireturn, 113, [0]), (.iload 8, 114, []), (.iload 6, 116, []),
  (.ishl, 118, []), (.ireturn, 119, [0]), (.aload 4, 120, []), (.iload 5, 122, []), (.iload_n 2, 124, []), (.aload_n 0, 125, []),
  (.getfield 16, 126, [12, 2, 2, 3, 40]), (.getfield 141, 129, [5, 0, 0, 1, 91]), (.invokevirtual 307, 132, [1, 26, 3, 1, 7, 3, 0, 0, 5, 165]), (.ireturn, 135, [0])
  ]
noncomputable def k_PT_reached : List Ent := [
  (.aload_n 0, 0, []), (.iload_n 1, 1, []), (.invokevirtual 130, 2, [1, 132, 1, 1, 2, 12, 0, 0, 4, 94]), (.ifCond .eq 11, 5, [1, 4]), (.aload_n 0, 8, []), (.iload_n 2, 9, []),
  (.invokevirtual 144, 10, [1, 135, 1, 1, 2, 12, 0, 0, 4, 163]), (.ifCond .ne 5, 13, [1, 2]), (.iconst (-1), 16, [0, 1]), (.ireturn, 17, [0]), (.aload_n 0, 18, []), (.getfield 78, 19, [12, 12, 2, 3, 50]),
  (.aload_n 0, 22, []), (.getfield 33, 23, [12, 5, 2, 3, 43]), (.getfield 114, 26, [7, 0, 2, 2, 26]), (.iload_n 1, 29, []), (.aaload, 30, [24]), (.iload_n 2, 31, []),
  (.invokevirtual 310, 32, [1, 103, 2, 1, 5, 10, 0, 0, 5, 170]), (.ireturn, 35, [0])
  ]
noncomputable def k_PT_far : List Ent := [
  (.aload_n 0, 0, []), (.iload_n 1, 1, []), (.invokevirtual 130, 2, [1, 132, 1, 1, 2, 12, 0, 0, 4, 94]), (.ifCond .eq 19, 5, [1, 8]), (.aload_n 0, 8, []), (.iload_n 2, 9, []),
  (.invokevirtual 144, 10, [1, 135, 1, 1, 2, 12, 0, 0, 4, 163]), (.ifCond .eq 11, 13, [1, 4]), (.aload_n 0, 16, []), (.iload_n 3, 17, []), (.invokevirtual 144, 18, [1, 135, 1, 1, 2, 12, 0, 0, 4, 163]), (.ifCond .ne 5, 21, [1, 2]),
  (.iconst (-1), 24, [0, 1]), (.ireturn, 25, [0]), (.aload_n 0, 26, []), (.getfield 78, 27, [12, 12, 2, 3, 50]), (.aload_n 0, 30, []), (.getfield 33, 31, [12, 5, 2, 3, 43]),
  (.getfield 114, 34, [7, 0, 2, 2, 26]), (.iload_n 1, 37, []), (.aaload, 38, [24]), (.iload_n 2, 39, []), (.iload_n 3, 40, []), (.invokevirtual 314, 41, [1, 104, 3, 1, 6, 10, 0, 0, 5, 179]),
  (.ireturn, 44, [0])
  ]
noncomputable def k_PT_mutual : List Ent := [
  (.aload_n 0, 0, []), (.iload_n 1, 1, []), (.invokevirtual 130, 2, [1, 132, 1, 1, 2, 12, 0, 0, 4, 94]), (.ifCond .eq 11, 5, [1, 4]), (.aload_n 0, 8, []), (.iload_n 2, 9, []),
  (.invokevirtual 144, 10, [1, 135, 1, 1, 2, 12, 0, 0, 4, 163]), (.ifCond .ne 5, 13, [1, 2]), (.iconst (-1), 16, [0, 1]), (.ireturn, 17, [0]), (.aload_n 0, 18, []), (.getfield 78, 19, [12, 12, 2, 3, 50]),
  (.aload_n 0, 22, []), (.getfield 33, 23, [12, 5, 2, 3, 43]), (.getfield 114, 26, [7, 0, 2, 2, 26]), (.iload_n 1, 29, []), (.aaload, 30, [24]), (.iload_n 2, 31, []),
  (.invokevirtual 318, 32, [1, 105, 2, 1, 3, 10, 0, 0, 5, 187]), (.ireturn, 35, [0])
  ]
noncomputable def k_PT_closure : List Ent := [
  (.aload_n 0, 0, []), (.iload_n 1, 1, []), (.invokevirtual 130, 2, [1, 132, 1, 1, 2, 12, 0, 0, 4, 94]), (.ifCond .eq 22, 5, [1, 9]), (.aload_n 0, 8, []), (.getfield 78, 9, [12, 12, 2, 3, 50]),
  (.aload_n 0, 12, []), (.getfield 33, 13, [12, 5, 2, 3, 43]), (.getfield 114, 16, [7, 0, 2, 2, 26]), (.iload_n 1, 19, []), (.aaload, 20, [24]), (.invokevirtual 321, 21, [1, 106, 1, 1, 2, 10, 0, 0, 5, 197]),
  (.goto 4, 24, [1, 1]), (.iconst (-1), 27, [0, 1]), (.ireturn, 28, [0])
  ]
noncomputable def k_PT_settles : List Ent := [
  (.aload_n 0, 0, []), (.iload_n 1, 1, []), (.invokevirtual 130, 2, [1, 132, 1, 1, 2, 12, 0, 0, 4, 94]), (.ifCond .eq 22, 5, [1, 9]), (.aload_n 0, 8, []), (.getfield 78, 9, [12, 12, 2, 3, 50]),
  (.aload_n 0, 12, []), (.getfield 33, 13, [12, 5, 2, 3, 43]), (.getfield 114, 16, [7, 0, 2, 2, 26]), (.iload_n 1, 19, []), (.aaload, 20, [24]), (.invokevirtual 324, 21, [1, 107, 1, 1, 2, 10, 0, 0, 5, 216]),
  (.goto 4, 24, [1, 1]), (.iconst (-1), 27, [0, 1]), (.ireturn, 28, [0])
  ]
noncomputable def k_PT_parts : List Ent := [
  (.aload_n 0, 0, []), (.iload_n 1, 1, []), (.invokevirtual 130, 2, [1, 132, 1, 1, 2, 12, 0, 0, 4, 94]), (.ifCond .eq 22, 5, [1, 9]), (.aload_n 0, 8, []), (.getfield 78, 9, [12, 12, 2, 3, 50]),
  (.aload_n 0, 12, []), (.getfield 33, 13, [12, 5, 2, 3, 43]), (.getfield 114, 16, [7, 0, 2, 2, 26]), (.iload_n 1, 19, []), (.aaload, 20, [24]), (.invokevirtual 327, 21, [1, 109, 1, 1, 5, 10, 0, 0, 5, 224]),
  (.goto 4, 24, [1, 1]), (.iconst (-1), 27, [0, 1]), (.ireturn, 28, [0])
  ]
noncomputable def k_PT_is : List Ent := [
  (.aload_n 0, 0, []), (.iload_n 1, 1, []), (.invokevirtual 130, 2, [1, 132, 1, 1, 2, 12, 0, 0, 4, 94]), (.ifCond .eq 12, 5, [1, 5]), (.iload_n 2, 8, []), (.ifCond .lt 8, 9, [1, 3]),
  (.iload_n 2, 12, []), (.iconst 5, 13, [1, 5]), (.if_icmp .le 5, 14, [1, 2]), (.iconst (-1), 17, [0, 1]), (.ireturn, 18, [0]), (.aload_n 0, 19, []),
  (.aload_n 0, 20, []), (.getfield 33, 21, [12, 5, 2, 3, 43]), (.getfield 114, 24, [7, 0, 2, 2, 26]), (.iload_n 1, 27, []), (.aaload, 28, [24]), (.iload_n 2, 29, []),
  (.invokevirtual 330, 30, [1, 180, 2, 1, 3, 12, 0, 0, 5, 232]), (.ifCond .eq 7, 33, [1, 2]), (.iconst 1, 36, [1, 1]), (.goto 4, 37, [1, 1]), (.iconst 0, 40, [1, 0]), (.ireturn, 41, [0])
  ]
noncomputable def k_PT_holdsFor : List Ent := [
  (.iload_n 2, 0, []), (.tableswitch 92 0 4 #[35, 40, 45, 64, 78], 1, [33, 0, 3, 6, 17, 25]), (.aload_n 1, 36, []), (.invokevirtual 334, 37, [1, 30, 0, 1, 2, 3, 0, 0, 5, 236]), (.ireturn, 40, [1]), (.aload_n 1, 41, []),
  (.invokevirtual 338, 42, [1, 31, 0, 1, 2, 3, 0, 0, 6, 0]), (.ireturn, 45, [1]), (.aload_n 0, 46, []), (.getfield 71, 47, [12, 11, 2, 3, 49]), (.iconst 3, 50, [1, 3]), (.aload_n 1, 51, []),
  (.aload_n 1, 52, []), (.invokevirtual 202, 53, [1, 20, 3, 0, 6, 3, 0, 0, 4, 217]), (.aload_n 0, 56, []), (.getfield 71, 57, [12, 11, 2, 3, 49]), (.aload_n 1, 60, []), (.invokevirtual 341, 61, [1, 29, 1, 1, 3, 3, 0, 0, 6, 4]),
  (.ireturn, 64, [1]), (.aload_n 1, 65, []), (.invokevirtual 345, 66, [1, 32, 0, 1, 3, 3, 0, 0, 6, 5]), (.iconst 1, 69, [1, 1]), (.if_icmp .gt 7, 70, [1, 2]), (.iconst 1, 73, [1, 1]),
  (.goto 4, 74, [1, 1]), (.iconst 0, 77, [1, 0]), (.ireturn, 78, [1]), (.aload_n 1, 79, []), (.invokevirtual 348, 80, [1, 34, 0, 1, 3, 3, 0, 0, 6, 9]), (.iconst 1, 83, [1, 1]),
  (.if_icmp .gt 7, 84, [1, 2]), (.iconst 1, 87, [1, 1]), (.goto 4, 88, [1, 1]), (.iconst 0, 91, [1, 0]), (.ireturn, 92, [1]), (.aload_n 1, 93, []),
  (.invokevirtual 351, 94, [1, 33, 0, 1, 3, 3, 0, 0, 6, 13]), (.iconst 1, 97, [1, 1]), (.if_icmp .lt 7, 98, [1, 2]), (.iconst 1, 101, [1, 1]), (.goto 4, 102, [1, 1]), (.iconst 0, 105, [1, 0]),
  (.ireturn, 106, [1])
  ]
noncomputable def k_PT_law : List Ent := [
  (.aload_n 0, 0, []), (.iload_n 1, 1, []), (.invokevirtual 130, 2, [1, 132, 1, 1, 2, 12, 0, 0, 4, 94]), (.ifCond .eq 20, 5, [1, 8]), (.iload_n 2, 8, []), (.aload_n 0, 9, []),
  (.getfield 16, 10, [12, 2, 2, 3, 40]), (.getfield 141, 13, [5, 0, 0, 1, 91]), (.if_icmp .lt 9, 16, [1, 3]), (.iload_n 2, 19, []), (.bipush 6, 20, [1, 6]), (.if_icmp .le 5, 22, [1, 2]),
  (.iconst (-1), 25, [0, 1]), (.ireturn, 26, [0]), (.aload_n 0, 27, []), (.aload_n 0, 28, []), (.getfield 33, 29, [12, 5, 2, 3, 43]), (.getfield 114, 32, [7, 0, 2, 2, 26]),
  (.iload_n 1, 35, []), (.aaload, 36, [24]), (.invokevirtual 150, 37, [1, 139, 1, 1, 2, 12, 0, 0, 4, 112]), (.istore_n 3, 40, []), (.aload_n 0, 41, []), (.getfield 33, 42, [12, 5, 2, 3, 43]),
  (.getfield 114, 45, [7, 0, 2, 2, 26]), (.iload_n 1, 48, []), (.aaload, 49, [24]), (.invokevirtual 147, 50, [1, 24, 0, 1, 3, 3, 0, 0, 4, 102]), (.ifCond .ne 7, 53, [1, 2]), (.iload_n 3, 56, []),
  (.goto 16, 57, [1, 9]), (.iload_n 3, 60, []), (.iconst 4, 61, [1, 4]), (.iload_n 2, 62, []), (.aload_n 0, 63, []), (.getfield 16, 64, [12, 2, 2, 3, 40]),
  (.getfield 141, 67, [5, 0, 0, 1, 91]), (.isub, 70, []), (.imul, 71, []), (.iadd, 72, []), (.ireturn, 73, [0])
  ]
noncomputable def k_PT_odds : List Ent := [
  (.iload_n 1, 0, []), (.ifCond .lt 17, 1, [1, 8]), (.iload_n 1, 4, []), (.iconst 4, 5, [1, 4]), (.if_icmp .gt 12, 6, [1, 5]), (.iload_n 2, 9, []),
  (.ifCond .lt 8, 10, [1, 3]), (.iload_n 2, 13, []), (.iconst 1, 14, [1, 1]), (.if_icmp .le 5, 15, [1, 2]), (.iconst (-1), 18, [0, 1]), (.ireturn, 19, [0]),
  (.iconst 1, 20, [1, 1]), (.istore_n 3, 21, []), (.iconst 1, 22, [1, 1]), (.istore 4, 23, []), (.iconst 0, 25, [1, 0]), (.istore 5, 26, []),
  (.nop, 28, [19, 1, 1, 1, 1, 1, 1]), (.iload 5, 28, []), (.iload_n 1, 30, []), (.if_icmp .ge 29, 31, [1, 14]), (.iload_n 3, 34, []), (.bipush 100, 35, [1, 100]),
  (.aload_n 0, 37, []), (.getfield 16, 38, [12, 2, 2, 3, 40]), (.getfield 221, 41, [5, 3, 0, 1, 101]), (.isub, 44, []), (.imul, 45, []), (.istore_n 3, 46, []),
  (.iload 4, 47, []), (.bipush 100, 49, [1, 100]), (.imul, 51, []), (.istore 4, 52, []), (.iinc 5 1, 54, [1, 1]), (.goto (-29), 57, [0, 19, 1, 1, 1, 1, 1, 1]),
  (.iload 4, 60, []), (.iload_n 3, 62, []), (.invokestatic 354, 63, [0, 183, 2, 1, 6, 0, 0, 0, 6, 25]), (.istore 5, 66, []), (.iload_n 2, 68, []), (.ifCond .ne 10, 69, [1, 4]),
  (.iload_n 3, 72, []), (.iload 5, 73, []), (.idiv, 75, []), (.goto 8, 76, [1, 3]), (.iload 4, 79, []), (.iload 5, 81, []),
  (.idiv, 83, []), (.ireturn, 84, [0])
  ]
noncomputable def k_PT_commonDivisor : List Ent := [
  (.iload_n 0, 0, []), (.istore_n 2, 1, []), (.iload_n 1, 2, []), (.istore_n 3, 3, []), (.iconst 0, 4, [1, 0]), (.istore 4, 5, []),
  (.nop, 7, [7, 0, 0, 1, 1, 1, 0]), (.iload 4, 7, []), (.bipush 64, 9, [1, 64]), (.if_icmp .ge 23, 11, [1, 12]), (.iload_n 3, 14, []), (.ifCond .le 19, 15, [1, 10]),
  (.iload_n 2, 18, []), (.iload_n 3, 19, []), (.irem, 20, []), (.istore 5, 21, []), (.iload_n 3, 23, []), (.istore_n 2, 24, []),
  (.iload 5, 25, []), (.istore_n 3, 27, []), (.iinc 4 1, 28, [1, 1]), (.goto (-24), 31, [0, 7, 0, 0, 1, 1, 1, 0]), (.nop, 34, [23, 0, 0, 1, 0, 0, 0]), (.iload_n 2, 34, []),
  (.iconst 1, 35, [1, 1]), (.invokestatic 357, 36, [4, 6, 28]), (.ireturn, 39, [0])
  ]
noncomputable def k_PT_lies : List Ent := [
  (.iload_n 1, 0, []), (.ifCond .lt 20, 1, [1, 9]), (.iload_n 1, 4, []), (.aload_n 0, 5, []), (.getfield 121, 6, [12, 14, 0, 3, 52]), (.if_icmp .ge 12, 9, [1, 5]),
  (.aload_n 0, 12, []), (.getfield 82, 13, [12, 13, 2, 3, 51]), (.iload_n 1, 16, []), (.iaload, 17, [20]), (.goto 5, 18, [1, 1]), (.bipush (-2), 21, [0, 2]),
  (.ireturn, 23, [0])
  ]
noncomputable def k_PT_seen : List Ent := [
  (.aload_n 0, 0, []), (.getfield 16, 1, [12, 2, 2, 3, 40]), (.getfield 101, 4, [5, 1, 0, 1, 95]), (.ifCond .eq 22, 7, [1, 9]), (.aload_n 0, 10, []), (.iload_n 1, 11, []),
  (.invokevirtual 259, 12, [1, 136, 1, 1, 2, 12, 0, 0, 5, 64]), (.ifCond .eq 14, 15, [1, 5]), (.iload_n 3, 18, []), (.ifCond .lt 10, 19, [1, 3]), (.iload_n 3, 22, []), (.sipush 256, 23, [1, 256]),
  (.if_icmp .le 5, 26, [1, 2]), (.iconst (-1), 29, [0, 1]), (.ireturn, 30, [0]), (.iload_n 2, 31, []), (.ifCond .lt 12, 32, [1, 7]), (.iload_n 2, 35, []),
  (.iconst 1, 36, [1, 1]), (.iconst 2, 37, [1, 2]), (.iload_n 1, 38, []), (.imul, 39, []), (.ishl, 40, []), (.if_icmp .lt 5, 41, [1, 2]),
  (.iconst (-1), 44, [0, 1]), (.ireturn, 45, [0]), (.aload_n 0, 46, []), (.getfield 54, 47, [12, 8, 2, 3, 46]), (.iload_n 1, 50, []), (.iload_n 2, 51, []),
  (.iload_n 3, 52, []), (.iload 4, 53, []), (.invokevirtual 362, 55, [1, 94, 4, 1, 5, 9, 0, 0, 6, 37]), (.ireturn, 58, [0])
  ]
noncomputable def k_PT_untell : List Ent := [
  (.aload_n 0, 0, []), (.getfield 54, 1, [12, 8, 2, 3, 46]), (.iload_n 1, 4, []), (.invokevirtual 366, 5, [1, 95, 1, 1, 2, 9, 0, 0, 6, 46]), (.ireturn, 8, [1])
  ]
noncomputable def k_PT_later : List Ent := [
  (.iload_n 1, 0, []), (.ifCond .lt 25, 1, [1, 10]), (.iload_n 1, 4, []), (.sipush 1000, 5, [1, 1000]), (.if_icmp .gt 18, 8, [1, 7]), (.aload_n 0, 11, []),
  (.getfield 54, 12, [12, 8, 2, 3, 46]), (.getfield 369, 15, [9, 0, 0, 2, 106]), (.iload_n 1, 18, []), (.iadd, 19, []), (.ldc_w 372, 20, [1, 100000, 6, 54]), (.if_icmp .le 5, 23, [1, 2]),
  (.iconst (-1), 26, [0, 1]), (.ireturn, 27, [0]), (.aload_n 0, 28, []), (.getfield 54, 29, [12, 8, 2, 3, 46]), (.dup, 32, []), (.getfield 369, 33, [9, 0, 0, 2, 106]),
  (.iload_n 1, 36, []), (.iadd, 37, []), (.putfield 369, 38, [9, 0, 0, 2, 106]), (.aload_n 0, 41, []), (.getfield 54, 42, [12, 8, 2, 3, 46]), (.getfield 369, 45, [9, 0, 0, 2, 106]),
  (.ireturn, 48, [0])
  ]
noncomputable def k_PT_fits : List Ent := [
  (.aload_n 0, 0, []), (.getfield 54, 1, [12, 8, 2, 3, 46]), (.iload_n 1, 4, []), (.invokevirtual 373, 5, [1, 99, 1, 1, 2, 9, 0, 0, 6, 59]), (.ireturn, 8, [0])
  ]
noncomputable def k_PT_fit : List Ent := [
  (.aload_n 0, 0, []), (.getfield 54, 1, [12, 8, 2, 3, 46]), (.iload_n 1, 4, []), (.iload_n 2, 5, []), (.invokevirtual 376, 6, [1, 100, 2, 1, 4, 9, 0, 0, 6, 81]), (.ireturn, 9, [0])
  ]
noncomputable def k_PT_ask : List Ent := [
  (.aload_n 0, 0, []), (.iload_n 1, 1, []), (.invokevirtual 259, 2, [1, 136, 1, 1, 2, 12, 0, 0, 5, 64]), (.ifCond .eq 12, 5, [1, 5]), (.iload_n 2, 8, []), (.ifCond .lt 8, 9, [1, 3]),
  (.iload_n 2, 12, []), (.iconst 1, 13, [1, 1]), (.if_icmp .le 5, 14, [1, 2]), (.iconst (-1), 17, [0, 1]), (.ireturn, 18, [0]), (.aload_n 0, 19, []),
  (.getfield 54, 20, [12, 8, 2, 3, 46]), (.iload_n 1, 23, []), (.iload_n 3, 24, []), (.iload_n 2, 25, []), (.iconst 1, 26, [1, 1]), (.if_icmp .ne 7, 27, [1, 2]),
  (.iconst 1, 30, [1, 1]), (.goto 4, 31, [1, 1]), (.iconst 0, 34, [1, 0]), (.nop, 35, [22, 0, 0, 0, 0]), (.invokevirtual 379, 35, [1, 101, 3, 1, 11, 9, 0, 0, 6, 90]), (.ireturn, 38, [0])
  ]
noncomputable def k_PT_image : List Ent := [
  (.iload_n 1, 0, []), (.ifCond .lt 8, 1, [1, 3]), (.iload_n 1, 4, []), (.iconst 3, 5, [1, 3]), (.if_icmp .lt 5, 6, [1, 2]), (.iconst (-1), 9, [0, 1]),
  (.ireturn, 10, [0]), (.aload_n 0, 11, []), (.getfield 46, 12, [12, 7, 2, 3, 45]), (.iload_n 1, 15, []), (.aaload, 16, [25]), (.aload_n 0, 17, []),
  (.getfield 33, 18, [12, 5, 2, 3, 43]), (.invokevirtual 383, 21, [1, 1, 1, 0, 3, 1, 0, 0, 6, 101]), (.aload_n 0, 24, []), (.getfield 33, 25, [12, 5, 2, 3, 43]), (.invokevirtual 386, 28, [1, 77, 0, 1, 3, 7, 0, 0, 6, 106]), (.ireturn, 31, [0])
  ]
noncomputable def k_PT_back : List Ent := [
  (.iload_n 1, 0, []), (.ifCond .lt 20, 1, [1, 9]), (.iload_n 1, 4, []), (.iconst 3, 5, [1, 3]), (.if_icmp .ge 15, 6, [1, 6]), (.aload_n 0, 9, []),
  (.getfield 46, 10, [12, 7, 2, 3, 45]), (.iload_n 1, 13, []), (.aaload, 14, [25]), (.getfield 110, 15, [1, 0, 0, 2, 87]), (.ifCond .ne 5, 18, [1, 2]), (.iconst (-1), 21, [0, 1]),
  (.ireturn, 22, [0]), (.aload_n 0, 23, []), (.getfield 46, 24, [12, 7, 2, 3, 45]), (.iload_n 1, 27, []), (.aaload, 28, [25]), (.aload_n 0, 29, []),
  (.getfield 33, 30, [12, 5, 2, 3, 43]), (.invokevirtual 389, 33, [1, 2, 1, 0, 3, 1, 0, 0, 6, 116]), (.aload_n 0, 36, []), (.getfield 40, 37, [12, 6, 2, 3, 44]), (.invokevirtual 107, 40, [1, 37, 0, 0, 1, 4, 0, 0, 3, 29]), (.aload_n 0, 43, []),
  (.getfield 33, 44, [12, 5, 2, 3, 43]), (.invokevirtual 386, 47, [1, 77, 0, 1, 3, 7, 0, 0, 6, 106]), (.ireturn, 50, [0])
  ]
noncomputable def k_PT_about : List Ent := [
  (.iload_n 1, 0, []), (.tableswitch 185 0 13 #[71, 79, 87, 95, 103, 111, 119, 127, 143, 151, 159, 164, 172, 177], 1, [58, 0, 4, 8, 12, 16, 20, 24, 28, 36, 40, 44, 47, 51, 54]), (.aload_n 0, 72, []), (.getfield 16, 73, [12, 2, 2, 3, 40]), (.getfield 101, 76, [5, 1, 0, 1, 95]), (.ireturn, 79, [0]),
  (.aload_n 0, 80, []), (.getfield 16, 81, [12, 2, 2, 3, 40]), (.getfield 141, 84, [5, 0, 0, 1, 91]), (.ireturn, 87, [0]), (.aload_n 0, 88, []), (.getfield 16, 89, [12, 2, 2, 3, 40]),
  (.invokevirtual 137, 92, [1, 44, 0, 1, 1, 5, 0, 0, 4, 132]), (.ireturn, 95, [0]), (.aload_n 0, 96, []), (.getfield 16, 97, [12, 2, 2, 3, 40]), (.getfield 392, 100, [5, 2, 0, 1, 98]), (.ireturn, 103, [0]),
  (.aload_n 0, 104, []), (.getfield 33, 105, [12, 5, 2, 3, 43]), (.invokevirtual 386, 108, [1, 77, 0, 1, 3, 7, 0, 0, 6, 106]), (.ireturn, 111, [0]), (.aload_n 0, 112, []), (.getfield 33, 113, [12, 5, 2, 3, 43]),
  (.getfield 188, 116, [7, 1, 0, 2, 30]), (.ireturn, 119, [0]), (.aload_n 0, 120, []), (.getfield 40, 121, [12, 6, 2, 3, 44]), (.getfield 395, 124, [4, 1, 0, 2, 56]), (.ireturn, 127, [0]),
  (.aload_n 0, 128, []), (.getfield 40, 129, [12, 6, 2, 3, 44]), (.getfield 398, 132, [4, 0, 0, 2, 54]), (.aload_n 0, 135, []), (.getfield 40, 136, [12, 6, 2, 3, 44]), (.getfield 395, 139, [4, 1, 0, 2, 56]),
  (.isub, 142, []), (.ireturn, 143, [0]), (.aload_n 0, 144, []), (.getfield 54, 145, [12, 8, 2, 3, 46]), (.getfield 401, 148, [9, 1, 0, 2, 108]), (.ireturn, 151, [0]),
  (.aload_n 0, 152, []), (.getfield 54, 153, [12, 8, 2, 3, 46]), (.getfield 369, 156, [9, 0, 0, 2, 106]), (.ireturn, 159, [0]), (.aload_n 0, 160, []), (.getfield 89, 161, [12, 1, 0, 3, 39]),
  (.ireturn, 164, [0]), (.aload_n 0, 165, []), (.getfield 16, 166, [12, 2, 2, 3, 40]), (.getfield 404, 169, [5, 5, 0, 1, 107]), (.ireturn, 172, [0]), (.aload_n 0, 173, []),
  (.getfield 121, 174, [12, 14, 0, 3, 52]), (.ireturn, 177, [0]), (.aload_n 0, 178, []), (.getfield 16, 179, [12, 2, 2, 3, 40]), (.getfield 221, 182, [5, 3, 0, 1, 101]), (.ireturn, 185, [0]),
  (.iconst (-1), 186, [0, 1]), (.ireturn, 187, [0])
  ]
noncomputable def k_Mo_init : List Ent := [
  (.aload_n 0, 0, []), (.invokespecial 1, 1, [3, 6, 129]), (.aload_n 0, 4, []), (.sipush 1600, 5, [1, 1600]), (.newarray .int, 8, [20, 1, 54]), (.putfield 7, 10, [13, 0, 2, 6, 130]),
  (.aload_n 0, 13, []), (.iconst (-1), 14, [0, 1]), (.putfield 13, 15, [13, 8, 0, 6, 138]), (.nop, 18, [10, 1]), (.aload_n 0, 18, []), (.iconst (-1), 19, [0, 1]),
  (.putfield 17, 20, [13, 10, 0, 6, 140]), (.aload_n 0, 23, []), (.iconst 2, 24, [1, 2]), (.newarray .int, 25, [20, 1, 54]), (.putfield 20, 27, [13, 12, 2, 6, 142]), (.aload_n 0, 30, []),
  (.iconst 2, 31, [1, 2]), (.newarray .int, 32, [20, 1, 54]), (.putfield 23, 34, [13, 13, 2, 6, 143]), (.nop, 37, [22, 1]), (.aload_n 0, 37, []), (.iconst 2, 38, [1, 2]),
  (.newarray .int, 39, [20, 1, 54]), (.putfield 26, 41, [13, 14, 2, 6, 144]), (.aload_n 0, 44, []), (.iconst 2, 45, [1, 2]), (.newarray .int, 46, [20, 1, 54]), (.putfield 29, 48, [13, 15, 2, 6, 145]),
  (.nop, 51, [31, 1]), (.aload_n 0, 51, []), (.iconst 2, 52, [1, 2]), (.newarray .int, 53, [20, 1, 54]), (.putfield 32, 55, [13, 16, 2, 6, 146]), (.aload_n 0, 58, []),
  (.iconst 2, 59, [1, 2]), (.newarray .int, 60, [20, 1, 54]), (.putfield 35, 62, [13, 17, 2, 6, 147]), (.nop, 65, [40, 1]), (.aload_n 0, 65, []), (.bipush 10, 66, [1, 10]),
  (.newarray .long, 68, [22, 1, 79]), (.putfield 38, 70, [13, 18, 2, 6, 148]), (.aload_n 0, 73, []), (.bipush 10, 74, [1, 10]), (.newarray .int, 76, [20, 1, 54]), (.putfield 42, 78, [13, 19, 2, 6, 149]),
  (.nop, 81, [49, 1]), (.aload_n 0, 81, []), (.bipush 10, 82, [1, 10]), (.newarray .int, 84, [20, 1, 54]), (.putfield 45, 86, [13, 20, 2, 6, 150]), (.aload_n 0, 89, []),
  (.bipush 10, 90, [1, 10]), (.newarray .int, 92, [20, 1, 54]), (.putfield 48, 94, [13, 21, 2, 6, 151]), (.nop, 97, [58, 1]), (.aload_n 0, 97, []), (.sipush 160, 98, [1, 160]),
  (.newarray .int, 101, [20, 1, 54]), (.putfield 51, 103, [13, 22, 2, 6, 152]), (.aload_n 0, 106, []), (.sipush 520, 107, [1, 520]), (.newarray .int, 110, [20, 1, 54]), (.putfield 54, 112, [13, 23, 2, 6, 153]),
  (.nop, 115, [67, 1]), (.aload_n 0, 115, []), (.sipush 660, 116, [1, 660]), (.newarray .int, 119, [20, 1, 54]), (.putfield 57, 121, [13, 24, 2, 6, 154]), (.aload_n 0, 124, []),
  (.sipush 160, 125, [1, 160]), (.newarray .int, 128, [20, 1, 54]), (.putfield 60, 130, [13, 31, 2, 6, 161]), (.nop, 133, [76, 1]), (.aload_n 0, 133, []), (.bipush 81, 134, [1, 81]),
  (.newarray .int, 136, [20, 1, 54]), (.putfield 63, 138, [13, 34, 2, 6, 164]), (.aload_n 0, 141, []), (.sipush 3240, 142, [1, 3240]), (.newarray .int, 145, [20, 1, 54]), (.putfield 66, 147, [13, 35, 2, 6, 165]),
  (.nop, 150, [85, 1]), (.aload_n 0, 150, []), (.bipush 80, 151, [1, 80]), (.newarray .int, 153, [20, 1, 54]), (.putfield 69, 155, [13, 38, 2, 6, 168]), (.aload_n 0, 158, []),
  (.sipush 640, 159, [1, 640]), (.newarray .int, 162, [20, 1, 54]), (.putfield 72, 164, [13, 39, 2, 6, 169]), (.nop, 167, [94, 1]), (.aload_n 0, 167, []), (.bipush 16, 168, [1, 16]),
  (.newarray .int, 170, [20, 1, 54]), (.putfield 75, 172, [13, 40, 2, 6, 170]), (.aload_n 0, 175, []), (.bipush 16, 176, [1, 16]), (.newarray .int, 178, [20, 1, 54]), (.putfield 78, 180, [13, 41, 2, 6, 171]),
  (.nop, 183, [103, 1]), (.aload_n 0, 183, []), (.sipush 340, 184, [1, 340]), (.newarray .int, 187, [20, 1, 54]), (.putfield 81, 189, [13, 43, 2, 6, 173]), (.aload_n 0, 192, []),
  (.sipush 340, 193, [1, 340]), (.newarray .int, 196, [20, 1, 54]), (.putfield 84, 198, [13, 44, 2, 6, 174]), (.nop, 201, [112, 1]), (.aload_n 0, 201, []), (.sipush 340, 202, [1, 340]),
  (.newarray .int, 205, [20, 1, 54]), (.putfield 87, 207, [13, 45, 2, 6, 175]), (.aload_n 0, 210, []), (.sipush 340, 211, [1, 340]), (.newarray .int, 214, [20, 1, 54]), (.putfield 90, 216, [13, 46, 2, 6, 176]),
  (.nop, 219, [121, 1]), (.aload_n 0, 219, []), (.bipush 64, 220, [1, 64]), (.newarray .int, 222, [20, 1, 54]), (.putfield 93, 224, [13, 48, 2, 6, 178]), (.aload_n 0, 227, []),
  (.bipush 16, 228, [1, 16]), (.newarray .int, 230, [20, 1, 54]), (.putfield 96, 232, [13, 49, 2, 6, 179]), (.nop, 235, [130, 1]), (.aload_n 0, 235, []), (.bipush 30, 236, [1, 30]),
  (.newarray .int, 238, [20, 1, 54]), (.putfield 99, 240, [13, 51, 2, 6, 181]), (.aload_n 0, 243, []), (.bipush 30, 244, [1, 30]), (.newarray .int, 246, [20, 1, 54]), (.putfield 102, 248, [13, 52, 2, 6, 182]),
  (.nop, 251, [139, 1]), (.aload_n 0, 251, []), (.bipush 30, 252, [1, 30]), (.newarray .int, 254, [20, 1, 54]), (.putfield 105, 256, [13, 53, 2, 6, 183]), (.aload_n 0, 259, []),
  (.bipush 30, 260, [1, 30]), (.newarray .int, 262, [20, 1, 54]), (.putfield 108, 264, [13, 54, 2, 6, 184]), (.nop, 267, [148, 1]), (.aload_n 0, 267, []), (.bipush 30, 268, [1, 30]),
  (.newarray .int, 270, [20, 1, 54]), (.putfield 111, 272, [13, 55, 2, 6, 185]), (.aload_n 0, 275, []), (.bipush 30, 276, [1, 30]), (.newarray .int, 278, [20, 1, 54]), (.putfield 114, 280, [13, 56, 2, 6, 186]),
  (.nop, 283, [157, 1]), (.aload_n 0, 283, []), (.bipush 16, 284, [1, 16]), (.newarray .int, 286, [20, 1, 54]), (.putfield 117, 288, [13, 59, 2, 6, 189]), (.aload_n 0, 291, []),
  (.sipush 257, 292, [1, 257]), (.newarray .int, 295, [20, 1, 54]), (.putfield 120, 297, [13, 60, 2, 6, 190]), (.nop, 300, [166, 1]), (.aload_n 0, 300, []), (.sipush 258, 301, [1, 258]),
  (.newarray .int, 304, [20, 1, 54]), (.putfield 123, 306, [13, 61, 2, 6, 191]), (.aload_n 0, 309, []), (.sipush 243, 310, [1, 243]), (.newarray .int, 313, [20, 1, 54]), (.putfield 126, 315, [13, 62, 2, 6, 192]),
  (.nop, 318, [175, 1]), (.aload_n 0, 318, []), (.iconst 3, 319, [1, 3]), (.newarray .boolean, 320, [23, 2, 156]), (.putfield 129, 322, [13, 63, 2, 6, 193]), (.aload_n 0, 325, []),
  (.getfield 20, 326, [13, 12, 2, 6, 142]), (.iconst 0, 329, [1, 0]), (.iconst 3, 330, [1, 3]), (.iastore, 331, []), (.nop, 332, [185, 0]), (.return_, 332, [])
  ]
noncomputable def k_Mo_isIn : List Ent := [
  (.iload_n 0, 0, []), (.iload_n 1, 1, []), (.if_icmp .lt 12, 2, [1, 5]), (.iload_n 0, 5, []), (.iload_n 2, 6, []), (.if_icmp .gt 7, 7, [1, 2]),
  (.iconst 1, 10, [1, 1]), (.goto 4, 11, [1, 1]), (.iconst 0, 14, [1, 0]), (.ireturn, 15, [1])
  ]
noncomputable def k_Mo_isOf : List Ent := [
  (.iload_n 0, 0, []), (.iload_n 1, 1, []), (.ishr, 2, []), (.iconst 1, 3, [1, 1]), (.iand, 4, []), (.iconst 1, 5, [1, 1]),
  (.if_icmp .ne 7, 6, [1, 2]), (.iconst 1, 9, [1, 1]), (.goto 4, 10, [1, 1]), (.iconst 0, 13, [1, 0]), (.ireturn, 14, [1])
  ]
noncomputable def k_Mo_bitsIn : List Ent := [
  (.iconst 0, 0, [1, 0]), (.istore_n 1, 1, []), (.iload_n 0, 2, []), (.istore_n 2, 3, []), (.nop, 4, [5, 0, 1, 1]), (.iload_n 2, 4, []),
  (.ifCond .eq 15, 5, [1, 8]), (.iinc 1 1, 8, [1, 1]), (.iload_n 2, 11, []), (.iload_n 2, 12, []), (.iconst 1, 13, [1, 1]), (.isub, 14, []),
  (.iand, 15, []), (.istore_n 2, 16, []), (.goto (-13), 17, [0, 5, 0, 1, 1]), (.iload_n 1, 20, []), (.ireturn, 21, [0])
  ]
noncomputable def k_Mo_feed : List Ent := [
  (.aload_n 0, 0, []), (.getfield 133, 1, [13, 1, 0, 6, 131]), (.bipush 20, 4, [1, 20]), (.iadd, 6, []), (.sipush 1600, 7, [1, 1600]), (.if_icmp .le 5, 10, [1, 2]),
  (.iconst (-1), 13, [0, 1]), (.ireturn, 14, [0]), (.aload_n 0, 15, []), (.iload_n 1, 16, []), (.invokevirtual 136, 17, [1, 199, 1, 0, 3, 13, 0, 0, 7, 87]), (.aload_n 0, 20, []),
  (.iload_n 2, 21, []), (.invokevirtual 136, 22, [1, 199, 1, 0, 3, 13, 0, 0, 7, 87]), (.aload_n 0, 25, []), (.iload_n 3, 26, []), (.invokevirtual 136, 27, [1, 199, 1, 0, 3, 13, 0, 0, 7, 87]), (.aload_n 0, 30, []),
  (.iload 4, 31, []), (.invokevirtual 136, 33, [1, 199, 1, 0, 3, 13, 0, 0, 7, 87]), (.aload_n 0, 36, []), (.iload 5, 37, []), (.invokevirtual 136, 39, [1, 199, 1, 0, 3, 13, 0, 0, 7, 87]), (.aload_n 0, 42, []),
  (.getfield 133, 43, [13, 1, 0, 6, 131]), (.ireturn, 46, [0])
  ]
noncomputable def k_Mo_four : List Ent := [
  (.bipush 24, 0, [1, 24]), (.istore_n 2, 2, []), (.nop, 3, [3, 1, 1, 1]), (.iload_n 2, 3, []), (.ifCond .lt 35, 4, [1, 18]), (.aload_n 0, 7, []),
  (.getfield 7, 8, [13, 0, 2, 6, 130]), (.aload_n 0, 11, []), (.getfield 133, 12, [13, 1, 0, 6, 131]), (.iload_n 1, 15, []), (.iload_n 2, 16, []), (.ishr, 17, []),
  (.sipush 255, 18, [1, 255]), (.iand, 21, []), (.iastore, 22, []), (.aload_n 0, 23, []), (.dup, 24, []), (.getfield 133, 25, [13, 1, 0, 6, 131]),
  (.iconst 1, 28, [1, 1]), (.iadd, 29, []), (.putfield 133, 30, [13, 1, 0, 6, 131]), (.iinc 2 (-8), 33, [0, 8]), (.goto (-33), 36, [0, 3, 1, 1, 1]), (.return_, 39, [])
  ]
noncomputable def k_Mo_end : List Ent := [
  (.iload_n 1, 0, []), (.iconst 0, 1, [1, 0]), (.aload_n 0, 2, []), (.getfield 133, 3, [13, 1, 0, 6, 131]), (.invokestatic 140, 6, [0, 195, 3, 1, 3, 0, 0, 0, 7, 95]), (.ifCond .ne 5, 9, [1, 2]),
  (.iconst (-1), 12, [0, 1]), (.ireturn, 13, [0]), (.aload_n 0, 14, []), (.iload_n 1, 15, []), (.putfield 133, 16, [13, 1, 0, 6, 131]), (.iload_n 1, 19, []),
  (.ireturn, 20, [0])
  ]
noncomputable def k_Mo_here : List Ent := [
  (.aload_n 0, 0, []), (.getfield 144, 1, [13, 3, 0, 6, 133]), (.iload_n 1, 4, []), (.iadd, 5, []), (.aload_n 0, 6, []), (.getfield 147, 7, [13, 2, 0, 6, 132]),
  (.if_icmp .ge 17, 10, [1, 8]), (.aload_n 0, 13, []), (.getfield 7, 14, [13, 0, 2, 6, 130]), (.aload_n 0, 17, []), (.getfield 144, 18, [13, 3, 0, 6, 133]), (.iload_n 1, 21, []),
  (.iadd, 22, []), (.iaload, 23, [20]), (.goto 4, 24, [1, 1]), (.iconst (-1), 27, [0, 1]), (.ireturn, 28, [0])
  ]
noncomputable def k_Mo_isLetter : List Ent := [
  (.iload_n 0, 0, []), (.bipush 97, 1, [1, 97]), (.if_icmp .lt 13, 3, [1, 5]), (.iload_n 0, 6, []), (.bipush 122, 7, [1, 122]), (.if_icmp .gt 7, 9, [1, 2]),
  (.iconst 1, 12, [1, 1]), (.goto 4, 13, [1, 1]), (.iconst 0, 16, [1, 0]), (.ireturn, 17, [1])
  ]
noncomputable def k_Mo_isDigit : List Ent := [
  (.iload_n 0, 0, []), (.bipush 48, 1, [1, 48]), (.if_icmp .lt 13, 3, [1, 5]), (.iload_n 0, 6, []), (.bipush 57, 7, [1, 57]), (.if_icmp .gt 7, 9, [1, 2]),
  (.iconst 1, 12, [1, 1]), (.goto 4, 13, [1, 1]), (.iconst 0, 16, [1, 0]), (.ireturn, 17, [1])
  ]
noncomputable def k_Mo_isSign : List Ent := [
  (.iload_n 0, 0, []), (.bipush 59, 1, [1, 59]), (.if_icmp .eq 63, 3, [1, 30]), (.iload_n 0, 6, []), (.bipush 40, 7, [1, 40]), (.if_icmp .eq 57, 9, [1, 27]),
  (.iload_n 0, 12, []), (.bipush 41, 13, [1, 41]), (.if_icmp .eq 51, 15, [1, 24]), (.iload_n 0, 18, []), (.bipush 60, 19, [1, 60]), (.if_icmp .eq 45, 21, [1, 21]),
  (.iload_n 0, 24, []), (.bipush 62, 25, [1, 62]), (.if_icmp .eq 39, 27, [1, 18]), (.iload_n 0, 30, []), (.bipush 61, 31, [1, 61]), (.if_icmp .eq 33, 33, [1, 15]),
  (.iload_n 0, 36, []), (.bipush 43, 37, [1, 43]), (.if_icmp .eq 27, 39, [1, 12]), (.iload_n 0, 42, []), (.bipush 45, 43, [1, 45]), (.if_icmp .eq 21, 45, [1, 9]),
  (.iload_n 0, 48, []), (.bipush 42, 49, [1, 42]), (.if_icmp .eq 15, 51, [1, 6]), (.iload_n 0, 54, []), (.bipush 47, 55, [1, 47]), (.if_icmp .eq 9, 57, [1, 3]),
  (.iload_n 0, 60, []), (.bipush 37, 61, [1, 37]), (.if_icmp .ne 7, 63, [1, 3]), (.nop, 66, [34, 0]), (.iconst 1, 66, [1, 1]), (.goto 4, 67, [1, 1]),
  (.iconst 0, 70, [1, 0]), (.ireturn, 71, [1])
  ]
noncomputable def k_Mo_goOn : List Ent := [
  (.nop, 0, [1, 1, 0]), (.aload_n 0, 0, []), (.iconst 0, 1, [1, 0]), (.invokevirtual 150, 2, [1, 201, 1, 1, 2, 13, 0, 0, 7, 110]), (.bipush 32, 5, [1, 32]), (.if_icmp .eq 13, 7, [1, 5]),
  (.aload_n 0, 10, []), (.iconst 0, 11, [1, 0]), (.invokevirtual 150, 12, [1, 201, 1, 1, 2, 13, 0, 0, 7, 110]), (.bipush 10, 15, [1, 10]), (.if_icmp .ne 16, 17, [1, 8]), (.nop, 20, [12, 1, 0]),
  (.aload_n 0, 20, []), (.dup, 21, []), (.getfield 144, 22, [13, 3, 0, 6, 133]), (.iconst 1, 25, [1, 1]), (.iadd, 26, []), (.putfield 144, 27, [13, 3, 0, 6, 133]),
  (.goto (-30), 30, [0, 1, 1, 0]), (.aload_n 0, 33, []), (.aload_n 0, 34, []), (.getfield 144, 35, [13, 3, 0, 6, 133]), (.putfield 154, 38, [13, 4, 0, 6, 134]), (.iconst 0, 41, [1, 0]),
  (.istore_n 1, 42, []), (.aload_n 0, 43, []), (.lconst 0, 44, []), (.putfield 157, 45, [13, 11, 1, 6, 141]), (.aload_n 0, 48, []), (.iconst 0, 49, [1, 0]),
  (.putfield 161, 50, [13, 6, 0, 6, 136]), (.aload_n 0, 53, []), (.iconst 0, 54, [1, 0]), (.invokevirtual 150, 55, [1, 201, 1, 1, 2, 13, 0, 0, 7, 110]), (.ifCond .ge 9, 58, [1, 4]), (.aload_n 0, 61, []),
  (.iconst 0, 62, [1, 0]), (.putfield 164, 63, [13, 5, 0, 6, 135]), (.return_, 66, []), (.aload_n 0, 67, []), (.iconst 0, 68, [1, 0]), (.invokevirtual 150, 69, [1, 201, 1, 1, 2, 13, 0, 0, 7, 110]),
  (.invokestatic 167, 72, [0, 202, 1, 1, 1, 0, 0, 0, 7, 114]), (.ifCond .eq 62, 75, [1, 33]), (.nop, 78, [45, 1, 1]), (.aload_n 0, 78, []), (.iload_n 1, 79, []), (.invokevirtual 150, 80, [1, 201, 1, 1, 2, 13, 0, 0, 7, 110]),
  (.invokestatic 167, 83, [0, 202, 1, 1, 1, 0, 0, 0, 7, 114]), (.ifCond .eq 33, 86, [1, 17]), (.iload_n 1, 89, []), (.bipush 8, 90, [1, 8]), (.if_icmp .ge 21, 92, [1, 11]), (.aload_n 0, 95, []),
  (.aload_n 0, 96, []), (.getfield 157, 97, [13, 11, 1, 6, 141]), (.bipush 8, 100, [1, 8]), (.lshl, 102, []), (.aload_n 0, 103, []), (.iload_n 1, 104, []),
  (.invokevirtual 150, 105, [1, 201, 1, 1, 2, 13, 0, 0, 7, 110]), (.i2l, 108, []), (.lor, 109, []), (.putfield 157, 110, [13, 11, 1, 6, 141]), (.nop, 113, [65, 1, 1]), (.iinc 1 1, 113, [1, 1]),
  (.goto (-38), 116, [0, 45, 1, 1]), (.aload_n 0, 119, []), (.iload_n 1, 120, []), (.bipush 8, 121, [1, 8]), (.if_icmp .le 7, 123, [1, 2]), (.iconst 3, 126, [1, 3]),
  (.goto 4, 127, [1, 1]), (.iconst 1, 130, [1, 1]), (.nop, 131, [75, 1, 1]), (.putfield 164, 131, [13, 5, 0, 6, 135]), (.goto 110, 134, [1, 60]), (.aload_n 0, 137, []),
  (.iconst 0, 138, [1, 0]), (.invokevirtual 150, 139, [1, 201, 1, 1, 2, 13, 0, 0, 7, 110]), (.invokestatic 171, 142, [0, 203, 1, 1, 1, 0, 0, 0, 7, 117]), (.ifCond .eq 73, 145, [1, 40]), (.nop, 148, [83, 1, 1]), (.aload_n 0, 148, []),
  (.iload_n 1, 149, []), (.invokevirtual 150, 150, [1, 201, 1, 1, 2, 13, 0, 0, 7, 110]), (.invokestatic 171, 153, [0, 203, 1, 1, 1, 0, 0, 0, 7, 117]), (.ifCond .eq 34, 156, [1, 18]), (.iload_n 1, 159, []), (.iconst 4, 160, [1, 4]),
  (.if_icmp .ge 23, 161, [1, 12]), (.aload_n 0, 164, []), (.bipush 10, 165, [1, 10]), (.aload_n 0, 167, []), (.getfield 161, 168, [13, 6, 0, 6, 136]), (.imul, 171, []),
  (.aload_n 0, 172, []), (.iload_n 1, 173, []), (.invokevirtual 150, 174, [1, 201, 1, 1, 2, 13, 0, 0, 7, 110]), (.iadd, 177, []), (.bipush 48, 178, [1, 48]), (.isub, 180, []),
  (.putfield 161, 181, [13, 6, 0, 6, 136]), (.nop, 184, [104, 1, 1]), (.iinc 1 1, 184, [1, 1]), (.goto (-39), 187, [0, 83, 1, 1]), (.aload_n 0, 190, []), (.iload_n 1, 191, []),
  (.iconst 4, 192, [1, 4]), (.if_icmp .gt 14, 193, [1, 5]), (.aload_n 0, 196, []), (.iload_n 1, 197, []), (.invokevirtual 150, 198, [1, 201, 1, 1, 2, 13, 0, 0, 7, 110]), (.invokestatic 167, 201, [0, 202, 1, 1, 1, 0, 0, 0, 7, 114]),
  (.ifCond .eq 7, 204, [1, 3]), (.nop, 207, [116, 1, 1]), (.iconst 3, 207, [1, 3]), (.goto 4, 208, [1, 1]), (.iconst 2, 211, [1, 2]), (.nop, 212, [120, 1, 1]),
  (.putfield 164, 212, [13, 5, 0, 6, 135]), (.goto 29, 215, [1, 15]), (.aload_n 0, 218, []), (.aload_n 0, 219, []), (.iconst 0, 220, [1, 0]), (.invokevirtual 150, 221, [1, 201, 1, 1, 2, 13, 0, 0, 7, 110]),
  (.invokestatic 174, 224, [0, 204, 1, 1, 1, 0, 0, 0, 7, 120]), (.ifCond .eq 11, 227, [1, 4]), (.aload_n 0, 230, []), (.iconst 0, 231, [1, 0]), (.invokevirtual 150, 232, [1, 201, 1, 1, 2, 13, 0, 0, 7, 110]), (.goto 4, 235, [1, 1]),
  (.iconst 3, 238, [1, 3]), (.nop, 239, [134, 1, 0]), (.putfield 164, 239, [13, 5, 0, 6, 135]), (.iconst 1, 242, [1, 1]), (.istore_n 1, 243, []), (.nop, 244, [138, 1, 1]),
  (.aload_n 0, 244, []), (.dup, 245, []), (.getfield 144, 246, [13, 3, 0, 6, 133]), (.iload_n 1, 249, []), (.iadd, 250, []), (.putfield 144, 251, [13, 3, 0, 6, 133]),
  (.return_, 254, [])
  ]
noncomputable def k_Mo_wrong : List Ent := [
  (.aload_n 0, 0, []), (.getfield 177, 1, [13, 7, 0, 6, 137]), (.ifCond .le 4, 4, [1, 1]), (.return_, 7, []), (.aload_n 0, 8, []), (.aload_n 0, 9, []),
  (.getfield 164, 10, [13, 5, 0, 6, 135]), (.iconst 3, 13, [1, 3]), (.if_icmp .ne 7, 14, [1, 2]), (.iconst 1, 17, [1, 1]), (.goto 4, 18, [1, 1]), (.iload_n 1, 21, []),
  (.nop, 22, [13, 1, 0]), (.putfield 177, 22, [13, 7, 0, 6, 137]), (.aload_n 0, 25, []), (.aload_n 0, 26, []), (.getfield 154, 27, [13, 4, 0, 6, 134]), (.putfield 13, 30, [13, 8, 0, 6, 138]),
  (.return_, 33, [])
  ]
noncomputable def k_Mo_isGood : List Ent := [
  (.aload_n 0, 0, []), (.getfield 177, 1, [13, 7, 0, 6, 137]), (.ifCond .ne 7, 4, [1, 2]), (.iconst 1, 7, [1, 1]), (.goto 4, 8, [1, 1]), (.iconst 0, 11, [1, 0]),
  (.ireturn, 12, [1])
  ]
noncomputable def k_Mo_isWord : List Ent := [
  (.aload_n 0, 0, []), (.getfield 177, 1, [13, 7, 0, 6, 137]), (.ifCond .ne 24, 4, [1, 11]), (.aload_n 0, 7, []), (.getfield 164, 8, [13, 5, 0, 6, 135]), (.iconst 1, 11, [1, 1]),
  (.if_icmp .ne 16, 12, [1, 7]), (.aload_n 0, 15, []), (.getfield 157, 16, [13, 11, 1, 6, 141]), (.lload_n 1, 19, []), (.lcmp, 20, []), (.ifCond .ne 7, 21, [1, 2]),
  (.iconst 1, 24, [1, 1]), (.goto 4, 25, [1, 1]), (.iconst 0, 28, [1, 0]), (.ireturn, 29, [1])
  ]
noncomputable def k_Mo_isOwn : List Ent := [
  (.aload_n 0, 0, []), (.getfield 157, 1, [13, 11, 1, 6, 141]), (.ldc2_w 180, 4, [119183033855091, 7, 131]), (.lcmp, 7, []), (.ifCond .eq 58, 8, [1, 25]), (.aload_n 0, 11, []),
  (.getfield 157, 12, [13, 11, 1, 6, 141]), (.ldc2_w 182, 15, [7497068, 7, 144]), (.lcmp, 18, []), (.ifCond .eq 47, 19, [1, 20]), (.aload_n 0, 22, []), (.getfield 157, 23, [13, 11, 1, 6, 141]),
  (.ldc2_w 184, 26, [6840691, 7, 153]), (.lcmp, 29, []), (.ifCond .eq 36, 30, [1, 15]), (.aload_n 0, 33, []), (.getfield 157, 34, [13, 11, 1, 6, 141]), (.ldc2_w 186, 37, [26995, 7, 154]),
  (.lcmp, 40, []), (.ifCond .eq 25, 41, [1, 10]), (.aload_n 0, 44, []), (.getfield 157, 45, [13, 11, 1, 6, 141]), (.ldc2_w 188, 48, [1801807216, 7, 155]), (.lcmp, 51, []),
  (.ifCond .eq 14, 52, [1, 5]), (.aload_n 0, 55, []), (.getfield 157, 56, [13, 11, 1, 6, 141]), (.ldc2_w 190, 59, [431416239732, 7, 156]), (.lcmp, 62, []), (.ifCond .ne 5, 63, [1, 2]),
  (.iconst 1, 66, [1, 1]), (.ireturn, 67, [1]), (.aload_n 0, 68, []), (.getfield 157, 69, [13, 11, 1, 6, 141]), (.ldc2_w 192, 72, [1685217655, 7, 157]), (.lcmp, 75, []),
  (.ifCond .eq 58, 76, [1, 25]), (.aload_n 0, 79, []), (.getfield 157, 80, [13, 11, 1, 6, 141]), (.ldc2_w 194, 83, [28530, 7, 158]), (.lcmp, 86, []), (.ifCond .eq 47, 87, [1, 20]),
  (.aload_n 0, 90, []), (.getfield 157, 91, [13, 11, 1, 6, 141]), (.ldc2_w 196, 94, [1818588019, 7, 159]), (.lcmp, 97, []), (.ifCond .eq 36, 98, [1, 15]), (.aload_n 0, 101, []),
  (.getfield 157, 102, [13, 11, 1, 6, 141]), (.ldc2_w 198, 105, [6385252, 7, 160]), (.lcmp, 108, []), (.ifCond .eq 25, 109, [1, 10]), (.aload_n 0, 112, []), (.getfield 157, 113, [13, 11, 1, 6, 141]),
  (.ldc2_w 200, 116, [1952998766, 7, 161]), (.lcmp, 119, []), (.ifCond .eq 14, 120, [1, 5]), (.aload_n 0, 123, []), (.getfield 157, 124, [13, 11, 1, 6, 141]), (.ldc2_w 202, 127, [1650549611, 7, 162]),
  (.lcmp, 130, []), (.ifCond .ne 5, 131, [1, 2]), (.iconst 1, 134, [1, 1]), (.ireturn, 135, [1]), (.aload_n 0, 136, []), (.getfield 157, 137, [13, 11, 1, 6, 141]),
  (.ldc2_w 204, 140, [1935764837, 7, 163]), (.lcmp, 143, []), (.ifCond .eq 58, 144, [1, 25]), (.aload_n 0, 147, []), (.getfield 157, 148, [13, 11, 1, 6, 141]), (.ldc2_w 206, 151, [6384748, 7, 164]),
  (.lcmp, 154, []), (.ifCond .eq 47, 155, [1, 20]), (.aload_n 0, 158, []), (.getfield 157, 159, [13, 11, 1, 6, 141]), (.ldc2_w 208, 162, [7237492, 7, 165]), (.lcmp, 165, []),
  (.ifCond .eq 36, 166, [1, 15]), (.aload_n 0, 169, []), (.getfield 157, 170, [13, 11, 1, 6, 141]), (.ldc2_w 210, 173, [7499639, 7, 166]), (.lcmp, 176, []), (.ifCond .eq 25, 177, [1, 10]),
  (.aload_n 0, 180, []), (.getfield 157, 181, [13, 11, 1, 6, 141]), (.ldc2_w 212, 184, [109330212154734, 7, 167]), (.lcmp, 187, []), (.ifCond .eq 14, 188, [1, 5]), (.aload_n 0, 191, []),
  (.getfield 157, 192, [13, 11, 1, 6, 141]), (.ldc2_w 214, 195, [1835101817, 7, 168]), (.lcmp, 198, []), (.ifCond .ne 7, 199, [1, 3]), (.nop, 202, [95, 0]), (.iconst 1, 202, [1, 1]),
  (.goto 4, 203, [1, 1]), (.iconst 0, 206, [1, 0]), (.ireturn, 207, [1])
  ]
noncomputable def k_Mo_takes : List Ent := [
  (.aload_n 0, 0, []), (.lload_n 1, 1, []), (.invokevirtual 216, 2, [1, 208, 1, 1, 3, 13, 0, 0, 7, 132]), (.ifCond .ne 5, 5, [1, 2]), (.iconst 0, 8, [1, 0]), (.ireturn, 9, [1]),
  (.aload_n 0, 10, []), (.invokevirtual 220, 11, [1, 205, 0, 0, 2, 13, 0, 0, 7, 106]), (.iconst 1, 14, [1, 1]), (.ireturn, 15, [1])
  ]
noncomputable def k_Mo_isMark : List Ent := [
  (.aload_n 0, 0, []), (.getfield 177, 1, [13, 7, 0, 6, 137]), (.ifCond .ne 15, 4, [1, 6]), (.aload_n 0, 7, []), (.getfield 164, 8, [13, 5, 0, 6, 135]), (.iload_n 1, 11, []),
  (.if_icmp .ne 7, 12, [1, 2]), (.iconst 1, 15, [1, 1]), (.goto 4, 16, [1, 1]), (.iconst 0, 19, [1, 0]), (.ireturn, 20, [1])
  ]
noncomputable def k_Mo_needsMark : List Ent := [
  (.aload_n 0, 0, []), (.iload_n 1, 1, []), (.invokevirtual 223, 2, [1, 211, 1, 1, 2, 13, 0, 0, 7, 197]), (.ifCond .ne 8, 5, [1, 3]), (.aload_n 0, 8, []), (.iconst 2, 9, [1, 2]),
  (.invokevirtual 226, 10, [1, 206, 1, 0, 2, 13, 0, 0, 7, 140]), (.nop, 13, [8, 1, 0]), (.aload_n 0, 13, []), (.invokevirtual 229, 14, [1, 207, 0, 1, 1, 13, 0, 0, 7, 123]), (.ifCond .eq 7, 17, [1, 2]), (.aload_n 0, 20, []),
  (.invokevirtual 220, 21, [1, 205, 0, 0, 2, 13, 0, 0, 7, 106]), (.return_, 24, [])
  ]
noncomputable def k_Mo_number : List Ent := [
  (.aload_n 0, 0, []), (.getfield 177, 1, [13, 7, 0, 6, 137]), (.ifCond .le 5, 4, [1, 2]), (.iconst 0, 7, [1, 0]), (.ireturn, 8, [0]), (.aload_n 0, 9, []),
  (.getfield 164, 10, [13, 5, 0, 6, 135]), (.iconst 2, 13, [1, 2]), (.if_icmp .eq 11, 14, [1, 4]), (.aload_n 0, 17, []), (.iconst 2, 18, [1, 2]), (.invokevirtual 226, 19, [1, 206, 1, 0, 2, 13, 0, 0, 7, 140]),
  (.goto 20, 22, [1, 9]), (.aload_n 0, 25, []), (.getfield 161, 26, [13, 6, 0, 6, 136]), (.iload_n 1, 29, []), (.iload_n 2, 30, []), (.invokestatic 140, 31, [0, 195, 3, 1, 3, 0, 0, 0, 7, 95]),
  (.ifCond .ne 8, 34, [1, 3]), (.aload_n 0, 37, []), (.iconst 4, 38, [1, 4]), (.invokevirtual 226, 39, [1, 206, 1, 0, 2, 13, 0, 0, 7, 140]), (.nop, 42, [23, 1, 0, 0, 0]), (.aload_n 0, 42, []),
  (.getfield 161, 43, [13, 6, 0, 6, 136]), (.istore_n 3, 46, []), (.aload_n 0, 47, []), (.invokevirtual 229, 48, [1, 207, 0, 1, 1, 13, 0, 0, 7, 123]), (.ifCond .eq 7, 51, [1, 2]), (.aload_n 0, 54, []),
  (.invokevirtual 220, 55, [1, 205, 0, 0, 2, 13, 0, 0, 7, 106]), (.iload_n 3, 58, []), (.ireturn, 59, [0])
  ]
noncomputable def k_Mo_sizeOf : List Ent := [
  (.iconst 1, 0, [1, 1]), (.aload_n 0, 1, []), (.getfield 20, 2, [13, 12, 2, 6, 142]), (.iload_n 1, 5, []), (.iaload, 6, [20]), (.ishl, 7, []),
  (.ireturn, 8, [0])
  ]
noncomputable def k_Mo_relNamed : List Ent := [
  (.iconst 0, 0, [1, 0]), (.istore_n 3, 1, []), (.nop, 2, [3, 1, 1, 0, 1]), (.iload_n 3, 2, []), (.aload_n 0, 3, []), (.getfield 23, 4, [13, 13, 2, 6, 143]),
  (.iconst 1, 7, [1, 1]), (.iaload, 8, [20]), (.if_icmp .ge 24, 9, [1, 13]), (.aload_n 0, 12, []), (.getfield 38, 13, [13, 18, 2, 6, 148]), (.iconst 5, 16, [1, 5]),
  (.iload_n 3, 17, []), (.iadd, 18, []), (.laload, 19, []), (.lload_n 1, 20, []), (.lcmp, 21, []), (.ifCond .ne 5, 22, [1, 2]),
  (.iload_n 3, 25, []), (.ireturn, 26, [0]), (.iinc 3 1, 27, [1, 1]), (.goto (-28), 30, [0, 3, 1, 1, 0, 1]), (.iconst (-1), 33, [0, 1]), (.ireturn, 34, [0])
  ]
noncomputable def k_Mo_lays1 : List Ent := [
  (.aload_n 0, 0, []), (.getfield 177, 1, [13, 7, 0, 6, 137]), (.ifCond .le 4, 4, [1, 1]), (.return_, 7, []), (.aload_n 0, 8, []), (.getfield 54, 9, [13, 23, 2, 6, 153]),
  (.sipush 260, 12, [1, 260]), (.aload_n 0, 15, []), (.getfield 233, 16, [13, 25, 0, 6, 155]), (.iadd, 19, []), (.iload_n 1, 20, []), (.iastore, 21, []),
  (.aload_n 0, 22, []), (.dup, 23, []), (.getfield 233, 24, [13, 25, 0, 6, 155]), (.iconst 1, 27, [1, 1]), (.iadd, 28, []), (.putfield 233, 29, [13, 25, 0, 6, 155]),
  (.return_, 32, [])
  ]
noncomputable def k_Mo_openUp : List Ent := [
  (.aload_n 0, 0, []), (.getfield 60, 1, [13, 31, 2, 6, 161]), (.aload_n 0, 4, []), (.getfield 236, 5, [13, 32, 0, 6, 162]), (.iload_n 1, 8, []), (.iastore, 9, []),
  (.aload_n 0, 10, []), (.dup, 11, []), (.getfield 236, 12, [13, 32, 0, 6, 162]), (.iconst 1, 15, [1, 1]), (.iadd, 16, []), (.putfield 236, 17, [13, 32, 0, 6, 162]),
  (.aload_n 0, 20, []), (.dup, 21, []), (.getfield 239, 22, [13, 33, 0, 6, 163]), (.iconst 1, 25, [1, 1]), (.iadd, 26, []), (.putfield 239, 27, [13, 33, 0, 6, 163]),
  (.aload_n 0, 30, []), (.invokevirtual 220, 31, [1, 205, 0, 0, 2, 13, 0, 0, 7, 106]), (.return_, 34, [])
  ]
noncomputable def k_Mo_tightOf : List Ent := [
  (.iload_n 0, 0, []), (.bipush 40, 1, [1, 40]), (.if_icmp .ne 7, 3, [1, 2]), (.iconst 0, 6, [1, 0]), (.goto 20, 7, [1, 10]), (.iload_n 0, 10, []),
  (.bipush 20, 11, [1, 20]), (.if_icmp .eq 9, 13, [1, 3]), (.iload_n 0, 16, []), (.bipush 21, 17, [1, 21]), (.if_icmp .ne 7, 19, [1, 3]), (.nop, 22, [12, 0]),
  (.iconst 1, 22, [1, 1]), (.goto 4, 23, [1, 1]), (.iconst 2, 26, [1, 2]), (.ireturn, 27, [0])
  ]
noncomputable def k_Mo_closesTo : List Ent := [
  (.nop, 0, [1, 1, 1]), (.aload_n 0, 0, []), (.getfield 236, 1, [13, 32, 0, 6, 162]), (.ifCond .le 47, 4, [1, 24]), (.aload_n 0, 7, []), (.getfield 60, 8, [13, 31, 2, 6, 161]),
  (.aload_n 0, 11, []), (.getfield 236, 12, [13, 32, 0, 6, 162]), (.iconst 1, 15, [1, 1]), (.isub, 16, []), (.iaload, 17, [20]), (.invokestatic 242, 18, [0, 218, 1, 1, 1, 0, 0, 0, 7, 217]),
  (.iload_n 1, 21, []), (.if_icmp .lt 29, 22, [1, 14]), (.aload_n 0, 25, []), (.dup, 26, []), (.getfield 236, 27, [13, 32, 0, 6, 162]), (.iconst 1, 30, [1, 1]),
  (.isub, 31, []), (.putfield 236, 32, [13, 32, 0, 6, 162]), (.aload_n 0, 35, []), (.aload_n 0, 36, []), (.getfield 60, 37, [13, 31, 2, 6, 161]), (.aload_n 0, 40, []),
  (.getfield 236, 41, [13, 32, 0, 6, 162]), (.iaload, 44, [20]), (.invokevirtual 245, 45, [1, 216, 1, 0, 2, 13, 0, 0, 7, 205]), (.goto (-48), 48, [0, 1, 1, 1]), (.return_, 51, [])
  ]
noncomputable def k_Mo_turnsDone : List Ent := [
  (.nop, 0, [1, 1]), (.aload_n 0, 0, []), (.getfield 236, 1, [13, 32, 0, 6, 162]), (.ifCond .le 48, 4, [1, 25]), (.aload_n 0, 7, []), (.getfield 60, 8, [13, 31, 2, 6, 161]),
  (.aload_n 0, 11, []), (.getfield 236, 12, [13, 32, 0, 6, 162]), (.iconst 1, 15, [1, 1]), (.isub, 16, []), (.iaload, 17, [20]), (.bipush 24, 18, [1, 24]),
  (.if_icmp .ne 32, 20, [1, 16]), (.aload_n 0, 23, []), (.dup, 24, []), (.getfield 236, 25, [13, 32, 0, 6, 162]), (.iconst 1, 28, [1, 1]), (.isub, 29, []),
  (.putfield 236, 30, [13, 32, 0, 6, 162]), (.aload_n 0, 33, []), (.dup, 34, []), (.getfield 239, 35, [13, 33, 0, 6, 163]), (.iconst 1, 38, [1, 1]), (.isub, 39, []),
  (.putfield 239, 40, [13, 33, 0, 6, 163]), (.aload_n 0, 43, []), (.bipush 24, 44, [1, 24]), (.invokevirtual 245, 46, [1, 216, 1, 0, 2, 13, 0, 0, 7, 205]), (.goto (-49), 49, [0, 1, 1]), (.return_, 52, [])
  ]
noncomputable def k_Mo_hasBracket : List Ent := [
  (.iconst 0, 0, [1, 0]), (.istore_n 1, 1, []), (.iconst 0, 2, [1, 0]), (.istore_n 2, 3, []), (.nop, 4, [5, 1, 1, 1]), (.iload_n 2, 4, []),
  (.aload_n 0, 5, []), (.getfield 236, 6, [13, 32, 0, 6, 162]), (.if_icmp .ge 30, 9, [1, 16]), (.iload_n 1, 12, []), (.ifCond .ne 14, 13, [1, 6]), (.aload_n 0, 16, []),
  (.getfield 60, 17, [13, 31, 2, 6, 161]), (.iload_n 2, 20, []), (.iaload, 21, [20]), (.bipush 40, 22, [1, 40]), (.if_icmp .ne 7, 24, [1, 3]), (.nop, 27, [18, 1, 0, 1]),
  (.iconst 1, 27, [1, 1]), (.goto 4, 28, [1, 1]), (.iconst 0, 31, [1, 0]), (.nop, 32, [22, 1, 0, 1]), (.istore_n 1, 32, []), (.iinc 2 1, 33, [1, 1]),
  (.goto (-32), 36, [0, 5, 1, 1, 1]), (.iload_n 1, 39, []), (.ireturn, 40, [1])
  ]
noncomputable def k_Mo_z : List Ent := [
  (.iconst 1, 0, [1, 1]), (.istore_n 1, 1, []), (.nop, 2, [3, 1, 1]), (.iload_n 1, 2, []), (.ifCond .eq 65, 3, [1, 30]), (.aload_n 0, 6, []),
  (.invokevirtual 229, 7, [1, 207, 0, 1, 1, 13, 0, 0, 7, 123]), (.ifCond .eq 58, 10, [1, 27]), (.aload_n 0, 13, []), (.getfield 239, 14, [13, 33, 0, 6, 163]), (.iconst 5, 17, [1, 5]), (.if_icmp .le 8, 18, [1, 3]),
  (.aload_n 0, 21, []), (.iconst 2, 22, [1, 2]), (.invokevirtual 226, 23, [1, 206, 1, 0, 2, 13, 0, 0, 7, 140]), (.nop, 26, [16, 1, 1]), (.aload_n 0, 26, []), (.ldc2_w 202, 27, [1650549611, 7, 162]),
  (.invokevirtual 216, 30, [1, 208, 1, 1, 3, 13, 0, 0, 7, 132]), (.ifCond .eq 12, 33, [1, 4]), (.aload_n 0, 36, []), (.bipush 24, 37, [1, 24]), (.invokevirtual 248, 39, [1, 217, 1, 0, 2, 13, 0, 0, 7, 193]), (.goto (-40), 42, [0, 3, 1, 1]),
  (.aload_n 0, 45, []), (.bipush 40, 46, [1, 40]), (.invokevirtual 223, 48, [1, 211, 1, 1, 2, 13, 0, 0, 7, 197]), (.ifCond .eq 12, 51, [1, 4]), (.aload_n 0, 54, []), (.bipush 40, 55, [1, 40]),
  (.invokevirtual 248, 57, [1, 217, 1, 0, 2, 13, 0, 0, 7, 193]), (.goto (-58), 60, [0, 3, 1, 1]), (.iconst 0, 63, [1, 0]), (.istore_n 1, 64, []), (.goto (-63), 65, [0, 3, 1, 1]), (.nop, 68, [36, 1, 0]),
  (.aload_n 0, 68, []), (.invokevirtual 229, 69, [1, 207, 0, 1, 1, 13, 0, 0, 7, 123]), (.ifCond .eq 7, 72, [1, 2]), (.aload_n 0, 75, []), (.invokevirtual 251, 76, [1, 223, 0, 0, 3, 13, 0, 0, 7, 201]), (.nop, 79, [42, 1, 0]),
  (.aload_n 0, 79, []), (.invokevirtual 229, 80, [1, 207, 0, 1, 1, 13, 0, 0, 7, 123]), (.ifCond .eq 7, 83, [1, 2]), (.aload_n 0, 86, []), (.invokevirtual 254, 87, [1, 220, 0, 0, 1, 13, 0, 0, 7, 209]), (.return_, 90, [])
  ]
noncomputable def k_Mo_leaf : List Ent := [
  (.aload_n 0, 0, []), (.ldc2_w 204, 1, [1935764837, 7, 163]), (.invokevirtual 216, 4, [1, 208, 1, 1, 3, 13, 0, 0, 7, 132]), (.ifCond .eq 8, 7, [1, 2]), (.bipush 10, 10, [1, 10]), (.goto 19, 12, [1, 7]),
  (.aload_n 0, 15, []), (.ldc2_w 206, 16, [6384748, 7, 164]), (.invokevirtual 216, 19, [1, 208, 1, 1, 3, 13, 0, 0, 7, 132]), (.ifCond .eq 8, 22, [1, 2]), (.bipush 11, 25, [1, 11]), (.goto 4, 27, [1, 1]),
  (.iconst (-1), 30, [0, 1]), (.nop, 31, [14, 1, 0, 0]), (.istore_n 1, 31, []), (.aload_n 0, 32, []), (.getfield 164, 33, [13, 5, 0, 6, 135]), (.iconst 1, 36, [1, 1]),
  (.if_icmp .ne 14, 37, [1, 5]), (.aload_n 0, 40, []), (.invokevirtual 257, 41, [1, 209, 0, 1, 1, 13, 0, 0, 7, 149]), (.ifCond .ne 7, 44, [1, 2]), (.iconst 1, 47, [1, 1]), (.goto 4, 48, [1, 2]),
  (.nop, 51, [25, 1, 1, 0]), (.iconst 0, 51, [1, 0]), (.nop, 52, [27, 1, 1, 0]), (.istore_n 2, 52, []), (.iload_n 1, 53, []), (.iconst (-1), 54, [0, 1]),
  (.if_icmp .ne 7, 55, [1, 2]), (.iload_n 2, 58, []), (.ifCond .eq 12, 59, [1, 5]), (.nop, 62, [34, 1, 1, 0]), (.aload_n 0, 62, []), (.getfield 260, 63, [13, 26, 0, 6, 156]),
  (.bipush 30, 66, [1, 30]), (.if_icmp .ne 8, 68, [1, 4]), (.nop, 71, [39, 1, 1, 0]), (.aload_n 0, 71, []), (.iconst 2, 72, [1, 2]), (.invokevirtual 226, 73, [1, 206, 1, 0, 2, 13, 0, 0, 7, 140]),
  (.nop, 76, [43, 1, 1, 0]), (.aload_n 0, 76, []), (.invokevirtual 229, 77, [1, 207, 0, 1, 1, 13, 0, 0, 7, 123]), (.ifCond .eq 17, 80, [1, 8]), (.iload_n 1, 83, []), (.iconst (-1), 84, [0, 1]),
  (.if_icmp .ne 12, 85, [1, 5]), (.aload_n 0, 88, []), (.aload_n 0, 89, []), (.getfield 157, 90, [13, 11, 1, 6, 141]), (.invokevirtual 263, 93, [1, 215, 1, 1, 4, 13, 0, 0, 7, 169]), (.istore_n 1, 96, []),
  (.nop, 97, [55, 1, 1, 0]), (.aload_n 0, 97, []), (.invokevirtual 229, 98, [1, 207, 0, 1, 1, 13, 0, 0, 7, 123]), (.ifCond .eq 13, 101, [1, 6]), (.iload_n 1, 104, []), (.iconst (-1), 105, [0, 1]),
  (.if_icmp .ne 8, 106, [1, 3]), (.aload_n 0, 109, []), (.iconst 5, 110, [1, 5]), (.invokevirtual 226, 111, [1, 206, 1, 0, 2, 13, 0, 0, 7, 140]), (.nop, 114, [65, 1, 1, 0]), (.aload_n 0, 114, []),
  (.getfield 177, 115, [13, 7, 0, 6, 137]), (.ifCond .le 4, 118, [1, 1]), (.return_, 121, []), (.aload_n 0, 122, []), (.dup, 123, []), (.getfield 260, 124, [13, 26, 0, 6, 156]),
  (.iconst 1, 127, [1, 1]), (.iadd, 128, []), (.putfield 260, 129, [13, 26, 0, 6, 156]), (.aload_n 0, 132, []), (.iload_n 1, 133, []), (.invokevirtual 245, 134, [1, 216, 1, 0, 2, 13, 0, 0, 7, 205]),
  (.aload_n 0, 137, []), (.invokevirtual 220, 138, [1, 205, 0, 0, 2, 13, 0, 0, 7, 106]), (.return_, 141, [])
  ]
noncomputable def k_Mo_joinHere : List Ent := [
  (.aload_n 0, 0, []), (.ldc2_w 194, 1, [28530, 7, 158]), (.invokevirtual 216, 4, [1, 208, 1, 1, 3, 13, 0, 0, 7, 132]), (.ifCond .eq 8, 7, [1, 2]), (.bipush 20, 10, [1, 20]), (.goto 49, 12, [1, 19]),
  (.aload_n 0, 15, []), (.ldc2_w 196, 16, [1818588019, 7, 159]), (.invokevirtual 216, 19, [1, 208, 1, 1, 3, 13, 0, 0, 7, 132]), (.ifCond .eq 8, 22, [1, 2]), (.bipush 21, 25, [1, 21]), (.goto 34, 27, [1, 13]),
  (.aload_n 0, 30, []), (.ldc2_w 198, 31, [6385252, 7, 160]), (.invokevirtual 216, 34, [1, 208, 1, 1, 3, 13, 0, 0, 7, 132]), (.ifCond .eq 8, 37, [1, 2]), (.bipush 22, 40, [1, 22]), (.goto 19, 42, [1, 7]),
  (.aload_n 0, 45, []), (.ldc2_w 200, 46, [1952998766, 7, 161]), (.invokevirtual 216, 49, [1, 208, 1, 1, 3, 13, 0, 0, 7, 132]), (.ifCond .eq 8, 52, [1, 2]), (.bipush 23, 55, [1, 23]), (.goto 4, 57, [1, 1]),
  (.iconst (-1), 60, [0, 1]), (.ireturn, 61, [0])
  ]
noncomputable def k_Mo_x : List Ent := [
  (.aload_n 0, 0, []), (.iconst 0, 1, [1, 0]), (.putfield 236, 2, [13, 32, 0, 6, 162]), (.aload_n 0, 5, []), (.iconst 0, 6, [1, 0]), (.putfield 239, 7, [13, 33, 0, 6, 163]),
  (.aload_n 0, 10, []), (.invokevirtual 267, 11, [1, 222, 0, 0, 2, 13, 0, 0, 7, 189]), (.iconst 1, 14, [1, 1]), (.istore_n 1, 15, []), (.nop, 16, [11, 1, 1, 0]), (.iload_n 1, 16, []),
  (.ifCond .eq 116, 17, [1, 62]), (.aload_n 0, 20, []), (.invokevirtual 229, 21, [1, 207, 0, 1, 1, 13, 0, 0, 7, 123]), (.ifCond .eq 109, 24, [1, 59]), (.aload_n 0, 27, []), (.invokevirtual 270, 28, [1, 224, 0, 1, 1, 13, 0, 0, 7, 213]),
  (.istore_n 2, 31, []), (.iload_n 2, 32, []), (.iconst (-1), 33, [0, 1]), (.if_icmp .eq 42, 34, [1, 21]), (.aload_n 0, 37, []), (.iload_n 2, 38, []),
  (.invokestatic 242, 39, [0, 218, 1, 1, 1, 0, 0, 0, 7, 217]), (.invokevirtual 274, 42, [1, 219, 1, 0, 2, 13, 0, 0, 7, 220]), (.aload_n 0, 45, []), (.getfield 60, 46, [13, 31, 2, 6, 161]), (.aload_n 0, 49, []), (.getfield 236, 50, [13, 32, 0, 6, 162]),
  (.iload_n 2, 53, []), (.iastore, 54, []), (.aload_n 0, 55, []), (.dup, 56, []), (.getfield 236, 57, [13, 32, 0, 6, 162]), (.iconst 1, 60, [1, 1]),
  (.iadd, 61, []), (.putfield 236, 62, [13, 32, 0, 6, 162]), (.aload_n 0, 65, []), (.invokevirtual 220, 66, [1, 205, 0, 0, 2, 13, 0, 0, 7, 106]), (.aload_n 0, 69, []), (.invokevirtual 267, 70, [1, 222, 0, 0, 2, 13, 0, 0, 7, 189]),
  (.goto 57, 73, [1, 30]), (.aload_n 0, 76, []), (.bipush 41, 77, [1, 41]), (.invokevirtual 223, 79, [1, 211, 1, 1, 2, 13, 0, 0, 7, 197]), (.ifCond .eq 46, 82, [1, 23]), (.aload_n 0, 85, []),
  (.invokevirtual 277, 86, [1, 221, 0, 1, 3, 13, 0, 0, 7, 224]), (.ifCond .eq 39, 89, [1, 20]), (.aload_n 0, 92, []), (.iconst 1, 93, [1, 1]), (.invokevirtual 274, 94, [1, 219, 1, 0, 2, 13, 0, 0, 7, 220]), (.aload_n 0, 97, []),
  (.dup, 98, []), (.getfield 236, 99, [13, 32, 0, 6, 162]), (.iconst 1, 102, [1, 1]), (.isub, 103, []), (.putfield 236, 104, [13, 32, 0, 6, 162]), (.aload_n 0, 107, []),
  (.dup, 108, []), (.getfield 239, 109, [13, 33, 0, 6, 163]), (.iconst 1, 112, [1, 1]), (.isub, 113, []), (.putfield 239, 114, [13, 33, 0, 6, 163]), (.aload_n 0, 117, []),
  (.invokevirtual 220, 118, [1, 205, 0, 0, 2, 13, 0, 0, 7, 106]), (.aload_n 0, 121, []), (.invokevirtual 254, 122, [1, 220, 0, 0, 1, 13, 0, 0, 7, 209]), (.goto 5, 125, [1, 3]), (.nop, 128, [71, 1, 0, 0]), (.iconst 0, 128, [1, 0]),
  (.istore_n 1, 129, []), (.nop, 130, [74, 1, 1, 0]), (.goto (-114), 130, [0, 11, 1, 1, 0]), (.nop, 133, [76, 1, 0, 0]), (.aload_n 0, 133, []), (.invokevirtual 229, 134, [1, 207, 0, 1, 1, 13, 0, 0, 7, 123]),
  (.ifCond .eq 15, 137, [1, 6]), (.aload_n 0, 140, []), (.invokevirtual 277, 141, [1, 221, 0, 1, 3, 13, 0, 0, 7, 224]), (.ifCond .eq 8, 144, [1, 3]), (.aload_n 0, 147, []), (.iconst 2, 148, [1, 2]),
  (.invokevirtual 226, 149, [1, 206, 1, 0, 2, 13, 0, 0, 7, 140]), (.nop, 152, [86, 1, 0, 0]), (.aload_n 0, 152, []), (.invokevirtual 229, 153, [1, 207, 0, 1, 1, 13, 0, 0, 7, 123]), (.ifCond .eq 8, 156, [1, 3]), (.aload_n 0, 159, []),
  (.iconst 1, 160, [1, 1]), (.invokevirtual 274, 161, [1, 219, 1, 0, 2, 13, 0, 0, 7, 220]), (.return_, 164, [])
  ]
noncomputable def k_Mo_keepLays : List Ent := [
  (.aload_n 0, 0, []), (.getfield 177, 1, [13, 7, 0, 6, 137]), (.ifCond .le 4, 4, [1, 1]), (.return_, 7, []), (.aload_n 0, 8, []), (.getfield 57, 9, [13, 24, 2, 6, 154]),
  (.sipush 330, 12, [1, 330]), (.aload_n 0, 15, []), (.getfield 32, 16, [13, 16, 2, 6, 146]), (.iconst 1, 19, [1, 1]), (.iaload, 20, [20]), (.iadd, 21, []),
  (.iload_n 1, 22, []), (.iastore, 23, []), (.aload_n 0, 24, []), (.getfield 32, 25, [13, 16, 2, 6, 146]), (.iconst 1, 28, [1, 1]), (.dup2, 29, []),
  (.iaload, 30, [20]), (.iconst 1, 31, [1, 1]), (.iadd, 32, []), (.iastore, 33, []), (.return_, 34, [])
  ]
noncomputable def k_Mo_boundOf : List Ent := [
  (.iload_n 0, 0, []), (.bipush 40, 1, [1, 40]), (.if_icmp .ne 5, 3, [1, 2]), (.iconst 0, 6, [1, 0]), (.ireturn, 7, [0]), (.iload_n 0, 8, []),
  (.bipush (-29), 9, [0, 29]), (.if_icmp .eq 9, 11, [1, 3]), (.iload_n 0, 14, []), (.bipush (-28), 15, [0, 28]), (.if_icmp .ne 15, 17, [1, 8]), (.nop, 20, [12, 1]),
  (.iload_n 0, 20, []), (.bipush (-29), 21, [0, 29]), (.if_icmp .ne 7, 23, [1, 2]), (.iconst 1, 26, [1, 1]), (.goto 4, 27, [1, 1]), (.iconst 2, 30, [1, 2]),
  (.ireturn, 31, [0]), (.iload_n 0, 32, []), (.bipush (-30), 33, [0, 30]), (.if_icmp .ne 5, 35, [1, 2]), (.iconst 3, 38, [1, 3]), (.ireturn, 39, [0]),
  (.iload_n 0, 40, []), (.bipush (-20), 41, [0, 20]), (.if_icmp .eq 9, 43, [1, 3]), (.iload_n 0, 46, []), (.bipush (-21), 47, [0, 21]), (.if_icmp .ne 7, 49, [1, 3]),
  (.nop, 52, [31, 0]), (.iconst 5, 52, [1, 5]), (.goto 27, 53, [1, 13]), (.iload_n 0, 56, []), (.bipush (-22), 57, [0, 22]), (.if_icmp .eq 15, 59, [1, 6]),
  (.iload_n 0, 62, []), (.bipush (-23), 63, [0, 23]), (.if_icmp .eq 9, 65, [1, 3]), (.iload_n 0, 68, []), (.bipush (-24), 69, [0, 24]), (.if_icmp .ne 8, 71, [1, 3]),
  (.nop, 74, [43, 0]), (.bipush 6, 74, [1, 6]), (.goto 4, 76, [1, 1]), (.iconst 4, 79, [1, 4]), (.ireturn, 80, [0])
  ]
noncomputable def k_Mo_formulaCloses : List Ent := [
  (.nop, 0, [1, 1, 1]), (.aload_n 0, 0, []), (.getfield 236, 1, [13, 32, 0, 6, 162]), (.ifCond .le 71, 4, [1, 38]), (.aload_n 0, 7, []), (.getfield 60, 8, [13, 31, 2, 6, 161]),
  (.aload_n 0, 11, []), (.getfield 236, 12, [13, 32, 0, 6, 162]), (.iconst 1, 15, [1, 1]), (.isub, 16, []), (.iaload, 17, [20]), (.invokestatic 280, 18, [0, 227, 1, 1, 1, 0, 0, 0, 8, 0]),
  (.iload_n 1, 21, []), (.if_icmp .lt 53, 22, [1, 28]), (.aload_n 0, 25, []), (.dup, 26, []), (.getfield 236, 27, [13, 32, 0, 6, 162]), (.iconst 1, 30, [1, 1]),
  (.isub, 31, []), (.putfield 236, 32, [13, 32, 0, 6, 162]), (.aload_n 0, 35, []), (.getfield 60, 36, [13, 31, 2, 6, 161]), (.aload_n 0, 39, []), (.getfield 236, 40, [13, 32, 0, 6, 162]),
  (.iaload, 43, [20]), (.bipush (-30), 44, [0, 30]), (.if_icmp .ne 13, 46, [1, 6]), (.aload_n 0, 49, []), (.dup, 50, []), (.getfield 239, 51, [13, 33, 0, 6, 163]),
  (.iconst 1, 54, [1, 1]), (.isub, 55, []), (.putfield 239, 56, [13, 33, 0, 6, 163]), (.nop, 59, [34, 1, 1]), (.aload_n 0, 59, []), (.aload_n 0, 60, []),
  (.getfield 60, 61, [13, 31, 2, 6, 161]), (.aload_n 0, 64, []), (.getfield 236, 65, [13, 32, 0, 6, 162]), (.iaload, 68, [20]), (.invokevirtual 283, 69, [1, 226, 1, 0, 2, 13, 0, 0, 8, 7]), (.goto (-72), 72, [0, 1, 1, 1]),
  (.return_, 75, [])
  ]
noncomputable def k_Mo_hasRelation : List Ent := [
  (.aload_n 0, 0, []), (.getfield 236, 1, [13, 32, 0, 6, 162]), (.iconst 1, 4, [1, 1]), (.isub, 5, []), (.istore_n 1, 6, []), (.nop, 7, [6, 1, 1]),
  (.iload_n 1, 7, []), (.ifCond .lt 22, 8, [1, 9]), (.aload_n 0, 11, []), (.getfield 60, 12, [13, 31, 2, 6, 161]), (.iload_n 1, 15, []), (.iaload, 16, [20]),
  (.invokestatic 280, 17, [0, 227, 1, 1, 1, 0, 0, 0, 8, 0]), (.iconst 4, 20, [1, 4]), (.if_icmp .le 9, 21, [1, 2]), (.iinc 1 (-1), 24, [0, 1]), (.goto (-20), 27, [0, 6, 1, 1]), (.nop, 30, [18, 1, 1]),
  (.iload_n 1, 30, []), (.ifCond .lt 20, 31, [1, 9]), (.aload_n 0, 34, []), (.getfield 60, 35, [13, 31, 2, 6, 161]), (.iload_n 1, 38, []), (.iaload, 39, [20]),
  (.invokestatic 280, 40, [0, 227, 1, 1, 1, 0, 0, 0, 8, 0]), (.iconst 4, 43, [1, 4]), (.if_icmp .ne 7, 44, [1, 2]), (.iconst 1, 47, [1, 1]), (.goto 4, 48, [1, 1]), (.iconst 0, 51, [1, 0]),
  (.ireturn, 52, [1])
  ]
noncomputable def k_Mo_mayNot : List Ent := [
  (.aload_n 0, 0, []), (.getfield 236, 1, [13, 32, 0, 6, 162]), (.ifCond .eq 21, 4, [1, 10]), (.aload_n 0, 7, []), (.getfield 60, 8, [13, 31, 2, 6, 161]), (.aload_n 0, 11, []),
  (.getfield 236, 12, [13, 32, 0, 6, 162]), (.iconst 1, 15, [1, 1]), (.isub, 16, []), (.iaload, 17, [20]), (.invokestatic 280, 18, [0, 227, 1, 1, 1, 0, 0, 0, 8, 0]), (.iconst 4, 21, [1, 4]),
  (.if_icmp .ge 7, 22, [1, 3]), (.nop, 25, [14, 0]), (.iconst 1, 25, [1, 1]), (.goto 4, 26, [1, 1]), (.iconst 0, 29, [1, 0]), (.ireturn, 30, [1])
  ]
noncomputable def k_Mo_isFull : List Ent := [
  (.aload_n 0, 0, []), (.getfield 35, 1, [13, 17, 2, 6, 147]), (.iconst 1, 4, [1, 1]), (.iaload, 5, [20]), (.bipush 30, 6, [1, 30]), (.if_icmp .ne 7, 8, [1, 2]),
  (.iconst 1, 11, [1, 1]), (.goto 4, 12, [1, 1]), (.iconst 0, 15, [1, 0]), (.ireturn, 16, [1])
  ]
noncomputable def k_Mo_unit : List Ent := [
  (.iconst 1, 0, [1, 1]), (.istore_n 1, 1, []), (.nop, 2, [3, 1, 1, 0]), (.iload_n 1, 2, []), (.ifCond .eq 144, 3, [1, 80]), (.aload_n 0, 6, []),
  (.invokevirtual 229, 7, [1, 207, 0, 1, 1, 13, 0, 0, 7, 123]), (.ifCond .eq 137, 10, [1, 77]), (.aload_n 0, 13, []), (.ldc2_w 208, 14, [7237492, 7, 165]), (.invokevirtual 216, 17, [1, 208, 1, 1, 3, 13, 0, 0, 7, 132]), (.ifCond .eq 14, 20, [1, 5]),
  (.aload_n 0, 23, []), (.invokevirtual 286, 24, [1, 230, 0, 1, 1, 13, 0, 0, 7, 236]), (.ifCond .eq 7, 27, [1, 2]), (.iconst 1, 30, [1, 1]), (.goto 4, 31, [1, 2]), (.nop, 34, [18, 1, 0, 0]),
  (.iconst 0, 34, [1, 0]), (.nop, 35, [20, 1, 0, 0]), (.istore_n 2, 35, []), (.iload_n 2, 36, []), (.ifCond .eq 12, 37, [1, 4]), (.aload_n 0, 40, []),
  (.getfield 239, 41, [13, 33, 0, 6, 163]), (.bipush 6, 44, [1, 6]), (.if_icmp .gt 28, 46, [1, 12]), (.nop, 49, [28, 1, 0, 1]), (.aload_n 0, 49, []), (.bipush 40, 50, [1, 40]),
  (.invokevirtual 223, 52, [1, 211, 1, 1, 2, 13, 0, 0, 7, 197]), (.ifCond .eq 24, 55, [1, 11]), (.aload_n 0, 58, []), (.invokevirtual 289, 59, [1, 231, 0, 1, 1, 13, 0, 0, 8, 3]), (.ifCond .ne 12, 62, [1, 4]), (.aload_n 0, 65, []),
  (.getfield 239, 66, [13, 33, 0, 6, 163]), (.bipush 6, 69, [1, 6]), (.if_icmp .le 8, 71, [1, 4]), (.nop, 74, [40, 1, 0, 1]), (.aload_n 0, 74, []), (.iconst 2, 75, [1, 2]),
  (.invokevirtual 226, 76, [1, 206, 1, 0, 2, 13, 0, 0, 7, 140]), (.nop, 79, [44, 1, 0, 1]), (.aload_n 0, 79, []), (.getfield 177, 80, [13, 7, 0, 6, 137]), (.ifCond .le 4, 83, [1, 1]), (.return_, 86, []),
  (.iload_n 2, 87, []), (.ifCond .ne 12, 88, [1, 4]), (.aload_n 0, 91, []), (.bipush 40, 92, [1, 40]), (.invokevirtual 223, 94, [1, 211, 1, 1, 2, 13, 0, 0, 7, 197]), (.ifCond .eq 7, 97, [1, 3]),
  (.nop, 100, [55, 1, 0, 1]), (.iconst 1, 100, [1, 1]), (.goto 4, 101, [1, 1]), (.iconst 0, 104, [1, 0]), (.nop, 105, [59, 1, 0, 1]), (.istore_n 1, 105, []),
  (.aload_n 0, 106, []), (.bipush 40, 107, [1, 40]), (.invokevirtual 223, 109, [1, 211, 1, 1, 2, 13, 0, 0, 7, 197]), (.ifCond .eq 13, 112, [1, 8]), (.aload_n 0, 115, []), (.getfield 35, 116, [13, 17, 2, 6, 147]),
  (.iconst 1, 119, [1, 1]), (.dup2, 120, []), (.iaload, 121, [20]), (.iconst 1, 122, [1, 1]), (.iadd, 123, []), (.iastore, 124, []),
  (.nop, 125, [73, 1, 1, 1]), (.iload_n 1, 125, []), (.ifCond .eq 18, 126, [1, 8]), (.aload_n 0, 129, []), (.iload_n 2, 130, []), (.ifCond .eq 8, 131, [1, 2]),
  (.bipush (-30), 134, [0, 30]), (.goto 5, 136, [1, 1]), (.bipush 40, 139, [1, 40]), (.nop, 141, [82, 1, 1, 0]), (.invokevirtual 248, 141, [1, 217, 1, 0, 2, 13, 0, 0, 7, 193]), (.nop, 144, [84, 1, 1, 0]),
  (.goto (-142), 144, [0, 3, 1, 1, 0]), (.nop, 147, [86, 1, 0, 0]), (.aload_n 0, 147, []), (.ldc2_w 210, 148, [7499639, 7, 166]), (.invokevirtual 216, 151, [1, 208, 1, 1, 3, 13, 0, 0, 7, 132]), (.ifCond .eq 7, 154, [1, 2]),
  (.iconst 0, 157, [1, 0]), (.goto 32, 158, [1, 13]), (.aload_n 0, 161, []), (.ldc2_w 212, 162, [109330212154734, 7, 167]), (.invokevirtual 216, 165, [1, 208, 1, 1, 3, 13, 0, 0, 7, 132]), (.ifCond .eq 7, 168, [1, 2]),
  (.iconst 1, 171, [1, 1]), (.goto 18, 172, [1, 7]), (.aload_n 0, 175, []), (.ldc2_w 214, 176, [1835101817, 7, 168]), (.invokevirtual 216, 179, [1, 208, 1, 1, 3, 13, 0, 0, 7, 132]), (.ifCond .eq 7, 182, [1, 2]),
  (.iconst 2, 185, [1, 2]), (.goto 4, 186, [1, 1]), (.iconst (-1), 189, [0, 1]), (.nop, 190, [106, 1, 0, 0]), (.istore_n 2, 190, []), (.aload_n 0, 191, []),
  (.getfield 164, 192, [13, 5, 0, 6, 135]), (.iconst 2, 195, [1, 2]), (.if_icmp .eq 8, 196, [1, 3]), (.iload_n 2, 199, []), (.iconst (-1), 200, [0, 1]), (.if_icmp .eq 10, 201, [1, 4]),
  (.nop, 204, [115, 1, 0, 1]), (.aload_n 0, 204, []), (.invokevirtual 289, 205, [1, 231, 0, 1, 1, 13, 0, 0, 8, 3]), (.ifCond .eq 8, 208, [1, 4]), (.nop, 211, [119, 1, 0, 1]), (.aload_n 0, 211, []),
  (.iconst 2, 212, [1, 2]), (.invokevirtual 226, 213, [1, 206, 1, 0, 2, 13, 0, 0, 7, 140]), (.nop, 216, [123, 1, 0, 1]), (.aload_n 0, 216, []), (.getfield 177, 217, [13, 7, 0, 6, 137]), (.ifCond .le 4, 220, [1, 1]),
  (.return_, 223, []), (.aload_n 0, 224, []), (.getfield 35, 225, [13, 17, 2, 6, 147]), (.iconst 1, 228, [1, 1]), (.dup2, 229, []), (.iaload, 230, [20]),
  (.iconst 1, 231, [1, 1]), (.iadd, 232, []), (.iastore, 233, []), (.aload_n 0, 234, []), (.iload_n 2, 235, []), (.iconst (-1), 236, [0, 1]),
  (.if_icmp .ne 10, 237, [1, 3]), (.aload_n 0, 240, []), (.getfield 161, 241, [13, 6, 0, 6, 136]), (.goto 7, 244, [1, 3]), (.bipush (-10), 247, [0, 10]), (.iload_n 2, 249, []),
  (.isub, 250, []), (.nop, 251, [146, 1, 0, 0]), (.invokevirtual 283, 251, [1, 226, 1, 0, 2, 13, 0, 0, 8, 7]), (.aload_n 0, 254, []), (.invokevirtual 220, 255, [1, 205, 0, 0, 2, 13, 0, 0, 7, 106]), (.return_, 258, [])
  ]
noncomputable def k_Mo_signHere : List Ent := [
  (.aload_n 0, 0, []), (.ldc2_w 198, 1, [6385252, 7, 160]), (.invokevirtual 216, 4, [1, 208, 1, 1, 3, 13, 0, 0, 7, 132]), (.ifCond .ne 13, 7, [1, 4]), (.aload_n 0, 10, []), (.ldc2_w 194, 11, [28530, 7, 158]),
  (.invokevirtual 216, 14, [1, 208, 1, 1, 3, 13, 0, 0, 7, 132]), (.ifCond .eq 21, 17, [1, 9]), (.nop, 20, [9, 1]), (.aload_n 0, 20, []), (.ldc2_w 198, 21, [6385252, 7, 160]), (.invokevirtual 216, 24, [1, 208, 1, 1, 3, 13, 0, 0, 7, 132]),
  (.ifCond .eq 8, 27, [1, 2]), (.bipush (-28), 30, [0, 28]), (.goto 5, 32, [1, 1]), (.bipush (-29), 35, [0, 29]), (.ireturn, 37, [0]), (.aload_n 0, 38, []),
  (.bipush 60, 39, [1, 60]), (.invokevirtual 223, 41, [1, 211, 1, 1, 2, 13, 0, 0, 7, 197]), (.ifCond .ne 21, 44, [1, 8]), (.aload_n 0, 47, []), (.bipush 62, 48, [1, 62]), (.invokevirtual 223, 50, [1, 211, 1, 1, 2, 13, 0, 0, 7, 197]),
  (.ifCond .ne 12, 53, [1, 4]), (.aload_n 0, 56, []), (.bipush 61, 57, [1, 61]), (.invokevirtual 223, 59, [1, 211, 1, 1, 2, 13, 0, 0, 7, 197]), (.ifCond .eq 34, 62, [1, 15]), (.nop, 65, [30, 1]),
  (.aload_n 0, 65, []), (.bipush 60, 66, [1, 60]), (.invokevirtual 223, 68, [1, 211, 1, 1, 2, 13, 0, 0, 7, 197]), (.ifCond .eq 8, 71, [1, 2]), (.bipush (-25), 74, [0, 25]), (.goto 19, 76, [1, 7]),
  (.aload_n 0, 79, []), (.bipush 62, 80, [1, 62]), (.invokevirtual 223, 82, [1, 211, 1, 1, 2, 13, 0, 0, 7, 197]), (.ifCond .eq 8, 85, [1, 2]), (.bipush (-26), 88, [0, 26]), (.goto 5, 90, [1, 1]),
  (.bipush (-27), 93, [0, 27]), (.ireturn, 95, [0]), (.aload_n 0, 96, []), (.bipush 43, 97, [1, 43]), (.invokevirtual 223, 99, [1, 211, 1, 1, 2, 13, 0, 0, 7, 197]), (.ifCond .ne 12, 102, [1, 4]),
  (.aload_n 0, 105, []), (.bipush 45, 106, [1, 45]), (.invokevirtual 223, 108, [1, 211, 1, 1, 2, 13, 0, 0, 7, 197]), (.ifCond .eq 20, 111, [1, 9]), (.nop, 114, [53, 1]), (.aload_n 0, 114, []),
  (.bipush 43, 115, [1, 43]), (.invokevirtual 223, 117, [1, 211, 1, 1, 2, 13, 0, 0, 7, 197]), (.ifCond .eq 8, 120, [1, 2]), (.bipush (-20), 123, [0, 20]), (.goto 5, 125, [1, 1]), (.bipush (-21), 128, [0, 21]),
  (.ireturn, 130, [0]), (.aload_n 0, 131, []), (.bipush 42, 132, [1, 42]), (.invokevirtual 223, 134, [1, 211, 1, 1, 2, 13, 0, 0, 7, 197]), (.ifCond .eq 8, 137, [1, 2]), (.bipush (-22), 140, [0, 22]),
  (.goto 32, 142, [1, 13]), (.aload_n 0, 145, []), (.bipush 47, 146, [1, 47]), (.invokevirtual 223, 148, [1, 211, 1, 1, 2, 13, 0, 0, 7, 197]), (.ifCond .eq 8, 151, [1, 2]), (.bipush (-23), 154, [0, 23]),
  (.goto 18, 156, [1, 7]), (.aload_n 0, 159, []), (.bipush 37, 160, [1, 37]), (.invokevirtual 223, 162, [1, 211, 1, 1, 2, 13, 0, 0, 7, 197]), (.ifCond .eq 8, 165, [1, 2]), (.bipush (-24), 168, [0, 24]),
  (.goto 4, 170, [1, 1]), (.iconst (-1), 173, [0, 1]), (.ireturn, 174, [0])
  ]
noncomputable def k_Mo_formula : List Ent := [
  (.aload_n 0, 0, []), (.iconst 0, 1, [1, 0]), (.putfield 236, 2, [13, 32, 0, 6, 162]), (.aload_n 0, 5, []), (.iconst 0, 6, [1, 0]), (.putfield 239, 7, [13, 33, 0, 6, 163]),
  (.aload_n 0, 10, []), (.invokevirtual 292, 11, [1, 232, 0, 0, 3, 13, 0, 0, 7, 232]), (.iconst 1, 14, [1, 1]), (.istore_n 1, 15, []), (.nop, 16, [11, 1, 1, 0]), (.iload_n 1, 16, []),
  (.ifCond .eq 127, 17, [1, 69]), (.aload_n 0, 20, []), (.invokevirtual 229, 21, [1, 207, 0, 1, 1, 13, 0, 0, 7, 123]), (.ifCond .eq 120, 24, [1, 66]), (.aload_n 0, 27, []), (.invokevirtual 295, 28, [1, 233, 0, 1, 1, 13, 0, 0, 8, 11]),
  (.istore_n 2, 31, []), (.aload_n 0, 32, []), (.bipush 41, 33, [1, 41]), (.invokevirtual 223, 35, [1, 211, 1, 1, 2, 13, 0, 0, 7, 197]), (.ifCond .eq 42, 38, [1, 21]), (.aload_n 0, 41, []),
  (.invokevirtual 277, 42, [1, 221, 0, 1, 3, 13, 0, 0, 7, 224]), (.ifCond .eq 35, 45, [1, 18]), (.aload_n 0, 48, []), (.iconst 1, 49, [1, 1]), (.invokevirtual 298, 50, [1, 228, 1, 0, 2, 13, 0, 0, 8, 15]), (.aload_n 0, 53, []),
  (.dup, 54, []), (.getfield 236, 55, [13, 32, 0, 6, 162]), (.iconst 1, 58, [1, 1]), (.isub, 59, []), (.putfield 236, 60, [13, 32, 0, 6, 162]), (.aload_n 0, 63, []),
  (.dup, 64, []), (.getfield 239, 65, [13, 33, 0, 6, 163]), (.iconst 1, 68, [1, 1]), (.isub, 69, []), (.putfield 239, 70, [13, 33, 0, 6, 163]), (.aload_n 0, 73, []),
  (.invokevirtual 220, 74, [1, 205, 0, 0, 2, 13, 0, 0, 7, 106]), (.goto 64, 77, [1, 36]), (.nop, 80, [45, 1, 1, 1]), (.iload_n 2, 80, []), (.iconst (-1), 81, [0, 1]), (.if_icmp .eq 57, 82, [1, 29]),
  (.iload_n 2, 85, []), (.invokestatic 280, 86, [0, 227, 1, 1, 1, 0, 0, 0, 8, 0]), (.iconst 4, 89, [1, 4]), (.if_icmp .ne 10, 90, [1, 3]), (.aload_n 0, 93, []), (.invokevirtual 301, 94, [1, 229, 0, 1, 2, 13, 0, 0, 8, 19]),
  (.ifCond .ne 42, 97, [1, 22]), (.nop, 100, [56, 1, 1, 1]), (.aload_n 0, 100, []), (.iload_n 2, 101, []), (.invokestatic 280, 102, [0, 227, 1, 1, 1, 0, 0, 0, 8, 0]), (.invokevirtual 298, 105, [1, 228, 1, 0, 2, 13, 0, 0, 8, 15]),
  (.aload_n 0, 108, []), (.getfield 60, 109, [13, 31, 2, 6, 161]), (.aload_n 0, 112, []), (.getfield 236, 113, [13, 32, 0, 6, 162]), (.iload_n 2, 116, []), (.iastore, 117, []),
  (.aload_n 0, 118, []), (.dup, 119, []), (.getfield 236, 120, [13, 32, 0, 6, 162]), (.iconst 1, 123, [1, 1]), (.iadd, 124, []), (.putfield 236, 125, [13, 32, 0, 6, 162]),
  (.aload_n 0, 128, []), (.invokevirtual 220, 129, [1, 205, 0, 0, 2, 13, 0, 0, 7, 106]), (.aload_n 0, 132, []), (.invokevirtual 292, 133, [1, 232, 0, 0, 3, 13, 0, 0, 7, 232]), (.goto 5, 136, [1, 3]), (.nop, 139, [78, 1, 0, 0]),
  (.iconst 0, 139, [1, 0]), (.istore_n 1, 140, []), (.nop, 141, [81, 1, 1, 0]), (.goto (-125), 141, [0, 11, 1, 1, 0]), (.nop, 144, [83, 1, 0, 0]), (.aload_n 0, 144, []),
  (.invokevirtual 229, 145, [1, 207, 0, 1, 1, 13, 0, 0, 7, 123]), (.ifCond .eq 15, 148, [1, 6]), (.aload_n 0, 151, []), (.invokevirtual 277, 152, [1, 221, 0, 1, 3, 13, 0, 0, 7, 224]), (.ifCond .eq 8, 155, [1, 3]), (.aload_n 0, 158, []),
  (.iconst 2, 159, [1, 2]), (.invokevirtual 226, 160, [1, 206, 1, 0, 2, 13, 0, 0, 7, 140]), (.nop, 163, [93, 1, 0, 0]), (.aload_n 0, 163, []), (.invokevirtual 229, 164, [1, 207, 0, 1, 1, 13, 0, 0, 7, 123]), (.ifCond .eq 8, 167, [1, 3]),
  (.aload_n 0, 170, []), (.iconst 1, 171, [1, 1]), (.invokevirtual 298, 172, [1, 228, 1, 0, 2, 13, 0, 0, 8, 15]), (.return_, 175, [])
  ]
noncomputable def k_Mo_pairs : List Ent := [
  (.iconst 0, 0, [1, 0]), (.istore_n 2, 1, []), (.nop, 2, [3, 1, 1, 1, 0, 0]), (.aload_n 0, 2, []), (.invokevirtual 229, 3, [1, 207, 0, 1, 1, 13, 0, 0, 7, 123]), (.ifCond .eq 83, 6, [1, 51]),
  (.aload_n 0, 9, []), (.getfield 164, 10, [13, 5, 0, 6, 135]), (.iconst 2, 13, [1, 2]), (.if_icmp .ne 75, 14, [1, 47]), (.iload_n 2, 17, []), (.bipush 40, 18, [1, 40]),
  (.if_icmp .ne 8, 20, [1, 3]), (.aload_n 0, 23, []), (.iconst 2, 24, [1, 2]), (.invokevirtual 226, 25, [1, 206, 1, 0, 2, 13, 0, 0, 7, 140]), (.nop, 28, [17, 1, 1, 1, 0, 0]), (.aload_n 0, 28, []),
  (.iconst 0, 29, [1, 0]), (.aload_n 0, 30, []), (.iconst 1, 31, [1, 1]), (.invokevirtual 304, 32, [1, 214, 1, 1, 2, 13, 0, 0, 7, 181]), (.iconst 1, 35, [1, 1]), (.isub, 36, []),
  (.invokevirtual 307, 37, [1, 213, 2, 1, 4, 13, 0, 0, 7, 136]), (.istore_n 3, 40, []), (.aload_n 0, 41, []), (.iconst 0, 42, [1, 0]), (.aload_n 0, 43, []), (.iconst 1, 44, [1, 1]),
  (.invokevirtual 304, 45, [1, 214, 1, 1, 2, 13, 0, 0, 7, 181]), (.iconst 1, 48, [1, 1]), (.isub, 49, []), (.invokevirtual 307, 50, [1, 213, 2, 1, 4, 13, 0, 0, 7, 136]), (.istore 4, 53, []), (.aload_n 0, 55, []),
  (.invokevirtual 229, 56, [1, 207, 0, 1, 1, 13, 0, 0, 7, 123]), (.ifCond .eq 24, 59, [1, 16]), (.aload_n 0, 62, []), (.getfield 51, 63, [13, 22, 2, 6, 152]), (.bipush 80, 66, [1, 80]), (.bipush 16, 68, [1, 16]),
  (.iload_n 1, 70, []), (.imul, 71, []), (.iadd, 72, []), (.iload_n 3, 73, []), (.iadd, 74, []), (.dup2, 75, []),
  (.iaload, 76, [20]), (.iconst 1, 77, [1, 1]), (.iload 4, 78, []), (.ishl, 80, []), (.ior, 81, []), (.iastore, 82, []),
  (.nop, 83, [55, 1, 1, 1, 0, 0]), (.iinc 2 1, 83, [1, 1]), (.goto (-84), 86, [0, 3, 1, 1, 1, 0, 0]), (.return_, 89, [])
  ]
noncomputable def k_Mo_relation1 : List Ent := [
  (.aload_n 0, 0, []), (.getfield 23, 1, [13, 13, 2, 6, 143]), (.iconst 1, 4, [1, 1]), (.iaload, 5, [20]), (.istore_n 1, 6, []), (.aload_n 0, 7, []),
  (.getfield 164, 8, [13, 5, 0, 6, 135]), (.iconst 1, 11, [1, 1]), (.if_icmp .ne 10, 12, [1, 3]), (.aload_n 0, 15, []), (.invokevirtual 257, 16, [1, 209, 0, 1, 1, 13, 0, 0, 7, 149]), (.ifCond .eq 11, 19, [1, 5]),
  (.nop, 22, [13, 1, 1, 0, 0, 0]), (.aload_n 0, 22, []), (.iconst 2, 23, [1, 2]), (.invokevirtual 226, 24, [1, 206, 1, 0, 2, 13, 0, 0, 7, 140]), (.goto 20, 27, [1, 9]), (.aload_n 0, 30, []),
  (.aload_n 0, 31, []), (.getfield 157, 32, [13, 11, 1, 6, 141]), (.invokevirtual 263, 35, [1, 215, 1, 1, 4, 13, 0, 0, 7, 169]), (.iconst (-1), 38, [0, 1]), (.if_icmp .eq 8, 39, [1, 3]), (.aload_n 0, 42, []),
  (.iconst 3, 43, [1, 3]), (.invokevirtual 226, 44, [1, 206, 1, 0, 2, 13, 0, 0, 7, 140]), (.nop, 47, [27, 1, 1, 0, 0, 0]), (.aload_n 0, 47, []), (.getfield 177, 48, [13, 7, 0, 6, 137]), (.ifCond .le 4, 51, [1, 1]),
  (.return_, 54, []), (.aload_n 0, 55, []), (.getfield 157, 56, [13, 11, 1, 6, 141]), (.lstore_n 2, 59, []), (.aload_n 0, 60, []), (.invokevirtual 220, 61, [1, 205, 0, 0, 2, 13, 0, 0, 7, 106]),
  (.iconst 0, 64, [1, 0]), (.istore 4, 65, []), (.nop, 67, [39, 1, 1, 1, 0, 1]), (.iload 4, 67, []), (.bipush 16, 69, [1, 16]), (.if_icmp .ge 25, 71, [1, 13]),
  (.aload_n 0, 74, []), (.getfield 51, 75, [13, 22, 2, 6, 152]), (.bipush 80, 78, [1, 80]), (.bipush 16, 80, [1, 16]), (.iload_n 1, 82, []), (.imul, 83, []),
  (.iadd, 84, []), (.iload 4, 85, []), (.iadd, 87, []), (.iconst 0, 88, [1, 0]), (.iastore, 89, []), (.iinc 4 1, 90, [1, 1]),
  (.goto (-26), 93, [0, 39, 1, 1, 1, 0, 1]), (.aload_n 0, 96, []), (.getfield 45, 97, [13, 20, 2, 6, 150]), (.iconst 5, 100, [1, 5]), (.iload_n 1, 101, []), (.iadd, 102, []),
  (.aload_n 0, 103, []), (.getfield 233, 104, [13, 25, 0, 6, 155]), (.iastore, 107, []), (.aload_n 0, 108, []), (.getfield 42, 109, [13, 19, 2, 6, 149]), (.iconst 5, 112, [1, 5]),
  (.iload_n 1, 113, []), (.iadd, 114, []), (.iconst 0, 115, [1, 0]), (.iastore, 116, []), (.aload_n 0, 117, []), (.ldc2_w 184, 118, [6840691, 7, 153]),
  (.invokevirtual 310, 121, [1, 210, 1, 1, 3, 13, 0, 0, 7, 173]), (.ifCond .eq 20, 124, [1, 11]), (.aload_n 0, 127, []), (.getfield 42, 128, [13, 19, 2, 6, 149]), (.iconst 5, 131, [1, 5]), (.iload_n 1, 132, []),
  (.iadd, 133, []), (.iconst 1, 134, [1, 1]), (.iastore, 135, []), (.aload_n 0, 136, []), (.iload_n 1, 137, []), (.invokevirtual 313, 138, [1, 235, 1, 0, 5, 13, 0, 0, 7, 177]),
  (.goto 25, 141, [1, 10]), (.aload_n 0, 144, []), (.ldc2_w 186, 145, [26995, 7, 154]), (.invokevirtual 310, 148, [1, 210, 1, 1, 3, 13, 0, 0, 7, 173]), (.ifCond .eq 10, 151, [1, 3]), (.aload_n 0, 154, []),
  (.invokevirtual 316, 155, [1, 225, 0, 0, 3, 13, 0, 0, 7, 185]), (.goto 8, 158, [1, 3]), (.aload_n 0, 161, []), (.iconst 2, 162, [1, 2]), (.invokevirtual 226, 163, [1, 206, 1, 0, 2, 13, 0, 0, 7, 140]), (.nop, 166, [96, 1, 1, 1, 0, 0]),
  (.aload_n 0, 166, []), (.getfield 48, 167, [13, 21, 2, 6, 151]), (.iconst 5, 170, [1, 5]), (.iload_n 1, 171, []), (.iadd, 172, []), (.aload_n 0, 173, []),
  (.getfield 233, 174, [13, 25, 0, 6, 155]), (.aload_n 0, 177, []), (.getfield 45, 178, [13, 20, 2, 6, 150]), (.iconst 5, 181, [1, 5]), (.iload_n 1, 182, []), (.iadd, 183, []),
  (.iaload, 184, [20]), (.isub, 185, []), (.iastore, 186, []), (.aload_n 0, 187, []), (.getfield 38, 188, [13, 18, 2, 6, 148]), (.iconst 5, 191, [1, 5]),
  (.iload_n 1, 192, []), (.iadd, 193, []), (.lload_n 2, 194, []), (.lastore, 195, []), (.aload_n 0, 196, []), (.getfield 23, 197, [13, 13, 2, 6, 143]),
  (.iconst 1, 200, [1, 1]), (.dup2, 201, []), (.iaload, 202, [20]), (.iconst 1, 203, [1, 1]), (.iadd, 204, []), (.iastore, 205, []),
  (.return_, 206, [])
  ]
noncomputable def k_Mo_line : List Ent := [
  (.aload_n 0, 0, []), (.ldc2_w 180, 1, [119183033855091, 7, 131]), (.invokevirtual 216, 4, [1, 208, 1, 1, 3, 13, 0, 0, 7, 132]), (.ifCond .eq 43, 7, [1, 22]), (.aload_n 0, 10, []), (.getfield 319, 11, [13, 27, 0, 6, 157]),
  (.ifCond .ne 36, 14, [1, 19]), (.aload_n 0, 17, []), (.getfield 23, 18, [13, 13, 2, 6, 143]), (.iconst 1, 21, [1, 1]), (.iaload, 22, [20]), (.ifCond .ne 27, 23, [1, 14]),
  (.aload_n 0, 26, []), (.iconst 1, 27, [1, 1]), (.putfield 319, 28, [13, 27, 3, 6, 157]), (.aload_n 0, 31, []), (.invokevirtual 220, 32, [1, 205, 0, 0, 2, 13, 0, 0, 7, 106]), (.aload_n 0, 35, []),
  (.getfield 20, 36, [13, 12, 2, 6, 142]), (.iconst 1, 39, [1, 1]), (.aload_n 0, 40, []), (.iconst 1, 41, [1, 1]), (.iconst 4, 42, [1, 4]), (.invokevirtual 307, 43, [1, 213, 2, 1, 4, 13, 0, 0, 7, 136]),
  (.iastore, 46, []), (.goto 157, 47, [1, 80]), (.nop, 50, [27, 1]), (.aload_n 0, 50, []), (.ldc2_w 182, 51, [7497068, 7, 144]), (.invokevirtual 216, 54, [1, 208, 1, 1, 3, 13, 0, 0, 7, 132]),
  (.ifCond .eq 24, 57, [1, 11]), (.aload_n 0, 60, []), (.getfield 23, 61, [13, 13, 2, 6, 143]), (.iconst 1, 64, [1, 1]), (.iaload, 65, [20]), (.iconst 5, 66, [1, 5]),
  (.if_icmp .ge 14, 67, [1, 5]), (.aload_n 0, 70, []), (.invokevirtual 220, 71, [1, 205, 0, 0, 2, 13, 0, 0, 7, 106]), (.aload_n 0, 74, []), (.invokevirtual 323, 75, [1, 236, 0, 0, 5, 13, 0, 0, 7, 145]), (.goto 126, 78, [1, 64]),
  (.nop, 81, [43, 1]), (.aload_n 0, 81, []), (.ldc2_w 188, 82, [1801807216, 7, 155]), (.invokevirtual 216, 85, [1, 208, 1, 1, 3, 13, 0, 0, 7, 132]), (.ifCond .eq 26, 88, [1, 11]), (.aload_n 0, 91, []),
  (.getfield 326, 92, [13, 28, 0, 6, 158]), (.ifCond .ne 19, 95, [1, 8]), (.aload_n 0, 98, []), (.iconst 1, 99, [1, 1]), (.putfield 326, 100, [13, 28, 3, 6, 158]), (.aload_n 0, 103, []),
  (.invokevirtual 220, 104, [1, 205, 0, 0, 2, 13, 0, 0, 7, 106]), (.aload_n 0, 107, []), (.invokevirtual 329, 108, [1, 234, 0, 0, 3, 13, 0, 0, 7, 228]), (.goto 93, 111, [1, 48]), (.nop, 114, [59, 1]), (.aload_n 0, 114, []),
  (.ldc2_w 190, 115, [431416239732, 7, 156]), (.invokevirtual 216, 118, [1, 208, 1, 1, 3, 13, 0, 0, 7, 132]), (.ifCond .eq 35, 121, [1, 17]), (.aload_n 0, 124, []), (.getfield 332, 125, [13, 29, 0, 6, 159]), (.ifCond .ne 28, 128, [1, 14]),
  (.aload_n 0, 131, []), (.iconst 1, 132, [1, 1]), (.putfield 332, 133, [13, 29, 3, 6, 159]), (.aload_n 0, 136, []), (.invokevirtual 220, 137, [1, 205, 0, 0, 2, 13, 0, 0, 7, 106]), (.aload_n 0, 140, []),
  (.getfield 26, 141, [13, 14, 2, 6, 144]), (.iconst 1, 144, [1, 1]), (.aload_n 0, 145, []), (.iconst 0, 146, [1, 0]), (.bipush 100, 147, [1, 100]), (.invokevirtual 307, 149, [1, 213, 2, 1, 4, 13, 0, 0, 7, 136]),
  (.iastore, 152, []), (.goto 51, 153, [1, 26]), (.nop, 156, [81, 1]), (.aload_n 0, 156, []), (.ldc2_w 192, 157, [1685217655, 7, 157]), (.invokevirtual 216, 160, [1, 208, 1, 1, 3, 13, 0, 0, 7, 132]),
  (.ifCond .eq 36, 163, [1, 17]), (.aload_n 0, 166, []), (.getfield 335, 167, [13, 30, 0, 6, 160]), (.ifCond .ne 29, 170, [1, 14]), (.aload_n 0, 173, []), (.iconst 1, 174, [1, 1]),
  (.putfield 335, 175, [13, 30, 3, 6, 160]), (.aload_n 0, 178, []), (.invokevirtual 220, 179, [1, 205, 0, 0, 2, 13, 0, 0, 7, 106]), (.aload_n 0, 182, []), (.getfield 29, 183, [13, 15, 2, 6, 145]), (.iconst 1, 186, [1, 1]),
  (.aload_n 0, 187, []), (.iconst 0, 188, [1, 0]), (.sipush 999, 189, [1, 999]), (.invokevirtual 307, 192, [1, 213, 2, 1, 4, 13, 0, 0, 7, 136]), (.iastore, 195, []), (.goto 8, 196, [1, 4]),
  (.nop, 199, [103, 1]), (.aload_n 0, 199, []), (.iconst 2, 200, [1, 2]), (.invokevirtual 226, 201, [1, 206, 1, 0, 2, 13, 0, 0, 7, 140]), (.nop, 204, [107, 1]), (.aload_n 0, 204, []),
  (.bipush 59, 205, [1, 59]), (.invokevirtual 338, 207, [1, 212, 1, 0, 2, 13, 0, 0, 8, 23]), (.return_, 210, [])
  ]
noncomputable def k_Mo_readAll : List Ent := [
  (.aload_n 0, 0, []), (.aload_n 0, 1, []), (.getfield 133, 2, [13, 1, 0, 6, 131]), (.putfield 147, 5, [13, 2, 0, 6, 132]), (.aload_n 0, 8, []), (.iconst 0, 9, [1, 0]),
  (.putfield 133, 10, [13, 1, 0, 6, 131]), (.aload_n 0, 13, []), (.iconst 0, 14, [1, 0]), (.putfield 144, 15, [13, 3, 0, 6, 133]), (.aload_n 0, 18, []), (.iconst 0, 19, [1, 0]),
  (.putfield 177, 20, [13, 7, 0, 6, 137]), (.aload_n 0, 23, []), (.iconst (-1), 24, [0, 1]), (.putfield 13, 25, [13, 8, 0, 6, 138]), (.aload_n 0, 28, []), (.getfield 20, 29, [13, 12, 2, 6, 142]),
  (.iconst 1, 32, [1, 1]), (.iconst 3, 33, [1, 3]), (.iastore, 34, []), (.aload_n 0, 35, []), (.getfield 23, 36, [13, 13, 2, 6, 143]), (.iconst 1, 39, [1, 1]),
  (.iconst 0, 40, [1, 0]), (.iastore, 41, []), (.aload_n 0, 42, []), (.getfield 26, 43, [13, 14, 2, 6, 144]), (.iconst 1, 46, [1, 1]), (.iconst 0, 47, [1, 0]),
  (.iastore, 48, []), (.aload_n 0, 49, []), (.getfield 29, 50, [13, 15, 2, 6, 145]), (.iconst 1, 53, [1, 1]), (.iconst 0, 54, [1, 0]), (.iastore, 55, []),
  (.aload_n 0, 56, []), (.getfield 32, 57, [13, 16, 2, 6, 146]), (.iconst 1, 60, [1, 1]), (.iconst 0, 61, [1, 0]), (.iastore, 62, []), (.aload_n 0, 63, []),
  (.getfield 35, 64, [13, 17, 2, 6, 147]), (.iconst 1, 67, [1, 1]), (.iconst 0, 68, [1, 0]), (.iastore, 69, []), (.aload_n 0, 70, []), (.iconst 0, 71, [1, 0]),
  (.putfield 233, 72, [13, 25, 0, 6, 155]), (.aload_n 0, 75, []), (.iconst 0, 76, [1, 0]), (.putfield 260, 77, [13, 26, 0, 6, 156]), (.aload_n 0, 80, []), (.iconst 0, 81, [1, 0]),
  (.putfield 319, 82, [13, 27, 3, 6, 157]), (.aload_n 0, 85, []), (.iconst 0, 86, [1, 0]), (.putfield 326, 87, [13, 28, 3, 6, 158]), (.aload_n 0, 90, []), (.iconst 0, 91, [1, 0]),
  (.putfield 332, 92, [13, 29, 3, 6, 159]), (.aload_n 0, 95, []), (.iconst 0, 96, [1, 0]), (.putfield 335, 97, [13, 30, 3, 6, 160]), (.aload_n 0, 100, []), (.invokevirtual 220, 101, [1, 205, 0, 0, 2, 13, 0, 0, 7, 106]),
  (.nop, 104, [67, 1]), (.aload_n 0, 104, []), (.invokevirtual 229, 105, [1, 207, 0, 1, 1, 13, 0, 0, 7, 123]), (.ifCond .eq 17, 108, [1, 6]), (.aload_n 0, 111, []), (.getfield 164, 112, [13, 5, 0, 6, 135]),
  (.ifCond .eq 10, 115, [1, 3]), (.aload_n 0, 118, []), (.invokevirtual 341, 119, [1, 237, 0, 0, 1, 13, 0, 0, 7, 127]), (.goto (-18), 122, [0, 67, 1]), (.return_, 125, [])
  ]
noncomputable def k_Mo_takesHalf : List Ent := [
  (.aload_n 0, 0, []), (.arraylength, 1, [20]), (.iconst 2, 2, [1, 2]), (.idiv, 3, []), (.istore_n 1, 4, []), (.iconst 0, 5, [1, 0]),
  (.istore_n 2, 6, []), (.nop, 7, [8, 1, 1, 1]), (.iload_n 2, 7, []), (.iload_n 1, 8, []), (.if_icmp .ge 17, 9, [1, 10]), (.aload_n 0, 12, []),
  (.iload_n 2, 13, []), (.aload_n 0, 14, []), (.iload_n 1, 15, []), (.iload_n 2, 16, []), (.iadd, 17, []), (.iaload, 18, [20]),
  (.iastore, 19, []), (.iinc 2 1, 20, [1, 1]), (.goto (-16), 23, [0, 8, 1, 1, 1]), (.return_, 26, [])
  ]
noncomputable def k_Mo_store : List Ent := [
  (.aload_n 0, 0, []), (.invokevirtual 344, 1, [1, 238, 0, 0, 1, 13, 0, 0, 7, 102]), (.aload_n 0, 4, []), (.aload_n 0, 5, []), (.getfield 177, 6, [13, 7, 0, 6, 137]), (.putfield 347, 9, [13, 9, 0, 6, 139]),
  (.aload_n 0, 12, []), (.aload_n 0, 13, []), (.getfield 13, 14, [13, 8, 0, 6, 138]), (.putfield 17, 17, [13, 10, 0, 6, 140]), (.aload_n 0, 20, []), (.getfield 177, 21, [13, 7, 0, 6, 137]),
  (.ifCond .le 5, 24, [1, 2]), (.iconst (-1), 27, [0, 1]), (.ireturn, 28, [0]), (.aload_n 0, 29, []), (.getfield 20, 30, [13, 12, 2, 6, 142]), (.invokestatic 350, 33, [0, 239, 1, 0, 3, 0, 0, 0, 8, 27]),
  (.aload_n 0, 36, []), (.getfield 23, 37, [13, 13, 2, 6, 143]), (.invokestatic 350, 40, [0, 239, 1, 0, 3, 0, 0, 0, 8, 27]), (.aload_n 0, 43, []), (.getfield 26, 44, [13, 14, 2, 6, 144]), (.invokestatic 350, 47, [0, 239, 1, 0, 3, 0, 0, 0, 8, 27]),
  (.aload_n 0, 50, []), (.getfield 29, 51, [13, 15, 2, 6, 145]), (.invokestatic 350, 54, [0, 239, 1, 0, 3, 0, 0, 0, 8, 27]), (.aload_n 0, 57, []), (.getfield 32, 58, [13, 16, 2, 6, 146]), (.invokestatic 350, 61, [0, 239, 1, 0, 3, 0, 0, 0, 8, 27]),
  (.aload_n 0, 64, []), (.getfield 35, 65, [13, 17, 2, 6, 147]), (.invokestatic 350, 68, [0, 239, 1, 0, 3, 0, 0, 0, 8, 27]), (.aload_n 0, 71, []), (.getfield 42, 72, [13, 19, 2, 6, 149]), (.invokestatic 350, 75, [0, 239, 1, 0, 3, 0, 0, 0, 8, 27]),
  (.aload_n 0, 78, []), (.getfield 45, 79, [13, 20, 2, 6, 150]), (.invokestatic 350, 82, [0, 239, 1, 0, 3, 0, 0, 0, 8, 27]), (.aload_n 0, 85, []), (.getfield 48, 86, [13, 21, 2, 6, 151]), (.invokestatic 350, 89, [0, 239, 1, 0, 3, 0, 0, 0, 8, 27]),
  (.aload_n 0, 92, []), (.getfield 51, 93, [13, 22, 2, 6, 152]), (.invokestatic 350, 96, [0, 239, 1, 0, 3, 0, 0, 0, 8, 27]), (.aload_n 0, 99, []), (.getfield 54, 100, [13, 23, 2, 6, 153]), (.invokestatic 350, 103, [0, 239, 1, 0, 3, 0, 0, 0, 8, 27]),
  (.aload_n 0, 106, []), (.getfield 57, 107, [13, 24, 2, 6, 154]), (.invokestatic 350, 110, [0, 239, 1, 0, 3, 0, 0, 0, 8, 27]), (.iconst 0, 113, [1, 0]), (.istore_n 1, 114, []), (.nop, 115, [54, 1, 1]),
  (.iload_n 1, 115, []), (.bipush 80, 116, [1, 80]), (.if_icmp .ge 51, 118, [1, 30]), (.aload_n 0, 121, []), (.getfield 63, 122, [13, 34, 2, 6, 164]), (.iload_n 1, 125, []),
  (.aload_n 0, 126, []), (.getfield 42, 127, [13, 19, 2, 6, 149]), (.iload_n 1, 130, []), (.bipush 16, 131, [1, 16]), (.idiv, 133, []), (.iaload, 134, [20]),
  (.iconst 1, 135, [1, 1]), (.if_icmp .ne 25, 136, [1, 13]), (.iload_n 1, 139, []), (.bipush 16, 140, [1, 16]), (.idiv, 142, []), (.aload_n 0, 143, []),
  (.getfield 23, 144, [13, 13, 2, 6, 143]), (.iconst 0, 147, [1, 0]), (.iaload, 148, [20]), (.if_icmp .ge 12, 149, [1, 5]), (.aload_n 0, 152, []), (.getfield 51, 153, [13, 22, 2, 6, 152]),
  (.iload_n 1, 156, []), (.iaload, 157, [20]), (.goto 4, 158, [1, 2]), (.nop, 161, [82, 1, 1]), (.iconst 0, 161, [1, 0]), (.nop, 162, [84, 1, 1]),
  (.iastore, 162, []), (.iinc 1 1, 163, [1, 1]), (.goto (-51), 166, [0, 54, 1, 1]), (.aload_n 0, 169, []), (.getfield 63, 170, [13, 34, 2, 6, 164]), (.bipush 80, 173, [1, 80]),
  (.aload_n 0, 175, []), (.getfield 29, 176, [13, 15, 2, 6, 145]), (.iconst 0, 179, [1, 0]), (.iaload, 180, [20]), (.iastore, 181, []), (.aload_n 0, 182, []),
  (.iconst 0, 183, [1, 0]), (.putfield 354, 184, [13, 36, 0, 6, 166]), (.aload_n 0, 187, []), (.iconst 0, 188, [1, 0]), (.putfield 357, 189, [13, 37, 0, 6, 167]), (.aload_n 0, 192, []),
  (.iconst 0, 193, [1, 0]), (.putfield 360, 194, [13, 57, 0, 6, 187]), (.aload_n 0, 197, []), (.iconst 0, 198, [1, 0]), (.putfield 363, 199, [13, 50, 0, 6, 180]), (.iconst 0, 202, [1, 0]),
  (.istore_n 1, 203, []), (.nop, 204, [110, 1, 1]), (.iload_n 1, 204, []), (.iconst 3, 205, [1, 3]), (.if_icmp .ge 16, 206, [1, 7]), (.aload_n 0, 209, []),
  (.getfield 129, 210, [13, 63, 2, 6, 193]), (.iload_n 1, 213, []), (.iconst 0, 214, [1, 0]), (.bastore, 215, [23]), (.iinc 1 1, 216, [1, 1]), (.goto (-15), 219, [0, 110, 1, 1]),
  (.aload_n 0, 222, []), (.getfield 23, 223, [13, 13, 2, 6, 143]), (.iconst 0, 226, [1, 0]), (.iaload, 227, [20]), (.ireturn, 228, [0])
  ]
noncomputable def k_Mo_fault : List Ent := [
  (.iload_n 1, 0, []), (.ifCond .ne 10, 1, [1, 3]), (.aload_n 0, 4, []), (.getfield 347, 5, [13, 9, 0, 6, 139]), (.goto 16, 8, [1, 7]), (.iload_n 1, 11, []),
  (.iconst 1, 12, [1, 1]), (.if_icmp .ne 10, 13, [1, 3]), (.aload_n 0, 16, []), (.getfield 17, 17, [13, 10, 0, 6, 140]), (.goto 4, 20, [1, 1]), (.iconst (-1), 23, [0, 1]),
  (.ireturn, 24, [0])
  ]
noncomputable def k_Mo_wide : List Ent := [
  (.iconst 1, 0, [1, 1]), (.aload_n 0, 1, []), (.getfield 20, 2, [13, 12, 2, 6, 142]), (.iconst 0, 5, [1, 0]), (.iaload, 6, [20]), (.ishl, 7, []),
  (.ireturn, 8, [0])
  ]
noncomputable def k_Mo_everyBit : List Ent := [
  (.iconst 1, 0, [1, 1]), (.aload_n 0, 1, []), (.invokevirtual 366, 2, [1, 242, 0, 1, 1, 13, 0, 0, 8, 62]), (.ishl, 5, []), (.iconst 1, 6, [1, 1]), (.isub, 7, []),
  (.ireturn, 8, [0])
  ]
noncomputable def k_Mo_isRel : List Ent := [
  (.iload_n 1, 0, []), (.iconst 0, 1, [1, 0]), (.aload_n 0, 2, []), (.getfield 23, 3, [13, 13, 2, 6, 143]), (.iconst 0, 6, [1, 0]), (.iaload, 7, [20]),
  (.iconst 1, 8, [1, 1]), (.isub, 9, []), (.invokestatic 140, 10, [0, 195, 3, 1, 3, 0, 0, 0, 7, 95]), (.ireturn, 13, [1])
  ]
noncomputable def k_Mo_isNode : List Ent := [
  (.iload_n 1, 0, []), (.iconst 0, 1, [1, 0]), (.aload_n 0, 2, []), (.invokevirtual 366, 3, [1, 242, 0, 1, 1, 13, 0, 0, 8, 62]), (.iconst 1, 6, [1, 1]), (.isub, 7, []),
  (.invokestatic 140, 8, [0, 195, 3, 1, 3, 0, 0, 0, 7, 95]), (.ireturn, 11, [1])
  ]
noncomputable def k_Mo_pushes : List Ent := [
  (.iconst 0, 0, [1, 0]), (.istore_n 2, 1, []), (.nop, 2, [3, 1, 1, 1, 0]), (.iload_n 2, 2, []), (.bipush 16, 3, [1, 16]), (.if_icmp .ge 72, 5, [1, 42]),
  (.iload_n 1, 8, []), (.iconst 5, 9, [1, 5]), (.if_icmp .ge 17, 10, [1, 9]), (.aload_n 0, 13, []), (.getfield 69, 14, [13, 38, 2, 6, 168]), (.bipush 16, 17, [1, 16]),
  (.iload_n 1, 19, []), (.imul, 20, []), (.iload_n 2, 21, []), (.iadd, 22, []), (.iaload, 23, [20]), (.goto 19, 24, [1, 9]),
  (.iload_n 1, 27, []), (.bipush 10, 28, [1, 10]), (.if_icmp .ne 9, 30, [1, 4]), (.iconst 1, 33, [1, 1]), (.iload_n 2, 34, []), (.ishl, 35, []),
  (.goto 7, 36, [1, 2]), (.aload_n 0, 39, []), (.invokevirtual 369, 40, [1, 243, 0, 1, 1, 13, 0, 0, 8, 58]), (.nop, 43, [28, 1, 1, 1, 0]), (.istore_n 3, 43, []), (.aload_n 0, 44, []),
  (.getfield 72, 45, [13, 39, 2, 6, 169]), (.bipush 16, 48, [1, 16]), (.aload_n 0, 50, []), (.getfield 372, 51, [13, 42, 0, 6, 172]), (.imul, 54, []), (.iload_n 2, 55, []),
  (.iadd, 56, []), (.iload_n 2, 57, []), (.aload_n 0, 58, []), (.invokevirtual 366, 59, [1, 242, 0, 1, 1, 13, 0, 0, 8, 62]), (.if_icmp .ge 7, 62, [1, 2]), (.iload_n 3, 65, []),
  (.goto 4, 66, [1, 1]), (.iconst 0, 69, [1, 0]), (.nop, 70, [45, 1, 1, 1, 0]), (.iastore, 70, []), (.iinc 2 1, 71, [1, 1]), (.goto (-72), 74, [0, 3, 1, 1, 1, 0]),
  (.aload_n 0, 77, []), (.dup, 78, []), (.getfield 372, 79, [13, 42, 0, 6, 172]), (.iconst 1, 82, [1, 1]), (.iadd, 83, []), (.putfield 372, 84, [13, 42, 0, 6, 172]),
  (.return_, 87, [])
  ]
noncomputable def k_Mo_through : List Ent := [
  (.iconst 0, 0, [1, 0]), (.istore_n 3, 1, []), (.iconst 0, 2, [1, 0]), (.istore 4, 3, []), (.nop, 5, [5, 1, 1, 1, 1, 1]), (.iload 4, 5, []),
  (.bipush 16, 7, [1, 16]), (.if_icmp .ge 27, 9, [1, 15]), (.iload_n 0, 12, []), (.iload 4, 13, []), (.invokestatic 375, 15, [0, 196, 2, 1, 2, 0, 0, 0, 8, 70]), (.ifCond .eq 12, 18, [1, 8]),
  (.iload_n 3, 21, []), (.aload_n 1, 22, []), (.iload_n 2, 23, []), (.iload 4, 24, []), (.iadd, 26, []), (.iaload, 27, [20]),
  (.ior, 28, []), (.istore_n 3, 29, []), (.nop, 30, [21, 1, 1, 1, 1, 1]), (.iinc 4 1, 30, [1, 1]), (.goto (-28), 33, [0, 5, 1, 1, 1, 1, 1]), (.iload_n 3, 36, []),
  (.ireturn, 37, [0])
  ]
noncomputable def k_Mo_turnsBack : List Ent := [
  (.iconst 0, 0, [1, 0]), (.istore_n 3, 1, []), (.nop, 2, [3, 1, 1, 1, 1, 0]), (.iload_n 3, 2, []), (.bipush 16, 3, [1, 16]), (.if_icmp .ge 16, 5, [1, 7]),
  (.aload_n 0, 8, []), (.getfield 78, 9, [13, 41, 2, 6, 171]), (.iload_n 3, 12, []), (.iconst 0, 13, [1, 0]), (.iastore, 14, []), (.iinc 3 1, 15, [1, 1]),
  (.goto (-16), 18, [0, 3, 1, 1, 1, 1, 0]), (.iconst 0, 21, [1, 0]), (.istore_n 3, 22, []), (.nop, 23, [16, 1, 1, 1, 1, 0]), (.iload_n 3, 23, []), (.bipush 16, 24, [1, 16]),
  (.if_icmp .ge 51, 26, [1, 29]), (.iconst 0, 29, [1, 0]), (.istore 4, 30, []), (.nop, 32, [22, 1, 1, 1, 1, 1]), (.iload 4, 32, []), (.bipush 16, 34, [1, 16]),
  (.if_icmp .ge 35, 36, [1, 21]), (.aload_n 1, 39, []), (.iload_n 2, 40, []), (.iload_n 3, 41, []), (.iadd, 42, []), (.iaload, 43, [20]),
  (.iload 4, 44, []), (.invokestatic 375, 46, [0, 196, 2, 1, 2, 0, 0, 0, 8, 70]), (.ifCond .eq 16, 49, [1, 10]), (.aload_n 0, 52, []), (.getfield 78, 53, [13, 41, 2, 6, 171]), (.iload 4, 56, []),
  (.dup2, 58, []), (.iaload, 59, [20]), (.iconst 1, 60, [1, 1]), (.iload_n 3, 61, []), (.ishl, 62, []), (.ior, 63, []),
  (.iastore, 64, []), (.nop, 65, [44, 1, 1, 1, 1, 1]), (.iinc 4 1, 65, [1, 1]), (.goto (-36), 68, [0, 22, 1, 1, 1, 1, 1]), (.iinc 3 1, 71, [1, 1]), (.goto (-51), 74, [0, 16, 1, 1, 1, 1, 0]),
  (.iconst 0, 77, [1, 0]), (.istore_n 3, 78, []), (.nop, 79, [51, 1, 1, 1, 1, 0]), (.iload_n 3, 79, []), (.bipush 16, 80, [1, 16]), (.if_icmp .ge 20, 82, [1, 11]),
  (.aload_n 1, 85, []), (.iload_n 2, 86, []), (.iload_n 3, 87, []), (.iadd, 88, []), (.aload_n 0, 89, []), (.getfield 78, 90, [13, 41, 2, 6, 171]),
  (.iload_n 3, 93, []), (.iaload, 94, [20]), (.iastore, 95, []), (.iinc 3 1, 96, [1, 1]), (.goto (-20), 99, [0, 51, 1, 1, 1, 1, 0]), (.return_, 102, [])
  ]
noncomputable def k_Mo_joined : List Ent := [
  (.iload_n 0, 0, []), (.bipush 20, 1, [1, 20]), (.if_icmp .ne 9, 3, [1, 4]), (.iload_n 1, 6, []), (.iload_n 2, 7, []), (.ior, 8, []),
  (.goto 20, 9, [1, 12]), (.iload_n 0, 12, []), (.bipush 22, 13, [1, 22]), (.if_icmp .ne 9, 15, [1, 4]), (.iload_n 1, 18, []), (.iload_n 2, 19, []),
  (.iand, 20, []), (.goto 8, 21, [1, 5]), (.iload_n 1, 24, []), (.iload_n 2, 25, []), (.iconst (-1), 26, [0, 1]), (.ixor, 27, []),
  (.iand, 28, []), (.ireturn, 29, [0])
  ]
noncomputable def k_Mo_works : List Ent := [
  (.iload_n 1, 0, []), (.bipush 20, 1, [1, 20]), (.if_icmp .ge 9, 3, [1, 4]), (.aload_n 0, 6, []), (.iload_n 1, 7, []), (.invokevirtual 379, 8, [1, 246, 1, 0, 4, 13, 0, 0, 8, 54]),
  (.return_, 11, []), (.iload_n 1, 12, []), (.bipush 24, 13, [1, 24]), (.if_icmp .ne 21, 15, [1, 11]), (.aload_n 0, 18, []), (.aload_n 0, 19, []),
  (.getfield 72, 20, [13, 39, 2, 6, 169]), (.bipush 16, 23, [1, 16]), (.aload_n 0, 25, []), (.getfield 372, 26, [13, 42, 0, 6, 172]), (.iconst 1, 29, [1, 1]), (.isub, 30, []),
  (.imul, 31, []), (.invokevirtual 382, 32, [1, 248, 2, 0, 5, 13, 0, 0, 8, 66]), (.return_, 35, []), (.aload_n 0, 36, []), (.dup, 37, []), (.getfield 372, 38, [13, 42, 0, 6, 172]),
  (.iconst 1, 41, [1, 1]), (.isub, 42, []), (.putfield 372, 43, [13, 42, 0, 6, 172]), (.bipush 16, 46, [1, 16]), (.aload_n 0, 48, []), (.getfield 372, 49, [13, 42, 0, 6, 172]),
  (.iconst 1, 52, [1, 1]), (.isub, 53, []), (.imul, 54, []), (.istore_n 2, 55, []), (.bipush 16, 56, [1, 16]), (.aload_n 0, 58, []),
  (.getfield 372, 59, [13, 42, 0, 6, 172]), (.imul, 62, []), (.istore_n 3, 63, []), (.iconst 0, 64, [1, 0]), (.istore 4, 65, []), (.nop, 67, [42, 1, 1, 1, 1, 1]),
  (.iload 4, 67, []), (.bipush 16, 69, [1, 16]), (.if_icmp .ge 66, 71, [1, 37]), (.aload_n 0, 74, []), (.getfield 72, 75, [13, 39, 2, 6, 169]), (.iload_n 2, 78, []),
  (.iload 4, 79, []), (.iadd, 81, []), (.iload_n 1, 82, []), (.bipush 23, 83, [1, 23]), (.if_icmp .ne 23, 85, [1, 11]), (.aload_n 0, 88, []),
  (.getfield 72, 89, [13, 39, 2, 6, 169]), (.iload_n 2, 92, []), (.iload 4, 93, []), (.iadd, 95, []), (.iaload, 96, [20]), (.aload_n 0, 97, []),
  (.getfield 72, 98, [13, 39, 2, 6, 169]), (.iload_n 3, 101, []), (.invokestatic 386, 102, [0, 247, 3, 1, 5, 0, 0, 0, 8, 73]), (.goto 25, 105, [1, 14]), (.iload_n 1, 108, []), (.aload_n 0, 109, []),
  (.getfield 72, 110, [13, 39, 2, 6, 169]), (.iload_n 2, 113, []), (.iload 4, 114, []), (.iadd, 116, []), (.iaload, 117, [20]), (.aload_n 0, 118, []),
  (.getfield 72, 119, [13, 39, 2, 6, 169]), (.iload_n 3, 122, []), (.iload 4, 123, []), (.iadd, 125, []), (.iaload, 126, [20]), (.invokestatic 390, 127, [0, 249, 3, 1, 3, 0, 0, 0, 8, 76]),
  (.nop, 130, [79, 1, 1, 1, 1, 1]), (.iastore, 130, []), (.iinc 4 1, 131, [1, 1]), (.goto (-67), 134, [0, 42, 1, 1, 1, 1, 1]), (.return_, 137, [])
  ]
noncomputable def k_Mo_lays2 : List Ent := [
  (.iconst 0, 0, [1, 0]), (.istore_n 1, 1, []), (.nop, 2, [3, 1, 1, 0]), (.iload_n 1, 2, []), (.aload_n 0, 3, []), (.getfield 23, 4, [13, 13, 2, 6, 143]),
  (.iconst 0, 7, [1, 0]), (.iaload, 8, [20]), (.if_icmp .ge 109, 9, [1, 66]), (.aload_n 0, 12, []), (.iconst 0, 13, [1, 0]), (.putfield 372, 14, [13, 42, 0, 6, 172]),
  (.aload_n 0, 17, []), (.getfield 45, 18, [13, 20, 2, 6, 150]), (.iload_n 1, 21, []), (.iaload, 22, [20]), (.istore_n 2, 23, []), (.nop, 24, [18, 1, 1, 1]),
  (.iload_n 2, 24, []), (.aload_n 0, 25, []), (.getfield 45, 26, [13, 20, 2, 6, 150]), (.iload_n 1, 29, []), (.iaload, 30, [20]), (.aload_n 0, 31, []),
  (.getfield 48, 32, [13, 21, 2, 6, 151]), (.iload_n 1, 35, []), (.iaload, 36, [20]), (.iadd, 37, []), (.if_icmp .ge 19, 38, [1, 8]), (.aload_n 0, 41, []),
  (.aload_n 0, 42, []), (.getfield 54, 43, [13, 23, 2, 6, 153]), (.iload_n 2, 46, []), (.iaload, 47, [20]), (.invokevirtual 394, 48, [1, 250, 1, 0, 5, 13, 0, 0, 8, 50]), (.iinc 2 1, 51, [1, 1]),
  (.goto (-30), 54, [0, 18, 1, 1, 1]), (.iconst 0, 57, [1, 0]), (.istore_n 2, 58, []), (.nop, 59, [40, 1, 1, 1]), (.iload_n 2, 59, []), (.bipush 16, 60, [1, 16]),
  (.if_icmp .ge 50, 62, [1, 30]), (.aload_n 0, 65, []), (.getfield 69, 66, [13, 38, 2, 6, 168]), (.bipush 16, 69, [1, 16]), (.iload_n 1, 71, []), (.imul, 72, []),
  (.iload_n 2, 73, []), (.iadd, 74, []), (.aload_n 0, 75, []), (.getfield 42, 76, [13, 19, 2, 6, 149]), (.iload_n 1, 79, []), (.iaload, 80, [20]),
  (.iconst 1, 81, [1, 1]), (.if_icmp .ne 17, 82, [1, 9]), (.aload_n 0, 85, []), (.getfield 63, 86, [13, 34, 2, 6, 164]), (.bipush 16, 89, [1, 16]), (.iload_n 1, 91, []),
  (.imul, 92, []), (.iload_n 2, 93, []), (.iadd, 94, []), (.iaload, 95, [20]), (.goto 9, 96, [1, 4]), (.aload_n 0, 99, []),
  (.getfield 72, 100, [13, 39, 2, 6, 169]), (.iload_n 2, 103, []), (.iaload, 104, [20]), (.nop, 105, [70, 1, 1, 1]), (.iastore, 105, []), (.iinc 2 1, 106, [1, 1]),
  (.goto (-50), 109, [0, 40, 1, 1, 1]), (.iinc 1 1, 112, [1, 1]), (.goto (-113), 115, [0, 3, 1, 1, 0]), (.return_, 118, [])
  ]
noncomputable def k_Mo_manyIn : List Ent := [
  (.iconst 0, 0, [1, 0]), (.istore_n 2, 1, []), (.iconst 0, 2, [1, 0]), (.istore_n 3, 3, []), (.nop, 4, [5, 1, 1, 1, 1]), (.iload_n 3, 4, []),
  (.bipush 16, 5, [1, 16]), (.if_icmp .ge 20, 7, [1, 11]), (.iload_n 2, 10, []), (.aload_n 0, 11, []), (.iload_n 1, 12, []), (.iload_n 3, 13, []),
  (.iadd, 14, []), (.iaload, 15, [20]), (.invokestatic 397, 16, [0, 197, 1, 1, 3, 0, 0, 0, 8, 90]), (.iadd, 19, []), (.istore_n 2, 20, []), (.iinc 3 1, 21, [1, 1]),
  (.goto (-20), 24, [0, 5, 1, 1, 1, 1]), (.iload_n 2, 27, []), (.ireturn, 28, [0])
  ]
noncomputable def k_Mo_pairsAll : List Ent := [
  (.iconst 0, 0, [1, 0]), (.istore_n 1, 1, []), (.iconst 0, 2, [1, 0]), (.istore_n 2, 3, []), (.nop, 4, [5, 1, 1, 1]), (.iload_n 2, 4, []),
  (.aload_n 0, 5, []), (.getfield 23, 6, [13, 13, 2, 6, 143]), (.iconst 0, 9, [1, 0]), (.iaload, 10, [20]), (.if_icmp .ge 37, 11, [1, 20]), (.iload_n 1, 14, []),
  (.aload_n 0, 15, []), (.getfield 42, 16, [13, 19, 2, 6, 149]), (.iload_n 2, 19, []), (.iaload, 20, [20]), (.iconst 1, 21, [1, 1]), (.if_icmp .ne 17, 22, [1, 7]),
  (.aload_n 0, 25, []), (.getfield 63, 26, [13, 34, 2, 6, 164]), (.bipush 16, 29, [1, 16]), (.iload_n 2, 31, []), (.imul, 32, []), (.invokestatic 400, 33, [0, 252, 2, 1, 4, 0, 0, 0, 8, 93]),
  (.goto 4, 36, [1, 1]), (.iconst 0, 39, [1, 0]), (.nop, 40, [27, 1, 0, 1]), (.iadd, 40, []), (.istore_n 1, 41, []), (.iinc 2 1, 42, [1, 1]),
  (.goto (-41), 45, [0, 5, 1, 1, 1]), (.iload_n 1, 48, []), (.ireturn, 49, [0])
  ]
noncomputable def k_Mo_inBlock : List Ent := [
  (.iconst 0, 0, [1, 0]), (.istore 5, 1, []), (.iconst 1, 3, [1, 1]), (.iload 4, 4, []), (.ishl, 6, []), (.iconst 1, 7, [1, 1]),
  (.isub, 8, []), (.iload_n 3, 9, []), (.ishl, 10, []), (.istore 6, 11, []), (.iload_n 2, 13, []), (.istore 7, 14, []),
  (.nop, 16, [13, 1, 1, 1, 0, 1, 1, 1, 1]), (.iload 7, 16, []), (.iload_n 2, 18, []), (.iload 4, 19, []), (.iadd, 21, []), (.if_icmp .ge 26, 22, [1, 13]),
  (.iload 5, 25, []), (.aload_n 0, 27, []), (.iload_n 1, 28, []), (.iload 7, 29, []), (.iadd, 31, []), (.iaload, 32, [20]),
  (.iload 6, 33, []), (.iand, 35, []), (.invokestatic 397, 36, [0, 197, 1, 1, 3, 0, 0, 0, 8, 90]), (.iadd, 39, []), (.istore 5, 40, []), (.iinc 7 1, 42, [1, 1]),
  (.goto (-29), 45, [0, 13, 1, 1, 1, 0, 1, 1, 1, 1]), (.iload 5, 48, []), (.ireturn, 50, [0])
  ]
noncomputable def k_Mo_laysQuarters : List Ent := [
  (.aload_n 0, 0, []), (.invokevirtual 366, 1, [1, 242, 0, 1, 1, 13, 0, 0, 8, 62]), (.iload_n 3, 4, []), (.ishr, 5, []), (.istore 6, 6, []), (.iconst 0, 8, [1, 0]),
  (.istore 7, 9, []), (.nop, 11, [8, 1, 1, 1, 1, 1, 1, 1, 1]), (.iload 7, 11, []), (.iconst 4, 13, [1, 4]), (.if_icmp .ge 121, 14, [1, 68]), (.aload_n 0, 17, []),
  (.getfield 81, 18, [13, 43, 2, 6, 173]), (.aload_n 0, 21, []), (.getfield 404, 22, [13, 47, 0, 6, 177]), (.iload_n 3, 25, []), (.iastore, 26, []), (.aload_n 0, 27, []),
  (.getfield 84, 28, [13, 44, 2, 6, 174]), (.aload_n 0, 31, []), (.getfield 404, 32, [13, 47, 0, 6, 177]), (.iload 4, 35, []), (.iload 7, 37, []), (.iconst 2, 39, [1, 2]),
  (.if_icmp .lt 8, 40, [1, 2]), (.iload 6, 43, []), (.goto 4, 45, [1, 1]), (.iconst 0, 48, [1, 0]), (.nop, 49, [29, 1, 1, 1, 1, 1, 1, 1, 1]), (.iadd, 49, []),
  (.iastore, 50, []), (.aload_n 0, 51, []), (.getfield 87, 52, [13, 45, 2, 6, 175]), (.aload_n 0, 55, []), (.getfield 404, 56, [13, 47, 0, 6, 177]), (.iload 5, 59, []),
  (.iload 7, 61, []), (.iconst 2, 63, [1, 2]), (.irem, 64, []), (.iconst 1, 65, [1, 1]), (.if_icmp .ne 8, 66, [1, 2]), (.iload 6, 69, []),
  (.goto 4, 71, [1, 1]), (.iconst 0, 74, [1, 0]), (.nop, 75, [45, 1, 1, 1, 1, 1, 1, 1, 1]), (.iadd, 75, []), (.iastore, 76, []), (.aload_n 0, 77, []),
  (.getfield 90, 78, [13, 46, 2, 6, 176]), (.aload_n 0, 81, []), (.getfield 404, 82, [13, 47, 0, 6, 177]), (.aload_n 1, 85, []), (.iload_n 2, 86, []), (.aload_n 0, 87, []),
  (.getfield 84, 88, [13, 44, 2, 6, 174]), (.aload_n 0, 91, []), (.getfield 404, 92, [13, 47, 0, 6, 177]), (.iaload, 95, [20]), (.aload_n 0, 96, []), (.getfield 87, 97, [13, 45, 2, 6, 175]),
  (.aload_n 0, 100, []), (.getfield 404, 101, [13, 47, 0, 6, 177]), (.iaload, 104, [20]), (.iload 6, 105, []), (.invokestatic 407, 107, [0, 254, 5, 1, 8, 0, 0, 0, 8, 87]), (.ifCond .le 7, 110, [1, 2]),
  (.iconst 1, 113, [1, 1]), (.goto 4, 114, [1, 1]), (.iconst 0, 117, [1, 0]), (.nop, 118, [70, 1, 1, 1, 1, 1, 1, 1, 1]), (.iastore, 118, []), (.aload_n 0, 119, []),
  (.dup, 120, []), (.getfield 404, 121, [13, 47, 0, 6, 177]), (.iconst 1, 124, [1, 1]), (.iadd, 125, []), (.putfield 404, 126, [13, 47, 0, 6, 177]), (.iinc 7 1, 129, [1, 1]),
  (.goto (-121), 132, [0, 8, 1, 1, 1, 1, 1, 1, 1, 1]), (.return_, 135, [])
  ]
noncomputable def k_Mo_laysTree : List Ent := [
  (.aload_n 0, 0, []), (.iconst 0, 1, [1, 0]), (.putfield 404, 2, [13, 47, 0, 6, 177]), (.aload_n 0, 5, []), (.aload_n 1, 6, []), (.iload_n 2, 7, []),
  (.iconst 1, 8, [1, 1]), (.iconst 0, 9, [1, 0]), (.iconst 0, 10, [1, 0]), (.invokevirtual 411, 11, [1, 255, 5, 0, 8, 13, 0, 0, 8, 83]), (.iconst 0, 14, [1, 0]), (.istore_n 3, 15, []),
  (.nop, 16, [13, 1, 1, 1, 1]), (.iload_n 3, 16, []), (.aload_n 0, 17, []), (.getfield 404, 18, [13, 47, 0, 6, 177]), (.if_icmp .ge 60, 21, [1, 36]), (.aload_n 0, 24, []),
  (.getfield 90, 25, [13, 46, 2, 6, 176]), (.iload_n 3, 28, []), (.iaload, 29, [20]), (.iconst 1, 30, [1, 1]), (.if_icmp .ne 44, 31, [1, 27]), (.aload_n 0, 34, []),
  (.getfield 81, 35, [13, 43, 2, 6, 173]), (.iload_n 3, 38, []), (.iaload, 39, [20]), (.aload_n 0, 40, []), (.getfield 20, 41, [13, 12, 2, 6, 142]), (.iconst 0, 44, [1, 0]),
  (.iaload, 45, [20]), (.if_icmp .ge 29, 46, [1, 18]), (.aload_n 0, 49, []), (.aload_n 1, 50, []), (.iload_n 2, 51, []), (.aload_n 0, 52, []),
  (.getfield 81, 53, [13, 43, 2, 6, 173]), (.iload_n 3, 56, []), (.iaload, 57, [20]), (.iconst 1, 58, [1, 1]), (.iadd, 59, []), (.aload_n 0, 60, []),
  (.getfield 84, 61, [13, 44, 2, 6, 174]), (.iload_n 3, 64, []), (.iaload, 65, [20]), (.aload_n 0, 66, []), (.getfield 87, 67, [13, 45, 2, 6, 175]), (.iload_n 3, 70, []),
  (.iaload, 71, [20]), (.invokevirtual 411, 72, [1, 255, 5, 0, 8, 13, 0, 0, 8, 83]), (.nop, 75, [51, 1, 1, 1, 1]), (.iinc 3 1, 75, [1, 1]), (.goto (-62), 78, [0, 13, 1, 1, 1, 1]), (.return_, 81, [])
  ]
noncomputable def k_Mo_laysRel : List Ent := [
  (.aload_n 0, 0, []), (.iload_n 1, 1, []), (.invokevirtual 415, 2, [1, 244, 1, 1, 2, 13, 0, 0, 8, 42]), (.ifCond .ne 5, 5, [1, 2]), (.iconst 0, 8, [1, 0]), (.ireturn, 9, [1]),
  (.aload_n 0, 10, []), (.invokevirtual 418, 11, [1, 251, 0, 0, 3, 13, 0, 0, 8, 46]), (.aload_n 0, 14, []), (.aload_n 0, 15, []), (.getfield 69, 16, [13, 38, 2, 6, 168]), (.bipush 16, 19, [1, 16]),
  (.iload_n 1, 21, []), (.imul, 22, []), (.invokevirtual 420, 23, [1, 256, 2, 0, 4, 13, 0, 0, 8, 79]), (.iconst 1, 26, [1, 1]), (.ireturn, 27, [1])
  ]
noncomputable def k_Mo_laysTwo : List Ent := [
  (.aload_n 0, 0, []), (.iload_n 1, 1, []), (.invokevirtual 415, 2, [1, 244, 1, 1, 2, 13, 0, 0, 8, 42]), (.ifCond .eq 11, 5, [1, 4]), (.aload_n 0, 8, []), (.iload_n 2, 9, []),
  (.invokevirtual 415, 10, [1, 244, 1, 1, 2, 13, 0, 0, 8, 42]), (.ifCond .ne 5, 13, [1, 2]), (.iconst 0, 16, [1, 0]), (.ireturn, 17, [1]), (.aload_n 0, 18, []), (.invokevirtual 418, 19, [1, 251, 0, 0, 3, 13, 0, 0, 8, 46]),
  (.iconst 1, 22, [1, 1]), (.ireturn, 23, [1])
  ]
noncomputable def k_Mo_truth : List Ent := [
  (.iload_n 0, 0, []), (.ifCond .eq 7, 1, [1, 2]), (.iconst 1, 4, [1, 1]), (.goto 4, 5, [1, 1]), (.iconst 0, 8, [1, 0]), (.ireturn, 9, [0])
  ]
noncomputable def k_Mo_done : List Ent := [
  (.iload_n 0, 0, []), (.tableswitch 146 (-28) (-20) #[129, 115, 101, 87, 75, 63, 59, 55, 51], 1, [66, 55, 46, 37, 28, 20, 12, 8, 4, 0]), (.iload_n 1, 52, []), (.iload_n 2, 53, []), (.iadd, 54, []), (.ireturn, 55, [0]),
  (.iload_n 1, 56, []), (.iload_n 2, 57, []), (.isub, 58, []), (.ireturn, 59, [0]), (.iload_n 1, 60, []), (.iload_n 2, 61, []),
  (.imul, 62, []), (.ireturn, 63, [0]), (.iload_n 2, 64, []), (.ifCond .ne 7, 65, [1, 2]), (.iconst 0, 68, [1, 0]), (.goto 6, 69, [1, 3]),
  (.iload_n 1, 72, []), (.iload_n 2, 73, []), (.idiv, 74, []), (.ireturn, 75, [0]), (.iload_n 2, 76, []), (.ifCond .ne 7, 77, [1, 2]),
  (.iconst 0, 80, [1, 0]), (.goto 6, 81, [1, 3]), (.iload_n 1, 84, []), (.iload_n 2, 85, []), (.irem, 86, []), (.ireturn, 87, [0]),
  (.iload_n 1, 88, []), (.iload_n 2, 89, []), (.if_icmp .ge 7, 90, [1, 2]), (.iconst 1, 93, [1, 1]), (.goto 4, 94, [1, 1]), (.iconst 0, 97, [1, 0]),
  (.nop, 98, [37, 0, 0, 0]), (.invokestatic 423, 98, [0, 259, 1, 1, 1, 0, 0, 0, 8, 104]), (.ireturn, 101, [0]), (.iload_n 1, 102, []), (.iload_n 2, 103, []), (.if_icmp .le 7, 104, [1, 2]),
  (.iconst 1, 107, [1, 1]), (.goto 4, 108, [1, 1]), (.iconst 0, 111, [1, 0]), (.nop, 112, [46, 0, 0, 0]), (.invokestatic 423, 112, [0, 259, 1, 1, 1, 0, 0, 0, 8, 104]), (.ireturn, 115, [0]),
  (.iload_n 1, 116, []), (.iload_n 2, 117, []), (.if_icmp .ne 7, 118, [1, 2]), (.iconst 1, 121, [1, 1]), (.goto 4, 122, [1, 1]), (.iconst 0, 125, [1, 0]),
  (.nop, 126, [55, 0, 0, 0]), (.invokestatic 423, 126, [0, 259, 1, 1, 1, 0, 0, 0, 8, 104]), (.ireturn, 129, [0]), (.iload_n 1, 130, []), (.ifCond .eq 11, 131, [1, 4]), (.iload_n 2, 134, []),
  (.ifCond .eq 7, 135, [1, 2]), (.iconst 1, 138, [1, 1]), (.goto 4, 139, [1, 2]), (.nop, 142, [64, 0, 0, 0]), (.iconst 0, 142, [1, 0]), (.nop, 143, [66, 0, 0, 0]),
  (.invokestatic 423, 143, [0, 259, 1, 1, 1, 0, 0, 0, 8, 104]), (.ireturn, 146, [0]), (.iload_n 1, 147, []), (.ifCond .ne 7, 148, [1, 2]), (.iload_n 2, 151, []), (.ifCond .eq 7, 152, [1, 3]),
  (.nop, 155, [73, 0, 0, 0]), (.iconst 1, 155, [1, 1]), (.goto 4, 156, [1, 1]), (.iconst 0, 159, [1, 0]), (.nop, 160, [77, 0, 0, 0]), (.invokestatic 423, 160, [0, 259, 1, 1, 1, 0, 0, 0, 8, 104]),
  (.ireturn, 163, [0])
  ]
noncomputable def k_Mo_keptBy : List Ent := [
  (.aload_n 0, 0, []), (.getfield 32, 1, [13, 16, 2, 6, 146]), (.iconst 0, 4, [1, 0]), (.iaload, 5, [20]), (.ifCond .ne 5, 6, [1, 2]), (.iconst 1, 9, [1, 1]),
  (.ireturn, 10, [0]), (.iconst 0, 11, [1, 0]), (.istore 4, 12, []), (.iconst 0, 14, [1, 0]), (.istore 5, 15, []), (.nop, 17, [12, 1, 1, 1, 1, 1, 1, 0]),
  (.iload 5, 17, []), (.aload_n 0, 19, []), (.getfield 32, 20, [13, 16, 2, 6, 146]), (.iconst 0, 23, [1, 0]), (.iaload, 24, [20]), (.if_icmp .ge 143, 25, [1, 74]),
  (.aload_n 0, 28, []), (.getfield 57, 29, [13, 24, 2, 6, 154]), (.iload 5, 32, []), (.iaload, 34, [20]), (.istore 6, 35, []), (.iload 6, 37, []),
  (.bipush (-20), 39, [0, 20]), (.if_icmp .le 49, 41, [1, 22]), (.aload_n 0, 44, []), (.getfield 93, 45, [13, 48, 2, 6, 178]), (.iload 4, 48, []), (.iload 6, 50, []),
  (.ifCond .lt 8, 52, [1, 2]), (.iload 6, 55, []), (.goto 26, 57, [1, 11]), (.iload 6, 60, []), (.bipush (-10), 62, [0, 10]), (.if_icmp .ne 7, 64, [1, 2]),
  (.iload_n 1, 67, []), (.goto 15, 68, [1, 6]), (.iload 6, 71, []), (.bipush (-11), 73, [0, 11]), (.if_icmp .ne 7, 75, [1, 2]), (.iload_n 2, 78, []),
  (.goto 4, 79, [1, 1]), (.iload_n 3, 82, []), (.nop, 83, [45, 1, 1, 1, 1, 1, 1, 0]), (.iastore, 83, []), (.iinc 4 1, 84, [1, 1]), (.goto 75, 87, [1, 41]),
  (.iload 6, 90, []), (.bipush (-30), 92, [0, 30]), (.if_icmp .ne 35, 94, [1, 19]), (.aload_n 0, 97, []), (.getfield 93, 98, [13, 48, 2, 6, 178]), (.iload 4, 101, []),
  (.iconst 1, 103, [1, 1]), (.isub, 104, []), (.aload_n 0, 105, []), (.getfield 93, 106, [13, 48, 2, 6, 178]), (.iload 4, 109, []), (.iconst 1, 111, [1, 1]),
  (.isub, 112, []), (.iaload, 113, [20]), (.ifCond .ne 7, 114, [1, 2]), (.iconst 1, 117, [1, 1]), (.goto 4, 118, [1, 1]), (.iconst 0, 121, [1, 0]),
  (.nop, 122, [67, 1, 1, 1, 1, 1, 1, 0]), (.invokestatic 423, 122, [0, 259, 1, 1, 1, 0, 0, 0, 8, 104]), (.iastore, 125, []), (.goto 36, 126, [1, 19]), (.iinc 4 (-1), 129, [0, 1]), (.aload_n 0, 132, []),
  (.getfield 93, 133, [13, 48, 2, 6, 178]), (.iload 4, 136, []), (.iconst 1, 138, [1, 1]), (.isub, 139, []), (.iload 6, 140, []), (.aload_n 0, 142, []),
  (.getfield 93, 143, [13, 48, 2, 6, 178]), (.iload 4, 146, []), (.iconst 1, 148, [1, 1]), (.isub, 149, []), (.iaload, 150, [20]), (.aload_n 0, 151, []),
  (.getfield 93, 152, [13, 48, 2, 6, 178]), (.iload 4, 155, []), (.iaload, 157, [20]), (.invokestatic 427, 158, [0, 260, 3, 1, 3, 0, 0, 0, 8, 107]), (.iastore, 161, []), (.nop, 162, [90, 1, 1, 1, 1, 1, 1, 0]),
  (.iinc 5 1, 162, [1, 1]), (.goto (-148), 165, [0, 12, 1, 1, 1, 1, 1, 1, 0]), (.aload_n 0, 168, []), (.getfield 93, 169, [13, 48, 2, 6, 178]), (.iconst 0, 172, [1, 0]), (.iaload, 173, [20]),
  (.ireturn, 174, [0])
  ]
noncomputable def k_Mo_sifts : List Ent := [
  (.aload_n 0, 0, []), (.getfield 69, 1, [13, 38, 2, 6, 168]), (.bipush 16, 4, [1, 16]), (.iload_n 1, 6, []), (.imul, 7, []), (.invokestatic 400, 8, [0, 252, 2, 1, 4, 0, 0, 0, 8, 93]),
  (.istore_n 2, 11, []), (.iconst 0, 12, [1, 0]), (.istore_n 3, 13, []), (.nop, 14, [10, 1, 1, 1, 1, 0]), (.iload_n 3, 14, []), (.bipush 16, 15, [1, 16]),
  (.if_icmp .ge 75, 17, [1, 43]), (.aload_n 0, 20, []), (.getfield 75, 21, [13, 40, 2, 6, 170]), (.iload_n 3, 24, []), (.iconst 0, 25, [1, 0]), (.iastore, 26, []),
  (.iconst 0, 27, [1, 0]), (.istore 4, 28, []), (.nop, 30, [21, 1, 1, 1, 1, 1]), (.iload 4, 30, []), (.bipush 16, 32, [1, 16]), (.if_icmp .ge 52, 34, [1, 30]),
  (.aload_n 0, 37, []), (.getfield 69, 38, [13, 38, 2, 6, 168]), (.bipush 16, 41, [1, 16]), (.iload_n 1, 43, []), (.imul, 44, []), (.iload_n 3, 45, []),
  (.iadd, 46, []), (.iaload, 47, [20]), (.iload 4, 48, []), (.invokestatic 375, 50, [0, 196, 2, 1, 2, 0, 0, 0, 8, 70]), (.ifCond .eq 27, 53, [1, 16]), (.aload_n 0, 56, []),
  (.iload_n 3, 57, []), (.iload 4, 58, []), (.iload_n 2, 60, []), (.invokevirtual 430, 61, [1, 261, 3, 1, 7, 13, 0, 0, 8, 100]), (.ifCond .eq 16, 64, [1, 10]), (.aload_n 0, 67, []),
  (.getfield 75, 68, [13, 40, 2, 6, 170]), (.iload_n 3, 71, []), (.dup2, 72, []), (.iaload, 73, [20]), (.iconst 1, 74, [1, 1]), (.iload 4, 75, []),
  (.ishl, 77, []), (.ior, 78, []), (.iastore, 79, []), (.nop, 80, [52, 1, 1, 1, 1, 1]), (.iinc 4 1, 80, [1, 1]), (.goto (-53), 83, [0, 21, 1, 1, 1, 1, 1]),
  (.iinc 3 1, 86, [1, 1]), (.goto (-75), 89, [0, 10, 1, 1, 1, 1, 0]), (.return_, 92, [])
  ]
noncomputable def k_Mo_relation2 : List Ent := [
  (.aload_n 0, 0, []), (.iload_n 1, 1, []), (.invokevirtual 433, 2, [1, 257, 1, 1, 2, 13, 0, 0, 8, 38]), (.ifCond .ne 5, 5, [1, 2]), (.iconst (-1), 8, [0, 1]), (.ireturn, 9, [0]),
  (.iload_n 2, 10, []), (.tableswitch 86 0 4 #[33, 40, 52, 57, 72], 11, [32, 0, 5, 12, 15, 24]), (.aload_n 0, 44, []), (.getfield 42, 45, [13, 19, 2, 6, 149]), (.iload_n 1, 48, []), (.iaload, 49, [20]),
  (.ireturn, 50, [0]), (.aload_n 0, 51, []), (.getfield 69, 52, [13, 38, 2, 6, 168]), (.bipush 16, 55, [1, 16]), (.iload_n 1, 57, []), (.imul, 58, []),
  (.invokestatic 400, 59, [0, 252, 2, 1, 4, 0, 0, 0, 8, 93]), (.ireturn, 62, [0]), (.aload_n 0, 63, []), (.getfield 404, 64, [13, 47, 0, 6, 177]), (.ireturn, 67, [0]), (.aload_n 0, 68, []),
  (.invokevirtual 366, 69, [1, 242, 0, 1, 1, 13, 0, 0, 8, 62]), (.aload_n 0, 72, []), (.invokevirtual 366, 73, [1, 242, 0, 1, 1, 13, 0, 0, 8, 62]), (.imul, 76, []), (.aload_n 0, 77, []), (.getfield 404, 78, [13, 47, 0, 6, 177]),
  (.isub, 81, []), (.ireturn, 82, [0]), (.aload_n 0, 83, []), (.iload_n 1, 84, []), (.invokevirtual 436, 85, [1, 262, 1, 0, 5, 13, 0, 0, 8, 96]), (.aload_n 0, 88, []),
  (.getfield 75, 89, [13, 40, 2, 6, 170]), (.iconst 0, 92, [1, 0]), (.invokestatic 400, 93, [0, 252, 2, 1, 4, 0, 0, 0, 8, 93]), (.ireturn, 96, [0]), (.iconst (-1), 97, [0, 1]), (.ireturn, 98, [0])
  ]
noncomputable def k_Mo_arePair : List Ent := [
  (.aload_n 0, 0, []), (.iload_n 1, 1, []), (.invokevirtual 415, 2, [1, 244, 1, 1, 2, 13, 0, 0, 8, 42]), (.ifCond .eq 23, 5, [1, 10]), (.aload_n 0, 8, []), (.iload_n 2, 9, []),
  (.invokevirtual 439, 10, [1, 245, 1, 1, 2, 13, 0, 0, 8, 118]), (.ifCond .eq 15, 13, [1, 6]), (.aload_n 0, 16, []), (.iload_n 3, 17, []), (.invokevirtual 439, 18, [1, 245, 1, 1, 2, 13, 0, 0, 8, 118]), (.ifCond .eq 7, 21, [1, 2]),
  (.iconst 1, 24, [1, 1]), (.goto 4, 25, [1, 1]), (.iconst 0, 28, [1, 0]), (.ireturn, 29, [1])
  ]
noncomputable def k_Mo_has : List Ent := [
  (.aload_n 0, 0, []), (.iload_n 1, 1, []), (.iload_n 2, 2, []), (.iload_n 3, 3, []), (.invokevirtual 442, 4, [1, 264, 3, 1, 4, 13, 0, 0, 8, 114]), (.ifCond .ne 5, 7, [1, 2]),
  (.iconst (-1), 10, [0, 1]), (.ireturn, 11, [0]), (.aload_n 0, 12, []), (.invokevirtual 418, 13, [1, 251, 0, 0, 3, 13, 0, 0, 8, 46]), (.aload_n 0, 16, []), (.getfield 69, 17, [13, 38, 2, 6, 168]),
  (.bipush 16, 20, [1, 16]), (.iload_n 1, 22, []), (.imul, 23, []), (.iload_n 2, 24, []), (.iadd, 25, []), (.iaload, 26, [20]),
  (.iload_n 3, 27, []), (.ishr, 28, []), (.iconst 1, 29, [1, 1]), (.iand, 30, []), (.ireturn, 31, [0])
  ]
noncomputable def k_Mo_keeps : List Ent := [
  (.aload_n 0, 0, []), (.getfield 354, 1, [13, 36, 0, 6, 166]), (.bipush 40, 4, [1, 40]), (.if_icmp .ne 44, 6, [1, 24]), (.bipush 81, 9, [1, 81]), (.istore_n 1, 11, []),
  (.nop, 12, [7, 1, 1]), (.iload_n 1, 12, []), (.sipush 3240, 13, [1, 3240]), (.if_icmp .ge 24, 16, [1, 12]), (.aload_n 0, 19, []), (.getfield 66, 20, [13, 35, 2, 6, 165]),
  (.iload_n 1, 23, []), (.bipush 81, 24, [1, 81]), (.isub, 26, []), (.aload_n 0, 27, []), (.getfield 66, 28, [13, 35, 2, 6, 165]), (.iload_n 1, 31, []),
  (.iaload, 32, [20]), (.iastore, 33, []), (.iinc 1 1, 34, [1, 1]), (.goto (-25), 37, [0, 7, 1, 1]), (.aload_n 0, 40, []), (.dup, 41, []),
  (.getfield 354, 42, [13, 36, 0, 6, 166]), (.iconst 1, 45, [1, 1]), (.isub, 46, []), (.putfield 354, 47, [13, 36, 0, 6, 166]), (.nop, 50, [29, 1, 0]), (.iconst 0, 50, [1, 0]),
  (.istore_n 1, 51, []), (.nop, 52, [32, 1, 1]), (.iload_n 1, 52, []), (.bipush 81, 53, [1, 81]), (.if_icmp .ge 29, 55, [1, 15]), (.aload_n 0, 58, []),
  (.getfield 66, 59, [13, 35, 2, 6, 165]), (.bipush 81, 62, [1, 81]), (.aload_n 0, 64, []), (.getfield 354, 65, [13, 36, 0, 6, 166]), (.imul, 68, []), (.iload_n 1, 69, []),
  (.iadd, 70, []), (.aload_n 0, 71, []), (.getfield 63, 72, [13, 34, 2, 6, 164]), (.iload_n 1, 75, []), (.iaload, 76, [20]), (.iastore, 77, []),
  (.iinc 1 1, 78, [1, 1]), (.goto (-29), 81, [0, 32, 1, 1]), (.aload_n 0, 84, []), (.dup, 85, []), (.getfield 354, 86, [13, 36, 0, 6, 166]), (.iconst 1, 89, [1, 1]),
  (.iadd, 90, []), (.putfield 354, 91, [13, 36, 0, 6, 166]), (.aload_n 0, 94, []), (.iconst 0, 95, [1, 0]), (.putfield 357, 96, [13, 37, 0, 6, 167]), (.return_, 99, [])
  ]
noncomputable def k_Mo_exchanges : List Ent := [
  (.iconst 0, 0, [1, 0]), (.istore_n 2, 1, []), (.nop, 2, [3, 1, 1, 1, 0]), (.iload_n 2, 2, []), (.bipush 81, 3, [1, 81]), (.if_icmp .ge 45, 5, [1, 28]),
  (.aload_n 0, 8, []), (.getfield 66, 9, [13, 35, 2, 6, 165]), (.bipush 81, 12, [1, 81]), (.iload_n 1, 14, []), (.imul, 15, []), (.iload_n 2, 16, []),
  (.iadd, 17, []), (.iaload, 18, [20]), (.istore_n 3, 19, []), (.aload_n 0, 20, []), (.getfield 66, 21, [13, 35, 2, 6, 165]), (.bipush 81, 24, [1, 81]),
  (.iload_n 1, 26, []), (.imul, 27, []), (.iload_n 2, 28, []), (.iadd, 29, []), (.aload_n 0, 30, []), (.getfield 63, 31, [13, 34, 2, 6, 164]),
  (.iload_n 2, 34, []), (.iaload, 35, [20]), (.iastore, 36, []), (.aload_n 0, 37, []), (.getfield 63, 38, [13, 34, 2, 6, 164]), (.iload_n 2, 41, []),
  (.iload_n 3, 42, []), (.iastore, 43, []), (.iinc 2 1, 44, [1, 1]), (.goto (-45), 47, [0, 3, 1, 1, 1, 0]), (.return_, 50, [])
  ]
noncomputable def k_Mo_undo : List Ent := [
  (.aload_n 0, 0, []), (.getfield 354, 1, [13, 36, 0, 6, 166]), (.ifCond .ne 5, 4, [1, 2]), (.iconst 0, 7, [1, 0]), (.ireturn, 8, [1]), (.aload_n 0, 9, []),
  (.dup, 10, []), (.getfield 354, 11, [13, 36, 0, 6, 166]), (.iconst 1, 14, [1, 1]), (.isub, 15, []), (.putfield 354, 16, [13, 36, 0, 6, 166]), (.aload_n 0, 19, []),
  (.dup, 20, []), (.getfield 357, 21, [13, 37, 0, 6, 167]), (.iconst 1, 24, [1, 1]), (.iadd, 25, []), (.putfield 357, 26, [13, 37, 0, 6, 167]), (.aload_n 0, 29, []),
  (.aload_n 0, 30, []), (.getfield 354, 31, [13, 36, 0, 6, 166]), (.invokevirtual 445, 34, [1, 267, 1, 0, 4, 13, 0, 0, 8, 126]), (.iconst 1, 37, [1, 1]), (.ireturn, 38, [1])
  ]
noncomputable def k_Mo_redo : List Ent := [
  (.aload_n 0, 0, []), (.getfield 357, 1, [13, 37, 0, 6, 167]), (.ifCond .ne 5, 4, [1, 2]), (.iconst 0, 7, [1, 0]), (.ireturn, 8, [1]), (.aload_n 0, 9, []),
  (.dup, 10, []), (.getfield 357, 11, [13, 37, 0, 6, 167]), (.iconst 1, 14, [1, 1]), (.isub, 15, []), (.putfield 357, 16, [13, 37, 0, 6, 167]), (.aload_n 0, 19, []),
  (.aload_n 0, 20, []), (.getfield 354, 21, [13, 36, 0, 6, 166]), (.invokevirtual 445, 24, [1, 267, 1, 0, 4, 13, 0, 0, 8, 126]), (.aload_n 0, 27, []), (.dup, 28, []), (.getfield 354, 29, [13, 36, 0, 6, 166]),
  (.iconst 1, 32, [1, 1]), (.iadd, 33, []), (.putfield 354, 34, [13, 36, 0, 6, 166]), (.iconst 1, 37, [1, 1]), (.ireturn, 38, [1])
  ]
noncomputable def k_Mo_turns : List Ent := [
  (.aload_n 0, 0, []), (.iload_n 1, 1, []), (.iload_n 2, 2, []), (.iload_n 3, 3, []), (.invokevirtual 442, 4, [1, 264, 3, 1, 4, 13, 0, 0, 8, 114]), (.ifCond .eq 32, 7, [1, 19]),
  (.aload_n 0, 10, []), (.getfield 42, 11, [13, 19, 2, 6, 149]), (.iload_n 1, 14, []), (.iaload, 15, [20]), (.ifCond .eq 23, 16, [1, 14]), (.aload_n 0, 19, []),
  (.getfield 63, 20, [13, 34, 2, 6, 164]), (.bipush 16, 23, [1, 16]), (.iload_n 1, 25, []), (.imul, 26, []), (.iload_n 2, 27, []), (.iadd, 28, []),
  (.iaload, 29, [20]), (.iload_n 3, 30, []), (.ishr, 31, []), (.iconst 1, 32, [1, 1]), (.iand, 33, []), (.iload 4, 34, []),
  (.if_icmp .ne 5, 36, [1, 2]), (.iconst (-1), 39, [0, 1]), (.ireturn, 40, [0]), (.aload_n 0, 41, []), (.invokevirtual 448, 42, [1, 266, 0, 0, 2, 13, 0, 0, 8, 142]), (.aload_n 0, 45, []),
  (.getfield 63, 46, [13, 34, 2, 6, 164]), (.bipush 16, 49, [1, 16]), (.iload_n 1, 51, []), (.imul, 52, []), (.iload_n 2, 53, []), (.iadd, 54, []),
  (.dup2, 55, []), (.iaload, 56, [20]), (.iconst 1, 57, [1, 1]), (.iload_n 3, 58, []), (.ishl, 59, []), (.ixor, 60, []),
  (.iastore, 61, []), (.aload_n 0, 62, []), (.getfield 63, 63, [13, 34, 2, 6, 164]), (.bipush 16, 66, [1, 16]), (.iload_n 1, 68, []), (.imul, 69, []),
  (.invokestatic 400, 70, [0, 252, 2, 1, 4, 0, 0, 0, 8, 93]), (.ireturn, 73, [0])
  ]
noncomputable def k_Mo_put : List Ent := [
  (.aload_n 0, 0, []), (.iload_n 1, 1, []), (.iload_n 2, 2, []), (.iload_n 3, 3, []), (.iconst 1, 4, [1, 1]), (.invokevirtual 450, 5, [1, 270, 4, 1, 5, 13, 0, 0, 8, 138]),
  (.ireturn, 8, [0])
  ]
noncomputable def k_Mo_take : List Ent := [
  (.aload_n 0, 0, []), (.iload_n 1, 1, []), (.iload_n 2, 2, []), (.iload_n 3, 3, []), (.iconst 0, 4, [1, 0]), (.invokevirtual 450, 5, [1, 270, 4, 1, 5, 13, 0, 0, 8, 138]),
  (.ireturn, 8, [0])
  ]
noncomputable def k_Mo_makes : List Ent := [
  (.iconst 0, 0, [1, 0]), (.istore 4, 1, []), (.nop, 3, [3, 1, 1, 1, 1, 1, 0]), (.iload 4, 3, []), (.bipush 16, 5, [1, 16]), (.if_icmp .ge 28, 7, [1, 14]),
  (.aload_n 0, 10, []), (.getfield 72, 11, [13, 39, 2, 6, 169]), (.iload 4, 14, []), (.aload_n 0, 16, []), (.getfield 69, 17, [13, 38, 2, 6, 168]), (.bipush 16, 20, [1, 16]),
  (.iload_n 3, 22, []), (.imul, 23, []), (.iload 4, 24, []), (.iadd, 26, []), (.iaload, 27, [20]), (.iastore, 28, []),
  (.iinc 4 1, 29, [1, 1]), (.goto (-29), 32, [0, 3, 1, 1, 1, 1, 1, 0]), (.iload_n 1, 35, []), (.iconst 4, 36, [1, 4]), (.if_icmp .ne 12, 37, [1, 5]), (.aload_n 0, 40, []),
  (.aload_n 0, 41, []), (.getfield 72, 42, [13, 39, 2, 6, 169]), (.iconst 0, 45, [1, 0]), (.invokevirtual 382, 46, [1, 248, 2, 0, 5, 13, 0, 0, 8, 66]), (.nop, 49, [29, 1, 1, 1, 0, 0, 0]), (.iconst 0, 49, [1, 0]),
  (.istore 4, 50, []), (.nop, 52, [32, 1, 1, 1, 0, 1, 0]), (.iload 4, 52, []), (.bipush 16, 54, [1, 16]), (.if_icmp .ge 82, 56, [1, 43]), (.aload_n 0, 59, []),
  (.getfield 69, 60, [13, 38, 2, 6, 168]), (.bipush 16, 63, [1, 16]), (.iload_n 2, 65, []), (.imul, 66, []), (.iload 4, 67, []), (.iadd, 69, []),
  (.iaload, 70, [20]), (.istore 5, 71, []), (.aload_n 0, 73, []), (.getfield 75, 74, [13, 40, 2, 6, 170]), (.iload 4, 77, []), (.iload_n 1, 79, []),
  (.iconst 3, 80, [1, 3]), (.if_icmp .ne 16, 81, [1, 6]), (.iload 5, 84, []), (.aload_n 0, 86, []), (.getfield 72, 87, [13, 39, 2, 6, 169]), (.iconst 0, 90, [1, 0]),
  (.invokestatic 386, 91, [0, 247, 3, 1, 5, 0, 0, 0, 8, 73]), (.goto 37, 94, [1, 18]), (.iload_n 1, 97, []), (.iconst 1, 98, [1, 1]), (.if_icmp .ne 8, 99, [1, 2]), (.bipush 22, 102, [1, 22]),
  (.goto 15, 104, [1, 6]), (.iload_n 1, 107, []), (.iconst 2, 108, [1, 2]), (.if_icmp .ne 8, 109, [1, 2]), (.bipush 21, 112, [1, 21]), (.goto 5, 114, [1, 1]),
  (.bipush 20, 117, [1, 20]), (.nop, 119, [68, 1, 1, 1, 0, 1, 1]), (.iload 5, 119, []), (.aload_n 0, 121, []), (.getfield 72, 122, [13, 39, 2, 6, 169]), (.iload 4, 125, []),
  (.iaload, 127, [20]), (.invokestatic 390, 128, [0, 249, 3, 1, 3, 0, 0, 0, 8, 76]), (.nop, 131, [75, 1, 1, 1, 0, 1, 0]), (.iastore, 131, []), (.iinc 4 1, 132, [1, 1]), (.goto (-83), 135, [0, 32, 1, 1, 1, 0, 1, 0]),
  (.return_, 138, [])
  ]
noncomputable def k_Mo_isHow : List Ent := [
  (.iload_n 0, 0, []), (.iconst 0, 1, [1, 0]), (.iconst 4, 2, [1, 4]), (.invokestatic 140, 3, [0, 195, 3, 1, 3, 0, 0, 0, 7, 95]), (.ireturn, 6, [1])
  ]
noncomputable def k_Mo_become : List Ent := [
  (.aload_n 0, 0, []), (.iload_n 1, 1, []), (.invokevirtual 415, 2, [1, 244, 1, 1, 2, 13, 0, 0, 8, 42]), (.ifCond .eq 29, 5, [1, 13]), (.aload_n 0, 8, []), (.getfield 42, 9, [13, 19, 2, 6, 149]),
  (.iload_n 1, 12, []), (.iaload, 13, [20]), (.ifCond .eq 20, 14, [1, 8]), (.iload_n 2, 17, []), (.invokestatic 454, 18, [0, 274, 1, 1, 1, 0, 0, 0, 8, 154]), (.ifCond .eq 13, 21, [1, 5]),
  (.aload_n 0, 24, []), (.iload_n 3, 25, []), (.iload 4, 26, []), (.invokevirtual 457, 28, [1, 258, 2, 1, 3, 13, 0, 0, 8, 157]), (.ifCond .ne 5, 31, [1, 2]), (.iconst (-1), 34, [0, 1]),
  (.ireturn, 35, [0]), (.aload_n 0, 36, []), (.invokevirtual 448, 37, [1, 266, 0, 0, 2, 13, 0, 0, 8, 142]), (.aload_n 0, 40, []), (.iload_n 2, 41, []), (.iload_n 3, 42, []),
  (.iload 4, 43, []), (.invokevirtual 460, 45, [1, 273, 3, 0, 6, 13, 0, 0, 8, 161]), (.iconst 0, 48, [1, 0]), (.istore 5, 49, []), (.nop, 51, [29, 1, 1, 0, 0, 0, 1]), (.iload 5, 51, []),
  (.bipush 16, 53, [1, 16]), (.if_icmp .ge 28, 55, [1, 14]), (.aload_n 0, 58, []), (.getfield 63, 59, [13, 34, 2, 6, 164]), (.bipush 16, 62, [1, 16]), (.iload_n 1, 64, []),
  (.imul, 65, []), (.iload 5, 66, []), (.iadd, 68, []), (.aload_n 0, 69, []), (.getfield 75, 70, [13, 40, 2, 6, 170]), (.iload 5, 73, []),
  (.iaload, 75, [20]), (.iastore, 76, []), (.iinc 5 1, 77, [1, 1]), (.goto (-29), 80, [0, 29, 1, 1, 0, 0, 0, 1]), (.aload_n 0, 83, []), (.getfield 75, 84, [13, 40, 2, 6, 170]),
  (.iconst 0, 87, [1, 0]), (.invokestatic 400, 88, [0, 252, 2, 1, 4, 0, 0, 0, 8, 93]), (.ireturn, 91, [0])
  ]
noncomputable def k_Mo_sift : List Ent := [
  (.aload_n 0, 0, []), (.iload_n 1, 1, []), (.invokevirtual 415, 2, [1, 244, 1, 1, 2, 13, 0, 0, 8, 42]), (.ifCond .eq 12, 5, [1, 5]), (.aload_n 0, 8, []), (.getfield 42, 9, [13, 19, 2, 6, 149]),
  (.iload_n 1, 12, []), (.iaload, 13, [20]), (.ifCond .ne 5, 14, [1, 2]), (.iconst (-1), 17, [0, 1]), (.ireturn, 18, [0]), (.aload_n 0, 19, []),
  (.invokevirtual 418, 20, [1, 251, 0, 0, 3, 13, 0, 0, 8, 46]), (.aload_n 0, 23, []), (.invokevirtual 448, 24, [1, 266, 0, 0, 2, 13, 0, 0, 8, 142]), (.aload_n 0, 27, []), (.getfield 63, 28, [13, 34, 2, 6, 164]), (.bipush 16, 31, [1, 16]),
  (.iload_n 1, 33, []), (.imul, 34, []), (.invokestatic 400, 35, [0, 252, 2, 1, 4, 0, 0, 0, 8, 93]), (.istore_n 2, 38, []), (.aload_n 0, 39, []), (.iload_n 1, 40, []),
  (.invokevirtual 436, 41, [1, 262, 1, 0, 5, 13, 0, 0, 8, 96]), (.iconst 0, 44, [1, 0]), (.istore_n 3, 45, []), (.nop, 46, [28, 1, 1, 1, 1]), (.iload_n 3, 46, []), (.bipush 16, 47, [1, 16]),
  (.if_icmp .ge 26, 49, [1, 14]), (.aload_n 0, 52, []), (.getfield 63, 53, [13, 34, 2, 6, 164]), (.bipush 16, 56, [1, 16]), (.iload_n 1, 58, []), (.imul, 59, []),
  (.iload_n 3, 60, []), (.iadd, 61, []), (.aload_n 0, 62, []), (.getfield 75, 63, [13, 40, 2, 6, 170]), (.iload_n 3, 66, []), (.iaload, 67, [20]),
  (.iastore, 68, []), (.iinc 3 1, 69, [1, 1]), (.goto (-26), 72, [0, 28, 1, 1, 1, 1]), (.iload_n 2, 75, []), (.aload_n 0, 76, []), (.getfield 75, 77, [13, 40, 2, 6, 170]),
  (.iconst 0, 80, [1, 0]), (.invokestatic 400, 81, [0, 252, 2, 1, 4, 0, 0, 0, 8, 93]), (.isub, 84, []), (.ireturn, 85, [0])
  ]
noncomputable def k_Mo_drift : List Ent := [
  (.aload_n 0, 0, []), (.invokevirtual 448, 1, [1, 266, 0, 0, 2, 13, 0, 0, 8, 142]), (.aload_n 0, 4, []), (.getfield 63, 5, [13, 34, 2, 6, 164]), (.bipush 80, 8, [1, 80]), (.sipush 137, 10, [1, 137]),
  (.aload_n 0, 13, []), (.getfield 63, 14, [13, 34, 2, 6, 164]), (.bipush 80, 17, [1, 80]), (.iaload, 19, [20]), (.imul, 20, []), (.bipush 71, 21, [1, 71]),
  (.iadd, 23, []), (.sipush 1000, 24, [1, 1000]), (.irem, 27, []), (.iastore, 28, []), (.aload_n 0, 29, []), (.getfield 63, 30, [13, 34, 2, 6, 164]),
  (.bipush 80, 33, [1, 80]), (.iaload, 35, [20]), (.istore_n 1, 36, []), (.aload_n 0, 37, []), (.getfield 23, 38, [13, 13, 2, 6, 143]), (.iconst 0, 41, [1, 0]),
  (.iaload, 42, [20]), (.ifCond .eq 16, 43, [1, 8]), (.iload_n 1, 46, []), (.bipush 100, 47, [1, 100]), (.irem, 49, []), (.aload_n 0, 50, []),
  (.getfield 26, 51, [13, 14, 2, 6, 144]), (.iconst 0, 54, [1, 0]), (.iaload, 55, [20]), (.if_icmp .lt 5, 56, [1, 2]), (.iconst (-1), 59, [0, 1]), (.ireturn, 60, [0]),
  (.iload_n 1, 61, []), (.aload_n 0, 62, []), (.getfield 23, 63, [13, 13, 2, 6, 143]), (.iconst 0, 66, [1, 0]), (.iaload, 67, [20]), (.irem, 68, []),
  (.istore_n 2, 69, []), (.aload_n 0, 70, []), (.getfield 42, 71, [13, 19, 2, 6, 149]), (.iload_n 2, 74, []), (.iaload, 75, [20]), (.ifCond .ne 5, 76, [1, 2]),
  (.iconst (-1), 79, [0, 1]), (.ireturn, 80, [0]), (.aload_n 0, 81, []), (.getfield 63, 82, [13, 34, 2, 6, 164]), (.bipush 16, 85, [1, 16]), (.iload_n 2, 87, []),
  (.imul, 88, []), (.iload_n 1, 89, []), (.bipush 16, 90, [1, 16]), (.idiv, 92, []), (.aload_n 0, 93, []), (.invokevirtual 366, 94, [1, 242, 0, 1, 1, 13, 0, 0, 8, 62]),
  (.irem, 97, []), (.iadd, 98, []), (.dup2, 99, []), (.iaload, 100, [20]), (.iconst 1, 101, [1, 1]), (.iload_n 1, 102, []),
  (.aload_n 0, 103, []), (.invokevirtual 366, 104, [1, 242, 0, 1, 1, 13, 0, 0, 8, 62]), (.irem, 107, []), (.ishl, 108, []), (.ixor, 109, []), (.iastore, 110, []),
  (.iload_n 2, 111, []), (.ireturn, 112, [0])
  ]
noncomputable def k_Mo_isBit : List Ent := [
  (.aload_n 0, 0, []), (.iload_n 1, 1, []), (.invokevirtual 433, 2, [1, 257, 1, 1, 2, 13, 0, 0, 8, 38]), (.ifCond .eq 21, 5, [1, 10]), (.iload_n 2, 8, []), (.iconst 0, 9, [1, 0]),
  (.aload_n 0, 10, []), (.getfield 404, 11, [13, 47, 0, 6, 177]), (.iconst 1, 14, [1, 1]), (.isub, 15, []), (.invokestatic 140, 16, [0, 195, 3, 1, 3, 0, 0, 0, 7, 95]), (.ifCond .eq 7, 19, [1, 2]),
  (.iconst 1, 22, [1, 1]), (.goto 4, 23, [1, 1]), (.iconst 0, 26, [1, 0]), (.ireturn, 27, [1])
  ]
noncomputable def k_Mo_bit : List Ent := [
  (.aload_n 0, 0, []), (.iload_n 1, 1, []), (.iload_n 2, 2, []), (.invokevirtual 464, 3, [1, 278, 2, 1, 3, 13, 0, 0, 8, 177]), (.ifCond .eq 12, 6, [1, 5]), (.aload_n 0, 9, []),
  (.getfield 90, 10, [13, 46, 2, 6, 176]), (.iload_n 2, 13, []), (.iaload, 14, [20]), (.goto 4, 15, [1, 1]), (.iconst (-1), 18, [0, 1]), (.ireturn, 19, [0])
  ]
noncomputable def k_Mo_rankOf : List Ent := [
  (.iconst 0, 0, [1, 0]), (.istore_n 2, 1, []), (.iconst 0, 2, [1, 0]), (.istore_n 3, 3, []), (.nop, 4, [5, 1, 1, 1, 1]), (.iload_n 3, 4, []),
  (.iload_n 1, 5, []), (.if_icmp .gt 18, 6, [1, 9]), (.iload_n 2, 9, []), (.aload_n 0, 10, []), (.getfield 90, 11, [13, 46, 2, 6, 176]), (.iload_n 3, 14, []),
  (.iaload, 15, [20]), (.iadd, 16, []), (.istore_n 2, 17, []), (.iinc 3 1, 18, [1, 1]), (.goto (-17), 21, [0, 5, 1, 1, 1, 1]), (.iload_n 2, 24, []),
  (.ireturn, 25, [0])
  ]
noncomputable def k_Mo_rank : List Ent := [
  (.aload_n 0, 0, []), (.iload_n 1, 1, []), (.iload_n 2, 2, []), (.invokevirtual 464, 3, [1, 278, 2, 1, 3, 13, 0, 0, 8, 177]), (.ifCond .eq 11, 6, [1, 4]), (.aload_n 0, 9, []),
  (.iload_n 2, 10, []), (.invokevirtual 467, 11, [1, 280, 1, 1, 4, 13, 0, 0, 8, 185]), (.goto 4, 14, [1, 1]), (.iconst (-1), 17, [0, 1]), (.ireturn, 18, [0])
  ]
noncomputable def k_Mo_child : List Ent := [
  (.aload_n 0, 0, []), (.iload_n 1, 1, []), (.iload_n 2, 2, []), (.invokevirtual 464, 3, [1, 278, 2, 1, 3, 13, 0, 0, 8, 177]), (.ifCond .eq 49, 6, [1, 28]), (.iload_n 3, 9, []),
  (.iconst 0, 10, [1, 0]), (.iconst 3, 11, [1, 3]), (.invokestatic 140, 12, [0, 195, 3, 1, 3, 0, 0, 0, 7, 95]), (.ifCond .eq 40, 15, [1, 23]), (.aload_n 0, 18, []), (.getfield 90, 19, [13, 46, 2, 6, 176]),
  (.iload_n 2, 22, []), (.iaload, 23, [20]), (.iconst 1, 24, [1, 1]), (.if_icmp .ne 30, 25, [1, 17]), (.aload_n 0, 28, []), (.getfield 81, 29, [13, 43, 2, 6, 173]),
  (.iload_n 2, 32, []), (.iaload, 33, [20]), (.aload_n 0, 34, []), (.getfield 20, 35, [13, 12, 2, 6, 142]), (.iconst 0, 38, [1, 0]), (.iaload, 39, [20]),
  (.if_icmp .ge 15, 40, [1, 8]), (.iconst 4, 43, [1, 4]), (.aload_n 0, 44, []), (.iload_n 2, 45, []), (.invokevirtual 467, 46, [1, 280, 1, 1, 4, 13, 0, 0, 8, 185]), (.imul, 49, []),
  (.iload_n 3, 50, []), (.iadd, 51, []), (.goto 4, 52, [1, 1]), (.iconst (-1), 55, [0, 1]), (.ireturn, 56, [0])
  ]
noncomputable def k_Mo_place : List Ent := [
  (.aload_n 0, 0, []), (.iload_n 1, 1, []), (.iload_n 2, 2, []), (.invokevirtual 464, 3, [1, 278, 2, 1, 3, 13, 0, 0, 8, 177]), (.ifCond .ne 5, 6, [1, 2]), (.iconst (-1), 9, [0, 1]),
  (.ireturn, 10, [0]), (.iload_n 3, 11, []), (.ifCond .ne 12, 12, [1, 5]), (.aload_n 0, 15, []), (.getfield 81, 16, [13, 43, 2, 6, 173]), (.iload_n 2, 19, []),
  (.iaload, 20, [20]), (.goto 32, 21, [1, 17]), (.iload_n 3, 24, []), (.iconst 1, 25, [1, 1]), (.if_icmp .ne 12, 26, [1, 5]), (.aload_n 0, 29, []),
  (.getfield 84, 30, [13, 44, 2, 6, 174]), (.iload_n 2, 33, []), (.iaload, 34, [20]), (.goto 18, 35, [1, 9]), (.iload_n 3, 38, []), (.iconst 2, 39, [1, 2]),
  (.if_icmp .ne 12, 40, [1, 5]), (.aload_n 0, 43, []), (.getfield 87, 44, [13, 45, 2, 6, 175]), (.iload_n 2, 47, []), (.iaload, 48, [20]), (.goto 4, 49, [1, 1]),
  (.iconst (-1), 52, [0, 1]), (.ireturn, 53, [0])
  ]
noncomputable def k_Mo_blocks : List Ent := [
  (.iload_n 2, 0, []), (.iconst 0, 1, [1, 0]), (.aload_n 0, 2, []), (.getfield 20, 3, [13, 12, 2, 6, 142]), (.iconst 0, 6, [1, 0]), (.iaload, 7, [20]),
  (.invokestatic 140, 8, [0, 195, 3, 1, 3, 0, 0, 0, 7, 95]), (.ifCond .eq 11, 11, [1, 4]), (.aload_n 0, 14, []), (.iload_n 1, 15, []), (.invokevirtual 433, 16, [1, 257, 1, 1, 2, 13, 0, 0, 8, 38]), (.ifCond .ne 5, 19, [1, 2]),
  (.iconst (-1), 22, [0, 1]), (.ireturn, 23, [0]), (.iload_n 2, 24, []), (.ifCond .ne 23, 25, [1, 11]), (.aload_n 0, 28, []), (.getfield 69, 29, [13, 38, 2, 6, 168]),
  (.bipush 16, 32, [1, 16]), (.iload_n 1, 34, []), (.imul, 35, []), (.invokestatic 400, 36, [0, 252, 2, 1, 4, 0, 0, 0, 8, 93]), (.ifCond .le 7, 39, [1, 2]), (.iconst 1, 42, [1, 1]),
  (.goto 4, 43, [1, 1]), (.iconst 0, 46, [1, 0]), (.ireturn, 47, [0]), (.iconst 0, 48, [1, 0]), (.istore_n 3, 49, []), (.iconst 0, 50, [1, 0]),
  (.istore 4, 51, []), (.nop, 53, [32, 1, 0, 1, 1, 1]), (.iload 4, 53, []), (.aload_n 0, 55, []), (.getfield 404, 56, [13, 47, 0, 6, 177]), (.if_icmp .ge 34, 59, [1, 18]),
  (.iload_n 3, 62, []), (.aload_n 0, 63, []), (.getfield 81, 64, [13, 43, 2, 6, 173]), (.iload 4, 67, []), (.iaload, 69, [20]), (.iload_n 2, 70, []),
  (.if_icmp .ne 13, 71, [1, 5]), (.aload_n 0, 74, []), (.getfield 90, 75, [13, 46, 2, 6, 176]), (.iload 4, 78, []), (.iaload, 80, [20]), (.goto 4, 81, [1, 1]),
  (.iconst 0, 84, [1, 0]), (.nop, 85, [50, 1, 0, 1, 0, 1]), (.iadd, 85, []), (.istore_n 3, 86, []), (.iinc 4 1, 87, [1, 1]), (.goto (-37), 90, [0, 32, 1, 0, 1, 1, 1]),
  (.iload_n 3, 93, []), (.ireturn, 94, [0])
  ]
noncomputable def k_Mo_laysDown : List Ent := [
  (.aload_n 0, 0, []), (.iconst 0, 1, [1, 0]), (.putfield 363, 2, [13, 50, 0, 6, 180]), (.iconst 0, 5, [1, 0]), (.istore_n 2, 6, []), (.nop, 7, [6, 1, 1, 1]),
  (.iload_n 2, 7, []), (.bipush 16, 8, [1, 16]), (.if_icmp .ge 40, 10, [1, 20]), (.iload_n 1, 13, []), (.iload_n 2, 14, []), (.invokestatic 375, 15, [0, 196, 2, 1, 2, 0, 0, 0, 8, 70]),
  (.ifCond .ne 6, 18, [1, 1]), (.goto 23, 21, [1, 12]), (.aload_n 0, 24, []), (.getfield 96, 25, [13, 49, 2, 6, 179]), (.aload_n 0, 28, []), (.getfield 363, 29, [13, 50, 0, 6, 180]),
  (.iload_n 2, 32, []), (.iastore, 33, []), (.aload_n 0, 34, []), (.dup, 35, []), (.getfield 363, 36, [13, 50, 0, 6, 180]), (.iconst 1, 39, [1, 1]),
  (.iadd, 40, []), (.putfield 363, 41, [13, 50, 0, 6, 180]), (.nop, 44, [27, 1, 1, 1]), (.iinc 2 1, 44, [1, 1]), (.goto (-40), 47, [0, 6, 1, 1, 1]), (.aload_n 0, 50, []),
  (.getfield 363, 51, [13, 50, 0, 6, 180]), (.ireturn, 54, [0])
  ]
noncomputable def k_Mo_row : List Ent := [
  (.aload_n 0, 0, []), (.iconst 0, 1, [1, 0]), (.putfield 363, 2, [13, 50, 0, 6, 180]), (.aload_n 0, 5, []), (.iload_n 1, 6, []), (.invokevirtual 415, 7, [1, 244, 1, 1, 2, 13, 0, 0, 8, 42]),
  (.ifCond .eq 11, 10, [1, 4]), (.aload_n 0, 13, []), (.iload_n 2, 14, []), (.invokevirtual 439, 15, [1, 245, 1, 1, 2, 13, 0, 0, 8, 118]), (.ifCond .ne 5, 18, [1, 2]), (.iconst (-1), 21, [0, 1]),
  (.ireturn, 22, [0]), (.aload_n 0, 23, []), (.invokevirtual 418, 24, [1, 251, 0, 0, 3, 13, 0, 0, 8, 46]), (.aload_n 0, 27, []), (.aload_n 0, 28, []), (.getfield 69, 29, [13, 38, 2, 6, 168]),
  (.bipush 16, 32, [1, 16]), (.iload_n 1, 34, []), (.imul, 35, []), (.iload_n 2, 36, []), (.iadd, 37, []), (.iaload, 38, [20]),
  (.invokevirtual 470, 39, [1, 285, 1, 1, 3, 13, 0, 0, 8, 205]), (.ireturn, 42, [0])
  ]
noncomputable def k_Mo_columnSet : List Ent := [
  (.iconst 0, 0, [1, 0]), (.istore_n 3, 1, []), (.iconst 0, 2, [1, 0]), (.istore 4, 3, []), (.nop, 5, [5, 1, 1, 1, 1, 1]), (.iload 4, 5, []),
  (.bipush 16, 7, [1, 16]), (.if_icmp .ge 39, 9, [1, 22]), (.iload_n 3, 12, []), (.aload_n 0, 13, []), (.getfield 69, 14, [13, 38, 2, 6, 168]), (.bipush 16, 17, [1, 16]),
  (.iload_n 1, 19, []), (.imul, 20, []), (.iload 4, 21, []), (.iadd, 23, []), (.iaload, 24, [20]), (.iload_n 2, 25, []),
  (.invokestatic 375, 26, [0, 196, 2, 1, 2, 0, 0, 0, 8, 70]), (.ifCond .eq 10, 29, [1, 4]), (.iconst 1, 32, [1, 1]), (.iload 4, 33, []), (.ishl, 35, []), (.goto 4, 36, [1, 1]),
  (.iconst 0, 39, [1, 0]), (.nop, 40, [26, 1, 1, 1, 0, 1]), (.ior, 40, []), (.istore_n 3, 41, []), (.iinc 4 1, 42, [1, 1]), (.goto (-40), 45, [0, 5, 1, 1, 1, 1, 1]),
  (.iload_n 3, 48, []), (.ireturn, 49, [0])
  ]
noncomputable def k_Mo_column : List Ent := [
  (.aload_n 0, 0, []), (.iconst 0, 1, [1, 0]), (.putfield 363, 2, [13, 50, 0, 6, 180]), (.aload_n 0, 5, []), (.iload_n 1, 6, []), (.invokevirtual 415, 7, [1, 244, 1, 1, 2, 13, 0, 0, 8, 42]),
  (.ifCond .eq 11, 10, [1, 4]), (.aload_n 0, 13, []), (.iload_n 2, 14, []), (.invokevirtual 439, 15, [1, 245, 1, 1, 2, 13, 0, 0, 8, 118]), (.ifCond .ne 5, 18, [1, 2]), (.iconst (-1), 21, [0, 1]),
  (.ireturn, 22, [0]), (.aload_n 0, 23, []), (.invokevirtual 418, 24, [1, 251, 0, 0, 3, 13, 0, 0, 8, 46]), (.aload_n 0, 27, []), (.aload_n 0, 28, []), (.iload_n 1, 29, []),
  (.iload_n 2, 30, []), (.invokevirtual 473, 31, [1, 287, 2, 1, 5, 13, 0, 0, 8, 213]), (.invokevirtual 470, 34, [1, 285, 1, 1, 3, 13, 0, 0, 8, 205]), (.ireturn, 37, [0])
  ]
noncomputable def k_Mo_isRect : List Ent := [
  (.aload_n 0, 0, []), (.iload_n 1, 1, []), (.invokevirtual 415, 2, [1, 244, 1, 1, 2, 13, 0, 0, 8, 42]), (.ifCond .eq 53, 5, [1, 24]), (.aload_n 0, 8, []), (.iload_n 2, 9, []),
  (.invokevirtual 439, 10, [1, 245, 1, 1, 2, 13, 0, 0, 8, 118]), (.ifCond .eq 45, 13, [1, 20]), (.aload_n 0, 16, []), (.iload_n 3, 17, []), (.invokevirtual 439, 18, [1, 245, 1, 1, 2, 13, 0, 0, 8, 118]), (.ifCond .eq 37, 21, [1, 16]),
  (.aload_n 0, 24, []), (.iload 4, 25, []), (.invokevirtual 439, 27, [1, 245, 1, 1, 2, 13, 0, 0, 8, 118]), (.ifCond .eq 28, 30, [1, 12]), (.aload_n 0, 33, []), (.iload 5, 34, []),
  (.invokevirtual 439, 36, [1, 245, 1, 1, 2, 13, 0, 0, 8, 118]), (.ifCond .eq 19, 39, [1, 8]), (.iload_n 2, 42, []), (.iload_n 3, 43, []), (.if_icmp .gt 14, 44, [1, 5]), (.iload 4, 47, []),
  (.iload 5, 49, []), (.if_icmp .gt 7, 51, [1, 2]), (.iconst 1, 54, [1, 1]), (.goto 4, 55, [1, 1]), (.iconst 0, 58, [1, 0]), (.ireturn, 59, [1])
  ]
noncomputable def k_Mo_rect : List Ent := [
  (.aload_n 0, 0, []), (.iload_n 1, 1, []), (.iload_n 2, 2, []), (.iload_n 3, 3, []), (.iload 4, 4, []), (.iload 5, 6, []),
  (.invokevirtual 476, 8, [1, 289, 5, 1, 6, 13, 0, 0, 8, 221]), (.ifCond .ne 5, 11, [1, 2]), (.iconst (-1), 14, [0, 1]), (.ireturn, 15, [0]), (.aload_n 0, 16, []), (.invokevirtual 418, 17, [1, 251, 0, 0, 3, 13, 0, 0, 8, 46]),
  (.iconst 0, 20, [1, 0]), (.istore 6, 21, []), (.iconst 2, 23, [1, 2]), (.iload 5, 24, []), (.ishl, 26, []), (.iconst 1, 27, [1, 1]),
  (.iload 4, 28, []), (.ishl, 30, []), (.isub, 31, []), (.istore 7, 32, []), (.iload_n 2, 34, []), (.istore 8, 35, []),
  (.nop, 37, [25, 1, 1, 0, 1, 0, 0, 1, 1, 1]), (.iload 8, 37, []), (.iload_n 3, 39, []), (.if_icmp .gt 32, 40, [1, 16]), (.iload 6, 43, []), (.aload_n 0, 45, []),
  (.getfield 69, 46, [13, 38, 2, 6, 168]), (.bipush 16, 49, [1, 16]), (.iload_n 1, 51, []), (.imul, 52, []), (.iload 8, 53, []), (.iadd, 55, []),
  (.iaload, 56, [20]), (.iload 7, 57, []), (.iand, 59, []), (.invokestatic 397, 60, [0, 197, 1, 1, 3, 0, 0, 0, 8, 90]), (.iadd, 63, []), (.istore 6, 64, []),
  (.iinc 8 1, 66, [1, 1]), (.goto (-32), 69, [0, 25, 1, 1, 0, 1, 0, 0, 1, 1, 1]), (.iload 6, 72, []), (.ireturn, 74, [0])
  ]
noncomputable def k_Mo_looks : List Ent := [
  (.aload_n 0, 0, []), (.iload_n 1, 1, []), (.iload_n 2, 2, []), (.iload_n 3, 3, []), (.iload 4, 4, []), (.iload 5, 6, []),
  (.invokevirtual 476, 8, [1, 289, 5, 1, 6, 13, 0, 0, 8, 221]), (.ifCond .ne 5, 11, [1, 2]), (.iconst (-1), 14, [0, 1]), (.ireturn, 15, [0]), (.aload_n 0, 16, []), (.iload_n 1, 17, []),
  (.invokevirtual 433, 18, [1, 257, 1, 1, 2, 13, 0, 0, 8, 38]), (.pop, 21, []), (.iconst 0, 22, [1, 0]), (.istore 6, 23, []), (.iconst 0, 25, [1, 0]), (.istore 7, 26, []),
  (.nop, 28, [19, 1, 0, 1, 1, 1, 1, 1, 1, 0]), (.iload 7, 28, []), (.aload_n 0, 30, []), (.getfield 404, 31, [13, 47, 0, 6, 177]), (.if_icmp .ge 85, 34, [1, 46]), (.aload_n 0, 37, []),
  (.invokevirtual 366, 38, [1, 242, 0, 1, 1, 13, 0, 0, 8, 62]), (.aload_n 0, 41, []), (.getfield 81, 42, [13, 43, 2, 6, 173]), (.iload 7, 45, []), (.iaload, 47, [20]), (.ishr, 48, []),
  (.istore 8, 49, []), (.iload 6, 51, []), (.aload_n 0, 53, []), (.getfield 84, 54, [13, 44, 2, 6, 174]), (.iload 7, 57, []), (.iaload, 59, [20]),
  (.iload_n 3, 60, []), (.if_icmp .gt 48, 61, [1, 24]), (.aload_n 0, 64, []), (.getfield 84, 65, [13, 44, 2, 6, 174]), (.iload 7, 68, []), (.iaload, 70, [20]),
  (.iload 8, 71, []), (.iadd, 73, []), (.iload_n 2, 74, []), (.if_icmp .le 34, 75, [1, 16]), (.aload_n 0, 78, []), (.getfield 87, 79, [13, 45, 2, 6, 175]),
  (.iload 7, 82, []), (.iaload, 84, [20]), (.iload 5, 85, []), (.if_icmp .gt 22, 87, [1, 10]), (.aload_n 0, 90, []), (.getfield 87, 91, [13, 45, 2, 6, 175]),
  (.iload 7, 94, []), (.iaload, 96, [20]), (.iload 8, 97, []), (.iadd, 99, []), (.iload 4, 100, []), (.if_icmp .le 7, 102, [1, 2]),
  (.iconst 1, 105, [1, 1]), (.goto 4, 106, [1, 2]), (.nop, 109, [63, 1, 0, 1, 1, 1, 1, 0, 1, 0]), (.iconst 0, 109, [1, 0]), (.nop, 110, [65, 1, 0, 1, 1, 1, 1, 0, 1, 0]), (.iadd, 110, []),
  (.istore 6, 111, []), (.iinc 7 1, 113, [1, 1]), (.goto (-88), 116, [0, 19, 1, 0, 1, 1, 1, 1, 1, 1, 0]), (.iload 6, 119, []), (.ireturn, 121, [0])
  ]
noncomputable def k_Mo_hasSome : List Ent := [
  (.aload_n 0, 0, []), (.getfield 69, 1, [13, 38, 2, 6, 168]), (.bipush 16, 4, [1, 16]), (.iload_n 1, 6, []), (.imul, 7, []), (.iload_n 2, 8, []),
  (.iload_n 3, 9, []), (.iload 4, 10, []), (.invokestatic 407, 12, [0, 254, 5, 1, 8, 0, 0, 0, 8, 87]), (.ifCond .le 7, 15, [1, 2]), (.iconst 1, 18, [1, 1]), (.goto 4, 19, [1, 1]),
  (.iconst 0, 22, [1, 0]), (.ireturn, 23, [1])
  ]
noncomputable def k_Mo_walks : List Ent := [
  (.aload_n 0, 0, []), (.iload_n 1, 1, []), (.iload_n 2, 2, []), (.invokevirtual 457, 3, [1, 258, 2, 1, 3, 13, 0, 0, 8, 157]), (.ifCond .ne 5, 6, [1, 2]), (.iconst (-1), 9, [0, 1]),
  (.ireturn, 10, [0]), (.iconst 1, 11, [1, 1]), (.istore_n 3, 12, []), (.aload_n 0, 13, []), (.invokevirtual 366, 14, [1, 242, 0, 1, 1, 13, 0, 0, 8, 62]), (.istore 4, 17, []),
  (.nop, 19, [13, 1, 1, 1, 1, 1, 0, 0]), (.iload 4, 19, []), (.iconst 1, 21, [1, 1]), (.if_icmp .le 92, 22, [1, 51]), (.iconst 0, 25, [1, 0]), (.istore 5, 26, []),
  (.nop, 28, [19, 1, 1, 1, 1, 1, 1, 0]), (.iload 5, 28, []), (.aload_n 0, 30, []), (.invokevirtual 366, 31, [1, 242, 0, 1, 1, 13, 0, 0, 8, 62]), (.if_icmp .ge 71, 34, [1, 39]), (.iconst 0, 37, [1, 0]),
  (.istore 6, 38, []), (.nop, 40, [26, 1, 1, 1, 1, 1, 1, 1]), (.iload 6, 40, []), (.aload_n 0, 42, []), (.invokevirtual 366, 43, [1, 242, 0, 1, 1, 13, 0, 0, 8, 62]), (.if_icmp .ge 49, 46, [1, 27]),
  (.iload_n 3, 49, []), (.aload_n 0, 50, []), (.iload_n 1, 51, []), (.iload 5, 52, []), (.iload 6, 54, []), (.iload 4, 56, []),
  (.invokevirtual 480, 58, [1, 292, 4, 1, 5, 13, 0, 0, 8, 233]), (.ifCond .eq 21, 61, [1, 9]), (.aload_n 0, 64, []), (.iload_n 2, 65, []), (.iload 5, 66, []), (.iload 6, 68, []),
  (.iload 4, 70, []), (.invokevirtual 480, 72, [1, 292, 4, 1, 5, 13, 0, 0, 8, 233]), (.ifCond .eq 7, 75, [1, 2]), (.iconst 4, 78, [1, 4]), (.goto 4, 79, [1, 2]), (.nop, 82, [48, 1, 1, 1, 0, 1, 1, 1]),
  (.iconst 0, 82, [1, 0]), (.nop, 83, [50, 1, 1, 1, 0, 1, 1, 1]), (.iadd, 83, []), (.istore_n 3, 84, []), (.iload 6, 85, []), (.iload 4, 87, []),
  (.iadd, 89, []), (.istore 6, 90, []), (.goto (-52), 92, [0, 26, 1, 1, 1, 1, 1, 1, 1]), (.iload 5, 95, []), (.iload 4, 97, []), (.iadd, 99, []),
  (.istore 5, 100, []), (.goto (-74), 102, [0, 19, 1, 1, 1, 1, 1, 1, 0]), (.iload 4, 105, []), (.iconst 2, 107, [1, 2]), (.idiv, 108, []), (.istore 4, 109, []),
  (.goto (-92), 111, [0, 13, 1, 1, 1, 1, 1, 0, 0]), (.iload_n 3, 114, []), (.ireturn, 115, [0])
  ]
noncomputable def k_Mo_products : List Ent := [
  (.aload_n 0, 0, []), (.iload_n 1, 1, []), (.iload_n 2, 2, []), (.invokevirtual 457, 3, [1, 258, 2, 1, 3, 13, 0, 0, 8, 157]), (.ifCond .ne 5, 6, [1, 2]), (.iconst (-1), 9, [0, 1]),
  (.ireturn, 10, [0]), (.iconst 0, 11, [1, 0]), (.istore_n 3, 12, []), (.aload_n 0, 13, []), (.invokevirtual 366, 14, [1, 242, 0, 1, 1, 13, 0, 0, 8, 62]), (.istore 4, 17, []),
  (.nop, 19, [13, 1, 1, 1, 1, 1, 0, 0, 0]), (.iload 4, 19, []), (.ifCond .le 114, 21, [1, 63]), (.iconst 0, 24, [1, 0]), (.istore 5, 25, []), (.nop, 27, [18, 1, 1, 1, 1, 1, 1, 0, 0]),
  (.iload 5, 27, []), (.aload_n 0, 29, []), (.invokevirtual 366, 30, [1, 242, 0, 1, 1, 13, 0, 0, 8, 62]), (.if_icmp .ge 93, 33, [1, 51]), (.iconst 0, 36, [1, 0]), (.istore 6, 37, []),
  (.nop, 39, [25, 1, 1, 1, 1, 1, 1, 1, 0]), (.iload 6, 39, []), (.aload_n 0, 41, []), (.invokevirtual 366, 42, [1, 242, 0, 1, 1, 13, 0, 0, 8, 62]), (.if_icmp .ge 71, 45, [1, 39]), (.iconst 0, 48, [1, 0]),
  (.istore 7, 49, []), (.nop, 51, [32, 1, 1, 1, 1, 1, 1, 1, 1]), (.iload 7, 51, []), (.aload_n 0, 53, []), (.invokevirtual 366, 54, [1, 242, 0, 1, 1, 13, 0, 0, 8, 62]), (.if_icmp .ge 49, 57, [1, 27]),
  (.iload_n 3, 60, []), (.aload_n 0, 61, []), (.iload_n 1, 62, []), (.iload 5, 63, []), (.iload 6, 65, []), (.iload 4, 67, []),
  (.invokevirtual 480, 69, [1, 292, 4, 1, 5, 13, 0, 0, 8, 233]), (.ifCond .eq 21, 72, [1, 9]), (.aload_n 0, 75, []), (.iload_n 2, 76, []), (.iload 6, 77, []), (.iload 7, 79, []),
  (.iload 4, 81, []), (.invokevirtual 480, 83, [1, 292, 4, 1, 5, 13, 0, 0, 8, 233]), (.ifCond .eq 7, 86, [1, 2]), (.iconst 1, 89, [1, 1]), (.goto 4, 90, [1, 2]), (.nop, 93, [54, 1, 1, 1, 0, 1, 1, 1, 1]),
  (.iconst 0, 93, [1, 0]), (.nop, 94, [56, 1, 1, 1, 0, 1, 1, 1, 1]), (.iadd, 94, []), (.istore_n 3, 95, []), (.iload 7, 96, []), (.iload 4, 98, []),
  (.iadd, 100, []), (.istore 7, 101, []), (.goto (-52), 103, [0, 32, 1, 1, 1, 1, 1, 1, 1, 1]), (.iload 6, 106, []), (.iload 4, 108, []), (.iadd, 110, []),
  (.istore 6, 111, []), (.goto (-74), 113, [0, 25, 1, 1, 1, 1, 1, 1, 1, 0]), (.iload 5, 116, []), (.iload 4, 118, []), (.iadd, 120, []), (.istore 5, 121, []),
  (.goto (-96), 123, [0, 18, 1, 1, 1, 1, 1, 1, 0, 0]), (.iload 4, 126, []), (.iconst 2, 128, [1, 2]), (.idiv, 129, []), (.istore 4, 130, []), (.goto (-113), 132, [0, 13, 1, 1, 1, 1, 1, 0, 0, 0]),
  (.iload_n 3, 135, []), (.ireturn, 136, [0])
  ]
noncomputable def k_Mo_would : List Ent := [
  (.iload_n 1, 0, []), (.invokestatic 454, 1, [0, 274, 1, 1, 1, 0, 0, 0, 8, 154]), (.ifCond .eq 22, 4, [1, 10]), (.iload 4, 7, []), (.iconst 0, 9, [1, 0]), (.iconst 1, 10, [1, 1]),
  (.invokestatic 140, 11, [0, 195, 3, 1, 3, 0, 0, 0, 7, 95]), (.ifCond .eq 12, 14, [1, 5]), (.aload_n 0, 17, []), (.iload_n 2, 18, []), (.iload_n 3, 19, []), (.invokevirtual 457, 20, [1, 258, 2, 1, 3, 13, 0, 0, 8, 157]),
  (.ifCond .ne 5, 23, [1, 2]), (.iconst (-1), 26, [0, 1]), (.ireturn, 27, [0]), (.aload_n 0, 28, []), (.iload_n 1, 29, []), (.iload_n 2, 30, []),
  (.iload_n 3, 31, []), (.invokevirtual 460, 32, [1, 273, 3, 0, 6, 13, 0, 0, 8, 161]), (.iload 4, 35, []), (.ifCond .ne 12, 37, [1, 5]), (.aload_n 0, 40, []), (.getfield 75, 41, [13, 40, 2, 6, 170]),
  (.iconst 0, 44, [1, 0]), (.invokestatic 400, 45, [0, 252, 2, 1, 4, 0, 0, 0, 8, 93]), (.ireturn, 48, [0]), (.aload_n 0, 49, []), (.aload_n 0, 50, []), (.getfield 75, 51, [13, 40, 2, 6, 170]),
  (.iconst 0, 54, [1, 0]), (.invokevirtual 420, 55, [1, 256, 2, 0, 4, 13, 0, 0, 8, 79]), (.aload_n 0, 58, []), (.getfield 404, 59, [13, 47, 0, 6, 177]), (.ireturn, 62, [0])
  ]
noncomputable def k_Mo_pair : List Ent := [
  (.aload_n 0, 0, []), (.iload_n 1, 1, []), (.invokevirtual 415, 2, [1, 244, 1, 1, 2, 13, 0, 0, 8, 42]), (.ifCond .eq 16, 5, [1, 7]), (.iload_n 2, 8, []), (.ifCond .lt 12, 9, [1, 5]),
  (.iload_n 3, 12, []), (.iconst 0, 13, [1, 0]), (.iconst 1, 14, [1, 1]), (.invokestatic 140, 15, [0, 195, 3, 1, 3, 0, 0, 0, 7, 95]), (.ifCond .ne 5, 18, [1, 2]), (.iconst (-1), 21, [0, 1]),
  (.ireturn, 22, [0]), (.aload_n 0, 23, []), (.invokevirtual 418, 24, [1, 251, 0, 0, 3, 13, 0, 0, 8, 46]), (.iconst 0, 27, [1, 0]), (.istore 4, 28, []), (.iconst 0, 30, [1, 0]),
  (.istore 5, 31, []), (.nop, 33, [20, 1, 1, 1, 1, 1, 1, 0]), (.iload 5, 33, []), (.bipush 16, 35, [1, 16]), (.if_icmp .ge 69, 37, [1, 33]), (.iconst 0, 40, [1, 0]),
  (.istore 6, 41, []), (.nop, 43, [26, 1, 1, 1, 1, 1, 1, 1]), (.iload 6, 43, []), (.bipush 16, 45, [1, 16]), (.if_icmp .ge 53, 47, [1, 25]), (.aload_n 0, 50, []),
  (.getfield 69, 51, [13, 38, 2, 6, 168]), (.bipush 16, 54, [1, 16]), (.iload_n 1, 56, []), (.imul, 57, []), (.iload 5, 58, []), (.iadd, 60, []),
  (.iaload, 61, [20]), (.iload 6, 62, []), (.invokestatic 375, 64, [0, 196, 2, 1, 2, 0, 0, 0, 8, 70]), (.ifCond .ne 6, 67, [1, 1]), (.goto 24, 70, [1, 10]), (.iload 4, 73, []),
  (.iload_n 2, 75, []), (.if_icmp .ne 15, 76, [1, 6]), (.iload_n 3, 79, []), (.ifCond .ne 8, 80, [1, 2]), (.iload 5, 83, []), (.goto 5, 85, [1, 1]),
  (.iload 6, 88, []), (.ireturn, 90, [0]), (.iinc 4 1, 91, [1, 1]), (.nop, 94, [52, 1, 1, 1, 1, 1, 1, 1]), (.iinc 6 1, 94, [1, 1]), (.goto (-54), 97, [0, 26, 1, 1, 1, 1, 1, 1, 1]),
  (.iinc 5 1, 100, [1, 1]), (.goto (-70), 103, [0, 20, 1, 1, 1, 1, 1, 1, 0]), (.iconst (-1), 106, [0, 1]), (.ireturn, 107, [0])
  ]
noncomputable def k_Mo_unlike : List Ent := [
  (.aload_n 0, 0, []), (.iload_n 1, 1, []), (.iload_n 2, 2, []), (.invokevirtual 457, 3, [1, 258, 2, 1, 3, 13, 0, 0, 8, 157]), (.ifCond .ne 5, 6, [1, 2]), (.iconst (-1), 9, [0, 1]),
  (.ireturn, 10, [0]), (.iconst 0, 11, [1, 0]), (.istore_n 3, 12, []), (.iconst 0, 13, [1, 0]), (.istore 4, 14, []), (.nop, 16, [12, 1, 1, 1, 1, 1]),
  (.iload 4, 16, []), (.bipush 16, 18, [1, 16]), (.if_icmp .ge 40, 20, [1, 23]), (.iload_n 3, 23, []), (.aload_n 0, 24, []), (.getfield 69, 25, [13, 38, 2, 6, 168]),
  (.bipush 16, 28, [1, 16]), (.iload_n 1, 30, []), (.imul, 31, []), (.iload 4, 32, []), (.iadd, 34, []), (.iaload, 35, [20]),
  (.aload_n 0, 36, []), (.getfield 69, 37, [13, 38, 2, 6, 168]), (.bipush 16, 40, [1, 16]), (.iload_n 2, 42, []), (.imul, 43, []), (.iload 4, 44, []),
  (.iadd, 46, []), (.iaload, 47, [20]), (.ixor, 48, []), (.invokestatic 397, 49, [0, 197, 1, 1, 3, 0, 0, 0, 8, 90]), (.iadd, 52, []), (.istore_n 3, 53, []),
  (.iinc 4 1, 54, [1, 1]), (.goto (-41), 57, [0, 12, 1, 1, 1, 1, 1]), (.iload_n 3, 60, []), (.ireturn, 61, [0])
  ]
noncomputable def k_Mo_within : List Ent := [
  (.aload_n 0, 0, []), (.iload_n 1, 1, []), (.iload_n 2, 2, []), (.invokevirtual 457, 3, [1, 258, 2, 1, 3, 13, 0, 0, 8, 157]), (.ifCond .ne 5, 6, [1, 2]), (.iconst (-1), 9, [0, 1]),
  (.ireturn, 10, [0]), (.iconst 0, 11, [1, 0]), (.istore_n 3, 12, []), (.iconst 0, 13, [1, 0]), (.istore 4, 14, []), (.nop, 16, [12, 1, 1, 1, 1, 1]),
  (.iload 4, 16, []), (.bipush 16, 18, [1, 16]), (.if_icmp .ge 39, 20, [1, 24]), (.iload_n 3, 23, []), (.aload_n 0, 24, []), (.getfield 69, 25, [13, 38, 2, 6, 168]),
  (.bipush 16, 28, [1, 16]), (.iload_n 1, 30, []), (.imul, 31, []), (.iload 4, 32, []), (.iadd, 34, []), (.iaload, 35, [20]),
  (.aload_n 0, 36, []), (.getfield 69, 37, [13, 38, 2, 6, 168]), (.bipush 16, 40, [1, 16]), (.iload_n 2, 42, []), (.imul, 43, []), (.iload 4, 44, []),
  (.iadd, 46, []), (.iaload, 47, [20]), (.iconst (-1), 48, [0, 1]), (.ixor, 49, []), (.iand, 50, []), (.ior, 51, []),
  (.istore_n 3, 52, []), (.iinc 4 1, 53, [1, 1]), (.goto (-40), 56, [0, 12, 1, 1, 1, 1, 1]), (.iload_n 3, 59, []), (.ifCond .ne 7, 60, [1, 2]), (.iconst 1, 63, [1, 1]),
  (.goto 4, 64, [1, 1]), (.iconst 0, 67, [1, 0]), (.nop, 68, [45, 0, 0, 0, 0, 0]), (.invokestatic 423, 68, [0, 259, 1, 1, 1, 0, 0, 0, 8, 104]), (.ireturn, 71, [0])
  ]
noncomputable def k_Mo_busiest : List Ent := [
  (.aload_n 0, 0, []), (.iload_n 1, 1, []), (.invokevirtual 415, 2, [1, 244, 1, 1, 2, 13, 0, 0, 8, 42]), (.ifCond .eq 12, 5, [1, 5]), (.iload_n 2, 8, []), (.iconst 0, 9, [1, 0]),
  (.iconst 1, 10, [1, 1]), (.invokestatic 140, 11, [0, 195, 3, 1, 3, 0, 0, 0, 7, 95]), (.ifCond .ne 5, 14, [1, 2]), (.iconst (-1), 17, [0, 1]), (.ireturn, 18, [0]), (.aload_n 0, 19, []),
  (.invokevirtual 418, 20, [1, 251, 0, 0, 3, 13, 0, 0, 8, 46]), (.iconst 0, 23, [1, 0]), (.istore_n 3, 24, []), (.iconst 0, 25, [1, 0]), (.istore 4, 26, []), (.iconst 0, 28, [1, 0]),
  (.istore 5, 29, []), (.nop, 31, [20, 1, 1, 1, 1, 1, 1, 0]), (.iload 5, 31, []), (.aload_n 0, 33, []), (.invokevirtual 366, 34, [1, 242, 0, 1, 1, 13, 0, 0, 8, 62]), (.if_icmp .ge 57, 37, [1, 29]),
  (.iload_n 2, 40, []), (.ifCond .ne 18, 41, [1, 9]), (.aload_n 0, 44, []), (.getfield 69, 45, [13, 38, 2, 6, 168]), (.bipush 16, 48, [1, 16]), (.iload_n 1, 50, []),
  (.imul, 51, []), (.iload 5, 52, []), (.iadd, 54, []), (.iaload, 55, [20]), (.goto 10, 56, [1, 4]), (.aload_n 0, 59, []),
  (.iload_n 1, 60, []), (.iload 5, 61, []), (.invokevirtual 473, 63, [1, 287, 2, 1, 5, 13, 0, 0, 8, 213]), (.nop, 66, [40, 1, 1, 1, 1, 1, 1, 0]), (.invokestatic 397, 66, [0, 197, 1, 1, 3, 0, 0, 0, 8, 90]), (.istore 6, 69, []),
  (.iload 6, 71, []), (.iload 4, 73, []), (.if_icmp .gt 6, 75, [1, 1]), (.goto 10, 78, [1, 4]), (.iload 5, 81, []), (.istore_n 3, 83, []),
  (.iload 6, 84, []), (.istore 4, 86, []), (.nop, 88, [51, 1, 1, 1, 1, 1, 1, 0]), (.iinc 5 1, 88, [1, 1]), (.goto (-60), 91, [0, 20, 1, 1, 1, 1, 1, 1, 0]), (.iload_n 3, 94, []),
  (.ireturn, 95, [0])
  ]
noncomputable def k_Mo_densest : List Ent := [
  (.aload_n 0, 0, []), (.iload_n 1, 1, []), (.invokevirtual 415, 2, [1, 244, 1, 1, 2, 13, 0, 0, 8, 42]), (.ifCond .eq 26, 5, [1, 13]), (.iload_n 2, 8, []), (.iconst 0, 9, [1, 0]),
  (.aload_n 0, 10, []), (.getfield 20, 11, [13, 12, 2, 6, 142]), (.iconst 0, 14, [1, 0]), (.iaload, 15, [20]), (.invokestatic 140, 16, [0, 195, 3, 1, 3, 0, 0, 0, 7, 95]), (.ifCond .eq 12, 19, [1, 5]),
  (.iload_n 3, 22, []), (.iconst 0, 23, [1, 0]), (.iconst 2, 24, [1, 2]), (.invokestatic 140, 25, [0, 195, 3, 1, 3, 0, 0, 0, 7, 95]), (.ifCond .ne 5, 28, [1, 2]), (.iconst (-1), 31, [0, 1]),
  (.ireturn, 32, [0]), (.aload_n 0, 33, []), (.invokevirtual 418, 34, [1, 251, 0, 0, 3, 13, 0, 0, 8, 46]), (.aload_n 0, 37, []), (.invokevirtual 366, 38, [1, 242, 0, 1, 1, 13, 0, 0, 8, 62]), (.iload_n 2, 41, []),
  (.ishr, 42, []), (.istore 4, 43, []), (.iconst 0, 45, [1, 0]), (.istore 5, 46, []), (.iconst 0, 48, [1, 0]), (.istore 6, 49, []),
  (.iconst 0, 51, [1, 0]), (.istore 7, 52, []), (.iconst 0, 54, [1, 0]), (.istore 8, 55, []), (.nop, 57, [35, 1, 1, 0, 1, 1, 1, 1, 1, 1, 0, 0]), (.iload 8, 57, []),
  (.aload_n 0, 59, []), (.invokevirtual 366, 60, [1, 242, 0, 1, 1, 13, 0, 0, 8, 62]), (.if_icmp .ge 76, 63, [1, 38]), (.iconst 0, 66, [1, 0]), (.istore 9, 67, []), (.nop, 69, [42, 1, 1, 0, 1, 1, 1, 1, 1, 1, 1, 0]),
  (.iload 9, 69, []), (.aload_n 0, 71, []), (.invokevirtual 366, 72, [1, 242, 0, 1, 1, 13, 0, 0, 8, 62]), (.if_icmp .ge 54, 75, [1, 26]), (.aload_n 0, 78, []), (.getfield 69, 79, [13, 38, 2, 6, 168]),
  (.bipush 16, 82, [1, 16]), (.iload_n 1, 84, []), (.imul, 85, []), (.iload 8, 86, []), (.iload 9, 88, []), (.iload 4, 90, []),
  (.invokestatic 407, 92, [0, 254, 5, 1, 8, 0, 0, 0, 8, 87]), (.istore 10, 95, []), (.iload 10, 97, []), (.iload 7, 99, []), (.if_icmp .gt 6, 101, [1, 1]), (.goto 15, 104, [1, 6]),
  (.iload 8, 107, []), (.istore 5, 109, []), (.iload 9, 111, []), (.istore 6, 113, []), (.iload 10, 115, []), (.istore 7, 117, []),
  (.nop, 119, [67, 1, 1, 0, 1, 1, 1, 1, 1, 1, 1, 0]), (.iload 9, 119, []), (.iload 4, 121, []), (.iadd, 123, []), (.istore 9, 124, []), (.goto (-57), 126, [0, 42, 1, 1, 0, 1, 1, 1, 1, 1, 1, 1, 0]),
  (.iload 8, 129, []), (.iload 4, 131, []), (.iadd, 133, []), (.istore 8, 134, []), (.goto (-79), 136, [0, 35, 1, 1, 0, 1, 1, 1, 1, 1, 1, 0, 0]), (.iload_n 3, 139, []),
  (.ifCond .ne 8, 140, [1, 2]), (.iload 5, 143, []), (.goto 15, 145, [1, 6]), (.iload_n 3, 148, []), (.iconst 1, 149, [1, 1]), (.if_icmp .ne 8, 150, [1, 2]),
  (.iload 6, 153, []), (.goto 5, 155, [1, 1]), (.iload 7, 158, []), (.ireturn, 160, [0])
  ]
noncomputable def k_Mo_reachedFrom : List Ent := [
  (.iconst 1, 0, [1, 1]), (.iload_n 2, 1, []), (.ishl, 2, []), (.istore_n 3, 3, []), (.iconst 0, 4, [1, 0]), (.istore 4, 5, []),
  (.nop, 7, [7, 1, 1, 0, 1, 1]), (.iload_n 3, 7, []), (.iload 4, 8, []), (.if_icmp .eq 24, 10, [1, 13]), (.iload_n 3, 13, []), (.istore 4, 14, []),
  (.iload_n 3, 16, []), (.iload_n 3, 17, []), (.aload_n 0, 18, []), (.getfield 69, 19, [13, 38, 2, 6, 168]), (.bipush 16, 22, [1, 16]), (.iload_n 1, 24, []),
  (.imul, 25, []), (.invokestatic 386, 26, [0, 247, 3, 1, 5, 0, 0, 0, 8, 73]), (.ior, 29, []), (.istore_n 3, 30, []), (.goto (-24), 31, [0, 7, 1, 1, 0, 1, 1]), (.iload_n 3, 34, []),
  (.ireturn, 35, [0])
  ]
noncomputable def k_Mo_reached : List Ent := [
  (.aload_n 0, 0, []), (.iload_n 1, 1, []), (.invokevirtual 415, 2, [1, 244, 1, 1, 2, 13, 0, 0, 8, 42]), (.ifCond .eq 11, 5, [1, 4]), (.aload_n 0, 8, []), (.iload_n 2, 9, []),
  (.invokevirtual 439, 10, [1, 245, 1, 1, 2, 13, 0, 0, 8, 118]), (.ifCond .ne 5, 13, [1, 2]), (.iconst (-1), 16, [0, 1]), (.ireturn, 17, [0]), (.aload_n 0, 18, []), (.invokevirtual 418, 19, [1, 251, 0, 0, 3, 13, 0, 0, 8, 46]),
  (.aload_n 0, 22, []), (.iload_n 1, 23, []), (.iload_n 2, 24, []), (.invokevirtual 484, 25, [1, 301, 2, 1, 5, 13, 0, 0, 9, 29]), (.ireturn, 28, [0])
  ]
noncomputable def k_Mo_far : List Ent := [
  (.aload_n 0, 0, []), (.iload_n 1, 1, []), (.iload_n 2, 2, []), (.iload_n 3, 3, []), (.invokevirtual 442, 4, [1, 264, 3, 1, 4, 13, 0, 0, 8, 114]), (.ifCond .ne 5, 7, [1, 2]),
  (.iconst (-1), 10, [0, 1]), (.ireturn, 11, [0]), (.aload_n 0, 12, []), (.invokevirtual 418, 13, [1, 251, 0, 0, 3, 13, 0, 0, 8, 46]), (.iconst 1, 16, [1, 1]), (.iload_n 2, 17, []),
  (.ishl, 18, []), (.istore 4, 19, []), (.iconst 0, 21, [1, 0]), (.istore 5, 22, []), (.nop, 24, [17, 1, 1, 0, 1, 1, 1]), (.iload 5, 24, []),
  (.bipush 16, 26, [1, 16]), (.if_icmp .ge 39, 28, [1, 18]), (.iload 4, 31, []), (.iload_n 3, 33, []), (.invokestatic 375, 34, [0, 196, 2, 1, 2, 0, 0, 0, 8, 70]), (.ifCond .eq 6, 37, [1, 2]),
  (.iload 5, 40, []), (.ireturn, 42, [0]), (.iload 4, 43, []), (.iload 4, 45, []), (.aload_n 0, 47, []), (.getfield 69, 48, [13, 38, 2, 6, 168]),
  (.bipush 16, 51, [1, 16]), (.iload_n 1, 53, []), (.imul, 54, []), (.invokestatic 386, 55, [0, 247, 3, 1, 5, 0, 0, 0, 8, 73]), (.ior, 58, []), (.istore 4, 59, []),
  (.iinc 5 1, 61, [1, 1]), (.goto (-40), 64, [0, 17, 1, 1, 0, 1, 1, 1]), (.iconst (-1), 67, [0, 1]), (.ireturn, 68, [0])
  ]
noncomputable def k_Mo_mutual : List Ent := [
  (.aload_n 0, 0, []), (.iload_n 1, 1, []), (.invokevirtual 415, 2, [1, 244, 1, 1, 2, 13, 0, 0, 8, 42]), (.ifCond .eq 11, 5, [1, 4]), (.aload_n 0, 8, []), (.iload_n 2, 9, []),
  (.invokevirtual 439, 10, [1, 245, 1, 1, 2, 13, 0, 0, 8, 118]), (.ifCond .ne 5, 13, [1, 2]), (.iconst (-1), 16, [0, 1]), (.ireturn, 17, [0]), (.aload_n 0, 18, []), (.invokevirtual 418, 19, [1, 251, 0, 0, 3, 13, 0, 0, 8, 46]),
  (.aload_n 0, 22, []), (.iload_n 1, 23, []), (.iload_n 2, 24, []), (.invokevirtual 484, 25, [1, 301, 2, 1, 5, 13, 0, 0, 9, 29]), (.istore_n 3, 28, []), (.iconst 0, 29, [1, 0]),
  (.istore 4, 30, []), (.iconst 0, 32, [1, 0]), (.istore 5, 33, []), (.nop, 35, [22, 1, 1, 1, 1, 1, 1]), (.iload 5, 35, []), (.aload_n 0, 37, []),
  (.invokevirtual 366, 38, [1, 242, 0, 1, 1, 13, 0, 0, 8, 62]), (.if_icmp .ge 45, 41, [1, 23]), (.iload 4, 44, []), (.iload_n 3, 46, []), (.iload 5, 47, []), (.invokestatic 375, 49, [0, 196, 2, 1, 2, 0, 0, 0, 8, 70]),
  (.ifCond .eq 24, 52, [1, 11]), (.aload_n 0, 55, []), (.iload_n 1, 56, []), (.iload 5, 57, []), (.invokevirtual 484, 59, [1, 301, 2, 1, 5, 13, 0, 0, 9, 29]), (.iload_n 2, 62, []),
  (.invokestatic 375, 63, [0, 196, 2, 1, 2, 0, 0, 0, 8, 70]), (.ifCond .eq 10, 66, [1, 4]), (.iconst 1, 69, [1, 1]), (.iload 5, 70, []), (.ishl, 72, []), (.goto 4, 73, [1, 2]),
  (.nop, 76, [43, 1, 1, 1, 1, 0, 1]), (.iconst 0, 76, [1, 0]), (.nop, 77, [45, 1, 1, 1, 1, 0, 1]), (.ior, 77, []), (.istore 4, 78, []), (.iinc 5 1, 80, [1, 1]),
  (.goto (-48), 83, [0, 22, 1, 1, 1, 1, 1, 1]), (.iload 4, 86, []), (.ireturn, 88, [0])
  ]
noncomputable def k_Mo_closure : List Ent := [
  (.aload_n 0, 0, []), (.iload_n 1, 1, []), (.invokevirtual 415, 2, [1, 244, 1, 1, 2, 13, 0, 0, 8, 42]), (.ifCond .ne 5, 5, [1, 2]), (.iconst (-1), 8, [0, 1]), (.ireturn, 9, [0]),
  (.aload_n 0, 10, []), (.invokevirtual 418, 11, [1, 251, 0, 0, 3, 13, 0, 0, 8, 46]), (.iconst 0, 14, [1, 0]), (.istore_n 2, 15, []), (.iconst 0, 16, [1, 0]), (.istore_n 3, 17, []),
  (.nop, 18, [13, 1, 1, 1, 1, 0, 0]), (.iload_n 3, 18, []), (.aload_n 0, 19, []), (.invokevirtual 366, 20, [1, 242, 0, 1, 1, 13, 0, 0, 8, 62]), (.if_icmp .ge 73, 23, [1, 39]), (.iconst 0, 26, [1, 0]),
  (.istore 4, 27, []), (.iconst 0, 29, [1, 0]), (.istore 5, 30, []), (.nop, 32, [22, 1, 1, 1, 1, 1, 1]), (.iload 5, 32, []), (.aload_n 0, 34, []),
  (.invokevirtual 366, 35, [1, 242, 0, 1, 1, 13, 0, 0, 8, 62]), (.if_icmp .ge 44, 38, [1, 23]), (.iload 4, 41, []), (.aload_n 0, 43, []), (.getfield 69, 44, [13, 38, 2, 6, 168]), (.bipush 16, 47, [1, 16]),
  (.iload_n 1, 49, []), (.imul, 50, []), (.iload_n 3, 51, []), (.iadd, 52, []), (.iaload, 53, [20]), (.iload 5, 54, []),
  (.invokestatic 375, 56, [0, 196, 2, 1, 2, 0, 0, 0, 8, 70]), (.ifCond .eq 13, 59, [1, 5]), (.aload_n 0, 62, []), (.iload_n 1, 63, []), (.iload 5, 64, []), (.invokevirtual 484, 66, [1, 301, 2, 1, 5, 13, 0, 0, 9, 29]),
  (.goto 4, 69, [1, 1]), (.iconst 0, 72, [1, 0]), (.nop, 73, [45, 1, 1, 1, 1, 0, 1]), (.ior, 73, []), (.istore 4, 74, []), (.iinc 5 1, 76, [1, 1]),
  (.goto (-47), 79, [0, 22, 1, 1, 1, 1, 1, 1]), (.iload_n 2, 82, []), (.iload 4, 83, []), (.invokestatic 397, 85, [0, 197, 1, 1, 3, 0, 0, 0, 8, 90]), (.iadd, 88, []), (.istore_n 2, 89, []),
  (.iinc 3 1, 90, [1, 1]), (.goto (-75), 93, [0, 13, 1, 1, 1, 1, 0, 0]), (.iload_n 2, 96, []), (.ireturn, 97, [0])
  ]
noncomputable def k_Mo_settles : List Ent := [
  (.aload_n 0, 0, []), (.iload_n 1, 1, []), (.invokevirtual 415, 2, [1, 244, 1, 1, 2, 13, 0, 0, 8, 42]), (.ifCond .ne 5, 5, [1, 2]), (.iconst (-1), 8, [0, 1]), (.ireturn, 9, [0]),
  (.aload_n 0, 10, []), (.invokevirtual 418, 11, [1, 251, 0, 0, 3, 13, 0, 0, 8, 46]), (.iconst 0, 14, [1, 0]), (.istore_n 2, 15, []), (.nop, 16, [11, 1, 1, 1, 0, 0]), (.iload_n 2, 16, []),
  (.bipush 16, 17, [1, 16]), (.if_icmp .ge 26, 19, [1, 14]), (.aload_n 0, 22, []), (.getfield 75, 23, [13, 40, 2, 6, 170]), (.iload_n 2, 26, []), (.aload_n 0, 27, []),
  (.getfield 69, 28, [13, 38, 2, 6, 168]), (.bipush 16, 31, [1, 16]), (.iload_n 1, 33, []), (.imul, 34, []), (.iload_n 2, 35, []), (.iadd, 36, []),
  (.iaload, 37, [20]), (.iastore, 38, []), (.iinc 2 1, 39, [1, 1]), (.goto (-26), 42, [0, 11, 1, 1, 1, 0, 0]), (.iconst 0, 45, [1, 0]), (.istore_n 2, 46, []),
  (.iconst 1, 47, [1, 1]), (.istore_n 3, 48, []), (.nop, 49, [33, 1, 0, 1, 1, 0]), (.iload_n 3, 49, []), (.ifCond .eq 123, 50, [1, 70]), (.iconst 0, 53, [1, 0]),
  (.istore_n 3, 54, []), (.iconst 0, 55, [1, 0]), (.istore 4, 56, []), (.nop, 58, [40, 1, 0, 1, 1, 1]), (.iload 4, 58, []), (.bipush 16, 60, [1, 16]),
  (.if_icmp .ge 66, 62, [1, 36]), (.aload_n 0, 65, []), (.getfield 78, 66, [13, 41, 2, 6, 171]), (.iload 4, 69, []), (.aload_n 0, 71, []), (.getfield 75, 72, [13, 40, 2, 6, 170]),
  (.iload 4, 75, []), (.iaload, 77, [20]), (.aload_n 0, 78, []), (.getfield 75, 79, [13, 40, 2, 6, 170]), (.iload 4, 82, []), (.iaload, 84, [20]),
  (.aload_n 0, 85, []), (.getfield 75, 86, [13, 40, 2, 6, 170]), (.iconst 0, 89, [1, 0]), (.invokestatic 386, 90, [0, 247, 3, 1, 5, 0, 0, 0, 8, 73]), (.ior, 93, []), (.iastore, 94, []),
  (.iload_n 3, 95, []), (.ifCond .ne 20, 96, [1, 9]), (.aload_n 0, 99, []), (.getfield 78, 100, [13, 41, 2, 6, 171]), (.iload 4, 103, []), (.iaload, 105, [20]),
  (.aload_n 0, 106, []), (.getfield 75, 107, [13, 40, 2, 6, 170]), (.iload 4, 110, []), (.iaload, 112, [20]), (.if_icmp .eq 7, 113, [1, 3]), (.nop, 116, [72, 1, 0, 1, 0, 1]),
  (.iconst 1, 116, [1, 1]), (.goto 4, 117, [1, 1]), (.iconst 0, 120, [1, 0]), (.nop, 121, [76, 1, 0, 1, 0, 1]), (.istore_n 3, 121, []), (.iinc 4 1, 122, [1, 1]),
  (.goto (-67), 125, [0, 40, 1, 0, 1, 1, 1]), (.iconst 0, 128, [1, 0]), (.istore 4, 129, []), (.nop, 131, [82, 1, 0, 1, 1, 1]), (.iload 4, 131, []), (.bipush 16, 133, [1, 16]),
  (.if_icmp .ge 23, 135, [1, 10]), (.aload_n 0, 138, []), (.getfield 75, 139, [13, 40, 2, 6, 170]), (.iload 4, 142, []), (.aload_n 0, 144, []), (.getfield 78, 145, [13, 41, 2, 6, 171]),
  (.iload 4, 148, []), (.iaload, 150, [20]), (.iastore, 151, []), (.iinc 4 1, 152, [1, 1]), (.goto (-24), 155, [0, 82, 1, 0, 1, 1, 1]), (.iload_n 2, 158, []),
  (.iload_n 3, 159, []), (.ifCond .eq 7, 160, [1, 2]), (.iconst 1, 163, [1, 1]), (.goto 4, 164, [1, 1]), (.iconst 0, 167, [1, 0]), (.nop, 168, [102, 1, 0, 0, 1, 0]),
  (.iadd, 168, []), (.istore_n 2, 169, []), (.goto (-121), 170, [0, 33, 1, 0, 1, 1, 0]), (.iload_n 2, 173, []), (.ireturn, 174, [0])
  ]
noncomputable def k_Mo_parts : List Ent := [
  (.aload_n 0, 0, []), (.iload_n 1, 1, []), (.invokevirtual 415, 2, [1, 244, 1, 1, 2, 13, 0, 0, 8, 42]), (.ifCond .ne 5, 5, [1, 2]), (.iconst (-1), 8, [0, 1]), (.ireturn, 9, [0]),
  (.aload_n 0, 10, []), (.invokevirtual 418, 11, [1, 251, 0, 0, 3, 13, 0, 0, 8, 46]), (.iconst 0, 14, [1, 0]), (.istore_n 2, 15, []), (.iconst 0, 16, [1, 0]), (.istore_n 3, 17, []),
  (.iconst 0, 18, [1, 0]), (.istore 4, 19, []), (.nop, 21, [15, 1, 1, 1, 1, 1, 0, 0, 0]), (.iload 4, 21, []), (.aload_n 0, 23, []), (.invokevirtual 366, 24, [1, 242, 0, 1, 1, 13, 0, 0, 8, 62]),
  (.if_icmp .ge 119, 27, [1, 65]), (.iload_n 2, 30, []), (.iload 4, 31, []), (.invokestatic 375, 33, [0, 196, 2, 1, 2, 0, 0, 0, 8, 70]), (.ifCond .eq 6, 36, [1, 1]), (.goto 101, 39, [1, 57]),
  (.iinc 3 1, 42, [1, 1]), (.iconst 1, 45, [1, 1]), (.iload 4, 46, []), (.ishl, 48, []), (.istore 5, 49, []), (.iconst 0, 51, [1, 0]),
  (.istore 6, 52, []), (.nop, 54, [32, 1, 1, 1, 1, 1, 1, 1, 0]), (.iload 5, 54, []), (.iload 6, 56, []), (.if_icmp .eq 77, 58, [1, 42]), (.iload 5, 61, []),
  (.istore 6, 63, []), (.iload 5, 65, []), (.iload 5, 67, []), (.aload_n 0, 69, []), (.getfield 69, 70, [13, 38, 2, 6, 168]), (.bipush 16, 73, [1, 16]),
  (.iload_n 1, 75, []), (.imul, 76, []), (.invokestatic 386, 77, [0, 247, 3, 1, 5, 0, 0, 0, 8, 73]), (.ior, 80, []), (.istore 5, 81, []), (.iconst 0, 83, [1, 0]),
  (.istore 7, 84, []), (.nop, 86, [50, 1, 1, 1, 1, 1, 1, 1, 1]), (.iload 7, 86, []), (.aload_n 0, 88, []), (.invokevirtual 366, 89, [1, 242, 0, 1, 1, 13, 0, 0, 8, 62]), (.if_icmp .ge 40, 92, [1, 22]),
  (.iload 5, 95, []), (.aload_n 0, 97, []), (.getfield 69, 98, [13, 38, 2, 6, 168]), (.bipush 16, 101, [1, 16]), (.iload_n 1, 103, []), (.imul, 104, []),
  (.iload 7, 105, []), (.iadd, 107, []), (.iaload, 108, [20]), (.iload 5, 109, []), (.iand, 111, []), (.ifCond .eq 10, 112, [1, 4]),
  (.iconst 1, 115, [1, 1]), (.iload 7, 116, []), (.ishl, 118, []), (.goto 4, 119, [1, 1]), (.iconst 0, 122, [1, 0]), (.nop, 123, [72, 1, 1, 1, 1, 1, 0, 1, 1]),
  (.ior, 123, []), (.istore 5, 124, []), (.iinc 7 1, 126, [1, 1]), (.goto (-43), 129, [0, 50, 1, 1, 1, 1, 1, 1, 1, 1]), (.goto (-78), 132, [0, 32, 1, 1, 1, 1, 1, 1, 1, 0]), (.iload_n 2, 135, []),
  (.iload 5, 136, []), (.ior, 138, []), (.istore_n 2, 139, []), (.nop, 140, [82, 1, 1, 1, 1, 1, 0, 0, 0]), (.iinc 4 1, 140, [1, 1]), (.goto (-122), 143, [0, 15, 1, 1, 1, 1, 1, 0, 0, 0]),
  (.iload_n 3, 146, []), (.ireturn, 147, [0])
  ]
noncomputable def k_Mo_isSoIn : List Ent := [
  (.aload_n 0, 0, []), (.getfield 69, 1, [13, 38, 2, 6, 168]), (.bipush 16, 4, [1, 16]), (.iload_n 1, 6, []), (.imul, 7, []), (.iload_n 3, 8, []),
  (.iadd, 9, []), (.iaload, 10, [20]), (.istore 4, 11, []), (.iload_n 2, 13, []), (.tableswitch 119 0 4 #[34, 41, 58, 85, 100], 14, [49, 0, 4, 14, 30, 38]), (.iload 4, 48, []),
  (.iload_n 3, 50, []), (.invokestatic 375, 51, [0, 196, 2, 1, 2, 0, 0, 0, 8, 70]), (.ireturn, 54, [1]), (.iload 4, 55, []), (.aload_n 0, 57, []), (.iload_n 1, 58, []),
  (.iload_n 3, 59, []), (.invokevirtual 473, 60, [1, 287, 2, 1, 5, 13, 0, 0, 8, 213]), (.if_icmp .ne 7, 63, [1, 2]), (.iconst 1, 66, [1, 1]), (.goto 4, 67, [1, 1]), (.iconst 0, 70, [1, 0]),
  (.ireturn, 71, [1]), (.iload 4, 72, []), (.aload_n 0, 74, []), (.getfield 69, 75, [13, 38, 2, 6, 168]), (.bipush 16, 78, [1, 16]), (.iload_n 1, 80, []),
  (.imul, 81, []), (.invokestatic 386, 82, [0, 247, 3, 1, 5, 0, 0, 0, 8, 73]), (.iload 4, 85, []), (.iconst (-1), 87, [0, 1]), (.ixor, 88, []), (.iand, 89, []),
  (.ifCond .ne 7, 90, [1, 2]), (.iconst 1, 93, [1, 1]), (.goto 4, 94, [1, 1]), (.iconst 0, 97, [1, 0]), (.ireturn, 98, [1]), (.iload 4, 99, []),
  (.invokestatic 397, 101, [0, 197, 1, 1, 3, 0, 0, 0, 8, 90]), (.iconst 2, 104, [1, 2]), (.if_icmp .ge 7, 105, [1, 2]), (.iconst 1, 108, [1, 1]), (.goto 4, 109, [1, 1]), (.iconst 0, 112, [1, 0]),
  (.ireturn, 113, [1]), (.aload_n 0, 114, []), (.iload_n 1, 115, []), (.iload_n 3, 116, []), (.invokevirtual 473, 117, [1, 287, 2, 1, 5, 13, 0, 0, 8, 213]), (.invokestatic 397, 120, [0, 197, 1, 1, 3, 0, 0, 0, 8, 90]),
  (.iconst 2, 123, [1, 2]), (.if_icmp .ge 7, 124, [1, 2]), (.iconst 1, 127, [1, 1]), (.goto 4, 128, [1, 1]), (.iconst 0, 131, [1, 0]), (.ireturn, 132, [1]),
  (.iload 4, 133, []), (.ifCond .eq 7, 135, [1, 2]), (.iconst 1, 138, [1, 1]), (.goto 4, 139, [1, 1]), (.iconst 0, 142, [1, 0]), (.ireturn, 143, [1])
  ]
noncomputable def k_Mo_is : List Ent := [
  (.aload_n 0, 0, []), (.iload_n 1, 1, []), (.invokevirtual 415, 2, [1, 244, 1, 1, 2, 13, 0, 0, 8, 42]), (.ifCond .eq 12, 5, [1, 5]), (.iload_n 2, 8, []), (.iconst 0, 9, [1, 0]),
  (.iconst 5, 10, [1, 5]), (.invokestatic 140, 11, [0, 195, 3, 1, 3, 0, 0, 0, 7, 95]), (.ifCond .ne 5, 14, [1, 2]), (.iconst (-1), 17, [0, 1]), (.ireturn, 18, [0]), (.aload_n 0, 19, []),
  (.invokevirtual 418, 20, [1, 251, 0, 0, 3, 13, 0, 0, 8, 46]), (.iconst 1, 23, [1, 1]), (.istore_n 3, 24, []), (.iconst 0, 25, [1, 0]), (.istore 4, 26, []), (.nop, 28, [18, 1, 1, 1, 1, 1]),
  (.iload 4, 28, []), (.aload_n 0, 30, []), (.invokevirtual 366, 31, [1, 242, 0, 1, 1, 13, 0, 0, 8, 62]), (.if_icmp .ge 30, 34, [1, 16]), (.iload_n 3, 37, []), (.ifCond .eq 18, 38, [1, 8]),
  (.aload_n 0, 41, []), (.iload_n 1, 42, []), (.iload_n 2, 43, []), (.iload 4, 44, []), (.invokevirtual 487, 46, [1, 308, 3, 1, 5, 13, 0, 0, 9, 57]), (.ifCond .eq 7, 49, [1, 2]),
  (.iconst 1, 52, [1, 1]), (.goto 4, 53, [1, 2]), (.nop, 56, [33, 1, 1, 1, 0, 1]), (.iconst 0, 56, [1, 0]), (.nop, 57, [35, 1, 1, 1, 0, 1]), (.istore_n 3, 57, []),
  (.iinc 4 1, 58, [1, 1]), (.goto (-33), 61, [0, 18, 1, 1, 1, 1, 1]), (.iload_n 3, 64, []), (.invokestatic 423, 65, [0, 259, 1, 1, 1, 0, 0, 0, 8, 104]), (.ireturn, 68, [0])
  ]
noncomputable def k_Mo_law : List Ent := [
  (.iload_n 2, 0, []), (.aload_n 0, 1, []), (.getfield 20, 2, [13, 12, 2, 6, 142]), (.iconst 0, 5, [1, 0]), (.iaload, 6, [20]), (.bipush 6, 7, [1, 6]),
  (.invokestatic 140, 9, [0, 195, 3, 1, 3, 0, 0, 0, 7, 95]), (.ifCond .eq 11, 12, [1, 4]), (.aload_n 0, 15, []), (.iload_n 1, 16, []), (.invokevirtual 433, 17, [1, 257, 1, 1, 2, 13, 0, 0, 8, 38]), (.ifCond .ne 5, 20, [1, 2]),
  (.iconst (-1), 23, [0, 1]), (.ireturn, 24, [0]), (.aload_n 0, 25, []), (.getfield 69, 26, [13, 38, 2, 6, 168]), (.bipush 16, 29, [1, 16]), (.iload_n 1, 31, []),
  (.imul, 32, []), (.invokestatic 400, 33, [0, 252, 2, 1, 4, 0, 0, 0, 8, 93]), (.ifCond .ne 7, 36, [1, 2]), (.iconst 4, 39, [1, 4]), (.goto 18, 40, [1, 11]), (.aload_n 0, 43, []),
  (.getfield 404, 44, [13, 47, 0, 6, 177]), (.iconst 4, 47, [1, 4]), (.iload_n 2, 48, []), (.aload_n 0, 49, []), (.getfield 20, 50, [13, 12, 2, 6, 142]), (.iconst 0, 53, [1, 0]),
  (.iaload, 54, [20]), (.isub, 55, []), (.imul, 56, []), (.iadd, 57, []), (.ireturn, 58, [0])
  ]
noncomputable def k_Mo_common : List Ent := [
  (.iload_n 0, 0, []), (.istore_n 2, 1, []), (.iload_n 1, 2, []), (.istore_n 3, 3, []), (.nop, 4, [5, 0, 0, 1, 1, 0]), (.iload_n 3, 4, []),
  (.ifCond .eq 16, 5, [1, 9]), (.iload_n 2, 8, []), (.iload_n 3, 9, []), (.irem, 10, []), (.istore 4, 11, []), (.iload_n 3, 13, []),
  (.istore_n 2, 14, []), (.iload 4, 15, []), (.istore_n 3, 17, []), (.goto (-14), 18, [0, 5, 0, 0, 1, 1, 0]), (.iload_n 2, 21, []), (.ireturn, 22, [0])
  ]
noncomputable def k_Mo_odds : List Ent := [
  (.iload_n 1, 0, []), (.iconst 0, 1, [1, 0]), (.iconst 4, 2, [1, 4]), (.invokestatic 140, 3, [0, 195, 3, 1, 3, 0, 0, 0, 7, 95]), (.ifCond .eq 12, 6, [1, 5]), (.iload_n 2, 9, []),
  (.iconst 0, 10, [1, 0]), (.iconst 1, 11, [1, 1]), (.invokestatic 140, 12, [0, 195, 3, 1, 3, 0, 0, 0, 7, 95]), (.ifCond .ne 5, 15, [1, 2]), (.iconst (-1), 18, [0, 1]), (.ireturn, 19, [0]),
  (.iconst 1, 20, [1, 1]), (.istore_n 3, 21, []), (.iconst 1, 22, [1, 1]), (.istore 4, 23, []), (.iconst 0, 25, [1, 0]), (.istore 5, 26, []),
  (.nop, 28, [19, 1, 1, 1, 1, 1, 1]), (.iload 5, 28, []), (.iload_n 1, 30, []), (.if_icmp .ge 28, 31, [1, 15]), (.iload_n 3, 34, []), (.bipush 100, 35, [1, 100]),
  (.aload_n 0, 37, []), (.getfield 26, 38, [13, 14, 2, 6, 144]), (.iconst 0, 41, [1, 0]), (.iaload, 42, [20]), (.isub, 43, []), (.imul, 44, []),
  (.istore_n 3, 45, []), (.iload 4, 46, []), (.bipush 100, 48, [1, 100]), (.imul, 50, []), (.istore 4, 51, []), (.iinc 5 1, 53, [1, 1]),
  (.goto (-28), 56, [0, 19, 1, 1, 1, 1, 1, 1]), (.iload_n 2, 59, []), (.ifCond .ne 7, 60, [1, 2]), (.iload_n 3, 63, []), (.goto 5, 64, [1, 1]), (.iload 4, 67, []),
  (.nop, 69, [43, 0, 0, 0, 1, 1, 0]), (.iload 4, 69, []), (.iload_n 3, 71, []), (.invokestatic 490, 72, [0, 311, 2, 1, 5, 0, 0, 0, 9, 69]), (.idiv, 75, []), (.ireturn, 76, [0])
  ]
noncomputable def k_Mo_lies : List Ent := [
  (.iload_n 1, 0, []), (.iconst 0, 1, [1, 0]), (.aload_n 0, 2, []), (.getfield 363, 3, [13, 50, 0, 6, 180]), (.iconst 1, 6, [1, 1]), (.isub, 7, []),
  (.invokestatic 140, 8, [0, 195, 3, 1, 3, 0, 0, 0, 7, 95]), (.ifCond .eq 12, 11, [1, 5]), (.aload_n 0, 14, []), (.getfield 96, 15, [13, 49, 2, 6, 179]), (.iload_n 1, 18, []), (.iaload, 19, [20]),
  (.goto 5, 20, [1, 1]), (.bipush (-2), 23, [0, 2]), (.ireturn, 25, [0])
  ]
noncomputable def k_Mo_isBlock : List Ent := [
  (.iload_n 1, 0, []), (.iconst 0, 1, [1, 0]), (.aload_n 0, 2, []), (.getfield 20, 3, [13, 12, 2, 6, 142]), (.iconst 0, 6, [1, 0]), (.iaload, 7, [20]),
  (.invokestatic 140, 8, [0, 195, 3, 1, 3, 0, 0, 0, 7, 95]), (.ifCond .eq 22, 11, [1, 13]), (.iload_n 2, 14, []), (.iconst 0, 15, [1, 0]), (.iconst 1, 16, [1, 1]), (.iconst 2, 17, [1, 2]),
  (.iload_n 1, 18, []), (.imul, 19, []), (.ishl, 20, []), (.iconst 1, 21, [1, 1]), (.isub, 22, []), (.invokestatic 140, 23, [0, 195, 3, 1, 3, 0, 0, 0, 7, 95]),
  (.ifCond .eq 7, 26, [1, 2]), (.iconst 1, 29, [1, 1]), (.goto 4, 30, [1, 1]), (.iconst 0, 33, [1, 0]), (.ireturn, 34, [1])
  ]
noncomputable def k_Mo_seen : List Ent := [
  (.aload_n 0, 0, []), (.iload_n 1, 1, []), (.iload_n 2, 2, []), (.invokevirtual 493, 3, [1, 314, 2, 1, 3, 13, 0, 0, 9, 80]), (.ifCond .eq 32, 6, [1, 14]), (.iload_n 3, 9, []),
  (.iconst 0, 10, [1, 0]), (.sipush 256, 11, [1, 256]), (.invokestatic 140, 14, [0, 195, 3, 1, 3, 0, 0, 0, 7, 95]), (.ifCond .eq 21, 17, [1, 9]), (.aload_n 0, 20, []), (.getfield 360, 21, [13, 57, 0, 6, 187]),
  (.bipush 30, 24, [1, 30]), (.if_icmp .eq 12, 26, [1, 5]), (.aload_n 0, 29, []), (.getfield 23, 30, [13, 13, 2, 6, 143]), (.iconst 0, 33, [1, 0]), (.iaload, 34, [20]),
  (.ifCond .ne 5, 35, [1, 2]), (.iconst (-1), 38, [0, 1]), (.ireturn, 39, [0]), (.aload_n 0, 40, []), (.getfield 99, 41, [13, 51, 2, 6, 181]), (.aload_n 0, 44, []),
  (.getfield 360, 45, [13, 57, 0, 6, 187]), (.iload_n 1, 48, []), (.iastore, 49, []), (.aload_n 0, 50, []), (.getfield 102, 51, [13, 52, 2, 6, 182]), (.aload_n 0, 54, []),
  (.getfield 360, 55, [13, 57, 0, 6, 187]), (.iload_n 2, 58, []), (.iastore, 59, []), (.aload_n 0, 60, []), (.getfield 105, 61, [13, 53, 2, 6, 183]), (.aload_n 0, 64, []),
  (.getfield 360, 65, [13, 57, 0, 6, 187]), (.iload_n 3, 68, []), (.iastore, 69, []), (.aload_n 0, 70, []), (.getfield 108, 71, [13, 54, 2, 6, 184]), (.aload_n 0, 74, []),
  (.getfield 360, 75, [13, 57, 0, 6, 187]), (.iload 4, 78, []), (.invokestatic 423, 80, [0, 259, 1, 1, 1, 0, 0, 0, 8, 104]), (.iastore, 83, []), (.aload_n 0, 84, []), (.getfield 111, 85, [13, 55, 2, 6, 185]),
  (.aload_n 0, 88, []), (.getfield 360, 89, [13, 57, 0, 6, 187]), (.aload_n 0, 92, []), (.getfield 496, 93, [13, 58, 0, 6, 188]), (.iastore, 96, []), (.aload_n 0, 97, []),
  (.getfield 114, 98, [13, 56, 2, 6, 186]), (.aload_n 0, 101, []), (.getfield 360, 102, [13, 57, 0, 6, 187]), (.iconst (-1), 105, [0, 1]), (.iastore, 106, []), (.aload_n 0, 107, []),
  (.dup, 108, []), (.getfield 360, 109, [13, 57, 0, 6, 187]), (.iconst 1, 112, [1, 1]), (.iadd, 113, []), (.putfield 360, 114, [13, 57, 0, 6, 187]), (.aload_n 0, 117, []),
  (.getfield 360, 118, [13, 57, 0, 6, 187]), (.iconst 1, 121, [1, 1]), (.isub, 122, []), (.ireturn, 123, [0])
  ]
noncomputable def k_Mo_untell : List Ent := [
  (.iload_n 1, 0, []), (.iconst 0, 1, [1, 0]), (.aload_n 0, 2, []), (.getfield 360, 3, [13, 57, 0, 6, 187]), (.iconst 1, 6, [1, 1]), (.isub, 7, []),
  (.invokestatic 140, 8, [0, 195, 3, 1, 3, 0, 0, 0, 7, 95]), (.ifCond .eq 13, 11, [1, 6]), (.aload_n 0, 14, []), (.getfield 114, 15, [13, 56, 2, 6, 186]), (.iload_n 1, 18, []), (.iaload, 19, [20]),
  (.iconst (-1), 20, [0, 1]), (.if_icmp .eq 5, 21, [1, 2]), (.iconst 0, 24, [1, 0]), (.ireturn, 25, [1]), (.aload_n 0, 26, []), (.getfield 114, 27, [13, 56, 2, 6, 186]),
  (.iload_n 1, 30, []), (.aload_n 0, 31, []), (.getfield 496, 32, [13, 58, 0, 6, 188]), (.iastore, 35, []), (.iconst 1, 36, [1, 1]), (.ireturn, 37, [1])
  ]
noncomputable def k_Mo_later : List Ent := [
  (.iload_n 1, 0, []), (.iconst 0, 1, [1, 0]), (.sipush 1000, 2, [1, 1000]), (.invokestatic 140, 5, [0, 195, 3, 1, 3, 0, 0, 0, 7, 95]), (.ifCond .eq 15, 8, [1, 6]), (.aload_n 0, 11, []),
  (.getfield 496, 12, [13, 58, 0, 6, 188]), (.iload_n 1, 15, []), (.iadd, 16, []), (.ldc_w 499, 17, [1, 100000, 9, 92]), (.if_icmp .le 5, 20, [1, 2]), (.iconst (-1), 23, [0, 1]),
  (.ireturn, 24, [0]), (.aload_n 0, 25, []), (.dup, 26, []), (.getfield 496, 27, [13, 58, 0, 6, 188]), (.iload_n 1, 30, []), (.iadd, 31, []),
  (.putfield 496, 32, [13, 58, 0, 6, 188]), (.aload_n 0, 35, []), (.getfield 496, 36, [13, 58, 0, 6, 188]), (.ireturn, 39, [0])
  ]
noncomputable def k_Mo_laysFirst : List Ent := [
  (.iconst 0, 0, [1, 0]), (.istore_n 1, 1, []), (.nop, 2, [3, 1, 1]), (.iload_n 1, 2, []), (.bipush 16, 3, [1, 16]), (.if_icmp .ge 16, 5, [1, 7]),
  (.aload_n 0, 8, []), (.getfield 117, 9, [13, 59, 2, 6, 189]), (.iload_n 1, 12, []), (.iconst 0, 13, [1, 0]), (.iastore, 14, []), (.iinc 1 1, 15, [1, 1]),
  (.goto (-16), 18, [0, 3, 1, 1]), (.aload_n 0, 21, []), (.getfield 23, 22, [13, 13, 2, 6, 143]), (.iconst 0, 25, [1, 0]), (.iaload, 26, [20]), (.ifCond .ne 4, 27, [1, 1]),
  (.return_, 30, []), (.aload_n 0, 31, []), (.invokevirtual 418, 32, [1, 251, 0, 0, 3, 13, 0, 0, 8, 46]), (.iconst 0, 35, [1, 0]), (.istore_n 1, 36, []), (.nop, 37, [24, 1, 1]),
  (.iload_n 1, 37, []), (.bipush 16, 38, [1, 16]), (.if_icmp .ge 40, 40, [1, 22]), (.aload_n 0, 43, []), (.getfield 117, 44, [13, 59, 2, 6, 189]), (.iload_n 1, 47, []),
  (.aload_n 0, 48, []), (.getfield 42, 49, [13, 19, 2, 6, 149]), (.iconst 0, 52, [1, 0]), (.iaload, 53, [20]), (.iconst 1, 54, [1, 1]), (.if_icmp .ne 12, 55, [1, 5]),
  (.aload_n 0, 58, []), (.getfield 51, 59, [13, 22, 2, 6, 152]), (.iload_n 1, 62, []), (.iaload, 63, [20]), (.goto 9, 64, [1, 4]), (.aload_n 0, 67, []),
  (.getfield 69, 68, [13, 38, 2, 6, 168]), (.iload_n 1, 71, []), (.iaload, 72, [20]), (.nop, 73, [46, 1, 1]), (.iastore, 73, []), (.iinc 1 1, 74, [1, 1]),
  (.goto (-40), 77, [0, 24, 1, 1]), (.return_, 80, [])
  ]
noncomputable def k_Mo_countBy : List Ent := [
  (.aload_n 0, 0, []), (.invokevirtual 366, 1, [1, 242, 0, 1, 1, 13, 0, 0, 8, 62]), (.iload_n 2, 4, []), (.ishr, 5, []), (.istore 4, 6, []), (.iload_n 3, 8, []),
  (.iload_n 2, 9, []), (.ishr, 10, []), (.iload 4, 11, []), (.imul, 13, []), (.istore 5, 14, []), (.iload_n 3, 16, []),
  (.iconst 1, 17, [1, 1]), (.iload_n 2, 18, []), (.ishl, 19, []), (.iconst 1, 20, [1, 1]), (.isub, 21, []), (.iand, 22, []),
  (.iload 4, 23, []), (.imul, 25, []), (.istore 6, 26, []), (.aload_n 0, 28, []), (.getfield 117, 29, [13, 59, 2, 6, 189]), (.iconst 0, 32, [1, 0]),
  (.iload 5, 33, []), (.iload 6, 35, []), (.iload 4, 37, []), (.invokestatic 407, 39, [0, 254, 5, 1, 8, 0, 0, 0, 8, 87]), (.istore 7, 42, []), (.iload_n 1, 44, []),
  (.ifCond .ge 6, 45, [1, 2]), (.iload 7, 48, []), (.ireturn, 50, [0]), (.iload_n 1, 51, []), (.aload_n 0, 52, []), (.invokevirtual 366, 53, [1, 242, 0, 1, 1, 13, 0, 0, 8, 62]),
  (.idiv, 56, []), (.istore 8, 57, []), (.iload_n 1, 59, []), (.aload_n 0, 60, []), (.invokevirtual 366, 61, [1, 242, 0, 1, 1, 13, 0, 0, 8, 62]), (.irem, 64, []),
  (.istore 9, 65, []), (.iload 8, 67, []), (.iload 5, 69, []), (.iload 5, 71, []), (.iload 4, 73, []), (.iadd, 75, []),
  (.iconst 1, 76, [1, 1]), (.isub, 77, []), (.invokestatic 140, 78, [0, 195, 3, 1, 3, 0, 0, 0, 7, 95]), (.ifCond .eq 20, 81, [1, 9]), (.iload 9, 84, []), (.iload 6, 86, []),
  (.iload 6, 88, []), (.iload 4, 90, []), (.iadd, 92, []), (.iconst 1, 93, [1, 1]), (.isub, 94, []), (.invokestatic 140, 95, [0, 195, 3, 1, 3, 0, 0, 0, 7, 95]),
  (.ifCond .ne 6, 98, [1, 2]), (.iload 7, 101, []), (.ireturn, 103, [0]), (.aload_n 0, 104, []), (.getfield 117, 105, [13, 59, 2, 6, 189]), (.iload 8, 108, []),
  (.iaload, 110, [20]), (.iload 9, 111, []), (.invokestatic 375, 113, [0, 196, 2, 1, 2, 0, 0, 0, 8, 70]), (.ifCond .eq 10, 116, [1, 4]), (.iload 7, 119, []), (.iconst 1, 121, [1, 1]),
  (.isub, 122, []), (.goto 7, 123, [1, 3]), (.iload 7, 126, []), (.iconst 1, 128, [1, 1]), (.iadd, 129, []), (.ireturn, 130, [0])
  ]
noncomputable def k_Mo_doesCount : List Ent := [
  (.aload_n 0, 0, []), (.getfield 111, 1, [13, 55, 2, 6, 185]), (.iload_n 1, 4, []), (.iaload, 5, [20]), (.iload_n 2, 6, []), (.if_icmp .gt 27, 7, [1, 15]),
  (.aload_n 0, 10, []), (.getfield 114, 11, [13, 56, 2, 6, 186]), (.iload_n 1, 14, []), (.iaload, 15, [20]), (.iconst (-1), 16, [0, 1]), (.if_icmp .eq 13, 17, [1, 6]),
  (.aload_n 0, 20, []), (.getfield 114, 21, [13, 56, 2, 6, 186]), (.iload_n 1, 24, []), (.iaload, 25, [20]), (.iload_n 2, 26, []), (.if_icmp .le 7, 27, [1, 3]),
  (.nop, 30, [19, 0, 0, 0]), (.iconst 1, 30, [1, 1]), (.goto 4, 31, [1, 1]), (.iconst 0, 34, [1, 0]), (.ireturn, 35, [1])
  ]
noncomputable def k_Mo_fitsBy : List Ent := [
  (.iconst 0, 0, [1, 0]), (.istore_n 3, 1, []), (.nop, 2, [3, 1, 1, 1, 1]), (.iload_n 3, 2, []), (.aload_n 0, 3, []), (.getfield 360, 4, [13, 57, 0, 6, 187]),
  (.if_icmp .ge 69, 7, [1, 41]), (.aload_n 0, 10, []), (.iload_n 3, 11, []), (.iload_n 2, 12, []), (.invokevirtual 500, 13, [1, 320, 2, 1, 3, 13, 0, 0, 9, 109]), (.ifCond .eq 54, 16, [1, 33]),
  (.aload_n 0, 19, []), (.iload_n 1, 20, []), (.aload_n 0, 21, []), (.getfield 99, 22, [13, 51, 2, 6, 181]), (.iload_n 3, 25, []), (.iaload, 26, [20]),
  (.aload_n 0, 27, []), (.getfield 102, 28, [13, 52, 2, 6, 182]), (.iload_n 3, 31, []), (.iaload, 32, [20]), (.invokevirtual 503, 33, [1, 319, 3, 1, 10, 13, 0, 0, 9, 113]), (.aload_n 0, 36, []),
  (.getfield 105, 37, [13, 53, 2, 6, 183]), (.iload_n 3, 40, []), (.iaload, 41, [20]), (.if_icmp .ne 7, 42, [1, 2]), (.iconst 1, 45, [1, 1]), (.goto 4, 46, [1, 1]),
  (.iconst 0, 49, [1, 0]), (.nop, 50, [32, 1, 1, 1, 1]), (.aload_n 0, 50, []), (.getfield 108, 51, [13, 54, 2, 6, 184]), (.iload_n 3, 54, []), (.iaload, 55, [20]),
  (.iconst 1, 56, [1, 1]), (.if_icmp .ne 7, 57, [1, 2]), (.iconst 1, 60, [1, 1]), (.goto 4, 61, [1, 1]), (.iconst 0, 64, [1, 0]), (.nop, 65, [42, 1, 1, 1, 1]),
  (.if_icmp .eq 5, 65, [1, 2]), (.iconst 0, 68, [1, 0]), (.ireturn, 69, [1]), (.nop, 70, [46, 1, 1, 1, 1]), (.iinc 3 1, 70, [1, 1]), (.goto (-71), 73, [0, 3, 1, 1, 1, 1]),
  (.iconst 1, 76, [1, 1]), (.ireturn, 77, [1])
  ]
noncomputable def k_Mo_lastPair : List Ent := [
  (.aload_n 0, 0, []), (.getfield 23, 1, [13, 13, 2, 6, 143]), (.iconst 0, 4, [1, 0]), (.iaload, 5, [20]), (.ifCond .ne 8, 6, [1, 2]), (.bipush (-2), 9, [0, 2]),
  (.goto 14, 11, [1, 7]), (.aload_n 0, 14, []), (.invokevirtual 366, 15, [1, 242, 0, 1, 1, 13, 0, 0, 8, 62]), (.aload_n 0, 18, []), (.invokevirtual 366, 19, [1, 242, 0, 1, 1, 13, 0, 0, 8, 62]), (.imul, 22, []),
  (.iconst 1, 23, [1, 1]), (.isub, 24, []), (.ireturn, 25, [0])
  ]
noncomputable def k_Mo_fits : List Ent := [
  (.aload_n 0, 0, []), (.invokevirtual 506, 1, [1, 318, 0, 0, 2, 13, 0, 0, 9, 97]), (.iconst 0, 4, [1, 0]), (.istore_n 2, 5, []), (.iconst (-1), 6, [0, 1]), (.istore_n 3, 7, []),
  (.nop, 8, [7, 1, 1, 1, 1]), (.iload_n 3, 8, []), (.aload_n 0, 9, []), (.invokevirtual 509, 10, [1, 322, 0, 1, 1, 13, 0, 0, 9, 101]), (.if_icmp .gt 21, 13, [1, 10]), (.iload_n 2, 16, []),
  (.aload_n 0, 17, []), (.iload_n 3, 18, []), (.iload_n 1, 19, []), (.invokevirtual 512, 20, [1, 321, 2, 1, 4, 13, 0, 0, 9, 105]), (.invokestatic 423, 23, [0, 259, 1, 1, 1, 0, 0, 0, 8, 104]), (.iadd, 26, []),
  (.istore_n 2, 27, []), (.iinc 3 1, 28, [1, 1]), (.goto (-23), 31, [0, 7, 1, 1, 1, 1]), (.iload_n 2, 34, []), (.ireturn, 35, [0])
  ]
noncomputable def k_Mo_fit : List Ent := [
  (.aload_n 0, 0, []), (.invokevirtual 506, 1, [1, 318, 0, 0, 2, 13, 0, 0, 9, 97]), (.iconst 0, 4, [1, 0]), (.istore_n 3, 5, []), (.iconst (-1), 6, [0, 1]), (.istore 4, 7, []),
  (.nop, 9, [7, 1, 1, 1, 1, 1]), (.iload 4, 9, []), (.aload_n 0, 11, []), (.invokevirtual 509, 12, [1, 322, 0, 1, 1, 13, 0, 0, 9, 101]), (.if_icmp .gt 37, 15, [1, 17]), (.iload_n 1, 18, []),
  (.ifCond .lt 33, 19, [1, 15]), (.aload_n 0, 22, []), (.iload 4, 23, []), (.iload_n 2, 25, []), (.invokevirtual 512, 26, [1, 321, 2, 1, 4, 13, 0, 0, 9, 105]), (.ifCond .ne 6, 29, [1, 1]),
  (.goto 14, 32, [1, 6]), (.iload_n 3, 35, []), (.iload_n 1, 36, []), (.if_icmp .ne 6, 37, [1, 2]), (.iload 4, 40, []), (.ireturn, 42, [0]),
  (.iinc 3 1, 43, [1, 1]), (.nop, 46, [26, 1, 1, 1, 1, 1]), (.iinc 4 1, 46, [1, 1]), (.goto (-40), 49, [0, 7, 1, 1, 1, 1, 1]), (.bipush (-2), 52, [0, 2]), (.ireturn, 54, [0])
  ]
noncomputable def k_Mo_leftBy : List Ent := [
  (.iconst 0, 0, [1, 0]), (.istore_n 3, 1, []), (.nop, 2, [3, 1, 1, 1, 1, 0, 0]), (.iload_n 3, 2, []), (.sipush 258, 3, [1, 258]), (.if_icmp .ge 16, 6, [1, 7]),
  (.aload_n 0, 9, []), (.getfield 123, 10, [13, 61, 2, 6, 191]), (.iload_n 3, 13, []), (.iconst 0, 14, [1, 0]), (.iastore, 15, []), (.iinc 3 1, 16, [1, 1]),
  (.goto (-17), 19, [0, 3, 1, 1, 1, 1, 0, 0]), (.iconst 0, 22, [1, 0]), (.istore_n 3, 23, []), (.iconst (-1), 24, [0, 1]), (.istore 4, 25, []), (.nop, 27, [18, 1, 1, 1, 1, 1, 0]),
  (.iload 4, 27, []), (.aload_n 0, 29, []), (.invokevirtual 509, 30, [1, 322, 0, 1, 1, 13, 0, 0, 9, 101]), (.if_icmp .gt 68, 33, [1, 39]), (.aload_n 0, 36, []), (.getfield 120, 37, [13, 60, 2, 6, 190]),
  (.iload 4, 40, []), (.iconst 1, 42, [1, 1]), (.iadd, 43, []), (.iaload, 44, [20]), (.ifCond .ne 6, 45, [1, 1]), (.goto 47, 48, [1, 28]),
  (.aload_n 0, 51, []), (.iload 4, 52, []), (.iload_n 1, 54, []), (.iload_n 2, 55, []), (.invokevirtual 503, 56, [1, 319, 3, 1, 10, 13, 0, 0, 9, 113]), (.istore 5, 59, []),
  (.aload_n 0, 61, []), (.getfield 123, 62, [13, 61, 2, 6, 191]), (.iload 5, 65, []), (.dup2, 67, []), (.iaload, 68, [20]), (.iconst 1, 69, [1, 1]),
  (.iadd, 70, []), (.iastore, 71, []), (.aload_n 0, 72, []), (.getfield 123, 73, [13, 61, 2, 6, 191]), (.iload 5, 76, []), (.iaload, 78, [20]),
  (.iload_n 3, 79, []), (.if_icmp .le 13, 80, [1, 5]), (.aload_n 0, 83, []), (.getfield 123, 84, [13, 61, 2, 6, 191]), (.iload 5, 87, []), (.iaload, 89, [20]),
  (.goto 4, 90, [1, 1]), (.iload_n 3, 93, []), (.nop, 94, [57, 1, 1, 1, 0, 1, 0]), (.istore_n 3, 94, []), (.nop, 95, [59, 1, 1, 1, 1, 1, 0]), (.iinc 4 1, 95, [1, 1]),
  (.goto (-71), 98, [0, 18, 1, 1, 1, 1, 1, 0]), (.iload_n 3, 101, []), (.ireturn, 102, [0])
  ]
noncomputable def k_Mo_ask : List Ent := [
  (.iload_n 1, 0, []), (.iconst 0, 1, [1, 0]), (.aload_n 0, 2, []), (.getfield 20, 3, [13, 12, 2, 6, 142]), (.iconst 0, 6, [1, 0]), (.iaload, 7, [20]),
  (.invokestatic 140, 8, [0, 195, 3, 1, 3, 0, 0, 0, 7, 95]), (.ifCond .eq 12, 11, [1, 5]), (.iload_n 2, 14, []), (.iconst 0, 15, [1, 0]), (.iconst 1, 16, [1, 1]), (.invokestatic 140, 17, [0, 195, 3, 1, 3, 0, 0, 0, 7, 95]),
  (.ifCond .ne 5, 20, [1, 2]), (.iconst (-1), 23, [0, 1]), (.ireturn, 24, [0]), (.aload_n 0, 25, []), (.invokevirtual 506, 26, [1, 318, 0, 0, 2, 13, 0, 0, 9, 97]), (.iconst 0, 29, [1, 0]),
  (.istore 4, 30, []), (.iconst (-1), 32, [0, 1]), (.istore 5, 33, []), (.nop, 35, [22, 1, 1, 1, 1, 1, 1, 0, 0, 0]), (.iload 5, 35, []), (.aload_n 0, 37, []),
  (.invokevirtual 509, 38, [1, 322, 0, 1, 1, 13, 0, 0, 9, 101]), (.if_icmp .gt 42, 41, [1, 22]), (.aload_n 0, 44, []), (.getfield 120, 45, [13, 60, 2, 6, 190]), (.iload 5, 48, []), (.iconst 1, 50, [1, 1]),
  (.iadd, 51, []), (.aload_n 0, 52, []), (.iload 5, 53, []), (.iload_n 3, 55, []), (.invokevirtual 512, 56, [1, 321, 2, 1, 4, 13, 0, 0, 9, 105]), (.invokestatic 423, 59, [0, 259, 1, 1, 1, 0, 0, 0, 8, 104]),
  (.iastore, 62, []), (.iload 4, 63, []), (.aload_n 0, 65, []), (.getfield 120, 66, [13, 60, 2, 6, 190]), (.iload 5, 69, []), (.iconst 1, 71, [1, 1]),
  (.iadd, 72, []), (.iaload, 73, [20]), (.iadd, 74, []), (.istore 4, 75, []), (.iinc 5 1, 77, [1, 1]), (.goto (-45), 80, [0, 22, 1, 1, 1, 1, 1, 1, 0, 0, 0]),
  (.iload 4, 83, []), (.ifCond .ne 5, 85, [1, 2]), (.iconst (-1), 88, [0, 1]), (.ireturn, 89, [0]), (.iconst (-1), 90, [0, 1]), (.istore 5, 91, []),
  (.iconst 0, 93, [1, 0]), (.istore 6, 94, []), (.iconst 0, 96, [1, 0]), (.istore 7, 97, []), (.nop, 99, [59, 1, 1, 1, 0, 0, 1, 1, 1, 0]), (.iload 7, 99, []),
  (.iconst 1, 101, [1, 1]), (.iconst 2, 102, [1, 2]), (.iload_n 1, 103, []), (.imul, 104, []), (.ishl, 105, []), (.if_icmp .ge 42, 106, [1, 20]),
  (.aload_n 0, 109, []), (.iload_n 1, 110, []), (.iload 7, 111, []), (.invokevirtual 515, 113, [1, 325, 2, 1, 6, 13, 0, 0, 9, 125]), (.istore 8, 116, []), (.iload 5, 118, []),
  (.iconst (-1), 120, [0, 1]), (.if_icmp .eq 13, 121, [1, 4]), (.iload 8, 124, []), (.iload 6, 126, []), (.if_icmp .lt 6, 128, [1, 1]), (.goto 11, 131, [1, 5]),
  (.nop, 134, [79, 1, 1, 1, 0, 0, 0, 0, 1, 1]), (.iload 7, 134, []), (.istore 5, 136, []), (.iload 8, 138, []), (.istore 6, 140, []), (.nop, 142, [84, 1, 1, 1, 0, 0, 1, 1, 1, 0]),
  (.iinc 7 1, 142, [1, 1]), (.goto (-46), 145, [0, 59, 1, 1, 1, 0, 0, 1, 1, 1, 0]), (.iload_n 2, 148, []), (.ifCond .ne 8, 149, [1, 2]), (.iload 5, 152, []), (.goto 5, 154, [1, 1]),
  (.iload 6, 157, []), (.ireturn, 159, [0])
  ]
noncomputable def k_Mo_image : List Ent := [
  (.iload_n 1, 0, []), (.iconst 0, 1, [1, 0]), (.iconst 2, 2, [1, 2]), (.invokestatic 140, 3, [0, 195, 3, 1, 3, 0, 0, 0, 7, 95]), (.ifCond .ne 5, 6, [1, 2]), (.iconst (-1), 9, [0, 1]),
  (.ireturn, 10, [0]), (.aload_n 0, 11, []), (.getfield 129, 12, [13, 63, 2, 6, 193]), (.iload_n 1, 15, []), (.iconst 1, 16, [1, 1]), (.bastore, 17, [23]),
  (.iconst 0, 18, [1, 0]), (.istore_n 2, 19, []), (.nop, 20, [15, 1, 1, 1]), (.iload_n 2, 20, []), (.bipush 81, 21, [1, 81]), (.if_icmp .ge 26, 23, [1, 14]),
  (.aload_n 0, 26, []), (.getfield 126, 27, [13, 62, 2, 6, 192]), (.bipush 81, 30, [1, 81]), (.iload_n 1, 32, []), (.imul, 33, []), (.iload_n 2, 34, []),
  (.iadd, 35, []), (.aload_n 0, 36, []), (.getfield 63, 37, [13, 34, 2, 6, 164]), (.iload_n 2, 40, []), (.iaload, 41, [20]), (.iastore, 42, []),
  (.iinc 2 1, 43, [1, 1]), (.goto (-26), 46, [0, 15, 1, 1, 1]), (.aload_n 0, 49, []), (.invokevirtual 518, 50, [1, 253, 0, 1, 3, 13, 0, 0, 9, 133]), (.ireturn, 53, [0])
  ]
noncomputable def k_Mo_back : List Ent := [
  (.iload_n 1, 0, []), (.iconst 0, 1, [1, 0]), (.iconst 2, 2, [1, 2]), (.invokestatic 140, 3, [0, 195, 3, 1, 3, 0, 0, 0, 7, 95]), (.ifCond .eq 12, 6, [1, 5]), (.aload_n 0, 9, []),
  (.getfield 129, 10, [13, 63, 2, 6, 193]), (.iload_n 1, 13, []), (.baload, 14, [23]), (.ifCond .ne 5, 15, [1, 2]), (.iconst (-1), 18, [0, 1]), (.ireturn, 19, [0]),
  (.iconst 0, 20, [1, 0]), (.istore_n 2, 21, []), (.nop, 22, [15, 1, 1, 1]), (.iload_n 2, 22, []), (.bipush 81, 23, [1, 81]), (.if_icmp .ge 26, 25, [1, 14]),
  (.aload_n 0, 28, []), (.getfield 63, 29, [13, 34, 2, 6, 164]), (.iload_n 2, 32, []), (.aload_n 0, 33, []), (.getfield 126, 34, [13, 62, 2, 6, 192]), (.bipush 81, 37, [1, 81]),
  (.iload_n 1, 39, []), (.imul, 40, []), (.iload_n 2, 41, []), (.iadd, 42, []), (.iaload, 43, [20]), (.iastore, 44, []),
  (.iinc 2 1, 45, [1, 1]), (.goto (-26), 48, [0, 15, 1, 1, 1]), (.aload_n 0, 51, []), (.iconst 0, 52, [1, 0]), (.putfield 354, 53, [13, 36, 0, 6, 166]), (.aload_n 0, 56, []),
  (.iconst 0, 57, [1, 0]), (.putfield 357, 58, [13, 37, 0, 6, 167]), (.aload_n 0, 61, []), (.invokevirtual 518, 62, [1, 253, 0, 1, 3, 13, 0, 0, 9, 133]), (.ireturn, 65, [0])
  ]
noncomputable def k_Mo_toldSet : List Ent := [
  (.iconst 0, 0, [1, 0]), (.istore_n 1, 1, []), (.iconst 0, 2, [1, 0]), (.istore_n 2, 3, []), (.nop, 4, [5, 1, 1, 1]), (.iload_n 2, 4, []),
  (.aload_n 0, 5, []), (.getfield 23, 6, [13, 13, 2, 6, 143]), (.iconst 0, 9, [1, 0]), (.iaload, 10, [20]), (.if_icmp .ge 20, 11, [1, 11]), (.iload_n 1, 14, []),
  (.aload_n 0, 15, []), (.getfield 42, 16, [13, 19, 2, 6, 149]), (.iload_n 2, 19, []), (.iaload, 20, [20]), (.iload_n 2, 21, []), (.ishl, 22, []),
  (.ior, 23, []), (.istore_n 1, 24, []), (.iinc 2 1, 25, [1, 1]), (.goto (-24), 28, [0, 5, 1, 1, 1]), (.iload_n 1, 31, []), (.ireturn, 32, [0])
  ]
noncomputable def k_Mo_about : List Ent := [
  (.iload_n 1, 0, []), (.tableswitch 152 0 13 #[71, 78, 85, 90, 95, 100, 108, 113, 118, 123, 128, 133, 140, 145], 1, [52, 0, 5, 10, 13, 16, 19, 24, 27, 30, 33, 36, 39, 44, 47]), (.aload_n 0, 72, []), (.getfield 23, 73, [13, 13, 2, 6, 143]), (.iconst 0, 76, [1, 0]), (.iaload, 77, [20]),
  (.ireturn, 78, [0]), (.aload_n 0, 79, []), (.getfield 20, 80, [13, 12, 2, 6, 142]), (.iconst 0, 83, [1, 0]), (.iaload, 84, [20]), (.ireturn, 85, [0]),
  (.aload_n 0, 86, []), (.invokevirtual 366, 87, [1, 242, 0, 1, 1, 13, 0, 0, 8, 62]), (.ireturn, 90, [0]), (.aload_n 0, 91, []), (.invokevirtual 521, 92, [1, 329, 0, 1, 3, 13, 0, 0, 9, 145]), (.ireturn, 95, [0]),
  (.aload_n 0, 96, []), (.invokevirtual 518, 97, [1, 253, 0, 1, 3, 13, 0, 0, 9, 133]), (.ireturn, 100, [0]), (.aload_n 0, 101, []), (.getfield 63, 102, [13, 34, 2, 6, 164]), (.bipush 80, 105, [1, 80]),
  (.iaload, 107, [20]), (.ireturn, 108, [0]), (.aload_n 0, 109, []), (.getfield 354, 110, [13, 36, 0, 6, 166]), (.ireturn, 113, [0]), (.aload_n 0, 114, []),
  (.getfield 357, 115, [13, 37, 0, 6, 167]), (.ireturn, 118, [0]), (.aload_n 0, 119, []), (.getfield 360, 120, [13, 57, 0, 6, 187]), (.ireturn, 123, [0]), (.aload_n 0, 124, []),
  (.getfield 496, 125, [13, 58, 0, 6, 188]), (.ireturn, 128, [0]), (.aload_n 0, 129, []), (.getfield 133, 130, [13, 1, 0, 6, 131]), (.ireturn, 133, [0]), (.aload_n 0, 134, []),
  (.getfield 35, 135, [13, 17, 2, 6, 147]), (.iconst 0, 138, [1, 0]), (.iaload, 139, [20]), (.ireturn, 140, [0]), (.aload_n 0, 141, []), (.getfield 363, 142, [13, 50, 0, 6, 180]),
  (.ireturn, 145, [0]), (.aload_n 0, 146, []), (.getfield 26, 147, [13, 14, 2, 6, 144]), (.iconst 0, 150, [1, 0]), (.iaload, 151, [20]), (.ireturn, 152, [0]),
  (.iconst (-1), 153, [0, 1]), (.ireturn, 154, [0])
  ]
noncomputable def k_Integer_bitCount : List Ent := [
  (.iload_n 0, 0, []), (.iload_n 0, 1, []), (.iconst 1, 2, [1, 1]), (.iushr, 3, []), (.ldc_w 265, 4, [1, 1431655765, 4, 109]), (.iand, 7, []),
  (.isub, 8, []), (.istore_n 0, 9, []), (.iload_n 0, 10, []), (.ldc_w 266, 11, [1, 858993459, 4, 110]), (.iand, 14, []), (.iload_n 0, 15, []),
  (.iconst 2, 16, [1, 2]), (.iushr, 17, []), (.ldc_w 266, 18, [1, 858993459, 4, 110]), (.iand, 21, []), (.iadd, 22, []), (.istore_n 0, 23, []),
  (.iload_n 0, 24, []), (.iload_n 0, 25, []), (.iconst 4, 26, [1, 4]), (.iushr, 27, []), (.iadd, 28, []), (.ldc_w 267, 29, [1, 252645135, 4, 111]),
  (.iand, 32, []), (.istore_n 0, 33, []), (.iload_n 0, 34, []), (.iload_n 0, 35, []), (.bipush 8, 36, [1, 8]), (.iushr, 38, []),
  (.iadd, 39, []), (.istore_n 0, 40, []), (.iload_n 0, 41, []), (.iload_n 0, 42, []), (.bipush 16, 43, [1, 16]), (.iushr, 45, []),
  (.iadd, 46, []), (.istore_n 0, 47, []), (.iload_n 0, 48, []), (.bipush 63, 49, [1, 63]), (.iand, 51, []), (.ireturn, 52, [0])
  ]
noncomputable def k_String_length : List Ent := [
  (.aload_n 0, 0, []), (.getfield 9, 1, [30, 0, 2, 9, 149]), (.arraylength, 4, [31]), (.aload_n 0, 5, []), (.invokevirtual 335, 6, [1, 336, 0, 1, 1, 30, 0, 0, 1, 158]), (.ishr, 9, []),
  (.ireturn, 10, [0])
  ]
noncomputable def k_String_charAt : List Ent := [
  (.aload_n 0, 0, []), (.invokevirtual 492, 1, [1, 337, 0, 1, 1, 30, 0, 0, 1, 168]), (.ifCond .eq 12, 4, [1, 5]), (.aload_n 0, 7, []), (.getfield 9, 8, [30, 0, 2, 9, 149]), (.iload_n 1, 11, []),
  (.invokestatic 495, 12, [0, 339, 2, 1, 2, 0, 0, 0, 1, 172]), (.ireturn, 15, [3]), (.aload_n 0, 16, []), (.getfield 9, 17, [30, 0, 2, 9, 149]), (.iload_n 1, 20, []), (.invokestatic 498, 21, []),
  (.ireturn, 24, [3])
  ]
noncomputable def k_String_indexOf1 : List Ent := [
  (.aload_n 0, 0, []), (.iload_n 1, 1, []), (.iconst 0, 2, [1, 0]), (.invokevirtual 633, 3, [1, 335, 2, 1, 3, 30, 0, 0, 3, 141]), (.ireturn, 6, [0])
  ]
noncomputable def k_String_indexOf2 : List Ent := [
  (.aload_n 0, 0, []), (.invokevirtual 492, 1, [1, 337, 0, 1, 1, 30, 0, 0, 1, 168]), (.ifCond .eq 19, 4, [1, 8]), (.aload_n 0, 7, []), (.getfield 9, 8, [30, 0, 2, 9, 149]), (.iload_n 1, 11, []),
  (.iload_n 2, 12, []), (.aload_n 0, 13, []), (.invokevirtual 505, 14, [1, 332, 0, 1, 1, 30, 0, 0, 3, 145]), (.invokestatic 637, 17, [0, 341, 4, 1, 4, 0, 0, 0, 3, 146]), (.goto 16, 20, [1, 7]), (.aload_n 0, 23, []),
  (.getfield 9, 24, [30, 0, 2, 9, 149]), (.iload_n 1, 27, []), (.iload_n 2, 28, []), (.aload_n 0, 29, []), (.invokevirtual 505, 30, [1, 332, 0, 1, 1, 30, 0, 0, 3, 145]), (.invokestatic 640, 33, []),
  (.ireturn, 36, [0])
  ]
noncomputable def k_String_coder : List Ent := [
  (.getstatic 38, 0, [1, 1]), (.ifCond .eq 10, 3, [1, 3]), (.aload_n 0, 6, []), (.getfield 15, 7, [30, 1, 0, 9, 150]), (.goto 4, 10, [1, 1]), (.iconst 1, 13, [1, 1]),
  (.ireturn, 14, [2])
  ]
noncomputable def k_String_isLatin1 : List Ent := [
  (.getstatic 38, 0, [1, 1]), (.ifCond .eq 14, 3, [1, 5]), (.aload_n 0, 6, []), (.getfield 15, 7, [30, 1, 0, 9, 150]), (.ifCond .ne 7, 10, [1, 2]), (.iconst 1, 13, [1, 1]),
  (.goto 4, 14, [1, 1]), (.iconst 0, 17, [1, 0]), (.ireturn, 18, [1])
  ]
noncomputable def k_String_checkIndex : List Ent := [
  (.iload_n 0, 0, []), (.iload_n 1, 1, []), (.getstatic 1053, 2, [98, 1002]), (.invokestatic 1059, 5, [0, 344, 3, 1, 3, 0, 0, 0, 1, 180]), (.pop, 8, []), (.return_, 9, [])
  ]
noncomputable def k_StringLatin1_charAt : List Ent := [
  (.iload_n 1, 0, []), (.aload_n 0, 1, []), (.arraylength, 2, [31]), (.invokestatic 9, 3, [0, 338, 2, 0, 2, 0, 0, 0, 1, 175]), (.aload_n 0, 6, []), (.iload_n 1, 7, []),
  (.baload, 8, [31]), (.sipush 255, 9, [1, 255]), (.iand, 12, []), (.i2c, 13, []), (.ireturn, 14, [3])
  ]
noncomputable def k_StringLatin1_canEncode : List Ent := [
  (.iload_n 0, 0, []), (.ifCond .lt 14, 1, [1, 5]), (.iload_n 0, 4, []), (.sipush 255, 5, [1, 255]), (.if_icmp .gt 7, 8, [1, 2]), (.iconst 1, 11, [1, 1]),
  (.goto 4, 12, [1, 1]), (.iconst 0, 15, [1, 0]), (.ireturn, 16, [1])
  ]
noncomputable def k_StringLatin1_indexOf : List Ent := [
  (.iload_n 1, 0, []), (.invokestatic 88, 1, [0, 340, 1, 1, 1, 0, 0, 0, 3, 149]), (.ifCond .ne 5, 4, [1, 2]), (.iconst (-1), 7, [0, 1]), (.ireturn, 8, [0]), (.iload_n 2, 9, []),
  (.iconst 0, 10, [1, 0]), (.invokestatic 92, 11, [4, 3, 152]), (.istore_n 2, 14, []), (.iload_n 3, 15, []), (.aload_n 0, 16, []), (.arraylength, 17, [31]),
  (.invokestatic 38, 18, [5, 3, 153]), (.istore_n 3, 21, []), (.iload_n 2, 22, []), (.iload_n 3, 23, []), (.if_icmp .lt 5, 24, [1, 2]), (.iconst (-1), 27, [0, 1]),
  (.ireturn, 28, [0]), (.aload_n 0, 29, []), (.iload_n 1, 30, []), (.iload_n 2, 31, []), (.iload_n 3, 32, []), (.invokestatic 95, 33, [0, 342, 4, 1, 6, 0, 0, 0, 3, 154]),
  (.ireturn, 36, [0])
  ]
noncomputable def k_StringLatin1_indexOfChar : List Ent := [
  (.iload_n 1, 0, []), (.i2b, 1, []), (.istore 4, 2, []), (.iload_n 2, 4, []), (.istore 5, 5, []), (.nop, 7, [6, 1, 0, 0, 1, 1, 1]),
  (.iload 5, 7, []), (.iload_n 3, 9, []), (.if_icmp .ge 21, 10, [1, 9]), (.aload_n 0, 13, []), (.iload 5, 14, []), (.baload, 16, [31]),
  (.iload 4, 17, []), (.if_icmp .ne 6, 19, [1, 2]), (.iload 5, 22, []), (.ireturn, 24, [0]), (.iinc 5 1, 25, [1, 1]), (.goto (-21), 28, [0, 6, 1, 0, 0, 1, 1, 1]),
  (.iconst (-1), 31, [0, 1]), (.ireturn, 32, [0])
  ]
noncomputable def k_Arrays_fill : List Ent := [
  (.iconst 0, 0, [1, 0]), (.istore_n 2, 1, []), (.aload_n 0, 2, []), (.arraylength, 3, [20]), (.istore_n 3, 4, []), (.nop, 5, [6, 1, 1, 1, 1]),
  (.iload_n 2, 5, []), (.iload_n 3, 6, []), (.if_icmp .ge 13, 7, [1, 6]), (.aload_n 0, 10, []), (.iload_n 2, 11, []), (.iload_n 1, 12, []),
  (.iastore, 13, []), (.iinc 2 1, 14, [1, 1]), (.goto (-12), 17, [0, 6, 1, 1, 1, 1]), (.return_, 20, [])
  ]
noncomputable def k_Preconditions_checkIndex : List Ent := [
  (.iload_n 0, 0, []), (.ifCond .lt 8, 1, [1, 3]), (.iload_n 0, 4, []), (.iload_n 1, 5, []), (.if_icmp .lt 10, 6, [1, 6]), (.nop, 9, [6, 1, 1, 1]),
  (.aload_n 2, 9, []), (.iload_n 0, 10, []), (.iload_n 1, 11, []), (.invokestatic 95, 12, []), (.athrow, 15, []), (.iload_n 0, 16, []),
  (.ireturn, 17, [0])
  ]
set_option maxRecDepth 20000 in
noncomputable def k_Law_law : List Ent := [
  (.new 7, 0, [12, 15, 1, 23, 1, 24, 1, 1]), (.dup, 3, []), (.invokespecial 9, 4, [2, 125, 0, 0, 2, 0, 0, 0, 1, 25]), (.astore_n 1, 7, []), (.new 10, 8, [13, 64, 6, 124, 6, 125, 1, 20]), (.dup, 11, []),
  (.invokespecial 12, 12, [2, 194, 0, 0, 1, 0, 0, 0, 6, 126]), (.astore_n 2, 15, []), (.iconst 0, 16, [1, 0]), (.istore_n 3, 17, []), (.nop, 18, [11, 1, 1, 1, 1]), (.iload_n 3, 18, []),
  (.aload_n 0, 19, []), (.arraylength, 20, [99]), (.bipush 6, 21, [1, 6]), (.isub, 23, []), (.if_icmp .gt 1889, 24, [1, 1372]), (.aload_n 0, 27, []),
  (.iload_n 3, 28, []), (.iaload, 29, [99]), (.bipush 63, 30, [1, 63]), (.iand, 32, []), (.tableswitch 1874 0 48 #[211, 274, 297, 310, 333, 366, 409, 452, 495, 548, 571, 584, 597, 610, 643, 676, 719, 762, 795, 828, 861, 924, 987, 1020, 1053, 1106, 1149, 1182, 1215, 1248, 1291, 1324, 1367, 1400, 1423, 1446, 1469, 1502, 1535, 1568, 1591, 1660, 1683, 1706, 1729, 1762, 1805, 1828, 1851], 33, [1363, 0, 57, 74, 81, 98, 125, 162, 199, 236, 283, 300, 307, 314, 321, 348, 375, 412, 449, 476, 503, 530, 587, 644, 671, 698, 745, 782, 809, 836, 863, 900, 927, 964, 991, 1008, 1025, 1042, 1069, 1096, 1123, 1140, 1197, 1214, 1231, 1248, 1275, 1312, 1329, 1346]), (.aload_n 1, 244, []),
  (.aload_n 0, 245, []), (.iload_n 3, 246, []), (.iconst 1, 247, [1, 1]), (.iadd, 248, []), (.iaload, 249, [99]), (.aload_n 0, 250, []),
  (.iload_n 3, 251, []), (.iconst 2, 252, [1, 2]), (.iadd, 253, []), (.iaload, 254, [99]), (.aload_n 0, 255, []), (.iload_n 3, 256, []),
  (.iconst 3, 257, [1, 3]), (.iadd, 258, []), (.iaload, 259, [99]), (.aload_n 0, 260, []), (.iload_n 3, 261, []), (.iconst 4, 262, [1, 4]),
  (.iadd, 263, []), (.iaload, 264, [99]), (.aload_n 0, 265, []), (.iload_n 3, 266, []), (.iconst 5, 267, [1, 5]), (.iadd, 268, []),
  (.iaload, 269, [99]), (.invokevirtual 13, 270, [1, 126, 5, 1, 6, 12, 0, 0, 3, 84]), (.aload_n 2, 273, []), (.aload_n 0, 274, []), (.iload_n 3, 275, []), (.iconst 1, 276, [1, 1]),
  (.iadd, 277, []), (.iaload, 278, [99]), (.aload_n 0, 279, []), (.iload_n 3, 280, []), (.iconst 2, 281, [1, 2]), (.iadd, 282, []),
  (.iaload, 283, [99]), (.aload_n 0, 284, []), (.iload_n 3, 285, []), (.iconst 3, 286, [1, 3]), (.iadd, 287, []), (.iaload, 288, [99]),
  (.aload_n 0, 289, []), (.iload_n 3, 290, []), (.iconst 4, 291, [1, 4]), (.iadd, 292, []), (.iaload, 293, [99]), (.aload_n 0, 294, []),
  (.iload_n 3, 295, []), (.iconst 5, 296, [1, 5]), (.iadd, 297, []), (.iaload, 298, [99]), (.invokevirtual 17, 299, [1, 198, 5, 1, 6, 13, 0, 0, 7, 83]), (.if_icmp .eq 1605, 302, [1, 1308]),
  (.iconst 0, 305, [1, 0]), (.ireturn, 306, [1]), (.aload_n 1, 307, []), (.aload_n 0, 308, []), (.iload_n 3, 309, []), (.iconst 1, 310, [1, 1]),
  (.iadd, 311, []), (.iaload, 312, [99]), (.invokevirtual 18, 313, [1, 128, 1, 1, 2, 12, 0, 0, 3, 92]), (.aload_n 2, 316, []), (.aload_n 0, 317, []), (.iload_n 3, 318, []),
  (.iconst 1, 319, [1, 1]), (.iadd, 320, []), (.iaload, 321, [99]), (.invokevirtual 22, 322, [1, 200, 1, 1, 2, 13, 0, 0, 7, 91]), (.if_icmp .eq 1582, 325, [1, 1291]), (.iconst 0, 328, [1, 0]),
  (.ireturn, 329, [1]), (.aload_n 1, 330, []), (.invokevirtual 23, 331, [1, 129, 0, 1, 3, 12, 0, 0, 3, 96]), (.aload_n 2, 334, []), (.invokevirtual 27, 335, [1, 240, 0, 1, 2, 13, 0, 0, 7, 98]), (.if_icmp .eq 1569, 338, [1, 1284]),
  (.iconst 0, 341, [1, 0]), (.ireturn, 342, [1]), (.aload_n 1, 343, []), (.aload_n 0, 344, []), (.iload_n 3, 345, []), (.iconst 1, 346, [1, 1]),
  (.iadd, 347, []), (.iaload, 348, [99]), (.invokevirtual 28, 349, [1, 131, 1, 1, 2, 12, 0, 0, 4, 86]), (.aload_n 2, 352, []), (.aload_n 0, 353, []), (.iload_n 3, 354, []),
  (.iconst 1, 355, [1, 1]), (.iadd, 356, []), (.iaload, 357, [99]), (.invokevirtual 31, 358, [1, 241, 1, 1, 2, 13, 0, 0, 8, 30]), (.if_icmp .eq 1546, 361, [1, 1267]), (.iconst 0, 364, [1, 0]),
  (.ireturn, 365, [1]), (.aload_n 1, 366, []), (.aload_n 0, 367, []), (.iload_n 3, 368, []), (.iconst 1, 369, [1, 1]), (.iadd, 370, []),
  (.iaload, 371, [99]), (.aload_n 0, 372, []), (.iload_n 3, 373, []), (.iconst 2, 374, [1, 2]), (.iadd, 375, []), (.iaload, 376, [99]),
  (.invokevirtual 32, 377, [1, 138, 2, 1, 4, 12, 0, 0, 4, 90]), (.aload_n 2, 380, []), (.aload_n 0, 381, []), (.iload_n 3, 382, []), (.iconst 1, 383, [1, 1]), (.iadd, 384, []),
  (.iaload, 385, [99]), (.aload_n 0, 386, []), (.iload_n 3, 387, []), (.iconst 2, 388, [1, 2]), (.iadd, 389, []), (.iaload, 390, [99]),
  (.invokevirtual 36, 391, [1, 263, 2, 1, 3, 13, 0, 0, 8, 34]), (.if_icmp .eq 1513, 394, [1, 1240]), (.iconst 0, 397, [1, 0]), (.ireturn, 398, [1]), (.aload_n 1, 399, []), (.aload_n 0, 400, []),
  (.iload_n 3, 401, []), (.iconst 1, 402, [1, 1]), (.iadd, 403, []), (.iaload, 404, [99]), (.aload_n 0, 405, []), (.iload_n 3, 406, []),
  (.iconst 2, 407, [1, 2]), (.iadd, 408, []), (.iaload, 409, [99]), (.aload_n 0, 410, []), (.iload_n 3, 411, []), (.iconst 3, 412, [1, 3]),
  (.iadd, 413, []), (.iaload, 414, [99]), (.invokevirtual 37, 415, [1, 140, 3, 1, 4, 12, 0, 0, 4, 159]), (.aload_n 2, 418, []), (.aload_n 0, 419, []), (.iload_n 3, 420, []),
  (.iconst 1, 421, [1, 1]), (.iadd, 422, []), (.iaload, 423, [99]), (.aload_n 0, 424, []), (.iload_n 3, 425, []), (.iconst 2, 426, [1, 2]),
  (.iadd, 427, []), (.iaload, 428, [99]), (.aload_n 0, 429, []), (.iload_n 3, 430, []), (.iconst 3, 431, [1, 3]), (.iadd, 432, []),
  (.iaload, 433, [99]), (.invokevirtual 41, 434, [1, 265, 3, 1, 4, 13, 0, 0, 8, 110]), (.if_icmp .eq 1470, 437, [1, 1203]), (.iconst 0, 440, [1, 0]), (.ireturn, 441, [1]), (.aload_n 1, 442, []),
  (.aload_n 0, 443, []), (.iload_n 3, 444, []), (.iconst 1, 445, [1, 1]), (.iadd, 446, []), (.iaload, 447, [99]), (.aload_n 0, 448, []),
  (.iload_n 3, 449, []), (.iconst 2, 450, [1, 2]), (.iadd, 451, []), (.iaload, 452, [99]), (.aload_n 0, 453, []), (.iload_n 3, 454, []),
  (.iconst 3, 455, [1, 3]), (.iadd, 456, []), (.iaload, 457, [99]), (.invokevirtual 42, 458, [1, 141, 3, 1, 4, 12, 0, 0, 4, 167]), (.aload_n 2, 461, []), (.aload_n 0, 462, []),
  (.iload_n 3, 463, []), (.iconst 1, 464, [1, 1]), (.iadd, 465, []), (.iaload, 466, [99]), (.aload_n 0, 467, []), (.iload_n 3, 468, []),
  (.iconst 2, 469, [1, 2]), (.iadd, 470, []), (.iaload, 471, [99]), (.aload_n 0, 472, []), (.iload_n 3, 473, []), (.iconst 3, 474, [1, 3]),
  (.iadd, 475, []), (.iaload, 476, [99]), (.invokevirtual 45, 477, [1, 271, 3, 1, 4, 13, 0, 0, 8, 134]), (.if_icmp .eq 1427, 480, [1, 1166]), (.iconst 0, 483, [1, 0]), (.ireturn, 484, [1]),
  (.aload_n 1, 485, []), (.aload_n 0, 486, []), (.iload_n 3, 487, []), (.iconst 1, 488, [1, 1]), (.iadd, 489, []), (.iaload, 490, [99]),
  (.aload_n 0, 491, []), (.iload_n 3, 492, []), (.iconst 2, 493, [1, 2]), (.iadd, 494, []), (.iaload, 495, [99]), (.aload_n 0, 496, []),
  (.iload_n 3, 497, []), (.iconst 3, 498, [1, 3]), (.iadd, 499, []), (.iaload, 500, [99]), (.invokevirtual 46, 501, [1, 142, 3, 1, 4, 12, 0, 0, 4, 201]), (.aload_n 2, 504, []),
  (.aload_n 0, 505, []), (.iload_n 3, 506, []), (.iconst 1, 507, [1, 1]), (.iadd, 508, []), (.iaload, 509, [99]), (.aload_n 0, 510, []),
  (.iload_n 3, 511, []), (.iconst 2, 512, [1, 2]), (.iadd, 513, []), (.iaload, 514, [99]), (.aload_n 0, 515, []), (.iload_n 3, 516, []),
  (.iconst 3, 517, [1, 3]), (.iadd, 518, []), (.iaload, 519, [99]), (.invokevirtual 49, 520, [1, 272, 3, 1, 4, 13, 0, 0, 8, 146]), (.if_icmp .eq 1384, 523, [1, 1129]), (.iconst 0, 526, [1, 0]),
  (.ireturn, 527, [1]), (.aload_n 1, 528, []), (.aload_n 0, 529, []), (.iload_n 3, 530, []), (.iconst 1, 531, [1, 1]), (.iadd, 532, []),
  (.iaload, 533, [99]), (.aload_n 0, 534, []), (.iload_n 3, 535, []), (.iconst 2, 536, [1, 2]), (.iadd, 537, []), (.iaload, 538, [99]),
  (.aload_n 0, 539, []), (.iload_n 3, 540, []), (.iconst 3, 541, [1, 3]), (.iadd, 542, []), (.iaload, 543, [99]), (.aload_n 0, 544, []),
  (.iload_n 3, 545, []), (.iconst 4, 546, [1, 4]), (.iadd, 547, []), (.iaload, 548, [99]), (.invokevirtual 50, 549, [1, 144, 4, 1, 5, 12, 0, 0, 4, 205]), (.aload_n 2, 552, []),
  (.aload_n 0, 553, []), (.iload_n 3, 554, []), (.iconst 1, 555, [1, 1]), (.iadd, 556, []), (.iaload, 557, [99]), (.aload_n 0, 558, []),
  (.iload_n 3, 559, []), (.iconst 2, 560, [1, 2]), (.iadd, 561, []), (.iaload, 562, [99]), (.aload_n 0, 563, []), (.iload_n 3, 564, []),
  (.iconst 3, 565, [1, 3]), (.iadd, 566, []), (.iaload, 567, [99]), (.aload_n 0, 568, []), (.iload_n 3, 569, []), (.iconst 4, 570, [1, 4]),
  (.iadd, 571, []), (.iaload, 572, [99]), (.invokevirtual 54, 573, [1, 275, 4, 1, 6, 13, 0, 0, 8, 150]), (.if_icmp .eq 1331, 576, [1, 1082]), (.iconst 0, 579, [1, 0]), (.ireturn, 580, [1]),
  (.aload_n 1, 581, []), (.aload_n 0, 582, []), (.iload_n 3, 583, []), (.iconst 1, 584, [1, 1]), (.iadd, 585, []), (.iaload, 586, [99]),
  (.invokevirtual 55, 587, [1, 146, 1, 1, 3, 12, 0, 0, 4, 218]), (.aload_n 2, 590, []), (.aload_n 0, 591, []), (.iload_n 3, 592, []), (.iconst 1, 593, [1, 1]), (.iadd, 594, []),
  (.iaload, 595, [99]), (.invokevirtual 58, 596, [1, 276, 1, 1, 4, 13, 0, 0, 8, 165]), (.if_icmp .eq 1308, 599, [1, 1065]), (.iconst 0, 602, [1, 0]), (.ireturn, 603, [1]), (.aload_n 1, 604, []),
  (.invokevirtual 59, 605, [1, 148, 0, 1, 3, 12, 0, 0, 4, 222]), (.aload_n 2, 608, []), (.invokevirtual 62, 609, [1, 277, 0, 1, 3, 13, 0, 0, 8, 169]), (.if_icmp .eq 1295, 612, [1, 1058]), (.iconst 0, 615, [1, 0]), (.ireturn, 616, [1]),
  (.aload_n 1, 617, []), (.invokevirtual 63, 618, [1, 151, 0, 1, 2, 12, 0, 0, 4, 230]), (.aload_n 2, 621, []), (.invokevirtual 67, 622, [1, 268, 0, 1, 1, 13, 0, 0, 8, 122]), (.if_icmp .eq 1282, 625, [1, 1051]), (.iconst 0, 628, [1, 0]),
  (.ireturn, 629, [1]), (.aload_n 1, 630, []), (.invokevirtual 68, 631, [1, 152, 0, 1, 2, 12, 0, 0, 4, 238]), (.aload_n 2, 634, []), (.invokevirtual 71, 635, [1, 269, 0, 1, 1, 13, 0, 0, 8, 130]), (.if_icmp .eq 1269, 638, [1, 1044]),
  (.iconst 0, 641, [1, 0]), (.ireturn, 642, [1]), (.aload_n 1, 643, []), (.aload_n 0, 644, []), (.iload_n 3, 645, []), (.iconst 1, 646, [1, 1]),
  (.iadd, 647, []), (.iaload, 648, [99]), (.aload_n 0, 649, []), (.iload_n 3, 650, []), (.iconst 2, 651, [1, 2]), (.iadd, 652, []),
  (.iaload, 653, [99]), (.invokevirtual 72, 654, [1, 153, 2, 1, 3, 12, 0, 0, 5, 2]), (.aload_n 2, 657, []), (.aload_n 0, 658, []), (.iload_n 3, 659, []), (.iconst 1, 660, [1, 1]),
  (.iadd, 661, []), (.iaload, 662, [99]), (.aload_n 0, 663, []), (.iload_n 3, 664, []), (.iconst 2, 665, [1, 2]), (.iadd, 666, []),
  (.iaload, 667, [99]), (.invokevirtual 75, 668, [1, 279, 2, 1, 3, 13, 0, 0, 8, 173]), (.if_icmp .eq 1236, 671, [1, 1017]), (.iconst 0, 674, [1, 0]), (.ireturn, 675, [1]), (.aload_n 1, 676, []),
  (.aload_n 0, 677, []), (.iload_n 3, 678, []), (.iconst 1, 679, [1, 1]), (.iadd, 680, []), (.iaload, 681, [99]), (.aload_n 0, 682, []),
  (.iload_n 3, 683, []), (.iconst 2, 684, [1, 2]), (.iadd, 685, []), (.iaload, 686, [99]), (.invokevirtual 76, 687, [1, 154, 2, 1, 3, 12, 0, 0, 5, 32]), (.aload_n 2, 690, []),
  (.aload_n 0, 691, []), (.iload_n 3, 692, []), (.iconst 1, 693, [1, 1]), (.iadd, 694, []), (.iaload, 695, [99]), (.aload_n 0, 696, []),
  (.iload_n 3, 697, []), (.iconst 2, 698, [1, 2]), (.iadd, 699, []), (.iaload, 700, [99]), (.invokevirtual 79, 701, [1, 281, 2, 1, 3, 13, 0, 0, 8, 181]), (.if_icmp .eq 1203, 704, [1, 990]),
  (.iconst 0, 707, [1, 0]), (.ireturn, 708, [1]), (.aload_n 1, 709, []), (.aload_n 0, 710, []), (.iload_n 3, 711, []), (.iconst 1, 712, [1, 1]),
  (.iadd, 713, []), (.iaload, 714, [99]), (.aload_n 0, 715, []), (.iload_n 3, 716, []), (.iconst 2, 717, [1, 2]), (.iadd, 718, []),
  (.iaload, 719, [99]), (.aload_n 0, 720, []), (.iload_n 3, 721, []), (.iconst 3, 722, [1, 3]), (.iadd, 723, []), (.iaload, 724, [99]),
  (.invokevirtual 80, 725, [1, 155, 3, 1, 4, 12, 0, 0, 5, 40]), (.aload_n 2, 728, []), (.aload_n 0, 729, []), (.iload_n 3, 730, []), (.iconst 1, 731, [1, 1]), (.iadd, 732, []),
  (.iaload, 733, [99]), (.aload_n 0, 734, []), (.iload_n 3, 735, []), (.iconst 2, 736, [1, 2]), (.iadd, 737, []), (.iaload, 738, [99]),
  (.aload_n 0, 739, []), (.iload_n 3, 740, []), (.iconst 3, 741, [1, 3]), (.iadd, 742, []), (.iaload, 743, [99]), (.invokevirtual 83, 744, [1, 282, 3, 1, 4, 13, 0, 0, 8, 189]),
  (.if_icmp .eq 1160, 747, [1, 953]), (.iconst 0, 750, [1, 0]), (.ireturn, 751, [1]), (.aload_n 1, 752, []), (.aload_n 0, 753, []), (.iload_n 3, 754, []),
  (.iconst 1, 755, [1, 1]), (.iadd, 756, []), (.iaload, 757, [99]), (.aload_n 0, 758, []), (.iload_n 3, 759, []), (.iconst 2, 760, [1, 2]),
  (.iadd, 761, []), (.iaload, 762, [99]), (.aload_n 0, 763, []), (.iload_n 3, 764, []), (.iconst 3, 765, [1, 3]), (.iadd, 766, []),
  (.iaload, 767, [99]), (.invokevirtual 84, 768, [1, 156, 3, 1, 4, 12, 0, 0, 5, 48]), (.aload_n 2, 771, []), (.aload_n 0, 772, []), (.iload_n 3, 773, []), (.iconst 1, 774, [1, 1]),
  (.iadd, 775, []), (.iaload, 776, [99]), (.aload_n 0, 777, []), (.iload_n 3, 778, []), (.iconst 2, 779, [1, 2]), (.iadd, 780, []),
  (.iaload, 781, [99]), (.aload_n 0, 782, []), (.iload_n 3, 783, []), (.iconst 3, 784, [1, 3]), (.iadd, 785, []), (.iaload, 786, [99]),
  (.invokevirtual 87, 787, [1, 283, 3, 1, 4, 13, 0, 0, 8, 193]), (.if_icmp .eq 1117, 790, [1, 916]), (.iconst 0, 793, [1, 0]), (.ireturn, 794, [1]), (.aload_n 1, 795, []), (.aload_n 0, 796, []),
  (.iload_n 3, 797, []), (.iconst 1, 798, [1, 1]), (.iadd, 799, []), (.iaload, 800, [99]), (.aload_n 0, 801, []), (.iload_n 3, 802, []),
  (.iconst 2, 803, [1, 2]), (.iadd, 804, []), (.iaload, 805, [99]), (.invokevirtual 88, 806, [1, 158, 2, 1, 3, 12, 0, 0, 5, 60]), (.aload_n 2, 809, []), (.aload_n 0, 810, []),
  (.iload_n 3, 811, []), (.iconst 1, 812, [1, 1]), (.iadd, 813, []), (.iaload, 814, [99]), (.aload_n 0, 815, []), (.iload_n 3, 816, []),
  (.iconst 2, 817, [1, 2]), (.iadd, 818, []), (.iaload, 819, [99]), (.invokevirtual 91, 820, [1, 284, 2, 1, 5, 13, 0, 0, 8, 197]), (.if_icmp .eq 1084, 823, [1, 889]), (.iconst 0, 826, [1, 0]),
  (.ireturn, 827, [1]), (.aload_n 1, 828, []), (.aload_n 0, 829, []), (.iload_n 3, 830, []), (.iconst 1, 831, [1, 1]), (.iadd, 832, []),
  (.iaload, 833, [99]), (.aload_n 0, 834, []), (.iload_n 3, 835, []), (.iconst 2, 836, [1, 2]), (.iadd, 837, []), (.iaload, 838, [99]),
  (.invokevirtual 92, 839, [1, 159, 2, 1, 3, 12, 0, 0, 5, 69]), (.aload_n 2, 842, []), (.aload_n 0, 843, []), (.iload_n 3, 844, []), (.iconst 1, 845, [1, 1]), (.iadd, 846, []),
  (.iaload, 847, [99]), (.aload_n 0, 848, []), (.iload_n 3, 849, []), (.iconst 2, 850, [1, 2]), (.iadd, 851, []), (.iaload, 852, [99]),
  (.invokevirtual 95, 853, [1, 286, 2, 1, 3, 13, 0, 0, 8, 201]), (.if_icmp .eq 1051, 856, [1, 862]), (.iconst 0, 859, [1, 0]), (.ireturn, 860, [1]), (.aload_n 1, 861, []), (.aload_n 0, 862, []),
  (.iload_n 3, 863, []), (.iconst 1, 864, [1, 1]), (.iadd, 865, []), (.iaload, 866, [99]), (.aload_n 0, 867, []), (.iload_n 3, 868, []),
  (.iconst 2, 869, [1, 2]), (.iadd, 870, []), (.iaload, 871, [99]), (.invokevirtual 96, 872, [1, 160, 2, 1, 3, 12, 0, 0, 5, 77]), (.aload_n 2, 875, []), (.aload_n 0, 876, []),
  (.iload_n 3, 877, []), (.iconst 1, 878, [1, 1]), (.iadd, 879, []), (.iaload, 880, [99]), (.aload_n 0, 881, []), (.iload_n 3, 882, []),
  (.iconst 2, 883, [1, 2]), (.iadd, 884, []), (.iaload, 885, [99]), (.invokevirtual 99, 886, [1, 288, 2, 1, 3, 13, 0, 0, 8, 209]), (.if_icmp .eq 1018, 889, [1, 835]), (.iconst 0, 892, [1, 0]),
  (.ireturn, 893, [1]), (.aload_n 1, 894, []), (.aload_n 0, 895, []), (.iload_n 3, 896, []), (.iconst 1, 897, [1, 1]), (.iadd, 898, []),
  (.iaload, 899, [99]), (.aload_n 0, 900, []), (.iload_n 3, 901, []), (.iconst 2, 902, [1, 2]), (.iadd, 903, []), (.iaload, 904, [99]),
  (.aload_n 0, 905, []), (.iload_n 3, 906, []), (.iconst 3, 907, [1, 3]), (.iadd, 908, []), (.iaload, 909, [99]), (.aload_n 0, 910, []),
  (.iload_n 3, 911, []), (.iconst 4, 912, [1, 4]), (.iadd, 913, []), (.iaload, 914, [99]), (.aload_n 0, 915, []), (.iload_n 3, 916, []),
  (.iconst 5, 917, [1, 5]), (.iadd, 918, []), (.iaload, 919, [99]), (.invokevirtual 100, 920, [1, 162, 5, 1, 6, 12, 0, 0, 5, 82]), (.aload_n 2, 923, []), (.aload_n 0, 924, []),
  (.iload_n 3, 925, []), (.iconst 1, 926, [1, 1]), (.iadd, 927, []), (.iaload, 928, [99]), (.aload_n 0, 929, []), (.iload_n 3, 930, []),
  (.iconst 2, 931, [1, 2]), (.iadd, 932, []), (.iaload, 933, [99]), (.aload_n 0, 934, []), (.iload_n 3, 935, []), (.iconst 3, 936, [1, 3]),
  (.iadd, 937, []), (.iaload, 938, [99]), (.aload_n 0, 939, []), (.iload_n 3, 940, []), (.iconst 4, 941, [1, 4]), (.iadd, 942, []),
  (.iaload, 943, [99]), (.aload_n 0, 944, []), (.iload_n 3, 945, []), (.iconst 5, 946, [1, 5]), (.iadd, 947, []), (.iaload, 948, [99]),
  (.invokevirtual 103, 949, [1, 290, 5, 1, 9, 13, 0, 0, 8, 217]), (.if_icmp .eq 955, 952, [1, 778]), (.iconst 0, 955, [1, 0]), (.ireturn, 956, [1]), (.aload_n 1, 957, []), (.aload_n 0, 958, []),
  (.iload_n 3, 959, []), (.iconst 1, 960, [1, 1]), (.iadd, 961, []), (.iaload, 962, [99]), (.aload_n 0, 963, []), (.iload_n 3, 964, []),
  (.iconst 2, 965, [1, 2]), (.iadd, 966, []), (.iaload, 967, [99]), (.aload_n 0, 968, []), (.iload_n 3, 969, []), (.iconst 3, 970, [1, 3]),
  (.iadd, 971, []), (.iaload, 972, [99]), (.aload_n 0, 973, []), (.iload_n 3, 974, []), (.iconst 4, 975, [1, 4]), (.iadd, 976, []),
  (.iaload, 977, [99]), (.aload_n 0, 978, []), (.iload_n 3, 979, []), (.iconst 5, 980, [1, 5]), (.iadd, 981, []), (.iaload, 982, [99]),
  (.invokevirtual 104, 983, [1, 163, 5, 1, 6, 12, 0, 0, 5, 94]), (.aload_n 2, 986, []), (.aload_n 0, 987, []), (.iload_n 3, 988, []), (.iconst 1, 989, [1, 1]), (.iadd, 990, []),
  (.iaload, 991, [99]), (.aload_n 0, 992, []), (.iload_n 3, 993, []), (.iconst 2, 994, [1, 2]), (.iadd, 995, []), (.iaload, 996, [99]),
  (.aload_n 0, 997, []), (.iload_n 3, 998, []), (.iconst 3, 999, [1, 3]), (.iadd, 1000, []), (.iaload, 1001, [99]), (.aload_n 0, 1002, []),
  (.iload_n 3, 1003, []), (.iconst 4, 1004, [1, 4]), (.iadd, 1005, []), (.iaload, 1006, [99]), (.aload_n 0, 1007, []), (.iload_n 3, 1008, []),
  (.iconst 5, 1009, [1, 5]), (.iadd, 1010, []), (.iaload, 1011, [99]), (.invokevirtual 107, 1012, [1, 291, 5, 1, 9, 13, 0, 0, 8, 225]), (.if_icmp .eq 892, 1015, [1, 721]), (.iconst 0, 1018, [1, 0]),
  (.ireturn, 1019, [1]), (.aload_n 1, 1020, []), (.aload_n 0, 1021, []), (.iload_n 3, 1022, []), (.iconst 1, 1023, [1, 1]), (.iadd, 1024, []),
  (.iaload, 1025, [99]), (.aload_n 0, 1026, []), (.iload_n 3, 1027, []), (.iconst 2, 1028, [1, 2]), (.iadd, 1029, []), (.iaload, 1030, [99]),
  (.invokevirtual 108, 1031, [1, 164, 2, 1, 3, 12, 0, 0, 5, 104]), (.aload_n 2, 1034, []), (.aload_n 0, 1035, []), (.iload_n 3, 1036, []), (.iconst 1, 1037, [1, 1]), (.iadd, 1038, []),
  (.iaload, 1039, [99]), (.aload_n 0, 1040, []), (.iload_n 3, 1041, []), (.iconst 2, 1042, [1, 2]), (.iadd, 1043, []), (.iaload, 1044, [99]),
  (.invokevirtual 111, 1045, [1, 293, 2, 1, 7, 13, 0, 0, 8, 229]), (.if_icmp .eq 859, 1048, [1, 694]), (.iconst 0, 1051, [1, 0]), (.ireturn, 1052, [1]), (.aload_n 1, 1053, []), (.aload_n 0, 1054, []),
  (.iload_n 3, 1055, []), (.iconst 1, 1056, [1, 1]), (.iadd, 1057, []), (.iaload, 1058, [99]), (.aload_n 0, 1059, []), (.iload_n 3, 1060, []),
  (.iconst 2, 1061, [1, 2]), (.iadd, 1062, []), (.iaload, 1063, [99]), (.invokevirtual 112, 1064, [1, 165, 2, 1, 3, 12, 0, 0, 5, 117]), (.aload_n 2, 1067, []), (.aload_n 0, 1068, []),
  (.iload_n 3, 1069, []), (.iconst 1, 1070, [1, 1]), (.iadd, 1071, []), (.iaload, 1072, [99]), (.aload_n 0, 1073, []), (.iload_n 3, 1074, []),
  (.iconst 2, 1075, [1, 2]), (.iadd, 1076, []), (.iaload, 1077, [99]), (.invokevirtual 115, 1078, [1, 294, 2, 1, 8, 13, 0, 0, 8, 237]), (.if_icmp .eq 826, 1081, [1, 667]), (.iconst 0, 1084, [1, 0]),
  (.ireturn, 1085, [1]), (.aload_n 1, 1086, []), (.aload_n 0, 1087, []), (.iload_n 3, 1088, []), (.iconst 1, 1089, [1, 1]), (.iadd, 1090, []),
  (.iaload, 1091, [99]), (.aload_n 0, 1092, []), (.iload_n 3, 1093, []), (.iconst 2, 1094, [1, 2]), (.iadd, 1095, []), (.iaload, 1096, [99]),
  (.aload_n 0, 1097, []), (.iload_n 3, 1098, []), (.iconst 3, 1099, [1, 3]), (.iadd, 1100, []), (.iaload, 1101, [99]), (.aload_n 0, 1102, []),
  (.iload_n 3, 1103, []), (.iconst 4, 1104, [1, 4]), (.iadd, 1105, []), (.iaload, 1106, [99]), (.invokevirtual 116, 1107, [1, 167, 4, 1, 5, 12, 0, 0, 5, 126]), (.aload_n 2, 1110, []),
  (.aload_n 0, 1111, []), (.iload_n 3, 1112, []), (.iconst 1, 1113, [1, 1]), (.iadd, 1114, []), (.iaload, 1115, [99]), (.aload_n 0, 1116, []),
  (.iload_n 3, 1117, []), (.iconst 2, 1118, [1, 2]), (.iadd, 1119, []), (.iaload, 1120, [99]), (.aload_n 0, 1121, []), (.iload_n 3, 1122, []),
  (.iconst 3, 1123, [1, 3]), (.iadd, 1124, []), (.iaload, 1125, [99]), (.aload_n 0, 1126, []), (.iload_n 3, 1127, []), (.iconst 4, 1128, [1, 4]),
  (.iadd, 1129, []), (.iaload, 1130, [99]), (.invokevirtual 119, 1131, [1, 295, 4, 1, 5, 13, 0, 0, 9, 1]), (.if_icmp .eq 773, 1134, [1, 620]), (.iconst 0, 1137, [1, 0]), (.ireturn, 1138, [1]),
  (.aload_n 1, 1139, []), (.aload_n 0, 1140, []), (.iload_n 3, 1141, []), (.iconst 1, 1142, [1, 1]), (.iadd, 1143, []), (.iaload, 1144, [99]),
  (.aload_n 0, 1145, []), (.iload_n 3, 1146, []), (.iconst 2, 1147, [1, 2]), (.iadd, 1148, []), (.iaload, 1149, [99]), (.aload_n 0, 1150, []),
  (.iload_n 3, 1151, []), (.iconst 3, 1152, [1, 3]), (.iadd, 1153, []), (.iaload, 1154, [99]), (.invokevirtual 120, 1155, [1, 168, 3, 1, 5, 12, 0, 0, 5, 130]), (.aload_n 2, 1158, []),
  (.aload_n 0, 1159, []), (.iload_n 3, 1160, []), (.iconst 1, 1161, [1, 1]), (.iadd, 1162, []), (.iaload, 1163, [99]), (.aload_n 0, 1164, []),
  (.iload_n 3, 1165, []), (.iconst 2, 1166, [1, 2]), (.iadd, 1167, []), (.iaload, 1168, [99]), (.aload_n 0, 1169, []), (.iload_n 3, 1170, []),
  (.iconst 3, 1171, [1, 3]), (.iadd, 1172, []), (.iaload, 1173, [99]), (.invokevirtual 123, 1174, [1, 296, 3, 1, 7, 13, 0, 0, 9, 5]), (.if_icmp .eq 730, 1177, [1, 583]), (.iconst 0, 1180, [1, 0]),
  (.ireturn, 1181, [1]), (.aload_n 1, 1182, []), (.aload_n 0, 1183, []), (.iload_n 3, 1184, []), (.iconst 1, 1185, [1, 1]), (.iadd, 1186, []),
  (.iaload, 1187, [99]), (.aload_n 0, 1188, []), (.iload_n 3, 1189, []), (.iconst 2, 1190, [1, 2]), (.iadd, 1191, []), (.iaload, 1192, [99]),
  (.invokevirtual 124, 1193, [1, 169, 2, 1, 4, 12, 0, 0, 5, 139]), (.aload_n 2, 1196, []), (.aload_n 0, 1197, []), (.iload_n 3, 1198, []), (.iconst 1, 1199, [1, 1]), (.iadd, 1200, []),
  (.iaload, 1201, [99]), (.aload_n 0, 1202, []), (.iload_n 3, 1203, []), (.iconst 2, 1204, [1, 2]), (.iadd, 1205, []), (.iaload, 1206, [99]),
  (.invokevirtual 127, 1207, [1, 297, 2, 1, 5, 13, 0, 0, 9, 9]), (.if_icmp .eq 697, 1210, [1, 556]), (.iconst 0, 1213, [1, 0]), (.ireturn, 1214, [1]), (.aload_n 1, 1215, []), (.aload_n 0, 1216, []),
  (.iload_n 3, 1217, []), (.iconst 1, 1218, [1, 1]), (.iadd, 1219, []), (.iaload, 1220, [99]), (.aload_n 0, 1221, []), (.iload_n 3, 1222, []),
  (.iconst 2, 1223, [1, 2]), (.iadd, 1224, []), (.iaload, 1225, [99]), (.invokevirtual 128, 1226, [1, 170, 2, 1, 3, 12, 0, 0, 5, 143]), (.aload_n 2, 1229, []), (.aload_n 0, 1230, []),
  (.iload_n 3, 1231, []), (.iconst 1, 1232, [1, 1]), (.iadd, 1233, []), (.iaload, 1234, [99]), (.aload_n 0, 1235, []), (.iload_n 3, 1236, []),
  (.iconst 2, 1237, [1, 2]), (.iadd, 1238, []), (.iaload, 1239, [99]), (.invokevirtual 131, 1240, [1, 298, 2, 1, 5, 13, 0, 0, 9, 13]), (.if_icmp .eq 664, 1243, [1, 529]), (.iconst 0, 1246, [1, 0]),
  (.ireturn, 1247, [1]), (.aload_n 1, 1248, []), (.aload_n 0, 1249, []), (.iload_n 3, 1250, []), (.iconst 1, 1251, [1, 1]), (.iadd, 1252, []),
  (.iaload, 1253, [99]), (.aload_n 0, 1254, []), (.iload_n 3, 1255, []), (.iconst 2, 1256, [1, 2]), (.iadd, 1257, []), (.iaload, 1258, [99]),
  (.invokevirtual 132, 1259, [1, 171, 2, 1, 8, 12, 0, 0, 5, 147]), (.aload_n 2, 1262, []), (.aload_n 0, 1263, []), (.iload_n 3, 1264, []), (.iconst 1, 1265, [1, 1]), (.iadd, 1266, []),
  (.iaload, 1267, [99]), (.aload_n 0, 1268, []), (.iload_n 3, 1269, []), (.iconst 2, 1270, [1, 2]), (.iadd, 1271, []), (.iaload, 1272, [99]),
  (.invokevirtual 135, 1273, [1, 299, 2, 1, 7, 13, 0, 0, 9, 17]), (.if_icmp .eq 631, 1276, [1, 502]), (.iconst 0, 1279, [1, 0]), (.ireturn, 1280, [1]), (.aload_n 1, 1281, []), (.aload_n 0, 1282, []),
  (.iload_n 3, 1283, []), (.iconst 1, 1284, [1, 1]), (.iadd, 1285, []), (.iaload, 1286, [99]), (.aload_n 0, 1287, []), (.iload_n 3, 1288, []),
  (.iconst 2, 1289, [1, 2]), (.iadd, 1290, []), (.iaload, 1291, [99]), (.aload_n 0, 1292, []), (.iload_n 3, 1293, []), (.iconst 3, 1294, [1, 3]),
  (.iadd, 1295, []), (.iaload, 1296, [99]), (.invokevirtual 136, 1297, [1, 172, 3, 1, 9, 12, 0, 0, 5, 152]), (.aload_n 2, 1300, []), (.aload_n 0, 1301, []), (.iload_n 3, 1302, []),
  (.iconst 1, 1303, [1, 1]), (.iadd, 1304, []), (.iaload, 1305, [99]), (.aload_n 0, 1306, []), (.iload_n 3, 1307, []), (.iconst 2, 1308, [1, 2]),
  (.iadd, 1309, []), (.iaload, 1310, [99]), (.aload_n 0, 1311, []), (.iload_n 3, 1312, []), (.iconst 3, 1313, [1, 3]), (.iadd, 1314, []),
  (.iaload, 1315, [99]), (.invokevirtual 139, 1316, [1, 300, 3, 1, 11, 13, 0, 0, 9, 21]), (.if_icmp .eq 588, 1319, [1, 465]), (.iconst 0, 1322, [1, 0]), (.ireturn, 1323, [1]), (.aload_n 1, 1324, []),
  (.aload_n 0, 1325, []), (.iload_n 3, 1326, []), (.iconst 1, 1327, [1, 1]), (.iadd, 1328, []), (.iaload, 1329, [99]), (.aload_n 0, 1330, []),
  (.iload_n 3, 1331, []), (.iconst 2, 1332, [1, 2]), (.iadd, 1333, []), (.iaload, 1334, [99]), (.invokevirtual 140, 1335, [1, 173, 2, 1, 3, 12, 0, 0, 5, 166]), (.aload_n 2, 1338, []),
  (.aload_n 0, 1339, []), (.iload_n 3, 1340, []), (.iconst 1, 1341, [1, 1]), (.iadd, 1342, []), (.iaload, 1343, [99]), (.aload_n 0, 1344, []),
  (.iload_n 3, 1345, []), (.iconst 2, 1346, [1, 2]), (.iadd, 1347, []), (.iaload, 1348, [99]), (.invokevirtual 143, 1349, [1, 302, 2, 1, 3, 13, 0, 0, 9, 25]), (.if_icmp .eq 555, 1352, [1, 438]),
  (.iconst 0, 1355, [1, 0]), (.ireturn, 1356, [1]), (.aload_n 1, 1357, []), (.aload_n 0, 1358, []), (.iload_n 3, 1359, []), (.iconst 1, 1360, [1, 1]),
  (.iadd, 1361, []), (.iaload, 1362, [99]), (.aload_n 0, 1363, []), (.iload_n 3, 1364, []), (.iconst 2, 1365, [1, 2]), (.iadd, 1366, []),
  (.iaload, 1367, [99]), (.aload_n 0, 1368, []), (.iload_n 3, 1369, []), (.iconst 3, 1370, [1, 3]), (.iadd, 1371, []), (.iaload, 1372, [99]),
  (.invokevirtual 144, 1373, [1, 174, 3, 1, 4, 12, 0, 0, 5, 175]), (.aload_n 2, 1376, []), (.aload_n 0, 1377, []), (.iload_n 3, 1378, []), (.iconst 1, 1379, [1, 1]), (.iadd, 1380, []),
  (.iaload, 1381, [99]), (.aload_n 0, 1382, []), (.iload_n 3, 1383, []), (.iconst 2, 1384, [1, 2]), (.iadd, 1385, []), (.iaload, 1386, [99]),
  (.aload_n 0, 1387, []), (.iload_n 3, 1388, []), (.iconst 3, 1389, [1, 3]), (.iadd, 1390, []), (.iaload, 1391, [99]), (.invokevirtual 147, 1392, [1, 303, 3, 1, 6, 13, 0, 0, 9, 33]),
  (.if_icmp .eq 512, 1395, [1, 401]), (.iconst 0, 1398, [1, 0]), (.ireturn, 1399, [1]), (.aload_n 1, 1400, []), (.aload_n 0, 1401, []), (.iload_n 3, 1402, []),
  (.iconst 1, 1403, [1, 1]), (.iadd, 1404, []), (.iaload, 1405, [99]), (.aload_n 0, 1406, []), (.iload_n 3, 1407, []), (.iconst 2, 1408, [1, 2]),
  (.iadd, 1409, []), (.iaload, 1410, [99]), (.invokevirtual 148, 1411, [1, 175, 2, 1, 3, 12, 0, 0, 5, 183]), (.aload_n 2, 1414, []), (.aload_n 0, 1415, []), (.iload_n 3, 1416, []),
  (.iconst 1, 1417, [1, 1]), (.iadd, 1418, []), (.iaload, 1419, [99]), (.aload_n 0, 1420, []), (.iload_n 3, 1421, []), (.iconst 2, 1422, [1, 2]),
  (.iadd, 1423, []), (.iaload, 1424, [99]), (.invokevirtual 151, 1425, [1, 304, 2, 1, 6, 13, 0, 0, 9, 37]), (.if_icmp .eq 479, 1428, [1, 374]), (.iconst 0, 1431, [1, 0]), (.ireturn, 1432, [1]),
  (.aload_n 1, 1433, []), (.aload_n 0, 1434, []), (.iload_n 3, 1435, []), (.iconst 1, 1436, [1, 1]), (.iadd, 1437, []), (.iaload, 1438, [99]),
  (.invokevirtual 152, 1439, [1, 176, 1, 1, 2, 12, 0, 0, 5, 193]), (.aload_n 2, 1442, []), (.aload_n 0, 1443, []), (.iload_n 3, 1444, []), (.iconst 1, 1445, [1, 1]), (.iadd, 1446, []),
  (.iaload, 1447, [99]), (.invokevirtual 155, 1448, [1, 305, 1, 1, 6, 13, 0, 0, 9, 41]), (.if_icmp .eq 456, 1451, [1, 357]), (.iconst 0, 1454, [1, 0]), (.ireturn, 1455, [1]), (.aload_n 1, 1456, []),
  (.aload_n 0, 1457, []), (.iload_n 3, 1458, []), (.iconst 1, 1459, [1, 1]), (.iadd, 1460, []), (.iaload, 1461, [99]), (.invokevirtual 156, 1462, [1, 177, 1, 1, 2, 12, 0, 0, 5, 212]),
  (.aload_n 2, 1465, []), (.aload_n 0, 1466, []), (.iload_n 3, 1467, []), (.iconst 1, 1468, [1, 1]), (.iadd, 1469, []), (.iaload, 1470, [99]),
  (.invokevirtual 159, 1471, [1, 306, 1, 1, 5, 13, 0, 0, 9, 45]), (.if_icmp .eq 433, 1474, [1, 340]), (.iconst 0, 1477, [1, 0]), (.ireturn, 1478, [1]), (.aload_n 1, 1479, []), (.aload_n 0, 1480, []),
  (.iload_n 3, 1481, []), (.iconst 1, 1482, [1, 1]), (.iadd, 1483, []), (.iaload, 1484, [99]), (.invokevirtual 160, 1485, [1, 178, 1, 1, 2, 12, 0, 0, 5, 220]), (.aload_n 2, 1488, []),
  (.aload_n 0, 1489, []), (.iload_n 3, 1490, []), (.iconst 1, 1491, [1, 1]), (.iadd, 1492, []), (.iaload, 1493, [99]), (.invokevirtual 163, 1494, [1, 307, 1, 1, 8, 13, 0, 0, 9, 49]),
  (.if_icmp .eq 410, 1497, [1, 323]), (.iconst 0, 1500, [1, 0]), (.ireturn, 1501, [1]), (.aload_n 1, 1502, []), (.aload_n 0, 1503, []), (.iload_n 3, 1504, []),
  (.iconst 1, 1505, [1, 1]), (.iadd, 1506, []), (.iaload, 1507, [99]), (.aload_n 0, 1508, []), (.iload_n 3, 1509, []), (.iconst 2, 1510, [1, 2]),
  (.iadd, 1511, []), (.iaload, 1512, [99]), (.invokevirtual 164, 1513, [1, 179, 2, 1, 3, 12, 0, 0, 5, 228]), (.aload_n 2, 1516, []), (.aload_n 0, 1517, []), (.iload_n 3, 1518, []),
  (.iconst 1, 1519, [1, 1]), (.iadd, 1520, []), (.iaload, 1521, [99]), (.aload_n 0, 1522, []), (.iload_n 3, 1523, []), (.iconst 2, 1524, [1, 2]),
  (.iadd, 1525, []), (.iaload, 1526, [99]), (.invokevirtual 167, 1527, [1, 309, 2, 1, 5, 13, 0, 0, 9, 53]), (.if_icmp .eq 377, 1530, [1, 296]), (.iconst 0, 1533, [1, 0]), (.ireturn, 1534, [1]),
  (.aload_n 1, 1535, []), (.aload_n 0, 1536, []), (.iload_n 3, 1537, []), (.iconst 1, 1538, [1, 1]), (.iadd, 1539, []), (.iaload, 1540, [99]),
  (.aload_n 0, 1541, []), (.iload_n 3, 1542, []), (.iconst 2, 1543, [1, 2]), (.iadd, 1544, []), (.iaload, 1545, [99]), (.invokevirtual 168, 1546, [1, 181, 2, 1, 4, 12, 0, 0, 6, 17]),
  (.aload_n 2, 1549, []), (.aload_n 0, 1550, []), (.iload_n 3, 1551, []), (.iconst 1, 1552, [1, 1]), (.iadd, 1553, []), (.iaload, 1554, [99]),
  (.aload_n 0, 1555, []), (.iload_n 3, 1556, []), (.iconst 2, 1557, [1, 2]), (.iadd, 1558, []), (.iaload, 1559, [99]), (.invokevirtual 171, 1560, [1, 310, 2, 1, 3, 13, 0, 0, 9, 61]),
  (.if_icmp .eq 344, 1563, [1, 269]), (.iconst 0, 1566, [1, 0]), (.ireturn, 1567, [1]), (.aload_n 1, 1568, []), (.aload_n 0, 1569, []), (.iload_n 3, 1570, []),
  (.iconst 1, 1571, [1, 1]), (.iadd, 1572, []), (.iaload, 1573, [99]), (.aload_n 0, 1574, []), (.iload_n 3, 1575, []), (.iconst 2, 1576, [1, 2]),
  (.iadd, 1577, []), (.iaload, 1578, [99]), (.invokevirtual 172, 1579, [1, 182, 2, 1, 6, 12, 0, 0, 6, 21]), (.aload_n 2, 1582, []), (.aload_n 0, 1583, []), (.iload_n 3, 1584, []),
  (.iconst 1, 1585, [1, 1]), (.iadd, 1586, []), (.iaload, 1587, [99]), (.aload_n 0, 1588, []), (.iload_n 3, 1589, []), (.iconst 2, 1590, [1, 2]),
  (.iadd, 1591, []), (.iaload, 1592, [99]), (.invokevirtual 175, 1593, [1, 312, 2, 1, 6, 13, 0, 0, 9, 65]), (.if_icmp .eq 311, 1596, [1, 242]), (.iconst 0, 1599, [1, 0]), (.ireturn, 1600, [1]),
  (.aload_n 1, 1601, []), (.aload_n 0, 1602, []), (.iload_n 3, 1603, []), (.iconst 1, 1604, [1, 1]), (.iadd, 1605, []), (.iaload, 1606, [99]),
  (.invokevirtual 176, 1607, [1, 184, 1, 1, 2, 12, 0, 0, 6, 29]), (.aload_n 2, 1610, []), (.aload_n 0, 1611, []), (.iload_n 3, 1612, []), (.iconst 1, 1613, [1, 1]), (.iadd, 1614, []),
  (.iaload, 1615, [99]), (.invokevirtual 179, 1616, [1, 313, 1, 1, 2, 13, 0, 0, 9, 72]), (.if_icmp .eq 288, 1619, [1, 225]), (.iconst 0, 1622, [1, 0]), (.ireturn, 1623, [1]), (.aload_n 1, 1624, []),
  (.aload_n 0, 1625, []), (.iload_n 3, 1626, []), (.iconst 1, 1627, [1, 1]), (.iadd, 1628, []), (.iaload, 1629, [99]), (.aload_n 0, 1630, []),
  (.iload_n 3, 1631, []), (.iconst 2, 1632, [1, 2]), (.iadd, 1633, []), (.iaload, 1634, [99]), (.aload_n 0, 1635, []), (.iload_n 3, 1636, []),
  (.iconst 3, 1637, [1, 3]), (.iadd, 1638, []), (.iaload, 1639, [99]), (.aload_n 0, 1640, []), (.iload_n 3, 1641, []), (.iconst 4, 1642, [1, 4]),
  (.iadd, 1643, []), (.iaload, 1644, [99]), (.ifCond .eq 7, 1645, [1, 2]), (.iconst 1, 1648, [1, 1]), (.goto 4, 1649, [1, 1]), (.iconst 0, 1652, [1, 0]),
  (.nop, 1653, [1189, 1, 1, 1, 1]), (.invokevirtual 180, 1653, [1, 185, 4, 1, 5, 12, 0, 0, 6, 33]), (.aload_n 2, 1656, []), (.aload_n 0, 1657, []), (.iload_n 3, 1658, []), (.iconst 1, 1659, [1, 1]),
  (.iadd, 1660, []), (.iaload, 1661, [99]), (.aload_n 0, 1662, []), (.iload_n 3, 1663, []), (.iconst 2, 1664, [1, 2]), (.iadd, 1665, []),
  (.iaload, 1666, [99]), (.aload_n 0, 1667, []), (.iload_n 3, 1668, []), (.iconst 3, 1669, [1, 3]), (.iadd, 1670, []), (.iaload, 1671, [99]),
  (.aload_n 0, 1672, []), (.iload_n 3, 1673, []), (.iconst 4, 1674, [1, 4]), (.iadd, 1675, []), (.iaload, 1676, [99]), (.ifCond .eq 7, 1677, [1, 2]),
  (.iconst 1, 1680, [1, 1]), (.goto 4, 1681, [1, 1]), (.iconst 0, 1684, [1, 0]), (.nop, 1685, [1216, 1, 1, 1, 1]), (.invokevirtual 184, 1685, [1, 315, 4, 1, 5, 13, 0, 0, 9, 76]), (.if_icmp .eq 219, 1688, [1, 168]),
  (.iconst 0, 1691, [1, 0]), (.ireturn, 1692, [1]), (.aload_n 1, 1693, []), (.aload_n 0, 1694, []), (.iload_n 3, 1695, []), (.iconst 1, 1696, [1, 1]),
  (.iadd, 1697, []), (.iaload, 1698, [99]), (.invokevirtual 185, 1699, [1, 186, 1, 1, 2, 12, 0, 0, 6, 42]), (.aload_n 2, 1702, []), (.aload_n 0, 1703, []), (.iload_n 3, 1704, []),
  (.iconst 1, 1705, [1, 1]), (.iadd, 1706, []), (.iaload, 1707, [99]), (.invokevirtual 189, 1708, [1, 316, 1, 1, 2, 13, 0, 0, 9, 84]), (.if_icmp .eq 196, 1711, [1, 151]), (.iconst 0, 1714, [1, 0]),
  (.ireturn, 1715, [1]), (.aload_n 1, 1716, []), (.aload_n 0, 1717, []), (.iload_n 3, 1718, []), (.iconst 1, 1719, [1, 1]), (.iadd, 1720, []),
  (.iaload, 1721, [99]), (.invokevirtual 190, 1722, [1, 187, 1, 1, 2, 12, 0, 0, 6, 50]), (.aload_n 2, 1725, []), (.aload_n 0, 1726, []), (.iload_n 3, 1727, []), (.iconst 1, 1728, [1, 1]),
  (.iadd, 1729, []), (.iaload, 1730, [99]), (.invokevirtual 193, 1731, [1, 317, 1, 1, 2, 13, 0, 0, 9, 88]), (.if_icmp .eq 173, 1734, [1, 134]), (.iconst 0, 1737, [1, 0]), (.ireturn, 1738, [1]),
  (.aload_n 1, 1739, []), (.aload_n 0, 1740, []), (.iload_n 3, 1741, []), (.iconst 1, 1742, [1, 1]), (.iadd, 1743, []), (.iaload, 1744, [99]),
  (.invokevirtual 194, 1745, [1, 188, 1, 1, 2, 12, 0, 0, 6, 55]), (.aload_n 2, 1748, []), (.aload_n 0, 1749, []), (.iload_n 3, 1750, []), (.iconst 1, 1751, [1, 1]), (.iadd, 1752, []),
  (.iaload, 1753, [99]), (.invokevirtual 197, 1754, [1, 323, 1, 1, 4, 13, 0, 0, 9, 93]), (.if_icmp .eq 150, 1757, [1, 117]), (.iconst 0, 1760, [1, 0]), (.ireturn, 1761, [1]), (.aload_n 1, 1762, []),
  (.aload_n 0, 1763, []), (.iload_n 3, 1764, []), (.iconst 1, 1765, [1, 1]), (.iadd, 1766, []), (.iaload, 1767, [99]), (.aload_n 0, 1768, []),
  (.iload_n 3, 1769, []), (.iconst 2, 1770, [1, 2]), (.iadd, 1771, []), (.iaload, 1772, [99]), (.invokevirtual 198, 1773, [1, 189, 2, 1, 3, 12, 0, 0, 6, 77]), (.aload_n 2, 1776, []),
  (.aload_n 0, 1777, []), (.iload_n 3, 1778, []), (.iconst 1, 1779, [1, 1]), (.iadd, 1780, []), (.iaload, 1781, [99]), (.aload_n 0, 1782, []),
  (.iload_n 3, 1783, []), (.iconst 2, 1784, [1, 2]), (.iadd, 1785, []), (.iaload, 1786, [99]), (.invokevirtual 201, 1787, [1, 324, 2, 1, 5, 13, 0, 0, 9, 117]), (.if_icmp .eq 117, 1790, [1, 90]),
  (.iconst 0, 1793, [1, 0]), (.ireturn, 1794, [1]), (.aload_n 1, 1795, []), (.aload_n 0, 1796, []), (.iload_n 3, 1797, []), (.iconst 1, 1798, [1, 1]),
  (.iadd, 1799, []), (.iaload, 1800, [99]), (.aload_n 0, 1801, []), (.iload_n 3, 1802, []), (.iconst 2, 1803, [1, 2]), (.iadd, 1804, []),
  (.iaload, 1805, [99]), (.aload_n 0, 1806, []), (.iload_n 3, 1807, []), (.iconst 3, 1808, [1, 3]), (.iadd, 1809, []), (.iaload, 1810, [99]),
  (.invokevirtual 202, 1811, [1, 190, 3, 1, 4, 12, 0, 0, 6, 86]), (.aload_n 2, 1814, []), (.aload_n 0, 1815, []), (.iload_n 3, 1816, []), (.iconst 1, 1817, [1, 1]), (.iadd, 1818, []),
  (.iaload, 1819, [99]), (.aload_n 0, 1820, []), (.iload_n 3, 1821, []), (.iconst 2, 1822, [1, 2]), (.iadd, 1823, []), (.iaload, 1824, [99]),
  (.aload_n 0, 1825, []), (.iload_n 3, 1826, []), (.iconst 3, 1827, [1, 3]), (.iadd, 1828, []), (.iaload, 1829, [99]), (.invokevirtual 205, 1830, [1, 326, 3, 1, 9, 13, 0, 0, 9, 121]),
  (.if_icmp .eq 74, 1833, [1, 53]), (.iconst 0, 1836, [1, 0]), (.ireturn, 1837, [1]), (.aload_n 1, 1838, []), (.aload_n 0, 1839, []), (.iload_n 3, 1840, []),
  (.iconst 1, 1841, [1, 1]), (.iadd, 1842, []), (.iaload, 1843, [99]), (.invokevirtual 206, 1844, [1, 191, 1, 1, 2, 12, 0, 0, 6, 97]), (.aload_n 2, 1847, []), (.aload_n 0, 1848, []),
  (.iload_n 3, 1849, []), (.iconst 1, 1850, [1, 1]), (.iadd, 1851, []), (.iaload, 1852, [99]), (.invokevirtual 209, 1853, [1, 327, 1, 1, 3, 13, 0, 0, 9, 129]), (.if_icmp .eq 51, 1856, [1, 36]),
  (.iconst 0, 1859, [1, 0]), (.ireturn, 1860, [1]), (.aload_n 1, 1861, []), (.aload_n 0, 1862, []), (.iload_n 3, 1863, []), (.iconst 1, 1864, [1, 1]),
  (.iadd, 1865, []), (.iaload, 1866, [99]), (.invokevirtual 210, 1867, [1, 192, 1, 1, 2, 12, 0, 0, 6, 112]), (.aload_n 2, 1870, []), (.aload_n 0, 1871, []), (.iload_n 3, 1872, []),
  (.iconst 1, 1873, [1, 1]), (.iadd, 1874, []), (.iaload, 1875, [99]), (.invokevirtual 213, 1876, [1, 328, 1, 1, 3, 13, 0, 0, 9, 137]), (.if_icmp .eq 28, 1879, [1, 19]), (.iconst 0, 1882, [1, 0]),
  (.ireturn, 1883, [1]), (.aload_n 1, 1884, []), (.aload_n 0, 1885, []), (.iload_n 3, 1886, []), (.iconst 1, 1887, [1, 1]), (.iadd, 1888, []),
  (.iaload, 1889, [99]), (.invokevirtual 214, 1890, [1, 193, 1, 1, 2, 12, 0, 0, 6, 120]), (.aload_n 2, 1893, []), (.aload_n 0, 1894, []), (.iload_n 3, 1895, []), (.iconst 1, 1896, [1, 1]),
  (.iadd, 1897, []), (.iaload, 1898, [99]), (.invokevirtual 217, 1899, [1, 330, 1, 1, 2, 13, 0, 0, 9, 141]), (.if_icmp .eq 5, 1902, [1, 2]), (.iconst 0, 1905, [1, 0]), (.ireturn, 1906, [1]),
  (.nop, 1907, [1387, 1, 1, 1, 1]), (.iinc 3 6, 1907, [1, 6]), (.goto (-1892), 1910, [0, 11, 1, 1, 1, 1]), (.iconst 1, 1913, [1, 1]), (.ireturn, 1914, [1])
  ]
abbrev M_Box_init : Nat := 0
abbrev M_Box_keep : Nat := 1
abbrev M_Box_giveBack : Nat := 2
abbrev M_Formula_init : Nat := 3
abbrev M_Formula_clear : Nat := 4
abbrev M_Formula_addNumber : Nat := 5
abbrev M_Formula_addPart : Nat := 6
abbrev M_Formula_work : Nat := 7
abbrev M_Formula_isUnit : Nat := 8
abbrev M_Formula_unitWorth : Nat := 9
abbrev M_Formula_reckon : Nat := 10
abbrev M_Grid_init : Nat := 11
abbrev M_Grid_clear : Nat := 12
abbrev M_Grid_copyFrom : Nat := 13
abbrev M_Grid_isInside : Nat := 14
abbrev M_Grid_holds : Nat := 15
abbrev M_Grid_turn : Nat := 16
abbrev M_Grid_add : Nat := 17
abbrev M_Grid_fillSame : Nat := 18
abbrev M_Grid_fillAll : Nat := 19
abbrev M_Grid_join : Nat := 20
abbrev M_Grid_changeOver : Nat := 21
abbrev M_Grid_stepFrom : Nat := 22
abbrev M_Grid_rowsWith : Nat := 23
abbrev M_Grid_count : Nat := 24
abbrev M_Grid_countIn : Nat := 25
abbrev M_Grid_countInBlock : Nat := 26
abbrev M_Grid_fullestBlock : Nat := 27
abbrev M_Grid_findPair : Nat := 28
abbrev M_Grid_isWithin : Nat := 29
abbrev M_Grid_hasEachOwn : Nat := 30
abbrev M_Grid_isEven : Nat := 31
abbrev M_Grid_mostInARow : Nat := 32
abbrev M_Grid_leastInARow : Nat := 33
abbrev M_Grid_mostInAColumn : Nat := 34
abbrev M_Grid_halve : Nat := 35
abbrev M_History_init : Nat := 36
abbrev M_History_forget : Nat := 37
abbrev M_History_slotOf : Nat := 38
abbrev M_History_add : Nat := 39
abbrev M_History_goOn : Nat := 40
abbrev M_History_goBack : Nat := 41
abbrev M_Plan_init : Nat := 42
abbrev M_Plan_clear : Nat := 43
abbrev M_Plan_size : Nat := 44
abbrev M_Plan_isTold : Nat := 45
abbrev M_Plan_isFull : Nat := 46
abbrev M_Plan_begin : Nat := 47
abbrev M_Plan_finish : Nat := 48
abbrev M_Plan_find : Nat := 49
abbrev M_Plan_addPart : Nat := 50
abbrev M_Reader_init : Nat := 51
abbrev M_Reader_read : Nat := 52
abbrev M_Reader_fail : Nat := 53
abbrev M_Reader_expect : Nat := 54
abbrev M_Reader_readNumber : Nat := 55
abbrev M_Reader_startLineOnce : Nat := 56
abbrev M_Reader_readLevels : Nat := 57
abbrev M_Reader_readRelation : Nat := 58
abbrev M_Reader_readNewName : Nat := 59
abbrev M_Reader_readPairs : Nat := 60
abbrev M_Reader_readJoined : Nat := 61
abbrev M_Reader_isOrOrLess : Nat := 62
abbrev M_Reader_readMet : Nat := 63
abbrev M_Reader_isAndOrThen : Nat := 64
abbrev M_Reader_readOne : Nat := 65
abbrev M_Reader_readLeaf : Nat := 66
abbrev M_Reader_readOrs : Nat := 67
abbrev M_Reader_readAnds : Nat := 68
abbrev M_Reader_readNots : Nat := 69
abbrev M_Reader_readCompared : Nat := 70
abbrev M_Reader_readSum : Nat := 71
abbrev M_Reader_readTerm : Nat := 72
abbrev M_Reader_readUnit : Nat := 73
abbrev M_Reader_readBracket : Nat := 74
abbrev M_Relations_init : Nat := 75
abbrev M_Relations_begin : Nat := 76
abbrev M_Relations_countTold : Nat := 77
abbrev M_Relations_turnAll : Nat := 78
abbrev M_Relations_derive : Nat := 79
abbrev M_Relations_openPart : Nat := 80
abbrev M_Relations_workPart : Nat := 81
abbrev M_Scanner_init : Nat := 82
abbrev M_Scanner_begin : Nat := 83
abbrev M_Scanner_halt : Nat := 84
abbrev M_Scanner_step : Nat := 85
abbrev M_Scanner_readSign : Nat := 86
abbrev M_Scanner_readWord : Nat := 87
abbrev M_Scanner_readNumber : Nat := 88
abbrev M_Scanner_isBlank : Nat := 89
abbrev M_Scanner_isLetter : Nat := 90
abbrev M_Scanner_isDigit : Nat := 91
abbrev M_Sightings_init : Nat := 92
abbrev M_Sightings_begin : Nat := 93
abbrev M_Sightings_tell : Nat := 94
abbrev M_Sightings_takeBack : Nat := 95
abbrev M_Sightings_gatherFits : Nat := 96
abbrev M_Sightings_dropUnfit : Nat := 97
abbrev M_Sightings_fitsWith : Nat := 98
abbrev M_Sightings_countFits : Nat := 99
abbrev M_Sightings_findFit : Nat := 100
abbrev M_Sightings_bestBlock : Nat := 101
abbrev M_Steps_init : Nat := 102
abbrev M_Steps_allFrom : Nat := 103
abbrev M_Steps_fewest : Nat := 104
abbrev M_Steps_bothWays : Nat := 105
abbrev M_Steps_countClosure : Nat := 106
abbrev M_Steps_countGoes : Nat := 107
abbrev M_Steps_settle : Nat := 108
abbrev M_Steps_countSets : Nat := 109
abbrev M_Tree_init : Nat := 110
abbrev M_Tree_grow : Nat := 111
abbrev M_Tree_filledOn : Nat := 112
abbrev M_Tree_countBits : Nat := 113
abbrev M_Tree_layBits : Nat := 114
abbrev M_Tree_layQuarters : Nat := 115
abbrev M_Tree_isLaid : Nat := 116
abbrev M_Tree_bitAt : Nat := 117
abbrev M_Tree_rankAt : Nat := 118
abbrev M_Tree_levelAt : Nat := 119
abbrev M_Tree_firstRowAt : Nat := 120
abbrev M_Tree_firstColumnAt : Nat := 121
abbrev M_Tree_countBitsIn : Nat := 122
abbrev M_Tree_walkBeside : Nat := 123
abbrev M_Tree_multiplyBy : Nat := 124
abbrev M_PT_init : Nat := 125
abbrev M_PT_feed : Nat := 126
abbrev M_PT_layBytes : Nat := 127
abbrev M_PT_end : Nat := 128
abbrev M_PT_store : Nat := 129
abbrev M_PT_startAnew : Nat := 130
abbrev M_PT_fault : Nat := 131
abbrev M_PT_isRelation : Nat := 132
abbrev M_PT_areRelations : Nat := 133
abbrev M_PT_isToldOne : Nat := 134
abbrev M_PT_isNode : Nat := 135
abbrev M_PT_isLevel : Nat := 136
abbrev M_PT_isRectangle : Nat := 137
abbrev M_PT_relation : Nat := 138
abbrev M_PT_bitsOf : Nat := 139
abbrev M_PT_has : Nat := 140
abbrev M_PT_put : Nat := 141
abbrev M_PT_take : Nat := 142
abbrev M_PT_turnPair : Nat := 143
abbrev M_PT_become : Nat := 144
abbrev M_PT_makeOfTwo : Nat := 145
abbrev M_PT_sift : Nat := 146
abbrev M_PT_siftInto : Nat := 147
abbrev M_PT_drift : Nat := 148
abbrev M_PT_driftsTo : Nat := 149
abbrev M_PT_perform : Nat := 150
abbrev M_PT_undo : Nat := 151
abbrev M_PT_redo : Nat := 152
abbrev M_PT_bit : Nat := 153
abbrev M_PT_rank : Nat := 154
abbrev M_PT_child : Nat := 155
abbrev M_PT_place : Nat := 156
abbrev M_PT_isBit : Nat := 157
abbrev M_PT_blocks : Nat := 158
abbrev M_PT_row : Nat := 159
abbrev M_PT_column : Nat := 160
abbrev M_PT_layNodes : Nat := 161
abbrev M_PT_rect : Nat := 162
abbrev M_PT_looks : Nat := 163
abbrev M_PT_walks : Nat := 164
abbrev M_PT_products : Nat := 165
abbrev M_PT_growBoth : Nat := 166
abbrev M_PT_would : Nat := 167
abbrev M_PT_pair : Nat := 168
abbrev M_PT_unlike : Nat := 169
abbrev M_PT_within : Nat := 170
abbrev M_PT_busiest : Nat := 171
abbrev M_PT_densest : Nat := 172
abbrev M_PT_reached : Nat := 173
abbrev M_PT_far : Nat := 174
abbrev M_PT_mutual : Nat := 175
abbrev M_PT_closure : Nat := 176
abbrev M_PT_settles : Nat := 177
abbrev M_PT_parts : Nat := 178
abbrev M_PT_is : Nat := 179
abbrev M_PT_holdsFor : Nat := 180
abbrev M_PT_law : Nat := 181
abbrev M_PT_odds : Nat := 182
abbrev M_PT_commonDivisor : Nat := 183
abbrev M_PT_lies : Nat := 184
abbrev M_PT_seen : Nat := 185
abbrev M_PT_untell : Nat := 186
abbrev M_PT_later : Nat := 187
abbrev M_PT_fits : Nat := 188
abbrev M_PT_fit : Nat := 189
abbrev M_PT_ask : Nat := 190
abbrev M_PT_image : Nat := 191
abbrev M_PT_back : Nat := 192
abbrev M_PT_about : Nat := 193
abbrev M_Mo_init : Nat := 194
abbrev M_Mo_isIn : Nat := 195
abbrev M_Mo_isOf : Nat := 196
abbrev M_Mo_bitsIn : Nat := 197
abbrev M_Mo_feed : Nat := 198
abbrev M_Mo_four : Nat := 199
abbrev M_Mo_end : Nat := 200
abbrev M_Mo_here : Nat := 201
abbrev M_Mo_isLetter : Nat := 202
abbrev M_Mo_isDigit : Nat := 203
abbrev M_Mo_isSign : Nat := 204
abbrev M_Mo_goOn : Nat := 205
abbrev M_Mo_wrong : Nat := 206
abbrev M_Mo_isGood : Nat := 207
abbrev M_Mo_isWord : Nat := 208
abbrev M_Mo_isOwn : Nat := 209
abbrev M_Mo_takes : Nat := 210
abbrev M_Mo_isMark : Nat := 211
abbrev M_Mo_needsMark : Nat := 212
abbrev M_Mo_number : Nat := 213
abbrev M_Mo_sizeOf : Nat := 214
abbrev M_Mo_relNamed : Nat := 215
abbrev M_Mo_lays1 : Nat := 216
abbrev M_Mo_openUp : Nat := 217
abbrev M_Mo_tightOf : Nat := 218
abbrev M_Mo_closesTo : Nat := 219
abbrev M_Mo_turnsDone : Nat := 220
abbrev M_Mo_hasBracket : Nat := 221
abbrev M_Mo_z : Nat := 222
abbrev M_Mo_leaf : Nat := 223
abbrev M_Mo_joinHere : Nat := 224
abbrev M_Mo_x : Nat := 225
abbrev M_Mo_keepLays : Nat := 226
abbrev M_Mo_boundOf : Nat := 227
abbrev M_Mo_formulaCloses : Nat := 228
abbrev M_Mo_hasRelation : Nat := 229
abbrev M_Mo_mayNot : Nat := 230
abbrev M_Mo_isFull : Nat := 231
abbrev M_Mo_unit : Nat := 232
abbrev M_Mo_signHere : Nat := 233
abbrev M_Mo_formula : Nat := 234
abbrev M_Mo_pairs : Nat := 235
abbrev M_Mo_relation1 : Nat := 236
abbrev M_Mo_line : Nat := 237
abbrev M_Mo_readAll : Nat := 238
abbrev M_Mo_takesHalf : Nat := 239
abbrev M_Mo_store : Nat := 240
abbrev M_Mo_fault : Nat := 241
abbrev M_Mo_wide : Nat := 242
abbrev M_Mo_everyBit : Nat := 243
abbrev M_Mo_isRel : Nat := 244
abbrev M_Mo_isNode : Nat := 245
abbrev M_Mo_pushes : Nat := 246
abbrev M_Mo_through : Nat := 247
abbrev M_Mo_turnsBack : Nat := 248
abbrev M_Mo_joined : Nat := 249
abbrev M_Mo_works : Nat := 250
abbrev M_Mo_lays2 : Nat := 251
abbrev M_Mo_manyIn : Nat := 252
abbrev M_Mo_pairsAll : Nat := 253
abbrev M_Mo_inBlock : Nat := 254
abbrev M_Mo_laysQuarters : Nat := 255
abbrev M_Mo_laysTree : Nat := 256
abbrev M_Mo_laysRel : Nat := 257
abbrev M_Mo_laysTwo : Nat := 258
abbrev M_Mo_truth : Nat := 259
abbrev M_Mo_done : Nat := 260
abbrev M_Mo_keptBy : Nat := 261
abbrev M_Mo_sifts : Nat := 262
abbrev M_Mo_relation2 : Nat := 263
abbrev M_Mo_arePair : Nat := 264
abbrev M_Mo_has : Nat := 265
abbrev M_Mo_keeps : Nat := 266
abbrev M_Mo_exchanges : Nat := 267
abbrev M_Mo_undo : Nat := 268
abbrev M_Mo_redo : Nat := 269
abbrev M_Mo_turns : Nat := 270
abbrev M_Mo_put : Nat := 271
abbrev M_Mo_take : Nat := 272
abbrev M_Mo_makes : Nat := 273
abbrev M_Mo_isHow : Nat := 274
abbrev M_Mo_become : Nat := 275
abbrev M_Mo_sift : Nat := 276
abbrev M_Mo_drift : Nat := 277
abbrev M_Mo_isBit : Nat := 278
abbrev M_Mo_bit : Nat := 279
abbrev M_Mo_rankOf : Nat := 280
abbrev M_Mo_rank : Nat := 281
abbrev M_Mo_child : Nat := 282
abbrev M_Mo_place : Nat := 283
abbrev M_Mo_blocks : Nat := 284
abbrev M_Mo_laysDown : Nat := 285
abbrev M_Mo_row : Nat := 286
abbrev M_Mo_columnSet : Nat := 287
abbrev M_Mo_column : Nat := 288
abbrev M_Mo_isRect : Nat := 289
abbrev M_Mo_rect : Nat := 290
abbrev M_Mo_looks : Nat := 291
abbrev M_Mo_hasSome : Nat := 292
abbrev M_Mo_walks : Nat := 293
abbrev M_Mo_products : Nat := 294
abbrev M_Mo_would : Nat := 295
abbrev M_Mo_pair : Nat := 296
abbrev M_Mo_unlike : Nat := 297
abbrev M_Mo_within : Nat := 298
abbrev M_Mo_busiest : Nat := 299
abbrev M_Mo_densest : Nat := 300
abbrev M_Mo_reachedFrom : Nat := 301
abbrev M_Mo_reached : Nat := 302
abbrev M_Mo_far : Nat := 303
abbrev M_Mo_mutual : Nat := 304
abbrev M_Mo_closure : Nat := 305
abbrev M_Mo_settles : Nat := 306
abbrev M_Mo_parts : Nat := 307
abbrev M_Mo_isSoIn : Nat := 308
abbrev M_Mo_is : Nat := 309
abbrev M_Mo_law : Nat := 310
abbrev M_Mo_common : Nat := 311
abbrev M_Mo_odds : Nat := 312
abbrev M_Mo_lies : Nat := 313
abbrev M_Mo_isBlock : Nat := 314
abbrev M_Mo_seen : Nat := 315
abbrev M_Mo_untell : Nat := 316
abbrev M_Mo_later : Nat := 317
abbrev M_Mo_laysFirst : Nat := 318
abbrev M_Mo_countBy : Nat := 319
abbrev M_Mo_doesCount : Nat := 320
abbrev M_Mo_fitsBy : Nat := 321
abbrev M_Mo_lastPair : Nat := 322
abbrev M_Mo_fits : Nat := 323
abbrev M_Mo_fit : Nat := 324
abbrev M_Mo_leftBy : Nat := 325
abbrev M_Mo_ask : Nat := 326
abbrev M_Mo_image : Nat := 327
abbrev M_Mo_back : Nat := 328
abbrev M_Mo_toldSet : Nat := 329
abbrev M_Mo_about : Nat := 330
abbrev M_Integer_bitCount : Nat := 331
abbrev M_String_length : Nat := 332
abbrev M_String_charAt : Nat := 333
abbrev M_String_indexOf1 : Nat := 334
abbrev M_String_indexOf2 : Nat := 335
abbrev M_String_coder : Nat := 336
abbrev M_String_isLatin1 : Nat := 337
abbrev M_String_checkIndex : Nat := 338
abbrev M_StringLatin1_charAt : Nat := 339
abbrev M_StringLatin1_canEncode : Nat := 340
abbrev M_StringLatin1_indexOf : Nat := 341
abbrev M_StringLatin1_indexOfChar : Nat := 342
abbrev M_Arrays_fill : Nat := 343
abbrev M_Preconditions_checkIndex : Nat := 344
abbrev M_Law_law : Nat := 345
noncomputable def pgl_0 : List Mth := [
  (⟨"PairTree$Box", "<init>", "()V"⟩, (bw 2 82), 2, none, 2, 0, [2, 82, 99, 0, 2, 81, 99, 0, 1, 13, 0], k_Box_init),
  (⟨"PairTree$Box", "keep", "(LPairTree$Relations;)V"⟩, (bw 6 104), 3, none, 2, 0, [6, 104, 99, 0, 6, 102, 6, 103, 1, 13, 1], k_Box_keep),
  (⟨"PairTree$Box", "giveBack", "(LPairTree$Relations;)V"⟩, (bw 6 119), 3, none, 2, 0, [6, 119, 99, 0, 6, 117, 6, 118, 1, 13, 1], k_Box_giveBack),
  (⟨"PairTree$Formula", "<init>", "()V"⟩, (bw 1 41), 1, none, 1, 0, [1, 41, 99, 0, 1, 40, 99, 0, 1, 3, 0], k_Formula_init),
  (⟨"PairTree$Formula", "clear", "()V"⟩, (bw 1 87), 1, none, 1, 0, [1, 87, 99, 0, 1, 85, 1, 86, 1, 3, 0], k_Formula_clear),
  (⟨"PairTree$Formula", "addNumber", "(I)V"⟩, (bw 4 76), 2, none, 2, 0, [4, 76, 99, 0, 4, 74, 4, 75, 1, 3, 1], k_Formula_addNumber),
  (⟨"PairTree$Formula", "addPart", "(I)V"⟩, (bw 4 80), 2, none, 1, 0, [4, 80, 99, 0, 4, 78, 4, 79, 1, 3, 1], k_Formula_addPart),
  (⟨"PairTree$Formula", "work", "(III)I"⟩, (bw 4 145), 7, (some .int), 2, 0, [4, 145, 99, 0, 4, 143, 4, 144, 1, 3, 3], k_Formula_work),
  (⟨"PairTree$Formula", "isUnit", "(I)Z"⟩, (bw 4 148), 1, (some .boolean), 1, 0, [4, 148, 4, 147, 99, 0, 99, 0, 1, 3, 1], k_Formula_isUnit),
  (⟨"PairTree$Formula", "unitWorth", "(IIII)I"⟩, (bw 4 151), 4, (some .int), 1, 0, [4, 151, 4, 150, 99, 0, 99, 0, 1, 3, 4], k_Formula_unitWorth),
  (⟨"PairTree$Formula", "reckon", "(III)I"⟩, (bw 4 154), 3, (some .int), 1, 0, [4, 154, 4, 153, 99, 0, 99, 0, 1, 3, 3], k_Formula_reckon),
  (⟨"PairTree$Grid", "<init>", "()V"⟩, (bw 1 60), 1, none, 1, 0, [1, 60, 99, 0, 1, 59, 99, 0, 1, 4, 0], k_Grid_init),
  (⟨"PairTree$Grid", "clear", "(I)V"⟩, (bw 2 235), 2, none, 2, 0, [2, 235, 99, 0, 2, 233, 2, 234, 1, 4, 1], k_Grid_clear),
  (⟨"PairTree$Grid", "copyFrom", "(LPairTree$Grid;)V"⟩, (bw 2 212), 2, none, 1, 0, [2, 212, 99, 0, 2, 210, 2, 211, 1, 4, 1], k_Grid_copyFrom),
  (⟨"PairTree$Grid", "isInside", "(II)Z"⟩, (bw 4 8), 3, (some .boolean), 1, 0, [4, 8, 99, 0, 4, 6, 4, 7, 1, 4, 2], k_Grid_isInside),
  (⟨"PairTree$Grid", "holds", "(II)Z"⟩, (bw 4 141), 3, (some .boolean), 2, 0, [4, 141, 99, 0, 4, 139, 4, 140, 1, 4, 2], k_Grid_holds),
  (⟨"PairTree$Grid", "turn", "(II)V"⟩, (bw 4 158), 3, none, 2, 0, [4, 158, 99, 0, 4, 156, 4, 157, 1, 4, 2], k_Grid_turn),
  (⟨"PairTree$Grid", "add", "(II)V"⟩, (bw 4 4), 3, none, 2, 0, [4, 4, 99, 0, 4, 2, 4, 3, 1, 4, 2], k_Grid_add),
  (⟨"PairTree$Grid", "fillSame", "(I)V"⟩, (bw 2 231), 3, none, 3, 0, [2, 231, 99, 0, 2, 229, 2, 230, 1, 4, 1], k_Grid_fillSame),
  (⟨"PairTree$Grid", "fillAll", "(I)V"⟩, (bw 3 8), 3, none, 3, 0, [3, 8, 99, 0, 3, 6, 3, 7, 1, 4, 1], k_Grid_fillAll),
  (⟨"PairTree$Grid", "join", "(ILPairTree$Grid;LPairTree$Grid;)V"⟩, (bw 3 24), 6, none, 3, 0, [3, 24, 99, 0, 3, 22, 3, 23, 1, 4, 3], k_Grid_join),
  (⟨"PairTree$Grid", "changeOver", "(LPairTree$Grid;)V"⟩, (bw 3 16), 3, none, 3, 0, [3, 16, 99, 0, 3, 14, 3, 15, 1, 4, 1], k_Grid_changeOver),
  (⟨"PairTree$Grid", "stepFrom", "(I)I"⟩, (bw 3 28), 4, (some .int), 1, 0, [3, 28, 99, 0, 3, 26, 3, 27, 1, 4, 1], k_Grid_stepFrom),
  (⟨"PairTree$Grid", "rowsWith", "(I)I"⟩, (bw 3 20), 4, (some .int), 1, 0, [3, 20, 99, 0, 3, 18, 3, 19, 1, 4, 1], k_Grid_rowsWith)
  ]
noncomputable def pgl_1 : List Mth := [
  (⟨"PairTree$Grid", "count", "()I"⟩, (bw 4 105), 3, (some .int), 2, 0, [4, 105, 99, 0, 4, 103, 4, 104, 1, 4, 0], k_Grid_count),
  (⟨"PairTree$Grid", "countIn", "(IIII)I"⟩, (bw 5 93), 8, (some .int), 2, 0, [5, 93, 99, 0, 5, 91, 5, 92, 1, 4, 4], k_Grid_countIn),
  (⟨"PairTree$Grid", "countInBlock", "(III)I"⟩, (bw 5 163), 7, (some .int), 3, 0, [5, 163, 99, 0, 5, 161, 5, 162, 1, 4, 3], k_Grid_countInBlock),
  (⟨"PairTree$Grid", "fullestBlock", "(II)I"⟩, (bw 5 159), 7, (some .int), 4, 0, [5, 159, 99, 0, 5, 157, 5, 158, 1, 4, 2], k_Grid_fullestBlock),
  (⟨"PairTree$Grid", "findPair", "(I)I"⟩, (bw 5 137), 5, (some .int), 3, 0, [5, 137, 99, 0, 5, 135, 5, 136, 1, 4, 1], k_Grid_findPair),
  (⟨"PairTree$Grid", "isWithin", "(LPairTree$Grid;)Z"⟩, (bw 5 210), 3, (some .boolean), 1, 0, [5, 210, 99, 0, 5, 208, 5, 209, 1, 4, 1], k_Grid_isWithin),
  (⟨"PairTree$Grid", "hasEachOwn", "()Z"⟩, (bw 5 239), 2, (some .boolean), 3, 0, [5, 239, 99, 0, 5, 237, 5, 238, 1, 4, 0], k_Grid_hasEachOwn),
  (⟨"PairTree$Grid", "isEven", "()Z"⟩, (bw 6 3), 2, (some .boolean), 2, 0, [6, 3, 99, 0, 6, 1, 6, 2, 1, 4, 0], k_Grid_isEven),
  (⟨"PairTree$Grid", "mostInARow", "()I"⟩, (bw 6 8), 3, (some .int), 2, 0, [6, 8, 99, 0, 6, 6, 6, 7, 1, 4, 0], k_Grid_mostInARow),
  (⟨"PairTree$Grid", "leastInARow", "()I"⟩, (bw 6 16), 3, (some .int), 2, 0, [6, 16, 99, 0, 6, 14, 6, 15, 1, 4, 0], k_Grid_leastInARow),
  (⟨"PairTree$Grid", "mostInAColumn", "()I"⟩, (bw 6 12), 3, (some .int), 2, 0, [6, 12, 99, 0, 6, 10, 6, 11, 1, 4, 0], k_Grid_mostInAColumn),
  (⟨"PairTree$Grid", "halve", "(LPairTree$Grid;)V"⟩, (bw 4 126), 5, none, 3, 0, [4, 126, 99, 0, 4, 124, 4, 125, 1, 4, 1], k_Grid_halve),
  (⟨"PairTree$History", "<init>", "()V"⟩, (bw 2 49), 1, none, 1, 0, [2, 49, 99, 0, 2, 48, 99, 0, 1, 12, 0], k_History_init),
  (⟨"PairTree$History", "forget", "()V"⟩, (bw 3 32), 1, none, 1, 0, [3, 32, 99, 0, 3, 30, 3, 31, 1, 12, 0], k_History_forget),
  (⟨"PairTree$History", "slotOf", "(I)I"⟩, (bw 4 191), 2, (some .int), 1, 0, [4, 191, 99, 0, 4, 190, 0, 34, 1, 12, 1], k_History_slotOf),
  (⟨"PairTree$History", "add", "(ILPairTree$Relations;LPairTree$Grid;I)V"⟩, (bw 4 187), 7, none, 2, 0, [4, 187, 99, 0, 4, 185, 4, 186, 1, 12, 4], k_History_add),
  (⟨"PairTree$History", "goOn", "(LPairTree$Relations;)Z"⟩, (bw 4 195), 3, (some .boolean), 2, 0, [4, 195, 99, 0, 4, 193, 4, 194, 1, 12, 1], k_History_goOn),
  (⟨"PairTree$History", "goBack", "(LPairTree$Relations;)Z"⟩, (bw 4 237), 3, (some .boolean), 2, 0, [4, 237, 99, 0, 4, 235, 4, 236, 1, 12, 1], k_History_goBack),
  (⟨"PairTree$Plan", "<init>", "()V"⟩, (bw 1 35), 2, none, 3, 0, [1, 35, 99, 0, 1, 34, 99, 0, 1, 2, 0], k_Plan_init),
  (⟨"PairTree$Plan", "clear", "()V"⟩, (bw 1 83), 1, none, 2, 0, [1, 83, 99, 0, 1, 81, 1, 82, 1, 2, 0], k_Plan_clear),
  (⟨"PairTree$Plan", "size", "()I"⟩, (bw 2 227), 1, (some .int), 1, 0, [2, 227, 99, 0, 2, 225, 2, 226, 1, 2, 0], k_Plan_size),
  (⟨"PairTree$Plan", "isTold", "(I)Z"⟩, (bw 4 101), 2, (some .boolean), 1, 0, [4, 101, 99, 0, 4, 99, 4, 100, 1, 2, 1], k_Plan_isTold),
  (⟨"PairTree$Plan", "isFull", "()Z"⟩, (bw 3 220), 1, (some .boolean), 1, 0, [3, 220, 99, 0, 3, 218, 3, 219, 1, 2, 0], k_Plan_isFull),
  (⟨"PairTree$Plan", "begin", "()LPairTree$Grid;"⟩, (bw 3 232), 2, (some (.object "PairTree$Grid")), 3, 0, [3, 232, 99, 0, 3, 230, 3, 231, 1, 2, 0], k_Plan_begin)
  ]
noncomputable def pgl_2 : List Mth := [
  (⟨"PairTree$Plan", "finish", "(JZ)V"⟩, (bw 4 42), 4, none, 2, 0, [4, 42, 99, 0, 4, 40, 4, 41, 1, 2, 2], k_Plan_finish),
  (⟨"PairTree$Plan", "find", "(J)I"⟩, (bw 3 228), 4, (some .int), 1, 0, [3, 228, 99, 0, 3, 226, 3, 227, 1, 2, 1], k_Plan_find),
  (⟨"PairTree$Plan", "addPart", "(I)V"⟩, (bw 4 28), 2, none, 1, 0, [4, 28, 99, 0, 4, 26, 4, 27, 1, 2, 1], k_Plan_addPart),
  (⟨"PairTree$Reader", "<init>", "()V"⟩, (bw 1 145), 1, none, 6, 0, [1, 145, 99, 0, 1, 144, 99, 0, 1, 5, 0], k_Reader_init),
  (⟨"PairTree$Reader", "read", "([BILPairTree$Plan;)Z"⟩, (bw 3 103), 5, (some .boolean), 336, 0, [3, 103, 99, 0, 3, 101, 3, 102, 1, 5, 3], k_Reader_read),
  (⟨"PairTree$Reader", "fail", "(I)V"⟩, (bw 3 199), 2, none, 2, 0, [3, 199, 99, 0, 3, 198, 0, 8, 1, 5, 1], k_Reader_fail),
  (⟨"PairTree$Reader", "expect", "(I)V"⟩, (bw 4 12), 2, none, 7, 0, [4, 12, 99, 0, 4, 11, 0, 14, 1, 5, 1], k_Reader_expect),
  (⟨"PairTree$Reader", "readNumber", "(II)I"⟩, (bw 3 212), 4, (some .int), 7, 0, [3, 212, 99, 0, 3, 211, 0, 10, 1, 5, 2], k_Reader_readNumber),
  (⟨"PairTree$Reader", "startLineOnce", "()V"⟩, (bw 3 207), 2, none, 7, 0, [3, 207, 99, 0, 3, 206, 0, 9, 1, 5, 0], k_Reader_startLineOnce),
  (⟨"PairTree$Reader", "readLevels", "()V"⟩, (bw 3 195), 1, none, 8, 0, [3, 195, 99, 0, 3, 194, 0, 7, 1, 5, 0], k_Reader_readLevels),
  (⟨"PairTree$Reader", "readRelation", "()V"⟩, (bw 3 216), 5, none, 331, 0, [3, 216, 99, 0, 3, 215, 0, 11, 1, 5, 0], k_Reader_readRelation),
  (⟨"PairTree$Reader", "readNewName", "()V"⟩, (bw 3 224), 1, none, 7, 0, [3, 224, 99, 0, 3, 223, 0, 12, 1, 5, 0], k_Reader_readNewName),
  (⟨"PairTree$Reader", "readPairs", "(LPairTree$Grid;)V"⟩, (bw 3 239), 6, none, 8, 0, [3, 239, 99, 0, 3, 238, 0, 13, 1, 5, 1], k_Reader_readPairs),
  (⟨"PairTree$Reader", "readJoined", "(I)V"⟩, (bw 4 16), 4, none, 10, 40, [4, 16, 99, 0, 4, 15, 0, 15, 1, 5, 1], k_Reader_readJoined),
  (⟨"PairTree$Reader", "isOrOrLess", "(I)Z"⟩, (bw 4 38), 1, (some .boolean), 1, 0, [4, 38, 4, 37, 99, 0, 99, 0, 1, 5, 1], k_Reader_isOrOrLess),
  (⟨"PairTree$Reader", "readMet", "(I)V"⟩, (bw 4 20), 4, none, 9, 40, [4, 20, 99, 0, 4, 19, 0, 16, 1, 5, 1], k_Reader_readMet),
  (⟨"PairTree$Reader", "isAndOrThen", "(I)Z"⟩, (bw 4 35), 1, (some .boolean), 1, 0, [4, 35, 4, 34, 99, 0, 99, 0, 1, 5, 1], k_Reader_isAndOrThen),
  (⟨"PairTree$Reader", "readOne", "(I)V"⟩, (bw 4 24), 2, none, 8, 40, [4, 24, 99, 0, 4, 23, 0, 17, 1, 5, 1], k_Reader_readOne),
  (⟨"PairTree$Reader", "readLeaf", "(I)V"⟩, (bw 4 32), 2, none, 7, 0, [4, 32, 99, 0, 4, 31, 0, 18, 1, 5, 1], k_Reader_readLeaf),
  (⟨"PairTree$Reader", "readOrs", "(I)V"⟩, (bw 4 48), 3, none, 15, 40, [4, 48, 99, 0, 4, 47, 0, 19, 1, 5, 1], k_Reader_readOrs),
  (⟨"PairTree$Reader", "readAnds", "(I)V"⟩, (bw 4 52), 3, none, 14, 40, [4, 52, 99, 0, 4, 51, 0, 20, 1, 5, 1], k_Reader_readAnds),
  (⟨"PairTree$Reader", "readNots", "(I)V"⟩, (bw 4 56), 2, none, 13, 40, [4, 56, 99, 0, 4, 55, 0, 21, 1, 5, 1], k_Reader_readNots),
  (⟨"PairTree$Reader", "readCompared", "(I)V"⟩, (bw 4 60), 3, none, 12, 40, [4, 60, 99, 0, 4, 59, 0, 22, 1, 5, 1], k_Reader_readCompared),
  (⟨"PairTree$Reader", "readSum", "(I)V"⟩, (bw 4 64), 4, none, 11, 40, [4, 64, 99, 0, 4, 63, 0, 23, 1, 5, 1], k_Reader_readSum)
  ]
noncomputable def pgl_3 : List Mth := [
  (⟨"PairTree$Reader", "readTerm", "(I)V"⟩, (bw 4 68), 4, none, 10, 40, [4, 68, 99, 0, 4, 67, 0, 24, 1, 5, 1], k_Reader_readTerm),
  (⟨"PairTree$Reader", "readUnit", "(I)V"⟩, (bw 4 72), 2, none, 9, 40, [4, 72, 99, 0, 4, 71, 0, 25, 1, 5, 1], k_Reader_readUnit),
  (⟨"PairTree$Reader", "readBracket", "(I)V"⟩, (bw 4 85), 2, none, 8, 40, [4, 85, 99, 0, 4, 84, 0, 26, 1, 5, 1], k_Reader_readBracket),
  (⟨"PairTree$Relations", "<init>", "()V"⟩, (bw 2 19), 2, none, 2, 0, [2, 19, 99, 0, 2, 18, 99, 0, 1, 11, 0], k_Relations_init),
  (⟨"PairTree$Relations", "begin", "(LPairTree$Plan;)V"⟩, (bw 2 208), 3, none, 6, 0, [2, 208, 99, 0, 2, 206, 2, 207, 1, 11, 1], k_Relations_begin),
  (⟨"PairTree$Relations", "countTold", "()I"⟩, (bw 6 109), 3, (some .int), 3, 0, [6, 109, 99, 0, 6, 107, 6, 108, 1, 11, 0], k_Relations_countTold),
  (⟨"PairTree$Relations", "turnAll", "(I[II)V"⟩, (bw 4 199), 5, none, 1, 0, [4, 199, 99, 0, 4, 197, 4, 198, 1, 11, 3], k_Relations_turnAll),
  (⟨"PairTree$Relations", "derive", "()V"⟩, (bw 2 219), 4, none, 5, 0, [2, 219, 99, 0, 2, 217, 2, 218, 1, 11, 0], k_Relations_derive),
  (⟨"PairTree$Relations", "openPart", "(II)I"⟩, (bw 2 223), 3, (some .int), 4, 0, [2, 223, 99, 0, 2, 222, 0, 1, 1, 11, 2], k_Relations_openPart),
  (⟨"PairTree$Relations", "workPart", "(II)I"⟩, (bw 3 12), 3, (some .int), 4, 0, [3, 12, 99, 0, 3, 11, 0, 2, 1, 11, 2], k_Relations_workPart),
  (⟨"PairTree$Scanner", "<init>", "()V"⟩, (bw 1 151), 4, none, 5, 0, [1, 151, 99, 0, 1, 150, 99, 0, 1, 6, 0], k_Scanner_init),
  (⟨"PairTree$Scanner", "begin", "([BI)V"⟩, (bw 3 108), 3, none, 7, 0, [3, 108, 99, 0, 3, 106, 3, 107, 1, 6, 2], k_Scanner_begin),
  (⟨"PairTree$Scanner", "halt", "()V"⟩, (bw 3 203), 1, none, 1, 0, [3, 203, 99, 0, 3, 201, 3, 202, 1, 6, 0], k_Scanner_halt),
  (⟨"PairTree$Scanner", "step", "()V"⟩, (bw 3 114), 1, none, 6, 0, [3, 114, 99, 0, 3, 112, 3, 113, 1, 6, 0], k_Scanner_step),
  (⟨"PairTree$Scanner", "readSign", "()V"⟩, (bw 3 135), 2, none, 5, 0, [3, 135, 99, 0, 3, 134, 0, 6, 1, 6, 0], k_Scanner_readSign),
  (⟨"PairTree$Scanner", "readWord", "()V"⟩, (bw 3 124), 4, none, 2, 0, [3, 124, 99, 0, 3, 123, 0, 4, 1, 6, 0], k_Scanner_readWord),
  (⟨"PairTree$Scanner", "readNumber", "()V"⟩, (bw 3 131), 4, none, 2, 0, [3, 131, 99, 0, 3, 130, 0, 5, 1, 6, 0], k_Scanner_readNumber),
  (⟨"PairTree$Scanner", "isBlank", "(I)Z"⟩, (bw 3 117), 1, (some .boolean), 1, 0, [3, 117, 3, 116, 99, 0, 99, 0, 1, 6, 1], k_Scanner_isBlank),
  (⟨"PairTree$Scanner", "isLetter", "(I)Z"⟩, (bw 3 120), 1, (some .boolean), 1, 0, [3, 120, 3, 119, 99, 0, 99, 0, 1, 6, 1], k_Scanner_isLetter),
  (⟨"PairTree$Scanner", "isDigit", "(I)Z"⟩, (bw 3 127), 1, (some .boolean), 1, 0, [3, 127, 3, 126, 99, 0, 99, 0, 1, 6, 1], k_Scanner_isDigit),
  (⟨"PairTree$Sightings", "<init>", "()V"⟩, (bw 2 101), 1, none, 2, 0, [2, 101, 99, 0, 2, 100, 99, 0, 1, 14, 0], k_Sightings_init),
  (⟨"PairTree$Sightings", "begin", "(LPairTree$Plan;LPairTree$Grid;)V"⟩, (bw 3 36), 3, none, 2, 0, [3, 36, 99, 0, 3, 34, 3, 35, 1, 14, 2], k_Sightings_begin),
  (⟨"PairTree$Sightings", "tell", "(IIIZ)I"⟩, (bw 6 40), 5, (some .int), 4, 0, [6, 40, 99, 0, 6, 38, 6, 39, 1, 14, 4], k_Sightings_tell),
  (⟨"PairTree$Sightings", "takeBack", "(I)Z"⟩, (bw 6 49), 2, (some .boolean), 1, 0, [6, 49, 99, 0, 6, 47, 6, 48, 1, 14, 1], k_Sightings_takeBack)
  ]
noncomputable def pgl_4 : List Mth := [
  (⟨"PairTree$Sightings", "gatherFits", "(I)V"⟩, (bw 6 66), 4, none, 4, 0, [6, 66, 99, 0, 6, 65, 0, 47, 1, 14, 1], k_Sightings_gatherFits),
  (⟨"PairTree$Sightings", "dropUnfit", "(I)V"⟩, (bw 6 71), 13, none, 2, 0, [6, 71, 99, 0, 6, 70, 0, 48, 1, 14, 1], k_Sightings_dropUnfit),
  (⟨"PairTree$Sightings", "fitsWith", "(II)Z"⟩, (bw 6 75), 3, (some .boolean), 1, 0, [6, 75, 99, 0, 6, 74, 0, 49, 1, 14, 2], k_Sightings_fitsWith),
  (⟨"PairTree$Sightings", "countFits", "(I)I"⟩, (bw 6 62), 2, (some .int), 5, 0, [6, 62, 99, 0, 6, 60, 6, 61, 1, 14, 1], k_Sightings_countFits),
  (⟨"PairTree$Sightings", "findFit", "(II)I"⟩, (bw 6 84), 4, (some .int), 5, 0, [6, 84, 99, 0, 6, 82, 6, 83, 1, 14, 2], k_Sightings_findFit),
  (⟨"PairTree$Sightings", "bestBlock", "(IIZ)I"⟩, (bw 6 93), 11, (some .int), 6, 0, [6, 93, 99, 0, 6, 91, 6, 92, 1, 14, 3], k_Sightings_bestBlock),
  (⟨"PairTree$Steps", "<init>", "()V"⟩, (bw 2 190), 1, none, 2, 0, [2, 190, 99, 0, 2, 189, 99, 0, 1, 16, 0], k_Steps_init),
  (⟨"PairTree$Steps", "allFrom", "(LPairTree$Grid;I)I"⟩, (bw 5 173), 5, (some .int), 2, 0, [5, 173, 99, 0, 5, 171, 5, 172, 1, 16, 2], k_Steps_allFrom),
  (⟨"PairTree$Steps", "fewest", "(LPairTree$Grid;II)I"⟩, (bw 5 182), 6, (some .int), 2, 0, [5, 182, 99, 0, 5, 180, 5, 181, 1, 16, 3], k_Steps_fewest),
  (⟨"PairTree$Steps", "bothWays", "(LPairTree$Grid;I)I"⟩, (bw 5 190), 3, (some .int), 4, 0, [5, 190, 99, 0, 5, 188, 5, 189, 1, 16, 2], k_Steps_bothWays),
  (⟨"PairTree$Steps", "countClosure", "(LPairTree$Grid;)I"⟩, (bw 5 200), 2, (some .int), 5, 0, [5, 200, 99, 0, 5, 198, 5, 199, 1, 16, 1], k_Steps_countClosure),
  (⟨"PairTree$Steps", "countGoes", "(LPairTree$Grid;)I"⟩, (bw 5 219), 2, (some .int), 5, 0, [5, 219, 99, 0, 5, 217, 5, 218, 1, 16, 1], k_Steps_countGoes),
  (⟨"PairTree$Steps", "settle", "(LPairTree$Grid;)I"⟩, (bw 5 204), 5, (some .int), 4, 0, [5, 204, 99, 0, 5, 203, 0, 45, 1, 16, 1], k_Steps_settle),
  (⟨"PairTree$Steps", "countSets", "(LPairTree$Grid;)I"⟩, (bw 5 227), 5, (some .int), 4, 0, [5, 227, 99, 0, 5, 225, 5, 226, 1, 16, 1], k_Steps_countSets),
  (⟨"PairTree$Tree", "<init>", "()V"⟩, (bw 2 161), 2, none, 2, 0, [2, 161, 99, 0, 2, 160, 99, 0, 1, 15, 0], k_Tree_init),
  (⟨"PairTree$Tree", "grow", "(LPairTree$Grid;I)V"⟩, (bw 4 119), 4, none, 4, 0, [4, 119, 99, 0, 4, 117, 4, 118, 1, 15, 2], k_Tree_grow),
  (⟨"PairTree$Tree", "filledOn", "(I)LPairTree$Grid;"⟩, (bw 5 29), 2, (some (.object "PairTree$Grid")), 1, 0, [5, 29, 99, 0, 5, 27, 5, 28, 1, 15, 1], k_Tree_filledOn),
  (⟨"PairTree$Tree", "countBits", "()I"⟩, (bw 4 130), 3, (some .int), 3, 0, [4, 130, 99, 0, 4, 128, 4, 129, 1, 15, 0], k_Tree_countBits),
  (⟨"PairTree$Tree", "layBits", "()V"⟩, (bw 5 13), 2, none, 4, 0, [5, 13, 99, 0, 5, 11, 5, 12, 1, 15, 0], k_Tree_layBits),
  (⟨"PairTree$Tree", "layQuarters", "(III)V"⟩, (bw 5 17), 5, none, 1, 0, [5, 17, 99, 0, 5, 16, 0, 39, 1, 15, 3], k_Tree_layQuarters),
  (⟨"PairTree$Tree", "isLaid", "(I)Z"⟩, (bw 5 25), 2, (some .boolean), 1, 0, [5, 25, 99, 0, 5, 24, 0, 40, 1, 15, 1], k_Tree_isLaid),
  (⟨"PairTree$Tree", "bitAt", "(I)I"⟩, (bw 5 21), 2, (some .int), 3, 0, [5, 21, 99, 0, 5, 19, 5, 20, 1, 15, 1], k_Tree_bitAt),
  (⟨"PairTree$Tree", "rankAt", "(I)I"⟩, (bw 5 39), 4, (some .int), 4, 0, [5, 39, 99, 0, 5, 37, 5, 38, 1, 15, 1], k_Tree_rankAt),
  (⟨"PairTree$Tree", "levelAt", "(I)I"⟩, (bw 5 47), 2, (some .int), 2, 0, [5, 47, 99, 0, 5, 45, 5, 46, 1, 15, 1], k_Tree_levelAt)
  ]
noncomputable def pgl_5 : List Mth := [
  (⟨"PairTree$Tree", "firstRowAt", "(I)I"⟩, (bw 5 55), 2, (some .int), 2, 0, [5, 55, 99, 0, 5, 53, 5, 54, 1, 15, 1], k_Tree_firstRowAt),
  (⟨"PairTree$Tree", "firstColumnAt", "(I)I"⟩, (bw 5 59), 2, (some .int), 2, 0, [5, 59, 99, 0, 5, 57, 5, 58, 1, 15, 1], k_Tree_firstColumnAt),
  (⟨"PairTree$Tree", "countBitsIn", "(IIII)I"⟩, (bw 5 101), 10, (some .int), 3, 0, [5, 101, 99, 0, 5, 99, 5, 100, 1, 15, 4], k_Tree_countBitsIn),
  (⟨"PairTree$Tree", "walkBeside", "(LPairTree$Tree;)I"⟩, (bw 5 115), 7, (some .int), 2, 0, [5, 115, 99, 0, 5, 113, 5, 114, 1, 15, 1], k_Tree_walkBeside),
  (⟨"PairTree$Tree", "multiplyBy", "(LPairTree$Tree;)I"⟩, (bw 5 124), 7, (some .int), 2, 0, [5, 124, 99, 0, 5, 122, 5, 123, 1, 15, 1], k_Tree_multiplyBy),
  (⟨"PairTree", "<init>", "()V"⟩, (bw 1 27), 2, none, 8, 0, [1, 27, 99, 0, 1, 26, 99, 0, 1, 1, 0], k_PT_init),
  (⟨"PairTree", "feed", "(IIIII)I"⟩, (bw 3 87), 6, (some .int), 2, 0, [3, 87, 99, 0, 3, 85, 3, 86, 1, 1, 5], k_PT_feed),
  (⟨"PairTree", "layBytes", "(I)V"⟩, (bw 3 91), 3, none, 1, 0, [3, 91, 99, 0, 3, 90, 0, 3, 1, 1, 1], k_PT_layBytes),
  (⟨"PairTree", "end", "(I)I"⟩, (bw 3 95), 2, (some .int), 1, 0, [3, 95, 99, 0, 3, 93, 3, 94, 1, 1, 1], k_PT_end),
  (⟨"PairTree", "store", "()I"⟩, (bw 3 99), 3, (some .int), 337, 0, [3, 99, 99, 0, 3, 97, 3, 98, 1, 1, 0], k_PT_store),
  (⟨"PairTree", "startAnew", "()V"⟩, (bw 2 204), 2, none, 7, 0, [2, 204, 99, 0, 2, 203, 0, 0, 1, 1, 0], k_PT_startAnew),
  (⟨"PairTree", "fault", "(I)I"⟩, (bw 4 89), 2, (some .int), 1, 0, [4, 89, 99, 0, 4, 87, 4, 88, 1, 1, 1], k_PT_fault),
  (⟨"PairTree", "isRelation", "(I)Z"⟩, (bw 4 97), 2, (some .boolean), 1, 0, [4, 97, 99, 0, 4, 96, 0, 27, 1, 1, 1], k_PT_isRelation),
  (⟨"PairTree", "areRelations", "(II)Z"⟩, (bw 4 216), 3, (some .boolean), 2, 0, [4, 216, 99, 0, 4, 215, 0, 36, 1, 1, 2], k_PT_areRelations),
  (⟨"PairTree", "isToldOne", "(I)Z"⟩, (bw 4 178), 2, (some .boolean), 2, 0, [4, 178, 99, 0, 4, 177, 0, 32, 1, 1, 1], k_PT_isToldOne),
  (⟨"PairTree", "isNode", "(I)Z"⟩, (bw 4 166), 2, (some .boolean), 2, 0, [4, 166, 99, 0, 4, 165, 0, 30, 1, 1, 1], k_PT_isNode),
  (⟨"PairTree", "isLevel", "(I)Z"⟩, (bw 5 67), 2, (some .boolean), 1, 0, [5, 67, 99, 0, 5, 66, 0, 41, 1, 1, 1], k_PT_isLevel),
  (⟨"PairTree", "isRectangle", "(IIII)Z"⟩, (bw 5 89), 5, (some .boolean), 3, 0, [5, 89, 99, 0, 5, 88, 0, 43, 1, 1, 4], k_PT_isRectangle),
  (⟨"PairTree", "relation", "(II)I"⟩, (bw 4 93), 4, (some .int), 6, 0, [4, 93, 99, 0, 4, 91, 4, 92, 1, 1, 2], k_PT_relation),
  (⟨"PairTree", "bitsOf", "(LPairTree$Grid;)I"⟩, (bw 4 115), 2, (some .int), 5, 0, [4, 115, 99, 0, 4, 114, 0, 28, 1, 1, 1], k_PT_bitsOf),
  (⟨"PairTree", "has", "(III)I"⟩, (bw 4 162), 4, (some .int), 3, 0, [4, 162, 99, 0, 4, 160, 4, 161, 1, 1, 3], k_PT_has),
  (⟨"PairTree", "put", "(III)I"⟩, (bw 4 170), 4, (some .int), 8, 0, [4, 170, 99, 0, 4, 168, 4, 169, 1, 1, 3], k_PT_put),
  (⟨"PairTree", "take", "(III)I"⟩, (bw 4 204), 4, (some .int), 8, 0, [4, 204, 99, 0, 4, 202, 4, 203, 1, 1, 3], k_PT_take),
  (⟨"PairTree", "turnPair", "(IIII)I"⟩, (bw 4 174), 5, (some .int), 7, 0, [4, 174, 99, 0, 4, 173, 0, 31, 1, 1, 4], k_PT_turnPair)
  ]
noncomputable def pgl_6 : List Mth := [
  (⟨"PairTree", "become", "(IIII)I"⟩, (bw 4 208), 5, (some .int), 7, 0, [4, 208, 99, 0, 4, 206, 4, 207, 1, 1, 4], k_PT_become),
  (⟨"PairTree", "makeOfTwo", "(III)Z"⟩, (bw 4 212), 4, (some .boolean), 4, 0, [4, 212, 99, 0, 4, 211, 0, 35, 1, 1, 3], k_PT_makeOfTwo),
  (⟨"PairTree", "sift", "(I)I"⟩, (bw 4 221), 3, (some .int), 7, 0, [4, 221, 99, 0, 4, 219, 4, 220, 1, 1, 1], k_PT_sift),
  (⟨"PairTree", "siftInto", "(LPairTree$Grid;LPairTree$Grid;)V"⟩, (bw 4 136), 6, none, 3, 0, [4, 136, 99, 0, 4, 135, 0, 29, 1, 1, 2], k_PT_siftInto),
  (⟨"PairTree", "drift", "()I"⟩, (bw 4 225), 3, (some .int), 7, 0, [4, 225, 99, 0, 4, 223, 4, 224, 1, 1, 0], k_PT_drift),
  (⟨"PairTree", "driftsTo", "(I)I"⟩, (bw 4 229), 3, (some .int), 2, 0, [4, 229, 99, 0, 4, 228, 0, 37, 1, 1, 1], k_PT_driftsTo),
  (⟨"PairTree", "perform", "(ILPairTree$Grid;I)V"⟩, (bw 4 183), 4, none, 6, 0, [4, 183, 99, 0, 4, 182, 0, 33, 1, 1, 3], k_PT_perform),
  (⟨"PairTree", "undo", "()Z"⟩, (bw 4 233), 2, (some .boolean), 6, 0, [4, 233, 99, 0, 4, 231, 4, 232, 1, 1, 0], k_PT_undo),
  (⟨"PairTree", "redo", "()Z"⟩, (bw 5 1), 2, (some .boolean), 6, 0, [5, 1, 99, 0, 4, 239, 5, 0, 1, 1, 0], k_PT_redo),
  (⟨"PairTree", "bit", "(II)I"⟩, (bw 5 5), 3, (some .int), 6, 0, [5, 5, 99, 0, 5, 3, 5, 4, 1, 1, 2], k_PT_bit),
  (⟨"PairTree", "rank", "(II)I"⟩, (bw 5 35), 3, (some .int), 6, 0, [5, 35, 99, 0, 5, 33, 5, 34, 1, 1, 2], k_PT_rank),
  (⟨"PairTree", "child", "(III)I"⟩, (bw 5 43), 4, (some .int), 6, 0, [5, 43, 99, 0, 5, 41, 5, 42, 1, 1, 3], k_PT_child),
  (⟨"PairTree", "place", "(III)I"⟩, (bw 5 51), 4, (some .int), 6, 0, [5, 51, 99, 0, 5, 49, 5, 50, 1, 1, 3], k_PT_place),
  (⟨"PairTree", "isBit", "(II)Z"⟩, (bw 5 9), 3, (some .boolean), 5, 0, [5, 9, 99, 0, 5, 8, 0, 38, 1, 1, 2], k_PT_isBit),
  (⟨"PairTree", "blocks", "(II)I"⟩, (bw 5 63), 3, (some .int), 5, 0, [5, 63, 99, 0, 5, 61, 5, 62, 1, 1, 2], k_PT_blocks),
  (⟨"PairTree", "row", "(II)I"⟩, (bw 5 72), 3, (some .int), 3, 0, [5, 72, 99, 0, 5, 70, 5, 71, 1, 1, 2], k_PT_row),
  (⟨"PairTree", "column", "(II)I"⟩, (bw 5 80), 3, (some .int), 3, 0, [5, 80, 99, 0, 5, 78, 5, 79, 1, 1, 2], k_PT_column),
  (⟨"PairTree", "layNodes", "(I)V"⟩, (bw 5 76), 3, none, 1, 0, [5, 76, 99, 0, 5, 75, 0, 42, 1, 1, 1], k_PT_layNodes),
  (⟨"PairTree", "rect", "(IIIII)I"⟩, (bw 5 85), 6, (some .int), 4, 0, [5, 85, 99, 0, 5, 83, 5, 84, 1, 1, 5], k_PT_rect),
  (⟨"PairTree", "looks", "(IIIII)I"⟩, (bw 5 97), 6, (some .int), 5, 0, [5, 97, 99, 0, 5, 95, 5, 96, 1, 1, 5], k_PT_looks),
  (⟨"PairTree", "walks", "(II)I"⟩, (bw 5 107), 3, (some .int), 6, 0, [5, 107, 99, 0, 5, 105, 5, 106, 1, 1, 2], k_PT_walks),
  (⟨"PairTree", "products", "(II)I"⟩, (bw 5 120), 3, (some .int), 6, 0, [5, 120, 99, 0, 5, 118, 5, 119, 1, 1, 2], k_PT_products),
  (⟨"PairTree", "growBoth", "(II)Z"⟩, (bw 5 111), 3, (some .boolean), 5, 0, [5, 111, 99, 0, 5, 110, 0, 44, 1, 1, 2], k_PT_growBoth),
  (⟨"PairTree", "would", "(IIII)I"⟩, (bw 5 129), 5, (some .int), 6, 0, [5, 129, 99, 0, 5, 127, 5, 128, 1, 1, 4], k_PT_would)
  ]
noncomputable def pgl_7 : List Mth := [
  (⟨"PairTree", "pair", "(III)I"⟩, (bw 5 133), 5, (some .int), 4, 0, [5, 133, 99, 0, 5, 131, 5, 132, 1, 1, 3], k_PT_pair),
  (⟨"PairTree", "unlike", "(II)I"⟩, (bw 5 142), 4, (some .int), 4, 0, [5, 142, 99, 0, 5, 140, 5, 141, 1, 1, 2], k_PT_unlike),
  (⟨"PairTree", "within", "(II)I"⟩, (bw 5 146), 3, (some .int), 4, 0, [5, 146, 99, 0, 5, 144, 5, 145, 1, 1, 2], k_PT_within),
  (⟨"PairTree", "busiest", "(II)I"⟩, (bw 5 150), 8, (some .int), 2, 0, [5, 150, 99, 0, 5, 148, 5, 149, 1, 1, 2], k_PT_busiest),
  (⟨"PairTree", "densest", "(III)I"⟩, (bw 5 155), 9, (some .int), 5, 0, [5, 155, 99, 0, 5, 153, 5, 154, 1, 1, 3], k_PT_densest),
  (⟨"PairTree", "reached", "(II)I"⟩, (bw 5 169), 3, (some .int), 3, 0, [5, 169, 99, 0, 5, 167, 5, 168, 1, 1, 2], k_PT_reached),
  (⟨"PairTree", "far", "(III)I"⟩, (bw 5 178), 4, (some .int), 3, 0, [5, 178, 99, 0, 5, 176, 5, 177, 1, 1, 3], k_PT_far),
  (⟨"PairTree", "mutual", "(II)I"⟩, (bw 5 186), 3, (some .int), 5, 0, [5, 186, 99, 0, 5, 184, 5, 185, 1, 1, 2], k_PT_mutual),
  (⟨"PairTree", "closure", "(I)I"⟩, (bw 5 196), 2, (some .int), 6, 0, [5, 196, 99, 0, 5, 194, 5, 195, 1, 1, 1], k_PT_closure),
  (⟨"PairTree", "settles", "(I)I"⟩, (bw 5 215), 2, (some .int), 6, 0, [5, 215, 99, 0, 5, 213, 5, 214, 1, 1, 1], k_PT_settles),
  (⟨"PairTree", "parts", "(I)I"⟩, (bw 5 223), 2, (some .int), 5, 0, [5, 223, 99, 0, 5, 221, 5, 222, 1, 1, 1], k_PT_parts),
  (⟨"PairTree", "is", "(II)I"⟩, (bw 5 231), 3, (some .int), 5, 0, [5, 231, 99, 0, 5, 229, 5, 230, 1, 1, 2], k_PT_is),
  (⟨"PairTree", "holdsFor", "(LPairTree$Grid;I)Z"⟩, (bw 5 235), 3, (some .boolean), 4, 0, [5, 235, 99, 0, 5, 234, 0, 46, 1, 1, 2], k_PT_holdsFor),
  (⟨"PairTree", "law", "(II)I"⟩, (bw 6 20), 4, (some .int), 6, 0, [6, 20, 99, 0, 6, 18, 6, 19, 1, 1, 2], k_PT_law),
  (⟨"PairTree", "odds", "(II)I"⟩, (bw 6 24), 6, (some .int), 2, 0, [6, 24, 99, 0, 6, 22, 6, 23, 1, 1, 2], k_PT_odds),
  (⟨"PairTree", "commonDivisor", "(II)I"⟩, (bw 6 27), 6, (some .int), 1, 0, [6, 27, 6, 26, 99, 0, 99, 0, 1, 1, 2], k_PT_commonDivisor),
  (⟨"PairTree", "lies", "(I)I"⟩, (bw 6 32), 2, (some .int), 1, 0, [6, 32, 99, 0, 6, 30, 6, 31, 1, 1, 1], k_PT_lies),
  (⟨"PairTree", "seen", "(IIIZ)I"⟩, (bw 6 36), 5, (some .int), 5, 0, [6, 36, 99, 0, 6, 34, 6, 35, 1, 1, 4], k_PT_seen),
  (⟨"PairTree", "untell", "(I)Z"⟩, (bw 6 45), 2, (some .boolean), 2, 0, [6, 45, 99, 0, 6, 43, 6, 44, 1, 1, 1], k_PT_untell),
  (⟨"PairTree", "later", "(I)I"⟩, (bw 6 53), 2, (some .int), 1, 0, [6, 53, 99, 0, 6, 51, 6, 52, 1, 1, 1], k_PT_later),
  (⟨"PairTree", "fits", "(I)I"⟩, (bw 6 58), 2, (some .int), 6, 0, [6, 58, 99, 0, 6, 56, 6, 57, 1, 1, 1], k_PT_fits),
  (⟨"PairTree", "fit", "(II)I"⟩, (bw 6 80), 3, (some .int), 6, 0, [6, 80, 99, 0, 6, 78, 6, 79, 1, 1, 2], k_PT_fit),
  (⟨"PairTree", "ask", "(III)I"⟩, (bw 6 89), 4, (some .int), 7, 0, [6, 89, 99, 0, 6, 87, 6, 88, 1, 1, 3], k_PT_ask),
  (⟨"PairTree", "image", "(I)I"⟩, (bw 6 100), 2, (some .int), 4, 0, [6, 100, 99, 0, 6, 98, 6, 99, 1, 1, 1], k_PT_image)
  ]
noncomputable def pgl_8 : List Mth := [
  (⟨"PairTree", "back", "(I)I"⟩, (bw 6 115), 2, (some .int), 4, 0, [6, 115, 99, 0, 6, 113, 6, 114, 1, 1, 1], k_PT_back),
  (⟨"PairTree", "about", "(I)I"⟩, (bw 6 123), 2, (some .int), 4, 0, [6, 123, 99, 0, 6, 121, 6, 122, 1, 1, 1], k_PT_about),
  (⟨"PairTreeModel", "<init>", "()V"⟩, (bw 6 128), 1, none, 1, 0, [6, 128, 99, 0, 6, 127, 99, 0, 1, 20, 0], k_Mo_init),
  (⟨"PairTreeModel", "isIn", "(III)Z"⟩, (bw 7 97), 3, (some .boolean), 1, 0, [7, 97, 7, 96, 99, 0, 99, 0, 1, 20, 3], k_Mo_isIn),
  (⟨"PairTreeModel", "isOf", "(II)Z"⟩, (bw 8 72), 2, (some .boolean), 1, 0, [8, 72, 8, 71, 99, 0, 99, 0, 1, 20, 2], k_Mo_isOf),
  (⟨"PairTreeModel", "bitsIn", "(I)I"⟩, (bw 8 92), 3, (some .int), 1, 0, [8, 92, 8, 91, 99, 0, 99, 0, 1, 20, 1], k_Mo_bitsIn),
  (⟨"PairTreeModel", "feed", "(IIIII)I"⟩, (bw 7 86), 6, (some .int), 2, 0, [7, 86, 99, 0, 7, 84, 7, 85, 1, 20, 5], k_Mo_feed),
  (⟨"PairTreeModel", "four", "(I)V"⟩, (bw 7 90), 3, none, 1, 0, [7, 90, 99, 0, 7, 89, 0, 50, 1, 20, 1], k_Mo_four),
  (⟨"PairTreeModel", "end", "(I)I"⟩, (bw 7 94), 2, (some .int), 2, 0, [7, 94, 99, 0, 7, 92, 7, 93, 1, 20, 1], k_Mo_end),
  (⟨"PairTreeModel", "here", "(I)I"⟩, (bw 7 113), 2, (some .int), 1, 0, [7, 113, 99, 0, 7, 112, 0, 53, 1, 20, 1], k_Mo_here),
  (⟨"PairTreeModel", "isLetter", "(I)Z"⟩, (bw 7 116), 1, (some .boolean), 1, 0, [7, 116, 7, 115, 99, 0, 99, 0, 1, 20, 1], k_Mo_isLetter),
  (⟨"PairTreeModel", "isDigit", "(I)Z"⟩, (bw 7 119), 1, (some .boolean), 1, 0, [7, 119, 7, 118, 99, 0, 99, 0, 1, 20, 1], k_Mo_isDigit),
  (⟨"PairTreeModel", "isSign", "(I)Z"⟩, (bw 7 122), 1, (some .boolean), 1, 0, [7, 122, 7, 121, 99, 0, 99, 0, 1, 20, 1], k_Mo_isSign),
  (⟨"PairTreeModel", "goOn", "()V"⟩, (bw 7 109), 2, none, 2, 0, [7, 109, 99, 0, 7, 108, 0, 52, 1, 20, 0], k_Mo_goOn),
  (⟨"PairTreeModel", "wrong", "(I)V"⟩, (bw 7 143), 2, none, 1, 0, [7, 143, 99, 0, 7, 142, 0, 58, 1, 20, 1], k_Mo_wrong),
  (⟨"PairTreeModel", "isGood", "()Z"⟩, (bw 7 126), 1, (some .boolean), 1, 0, [7, 126, 99, 0, 7, 125, 0, 54, 1, 20, 0], k_Mo_isGood),
  (⟨"PairTreeModel", "isWord", "(J)Z"⟩, (bw 7 135), 3, (some .boolean), 1, 0, [7, 135, 99, 0, 7, 134, 0, 56, 1, 20, 1], k_Mo_isWord),
  (⟨"PairTreeModel", "isOwn", "()Z"⟩, (bw 7 152), 1, (some .boolean), 1, 0, [7, 152, 99, 0, 7, 151, 0, 60, 1, 20, 0], k_Mo_isOwn),
  (⟨"PairTreeModel", "takes", "(J)Z"⟩, (bw 7 176), 3, (some .boolean), 3, 0, [7, 176, 99, 0, 7, 175, 0, 62, 1, 20, 1], k_Mo_takes),
  (⟨"PairTreeModel", "isMark", "(I)Z"⟩, (bw 7 200), 2, (some .boolean), 1, 0, [7, 200, 99, 0, 7, 199, 0, 68, 1, 20, 1], k_Mo_isMark),
  (⟨"PairTreeModel", "needsMark", "(I)V"⟩, (bw 8 26), 2, none, 3, 0, [8, 26, 99, 0, 8, 25, 0, 83, 1, 20, 1], k_Mo_needsMark),
  (⟨"PairTreeModel", "number", "(II)I"⟩, (bw 7 139), 4, (some .int), 3, 0, [7, 139, 99, 0, 7, 138, 0, 57, 1, 20, 2], k_Mo_number),
  (⟨"PairTreeModel", "sizeOf", "(I)I"⟩, (bw 7 184), 2, (some .int), 1, 0, [7, 184, 99, 0, 7, 183, 0, 64, 1, 20, 1], k_Mo_sizeOf),
  (⟨"PairTreeModel", "relNamed", "(J)I"⟩, (bw 7 172), 4, (some .int), 1, 0, [7, 172, 99, 0, 7, 171, 0, 61, 1, 20, 1], k_Mo_relNamed)
  ]
noncomputable def pgl_9 : List Mth := [
  (⟨"PairTreeModel", "lays", "(I)V"⟩, (bw 7 208), 2, none, 1, 0, [7, 208, 99, 0, 7, 207, 0, 70, 1, 20, 1], k_Mo_lays1),
  (⟨"PairTreeModel", "openUp", "(I)V"⟩, (bw 7 196), 2, none, 3, 0, [7, 196, 99, 0, 7, 195, 0, 67, 1, 20, 1], k_Mo_openUp),
  (⟨"PairTreeModel", "tightOf", "(I)I"⟩, (bw 7 219), 1, (some .int), 1, 0, [7, 219, 7, 218, 99, 0, 99, 0, 1, 20, 1], k_Mo_tightOf),
  (⟨"PairTreeModel", "closesTo", "(I)V"⟩, (bw 7 223), 2, none, 2, 0, [7, 223, 99, 0, 7, 222, 0, 73, 1, 20, 1], k_Mo_closesTo),
  (⟨"PairTreeModel", "turnsDone", "()V"⟩, (bw 7 212), 1, none, 2, 0, [7, 212, 99, 0, 7, 211, 0, 71, 1, 20, 0], k_Mo_turnsDone),
  (⟨"PairTreeModel", "hasBracket", "()Z"⟩, (bw 7 227), 3, (some .boolean), 1, 0, [7, 227, 99, 0, 7, 226, 0, 74, 1, 20, 0], k_Mo_hasBracket),
  (⟨"PairTreeModel", "z", "()V"⟩, (bw 7 192), 2, none, 4, 0, [7, 192, 99, 0, 7, 191, 0, 66, 1, 20, 0], k_Mo_z),
  (⟨"PairTreeModel", "leaf", "()V"⟩, (bw 7 204), 3, none, 3, 0, [7, 204, 99, 0, 7, 203, 0, 69, 1, 20, 0], k_Mo_leaf),
  (⟨"PairTreeModel", "joinHere", "()I"⟩, (bw 7 216), 1, (some .int), 2, 0, [7, 216, 99, 0, 7, 215, 0, 72, 1, 20, 0], k_Mo_joinHere),
  (⟨"PairTreeModel", "x", "()V"⟩, (bw 7 188), 3, none, 5, 0, [7, 188, 99, 0, 7, 187, 0, 65, 1, 20, 0], k_Mo_x),
  (⟨"PairTreeModel", "keepLays", "(I)V"⟩, (bw 8 10), 2, none, 1, 0, [8, 10, 99, 0, 8, 9, 0, 79, 1, 20, 1], k_Mo_keepLays),
  (⟨"PairTreeModel", "boundOf", "(I)I"⟩, (bw 8 2), 1, (some .int), 1, 0, [8, 2, 8, 1, 99, 0, 99, 0, 1, 20, 1], k_Mo_boundOf),
  (⟨"PairTreeModel", "formulaCloses", "(I)V"⟩, (bw 8 18), 2, none, 2, 0, [8, 18, 99, 0, 8, 17, 0, 81, 1, 20, 1], k_Mo_formulaCloses),
  (⟨"PairTreeModel", "hasRelation", "()Z"⟩, (bw 8 22), 2, (some .boolean), 2, 0, [8, 22, 99, 0, 8, 21, 0, 82, 1, 20, 0], k_Mo_hasRelation),
  (⟨"PairTreeModel", "mayNot", "()Z"⟩, (bw 7 239), 1, (some .boolean), 2, 0, [7, 239, 99, 0, 7, 238, 0, 77, 1, 20, 0], k_Mo_mayNot),
  (⟨"PairTreeModel", "isFull", "()Z"⟩, (bw 8 6), 1, (some .boolean), 1, 0, [8, 6, 99, 0, 8, 5, 0, 78, 1, 20, 0], k_Mo_isFull),
  (⟨"PairTreeModel", "unit", "()V"⟩, (bw 7 235), 3, none, 4, 0, [7, 235, 99, 0, 7, 234, 0, 76, 1, 20, 0], k_Mo_unit),
  (⟨"PairTreeModel", "signHere", "()I"⟩, (bw 8 14), 1, (some .int), 2, 0, [8, 14, 99, 0, 8, 13, 0, 80, 1, 20, 0], k_Mo_signHere),
  (⟨"PairTreeModel", "formula", "()V"⟩, (bw 7 231), 3, none, 5, 0, [7, 231, 99, 0, 7, 230, 0, 75, 1, 20, 0], k_Mo_formula),
  (⟨"PairTreeModel", "pairs", "(I)V"⟩, (bw 7 180), 5, none, 4, 0, [7, 180, 99, 0, 7, 179, 0, 63, 1, 20, 1], k_Mo_pairs),
  (⟨"PairTreeModel", "relation", "()V"⟩, (bw 7 148), 5, none, 6, 0, [7, 148, 99, 0, 7, 147, 0, 59, 1, 20, 0], k_Mo_relation1),
  (⟨"PairTreeModel", "line", "()V"⟩, (bw 7 130), 1, none, 7, 0, [7, 130, 99, 0, 7, 129, 0, 55, 1, 20, 0], k_Mo_line),
  (⟨"PairTreeModel", "readAll", "()V"⟩, (bw 7 105), 1, none, 8, 0, [7, 105, 99, 0, 7, 104, 0, 51, 1, 20, 0], k_Mo_readAll),
  (⟨"PairTreeModel", "takesHalf", "([I)V"⟩, (bw 8 29), 3, none, 1, 0, [8, 29, 8, 28, 99, 0, 99, 0, 1, 20, 1], k_Mo_takesHalf)
  ]
noncomputable def pgl_10 : List Mth := [
  (⟨"PairTreeModel", "store", "()I"⟩, (bw 7 101), 2, (some .int), 9, 0, [7, 101, 99, 0, 7, 99, 7, 100, 1, 20, 0], k_Mo_store),
  (⟨"PairTreeModel", "fault", "(I)I"⟩, (bw 8 33), 2, (some .int), 1, 0, [8, 33, 99, 0, 8, 31, 8, 32, 1, 20, 1], k_Mo_fault),
  (⟨"PairTreeModel", "wide", "()I"⟩, (bw 8 65), 1, (some .int), 1, 0, [8, 65, 99, 0, 8, 64, 0, 90, 1, 20, 0], k_Mo_wide),
  (⟨"PairTreeModel", "everyBit", "()I"⟩, (bw 8 61), 1, (some .int), 2, 0, [8, 61, 99, 0, 8, 60, 0, 89, 1, 20, 0], k_Mo_everyBit),
  (⟨"PairTreeModel", "isRel", "(I)Z"⟩, (bw 8 45), 2, (some .boolean), 2, 0, [8, 45, 99, 0, 8, 44, 0, 85, 1, 20, 1], k_Mo_isRel),
  (⟨"PairTreeModel", "isNode", "(I)Z"⟩, (bw 8 121), 2, (some .boolean), 2, 0, [8, 121, 99, 0, 8, 120, 0, 97, 1, 20, 1], k_Mo_isNode),
  (⟨"PairTreeModel", "pushes", "(I)V"⟩, (bw 8 57), 4, none, 3, 0, [8, 57, 99, 0, 8, 56, 0, 88, 1, 20, 1], k_Mo_pushes),
  (⟨"PairTreeModel", "through", "(I[II)I"⟩, (bw 8 75), 5, (some .int), 2, 0, [8, 75, 8, 74, 99, 0, 99, 0, 1, 20, 3], k_Mo_through),
  (⟨"PairTreeModel", "turnsBack", "([II)V"⟩, (bw 8 69), 5, none, 2, 0, [8, 69, 99, 0, 8, 68, 0, 91, 1, 20, 2], k_Mo_turnsBack),
  (⟨"PairTreeModel", "joined", "(III)I"⟩, (bw 8 78), 3, (some .int), 1, 0, [8, 78, 8, 77, 99, 0, 99, 0, 1, 20, 3], k_Mo_joined),
  (⟨"PairTreeModel", "works", "(I)V"⟩, (bw 8 53), 5, none, 4, 0, [8, 53, 99, 0, 8, 52, 0, 87, 1, 20, 1], k_Mo_works),
  (⟨"PairTreeModel", "lays", "()V"⟩, (bw 8 49), 3, none, 5, 0, [8, 49, 99, 0, 8, 48, 0, 86, 1, 20, 0], k_Mo_lays2),
  (⟨"PairTreeModel", "manyIn", "([II)I"⟩, (bw 8 95), 4, (some .int), 2, 0, [8, 95, 8, 94, 99, 0, 99, 0, 1, 20, 2], k_Mo_manyIn),
  (⟨"PairTreeModel", "pairsAll", "()I"⟩, (bw 9 136), 3, (some .int), 3, 0, [9, 136, 99, 0, 9, 135, 0, 118, 1, 20, 0], k_Mo_pairsAll),
  (⟨"PairTreeModel", "inBlock", "([IIIII)I"⟩, (bw 8 89), 8, (some .int), 2, 0, [8, 89, 8, 88, 99, 0, 99, 0, 1, 20, 5], k_Mo_inBlock),
  (⟨"PairTreeModel", "laysQuarters", "([IIIII)V"⟩, (bw 8 86), 8, none, 3, 0, [8, 86, 99, 0, 8, 85, 0, 93, 1, 20, 5], k_Mo_laysQuarters),
  (⟨"PairTreeModel", "laysTree", "([II)V"⟩, (bw 8 82), 4, none, 4, 0, [8, 82, 99, 0, 8, 81, 0, 92, 1, 20, 2], k_Mo_laysTree),
  (⟨"PairTreeModel", "laysRel", "(I)Z"⟩, (bw 8 41), 2, (some .boolean), 6, 0, [8, 41, 99, 0, 8, 40, 0, 84, 1, 20, 1], k_Mo_laysRel),
  (⟨"PairTreeModel", "laysTwo", "(II)Z"⟩, (bw 8 160), 3, (some .boolean), 6, 0, [8, 160, 99, 0, 8, 159, 0, 101, 1, 20, 2], k_Mo_laysTwo),
  (⟨"PairTreeModel", "truth", "(Z)I"⟩, (bw 8 106), 1, (some .int), 1, 0, [8, 106, 8, 105, 99, 0, 99, 0, 1, 20, 1], k_Mo_truth),
  (⟨"PairTreeModel", "done", "(III)I"⟩, (bw 8 109), 3, (some .int), 2, 0, [8, 109, 8, 108, 99, 0, 99, 0, 1, 20, 3], k_Mo_done),
  (⟨"PairTreeModel", "keptBy", "(III)I"⟩, (bw 8 103), 7, (some .int), 3, 0, [8, 103, 99, 0, 8, 102, 0, 95, 1, 20, 3], k_Mo_keptBy),
  (⟨"PairTreeModel", "sifts", "(I)V"⟩, (bw 8 99), 5, none, 4, 0, [8, 99, 99, 0, 8, 98, 0, 94, 1, 20, 1], k_Mo_sifts),
  (⟨"PairTreeModel", "relation", "(II)I"⟩, (bw 8 37), 3, (some .int), 7, 0, [8, 37, 99, 0, 8, 35, 8, 36, 1, 20, 2], k_Mo_relation2)
  ]
noncomputable def pgl_11 : List Mth := [
  (⟨"PairTreeModel", "arePair", "(III)Z"⟩, (bw 8 117), 4, (some .boolean), 3, 0, [8, 117, 99, 0, 8, 116, 0, 96, 1, 20, 3], k_Mo_arePair),
  (⟨"PairTreeModel", "has", "(III)I"⟩, (bw 8 113), 4, (some .int), 6, 0, [8, 113, 99, 0, 8, 111, 8, 112, 1, 20, 3], k_Mo_has),
  (⟨"PairTreeModel", "keeps", "()V"⟩, (bw 8 145), 2, none, 1, 0, [8, 145, 99, 0, 8, 144, 0, 100, 1, 20, 0], k_Mo_keeps),
  (⟨"PairTreeModel", "exchanges", "(I)V"⟩, (bw 8 129), 4, none, 1, 0, [8, 129, 99, 0, 8, 128, 0, 98, 1, 20, 1], k_Mo_exchanges),
  (⟨"PairTreeModel", "undo", "()Z"⟩, (bw 8 125), 1, (some .boolean), 2, 0, [8, 125, 99, 0, 8, 123, 8, 124, 1, 20, 0], k_Mo_undo),
  (⟨"PairTreeModel", "redo", "()Z"⟩, (bw 8 133), 1, (some .boolean), 2, 0, [8, 133, 99, 0, 8, 131, 8, 132, 1, 20, 0], k_Mo_redo),
  (⟨"PairTreeModel", "turns", "(IIII)I"⟩, (bw 8 141), 5, (some .int), 4, 0, [8, 141, 99, 0, 8, 140, 0, 99, 1, 20, 4], k_Mo_turns),
  (⟨"PairTreeModel", "put", "(III)I"⟩, (bw 8 137), 4, (some .int), 5, 0, [8, 137, 99, 0, 8, 135, 8, 136, 1, 20, 3], k_Mo_put),
  (⟨"PairTreeModel", "take", "(III)I"⟩, (bw 8 149), 4, (some .int), 5, 0, [8, 149, 99, 0, 8, 147, 8, 148, 1, 20, 3], k_Mo_take),
  (⟨"PairTreeModel", "makes", "(III)V"⟩, (bw 8 164), 6, none, 3, 0, [8, 164, 99, 0, 8, 163, 0, 102, 1, 20, 3], k_Mo_makes),
  (⟨"PairTreeModel", "isHow", "(I)Z"⟩, (bw 8 156), 1, (some .boolean), 2, 0, [8, 156, 8, 155, 99, 0, 99, 0, 1, 20, 1], k_Mo_isHow),
  (⟨"PairTreeModel", "become", "(IIII)I"⟩, (bw 8 153), 6, (some .int), 7, 0, [8, 153, 99, 0, 8, 151, 8, 152, 1, 20, 4], k_Mo_become),
  (⟨"PairTreeModel", "sift", "(I)I"⟩, (bw 8 168), 4, (some .int), 6, 0, [8, 168, 99, 0, 8, 166, 8, 167, 1, 20, 1], k_Mo_sift),
  (⟨"PairTreeModel", "drift", "()I"⟩, (bw 8 172), 3, (some .int), 2, 0, [8, 172, 99, 0, 8, 170, 8, 171, 1, 20, 0], k_Mo_drift),
  (⟨"PairTreeModel", "isBit", "(II)Z"⟩, (bw 8 180), 3, (some .boolean), 7, 0, [8, 180, 99, 0, 8, 179, 0, 103, 1, 20, 2], k_Mo_isBit),
  (⟨"PairTreeModel", "bit", "(II)I"⟩, (bw 8 176), 3, (some .int), 8, 0, [8, 176, 99, 0, 8, 174, 8, 175, 1, 20, 2], k_Mo_bit),
  (⟨"PairTreeModel", "rankOf", "(I)I"⟩, (bw 8 188), 4, (some .int), 1, 0, [8, 188, 99, 0, 8, 187, 0, 104, 1, 20, 1], k_Mo_rankOf),
  (⟨"PairTreeModel", "rank", "(II)I"⟩, (bw 8 184), 3, (some .int), 8, 0, [8, 184, 99, 0, 8, 182, 8, 183, 1, 20, 2], k_Mo_rank),
  (⟨"PairTreeModel", "child", "(III)I"⟩, (bw 8 192), 4, (some .int), 8, 0, [8, 192, 99, 0, 8, 190, 8, 191, 1, 20, 3], k_Mo_child),
  (⟨"PairTreeModel", "place", "(III)I"⟩, (bw 8 196), 4, (some .int), 8, 0, [8, 196, 99, 0, 8, 194, 8, 195, 1, 20, 3], k_Mo_place),
  (⟨"PairTreeModel", "blocks", "(II)I"⟩, (bw 8 200), 5, (some .int), 7, 0, [8, 200, 99, 0, 8, 198, 8, 199, 1, 20, 2], k_Mo_blocks),
  (⟨"PairTreeModel", "laysDown", "(I)I"⟩, (bw 8 208), 3, (some .int), 2, 0, [8, 208, 99, 0, 8, 207, 0, 105, 1, 20, 1], k_Mo_laysDown),
  (⟨"PairTreeModel", "row", "(II)I"⟩, (bw 8 204), 3, (some .int), 6, 0, [8, 204, 99, 0, 8, 202, 8, 203, 1, 20, 2], k_Mo_row),
  (⟨"PairTreeModel", "columnSet", "(II)I"⟩, (bw 8 216), 5, (some .int), 2, 0, [8, 216, 99, 0, 8, 215, 0, 106, 1, 20, 2], k_Mo_columnSet)
  ]
noncomputable def pgl_12 : List Mth := [
  (⟨"PairTreeModel", "column", "(II)I"⟩, (bw 8 212), 3, (some .int), 6, 0, [8, 212, 99, 0, 8, 210, 8, 211, 1, 20, 2], k_Mo_column),
  (⟨"PairTreeModel", "isRect", "(IIIII)Z"⟩, (bw 8 224), 6, (some .boolean), 3, 0, [8, 224, 99, 0, 8, 223, 0, 107, 1, 20, 5], k_Mo_isRect),
  (⟨"PairTreeModel", "rect", "(IIIII)I"⟩, (bw 8 220), 9, (some .int), 6, 0, [8, 220, 99, 0, 8, 218, 8, 219, 1, 20, 5], k_Mo_rect),
  (⟨"PairTreeModel", "looks", "(IIIII)I"⟩, (bw 8 228), 9, (some .int), 7, 0, [8, 228, 99, 0, 8, 226, 8, 227, 1, 20, 5], k_Mo_looks),
  (⟨"PairTreeModel", "hasSome", "(IIII)Z"⟩, (bw 8 236), 5, (some .boolean), 3, 0, [8, 236, 99, 0, 8, 235, 0, 108, 1, 20, 4], k_Mo_hasSome),
  (⟨"PairTreeModel", "walks", "(II)I"⟩, (bw 8 232), 7, (some .int), 7, 0, [8, 232, 99, 0, 8, 230, 8, 231, 1, 20, 2], k_Mo_walks),
  (⟨"PairTreeModel", "products", "(II)I"⟩, (bw 9 0), 8, (some .int), 7, 0, [9, 0, 99, 0, 8, 238, 8, 239, 1, 20, 2], k_Mo_products),
  (⟨"PairTreeModel", "would", "(IIII)I"⟩, (bw 9 4), 5, (some .int), 7, 0, [9, 4, 99, 0, 9, 2, 9, 3, 1, 20, 4], k_Mo_would),
  (⟨"PairTreeModel", "pair", "(III)I"⟩, (bw 9 8), 7, (some .int), 6, 0, [9, 8, 99, 0, 9, 6, 9, 7, 1, 20, 3], k_Mo_pair),
  (⟨"PairTreeModel", "unlike", "(II)I"⟩, (bw 9 12), 5, (some .int), 7, 0, [9, 12, 99, 0, 9, 10, 9, 11, 1, 20, 2], k_Mo_unlike),
  (⟨"PairTreeModel", "within", "(II)I"⟩, (bw 9 16), 5, (some .int), 7, 0, [9, 16, 99, 0, 9, 14, 9, 15, 1, 20, 2], k_Mo_within),
  (⟨"PairTreeModel", "busiest", "(II)I"⟩, (bw 9 20), 7, (some .int), 6, 0, [9, 20, 99, 0, 9, 18, 9, 19, 1, 20, 2], k_Mo_busiest),
  (⟨"PairTreeModel", "densest", "(III)I"⟩, (bw 9 24), 11, (some .int), 6, 0, [9, 24, 99, 0, 9, 22, 9, 23, 1, 20, 3], k_Mo_densest),
  (⟨"PairTreeModel", "reachedFrom", "(II)I"⟩, (bw 9 32), 5, (some .int), 3, 0, [9, 32, 99, 0, 9, 31, 0, 109, 1, 20, 2], k_Mo_reachedFrom),
  (⟨"PairTreeModel", "reached", "(II)I"⟩, (bw 9 28), 3, (some .int), 6, 0, [9, 28, 99, 0, 9, 26, 9, 27, 1, 20, 2], k_Mo_reached),
  (⟨"PairTreeModel", "far", "(III)I"⟩, (bw 9 36), 6, (some .int), 6, 0, [9, 36, 99, 0, 9, 34, 9, 35, 1, 20, 3], k_Mo_far),
  (⟨"PairTreeModel", "mutual", "(II)I"⟩, (bw 9 40), 6, (some .int), 6, 0, [9, 40, 99, 0, 9, 38, 9, 39, 1, 20, 2], k_Mo_mutual),
  (⟨"PairTreeModel", "closure", "(I)I"⟩, (bw 9 44), 6, (some .int), 6, 0, [9, 44, 99, 0, 9, 42, 9, 43, 1, 20, 1], k_Mo_closure),
  (⟨"PairTreeModel", "settles", "(I)I"⟩, (bw 9 48), 5, (some .int), 6, 0, [9, 48, 99, 0, 9, 46, 9, 47, 1, 20, 1], k_Mo_settles),
  (⟨"PairTreeModel", "parts", "(I)I"⟩, (bw 9 52), 8, (some .int), 6, 0, [9, 52, 99, 0, 9, 50, 9, 51, 1, 20, 1], k_Mo_parts),
  (⟨"PairTreeModel", "isSoIn", "(III)Z"⟩, (bw 9 60), 5, (some .boolean), 3, 0, [9, 60, 99, 0, 9, 59, 0, 110, 1, 20, 3], k_Mo_isSoIn),
  (⟨"PairTreeModel", "is", "(II)I"⟩, (bw 9 56), 5, (some .int), 6, 0, [9, 56, 99, 0, 9, 54, 9, 55, 1, 20, 2], k_Mo_is),
  (⟨"PairTreeModel", "law", "(II)I"⟩, (bw 9 64), 3, (some .int), 7, 0, [9, 64, 99, 0, 9, 62, 9, 63, 1, 20, 2], k_Mo_law),
  (⟨"PairTreeModel", "common", "(II)I"⟩, (bw 9 71), 5, (some .int), 1, 0, [9, 71, 9, 70, 99, 0, 99, 0, 1, 20, 2], k_Mo_common)
  ]
noncomputable def pgl_13 : List Mth := [
  (⟨"PairTreeModel", "odds", "(II)I"⟩, (bw 9 68), 6, (some .int), 2, 0, [9, 68, 99, 0, 9, 66, 9, 67, 1, 20, 2], k_Mo_odds),
  (⟨"PairTreeModel", "lies", "(I)I"⟩, (bw 9 75), 2, (some .int), 2, 0, [9, 75, 99, 0, 9, 73, 9, 74, 1, 20, 1], k_Mo_lies),
  (⟨"PairTreeModel", "isBlock", "(II)Z"⟩, (bw 9 83), 3, (some .boolean), 2, 0, [9, 83, 99, 0, 9, 82, 0, 111, 1, 20, 2], k_Mo_isBlock),
  (⟨"PairTreeModel", "seen", "(IIIZ)I"⟩, (bw 9 79), 5, (some .int), 3, 0, [9, 79, 99, 0, 9, 77, 9, 78, 1, 20, 4], k_Mo_seen),
  (⟨"PairTreeModel", "untell", "(I)Z"⟩, (bw 9 87), 2, (some .boolean), 2, 0, [9, 87, 99, 0, 9, 85, 9, 86, 1, 20, 1], k_Mo_untell),
  (⟨"PairTreeModel", "later", "(I)I"⟩, (bw 9 91), 2, (some .int), 2, 0, [9, 91, 99, 0, 9, 89, 9, 90, 1, 20, 1], k_Mo_later),
  (⟨"PairTreeModel", "laysFirst", "()V"⟩, (bw 9 100), 2, none, 6, 0, [9, 100, 99, 0, 9, 99, 0, 112, 1, 20, 0], k_Mo_laysFirst),
  (⟨"PairTreeModel", "countBy", "(III)I"⟩, (bw 9 116), 10, (some .int), 3, 0, [9, 116, 99, 0, 9, 115, 0, 116, 1, 20, 3], k_Mo_countBy),
  (⟨"PairTreeModel", "doesCount", "(II)Z"⟩, (bw 9 112), 3, (some .boolean), 1, 0, [9, 112, 99, 0, 9, 111, 0, 115, 1, 20, 2], k_Mo_doesCount),
  (⟨"PairTreeModel", "fitsBy", "(II)Z"⟩, (bw 9 108), 4, (some .boolean), 4, 0, [9, 108, 99, 0, 9, 107, 0, 114, 1, 20, 2], k_Mo_fitsBy),
  (⟨"PairTreeModel", "lastPair", "()I"⟩, (bw 9 104), 1, (some .int), 2, 0, [9, 104, 99, 0, 9, 103, 0, 113, 1, 20, 0], k_Mo_lastPair),
  (⟨"PairTreeModel", "fits", "(I)I"⟩, (bw 9 96), 4, (some .int), 7, 0, [9, 96, 99, 0, 9, 94, 9, 95, 1, 20, 1], k_Mo_fits),
  (⟨"PairTreeModel", "fit", "(II)I"⟩, (bw 9 120), 5, (some .int), 7, 0, [9, 120, 99, 0, 9, 118, 9, 119, 1, 20, 2], k_Mo_fit),
  (⟨"PairTreeModel", "leftBy", "(II)I"⟩, (bw 9 128), 6, (some .int), 4, 0, [9, 128, 99, 0, 9, 127, 0, 117, 1, 20, 2], k_Mo_leftBy),
  (⟨"PairTreeModel", "ask", "(III)I"⟩, (bw 9 124), 9, (some .int), 7, 0, [9, 124, 99, 0, 9, 122, 9, 123, 1, 20, 3], k_Mo_ask),
  (⟨"PairTreeModel", "image", "(I)I"⟩, (bw 9 132), 3, (some .int), 4, 0, [9, 132, 99, 0, 9, 130, 9, 131, 1, 20, 1], k_Mo_image),
  (⟨"PairTreeModel", "back", "(I)I"⟩, (bw 9 140), 3, (some .int), 4, 0, [9, 140, 99, 0, 9, 138, 9, 139, 1, 20, 1], k_Mo_back),
  (⟨"PairTreeModel", "toldSet", "()I"⟩, (bw 9 148), 3, (some .int), 1, 0, [9, 148, 99, 0, 9, 147, 0, 119, 1, 20, 0], k_Mo_toldSet),
  (⟨"PairTreeModel", "about", "(I)I"⟩, (bw 9 144), 2, (some .int), 4, 0, [9, 144, 99, 0, 9, 142, 9, 143, 1, 20, 1], k_Mo_about),
  (⟨"java/lang/Integer", "bitCount", "(I)I"⟩, (bw 4 108), 1, (some .int), 1, 0, [4, 108, 4, 107, 99, 0, 99, 0, 1, 22, 1], k_Integer_bitCount),
  (⟨"java/lang/String", "length", "()I"⟩, (bw 1 157), 1, (some .int), 2, 0, [1, 157, 99, 0, 1, 155, 1, 156, 1, 7, 0], k_String_length),
  (⟨"java/lang/String", "charAt", "(I)C"⟩, (bw 1 167), 2, (some .char), 4, 0, [1, 167, 99, 0, 1, 165, 1, 166, 1, 7, 1], k_String_charAt),
  (⟨"java/lang/String", "indexOf", "(I)I"⟩, (bw 3 140), 2, (some .int), 4, 0, [3, 140, 99, 0, 3, 138, 3, 139, 1, 7, 1], k_String_indexOf1),
  (⟨"java/lang/String", "indexOf", "(II)I"⟩, (bw 3 144), 3, (some .int), 3, 0, [3, 144, 99, 0, 3, 142, 3, 143, 1, 7, 2], k_String_indexOf2)
  ]
noncomputable def pgl_14 : List Mth := [
  (⟨"java/lang/String", "coder", "()B"⟩, (bw 1 161), 1, (some .byte), 1, 0, [1, 161, 99, 0, 1, 159, 1, 160, 1, 7, 0], k_String_coder),
  (⟨"java/lang/String", "isLatin1", "()Z"⟩, (bw 1 171), 1, (some .boolean), 1, 0, [1, 171, 99, 0, 1, 169, 1, 170, 1, 7, 0], k_String_isLatin1),
  (⟨"java/lang/String", "checkIndex", "(II)V"⟩, (bw 1 177), 2, none, 2, 0, [1, 177, 1, 176, 99, 0, 99, 0, 1, 7, 2], k_String_checkIndex),
  (⟨"java/lang/StringLatin1", "charAt", "([BI)C"⟩, (bw 1 174), 2, (some .char), 3, 0, [1, 174, 1, 173, 99, 0, 99, 0, 1, 8, 2], k_StringLatin1_charAt),
  (⟨"java/lang/StringLatin1", "canEncode", "(I)Z"⟩, (bw 3 151), 1, (some .boolean), 1, 0, [3, 151, 3, 150, 99, 0, 99, 0, 1, 8, 1], k_StringLatin1_canEncode),
  (⟨"java/lang/StringLatin1", "indexOf", "([BIII)I"⟩, (bw 3 148), 4, (some .int), 2, 0, [3, 148, 3, 147, 99, 0, 99, 0, 1, 8, 4], k_StringLatin1_indexOf),
  (⟨"java/lang/StringLatin1", "indexOfChar", "([BIII)I"⟩, (bw 3 156), 6, (some .int), 1, 0, [3, 156, 3, 155, 99, 0, 99, 0, 1, 8, 4], k_StringLatin1_indexOfChar),
  (⟨"java/util/Arrays", "fill", "([II)V"⟩, (bw 3 4), 4, none, 1, 0, [3, 4, 3, 3, 99, 0, 99, 0, 1, 19, 2], k_Arrays_fill),
  (⟨"jdk/internal/util/Preconditions", "checkIndex", "(IILjava/util/function/BiFunction;)I"⟩, (bw 1 182), 3, (some .int), 1, 0, [1, 182, 1, 181, 99, 0, 99, 0, 1, 9, 3], k_Preconditions_checkIndex),
  (⟨"PairTreeLaw", "law", "([I)Z"⟩, code, 4, (some .boolean), 338, 0, [], k_Law_law)
  ]
noncomputable def Pg (M : Nat) : Option Mth := if M < 24 then nth pgl_0 (M - 0) else if M < 48 then nth pgl_1 (M - 24) else if M < 72 then nth pgl_2 (M - 48) else if M < 96 then nth pgl_3 (M - 72) else if M < 120 then nth pgl_4 (M - 96) else if M < 144 then nth pgl_5 (M - 120) else if M < 168 then nth pgl_6 (M - 144) else if M < 192 then nth pgl_7 (M - 168) else if M < 216 then nth pgl_8 (M - 192) else if M < 240 then nth pgl_9 (M - 216) else if M < 264 then nth pgl_10 (M - 240) else if M < 288 then nth pgl_11 (M - 264) else if M < 312 then nth pgl_12 (M - 288) else if M < 336 then nth pgl_13 (M - 312) else if M < 360 then nth pgl_14 (M - 336) else none
