section
-- ===== PART A: goes FIRST, ahead of the names: the tables' words, and 'selects' of the private methods out of them =====
/-- a private method of a class that the tables say can be made, by its rows of tables_1 -/
def lw_okq (q : MethodName × Nat) : Prop := (q.1.cls ≠ "java/lang/invoke/MethodHandle" ∧ q.1.cls ≠ "java/lang/invoke/VarHandle") ∧ Cond.instantiable q.1.cls q.2 ∈ tables_1 ∧ Cond.privateMethod q.1 ∈ tables_1 ∧ Cond.instanceMethod q.1 ∈ tables_1
theorem lw_p0 : lw_okq (⟨"PairTree", "startAnew", "()V"⟩, 15) := ⟨⟨by decide +kernel, by decide +kernel⟩, List.mem_of_getElem? (i := 24) (by decide +kernel), List.mem_of_getElem? (i := 442) (by decide +kernel), List.mem_of_getElem? (i := 443) (by decide +kernel)⟩
theorem lw_p1 : lw_okq (⟨"PairTree$Relations", "openPart", "(II)I"⟩, 5) := ⟨⟨by decide +kernel, by decide +kernel⟩, List.mem_of_getElem? (i := 256) (by decide +kernel), List.mem_of_getElem? (i := 461) (by decide +kernel), List.mem_of_getElem? (i := 462) (by decide +kernel)⟩
theorem lw_p2 : lw_okq (⟨"PairTree$Relations", "workPart", "(II)I"⟩, 5) := ⟨⟨by decide +kernel, by decide +kernel⟩, List.mem_of_getElem? (i := 256) (by decide +kernel), List.mem_of_getElem? (i := 490) (by decide +kernel), List.mem_of_getElem? (i := 491) (by decide +kernel)⟩
theorem lw_p3 : lw_okq (⟨"PairTree", "layBytes", "(I)V"⟩, 15) := ⟨⟨by decide +kernel, by decide +kernel⟩, List.mem_of_getElem? (i := 24) (by decide +kernel), List.mem_of_getElem? (i := 569) (by decide +kernel), List.mem_of_getElem? (i := 570) (by decide +kernel)⟩
theorem lw_p4 : lw_okq (⟨"PairTree$Scanner", "readWord", "()V"⟩, 9) := ⟨⟨by decide +kernel, by decide +kernel⟩, List.mem_of_getElem? (i := 148) (by decide +kernel), List.mem_of_getElem? (i := 602) (by decide +kernel), List.mem_of_getElem? (i := 603) (by decide +kernel)⟩
theorem lw_p5 : lw_okq (⟨"PairTree$Scanner", "readNumber", "()V"⟩, 9) := ⟨⟨by decide +kernel, by decide +kernel⟩, List.mem_of_getElem? (i := 148) (by decide +kernel), List.mem_of_getElem? (i := 609) (by decide +kernel), List.mem_of_getElem? (i := 610) (by decide +kernel)⟩
theorem lw_p6 : lw_okq (⟨"PairTree$Scanner", "readSign", "()V"⟩, 9) := ⟨⟨by decide +kernel, by decide +kernel⟩, List.mem_of_getElem? (i := 148) (by decide +kernel), List.mem_of_getElem? (i := 613) (by decide +kernel), List.mem_of_getElem? (i := 614) (by decide +kernel)⟩
theorem lw_p7 : lw_okq (⟨"PairTree$Reader", "readLevels", "()V"⟩, 6) := ⟨⟨by decide +kernel, by decide +kernel⟩, List.mem_of_getElem? (i := 142) (by decide +kernel), List.mem_of_getElem? (i := 673) (by decide +kernel), List.mem_of_getElem? (i := 674) (by decide +kernel)⟩
theorem lw_p8 : lw_okq (⟨"PairTree$Reader", "fail", "(I)V"⟩, 6) := ⟨⟨by decide +kernel, by decide +kernel⟩, List.mem_of_getElem? (i := 142) (by decide +kernel), List.mem_of_getElem? (i := 677) (by decide +kernel), List.mem_of_getElem? (i := 678) (by decide +kernel)⟩
theorem lw_p9 : lw_okq (⟨"PairTree$Reader", "startLineOnce", "()V"⟩, 6) := ⟨⟨by decide +kernel, by decide +kernel⟩, List.mem_of_getElem? (i := 142) (by decide +kernel), List.mem_of_getElem? (i := 685) (by decide +kernel), List.mem_of_getElem? (i := 686) (by decide +kernel)⟩
theorem lw_p10 : lw_okq (⟨"PairTree$Reader", "readNumber", "(II)I"⟩, 6) := ⟨⟨by decide +kernel, by decide +kernel⟩, List.mem_of_getElem? (i := 142) (by decide +kernel), List.mem_of_getElem? (i := 690) (by decide +kernel), List.mem_of_getElem? (i := 691) (by decide +kernel)⟩
theorem lw_p11 : lw_okq (⟨"PairTree$Reader", "readRelation", "()V"⟩, 6) := ⟨⟨by decide +kernel, by decide +kernel⟩, List.mem_of_getElem? (i := 142) (by decide +kernel), List.mem_of_getElem? (i := 694) (by decide +kernel), List.mem_of_getElem? (i := 695) (by decide +kernel)⟩
theorem lw_p12 : lw_okq (⟨"PairTree$Reader", "readNewName", "()V"⟩, 6) := ⟨⟨by decide +kernel, by decide +kernel⟩, List.mem_of_getElem? (i := 142) (by decide +kernel), List.mem_of_getElem? (i := 702) (by decide +kernel), List.mem_of_getElem? (i := 703) (by decide +kernel)⟩
theorem lw_p13 : lw_okq (⟨"PairTree$Reader", "readPairs", "(LPairTree$Grid;)V"⟩, 6) := ⟨⟨by decide +kernel, by decide +kernel⟩, List.mem_of_getElem? (i := 142) (by decide +kernel), List.mem_of_getElem? (i := 717) (by decide +kernel), List.mem_of_getElem? (i := 718) (by decide +kernel)⟩
theorem lw_p14 : lw_okq (⟨"PairTree$Reader", "expect", "(I)V"⟩, 6) := ⟨⟨by decide +kernel, by decide +kernel⟩, List.mem_of_getElem? (i := 142) (by decide +kernel), List.mem_of_getElem? (i := 730) (by decide +kernel), List.mem_of_getElem? (i := 731) (by decide +kernel)⟩
theorem lw_p15 : lw_okq (⟨"PairTree$Reader", "readJoined", "(I)V"⟩, 6) := ⟨⟨by decide +kernel, by decide +kernel⟩, List.mem_of_getElem? (i := 142) (by decide +kernel), List.mem_of_getElem? (i := 734) (by decide +kernel), List.mem_of_getElem? (i := 735) (by decide +kernel)⟩
def lw_privs_1 : List (MethodName × Nat) := [(⟨"PairTree", "startAnew", "()V"⟩, 15), (⟨"PairTree$Relations", "openPart", "(II)I"⟩, 5), (⟨"PairTree$Relations", "workPart", "(II)I"⟩, 5), (⟨"PairTree", "layBytes", "(I)V"⟩, 15), (⟨"PairTree$Scanner", "readWord", "()V"⟩, 9), (⟨"PairTree$Scanner", "readNumber", "()V"⟩, 9), (⟨"PairTree$Scanner", "readSign", "()V"⟩, 9), (⟨"PairTree$Reader", "readLevels", "()V"⟩, 6), (⟨"PairTree$Reader", "fail", "(I)V"⟩, 6), (⟨"PairTree$Reader", "startLineOnce", "()V"⟩, 6), (⟨"PairTree$Reader", "readNumber", "(II)I"⟩, 6), (⟨"PairTree$Reader", "readRelation", "()V"⟩, 6), (⟨"PairTree$Reader", "readNewName", "()V"⟩, 6), (⟨"PairTree$Reader", "readPairs", "(LPairTree$Grid;)V"⟩, 6), (⟨"PairTree$Reader", "expect", "(I)V"⟩, 6), (⟨"PairTree$Reader", "readJoined", "(I)V"⟩, 6)]
theorem lw_r1 : ∀ q ∈ lw_privs_1, lw_okq q := List.forall_mem_cons.mpr ⟨lw_p0, List.forall_mem_cons.mpr ⟨lw_p1, List.forall_mem_cons.mpr ⟨lw_p2, List.forall_mem_cons.mpr ⟨lw_p3, List.forall_mem_cons.mpr ⟨lw_p4, List.forall_mem_cons.mpr ⟨lw_p5, List.forall_mem_cons.mpr ⟨lw_p6, List.forall_mem_cons.mpr ⟨lw_p7, List.forall_mem_cons.mpr ⟨lw_p8, List.forall_mem_cons.mpr ⟨lw_p9, List.forall_mem_cons.mpr ⟨lw_p10, List.forall_mem_cons.mpr ⟨lw_p11, List.forall_mem_cons.mpr ⟨lw_p12, List.forall_mem_cons.mpr ⟨lw_p13, List.forall_mem_cons.mpr ⟨lw_p14, List.forall_mem_cons.mpr ⟨lw_p15, fun _ h => absurd h List.not_mem_nil⟩⟩⟩⟩⟩⟩⟩⟩⟩⟩⟩⟩⟩⟩⟩⟩
theorem lw_p16 : lw_okq (⟨"PairTree$Reader", "readMet", "(I)V"⟩, 6) := ⟨⟨by decide +kernel, by decide +kernel⟩, List.mem_of_getElem? (i := 142) (by decide +kernel), List.mem_of_getElem? (i := 738) (by decide +kernel), List.mem_of_getElem? (i := 739) (by decide +kernel)⟩
theorem lw_p17 : lw_okq (⟨"PairTree$Reader", "readOne", "(I)V"⟩, 6) := ⟨⟨by decide +kernel, by decide +kernel⟩, List.mem_of_getElem? (i := 142) (by decide +kernel), List.mem_of_getElem? (i := 742) (by decide +kernel), List.mem_of_getElem? (i := 743) (by decide +kernel)⟩
theorem lw_p18 : lw_okq (⟨"PairTree$Reader", "readLeaf", "(I)V"⟩, 6) := ⟨⟨by decide +kernel, by decide +kernel⟩, List.mem_of_getElem? (i := 142) (by decide +kernel), List.mem_of_getElem? (i := 750) (by decide +kernel), List.mem_of_getElem? (i := 751) (by decide +kernel)⟩
theorem lw_p19 : lw_okq (⟨"PairTree$Reader", "readOrs", "(I)V"⟩, 6) := ⟨⟨by decide +kernel, by decide +kernel⟩, List.mem_of_getElem? (i := 142) (by decide +kernel), List.mem_of_getElem? (i := 766) (by decide +kernel), List.mem_of_getElem? (i := 767) (by decide +kernel)⟩
theorem lw_p20 : lw_okq (⟨"PairTree$Reader", "readAnds", "(I)V"⟩, 6) := ⟨⟨by decide +kernel, by decide +kernel⟩, List.mem_of_getElem? (i := 142) (by decide +kernel), List.mem_of_getElem? (i := 770) (by decide +kernel), List.mem_of_getElem? (i := 771) (by decide +kernel)⟩
theorem lw_p21 : lw_okq (⟨"PairTree$Reader", "readNots", "(I)V"⟩, 6) := ⟨⟨by decide +kernel, by decide +kernel⟩, List.mem_of_getElem? (i := 142) (by decide +kernel), List.mem_of_getElem? (i := 774) (by decide +kernel), List.mem_of_getElem? (i := 775) (by decide +kernel)⟩
theorem lw_p22 : lw_okq (⟨"PairTree$Reader", "readCompared", "(I)V"⟩, 6) := ⟨⟨by decide +kernel, by decide +kernel⟩, List.mem_of_getElem? (i := 142) (by decide +kernel), List.mem_of_getElem? (i := 778) (by decide +kernel), List.mem_of_getElem? (i := 779) (by decide +kernel)⟩
theorem lw_p23 : lw_okq (⟨"PairTree$Reader", "readSum", "(I)V"⟩, 6) := ⟨⟨by decide +kernel, by decide +kernel⟩, List.mem_of_getElem? (i := 142) (by decide +kernel), List.mem_of_getElem? (i := 782) (by decide +kernel), List.mem_of_getElem? (i := 783) (by decide +kernel)⟩
theorem lw_p24 : lw_okq (⟨"PairTree$Reader", "readTerm", "(I)V"⟩, 6) := ⟨⟨by decide +kernel, by decide +kernel⟩, List.mem_of_getElem? (i := 142) (by decide +kernel), List.mem_of_getElem? (i := 786) (by decide +kernel), List.mem_of_getElem? (i := 787) (by decide +kernel)⟩
theorem lw_p25 : lw_okq (⟨"PairTree$Reader", "readUnit", "(I)V"⟩, 6) := ⟨⟨by decide +kernel, by decide +kernel⟩, List.mem_of_getElem? (i := 142) (by decide +kernel), List.mem_of_getElem? (i := 790) (by decide +kernel), List.mem_of_getElem? (i := 791) (by decide +kernel)⟩
theorem lw_p26 : lw_okq (⟨"PairTree$Reader", "readBracket", "(I)V"⟩, 6) := ⟨⟨by decide +kernel, by decide +kernel⟩, List.mem_of_getElem? (i := 142) (by decide +kernel), List.mem_of_getElem? (i := 803) (by decide +kernel), List.mem_of_getElem? (i := 804) (by decide +kernel)⟩
theorem lw_p27 : lw_okq (⟨"PairTree", "isRelation", "(I)Z"⟩, 15) := ⟨⟨by decide +kernel, by decide +kernel⟩, List.mem_of_getElem? (i := 24) (by decide +kernel), List.mem_of_getElem? (i := 815) (by decide +kernel), List.mem_of_getElem? (i := 816) (by decide +kernel)⟩
theorem lw_p28 : lw_okq (⟨"PairTree", "bitsOf", "(LPairTree$Grid;)I"⟩, 15) := ⟨⟨by decide +kernel, by decide +kernel⟩, List.mem_of_getElem? (i := 24) (by decide +kernel), List.mem_of_getElem? (i := 833) (by decide +kernel), List.mem_of_getElem? (i := 834) (by decide +kernel)⟩
theorem lw_p29 : lw_okq (⟨"PairTree", "siftInto", "(LPairTree$Grid;LPairTree$Grid;)V"⟩, 15) := ⟨⟨by decide +kernel, by decide +kernel⟩, List.mem_of_getElem? (i := 24) (by decide +kernel), List.mem_of_getElem? (i := 854) (by decide +kernel), List.mem_of_getElem? (i := 855) (by decide +kernel)⟩
theorem lw_p30 : lw_okq (⟨"PairTree", "isNode", "(I)Z"⟩, 15) := ⟨⟨by decide +kernel, by decide +kernel⟩, List.mem_of_getElem? (i := 24) (by decide +kernel), List.mem_of_getElem? (i := 884) (by decide +kernel), List.mem_of_getElem? (i := 885) (by decide +kernel)⟩
theorem lw_p31 : lw_okq (⟨"PairTree", "turnPair", "(IIII)I"⟩, 15) := ⟨⟨by decide +kernel, by decide +kernel⟩, List.mem_of_getElem? (i := 24) (by decide +kernel), List.mem_of_getElem? (i := 892) (by decide +kernel), List.mem_of_getElem? (i := 893) (by decide +kernel)⟩
def lw_privs_2 : List (MethodName × Nat) := [(⟨"PairTree$Reader", "readMet", "(I)V"⟩, 6), (⟨"PairTree$Reader", "readOne", "(I)V"⟩, 6), (⟨"PairTree$Reader", "readLeaf", "(I)V"⟩, 6), (⟨"PairTree$Reader", "readOrs", "(I)V"⟩, 6), (⟨"PairTree$Reader", "readAnds", "(I)V"⟩, 6), (⟨"PairTree$Reader", "readNots", "(I)V"⟩, 6), (⟨"PairTree$Reader", "readCompared", "(I)V"⟩, 6), (⟨"PairTree$Reader", "readSum", "(I)V"⟩, 6), (⟨"PairTree$Reader", "readTerm", "(I)V"⟩, 6), (⟨"PairTree$Reader", "readUnit", "(I)V"⟩, 6), (⟨"PairTree$Reader", "readBracket", "(I)V"⟩, 6), (⟨"PairTree", "isRelation", "(I)Z"⟩, 15), (⟨"PairTree", "bitsOf", "(LPairTree$Grid;)I"⟩, 15), (⟨"PairTree", "siftInto", "(LPairTree$Grid;LPairTree$Grid;)V"⟩, 15), (⟨"PairTree", "isNode", "(I)Z"⟩, 15), (⟨"PairTree", "turnPair", "(IIII)I"⟩, 15)]
theorem lw_r2 : ∀ q ∈ lw_privs_2, lw_okq q := List.forall_mem_cons.mpr ⟨lw_p16, List.forall_mem_cons.mpr ⟨lw_p17, List.forall_mem_cons.mpr ⟨lw_p18, List.forall_mem_cons.mpr ⟨lw_p19, List.forall_mem_cons.mpr ⟨lw_p20, List.forall_mem_cons.mpr ⟨lw_p21, List.forall_mem_cons.mpr ⟨lw_p22, List.forall_mem_cons.mpr ⟨lw_p23, List.forall_mem_cons.mpr ⟨lw_p24, List.forall_mem_cons.mpr ⟨lw_p25, List.forall_mem_cons.mpr ⟨lw_p26, List.forall_mem_cons.mpr ⟨lw_p27, List.forall_mem_cons.mpr ⟨lw_p28, List.forall_mem_cons.mpr ⟨lw_p29, List.forall_mem_cons.mpr ⟨lw_p30, List.forall_mem_cons.mpr ⟨lw_p31, fun _ h => absurd h List.not_mem_nil⟩⟩⟩⟩⟩⟩⟩⟩⟩⟩⟩⟩⟩⟩⟩⟩
theorem lw_p32 : lw_okq (⟨"PairTree", "isToldOne", "(I)Z"⟩, 15) := ⟨⟨by decide +kernel, by decide +kernel⟩, List.mem_of_getElem? (i := 24) (by decide +kernel), List.mem_of_getElem? (i := 896) (by decide +kernel), List.mem_of_getElem? (i := 897) (by decide +kernel)⟩
theorem lw_p33 : lw_okq (⟨"PairTree", "perform", "(ILPairTree$Grid;I)V"⟩, 15) := ⟨⟨by decide +kernel, by decide +kernel⟩, List.mem_of_getElem? (i := 24) (by decide +kernel), List.mem_of_getElem? (i := 901) (by decide +kernel), List.mem_of_getElem? (i := 902) (by decide +kernel)⟩
theorem lw_p34 : lw_okq (⟨"PairTree$History", "slotOf", "(I)I"⟩, 7) := ⟨⟨by decide +kernel, by decide +kernel⟩, List.mem_of_getElem? (i := 286) (by decide +kernel), List.mem_of_getElem? (i := 909) (by decide +kernel), List.mem_of_getElem? (i := 910) (by decide +kernel)⟩
theorem lw_p35 : lw_okq (⟨"PairTree", "makeOfTwo", "(III)Z"⟩, 15) := ⟨⟨by decide +kernel, by decide +kernel⟩, List.mem_of_getElem? (i := 24) (by decide +kernel), List.mem_of_getElem? (i := 930) (by decide +kernel), List.mem_of_getElem? (i := 931) (by decide +kernel)⟩
theorem lw_p36 : lw_okq (⟨"PairTree", "areRelations", "(II)Z"⟩, 15) := ⟨⟨by decide +kernel, by decide +kernel⟩, List.mem_of_getElem? (i := 24) (by decide +kernel), List.mem_of_getElem? (i := 934) (by decide +kernel), List.mem_of_getElem? (i := 935) (by decide +kernel)⟩
theorem lw_p37 : lw_okq (⟨"PairTree", "driftsTo", "(I)I"⟩, 15) := ⟨⟨by decide +kernel, by decide +kernel⟩, List.mem_of_getElem? (i := 24) (by decide +kernel), List.mem_of_getElem? (i := 947) (by decide +kernel), List.mem_of_getElem? (i := 948) (by decide +kernel)⟩
theorem lw_p38 : lw_okq (⟨"PairTree", "isBit", "(II)Z"⟩, 15) := ⟨⟨by decide +kernel, by decide +kernel⟩, List.mem_of_getElem? (i := 24) (by decide +kernel), List.mem_of_getElem? (i := 967) (by decide +kernel), List.mem_of_getElem? (i := 968) (by decide +kernel)⟩
theorem lw_p39 : lw_okq (⟨"PairTree$Tree", "layQuarters", "(III)V"⟩, 6) := ⟨⟨by decide +kernel, by decide +kernel⟩, List.mem_of_getElem? (i := 398) (by decide +kernel), List.mem_of_getElem? (i := 975) (by decide +kernel), List.mem_of_getElem? (i := 976) (by decide +kernel)⟩
theorem lw_p40 : lw_okq (⟨"PairTree$Tree", "isLaid", "(I)Z"⟩, 6) := ⟨⟨by decide +kernel, by decide +kernel⟩, List.mem_of_getElem? (i := 398) (by decide +kernel), List.mem_of_getElem? (i := 983) (by decide +kernel), List.mem_of_getElem? (i := 984) (by decide +kernel)⟩
theorem lw_p41 : lw_okq (⟨"PairTree", "isLevel", "(I)Z"⟩, 15) := ⟨⟨by decide +kernel, by decide +kernel⟩, List.mem_of_getElem? (i := 24) (by decide +kernel), List.mem_of_getElem? (i := 1025) (by decide +kernel), List.mem_of_getElem? (i := 1026) (by decide +kernel)⟩
theorem lw_p42 : lw_okq (⟨"PairTree", "layNodes", "(I)V"⟩, 15) := ⟨⟨by decide +kernel, by decide +kernel⟩, List.mem_of_getElem? (i := 24) (by decide +kernel), List.mem_of_getElem? (i := 1034) (by decide +kernel), List.mem_of_getElem? (i := 1035) (by decide +kernel)⟩
theorem lw_p43 : lw_okq (⟨"PairTree", "isRectangle", "(IIII)Z"⟩, 15) := ⟨⟨by decide +kernel, by decide +kernel⟩, List.mem_of_getElem? (i := 24) (by decide +kernel), List.mem_of_getElem? (i := 1047) (by decide +kernel), List.mem_of_getElem? (i := 1048) (by decide +kernel)⟩
theorem lw_p44 : lw_okq (⟨"PairTree", "growBoth", "(II)Z"⟩, 15) := ⟨⟨by decide +kernel, by decide +kernel⟩, List.mem_of_getElem? (i := 24) (by decide +kernel), List.mem_of_getElem? (i := 1069) (by decide +kernel), List.mem_of_getElem? (i := 1070) (by decide +kernel)⟩
theorem lw_p45 : lw_okq (⟨"PairTree$Steps", "settle", "(LPairTree$Grid;)I"⟩, 2) := ⟨⟨by decide +kernel, by decide +kernel⟩, List.mem_of_getElem? (i := 427) (by decide +kernel), List.mem_of_getElem? (i := 1162) (by decide +kernel), List.mem_of_getElem? (i := 1163) (by decide +kernel)⟩
theorem lw_p46 : lw_okq (⟨"PairTree", "holdsFor", "(LPairTree$Grid;I)Z"⟩, 15) := ⟨⟨by decide +kernel, by decide +kernel⟩, List.mem_of_getElem? (i := 24) (by decide +kernel), List.mem_of_getElem? (i := 1193) (by decide +kernel), List.mem_of_getElem? (i := 1194) (by decide +kernel)⟩
theorem lw_p47 : lw_okq (⟨"PairTree$Sightings", "gatherFits", "(I)V"⟩, 16) := ⟨⟨by decide +kernel, by decide +kernel⟩, List.mem_of_getElem? (i := 338) (by decide +kernel), List.mem_of_getElem? (i := 1264) (by decide +kernel), List.mem_of_getElem? (i := 1265) (by decide +kernel)⟩
def lw_privs_3 : List (MethodName × Nat) := [(⟨"PairTree", "isToldOne", "(I)Z"⟩, 15), (⟨"PairTree", "perform", "(ILPairTree$Grid;I)V"⟩, 15), (⟨"PairTree$History", "slotOf", "(I)I"⟩, 7), (⟨"PairTree", "makeOfTwo", "(III)Z"⟩, 15), (⟨"PairTree", "areRelations", "(II)Z"⟩, 15), (⟨"PairTree", "driftsTo", "(I)I"⟩, 15), (⟨"PairTree", "isBit", "(II)Z"⟩, 15), (⟨"PairTree$Tree", "layQuarters", "(III)V"⟩, 6), (⟨"PairTree$Tree", "isLaid", "(I)Z"⟩, 6), (⟨"PairTree", "isLevel", "(I)Z"⟩, 15), (⟨"PairTree", "layNodes", "(I)V"⟩, 15), (⟨"PairTree", "isRectangle", "(IIII)Z"⟩, 15), (⟨"PairTree", "growBoth", "(II)Z"⟩, 15), (⟨"PairTree$Steps", "settle", "(LPairTree$Grid;)I"⟩, 2), (⟨"PairTree", "holdsFor", "(LPairTree$Grid;I)Z"⟩, 15), (⟨"PairTree$Sightings", "gatherFits", "(I)V"⟩, 16)]
theorem lw_r3 : ∀ q ∈ lw_privs_3, lw_okq q := List.forall_mem_cons.mpr ⟨lw_p32, List.forall_mem_cons.mpr ⟨lw_p33, List.forall_mem_cons.mpr ⟨lw_p34, List.forall_mem_cons.mpr ⟨lw_p35, List.forall_mem_cons.mpr ⟨lw_p36, List.forall_mem_cons.mpr ⟨lw_p37, List.forall_mem_cons.mpr ⟨lw_p38, List.forall_mem_cons.mpr ⟨lw_p39, List.forall_mem_cons.mpr ⟨lw_p40, List.forall_mem_cons.mpr ⟨lw_p41, List.forall_mem_cons.mpr ⟨lw_p42, List.forall_mem_cons.mpr ⟨lw_p43, List.forall_mem_cons.mpr ⟨lw_p44, List.forall_mem_cons.mpr ⟨lw_p45, List.forall_mem_cons.mpr ⟨lw_p46, List.forall_mem_cons.mpr ⟨lw_p47, fun _ h => absurd h List.not_mem_nil⟩⟩⟩⟩⟩⟩⟩⟩⟩⟩⟩⟩⟩⟩⟩⟩
theorem lw_p48 : lw_okq (⟨"PairTree$Sightings", "dropUnfit", "(I)V"⟩, 16) := ⟨⟨by decide +kernel, by decide +kernel⟩, List.mem_of_getElem? (i := 338) (by decide +kernel), List.mem_of_getElem? (i := 1269) (by decide +kernel), List.mem_of_getElem? (i := 1270) (by decide +kernel)⟩
theorem lw_p49 : lw_okq (⟨"PairTree$Sightings", "fitsWith", "(II)Z"⟩, 16) := ⟨⟨by decide +kernel, by decide +kernel⟩, List.mem_of_getElem? (i := 338) (by decide +kernel), List.mem_of_getElem? (i := 1273) (by decide +kernel), List.mem_of_getElem? (i := 1274) (by decide +kernel)⟩
theorem lw_p50 : lw_okq (⟨"PairTreeModel", "four", "(I)V"⟩, 64) := ⟨⟨by decide +kernel, by decide +kernel⟩, List.mem_of_getElem? (i := 1325) (by decide +kernel), List.mem_of_getElem? (i := 1528) (by decide +kernel), List.mem_of_getElem? (i := 1529) (by decide +kernel)⟩
theorem lw_p51 : lw_okq (⟨"PairTreeModel", "readAll", "()V"⟩, 64) := ⟨⟨by decide +kernel, by decide +kernel⟩, List.mem_of_getElem? (i := 1325) (by decide +kernel), List.mem_of_getElem? (i := 1543) (by decide +kernel), List.mem_of_getElem? (i := 1544) (by decide +kernel)⟩
theorem lw_p52 : lw_okq (⟨"PairTreeModel", "goOn", "()V"⟩, 64) := ⟨⟨by decide +kernel, by decide +kernel⟩, List.mem_of_getElem? (i := 1325) (by decide +kernel), List.mem_of_getElem? (i := 1547) (by decide +kernel), List.mem_of_getElem? (i := 1548) (by decide +kernel)⟩
theorem lw_p53 : lw_okq (⟨"PairTreeModel", "here", "(I)I"⟩, 64) := ⟨⟨by decide +kernel, by decide +kernel⟩, List.mem_of_getElem? (i := 1325) (by decide +kernel), List.mem_of_getElem? (i := 1551) (by decide +kernel), List.mem_of_getElem? (i := 1552) (by decide +kernel)⟩
theorem lw_p54 : lw_okq (⟨"PairTreeModel", "isGood", "()Z"⟩, 64) := ⟨⟨by decide +kernel, by decide +kernel⟩, List.mem_of_getElem? (i := 1325) (by decide +kernel), List.mem_of_getElem? (i := 1564) (by decide +kernel), List.mem_of_getElem? (i := 1565) (by decide +kernel)⟩
theorem lw_p55 : lw_okq (⟨"PairTreeModel", "line", "()V"⟩, 64) := ⟨⟨by decide +kernel, by decide +kernel⟩, List.mem_of_getElem? (i := 1325) (by decide +kernel), List.mem_of_getElem? (i := 1568) (by decide +kernel), List.mem_of_getElem? (i := 1569) (by decide +kernel)⟩
theorem lw_p56 : lw_okq (⟨"PairTreeModel", "isWord", "(J)Z"⟩, 64) := ⟨⟨by decide +kernel, by decide +kernel⟩, List.mem_of_getElem? (i := 1325) (by decide +kernel), List.mem_of_getElem? (i := 1573) (by decide +kernel), List.mem_of_getElem? (i := 1574) (by decide +kernel)⟩
theorem lw_p57 : lw_okq (⟨"PairTreeModel", "number", "(II)I"⟩, 64) := ⟨⟨by decide +kernel, by decide +kernel⟩, List.mem_of_getElem? (i := 1325) (by decide +kernel), List.mem_of_getElem? (i := 1577) (by decide +kernel), List.mem_of_getElem? (i := 1578) (by decide +kernel)⟩
theorem lw_p58 : lw_okq (⟨"PairTreeModel", "wrong", "(I)V"⟩, 64) := ⟨⟨by decide +kernel, by decide +kernel⟩, List.mem_of_getElem? (i := 1325) (by decide +kernel), List.mem_of_getElem? (i := 1581) (by decide +kernel), List.mem_of_getElem? (i := 1582) (by decide +kernel)⟩
theorem lw_p59 : lw_okq (⟨"PairTreeModel", "relation", "()V"⟩, 64) := ⟨⟨by decide +kernel, by decide +kernel⟩, List.mem_of_getElem? (i := 1325) (by decide +kernel), List.mem_of_getElem? (i := 1586) (by decide +kernel), List.mem_of_getElem? (i := 1587) (by decide +kernel)⟩
theorem lw_p60 : lw_okq (⟨"PairTreeModel", "isOwn", "()Z"⟩, 64) := ⟨⟨by decide +kernel, by decide +kernel⟩, List.mem_of_getElem? (i := 1325) (by decide +kernel), List.mem_of_getElem? (i := 1590) (by decide +kernel), List.mem_of_getElem? (i := 1591) (by decide +kernel)⟩
theorem lw_p61 : lw_okq (⟨"PairTreeModel", "relNamed", "(J)I"⟩, 64) := ⟨⟨by decide +kernel, by decide +kernel⟩, List.mem_of_getElem? (i := 1325) (by decide +kernel), List.mem_of_getElem? (i := 1610) (by decide +kernel), List.mem_of_getElem? (i := 1611) (by decide +kernel)⟩
theorem lw_p62 : lw_okq (⟨"PairTreeModel", "takes", "(J)Z"⟩, 64) := ⟨⟨by decide +kernel, by decide +kernel⟩, List.mem_of_getElem? (i := 1325) (by decide +kernel), List.mem_of_getElem? (i := 1614) (by decide +kernel), List.mem_of_getElem? (i := 1615) (by decide +kernel)⟩
theorem lw_p63 : lw_okq (⟨"PairTreeModel", "pairs", "(I)V"⟩, 64) := ⟨⟨by decide +kernel, by decide +kernel⟩, List.mem_of_getElem? (i := 1325) (by decide +kernel), List.mem_of_getElem? (i := 1618) (by decide +kernel), List.mem_of_getElem? (i := 1619) (by decide +kernel)⟩
def lw_privs_4 : List (MethodName × Nat) := [(⟨"PairTree$Sightings", "dropUnfit", "(I)V"⟩, 16), (⟨"PairTree$Sightings", "fitsWith", "(II)Z"⟩, 16), (⟨"PairTreeModel", "four", "(I)V"⟩, 64), (⟨"PairTreeModel", "readAll", "()V"⟩, 64), (⟨"PairTreeModel", "goOn", "()V"⟩, 64), (⟨"PairTreeModel", "here", "(I)I"⟩, 64), (⟨"PairTreeModel", "isGood", "()Z"⟩, 64), (⟨"PairTreeModel", "line", "()V"⟩, 64), (⟨"PairTreeModel", "isWord", "(J)Z"⟩, 64), (⟨"PairTreeModel", "number", "(II)I"⟩, 64), (⟨"PairTreeModel", "wrong", "(I)V"⟩, 64), (⟨"PairTreeModel", "relation", "()V"⟩, 64), (⟨"PairTreeModel", "isOwn", "()Z"⟩, 64), (⟨"PairTreeModel", "relNamed", "(J)I"⟩, 64), (⟨"PairTreeModel", "takes", "(J)Z"⟩, 64), (⟨"PairTreeModel", "pairs", "(I)V"⟩, 64)]
theorem lw_r4 : ∀ q ∈ lw_privs_4, lw_okq q := List.forall_mem_cons.mpr ⟨lw_p48, List.forall_mem_cons.mpr ⟨lw_p49, List.forall_mem_cons.mpr ⟨lw_p50, List.forall_mem_cons.mpr ⟨lw_p51, List.forall_mem_cons.mpr ⟨lw_p52, List.forall_mem_cons.mpr ⟨lw_p53, List.forall_mem_cons.mpr ⟨lw_p54, List.forall_mem_cons.mpr ⟨lw_p55, List.forall_mem_cons.mpr ⟨lw_p56, List.forall_mem_cons.mpr ⟨lw_p57, List.forall_mem_cons.mpr ⟨lw_p58, List.forall_mem_cons.mpr ⟨lw_p59, List.forall_mem_cons.mpr ⟨lw_p60, List.forall_mem_cons.mpr ⟨lw_p61, List.forall_mem_cons.mpr ⟨lw_p62, List.forall_mem_cons.mpr ⟨lw_p63, fun _ h => absurd h List.not_mem_nil⟩⟩⟩⟩⟩⟩⟩⟩⟩⟩⟩⟩⟩⟩⟩⟩
theorem lw_p64 : lw_okq (⟨"PairTreeModel", "sizeOf", "(I)I"⟩, 64) := ⟨⟨by decide +kernel, by decide +kernel⟩, List.mem_of_getElem? (i := 1325) (by decide +kernel), List.mem_of_getElem? (i := 1622) (by decide +kernel), List.mem_of_getElem? (i := 1623) (by decide +kernel)⟩
theorem lw_p65 : lw_okq (⟨"PairTreeModel", "x", "()V"⟩, 64) := ⟨⟨by decide +kernel, by decide +kernel⟩, List.mem_of_getElem? (i := 1325) (by decide +kernel), List.mem_of_getElem? (i := 1626) (by decide +kernel), List.mem_of_getElem? (i := 1627) (by decide +kernel)⟩
theorem lw_p66 : lw_okq (⟨"PairTreeModel", "z", "()V"⟩, 64) := ⟨⟨by decide +kernel, by decide +kernel⟩, List.mem_of_getElem? (i := 1325) (by decide +kernel), List.mem_of_getElem? (i := 1630) (by decide +kernel), List.mem_of_getElem? (i := 1631) (by decide +kernel)⟩
theorem lw_p67 : lw_okq (⟨"PairTreeModel", "openUp", "(I)V"⟩, 64) := ⟨⟨by decide +kernel, by decide +kernel⟩, List.mem_of_getElem? (i := 1325) (by decide +kernel), List.mem_of_getElem? (i := 1634) (by decide +kernel), List.mem_of_getElem? (i := 1635) (by decide +kernel)⟩
theorem lw_p68 : lw_okq (⟨"PairTreeModel", "isMark", "(I)Z"⟩, 64) := ⟨⟨by decide +kernel, by decide +kernel⟩, List.mem_of_getElem? (i := 1325) (by decide +kernel), List.mem_of_getElem? (i := 1638) (by decide +kernel), List.mem_of_getElem? (i := 1639) (by decide +kernel)⟩
theorem lw_p69 : lw_okq (⟨"PairTreeModel", "leaf", "()V"⟩, 64) := ⟨⟨by decide +kernel, by decide +kernel⟩, List.mem_of_getElem? (i := 1325) (by decide +kernel), List.mem_of_getElem? (i := 1642) (by decide +kernel), List.mem_of_getElem? (i := 1643) (by decide +kernel)⟩
theorem lw_p70 : lw_okq (⟨"PairTreeModel", "lays", "(I)V"⟩, 64) := ⟨⟨by decide +kernel, by decide +kernel⟩, List.mem_of_getElem? (i := 1325) (by decide +kernel), List.mem_of_getElem? (i := 1646) (by decide +kernel), List.mem_of_getElem? (i := 1647) (by decide +kernel)⟩
theorem lw_p71 : lw_okq (⟨"PairTreeModel", "turnsDone", "()V"⟩, 64) := ⟨⟨by decide +kernel, by decide +kernel⟩, List.mem_of_getElem? (i := 1325) (by decide +kernel), List.mem_of_getElem? (i := 1650) (by decide +kernel), List.mem_of_getElem? (i := 1651) (by decide +kernel)⟩
theorem lw_p72 : lw_okq (⟨"PairTreeModel", "joinHere", "()I"⟩, 64) := ⟨⟨by decide +kernel, by decide +kernel⟩, List.mem_of_getElem? (i := 1325) (by decide +kernel), List.mem_of_getElem? (i := 1654) (by decide +kernel), List.mem_of_getElem? (i := 1655) (by decide +kernel)⟩
theorem lw_p73 : lw_okq (⟨"PairTreeModel", "closesTo", "(I)V"⟩, 64) := ⟨⟨by decide +kernel, by decide +kernel⟩, List.mem_of_getElem? (i := 1325) (by decide +kernel), List.mem_of_getElem? (i := 1661) (by decide +kernel), List.mem_of_getElem? (i := 1662) (by decide +kernel)⟩
theorem lw_p74 : lw_okq (⟨"PairTreeModel", "hasBracket", "()Z"⟩, 64) := ⟨⟨by decide +kernel, by decide +kernel⟩, List.mem_of_getElem? (i := 1325) (by decide +kernel), List.mem_of_getElem? (i := 1665) (by decide +kernel), List.mem_of_getElem? (i := 1666) (by decide +kernel)⟩
theorem lw_p75 : lw_okq (⟨"PairTreeModel", "formula", "()V"⟩, 64) := ⟨⟨by decide +kernel, by decide +kernel⟩, List.mem_of_getElem? (i := 1325) (by decide +kernel), List.mem_of_getElem? (i := 1669) (by decide +kernel), List.mem_of_getElem? (i := 1670) (by decide +kernel)⟩
theorem lw_p76 : lw_okq (⟨"PairTreeModel", "unit", "()V"⟩, 64) := ⟨⟨by decide +kernel, by decide +kernel⟩, List.mem_of_getElem? (i := 1325) (by decide +kernel), List.mem_of_getElem? (i := 1673) (by decide +kernel), List.mem_of_getElem? (i := 1674) (by decide +kernel)⟩
theorem lw_p77 : lw_okq (⟨"PairTreeModel", "mayNot", "()Z"⟩, 64) := ⟨⟨by decide +kernel, by decide +kernel⟩, List.mem_of_getElem? (i := 1325) (by decide +kernel), List.mem_of_getElem? (i := 1677) (by decide +kernel), List.mem_of_getElem? (i := 1678) (by decide +kernel)⟩
theorem lw_p78 : lw_okq (⟨"PairTreeModel", "isFull", "()Z"⟩, 64) := ⟨⟨by decide +kernel, by decide +kernel⟩, List.mem_of_getElem? (i := 1325) (by decide +kernel), List.mem_of_getElem? (i := 1684) (by decide +kernel), List.mem_of_getElem? (i := 1685) (by decide +kernel)⟩
theorem lw_p79 : lw_okq (⟨"PairTreeModel", "keepLays", "(I)V"⟩, 64) := ⟨⟨by decide +kernel, by decide +kernel⟩, List.mem_of_getElem? (i := 1325) (by decide +kernel), List.mem_of_getElem? (i := 1688) (by decide +kernel), List.mem_of_getElem? (i := 1689) (by decide +kernel)⟩
def lw_privs_5 : List (MethodName × Nat) := [(⟨"PairTreeModel", "sizeOf", "(I)I"⟩, 64), (⟨"PairTreeModel", "x", "()V"⟩, 64), (⟨"PairTreeModel", "z", "()V"⟩, 64), (⟨"PairTreeModel", "openUp", "(I)V"⟩, 64), (⟨"PairTreeModel", "isMark", "(I)Z"⟩, 64), (⟨"PairTreeModel", "leaf", "()V"⟩, 64), (⟨"PairTreeModel", "lays", "(I)V"⟩, 64), (⟨"PairTreeModel", "turnsDone", "()V"⟩, 64), (⟨"PairTreeModel", "joinHere", "()I"⟩, 64), (⟨"PairTreeModel", "closesTo", "(I)V"⟩, 64), (⟨"PairTreeModel", "hasBracket", "()Z"⟩, 64), (⟨"PairTreeModel", "formula", "()V"⟩, 64), (⟨"PairTreeModel", "unit", "()V"⟩, 64), (⟨"PairTreeModel", "mayNot", "()Z"⟩, 64), (⟨"PairTreeModel", "isFull", "()Z"⟩, 64), (⟨"PairTreeModel", "keepLays", "(I)V"⟩, 64)]
theorem lw_r5 : ∀ q ∈ lw_privs_5, lw_okq q := List.forall_mem_cons.mpr ⟨lw_p64, List.forall_mem_cons.mpr ⟨lw_p65, List.forall_mem_cons.mpr ⟨lw_p66, List.forall_mem_cons.mpr ⟨lw_p67, List.forall_mem_cons.mpr ⟨lw_p68, List.forall_mem_cons.mpr ⟨lw_p69, List.forall_mem_cons.mpr ⟨lw_p70, List.forall_mem_cons.mpr ⟨lw_p71, List.forall_mem_cons.mpr ⟨lw_p72, List.forall_mem_cons.mpr ⟨lw_p73, List.forall_mem_cons.mpr ⟨lw_p74, List.forall_mem_cons.mpr ⟨lw_p75, List.forall_mem_cons.mpr ⟨lw_p76, List.forall_mem_cons.mpr ⟨lw_p77, List.forall_mem_cons.mpr ⟨lw_p78, List.forall_mem_cons.mpr ⟨lw_p79, fun _ h => absurd h List.not_mem_nil⟩⟩⟩⟩⟩⟩⟩⟩⟩⟩⟩⟩⟩⟩⟩⟩
theorem lw_p80 : lw_okq (⟨"PairTreeModel", "signHere", "()I"⟩, 64) := ⟨⟨by decide +kernel, by decide +kernel⟩, List.mem_of_getElem? (i := 1325) (by decide +kernel), List.mem_of_getElem? (i := 1692) (by decide +kernel), List.mem_of_getElem? (i := 1693) (by decide +kernel)⟩
theorem lw_p81 : lw_okq (⟨"PairTreeModel", "formulaCloses", "(I)V"⟩, 64) := ⟨⟨by decide +kernel, by decide +kernel⟩, List.mem_of_getElem? (i := 1325) (by decide +kernel), List.mem_of_getElem? (i := 1696) (by decide +kernel), List.mem_of_getElem? (i := 1697) (by decide +kernel)⟩
theorem lw_p82 : lw_okq (⟨"PairTreeModel", "hasRelation", "()Z"⟩, 64) := ⟨⟨by decide +kernel, by decide +kernel⟩, List.mem_of_getElem? (i := 1325) (by decide +kernel), List.mem_of_getElem? (i := 1700) (by decide +kernel), List.mem_of_getElem? (i := 1701) (by decide +kernel)⟩
theorem lw_p83 : lw_okq (⟨"PairTreeModel", "needsMark", "(I)V"⟩, 64) := ⟨⟨by decide +kernel, by decide +kernel⟩, List.mem_of_getElem? (i := 1325) (by decide +kernel), List.mem_of_getElem? (i := 1704) (by decide +kernel), List.mem_of_getElem? (i := 1705) (by decide +kernel)⟩
theorem lw_p84 : lw_okq (⟨"PairTreeModel", "laysRel", "(I)Z"⟩, 64) := ⟨⟨by decide +kernel, by decide +kernel⟩, List.mem_of_getElem? (i := 1325) (by decide +kernel), List.mem_of_getElem? (i := 1719) (by decide +kernel), List.mem_of_getElem? (i := 1720) (by decide +kernel)⟩
theorem lw_p85 : lw_okq (⟨"PairTreeModel", "isRel", "(I)Z"⟩, 64) := ⟨⟨by decide +kernel, by decide +kernel⟩, List.mem_of_getElem? (i := 1325) (by decide +kernel), List.mem_of_getElem? (i := 1723) (by decide +kernel), List.mem_of_getElem? (i := 1724) (by decide +kernel)⟩
theorem lw_p86 : lw_okq (⟨"PairTreeModel", "lays", "()V"⟩, 64) := ⟨⟨by decide +kernel, by decide +kernel⟩, List.mem_of_getElem? (i := 1325) (by decide +kernel), List.mem_of_getElem? (i := 1727) (by decide +kernel), List.mem_of_getElem? (i := 1728) (by decide +kernel)⟩
theorem lw_p87 : lw_okq (⟨"PairTreeModel", "works", "(I)V"⟩, 64) := ⟨⟨by decide +kernel, by decide +kernel⟩, List.mem_of_getElem? (i := 1325) (by decide +kernel), List.mem_of_getElem? (i := 1731) (by decide +kernel), List.mem_of_getElem? (i := 1732) (by decide +kernel)⟩
theorem lw_p88 : lw_okq (⟨"PairTreeModel", "pushes", "(I)V"⟩, 64) := ⟨⟨by decide +kernel, by decide +kernel⟩, List.mem_of_getElem? (i := 1325) (by decide +kernel), List.mem_of_getElem? (i := 1735) (by decide +kernel), List.mem_of_getElem? (i := 1736) (by decide +kernel)⟩
theorem lw_p89 : lw_okq (⟨"PairTreeModel", "everyBit", "()I"⟩, 64) := ⟨⟨by decide +kernel, by decide +kernel⟩, List.mem_of_getElem? (i := 1325) (by decide +kernel), List.mem_of_getElem? (i := 1739) (by decide +kernel), List.mem_of_getElem? (i := 1740) (by decide +kernel)⟩
theorem lw_p90 : lw_okq (⟨"PairTreeModel", "wide", "()I"⟩, 64) := ⟨⟨by decide +kernel, by decide +kernel⟩, List.mem_of_getElem? (i := 1325) (by decide +kernel), List.mem_of_getElem? (i := 1743) (by decide +kernel), List.mem_of_getElem? (i := 1744) (by decide +kernel)⟩
theorem lw_p91 : lw_okq (⟨"PairTreeModel", "turnsBack", "([II)V"⟩, 64) := ⟨⟨by decide +kernel, by decide +kernel⟩, List.mem_of_getElem? (i := 1325) (by decide +kernel), List.mem_of_getElem? (i := 1747) (by decide +kernel), List.mem_of_getElem? (i := 1748) (by decide +kernel)⟩
theorem lw_p92 : lw_okq (⟨"PairTreeModel", "laysTree", "([II)V"⟩, 64) := ⟨⟨by decide +kernel, by decide +kernel⟩, List.mem_of_getElem? (i := 1325) (by decide +kernel), List.mem_of_getElem? (i := 1760) (by decide +kernel), List.mem_of_getElem? (i := 1761) (by decide +kernel)⟩
theorem lw_p93 : lw_okq (⟨"PairTreeModel", "laysQuarters", "([IIIII)V"⟩, 64) := ⟨⟨by decide +kernel, by decide +kernel⟩, List.mem_of_getElem? (i := 1325) (by decide +kernel), List.mem_of_getElem? (i := 1764) (by decide +kernel), List.mem_of_getElem? (i := 1765) (by decide +kernel)⟩
theorem lw_p94 : lw_okq (⟨"PairTreeModel", "sifts", "(I)V"⟩, 64) := ⟨⟨by decide +kernel, by decide +kernel⟩, List.mem_of_getElem? (i := 1325) (by decide +kernel), List.mem_of_getElem? (i := 1777) (by decide +kernel), List.mem_of_getElem? (i := 1778) (by decide +kernel)⟩
theorem lw_p95 : lw_okq (⟨"PairTreeModel", "keptBy", "(III)I"⟩, 64) := ⟨⟨by decide +kernel, by decide +kernel⟩, List.mem_of_getElem? (i := 1325) (by decide +kernel), List.mem_of_getElem? (i := 1781) (by decide +kernel), List.mem_of_getElem? (i := 1782) (by decide +kernel)⟩
def lw_privs_6 : List (MethodName × Nat) := [(⟨"PairTreeModel", "signHere", "()I"⟩, 64), (⟨"PairTreeModel", "formulaCloses", "(I)V"⟩, 64), (⟨"PairTreeModel", "hasRelation", "()Z"⟩, 64), (⟨"PairTreeModel", "needsMark", "(I)V"⟩, 64), (⟨"PairTreeModel", "laysRel", "(I)Z"⟩, 64), (⟨"PairTreeModel", "isRel", "(I)Z"⟩, 64), (⟨"PairTreeModel", "lays", "()V"⟩, 64), (⟨"PairTreeModel", "works", "(I)V"⟩, 64), (⟨"PairTreeModel", "pushes", "(I)V"⟩, 64), (⟨"PairTreeModel", "everyBit", "()I"⟩, 64), (⟨"PairTreeModel", "wide", "()I"⟩, 64), (⟨"PairTreeModel", "turnsBack", "([II)V"⟩, 64), (⟨"PairTreeModel", "laysTree", "([II)V"⟩, 64), (⟨"PairTreeModel", "laysQuarters", "([IIIII)V"⟩, 64), (⟨"PairTreeModel", "sifts", "(I)V"⟩, 64), (⟨"PairTreeModel", "keptBy", "(III)I"⟩, 64)]
theorem lw_r6 : ∀ q ∈ lw_privs_6, lw_okq q := List.forall_mem_cons.mpr ⟨lw_p80, List.forall_mem_cons.mpr ⟨lw_p81, List.forall_mem_cons.mpr ⟨lw_p82, List.forall_mem_cons.mpr ⟨lw_p83, List.forall_mem_cons.mpr ⟨lw_p84, List.forall_mem_cons.mpr ⟨lw_p85, List.forall_mem_cons.mpr ⟨lw_p86, List.forall_mem_cons.mpr ⟨lw_p87, List.forall_mem_cons.mpr ⟨lw_p88, List.forall_mem_cons.mpr ⟨lw_p89, List.forall_mem_cons.mpr ⟨lw_p90, List.forall_mem_cons.mpr ⟨lw_p91, List.forall_mem_cons.mpr ⟨lw_p92, List.forall_mem_cons.mpr ⟨lw_p93, List.forall_mem_cons.mpr ⟨lw_p94, List.forall_mem_cons.mpr ⟨lw_p95, fun _ h => absurd h List.not_mem_nil⟩⟩⟩⟩⟩⟩⟩⟩⟩⟩⟩⟩⟩⟩⟩⟩
theorem lw_p96 : lw_okq (⟨"PairTreeModel", "arePair", "(III)Z"⟩, 64) := ⟨⟨by decide +kernel, by decide +kernel⟩, List.mem_of_getElem? (i := 1325) (by decide +kernel), List.mem_of_getElem? (i := 1795) (by decide +kernel), List.mem_of_getElem? (i := 1796) (by decide +kernel)⟩
theorem lw_p97 : lw_okq (⟨"PairTreeModel", "isNode", "(I)Z"⟩, 64) := ⟨⟨by decide +kernel, by decide +kernel⟩, List.mem_of_getElem? (i := 1325) (by decide +kernel), List.mem_of_getElem? (i := 1799) (by decide +kernel), List.mem_of_getElem? (i := 1800) (by decide +kernel)⟩
theorem lw_p98 : lw_okq (⟨"PairTreeModel", "exchanges", "(I)V"⟩, 64) := ⟨⟨by decide +kernel, by decide +kernel⟩, List.mem_of_getElem? (i := 1325) (by decide +kernel), List.mem_of_getElem? (i := 1807) (by decide +kernel), List.mem_of_getElem? (i := 1808) (by decide +kernel)⟩
theorem lw_p99 : lw_okq (⟨"PairTreeModel", "turns", "(IIII)I"⟩, 64) := ⟨⟨by decide +kernel, by decide +kernel⟩, List.mem_of_getElem? (i := 1325) (by decide +kernel), List.mem_of_getElem? (i := 1819) (by decide +kernel), List.mem_of_getElem? (i := 1820) (by decide +kernel)⟩
theorem lw_p100 : lw_okq (⟨"PairTreeModel", "keeps", "()V"⟩, 64) := ⟨⟨by decide +kernel, by decide +kernel⟩, List.mem_of_getElem? (i := 1325) (by decide +kernel), List.mem_of_getElem? (i := 1823) (by decide +kernel), List.mem_of_getElem? (i := 1824) (by decide +kernel)⟩
theorem lw_p101 : lw_okq (⟨"PairTreeModel", "laysTwo", "(II)Z"⟩, 64) := ⟨⟨by decide +kernel, by decide +kernel⟩, List.mem_of_getElem? (i := 1325) (by decide +kernel), List.mem_of_getElem? (i := 1838) (by decide +kernel), List.mem_of_getElem? (i := 1839) (by decide +kernel)⟩
theorem lw_p102 : lw_okq (⟨"PairTreeModel", "makes", "(III)V"⟩, 64) := ⟨⟨by decide +kernel, by decide +kernel⟩, List.mem_of_getElem? (i := 1325) (by decide +kernel), List.mem_of_getElem? (i := 1842) (by decide +kernel), List.mem_of_getElem? (i := 1843) (by decide +kernel)⟩
theorem lw_p103 : lw_okq (⟨"PairTreeModel", "isBit", "(II)Z"⟩, 64) := ⟨⟨by decide +kernel, by decide +kernel⟩, List.mem_of_getElem? (i := 1325) (by decide +kernel), List.mem_of_getElem? (i := 1858) (by decide +kernel), List.mem_of_getElem? (i := 1859) (by decide +kernel)⟩
theorem lw_p104 : lw_okq (⟨"PairTreeModel", "rankOf", "(I)I"⟩, 64) := ⟨⟨by decide +kernel, by decide +kernel⟩, List.mem_of_getElem? (i := 1325) (by decide +kernel), List.mem_of_getElem? (i := 1866) (by decide +kernel), List.mem_of_getElem? (i := 1867) (by decide +kernel)⟩
theorem lw_p105 : lw_okq (⟨"PairTreeModel", "laysDown", "(I)I"⟩, 64) := ⟨⟨by decide +kernel, by decide +kernel⟩, List.mem_of_getElem? (i := 1325) (by decide +kernel), List.mem_of_getElem? (i := 1886) (by decide +kernel), List.mem_of_getElem? (i := 1887) (by decide +kernel)⟩
theorem lw_p106 : lw_okq (⟨"PairTreeModel", "columnSet", "(II)I"⟩, 64) := ⟨⟨by decide +kernel, by decide +kernel⟩, List.mem_of_getElem? (i := 1325) (by decide +kernel), List.mem_of_getElem? (i := 1894) (by decide +kernel), List.mem_of_getElem? (i := 1895) (by decide +kernel)⟩
theorem lw_p107 : lw_okq (⟨"PairTreeModel", "isRect", "(IIIII)Z"⟩, 64) := ⟨⟨by decide +kernel, by decide +kernel⟩, List.mem_of_getElem? (i := 1325) (by decide +kernel), List.mem_of_getElem? (i := 1902) (by decide +kernel), List.mem_of_getElem? (i := 1903) (by decide +kernel)⟩
theorem lw_p108 : lw_okq (⟨"PairTreeModel", "hasSome", "(IIII)Z"⟩, 64) := ⟨⟨by decide +kernel, by decide +kernel⟩, List.mem_of_getElem? (i := 1325) (by decide +kernel), List.mem_of_getElem? (i := 1914) (by decide +kernel), List.mem_of_getElem? (i := 1915) (by decide +kernel)⟩
theorem lw_p109 : lw_okq (⟨"PairTreeModel", "reachedFrom", "(II)I"⟩, 64) := ⟨⟨by decide +kernel, by decide +kernel⟩, List.mem_of_getElem? (i := 1325) (by decide +kernel), List.mem_of_getElem? (i := 1950) (by decide +kernel), List.mem_of_getElem? (i := 1951) (by decide +kernel)⟩
theorem lw_p110 : lw_okq (⟨"PairTreeModel", "isSoIn", "(III)Z"⟩, 64) := ⟨⟨by decide +kernel, by decide +kernel⟩, List.mem_of_getElem? (i := 1325) (by decide +kernel), List.mem_of_getElem? (i := 1978) (by decide +kernel), List.mem_of_getElem? (i := 1979) (by decide +kernel)⟩
theorem lw_p111 : lw_okq (⟨"PairTreeModel", "isBlock", "(II)Z"⟩, 64) := ⟨⟨by decide +kernel, by decide +kernel⟩, List.mem_of_getElem? (i := 1325) (by decide +kernel), List.mem_of_getElem? (i := 2001) (by decide +kernel), List.mem_of_getElem? (i := 2002) (by decide +kernel)⟩
def lw_privs_7 : List (MethodName × Nat) := [(⟨"PairTreeModel", "arePair", "(III)Z"⟩, 64), (⟨"PairTreeModel", "isNode", "(I)Z"⟩, 64), (⟨"PairTreeModel", "exchanges", "(I)V"⟩, 64), (⟨"PairTreeModel", "turns", "(IIII)I"⟩, 64), (⟨"PairTreeModel", "keeps", "()V"⟩, 64), (⟨"PairTreeModel", "laysTwo", "(II)Z"⟩, 64), (⟨"PairTreeModel", "makes", "(III)V"⟩, 64), (⟨"PairTreeModel", "isBit", "(II)Z"⟩, 64), (⟨"PairTreeModel", "rankOf", "(I)I"⟩, 64), (⟨"PairTreeModel", "laysDown", "(I)I"⟩, 64), (⟨"PairTreeModel", "columnSet", "(II)I"⟩, 64), (⟨"PairTreeModel", "isRect", "(IIIII)Z"⟩, 64), (⟨"PairTreeModel", "hasSome", "(IIII)Z"⟩, 64), (⟨"PairTreeModel", "reachedFrom", "(II)I"⟩, 64), (⟨"PairTreeModel", "isSoIn", "(III)Z"⟩, 64), (⟨"PairTreeModel", "isBlock", "(II)Z"⟩, 64)]
theorem lw_r7 : ∀ q ∈ lw_privs_7, lw_okq q := List.forall_mem_cons.mpr ⟨lw_p96, List.forall_mem_cons.mpr ⟨lw_p97, List.forall_mem_cons.mpr ⟨lw_p98, List.forall_mem_cons.mpr ⟨lw_p99, List.forall_mem_cons.mpr ⟨lw_p100, List.forall_mem_cons.mpr ⟨lw_p101, List.forall_mem_cons.mpr ⟨lw_p102, List.forall_mem_cons.mpr ⟨lw_p103, List.forall_mem_cons.mpr ⟨lw_p104, List.forall_mem_cons.mpr ⟨lw_p105, List.forall_mem_cons.mpr ⟨lw_p106, List.forall_mem_cons.mpr ⟨lw_p107, List.forall_mem_cons.mpr ⟨lw_p108, List.forall_mem_cons.mpr ⟨lw_p109, List.forall_mem_cons.mpr ⟨lw_p110, List.forall_mem_cons.mpr ⟨lw_p111, fun _ h => absurd h List.not_mem_nil⟩⟩⟩⟩⟩⟩⟩⟩⟩⟩⟩⟩⟩⟩⟩⟩
theorem lw_p112 : lw_okq (⟨"PairTreeModel", "laysFirst", "()V"⟩, 64) := ⟨⟨by decide +kernel, by decide +kernel⟩, List.mem_of_getElem? (i := 1325) (by decide +kernel), List.mem_of_getElem? (i := 2018) (by decide +kernel), List.mem_of_getElem? (i := 2019) (by decide +kernel)⟩
theorem lw_p113 : lw_okq (⟨"PairTreeModel", "lastPair", "()I"⟩, 64) := ⟨⟨by decide +kernel, by decide +kernel⟩, List.mem_of_getElem? (i := 1325) (by decide +kernel), List.mem_of_getElem? (i := 2022) (by decide +kernel), List.mem_of_getElem? (i := 2023) (by decide +kernel)⟩
theorem lw_p114 : lw_okq (⟨"PairTreeModel", "fitsBy", "(II)Z"⟩, 64) := ⟨⟨by decide +kernel, by decide +kernel⟩, List.mem_of_getElem? (i := 1325) (by decide +kernel), List.mem_of_getElem? (i := 2026) (by decide +kernel), List.mem_of_getElem? (i := 2027) (by decide +kernel)⟩
theorem lw_p115 : lw_okq (⟨"PairTreeModel", "doesCount", "(II)Z"⟩, 64) := ⟨⟨by decide +kernel, by decide +kernel⟩, List.mem_of_getElem? (i := 1325) (by decide +kernel), List.mem_of_getElem? (i := 2030) (by decide +kernel), List.mem_of_getElem? (i := 2031) (by decide +kernel)⟩
theorem lw_p116 : lw_okq (⟨"PairTreeModel", "countBy", "(III)I"⟩, 64) := ⟨⟨by decide +kernel, by decide +kernel⟩, List.mem_of_getElem? (i := 1325) (by decide +kernel), List.mem_of_getElem? (i := 2034) (by decide +kernel), List.mem_of_getElem? (i := 2035) (by decide +kernel)⟩
theorem lw_p117 : lw_okq (⟨"PairTreeModel", "leftBy", "(II)I"⟩, 64) := ⟨⟨by decide +kernel, by decide +kernel⟩, List.mem_of_getElem? (i := 1325) (by decide +kernel), List.mem_of_getElem? (i := 2046) (by decide +kernel), List.mem_of_getElem? (i := 2047) (by decide +kernel)⟩
theorem lw_p118 : lw_okq (⟨"PairTreeModel", "pairsAll", "()I"⟩, 64) := ⟨⟨by decide +kernel, by decide +kernel⟩, List.mem_of_getElem? (i := 1325) (by decide +kernel), List.mem_of_getElem? (i := 2054) (by decide +kernel), List.mem_of_getElem? (i := 2055) (by decide +kernel)⟩
theorem lw_p119 : lw_okq (⟨"PairTreeModel", "toldSet", "()I"⟩, 64) := ⟨⟨by decide +kernel, by decide +kernel⟩, List.mem_of_getElem? (i := 1325) (by decide +kernel), List.mem_of_getElem? (i := 2066) (by decide +kernel), List.mem_of_getElem? (i := 2067) (by decide +kernel)⟩
def lw_privs_8 : List (MethodName × Nat) := [(⟨"PairTreeModel", "laysFirst", "()V"⟩, 64), (⟨"PairTreeModel", "lastPair", "()I"⟩, 64), (⟨"PairTreeModel", "fitsBy", "(II)Z"⟩, 64), (⟨"PairTreeModel", "doesCount", "(II)Z"⟩, 64), (⟨"PairTreeModel", "countBy", "(III)I"⟩, 64), (⟨"PairTreeModel", "leftBy", "(II)I"⟩, 64), (⟨"PairTreeModel", "pairsAll", "()I"⟩, 64), (⟨"PairTreeModel", "toldSet", "()I"⟩, 64)]
theorem lw_r8 : ∀ q ∈ lw_privs_8, lw_okq q := List.forall_mem_cons.mpr ⟨lw_p112, List.forall_mem_cons.mpr ⟨lw_p113, List.forall_mem_cons.mpr ⟨lw_p114, List.forall_mem_cons.mpr ⟨lw_p115, List.forall_mem_cons.mpr ⟨lw_p116, List.forall_mem_cons.mpr ⟨lw_p117, List.forall_mem_cons.mpr ⟨lw_p118, List.forall_mem_cons.mpr ⟨lw_p119, fun _ h => absurd h List.not_mem_nil⟩⟩⟩⟩⟩⟩⟩⟩
def lw_privs : List (MethodName × Nat) := lw_privs_1 ++ (lw_privs_2 ++ (lw_privs_3 ++ (lw_privs_4 ++ (lw_privs_5 ++ (lw_privs_6 ++ (lw_privs_7 ++ (lw_privs_8)))))))
def lw_tbl : List Cond := k2_sels lw_privs ++ tables_1
theorem lw_privs_ok : ∀ q ∈ lw_privs, lw_okq q := by
  show ∀ q ∈ lw_privs_1 ++ (lw_privs_2 ++ (lw_privs_3 ++ (lw_privs_4 ++ (lw_privs_5 ++ (lw_privs_6 ++ (lw_privs_7 ++ (lw_privs_8))))))), lw_okq q
  exact List.forall_mem_append.mpr ⟨lw_r1, List.forall_mem_append.mpr ⟨lw_r2, List.forall_mem_append.mpr ⟨lw_r3, List.forall_mem_append.mpr ⟨lw_r4, List.forall_mem_append.mpr ⟨lw_r5, List.forall_mem_append.mpr ⟨lw_r6, List.forall_mem_append.mpr ⟨lw_r7, lw_r8⟩⟩⟩⟩⟩⟩⟩
-- ===== end of PART A; then your names; then what follows =====
end
section
/-! A small machine beside the JVM: the same instructions over a plain heap (numbers, longs and references by address and place). Its runs are tied to the JVM's in 03; all else is said of it. -/
abbrev MH : Type := Nat × Nat × (Nat → Nat) × (Nat → Nat) × (Nat → Nat → Int32) × (Nat → Nat → Int64) × (Nat → Nat → Option Nat)
/-- how many cells there are; how many slots were made; the kind of a cell; its length; its numbers, longs, references -/
def hT (h : MH) : Nat := h.1
def hS (h : MH) : Nat := h.2.1
def hC (h : MH) : Nat → Nat := h.2.2.1
def hN (h : MH) : Nat → Nat := h.2.2.2.1
def hI (h : MH) : Nat → Nat → Int32 := h.2.2.2.2.1
def hL (h : MH) : Nat → Nat → Int64 := h.2.2.2.2.2.1
def hR (h : MH) : Nat → Nat → Option Nat := h.2.2.2.2.2.2
def up2 {α : Type} (f : Nat → Nat → α) (a k : Nat) (v : α) : Nat → Nat → α := fun b j => if b = a then (if j = k then v else f b j) else f b j
def up1 {α : Type} (f : Nat → α) (a : Nat) (v : α) : Nat → α := fun b => if b = a then v else f b
def sI (h : MH) (a k : Nat) (v : Int32) : MH := (hT h, hS h, hC h, hN h, up2 (hI h) a k v, hL h, hR h)
def sL (h : MH) (a k : Nat) (v : Int64) : MH := (hT h, hS h, hC h, hN h, hI h, up2 (hL h) a k v, hR h)
def sR (h : MH) (a k : Nat) (v : Nat) : MH := (hT h, hS h, hC h, hN h, hI h, hL h, up2 (hR h) a k (some v))
/-- a new cell: a kind, a length -/
def nw (h : MH) (tag n : Nat) : MH := (hT h + 1, hS h + n, up1 (hC h) (hT h) tag, up1 (hN h) (hT h) n, up1 (hI h) (hT h) (fun _ => 0), up1 (hL h) (hT h) (fun _ => 0), up1 (hR h) (hT h) (fun _ => none))
/-- an array's numbers copied over another's -/
def cpI (h : MH) (a sp b dp n : Nat) : MH := (hT h, hS h, hC h, hN h, up1 (hI h) b (va_cpy (hI h a) (hI h b) sp dp n), hL h, hR h)
/-- an outer array of n rows, each of k numbers -/
def nwRows (h : MH) (tag n k : Nat) : MH := (hT h + 1 + n, hS h + n + n * k, fun a => if a = hT h then tag else if hT h < a ∧ a < hT h + 1 + n then 20 else hC h a, fun a => if a = hT h then n else if hT h < a ∧ a < hT h + 1 + n then k else hN h a, fun a => if hT h ≤ a ∧ a < hT h + 1 + n then (fun _ => 0) else hI h a, fun a => if hT h ≤ a ∧ a < hT h + 1 + n then (fun _ => 0) else hL h a, fun a => if a = hT h then (fun i => if i < n then some (hT h + 1 + i) else none) else if hT h < a ∧ a < hT h + 1 + n then (fun _ => none) else hR h a)

abbrev Ent : Type := Instr × Nat × List Nat
abbrev MRes : Type := Option (Option Value × MH)
abbrev MLoc : Type := List (Option Value)
abbrev MRec : Type := Nat → Nat → Nat → MLoc → List Value → MH → MRes
def mI (n : Nat) : Int32 := Int32.ofInt (-(n : Int))
def kc : List Nat → Int32
  | 1 :: n :: _ => nI n
  | 0 :: n :: _ => mI n
  | _ => 0
def cI (v : Int) : Int32 := match v with
  | .ofNat n => nI n
  | .negSucc n => mI (n + 1)
def nth {α : Type} : List α → Nat → Option α
  | [], _ => none
  | x :: _, 0 => some x
  | _ :: l, n + 1 => nth l n
def dlg (x : Option Value) : Option Value := match x with
  | some (.long _) => none
  | y => y
def st1 : MLoc → Nat → Value → MLoc
  | [], _, _ => []
  | _ :: l, 0, v => some v :: l
  | x :: l, 1, v => dlg x :: st1 l 0 v
  | x :: l, n + 2, v => x :: st1 l (n + 1) v
def st2 : MLoc → Nat → Value → MLoc
  | _ :: _ :: l, 0, v => some v :: none :: l
  | x :: l, 1, v => dlg x :: st2 l 0 v
  | x :: l, n + 2, v => x :: st2 l (n + 1) v
  | l, _, _ => l
def msk : List Nat → MLoc → MLoc
  | 0 :: m, _ :: l => none :: msk m l
  | _ :: m, x :: l => x :: msk m l
  | _, l => l
def entl : List Value → Nat → MLoc
  | [], n => List.replicate n none
  | .long x :: vs, n => some (.long x) :: none :: entl vs (n - 2)
  | .double x :: vs, n => some (.double x) :: none :: entl vs (n - 2)
  | v :: vs, n => some v :: entl vs (n - 1)
def popn : Nat → List Value → List Value → Option (List Value × List Value)
  | 0, st, acc => some (acc, st)
  | n + 1, v :: st, acc => popn n st (v :: acc)
  | _, [], _ => none
def csum : List Value → Nat
  | [] => 0
  | v :: l => v.category + csum l
def pI (st : List Value) (k : Int32 → List Value → MRes) : MRes := match st with
  | .int x :: s => k x s
  | _ => none
def pL (st : List Value) (k : Int64 → List Value → MRes) : MRes := match st with
  | .long x :: s => k x s
  | _ => none
def pR (st : List Value) (k : Nat → List Value → MRes) : MRes := match st with
  | .ref x :: s => k x s
  | _ => none
def lI (ls : MLoc) (i : Nat) (k : Int32 → MRes) : MRes := match nth ls i with
  | some (some (.int x)) => k x
  | _ => none
def lL (ls : MLoc) (i : Nat) (k : Int64 → MRes) : MRes := match nth ls i with
  | some (some (.long x)) => k x
  | _ => none
def lR (ls : MLoc) (i : Nat) (k : Nat → MRes) : MRes := match nth ls i with
  | some (some (.ref x)) => k x
  | _ => none
/-- a cell is of a kind; an index lies in it; a reference isn't null; a divisor isn't 0; the stack is low -/
def isC (h : MH) (a tag : Nat) (k : MRes) : MRes := if hC h a = tag then k else none
def inA (h : MH) (a : Nat) (i : Int32) (k : MRes) : MRes := if i < 0 ∨ hN h a ≤ i.toNatClampNeg then none else k
def nnR (r : Option Nat) (k : Nat → MRes) : MRes := match r with
  | some x => k x
  | none => none
def nz (y : Int32) (k : MRes) : MRes := if y = 0 then none else k
def isZ (x : Int32) (k : MRes) : MRes := if x &&& 1 = x then k else none
def low (n : Nat) (k : MRes) : MRes := match Nat.ble n 8 with
  | true => k
  | false => none
def okN (n : Int32) (k : Nat → MRes) : MRes := if n < 0 ∨ 4096 < n.toNatClampNeg then none else k n.toNatClampNeg
/-- what a call gives back: nothing, a number, a long, a reference -/
def rV (r : MRes) (k : MH → MRes) : MRes := match r with
  | some (none, h) => k h
  | _ => none
def rI (r : MRes) (k : Int32 → MH → MRes) : MRes := match r with
  | some (some (.int x), h) => k x h
  | _ => none
def rR (r : MRes) (k : Nat → MH → MRes) : MRes := match r with
  | some (some (.ref x), h) => k x h
  | _ => none
def br (c : Prop) [Decidable c] (a b : MRes) : MRes := if c then a else b
def jsw : List (Int × Nat) → Int32 → Nat → (Nat → MRes) → MRes
  | [], _, d, k => k d
  | (v, t) :: l, x, d, k => br (x = cI v) (k t) (jsw l x d k)
def tbk (lo : Int) : List Nat → List (Int × Nat)
  | [] => []
  | t :: l => (lo, t) :: tbk (lo + 1) l
def lkk : List (Int × Int) → List Nat → List (Int × Nat)
  | p :: ps, t :: l => (p.1, t) :: lkk ps l
  | _, _ => []
def jmp (K : Nat → MLoc → List Value → MH → MRes) (rec : MRec) (M d : Nat) (inf : List Nat) (ls : MLoc) (st : List Value) (h : MH) : MRes := match inf with
  | 1 :: s :: _ => K s ls st h
  | 0 :: t :: m => rec M d t (msk m ls) st h
  | _ => none
def ccond (c : ClassFile.Cond) (x y : Int32) (a b : MRes) : MRes := match c with
  | .eq => br (x = y) a b
  | .ne => br (x = y) b a
  | .lt => br (x < y) a b
  | .ge => br (x < y) b a
  | .gt => br (y < x) a b
  | .le => br (y < x) b a
def narI (k : Nat) (x : Int32) (c : MRes) : MRes := match k with
  | 0 => c
  | 1 => isZ x c
  | 2 => if x.toInt8.toInt32 = x then c else none
  | _ => if x.toUInt32.toUInt16.toUInt32.toInt32 = x then c else none
def anyR (r : Option Nat) (k : Value → MRes) : MRes := match r with
  | some x => k (.ref x)
  | none => k .null
def getF (h : MH) (a tag k kd : Nat) (c : Value → MRes) : MRes := isC h a tag (match kd with
  | 0 => c (.int (hI h a k))
  | 1 => c (.long (hL h a k))
  | _ => nnR (hR h a k) (fun r => c (.ref r)))
def putF (h : MH) (tag k kd : Nat) (st : List Value) (c : List Value → MH → MRes) : MRes := match kd with
  | 0 => pI st fun x st => pR st fun a st => isC h a tag (c st (sI h a k x))
  | 1 => pL st fun x st => pR st fun a st => isC h a tag (c st (sL h a k x))
  | 2 => pR st fun r st => pR st fun a st => isC h a tag (c st (sR h a k r))
  | _ => pI st fun x st => pR st fun a st => isC h a tag (isZ x (c st (sI h a k x)))
def aldF (h : MH) (tag : Nat) (st : List Value) (c : Nat → Nat → List Value → MRes) : MRes :=
  pI st fun i st => pR st fun a st => isC h a tag (inA h a i (c a i.toNatClampNeg st))
/-- a call: its kind (0 static, 1 virtual, 2 a constructor), the method, how many arguments, what comes back, the callee's locals, the receiver's kind -/
def rtn (rk : Nat) (r : MRes) (st : List Value) (c : List Value → MH → MRes) : MRes := match rk with
  | 0 => rV r (fun h => c st h)
  | 1 => rI r (fun x h => c (.int x :: st) h)
  | _ => rR r (fun x h => c (.ref x :: st) h)
def dth (dd d : Nat) (k : Nat → MRes) : MRes := match dd with
  | 0 => k 0
  | 1 => k d
  | _ => if d < 8 then k (d + 1) else none
def callF (rec : MRec) (d : Nat) (inf : List Nat) (st : List Value) (h : MH) (c : List Value → MH → MRes) : MRes := match inf with
  | kd :: mid :: n :: rk :: nl :: tag :: dd :: _ => match popn n st [] with
    | some (as, st) => match kd with
      | 0 => low (csum st) (dth dd d fun e => rtn rk (rec mid e 0 (entl as nl) [] h) st c)
      | 1 => pR st fun a st => isC h a tag (low (csum st) (dth dd d fun e => rtn rk (rec mid e 0 (entl (.ref a :: as) nl) [] h) st c))
      | 2 => pR st fun a st => low (csum st) (dth dd d fun e => rtn rk (rec mid e 0 (entl (.ref a :: as) nl) [] h) st c)
      | _ => none
    | none => none
  | _ => none
def copyF (h : MH) (st : List Value) (c : List Value → MH → MRes) : MRes :=
  pI st fun n st => pI st fun dp st => pR st fun b st => pI st fun sp st => pR st fun a st =>
    isC h a 20 (isC h b 20 (low (csum st) (if n < 0 ∨ dp < 0 ∨ sp < 0 ∨ hN h a < sp.toNatClampNeg + n.toNatClampNeg ∨ hN h b < dp.toNatClampNeg + n.toNatClampNeg then none else c st (cpI h a sp.toNatClampNeg b dp.toNatClampNeg n.toNatClampNeg))))
def newsF (h : MH) (tag : Nat) (st : List Value) (c : List Value → MH → MRes) : MRes := pI st fun n st => okN n fun N => c (.ref (hT h) :: st) (nw h tag N)
def dup2F (st : List Value) (c : List Value → MRes) : MRes := match st with
  | .int x :: .ref a :: s => c (.int x :: .ref a :: .int x :: .ref a :: s)
  | _ => none
def dupF (st : List Value) (c : List Value → MRes) : MRes := match st with
  | .int x :: s => c (.int x :: .int x :: s)
  | .ref x :: s => c (.ref x :: .ref x :: s)
  | _ => none
def popF (st : List Value) (c : List Value → MRes) : MRes := match st with
  | .int _ :: s => c s
  | .ref _ :: s => c s
  | _ => none
/-- one instruction; K goes on behind it (so many entries further) -/
def stp (K : Nat → MLoc → List Value → MH → MRes) (rec : MRec) (M d : Nat) (ins : Instr) (inf : List Nat) (ls : MLoc) (st : List Value) (h : MH) : MRes := match ins with
  | .nop => match inf with
    | t :: m => rec M d t (msk m ls) st h
    | [] => none
  | .iconst _ => K 0 ls (.int (kc inf) :: st) h
  | .bipush _ => K 0 ls (.int (kc inf) :: st) h
  | .sipush _ => K 0 ls (.int (kc inf) :: st) h
  | .ldc _ => match inf with
    | 98 :: k :: _ => nnR (hR h 0 k) fun a => K 0 ls (.ref a :: st) h
    | l => K 0 ls (.int (kc l) :: st) h
  | .ldc_w _ => K 0 ls (.int (kc inf) :: st) h
  | .ldc2_w _ => match inf with
    | n :: _ => K 0 ls (.long (lN n) :: st) h
    | [] => none
  | .lconst n => K 0 ls (.long (lN n) :: st) h
  | .iload_n n => lI ls n fun x => K 0 ls (.int x :: st) h
  | .iload n => lI ls n fun x => K 0 ls (.int x :: st) h
  | .lload_n n => lL ls n fun x => K 0 ls (.long x :: st) h
  | .lload n => lL ls n fun x => K 0 ls (.long x :: st) h
  | .aload_n n => lR ls n fun x => K 0 ls (.ref x :: st) h
  | .aload n => lR ls n fun x => K 0 ls (.ref x :: st) h
  | .istore_n n => pI st fun x st => K 0 (st1 ls n (.int x)) st h
  | .istore n => pI st fun x st => K 0 (st1 ls n (.int x)) st h
  | .astore_n n => pR st fun x st => K 0 (st1 ls n (.ref x)) st h
  | .astore n => pR st fun x st => K 0 (st1 ls n (.ref x)) st h
  | .lstore_n n => pL st fun x st => K 0 (st2 ls n (.long x)) st h
  | .lstore n => pL st fun x st => K 0 (st2 ls n (.long x)) st h
  | .iinc n _ => lI ls n fun x => K 0 (st1 ls n (.int (x + kc inf))) st h
  | .iadd => pI st fun y st => pI st fun x st => K 0 ls (.int (x + y) :: st) h
  | .isub => pI st fun y st => pI st fun x st => K 0 ls (.int (x - y) :: st) h
  | .imul => pI st fun y st => pI st fun x st => K 0 ls (.int (x * y) :: st) h
  | .idiv => pI st fun y st => pI st fun x st => nz y (K 0 ls (.int (x / y) :: st) h)
  | .irem => pI st fun y st => pI st fun x st => nz y (K 0 ls (.int (x - x / y * y) :: st) h)
  | .iand => pI st fun y st => pI st fun x st => K 0 ls (.int (x &&& y) :: st) h
  | .ior => pI st fun y st => pI st fun x st => K 0 ls (.int (x ||| y) :: st) h
  | .ixor => pI st fun y st => pI st fun x st => K 0 ls (.int (x ^^^ y) :: st) h
  | .ishl => pI st fun y st => pI st fun x st => K 0 ls (.int (x <<< (y &&& 31)) :: st) h
  | .ishr => pI st fun y st => pI st fun x st => K 0 ls (.int (x >>> (y &&& 31)) :: st) h
  | .iushr => pI st fun y st => pI st fun x st => K 0 ls (.int (x.toUInt32 >>> (y.toUInt32 &&& Int32.toUInt32 31)).toInt32 :: st) h
  | .i2b => pI st fun x st => K 0 ls (.int x.toInt8.toInt32 :: st) h
  | .i2c => pI st fun x st => K 0 ls (.int (x.toUInt32 % 65536).toInt32 :: st) h
  | .i2l => pI st fun x st => K 0 ls (.long x.toInt64 :: st) h
  | .lshl => pI st fun y st => pL st fun x st => K 0 ls (.long (x <<< (y.toInt64 &&& 63)) :: st) h
  | .lor => pL st fun y st => pL st fun x st => K 0 ls (.long (x ||| y) :: st) h
  | .lcmp => pL st fun y st => pL st fun x st => K 0 ls (.int (lg_cmp x y) :: st) h
  | .dup => dupF st fun st => K 0 ls st h
  | .pop => popF st fun st => K 0 ls st h
  | .dup2 => dup2F st fun st => K 0 ls st h
  | .goto _ => jmp K rec M d inf ls st h
  | .ifCond c _ => pI st fun x st => ccond c x (nI 0) (jmp K rec M d inf ls st h) (K 0 ls st h)
  | .if_icmp c _ => pI st fun y st => pI st fun x st => ccond c x y (jmp K rec M d inf ls st h) (K 0 ls st h)
  | .ifnull _ => pR st fun _ st => K 0 ls st h
  | .ifnonnull _ => pR st fun _ st => jmp K rec M d inf ls st h
  | .tableswitch _ lo _ _ => match inf with
    | df :: ts => pI st fun x st => jsw (tbk lo ts) x df fun t => K t ls st h
    | [] => none
  | .lookupswitch _ ps => match inf with
    | df :: ts => pI st fun x st => jsw (lkk ps.toList ts) x df fun t => K t ls st h
    | [] => none
  | .getfield _ => match inf with
    | tag :: k :: kd :: _ => pR st fun a st => getF h a tag k kd fun v => K 0 ls (v :: st) h
    | _ => none
  | .getstatic _ => match inf with
    | 98 :: k :: _ => anyR (hR h 0 k) fun v => K 0 ls (v :: st) h
    | l => K 0 ls (.int (kc l) :: st) h
  | .putfield _ => match inf with
    | tag :: k :: kd :: _ => putF h tag k kd st fun st h => K 0 ls st h
    | _ => none
  | .new _ => match inf with
    | tag :: n :: _ => K 0 ls (.ref (hT h) :: st) (nw h tag n)
    | _ => none
  | .newarray _ => match inf with
    | tag :: _ => newsF h tag st fun st h => K 0 ls st h
    | _ => none
  | .anewarray _ => match inf with
    | tag :: _ => newsF h tag st fun st h => K 0 ls st h
    | _ => none
  | .multianewarray _ _ => match inf with
    | tag :: _ => pI st fun k st => pI st fun n st => okN k fun K' => okN n fun N => K 0 ls (.ref (hT h) :: st) (nwRows h tag N K')
    | _ => none
  | .arraylength => match inf with
    | tag :: _ => pR st fun a st => isC h a tag (K 0 ls (.int (nI (hN h a)) :: st) h)
    | _ => none
  | .iaload => match inf with
    | tag :: _ => aldF h tag st fun a i st => K 0 ls (.int (hI h a i) :: st) h
    | _ => none
  | .baload => match inf with
    | tag :: _ => aldF h tag st fun a i st => K 0 ls (.int (hI h a i) :: st) h
    | _ => none
  | .laload => aldF h 22 st fun a i st => K 0 ls (.long (hL h a i) :: st) h
  | .aaload => match inf with
    | tag :: _ => aldF h tag st fun a i st => nnR (hR h a i) fun r => K 0 ls (.ref r :: st) h
    | _ => none
  | .iastore => pI st fun x st => aldF h 20 st fun a i st => K 0 ls st (sI h a i x)
  | .bastore => match inf with
    | 21 :: _ => pI st fun x st => aldF h 21 st fun a i st => K 0 ls st (sI h a i x.toInt8.toInt32)
    | _ => pI st fun x st => aldF h 23 st fun a i st => K 0 ls st (sI h a i (x &&& 1))
  | .lastore => pL st fun x st => aldF h 22 st fun a i st => K 0 ls st (sL h a i x)
  | .aastore => match inf with
    | tag :: ct :: _ => pR st fun x st => aldF h tag st fun a i st => isC h x ct (K 0 ls st (sR h a i x))
    | _ => none
  | .invokestatic _ => match inf with
    | 6 :: _ => copyF h st fun st h => K 0 ls st h
    | l => callF rec d l st h fun st h => K 0 ls st h
  | .invokevirtual _ => callF rec d inf st h fun st h => K 0 ls st h
  | .invokespecial _ => match inf with
    | 3 :: _ => pR st fun _ st => low (csum st) (K 0 ls st h)
    | l => callF rec d l st h fun st h => K 0 ls st h
  | .ireturn => match inf with
    | k :: _ => pI st fun x st => match st with
      | [] => narI k x (some (some (.int x), h))
      | _ => none
    | _ => none
  | .areturn => pR st fun x st => match st with
    | [] => some (some (.ref x), h)
    | _ => none
  | .return_ => match st with
    | [] => some (none, h)
    | _ => none
  | _ => none
def blk (rec : MRec) (M d : Nat) : Nat → List Ent → MLoc → List Value → MH → MRes
  | _, [], _, _, _ => none
  | s + 1, _ :: c, ls, st, h => blk rec M d s c ls st h
  | 0, e :: c, ls, st, h => stp (fun s ls st h => blk rec M d s c ls st h) rec M d e.1 e.2.2 ls st h
/-- a method: its name, its bytes, its locals, what comes back, its level, the step of its levels, places of its words, its code -/
abbrev Mth : Type := MethodName × ByteArray × Nat × Option FieldType × Nat × Nat × List Nat × List Ent
abbrev Mth.code (t : Mth) : List Ent := t.2.2.2.2.2.2.2
def blkM (Pg : Nat → Option Mth) (rec : MRec) (M d i : Nat) (ls : MLoc) (st : List Value) (h : MH) : MRes := match Pg M with
  | some t => blk rec M d i t.code ls st h
  | none => none
def runM (Pg : Nat → Option Mth) : Nat → MRec
  | 0, _, _, _, _, _, _ => none
  | n + 1, M, d, i, ls, st, h => blkM Pg (runM Pg n) M d i ls st h
/-- what comes of a run that ends -/
noncomputable def evM (Pg : Nat → Option Mth) (M d i : Nat) (ls : MLoc) (st : List Value) (h : MH) : MRes :=
  @dite _ (∃ n r, runM Pg n M d i ls st h = some r) (Classical.propDecidable _) (fun e => some e.choose_spec.choose) (fun _ => none)
end
section
/-! The small machine's runs have a limit, and it keeps the machine's own equation. -/
def Cq (q : Nat → MRec) (e : MRec) (F : MRec → MRes) : Prop := ∀ r, F e = some r → ∃ n, ∀ m, n ≤ m → F (q m) = some r
section
variable {q : Nat → MRec} {e : MRec}
theorem cq_const (c : MRes) : Cq q e (fun _ => c) := fun _ h => ⟨0, fun _ _ => h⟩
theorem cq_pI {k : MRec → Int32 → List Value → MRes} {st : List Value} (h : ∀ x s, Cq q e (fun rec => k rec x s)) : Cq q e (fun rec => pI st (k rec)) := by
  cases st with
  | nil => exact cq_const none
  | cons v s => cases v <;> first | exact h _ _ | exact cq_const none
theorem cq_pL {k : MRec → Int64 → List Value → MRes} {st : List Value} (h : ∀ x s, Cq q e (fun rec => k rec x s)) : Cq q e (fun rec => pL st (k rec)) := by
  cases st with
  | nil => exact cq_const none
  | cons v s => cases v <;> first | exact h _ _ | exact cq_const none
theorem cq_pR {k : MRec → Nat → List Value → MRes} {st : List Value} (h : ∀ x s, Cq q e (fun rec => k rec x s)) : Cq q e (fun rec => pR st (k rec)) := by
  cases st with
  | nil => exact cq_const none
  | cons v s => cases v <;> first | exact h _ _ | exact cq_const none
theorem cq_lI {k : MRec → Int32 → MRes} {ls : MLoc} {i : Nat} (h : ∀ x, Cq q e (fun rec => k rec x)) : Cq q e (fun rec => lI ls i (k rec)) := by
  unfold lI
  rcases nth ls i with _ | _ | v
  · exact cq_const none
  · exact cq_const none
  · cases v <;> first | exact h _ | exact cq_const none
theorem cq_lL {k : MRec → Int64 → MRes} {ls : MLoc} {i : Nat} (h : ∀ x, Cq q e (fun rec => k rec x)) : Cq q e (fun rec => lL ls i (k rec)) := by
  unfold lL
  rcases nth ls i with _ | _ | v
  · exact cq_const none
  · exact cq_const none
  · cases v <;> first | exact h _ | exact cq_const none
theorem cq_lR {k : MRec → Nat → MRes} {ls : MLoc} {i : Nat} (h : ∀ x, Cq q e (fun rec => k rec x)) : Cq q e (fun rec => lR ls i (k rec)) := by
  unfold lR
  rcases nth ls i with _ | _ | v
  · exact cq_const none
  · exact cq_const none
  · cases v <;> first | exact h _ | exact cq_const none
theorem cq_isC {k : MRec → MRes} {h : MH} {a t : Nat} (hk : Cq q e k) : Cq q e (fun rec => isC h a t (k rec)) := by
  unfold isC
  by_cases c : hC h a = t
  · simp only [c, if_true]; exact hk
  · simp only [c, if_false]; exact cq_const none
theorem cq_inA {k : MRec → MRes} {h : MH} {a : Nat} {i : Int32} (hk : Cq q e k) : Cq q e (fun rec => inA h a i (k rec)) := by
  unfold inA
  by_cases c : i < 0 ∨ hN h a ≤ i.toNatClampNeg
  · simp only [c, if_true]; exact cq_const none
  · simp only [c, if_false]; exact hk
theorem cq_nnR {k : MRec → Nat → MRes} {r : Option Nat} (h : ∀ x, Cq q e (fun rec => k rec x)) : Cq q e (fun rec => nnR r (k rec)) := by
  cases r with
  | none => exact cq_const none
  | some x => exact h x
theorem cq_anyR {k : MRec → Value → MRes} {r : Option Nat} (h : ∀ x, Cq q e (fun rec => k rec x)) : Cq q e (fun rec => anyR r (k rec)) := by
  cases r with
  | none => exact h _
  | some x => exact h _
theorem cq_nz {k : MRec → MRes} {y : Int32} (hk : Cq q e k) : Cq q e (fun rec => nz y (k rec)) := by
  unfold nz
  by_cases c : y = 0
  · simp only [c, if_true]; exact cq_const none
  · simp only [c, if_false]; exact hk
theorem cq_isZ {k : MRec → MRes} {y : Int32} (hk : Cq q e k) : Cq q e (fun rec => isZ y (k rec)) := by
  unfold isZ
  by_cases c : y &&& 1 = y
  · simp only [c, if_true]; exact hk
  · simp only [c, if_false]; exact cq_const none
theorem cq_low {k : MRec → MRes} {n : Nat} (hk : Cq q e k) : Cq q e (fun rec => low n (k rec)) := by
  unfold low
  cases Nat.ble n 8
  · exact cq_const none
  · exact hk
theorem cq_okN {k : MRec → Nat → MRes} {n : Int32} (h : ∀ x, Cq q e (fun rec => k rec x)) : Cq q e (fun rec => okN n (k rec)) := by
  unfold okN
  by_cases c : n < 0 ∨ 4096 < n.toNatClampNeg
  · simp only [c, if_true]; exact cq_const none
  · simp only [c, if_false]; exact h _
theorem cq_br {a b : MRec → MRes} {c : Prop} (d : Decidable c) (ha : Cq q e a) (hb : Cq q e b) : Cq q e (fun rec => br c (a rec) (b rec)) := by
  unfold br
  by_cases h : c
  · simp only [h, if_true]; exact ha
  · simp only [h, if_false]; exact hb
theorem cq_ccond {a b : MRec → MRes} {c : ClassFile.Cond} {x y : Int32} (ha : Cq q e a) (hb : Cq q e b) : Cq q e (fun rec => ccond c x y (a rec) (b rec)) := by
  cases c <;> first | exact cq_br _ ha hb | exact cq_br _ hb ha
theorem cq_jsw {k : MRec → Nat → MRes} (l : List (Int × Nat)) {x : Int32} {d : Nat} (h : ∀ x, Cq q e (fun rec => k rec x)) : Cq q e (fun rec => jsw l x d (k rec)) := by
  induction l with
  | nil => exact h d
  | cons p l ih =>
    obtain ⟨v, t⟩ := p
    exact cq_br _ (h t) ih
theorem cq_then {a : MRec → MRes} {k : MRec → (Option Value × MH) → MRes} (ha : Cq q e a) (hk : ∀ p, Cq q e (fun rec => k rec p)) : Cq q e (fun rec => (a rec).bind (k rec)) := by
  intro r hr
  have hr : (a e).bind (k e) = some r := hr
  cases hc : a e with
  | none => rw [hc] at hr; cases hr
  | some p =>
    rw [hc] at hr
    obtain ⟨n1, h1⟩ := ha p hc
    obtain ⟨n2, h2⟩ := hk p r hr
    refine ⟨max n1 n2, fun m hm => ?_⟩
    show (a (q m)).bind (k (q m)) = some r
    rw [h1 m (by omega)]
    exact h2 m (by omega)
theorem rV_bind (r : MRes) (k : MH → MRes) : rV r k = r.bind (fun p => match p with
  | (none, h) => k h
  | _ => none) := by
  rcases r with _ | ⟨_ | v, h⟩ <;> rfl
theorem rI_bind (r : MRes) (k : Int32 → MH → MRes) : rI r k = r.bind (fun p => match p with
  | (some (.int x), h) => k x h
  | _ => none) := by
  rcases r with _ | ⟨_ | v, h⟩
  · rfl
  · rfl
  · cases v <;> rfl
theorem rR_bind (r : MRes) (k : Nat → MH → MRes) : rR r k = r.bind (fun p => match p with
  | (some (.ref x), h) => k x h
  | _ => none) := by
  rcases r with _ | ⟨_ | v, h⟩
  · rfl
  · rfl
  · cases v <;> rfl
theorem cq_rtn {a : MRec → MRes} {k : MRec → List Value → MH → MRes} {rk : Nat} {st : List Value} (ha : Cq q e a) (hk : ∀ st h, Cq q e (fun rec => k rec st h)) : Cq q e (fun rec => rtn rk (a rec) st (k rec)) := by
  unfold rtn
  match rk with
  | 0 =>
    simp only [rV_bind]
    refine cq_then (k := fun rec p => match p with | (none, h) => k rec st h | _ => none) ha ?_
    rintro ⟨_ | v, h⟩
    · exact hk _ _
    · exact cq_const none
  | 1 =>
    simp only [rI_bind]
    refine cq_then (k := fun rec p => match p with | (some (.int x), h) => k rec (.int x :: st) h | _ => none) ha ?_
    rintro ⟨_ | v, h⟩
    · exact cq_const none
    · cases v <;> first | exact hk _ _ | exact cq_const none
  | n + 2 =>
    simp only [rR_bind]
    refine cq_then (k := fun rec p => match p with | (some (.ref x), h) => k rec (.ref x :: st) h | _ => none) ha ?_
    rintro ⟨_ | v, h⟩
    · exact cq_const none
    · cases v <;> first | exact hk _ _ | exact cq_const none
theorem cq_dth {k : MRec → Nat → MRes} {dd d : Nat} (h : ∀ x, Cq q e (fun rec => k rec x)) : Cq q e (fun rec => dth dd d (k rec)) := by
  unfold dth
  match dd with
  | 0 => exact h _
  | 1 => exact h _
  | n + 2 =>
    by_cases c : d < 8
    · simp only [c, if_true]; exact h _
    · simp only [c, if_false]; exact cq_const none
theorem cq_getF {k : MRec → Value → MRes} {h : MH} {a t i kd : Nat} (hk : ∀ v, Cq q e (fun rec => k rec v)) : Cq q e (fun rec => getF h a t i kd (k rec)) := by
  unfold getF
  refine cq_isC ?_
  match kd with
  | 0 => exact hk _
  | 1 => exact hk _
  | n + 2 => exact cq_nnR fun _ => hk _
theorem cq_putF {k : MRec → List Value → MH → MRes} {h : MH} {t i kd : Nat} {st : List Value} (hk : ∀ st h, Cq q e (fun rec => k rec st h)) : Cq q e (fun rec => putF h t i kd st (k rec)) := by
  unfold putF
  match kd with
  | 0 => exact cq_pI fun _ _ => cq_pR fun _ _ => cq_isC (hk _ _)
  | 1 => exact cq_pL fun _ _ => cq_pR fun _ _ => cq_isC (hk _ _)
  | 2 => exact cq_pR fun _ _ => cq_pR fun _ _ => cq_isC (hk _ _)
  | n + 3 => exact cq_pI fun _ _ => cq_pR fun _ _ => cq_isC (cq_isZ (hk _ _))
theorem cq_aldF {k : MRec → Nat → Nat → List Value → MRes} {h : MH} {t : Nat} {st : List Value} (hk : ∀ a i st, Cq q e (fun rec => k rec a i st)) : Cq q e (fun rec => aldF h t st (k rec)) :=
  cq_pI fun _ _ => cq_pR fun _ _ => cq_isC (cq_inA (hk _ _ _))
theorem cq_newsF {k : MRec → List Value → MH → MRes} {h : MH} {t : Nat} {st : List Value} (hk : ∀ st h, Cq q e (fun rec => k rec st h)) : Cq q e (fun rec => newsF h t st (k rec)) :=
  cq_pI fun _ _ => cq_okN fun _ => hk _ _
theorem cq_copyF {k : MRec → List Value → MH → MRes} {h : MH} {st : List Value} (hk : ∀ st h, Cq q e (fun rec => k rec st h)) : Cq q e (fun rec => copyF h st (k rec)) := by
  unfold copyF
  refine cq_pI fun n _ => cq_pI fun dp _ => cq_pR fun b _ => cq_pI fun sp _ => cq_pR fun a _ => cq_isC (cq_isC (cq_low ?_))
  by_cases c : n < 0 ∨ dp < 0 ∨ sp < 0 ∨ hN h a < sp.toNatClampNeg + n.toNatClampNeg ∨ hN h b < dp.toNatClampNeg + n.toNatClampNeg
  · simp only [c, if_true]; exact cq_const none
  · simp only [c, if_false]; exact hk _ _
theorem cq_dup2F {k : MRec → List Value → MRes} {st : List Value} (hk : ∀ st, Cq q e (fun rec => k rec st)) : Cq q e (fun rec => dup2F st (k rec)) := by
  unfold dup2F
  split
  · exact hk _
  · exact cq_const none
theorem cq_dupF {k : MRec → List Value → MRes} {st : List Value} (hk : ∀ st, Cq q e (fun rec => k rec st)) : Cq q e (fun rec => dupF st (k rec)) := by
  unfold dupF
  split
  · exact hk _
  · exact hk _
  · exact cq_const none
theorem cq_popF {k : MRec → List Value → MRes} {st : List Value} (hk : ∀ st, Cq q e (fun rec => k rec st)) : Cq q e (fun rec => popF st (k rec)) := by
  unfold popF
  split
  · exact hk _
  · exact hk _
  · exact cq_const none
theorem cq_jmp (hb : ∀ M d i ls st h, Cq q e (fun rec => rec M d i ls st h)) {K : MRec → Nat → MLoc → List Value → MH → MRes} (hK : ∀ s ls st h, Cq q e (fun rec => K rec s ls st h)) {M d : Nat} {inf : List Nat} {ls : MLoc} {st : List Value} {h : MH} : Cq q e (fun rec => jmp (K rec) rec M d inf ls st h) := by
  unfold jmp
  split
  · exact hK _ _ _ _
  · exact hb _ _ _ _ _ _
  · exact cq_const none
theorem cq_callF (hb : ∀ M d i ls st h, Cq q e (fun rec => rec M d i ls st h)) {k : MRec → List Value → MH → MRes} (hk : ∀ st h, Cq q e (fun rec => k rec st h)) {d : Nat} {inf : List Nat} {st : List Value} {h : MH} : Cq q e (fun rec => callF rec d inf st h (k rec)) := by
  unfold callF
  split
  · split
    · split
      · exact cq_low (cq_dth fun _ => cq_rtn (hb _ _ _ _ _ _) hk)
      · exact cq_pR fun _ _ => cq_isC (cq_low (cq_dth fun _ => cq_rtn (hb _ _ _ _ _ _) hk))
      · exact cq_pR fun _ _ => cq_low (cq_dth fun _ => cq_rtn (hb _ _ _ _ _ _) hk)
      · exact cq_const none
    · exact cq_const none
  · exact cq_const none
set_option maxHeartbeats 4000000 in
theorem cq_stp (hb : ∀ M d i ls st h, Cq q e (fun rec => rec M d i ls st h)) {K : MRec → Nat → MLoc → List Value → MH → MRes} (hK : ∀ s ls st h, Cq q e (fun rec => K rec s ls st h)) {M d : Nat} {ins : Instr} {inf : List Nat} {ls : MLoc} {st : List Value} {h : MH} : Cq q e (fun rec => stp (K rec) rec M d ins inf ls st h) := by
  cases ins <;> dsimp only [stp] <;> first
    | exact cq_const _
    | exact hK _ _ _ _
    | exact cq_lI fun _ => hK _ _ _ _
    | exact cq_lL fun _ => hK _ _ _ _
    | exact cq_lR fun _ => hK _ _ _ _
    | exact cq_pI fun _ _ => hK _ _ _ _
    | exact cq_pL fun _ _ => hK _ _ _ _
    | exact cq_pR fun _ _ => hK _ _ _ _
    | exact cq_pI fun _ _ => cq_pI fun _ _ => hK _ _ _ _
    | exact cq_pI fun _ _ => cq_pI fun _ _ => cq_nz (hK _ _ _ _)
    | exact cq_pI fun _ _ => cq_pL fun _ _ => hK _ _ _ _
    | exact cq_pL fun _ _ => cq_pL fun _ _ => hK _ _ _ _
    | exact cq_dupF fun _ => hK _ _ _ _
    | exact cq_popF fun _ => hK _ _ _ _
    | exact cq_dup2F fun _ => hK _ _ _ _
    | exact cq_jmp hb hK
    | exact cq_pI fun _ _ => cq_ccond (cq_jmp hb hK) (hK _ _ _ _)
    | exact cq_pI fun _ _ => cq_pI fun _ _ => cq_ccond (cq_jmp hb hK) (hK _ _ _ _)
    | exact cq_pR fun _ _ => cq_jmp hb hK
    | exact cq_callF hb fun _ _ => hK _ _ _ _
    | exact cq_aldF fun _ _ _ => hK _ _ _ _
    | exact cq_pI fun _ _ => cq_aldF fun _ _ _ => hK _ _ _ _
    | exact cq_pL fun _ _ => cq_aldF fun _ _ _ => hK _ _ _ _
    | (split <;> first
        | exact cq_const _
        | exact hb _ _ _ _ _ _
        | exact hK _ _ _ _
        | exact cq_nnR fun _ => hK _ _ _ _
        | exact cq_anyR fun _ => hK _ _ _ _
        | exact cq_pI fun _ _ => cq_jsw _ fun _ => hK _ _ _ _
        | exact cq_pR fun _ _ => cq_getF fun _ => hK _ _ _ _
        | exact cq_putF fun _ _ => hK _ _ _ _
        | exact cq_newsF fun _ _ => hK _ _ _ _
        | exact cq_pI fun _ _ => cq_pI fun _ _ => cq_okN fun _ => cq_okN fun _ => hK _ _ _ _
        | exact cq_pR fun _ _ => cq_isC (hK _ _ _ _)
        | exact cq_aldF fun _ _ _ => hK _ _ _ _
        | exact cq_aldF fun _ _ _ => cq_nnR fun _ => hK _ _ _ _
        | exact cq_pI fun _ _ => cq_aldF fun _ _ _ => hK _ _ _ _
        | exact cq_pR fun _ _ => cq_aldF fun _ _ _ => cq_isC (hK _ _ _ _)
        | exact cq_copyF fun _ _ => hK _ _ _ _
        | exact cq_callF hb fun _ _ => hK _ _ _ _
        | exact cq_pR fun _ _ => cq_low (hK _ _ _ _))
theorem cq_blk (hb : ∀ M d i ls st h, Cq q e (fun rec => rec M d i ls st h)) {M d : Nat} (c : List Ent) : ∀ (s : Nat) (ls : MLoc) (st : List Value) (h : MH), Cq q e (fun rec => blk rec M d s c ls st h) := by
  induction c with
  | nil => intro s ls st h; cases s <;> exact cq_const none
  | cons a c ih =>
    intro s ls st h
    cases s with
    | zero => exact cq_stp hb (K := fun rec s ls st h => blk rec M d s c ls st h) (fun s ls st h => ih s ls st h)
    | succ s => exact ih s ls st h
theorem cq_blkM (Pg : Nat → Option Mth) (hb : ∀ M d i ls st h, Cq q e (fun rec => rec M d i ls st h)) (M d i : Nat) (ls : MLoc) (st : List Value) (h : MH) : Cq q e (fun rec => blkM Pg rec M d i ls st h) := by
  unfold blkM
  split
  · exact cq_blk hb _ _ _ _ _
  · exact cq_const none
end
theorem runM_up (Pg : Nat → Option Mth) : ∀ (n M d i : Nat) (ls : MLoc) (st : List Value) (h : MH) (r : Option Value × MH), runM Pg n M d i ls st h = some r → runM Pg (n + 1) M d i ls st h = some r := by
  intro n
  induction n with
  | zero => intro M d i ls st h r hr; cases hr
  | succ n ih =>
    intro M d i ls st h r hr
    obtain ⟨k, hk⟩ := cq_blkM (q := fun _ => runM Pg (n + 1)) (e := runM Pg n) Pg (fun M d i ls st h r hr => ⟨0, fun _ _ => ih M d i ls st h r hr⟩) M d i ls st h r hr
    exact hk k (Nat.le_refl _)
theorem runM_ge (Pg : Nat → Option Mth) {n : Nat} {M d i : Nat} {ls : MLoc} {st : List Value} {h : MH} {r : Option Value × MH} (hr : runM Pg n M d i ls st h = some r) : ∀ m, n ≤ m → runM Pg m M d i ls st h = some r := by
  intro m hm
  obtain ⟨k, rfl⟩ := Nat.exists_eq_add_of_le hm
  induction k with
  | zero => exact hr
  | succ k ih => exact runM_up Pg _ _ _ _ _ _ _ _ (ih (by omega))
theorem runM_one (Pg : Nat → Option Mth) {n m : Nat} {M d i : Nat} {ls : MLoc} {st : List Value} {h : MH} {r r' : Option Value × MH} (hr : runM Pg n M d i ls st h = some r) (hr' : runM Pg m M d i ls st h = some r') : r = r' := by
  have h1 := runM_ge Pg hr (max n m) (by omega)
  have h2 := runM_ge Pg hr' (max n m) (by omega)
  exact Option.some.inj (h1.symm.trans h2)
theorem evM_of (Pg : Nat → Option Mth) {n : Nat} {M d i : Nat} {ls : MLoc} {st : List Value} {h : MH} {r : Option Value × MH} (hr : runM Pg n M d i ls st h = some r) : evM Pg M d i ls st h = some r := by
  have e : ∃ n r, runM Pg n M d i ls st h = some r := ⟨n, r, hr⟩
  unfold evM
  rw [dif_pos e]
  exact congrArg some (runM_one Pg e.choose_spec.choose_spec hr)
theorem evM_run (Pg : Nat → Option Mth) {M d i : Nat} {ls : MLoc} {st : List Value} {h : MH} {r : Option Value × MH} (hr : evM Pg M d i ls st h = some r) : ∃ n, runM Pg n M d i ls st h = some r := by
  unfold evM at hr
  by_cases e : ∃ n r, runM Pg n M d i ls st h = some r
  · rw [dif_pos e] at hr
    refine ⟨e.choose, ?_⟩
    rw [← hr]
    exact e.choose_spec.choose_spec
  · rw [dif_neg e] at hr
    cases hr
theorem evM_eq (Pg : Nat → Option Mth) (M d i : Nat) (ls : MLoc) (st : List Value) (h : MH) : evM Pg M d i ls st h = blkM Pg (evM Pg) M d i ls st h := by
  cases hc : blkM Pg (evM Pg) M d i ls st h with
  | some r =>
    obtain ⟨n, hn⟩ := cq_blkM (q := fun n => runM Pg n) (e := evM Pg) Pg (fun M d i ls st h r hr => by
      obtain ⟨n, hn⟩ := evM_run Pg hr
      exact ⟨n, fun m hm => runM_ge Pg hn m hm⟩) M d i ls st h r hc
    exact evM_of Pg (n := n + 1) (hn n (Nat.le_refl _))
  | none =>
    cases hd : evM Pg M d i ls st h with
    | none => rfl
    | some r =>
      obtain ⟨n, hn⟩ := evM_run Pg hd
      cases n with
      | zero => cases hn
      | succ n =>
        obtain ⟨k, hk⟩ := cq_blkM (q := fun _ => evM Pg) (e := runM Pg n) Pg (fun M d i ls st h r hr => ⟨0, fun _ _ => evM_of Pg hr⟩) M d i ls st h r hn
        have := hk k (Nat.le_refl _)
        have h2 : blkM Pg (evM Pg) M d i ls st h = some r := this
        rw [hc] at h2
        cases h2
end
