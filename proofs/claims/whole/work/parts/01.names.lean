-- ===== PART A: goes FIRST, ahead of the names: the tables' words, and 'selects' of the private methods out of them =====
/-- a private method of a class that the tables say can be made, by its rows of tables_1 -/
def lw_okq (q : MethodName × Nat) : Prop := (q.1.cls ≠ "java/lang/invoke/MethodHandle" ∧ q.1.cls ≠ "java/lang/invoke/VarHandle") ∧ Cond.instantiable q.1.cls q.2 ∈ tables_1 ∧ Cond.privateMethod q.1 ∈ tables_1 ∧ Cond.instanceMethod q.1 ∈ tables_1
theorem lw_p0 : lw_okq (⟨"MakersBench", "placeAt", "(I)LMakersBench$Tree;"⟩, 12) := ⟨⟨by decide +kernel, by decide +kernel⟩, List.mem_of_getElem? (i := 13) (by decide +kernel), List.mem_of_getElem? (i := 246) (by decide +kernel), List.mem_of_getElem? (i := 247) (by decide +kernel)⟩
theorem lw_p1 : lw_okq (⟨"MakersBench$Grammar", "defer", "(IJ)V"⟩, 7) := ⟨⟨by decide +kernel, by decide +kernel⟩, List.mem_of_getElem? (i := 21) (by decide +kernel), List.mem_of_getElem? (i := 258) (by decide +kernel), List.mem_of_getElem? (i := 259) (by decide +kernel)⟩
theorem lw_p2 : lw_okq (⟨"MakersBench$Grammar", "unfoldNode", "(LMakersBench$Tree;IJ)V"⟩, 7) := ⟨⟨by decide +kernel, by decide +kernel⟩, List.mem_of_getElem? (i := 21) (by decide +kernel), List.mem_of_getElem? (i := 262) (by decide +kernel), List.mem_of_getElem? (i := 263) (by decide +kernel)⟩
theorem lw_p3 : lw_okq (⟨"MakersBench$Grammar", "unfoldLeaf", "(LMakersBench$Tree;I)V"⟩, 7) := ⟨⟨by decide +kernel, by decide +kernel⟩, List.mem_of_getElem? (i := 21) (by decide +kernel), List.mem_of_getElem? (i := 266) (by decide +kernel), List.mem_of_getElem? (i := 267) (by decide +kernel)⟩
theorem lw_p4 : lw_okq (⟨"MakersBench$Grammar", "deferTwo", "(IJ)V"⟩, 7) := ⟨⟨by decide +kernel, by decide +kernel⟩, List.mem_of_getElem? (i := 21) (by decide +kernel), List.mem_of_getElem? (i := 272) (by decide +kernel), List.mem_of_getElem? (i := 273) (by decide +kernel)⟩
theorem lw_p5 : lw_okq (⟨"MakersBench$Grammar", "deferThree", "(IJ)V"⟩, 7) := ⟨⟨by decide +kernel, by decide +kernel⟩, List.mem_of_getElem? (i := 21) (by decide +kernel), List.mem_of_getElem? (i := 276) (by decide +kernel), List.mem_of_getElem? (i := 277) (by decide +kernel)⟩
theorem lw_p6 : lw_okq (⟨"MakersBench$Tree", "measure", "()V"⟩, 4) := ⟨⟨by decide +kernel, by decide +kernel⟩, List.mem_of_getElem? (i := 59) (by decide +kernel), List.mem_of_getElem? (i := 280) (by decide +kernel), List.mem_of_getElem? (i := 281) (by decide +kernel)⟩
theorem lw_p7 : lw_okq (⟨"MakersBench", "programAt", "(I)LMakersBench$Tree;"⟩, 12) := ⟨⟨by decide +kernel, by decide +kernel⟩, List.mem_of_getElem? (i := 13) (by decide +kernel), List.mem_of_getElem? (i := 297) (by decide +kernel), List.mem_of_getElem? (i := 298) (by decide +kernel)⟩
theorem lw_p8 : lw_okq (⟨"MakersBench$Grammar", "rankOfNode", "(LMakersBench$Tree;I)J"⟩, 7) := ⟨⟨by decide +kernel, by decide +kernel⟩, List.mem_of_getElem? (i := 21) (by decide +kernel), List.mem_of_getElem? (i := 320) (by decide +kernel), List.mem_of_getElem? (i := 321) (by decide +kernel)⟩
theorem lw_p9 : lw_okq (⟨"MakersBench$Grammar", "rankAt", "(I)J"⟩, 7) := ⟨⟨by decide +kernel, by decide +kernel⟩, List.mem_of_getElem? (i := 21) (by decide +kernel), List.mem_of_getElem? (i := 328) (by decide +kernel), List.mem_of_getElem? (i := 329) (by decide +kernel)⟩
theorem lw_p10 : lw_okq (⟨"MakersBench$Grammar", "rankOfThree", "(LMakersBench$Tree;II)J"⟩, 7) := ⟨⟨by decide +kernel, by decide +kernel⟩, List.mem_of_getElem? (i := 21) (by decide +kernel), List.mem_of_getElem? (i := 332) (by decide +kernel), List.mem_of_getElem? (i := 333) (by decide +kernel)⟩
theorem lw_p11 : lw_okq (⟨"MakersBench$Grammar", "rankOfTwo", "(LMakersBench$Tree;I)J"⟩, 7) := ⟨⟨by decide +kernel, by decide +kernel⟩, List.mem_of_getElem? (i := 21) (by decide +kernel), List.mem_of_getElem? (i := 337) (by decide +kernel), List.mem_of_getElem? (i := 338) (by decide +kernel)⟩
theorem lw_p12 : lw_okq (⟨"MakersBench$Code", "add", "(II)V"⟩, 12) := ⟨⟨by decide +kernel, by decide +kernel⟩, List.mem_of_getElem? (i := 122) (by decide +kernel), List.mem_of_getElem? (i := 407) (by decide +kernel), List.mem_of_getElem? (i := 408) (by decide +kernel)⟩
theorem lw_p13 : lw_okq (⟨"MakersBench$Code", "endParts", "(I)I"⟩, 12) := ⟨⟨by decide +kernel, by decide +kernel⟩, List.mem_of_getElem? (i := 122) (by decide +kernel), List.mem_of_getElem? (i := 411) (by decide +kernel), List.mem_of_getElem? (i := 412) (by decide +kernel)⟩
theorem lw_p14 : lw_okq (⟨"MakersBench$Code", "jumpBehindPart", "(I)V"⟩, 12) := ⟨⟨by decide +kernel, by decide +kernel⟩, List.mem_of_getElem? (i := 122) (by decide +kernel), List.mem_of_getElem? (i := 415) (by decide +kernel), List.mem_of_getElem? (i := 416) (by decide +kernel)⟩
theorem lw_p15 : lw_okq (⟨"MakersBench$Code", "aim", "(II)V"⟩, 12) := ⟨⟨by decide +kernel, by decide +kernel⟩, List.mem_of_getElem? (i := 122) (by decide +kernel), List.mem_of_getElem? (i := 419) (by decide +kernel), List.mem_of_getElem? (i := 420) (by decide +kernel)⟩
def lw_privs_1 : List (MethodName × Nat) := [(⟨"MakersBench", "placeAt", "(I)LMakersBench$Tree;"⟩, 12), (⟨"MakersBench$Grammar", "defer", "(IJ)V"⟩, 7), (⟨"MakersBench$Grammar", "unfoldNode", "(LMakersBench$Tree;IJ)V"⟩, 7), (⟨"MakersBench$Grammar", "unfoldLeaf", "(LMakersBench$Tree;I)V"⟩, 7), (⟨"MakersBench$Grammar", "deferTwo", "(IJ)V"⟩, 7), (⟨"MakersBench$Grammar", "deferThree", "(IJ)V"⟩, 7), (⟨"MakersBench$Tree", "measure", "()V"⟩, 4), (⟨"MakersBench", "programAt", "(I)LMakersBench$Tree;"⟩, 12), (⟨"MakersBench$Grammar", "rankOfNode", "(LMakersBench$Tree;I)J"⟩, 7), (⟨"MakersBench$Grammar", "rankAt", "(I)J"⟩, 7), (⟨"MakersBench$Grammar", "rankOfThree", "(LMakersBench$Tree;II)J"⟩, 7), (⟨"MakersBench$Grammar", "rankOfTwo", "(LMakersBench$Tree;I)J"⟩, 7), (⟨"MakersBench$Code", "add", "(II)V"⟩, 12), (⟨"MakersBench$Code", "endParts", "(I)I"⟩, 12), (⟨"MakersBench$Code", "jumpBehindPart", "(I)V"⟩, 12), (⟨"MakersBench$Code", "aim", "(II)V"⟩, 12)]
theorem lw_r1 : ∀ q ∈ lw_privs_1, lw_okq q := List.forall_mem_cons.mpr ⟨lw_p0, List.forall_mem_cons.mpr ⟨lw_p1, List.forall_mem_cons.mpr ⟨lw_p2, List.forall_mem_cons.mpr ⟨lw_p3, List.forall_mem_cons.mpr ⟨lw_p4, List.forall_mem_cons.mpr ⟨lw_p5, List.forall_mem_cons.mpr ⟨lw_p6, List.forall_mem_cons.mpr ⟨lw_p7, List.forall_mem_cons.mpr ⟨lw_p8, List.forall_mem_cons.mpr ⟨lw_p9, List.forall_mem_cons.mpr ⟨lw_p10, List.forall_mem_cons.mpr ⟨lw_p11, List.forall_mem_cons.mpr ⟨lw_p12, List.forall_mem_cons.mpr ⟨lw_p13, List.forall_mem_cons.mpr ⟨lw_p14, List.forall_mem_cons.mpr ⟨lw_p15, fun _ h => absurd h List.not_mem_nil⟩⟩⟩⟩⟩⟩⟩⟩⟩⟩⟩⟩⟩⟩⟩⟩
theorem lw_p16 : lw_okq (⟨"MakersBench", "isSafe", "(LMakersBench$Tree;I)Z"⟩, 12) := ⟨⟨by decide +kernel, by decide +kernel⟩, List.mem_of_getElem? (i := 13) (by decide +kernel), List.mem_of_getElem? (i := 437) (by decide +kernel), List.mem_of_getElem? (i := 438) (by decide +kernel)⟩
theorem lw_p17 : lw_okq (⟨"MakersBench", "makerAt", "(I)LMakersBench$Maker;"⟩, 12) := ⟨⟨by decide +kernel, by decide +kernel⟩, List.mem_of_getElem? (i := 13) (by decide +kernel), List.mem_of_getElem? (i := 464) (by decide +kernel), List.mem_of_getElem? (i := 465) (by decide +kernel)⟩
theorem lw_p18 : lw_okq (⟨"MakersBench", "write", "(II)Z"⟩, 12) := ⟨⟨by decide +kernel, by decide +kernel⟩, List.mem_of_getElem? (i := 13) (by decide +kernel), List.mem_of_getElem? (i := 594) (by decide +kernel), List.mem_of_getElem? (i := 595) (by decide +kernel)⟩
theorem lw_p19 : lw_okq (⟨"MakersBench", "isWrongAt", "(II)Z"⟩, 12) := ⟨⟨by decide +kernel, by decide +kernel⟩, List.mem_of_getElem? (i := 13) (by decide +kernel), List.mem_of_getElem? (i := 623) (by decide +kernel), List.mem_of_getElem? (i := 624) (by decide +kernel)⟩
theorem lw_p20 : lw_okq (⟨"MakersBench", "isFaulty", "(LMakersBench$Maker;LMakersBench$Tree;I)Z"⟩, 12) := ⟨⟨by decide +kernel, by decide +kernel⟩, List.mem_of_getElem? (i := 13) (by decide +kernel), List.mem_of_getElem? (i := 641) (by decide +kernel), List.mem_of_getElem? (i := 642) (by decide +kernel)⟩
theorem lw_p21 : lw_okq (⟨"MakersBench", "showsFault", "(LMakersBench$Tree;I)Z"⟩, 12) := ⟨⟨by decide +kernel, by decide +kernel⟩, List.mem_of_getElem? (i := 13) (by decide +kernel), List.mem_of_getElem? (i := 645) (by decide +kernel), List.mem_of_getElem? (i := 646) (by decide +kernel)⟩
theorem lw_p22 : lw_okq (⟨"MakersBench", "shrink", "(LMakersBench$Maker;LMakersBench$Tree;I)Z"⟩, 12) := ⟨⟨by decide +kernel, by decide +kernel⟩, List.mem_of_getElem? (i := 13) (by decide +kernel), List.mem_of_getElem? (i := 649) (by decide +kernel), List.mem_of_getElem? (i := 650) (by decide +kernel)⟩
theorem lw_p23 : lw_okq (⟨"MakersBench", "keptPrograms", "()I"⟩, 12) := ⟨⟨by decide +kernel, by decide +kernel⟩, List.mem_of_getElem? (i := 13) (by decide +kernel), List.mem_of_getElem? (i := 673) (by decide +kernel), List.mem_of_getElem? (i := 674) (by decide +kernel)⟩
theorem lw_p24 : lw_okq (⟨"MakersBench", "keptNodes", "()I"⟩, 12) := ⟨⟨by decide +kernel, by decide +kernel⟩, List.mem_of_getElem? (i := 13) (by decide +kernel), List.mem_of_getElem? (i := 677) (by decide +kernel), List.mem_of_getElem? (i := 678) (by decide +kernel)⟩
theorem lw_p25 : lw_okq (⟨"MakersBenchModel", "count0", "()V"⟩, 39) := ⟨⟨by decide +kernel, by decide +kernel⟩, List.mem_of_getElem? (i := 685) (by decide +kernel), List.mem_of_getElem? (i := 817) (by decide +kernel), List.mem_of_getElem? (i := 818) (by decide +kernel)⟩
theorem lw_p26 : lw_okq (⟨"MakersBenchModel", "pairs", "(I)J"⟩, 39) := ⟨⟨by decide +kernel, by decide +kernel⟩, List.mem_of_getElem? (i := 685) (by decide +kernel), List.mem_of_getElem? (i := 823) (by decide +kernel), List.mem_of_getElem? (i := 824) (by decide +kernel)⟩
theorem lw_p27 : lw_okq (⟨"MakersBenchModel", "nth0", "(IJ)V"⟩, 39) := ⟨⟨by decide +kernel, by decide +kernel⟩, List.mem_of_getElem? (i := 685) (by decide +kernel), List.mem_of_getElem? (i := 835) (by decide +kernel), List.mem_of_getElem? (i := 836) (by decide +kernel)⟩
theorem lw_p28 : lw_okq (⟨"MakersBenchModel", "hand", "(II)V"⟩, 39) := ⟨⟨by decide +kernel, by decide +kernel⟩, List.mem_of_getElem? (i := 685) (by decide +kernel), List.mem_of_getElem? (i := 840) (by decide +kernel), List.mem_of_getElem? (i := 841) (by decide +kernel)⟩
theorem lw_p29 : lw_okq (⟨"MakersBenchModel", "nthPair", "(IJ)V"⟩, 39) := ⟨⟨by decide +kernel, by decide +kernel⟩, List.mem_of_getElem? (i := 685) (by decide +kernel), List.mem_of_getElem? (i := 844) (by decide +kernel), List.mem_of_getElem? (i := 845) (by decide +kernel)⟩
theorem lw_p30 : lw_okq (⟨"MakersBenchModel", "put", "(I)I"⟩, 39) := ⟨⟨by decide +kernel, by decide +kernel⟩, List.mem_of_getElem? (i := 685) (by decide +kernel), List.mem_of_getElem? (i := 848) (by decide +kernel), List.mem_of_getElem? (i := 849) (by decide +kernel)⟩
theorem lw_p31 : lw_okq (⟨"MakersBenchModel", "has", "(I)Z"⟩, 39) := ⟨⟨by decide +kernel, by decide +kernel⟩, List.mem_of_getElem? (i := 685) (by decide +kernel), List.mem_of_getElem? (i := 856) (by decide +kernel), List.mem_of_getElem? (i := 857) (by decide +kernel)⟩
def lw_privs_2 : List (MethodName × Nat) := [(⟨"MakersBench", "isSafe", "(LMakersBench$Tree;I)Z"⟩, 12), (⟨"MakersBench", "makerAt", "(I)LMakersBench$Maker;"⟩, 12), (⟨"MakersBench", "write", "(II)Z"⟩, 12), (⟨"MakersBench", "isWrongAt", "(II)Z"⟩, 12), (⟨"MakersBench", "isFaulty", "(LMakersBench$Maker;LMakersBench$Tree;I)Z"⟩, 12), (⟨"MakersBench", "showsFault", "(LMakersBench$Tree;I)Z"⟩, 12), (⟨"MakersBench", "shrink", "(LMakersBench$Maker;LMakersBench$Tree;I)Z"⟩, 12), (⟨"MakersBench", "keptPrograms", "()I"⟩, 12), (⟨"MakersBench", "keptNodes", "()I"⟩, 12), (⟨"MakersBenchModel", "count0", "()V"⟩, 39), (⟨"MakersBenchModel", "pairs", "(I)J"⟩, 39), (⟨"MakersBenchModel", "nth0", "(IJ)V"⟩, 39), (⟨"MakersBenchModel", "hand", "(II)V"⟩, 39), (⟨"MakersBenchModel", "nthPair", "(IJ)V"⟩, 39), (⟨"MakersBenchModel", "put", "(I)I"⟩, 39), (⟨"MakersBenchModel", "has", "(I)Z"⟩, 39)]
theorem lw_r2 : ∀ q ∈ lw_privs_2, lw_okq q := List.forall_mem_cons.mpr ⟨lw_p16, List.forall_mem_cons.mpr ⟨lw_p17, List.forall_mem_cons.mpr ⟨lw_p18, List.forall_mem_cons.mpr ⟨lw_p19, List.forall_mem_cons.mpr ⟨lw_p20, List.forall_mem_cons.mpr ⟨lw_p21, List.forall_mem_cons.mpr ⟨lw_p22, List.forall_mem_cons.mpr ⟨lw_p23, List.forall_mem_cons.mpr ⟨lw_p24, List.forall_mem_cons.mpr ⟨lw_p25, List.forall_mem_cons.mpr ⟨lw_p26, List.forall_mem_cons.mpr ⟨lw_p27, List.forall_mem_cons.mpr ⟨lw_p28, List.forall_mem_cons.mpr ⟨lw_p29, List.forall_mem_cons.mpr ⟨lw_p30, List.forall_mem_cons.mpr ⟨lw_p31, fun _ h => absurd h List.not_mem_nil⟩⟩⟩⟩⟩⟩⟩⟩⟩⟩⟩⟩⟩⟩⟩⟩
theorem lw_p32 : lw_okq (⟨"MakersBenchModel", "take", "(I)V"⟩, 39) := ⟨⟨by decide +kernel, by decide +kernel⟩, List.mem_of_getElem? (i := 685) (by decide +kernel), List.mem_of_getElem? (i := 860) (by decide +kernel), List.mem_of_getElem? (i := 861) (by decide +kernel)⟩
theorem lw_p33 : lw_okq (⟨"MakersBenchModel", "tree", "()I"⟩, 39) := ⟨⟨by decide +kernel, by decide +kernel⟩, List.mem_of_getElem? (i := 685) (by decide +kernel), List.mem_of_getElem? (i := 866) (by decide +kernel), List.mem_of_getElem? (i := 867) (by decide +kernel)⟩
theorem lw_p34 : lw_okq (⟨"MakersBenchModel", "grow", "()I"⟩, 39) := ⟨⟨by decide +kernel, by decide +kernel⟩, List.mem_of_getElem? (i := 685) (by decide +kernel), List.mem_of_getElem? (i := 870) (by decide +kernel), List.mem_of_getElem? (i := 871) (by decide +kernel)⟩
theorem lw_p35 : lw_okq (⟨"MakersBenchModel", "make", "(IIIII)I"⟩, 39) := ⟨⟨by decide +kernel, by decide +kernel⟩, List.mem_of_getElem? (i := 685) (by decide +kernel), List.mem_of_getElem? (i := 877) (by decide +kernel), List.mem_of_getElem? (i := 878) (by decide +kernel)⟩
theorem lw_p36 : lw_okq (⟨"MakersBenchModel", "rank", "(I)J"⟩, 39) := ⟨⟨by decide +kernel, by decide +kernel⟩, List.mem_of_getElem? (i := 685) (by decide +kernel), List.mem_of_getElem? (i := 881) (by decide +kernel), List.mem_of_getElem? (i := 882) (by decide +kernel)⟩
theorem lw_p37 : lw_okq (⟨"MakersBenchModel", "pairRank", "(II)J"⟩, 39) := ⟨⟨by decide +kernel, by decide +kernel⟩, List.mem_of_getElem? (i := 685) (by decide +kernel), List.mem_of_getElem? (i := 885) (by decide +kernel), List.mem_of_getElem? (i := 886) (by decide +kernel)⟩
theorem lw_p38 : lw_okq (⟨"MakersBenchModel", "endOf", "(I)I"⟩, 39) := ⟨⟨by decide +kernel, by decide +kernel⟩, List.mem_of_getElem? (i := 685) (by decide +kernel), List.mem_of_getElem? (i := 907) (by decide +kernel), List.mem_of_getElem? (i := 908) (by decide +kernel)⟩
theorem lw_p39 : lw_okq (⟨"MakersBenchModel", "treeOf", "(I)I"⟩, 39) := ⟨⟨by decide +kernel, by decide +kernel⟩, List.mem_of_getElem? (i := 685) (by decide +kernel), List.mem_of_getElem? (i := 915) (by decide +kernel), List.mem_of_getElem? (i := 916) (by decide +kernel)⟩
theorem lw_p40 : lw_okq (⟨"MakersBenchModel", "valueOf", "(III)I"⟩, 39) := ⟨⟨by decide +kernel, by decide +kernel⟩, List.mem_of_getElem? (i := 685) (by decide +kernel), List.mem_of_getElem? (i := 919) (by decide +kernel), List.mem_of_getElem? (i := 920) (by decide +kernel)⟩
theorem lw_p41 : lw_okq (⟨"MakersBenchModel", "works", "(III)I"⟩, 39) := ⟨⟨by decide +kernel, by decide +kernel⟩, List.mem_of_getElem? (i := 685) (by decide +kernel), List.mem_of_getElem? (i := 923) (by decide +kernel), List.mem_of_getElem? (i := 924) (by decide +kernel)⟩
theorem lw_p42 : lw_okq (⟨"MakersBenchModel", "isSafe", "(II)Z"⟩, 39) := ⟨⟨by decide +kernel, by decide +kernel⟩, List.mem_of_getElem? (i := 685) (by decide +kernel), List.mem_of_getElem? (i := 935) (by decide +kernel), List.mem_of_getElem? (i := 936) (by decide +kernel)⟩
theorem lw_p43 : lw_okq (⟨"MakersBenchModel", "spare", "(II)V"⟩, 39) := ⟨⟨by decide +kernel, by decide +kernel⟩, List.mem_of_getElem? (i := 685) (by decide +kernel), List.mem_of_getElem? (i := 943) (by decide +kernel), List.mem_of_getElem? (i := 944) (by decide +kernel)⟩
theorem lw_p44 : lw_okq (⟨"MakersBenchModel", "splice", "(III)V"⟩, 39) := ⟨⟨by decide +kernel, by decide +kernel⟩, List.mem_of_getElem? (i := 685) (by decide +kernel), List.mem_of_getElem? (i := 947) (by decide +kernel), List.mem_of_getElem? (i := 948) (by decide +kernel)⟩
theorem lw_p45 : lw_okq (⟨"MakersBenchModel", "shift", "(II)V"⟩, 39) := ⟨⟨by decide +kernel, by decide +kernel⟩, List.mem_of_getElem? (i := 685) (by decide +kernel), List.mem_of_getElem? (i := 951) (by decide +kernel), List.mem_of_getElem? (i := 952) (by decide +kernel)⟩
theorem lw_p46 : lw_okq (⟨"MakersBenchModel", "isMaker", "(I)Z"⟩, 39) := ⟨⟨by decide +kernel, by decide +kernel⟩, List.mem_of_getElem? (i := 685) (by decide +kernel), List.mem_of_getElem? (i := 963) (by decide +kernel), List.mem_of_getElem? (i := 964) (by decide +kernel)⟩
theorem lw_p47 : lw_okq (⟨"MakersBenchModel", "isTurn", "(II)Z"⟩, 39) := ⟨⟨by decide +kernel, by decide +kernel⟩, List.mem_of_getElem? (i := 685) (by decide +kernel), List.mem_of_getElem? (i := 971) (by decide +kernel), List.mem_of_getElem? (i := 972) (by decide +kernel)⟩
def lw_privs_3 : List (MethodName × Nat) := [(⟨"MakersBenchModel", "take", "(I)V"⟩, 39), (⟨"MakersBenchModel", "tree", "()I"⟩, 39), (⟨"MakersBenchModel", "grow", "()I"⟩, 39), (⟨"MakersBenchModel", "make", "(IIIII)I"⟩, 39), (⟨"MakersBenchModel", "rank", "(I)J"⟩, 39), (⟨"MakersBenchModel", "pairRank", "(II)J"⟩, 39), (⟨"MakersBenchModel", "endOf", "(I)I"⟩, 39), (⟨"MakersBenchModel", "treeOf", "(I)I"⟩, 39), (⟨"MakersBenchModel", "valueOf", "(III)I"⟩, 39), (⟨"MakersBenchModel", "works", "(III)I"⟩, 39), (⟨"MakersBenchModel", "isSafe", "(II)Z"⟩, 39), (⟨"MakersBenchModel", "spare", "(II)V"⟩, 39), (⟨"MakersBenchModel", "splice", "(III)V"⟩, 39), (⟨"MakersBenchModel", "shift", "(II)V"⟩, 39), (⟨"MakersBenchModel", "isMaker", "(I)Z"⟩, 39), (⟨"MakersBenchModel", "isTurn", "(II)Z"⟩, 39)]
theorem lw_r3 : ∀ q ∈ lw_privs_3, lw_okq q := List.forall_mem_cons.mpr ⟨lw_p32, List.forall_mem_cons.mpr ⟨lw_p33, List.forall_mem_cons.mpr ⟨lw_p34, List.forall_mem_cons.mpr ⟨lw_p35, List.forall_mem_cons.mpr ⟨lw_p36, List.forall_mem_cons.mpr ⟨lw_p37, List.forall_mem_cons.mpr ⟨lw_p38, List.forall_mem_cons.mpr ⟨lw_p39, List.forall_mem_cons.mpr ⟨lw_p40, List.forall_mem_cons.mpr ⟨lw_p41, List.forall_mem_cons.mpr ⟨lw_p42, List.forall_mem_cons.mpr ⟨lw_p43, List.forall_mem_cons.mpr ⟨lw_p44, List.forall_mem_cons.mpr ⟨lw_p45, List.forall_mem_cons.mpr ⟨lw_p46, List.forall_mem_cons.mpr ⟨lw_p47, fun _ h => absurd h List.not_mem_nil⟩⟩⟩⟩⟩⟩⟩⟩⟩⟩⟩⟩⟩⟩⟩⟩
theorem lw_p48 : lw_okq (⟨"MakersBenchModel", "madeBy", "(III)I"⟩, 39) := ⟨⟨by decide +kernel, by decide +kernel⟩, List.mem_of_getElem? (i := 685) (by decide +kernel), List.mem_of_getElem? (i := 979) (by decide +kernel), List.mem_of_getElem? (i := 980) (by decide +kernel)⟩
theorem lw_p49 : lw_okq (⟨"MakersBenchModel", "goOver", "(III)I"⟩, 39) := ⟨⟨by decide +kernel, by decide +kernel⟩, List.mem_of_getElem? (i := 685) (by decide +kernel), List.mem_of_getElem? (i := 983) (by decide +kernel), List.mem_of_getElem? (i := 984) (by decide +kernel)⟩
theorem lw_p50 : lw_okq (⟨"MakersBenchModel", "turned", "(III)I"⟩, 39) := ⟨⟨by decide +kernel, by decide +kernel⟩, List.mem_of_getElem? (i := 685) (by decide +kernel), List.mem_of_getElem? (i := 987) (by decide +kernel), List.mem_of_getElem? (i := 988) (by decide +kernel)⟩
theorem lw_p51 : lw_okq (⟨"MakersBenchModel", "becomes", "(III)I"⟩, 39) := ⟨⟨by decide +kernel, by decide +kernel⟩, List.mem_of_getElem? (i := 685) (by decide +kernel), List.mem_of_getElem? (i := 991) (by decide +kernel), List.mem_of_getElem? (i := 992) (by decide +kernel)⟩
theorem lw_p52 : lw_okq (⟨"MakersBenchModel", "folded", "(II)I"⟩, 39) := ⟨⟨by decide +kernel, by decide +kernel⟩, List.mem_of_getElem? (i := 685) (by decide +kernel), List.mem_of_getElem? (i := 995) (by decide +kernel), List.mem_of_getElem? (i := 996) (by decide +kernel)⟩
theorem lw_p53 : lw_okq (⟨"MakersBenchModel", "numeral", "(I)I"⟩, 39) := ⟨⟨by decide +kernel, by decide +kernel⟩, List.mem_of_getElem? (i := 685) (by decide +kernel), List.mem_of_getElem? (i := 999) (by decide +kernel), List.mem_of_getElem? (i := 1000) (by decide +kernel)⟩
theorem lw_p54 : lw_okq (⟨"MakersBenchModel", "zeroed", "(II)I"⟩, 39) := ⟨⟨by decide +kernel, by decide +kernel⟩, List.mem_of_getElem? (i := 685) (by decide +kernel), List.mem_of_getElem? (i := 1003) (by decide +kernel), List.mem_of_getElem? (i := 1004) (by decide +kernel)⟩
theorem lw_p55 : lw_okq (⟨"MakersBenchModel", "isNumber", "(II)Z"⟩, 39) := ⟨⟨by decide +kernel, by decide +kernel⟩, List.mem_of_getElem? (i := 685) (by decide +kernel), List.mem_of_getElem? (i := 1007) (by decide +kernel), List.mem_of_getElem? (i := 1008) (by decide +kernel)⟩
theorem lw_p56 : lw_okq (⟨"MakersBenchModel", "samed", "(II)I"⟩, 39) := ⟨⟨by decide +kernel, by decide +kernel⟩, List.mem_of_getElem? (i := 685) (by decide +kernel), List.mem_of_getElem? (i := 1011) (by decide +kernel), List.mem_of_getElem? (i := 1012) (by decide +kernel)⟩
theorem lw_p57 : lw_okq (⟨"MakersBenchModel", "lookSame", "(III)Z"⟩, 39) := ⟨⟨by decide +kernel, by decide +kernel⟩, List.mem_of_getElem? (i := 685) (by decide +kernel), List.mem_of_getElem? (i := 1015) (by decide +kernel), List.mem_of_getElem? (i := 1016) (by decide +kernel)⟩
theorem lw_p58 : lw_okq (⟨"MakersBenchModel", "areSame", "(II)Z"⟩, 39) := ⟨⟨by decide +kernel, by decide +kernel⟩, List.mem_of_getElem? (i := 685) (by decide +kernel), List.mem_of_getElem? (i := 1019) (by decide +kernel), List.mem_of_getElem? (i := 1020) (by decide +kernel)⟩
theorem lw_p59 : lw_okq (⟨"MakersBenchModel", "picked", "(II)I"⟩, 39) := ⟨⟨by decide +kernel, by decide +kernel⟩, List.mem_of_getElem? (i := 685) (by decide +kernel), List.mem_of_getElem? (i := 1023) (by decide +kernel), List.mem_of_getElem? (i := 1024) (by decide +kernel)⟩
theorem lw_p60 : lw_okq (⟨"MakersBenchModel", "melted", "(II)I"⟩, 39) := ⟨⟨by decide +kernel, by decide +kernel⟩, List.mem_of_getElem? (i := 685) (by decide +kernel), List.mem_of_getElem? (i := 1027) (by decide +kernel), List.mem_of_getElem? (i := 1028) (by decide +kernel)⟩
theorem lw_p61 : lw_okq (⟨"MakersBenchModel", "twiced", "(II)I"⟩, 39) := ⟨⟨by decide +kernel, by decide +kernel⟩, List.mem_of_getElem? (i := 685) (by decide +kernel), List.mem_of_getElem? (i := 1031) (by decide +kernel), List.mem_of_getElem? (i := 1032) (by decide +kernel)⟩
theorem lw_p62 : lw_okq (⟨"MakersBenchModel", "twice", "(III)I"⟩, 39) := ⟨⟨by decide +kernel, by decide +kernel⟩, List.mem_of_getElem? (i := 685) (by decide +kernel), List.mem_of_getElem? (i := 1035) (by decide +kernel), List.mem_of_getElem? (i := 1036) (by decide +kernel)⟩
theorem lw_p63 : lw_okq (⟨"MakersBenchModel", "pair", "(III)I"⟩, 39) := ⟨⟨by decide +kernel, by decide +kernel⟩, List.mem_of_getElem? (i := 685) (by decide +kernel), List.mem_of_getElem? (i := 1039) (by decide +kernel), List.mem_of_getElem? (i := 1040) (by decide +kernel)⟩
def lw_privs_4 : List (MethodName × Nat) := [(⟨"MakersBenchModel", "madeBy", "(III)I"⟩, 39), (⟨"MakersBenchModel", "goOver", "(III)I"⟩, 39), (⟨"MakersBenchModel", "turned", "(III)I"⟩, 39), (⟨"MakersBenchModel", "becomes", "(III)I"⟩, 39), (⟨"MakersBenchModel", "folded", "(II)I"⟩, 39), (⟨"MakersBenchModel", "numeral", "(I)I"⟩, 39), (⟨"MakersBenchModel", "zeroed", "(II)I"⟩, 39), (⟨"MakersBenchModel", "isNumber", "(II)Z"⟩, 39), (⟨"MakersBenchModel", "samed", "(II)I"⟩, 39), (⟨"MakersBenchModel", "lookSame", "(III)Z"⟩, 39), (⟨"MakersBenchModel", "areSame", "(II)Z"⟩, 39), (⟨"MakersBenchModel", "picked", "(II)I"⟩, 39), (⟨"MakersBenchModel", "melted", "(II)I"⟩, 39), (⟨"MakersBenchModel", "twiced", "(II)I"⟩, 39), (⟨"MakersBenchModel", "twice", "(III)I"⟩, 39), (⟨"MakersBenchModel", "pair", "(III)I"⟩, 39)]
theorem lw_r4 : ∀ q ∈ lw_privs_4, lw_okq q := List.forall_mem_cons.mpr ⟨lw_p48, List.forall_mem_cons.mpr ⟨lw_p49, List.forall_mem_cons.mpr ⟨lw_p50, List.forall_mem_cons.mpr ⟨lw_p51, List.forall_mem_cons.mpr ⟨lw_p52, List.forall_mem_cons.mpr ⟨lw_p53, List.forall_mem_cons.mpr ⟨lw_p54, List.forall_mem_cons.mpr ⟨lw_p55, List.forall_mem_cons.mpr ⟨lw_p56, List.forall_mem_cons.mpr ⟨lw_p57, List.forall_mem_cons.mpr ⟨lw_p58, List.forall_mem_cons.mpr ⟨lw_p59, List.forall_mem_cons.mpr ⟨lw_p60, List.forall_mem_cons.mpr ⟨lw_p61, List.forall_mem_cons.mpr ⟨lw_p62, List.forall_mem_cons.mpr ⟨lw_p63, fun _ h => absurd h List.not_mem_nil⟩⟩⟩⟩⟩⟩⟩⟩⟩⟩⟩⟩⟩⟩⟩⟩
theorem lw_p64 : lw_okq (⟨"MakersBenchModel", "sunk", "(II)I"⟩, 39) := ⟨⟨by decide +kernel, by decide +kernel⟩, List.mem_of_getElem? (i := 685) (by decide +kernel), List.mem_of_getElem? (i := 1043) (by decide +kernel), List.mem_of_getElem? (i := 1044) (by decide +kernel)⟩
theorem lw_p65 : lw_okq (⟨"MakersBenchModel", "flatten", "(I)V"⟩, 39) := ⟨⟨by decide +kernel, by decide +kernel⟩, List.mem_of_getElem? (i := 685) (by decide +kernel), List.mem_of_getElem? (i := 1047) (by decide +kernel), List.mem_of_getElem? (i := 1048) (by decide +kernel)⟩
theorem lw_p66 : lw_okq (⟨"MakersBenchModel", "firesOf", "(III)I"⟩, 39) := ⟨⟨by decide +kernel, by decide +kernel⟩, List.mem_of_getElem? (i := 685) (by decide +kernel), List.mem_of_getElem? (i := 1067) (by decide +kernel), List.mem_of_getElem? (i := 1068) (by decide +kernel)⟩
theorem lw_p67 : lw_okq (⟨"MakersBenchModel", "isOther", "(IIII)Z"⟩, 39) := ⟨⟨by decide +kernel, by decide +kernel⟩, List.mem_of_getElem? (i := 685) (by decide +kernel), List.mem_of_getElem? (i := 1079) (by decide +kernel), List.mem_of_getElem? (i := 1080) (by decide +kernel)⟩
theorem lw_p68 : lw_okq (⟨"MakersBenchModel", "firstOf", "(III)I"⟩, 39) := ⟨⟨by decide +kernel, by decide +kernel⟩, List.mem_of_getElem? (i := 685) (by decide +kernel), List.mem_of_getElem? (i := 1087) (by decide +kernel), List.mem_of_getElem? (i := 1088) (by decide +kernel)⟩
theorem lw_p69 : lw_okq (⟨"MakersBenchModel", "isShown", "(II)Z"⟩, 39) := ⟨⟨by decide +kernel, by decide +kernel⟩, List.mem_of_getElem? (i := 685) (by decide +kernel), List.mem_of_getElem? (i := 1099) (by decide +kernel), List.mem_of_getElem? (i := 1100) (by decide +kernel)⟩
theorem lw_p70 : lw_okq (⟨"MakersBenchModel", "makeSmaller", "(II)Z"⟩, 39) := ⟨⟨by decide +kernel, by decide +kernel⟩, List.mem_of_getElem? (i := 685) (by decide +kernel), List.mem_of_getElem? (i := 1103) (by decide +kernel), List.mem_of_getElem? (i := 1104) (by decide +kernel)⟩
theorem lw_p71 : lw_okq (⟨"MakersBenchModel", "remember", "()V"⟩, 39) := ⟨⟨by decide +kernel, by decide +kernel⟩, List.mem_of_getElem? (i := 685) (by decide +kernel), List.mem_of_getElem? (i := 1107) (by decide +kernel), List.mem_of_getElem? (i := 1108) (by decide +kernel)⟩
theorem lw_p72 : lw_okq (⟨"MakersBenchModel", "step", "(II)Z"⟩, 39) := ⟨⟨by decide +kernel, by decide +kernel⟩, List.mem_of_getElem? (i := 685) (by decide +kernel), List.mem_of_getElem? (i := 1111) (by decide +kernel), List.mem_of_getElem? (i := 1112) (by decide +kernel)⟩
theorem lw_p73 : lw_okq (⟨"MakersBenchModel", "recall", "()V"⟩, 39) := ⟨⟨by decide +kernel, by decide +kernel⟩, List.mem_of_getElem? (i := 685) (by decide +kernel), List.mem_of_getElem? (i := 1115) (by decide +kernel), List.mem_of_getElem? (i := 1116) (by decide +kernel)⟩
theorem lw_p74 : lw_okq (⟨"MakersBenchModel", "nthTree", "(IJ)I"⟩, 39) := ⟨⟨by decide +kernel, by decide +kernel⟩, List.mem_of_getElem? (i := 685) (by decide +kernel), List.mem_of_getElem? (i := 1127) (by decide +kernel), List.mem_of_getElem? (i := 1128) (by decide +kernel)⟩
def lw_privs_5 : List (MethodName × Nat) := [(⟨"MakersBenchModel", "sunk", "(II)I"⟩, 39), (⟨"MakersBenchModel", "flatten", "(I)V"⟩, 39), (⟨"MakersBenchModel", "firesOf", "(III)I"⟩, 39), (⟨"MakersBenchModel", "isOther", "(IIII)Z"⟩, 39), (⟨"MakersBenchModel", "firstOf", "(III)I"⟩, 39), (⟨"MakersBenchModel", "isShown", "(II)Z"⟩, 39), (⟨"MakersBenchModel", "makeSmaller", "(II)Z"⟩, 39), (⟨"MakersBenchModel", "remember", "()V"⟩, 39), (⟨"MakersBenchModel", "step", "(II)Z"⟩, 39), (⟨"MakersBenchModel", "recall", "()V"⟩, 39), (⟨"MakersBenchModel", "nthTree", "(IJ)I"⟩, 39)]
theorem lw_r5 : ∀ q ∈ lw_privs_5, lw_okq q := List.forall_mem_cons.mpr ⟨lw_p64, List.forall_mem_cons.mpr ⟨lw_p65, List.forall_mem_cons.mpr ⟨lw_p66, List.forall_mem_cons.mpr ⟨lw_p67, List.forall_mem_cons.mpr ⟨lw_p68, List.forall_mem_cons.mpr ⟨lw_p69, List.forall_mem_cons.mpr ⟨lw_p70, List.forall_mem_cons.mpr ⟨lw_p71, List.forall_mem_cons.mpr ⟨lw_p72, List.forall_mem_cons.mpr ⟨lw_p73, List.forall_mem_cons.mpr ⟨lw_p74, fun _ h => absurd h List.not_mem_nil⟩⟩⟩⟩⟩⟩⟩⟩⟩⟩⟩
def lw_privs : List (MethodName × Nat) := lw_privs_1 ++ (lw_privs_2 ++ (lw_privs_3 ++ (lw_privs_4 ++ (lw_privs_5))))
def lw_tbl : List Cond := k2_sels lw_privs ++ tables_1
theorem lw_privs_ok : ∀ q ∈ lw_privs, lw_okq q := by
  show ∀ q ∈ lw_privs_1 ++ (lw_privs_2 ++ (lw_privs_3 ++ (lw_privs_4 ++ (lw_privs_5)))), lw_okq q
  exact List.forall_mem_append.mpr ⟨lw_r1, List.forall_mem_append.mpr ⟨lw_r2, List.forall_mem_append.mpr ⟨lw_r3, List.forall_mem_append.mpr ⟨lw_r4, lw_r5⟩⟩⟩⟩
def RX0 : String := "MakersBench$Code"
def TX0 : u_T := fun k => match k with
  | 0 => ("MakersBench$Code", "orders", "[I", true)
  | 1 => ("MakersBench$Code", "details", "[I", true)
  | 2 => ("MakersBench$Code", "length", "I", false)
  | 3 => ("MakersBench$Code", "readsA", "Z", false)
  | 4 => ("MakersBench$Code", "readsB", "Z", false)
  | 5 => ("MakersBench$Code", "divides", "Z", false)
  | 6 => ("MakersBench$Code", "openKinds", "[I", true)
  | 7 => ("MakersBench$Code", "openParts", "[I", true)
  | 8 => ("MakersBench$Code", "openJumps", "[I", true)
  | 9 => ("MakersBench$Code", "stack", "[I", true)
  | 10 => ("MakersBench$Code", "result", "I", false)
  | _ => ("MakersBench$Code", "done", "I", false)
def tyX0 : Nat → FieldType := fun k => match k with
  | 0 => .array .int
  | 1 => .array .int
  | 2 => .int
  | 3 => .boolean
  | 4 => .boolean
  | 5 => .boolean
  | 6 => .array .int
  | 7 => .array .int
  | 8 => .array .int
  | 9 => .array .int
  | 10 => .int
  | _ => .int
abbrev wsX00 : List Cond := u_ws RX0 TX0 12
theorem nmX0 : ∀ a, a < 12 → ∀ b, b < 12 → a ≠ b → (TX0 a).2.1 ≠ (TX0 b).2.1 := by decide +kernel
theorem tyX0_ok : ∀ k, k < 12 → parseFieldDescriptor (TX0 k).2.2.1 = some (tyX0 k) := by decide +kernel
abbrev cX0_init : ByteArray := prog_2_method_1_code
def yX0_init : MethodName := ⟨RX0, "<init>", "()V"⟩
abbrev cX0_write : ByteArray := prog_2_method_2_code
def yX0_write : MethodName := ⟨RX0, "write", "(LMakersBench$Tree;)V"⟩
abbrev cX0_add : ByteArray := prog_2_method_3_code
def yX0_add : MethodName := ⟨RX0, "add", "(II)V"⟩
abbrev cX0_endParts : ByteArray := prog_2_method_4_code
def yX0_endParts : MethodName := ⟨RX0, "endParts", "(I)I"⟩
abbrev cX0_jumpBehindPart : ByteArray := prog_2_method_5_code
def yX0_jumpBehindPart : MethodName := ⟨RX0, "jumpBehindPart", "(I)V"⟩
abbrev cX0_aim : ByteArray := prog_2_method_6_code
def yX0_aim : MethodName := ⟨RX0, "aim", "(II)V"⟩
abbrev cX0_run : ByteArray := prog_2_method_7_code
def yX0_run : MethodName := ⟨RX0, "run", "(II)Z"⟩
abbrev cX0_isNeverFree : ByteArray := prog_2_method_8_code
def yX0_isNeverFree : MethodName := ⟨RX0, "isNeverFree", "(I)Z"⟩
def RX1 : String := "MakersBench$Grammar"
def TX1 : u_T := fun k => match k with
  | 0 => ("MakersBench$Grammar", "ones", "[J", true)
  | 1 => ("MakersBench$Grammar", "twos", "[J", true)
  | 2 => ("MakersBench$Grammar", "threes", "[J", true)
  | 3 => ("MakersBench$Grammar", "deferredSizes", "[I", true)
  | 4 => ("MakersBench$Grammar", "deferredNumbers", "[J", true)
  | 5 => ("MakersBench$Grammar", "deferred", "I", false)
  | _ => ("MakersBench$Grammar", "ranks", "[J", true)
def tyX1 : Nat → FieldType := fun k => match k with
  | 0 => .array .long
  | 1 => .array .long
  | 2 => .array .long
  | 3 => .array .int
  | 4 => .array .long
  | 5 => .int
  | _ => .array .long
abbrev wsX10 : List Cond := u_ws RX1 TX1 7
theorem nmX1 : ∀ a, a < 7 → ∀ b, b < 7 → a ≠ b → (TX1 a).2.1 ≠ (TX1 b).2.1 := by decide +kernel
theorem tyX1_ok : ∀ k, k < 7 → parseFieldDescriptor (TX1 k).2.2.1 = some (tyX1 k) := by decide +kernel
abbrev cX1_init : ByteArray := prog_3_method_1_code
def yX1_init : MethodName := ⟨RX1, "<init>", "()V"⟩
abbrev cX1_howMany : ByteArray := prog_3_method_2_code
def yX1_howMany : MethodName := ⟨RX1, "howMany", "(I)J"⟩
abbrev cX1_unfold : ByteArray := prog_3_method_3_code
def yX1_unfold : MethodName := ⟨RX1, "unfold", "(LMakersBench$Tree;IJ)V"⟩
abbrev cX1_unfoldNode : ByteArray := prog_3_method_4_code
def yX1_unfoldNode : MethodName := ⟨RX1, "unfoldNode", "(LMakersBench$Tree;IJ)V"⟩
abbrev cX1_unfoldLeaf : ByteArray := prog_3_method_5_code
def yX1_unfoldLeaf : MethodName := ⟨RX1, "unfoldLeaf", "(LMakersBench$Tree;I)V"⟩
abbrev cX1_defer : ByteArray := prog_3_method_6_code
def yX1_defer : MethodName := ⟨RX1, "defer", "(IJ)V"⟩
abbrev cX1_deferTwo : ByteArray := prog_3_method_7_code
def yX1_deferTwo : MethodName := ⟨RX1, "deferTwo", "(IJ)V"⟩
abbrev cX1_deferThree : ByteArray := prog_3_method_8_code
def yX1_deferThree : MethodName := ⟨RX1, "deferThree", "(IJ)V"⟩
abbrev cX1_isNumbered : ByteArray := prog_3_method_9_code
def yX1_isNumbered : MethodName := ⟨RX1, "isNumbered", "(LMakersBench$Tree;)Z"⟩
abbrev cX1_rank : ByteArray := prog_3_method_10_code
def yX1_rank : MethodName := ⟨RX1, "rank", "(LMakersBench$Tree;)J"⟩
abbrev cX1_rankOfNode : ByteArray := prog_3_method_11_code
def yX1_rankOfNode : MethodName := ⟨RX1, "rankOfNode", "(LMakersBench$Tree;I)J"⟩
abbrev cX1_rankAt : ByteArray := prog_3_method_12_code
def yX1_rankAt : MethodName := ⟨RX1, "rankAt", "(I)J"⟩
abbrev cX1_rankOfTwo : ByteArray := prog_3_method_13_code
def yX1_rankOfTwo : MethodName := ⟨RX1, "rankOfTwo", "(LMakersBench$Tree;I)J"⟩
abbrev cX1_rankOfThree : ByteArray := prog_3_method_14_code
def yX1_rankOfThree : MethodName := ⟨RX1, "rankOfThree", "(LMakersBench$Tree;II)J"⟩
def RX2 : String := "MakersBench$Maker"
def TX2 : u_T := fun k => match k with
  | 0 => ("MakersBench$Maker", "sorts", "[I", true)
  | 1 => ("MakersBench$Maker", "faults", "[I", true)
  | _ => ("MakersBench$Maker", "turns", "I", false)
def tyX2 : Nat → FieldType := fun k => match k with
  | 0 => .array .int
  | 1 => .array .int
  | _ => .int
abbrev wsX20 : List Cond := u_ws RX2 TX2 3
theorem nmX2 : ∀ a, a < 3 → ∀ b, b < 3 → a ≠ b → (TX2 a).2.1 ≠ (TX2 b).2.1 := by decide +kernel
theorem tyX2_ok : ∀ k, k < 3 → parseFieldDescriptor (TX2 k).2.2.1 = some (tyX2 k) := by decide +kernel
abbrev cX2_init : ByteArray := prog_4_method_1_code
def yX2_init : MethodName := ⟨RX2, "<init>", "()V"⟩
abbrev cX2_has : ByteArray := prog_4_method_2_code
def yX2_has : MethodName := ⟨RX2, "has", "(I)Z"⟩
abbrev cX2_sortOf : ByteArray := prog_4_method_3_code
def yX2_sortOf : MethodName := ⟨RX2, "sortOf", "(I)I"⟩
abbrev cX2_faultOf : ByteArray := prog_4_method_4_code
def yX2_faultOf : MethodName := ⟨RX2, "faultOf", "(I)I"⟩
abbrev cX2_setFault : ByteArray := prog_4_method_5_code
def yX2_setFault : MethodName := ⟨RX2, "setFault", "(II)V"⟩
abbrev cX2_addTurn : ByteArray := prog_4_method_6_code
def yX2_addTurn : MethodName := ⟨RX2, "addTurn", "(II)V"⟩
def RX3 : String := "MakersBench$Pile"
def TX3 : u_T := fun k => match k with
  | 0 => ("MakersBench$Pile", "row", "LMakersBench$Tree;", true)
  | 1 => ("MakersBench$Pile", "starts", "[I", true)
  | _ => ("MakersBench$Pile", "trees", "I", false)
def tyX3 : Nat → FieldType := fun k => match k with
  | 0 => .object "MakersBench$Tree"
  | 1 => .array .int
  | _ => .int
abbrev wsX30 : List Cond := u_ws RX3 TX3 3
theorem nmX3 : ∀ a, a < 3 → ∀ b, b < 3 → a ≠ b → (TX3 a).2.1 ≠ (TX3 b).2.1 := by decide +kernel
theorem tyX3_ok : ∀ k, k < 3 → parseFieldDescriptor (TX3 k).2.2.1 = some (tyX3 k) := by decide +kernel
abbrev cX3_init : ByteArray := prog_5_method_1_code
def yX3_init : MethodName := ⟨RX3, "<init>", "()V"⟩
abbrev cX3_clear : ByteArray := prog_5_method_2_code
def yX3_clear : MethodName := ⟨RX3, "clear", "()V"⟩
abbrev cX3_put : ByteArray := prog_5_method_3_code
def yX3_put : MethodName := ⟨RX3, "put", "(II)V"⟩
def RX4 : String := "MakersBench$Rules"
def TX4 : u_T := fun k => match k with
  | _ => ("", "", "", false)
def tyX4 : Nat → FieldType := fun k => match k with
  | _ => .int
abbrev wsX40 : List Cond := u_ws RX4 TX4 0
theorem nmX4 : ∀ a, a < 0 → ∀ b, b < 0 → a ≠ b → (TX4 a).2.1 ≠ (TX4 b).2.1 := by decide +kernel
theorem tyX4_ok : ∀ k, k < 0 → parseFieldDescriptor (TX4 k).2.2.1 = some (tyX4 k) := by decide +kernel
abbrev cX4_fire : ByteArray := prog_6_method_2_code
def yX4_fire : MethodName := ⟨RX4, "fire", "(LMakersBench$Tree;IIII)Z"⟩
abbrev cX4_fold : ByteArray := prog_6_method_3_code
def yX4_fold : MethodName := ⟨RX4, "fold", "(LMakersBench$Tree;II)Z"⟩
abbrev cX4_zero : ByteArray := prog_6_method_4_code
def yX4_zero : MethodName := ⟨RX4, "zero", "(LMakersBench$Tree;II)Z"⟩
abbrev cX4_staysOfTimes : ByteArray := prog_6_method_5_code
def yX4_staysOfTimes : MethodName := ⟨RX4, "staysOfTimes", "(LMakersBench$Tree;III)I"⟩
abbrev cX4_same : ByteArray := prog_6_method_6_code
def yX4_same : MethodName := ⟨RX4, "same", "(LMakersBench$Tree;II)Z"⟩
abbrev cX4_isAlike : ByteArray := prog_6_method_7_code
def yX4_isAlike : MethodName := ⟨RX4, "isAlike", "(LMakersBench$Tree;II)Z"⟩
abbrev cX4_pick : ByteArray := prog_6_method_8_code
def yX4_pick : MethodName := ⟨RX4, "pick", "(LMakersBench$Tree;II)Z"⟩
abbrev cX4_melt : ByteArray := prog_6_method_9_code
def yX4_melt : MethodName := ⟨RX4, "melt", "(LMakersBench$Tree;II)Z"⟩
abbrev cX4_twice : ByteArray := prog_6_method_10_code
def yX4_twice : MethodName := ⟨RX4, "twice", "(LMakersBench$Tree;III)Z"⟩
abbrev cX4_otherThan : ByteArray := prog_6_method_11_code
def yX4_otherThan : MethodName := ⟨RX4, "otherThan", "(LMakersBench$Tree;III)I"⟩
abbrev cX4_sink : ByteArray := prog_6_method_12_code
def yX4_sink : MethodName := ⟨RX4, "sink", "(LMakersBench$Tree;II)Z"⟩
def RX5 : String := "MakersBench$Tree"
def TX5 : u_T := fun k => match k with
  | 0 => ("MakersBench$Tree", "kinds", "[I", true)
  | 1 => ("MakersBench$Tree", "numbers", "[I", true)
  | 2 => ("MakersBench$Tree", "sizes", "[I", true)
  | _ => ("MakersBench$Tree", "length", "I", false)
def tyX5 : Nat → FieldType := fun k => match k with
  | 0 => .array .int
  | 1 => .array .int
  | 2 => .array .int
  | _ => .int
abbrev wsX50 : List Cond := u_ws RX5 TX5 4
theorem nmX5 : ∀ a, a < 4 → ∀ b, b < 4 → a ≠ b → (TX5 a).2.1 ≠ (TX5 b).2.1 := by decide +kernel
theorem tyX5_ok : ∀ k, k < 4 → parseFieldDescriptor (TX5 k).2.2.1 = some (tyX5 k) := by decide +kernel
abbrev cX5_init : ByteArray := prog_7_method_1_code
def yX5_init : MethodName := ⟨RX5, "<init>", "()V"⟩
abbrev cX5_has : ByteArray := prog_7_method_2_code
def yX5_has : MethodName := ⟨RX5, "has", "(I)Z"⟩
abbrev cX5_kindOf : ByteArray := prog_7_method_3_code
def yX5_kindOf : MethodName := ⟨RX5, "kindOf", "(I)I"⟩
abbrev cX5_numberOf : ByteArray := prog_7_method_4_code
def yX5_numberOf : MethodName := ⟨RX5, "numberOf", "(I)I"⟩
abbrev cX5_sizeOf : ByteArray := prog_7_method_5_code
def yX5_sizeOf : MethodName := ⟨RX5, "sizeOf", "(I)I"⟩
abbrev cX5_behind : ByteArray := prog_7_method_6_code
def yX5_behind : MethodName := ⟨RX5, "behind", "(I)I"⟩
abbrev cX5_isNumber : ByteArray := prog_7_method_7_code
def yX5_isNumber : MethodName := ⟨RX5, "isNumber", "(II)Z"⟩
abbrev cX5_isSame : ByteArray := prog_7_method_8_code
def yX5_isSame : MethodName := ⟨RX5, "isSame", "(II)Z"⟩
abbrev cX5_clear : ByteArray := prog_7_method_9_code
def yX5_clear : MethodName := ⟨RX5, "clear", "()V"⟩
abbrev cX5_append : ByteArray := prog_7_method_10_code
def yX5_append : MethodName := ⟨RX5, "append", "(II)V"⟩
abbrev cX5_appendRun : ByteArray := prog_7_method_11_code
def yX5_appendRun : MethodName := ⟨RX5, "appendRun", "(LMakersBench$Tree;II)V"⟩
abbrev cX5_become : ByteArray := prog_7_method_12_code
def yX5_become : MethodName := ⟨RX5, "become", "(LMakersBench$Tree;)V"⟩
abbrev cX5_join : ByteArray := prog_7_method_13_code
def yX5_join : MethodName := ⟨RX5, "join", "(LMakersBench$Tree;ILMakersBench$Tree;I)V"⟩
abbrev cX5_measure : ByteArray := prog_7_method_14_code
def yX5_measure : MethodName := ⟨RX5, "measure", "()V"⟩
abbrev cX5_close : ByteArray := prog_7_method_15_code
def yX5_close : MethodName := ⟨RX5, "close", "(I)V"⟩
abbrev cX5_rename : ByteArray := prog_7_method_16_code
def yX5_rename : MethodName := ⟨RX5, "rename", "(II)V"⟩
abbrev cX5_insert : ByteArray := prog_7_method_17_code
def yX5_insert : MethodName := ⟨RX5, "insert", "(III)V"⟩
abbrev cX5_cut : ByteArray := prog_7_method_18_code
def yX5_cut : MethodName := ⟨RX5, "cut", "(II)V"⟩
abbrev cX5_endAsNumber : ByteArray := prog_7_method_19_code
def yX5_endAsNumber : MethodName := ⟨RX5, "endAsNumber", "(II)V"⟩
abbrev cX5_endAsPart : ByteArray := prog_7_method_20_code
def yX5_endAsPart : MethodName := ⟨RX5, "endAsPart", "(II)V"⟩
def RX6 : String := "MakersBench$Workshop"
def TX6 : u_T := fun k => match k with
  | 0 => ("MakersBench$Workshop", "open", "[I", true)
  | 1 => ("MakersBench$Workshop", "missing", "[I", true)
  | 2 => ("MakersBench$Workshop", "now", "LMakersBench$Tree;", false)
  | _ => ("MakersBench$Workshop", "next", "LMakersBench$Tree;", false)
def tyX6 : Nat → FieldType := fun k => match k with
  | 0 => .array .int
  | 1 => .array .int
  | 2 => .object "MakersBench$Tree"
  | _ => .object "MakersBench$Tree"
abbrev wsX60 : List Cond := u_ws RX6 TX6 4
theorem nmX6 : ∀ a, a < 4 → ∀ b, b < 4 → a ≠ b → (TX6 a).2.1 ≠ (TX6 b).2.1 := by decide +kernel
theorem tyX6_ok : ∀ k, k < 4 → parseFieldDescriptor (TX6 k).2.2.1 = some (tyX6 k) := by decide +kernel
abbrev cX6_init : ByteArray := prog_8_method_1_code
def yX6_init : MethodName := ⟨RX6, "<init>", "()V"⟩
abbrev cX6_make : ByteArray := prog_8_method_2_code
def yX6_make : MethodName := ⟨RX6, "make", "(LMakersBench$Maker;LMakersBench$Tree;I)I"⟩
abbrev cX6_firings : ByteArray := prog_8_method_3_code
def yX6_firings : MethodName := ⟨RX6, "firings", "(LMakersBench$Maker;LMakersBench$Tree;I)I"⟩
abbrev cX6_firingTurns : ByteArray := prog_8_method_4_code
def yX6_firingTurns : MethodName := ⟨RX6, "firingTurns", "(LMakersBench$Maker;LMakersBench$Tree;)I"⟩
abbrev cX6_apply : ByteArray := prog_8_method_5_code
def yX6_apply : MethodName := ⟨RX6, "apply", "(II)I"⟩
def RX7 : String := "MakersBench"
def TX7 : u_T := fun k => match k with
  | 0 => ("MakersBench", "grammar", "LMakersBench$Grammar;", true)
  | 1 => ("MakersBench", "pile", "LMakersBench$Pile;", true)
  | 2 => ("MakersBench", "places", "[LMakersBench$Tree;", true)
  | 3 => ("MakersBench", "makers", "[LMakersBench$Maker;", true)
  | 4 => ("MakersBench", "workshop", "LMakersBench$Workshop;", true)
  | 5 => ("MakersBench", "right", "LMakersBench$Code;", true)
  | 6 => ("MakersBench", "tried", "LMakersBench$Code;", true)
  | 7 => ("MakersBench", "found", "LMakersBench$Tree;", true)
  | 8 => ("MakersBench", "candidate", "LMakersBench$Tree;", true)
  | 9 => ("MakersBench", "nought", "LMakersBench$Tree;", true)
  | 10 => ("MakersBench", "makerCount", "I", false)
  | _ => ("MakersBench", "stepsDone", "I", false)
def tyX7 : Nat → FieldType := fun k => match k with
  | 0 => .object "MakersBench$Grammar"
  | 1 => .object "MakersBench$Pile"
  | 2 => .array (.object "MakersBench$Tree")
  | 3 => .array (.object "MakersBench$Maker")
  | 4 => .object "MakersBench$Workshop"
  | 5 => .object "MakersBench$Code"
  | 6 => .object "MakersBench$Code"
  | 7 => .object "MakersBench$Tree"
  | 8 => .object "MakersBench$Tree"
  | 9 => .object "MakersBench$Tree"
  | 10 => .int
  | _ => .int
abbrev wsX70 : List Cond := u_ws RX7 TX7 12
theorem nmX7 : ∀ a, a < 12 → ∀ b, b < 12 → a ≠ b → (TX7 a).2.1 ≠ (TX7 b).2.1 := by decide +kernel
theorem tyX7_ok : ∀ k, k < 12 → parseFieldDescriptor (TX7 k).2.2.1 = some (tyX7 k) := by decide +kernel
abbrev cX7_init : ByteArray := prog_1_method_1_code
def yX7_init : MethodName := ⟨RX7, "<init>", "()V"⟩
abbrev cX7_many : ByteArray := prog_1_method_2_code
def yX7_many : MethodName := ⟨RX7, "many", "(I)J"⟩
abbrev cX7_nth : ByteArray := prog_1_method_3_code
def yX7_nth : MethodName := ⟨RX7, "nth", "(IIJ)I"⟩
abbrev cX7_number : ByteArray := prog_1_method_4_code
def yX7_number : MethodName := ⟨RX7, "number", "(I)J"⟩
abbrev cX7_node : ByteArray := prog_1_method_5_code
def yX7_node : MethodName := ⟨RX7, "node", "(II)I"⟩
abbrev cX7_keep : ByteArray := prog_1_method_6_code
def yX7_keep : MethodName := ⟨RX7, "keep", "(I)I"⟩
abbrev cX7_drop : ByteArray := prog_1_method_7_code
def yX7_drop : MethodName := ⟨RX7, "drop", "(I)I"⟩
abbrev cX7_read : ByteArray := prog_1_method_8_code
def yX7_read : MethodName := ⟨RX7, "read", "(III)I"⟩
abbrev cX7_value : ByteArray := prog_1_method_9_code
def yX7_value : MethodName := ⟨RX7, "value", "(III)I"⟩
abbrev cX7_safe : ByteArray := prog_1_method_10_code
def yX7_safe : MethodName := ⟨RX7, "safe", "(II)I"⟩
abbrev cX7_breed : ByteArray := prog_1_method_11_code
def yX7_breed : MethodName := ⟨RX7, "breed", "(IIIII)I"⟩
abbrev cX7_maker : ByteArray := prog_1_method_12_code
def yX7_maker : MethodName := ⟨RX7, "maker", "()I"⟩
abbrev cX7_turn : ByteArray := prog_1_method_13_code
def yX7_turn : MethodName := ⟨RX7, "turn", "(III)I"⟩
abbrev cX7_plant : ByteArray := prog_1_method_14_code
def yX7_plant : MethodName := ⟨RX7, "plant", "(III)I"⟩
abbrev cX7_made : ByteArray := prog_1_method_15_code
def yX7_made : MethodName := ⟨RX7, "made", "(III)I"⟩
abbrev cX7_part : ByteArray := prog_1_method_16_code
def yX7_part : MethodName := ⟨RX7, "part", "(II)I"⟩
abbrev cX7_answer : ByteArray := prog_1_method_17_code
def yX7_answer : MethodName := ⟨RX7, "answer", "(IIII)I"⟩
abbrev cX7_cost : ByteArray := prog_1_method_18_code
def yX7_cost : MethodName := ⟨RX7, "cost", "(IIII)I"⟩
abbrev cX7_fires : ByteArray := prog_1_method_19_code
def yX7_fires : MethodName := ⟨RX7, "fires", "(III)I"⟩
abbrev cX7_never : ByteArray := prog_1_method_20_code
def yX7_never : MethodName := ⟨RX7, "never", "(I)I"⟩
abbrev cX7_differ : ByteArray := prog_1_method_21_code
def yX7_differ : MethodName := ⟨RX7, "differ", "(III)I"⟩
abbrev cX7_first : ByteArray := prog_1_method_22_code
def yX7_first : MethodName := ⟨RX7, "first", "(III)I"⟩
abbrev cX7_cause : ByteArray := prog_1_method_23_code
def yX7_cause : MethodName := ⟨RX7, "cause", "(IIII)I"⟩
abbrev cX7_small : ByteArray := prog_1_method_24_code
def yX7_small : MethodName := ⟨RX7, "small", "(III)I"⟩
abbrev cX7_steps : ByteArray := prog_1_method_25_code
def yX7_steps : MethodName := ⟨RX7, "steps", "()I"⟩
abbrev cX7_least : ByteArray := prog_1_method_26_code
def yX7_least : MethodName := ⟨RX7, "least", "(III)J"⟩
abbrev cX7_shown : ByteArray := prog_1_method_27_code
def yX7_shown : MethodName := ⟨RX7, "shown", "(IIII)I"⟩
abbrev cX7_count : ByteArray := prog_1_method_28_code
def yX7_count : MethodName := ⟨RX7, "count", "(I)I"⟩
abbrev cX7_ofMaker : ByteArray := prog_1_method_29_code
def yX7_ofMaker : MethodName := ⟨RX7, "ofMaker", "(II)I"⟩
abbrev cX7_within : ByteArray := prog_1_method_30_code
def yX7_within : MethodName := ⟨RX7, "within", "(III)Z"⟩
abbrev cX7_partsOf : ByteArray := prog_1_method_31_code
def yX7_partsOf : MethodName := ⟨RX7, "partsOf", "(I)I"⟩
abbrev cX7_combine : ByteArray := prog_1_method_32_code
def yX7_combine : MethodName := ⟨RX7, "combine", "(III)I"⟩
abbrev cX7_tell : ByteArray := prog_1_method_33_code
def yX7_tell : MethodName := ⟨RX7, "tell", "(LMakersBench$Tree;II)I"⟩
abbrev cX7_placeAt : ByteArray := prog_1_method_34_code
def yX7_placeAt : MethodName := ⟨RX7, "placeAt", "(I)LMakersBench$Tree;"⟩
abbrev cX7_programAt : ByteArray := prog_1_method_35_code
def yX7_programAt : MethodName := ⟨RX7, "programAt", "(I)LMakersBench$Tree;"⟩
abbrev cX7_makerAt : ByteArray := prog_1_method_36_code
def yX7_makerAt : MethodName := ⟨RX7, "makerAt", "(I)LMakersBench$Maker;"⟩
abbrev cX7_keptPrograms : ByteArray := prog_1_method_37_code
def yX7_keptPrograms : MethodName := ⟨RX7, "keptPrograms", "()I"⟩
abbrev cX7_keptNodes : ByteArray := prog_1_method_38_code
def yX7_keptNodes : MethodName := ⟨RX7, "keptNodes", "()I"⟩
abbrev cX7_write : ByteArray := prog_1_method_39_code
def yX7_write : MethodName := ⟨RX7, "write", "(II)Z"⟩
abbrev cX7_isWrongAt : ByteArray := prog_1_method_40_code
def yX7_isWrongAt : MethodName := ⟨RX7, "isWrongAt", "(II)Z"⟩
abbrev cX7_isSafe : ByteArray := prog_1_method_41_code
def yX7_isSafe : MethodName := ⟨RX7, "isSafe", "(LMakersBench$Tree;I)Z"⟩
abbrev cX7_isFaulty : ByteArray := prog_1_method_42_code
def yX7_isFaulty : MethodName := ⟨RX7, "isFaulty", "(LMakersBench$Maker;LMakersBench$Tree;I)Z"⟩
abbrev cX7_showsFault : ByteArray := prog_1_method_43_code
def yX7_showsFault : MethodName := ⟨RX7, "showsFault", "(LMakersBench$Tree;I)Z"⟩
abbrev cX7_shrink : ByteArray := prog_1_method_44_code
def yX7_shrink : MethodName := ⟨RX7, "shrink", "(LMakersBench$Maker;LMakersBench$Tree;I)Z"⟩
def RX8 : String := "MakersBenchModel"
def TX8 : u_T := fun k => match k with
  | 0 => ("MakersBenchModel", "code", "I", false)
  | 1 => ("MakersBenchModel", "top", "I", false)
  | 2 => ("MakersBenchModel", "kind", "[I", true)
  | 3 => ("MakersBenchModel", "val", "[I", true)
  | 4 => ("MakersBenchModel", "one", "[I", true)
  | 5 => ("MakersBenchModel", "two", "[I", true)
  | 6 => ("MakersBenchModel", "three", "[I", true)
  | 7 => ("MakersBenchModel", "size", "[I", true)
  | 8 => ("MakersBenchModel", "free", "Z", false)
  | 9 => ("MakersBenchModel", "orders", "I", false)
  | 10 => ("MakersBenchModel", "fired", "I", false)
  | 11 => ("MakersBenchModel", "whole", "I", false)
  | 12 => ("MakersBenchModel", "rowSize", "[I", true)
  | 13 => ("MakersBenchModel", "rowKind", "[I", true)
  | 14 => ("MakersBenchModel", "rowVal", "[I", true)
  | 15 => ("MakersBenchModel", "handKind", "[I", true)
  | 16 => ("MakersBenchModel", "handVal", "[I", true)
  | 17 => ("MakersBenchModel", "handSize", "I", false)
  | 18 => ("MakersBenchModel", "at", "I", false)
  | 19 => ("MakersBenchModel", "counts", "[J", true)
  | 20 => ("MakersBenchModel", "trees", "I", false)
  | 21 => ("MakersBenchModel", "treeFrom", "[I", true)
  | 22 => ("MakersBenchModel", "pileKind", "[I", true)
  | 23 => ("MakersBenchModel", "pileVal", "[I", true)
  | 24 => ("MakersBenchModel", "piled", "I", false)
  | 25 => ("MakersBenchModel", "spareKind", "[I", true)
  | 26 => ("MakersBenchModel", "spareVal", "[I", true)
  | 27 => ("MakersBenchModel", "makers", "I", false)
  | 28 => ("MakersBenchModel", "turns", "[I", true)
  | 29 => ("MakersBenchModel", "sorts", "[I", true)
  | 30 => ("MakersBenchModel", "faults", "[I", true)
  | 31 => ("MakersBenchModel", "foundSize", "I", false)
  | 32 => ("MakersBenchModel", "foundKind", "[I", true)
  | 33 => ("MakersBenchModel", "foundVal", "[I", true)
  | 34 => ("MakersBenchModel", "foundNodes", "[I", true)
  | 35 => ("MakersBenchModel", "steps", "I", false)
  | 36 => ("MakersBenchModel", "fullKind", "[I", true)
  | 37 => ("MakersBenchModel", "fullVal", "[I", true)
  | _ => ("MakersBenchModel", "fullSize", "I", false)
def tyX8 : Nat → FieldType := fun k => match k with
  | 0 => .int
  | 1 => .int
  | 2 => .array .int
  | 3 => .array .int
  | 4 => .array .int
  | 5 => .array .int
  | 6 => .array .int
  | 7 => .array .int
  | 8 => .boolean
  | 9 => .int
  | 10 => .int
  | 11 => .int
  | 12 => .array .int
  | 13 => .array .int
  | 14 => .array .int
  | 15 => .array .int
  | 16 => .array .int
  | 17 => .int
  | 18 => .int
  | 19 => .array .long
  | 20 => .int
  | 21 => .array .int
  | 22 => .array .int
  | 23 => .array .int
  | 24 => .int
  | 25 => .array .int
  | 26 => .array .int
  | 27 => .int
  | 28 => .array .int
  | 29 => .array .int
  | 30 => .array .int
  | 31 => .int
  | 32 => .array .int
  | 33 => .array .int
  | 34 => .array .int
  | 35 => .int
  | 36 => .array .int
  | 37 => .array .int
  | _ => .int
abbrev wsX80 : List Cond := u_ws RX8 TX8 39
theorem nmX8 : ∀ a, a < 39 → ∀ b, b < 39 → a ≠ b → (TX8 a).2.1 ≠ (TX8 b).2.1 := by decide +kernel
theorem tyX8_ok : ∀ k, k < 39 → parseFieldDescriptor (TX8 k).2.2.1 = some (tyX8 k) := by decide +kernel
abbrev cX8_init : ByteArray := prog_10_method_1_code
def yX8_init : MethodName := ⟨RX8, "<init>", "()V"⟩
abbrev cX8_in : ByteArray := prog_10_method_3_code
def yX8_in : MethodName := ⟨RX8, "in", "(JJJ)Z"⟩
abbrev cX8_parts : ByteArray := prog_10_method_4_code
def yX8_parts : MethodName := ⟨RX8, "parts", "(I)I"⟩
abbrev cX8_make : ByteArray := prog_10_method_5_code
def yX8_make : MethodName := ⟨RX8, "make", "(IIIII)I"⟩
abbrev cX8_numeral : ByteArray := prog_10_method_6_code
def yX8_numeral : MethodName := ⟨RX8, "numeral", "(I)I"⟩
abbrev cX8_pair : ByteArray := prog_10_method_7_code
def yX8_pair : MethodName := ⟨RX8, "pair", "(III)I"⟩
abbrev cX8_isNumber : ByteArray := prog_10_method_8_code
def yX8_isNumber : MethodName := ⟨RX8, "isNumber", "(II)Z"⟩
abbrev cX8_areSame : ByteArray := prog_10_method_9_code
def yX8_areSame : MethodName := ⟨RX8, "areSame", "(II)Z"⟩
abbrev cX8_both : ByteArray := prog_10_method_10_code
def yX8_both : MethodName := ⟨RX8, "both", "(III)I"⟩
abbrev cX8_works : ByteArray := prog_10_method_11_code
def yX8_works : MethodName := ⟨RX8, "works", "(III)I"⟩
abbrev cX8_valueOf : ByteArray := prog_10_method_12_code
def yX8_valueOf : MethodName := ⟨RX8, "valueOf", "(III)I"⟩
abbrev cX8_isSafe : ByteArray := prog_10_method_13_code
def yX8_isSafe : MethodName := ⟨RX8, "isSafe", "(II)Z"⟩
abbrev cX8_becomes : ByteArray := prog_10_method_14_code
def yX8_becomes : MethodName := ⟨RX8, "becomes", "(III)I"⟩
abbrev cX8_folded : ByteArray := prog_10_method_15_code
def yX8_folded : MethodName := ⟨RX8, "folded", "(II)I"⟩
abbrev cX8_zeroed : ByteArray := prog_10_method_16_code
def yX8_zeroed : MethodName := ⟨RX8, "zeroed", "(II)I"⟩
abbrev cX8_lookSame : ByteArray := prog_10_method_17_code
def yX8_lookSame : MethodName := ⟨RX8, "lookSame", "(III)Z"⟩
abbrev cX8_samed : ByteArray := prog_10_method_18_code
def yX8_samed : MethodName := ⟨RX8, "samed", "(II)I"⟩
abbrev cX8_picked : ByteArray := prog_10_method_19_code
def yX8_picked : MethodName := ⟨RX8, "picked", "(II)I"⟩
abbrev cX8_melted : ByteArray := prog_10_method_20_code
def yX8_melted : MethodName := ⟨RX8, "melted", "(II)I"⟩
abbrev cX8_twice : ByteArray := prog_10_method_21_code
def yX8_twice : MethodName := ⟨RX8, "twice", "(III)I"⟩
abbrev cX8_twiced : ByteArray := prog_10_method_22_code
def yX8_twiced : MethodName := ⟨RX8, "twiced", "(II)I"⟩
abbrev cX8_sunk : ByteArray := prog_10_method_23_code
def yX8_sunk : MethodName := ⟨RX8, "sunk", "(II)I"⟩
abbrev cX8_turned : ByteArray := prog_10_method_24_code
def yX8_turned : MethodName := ⟨RX8, "turned", "(III)I"⟩
abbrev cX8_goOver : ByteArray := prog_10_method_25_code
def yX8_goOver : MethodName := ⟨RX8, "goOver", "(III)I"⟩
abbrev cX8_madeBy : ByteArray := prog_10_method_26_code
def yX8_madeBy : MethodName := ⟨RX8, "madeBy", "(III)I"⟩
abbrev cX8_isPlace : ByteArray := prog_10_method_27_code
def yX8_isPlace : MethodName := ⟨RX8, "isPlace", "(I)Z"⟩
abbrev cX8_has : ByteArray := prog_10_method_28_code
def yX8_has : MethodName := ⟨RX8, "has", "(I)Z"⟩
abbrev cX8_take : ByteArray := prog_10_method_29_code
def yX8_take : MethodName := ⟨RX8, "take", "(I)V"⟩
abbrev cX8_put : ByteArray := prog_10_method_30_code
def yX8_put : MethodName := ⟨RX8, "put", "(I)I"⟩
abbrev cX8_grow : ByteArray := prog_10_method_31_code
def yX8_grow : MethodName := ⟨RX8, "grow", "()I"⟩
abbrev cX8_tree : ByteArray := prog_10_method_32_code
def yX8_tree : MethodName := ⟨RX8, "tree", "()I"⟩
abbrev cX8_treeOf : ByteArray := prog_10_method_33_code
def yX8_treeOf : MethodName := ⟨RX8, "treeOf", "(I)I"⟩
abbrev cX8_flatten : ByteArray := prog_10_method_34_code
def yX8_flatten : MethodName := ⟨RX8, "flatten", "(I)V"⟩
abbrev cX8_endOf : ByteArray := prog_10_method_35_code
def yX8_endOf : MethodName := ⟨RX8, "endOf", "(I)I"⟩
abbrev cX8_count0 : ByteArray := prog_10_method_36_code
def yX8_count0 : MethodName := ⟨RX8, "count0", "()V"⟩
abbrev cX8_pairs : ByteArray := prog_10_method_37_code
def yX8_pairs : MethodName := ⟨RX8, "pairs", "(I)J"⟩
abbrev cX8_many : ByteArray := prog_10_method_38_code
def yX8_many : MethodName := ⟨RX8, "many", "(I)J"⟩
abbrev cX8_hand : ByteArray := prog_10_method_39_code
def yX8_hand : MethodName := ⟨RX8, "hand", "(II)V"⟩
abbrev cX8_nthPair : ByteArray := prog_10_method_40_code
def yX8_nthPair : MethodName := ⟨RX8, "nthPair", "(IJ)V"⟩
abbrev cX8_nth0 : ByteArray := prog_10_method_41_code
def yX8_nth0 : MethodName := ⟨RX8, "nth0", "(IJ)V"⟩
abbrev cX8_nth : ByteArray := prog_10_method_42_code
def yX8_nth : MethodName := ⟨RX8, "nth", "(IIJ)I"⟩
abbrev cX8_pairRank : ByteArray := prog_10_method_43_code
def yX8_pairRank : MethodName := ⟨RX8, "pairRank", "(II)J"⟩
abbrev cX8_rank : ByteArray := prog_10_method_44_code
def yX8_rank : MethodName := ⟨RX8, "rank", "(I)J"⟩
abbrev cX8_number : ByteArray := prog_10_method_45_code
def yX8_number : MethodName := ⟨RX8, "number", "(I)J"⟩
abbrev cX8_node : ByteArray := prog_10_method_46_code
def yX8_node : MethodName := ⟨RX8, "node", "(II)I"⟩
abbrev cX8_keep : ByteArray := prog_10_method_47_code
def yX8_keep : MethodName := ⟨RX8, "keep", "(I)I"⟩
abbrev cX8_drop : ByteArray := prog_10_method_48_code
def yX8_drop : MethodName := ⟨RX8, "drop", "(I)I"⟩
abbrev cX8_read : ByteArray := prog_10_method_49_code
def yX8_read : MethodName := ⟨RX8, "read", "(III)I"⟩
abbrev cX8_value : ByteArray := prog_10_method_50_code
def yX8_value : MethodName := ⟨RX8, "value", "(III)I"⟩
abbrev cX8_safe : ByteArray := prog_10_method_51_code
def yX8_safe : MethodName := ⟨RX8, "safe", "(II)I"⟩
abbrev cX8_splice : ByteArray := prog_10_method_52_code
def yX8_splice : MethodName := ⟨RX8, "splice", "(III)V"⟩
abbrev cX8_shift : ByteArray := prog_10_method_53_code
def yX8_shift : MethodName := ⟨RX8, "shift", "(II)V"⟩
abbrev cX8_spare : ByteArray := prog_10_method_54_code
def yX8_spare : MethodName := ⟨RX8, "spare", "(II)V"⟩
abbrev cX8_breed : ByteArray := prog_10_method_55_code
def yX8_breed : MethodName := ⟨RX8, "breed", "(IIIII)I"⟩
abbrev cX8_isMaker : ByteArray := prog_10_method_56_code
def yX8_isMaker : MethodName := ⟨RX8, "isMaker", "(I)Z"⟩
abbrev cX8_isTurn : ByteArray := prog_10_method_57_code
def yX8_isTurn : MethodName := ⟨RX8, "isTurn", "(II)Z"⟩
abbrev cX8_maker : ByteArray := prog_10_method_58_code
def yX8_maker : MethodName := ⟨RX8, "maker", "()I"⟩
abbrev cX8_turn : ByteArray := prog_10_method_59_code
def yX8_turn : MethodName := ⟨RX8, "turn", "(III)I"⟩
abbrev cX8_plant : ByteArray := prog_10_method_60_code
def yX8_plant : MethodName := ⟨RX8, "plant", "(III)I"⟩
abbrev cX8_made : ByteArray := prog_10_method_61_code
def yX8_made : MethodName := ⟨RX8, "made", "(III)I"⟩
abbrev cX8_part : ByteArray := prog_10_method_62_code
def yX8_part : MethodName := ⟨RX8, "part", "(II)I"⟩
abbrev cX8_answer : ByteArray := prog_10_method_63_code
def yX8_answer : MethodName := ⟨RX8, "answer", "(IIII)I"⟩
abbrev cX8_cost : ByteArray := prog_10_method_64_code
def yX8_cost : MethodName := ⟨RX8, "cost", "(IIII)I"⟩
abbrev cX8_firesOf : ByteArray := prog_10_method_65_code
def yX8_firesOf : MethodName := ⟨RX8, "firesOf", "(III)I"⟩
abbrev cX8_fires : ByteArray := prog_10_method_66_code
def yX8_fires : MethodName := ⟨RX8, "fires", "(III)I"⟩
abbrev cX8_never : ByteArray := prog_10_method_67_code
def yX8_never : MethodName := ⟨RX8, "never", "(I)I"⟩
abbrev cX8_isOther : ByteArray := prog_10_method_68_code
def yX8_isOther : MethodName := ⟨RX8, "isOther", "(IIII)Z"⟩
abbrev cX8_firstOf : ByteArray := prog_10_method_69_code
def yX8_firstOf : MethodName := ⟨RX8, "firstOf", "(III)I"⟩
abbrev cX8_differ : ByteArray := prog_10_method_70_code
def yX8_differ : MethodName := ⟨RX8, "differ", "(III)I"⟩
abbrev cX8_first : ByteArray := prog_10_method_71_code
def yX8_first : MethodName := ⟨RX8, "first", "(III)I"⟩
abbrev cX8_cause : ByteArray := prog_10_method_72_code
def yX8_cause : MethodName := ⟨RX8, "cause", "(IIII)I"⟩
abbrev cX8_remember : ByteArray := prog_10_method_73_code
def yX8_remember : MethodName := ⟨RX8, "remember", "()V"⟩
abbrev cX8_recall : ByteArray := prog_10_method_74_code
def yX8_recall : MethodName := ⟨RX8, "recall", "()V"⟩
abbrev cX8_isShown : ByteArray := prog_10_method_75_code
def yX8_isShown : MethodName := ⟨RX8, "isShown", "(II)Z"⟩
abbrev cX8_step : ByteArray := prog_10_method_76_code
def yX8_step : MethodName := ⟨RX8, "step", "(II)Z"⟩
abbrev cX8_makeSmaller : ByteArray := prog_10_method_77_code
def yX8_makeSmaller : MethodName := ⟨RX8, "makeSmaller", "(II)Z"⟩
abbrev cX8_small : ByteArray := prog_10_method_78_code
def yX8_small : MethodName := ⟨RX8, "small", "(III)I"⟩
abbrev cX8_steps : ByteArray := prog_10_method_79_code
def yX8_steps : MethodName := ⟨RX8, "steps", "()I"⟩
abbrev cX8_nthTree : ByteArray := prog_10_method_80_code
def yX8_nthTree : MethodName := ⟨RX8, "nthTree", "(IJ)I"⟩
abbrev cX8_least : ByteArray := prog_10_method_81_code
def yX8_least : MethodName := ⟨RX8, "least", "(III)J"⟩
abbrev cX8_shown : ByteArray := prog_10_method_82_code
def yX8_shown : MethodName := ⟨RX8, "shown", "(IIII)I"⟩
abbrev cX8_count : ByteArray := prog_10_method_83_code
def yX8_count : MethodName := ⟨RX8, "count", "(I)I"⟩
abbrev cX8_ofMaker : ByteArray := prog_10_method_84_code
def yX8_ofMaker : MethodName := ⟨RX8, "ofMaker", "(II)I"⟩
def RJ9 : String := "java/lang/Math"
def RJ10 : String := "java/lang/System"
def RL : String := "MakersBenchLaw"
abbrev cL_law : ByteArray := code
def yL_law : MethodName := ⟨RL, "law", "([I)Z"⟩
abbrev vwCl : List vw_C := [(RX0, TX0, 12), (RX1, TX1, 7), (RX2, TX2, 3), (RX3, TX3, 3), (RX5, TX5, 4), (RX6, TX6, 4), (RX7, TX7, 12), (RX8, TX8, 39)]
