section
-- ===== PART A: goes FIRST, ahead of the names: the tables' words, and 'selects' of the private methods out of them =====
/-- a private method of a class that the tables say can be made, by its rows of tables_1 -/
def lw_okq (q : MethodName × Nat) : Prop := (q.1.cls ≠ "java/lang/invoke/MethodHandle" ∧ q.1.cls ≠ "java/lang/invoke/VarHandle") ∧ Cond.instantiable q.1.cls q.2 ∈ tables_1 ∧ Cond.privateMethod q.1 ∈ tables_1 ∧ Cond.instanceMethod q.1 ∈ tables_1
theorem lw_p0 : lw_okq (⟨"MakersBench", "placeAt", "(I)LMakersBench$Tree;"⟩, 12) := ⟨⟨by decide +kernel, by decide +kernel⟩, List.mem_of_getElem? (i := 13) (by decide +kernel), List.mem_of_getElem? (i := 246) (by decide +kernel), List.mem_of_getElem? (i := 247) (by decide +kernel)⟩
theorem lw_p1 : lw_okq (⟨"MakersBench$Grammar", "defer", "(IJ)V"⟩, 7) := ⟨⟨by decide +kernel, by decide +kernel⟩, List.mem_of_getElem? (i := 21) (by decide +kernel), List.mem_of_getElem? (i := 258) (by decide +kernel), List.mem_of_getElem? (i := 259) (by decide +kernel)⟩
theorem lw_p2 : lw_okq (⟨"MakersBench$Grammar", "unfoldNode", "(LMakersBench$Tree;IJ)V"⟩, 7) := ⟨⟨by decide +kernel, by decide +kernel⟩, List.mem_of_getElem? (i := 21) (by decide +kernel), List.mem_of_getElem? (i := 262) (by decide +kernel), List.mem_of_getElem? (i := 263) (by decide +kernel)⟩
theorem lw_p3 : lw_okq (⟨"MakersBench$Grammar", "unfoldLeaf", "(LMakersBench$Tree;I)V"⟩, 7) := ⟨⟨by decide +kernel, by decide +kernel⟩, List.mem_of_getElem? (i := 21) (by decide +kernel), List.mem_of_getElem? (i := 266) (by decide +kernel), List.mem_of_getElem? (i := 267) (by decide +kernel)⟩
theorem lw_p4 : lw_okq (⟨"MakersBench$Grammar", "deferTwo", "(IJ)V"⟩, 7) := ⟨⟨by decide +kernel, by decide +kernel⟩, List.mem_of_getElem? (i := 21) (by decide +kernel), List.mem_of_getElem? (i := 272) (by decide +kernel), List.mem_of_getElem? (i := 273) (by decide +kernel)⟩
theorem lw_p5 : lw_okq (⟨"MakersBench$Grammar", "deferThree", "(IJ)V"⟩, 7) := ⟨⟨by decide +kernel, by decide +kernel⟩, List.mem_of_getElem? (i := 21) (by decide +kernel), List.mem_of_getElem? (i := 276) (by decide +kernel), List.mem_of_getElem? (i := 277) (by decide +kernel)⟩
theorem lw_p6 : lw_okq (⟨"MakersBench$Tree", "measure", "()V"⟩, 4) := ⟨⟨by decide +kernel, by decide +kernel⟩, List.mem_of_getElem? (i := 59) (by decide +kernel), List.mem_of_getElem? (i := 280) (by decide +kernel), List.mem_of_getElem? (i := 281) (by decide +kernel)⟩
theorem lw_p7 : lw_okq (⟨"MakersBench", "programAt", "(I)LMakersBench$Tree;"⟩, 12) := ⟨⟨by decide +kernel, by decide +kernel⟩, List.mem_of_getElem? (i := 13) (by decide +kernel), List.mem_of_getElem? (i := 297) (by decide +kernel), List.mem_of_getElem? (i := 298) (by decide +kernel)⟩
theorem lw_p8 : lw_okq (⟨"MakersBench$Grammar", "rankOfNode", "(LMakersBench$Tree;I)J"⟩, 7) := ⟨⟨by decide +kernel, by decide +kernel⟩, List.mem_of_getElem? (i := 21) (by decide +kernel), List.mem_of_getElem? (i := 320) (by decide +kernel), List.mem_of_getElem? (i := 321) (by decide +kernel)⟩
theorem lw_p9 : lw_okq (⟨"MakersBench$Grammar", "rankAt", "(I)J"⟩, 7) := ⟨⟨by decide +kernel, by decide +kernel⟩, List.mem_of_getElem? (i := 21) (by decide +kernel), List.mem_of_getElem? (i := 328) (by decide +kernel), List.mem_of_getElem? (i := 329) (by decide +kernel)⟩
theorem lw_p10 : lw_okq (⟨"MakersBench$Grammar", "rankOfThree", "(LMakersBench$Tree;II)J"⟩, 7) := ⟨⟨by decide +kernel, by decide +kernel⟩, List.mem_of_getElem? (i := 21) (by decide +kernel), List.mem_of_getElem? (i := 332) (by decide +kernel), List.mem_of_getElem? (i := 333) (by decide +kernel)⟩
theorem lw_p11 : lw_okq (⟨"MakersBench$Grammar", "rankOfTwo", "(LMakersBench$Tree;I)J"⟩, 7) := ⟨⟨by decide +kernel, by decide +kernel⟩, List.mem_of_getElem? (i := 21) (by decide +kernel), List.mem_of_getElem? (i := 337) (by decide +kernel), List.mem_of_getElem? (i := 338) (by decide +kernel)⟩
theorem lw_p12 : lw_okq (⟨"MakersBench$Code", "add", "(II)V"⟩, 12) := ⟨⟨by decide +kernel, by decide +kernel⟩, List.mem_of_getElem? (i := 122) (by decide +kernel), List.mem_of_getElem? (i := 407) (by decide +kernel), List.mem_of_getElem? (i := 408) (by decide +kernel)⟩
theorem lw_p13 : lw_okq (⟨"MakersBench$Code", "endParts", "(I)I"⟩, 12) := ⟨⟨by decide +kernel, by decide +kernel⟩, List.mem_of_getElem? (i := 122) (by decide +kernel), List.mem_of_getElem? (i := 411) (by decide +kernel), List.mem_of_getElem? (i := 412) (by decide +kernel)⟩
theorem lw_p14 : lw_okq (⟨"MakersBench$Code", "jumpBehindPart", "(I)V"⟩, 12) := ⟨⟨by decide +kernel, by decide +kernel⟩, List.mem_of_getElem? (i := 122) (by decide +kernel), List.mem_of_getElem? (i := 415) (by decide +kernel), List.mem_of_getElem? (i := 416) (by decide +kernel)⟩
theorem lw_p15 : lw_okq (⟨"MakersBench$Code", "aim", "(II)V"⟩, 12) := ⟨⟨by decide +kernel, by decide +kernel⟩, List.mem_of_getElem? (i := 122) (by decide +kernel), List.mem_of_getElem? (i := 419) (by decide +kernel), List.mem_of_getElem? (i := 420) (by decide +kernel)⟩
def lw_privs_1 : List (MethodName × Nat) := [(⟨"MakersBench", "placeAt", "(I)LMakersBench$Tree;"⟩, 12), (⟨"MakersBench$Grammar", "defer", "(IJ)V"⟩, 7), (⟨"MakersBench$Grammar", "unfoldNode", "(LMakersBench$Tree;IJ)V"⟩, 7), (⟨"MakersBench$Grammar", "unfoldLeaf", "(LMakersBench$Tree;I)V"⟩, 7), (⟨"MakersBench$Grammar", "deferTwo", "(IJ)V"⟩, 7), (⟨"MakersBench$Grammar", "deferThree", "(IJ)V"⟩, 7), (⟨"MakersBench$Tree", "measure", "()V"⟩, 4), (⟨"MakersBench", "programAt", "(I)LMakersBench$Tree;"⟩, 12), (⟨"MakersBench$Grammar", "rankOfNode", "(LMakersBench$Tree;I)J"⟩, 7), (⟨"MakersBench$Grammar", "rankAt", "(I)J"⟩, 7), (⟨"MakersBench$Grammar", "rankOfThree", "(LMakersBench$Tree;II)J"⟩, 7), (⟨"MakersBench$Grammar", "rankOfTwo", "(LMakersBench$Tree;I)J"⟩, 7), (⟨"MakersBench$Code", "add", "(II)V"⟩, 12), (⟨"MakersBench$Code", "endParts", "(I)I"⟩, 12), (⟨"MakersBench$Code", "jumpBehindPart", "(I)V"⟩, 12), (⟨"MakersBench$Code", "aim", "(II)V"⟩, 12)]
theorem lw_r1 : ∀ q ∈ lw_privs_1, lw_okq q := List.forall_mem_cons.mpr ⟨lw_p0, List.forall_mem_cons.mpr ⟨lw_p1, List.forall_mem_cons.mpr ⟨lw_p2, List.forall_mem_cons.mpr ⟨lw_p3, List.forall_mem_cons.mpr ⟨lw_p4, List.forall_mem_cons.mpr ⟨lw_p5, List.forall_mem_cons.mpr ⟨lw_p6, List.forall_mem_cons.mpr ⟨lw_p7, List.forall_mem_cons.mpr ⟨lw_p8, List.forall_mem_cons.mpr ⟨lw_p9, List.forall_mem_cons.mpr ⟨lw_p10, List.forall_mem_cons.mpr ⟨lw_p11, List.forall_mem_cons.mpr ⟨lw_p12, List.forall_mem_cons.mpr ⟨lw_p13, List.forall_mem_cons.mpr ⟨lw_p14, List.forall_mem_cons.mpr ⟨lw_p15, fun _ h => absurd h List.not_mem_nil⟩⟩⟩⟩⟩⟩⟩⟩⟩⟩⟩⟩⟩⟩⟩⟩
theorem lw_p16 : lw_okq (⟨"MakersBench", "isSafe", "(LMakersBench$Tree;I)Z"⟩, 12) := ⟨⟨by decide +kernel, by decide +kernel⟩, List.mem_of_getElem? (i := 13) (by decide +kernel), List.mem_of_getElem? (i := 437) (by decide +kernel), List.mem_of_getElem? (i := 438) (by decide +kernel)⟩
theorem lw_p17 : lw_okq (⟨"MakersBench", "makerAt", "(I)LMakersBench$Maker;"⟩, 12) := ⟨⟨by decide +kernel, by decide +kernel⟩, List.mem_of_getElem? (i := 13) (by decide +kernel), List.mem_of_getElem? (i := 464) (by decide +kernel), List.mem_of_getElem? (i := 465) (by decide +kernel)⟩
theorem lw_p18 : lw_okq (⟨"MakersBench", "write", "(II)Z"⟩, 12) := ⟨⟨by decide +kernel, by decide +kernel⟩, List.mem_of_getElem? (i := 13) (by decide +kernel), List.mem_of_getElem? (i := 594) (by decide +kernel), List.mem_of_getElem? (i := 595) (by decide +kernel)⟩
theorem lw_p19 : lw_okq (⟨"MakersBench", "isWrongAt", "(II)Z"⟩, 12) := ⟨⟨by decide +kernel, by decide +kernel⟩, List.mem_of_getElem? (i := 13) (by decide +kernel), List.mem_of_getElem? (i := 623) (by decide +kernel), List.mem_of_getElem? (i := 624) (by decide +kernel)⟩
theorem lw_p20 : lw_okq (⟨"MakersBench", "isFaulty", "(LMakersBench$Maker;LMakersBench$Tree;I)Z"⟩, 12) := ⟨⟨by decide +kernel, by decide +kernel⟩, List.mem_of_getElem? (i := 13) (by decide +kernel), List.mem_of_getElem? (i := 641) (by decide +kernel), List.mem_of_getElem? (i := 642) (by decide +kernel)⟩
theorem lw_p21 : lw_okq (⟨"MakersBench", "showsFault", "(LMakersBench$Tree;I)Z"⟩, 12) := ⟨⟨by decide +kernel, by decide +kernel⟩, List.mem_of_getElem? (i := 13) (by decide +kernel), List.mem_of_getElem? (i := 645) (by decide +kernel), List.mem_of_getElem? (i := 646) (by decide +kernel)⟩
theorem lw_p22 : lw_okq (⟨"MakersBench", "shrink", "(LMakersBench$Maker;LMakersBench$Tree;I)Z"⟩, 12) := ⟨⟨by decide +kernel, by decide +kernel⟩, List.mem_of_getElem? (i := 13) (by decide +kernel), List.mem_of_getElem? (i := 649) (by decide +kernel), List.mem_of_getElem? (i := 650) (by decide +kernel)⟩
theorem lw_p23 : lw_okq (⟨"MakersBench", "keptPrograms", "()I"⟩, 12) := ⟨⟨by decide +kernel, by decide +kernel⟩, List.mem_of_getElem? (i := 13) (by decide +kernel), List.mem_of_getElem? (i := 673) (by decide +kernel), List.mem_of_getElem? (i := 674) (by decide +kernel)⟩
theorem lw_p24 : lw_okq (⟨"MakersBench", "keptNodes", "()I"⟩, 12) := ⟨⟨by decide +kernel, by decide +kernel⟩, List.mem_of_getElem? (i := 13) (by decide +kernel), List.mem_of_getElem? (i := 677) (by decide +kernel), List.mem_of_getElem? (i := 678) (by decide +kernel)⟩
theorem lw_p25 : lw_okq (⟨"MakersBenchModel", "count0", "()V"⟩, 39) := ⟨⟨by decide +kernel, by decide +kernel⟩, List.mem_of_getElem? (i := 685) (by decide +kernel), List.mem_of_getElem? (i := 817) (by decide +kernel), List.mem_of_getElem? (i := 818) (by decide +kernel)⟩
theorem lw_p26 : lw_okq (⟨"MakersBenchModel", "pairs", "(I)J"⟩, 39) := ⟨⟨by decide +kernel, by decide +kernel⟩, List.mem_of_getElem? (i := 685) (by decide +kernel), List.mem_of_getElem? (i := 823) (by decide +kernel), List.mem_of_getElem? (i := 824) (by decide +kernel)⟩
theorem lw_p27 : lw_okq (⟨"MakersBenchModel", "nth0", "(IJ)V"⟩, 39) := ⟨⟨by decide +kernel, by decide +kernel⟩, List.mem_of_getElem? (i := 685) (by decide +kernel), List.mem_of_getElem? (i := 835) (by decide +kernel), List.mem_of_getElem? (i := 836) (by decide +kernel)⟩
theorem lw_p28 : lw_okq (⟨"MakersBenchModel", "hand", "(II)V"⟩, 39) := ⟨⟨by decide +kernel, by decide +kernel⟩, List.mem_of_getElem? (i := 685) (by decide +kernel), List.mem_of_getElem? (i := 840) (by decide +kernel), List.mem_of_getElem? (i := 841) (by decide +kernel)⟩
theorem lw_p29 : lw_okq (⟨"MakersBenchModel", "nthPair", "(IJ)V"⟩, 39) := ⟨⟨by decide +kernel, by decide +kernel⟩, List.mem_of_getElem? (i := 685) (by decide +kernel), List.mem_of_getElem? (i := 844) (by decide +kernel), List.mem_of_getElem? (i := 845) (by decide +kernel)⟩
theorem lw_p30 : lw_okq (⟨"MakersBenchModel", "put", "(I)I"⟩, 39) := ⟨⟨by decide +kernel, by decide +kernel⟩, List.mem_of_getElem? (i := 685) (by decide +kernel), List.mem_of_getElem? (i := 848) (by decide +kernel), List.mem_of_getElem? (i := 849) (by decide +kernel)⟩
theorem lw_p31 : lw_okq (⟨"MakersBenchModel", "has", "(I)Z"⟩, 39) := ⟨⟨by decide +kernel, by decide +kernel⟩, List.mem_of_getElem? (i := 685) (by decide +kernel), List.mem_of_getElem? (i := 856) (by decide +kernel), List.mem_of_getElem? (i := 857) (by decide +kernel)⟩
def lw_privs_2 : List (MethodName × Nat) := [(⟨"MakersBench", "isSafe", "(LMakersBench$Tree;I)Z"⟩, 12), (⟨"MakersBench", "makerAt", "(I)LMakersBench$Maker;"⟩, 12), (⟨"MakersBench", "write", "(II)Z"⟩, 12), (⟨"MakersBench", "isWrongAt", "(II)Z"⟩, 12), (⟨"MakersBench", "isFaulty", "(LMakersBench$Maker;LMakersBench$Tree;I)Z"⟩, 12), (⟨"MakersBench", "showsFault", "(LMakersBench$Tree;I)Z"⟩, 12), (⟨"MakersBench", "shrink", "(LMakersBench$Maker;LMakersBench$Tree;I)Z"⟩, 12), (⟨"MakersBench", "keptPrograms", "()I"⟩, 12), (⟨"MakersBench", "keptNodes", "()I"⟩, 12), (⟨"MakersBenchModel", "count0", "()V"⟩, 39), (⟨"MakersBenchModel", "pairs", "(I)J"⟩, 39), (⟨"MakersBenchModel", "nth0", "(IJ)V"⟩, 39), (⟨"MakersBenchModel", "hand", "(II)V"⟩, 39), (⟨"MakersBenchModel", "nthPair", "(IJ)V"⟩, 39), (⟨"MakersBenchModel", "put", "(I)I"⟩, 39), (⟨"MakersBenchModel", "has", "(I)Z"⟩, 39)]
theorem lw_r2 : ∀ q ∈ lw_privs_2, lw_okq q := List.forall_mem_cons.mpr ⟨lw_p16, List.forall_mem_cons.mpr ⟨lw_p17, List.forall_mem_cons.mpr ⟨lw_p18, List.forall_mem_cons.mpr ⟨lw_p19, List.forall_mem_cons.mpr ⟨lw_p20, List.forall_mem_cons.mpr ⟨lw_p21, List.forall_mem_cons.mpr ⟨lw_p22, List.forall_mem_cons.mpr ⟨lw_p23, List.forall_mem_cons.mpr ⟨lw_p24, List.forall_mem_cons.mpr ⟨lw_p25, List.forall_mem_cons.mpr ⟨lw_p26, List.forall_mem_cons.mpr ⟨lw_p27, List.forall_mem_cons.mpr ⟨lw_p28, List.forall_mem_cons.mpr ⟨lw_p29, List.forall_mem_cons.mpr ⟨lw_p30, List.forall_mem_cons.mpr ⟨lw_p31, fun _ h => absurd h List.not_mem_nil⟩⟩⟩⟩⟩⟩⟩⟩⟩⟩⟩⟩⟩⟩⟩⟩
theorem lw_p32 : lw_okq (⟨"MakersBenchModel", "take", "(I)V"⟩, 39) := ⟨⟨by decide +kernel, by decide +kernel⟩, List.mem_of_getElem? (i := 685) (by decide +kernel), List.mem_of_getElem? (i := 860) (by decide +kernel), List.mem_of_getElem? (i := 861) (by decide +kernel)⟩
theorem lw_p33 : lw_okq (⟨"MakersBenchModel", "tree", "()I"⟩, 39) := ⟨⟨by decide +kernel, by decide +kernel⟩, List.mem_of_getElem? (i := 685) (by decide +kernel), List.mem_of_getElem? (i := 866) (by decide +kernel), List.mem_of_getElem? (i := 867) (by decide +kernel)⟩
theorem lw_p34 : lw_okq (⟨"MakersBenchModel", "grow", "()I"⟩, 39) := ⟨⟨by decide +kernel, by decide +kernel⟩, List.mem_of_getElem? (i := 685) (by decide +kernel), List.mem_of_getElem? (i := 870) (by decide +kernel), List.mem_of_getElem? (i := 871) (by decide +kernel)⟩
theorem lw_p35 : lw_okq (⟨"MakersBenchModel", "make", "(IIIII)I"⟩, 39) := ⟨⟨by decide +kernel, by decide +kernel⟩, List.mem_of_getElem? (i := 685) (by decide +kernel), List.mem_of_getElem? (i := 877) (by decide +kernel), List.mem_of_getElem? (i := 878) (by decide +kernel)⟩
theorem lw_p36 : lw_okq (⟨"MakersBenchModel", "rank", "(I)J"⟩, 39) := ⟨⟨by decide +kernel, by decide +kernel⟩, List.mem_of_getElem? (i := 685) (by decide +kernel), List.mem_of_getElem? (i := 881) (by decide +kernel), List.mem_of_getElem? (i := 882) (by decide +kernel)⟩
theorem lw_p37 : lw_okq (⟨"MakersBenchModel", "pairRank", "(II)J"⟩, 39) := ⟨⟨by decide +kernel, by decide +kernel⟩, List.mem_of_getElem? (i := 685) (by decide +kernel), List.mem_of_getElem? (i := 885) (by decide +kernel), List.mem_of_getElem? (i := 886) (by decide +kernel)⟩
theorem lw_p38 : lw_okq (⟨"MakersBenchModel", "endOf", "(I)I"⟩, 39) := ⟨⟨by decide +kernel, by decide +kernel⟩, List.mem_of_getElem? (i := 685) (by decide +kernel), List.mem_of_getElem? (i := 907) (by decide +kernel), List.mem_of_getElem? (i := 908) (by decide +kernel)⟩
theorem lw_p39 : lw_okq (⟨"MakersBenchModel", "treeOf", "(I)I"⟩, 39) := ⟨⟨by decide +kernel, by decide +kernel⟩, List.mem_of_getElem? (i := 685) (by decide +kernel), List.mem_of_getElem? (i := 915) (by decide +kernel), List.mem_of_getElem? (i := 916) (by decide +kernel)⟩
theorem lw_p40 : lw_okq (⟨"MakersBenchModel", "valueOf", "(III)I"⟩, 39) := ⟨⟨by decide +kernel, by decide +kernel⟩, List.mem_of_getElem? (i := 685) (by decide +kernel), List.mem_of_getElem? (i := 919) (by decide +kernel), List.mem_of_getElem? (i := 920) (by decide +kernel)⟩
theorem lw_p41 : lw_okq (⟨"MakersBenchModel", "works", "(III)I"⟩, 39) := ⟨⟨by decide +kernel, by decide +kernel⟩, List.mem_of_getElem? (i := 685) (by decide +kernel), List.mem_of_getElem? (i := 923) (by decide +kernel), List.mem_of_getElem? (i := 924) (by decide +kernel)⟩
theorem lw_p42 : lw_okq (⟨"MakersBenchModel", "isSafe", "(II)Z"⟩, 39) := ⟨⟨by decide +kernel, by decide +kernel⟩, List.mem_of_getElem? (i := 685) (by decide +kernel), List.mem_of_getElem? (i := 935) (by decide +kernel), List.mem_of_getElem? (i := 936) (by decide +kernel)⟩
theorem lw_p43 : lw_okq (⟨"MakersBenchModel", "spare", "(II)V"⟩, 39) := ⟨⟨by decide +kernel, by decide +kernel⟩, List.mem_of_getElem? (i := 685) (by decide +kernel), List.mem_of_getElem? (i := 943) (by decide +kernel), List.mem_of_getElem? (i := 944) (by decide +kernel)⟩
theorem lw_p44 : lw_okq (⟨"MakersBenchModel", "splice", "(III)V"⟩, 39) := ⟨⟨by decide +kernel, by decide +kernel⟩, List.mem_of_getElem? (i := 685) (by decide +kernel), List.mem_of_getElem? (i := 947) (by decide +kernel), List.mem_of_getElem? (i := 948) (by decide +kernel)⟩
theorem lw_p45 : lw_okq (⟨"MakersBenchModel", "shift", "(II)V"⟩, 39) := ⟨⟨by decide +kernel, by decide +kernel⟩, List.mem_of_getElem? (i := 685) (by decide +kernel), List.mem_of_getElem? (i := 951) (by decide +kernel), List.mem_of_getElem? (i := 952) (by decide +kernel)⟩
theorem lw_p46 : lw_okq (⟨"MakersBenchModel", "isMaker", "(I)Z"⟩, 39) := ⟨⟨by decide +kernel, by decide +kernel⟩, List.mem_of_getElem? (i := 685) (by decide +kernel), List.mem_of_getElem? (i := 963) (by decide +kernel), List.mem_of_getElem? (i := 964) (by decide +kernel)⟩
theorem lw_p47 : lw_okq (⟨"MakersBenchModel", "isTurn", "(II)Z"⟩, 39) := ⟨⟨by decide +kernel, by decide +kernel⟩, List.mem_of_getElem? (i := 685) (by decide +kernel), List.mem_of_getElem? (i := 971) (by decide +kernel), List.mem_of_getElem? (i := 972) (by decide +kernel)⟩
def lw_privs_3 : List (MethodName × Nat) := [(⟨"MakersBenchModel", "take", "(I)V"⟩, 39), (⟨"MakersBenchModel", "tree", "()I"⟩, 39), (⟨"MakersBenchModel", "grow", "()I"⟩, 39), (⟨"MakersBenchModel", "make", "(IIIII)I"⟩, 39), (⟨"MakersBenchModel", "rank", "(I)J"⟩, 39), (⟨"MakersBenchModel", "pairRank", "(II)J"⟩, 39), (⟨"MakersBenchModel", "endOf", "(I)I"⟩, 39), (⟨"MakersBenchModel", "treeOf", "(I)I"⟩, 39), (⟨"MakersBenchModel", "valueOf", "(III)I"⟩, 39), (⟨"MakersBenchModel", "works", "(III)I"⟩, 39), (⟨"MakersBenchModel", "isSafe", "(II)Z"⟩, 39), (⟨"MakersBenchModel", "spare", "(II)V"⟩, 39), (⟨"MakersBenchModel", "splice", "(III)V"⟩, 39), (⟨"MakersBenchModel", "shift", "(II)V"⟩, 39), (⟨"MakersBenchModel", "isMaker", "(I)Z"⟩, 39), (⟨"MakersBenchModel", "isTurn", "(II)Z"⟩, 39)]
theorem lw_r3 : ∀ q ∈ lw_privs_3, lw_okq q := List.forall_mem_cons.mpr ⟨lw_p32, List.forall_mem_cons.mpr ⟨lw_p33, List.forall_mem_cons.mpr ⟨lw_p34, List.forall_mem_cons.mpr ⟨lw_p35, List.forall_mem_cons.mpr ⟨lw_p36, List.forall_mem_cons.mpr ⟨lw_p37, List.forall_mem_cons.mpr ⟨lw_p38, List.forall_mem_cons.mpr ⟨lw_p39, List.forall_mem_cons.mpr ⟨lw_p40, List.forall_mem_cons.mpr ⟨lw_p41, List.forall_mem_cons.mpr ⟨lw_p42, List.forall_mem_cons.mpr ⟨lw_p43, List.forall_mem_cons.mpr ⟨lw_p44, List.forall_mem_cons.mpr ⟨lw_p45, List.forall_mem_cons.mpr ⟨lw_p46, List.forall_mem_cons.mpr ⟨lw_p47, fun _ h => absurd h List.not_mem_nil⟩⟩⟩⟩⟩⟩⟩⟩⟩⟩⟩⟩⟩⟩⟩⟩
theorem lw_p48 : lw_okq (⟨"MakersBenchModel", "madeBy", "(III)I"⟩, 39) := ⟨⟨by decide +kernel, by decide +kernel⟩, List.mem_of_getElem? (i := 685) (by decide +kernel), List.mem_of_getElem? (i := 979) (by decide +kernel), List.mem_of_getElem? (i := 980) (by decide +kernel)⟩
theorem lw_p49 : lw_okq (⟨"MakersBenchModel", "goOver", "(III)I"⟩, 39) := ⟨⟨by decide +kernel, by decide +kernel⟩, List.mem_of_getElem? (i := 685) (by decide +kernel), List.mem_of_getElem? (i := 983) (by decide +kernel), List.mem_of_getElem? (i := 984) (by decide +kernel)⟩
theorem lw_p50 : lw_okq (⟨"MakersBenchModel", "turned", "(III)I"⟩, 39) := ⟨⟨by decide +kernel, by decide +kernel⟩, List.mem_of_getElem? (i := 685) (by decide +kernel), List.mem_of_getElem? (i := 987) (by decide +kernel), List.mem_of_getElem? (i := 988) (by decide +kernel)⟩
theorem lw_p51 : lw_okq (⟨"MakersBenchModel", "becomes", "(III)I"⟩, 39) := ⟨⟨by decide +kernel, by decide +kernel⟩, List.mem_of_getElem? (i := 685) (by decide +kernel), List.mem_of_getElem? (i := 991) (by decide +kernel), List.mem_of_getElem? (i := 992) (by decide +kernel)⟩
theorem lw_p52 : lw_okq (⟨"MakersBenchModel", "folded", "(II)I"⟩, 39) := ⟨⟨by decide +kernel, by decide +kernel⟩, List.mem_of_getElem? (i := 685) (by decide +kernel), List.mem_of_getElem? (i := 995) (by decide +kernel), List.mem_of_getElem? (i := 996) (by decide +kernel)⟩
theorem lw_p53 : lw_okq (⟨"MakersBenchModel", "numeral", "(I)I"⟩, 39) := ⟨⟨by decide +kernel, by decide +kernel⟩, List.mem_of_getElem? (i := 685) (by decide +kernel), List.mem_of_getElem? (i := 999) (by decide +kernel), List.mem_of_getElem? (i := 1000) (by decide +kernel)⟩
theorem lw_p54 : lw_okq (⟨"MakersBenchModel", "zeroed", "(II)I"⟩, 39) := ⟨⟨by decide +kernel, by decide +kernel⟩, List.mem_of_getElem? (i := 685) (by decide +kernel), List.mem_of_getElem? (i := 1003) (by decide +kernel), List.mem_of_getElem? (i := 1004) (by decide +kernel)⟩
theorem lw_p55 : lw_okq (⟨"MakersBenchModel", "isNumber", "(II)Z"⟩, 39) := ⟨⟨by decide +kernel, by decide +kernel⟩, List.mem_of_getElem? (i := 685) (by decide +kernel), List.mem_of_getElem? (i := 1007) (by decide +kernel), List.mem_of_getElem? (i := 1008) (by decide +kernel)⟩
theorem lw_p56 : lw_okq (⟨"MakersBenchModel", "samed", "(II)I"⟩, 39) := ⟨⟨by decide +kernel, by decide +kernel⟩, List.mem_of_getElem? (i := 685) (by decide +kernel), List.mem_of_getElem? (i := 1011) (by decide +kernel), List.mem_of_getElem? (i := 1012) (by decide +kernel)⟩
theorem lw_p57 : lw_okq (⟨"MakersBenchModel", "lookSame", "(III)Z"⟩, 39) := ⟨⟨by decide +kernel, by decide +kernel⟩, List.mem_of_getElem? (i := 685) (by decide +kernel), List.mem_of_getElem? (i := 1015) (by decide +kernel), List.mem_of_getElem? (i := 1016) (by decide +kernel)⟩
theorem lw_p58 : lw_okq (⟨"MakersBenchModel", "areSame", "(II)Z"⟩, 39) := ⟨⟨by decide +kernel, by decide +kernel⟩, List.mem_of_getElem? (i := 685) (by decide +kernel), List.mem_of_getElem? (i := 1019) (by decide +kernel), List.mem_of_getElem? (i := 1020) (by decide +kernel)⟩
theorem lw_p59 : lw_okq (⟨"MakersBenchModel", "picked", "(II)I"⟩, 39) := ⟨⟨by decide +kernel, by decide +kernel⟩, List.mem_of_getElem? (i := 685) (by decide +kernel), List.mem_of_getElem? (i := 1023) (by decide +kernel), List.mem_of_getElem? (i := 1024) (by decide +kernel)⟩
theorem lw_p60 : lw_okq (⟨"MakersBenchModel", "melted", "(II)I"⟩, 39) := ⟨⟨by decide +kernel, by decide +kernel⟩, List.mem_of_getElem? (i := 685) (by decide +kernel), List.mem_of_getElem? (i := 1027) (by decide +kernel), List.mem_of_getElem? (i := 1028) (by decide +kernel)⟩
theorem lw_p61 : lw_okq (⟨"MakersBenchModel", "twiced", "(II)I"⟩, 39) := ⟨⟨by decide +kernel, by decide +kernel⟩, List.mem_of_getElem? (i := 685) (by decide +kernel), List.mem_of_getElem? (i := 1031) (by decide +kernel), List.mem_of_getElem? (i := 1032) (by decide +kernel)⟩
theorem lw_p62 : lw_okq (⟨"MakersBenchModel", "twice", "(III)I"⟩, 39) := ⟨⟨by decide +kernel, by decide +kernel⟩, List.mem_of_getElem? (i := 685) (by decide +kernel), List.mem_of_getElem? (i := 1035) (by decide +kernel), List.mem_of_getElem? (i := 1036) (by decide +kernel)⟩
theorem lw_p63 : lw_okq (⟨"MakersBenchModel", "pair", "(III)I"⟩, 39) := ⟨⟨by decide +kernel, by decide +kernel⟩, List.mem_of_getElem? (i := 685) (by decide +kernel), List.mem_of_getElem? (i := 1039) (by decide +kernel), List.mem_of_getElem? (i := 1040) (by decide +kernel)⟩
def lw_privs_4 : List (MethodName × Nat) := [(⟨"MakersBenchModel", "madeBy", "(III)I"⟩, 39), (⟨"MakersBenchModel", "goOver", "(III)I"⟩, 39), (⟨"MakersBenchModel", "turned", "(III)I"⟩, 39), (⟨"MakersBenchModel", "becomes", "(III)I"⟩, 39), (⟨"MakersBenchModel", "folded", "(II)I"⟩, 39), (⟨"MakersBenchModel", "numeral", "(I)I"⟩, 39), (⟨"MakersBenchModel", "zeroed", "(II)I"⟩, 39), (⟨"MakersBenchModel", "isNumber", "(II)Z"⟩, 39), (⟨"MakersBenchModel", "samed", "(II)I"⟩, 39), (⟨"MakersBenchModel", "lookSame", "(III)Z"⟩, 39), (⟨"MakersBenchModel", "areSame", "(II)Z"⟩, 39), (⟨"MakersBenchModel", "picked", "(II)I"⟩, 39), (⟨"MakersBenchModel", "melted", "(II)I"⟩, 39), (⟨"MakersBenchModel", "twiced", "(II)I"⟩, 39), (⟨"MakersBenchModel", "twice", "(III)I"⟩, 39), (⟨"MakersBenchModel", "pair", "(III)I"⟩, 39)]
theorem lw_r4 : ∀ q ∈ lw_privs_4, lw_okq q := List.forall_mem_cons.mpr ⟨lw_p48, List.forall_mem_cons.mpr ⟨lw_p49, List.forall_mem_cons.mpr ⟨lw_p50, List.forall_mem_cons.mpr ⟨lw_p51, List.forall_mem_cons.mpr ⟨lw_p52, List.forall_mem_cons.mpr ⟨lw_p53, List.forall_mem_cons.mpr ⟨lw_p54, List.forall_mem_cons.mpr ⟨lw_p55, List.forall_mem_cons.mpr ⟨lw_p56, List.forall_mem_cons.mpr ⟨lw_p57, List.forall_mem_cons.mpr ⟨lw_p58, List.forall_mem_cons.mpr ⟨lw_p59, List.forall_mem_cons.mpr ⟨lw_p60, List.forall_mem_cons.mpr ⟨lw_p61, List.forall_mem_cons.mpr ⟨lw_p62, List.forall_mem_cons.mpr ⟨lw_p63, fun _ h => absurd h List.not_mem_nil⟩⟩⟩⟩⟩⟩⟩⟩⟩⟩⟩⟩⟩⟩⟩⟩
theorem lw_p64 : lw_okq (⟨"MakersBenchModel", "sunk", "(II)I"⟩, 39) := ⟨⟨by decide +kernel, by decide +kernel⟩, List.mem_of_getElem? (i := 685) (by decide +kernel), List.mem_of_getElem? (i := 1043) (by decide +kernel), List.mem_of_getElem? (i := 1044) (by decide +kernel)⟩
theorem lw_p65 : lw_okq (⟨"MakersBenchModel", "flatten", "(I)V"⟩, 39) := ⟨⟨by decide +kernel, by decide +kernel⟩, List.mem_of_getElem? (i := 685) (by decide +kernel), List.mem_of_getElem? (i := 1047) (by decide +kernel), List.mem_of_getElem? (i := 1048) (by decide +kernel)⟩
theorem lw_p66 : lw_okq (⟨"MakersBenchModel", "firesOf", "(III)I"⟩, 39) := ⟨⟨by decide +kernel, by decide +kernel⟩, List.mem_of_getElem? (i := 685) (by decide +kernel), List.mem_of_getElem? (i := 1067) (by decide +kernel), List.mem_of_getElem? (i := 1068) (by decide +kernel)⟩
theorem lw_p67 : lw_okq (⟨"MakersBenchModel", "isOther", "(IIII)Z"⟩, 39) := ⟨⟨by decide +kernel, by decide +kernel⟩, List.mem_of_getElem? (i := 685) (by decide +kernel), List.mem_of_getElem? (i := 1079) (by decide +kernel), List.mem_of_getElem? (i := 1080) (by decide +kernel)⟩
theorem lw_p68 : lw_okq (⟨"MakersBenchModel", "firstOf", "(III)I"⟩, 39) := ⟨⟨by decide +kernel, by decide +kernel⟩, List.mem_of_getElem? (i := 685) (by decide +kernel), List.mem_of_getElem? (i := 1087) (by decide +kernel), List.mem_of_getElem? (i := 1088) (by decide +kernel)⟩
theorem lw_p69 : lw_okq (⟨"MakersBenchModel", "isShown", "(II)Z"⟩, 39) := ⟨⟨by decide +kernel, by decide +kernel⟩, List.mem_of_getElem? (i := 685) (by decide +kernel), List.mem_of_getElem? (i := 1099) (by decide +kernel), List.mem_of_getElem? (i := 1100) (by decide +kernel)⟩
theorem lw_p70 : lw_okq (⟨"MakersBenchModel", "makeSmaller", "(II)Z"⟩, 39) := ⟨⟨by decide +kernel, by decide +kernel⟩, List.mem_of_getElem? (i := 685) (by decide +kernel), List.mem_of_getElem? (i := 1103) (by decide +kernel), List.mem_of_getElem? (i := 1104) (by decide +kernel)⟩
theorem lw_p71 : lw_okq (⟨"MakersBenchModel", "remember", "()V"⟩, 39) := ⟨⟨by decide +kernel, by decide +kernel⟩, List.mem_of_getElem? (i := 685) (by decide +kernel), List.mem_of_getElem? (i := 1107) (by decide +kernel), List.mem_of_getElem? (i := 1108) (by decide +kernel)⟩
theorem lw_p72 : lw_okq (⟨"MakersBenchModel", "step", "(II)Z"⟩, 39) := ⟨⟨by decide +kernel, by decide +kernel⟩, List.mem_of_getElem? (i := 685) (by decide +kernel), List.mem_of_getElem? (i := 1111) (by decide +kernel), List.mem_of_getElem? (i := 1112) (by decide +kernel)⟩
theorem lw_p73 : lw_okq (⟨"MakersBenchModel", "recall", "()V"⟩, 39) := ⟨⟨by decide +kernel, by decide +kernel⟩, List.mem_of_getElem? (i := 685) (by decide +kernel), List.mem_of_getElem? (i := 1115) (by decide +kernel), List.mem_of_getElem? (i := 1116) (by decide +kernel)⟩
theorem lw_p74 : lw_okq (⟨"MakersBenchModel", "nthTree", "(IJ)I"⟩, 39) := ⟨⟨by decide +kernel, by decide +kernel⟩, List.mem_of_getElem? (i := 685) (by decide +kernel), List.mem_of_getElem? (i := 1127) (by decide +kernel), List.mem_of_getElem? (i := 1128) (by decide +kernel)⟩
def lw_privs_5 : List (MethodName × Nat) := [(⟨"MakersBenchModel", "sunk", "(II)I"⟩, 39), (⟨"MakersBenchModel", "flatten", "(I)V"⟩, 39), (⟨"MakersBenchModel", "firesOf", "(III)I"⟩, 39), (⟨"MakersBenchModel", "isOther", "(IIII)Z"⟩, 39), (⟨"MakersBenchModel", "firstOf", "(III)I"⟩, 39), (⟨"MakersBenchModel", "isShown", "(II)Z"⟩, 39), (⟨"MakersBenchModel", "makeSmaller", "(II)Z"⟩, 39), (⟨"MakersBenchModel", "remember", "()V"⟩, 39), (⟨"MakersBenchModel", "step", "(II)Z"⟩, 39), (⟨"MakersBenchModel", "recall", "()V"⟩, 39), (⟨"MakersBenchModel", "nthTree", "(IJ)I"⟩, 39)]
theorem lw_r5 : ∀ q ∈ lw_privs_5, lw_okq q := List.forall_mem_cons.mpr ⟨lw_p64, List.forall_mem_cons.mpr ⟨lw_p65, List.forall_mem_cons.mpr ⟨lw_p66, List.forall_mem_cons.mpr ⟨lw_p67, List.forall_mem_cons.mpr ⟨lw_p68, List.forall_mem_cons.mpr ⟨lw_p69, List.forall_mem_cons.mpr ⟨lw_p70, List.forall_mem_cons.mpr ⟨lw_p71, List.forall_mem_cons.mpr ⟨lw_p72, List.forall_mem_cons.mpr ⟨lw_p73, List.forall_mem_cons.mpr ⟨lw_p74, fun _ h => absurd h List.not_mem_nil⟩⟩⟩⟩⟩⟩⟩⟩⟩⟩⟩
def lw_privs : List (MethodName × Nat) := lw_privs_1 ++ (lw_privs_2 ++ (lw_privs_3 ++ (lw_privs_4 ++ (lw_privs_5))))
def lw_tbl : List Cond := k2_sels lw_privs ++ tables_1
theorem lw_privs_ok : ∀ q ∈ lw_privs, lw_okq q := by
  show ∀ q ∈ lw_privs_1 ++ (lw_privs_2 ++ (lw_privs_3 ++ (lw_privs_4 ++ (lw_privs_5)))), lw_okq q
  exact List.forall_mem_append.mpr ⟨lw_r1, List.forall_mem_append.mpr ⟨lw_r2, List.forall_mem_append.mpr ⟨lw_r3, List.forall_mem_append.mpr ⟨lw_r4, lw_r5⟩⟩⟩⟩
def RX0 : String := "MakersBench$Code"
def TX0 : u_T := fun k => match k with
  | 0 => ("MakersBench$Code", "orders", "[I", true)
  | 1 => ("MakersBench$Code", "details", "[I", true)
  | 2 => ("MakersBench$Code", "length", "I", false)
  | 3 => ("MakersBench$Code", "readsA", "Z", false)
  | 4 => ("MakersBench$Code", "readsB", "Z", false)
  | 5 => ("MakersBench$Code", "divides", "Z", false)
  | 6 => ("MakersBench$Code", "openKinds", "[I", true)
  | 7 => ("MakersBench$Code", "openParts", "[I", true)
  | 8 => ("MakersBench$Code", "openJumps", "[I", true)
  | 9 => ("MakersBench$Code", "stack", "[I", true)
  | 10 => ("MakersBench$Code", "result", "I", false)
  | _ => ("MakersBench$Code", "done", "I", false)
def tyX0 : Nat → FieldType := fun k => match k with
  | 0 => .array .int
  | 1 => .array .int
  | 2 => .int
  | 3 => .boolean
  | 4 => .boolean
  | 5 => .boolean
  | 6 => .array .int
  | 7 => .array .int
  | 8 => .array .int
  | 9 => .array .int
  | 10 => .int
  | _ => .int
abbrev wsX00 : List Cond := u_ws RX0 TX0 12
theorem nmX0 : ∀ a, a < 12 → ∀ b, b < 12 → a ≠ b → (TX0 a).2.1 ≠ (TX0 b).2.1 := by decide +kernel
theorem tyX0_ok : ∀ k, k < 12 → parseFieldDescriptor (TX0 k).2.2.1 = some (tyX0 k) := by decide +kernel
abbrev cX0_init : ByteArray := prog_2_method_1_code
def yX0_init : MethodName := ⟨RX0, "<init>", "()V"⟩
abbrev cX0_write : ByteArray := prog_2_method_2_code
def yX0_write : MethodName := ⟨RX0, "write", "(LMakersBench$Tree;)V"⟩
abbrev cX0_add : ByteArray := prog_2_method_3_code
def yX0_add : MethodName := ⟨RX0, "add", "(II)V"⟩
abbrev cX0_endParts : ByteArray := prog_2_method_4_code
def yX0_endParts : MethodName := ⟨RX0, "endParts", "(I)I"⟩
abbrev cX0_jumpBehindPart : ByteArray := prog_2_method_5_code
def yX0_jumpBehindPart : MethodName := ⟨RX0, "jumpBehindPart", "(I)V"⟩
abbrev cX0_aim : ByteArray := prog_2_method_6_code
def yX0_aim : MethodName := ⟨RX0, "aim", "(II)V"⟩
abbrev cX0_run : ByteArray := prog_2_method_7_code
def yX0_run : MethodName := ⟨RX0, "run", "(II)Z"⟩
abbrev cX0_isNeverFree : ByteArray := prog_2_method_8_code
def yX0_isNeverFree : MethodName := ⟨RX0, "isNeverFree", "(I)Z"⟩
def RX1 : String := "MakersBench$Grammar"
def TX1 : u_T := fun k => match k with
  | 0 => ("MakersBench$Grammar", "ones", "[J", true)
  | 1 => ("MakersBench$Grammar", "twos", "[J", true)
  | 2 => ("MakersBench$Grammar", "threes", "[J", true)
  | 3 => ("MakersBench$Grammar", "deferredSizes", "[I", true)
  | 4 => ("MakersBench$Grammar", "deferredNumbers", "[J", true)
  | 5 => ("MakersBench$Grammar", "deferred", "I", false)
  | _ => ("MakersBench$Grammar", "ranks", "[J", true)
def tyX1 : Nat → FieldType := fun k => match k with
  | 0 => .array .long
  | 1 => .array .long
  | 2 => .array .long
  | 3 => .array .int
  | 4 => .array .long
  | 5 => .int
  | _ => .array .long
abbrev wsX10 : List Cond := u_ws RX1 TX1 7
theorem nmX1 : ∀ a, a < 7 → ∀ b, b < 7 → a ≠ b → (TX1 a).2.1 ≠ (TX1 b).2.1 := by decide +kernel
theorem tyX1_ok : ∀ k, k < 7 → parseFieldDescriptor (TX1 k).2.2.1 = some (tyX1 k) := by decide +kernel
abbrev cX1_init : ByteArray := prog_3_method_1_code
def yX1_init : MethodName := ⟨RX1, "<init>", "()V"⟩
abbrev cX1_howMany : ByteArray := prog_3_method_2_code
def yX1_howMany : MethodName := ⟨RX1, "howMany", "(I)J"⟩
abbrev cX1_unfold : ByteArray := prog_3_method_3_code
def yX1_unfold : MethodName := ⟨RX1, "unfold", "(LMakersBench$Tree;IJ)V"⟩
abbrev cX1_unfoldNode : ByteArray := prog_3_method_4_code
def yX1_unfoldNode : MethodName := ⟨RX1, "unfoldNode", "(LMakersBench$Tree;IJ)V"⟩
abbrev cX1_unfoldLeaf : ByteArray := prog_3_method_5_code
def yX1_unfoldLeaf : MethodName := ⟨RX1, "unfoldLeaf", "(LMakersBench$Tree;I)V"⟩
abbrev cX1_defer : ByteArray := prog_3_method_6_code
def yX1_defer : MethodName := ⟨RX1, "defer", "(IJ)V"⟩
abbrev cX1_deferTwo : ByteArray := prog_3_method_7_code
def yX1_deferTwo : MethodName := ⟨RX1, "deferTwo", "(IJ)V"⟩
abbrev cX1_deferThree : ByteArray := prog_3_method_8_code
def yX1_deferThree : MethodName := ⟨RX1, "deferThree", "(IJ)V"⟩
abbrev cX1_isNumbered : ByteArray := prog_3_method_9_code
def yX1_isNumbered : MethodName := ⟨RX1, "isNumbered", "(LMakersBench$Tree;)Z"⟩
abbrev cX1_rank : ByteArray := prog_3_method_10_code
def yX1_rank : MethodName := ⟨RX1, "rank", "(LMakersBench$Tree;)J"⟩
abbrev cX1_rankOfNode : ByteArray := prog_3_method_11_code
def yX1_rankOfNode : MethodName := ⟨RX1, "rankOfNode", "(LMakersBench$Tree;I)J"⟩
abbrev cX1_rankAt : ByteArray := prog_3_method_12_code
def yX1_rankAt : MethodName := ⟨RX1, "rankAt", "(I)J"⟩
abbrev cX1_rankOfTwo : ByteArray := prog_3_method_13_code
def yX1_rankOfTwo : MethodName := ⟨RX1, "rankOfTwo", "(LMakersBench$Tree;I)J"⟩
abbrev cX1_rankOfThree : ByteArray := prog_3_method_14_code
def yX1_rankOfThree : MethodName := ⟨RX1, "rankOfThree", "(LMakersBench$Tree;II)J"⟩
def RX2 : String := "MakersBench$Maker"
def TX2 : u_T := fun k => match k with
  | 0 => ("MakersBench$Maker", "sorts", "[I", true)
  | 1 => ("MakersBench$Maker", "faults", "[I", true)
  | _ => ("MakersBench$Maker", "turns", "I", false)
def tyX2 : Nat → FieldType := fun k => match k with
  | 0 => .array .int
  | 1 => .array .int
  | _ => .int
abbrev wsX20 : List Cond := u_ws RX2 TX2 3
theorem nmX2 : ∀ a, a < 3 → ∀ b, b < 3 → a ≠ b → (TX2 a).2.1 ≠ (TX2 b).2.1 := by decide +kernel
theorem tyX2_ok : ∀ k, k < 3 → parseFieldDescriptor (TX2 k).2.2.1 = some (tyX2 k) := by decide +kernel
abbrev cX2_init : ByteArray := prog_4_method_1_code
def yX2_init : MethodName := ⟨RX2, "<init>", "()V"⟩
abbrev cX2_has : ByteArray := prog_4_method_2_code
def yX2_has : MethodName := ⟨RX2, "has", "(I)Z"⟩
abbrev cX2_sortOf : ByteArray := prog_4_method_3_code
def yX2_sortOf : MethodName := ⟨RX2, "sortOf", "(I)I"⟩
abbrev cX2_faultOf : ByteArray := prog_4_method_4_code
def yX2_faultOf : MethodName := ⟨RX2, "faultOf", "(I)I"⟩
abbrev cX2_setFault : ByteArray := prog_4_method_5_code
def yX2_setFault : MethodName := ⟨RX2, "setFault", "(II)V"⟩
abbrev cX2_addTurn : ByteArray := prog_4_method_6_code
def yX2_addTurn : MethodName := ⟨RX2, "addTurn", "(II)V"⟩
def RX3 : String := "MakersBench$Pile"
def TX3 : u_T := fun k => match k with
  | 0 => ("MakersBench$Pile", "row", "LMakersBench$Tree;", true)
  | 1 => ("MakersBench$Pile", "starts", "[I", true)
  | _ => ("MakersBench$Pile", "trees", "I", false)
def tyX3 : Nat → FieldType := fun k => match k with
  | 0 => .object "MakersBench$Tree"
  | 1 => .array .int
  | _ => .int
abbrev wsX30 : List Cond := u_ws RX3 TX3 3
theorem nmX3 : ∀ a, a < 3 → ∀ b, b < 3 → a ≠ b → (TX3 a).2.1 ≠ (TX3 b).2.1 := by decide +kernel
theorem tyX3_ok : ∀ k, k < 3 → parseFieldDescriptor (TX3 k).2.2.1 = some (tyX3 k) := by decide +kernel
abbrev cX3_init : ByteArray := prog_5_method_1_code
def yX3_init : MethodName := ⟨RX3, "<init>", "()V"⟩
abbrev cX3_clear : ByteArray := prog_5_method_2_code
def yX3_clear : MethodName := ⟨RX3, "clear", "()V"⟩
abbrev cX3_put : ByteArray := prog_5_method_3_code
def yX3_put : MethodName := ⟨RX3, "put", "(II)V"⟩
def RX4 : String := "MakersBench$Rules"
def TX4 : u_T := fun k => match k with
  | _ => ("", "", "", false)
def tyX4 : Nat → FieldType := fun k => match k with
  | _ => .int
abbrev wsX40 : List Cond := u_ws RX4 TX4 0
theorem nmX4 : ∀ a, a < 0 → ∀ b, b < 0 → a ≠ b → (TX4 a).2.1 ≠ (TX4 b).2.1 := by decide +kernel
theorem tyX4_ok : ∀ k, k < 0 → parseFieldDescriptor (TX4 k).2.2.1 = some (tyX4 k) := by decide +kernel
abbrev cX4_fire : ByteArray := prog_6_method_2_code
def yX4_fire : MethodName := ⟨RX4, "fire", "(LMakersBench$Tree;IIII)Z"⟩
abbrev cX4_fold : ByteArray := prog_6_method_3_code
def yX4_fold : MethodName := ⟨RX4, "fold", "(LMakersBench$Tree;II)Z"⟩
abbrev cX4_zero : ByteArray := prog_6_method_4_code
def yX4_zero : MethodName := ⟨RX4, "zero", "(LMakersBench$Tree;II)Z"⟩
abbrev cX4_staysOfTimes : ByteArray := prog_6_method_5_code
def yX4_staysOfTimes : MethodName := ⟨RX4, "staysOfTimes", "(LMakersBench$Tree;III)I"⟩
abbrev cX4_same : ByteArray := prog_6_method_6_code
def yX4_same : MethodName := ⟨RX4, "same", "(LMakersBench$Tree;II)Z"⟩
abbrev cX4_isAlike : ByteArray := prog_6_method_7_code
def yX4_isAlike : MethodName := ⟨RX4, "isAlike", "(LMakersBench$Tree;II)Z"⟩
abbrev cX4_pick : ByteArray := prog_6_method_8_code
def yX4_pick : MethodName := ⟨RX4, "pick", "(LMakersBench$Tree;II)Z"⟩
abbrev cX4_melt : ByteArray := prog_6_method_9_code
def yX4_melt : MethodName := ⟨RX4, "melt", "(LMakersBench$Tree;II)Z"⟩
abbrev cX4_twice : ByteArray := prog_6_method_10_code
def yX4_twice : MethodName := ⟨RX4, "twice", "(LMakersBench$Tree;III)Z"⟩
abbrev cX4_otherThan : ByteArray := prog_6_method_11_code
def yX4_otherThan : MethodName := ⟨RX4, "otherThan", "(LMakersBench$Tree;III)I"⟩
abbrev cX4_sink : ByteArray := prog_6_method_12_code
def yX4_sink : MethodName := ⟨RX4, "sink", "(LMakersBench$Tree;II)Z"⟩
def RX5 : String := "MakersBench$Tree"
def TX5 : u_T := fun k => match k with
  | 0 => ("MakersBench$Tree", "kinds", "[I", true)
  | 1 => ("MakersBench$Tree", "numbers", "[I", true)
  | 2 => ("MakersBench$Tree", "sizes", "[I", true)
  | _ => ("MakersBench$Tree", "length", "I", false)
def tyX5 : Nat → FieldType := fun k => match k with
  | 0 => .array .int
  | 1 => .array .int
  | 2 => .array .int
  | _ => .int
abbrev wsX50 : List Cond := u_ws RX5 TX5 4
theorem nmX5 : ∀ a, a < 4 → ∀ b, b < 4 → a ≠ b → (TX5 a).2.1 ≠ (TX5 b).2.1 := by decide +kernel
theorem tyX5_ok : ∀ k, k < 4 → parseFieldDescriptor (TX5 k).2.2.1 = some (tyX5 k) := by decide +kernel
abbrev cX5_init : ByteArray := prog_7_method_1_code
def yX5_init : MethodName := ⟨RX5, "<init>", "()V"⟩
abbrev cX5_has : ByteArray := prog_7_method_2_code
def yX5_has : MethodName := ⟨RX5, "has", "(I)Z"⟩
abbrev cX5_kindOf : ByteArray := prog_7_method_3_code
def yX5_kindOf : MethodName := ⟨RX5, "kindOf", "(I)I"⟩
abbrev cX5_numberOf : ByteArray := prog_7_method_4_code
def yX5_numberOf : MethodName := ⟨RX5, "numberOf", "(I)I"⟩
abbrev cX5_sizeOf : ByteArray := prog_7_method_5_code
def yX5_sizeOf : MethodName := ⟨RX5, "sizeOf", "(I)I"⟩
abbrev cX5_behind : ByteArray := prog_7_method_6_code
def yX5_behind : MethodName := ⟨RX5, "behind", "(I)I"⟩
abbrev cX5_isNumber : ByteArray := prog_7_method_7_code
def yX5_isNumber : MethodName := ⟨RX5, "isNumber", "(II)Z"⟩
abbrev cX5_isSame : ByteArray := prog_7_method_8_code
def yX5_isSame : MethodName := ⟨RX5, "isSame", "(II)Z"⟩
abbrev cX5_clear : ByteArray := prog_7_method_9_code
def yX5_clear : MethodName := ⟨RX5, "clear", "()V"⟩
abbrev cX5_append : ByteArray := prog_7_method_10_code
def yX5_append : MethodName := ⟨RX5, "append", "(II)V"⟩
abbrev cX5_appendRun : ByteArray := prog_7_method_11_code
def yX5_appendRun : MethodName := ⟨RX5, "appendRun", "(LMakersBench$Tree;II)V"⟩
abbrev cX5_become : ByteArray := prog_7_method_12_code
def yX5_become : MethodName := ⟨RX5, "become", "(LMakersBench$Tree;)V"⟩
abbrev cX5_join : ByteArray := prog_7_method_13_code
def yX5_join : MethodName := ⟨RX5, "join", "(LMakersBench$Tree;ILMakersBench$Tree;I)V"⟩
abbrev cX5_measure : ByteArray := prog_7_method_14_code
def yX5_measure : MethodName := ⟨RX5, "measure", "()V"⟩
abbrev cX5_close : ByteArray := prog_7_method_15_code
def yX5_close : MethodName := ⟨RX5, "close", "(I)V"⟩
abbrev cX5_rename : ByteArray := prog_7_method_16_code
def yX5_rename : MethodName := ⟨RX5, "rename", "(II)V"⟩
abbrev cX5_insert : ByteArray := prog_7_method_17_code
def yX5_insert : MethodName := ⟨RX5, "insert", "(III)V"⟩
abbrev cX5_cut : ByteArray := prog_7_method_18_code
def yX5_cut : MethodName := ⟨RX5, "cut", "(II)V"⟩
abbrev cX5_endAsNumber : ByteArray := prog_7_method_19_code
def yX5_endAsNumber : MethodName := ⟨RX5, "endAsNumber", "(II)V"⟩
abbrev cX5_endAsPart : ByteArray := prog_7_method_20_code
def yX5_endAsPart : MethodName := ⟨RX5, "endAsPart", "(II)V"⟩
def RX6 : String := "MakersBench$Workshop"
def TX6 : u_T := fun k => match k with
  | 0 => ("MakersBench$Workshop", "open", "[I", true)
  | 1 => ("MakersBench$Workshop", "missing", "[I", true)
  | 2 => ("MakersBench$Workshop", "now", "LMakersBench$Tree;", false)
  | _ => ("MakersBench$Workshop", "next", "LMakersBench$Tree;", false)
def tyX6 : Nat → FieldType := fun k => match k with
  | 0 => .array .int
  | 1 => .array .int
  | 2 => .object "MakersBench$Tree"
  | _ => .object "MakersBench$Tree"
abbrev wsX60 : List Cond := u_ws RX6 TX6 4
theorem nmX6 : ∀ a, a < 4 → ∀ b, b < 4 → a ≠ b → (TX6 a).2.1 ≠ (TX6 b).2.1 := by decide +kernel
theorem tyX6_ok : ∀ k, k < 4 → parseFieldDescriptor (TX6 k).2.2.1 = some (tyX6 k) := by decide +kernel
abbrev cX6_init : ByteArray := prog_8_method_1_code
def yX6_init : MethodName := ⟨RX6, "<init>", "()V"⟩
abbrev cX6_make : ByteArray := prog_8_method_2_code
def yX6_make : MethodName := ⟨RX6, "make", "(LMakersBench$Maker;LMakersBench$Tree;I)I"⟩
abbrev cX6_firings : ByteArray := prog_8_method_3_code
def yX6_firings : MethodName := ⟨RX6, "firings", "(LMakersBench$Maker;LMakersBench$Tree;I)I"⟩
abbrev cX6_firingTurns : ByteArray := prog_8_method_4_code
def yX6_firingTurns : MethodName := ⟨RX6, "firingTurns", "(LMakersBench$Maker;LMakersBench$Tree;)I"⟩
abbrev cX6_apply : ByteArray := prog_8_method_5_code
def yX6_apply : MethodName := ⟨RX6, "apply", "(II)I"⟩
def RX7 : String := "MakersBench"
def TX7 : u_T := fun k => match k with
  | 0 => ("MakersBench", "grammar", "LMakersBench$Grammar;", true)
  | 1 => ("MakersBench", "pile", "LMakersBench$Pile;", true)
  | 2 => ("MakersBench", "places", "[LMakersBench$Tree;", true)
  | 3 => ("MakersBench", "makers", "[LMakersBench$Maker;", true)
  | 4 => ("MakersBench", "workshop", "LMakersBench$Workshop;", true)
  | 5 => ("MakersBench", "right", "LMakersBench$Code;", true)
  | 6 => ("MakersBench", "tried", "LMakersBench$Code;", true)
  | 7 => ("MakersBench", "found", "LMakersBench$Tree;", true)
  | 8 => ("MakersBench", "candidate", "LMakersBench$Tree;", true)
  | 9 => ("MakersBench", "nought", "LMakersBench$Tree;", true)
  | 10 => ("MakersBench", "makerCount", "I", false)
  | _ => ("MakersBench", "stepsDone", "I", false)
def tyX7 : Nat → FieldType := fun k => match k with
  | 0 => .object "MakersBench$Grammar"
  | 1 => .object "MakersBench$Pile"
  | 2 => .array (.object "MakersBench$Tree")
  | 3 => .array (.object "MakersBench$Maker")
  | 4 => .object "MakersBench$Workshop"
  | 5 => .object "MakersBench$Code"
  | 6 => .object "MakersBench$Code"
  | 7 => .object "MakersBench$Tree"
  | 8 => .object "MakersBench$Tree"
  | 9 => .object "MakersBench$Tree"
  | 10 => .int
  | _ => .int
abbrev wsX70 : List Cond := u_ws RX7 TX7 12
theorem nmX7 : ∀ a, a < 12 → ∀ b, b < 12 → a ≠ b → (TX7 a).2.1 ≠ (TX7 b).2.1 := by decide +kernel
theorem tyX7_ok : ∀ k, k < 12 → parseFieldDescriptor (TX7 k).2.2.1 = some (tyX7 k) := by decide +kernel
abbrev cX7_init : ByteArray := prog_1_method_1_code
def yX7_init : MethodName := ⟨RX7, "<init>", "()V"⟩
abbrev cX7_many : ByteArray := prog_1_method_2_code
def yX7_many : MethodName := ⟨RX7, "many", "(I)J"⟩
abbrev cX7_nth : ByteArray := prog_1_method_3_code
def yX7_nth : MethodName := ⟨RX7, "nth", "(IIJ)I"⟩
abbrev cX7_number : ByteArray := prog_1_method_4_code
def yX7_number : MethodName := ⟨RX7, "number", "(I)J"⟩
abbrev cX7_node : ByteArray := prog_1_method_5_code
def yX7_node : MethodName := ⟨RX7, "node", "(II)I"⟩
abbrev cX7_keep : ByteArray := prog_1_method_6_code
def yX7_keep : MethodName := ⟨RX7, "keep", "(I)I"⟩
abbrev cX7_drop : ByteArray := prog_1_method_7_code
def yX7_drop : MethodName := ⟨RX7, "drop", "(I)I"⟩
abbrev cX7_read : ByteArray := prog_1_method_8_code
def yX7_read : MethodName := ⟨RX7, "read", "(III)I"⟩
abbrev cX7_value : ByteArray := prog_1_method_9_code
def yX7_value : MethodName := ⟨RX7, "value", "(III)I"⟩
abbrev cX7_safe : ByteArray := prog_1_method_10_code
def yX7_safe : MethodName := ⟨RX7, "safe", "(II)I"⟩
abbrev cX7_breed : ByteArray := prog_1_method_11_code
def yX7_breed : MethodName := ⟨RX7, "breed", "(IIIII)I"⟩
abbrev cX7_maker : ByteArray := prog_1_method_12_code
def yX7_maker : MethodName := ⟨RX7, "maker", "()I"⟩
abbrev cX7_turn : ByteArray := prog_1_method_13_code
def yX7_turn : MethodName := ⟨RX7, "turn", "(III)I"⟩
abbrev cX7_plant : ByteArray := prog_1_method_14_code
def yX7_plant : MethodName := ⟨RX7, "plant", "(III)I"⟩
abbrev cX7_made : ByteArray := prog_1_method_15_code
def yX7_made : MethodName := ⟨RX7, "made", "(III)I"⟩
abbrev cX7_part : ByteArray := prog_1_method_16_code
def yX7_part : MethodName := ⟨RX7, "part", "(II)I"⟩
abbrev cX7_answer : ByteArray := prog_1_method_17_code
def yX7_answer : MethodName := ⟨RX7, "answer", "(IIII)I"⟩
abbrev cX7_cost : ByteArray := prog_1_method_18_code
def yX7_cost : MethodName := ⟨RX7, "cost", "(IIII)I"⟩
abbrev cX7_fires : ByteArray := prog_1_method_19_code
def yX7_fires : MethodName := ⟨RX7, "fires", "(III)I"⟩
abbrev cX7_never : ByteArray := prog_1_method_20_code
def yX7_never : MethodName := ⟨RX7, "never", "(I)I"⟩
abbrev cX7_differ : ByteArray := prog_1_method_21_code
def yX7_differ : MethodName := ⟨RX7, "differ", "(III)I"⟩
abbrev cX7_first : ByteArray := prog_1_method_22_code
def yX7_first : MethodName := ⟨RX7, "first", "(III)I"⟩
abbrev cX7_cause : ByteArray := prog_1_method_23_code
def yX7_cause : MethodName := ⟨RX7, "cause", "(IIII)I"⟩
abbrev cX7_small : ByteArray := prog_1_method_24_code
def yX7_small : MethodName := ⟨RX7, "small", "(III)I"⟩
abbrev cX7_steps : ByteArray := prog_1_method_25_code
def yX7_steps : MethodName := ⟨RX7, "steps", "()I"⟩
abbrev cX7_least : ByteArray := prog_1_method_26_code
def yX7_least : MethodName := ⟨RX7, "least", "(III)J"⟩
abbrev cX7_shown : ByteArray := prog_1_method_27_code
def yX7_shown : MethodName := ⟨RX7, "shown", "(IIII)I"⟩
abbrev cX7_count : ByteArray := prog_1_method_28_code
def yX7_count : MethodName := ⟨RX7, "count", "(I)I"⟩
abbrev cX7_ofMaker : ByteArray := prog_1_method_29_code
def yX7_ofMaker : MethodName := ⟨RX7, "ofMaker", "(II)I"⟩
abbrev cX7_within : ByteArray := prog_1_method_30_code
def yX7_within : MethodName := ⟨RX7, "within", "(III)Z"⟩
abbrev cX7_partsOf : ByteArray := prog_1_method_31_code
def yX7_partsOf : MethodName := ⟨RX7, "partsOf", "(I)I"⟩
abbrev cX7_combine : ByteArray := prog_1_method_32_code
def yX7_combine : MethodName := ⟨RX7, "combine", "(III)I"⟩
abbrev cX7_tell : ByteArray := prog_1_method_33_code
def yX7_tell : MethodName := ⟨RX7, "tell", "(LMakersBench$Tree;II)I"⟩
abbrev cX7_placeAt : ByteArray := prog_1_method_34_code
def yX7_placeAt : MethodName := ⟨RX7, "placeAt", "(I)LMakersBench$Tree;"⟩
abbrev cX7_programAt : ByteArray := prog_1_method_35_code
def yX7_programAt : MethodName := ⟨RX7, "programAt", "(I)LMakersBench$Tree;"⟩
abbrev cX7_makerAt : ByteArray := prog_1_method_36_code
def yX7_makerAt : MethodName := ⟨RX7, "makerAt", "(I)LMakersBench$Maker;"⟩
abbrev cX7_keptPrograms : ByteArray := prog_1_method_37_code
def yX7_keptPrograms : MethodName := ⟨RX7, "keptPrograms", "()I"⟩
abbrev cX7_keptNodes : ByteArray := prog_1_method_38_code
def yX7_keptNodes : MethodName := ⟨RX7, "keptNodes", "()I"⟩
abbrev cX7_write : ByteArray := prog_1_method_39_code
def yX7_write : MethodName := ⟨RX7, "write", "(II)Z"⟩
abbrev cX7_isWrongAt : ByteArray := prog_1_method_40_code
def yX7_isWrongAt : MethodName := ⟨RX7, "isWrongAt", "(II)Z"⟩
abbrev cX7_isSafe : ByteArray := prog_1_method_41_code
def yX7_isSafe : MethodName := ⟨RX7, "isSafe", "(LMakersBench$Tree;I)Z"⟩
abbrev cX7_isFaulty : ByteArray := prog_1_method_42_code
def yX7_isFaulty : MethodName := ⟨RX7, "isFaulty", "(LMakersBench$Maker;LMakersBench$Tree;I)Z"⟩
abbrev cX7_showsFault : ByteArray := prog_1_method_43_code
def yX7_showsFault : MethodName := ⟨RX7, "showsFault", "(LMakersBench$Tree;I)Z"⟩
abbrev cX7_shrink : ByteArray := prog_1_method_44_code
def yX7_shrink : MethodName := ⟨RX7, "shrink", "(LMakersBench$Maker;LMakersBench$Tree;I)Z"⟩
def RX8 : String := "MakersBenchModel"
def TX8 : u_T := fun k => match k with
  | 0 => ("MakersBenchModel", "code", "I", false)
  | 1 => ("MakersBenchModel", "top", "I", false)
  | 2 => ("MakersBenchModel", "kind", "[I", true)
  | 3 => ("MakersBenchModel", "val", "[I", true)
  | 4 => ("MakersBenchModel", "one", "[I", true)
  | 5 => ("MakersBenchModel", "two", "[I", true)
  | 6 => ("MakersBenchModel", "three", "[I", true)
  | 7 => ("MakersBenchModel", "size", "[I", true)
  | 8 => ("MakersBenchModel", "free", "Z", false)
  | 9 => ("MakersBenchModel", "orders", "I", false)
  | 10 => ("MakersBenchModel", "fired", "I", false)
  | 11 => ("MakersBenchModel", "whole", "I", false)
  | 12 => ("MakersBenchModel", "rowSize", "[I", true)
  | 13 => ("MakersBenchModel", "rowKind", "[I", true)
  | 14 => ("MakersBenchModel", "rowVal", "[I", true)
  | 15 => ("MakersBenchModel", "handKind", "[I", true)
  | 16 => ("MakersBenchModel", "handVal", "[I", true)
  | 17 => ("MakersBenchModel", "handSize", "I", false)
  | 18 => ("MakersBenchModel", "at", "I", false)
  | 19 => ("MakersBenchModel", "counts", "[J", true)
  | 20 => ("MakersBenchModel", "trees", "I", false)
  | 21 => ("MakersBenchModel", "treeFrom", "[I", true)
  | 22 => ("MakersBenchModel", "pileKind", "[I", true)
  | 23 => ("MakersBenchModel", "pileVal", "[I", true)
  | 24 => ("MakersBenchModel", "piled", "I", false)
  | 25 => ("MakersBenchModel", "spareKind", "[I", true)
  | 26 => ("MakersBenchModel", "spareVal", "[I", true)
  | 27 => ("MakersBenchModel", "makers", "I", false)
  | 28 => ("MakersBenchModel", "turns", "[I", true)
  | 29 => ("MakersBenchModel", "sorts", "[I", true)
  | 30 => ("MakersBenchModel", "faults", "[I", true)
  | 31 => ("MakersBenchModel", "foundSize", "I", false)
  | 32 => ("MakersBenchModel", "foundKind", "[I", true)
  | 33 => ("MakersBenchModel", "foundVal", "[I", true)
  | 34 => ("MakersBenchModel", "foundNodes", "[I", true)
  | 35 => ("MakersBenchModel", "steps", "I", false)
  | 36 => ("MakersBenchModel", "fullKind", "[I", true)
  | 37 => ("MakersBenchModel", "fullVal", "[I", true)
  | _ => ("MakersBenchModel", "fullSize", "I", false)
def tyX8 : Nat → FieldType := fun k => match k with
  | 0 => .int
  | 1 => .int
  | 2 => .array .int
  | 3 => .array .int
  | 4 => .array .int
  | 5 => .array .int
  | 6 => .array .int
  | 7 => .array .int
  | 8 => .boolean
  | 9 => .int
  | 10 => .int
  | 11 => .int
  | 12 => .array .int
  | 13 => .array .int
  | 14 => .array .int
  | 15 => .array .int
  | 16 => .array .int
  | 17 => .int
  | 18 => .int
  | 19 => .array .long
  | 20 => .int
  | 21 => .array .int
  | 22 => .array .int
  | 23 => .array .int
  | 24 => .int
  | 25 => .array .int
  | 26 => .array .int
  | 27 => .int
  | 28 => .array .int
  | 29 => .array .int
  | 30 => .array .int
  | 31 => .int
  | 32 => .array .int
  | 33 => .array .int
  | 34 => .array .int
  | 35 => .int
  | 36 => .array .int
  | 37 => .array .int
  | _ => .int
abbrev wsX80 : List Cond := u_ws RX8 TX8 39
theorem nmX8 : ∀ a, a < 39 → ∀ b, b < 39 → a ≠ b → (TX8 a).2.1 ≠ (TX8 b).2.1 := by decide +kernel
theorem tyX8_ok : ∀ k, k < 39 → parseFieldDescriptor (TX8 k).2.2.1 = some (tyX8 k) := by decide +kernel
abbrev cX8_init : ByteArray := prog_10_method_1_code
def yX8_init : MethodName := ⟨RX8, "<init>", "()V"⟩
abbrev cX8_in : ByteArray := prog_10_method_3_code
def yX8_in : MethodName := ⟨RX8, "in", "(JJJ)Z"⟩
abbrev cX8_parts : ByteArray := prog_10_method_4_code
def yX8_parts : MethodName := ⟨RX8, "parts", "(I)I"⟩
abbrev cX8_make : ByteArray := prog_10_method_5_code
def yX8_make : MethodName := ⟨RX8, "make", "(IIIII)I"⟩
abbrev cX8_numeral : ByteArray := prog_10_method_6_code
def yX8_numeral : MethodName := ⟨RX8, "numeral", "(I)I"⟩
abbrev cX8_pair : ByteArray := prog_10_method_7_code
def yX8_pair : MethodName := ⟨RX8, "pair", "(III)I"⟩
abbrev cX8_isNumber : ByteArray := prog_10_method_8_code
def yX8_isNumber : MethodName := ⟨RX8, "isNumber", "(II)Z"⟩
abbrev cX8_areSame : ByteArray := prog_10_method_9_code
def yX8_areSame : MethodName := ⟨RX8, "areSame", "(II)Z"⟩
abbrev cX8_both : ByteArray := prog_10_method_10_code
def yX8_both : MethodName := ⟨RX8, "both", "(III)I"⟩
abbrev cX8_works : ByteArray := prog_10_method_11_code
def yX8_works : MethodName := ⟨RX8, "works", "(III)I"⟩
abbrev cX8_valueOf : ByteArray := prog_10_method_12_code
def yX8_valueOf : MethodName := ⟨RX8, "valueOf", "(III)I"⟩
abbrev cX8_isSafe : ByteArray := prog_10_method_13_code
def yX8_isSafe : MethodName := ⟨RX8, "isSafe", "(II)Z"⟩
abbrev cX8_becomes : ByteArray := prog_10_method_14_code
def yX8_becomes : MethodName := ⟨RX8, "becomes", "(III)I"⟩
abbrev cX8_folded : ByteArray := prog_10_method_15_code
def yX8_folded : MethodName := ⟨RX8, "folded", "(II)I"⟩
abbrev cX8_zeroed : ByteArray := prog_10_method_16_code
def yX8_zeroed : MethodName := ⟨RX8, "zeroed", "(II)I"⟩
abbrev cX8_lookSame : ByteArray := prog_10_method_17_code
def yX8_lookSame : MethodName := ⟨RX8, "lookSame", "(III)Z"⟩
abbrev cX8_samed : ByteArray := prog_10_method_18_code
def yX8_samed : MethodName := ⟨RX8, "samed", "(II)I"⟩
abbrev cX8_picked : ByteArray := prog_10_method_19_code
def yX8_picked : MethodName := ⟨RX8, "picked", "(II)I"⟩
abbrev cX8_melted : ByteArray := prog_10_method_20_code
def yX8_melted : MethodName := ⟨RX8, "melted", "(II)I"⟩
abbrev cX8_twice : ByteArray := prog_10_method_21_code
def yX8_twice : MethodName := ⟨RX8, "twice", "(III)I"⟩
abbrev cX8_twiced : ByteArray := prog_10_method_22_code
def yX8_twiced : MethodName := ⟨RX8, "twiced", "(II)I"⟩
abbrev cX8_sunk : ByteArray := prog_10_method_23_code
def yX8_sunk : MethodName := ⟨RX8, "sunk", "(II)I"⟩
abbrev cX8_turned : ByteArray := prog_10_method_24_code
def yX8_turned : MethodName := ⟨RX8, "turned", "(III)I"⟩
abbrev cX8_goOver : ByteArray := prog_10_method_25_code
def yX8_goOver : MethodName := ⟨RX8, "goOver", "(III)I"⟩
abbrev cX8_madeBy : ByteArray := prog_10_method_26_code
def yX8_madeBy : MethodName := ⟨RX8, "madeBy", "(III)I"⟩
abbrev cX8_isPlace : ByteArray := prog_10_method_27_code
def yX8_isPlace : MethodName := ⟨RX8, "isPlace", "(I)Z"⟩
abbrev cX8_has : ByteArray := prog_10_method_28_code
def yX8_has : MethodName := ⟨RX8, "has", "(I)Z"⟩
abbrev cX8_take : ByteArray := prog_10_method_29_code
def yX8_take : MethodName := ⟨RX8, "take", "(I)V"⟩
abbrev cX8_put : ByteArray := prog_10_method_30_code
def yX8_put : MethodName := ⟨RX8, "put", "(I)I"⟩
abbrev cX8_grow : ByteArray := prog_10_method_31_code
def yX8_grow : MethodName := ⟨RX8, "grow", "()I"⟩
abbrev cX8_tree : ByteArray := prog_10_method_32_code
def yX8_tree : MethodName := ⟨RX8, "tree", "()I"⟩
abbrev cX8_treeOf : ByteArray := prog_10_method_33_code
def yX8_treeOf : MethodName := ⟨RX8, "treeOf", "(I)I"⟩
abbrev cX8_flatten : ByteArray := prog_10_method_34_code
def yX8_flatten : MethodName := ⟨RX8, "flatten", "(I)V"⟩
abbrev cX8_endOf : ByteArray := prog_10_method_35_code
def yX8_endOf : MethodName := ⟨RX8, "endOf", "(I)I"⟩
abbrev cX8_count0 : ByteArray := prog_10_method_36_code
def yX8_count0 : MethodName := ⟨RX8, "count0", "()V"⟩
abbrev cX8_pairs : ByteArray := prog_10_method_37_code
def yX8_pairs : MethodName := ⟨RX8, "pairs", "(I)J"⟩
abbrev cX8_many : ByteArray := prog_10_method_38_code
def yX8_many : MethodName := ⟨RX8, "many", "(I)J"⟩
abbrev cX8_hand : ByteArray := prog_10_method_39_code
def yX8_hand : MethodName := ⟨RX8, "hand", "(II)V"⟩
abbrev cX8_nthPair : ByteArray := prog_10_method_40_code
def yX8_nthPair : MethodName := ⟨RX8, "nthPair", "(IJ)V"⟩
abbrev cX8_nth0 : ByteArray := prog_10_method_41_code
def yX8_nth0 : MethodName := ⟨RX8, "nth0", "(IJ)V"⟩
abbrev cX8_nth : ByteArray := prog_10_method_42_code
def yX8_nth : MethodName := ⟨RX8, "nth", "(IIJ)I"⟩
abbrev cX8_pairRank : ByteArray := prog_10_method_43_code
def yX8_pairRank : MethodName := ⟨RX8, "pairRank", "(II)J"⟩
abbrev cX8_rank : ByteArray := prog_10_method_44_code
def yX8_rank : MethodName := ⟨RX8, "rank", "(I)J"⟩
abbrev cX8_number : ByteArray := prog_10_method_45_code
def yX8_number : MethodName := ⟨RX8, "number", "(I)J"⟩
abbrev cX8_node : ByteArray := prog_10_method_46_code
def yX8_node : MethodName := ⟨RX8, "node", "(II)I"⟩
abbrev cX8_keep : ByteArray := prog_10_method_47_code
def yX8_keep : MethodName := ⟨RX8, "keep", "(I)I"⟩
abbrev cX8_drop : ByteArray := prog_10_method_48_code
def yX8_drop : MethodName := ⟨RX8, "drop", "(I)I"⟩
abbrev cX8_read : ByteArray := prog_10_method_49_code
def yX8_read : MethodName := ⟨RX8, "read", "(III)I"⟩
abbrev cX8_value : ByteArray := prog_10_method_50_code
def yX8_value : MethodName := ⟨RX8, "value", "(III)I"⟩
abbrev cX8_safe : ByteArray := prog_10_method_51_code
def yX8_safe : MethodName := ⟨RX8, "safe", "(II)I"⟩
abbrev cX8_splice : ByteArray := prog_10_method_52_code
def yX8_splice : MethodName := ⟨RX8, "splice", "(III)V"⟩
abbrev cX8_shift : ByteArray := prog_10_method_53_code
def yX8_shift : MethodName := ⟨RX8, "shift", "(II)V"⟩
abbrev cX8_spare : ByteArray := prog_10_method_54_code
def yX8_spare : MethodName := ⟨RX8, "spare", "(II)V"⟩
abbrev cX8_breed : ByteArray := prog_10_method_55_code
def yX8_breed : MethodName := ⟨RX8, "breed", "(IIIII)I"⟩
abbrev cX8_isMaker : ByteArray := prog_10_method_56_code
def yX8_isMaker : MethodName := ⟨RX8, "isMaker", "(I)Z"⟩
abbrev cX8_isTurn : ByteArray := prog_10_method_57_code
def yX8_isTurn : MethodName := ⟨RX8, "isTurn", "(II)Z"⟩
abbrev cX8_maker : ByteArray := prog_10_method_58_code
def yX8_maker : MethodName := ⟨RX8, "maker", "()I"⟩
abbrev cX8_turn : ByteArray := prog_10_method_59_code
def yX8_turn : MethodName := ⟨RX8, "turn", "(III)I"⟩
abbrev cX8_plant : ByteArray := prog_10_method_60_code
def yX8_plant : MethodName := ⟨RX8, "plant", "(III)I"⟩
abbrev cX8_made : ByteArray := prog_10_method_61_code
def yX8_made : MethodName := ⟨RX8, "made", "(III)I"⟩
abbrev cX8_part : ByteArray := prog_10_method_62_code
def yX8_part : MethodName := ⟨RX8, "part", "(II)I"⟩
abbrev cX8_answer : ByteArray := prog_10_method_63_code
def yX8_answer : MethodName := ⟨RX8, "answer", "(IIII)I"⟩
abbrev cX8_cost : ByteArray := prog_10_method_64_code
def yX8_cost : MethodName := ⟨RX8, "cost", "(IIII)I"⟩
abbrev cX8_firesOf : ByteArray := prog_10_method_65_code
def yX8_firesOf : MethodName := ⟨RX8, "firesOf", "(III)I"⟩
abbrev cX8_fires : ByteArray := prog_10_method_66_code
def yX8_fires : MethodName := ⟨RX8, "fires", "(III)I"⟩
abbrev cX8_never : ByteArray := prog_10_method_67_code
def yX8_never : MethodName := ⟨RX8, "never", "(I)I"⟩
abbrev cX8_isOther : ByteArray := prog_10_method_68_code
def yX8_isOther : MethodName := ⟨RX8, "isOther", "(IIII)Z"⟩
abbrev cX8_firstOf : ByteArray := prog_10_method_69_code
def yX8_firstOf : MethodName := ⟨RX8, "firstOf", "(III)I"⟩
abbrev cX8_differ : ByteArray := prog_10_method_70_code
def yX8_differ : MethodName := ⟨RX8, "differ", "(III)I"⟩
abbrev cX8_first : ByteArray := prog_10_method_71_code
def yX8_first : MethodName := ⟨RX8, "first", "(III)I"⟩
abbrev cX8_cause : ByteArray := prog_10_method_72_code
def yX8_cause : MethodName := ⟨RX8, "cause", "(IIII)I"⟩
abbrev cX8_remember : ByteArray := prog_10_method_73_code
def yX8_remember : MethodName := ⟨RX8, "remember", "()V"⟩
abbrev cX8_recall : ByteArray := prog_10_method_74_code
def yX8_recall : MethodName := ⟨RX8, "recall", "()V"⟩
abbrev cX8_isShown : ByteArray := prog_10_method_75_code
def yX8_isShown : MethodName := ⟨RX8, "isShown", "(II)Z"⟩
abbrev cX8_step : ByteArray := prog_10_method_76_code
def yX8_step : MethodName := ⟨RX8, "step", "(II)Z"⟩
abbrev cX8_makeSmaller : ByteArray := prog_10_method_77_code
def yX8_makeSmaller : MethodName := ⟨RX8, "makeSmaller", "(II)Z"⟩
abbrev cX8_small : ByteArray := prog_10_method_78_code
def yX8_small : MethodName := ⟨RX8, "small", "(III)I"⟩
abbrev cX8_steps : ByteArray := prog_10_method_79_code
def yX8_steps : MethodName := ⟨RX8, "steps", "()I"⟩
abbrev cX8_nthTree : ByteArray := prog_10_method_80_code
def yX8_nthTree : MethodName := ⟨RX8, "nthTree", "(IJ)I"⟩
abbrev cX8_least : ByteArray := prog_10_method_81_code
def yX8_least : MethodName := ⟨RX8, "least", "(III)J"⟩
abbrev cX8_shown : ByteArray := prog_10_method_82_code
def yX8_shown : MethodName := ⟨RX8, "shown", "(IIII)I"⟩
abbrev cX8_count : ByteArray := prog_10_method_83_code
def yX8_count : MethodName := ⟨RX8, "count", "(I)I"⟩
abbrev cX8_ofMaker : ByteArray := prog_10_method_84_code
def yX8_ofMaker : MethodName := ⟨RX8, "ofMaker", "(II)I"⟩
def RJ9 : String := "java/lang/Math"
def RJ10 : String := "java/lang/System"
def RL : String := "MakersBenchLaw"
abbrev cL_law : ByteArray := code
def yL_law : MethodName := ⟨RL, "law", "([I)Z"⟩
abbrev vwCl : List vw_C := [(RX0, TX0, 12), (RX1, TX1, 7), (RX2, TX2, 3), (RX3, TX3, 3), (RX5, TX5, 4), (RX6, TX6, 4), (RX7, TX7, 12), (RX8, TX8, 39)]
end
section
theorem dX0_init_0 : decode cX0_init 0 = .ok (.aload_n 0, 1) := by decide +kernel
theorem dX0_init_1 : decode cX0_init 1 = .ok (.invokespecial 3, 3) := by decide +kernel
theorem dX0_init_4 : decode cX0_init 4 = .ok (.aload_n 0, 1) := by decide +kernel
theorem dX0_init_5 : decode cX0_init 5 = .ok (.sipush 400, 3) := by decide +kernel
theorem dX0_init_8 : decode cX0_init 8 = .ok (.newarray .int, 2) := by decide +kernel
theorem dX0_init_10 : decode cX0_init 10 = .ok (.putfield 11, 3) := by decide +kernel
theorem dX0_init_13 : decode cX0_init 13 = .ok (.aload_n 0, 1) := by decide +kernel
theorem dX0_init_14 : decode cX0_init 14 = .ok (.sipush 400, 3) := by decide +kernel
theorem dX0_init_17 : decode cX0_init 17 = .ok (.newarray .int, 2) := by decide +kernel
theorem dX0_init_19 : decode cX0_init 19 = .ok (.putfield 15, 3) := by decide +kernel
theorem dX0_init_22 : decode cX0_init 22 = .ok (.aload_n 0, 1) := by decide +kernel
theorem dX0_init_23 : decode cX0_init 23 = .ok (.iconst 0, 1) := by decide +kernel
theorem dX0_init_24 : decode cX0_init 24 = .ok (.putfield 18, 3) := by decide +kernel
theorem dX0_init_27 : decode cX0_init 27 = .ok (.aload_n 0, 1) := by decide +kernel
theorem dX0_init_28 : decode cX0_init 28 = .ok (.iconst 0, 1) := by decide +kernel
theorem dX0_init_29 : decode cX0_init 29 = .ok (.putfield 22, 3) := by decide +kernel
theorem dX0_init_32 : decode cX0_init 32 = .ok (.aload_n 0, 1) := by decide +kernel
theorem dX0_init_33 : decode cX0_init 33 = .ok (.iconst 0, 1) := by decide +kernel
theorem dX0_init_34 : decode cX0_init 34 = .ok (.putfield 26, 3) := by decide +kernel
theorem dX0_init_37 : decode cX0_init 37 = .ok (.aload_n 0, 1) := by decide +kernel
theorem dX0_init_38 : decode cX0_init 38 = .ok (.iconst 0, 1) := by decide +kernel
theorem dX0_init_39 : decode cX0_init 39 = .ok (.putfield 29, 3) := by decide +kernel
theorem dX0_init_42 : decode cX0_init 42 = .ok (.aload_n 0, 1) := by decide +kernel
theorem dX0_init_43 : decode cX0_init 43 = .ok (.sipush 200, 3) := by decide +kernel
theorem dX0_init_46 : decode cX0_init 46 = .ok (.newarray .int, 2) := by decide +kernel
theorem dX0_init_48 : decode cX0_init 48 = .ok (.putfield 32, 3) := by decide +kernel
theorem dX0_init_51 : decode cX0_init 51 = .ok (.aload_n 0, 1) := by decide +kernel
theorem dX0_init_52 : decode cX0_init 52 = .ok (.sipush 200, 3) := by decide +kernel
theorem dX0_init_55 : decode cX0_init 55 = .ok (.newarray .int, 2) := by decide +kernel
theorem dX0_init_57 : decode cX0_init 57 = .ok (.putfield 35, 3) := by decide +kernel
theorem dX0_init_60 : decode cX0_init 60 = .ok (.aload_n 0, 1) := by decide +kernel
theorem dX0_init_61 : decode cX0_init 61 = .ok (.sipush 200, 3) := by decide +kernel
theorem dX0_init_64 : decode cX0_init 64 = .ok (.newarray .int, 2) := by decide +kernel
theorem dX0_init_66 : decode cX0_init 66 = .ok (.putfield 38, 3) := by decide +kernel
theorem dX0_init_69 : decode cX0_init 69 = .ok (.aload_n 0, 1) := by decide +kernel
theorem dX0_init_70 : decode cX0_init 70 = .ok (.sipush 200, 3) := by decide +kernel
theorem dX0_init_73 : decode cX0_init 73 = .ok (.newarray .int, 2) := by decide +kernel
theorem dX0_init_75 : decode cX0_init 75 = .ok (.putfield 41, 3) := by decide +kernel
theorem dX0_init_78 : decode cX0_init 78 = .ok (.aload_n 0, 1) := by decide +kernel
theorem dX0_init_79 : decode cX0_init 79 = .ok (.iconst 0, 1) := by decide +kernel
theorem dX0_init_80 : decode cX0_init 80 = .ok (.putfield 44, 3) := by decide +kernel
theorem dX0_init_83 : decode cX0_init 83 = .ok (.aload_n 0, 1) := by decide +kernel
theorem dX0_init_84 : decode cX0_init 84 = .ok (.iconst 0, 1) := by decide +kernel
theorem dX0_init_85 : decode cX0_init 85 = .ok (.putfield 47, 3) := by decide +kernel
theorem dX0_init_88 : decode cX0_init 88 = .ok (.return_, 1) := by decide +kernel
theorem dX0_write_0 : decode cX0_write 0 = .ok (.aload_n 0, 1) := by decide +kernel
theorem dX0_write_1 : decode cX0_write 1 = .ok (.iconst 0, 1) := by decide +kernel
theorem dX0_write_2 : decode cX0_write 2 = .ok (.putfield 18, 3) := by decide +kernel
theorem dX0_write_5 : decode cX0_write 5 = .ok (.aload_n 0, 1) := by decide +kernel
theorem dX0_write_6 : decode cX0_write 6 = .ok (.iconst 0, 1) := by decide +kernel
theorem dX0_write_7 : decode cX0_write 7 = .ok (.putfield 22, 3) := by decide +kernel
theorem dX0_write_10 : decode cX0_write 10 = .ok (.aload_n 0, 1) := by decide +kernel
theorem dX0_write_11 : decode cX0_write 11 = .ok (.iconst 0, 1) := by decide +kernel
theorem dX0_write_12 : decode cX0_write 12 = .ok (.putfield 26, 3) := by decide +kernel
theorem dX0_write_15 : decode cX0_write 15 = .ok (.aload_n 0, 1) := by decide +kernel
theorem dX0_write_16 : decode cX0_write 16 = .ok (.iconst 0, 1) := by decide +kernel
theorem dX0_write_17 : decode cX0_write 17 = .ok (.putfield 29, 3) := by decide +kernel
theorem dX0_write_20 : decode cX0_write 20 = .ok (.iconst 0, 1) := by decide +kernel
theorem dX0_write_21 : decode cX0_write 21 = .ok (.istore_n 2, 1) := by decide +kernel
theorem dX0_write_22 : decode cX0_write 22 = .ok (.iconst 0, 1) := by decide +kernel
theorem dX0_write_23 : decode cX0_write 23 = .ok (.istore_n 3, 1) := by decide +kernel
theorem dX0_write_24 : decode cX0_write 24 = .ok (.iload_n 3, 1) := by decide +kernel
theorem dX0_write_25 : decode cX0_write 25 = .ok (.aload_n 1, 1) := by decide +kernel
theorem dX0_write_26 : decode cX0_write 26 = .ok (.getfield 50, 3) := by decide +kernel
theorem dX0_write_29 : decode cX0_write 29 = .ok (.if_icmp .ge 69, 3) := by decide +kernel
theorem dX0_write_32 : decode cX0_write 32 = .ok (.iload_n 2, 1) := by decide +kernel
theorem dX0_write_33 : decode cX0_write 33 = .ok (.sipush 200, 3) := by decide +kernel
theorem dX0_write_36 : decode cX0_write 36 = .ok (.if_icmp .ge 62, 3) := by decide +kernel
theorem dX0_write_39 : decode cX0_write 39 = .ok (.aload_n 1, 1) := by decide +kernel
theorem dX0_write_40 : decode cX0_write 40 = .ok (.iload_n 3, 1) := by decide +kernel
theorem dX0_write_41 : decode cX0_write 41 = .ok (.invokevirtual 53, 3) := by decide +kernel
theorem dX0_write_44 : decode cX0_write 44 = .ok (.istore 4, 2) := by decide +kernel
theorem dX0_write_46 : decode cX0_write 46 = .ok (.iload 4, 2) := by decide +kernel
theorem dX0_write_48 : decode cX0_write 48 = .ok (.invokestatic 57, 3) := by decide +kernel
theorem dX0_write_51 : decode cX0_write 51 = .ok (.ifCond .le 24, 3) := by decide +kernel
theorem dX0_write_54 : decode cX0_write 54 = .ok (.aload_n 0, 1) := by decide +kernel
theorem dX0_write_55 : decode cX0_write 55 = .ok (.getfield 32, 3) := by decide +kernel
theorem dX0_write_58 : decode cX0_write 58 = .ok (.iload_n 2, 1) := by decide +kernel
theorem dX0_write_59 : decode cX0_write 59 = .ok (.iload 4, 2) := by decide +kernel
theorem dX0_write_61 : decode cX0_write 61 = .ok (.iastore, 1) := by decide +kernel
theorem dX0_write_62 : decode cX0_write 62 = .ok (.aload_n 0, 1) := by decide +kernel
theorem dX0_write_63 : decode cX0_write 63 = .ok (.getfield 35, 3) := by decide +kernel
theorem dX0_write_66 : decode cX0_write 66 = .ok (.iload_n 2, 1) := by decide +kernel
theorem dX0_write_67 : decode cX0_write 67 = .ok (.iconst 0, 1) := by decide +kernel
theorem dX0_write_68 : decode cX0_write 68 = .ok (.iastore, 1) := by decide +kernel
theorem dX0_write_69 : decode cX0_write 69 = .ok (.iinc 2 1, 3) := by decide +kernel
theorem dX0_write_72 : decode cX0_write 72 = .ok (.goto 20, 3) := by decide +kernel
theorem dX0_write_75 : decode cX0_write 75 = .ok (.aload_n 0, 1) := by decide +kernel
theorem dX0_write_76 : decode cX0_write 76 = .ok (.iload 4, 2) := by decide +kernel
theorem dX0_write_78 : decode cX0_write 78 = .ok (.aload_n 1, 1) := by decide +kernel
theorem dX0_write_79 : decode cX0_write 79 = .ok (.iload_n 3, 1) := by decide +kernel
theorem dX0_write_80 : decode cX0_write 80 = .ok (.invokevirtual 60, 3) := by decide +kernel
theorem dX0_write_83 : decode cX0_write 83 = .ok (.invokevirtual 63, 3) := by decide +kernel
theorem dX0_write_86 : decode cX0_write 86 = .ok (.aload_n 0, 1) := by decide +kernel
theorem dX0_write_87 : decode cX0_write 87 = .ok (.iload_n 2, 1) := by decide +kernel
theorem dX0_write_88 : decode cX0_write 88 = .ok (.invokevirtual 67, 3) := by decide +kernel
theorem dX0_write_91 : decode cX0_write 91 = .ok (.istore_n 2, 1) := by decide +kernel
theorem dX0_write_92 : decode cX0_write 92 = .ok (.iinc 3 1, 3) := by decide +kernel
theorem dX0_write_95 : decode cX0_write 95 = .ok (.goto (-71), 3) := by decide +kernel
theorem dX0_write_98 : decode cX0_write 98 = .ok (.return_, 1) := by decide +kernel
theorem dX0_add_0 : decode cX0_add 0 = .ok (.aload_n 0, 1) := by decide +kernel
theorem dX0_add_1 : decode cX0_add 1 = .ok (.getfield 18, 3) := by decide +kernel
theorem dX0_add_4 : decode cX0_add 4 = .ok (.ifCond .lt 13, 3) := by decide +kernel
theorem dX0_add_7 : decode cX0_add 7 = .ok (.aload_n 0, 1) := by decide +kernel
theorem dX0_add_8 : decode cX0_add 8 = .ok (.getfield 18, 3) := by decide +kernel
theorem dX0_add_11 : decode cX0_add 11 = .ok (.sipush 400, 3) := by decide +kernel
theorem dX0_add_14 : decode cX0_add 14 = .ok (.if_icmp .lt 4, 3) := by decide +kernel
theorem dX0_add_17 : decode cX0_add 17 = .ok (.return_, 1) := by decide +kernel
theorem dX0_add_18 : decode cX0_add 18 = .ok (.aload_n 0, 1) := by decide +kernel
theorem dX0_add_19 : decode cX0_add 19 = .ok (.getfield 11, 3) := by decide +kernel
theorem dX0_add_22 : decode cX0_add 22 = .ok (.aload_n 0, 1) := by decide +kernel
theorem dX0_add_23 : decode cX0_add 23 = .ok (.getfield 18, 3) := by decide +kernel
theorem dX0_add_26 : decode cX0_add 26 = .ok (.iload_n 1, 1) := by decide +kernel
theorem dX0_add_27 : decode cX0_add 27 = .ok (.iastore, 1) := by decide +kernel
theorem dX0_add_28 : decode cX0_add 28 = .ok (.aload_n 0, 1) := by decide +kernel
theorem dX0_add_29 : decode cX0_add 29 = .ok (.getfield 15, 3) := by decide +kernel
theorem dX0_add_32 : decode cX0_add 32 = .ok (.aload_n 0, 1) := by decide +kernel
theorem dX0_add_33 : decode cX0_add 33 = .ok (.getfield 18, 3) := by decide +kernel
theorem dX0_add_36 : decode cX0_add 36 = .ok (.iload_n 2, 1) := by decide +kernel
theorem dX0_add_37 : decode cX0_add 37 = .ok (.iastore, 1) := by decide +kernel
theorem dX0_add_38 : decode cX0_add 38 = .ok (.aload_n 0, 1) := by decide +kernel
theorem dX0_add_39 : decode cX0_add 39 = .ok (.dup, 1) := by decide +kernel
theorem dX0_add_40 : decode cX0_add 40 = .ok (.getfield 18, 3) := by decide +kernel
theorem dX0_add_43 : decode cX0_add 43 = .ok (.iconst 1, 1) := by decide +kernel
theorem dX0_add_44 : decode cX0_add 44 = .ok (.iadd, 1) := by decide +kernel
theorem dX0_add_45 : decode cX0_add 45 = .ok (.putfield 18, 3) := by decide +kernel
theorem dX0_add_48 : decode cX0_add 48 = .ok (.aload_n 0, 1) := by decide +kernel
theorem dX0_add_49 : decode cX0_add 49 = .ok (.aload_n 0, 1) := by decide +kernel
theorem dX0_add_50 : decode cX0_add 50 = .ok (.getfield 22, 3) := by decide +kernel
theorem dX0_add_53 : decode cX0_add 53 = .ok (.ifCond .ne 8, 3) := by decide +kernel
theorem dX0_add_56 : decode cX0_add 56 = .ok (.iload_n 1, 1) := by decide +kernel
theorem dX0_add_57 : decode cX0_add 57 = .ok (.iconst 1, 1) := by decide +kernel
theorem dX0_add_58 : decode cX0_add 58 = .ok (.if_icmp .ne 7, 3) := by decide +kernel
theorem dX0_add_61 : decode cX0_add 61 = .ok (.iconst 1, 1) := by decide +kernel
theorem dX0_add_62 : decode cX0_add 62 = .ok (.goto 4, 3) := by decide +kernel
theorem dX0_add_65 : decode cX0_add 65 = .ok (.iconst 0, 1) := by decide +kernel
theorem dX0_add_66 : decode cX0_add 66 = .ok (.putfield 22, 3) := by decide +kernel
theorem dX0_add_69 : decode cX0_add 69 = .ok (.aload_n 0, 1) := by decide +kernel
theorem dX0_add_70 : decode cX0_add 70 = .ok (.aload_n 0, 1) := by decide +kernel
theorem dX0_add_71 : decode cX0_add 71 = .ok (.getfield 26, 3) := by decide +kernel
theorem dX0_add_74 : decode cX0_add 74 = .ok (.ifCond .ne 8, 3) := by decide +kernel
theorem dX0_add_77 : decode cX0_add 77 = .ok (.iload_n 1, 1) := by decide +kernel
theorem dX0_add_78 : decode cX0_add 78 = .ok (.iconst 2, 1) := by decide +kernel
theorem dX0_add_79 : decode cX0_add 79 = .ok (.if_icmp .ne 7, 3) := by decide +kernel
theorem dX0_add_82 : decode cX0_add 82 = .ok (.iconst 1, 1) := by decide +kernel
theorem dX0_add_83 : decode cX0_add 83 = .ok (.goto 4, 3) := by decide +kernel
theorem dX0_add_86 : decode cX0_add 86 = .ok (.iconst 0, 1) := by decide +kernel
theorem dX0_add_87 : decode cX0_add 87 = .ok (.putfield 26, 3) := by decide +kernel
theorem dX0_add_90 : decode cX0_add 90 = .ok (.aload_n 0, 1) := by decide +kernel
theorem dX0_add_91 : decode cX0_add 91 = .ok (.aload_n 0, 1) := by decide +kernel
theorem dX0_add_92 : decode cX0_add 92 = .ok (.getfield 29, 3) := by decide +kernel
theorem dX0_add_95 : decode cX0_add 95 = .ok (.ifCond .ne 9, 3) := by decide +kernel
theorem dX0_add_98 : decode cX0_add 98 = .ok (.iload_n 1, 1) := by decide +kernel
theorem dX0_add_99 : decode cX0_add 99 = .ok (.bipush 7, 2) := by decide +kernel
theorem dX0_add_101 : decode cX0_add 101 = .ok (.if_icmp .ne 7, 3) := by decide +kernel
theorem dX0_add_104 : decode cX0_add 104 = .ok (.iconst 1, 1) := by decide +kernel
theorem dX0_add_105 : decode cX0_add 105 = .ok (.goto 4, 3) := by decide +kernel
theorem dX0_add_108 : decode cX0_add 108 = .ok (.iconst 0, 1) := by decide +kernel
theorem dX0_add_109 : decode cX0_add 109 = .ok (.putfield 29, 3) := by decide +kernel
theorem dX0_add_112 : decode cX0_add 112 = .ok (.return_, 1) := by decide +kernel
theorem dX0_endParts_0 : decode cX0_endParts 0 = .ok (.iload_n 1, 1) := by decide +kernel
theorem dX0_endParts_1 : decode cX0_endParts 1 = .ok (.iconst 1, 1) := by decide +kernel
theorem dX0_endParts_2 : decode cX0_endParts 2 = .ok (.isub, 1) := by decide +kernel
theorem dX0_endParts_3 : decode cX0_endParts 3 = .ok (.istore_n 2, 1) := by decide +kernel
theorem dX0_endParts_4 : decode cX0_endParts 4 = .ok (.iload_n 2, 1) := by decide +kernel
theorem dX0_endParts_5 : decode cX0_endParts 5 = .ok (.ifCond .lt 86, 3) := by decide +kernel
theorem dX0_endParts_8 : decode cX0_endParts 8 = .ok (.iload_n 2, 1) := by decide +kernel
theorem dX0_endParts_9 : decode cX0_endParts 9 = .ok (.sipush 200, 3) := by decide +kernel
theorem dX0_endParts_12 : decode cX0_endParts 12 = .ok (.if_icmp .ge 79, 3) := by decide +kernel
theorem dX0_endParts_15 : decode cX0_endParts 15 = .ok (.aload_n 0, 1) := by decide +kernel
theorem dX0_endParts_16 : decode cX0_endParts 16 = .ok (.getfield 35, 3) := by decide +kernel
theorem dX0_endParts_19 : decode cX0_endParts 19 = .ok (.iload_n 2, 1) := by decide +kernel
theorem dX0_endParts_20 : decode cX0_endParts 20 = .ok (.dup2, 1) := by decide +kernel
theorem dX0_endParts_21 : decode cX0_endParts 21 = .ok (.iaload, 1) := by decide +kernel
theorem dX0_endParts_22 : decode cX0_endParts 22 = .ok (.iconst 1, 1) := by decide +kernel
theorem dX0_endParts_23 : decode cX0_endParts 23 = .ok (.iadd, 1) := by decide +kernel
theorem dX0_endParts_24 : decode cX0_endParts 24 = .ok (.iastore, 1) := by decide +kernel
theorem dX0_endParts_25 : decode cX0_endParts 25 = .ok (.aload_n 0, 1) := by decide +kernel
theorem dX0_endParts_26 : decode cX0_endParts 26 = .ok (.getfield 32, 3) := by decide +kernel
theorem dX0_endParts_29 : decode cX0_endParts 29 = .ok (.iload_n 2, 1) := by decide +kernel
theorem dX0_endParts_30 : decode cX0_endParts 30 = .ok (.iaload, 1) := by decide +kernel
theorem dX0_endParts_31 : decode cX0_endParts 31 = .ok (.bipush 8, 2) := by decide +kernel
theorem dX0_endParts_33 : decode cX0_endParts 33 = .ok (.if_icmp .ne 8, 3) := by decide +kernel
theorem dX0_endParts_36 : decode cX0_endParts 36 = .ok (.aload_n 0, 1) := by decide +kernel
theorem dX0_endParts_37 : decode cX0_endParts 37 = .ok (.iload_n 2, 1) := by decide +kernel
theorem dX0_endParts_38 : decode cX0_endParts 38 = .ok (.invokevirtual 70, 3) := by decide +kernel
theorem dX0_endParts_41 : decode cX0_endParts 41 = .ok (.aload_n 0, 1) := by decide +kernel
theorem dX0_endParts_42 : decode cX0_endParts 42 = .ok (.getfield 35, 3) := by decide +kernel
theorem dX0_endParts_45 : decode cX0_endParts 45 = .ok (.iload_n 2, 1) := by decide +kernel
theorem dX0_endParts_46 : decode cX0_endParts 46 = .ok (.iaload, 1) := by decide +kernel
theorem dX0_endParts_47 : decode cX0_endParts 47 = .ok (.aload_n 0, 1) := by decide +kernel
theorem dX0_endParts_48 : decode cX0_endParts 48 = .ok (.getfield 32, 3) := by decide +kernel
theorem dX0_endParts_51 : decode cX0_endParts 51 = .ok (.iload_n 2, 1) := by decide +kernel
theorem dX0_endParts_52 : decode cX0_endParts 52 = .ok (.iaload, 1) := by decide +kernel
theorem dX0_endParts_53 : decode cX0_endParts 53 = .ok (.invokestatic 57, 3) := by decide +kernel
theorem dX0_endParts_56 : decode cX0_endParts 56 = .ok (.if_icmp .ge 7, 3) := by decide +kernel
theorem dX0_endParts_59 : decode cX0_endParts 59 = .ok (.iload_n 2, 1) := by decide +kernel
theorem dX0_endParts_60 : decode cX0_endParts 60 = .ok (.iconst 1, 1) := by decide +kernel
theorem dX0_endParts_61 : decode cX0_endParts 61 = .ok (.iadd, 1) := by decide +kernel
theorem dX0_endParts_62 : decode cX0_endParts 62 = .ok (.ireturn, 1) := by decide +kernel
theorem dX0_endParts_63 : decode cX0_endParts 63 = .ok (.aload_n 0, 1) := by decide +kernel
theorem dX0_endParts_64 : decode cX0_endParts 64 = .ok (.getfield 32, 3) := by decide +kernel
theorem dX0_endParts_67 : decode cX0_endParts 67 = .ok (.iload_n 2, 1) := by decide +kernel
theorem dX0_endParts_68 : decode cX0_endParts 68 = .ok (.iaload, 1) := by decide +kernel
theorem dX0_endParts_69 : decode cX0_endParts 69 = .ok (.bipush 8, 2) := by decide +kernel
theorem dX0_endParts_71 : decode cX0_endParts 71 = .ok (.if_icmp .eq 14, 3) := by decide +kernel
theorem dX0_endParts_74 : decode cX0_endParts 74 = .ok (.aload_n 0, 1) := by decide +kernel
theorem dX0_endParts_75 : decode cX0_endParts 75 = .ok (.aload_n 0, 1) := by decide +kernel
theorem dX0_endParts_76 : decode cX0_endParts 76 = .ok (.getfield 32, 3) := by decide +kernel
theorem dX0_endParts_79 : decode cX0_endParts 79 = .ok (.iload_n 2, 1) := by decide +kernel
theorem dX0_endParts_80 : decode cX0_endParts 80 = .ok (.iaload, 1) := by decide +kernel
theorem dX0_endParts_81 : decode cX0_endParts 81 = .ok (.iconst 0, 1) := by decide +kernel
theorem dX0_endParts_82 : decode cX0_endParts 82 = .ok (.invokevirtual 63, 3) := by decide +kernel
theorem dX0_endParts_85 : decode cX0_endParts 85 = .ok (.iinc 2 (-1), 3) := by decide +kernel
theorem dX0_endParts_88 : decode cX0_endParts 88 = .ok (.goto (-84), 3) := by decide +kernel
theorem dX0_endParts_91 : decode cX0_endParts 91 = .ok (.iconst 0, 1) := by decide +kernel
theorem dX0_endParts_92 : decode cX0_endParts 92 = .ok (.ireturn, 1) := by decide +kernel
theorem dX0_jumpBehindPart_0 : decode cX0_jumpBehindPart 0 = .ok (.aload_n 0, 1) := by decide +kernel
theorem dX0_jumpBehindPart_1 : decode cX0_jumpBehindPart 1 = .ok (.getfield 35, 3) := by decide +kernel
theorem dX0_jumpBehindPart_4 : decode cX0_jumpBehindPart 4 = .ok (.iload_n 1, 1) := by decide +kernel
theorem dX0_jumpBehindPart_5 : decode cX0_jumpBehindPart 5 = .ok (.iaload, 1) := by decide +kernel
theorem dX0_jumpBehindPart_6 : decode cX0_jumpBehindPart 6 = .ok (.iconst 1, 1) := by decide +kernel
theorem dX0_jumpBehindPart_7 : decode cX0_jumpBehindPart 7 = .ok (.if_icmp .ne 23, 3) := by decide +kernel
theorem dX0_jumpBehindPart_10 : decode cX0_jumpBehindPart 10 = .ok (.aload_n 0, 1) := by decide +kernel
theorem dX0_jumpBehindPart_11 : decode cX0_jumpBehindPart 11 = .ok (.getfield 38, 3) := by decide +kernel
theorem dX0_jumpBehindPart_14 : decode cX0_jumpBehindPart 14 = .ok (.iload_n 1, 1) := by decide +kernel
theorem dX0_jumpBehindPart_15 : decode cX0_jumpBehindPart 15 = .ok (.aload_n 0, 1) := by decide +kernel
theorem dX0_jumpBehindPart_16 : decode cX0_jumpBehindPart 16 = .ok (.getfield 18, 3) := by decide +kernel
theorem dX0_jumpBehindPart_19 : decode cX0_jumpBehindPart 19 = .ok (.iastore, 1) := by decide +kernel
theorem dX0_jumpBehindPart_20 : decode cX0_jumpBehindPart 20 = .ok (.aload_n 0, 1) := by decide +kernel
theorem dX0_jumpBehindPart_21 : decode cX0_jumpBehindPart 21 = .ok (.bipush 9, 2) := by decide +kernel
theorem dX0_jumpBehindPart_23 : decode cX0_jumpBehindPart 23 = .ok (.iconst 0, 1) := by decide +kernel
theorem dX0_jumpBehindPart_24 : decode cX0_jumpBehindPart 24 = .ok (.invokevirtual 63, 3) := by decide +kernel
theorem dX0_jumpBehindPart_27 : decode cX0_jumpBehindPart 27 = .ok (.goto 63, 3) := by decide +kernel
theorem dX0_jumpBehindPart_30 : decode cX0_jumpBehindPart 30 = .ok (.aload_n 0, 1) := by decide +kernel
theorem dX0_jumpBehindPart_31 : decode cX0_jumpBehindPart 31 = .ok (.getfield 35, 3) := by decide +kernel
theorem dX0_jumpBehindPart_34 : decode cX0_jumpBehindPart 34 = .ok (.iload_n 1, 1) := by decide +kernel
theorem dX0_jumpBehindPart_35 : decode cX0_jumpBehindPart 35 = .ok (.iaload, 1) := by decide +kernel
theorem dX0_jumpBehindPart_36 : decode cX0_jumpBehindPart 36 = .ok (.iconst 2, 1) := by decide +kernel
theorem dX0_jumpBehindPart_37 : decode cX0_jumpBehindPart 37 = .ok (.if_icmp .ne 39, 3) := by decide +kernel
theorem dX0_jumpBehindPart_40 : decode cX0_jumpBehindPart 40 = .ok (.aload_n 0, 1) := by decide +kernel
theorem dX0_jumpBehindPart_41 : decode cX0_jumpBehindPart 41 = .ok (.aload_n 0, 1) := by decide +kernel
theorem dX0_jumpBehindPart_42 : decode cX0_jumpBehindPart 42 = .ok (.getfield 38, 3) := by decide +kernel
theorem dX0_jumpBehindPart_45 : decode cX0_jumpBehindPart 45 = .ok (.iload_n 1, 1) := by decide +kernel
theorem dX0_jumpBehindPart_46 : decode cX0_jumpBehindPart 46 = .ok (.iaload, 1) := by decide +kernel
theorem dX0_jumpBehindPart_47 : decode cX0_jumpBehindPart 47 = .ok (.aload_n 0, 1) := by decide +kernel
theorem dX0_jumpBehindPart_48 : decode cX0_jumpBehindPart 48 = .ok (.getfield 18, 3) := by decide +kernel
theorem dX0_jumpBehindPart_51 : decode cX0_jumpBehindPart 51 = .ok (.iconst 1, 1) := by decide +kernel
theorem dX0_jumpBehindPart_52 : decode cX0_jumpBehindPart 52 = .ok (.iadd, 1) := by decide +kernel
theorem dX0_jumpBehindPart_53 : decode cX0_jumpBehindPart 53 = .ok (.invokevirtual 74, 3) := by decide +kernel
theorem dX0_jumpBehindPart_56 : decode cX0_jumpBehindPart 56 = .ok (.aload_n 0, 1) := by decide +kernel
theorem dX0_jumpBehindPart_57 : decode cX0_jumpBehindPart 57 = .ok (.getfield 38, 3) := by decide +kernel
theorem dX0_jumpBehindPart_60 : decode cX0_jumpBehindPart 60 = .ok (.iload_n 1, 1) := by decide +kernel
theorem dX0_jumpBehindPart_61 : decode cX0_jumpBehindPart 61 = .ok (.aload_n 0, 1) := by decide +kernel
theorem dX0_jumpBehindPart_62 : decode cX0_jumpBehindPart 62 = .ok (.getfield 18, 3) := by decide +kernel
theorem dX0_jumpBehindPart_65 : decode cX0_jumpBehindPart 65 = .ok (.iastore, 1) := by decide +kernel
theorem dX0_jumpBehindPart_66 : decode cX0_jumpBehindPart 66 = .ok (.aload_n 0, 1) := by decide +kernel
theorem dX0_jumpBehindPart_67 : decode cX0_jumpBehindPart 67 = .ok (.bipush 10, 2) := by decide +kernel
theorem dX0_jumpBehindPart_69 : decode cX0_jumpBehindPart 69 = .ok (.iconst 0, 1) := by decide +kernel
theorem dX0_jumpBehindPart_70 : decode cX0_jumpBehindPart 70 = .ok (.invokevirtual 63, 3) := by decide +kernel
theorem dX0_jumpBehindPart_73 : decode cX0_jumpBehindPart 73 = .ok (.goto 17, 3) := by decide +kernel
theorem dX0_jumpBehindPart_76 : decode cX0_jumpBehindPart 76 = .ok (.aload_n 0, 1) := by decide +kernel
theorem dX0_jumpBehindPart_77 : decode cX0_jumpBehindPart 77 = .ok (.aload_n 0, 1) := by decide +kernel
theorem dX0_jumpBehindPart_78 : decode cX0_jumpBehindPart 78 = .ok (.getfield 38, 3) := by decide +kernel
theorem dX0_jumpBehindPart_81 : decode cX0_jumpBehindPart 81 = .ok (.iload_n 1, 1) := by decide +kernel
theorem dX0_jumpBehindPart_82 : decode cX0_jumpBehindPart 82 = .ok (.iaload, 1) := by decide +kernel
theorem dX0_jumpBehindPart_83 : decode cX0_jumpBehindPart 83 = .ok (.aload_n 0, 1) := by decide +kernel
theorem dX0_jumpBehindPart_84 : decode cX0_jumpBehindPart 84 = .ok (.getfield 18, 3) := by decide +kernel
theorem dX0_jumpBehindPart_87 : decode cX0_jumpBehindPart 87 = .ok (.invokevirtual 74, 3) := by decide +kernel
theorem dX0_jumpBehindPart_90 : decode cX0_jumpBehindPart 90 = .ok (.return_, 1) := by decide +kernel
theorem dX0_aim_0 : decode cX0_aim 0 = .ok (.iload_n 1, 1) := by decide +kernel
theorem dX0_aim_1 : decode cX0_aim 1 = .ok (.ifCond .lt 18, 3) := by decide +kernel
theorem dX0_aim_4 : decode cX0_aim 4 = .ok (.iload_n 1, 1) := by decide +kernel
theorem dX0_aim_5 : decode cX0_aim 5 = .ok (.aload_n 0, 1) := by decide +kernel
theorem dX0_aim_6 : decode cX0_aim 6 = .ok (.getfield 18, 3) := by decide +kernel
theorem dX0_aim_9 : decode cX0_aim 9 = .ok (.if_icmp .ge 10, 3) := by decide +kernel
theorem dX0_aim_12 : decode cX0_aim 12 = .ok (.aload_n 0, 1) := by decide +kernel
theorem dX0_aim_13 : decode cX0_aim 13 = .ok (.getfield 15, 3) := by decide +kernel
theorem dX0_aim_16 : decode cX0_aim 16 = .ok (.iload_n 1, 1) := by decide +kernel
theorem dX0_aim_17 : decode cX0_aim 17 = .ok (.iload_n 2, 1) := by decide +kernel
theorem dX0_aim_18 : decode cX0_aim 18 = .ok (.iastore, 1) := by decide +kernel
theorem dX0_aim_19 : decode cX0_aim 19 = .ok (.return_, 1) := by decide +kernel
theorem dX0_run_0 : decode cX0_run 0 = .ok (.iconst 0, 1) := by decide +kernel
theorem dX0_run_1 : decode cX0_run 1 = .ok (.istore_n 3, 1) := by decide +kernel
theorem dX0_run_2 : decode cX0_run 2 = .ok (.iconst 0, 1) := by decide +kernel
theorem dX0_run_3 : decode cX0_run 3 = .ok (.istore 4, 2) := by decide +kernel
theorem dX0_run_5 : decode cX0_run 5 = .ok (.iconst 1, 1) := by decide +kernel
theorem dX0_run_6 : decode cX0_run 6 = .ok (.istore 5, 2) := by decide +kernel
theorem dX0_run_8 : decode cX0_run 8 = .ok (.iload 5, 2) := by decide +kernel
theorem dX0_run_10 : decode cX0_run 10 = .ok (.aload_n 0, 1) := by decide +kernel
theorem dX0_run_11 : decode cX0_run 11 = .ok (.getfield 18, 3) := by decide +kernel
theorem dX0_run_14 : decode cX0_run 14 = .ok (.if_icmp .gt 236, 3) := by decide +kernel
theorem dX0_run_17 : decode cX0_run 17 = .ok (.iload 4, 2) := by decide +kernel
theorem dX0_run_19 : decode cX0_run 19 = .ok (.aload_n 0, 1) := by decide +kernel
theorem dX0_run_20 : decode cX0_run 20 = .ok (.getfield 18, 3) := by decide +kernel
theorem dX0_run_23 : decode cX0_run 23 = .ok (.if_icmp .ge 227, 3) := by decide +kernel
theorem dX0_run_26 : decode cX0_run 26 = .ok (.aload_n 0, 1) := by decide +kernel
theorem dX0_run_27 : decode cX0_run 27 = .ok (.iload 5, 2) := by decide +kernel
theorem dX0_run_29 : decode cX0_run 29 = .ok (.putfield 47, 3) := by decide +kernel
theorem dX0_run_32 : decode cX0_run 32 = .ok (.aload_n 0, 1) := by decide +kernel
theorem dX0_run_33 : decode cX0_run 33 = .ok (.getfield 11, 3) := by decide +kernel
theorem dX0_run_36 : decode cX0_run 36 = .ok (.iload 4, 2) := by decide +kernel
theorem dX0_run_38 : decode cX0_run 38 = .ok (.iaload, 1) := by decide +kernel
theorem dX0_run_39 : decode cX0_run 39 = .ok (.istore 6, 2) := by decide +kernel
theorem dX0_run_41 : decode cX0_run 41 = .ok (.aload_n 0, 1) := by decide +kernel
theorem dX0_run_42 : decode cX0_run 42 = .ok (.getfield 15, 3) := by decide +kernel
theorem dX0_run_45 : decode cX0_run 45 = .ok (.iload 4, 2) := by decide +kernel
theorem dX0_run_47 : decode cX0_run 47 = .ok (.iaload, 1) := by decide +kernel
theorem dX0_run_48 : decode cX0_run 48 = .ok (.istore 7, 2) := by decide +kernel
theorem dX0_run_50 : decode cX0_run 50 = .ok (.iinc 4 1, 3) := by decide +kernel
theorem dX0_run_53 : decode cX0_run 53 = .ok (.iload 6, 2) := by decide +kernel
theorem dX0_run_55 : decode cX0_run 55 = .ok (.iconst 2, 1) := by decide +kernel
theorem dX0_run_56 : decode cX0_run 56 = .ok (.if_icmp .gt 45, 3) := by decide +kernel
theorem dX0_run_59 : decode cX0_run 59 = .ok (.iload_n 3, 1) := by decide +kernel
theorem dX0_run_60 : decode cX0_run 60 = .ok (.sipush 200, 3) := by decide +kernel
theorem dX0_run_63 : decode cX0_run 63 = .ok (.if_icmp .lt 5, 3) := by decide +kernel
theorem dX0_run_66 : decode cX0_run 66 = .ok (.iconst 0, 1) := by decide +kernel
theorem dX0_run_67 : decode cX0_run 67 = .ok (.ireturn, 1) := by decide +kernel
theorem dX0_run_68 : decode cX0_run 68 = .ok (.aload_n 0, 1) := by decide +kernel
theorem dX0_run_69 : decode cX0_run 69 = .ok (.getfield 41, 3) := by decide +kernel
theorem dX0_run_72 : decode cX0_run 72 = .ok (.iload_n 3, 1) := by decide +kernel
theorem dX0_run_73 : decode cX0_run 73 = .ok (.iload 6, 2) := by decide +kernel
theorem dX0_run_75 : decode cX0_run 75 = .ok (.ifCond .ne 8, 3) := by decide +kernel
theorem dX0_run_78 : decode cX0_run 78 = .ok (.iload 7, 2) := by decide +kernel
theorem dX0_run_80 : decode cX0_run 80 = .ok (.goto 14, 3) := by decide +kernel
theorem dX0_run_83 : decode cX0_run 83 = .ok (.iload 6, 2) := by decide +kernel
theorem dX0_run_85 : decode cX0_run 85 = .ok (.iconst 1, 1) := by decide +kernel
theorem dX0_run_86 : decode cX0_run 86 = .ok (.if_icmp .ne 7, 3) := by decide +kernel
theorem dX0_run_89 : decode cX0_run 89 = .ok (.iload_n 1, 1) := by decide +kernel
theorem dX0_run_90 : decode cX0_run 90 = .ok (.goto 4, 3) := by decide +kernel
theorem dX0_run_93 : decode cX0_run 93 = .ok (.iload_n 2, 1) := by decide +kernel
theorem dX0_run_94 : decode cX0_run 94 = .ok (.iastore, 1) := by decide +kernel
theorem dX0_run_95 : decode cX0_run 95 = .ok (.iinc 3 1, 3) := by decide +kernel
theorem dX0_run_98 : decode cX0_run 98 = .ok (.goto 146, 3) := by decide +kernel
theorem dX0_run_101 : decode cX0_run 101 = .ok (.iload 6, 2) := by decide +kernel
theorem dX0_run_103 : decode cX0_run 103 = .ok (.bipush 10, 2) := by decide +kernel
theorem dX0_run_105 : decode cX0_run 105 = .ok (.if_icmp .ne 15, 3) := by decide +kernel
theorem dX0_run_108 : decode cX0_run 108 = .ok (.iload 4, 2) := by decide +kernel
theorem dX0_run_110 : decode cX0_run 110 = .ok (.iload 7, 2) := by decide +kernel
theorem dX0_run_112 : decode cX0_run 112 = .ok (.invokestatic 77, 3) := by decide +kernel
theorem dX0_run_115 : decode cX0_run 115 = .ok (.istore 4, 2) := by decide +kernel
theorem dX0_run_117 : decode cX0_run 117 = .ok (.goto 127, 3) := by decide +kernel
theorem dX0_run_120 : decode cX0_run 120 = .ok (.iload_n 3, 1) := by decide +kernel
theorem dX0_run_121 : decode cX0_run 121 = .ok (.iconst 1, 1) := by decide +kernel
theorem dX0_run_122 : decode cX0_run 122 = .ok (.if_icmp .ge 5, 3) := by decide +kernel
theorem dX0_run_125 : decode cX0_run 125 = .ok (.iconst 0, 1) := by decide +kernel
theorem dX0_run_126 : decode cX0_run 126 = .ok (.ireturn, 1) := by decide +kernel
theorem dX0_run_127 : decode cX0_run 127 = .ok (.iload 6, 2) := by decide +kernel
theorem dX0_run_129 : decode cX0_run 129 = .ok (.bipush 9, 2) := by decide +kernel
theorem dX0_run_131 : decode cX0_run 131 = .ok (.if_icmp .ne 32, 3) := by decide +kernel
theorem dX0_run_134 : decode cX0_run 134 = .ok (.iinc 3 (-1), 3) := by decide +kernel
theorem dX0_run_137 : decode cX0_run 137 = .ok (.aload_n 0, 1) := by decide +kernel
theorem dX0_run_138 : decode cX0_run 138 = .ok (.getfield 41, 3) := by decide +kernel
theorem dX0_run_141 : decode cX0_run 141 = .ok (.iload_n 3, 1) := by decide +kernel
theorem dX0_run_142 : decode cX0_run 142 = .ok (.iaload, 1) := by decide +kernel
theorem dX0_run_143 : decode cX0_run 143 = .ok (.ifCond .ne 13, 3) := by decide +kernel
theorem dX0_run_146 : decode cX0_run 146 = .ok (.iload 4, 2) := by decide +kernel
theorem dX0_run_148 : decode cX0_run 148 = .ok (.iload 7, 2) := by decide +kernel
theorem dX0_run_150 : decode cX0_run 150 = .ok (.invokestatic 77, 3) := by decide +kernel
theorem dX0_run_153 : decode cX0_run 153 = .ok (.goto 5, 3) := by decide +kernel
theorem dX0_run_156 : decode cX0_run 156 = .ok (.iload 4, 2) := by decide +kernel
theorem dX0_run_158 : decode cX0_run 158 = .ok (.istore 4, 2) := by decide +kernel
theorem dX0_run_160 : decode cX0_run 160 = .ok (.goto 84, 3) := by decide +kernel
theorem dX0_run_163 : decode cX0_run 163 = .ok (.iload 6, 2) := by decide +kernel
theorem dX0_run_165 : decode cX0_run 165 = .ok (.iconst 3, 1) := by decide +kernel
theorem dX0_run_166 : decode cX0_run 166 = .ok (.if_icmp .ne 23, 3) := by decide +kernel
theorem dX0_run_169 : decode cX0_run 169 = .ok (.aload_n 0, 1) := by decide +kernel
theorem dX0_run_170 : decode cX0_run 170 = .ok (.getfield 41, 3) := by decide +kernel
theorem dX0_run_173 : decode cX0_run 173 = .ok (.iload_n 3, 1) := by decide +kernel
theorem dX0_run_174 : decode cX0_run 174 = .ok (.iconst 1, 1) := by decide +kernel
theorem dX0_run_175 : decode cX0_run 175 = .ok (.isub, 1) := by decide +kernel
theorem dX0_run_176 : decode cX0_run 176 = .ok (.aload_n 0, 1) := by decide +kernel
theorem dX0_run_177 : decode cX0_run 177 = .ok (.getfield 41, 3) := by decide +kernel
theorem dX0_run_180 : decode cX0_run 180 = .ok (.iload_n 3, 1) := by decide +kernel
theorem dX0_run_181 : decode cX0_run 181 = .ok (.iconst 1, 1) := by decide +kernel
theorem dX0_run_182 : decode cX0_run 182 = .ok (.isub, 1) := by decide +kernel
theorem dX0_run_183 : decode cX0_run 183 = .ok (.iaload, 1) := by decide +kernel
theorem dX0_run_184 : decode cX0_run 184 = .ok (.ineg, 1) := by decide +kernel
theorem dX0_run_185 : decode cX0_run 185 = .ok (.iastore, 1) := by decide +kernel
theorem dX0_run_186 : decode cX0_run 186 = .ok (.goto 58, 3) := by decide +kernel
theorem dX0_run_189 : decode cX0_run 189 = .ok (.iload_n 3, 1) := by decide +kernel
theorem dX0_run_190 : decode cX0_run 190 = .ok (.iconst 2, 1) := by decide +kernel
theorem dX0_run_191 : decode cX0_run 191 = .ok (.if_icmp .lt 21, 3) := by decide +kernel
theorem dX0_run_194 : decode cX0_run 194 = .ok (.iload 6, 2) := by decide +kernel
theorem dX0_run_196 : decode cX0_run 196 = .ok (.bipush 7, 2) := by decide +kernel
theorem dX0_run_198 : decode cX0_run 198 = .ok (.if_icmp .ne 16, 3) := by decide +kernel
theorem dX0_run_201 : decode cX0_run 201 = .ok (.aload_n 0, 1) := by decide +kernel
theorem dX0_run_202 : decode cX0_run 202 = .ok (.getfield 41, 3) := by decide +kernel
theorem dX0_run_205 : decode cX0_run 205 = .ok (.iload_n 3, 1) := by decide +kernel
theorem dX0_run_206 : decode cX0_run 206 = .ok (.iconst 1, 1) := by decide +kernel
theorem dX0_run_207 : decode cX0_run 207 = .ok (.isub, 1) := by decide +kernel
theorem dX0_run_208 : decode cX0_run 208 = .ok (.iaload, 1) := by decide +kernel
theorem dX0_run_209 : decode cX0_run 209 = .ok (.ifCond .ne 5, 3) := by decide +kernel
theorem dX0_run_212 : decode cX0_run 212 = .ok (.iconst 0, 1) := by decide +kernel
theorem dX0_run_213 : decode cX0_run 213 = .ok (.ireturn, 1) := by decide +kernel
theorem dX0_run_214 : decode cX0_run 214 = .ok (.iinc 3 (-1), 3) := by decide +kernel
theorem dX0_run_217 : decode cX0_run 217 = .ok (.aload_n 0, 1) := by decide +kernel
theorem dX0_run_218 : decode cX0_run 218 = .ok (.getfield 41, 3) := by decide +kernel
theorem dX0_run_221 : decode cX0_run 221 = .ok (.iload_n 3, 1) := by decide +kernel
theorem dX0_run_222 : decode cX0_run 222 = .ok (.iconst 1, 1) := by decide +kernel
theorem dX0_run_223 : decode cX0_run 223 = .ok (.isub, 1) := by decide +kernel
theorem dX0_run_224 : decode cX0_run 224 = .ok (.iload 6, 2) := by decide +kernel
theorem dX0_run_226 : decode cX0_run 226 = .ok (.aload_n 0, 1) := by decide +kernel
theorem dX0_run_227 : decode cX0_run 227 = .ok (.getfield 41, 3) := by decide +kernel
theorem dX0_run_230 : decode cX0_run 230 = .ok (.iload_n 3, 1) := by decide +kernel
theorem dX0_run_231 : decode cX0_run 231 = .ok (.iconst 1, 1) := by decide +kernel
theorem dX0_run_232 : decode cX0_run 232 = .ok (.isub, 1) := by decide +kernel
theorem dX0_run_233 : decode cX0_run 233 = .ok (.iaload, 1) := by decide +kernel
theorem dX0_run_234 : decode cX0_run 234 = .ok (.aload_n 0, 1) := by decide +kernel
theorem dX0_run_235 : decode cX0_run 235 = .ok (.getfield 41, 3) := by decide +kernel
theorem dX0_run_238 : decode cX0_run 238 = .ok (.iload_n 3, 1) := by decide +kernel
theorem dX0_run_239 : decode cX0_run 239 = .ok (.iaload, 1) := by decide +kernel
theorem dX0_run_240 : decode cX0_run 240 = .ok (.invokestatic 83, 3) := by decide +kernel
theorem dX0_run_243 : decode cX0_run 243 = .ok (.iastore, 1) := by decide +kernel
theorem dX0_run_244 : decode cX0_run 244 = .ok (.iinc 5 1, 3) := by decide +kernel
theorem dX0_run_247 : decode cX0_run 247 = .ok (.goto (-239), 3) := by decide +kernel
theorem dX0_run_250 : decode cX0_run 250 = .ok (.aload_n 0, 1) := by decide +kernel
theorem dX0_run_251 : decode cX0_run 251 = .ok (.iload_n 3, 1) := by decide +kernel
theorem dX0_run_252 : decode cX0_run 252 = .ok (.ifCond .le 14, 3) := by decide +kernel
theorem dX0_run_255 : decode cX0_run 255 = .ok (.aload_n 0, 1) := by decide +kernel
theorem dX0_run_256 : decode cX0_run 256 = .ok (.getfield 41, 3) := by decide +kernel
theorem dX0_run_259 : decode cX0_run 259 = .ok (.iload_n 3, 1) := by decide +kernel
theorem dX0_run_260 : decode cX0_run 260 = .ok (.iconst 1, 1) := by decide +kernel
theorem dX0_run_261 : decode cX0_run 261 = .ok (.isub, 1) := by decide +kernel
theorem dX0_run_262 : decode cX0_run 262 = .ok (.iaload, 1) := by decide +kernel
theorem dX0_run_263 : decode cX0_run 263 = .ok (.goto 4, 3) := by decide +kernel
theorem dX0_run_266 : decode cX0_run 266 = .ok (.iconst 0, 1) := by decide +kernel
theorem dX0_run_267 : decode cX0_run 267 = .ok (.putfield 44, 3) := by decide +kernel
theorem dX0_run_270 : decode cX0_run 270 = .ok (.iconst 1, 1) := by decide +kernel
theorem dX0_run_271 : decode cX0_run 271 = .ok (.ireturn, 1) := by decide +kernel
theorem dX0_isNeverFree_0 : decode cX0_isNeverFree 0 = .ok (.aload_n 0, 1) := by decide +kernel
theorem dX0_isNeverFree_1 : decode cX0_isNeverFree 1 = .ok (.getfield 22, 3) := by decide +kernel
theorem dX0_isNeverFree_4 : decode cX0_isNeverFree 4 = .ok (.ifCond .eq 7, 3) := by decide +kernel
theorem dX0_isNeverFree_7 : decode cX0_isNeverFree 7 = .ok (.iload_n 1, 1) := by decide +kernel
theorem dX0_isNeverFree_8 : decode cX0_isNeverFree 8 = .ok (.goto 5, 3) := by decide +kernel
theorem dX0_isNeverFree_11 : decode cX0_isNeverFree 11 = .ok (.iload_n 1, 1) := by decide +kernel
theorem dX0_isNeverFree_12 : decode cX0_isNeverFree 12 = .ok (.ineg, 1) := by decide +kernel
theorem dX0_isNeverFree_13 : decode cX0_isNeverFree 13 = .ok (.istore_n 2, 1) := by decide +kernel
theorem dX0_isNeverFree_14 : decode cX0_isNeverFree 14 = .ok (.aload_n 0, 1) := by decide +kernel
theorem dX0_isNeverFree_15 : decode cX0_isNeverFree 15 = .ok (.getfield 26, 3) := by decide +kernel
theorem dX0_isNeverFree_18 : decode cX0_isNeverFree 18 = .ok (.ifCond .eq 7, 3) := by decide +kernel
theorem dX0_isNeverFree_21 : decode cX0_isNeverFree 21 = .ok (.iload_n 1, 1) := by decide +kernel
theorem dX0_isNeverFree_22 : decode cX0_isNeverFree 22 = .ok (.goto 5, 3) := by decide +kernel
theorem dX0_isNeverFree_25 : decode cX0_isNeverFree 25 = .ok (.iload_n 1, 1) := by decide +kernel
theorem dX0_isNeverFree_26 : decode cX0_isNeverFree 26 = .ok (.ineg, 1) := by decide +kernel
theorem dX0_isNeverFree_27 : decode cX0_isNeverFree 27 = .ok (.istore_n 3, 1) := by decide +kernel
theorem dX0_isNeverFree_28 : decode cX0_isNeverFree 28 = .ok (.iload_n 1, 1) := by decide +kernel
theorem dX0_isNeverFree_29 : decode cX0_isNeverFree 29 = .ok (.ineg, 1) := by decide +kernel
theorem dX0_isNeverFree_30 : decode cX0_isNeverFree 30 = .ok (.istore 4, 2) := by decide +kernel
theorem dX0_isNeverFree_32 : decode cX0_isNeverFree 32 = .ok (.aload_n 0, 1) := by decide +kernel
theorem dX0_isNeverFree_33 : decode cX0_isNeverFree 33 = .ok (.getfield 29, 3) := by decide +kernel
theorem dX0_isNeverFree_36 : decode cX0_isNeverFree 36 = .ok (.ifCond .eq 44, 3) := by decide +kernel
theorem dX0_isNeverFree_39 : decode cX0_isNeverFree 39 = .ok (.iload 4, 2) := by decide +kernel
theorem dX0_isNeverFree_41 : decode cX0_isNeverFree 41 = .ok (.iload_n 2, 1) := by decide +kernel
theorem dX0_isNeverFree_42 : decode cX0_isNeverFree 42 = .ok (.if_icmp .gt 38, 3) := by decide +kernel
theorem dX0_isNeverFree_45 : decode cX0_isNeverFree 45 = .ok (.iload_n 1, 1) := by decide +kernel
theorem dX0_isNeverFree_46 : decode cX0_isNeverFree 46 = .ok (.ineg, 1) := by decide +kernel
theorem dX0_isNeverFree_47 : decode cX0_isNeverFree 47 = .ok (.istore 5, 2) := by decide +kernel
theorem dX0_isNeverFree_49 : decode cX0_isNeverFree 49 = .ok (.iload 5, 2) := by decide +kernel
theorem dX0_isNeverFree_51 : decode cX0_isNeverFree 51 = .ok (.iload_n 3, 1) := by decide +kernel
theorem dX0_isNeverFree_52 : decode cX0_isNeverFree 52 = .ok (.if_icmp .gt 22, 3) := by decide +kernel
theorem dX0_isNeverFree_55 : decode cX0_isNeverFree 55 = .ok (.aload_n 0, 1) := by decide +kernel
theorem dX0_isNeverFree_56 : decode cX0_isNeverFree 56 = .ok (.iload 4, 2) := by decide +kernel
theorem dX0_isNeverFree_58 : decode cX0_isNeverFree 58 = .ok (.iload 5, 2) := by decide +kernel
theorem dX0_isNeverFree_60 : decode cX0_isNeverFree 60 = .ok (.invokevirtual 87, 3) := by decide +kernel
theorem dX0_isNeverFree_63 : decode cX0_isNeverFree 63 = .ok (.ifCond .ne 5, 3) := by decide +kernel
theorem dX0_isNeverFree_66 : decode cX0_isNeverFree 66 = .ok (.iconst 0, 1) := by decide +kernel
theorem dX0_isNeverFree_67 : decode cX0_isNeverFree 67 = .ok (.ireturn, 1) := by decide +kernel
theorem dX0_isNeverFree_68 : decode cX0_isNeverFree 68 = .ok (.iinc 5 1, 3) := by decide +kernel
theorem dX0_isNeverFree_71 : decode cX0_isNeverFree 71 = .ok (.goto (-22), 3) := by decide +kernel
theorem dX0_isNeverFree_74 : decode cX0_isNeverFree 74 = .ok (.iinc 4 1, 3) := by decide +kernel
theorem dX0_isNeverFree_77 : decode cX0_isNeverFree 77 = .ok (.goto (-45), 3) := by decide +kernel
theorem dX0_isNeverFree_80 : decode cX0_isNeverFree 80 = .ok (.iconst 1, 1) := by decide +kernel
theorem dX0_isNeverFree_81 : decode cX0_isNeverFree 81 = .ok (.ireturn, 1) := by decide +kernel
theorem dX1_init_0 : decode cX1_init 0 = .ok (.aload_n 0, 1) := by decide +kernel
theorem dX1_init_1 : decode cX1_init 1 = .ok (.invokespecial 3, 3) := by decide +kernel
theorem dX1_init_4 : decode cX1_init 4 = .ok (.aload_n 0, 1) := by decide +kernel
theorem dX1_init_5 : decode cX1_init 5 = .ok (.bipush 16, 2) := by decide +kernel
theorem dX1_init_7 : decode cX1_init 7 = .ok (.newarray .long, 2) := by decide +kernel
theorem dX1_init_9 : decode cX1_init 9 = .ok (.putfield 9, 3) := by decide +kernel
theorem dX1_init_12 : decode cX1_init 12 = .ok (.aload_n 0, 1) := by decide +kernel
theorem dX1_init_13 : decode cX1_init 13 = .ok (.bipush 16, 2) := by decide +kernel
theorem dX1_init_15 : decode cX1_init 15 = .ok (.newarray .long, 2) := by decide +kernel
theorem dX1_init_17 : decode cX1_init 17 = .ok (.putfield 15, 3) := by decide +kernel
theorem dX1_init_20 : decode cX1_init 20 = .ok (.aload_n 0, 1) := by decide +kernel
theorem dX1_init_21 : decode cX1_init 21 = .ok (.bipush 16, 2) := by decide +kernel
theorem dX1_init_23 : decode cX1_init 23 = .ok (.newarray .long, 2) := by decide +kernel
theorem dX1_init_25 : decode cX1_init 25 = .ok (.putfield 18, 3) := by decide +kernel
theorem dX1_init_28 : decode cX1_init 28 = .ok (.aload_n 0, 1) := by decide +kernel
theorem dX1_init_29 : decode cX1_init 29 = .ok (.bipush 16, 2) := by decide +kernel
theorem dX1_init_31 : decode cX1_init 31 = .ok (.newarray .int, 2) := by decide +kernel
theorem dX1_init_33 : decode cX1_init 33 = .ok (.putfield 21, 3) := by decide +kernel
theorem dX1_init_36 : decode cX1_init 36 = .ok (.aload_n 0, 1) := by decide +kernel
theorem dX1_init_37 : decode cX1_init 37 = .ok (.bipush 16, 2) := by decide +kernel
theorem dX1_init_39 : decode cX1_init 39 = .ok (.newarray .long, 2) := by decide +kernel
theorem dX1_init_41 : decode cX1_init 41 = .ok (.putfield 25, 3) := by decide +kernel
theorem dX1_init_44 : decode cX1_init 44 = .ok (.aload_n 0, 1) := by decide +kernel
theorem dX1_init_45 : decode cX1_init 45 = .ok (.iconst 0, 1) := by decide +kernel
theorem dX1_init_46 : decode cX1_init 46 = .ok (.putfield 28, 3) := by decide +kernel
theorem dX1_init_49 : decode cX1_init 49 = .ok (.aload_n 0, 1) := by decide +kernel
theorem dX1_init_50 : decode cX1_init 50 = .ok (.bipush 16, 2) := by decide +kernel
theorem dX1_init_52 : decode cX1_init 52 = .ok (.newarray .long, 2) := by decide +kernel
theorem dX1_init_54 : decode cX1_init 54 = .ok (.putfield 32, 3) := by decide +kernel
theorem dX1_init_57 : decode cX1_init 57 = .ok (.aload_n 0, 1) := by decide +kernel
theorem dX1_init_58 : decode cX1_init 58 = .ok (.getfield 9, 3) := by decide +kernel
theorem dX1_init_61 : decode cX1_init 61 = .ok (.iconst 1, 1) := by decide +kernel
theorem dX1_init_62 : decode cX1_init 62 = .ok (.ldc2_w 35, 3) := by decide +kernel
theorem dX1_init_65 : decode cX1_init 65 = .ok (.lastore, 1) := by decide +kernel
theorem dX1_init_66 : decode cX1_init 66 = .ok (.iconst 2, 1) := by decide +kernel
theorem dX1_init_67 : decode cX1_init 67 = .ok (.istore_n 1, 1) := by decide +kernel
theorem dX1_init_68 : decode cX1_init 68 = .ok (.iload_n 1, 1) := by decide +kernel
theorem dX1_init_69 : decode cX1_init 69 = .ok (.bipush 15, 2) := by decide +kernel
theorem dX1_init_71 : decode cX1_init 71 = .ok (.if_icmp .gt 106, 3) := by decide +kernel
theorem dX1_init_74 : decode cX1_init 74 = .ok (.aload_n 0, 1) := by decide +kernel
theorem dX1_init_75 : decode cX1_init 75 = .ok (.getfield 9, 3) := by decide +kernel
theorem dX1_init_78 : decode cX1_init 78 = .ok (.iload_n 1, 1) := by decide +kernel
theorem dX1_init_79 : decode cX1_init 79 = .ok (.aload_n 0, 1) := by decide +kernel
theorem dX1_init_80 : decode cX1_init 80 = .ok (.getfield 9, 3) := by decide +kernel
theorem dX1_init_83 : decode cX1_init 83 = .ok (.iload_n 1, 1) := by decide +kernel
theorem dX1_init_84 : decode cX1_init 84 = .ok (.iconst 1, 1) := by decide +kernel
theorem dX1_init_85 : decode cX1_init 85 = .ok (.isub, 1) := by decide +kernel
theorem dX1_init_86 : decode cX1_init 86 = .ok (.laload, 1) := by decide +kernel
theorem dX1_init_87 : decode cX1_init 87 = .ok (.ldc2_w 37, 3) := by decide +kernel
theorem dX1_init_90 : decode cX1_init 90 = .ok (.aload_n 0, 1) := by decide +kernel
theorem dX1_init_91 : decode cX1_init 91 = .ok (.getfield 15, 3) := by decide +kernel
theorem dX1_init_94 : decode cX1_init 94 = .ok (.iload_n 1, 1) := by decide +kernel
theorem dX1_init_95 : decode cX1_init 95 = .ok (.iconst 1, 1) := by decide +kernel
theorem dX1_init_96 : decode cX1_init 96 = .ok (.isub, 1) := by decide +kernel
theorem dX1_init_97 : decode cX1_init 97 = .ok (.laload, 1) := by decide +kernel
theorem dX1_init_98 : decode cX1_init 98 = .ok (.lmul, 1) := by decide +kernel
theorem dX1_init_99 : decode cX1_init 99 = .ok (.ladd, 1) := by decide +kernel
theorem dX1_init_100 : decode cX1_init 100 = .ok (.aload_n 0, 1) := by decide +kernel
theorem dX1_init_101 : decode cX1_init 101 = .ok (.getfield 18, 3) := by decide +kernel
theorem dX1_init_104 : decode cX1_init 104 = .ok (.iload_n 1, 1) := by decide +kernel
theorem dX1_init_105 : decode cX1_init 105 = .ok (.iconst 1, 1) := by decide +kernel
theorem dX1_init_106 : decode cX1_init 106 = .ok (.isub, 1) := by decide +kernel
theorem dX1_init_107 : decode cX1_init 107 = .ok (.laload, 1) := by decide +kernel
theorem dX1_init_108 : decode cX1_init 108 = .ok (.ladd, 1) := by decide +kernel
theorem dX1_init_109 : decode cX1_init 109 = .ok (.lastore, 1) := by decide +kernel
theorem dX1_init_110 : decode cX1_init 110 = .ok (.iconst 1, 1) := by decide +kernel
theorem dX1_init_111 : decode cX1_init 111 = .ok (.istore_n 2, 1) := by decide +kernel
theorem dX1_init_112 : decode cX1_init 112 = .ok (.iload_n 2, 1) := by decide +kernel
theorem dX1_init_113 : decode cX1_init 113 = .ok (.iload_n 1, 1) := by decide +kernel
theorem dX1_init_114 : decode cX1_init 114 = .ok (.if_icmp .ge 57, 3) := by decide +kernel
theorem dX1_init_117 : decode cX1_init 117 = .ok (.aload_n 0, 1) := by decide +kernel
theorem dX1_init_118 : decode cX1_init 118 = .ok (.getfield 15, 3) := by decide +kernel
theorem dX1_init_121 : decode cX1_init 121 = .ok (.iload_n 1, 1) := by decide +kernel
theorem dX1_init_122 : decode cX1_init 122 = .ok (.dup2, 1) := by decide +kernel
theorem dX1_init_123 : decode cX1_init 123 = .ok (.laload, 1) := by decide +kernel
theorem dX1_init_124 : decode cX1_init 124 = .ok (.aload_n 0, 1) := by decide +kernel
theorem dX1_init_125 : decode cX1_init 125 = .ok (.getfield 9, 3) := by decide +kernel
theorem dX1_init_128 : decode cX1_init 128 = .ok (.iload_n 2, 1) := by decide +kernel
theorem dX1_init_129 : decode cX1_init 129 = .ok (.laload, 1) := by decide +kernel
theorem dX1_init_130 : decode cX1_init 130 = .ok (.aload_n 0, 1) := by decide +kernel
theorem dX1_init_131 : decode cX1_init 131 = .ok (.getfield 9, 3) := by decide +kernel
theorem dX1_init_134 : decode cX1_init 134 = .ok (.iload_n 1, 1) := by decide +kernel
theorem dX1_init_135 : decode cX1_init 135 = .ok (.iload_n 2, 1) := by decide +kernel
theorem dX1_init_136 : decode cX1_init 136 = .ok (.isub, 1) := by decide +kernel
theorem dX1_init_137 : decode cX1_init 137 = .ok (.laload, 1) := by decide +kernel
theorem dX1_init_138 : decode cX1_init 138 = .ok (.lmul, 1) := by decide +kernel
theorem dX1_init_139 : decode cX1_init 139 = .ok (.ladd, 1) := by decide +kernel
theorem dX1_init_140 : decode cX1_init 140 = .ok (.lastore, 1) := by decide +kernel
theorem dX1_init_141 : decode cX1_init 141 = .ok (.aload_n 0, 1) := by decide +kernel
theorem dX1_init_142 : decode cX1_init 142 = .ok (.getfield 18, 3) := by decide +kernel
theorem dX1_init_145 : decode cX1_init 145 = .ok (.iload_n 1, 1) := by decide +kernel
theorem dX1_init_146 : decode cX1_init 146 = .ok (.dup2, 1) := by decide +kernel
theorem dX1_init_147 : decode cX1_init 147 = .ok (.laload, 1) := by decide +kernel
theorem dX1_init_148 : decode cX1_init 148 = .ok (.aload_n 0, 1) := by decide +kernel
theorem dX1_init_149 : decode cX1_init 149 = .ok (.getfield 9, 3) := by decide +kernel
theorem dX1_init_152 : decode cX1_init 152 = .ok (.iload_n 2, 1) := by decide +kernel
theorem dX1_init_153 : decode cX1_init 153 = .ok (.laload, 1) := by decide +kernel
theorem dX1_init_154 : decode cX1_init 154 = .ok (.aload_n 0, 1) := by decide +kernel
theorem dX1_init_155 : decode cX1_init 155 = .ok (.getfield 15, 3) := by decide +kernel
theorem dX1_init_158 : decode cX1_init 158 = .ok (.iload_n 1, 1) := by decide +kernel
theorem dX1_init_159 : decode cX1_init 159 = .ok (.iload_n 2, 1) := by decide +kernel
theorem dX1_init_160 : decode cX1_init 160 = .ok (.isub, 1) := by decide +kernel
theorem dX1_init_161 : decode cX1_init 161 = .ok (.laload, 1) := by decide +kernel
theorem dX1_init_162 : decode cX1_init 162 = .ok (.lmul, 1) := by decide +kernel
theorem dX1_init_163 : decode cX1_init 163 = .ok (.ladd, 1) := by decide +kernel
theorem dX1_init_164 : decode cX1_init 164 = .ok (.lastore, 1) := by decide +kernel
theorem dX1_init_165 : decode cX1_init 165 = .ok (.iinc 2 1, 3) := by decide +kernel
theorem dX1_init_168 : decode cX1_init 168 = .ok (.goto (-56), 3) := by decide +kernel
theorem dX1_init_171 : decode cX1_init 171 = .ok (.iinc 1 1, 3) := by decide +kernel
theorem dX1_init_174 : decode cX1_init 174 = .ok (.goto (-106), 3) := by decide +kernel
theorem dX1_init_177 : decode cX1_init 177 = .ok (.return_, 1) := by decide +kernel
theorem dX1_howMany_0 : decode cX1_howMany 0 = .ok (.iload_n 1, 1) := by decide +kernel
theorem dX1_howMany_1 : decode cX1_howMany 1 = .ok (.iconst 1, 1) := by decide +kernel
theorem dX1_howMany_2 : decode cX1_howMany 2 = .ok (.bipush 15, 2) := by decide +kernel
theorem dX1_howMany_4 : decode cX1_howMany 4 = .ok (.invokestatic 39, 3) := by decide +kernel
theorem dX1_howMany_7 : decode cX1_howMany 7 = .ok (.ifCond .eq 12, 3) := by decide +kernel
theorem dX1_howMany_10 : decode cX1_howMany 10 = .ok (.aload_n 0, 1) := by decide +kernel
theorem dX1_howMany_11 : decode cX1_howMany 11 = .ok (.getfield 9, 3) := by decide +kernel
theorem dX1_howMany_14 : decode cX1_howMany 14 = .ok (.iload_n 1, 1) := by decide +kernel
theorem dX1_howMany_15 : decode cX1_howMany 15 = .ok (.laload, 1) := by decide +kernel
theorem dX1_howMany_16 : decode cX1_howMany 16 = .ok (.goto 4, 3) := by decide +kernel
theorem dX1_howMany_19 : decode cX1_howMany 19 = .ok (.lconst 0, 1) := by decide +kernel
theorem dX1_howMany_20 : decode cX1_howMany 20 = .ok (.lreturn, 1) := by decide +kernel
theorem dX1_unfold_0 : decode cX1_unfold 0 = .ok (.aload_n 1, 1) := by decide +kernel
theorem dX1_unfold_1 : decode cX1_unfold 1 = .ok (.invokevirtual 43, 3) := by decide +kernel
theorem dX1_unfold_4 : decode cX1_unfold 4 = .ok (.aload_n 0, 1) := by decide +kernel
theorem dX1_unfold_5 : decode cX1_unfold 5 = .ok (.iconst 0, 1) := by decide +kernel
theorem dX1_unfold_6 : decode cX1_unfold 6 = .ok (.putfield 28, 3) := by decide +kernel
theorem dX1_unfold_9 : decode cX1_unfold 9 = .ok (.aload_n 0, 1) := by decide +kernel
theorem dX1_unfold_10 : decode cX1_unfold 10 = .ok (.iload_n 2, 1) := by decide +kernel
theorem dX1_unfold_11 : decode cX1_unfold 11 = .ok (.lload_n 3, 1) := by decide +kernel
theorem dX1_unfold_12 : decode cX1_unfold 12 = .ok (.invokevirtual 48, 3) := by decide +kernel
theorem dX1_unfold_15 : decode cX1_unfold 15 = .ok (.iconst 0, 1) := by decide +kernel
theorem dX1_unfold_16 : decode cX1_unfold 16 = .ok (.istore 5, 2) := by decide +kernel
theorem dX1_unfold_18 : decode cX1_unfold 18 = .ok (.iload 5, 2) := by decide +kernel
theorem dX1_unfold_20 : decode cX1_unfold 20 = .ok (.iload_n 2, 1) := by decide +kernel
theorem dX1_unfold_21 : decode cX1_unfold 21 = .ok (.if_icmp .ge 58, 3) := by decide +kernel
theorem dX1_unfold_24 : decode cX1_unfold 24 = .ok (.aload_n 0, 1) := by decide +kernel
theorem dX1_unfold_25 : decode cX1_unfold 25 = .ok (.getfield 28, 3) := by decide +kernel
theorem dX1_unfold_28 : decode cX1_unfold 28 = .ok (.ifCond .le 51, 3) := by decide +kernel
theorem dX1_unfold_31 : decode cX1_unfold 31 = .ok (.aload_n 0, 1) := by decide +kernel
theorem dX1_unfold_32 : decode cX1_unfold 32 = .ok (.getfield 28, 3) := by decide +kernel
theorem dX1_unfold_35 : decode cX1_unfold 35 = .ok (.bipush 15, 2) := by decide +kernel
theorem dX1_unfold_37 : decode cX1_unfold 37 = .ok (.if_icmp .gt 42, 3) := by decide +kernel
theorem dX1_unfold_40 : decode cX1_unfold 40 = .ok (.aload_n 0, 1) := by decide +kernel
theorem dX1_unfold_41 : decode cX1_unfold 41 = .ok (.dup, 1) := by decide +kernel
theorem dX1_unfold_42 : decode cX1_unfold 42 = .ok (.getfield 28, 3) := by decide +kernel
theorem dX1_unfold_45 : decode cX1_unfold 45 = .ok (.iconst 1, 1) := by decide +kernel
theorem dX1_unfold_46 : decode cX1_unfold 46 = .ok (.isub, 1) := by decide +kernel
theorem dX1_unfold_47 : decode cX1_unfold 47 = .ok (.putfield 28, 3) := by decide +kernel
theorem dX1_unfold_50 : decode cX1_unfold 50 = .ok (.aload_n 0, 1) := by decide +kernel
theorem dX1_unfold_51 : decode cX1_unfold 51 = .ok (.aload_n 1, 1) := by decide +kernel
theorem dX1_unfold_52 : decode cX1_unfold 52 = .ok (.aload_n 0, 1) := by decide +kernel
theorem dX1_unfold_53 : decode cX1_unfold 53 = .ok (.getfield 21, 3) := by decide +kernel
theorem dX1_unfold_56 : decode cX1_unfold 56 = .ok (.aload_n 0, 1) := by decide +kernel
theorem dX1_unfold_57 : decode cX1_unfold 57 = .ok (.getfield 28, 3) := by decide +kernel
theorem dX1_unfold_60 : decode cX1_unfold 60 = .ok (.iaload, 1) := by decide +kernel
theorem dX1_unfold_61 : decode cX1_unfold 61 = .ok (.aload_n 0, 1) := by decide +kernel
theorem dX1_unfold_62 : decode cX1_unfold 62 = .ok (.getfield 25, 3) := by decide +kernel
theorem dX1_unfold_65 : decode cX1_unfold 65 = .ok (.aload_n 0, 1) := by decide +kernel
theorem dX1_unfold_66 : decode cX1_unfold 66 = .ok (.getfield 28, 3) := by decide +kernel
theorem dX1_unfold_69 : decode cX1_unfold 69 = .ok (.laload, 1) := by decide +kernel
theorem dX1_unfold_70 : decode cX1_unfold 70 = .ok (.invokevirtual 52, 3) := by decide +kernel
theorem dX1_unfold_73 : decode cX1_unfold 73 = .ok (.iinc 5 1, 3) := by decide +kernel
theorem dX1_unfold_76 : decode cX1_unfold 76 = .ok (.goto (-58), 3) := by decide +kernel
theorem dX1_unfold_79 : decode cX1_unfold 79 = .ok (.aload_n 1, 1) := by decide +kernel
theorem dX1_unfold_80 : decode cX1_unfold 80 = .ok (.invokevirtual 56, 3) := by decide +kernel
theorem dX1_unfold_83 : decode cX1_unfold 83 = .ok (.return_, 1) := by decide +kernel
theorem dX1_unfoldNode_0 : decode cX1_unfoldNode 0 = .ok (.iload_n 2, 1) := by decide +kernel
theorem dX1_unfoldNode_1 : decode cX1_unfoldNode 1 = .ok (.iconst 2, 1) := by decide +kernel
theorem dX1_unfoldNode_2 : decode cX1_unfoldNode 2 = .ok (.if_icmp .ge 11, 3) := by decide +kernel
theorem dX1_unfoldNode_5 : decode cX1_unfoldNode 5 = .ok (.aload_n 0, 1) := by decide +kernel
theorem dX1_unfoldNode_6 : decode cX1_unfoldNode 6 = .ok (.aload_n 1, 1) := by decide +kernel
theorem dX1_unfoldNode_7 : decode cX1_unfoldNode 7 = .ok (.lload_n 3, 1) := by decide +kernel
theorem dX1_unfoldNode_8 : decode cX1_unfoldNode 8 = .ok (.l2i, 1) := by decide +kernel
theorem dX1_unfoldNode_9 : decode cX1_unfoldNode 9 = .ok (.invokevirtual 59, 3) := by decide +kernel
theorem dX1_unfoldNode_12 : decode cX1_unfoldNode 12 = .ok (.return_, 1) := by decide +kernel
theorem dX1_unfoldNode_13 : decode cX1_unfoldNode 13 = .ok (.iload_n 2, 1) := by decide +kernel
theorem dX1_unfoldNode_14 : decode cX1_unfoldNode 14 = .ok (.iconst 1, 1) := by decide +kernel
theorem dX1_unfoldNode_15 : decode cX1_unfoldNode 15 = .ok (.isub, 1) := by decide +kernel
theorem dX1_unfoldNode_16 : decode cX1_unfoldNode 16 = .ok (.istore 5, 2) := by decide +kernel
theorem dX1_unfoldNode_18 : decode cX1_unfoldNode 18 = .ok (.lload_n 3, 1) := by decide +kernel
theorem dX1_unfoldNode_19 : decode cX1_unfoldNode 19 = .ok (.aload_n 0, 1) := by decide +kernel
theorem dX1_unfoldNode_20 : decode cX1_unfoldNode 20 = .ok (.iload 5, 2) := by decide +kernel
theorem dX1_unfoldNode_22 : decode cX1_unfoldNode 22 = .ok (.invokevirtual 63, 3) := by decide +kernel
theorem dX1_unfoldNode_25 : decode cX1_unfoldNode 25 = .ok (.lsub, 1) := by decide +kernel
theorem dX1_unfoldNode_26 : decode cX1_unfoldNode 26 = .ok (.lstore 6, 2) := by decide +kernel
theorem dX1_unfoldNode_28 : decode cX1_unfoldNode 28 = .ok (.lload 6, 2) := by decide +kernel
theorem dX1_unfoldNode_30 : decode cX1_unfoldNode 30 = .ok (.lconst 0, 1) := by decide +kernel
theorem dX1_unfoldNode_31 : decode cX1_unfoldNode 31 = .ok (.lcmp, 1) := by decide +kernel
theorem dX1_unfoldNode_32 : decode cX1_unfoldNode 32 = .ok (.ifCond .ge 17, 3) := by decide +kernel
theorem dX1_unfoldNode_35 : decode cX1_unfoldNode 35 = .ok (.aload_n 1, 1) := by decide +kernel
theorem dX1_unfoldNode_36 : decode cX1_unfoldNode 36 = .ok (.iconst 3, 1) := by decide +kernel
theorem dX1_unfoldNode_37 : decode cX1_unfoldNode 37 = .ok (.iconst 0, 1) := by decide +kernel
theorem dX1_unfoldNode_38 : decode cX1_unfoldNode 38 = .ok (.invokevirtual 67, 3) := by decide +kernel
theorem dX1_unfoldNode_41 : decode cX1_unfoldNode 41 = .ok (.aload_n 0, 1) := by decide +kernel
theorem dX1_unfoldNode_42 : decode cX1_unfoldNode 42 = .ok (.iload 5, 2) := by decide +kernel
theorem dX1_unfoldNode_44 : decode cX1_unfoldNode 44 = .ok (.lload_n 3, 1) := by decide +kernel
theorem dX1_unfoldNode_45 : decode cX1_unfoldNode 45 = .ok (.invokevirtual 48, 3) := by decide +kernel
theorem dX1_unfoldNode_48 : decode cX1_unfoldNode 48 = .ok (.return_, 1) := by decide +kernel
theorem dX1_unfoldNode_49 : decode cX1_unfoldNode 49 = .ok (.iload 5, 2) := by decide +kernel
theorem dX1_unfoldNode_51 : decode cX1_unfoldNode 51 = .ok (.bipush 15, 2) := by decide +kernel
theorem dX1_unfoldNode_53 : decode cX1_unfoldNode 53 = .ok (.if_icmp .gt 13, 3) := by decide +kernel
theorem dX1_unfoldNode_56 : decode cX1_unfoldNode 56 = .ok (.aload_n 0, 1) := by decide +kernel
theorem dX1_unfoldNode_57 : decode cX1_unfoldNode 57 = .ok (.getfield 15, 3) := by decide +kernel
theorem dX1_unfoldNode_60 : decode cX1_unfoldNode 60 = .ok (.iload 5, 2) := by decide +kernel
theorem dX1_unfoldNode_62 : decode cX1_unfoldNode 62 = .ok (.laload, 1) := by decide +kernel
theorem dX1_unfoldNode_63 : decode cX1_unfoldNode 63 = .ok (.goto 4, 3) := by decide +kernel
theorem dX1_unfoldNode_66 : decode cX1_unfoldNode 66 = .ok (.lconst 0, 1) := by decide +kernel
theorem dX1_unfoldNode_67 : decode cX1_unfoldNode 67 = .ok (.lstore 8, 2) := by decide +kernel
theorem dX1_unfoldNode_69 : decode cX1_unfoldNode 69 = .ok (.lload 8, 2) := by decide +kernel
theorem dX1_unfoldNode_71 : decode cX1_unfoldNode 71 = .ok (.lconst 0, 1) := by decide +kernel
theorem dX1_unfoldNode_72 : decode cX1_unfoldNode 72 = .ok (.lcmp, 1) := by decide +kernel
theorem dX1_unfoldNode_73 : decode cX1_unfoldNode 73 = .ok (.ifCond .le 40, 3) := by decide +kernel
theorem dX1_unfoldNode_76 : decode cX1_unfoldNode 76 = .ok (.lload 6, 2) := by decide +kernel
theorem dX1_unfoldNode_78 : decode cX1_unfoldNode 78 = .ok (.ldc2_w 37, 3) := by decide +kernel
theorem dX1_unfoldNode_81 : decode cX1_unfoldNode 81 = .ok (.lload 8, 2) := by decide +kernel
theorem dX1_unfoldNode_83 : decode cX1_unfoldNode 83 = .ok (.lmul, 1) := by decide +kernel
theorem dX1_unfoldNode_84 : decode cX1_unfoldNode 84 = .ok (.lcmp, 1) := by decide +kernel
theorem dX1_unfoldNode_85 : decode cX1_unfoldNode 85 = .ok (.ifCond .ge 28, 3) := by decide +kernel
theorem dX1_unfoldNode_88 : decode cX1_unfoldNode 88 = .ok (.aload_n 1, 1) := by decide +kernel
theorem dX1_unfoldNode_89 : decode cX1_unfoldNode 89 = .ok (.iconst 4, 1) := by decide +kernel
theorem dX1_unfoldNode_90 : decode cX1_unfoldNode 90 = .ok (.lload 6, 2) := by decide +kernel
theorem dX1_unfoldNode_92 : decode cX1_unfoldNode 92 = .ok (.lload 8, 2) := by decide +kernel
theorem dX1_unfoldNode_94 : decode cX1_unfoldNode 94 = .ok (.ldiv, 1) := by decide +kernel
theorem dX1_unfoldNode_95 : decode cX1_unfoldNode 95 = .ok (.l2i, 1) := by decide +kernel
theorem dX1_unfoldNode_96 : decode cX1_unfoldNode 96 = .ok (.iadd, 1) := by decide +kernel
theorem dX1_unfoldNode_97 : decode cX1_unfoldNode 97 = .ok (.iconst 0, 1) := by decide +kernel
theorem dX1_unfoldNode_98 : decode cX1_unfoldNode 98 = .ok (.invokevirtual 67, 3) := by decide +kernel
theorem dX1_unfoldNode_101 : decode cX1_unfoldNode 101 = .ok (.aload_n 0, 1) := by decide +kernel
theorem dX1_unfoldNode_102 : decode cX1_unfoldNode 102 = .ok (.iload 5, 2) := by decide +kernel
theorem dX1_unfoldNode_104 : decode cX1_unfoldNode 104 = .ok (.lload 6, 2) := by decide +kernel
theorem dX1_unfoldNode_106 : decode cX1_unfoldNode 106 = .ok (.lload 8, 2) := by decide +kernel
theorem dX1_unfoldNode_108 : decode cX1_unfoldNode 108 = .ok (.lrem, 1) := by decide +kernel
theorem dX1_unfoldNode_109 : decode cX1_unfoldNode 109 = .ok (.invokevirtual 71, 3) := by decide +kernel
theorem dX1_unfoldNode_112 : decode cX1_unfoldNode 112 = .ok (.return_, 1) := by decide +kernel
theorem dX1_unfoldNode_113 : decode cX1_unfoldNode 113 = .ok (.aload_n 1, 1) := by decide +kernel
theorem dX1_unfoldNode_114 : decode cX1_unfoldNode 114 = .ok (.bipush 8, 2) := by decide +kernel
theorem dX1_unfoldNode_116 : decode cX1_unfoldNode 116 = .ok (.iconst 0, 1) := by decide +kernel
theorem dX1_unfoldNode_117 : decode cX1_unfoldNode 117 = .ok (.invokevirtual 67, 3) := by decide +kernel
theorem dX1_unfoldNode_120 : decode cX1_unfoldNode 120 = .ok (.aload_n 0, 1) := by decide +kernel
theorem dX1_unfoldNode_121 : decode cX1_unfoldNode 121 = .ok (.iload 5, 2) := by decide +kernel
theorem dX1_unfoldNode_123 : decode cX1_unfoldNode 123 = .ok (.lload 6, 2) := by decide +kernel
theorem dX1_unfoldNode_125 : decode cX1_unfoldNode 125 = .ok (.ldc2_w 37, 3) := by decide +kernel
theorem dX1_unfoldNode_128 : decode cX1_unfoldNode 128 = .ok (.lload 8, 2) := by decide +kernel
theorem dX1_unfoldNode_130 : decode cX1_unfoldNode 130 = .ok (.lmul, 1) := by decide +kernel
theorem dX1_unfoldNode_131 : decode cX1_unfoldNode 131 = .ok (.lsub, 1) := by decide +kernel
theorem dX1_unfoldNode_132 : decode cX1_unfoldNode 132 = .ok (.invokevirtual 74, 3) := by decide +kernel
theorem dX1_unfoldNode_135 : decode cX1_unfoldNode 135 = .ok (.return_, 1) := by decide +kernel
theorem dX1_unfoldLeaf_0 : decode cX1_unfoldLeaf 0 = .ok (.iload_n 2, 1) := by decide +kernel
theorem dX1_unfoldLeaf_1 : decode cX1_unfoldLeaf 1 = .ok (.iconst 3, 1) := by decide +kernel
theorem dX1_unfoldLeaf_2 : decode cX1_unfoldLeaf 2 = .ok (.if_icmp .ge 12, 3) := by decide +kernel
theorem dX1_unfoldLeaf_5 : decode cX1_unfoldLeaf 5 = .ok (.aload_n 1, 1) := by decide +kernel
theorem dX1_unfoldLeaf_6 : decode cX1_unfoldLeaf 6 = .ok (.iconst 0, 1) := by decide +kernel
theorem dX1_unfoldLeaf_7 : decode cX1_unfoldLeaf 7 = .ok (.iload_n 2, 1) := by decide +kernel
theorem dX1_unfoldLeaf_8 : decode cX1_unfoldLeaf 8 = .ok (.invokevirtual 67, 3) := by decide +kernel
theorem dX1_unfoldLeaf_11 : decode cX1_unfoldLeaf 11 = .ok (.goto 18, 3) := by decide +kernel
theorem dX1_unfoldLeaf_14 : decode cX1_unfoldLeaf 14 = .ok (.aload_n 1, 1) := by decide +kernel
theorem dX1_unfoldLeaf_15 : decode cX1_unfoldLeaf 15 = .ok (.iload_n 2, 1) := by decide +kernel
theorem dX1_unfoldLeaf_16 : decode cX1_unfoldLeaf 16 = .ok (.iconst 3, 1) := by decide +kernel
theorem dX1_unfoldLeaf_17 : decode cX1_unfoldLeaf 17 = .ok (.if_icmp .ne 7, 3) := by decide +kernel
theorem dX1_unfoldLeaf_20 : decode cX1_unfoldLeaf 20 = .ok (.iconst 1, 1) := by decide +kernel
theorem dX1_unfoldLeaf_21 : decode cX1_unfoldLeaf 21 = .ok (.goto 4, 3) := by decide +kernel
theorem dX1_unfoldLeaf_24 : decode cX1_unfoldLeaf 24 = .ok (.iconst 2, 1) := by decide +kernel
theorem dX1_unfoldLeaf_25 : decode cX1_unfoldLeaf 25 = .ok (.iconst 0, 1) := by decide +kernel
theorem dX1_unfoldLeaf_26 : decode cX1_unfoldLeaf 26 = .ok (.invokevirtual 67, 3) := by decide +kernel
theorem dX1_unfoldLeaf_29 : decode cX1_unfoldLeaf 29 = .ok (.return_, 1) := by decide +kernel
theorem dX1_defer_0 : decode cX1_defer 0 = .ok (.aload_n 0, 1) := by decide +kernel
theorem dX1_defer_1 : decode cX1_defer 1 = .ok (.getfield 28, 3) := by decide +kernel
theorem dX1_defer_4 : decode cX1_defer 4 = .ok (.ifCond .lt 42, 3) := by decide +kernel
theorem dX1_defer_7 : decode cX1_defer 7 = .ok (.aload_n 0, 1) := by decide +kernel
theorem dX1_defer_8 : decode cX1_defer 8 = .ok (.getfield 28, 3) := by decide +kernel
theorem dX1_defer_11 : decode cX1_defer 11 = .ok (.bipush 15, 2) := by decide +kernel
theorem dX1_defer_13 : decode cX1_defer 13 = .ok (.if_icmp .gt 33, 3) := by decide +kernel
theorem dX1_defer_16 : decode cX1_defer 16 = .ok (.aload_n 0, 1) := by decide +kernel
theorem dX1_defer_17 : decode cX1_defer 17 = .ok (.getfield 21, 3) := by decide +kernel
theorem dX1_defer_20 : decode cX1_defer 20 = .ok (.aload_n 0, 1) := by decide +kernel
theorem dX1_defer_21 : decode cX1_defer 21 = .ok (.getfield 28, 3) := by decide +kernel
theorem dX1_defer_24 : decode cX1_defer 24 = .ok (.iload_n 1, 1) := by decide +kernel
theorem dX1_defer_25 : decode cX1_defer 25 = .ok (.iastore, 1) := by decide +kernel
theorem dX1_defer_26 : decode cX1_defer 26 = .ok (.aload_n 0, 1) := by decide +kernel
theorem dX1_defer_27 : decode cX1_defer 27 = .ok (.getfield 25, 3) := by decide +kernel
theorem dX1_defer_30 : decode cX1_defer 30 = .ok (.aload_n 0, 1) := by decide +kernel
theorem dX1_defer_31 : decode cX1_defer 31 = .ok (.getfield 28, 3) := by decide +kernel
theorem dX1_defer_34 : decode cX1_defer 34 = .ok (.lload_n 2, 1) := by decide +kernel
theorem dX1_defer_35 : decode cX1_defer 35 = .ok (.lastore, 1) := by decide +kernel
theorem dX1_defer_36 : decode cX1_defer 36 = .ok (.aload_n 0, 1) := by decide +kernel
theorem dX1_defer_37 : decode cX1_defer 37 = .ok (.dup, 1) := by decide +kernel
theorem dX1_defer_38 : decode cX1_defer 38 = .ok (.getfield 28, 3) := by decide +kernel
theorem dX1_defer_41 : decode cX1_defer 41 = .ok (.iconst 1, 1) := by decide +kernel
theorem dX1_defer_42 : decode cX1_defer 42 = .ok (.iadd, 1) := by decide +kernel
theorem dX1_defer_43 : decode cX1_defer 43 = .ok (.putfield 28, 3) := by decide +kernel
theorem dX1_defer_46 : decode cX1_defer 46 = .ok (.return_, 1) := by decide +kernel
theorem dX1_deferTwo_0 : decode cX1_deferTwo 0 = .ok (.lload_n 2, 1) := by decide +kernel
theorem dX1_deferTwo_1 : decode cX1_deferTwo 1 = .ok (.lstore 4, 2) := by decide +kernel
theorem dX1_deferTwo_3 : decode cX1_deferTwo 3 = .ok (.iconst 1, 1) := by decide +kernel
theorem dX1_deferTwo_4 : decode cX1_deferTwo 4 = .ok (.istore 6, 2) := by decide +kernel
theorem dX1_deferTwo_6 : decode cX1_deferTwo 6 = .ok (.iload 6, 2) := by decide +kernel
theorem dX1_deferTwo_8 : decode cX1_deferTwo 8 = .ok (.iload_n 1, 1) := by decide +kernel
theorem dX1_deferTwo_9 : decode cX1_deferTwo 9 = .ok (.if_icmp .ge 77, 3) := by decide +kernel
theorem dX1_deferTwo_12 : decode cX1_deferTwo 12 = .ok (.aload_n 0, 1) := by decide +kernel
theorem dX1_deferTwo_13 : decode cX1_deferTwo 13 = .ok (.iload_n 1, 1) := by decide +kernel
theorem dX1_deferTwo_14 : decode cX1_deferTwo 14 = .ok (.iload 6, 2) := by decide +kernel
theorem dX1_deferTwo_16 : decode cX1_deferTwo 16 = .ok (.isub, 1) := by decide +kernel
theorem dX1_deferTwo_17 : decode cX1_deferTwo 17 = .ok (.invokevirtual 63, 3) := by decide +kernel
theorem dX1_deferTwo_20 : decode cX1_deferTwo 20 = .ok (.lstore 7, 2) := by decide +kernel
theorem dX1_deferTwo_22 : decode cX1_deferTwo 22 = .ok (.aload_n 0, 1) := by decide +kernel
theorem dX1_deferTwo_23 : decode cX1_deferTwo 23 = .ok (.iload 6, 2) := by decide +kernel
theorem dX1_deferTwo_25 : decode cX1_deferTwo 25 = .ok (.invokevirtual 63, 3) := by decide +kernel
theorem dX1_deferTwo_28 : decode cX1_deferTwo 28 = .ok (.lload 7, 2) := by decide +kernel
theorem dX1_deferTwo_30 : decode cX1_deferTwo 30 = .ok (.lmul, 1) := by decide +kernel
theorem dX1_deferTwo_31 : decode cX1_deferTwo 31 = .ok (.lstore 9, 2) := by decide +kernel
theorem dX1_deferTwo_33 : decode cX1_deferTwo 33 = .ok (.lload 7, 2) := by decide +kernel
theorem dX1_deferTwo_35 : decode cX1_deferTwo 35 = .ok (.lconst 0, 1) := by decide +kernel
theorem dX1_deferTwo_36 : decode cX1_deferTwo 36 = .ok (.lcmp, 1) := by decide +kernel
theorem dX1_deferTwo_37 : decode cX1_deferTwo 37 = .ok (.ifCond .le 36, 3) := by decide +kernel
theorem dX1_deferTwo_40 : decode cX1_deferTwo 40 = .ok (.lload 4, 2) := by decide +kernel
theorem dX1_deferTwo_42 : decode cX1_deferTwo 42 = .ok (.lload 9, 2) := by decide +kernel
theorem dX1_deferTwo_44 : decode cX1_deferTwo 44 = .ok (.lcmp, 1) := by decide +kernel
theorem dX1_deferTwo_45 : decode cX1_deferTwo 45 = .ok (.ifCond .ge 28, 3) := by decide +kernel
theorem dX1_deferTwo_48 : decode cX1_deferTwo 48 = .ok (.aload_n 0, 1) := by decide +kernel
theorem dX1_deferTwo_49 : decode cX1_deferTwo 49 = .ok (.iload_n 1, 1) := by decide +kernel
theorem dX1_deferTwo_50 : decode cX1_deferTwo 50 = .ok (.iload 6, 2) := by decide +kernel
theorem dX1_deferTwo_52 : decode cX1_deferTwo 52 = .ok (.isub, 1) := by decide +kernel
theorem dX1_deferTwo_53 : decode cX1_deferTwo 53 = .ok (.lload 4, 2) := by decide +kernel
theorem dX1_deferTwo_55 : decode cX1_deferTwo 55 = .ok (.lload 7, 2) := by decide +kernel
theorem dX1_deferTwo_57 : decode cX1_deferTwo 57 = .ok (.lrem, 1) := by decide +kernel
theorem dX1_deferTwo_58 : decode cX1_deferTwo 58 = .ok (.invokevirtual 48, 3) := by decide +kernel
theorem dX1_deferTwo_61 : decode cX1_deferTwo 61 = .ok (.aload_n 0, 1) := by decide +kernel
theorem dX1_deferTwo_62 : decode cX1_deferTwo 62 = .ok (.iload 6, 2) := by decide +kernel
theorem dX1_deferTwo_64 : decode cX1_deferTwo 64 = .ok (.lload 4, 2) := by decide +kernel
theorem dX1_deferTwo_66 : decode cX1_deferTwo 66 = .ok (.lload 7, 2) := by decide +kernel
theorem dX1_deferTwo_68 : decode cX1_deferTwo 68 = .ok (.ldiv, 1) := by decide +kernel
theorem dX1_deferTwo_69 : decode cX1_deferTwo 69 = .ok (.invokevirtual 48, 3) := by decide +kernel
theorem dX1_deferTwo_72 : decode cX1_deferTwo 72 = .ok (.return_, 1) := by decide +kernel
theorem dX1_deferTwo_73 : decode cX1_deferTwo 73 = .ok (.lload 4, 2) := by decide +kernel
theorem dX1_deferTwo_75 : decode cX1_deferTwo 75 = .ok (.lload 9, 2) := by decide +kernel
theorem dX1_deferTwo_77 : decode cX1_deferTwo 77 = .ok (.lsub, 1) := by decide +kernel
theorem dX1_deferTwo_78 : decode cX1_deferTwo 78 = .ok (.lstore 4, 2) := by decide +kernel
theorem dX1_deferTwo_80 : decode cX1_deferTwo 80 = .ok (.iinc 6 1, 3) := by decide +kernel
theorem dX1_deferTwo_83 : decode cX1_deferTwo 83 = .ok (.goto (-77), 3) := by decide +kernel
theorem dX1_deferTwo_86 : decode cX1_deferTwo 86 = .ok (.return_, 1) := by decide +kernel
theorem dX1_deferThree_0 : decode cX1_deferThree 0 = .ok (.lload_n 2, 1) := by decide +kernel
theorem dX1_deferThree_1 : decode cX1_deferThree 1 = .ok (.lstore 4, 2) := by decide +kernel
theorem dX1_deferThree_3 : decode cX1_deferThree 3 = .ok (.iconst 1, 1) := by decide +kernel
theorem dX1_deferThree_4 : decode cX1_deferThree 4 = .ok (.istore 6, 2) := by decide +kernel
theorem dX1_deferThree_6 : decode cX1_deferThree 6 = .ok (.iload 6, 2) := by decide +kernel
theorem dX1_deferThree_8 : decode cX1_deferThree 8 = .ok (.iload_n 1, 1) := by decide +kernel
theorem dX1_deferThree_9 : decode cX1_deferThree 9 = .ok (.if_icmp .ge 84, 3) := by decide +kernel
theorem dX1_deferThree_12 : decode cX1_deferThree 12 = .ok (.iload_n 1, 1) := by decide +kernel
theorem dX1_deferThree_13 : decode cX1_deferThree 13 = .ok (.bipush 15, 2) := by decide +kernel
theorem dX1_deferThree_15 : decode cX1_deferThree 15 = .ok (.if_icmp .gt 78, 3) := by decide +kernel
theorem dX1_deferThree_18 : decode cX1_deferThree 18 = .ok (.aload_n 0, 1) := by decide +kernel
theorem dX1_deferThree_19 : decode cX1_deferThree 19 = .ok (.getfield 15, 3) := by decide +kernel
theorem dX1_deferThree_22 : decode cX1_deferThree 22 = .ok (.iload_n 1, 1) := by decide +kernel
theorem dX1_deferThree_23 : decode cX1_deferThree 23 = .ok (.iload 6, 2) := by decide +kernel
theorem dX1_deferThree_25 : decode cX1_deferThree 25 = .ok (.isub, 1) := by decide +kernel
theorem dX1_deferThree_26 : decode cX1_deferThree 26 = .ok (.laload, 1) := by decide +kernel
theorem dX1_deferThree_27 : decode cX1_deferThree 27 = .ok (.lstore 7, 2) := by decide +kernel
theorem dX1_deferThree_29 : decode cX1_deferThree 29 = .ok (.aload_n 0, 1) := by decide +kernel
theorem dX1_deferThree_30 : decode cX1_deferThree 30 = .ok (.iload 6, 2) := by decide +kernel
theorem dX1_deferThree_32 : decode cX1_deferThree 32 = .ok (.invokevirtual 63, 3) := by decide +kernel
theorem dX1_deferThree_35 : decode cX1_deferThree 35 = .ok (.lload 7, 2) := by decide +kernel
theorem dX1_deferThree_37 : decode cX1_deferThree 37 = .ok (.lmul, 1) := by decide +kernel
theorem dX1_deferThree_38 : decode cX1_deferThree 38 = .ok (.lstore 9, 2) := by decide +kernel
theorem dX1_deferThree_40 : decode cX1_deferThree 40 = .ok (.lload 7, 2) := by decide +kernel
theorem dX1_deferThree_42 : decode cX1_deferThree 42 = .ok (.lconst 0, 1) := by decide +kernel
theorem dX1_deferThree_43 : decode cX1_deferThree 43 = .ok (.lcmp, 1) := by decide +kernel
theorem dX1_deferThree_44 : decode cX1_deferThree 44 = .ok (.ifCond .le 36, 3) := by decide +kernel
theorem dX1_deferThree_47 : decode cX1_deferThree 47 = .ok (.lload 4, 2) := by decide +kernel
theorem dX1_deferThree_49 : decode cX1_deferThree 49 = .ok (.lload 9, 2) := by decide +kernel
theorem dX1_deferThree_51 : decode cX1_deferThree 51 = .ok (.lcmp, 1) := by decide +kernel
theorem dX1_deferThree_52 : decode cX1_deferThree 52 = .ok (.ifCond .ge 28, 3) := by decide +kernel
theorem dX1_deferThree_55 : decode cX1_deferThree 55 = .ok (.aload_n 0, 1) := by decide +kernel
theorem dX1_deferThree_56 : decode cX1_deferThree 56 = .ok (.iload_n 1, 1) := by decide +kernel
theorem dX1_deferThree_57 : decode cX1_deferThree 57 = .ok (.iload 6, 2) := by decide +kernel
theorem dX1_deferThree_59 : decode cX1_deferThree 59 = .ok (.isub, 1) := by decide +kernel
theorem dX1_deferThree_60 : decode cX1_deferThree 60 = .ok (.lload 4, 2) := by decide +kernel
theorem dX1_deferThree_62 : decode cX1_deferThree 62 = .ok (.lload 7, 2) := by decide +kernel
theorem dX1_deferThree_64 : decode cX1_deferThree 64 = .ok (.lrem, 1) := by decide +kernel
theorem dX1_deferThree_65 : decode cX1_deferThree 65 = .ok (.invokevirtual 71, 3) := by decide +kernel
theorem dX1_deferThree_68 : decode cX1_deferThree 68 = .ok (.aload_n 0, 1) := by decide +kernel
theorem dX1_deferThree_69 : decode cX1_deferThree 69 = .ok (.iload 6, 2) := by decide +kernel
theorem dX1_deferThree_71 : decode cX1_deferThree 71 = .ok (.lload 4, 2) := by decide +kernel
theorem dX1_deferThree_73 : decode cX1_deferThree 73 = .ok (.lload 7, 2) := by decide +kernel
theorem dX1_deferThree_75 : decode cX1_deferThree 75 = .ok (.ldiv, 1) := by decide +kernel
theorem dX1_deferThree_76 : decode cX1_deferThree 76 = .ok (.invokevirtual 48, 3) := by decide +kernel
theorem dX1_deferThree_79 : decode cX1_deferThree 79 = .ok (.return_, 1) := by decide +kernel
theorem dX1_deferThree_80 : decode cX1_deferThree 80 = .ok (.lload 4, 2) := by decide +kernel
theorem dX1_deferThree_82 : decode cX1_deferThree 82 = .ok (.lload 9, 2) := by decide +kernel
theorem dX1_deferThree_84 : decode cX1_deferThree 84 = .ok (.lsub, 1) := by decide +kernel
theorem dX1_deferThree_85 : decode cX1_deferThree 85 = .ok (.lstore 4, 2) := by decide +kernel
theorem dX1_deferThree_87 : decode cX1_deferThree 87 = .ok (.iinc 6 1, 3) := by decide +kernel
theorem dX1_deferThree_90 : decode cX1_deferThree 90 = .ok (.goto (-84), 3) := by decide +kernel
theorem dX1_deferThree_93 : decode cX1_deferThree 93 = .ok (.return_, 1) := by decide +kernel
theorem dX1_isNumbered_0 : decode cX1_isNumbered 0 = .ok (.aload_n 1, 1) := by decide +kernel
theorem dX1_isNumbered_1 : decode cX1_isNumbered 1 = .ok (.getfield 77, 3) := by decide +kernel
theorem dX1_isNumbered_4 : decode cX1_isNumbered 4 = .ok (.bipush 15, 2) := by decide +kernel
theorem dX1_isNumbered_6 : decode cX1_isNumbered 6 = .ok (.if_icmp .le 5, 3) := by decide +kernel
theorem dX1_isNumbered_9 : decode cX1_isNumbered 9 = .ok (.iconst 0, 1) := by decide +kernel
theorem dX1_isNumbered_10 : decode cX1_isNumbered 10 = .ok (.ireturn, 1) := by decide +kernel
theorem dX1_isNumbered_11 : decode cX1_isNumbered 11 = .ok (.iconst 0, 1) := by decide +kernel
theorem dX1_isNumbered_12 : decode cX1_isNumbered 12 = .ok (.istore_n 2, 1) := by decide +kernel
theorem dX1_isNumbered_13 : decode cX1_isNumbered 13 = .ok (.iload_n 2, 1) := by decide +kernel
theorem dX1_isNumbered_14 : decode cX1_isNumbered 14 = .ok (.aload_n 1, 1) := by decide +kernel
theorem dX1_isNumbered_15 : decode cX1_isNumbered 15 = .ok (.getfield 77, 3) := by decide +kernel
theorem dX1_isNumbered_18 : decode cX1_isNumbered 18 = .ok (.if_icmp .ge 32, 3) := by decide +kernel
theorem dX1_isNumbered_21 : decode cX1_isNumbered 21 = .ok (.aload_n 1, 1) := by decide +kernel
theorem dX1_isNumbered_22 : decode cX1_isNumbered 22 = .ok (.iload_n 2, 1) := by decide +kernel
theorem dX1_isNumbered_23 : decode cX1_isNumbered 23 = .ok (.invokevirtual 80, 3) := by decide +kernel
theorem dX1_isNumbered_26 : decode cX1_isNumbered 26 = .ok (.ifCond .ne 18, 3) := by decide +kernel
theorem dX1_isNumbered_29 : decode cX1_isNumbered 29 = .ok (.aload_n 1, 1) := by decide +kernel
theorem dX1_isNumbered_30 : decode cX1_isNumbered 30 = .ok (.iload_n 2, 1) := by decide +kernel
theorem dX1_isNumbered_31 : decode cX1_isNumbered 31 = .ok (.invokevirtual 84, 3) := by decide +kernel
theorem dX1_isNumbered_34 : decode cX1_isNumbered 34 = .ok (.iconst 0, 1) := by decide +kernel
theorem dX1_isNumbered_35 : decode cX1_isNumbered 35 = .ok (.iconst 2, 1) := by decide +kernel
theorem dX1_isNumbered_36 : decode cX1_isNumbered 36 = .ok (.invokestatic 39, 3) := by decide +kernel
theorem dX1_isNumbered_39 : decode cX1_isNumbered 39 = .ok (.ifCond .ne 5, 3) := by decide +kernel
theorem dX1_isNumbered_42 : decode cX1_isNumbered 42 = .ok (.iconst 0, 1) := by decide +kernel
theorem dX1_isNumbered_43 : decode cX1_isNumbered 43 = .ok (.ireturn, 1) := by decide +kernel
theorem dX1_isNumbered_44 : decode cX1_isNumbered 44 = .ok (.iinc 2 1, 3) := by decide +kernel
theorem dX1_isNumbered_47 : decode cX1_isNumbered 47 = .ok (.goto (-34), 3) := by decide +kernel
theorem dX1_isNumbered_50 : decode cX1_isNumbered 50 = .ok (.iconst 1, 1) := by decide +kernel
theorem dX1_isNumbered_51 : decode cX1_isNumbered 51 = .ok (.ireturn, 1) := by decide +kernel
theorem dX1_rank_0 : decode cX1_rank 0 = .ok (.aload_n 1, 1) := by decide +kernel
theorem dX1_rank_1 : decode cX1_rank 1 = .ok (.getfield 77, 3) := by decide +kernel
theorem dX1_rank_4 : decode cX1_rank 4 = .ok (.bipush 15, 2) := by decide +kernel
theorem dX1_rank_6 : decode cX1_rank 6 = .ok (.invokestatic 87, 3) := by decide +kernel
theorem dX1_rank_9 : decode cX1_rank 9 = .ok (.iconst 1, 1) := by decide +kernel
theorem dX1_rank_10 : decode cX1_rank 10 = .ok (.isub, 1) := by decide +kernel
theorem dX1_rank_11 : decode cX1_rank 11 = .ok (.istore_n 2, 1) := by decide +kernel
theorem dX1_rank_12 : decode cX1_rank 12 = .ok (.iload_n 2, 1) := by decide +kernel
theorem dX1_rank_13 : decode cX1_rank 13 = .ok (.ifCond .lt 21, 3) := by decide +kernel
theorem dX1_rank_16 : decode cX1_rank 16 = .ok (.aload_n 0, 1) := by decide +kernel
theorem dX1_rank_17 : decode cX1_rank 17 = .ok (.getfield 32, 3) := by decide +kernel
theorem dX1_rank_20 : decode cX1_rank 20 = .ok (.iload_n 2, 1) := by decide +kernel
theorem dX1_rank_21 : decode cX1_rank 21 = .ok (.aload_n 0, 1) := by decide +kernel
theorem dX1_rank_22 : decode cX1_rank 22 = .ok (.aload_n 1, 1) := by decide +kernel
theorem dX1_rank_23 : decode cX1_rank 23 = .ok (.iload_n 2, 1) := by decide +kernel
theorem dX1_rank_24 : decode cX1_rank 24 = .ok (.invokevirtual 93, 3) := by decide +kernel
theorem dX1_rank_27 : decode cX1_rank 27 = .ok (.lastore, 1) := by decide +kernel
theorem dX1_rank_28 : decode cX1_rank 28 = .ok (.iinc 2 (-1), 3) := by decide +kernel
theorem dX1_rank_31 : decode cX1_rank 31 = .ok (.goto (-19), 3) := by decide +kernel
theorem dX1_rank_34 : decode cX1_rank 34 = .ok (.aload_n 0, 1) := by decide +kernel
theorem dX1_rank_35 : decode cX1_rank 35 = .ok (.getfield 32, 3) := by decide +kernel
theorem dX1_rank_38 : decode cX1_rank 38 = .ok (.iconst 0, 1) := by decide +kernel
theorem dX1_rank_39 : decode cX1_rank 39 = .ok (.laload, 1) := by decide +kernel
theorem dX1_rank_40 : decode cX1_rank 40 = .ok (.lreturn, 1) := by decide +kernel
theorem dX1_rankOfNode_0 : decode cX1_rankOfNode 0 = .ok (.aload_n 1, 1) := by decide +kernel
theorem dX1_rankOfNode_1 : decode cX1_rankOfNode 1 = .ok (.iload_n 2, 1) := by decide +kernel
theorem dX1_rankOfNode_2 : decode cX1_rankOfNode 2 = .ok (.invokevirtual 80, 3) := by decide +kernel
theorem dX1_rankOfNode_5 : decode cX1_rankOfNode 5 = .ok (.istore_n 3, 1) := by decide +kernel
theorem dX1_rankOfNode_6 : decode cX1_rankOfNode 6 = .ok (.aload_n 1, 1) := by decide +kernel
theorem dX1_rankOfNode_7 : decode cX1_rankOfNode 7 = .ok (.iload_n 2, 1) := by decide +kernel
theorem dX1_rankOfNode_8 : decode cX1_rankOfNode 8 = .ok (.invokevirtual 97, 3) := by decide +kernel
theorem dX1_rankOfNode_11 : decode cX1_rankOfNode 11 = .ok (.iconst 1, 1) := by decide +kernel
theorem dX1_rankOfNode_12 : decode cX1_rankOfNode 12 = .ok (.isub, 1) := by decide +kernel
theorem dX1_rankOfNode_13 : decode cX1_rankOfNode 13 = .ok (.istore 4, 2) := by decide +kernel
theorem dX1_rankOfNode_15 : decode cX1_rankOfNode 15 = .ok (.iload_n 3, 1) := by decide +kernel
theorem dX1_rankOfNode_16 : decode cX1_rankOfNode 16 = .ok (.ifCond .ne 10, 3) := by decide +kernel
theorem dX1_rankOfNode_19 : decode cX1_rankOfNode 19 = .ok (.aload_n 1, 1) := by decide +kernel
theorem dX1_rankOfNode_20 : decode cX1_rankOfNode 20 = .ok (.iload_n 2, 1) := by decide +kernel
theorem dX1_rankOfNode_21 : decode cX1_rankOfNode 21 = .ok (.invokevirtual 84, 3) := by decide +kernel
theorem dX1_rankOfNode_24 : decode cX1_rankOfNode 24 = .ok (.i2l, 1) := by decide +kernel
theorem dX1_rankOfNode_25 : decode cX1_rankOfNode 25 = .ok (.lreturn, 1) := by decide +kernel
theorem dX1_rankOfNode_26 : decode cX1_rankOfNode 26 = .ok (.iload_n 3, 1) := by decide +kernel
theorem dX1_rankOfNode_27 : decode cX1_rankOfNode 27 = .ok (.iconst 1, 1) := by decide +kernel
theorem dX1_rankOfNode_28 : decode cX1_rankOfNode 28 = .ok (.if_icmp .eq 8, 3) := by decide +kernel
theorem dX1_rankOfNode_31 : decode cX1_rankOfNode 31 = .ok (.iload_n 3, 1) := by decide +kernel
theorem dX1_rankOfNode_32 : decode cX1_rankOfNode 32 = .ok (.iconst 2, 1) := by decide +kernel
theorem dX1_rankOfNode_33 : decode cX1_rankOfNode 33 = .ok (.if_icmp .ne 10, 3) := by decide +kernel
theorem dX1_rankOfNode_36 : decode cX1_rankOfNode 36 = .ok (.iconst 3, 1) := by decide +kernel
theorem dX1_rankOfNode_37 : decode cX1_rankOfNode 37 = .ok (.iload_n 3, 1) := by decide +kernel
theorem dX1_rankOfNode_38 : decode cX1_rankOfNode 38 = .ok (.iadd, 1) := by decide +kernel
theorem dX1_rankOfNode_39 : decode cX1_rankOfNode 39 = .ok (.iconst 1, 1) := by decide +kernel
theorem dX1_rankOfNode_40 : decode cX1_rankOfNode 40 = .ok (.isub, 1) := by decide +kernel
theorem dX1_rankOfNode_41 : decode cX1_rankOfNode 41 = .ok (.i2l, 1) := by decide +kernel
theorem dX1_rankOfNode_42 : decode cX1_rankOfNode 42 = .ok (.lreturn, 1) := by decide +kernel
theorem dX1_rankOfNode_43 : decode cX1_rankOfNode 43 = .ok (.iload_n 3, 1) := by decide +kernel
theorem dX1_rankOfNode_44 : decode cX1_rankOfNode 44 = .ok (.iconst 3, 1) := by decide +kernel
theorem dX1_rankOfNode_45 : decode cX1_rankOfNode 45 = .ok (.if_icmp .ne 11, 3) := by decide +kernel
theorem dX1_rankOfNode_48 : decode cX1_rankOfNode 48 = .ok (.aload_n 0, 1) := by decide +kernel
theorem dX1_rankOfNode_49 : decode cX1_rankOfNode 49 = .ok (.iload_n 2, 1) := by decide +kernel
theorem dX1_rankOfNode_50 : decode cX1_rankOfNode 50 = .ok (.iconst 1, 1) := by decide +kernel
theorem dX1_rankOfNode_51 : decode cX1_rankOfNode 51 = .ok (.iadd, 1) := by decide +kernel
theorem dX1_rankOfNode_52 : decode cX1_rankOfNode 52 = .ok (.invokevirtual 100, 3) := by decide +kernel
theorem dX1_rankOfNode_55 : decode cX1_rankOfNode 55 = .ok (.lreturn, 1) := by decide +kernel
theorem dX1_rankOfNode_56 : decode cX1_rankOfNode 56 = .ok (.iload 4, 2) := by decide +kernel
theorem dX1_rankOfNode_58 : decode cX1_rankOfNode 58 = .ok (.iconst 0, 1) := by decide +kernel
theorem dX1_rankOfNode_59 : decode cX1_rankOfNode 59 = .ok (.bipush 15, 2) := by decide +kernel
theorem dX1_rankOfNode_61 : decode cX1_rankOfNode 61 = .ok (.invokestatic 39, 3) := by decide +kernel
theorem dX1_rankOfNode_64 : decode cX1_rankOfNode 64 = .ok (.ifCond .eq 13, 3) := by decide +kernel
theorem dX1_rankOfNode_67 : decode cX1_rankOfNode 67 = .ok (.aload_n 0, 1) := by decide +kernel
theorem dX1_rankOfNode_68 : decode cX1_rankOfNode 68 = .ok (.getfield 15, 3) := by decide +kernel
theorem dX1_rankOfNode_71 : decode cX1_rankOfNode 71 = .ok (.iload 4, 2) := by decide +kernel
theorem dX1_rankOfNode_73 : decode cX1_rankOfNode 73 = .ok (.laload, 1) := by decide +kernel
theorem dX1_rankOfNode_74 : decode cX1_rankOfNode 74 = .ok (.goto 4, 3) := by decide +kernel
theorem dX1_rankOfNode_77 : decode cX1_rankOfNode 77 = .ok (.lconst 0, 1) := by decide +kernel
theorem dX1_rankOfNode_78 : decode cX1_rankOfNode 78 = .ok (.lstore 5, 2) := by decide +kernel
theorem dX1_rankOfNode_80 : decode cX1_rankOfNode 80 = .ok (.iload_n 3, 1) := by decide +kernel
theorem dX1_rankOfNode_81 : decode cX1_rankOfNode 81 = .ok (.bipush 8, 2) := by decide +kernel
theorem dX1_rankOfNode_83 : decode cX1_rankOfNode 83 = .ok (.if_icmp .ne 28, 3) := by decide +kernel
theorem dX1_rankOfNode_86 : decode cX1_rankOfNode 86 = .ok (.aload_n 0, 1) := by decide +kernel
theorem dX1_rankOfNode_87 : decode cX1_rankOfNode 87 = .ok (.iload 4, 2) := by decide +kernel
theorem dX1_rankOfNode_89 : decode cX1_rankOfNode 89 = .ok (.invokevirtual 63, 3) := by decide +kernel
theorem dX1_rankOfNode_92 : decode cX1_rankOfNode 92 = .ok (.ldc2_w 37, 3) := by decide +kernel
theorem dX1_rankOfNode_95 : decode cX1_rankOfNode 95 = .ok (.lload 5, 2) := by decide +kernel
theorem dX1_rankOfNode_97 : decode cX1_rankOfNode 97 = .ok (.lmul, 1) := by decide +kernel
theorem dX1_rankOfNode_98 : decode cX1_rankOfNode 98 = .ok (.ladd, 1) := by decide +kernel
theorem dX1_rankOfNode_99 : decode cX1_rankOfNode 99 = .ok (.aload_n 0, 1) := by decide +kernel
theorem dX1_rankOfNode_100 : decode cX1_rankOfNode 100 = .ok (.aload_n 1, 1) := by decide +kernel
theorem dX1_rankOfNode_101 : decode cX1_rankOfNode 101 = .ok (.iload_n 2, 1) := by decide +kernel
theorem dX1_rankOfNode_102 : decode cX1_rankOfNode 102 = .ok (.iconst 1, 1) := by decide +kernel
theorem dX1_rankOfNode_103 : decode cX1_rankOfNode 103 = .ok (.iadd, 1) := by decide +kernel
theorem dX1_rankOfNode_104 : decode cX1_rankOfNode 104 = .ok (.iload 4, 2) := by decide +kernel
theorem dX1_rankOfNode_106 : decode cX1_rankOfNode 106 = .ok (.invokevirtual 103, 3) := by decide +kernel
theorem dX1_rankOfNode_109 : decode cX1_rankOfNode 109 = .ok (.ladd, 1) := by decide +kernel
theorem dX1_rankOfNode_110 : decode cX1_rankOfNode 110 = .ok (.lreturn, 1) := by decide +kernel
theorem dX1_rankOfNode_111 : decode cX1_rankOfNode 111 = .ok (.aload_n 0, 1) := by decide +kernel
theorem dX1_rankOfNode_112 : decode cX1_rankOfNode 112 = .ok (.iload 4, 2) := by decide +kernel
theorem dX1_rankOfNode_114 : decode cX1_rankOfNode 114 = .ok (.invokevirtual 63, 3) := by decide +kernel
theorem dX1_rankOfNode_117 : decode cX1_rankOfNode 117 = .ok (.iload_n 3, 1) := by decide +kernel
theorem dX1_rankOfNode_118 : decode cX1_rankOfNode 118 = .ok (.iconst 4, 1) := by decide +kernel
theorem dX1_rankOfNode_119 : decode cX1_rankOfNode 119 = .ok (.isub, 1) := by decide +kernel
theorem dX1_rankOfNode_120 : decode cX1_rankOfNode 120 = .ok (.i2l, 1) := by decide +kernel
theorem dX1_rankOfNode_121 : decode cX1_rankOfNode 121 = .ok (.lload 5, 2) := by decide +kernel
theorem dX1_rankOfNode_123 : decode cX1_rankOfNode 123 = .ok (.lmul, 1) := by decide +kernel
theorem dX1_rankOfNode_124 : decode cX1_rankOfNode 124 = .ok (.ladd, 1) := by decide +kernel
theorem dX1_rankOfNode_125 : decode cX1_rankOfNode 125 = .ok (.aload_n 0, 1) := by decide +kernel
theorem dX1_rankOfNode_126 : decode cX1_rankOfNode 126 = .ok (.aload_n 1, 1) := by decide +kernel
theorem dX1_rankOfNode_127 : decode cX1_rankOfNode 127 = .ok (.iload_n 2, 1) := by decide +kernel
theorem dX1_rankOfNode_128 : decode cX1_rankOfNode 128 = .ok (.iconst 1, 1) := by decide +kernel
theorem dX1_rankOfNode_129 : decode cX1_rankOfNode 129 = .ok (.iadd, 1) := by decide +kernel
theorem dX1_rankOfNode_130 : decode cX1_rankOfNode 130 = .ok (.invokevirtual 107, 3) := by decide +kernel
theorem dX1_rankOfNode_133 : decode cX1_rankOfNode 133 = .ok (.ladd, 1) := by decide +kernel
theorem dX1_rankOfNode_134 : decode cX1_rankOfNode 134 = .ok (.lreturn, 1) := by decide +kernel
theorem dX1_rankAt_0 : decode cX1_rankAt 0 = .ok (.iload_n 1, 1) := by decide +kernel
theorem dX1_rankAt_1 : decode cX1_rankAt 1 = .ok (.iconst 0, 1) := by decide +kernel
theorem dX1_rankAt_2 : decode cX1_rankAt 2 = .ok (.bipush 15, 2) := by decide +kernel
theorem dX1_rankAt_4 : decode cX1_rankAt 4 = .ok (.invokestatic 39, 3) := by decide +kernel
theorem dX1_rankAt_7 : decode cX1_rankAt 7 = .ok (.ifCond .eq 12, 3) := by decide +kernel
theorem dX1_rankAt_10 : decode cX1_rankAt 10 = .ok (.aload_n 0, 1) := by decide +kernel
theorem dX1_rankAt_11 : decode cX1_rankAt 11 = .ok (.getfield 32, 3) := by decide +kernel
theorem dX1_rankAt_14 : decode cX1_rankAt 14 = .ok (.iload_n 1, 1) := by decide +kernel
theorem dX1_rankAt_15 : decode cX1_rankAt 15 = .ok (.laload, 1) := by decide +kernel
theorem dX1_rankAt_16 : decode cX1_rankAt 16 = .ok (.goto 4, 3) := by decide +kernel
theorem dX1_rankAt_19 : decode cX1_rankAt 19 = .ok (.lconst 0, 1) := by decide +kernel
theorem dX1_rankAt_20 : decode cX1_rankAt 20 = .ok (.lreturn, 1) := by decide +kernel
theorem dX1_rankOfTwo_0 : decode cX1_rankOfTwo 0 = .ok (.aload_n 1, 1) := by decide +kernel
theorem dX1_rankOfTwo_1 : decode cX1_rankOfTwo 1 = .ok (.iload_n 2, 1) := by decide +kernel
theorem dX1_rankOfTwo_2 : decode cX1_rankOfTwo 2 = .ok (.invokevirtual 110, 3) := by decide +kernel
theorem dX1_rankOfTwo_5 : decode cX1_rankOfTwo 5 = .ok (.istore_n 3, 1) := by decide +kernel
theorem dX1_rankOfTwo_6 : decode cX1_rankOfTwo 6 = .ok (.aload_n 1, 1) := by decide +kernel
theorem dX1_rankOfTwo_7 : decode cX1_rankOfTwo 7 = .ok (.iload_n 2, 1) := by decide +kernel
theorem dX1_rankOfTwo_8 : decode cX1_rankOfTwo 8 = .ok (.invokevirtual 97, 3) := by decide +kernel
theorem dX1_rankOfTwo_11 : decode cX1_rankOfTwo 11 = .ok (.istore 4, 2) := by decide +kernel
theorem dX1_rankOfTwo_13 : decode cX1_rankOfTwo 13 = .ok (.iload 4, 2) := by decide +kernel
theorem dX1_rankOfTwo_15 : decode cX1_rankOfTwo 15 = .ok (.aload_n 1, 1) := by decide +kernel
theorem dX1_rankOfTwo_16 : decode cX1_rankOfTwo 16 = .ok (.iload_n 3, 1) := by decide +kernel
theorem dX1_rankOfTwo_17 : decode cX1_rankOfTwo 17 = .ok (.invokevirtual 97, 3) := by decide +kernel
theorem dX1_rankOfTwo_20 : decode cX1_rankOfTwo 20 = .ok (.iadd, 1) := by decide +kernel
theorem dX1_rankOfTwo_21 : decode cX1_rankOfTwo 21 = .ok (.istore 5, 2) := by decide +kernel
theorem dX1_rankOfTwo_23 : decode cX1_rankOfTwo 23 = .ok (.aload_n 0, 1) := by decide +kernel
theorem dX1_rankOfTwo_24 : decode cX1_rankOfTwo 24 = .ok (.iload_n 2, 1) := by decide +kernel
theorem dX1_rankOfTwo_25 : decode cX1_rankOfTwo 25 = .ok (.invokevirtual 100, 3) := by decide +kernel
theorem dX1_rankOfTwo_28 : decode cX1_rankOfTwo 28 = .ok (.aload_n 0, 1) := by decide +kernel
theorem dX1_rankOfTwo_29 : decode cX1_rankOfTwo 29 = .ok (.iload 5, 2) := by decide +kernel
theorem dX1_rankOfTwo_31 : decode cX1_rankOfTwo 31 = .ok (.iload 4, 2) := by decide +kernel
theorem dX1_rankOfTwo_33 : decode cX1_rankOfTwo 33 = .ok (.isub, 1) := by decide +kernel
theorem dX1_rankOfTwo_34 : decode cX1_rankOfTwo 34 = .ok (.invokevirtual 63, 3) := by decide +kernel
theorem dX1_rankOfTwo_37 : decode cX1_rankOfTwo 37 = .ok (.lmul, 1) := by decide +kernel
theorem dX1_rankOfTwo_38 : decode cX1_rankOfTwo 38 = .ok (.aload_n 0, 1) := by decide +kernel
theorem dX1_rankOfTwo_39 : decode cX1_rankOfTwo 39 = .ok (.iload_n 3, 1) := by decide +kernel
theorem dX1_rankOfTwo_40 : decode cX1_rankOfTwo 40 = .ok (.invokevirtual 100, 3) := by decide +kernel
theorem dX1_rankOfTwo_43 : decode cX1_rankOfTwo 43 = .ok (.ladd, 1) := by decide +kernel
theorem dX1_rankOfTwo_44 : decode cX1_rankOfTwo 44 = .ok (.lstore 6, 2) := by decide +kernel
theorem dX1_rankOfTwo_46 : decode cX1_rankOfTwo 46 = .ok (.iconst 1, 1) := by decide +kernel
theorem dX1_rankOfTwo_47 : decode cX1_rankOfTwo 47 = .ok (.istore 8, 2) := by decide +kernel
theorem dX1_rankOfTwo_49 : decode cX1_rankOfTwo 49 = .ok (.iload 8, 2) := by decide +kernel
theorem dX1_rankOfTwo_51 : decode cX1_rankOfTwo 51 = .ok (.iload 4, 2) := by decide +kernel
theorem dX1_rankOfTwo_53 : decode cX1_rankOfTwo 53 = .ok (.if_icmp .ge 30, 3) := by decide +kernel
theorem dX1_rankOfTwo_56 : decode cX1_rankOfTwo 56 = .ok (.lload 6, 2) := by decide +kernel
theorem dX1_rankOfTwo_58 : decode cX1_rankOfTwo 58 = .ok (.aload_n 0, 1) := by decide +kernel
theorem dX1_rankOfTwo_59 : decode cX1_rankOfTwo 59 = .ok (.iload 8, 2) := by decide +kernel
theorem dX1_rankOfTwo_61 : decode cX1_rankOfTwo 61 = .ok (.invokevirtual 63, 3) := by decide +kernel
theorem dX1_rankOfTwo_64 : decode cX1_rankOfTwo 64 = .ok (.aload_n 0, 1) := by decide +kernel
theorem dX1_rankOfTwo_65 : decode cX1_rankOfTwo 65 = .ok (.iload 5, 2) := by decide +kernel
theorem dX1_rankOfTwo_67 : decode cX1_rankOfTwo 67 = .ok (.iload 8, 2) := by decide +kernel
theorem dX1_rankOfTwo_69 : decode cX1_rankOfTwo 69 = .ok (.isub, 1) := by decide +kernel
theorem dX1_rankOfTwo_70 : decode cX1_rankOfTwo 70 = .ok (.invokevirtual 63, 3) := by decide +kernel
theorem dX1_rankOfTwo_73 : decode cX1_rankOfTwo 73 = .ok (.lmul, 1) := by decide +kernel
theorem dX1_rankOfTwo_74 : decode cX1_rankOfTwo 74 = .ok (.ladd, 1) := by decide +kernel
theorem dX1_rankOfTwo_75 : decode cX1_rankOfTwo 75 = .ok (.lstore 6, 2) := by decide +kernel
theorem dX1_rankOfTwo_77 : decode cX1_rankOfTwo 77 = .ok (.iinc 8 1, 3) := by decide +kernel
theorem dX1_rankOfTwo_80 : decode cX1_rankOfTwo 80 = .ok (.goto (-31), 3) := by decide +kernel
theorem dX1_rankOfTwo_83 : decode cX1_rankOfTwo 83 = .ok (.lload 6, 2) := by decide +kernel
theorem dX1_rankOfTwo_85 : decode cX1_rankOfTwo 85 = .ok (.lreturn, 1) := by decide +kernel
theorem dX1_rankOfThree_0 : decode cX1_rankOfThree 0 = .ok (.aload_n 1, 1) := by decide +kernel
theorem dX1_rankOfThree_1 : decode cX1_rankOfThree 1 = .ok (.iload_n 2, 1) := by decide +kernel
theorem dX1_rankOfThree_2 : decode cX1_rankOfThree 2 = .ok (.invokevirtual 97, 3) := by decide +kernel
theorem dX1_rankOfThree_5 : decode cX1_rankOfThree 5 = .ok (.istore 4, 2) := by decide +kernel
theorem dX1_rankOfThree_7 : decode cX1_rankOfThree 7 = .ok (.aload_n 0, 1) := by decide +kernel
theorem dX1_rankOfThree_8 : decode cX1_rankOfThree 8 = .ok (.aload_n 1, 1) := by decide +kernel
theorem dX1_rankOfThree_9 : decode cX1_rankOfThree 9 = .ok (.aload_n 1, 1) := by decide +kernel
theorem dX1_rankOfThree_10 : decode cX1_rankOfThree 10 = .ok (.iload_n 2, 1) := by decide +kernel
theorem dX1_rankOfThree_11 : decode cX1_rankOfThree 11 = .ok (.invokevirtual 110, 3) := by decide +kernel
theorem dX1_rankOfThree_14 : decode cX1_rankOfThree 14 = .ok (.invokevirtual 107, 3) := by decide +kernel
theorem dX1_rankOfThree_17 : decode cX1_rankOfThree 17 = .ok (.lstore 5, 2) := by decide +kernel
theorem dX1_rankOfThree_19 : decode cX1_rankOfThree 19 = .ok (.iconst 1, 1) := by decide +kernel
theorem dX1_rankOfThree_20 : decode cX1_rankOfThree 20 = .ok (.istore 7, 2) := by decide +kernel
theorem dX1_rankOfThree_22 : decode cX1_rankOfThree 22 = .ok (.iload 7, 2) := by decide +kernel
theorem dX1_rankOfThree_24 : decode cX1_rankOfThree 24 = .ok (.iload 4, 2) := by decide +kernel
theorem dX1_rankOfThree_26 : decode cX1_rankOfThree 26 = .ok (.if_icmp .gt 57, 3) := by decide +kernel
theorem dX1_rankOfThree_29 : decode cX1_rankOfThree 29 = .ok (.iload 7, 2) := by decide +kernel
theorem dX1_rankOfThree_31 : decode cX1_rankOfThree 31 = .ok (.iload_n 3, 1) := by decide +kernel
theorem dX1_rankOfThree_32 : decode cX1_rankOfThree 32 = .ok (.if_icmp .gt 51, 3) := by decide +kernel
theorem dX1_rankOfThree_35 : decode cX1_rankOfThree 35 = .ok (.iload_n 3, 1) := by decide +kernel
theorem dX1_rankOfThree_36 : decode cX1_rankOfThree 36 = .ok (.bipush 15, 2) := by decide +kernel
theorem dX1_rankOfThree_38 : decode cX1_rankOfThree 38 = .ok (.if_icmp .gt 45, 3) := by decide +kernel
theorem dX1_rankOfThree_41 : decode cX1_rankOfThree 41 = .ok (.lload 5, 2) := by decide +kernel
theorem dX1_rankOfThree_43 : decode cX1_rankOfThree 43 = .ok (.iload 7, 2) := by decide +kernel
theorem dX1_rankOfThree_45 : decode cX1_rankOfThree 45 = .ok (.iload 4, 2) := by decide +kernel
theorem dX1_rankOfThree_47 : decode cX1_rankOfThree 47 = .ok (.if_icmp .ge 12, 3) := by decide +kernel
theorem dX1_rankOfThree_50 : decode cX1_rankOfThree 50 = .ok (.aload_n 0, 1) := by decide +kernel
theorem dX1_rankOfThree_51 : decode cX1_rankOfThree 51 = .ok (.iload 7, 2) := by decide +kernel
theorem dX1_rankOfThree_53 : decode cX1_rankOfThree 53 = .ok (.invokevirtual 63, 3) := by decide +kernel
theorem dX1_rankOfThree_56 : decode cX1_rankOfThree 56 = .ok (.goto 8, 3) := by decide +kernel
theorem dX1_rankOfThree_59 : decode cX1_rankOfThree 59 = .ok (.aload_n 0, 1) := by decide +kernel
theorem dX1_rankOfThree_60 : decode cX1_rankOfThree 60 = .ok (.iload_n 2, 1) := by decide +kernel
theorem dX1_rankOfThree_61 : decode cX1_rankOfThree 61 = .ok (.invokevirtual 100, 3) := by decide +kernel
theorem dX1_rankOfThree_64 : decode cX1_rankOfThree 64 = .ok (.aload_n 0, 1) := by decide +kernel
theorem dX1_rankOfThree_65 : decode cX1_rankOfThree 65 = .ok (.getfield 15, 3) := by decide +kernel
theorem dX1_rankOfThree_68 : decode cX1_rankOfThree 68 = .ok (.iload_n 3, 1) := by decide +kernel
theorem dX1_rankOfThree_69 : decode cX1_rankOfThree 69 = .ok (.iload 7, 2) := by decide +kernel
theorem dX1_rankOfThree_71 : decode cX1_rankOfThree 71 = .ok (.isub, 1) := by decide +kernel
theorem dX1_rankOfThree_72 : decode cX1_rankOfThree 72 = .ok (.laload, 1) := by decide +kernel
theorem dX1_rankOfThree_73 : decode cX1_rankOfThree 73 = .ok (.lmul, 1) := by decide +kernel
theorem dX1_rankOfThree_74 : decode cX1_rankOfThree 74 = .ok (.ladd, 1) := by decide +kernel
theorem dX1_rankOfThree_75 : decode cX1_rankOfThree 75 = .ok (.lstore 5, 2) := by decide +kernel
theorem dX1_rankOfThree_77 : decode cX1_rankOfThree 77 = .ok (.iinc 7 1, 3) := by decide +kernel
theorem dX1_rankOfThree_80 : decode cX1_rankOfThree 80 = .ok (.goto (-58), 3) := by decide +kernel
theorem dX1_rankOfThree_83 : decode cX1_rankOfThree 83 = .ok (.lload 5, 2) := by decide +kernel
theorem dX1_rankOfThree_85 : decode cX1_rankOfThree 85 = .ok (.lreturn, 1) := by decide +kernel
theorem dX2_init_0 : decode cX2_init 0 = .ok (.aload_n 0, 1) := by decide +kernel
theorem dX2_init_1 : decode cX2_init 1 = .ok (.invokespecial 3, 3) := by decide +kernel
theorem dX2_init_4 : decode cX2_init 4 = .ok (.aload_n 0, 1) := by decide +kernel
theorem dX2_init_5 : decode cX2_init 5 = .ok (.bipush 10, 2) := by decide +kernel
theorem dX2_init_7 : decode cX2_init 7 = .ok (.newarray .int, 2) := by decide +kernel
theorem dX2_init_9 : decode cX2_init 9 = .ok (.putfield 9, 3) := by decide +kernel
theorem dX2_init_12 : decode cX2_init 12 = .ok (.aload_n 0, 1) := by decide +kernel
theorem dX2_init_13 : decode cX2_init 13 = .ok (.bipush 10, 2) := by decide +kernel
theorem dX2_init_15 : decode cX2_init 15 = .ok (.newarray .int, 2) := by decide +kernel
theorem dX2_init_17 : decode cX2_init 17 = .ok (.putfield 15, 3) := by decide +kernel
theorem dX2_init_20 : decode cX2_init 20 = .ok (.aload_n 0, 1) := by decide +kernel
theorem dX2_init_21 : decode cX2_init 21 = .ok (.iconst 0, 1) := by decide +kernel
theorem dX2_init_22 : decode cX2_init 22 = .ok (.putfield 18, 3) := by decide +kernel
theorem dX2_init_25 : decode cX2_init 25 = .ok (.return_, 1) := by decide +kernel
theorem dX2_has_0 : decode cX2_has 0 = .ok (.iload_n 1, 1) := by decide +kernel
theorem dX2_has_1 : decode cX2_has 1 = .ok (.ifCond .lt 15, 3) := by decide +kernel
theorem dX2_has_4 : decode cX2_has 4 = .ok (.iload_n 1, 1) := by decide +kernel
theorem dX2_has_5 : decode cX2_has 5 = .ok (.aload_n 0, 1) := by decide +kernel
theorem dX2_has_6 : decode cX2_has 6 = .ok (.getfield 18, 3) := by decide +kernel
theorem dX2_has_9 : decode cX2_has 9 = .ok (.if_icmp .ge 7, 3) := by decide +kernel
theorem dX2_has_12 : decode cX2_has 12 = .ok (.iconst 1, 1) := by decide +kernel
theorem dX2_has_13 : decode cX2_has 13 = .ok (.goto 4, 3) := by decide +kernel
theorem dX2_has_16 : decode cX2_has 16 = .ok (.iconst 0, 1) := by decide +kernel
theorem dX2_has_17 : decode cX2_has 17 = .ok (.ireturn, 1) := by decide +kernel
theorem dX2_sortOf_0 : decode cX2_sortOf 0 = .ok (.aload_n 0, 1) := by decide +kernel
theorem dX2_sortOf_1 : decode cX2_sortOf 1 = .ok (.iload_n 1, 1) := by decide +kernel
theorem dX2_sortOf_2 : decode cX2_sortOf 2 = .ok (.invokevirtual 22, 3) := by decide +kernel
theorem dX2_sortOf_5 : decode cX2_sortOf 5 = .ok (.ifCond .eq 12, 3) := by decide +kernel
theorem dX2_sortOf_8 : decode cX2_sortOf 8 = .ok (.aload_n 0, 1) := by decide +kernel
theorem dX2_sortOf_9 : decode cX2_sortOf 9 = .ok (.getfield 9, 3) := by decide +kernel
theorem dX2_sortOf_12 : decode cX2_sortOf 12 = .ok (.iload_n 1, 1) := by decide +kernel
theorem dX2_sortOf_13 : decode cX2_sortOf 13 = .ok (.iaload, 1) := by decide +kernel
theorem dX2_sortOf_14 : decode cX2_sortOf 14 = .ok (.goto 4, 3) := by decide +kernel
theorem dX2_sortOf_17 : decode cX2_sortOf 17 = .ok (.iconst 0, 1) := by decide +kernel
theorem dX2_sortOf_18 : decode cX2_sortOf 18 = .ok (.ireturn, 1) := by decide +kernel
theorem dX2_faultOf_0 : decode cX2_faultOf 0 = .ok (.aload_n 0, 1) := by decide +kernel
theorem dX2_faultOf_1 : decode cX2_faultOf 1 = .ok (.iload_n 1, 1) := by decide +kernel
theorem dX2_faultOf_2 : decode cX2_faultOf 2 = .ok (.invokevirtual 22, 3) := by decide +kernel
theorem dX2_faultOf_5 : decode cX2_faultOf 5 = .ok (.ifCond .eq 12, 3) := by decide +kernel
theorem dX2_faultOf_8 : decode cX2_faultOf 8 = .ok (.aload_n 0, 1) := by decide +kernel
theorem dX2_faultOf_9 : decode cX2_faultOf 9 = .ok (.getfield 15, 3) := by decide +kernel
theorem dX2_faultOf_12 : decode cX2_faultOf 12 = .ok (.iload_n 1, 1) := by decide +kernel
theorem dX2_faultOf_13 : decode cX2_faultOf 13 = .ok (.iaload, 1) := by decide +kernel
theorem dX2_faultOf_14 : decode cX2_faultOf 14 = .ok (.goto 4, 3) := by decide +kernel
theorem dX2_faultOf_17 : decode cX2_faultOf 17 = .ok (.iconst 0, 1) := by decide +kernel
theorem dX2_faultOf_18 : decode cX2_faultOf 18 = .ok (.ireturn, 1) := by decide +kernel
theorem dX2_setFault_0 : decode cX2_setFault 0 = .ok (.aload_n 0, 1) := by decide +kernel
theorem dX2_setFault_1 : decode cX2_setFault 1 = .ok (.iload_n 1, 1) := by decide +kernel
theorem dX2_setFault_2 : decode cX2_setFault 2 = .ok (.invokevirtual 22, 3) := by decide +kernel
theorem dX2_setFault_5 : decode cX2_setFault 5 = .ok (.ifCond .eq 10, 3) := by decide +kernel
theorem dX2_setFault_8 : decode cX2_setFault 8 = .ok (.aload_n 0, 1) := by decide +kernel
theorem dX2_setFault_9 : decode cX2_setFault 9 = .ok (.getfield 15, 3) := by decide +kernel
theorem dX2_setFault_12 : decode cX2_setFault 12 = .ok (.iload_n 1, 1) := by decide +kernel
theorem dX2_setFault_13 : decode cX2_setFault 13 = .ok (.iload_n 2, 1) := by decide +kernel
theorem dX2_setFault_14 : decode cX2_setFault 14 = .ok (.iastore, 1) := by decide +kernel
theorem dX2_setFault_15 : decode cX2_setFault 15 = .ok (.return_, 1) := by decide +kernel
theorem dX2_addTurn_0 : decode cX2_addTurn 0 = .ok (.aload_n 0, 1) := by decide +kernel
theorem dX2_addTurn_1 : decode cX2_addTurn 1 = .ok (.getfield 18, 3) := by decide +kernel
theorem dX2_addTurn_4 : decode cX2_addTurn 4 = .ok (.ifCond .lt 42, 3) := by decide +kernel
theorem dX2_addTurn_7 : decode cX2_addTurn 7 = .ok (.aload_n 0, 1) := by decide +kernel
theorem dX2_addTurn_8 : decode cX2_addTurn 8 = .ok (.getfield 18, 3) := by decide +kernel
theorem dX2_addTurn_11 : decode cX2_addTurn 11 = .ok (.bipush 10, 2) := by decide +kernel
theorem dX2_addTurn_13 : decode cX2_addTurn 13 = .ok (.if_icmp .ge 33, 3) := by decide +kernel
theorem dX2_addTurn_16 : decode cX2_addTurn 16 = .ok (.aload_n 0, 1) := by decide +kernel
theorem dX2_addTurn_17 : decode cX2_addTurn 17 = .ok (.getfield 9, 3) := by decide +kernel
theorem dX2_addTurn_20 : decode cX2_addTurn 20 = .ok (.aload_n 0, 1) := by decide +kernel
theorem dX2_addTurn_21 : decode cX2_addTurn 21 = .ok (.getfield 18, 3) := by decide +kernel
theorem dX2_addTurn_24 : decode cX2_addTurn 24 = .ok (.iload_n 1, 1) := by decide +kernel
theorem dX2_addTurn_25 : decode cX2_addTurn 25 = .ok (.iastore, 1) := by decide +kernel
theorem dX2_addTurn_26 : decode cX2_addTurn 26 = .ok (.aload_n 0, 1) := by decide +kernel
theorem dX2_addTurn_27 : decode cX2_addTurn 27 = .ok (.getfield 15, 3) := by decide +kernel
theorem dX2_addTurn_30 : decode cX2_addTurn 30 = .ok (.aload_n 0, 1) := by decide +kernel
theorem dX2_addTurn_31 : decode cX2_addTurn 31 = .ok (.getfield 18, 3) := by decide +kernel
theorem dX2_addTurn_34 : decode cX2_addTurn 34 = .ok (.iload_n 2, 1) := by decide +kernel
theorem dX2_addTurn_35 : decode cX2_addTurn 35 = .ok (.iastore, 1) := by decide +kernel
theorem dX2_addTurn_36 : decode cX2_addTurn 36 = .ok (.aload_n 0, 1) := by decide +kernel
theorem dX2_addTurn_37 : decode cX2_addTurn 37 = .ok (.dup, 1) := by decide +kernel
theorem dX2_addTurn_38 : decode cX2_addTurn 38 = .ok (.getfield 18, 3) := by decide +kernel
theorem dX2_addTurn_41 : decode cX2_addTurn 41 = .ok (.iconst 1, 1) := by decide +kernel
theorem dX2_addTurn_42 : decode cX2_addTurn 42 = .ok (.iadd, 1) := by decide +kernel
theorem dX2_addTurn_43 : decode cX2_addTurn 43 = .ok (.putfield 18, 3) := by decide +kernel
theorem dX2_addTurn_46 : decode cX2_addTurn 46 = .ok (.return_, 1) := by decide +kernel
theorem dX3_init_0 : decode cX3_init 0 = .ok (.aload_n 0, 1) := by decide +kernel
theorem dX3_init_1 : decode cX3_init 1 = .ok (.invokespecial 3, 3) := by decide +kernel
theorem dX3_init_4 : decode cX3_init 4 = .ok (.aload_n 0, 1) := by decide +kernel
theorem dX3_init_5 : decode cX3_init 5 = .ok (.new 9, 3) := by decide +kernel
theorem dX3_init_8 : decode cX3_init 8 = .ok (.dup, 1) := by decide +kernel
theorem dX3_init_9 : decode cX3_init 9 = .ok (.invokespecial 11, 3) := by decide +kernel
theorem dX3_init_12 : decode cX3_init 12 = .ok (.putfield 12, 3) := by decide +kernel
theorem dX3_init_15 : decode cX3_init 15 = .ok (.aload_n 0, 1) := by decide +kernel
theorem dX3_init_16 : decode cX3_init 16 = .ok (.bipush 60, 2) := by decide +kernel
theorem dX3_init_18 : decode cX3_init 18 = .ok (.newarray .int, 2) := by decide +kernel
theorem dX3_init_20 : decode cX3_init 20 = .ok (.putfield 18, 3) := by decide +kernel
theorem dX3_init_23 : decode cX3_init 23 = .ok (.aload_n 0, 1) := by decide +kernel
theorem dX3_init_24 : decode cX3_init 24 = .ok (.iconst 0, 1) := by decide +kernel
theorem dX3_init_25 : decode cX3_init 25 = .ok (.putfield 22, 3) := by decide +kernel
theorem dX3_init_28 : decode cX3_init 28 = .ok (.return_, 1) := by decide +kernel
theorem dX3_clear_0 : decode cX3_clear 0 = .ok (.aload_n 0, 1) := by decide +kernel
theorem dX3_clear_1 : decode cX3_clear 1 = .ok (.getfield 12, 3) := by decide +kernel
theorem dX3_clear_4 : decode cX3_clear 4 = .ok (.invokevirtual 26, 3) := by decide +kernel
theorem dX3_clear_7 : decode cX3_clear 7 = .ok (.aload_n 0, 1) := by decide +kernel
theorem dX3_clear_8 : decode cX3_clear 8 = .ok (.iconst 0, 1) := by decide +kernel
theorem dX3_clear_9 : decode cX3_clear 9 = .ok (.putfield 22, 3) := by decide +kernel
theorem dX3_clear_12 : decode cX3_clear 12 = .ok (.return_, 1) := by decide +kernel
theorem dX3_put_0 : decode cX3_put 0 = .ok (.aload_n 0, 1) := by decide +kernel
theorem dX3_put_1 : decode cX3_put 1 = .ok (.getfield 22, 3) := by decide +kernel
theorem dX3_put_4 : decode cX3_put 4 = .ok (.iload_n 1, 1) := by decide +kernel
theorem dX3_put_5 : decode cX3_put 5 = .ok (.invokestatic 29, 3) := by decide +kernel
theorem dX3_put_8 : decode cX3_put 8 = .ok (.isub, 1) := by decide +kernel
theorem dX3_put_9 : decode cX3_put 9 = .ok (.istore_n 3, 1) := by decide +kernel
theorem dX3_put_10 : decode cX3_put 10 = .ok (.iload_n 3, 1) := by decide +kernel
theorem dX3_put_11 : decode cX3_put 11 = .ok (.ifCond .lt 9, 3) := by decide +kernel
theorem dX3_put_14 : decode cX3_put 14 = .ok (.iload_n 3, 1) := by decide +kernel
theorem dX3_put_15 : decode cX3_put 15 = .ok (.bipush 60, 2) := by decide +kernel
theorem dX3_put_17 : decode cX3_put 17 = .ok (.if_icmp .lt 4, 3) := by decide +kernel
theorem dX3_put_20 : decode cX3_put 20 = .ok (.return_, 1) := by decide +kernel
theorem dX3_put_21 : decode cX3_put 21 = .ok (.iload_n 3, 1) := by decide +kernel
theorem dX3_put_22 : decode cX3_put 22 = .ok (.aload_n 0, 1) := by decide +kernel
theorem dX3_put_23 : decode cX3_put 23 = .ok (.getfield 22, 3) := by decide +kernel
theorem dX3_put_26 : decode cX3_put 26 = .ok (.if_icmp .ge 12, 3) := by decide +kernel
theorem dX3_put_29 : decode cX3_put 29 = .ok (.aload_n 0, 1) := by decide +kernel
theorem dX3_put_30 : decode cX3_put 30 = .ok (.getfield 18, 3) := by decide +kernel
theorem dX3_put_33 : decode cX3_put 33 = .ok (.iload_n 3, 1) := by decide +kernel
theorem dX3_put_34 : decode cX3_put 34 = .ok (.iaload, 1) := by decide +kernel
theorem dX3_put_35 : decode cX3_put 35 = .ok (.goto 10, 3) := by decide +kernel
theorem dX3_put_38 : decode cX3_put 38 = .ok (.aload_n 0, 1) := by decide +kernel
theorem dX3_put_39 : decode cX3_put 39 = .ok (.getfield 12, 3) := by decide +kernel
theorem dX3_put_42 : decode cX3_put 42 = .ok (.getfield 33, 3) := by decide +kernel
theorem dX3_put_45 : decode cX3_put 45 = .ok (.istore 4, 2) := by decide +kernel
theorem dX3_put_47 : decode cX3_put 47 = .ok (.aload_n 0, 1) := by decide +kernel
theorem dX3_put_48 : decode cX3_put 48 = .ok (.getfield 12, 3) := by decide +kernel
theorem dX3_put_51 : decode cX3_put 51 = .ok (.iload 4, 2) := by decide +kernel
theorem dX3_put_53 : decode cX3_put 53 = .ok (.iload_n 1, 1) := by decide +kernel
theorem dX3_put_54 : decode cX3_put 54 = .ok (.iload_n 2, 1) := by decide +kernel
theorem dX3_put_55 : decode cX3_put 55 = .ok (.invokevirtual 36, 3) := by decide +kernel
theorem dX3_put_58 : decode cX3_put 58 = .ok (.aload_n 0, 1) := by decide +kernel
theorem dX3_put_59 : decode cX3_put 59 = .ok (.getfield 18, 3) := by decide +kernel
theorem dX3_put_62 : decode cX3_put 62 = .ok (.iload_n 3, 1) := by decide +kernel
theorem dX3_put_63 : decode cX3_put 63 = .ok (.iload 4, 2) := by decide +kernel
theorem dX3_put_65 : decode cX3_put 65 = .ok (.iastore, 1) := by decide +kernel
theorem dX3_put_66 : decode cX3_put 66 = .ok (.aload_n 0, 1) := by decide +kernel
theorem dX3_put_67 : decode cX3_put 67 = .ok (.iload_n 3, 1) := by decide +kernel
theorem dX3_put_68 : decode cX3_put 68 = .ok (.iconst 1, 1) := by decide +kernel
theorem dX3_put_69 : decode cX3_put 69 = .ok (.iadd, 1) := by decide +kernel
theorem dX3_put_70 : decode cX3_put 70 = .ok (.putfield 22, 3) := by decide +kernel
theorem dX3_put_73 : decode cX3_put 73 = .ok (.return_, 1) := by decide +kernel
theorem dX4_fire_0 : decode cX4_fire 0 = .ok (.iload_n 2, 1) := by decide +kernel
theorem dX4_fire_1 : decode cX4_fire 1 = .ok (.tableswitch 94 0 6 #[43, 50, 57, 64, 71, 78, 87], 43) := by decide +kernel
theorem dX4_fire_44 : decode cX4_fire 44 = .ok (.aload_n 0, 1) := by decide +kernel
theorem dX4_fire_45 : decode cX4_fire 45 = .ok (.iload_n 1, 1) := by decide +kernel
theorem dX4_fire_46 : decode cX4_fire 46 = .ok (.iload_n 3, 1) := by decide +kernel
theorem dX4_fire_47 : decode cX4_fire 47 = .ok (.invokestatic 9, 3) := by decide +kernel
theorem dX4_fire_50 : decode cX4_fire 50 = .ok (.ireturn, 1) := by decide +kernel
theorem dX4_fire_51 : decode cX4_fire 51 = .ok (.aload_n 0, 1) := by decide +kernel
theorem dX4_fire_52 : decode cX4_fire 52 = .ok (.iload_n 1, 1) := by decide +kernel
theorem dX4_fire_53 : decode cX4_fire 53 = .ok (.iload_n 3, 1) := by decide +kernel
theorem dX4_fire_54 : decode cX4_fire 54 = .ok (.invokestatic 15, 3) := by decide +kernel
theorem dX4_fire_57 : decode cX4_fire 57 = .ok (.ireturn, 1) := by decide +kernel
theorem dX4_fire_58 : decode cX4_fire 58 = .ok (.aload_n 0, 1) := by decide +kernel
theorem dX4_fire_59 : decode cX4_fire 59 = .ok (.iload_n 1, 1) := by decide +kernel
theorem dX4_fire_60 : decode cX4_fire 60 = .ok (.iload_n 3, 1) := by decide +kernel
theorem dX4_fire_61 : decode cX4_fire 61 = .ok (.invokestatic 18, 3) := by decide +kernel
theorem dX4_fire_64 : decode cX4_fire 64 = .ok (.ireturn, 1) := by decide +kernel
theorem dX4_fire_65 : decode cX4_fire 65 = .ok (.aload_n 0, 1) := by decide +kernel
theorem dX4_fire_66 : decode cX4_fire 66 = .ok (.iload_n 1, 1) := by decide +kernel
theorem dX4_fire_67 : decode cX4_fire 67 = .ok (.iload_n 3, 1) := by decide +kernel
theorem dX4_fire_68 : decode cX4_fire 68 = .ok (.invokestatic 21, 3) := by decide +kernel
theorem dX4_fire_71 : decode cX4_fire 71 = .ok (.ireturn, 1) := by decide +kernel
theorem dX4_fire_72 : decode cX4_fire 72 = .ok (.aload_n 0, 1) := by decide +kernel
theorem dX4_fire_73 : decode cX4_fire 73 = .ok (.iload_n 1, 1) := by decide +kernel
theorem dX4_fire_74 : decode cX4_fire 74 = .ok (.iload_n 3, 1) := by decide +kernel
theorem dX4_fire_75 : decode cX4_fire 75 = .ok (.invokestatic 24, 3) := by decide +kernel
theorem dX4_fire_78 : decode cX4_fire 78 = .ok (.ireturn, 1) := by decide +kernel
theorem dX4_fire_79 : decode cX4_fire 79 = .ok (.aload_n 0, 1) := by decide +kernel
theorem dX4_fire_80 : decode cX4_fire 80 = .ok (.iload_n 1, 1) := by decide +kernel
theorem dX4_fire_81 : decode cX4_fire 81 = .ok (.iload_n 3, 1) := by decide +kernel
theorem dX4_fire_82 : decode cX4_fire 82 = .ok (.iload 4, 2) := by decide +kernel
theorem dX4_fire_84 : decode cX4_fire 84 = .ok (.invokestatic 27, 3) := by decide +kernel
theorem dX4_fire_87 : decode cX4_fire 87 = .ok (.ireturn, 1) := by decide +kernel
theorem dX4_fire_88 : decode cX4_fire 88 = .ok (.aload_n 0, 1) := by decide +kernel
theorem dX4_fire_89 : decode cX4_fire 89 = .ok (.iload_n 1, 1) := by decide +kernel
theorem dX4_fire_90 : decode cX4_fire 90 = .ok (.iload_n 3, 1) := by decide +kernel
theorem dX4_fire_91 : decode cX4_fire 91 = .ok (.invokestatic 31, 3) := by decide +kernel
theorem dX4_fire_94 : decode cX4_fire 94 = .ok (.ireturn, 1) := by decide +kernel
theorem dX4_fire_95 : decode cX4_fire 95 = .ok (.iconst 0, 1) := by decide +kernel
theorem dX4_fire_96 : decode cX4_fire 96 = .ok (.ireturn, 1) := by decide +kernel
theorem dX4_fold_0 : decode cX4_fold 0 = .ok (.aload_n 0, 1) := by decide +kernel
theorem dX4_fold_1 : decode cX4_fold 1 = .ok (.iload_n 1, 1) := by decide +kernel
theorem dX4_fold_2 : decode cX4_fold 2 = .ok (.invokevirtual 34, 3) := by decide +kernel
theorem dX4_fold_5 : decode cX4_fold 5 = .ok (.istore_n 3, 1) := by decide +kernel
theorem dX4_fold_6 : decode cX4_fold 6 = .ok (.iload_n 1, 1) := by decide +kernel
theorem dX4_fold_7 : decode cX4_fold 7 = .ok (.iconst 1, 1) := by decide +kernel
theorem dX4_fold_8 : decode cX4_fold 8 = .ok (.iadd, 1) := by decide +kernel
theorem dX4_fold_9 : decode cX4_fold 9 = .ok (.istore 4, 2) := by decide +kernel
theorem dX4_fold_11 : decode cX4_fold 11 = .ok (.iload_n 3, 1) := by decide +kernel
theorem dX4_fold_12 : decode cX4_fold 12 = .ok (.iconst 3, 1) := by decide +kernel
theorem dX4_fold_13 : decode cX4_fold 13 = .ok (.if_icmp .lt 18, 3) := by decide +kernel
theorem dX4_fold_16 : decode cX4_fold 16 = .ok (.iload_n 3, 1) := by decide +kernel
theorem dX4_fold_17 : decode cX4_fold 17 = .ok (.bipush 7, 2) := by decide +kernel
theorem dX4_fold_19 : decode cX4_fold 19 = .ok (.if_icmp .gt 12, 3) := by decide +kernel
theorem dX4_fold_22 : decode cX4_fold 22 = .ok (.aload_n 0, 1) := by decide +kernel
theorem dX4_fold_23 : decode cX4_fold 23 = .ok (.iload 4, 2) := by decide +kernel
theorem dX4_fold_25 : decode cX4_fold 25 = .ok (.invokevirtual 34, 3) := by decide +kernel
theorem dX4_fold_28 : decode cX4_fold 28 = .ok (.ifCond .eq 5, 3) := by decide +kernel
theorem dX4_fold_31 : decode cX4_fold 31 = .ok (.iconst 0, 1) := by decide +kernel
theorem dX4_fold_32 : decode cX4_fold 32 = .ok (.ireturn, 1) := by decide +kernel
theorem dX4_fold_33 : decode cX4_fold 33 = .ok (.iload_n 3, 1) := by decide +kernel
theorem dX4_fold_34 : decode cX4_fold 34 = .ok (.iconst 3, 1) := by decide +kernel
theorem dX4_fold_35 : decode cX4_fold 35 = .ok (.if_icmp .ne 17, 3) := by decide +kernel
theorem dX4_fold_38 : decode cX4_fold 38 = .ok (.aload_n 0, 1) := by decide +kernel
theorem dX4_fold_39 : decode cX4_fold 39 = .ok (.iload_n 1, 1) := by decide +kernel
theorem dX4_fold_40 : decode cX4_fold 40 = .ok (.aload_n 0, 1) := by decide +kernel
theorem dX4_fold_41 : decode cX4_fold 41 = .ok (.iload 4, 2) := by decide +kernel
theorem dX4_fold_43 : decode cX4_fold 43 = .ok (.invokevirtual 40, 3) := by decide +kernel
theorem dX4_fold_46 : decode cX4_fold 46 = .ok (.ineg, 1) := by decide +kernel
theorem dX4_fold_47 : decode cX4_fold 47 = .ok (.invokevirtual 43, 3) := by decide +kernel
theorem dX4_fold_50 : decode cX4_fold 50 = .ok (.iconst 1, 1) := by decide +kernel
theorem dX4_fold_51 : decode cX4_fold 51 = .ok (.ireturn, 1) := by decide +kernel
theorem dX4_fold_52 : decode cX4_fold 52 = .ok (.aload_n 0, 1) := by decide +kernel
theorem dX4_fold_53 : decode cX4_fold 53 = .ok (.iload 4, 2) := by decide +kernel
theorem dX4_fold_55 : decode cX4_fold 55 = .ok (.invokevirtual 47, 3) := by decide +kernel
theorem dX4_fold_58 : decode cX4_fold 58 = .ok (.istore 5, 2) := by decide +kernel
theorem dX4_fold_60 : decode cX4_fold 60 = .ok (.aload_n 0, 1) := by decide +kernel
theorem dX4_fold_61 : decode cX4_fold 61 = .ok (.iload 5, 2) := by decide +kernel
theorem dX4_fold_63 : decode cX4_fold 63 = .ok (.invokevirtual 34, 3) := by decide +kernel
theorem dX4_fold_66 : decode cX4_fold 66 = .ok (.ifCond .ne 18, 3) := by decide +kernel
theorem dX4_fold_69 : decode cX4_fold 69 = .ok (.iload_n 3, 1) := by decide +kernel
theorem dX4_fold_70 : decode cX4_fold 70 = .ok (.bipush 7, 2) := by decide +kernel
theorem dX4_fold_72 : decode cX4_fold 72 = .ok (.if_icmp .ne 14, 3) := by decide +kernel
theorem dX4_fold_75 : decode cX4_fold 75 = .ok (.aload_n 0, 1) := by decide +kernel
theorem dX4_fold_76 : decode cX4_fold 76 = .ok (.iload 5, 2) := by decide +kernel
theorem dX4_fold_78 : decode cX4_fold 78 = .ok (.invokevirtual 40, 3) := by decide +kernel
theorem dX4_fold_81 : decode cX4_fold 81 = .ok (.ifCond .ne 5, 3) := by decide +kernel
theorem dX4_fold_84 : decode cX4_fold 84 = .ok (.iconst 0, 1) := by decide +kernel
theorem dX4_fold_85 : decode cX4_fold 85 = .ok (.ireturn, 1) := by decide +kernel
theorem dX4_fold_86 : decode cX4_fold 86 = .ok (.iload_n 3, 1) := by decide +kernel
theorem dX4_fold_87 : decode cX4_fold 87 = .ok (.aload_n 0, 1) := by decide +kernel
theorem dX4_fold_88 : decode cX4_fold 88 = .ok (.iload 4, 2) := by decide +kernel
theorem dX4_fold_90 : decode cX4_fold 90 = .ok (.invokevirtual 40, 3) := by decide +kernel
theorem dX4_fold_93 : decode cX4_fold 93 = .ok (.aload_n 0, 1) := by decide +kernel
theorem dX4_fold_94 : decode cX4_fold 94 = .ok (.iload 5, 2) := by decide +kernel
theorem dX4_fold_96 : decode cX4_fold 96 = .ok (.invokevirtual 40, 3) := by decide +kernel
theorem dX4_fold_99 : decode cX4_fold 99 = .ok (.invokestatic 50, 3) := by decide +kernel
theorem dX4_fold_102 : decode cX4_fold 102 = .ok (.istore 6, 2) := by decide +kernel
theorem dX4_fold_104 : decode cX4_fold 104 = .ok (.iload_n 3, 1) := by decide +kernel
theorem dX4_fold_105 : decode cX4_fold 105 = .ok (.iconst 5, 1) := by decide +kernel
theorem dX4_fold_106 : decode cX4_fold 106 = .ok (.if_icmp .ne 26, 3) := by decide +kernel
theorem dX4_fold_109 : decode cX4_fold 109 = .ok (.iload_n 2, 1) := by decide +kernel
theorem dX4_fold_110 : decode cX4_fold 110 = .ok (.iconst 1, 1) := by decide +kernel
theorem dX4_fold_111 : decode cX4_fold 111 = .ok (.if_icmp .ne 21, 3) := by decide +kernel
theorem dX4_fold_114 : decode cX4_fold 114 = .ok (.aload_n 0, 1) := by decide +kernel
theorem dX4_fold_115 : decode cX4_fold 115 = .ok (.iload 5, 2) := by decide +kernel
theorem dX4_fold_117 : decode cX4_fold 117 = .ok (.invokevirtual 40, 3) := by decide +kernel
theorem dX4_fold_120 : decode cX4_fold 120 = .ok (.aload_n 0, 1) := by decide +kernel
theorem dX4_fold_121 : decode cX4_fold 121 = .ok (.iload 4, 2) := by decide +kernel
theorem dX4_fold_123 : decode cX4_fold 123 = .ok (.invokevirtual 40, 3) := by decide +kernel
theorem dX4_fold_126 : decode cX4_fold 126 = .ok (.isub, 1) := by decide +kernel
theorem dX4_fold_127 : decode cX4_fold 127 = .ok (.istore 6, 2) := by decide +kernel
theorem dX4_fold_129 : decode cX4_fold 129 = .ok (.goto 19, 3) := by decide +kernel
theorem dX4_fold_132 : decode cX4_fold 132 = .ok (.iload_n 3, 1) := by decide +kernel
theorem dX4_fold_133 : decode cX4_fold 133 = .ok (.bipush 6, 2) := by decide +kernel
theorem dX4_fold_135 : decode cX4_fold 135 = .ok (.if_icmp .ne 13, 3) := by decide +kernel
theorem dX4_fold_138 : decode cX4_fold 138 = .ok (.iload_n 2, 1) := by decide +kernel
theorem dX4_fold_139 : decode cX4_fold 139 = .ok (.iconst 2, 1) := by decide +kernel
theorem dX4_fold_140 : decode cX4_fold 140 = .ok (.if_icmp .ne 8, 3) := by decide +kernel
theorem dX4_fold_143 : decode cX4_fold 143 = .ok (.iload 6, 2) := by decide +kernel
theorem dX4_fold_145 : decode cX4_fold 145 = .ok (.i2s, 1) := by decide +kernel
theorem dX4_fold_146 : decode cX4_fold 146 = .ok (.istore 6, 2) := by decide +kernel
theorem dX4_fold_148 : decode cX4_fold 148 = .ok (.aload_n 0, 1) := by decide +kernel
theorem dX4_fold_149 : decode cX4_fold 149 = .ok (.iload_n 1, 1) := by decide +kernel
theorem dX4_fold_150 : decode cX4_fold 150 = .ok (.iload 6, 2) := by decide +kernel
theorem dX4_fold_152 : decode cX4_fold 152 = .ok (.invokevirtual 43, 3) := by decide +kernel
theorem dX4_fold_155 : decode cX4_fold 155 = .ok (.iconst 1, 1) := by decide +kernel
theorem dX4_fold_156 : decode cX4_fold 156 = .ok (.ireturn, 1) := by decide +kernel
theorem dX4_zero_0 : decode cX4_zero 0 = .ok (.iload_n 1, 1) := by decide +kernel
theorem dX4_zero_1 : decode cX4_zero 1 = .ok (.iconst 1, 1) := by decide +kernel
theorem dX4_zero_2 : decode cX4_zero 2 = .ok (.iadd, 1) := by decide +kernel
theorem dX4_zero_3 : decode cX4_zero 3 = .ok (.istore_n 3, 1) := by decide +kernel
theorem dX4_zero_4 : decode cX4_zero 4 = .ok (.aload_n 0, 1) := by decide +kernel
theorem dX4_zero_5 : decode cX4_zero 5 = .ok (.iload_n 3, 1) := by decide +kernel
theorem dX4_zero_6 : decode cX4_zero 6 = .ok (.invokevirtual 47, 3) := by decide +kernel
theorem dX4_zero_9 : decode cX4_zero 9 = .ok (.istore 4, 2) := by decide +kernel
theorem dX4_zero_11 : decode cX4_zero 11 = .ok (.iconst (-1), 1) := by decide +kernel
theorem dX4_zero_12 : decode cX4_zero 12 = .ok (.istore 5, 2) := by decide +kernel
theorem dX4_zero_14 : decode cX4_zero 14 = .ok (.aload_n 0, 1) := by decide +kernel
theorem dX4_zero_15 : decode cX4_zero 15 = .ok (.iload_n 1, 1) := by decide +kernel
theorem dX4_zero_16 : decode cX4_zero 16 = .ok (.invokevirtual 34, 3) := by decide +kernel
theorem dX4_zero_19 : decode cX4_zero 19 = .ok (.tableswitch 135 4 7 #[29, 63, 102, 115], 29) := by decide +kernel
theorem dX4_zero_48 : decode cX4_zero 48 = .ok (.aload_n 0, 1) := by decide +kernel
theorem dX4_zero_49 : decode cX4_zero 49 = .ok (.iload 4, 2) := by decide +kernel
theorem dX4_zero_51 : decode cX4_zero 51 = .ok (.iconst 0, 1) := by decide +kernel
theorem dX4_zero_52 : decode cX4_zero 52 = .ok (.invokevirtual 54, 3) := by decide +kernel
theorem dX4_zero_55 : decode cX4_zero 55 = .ok (.ifCond .eq 7, 3) := by decide +kernel
theorem dX4_zero_58 : decode cX4_zero 58 = .ok (.iload_n 3, 1) := by decide +kernel
theorem dX4_zero_59 : decode cX4_zero 59 = .ok (.goto 18, 3) := by decide +kernel
theorem dX4_zero_62 : decode cX4_zero 62 = .ok (.aload_n 0, 1) := by decide +kernel
theorem dX4_zero_63 : decode cX4_zero 63 = .ok (.iload_n 3, 1) := by decide +kernel
theorem dX4_zero_64 : decode cX4_zero 64 = .ok (.iconst 0, 1) := by decide +kernel
theorem dX4_zero_65 : decode cX4_zero 65 = .ok (.invokevirtual 54, 3) := by decide +kernel
theorem dX4_zero_68 : decode cX4_zero 68 = .ok (.ifCond .eq 8, 3) := by decide +kernel
theorem dX4_zero_71 : decode cX4_zero 71 = .ok (.iload 4, 2) := by decide +kernel
theorem dX4_zero_73 : decode cX4_zero 73 = .ok (.goto 4, 3) := by decide +kernel
theorem dX4_zero_76 : decode cX4_zero 76 = .ok (.iconst (-1), 1) := by decide +kernel
theorem dX4_zero_77 : decode cX4_zero 77 = .ok (.istore 5, 2) := by decide +kernel
theorem dX4_zero_79 : decode cX4_zero 79 = .ok (.goto 75, 3) := by decide +kernel
theorem dX4_zero_82 : decode cX4_zero 82 = .ok (.aload_n 0, 1) := by decide +kernel
theorem dX4_zero_83 : decode cX4_zero 83 = .ok (.iload 4, 2) := by decide +kernel
theorem dX4_zero_85 : decode cX4_zero 85 = .ok (.iconst 0, 1) := by decide +kernel
theorem dX4_zero_86 : decode cX4_zero 86 = .ok (.invokevirtual 54, 3) := by decide +kernel
theorem dX4_zero_89 : decode cX4_zero 89 = .ok (.ifCond .eq 7, 3) := by decide +kernel
theorem dX4_zero_92 : decode cX4_zero 92 = .ok (.iload_n 3, 1) := by decide +kernel
theorem dX4_zero_93 : decode cX4_zero 93 = .ok (.goto 23, 3) := by decide +kernel
theorem dX4_zero_96 : decode cX4_zero 96 = .ok (.iload_n 2, 1) := by decide +kernel
theorem dX4_zero_97 : decode cX4_zero 97 = .ok (.iconst 1, 1) := by decide +kernel
theorem dX4_zero_98 : decode cX4_zero 98 = .ok (.if_icmp .ne 17, 3) := by decide +kernel
theorem dX4_zero_101 : decode cX4_zero 101 = .ok (.aload_n 0, 1) := by decide +kernel
theorem dX4_zero_102 : decode cX4_zero 102 = .ok (.iload_n 3, 1) := by decide +kernel
theorem dX4_zero_103 : decode cX4_zero 103 = .ok (.iconst 0, 1) := by decide +kernel
theorem dX4_zero_104 : decode cX4_zero 104 = .ok (.invokevirtual 54, 3) := by decide +kernel
theorem dX4_zero_107 : decode cX4_zero 107 = .ok (.ifCond .eq 8, 3) := by decide +kernel
theorem dX4_zero_110 : decode cX4_zero 110 = .ok (.iload 4, 2) := by decide +kernel
theorem dX4_zero_112 : decode cX4_zero 112 = .ok (.goto 4, 3) := by decide +kernel
theorem dX4_zero_115 : decode cX4_zero 115 = .ok (.iconst (-1), 1) := by decide +kernel
theorem dX4_zero_116 : decode cX4_zero 116 = .ok (.istore 5, 2) := by decide +kernel
theorem dX4_zero_118 : decode cX4_zero 118 = .ok (.goto 36, 3) := by decide +kernel
theorem dX4_zero_121 : decode cX4_zero 121 = .ok (.aload_n 0, 1) := by decide +kernel
theorem dX4_zero_122 : decode cX4_zero 122 = .ok (.iload_n 3, 1) := by decide +kernel
theorem dX4_zero_123 : decode cX4_zero 123 = .ok (.iload 4, 2) := by decide +kernel
theorem dX4_zero_125 : decode cX4_zero 125 = .ok (.iload_n 2, 1) := by decide +kernel
theorem dX4_zero_126 : decode cX4_zero 126 = .ok (.invokestatic 58, 3) := by decide +kernel
theorem dX4_zero_129 : decode cX4_zero 129 = .ok (.istore 5, 2) := by decide +kernel
theorem dX4_zero_131 : decode cX4_zero 131 = .ok (.goto 23, 3) := by decide +kernel
theorem dX4_zero_134 : decode cX4_zero 134 = .ok (.aload_n 0, 1) := by decide +kernel
theorem dX4_zero_135 : decode cX4_zero 135 = .ok (.iload 4, 2) := by decide +kernel
theorem dX4_zero_137 : decode cX4_zero 137 = .ok (.iconst 1, 1) := by decide +kernel
theorem dX4_zero_138 : decode cX4_zero 138 = .ok (.invokevirtual 54, 3) := by decide +kernel
theorem dX4_zero_141 : decode cX4_zero 141 = .ok (.ifCond .eq 7, 3) := by decide +kernel
theorem dX4_zero_144 : decode cX4_zero 144 = .ok (.iload_n 3, 1) := by decide +kernel
theorem dX4_zero_145 : decode cX4_zero 145 = .ok (.goto 4, 3) := by decide +kernel
theorem dX4_zero_148 : decode cX4_zero 148 = .ok (.iconst (-1), 1) := by decide +kernel
theorem dX4_zero_149 : decode cX4_zero 149 = .ok (.istore 5, 2) := by decide +kernel
theorem dX4_zero_151 : decode cX4_zero 151 = .ok (.goto 3, 3) := by decide +kernel
theorem dX4_zero_154 : decode cX4_zero 154 = .ok (.iload 5, 2) := by decide +kernel
theorem dX4_zero_156 : decode cX4_zero 156 = .ok (.ifCond .ge 5, 3) := by decide +kernel
theorem dX4_zero_159 : decode cX4_zero 159 = .ok (.iconst 0, 1) := by decide +kernel
theorem dX4_zero_160 : decode cX4_zero 160 = .ok (.ireturn, 1) := by decide +kernel
theorem dX4_zero_161 : decode cX4_zero 161 = .ok (.aload_n 0, 1) := by decide +kernel
theorem dX4_zero_162 : decode cX4_zero 162 = .ok (.iload_n 1, 1) := by decide +kernel
theorem dX4_zero_163 : decode cX4_zero 163 = .ok (.iload 5, 2) := by decide +kernel
theorem dX4_zero_165 : decode cX4_zero 165 = .ok (.invokevirtual 62, 3) := by decide +kernel
theorem dX4_zero_168 : decode cX4_zero 168 = .ok (.iconst 1, 1) := by decide +kernel
theorem dX4_zero_169 : decode cX4_zero 169 = .ok (.ireturn, 1) := by decide +kernel
theorem dX4_staysOfTimes_0 : decode cX4_staysOfTimes 0 = .ok (.aload_n 0, 1) := by decide +kernel
theorem dX4_staysOfTimes_1 : decode cX4_staysOfTimes 1 = .ok (.iload_n 2, 1) := by decide +kernel
theorem dX4_staysOfTimes_2 : decode cX4_staysOfTimes 2 = .ok (.iconst 1, 1) := by decide +kernel
theorem dX4_staysOfTimes_3 : decode cX4_staysOfTimes 3 = .ok (.invokevirtual 54, 3) := by decide +kernel
theorem dX4_staysOfTimes_6 : decode cX4_staysOfTimes 6 = .ok (.ifCond .eq 5, 3) := by decide +kernel
theorem dX4_staysOfTimes_9 : decode cX4_staysOfTimes 9 = .ok (.iload_n 1, 1) := by decide +kernel
theorem dX4_staysOfTimes_10 : decode cX4_staysOfTimes 10 = .ok (.ireturn, 1) := by decide +kernel
theorem dX4_staysOfTimes_11 : decode cX4_staysOfTimes 11 = .ok (.aload_n 0, 1) := by decide +kernel
theorem dX4_staysOfTimes_12 : decode cX4_staysOfTimes 12 = .ok (.iload_n 1, 1) := by decide +kernel
theorem dX4_staysOfTimes_13 : decode cX4_staysOfTimes 13 = .ok (.iconst 1, 1) := by decide +kernel
theorem dX4_staysOfTimes_14 : decode cX4_staysOfTimes 14 = .ok (.invokevirtual 54, 3) := by decide +kernel
theorem dX4_staysOfTimes_17 : decode cX4_staysOfTimes 17 = .ok (.ifCond .eq 5, 3) := by decide +kernel
theorem dX4_staysOfTimes_20 : decode cX4_staysOfTimes 20 = .ok (.iload_n 2, 1) := by decide +kernel
theorem dX4_staysOfTimes_21 : decode cX4_staysOfTimes 21 = .ok (.ireturn, 1) := by decide +kernel
theorem dX4_staysOfTimes_22 : decode cX4_staysOfTimes 22 = .ok (.aload_n 0, 1) := by decide +kernel
theorem dX4_staysOfTimes_23 : decode cX4_staysOfTimes 23 = .ok (.iload_n 2, 1) := by decide +kernel
theorem dX4_staysOfTimes_24 : decode cX4_staysOfTimes 24 = .ok (.iconst 0, 1) := by decide +kernel
theorem dX4_staysOfTimes_25 : decode cX4_staysOfTimes 25 = .ok (.invokevirtual 54, 3) := by decide +kernel
theorem dX4_staysOfTimes_28 : decode cX4_staysOfTimes 28 = .ok (.ifCond .eq 14, 3) := by decide +kernel
theorem dX4_staysOfTimes_31 : decode cX4_staysOfTimes 31 = .ok (.iload_n 3, 1) := by decide +kernel
theorem dX4_staysOfTimes_32 : decode cX4_staysOfTimes 32 = .ok (.iconst 2, 1) := by decide +kernel
theorem dX4_staysOfTimes_33 : decode cX4_staysOfTimes 33 = .ok (.if_icmp .ne 7, 3) := by decide +kernel
theorem dX4_staysOfTimes_36 : decode cX4_staysOfTimes 36 = .ok (.iload_n 1, 1) := by decide +kernel
theorem dX4_staysOfTimes_37 : decode cX4_staysOfTimes 37 = .ok (.goto 4, 3) := by decide +kernel
theorem dX4_staysOfTimes_40 : decode cX4_staysOfTimes 40 = .ok (.iload_n 2, 1) := by decide +kernel
theorem dX4_staysOfTimes_41 : decode cX4_staysOfTimes 41 = .ok (.ireturn, 1) := by decide +kernel
theorem dX4_staysOfTimes_42 : decode cX4_staysOfTimes 42 = .ok (.aload_n 0, 1) := by decide +kernel
theorem dX4_staysOfTimes_43 : decode cX4_staysOfTimes 43 = .ok (.iload_n 1, 1) := by decide +kernel
theorem dX4_staysOfTimes_44 : decode cX4_staysOfTimes 44 = .ok (.iconst 0, 1) := by decide +kernel
theorem dX4_staysOfTimes_45 : decode cX4_staysOfTimes 45 = .ok (.invokevirtual 54, 3) := by decide +kernel
theorem dX4_staysOfTimes_48 : decode cX4_staysOfTimes 48 = .ok (.ifCond .eq 14, 3) := by decide +kernel
theorem dX4_staysOfTimes_51 : decode cX4_staysOfTimes 51 = .ok (.iload_n 3, 1) := by decide +kernel
theorem dX4_staysOfTimes_52 : decode cX4_staysOfTimes 52 = .ok (.iconst 2, 1) := by decide +kernel
theorem dX4_staysOfTimes_53 : decode cX4_staysOfTimes 53 = .ok (.if_icmp .ne 7, 3) := by decide +kernel
theorem dX4_staysOfTimes_56 : decode cX4_staysOfTimes 56 = .ok (.iload_n 2, 1) := by decide +kernel
theorem dX4_staysOfTimes_57 : decode cX4_staysOfTimes 57 = .ok (.goto 4, 3) := by decide +kernel
theorem dX4_staysOfTimes_60 : decode cX4_staysOfTimes 60 = .ok (.iload_n 1, 1) := by decide +kernel
theorem dX4_staysOfTimes_61 : decode cX4_staysOfTimes 61 = .ok (.ireturn, 1) := by decide +kernel
theorem dX4_staysOfTimes_62 : decode cX4_staysOfTimes 62 = .ok (.iconst (-1), 1) := by decide +kernel
theorem dX4_staysOfTimes_63 : decode cX4_staysOfTimes 63 = .ok (.ireturn, 1) := by decide +kernel
theorem dX4_same_0 : decode cX4_same 0 = .ok (.aload_n 0, 1) := by decide +kernel
theorem dX4_same_1 : decode cX4_same 1 = .ok (.iload_n 1, 1) := by decide +kernel
theorem dX4_same_2 : decode cX4_same 2 = .ok (.invokevirtual 34, 3) := by decide +kernel
theorem dX4_same_5 : decode cX4_same 5 = .ok (.istore_n 3, 1) := by decide +kernel
theorem dX4_same_6 : decode cX4_same 6 = .ok (.iload_n 3, 1) := by decide +kernel
theorem dX4_same_7 : decode cX4_same 7 = .ok (.iconst 5, 1) := by decide +kernel
theorem dX4_same_8 : decode cX4_same 8 = .ok (.if_icmp .eq 15, 3) := by decide +kernel
theorem dX4_same_11 : decode cX4_same 11 = .ok (.iload_n 3, 1) := by decide +kernel
theorem dX4_same_12 : decode cX4_same 12 = .ok (.iconst 4, 1) := by decide +kernel
theorem dX4_same_13 : decode cX4_same 13 = .ok (.if_icmp .ne 8, 3) := by decide +kernel
theorem dX4_same_16 : decode cX4_same 16 = .ok (.iload_n 2, 1) := by decide +kernel
theorem dX4_same_17 : decode cX4_same 17 = .ok (.iconst 1, 1) := by decide +kernel
theorem dX4_same_18 : decode cX4_same 18 = .ok (.if_icmp .eq 5, 3) := by decide +kernel
theorem dX4_same_21 : decode cX4_same 21 = .ok (.iconst 0, 1) := by decide +kernel
theorem dX4_same_22 : decode cX4_same 22 = .ok (.ireturn, 1) := by decide +kernel
theorem dX4_same_23 : decode cX4_same 23 = .ok (.iload_n 1, 1) := by decide +kernel
theorem dX4_same_24 : decode cX4_same 24 = .ok (.iconst 1, 1) := by decide +kernel
theorem dX4_same_25 : decode cX4_same 25 = .ok (.iadd, 1) := by decide +kernel
theorem dX4_same_26 : decode cX4_same 26 = .ok (.istore 4, 2) := by decide +kernel
theorem dX4_same_28 : decode cX4_same 28 = .ok (.aload_n 0, 1) := by decide +kernel
theorem dX4_same_29 : decode cX4_same 29 = .ok (.iload 4, 2) := by decide +kernel
theorem dX4_same_31 : decode cX4_same 31 = .ok (.invokevirtual 47, 3) := by decide +kernel
theorem dX4_same_34 : decode cX4_same 34 = .ok (.istore 5, 2) := by decide +kernel
theorem dX4_same_36 : decode cX4_same 36 = .ok (.iload_n 2, 1) := by decide +kernel
theorem dX4_same_37 : decode cX4_same 37 = .ok (.iconst 2, 1) := by decide +kernel
theorem dX4_same_38 : decode cX4_same 38 = .ok (.if_icmp .ne 17, 3) := by decide +kernel
theorem dX4_same_41 : decode cX4_same 41 = .ok (.aload_n 0, 1) := by decide +kernel
theorem dX4_same_42 : decode cX4_same 42 = .ok (.iload 4, 2) := by decide +kernel
theorem dX4_same_44 : decode cX4_same 44 = .ok (.iload 5, 2) := by decide +kernel
theorem dX4_same_46 : decode cX4_same 46 = .ok (.invokestatic 65, 3) := by decide +kernel
theorem dX4_same_49 : decode cX4_same 49 = .ok (.ifCond .eq 17, 3) := by decide +kernel
theorem dX4_same_52 : decode cX4_same 52 = .ok (.goto 16, 3) := by decide +kernel
theorem dX4_same_55 : decode cX4_same 55 = .ok (.aload_n 0, 1) := by decide +kernel
theorem dX4_same_56 : decode cX4_same 56 = .ok (.iload 4, 2) := by decide +kernel
theorem dX4_same_58 : decode cX4_same 58 = .ok (.iload 5, 2) := by decide +kernel
theorem dX4_same_60 : decode cX4_same 60 = .ok (.invokevirtual 68, 3) := by decide +kernel
theorem dX4_same_63 : decode cX4_same 63 = .ok (.ifCond .ne 5, 3) := by decide +kernel
theorem dX4_same_66 : decode cX4_same 66 = .ok (.iconst 0, 1) := by decide +kernel
theorem dX4_same_67 : decode cX4_same 67 = .ok (.ireturn, 1) := by decide +kernel
theorem dX4_same_68 : decode cX4_same 68 = .ok (.aload_n 0, 1) := by decide +kernel
theorem dX4_same_69 : decode cX4_same 69 = .ok (.iload_n 1, 1) := by decide +kernel
theorem dX4_same_70 : decode cX4_same 70 = .ok (.iconst 0, 1) := by decide +kernel
theorem dX4_same_71 : decode cX4_same 71 = .ok (.invokevirtual 43, 3) := by decide +kernel
theorem dX4_same_74 : decode cX4_same 74 = .ok (.iconst 1, 1) := by decide +kernel
theorem dX4_same_75 : decode cX4_same 75 = .ok (.ireturn, 1) := by decide +kernel
theorem dX4_isAlike_0 : decode cX4_isAlike 0 = .ok (.aload_n 0, 1) := by decide +kernel
theorem dX4_isAlike_1 : decode cX4_isAlike 1 = .ok (.iload_n 1, 1) := by decide +kernel
theorem dX4_isAlike_2 : decode cX4_isAlike 2 = .ok (.invokevirtual 34, 3) := by decide +kernel
theorem dX4_isAlike_5 : decode cX4_isAlike 5 = .ok (.aload_n 0, 1) := by decide +kernel
theorem dX4_isAlike_6 : decode cX4_isAlike 6 = .ok (.iload_n 2, 1) := by decide +kernel
theorem dX4_isAlike_7 : decode cX4_isAlike 7 = .ok (.invokevirtual 34, 3) := by decide +kernel
theorem dX4_isAlike_10 : decode cX4_isAlike 10 = .ok (.if_icmp .ne 33, 3) := by decide +kernel
theorem dX4_isAlike_13 : decode cX4_isAlike 13 = .ok (.aload_n 0, 1) := by decide +kernel
theorem dX4_isAlike_14 : decode cX4_isAlike 14 = .ok (.iload_n 1, 1) := by decide +kernel
theorem dX4_isAlike_15 : decode cX4_isAlike 15 = .ok (.invokevirtual 40, 3) := by decide +kernel
theorem dX4_isAlike_18 : decode cX4_isAlike 18 = .ok (.aload_n 0, 1) := by decide +kernel
theorem dX4_isAlike_19 : decode cX4_isAlike 19 = .ok (.iload_n 2, 1) := by decide +kernel
theorem dX4_isAlike_20 : decode cX4_isAlike 20 = .ok (.invokevirtual 40, 3) := by decide +kernel
theorem dX4_isAlike_23 : decode cX4_isAlike 23 = .ok (.if_icmp .ne 20, 3) := by decide +kernel
theorem dX4_isAlike_26 : decode cX4_isAlike 26 = .ok (.aload_n 0, 1) := by decide +kernel
theorem dX4_isAlike_27 : decode cX4_isAlike 27 = .ok (.iload_n 1, 1) := by decide +kernel
theorem dX4_isAlike_28 : decode cX4_isAlike 28 = .ok (.invokevirtual 71, 3) := by decide +kernel
theorem dX4_isAlike_31 : decode cX4_isAlike 31 = .ok (.aload_n 0, 1) := by decide +kernel
theorem dX4_isAlike_32 : decode cX4_isAlike 32 = .ok (.iload_n 2, 1) := by decide +kernel
theorem dX4_isAlike_33 : decode cX4_isAlike 33 = .ok (.invokevirtual 71, 3) := by decide +kernel
theorem dX4_isAlike_36 : decode cX4_isAlike 36 = .ok (.if_icmp .ne 7, 3) := by decide +kernel
theorem dX4_isAlike_39 : decode cX4_isAlike 39 = .ok (.iconst 1, 1) := by decide +kernel
theorem dX4_isAlike_40 : decode cX4_isAlike 40 = .ok (.goto 4, 3) := by decide +kernel
theorem dX4_isAlike_43 : decode cX4_isAlike 43 = .ok (.iconst 0, 1) := by decide +kernel
theorem dX4_isAlike_44 : decode cX4_isAlike 44 = .ok (.ireturn, 1) := by decide +kernel
theorem dX4_pick_0 : decode cX4_pick 0 = .ok (.iload_n 1, 1) := by decide +kernel
theorem dX4_pick_1 : decode cX4_pick 1 = .ok (.iconst 1, 1) := by decide +kernel
theorem dX4_pick_2 : decode cX4_pick 2 = .ok (.iadd, 1) := by decide +kernel
theorem dX4_pick_3 : decode cX4_pick 3 = .ok (.istore_n 3, 1) := by decide +kernel
theorem dX4_pick_4 : decode cX4_pick 4 = .ok (.aload_n 0, 1) := by decide +kernel
theorem dX4_pick_5 : decode cX4_pick 5 = .ok (.iload_n 1, 1) := by decide +kernel
theorem dX4_pick_6 : decode cX4_pick 6 = .ok (.invokevirtual 34, 3) := by decide +kernel
theorem dX4_pick_9 : decode cX4_pick 9 = .ok (.bipush 8, 2) := by decide +kernel
theorem dX4_pick_11 : decode cX4_pick 11 = .ok (.if_icmp .ne 11, 3) := by decide +kernel
theorem dX4_pick_14 : decode cX4_pick 14 = .ok (.aload_n 0, 1) := by decide +kernel
theorem dX4_pick_15 : decode cX4_pick 15 = .ok (.iload_n 3, 1) := by decide +kernel
theorem dX4_pick_16 : decode cX4_pick 16 = .ok (.invokevirtual 34, 3) := by decide +kernel
theorem dX4_pick_19 : decode cX4_pick 19 = .ok (.ifCond .eq 5, 3) := by decide +kernel
theorem dX4_pick_22 : decode cX4_pick 22 = .ok (.iconst 0, 1) := by decide +kernel
theorem dX4_pick_23 : decode cX4_pick 23 = .ok (.ireturn, 1) := by decide +kernel
theorem dX4_pick_24 : decode cX4_pick 24 = .ok (.aload_n 0, 1) := by decide +kernel
theorem dX4_pick_25 : decode cX4_pick 25 = .ok (.iload_n 3, 1) := by decide +kernel
theorem dX4_pick_26 : decode cX4_pick 26 = .ok (.invokevirtual 47, 3) := by decide +kernel
theorem dX4_pick_29 : decode cX4_pick 29 = .ok (.istore 4, 2) := by decide +kernel
theorem dX4_pick_31 : decode cX4_pick 31 = .ok (.aload_n 0, 1) := by decide +kernel
theorem dX4_pick_32 : decode cX4_pick 32 = .ok (.iload_n 3, 1) := by decide +kernel
theorem dX4_pick_33 : decode cX4_pick 33 = .ok (.invokevirtual 40, 3) := by decide +kernel
theorem dX4_pick_36 : decode cX4_pick 36 = .ok (.istore 5, 2) := by decide +kernel
theorem dX4_pick_38 : decode cX4_pick 38 = .ok (.iload_n 2, 1) := by decide +kernel
theorem dX4_pick_39 : decode cX4_pick 39 = .ok (.iconst 2, 1) := by decide +kernel
theorem dX4_pick_40 : decode cX4_pick 40 = .ok (.if_icmp .eq 21, 3) := by decide +kernel
theorem dX4_pick_43 : decode cX4_pick 43 = .ok (.iload_n 2, 1) := by decide +kernel
theorem dX4_pick_44 : decode cX4_pick 44 = .ok (.iconst 1, 1) := by decide +kernel
theorem dX4_pick_45 : decode cX4_pick 45 = .ok (.if_icmp .ne 11, 3) := by decide +kernel
theorem dX4_pick_48 : decode cX4_pick 48 = .ok (.iload 5, 2) := by decide +kernel
theorem dX4_pick_50 : decode cX4_pick 50 = .ok (.ifCond .le 15, 3) := by decide +kernel
theorem dX4_pick_53 : decode cX4_pick 53 = .ok (.goto 8, 3) := by decide +kernel
theorem dX4_pick_56 : decode cX4_pick 56 = .ok (.iload 5, 2) := by decide +kernel
theorem dX4_pick_58 : decode cX4_pick 58 = .ok (.ifCond .eq 7, 3) := by decide +kernel
theorem dX4_pick_61 : decode cX4_pick 61 = .ok (.iconst 1, 1) := by decide +kernel
theorem dX4_pick_62 : decode cX4_pick 62 = .ok (.goto 4, 3) := by decide +kernel
theorem dX4_pick_65 : decode cX4_pick 65 = .ok (.iconst 0, 1) := by decide +kernel
theorem dX4_pick_66 : decode cX4_pick 66 = .ok (.istore 6, 2) := by decide +kernel
theorem dX4_pick_68 : decode cX4_pick 68 = .ok (.aload_n 0, 1) := by decide +kernel
theorem dX4_pick_69 : decode cX4_pick 69 = .ok (.iload_n 1, 1) := by decide +kernel
theorem dX4_pick_70 : decode cX4_pick 70 = .ok (.iload 6, 2) := by decide +kernel
theorem dX4_pick_72 : decode cX4_pick 72 = .ok (.ifCond .eq 8, 3) := by decide +kernel
theorem dX4_pick_75 : decode cX4_pick 75 = .ok (.iload 4, 2) := by decide +kernel
theorem dX4_pick_77 : decode cX4_pick 77 = .ok (.goto 9, 3) := by decide +kernel
theorem dX4_pick_80 : decode cX4_pick 80 = .ok (.aload_n 0, 1) := by decide +kernel
theorem dX4_pick_81 : decode cX4_pick 81 = .ok (.iload 4, 2) := by decide +kernel
theorem dX4_pick_83 : decode cX4_pick 83 = .ok (.invokevirtual 47, 3) := by decide +kernel
theorem dX4_pick_86 : decode cX4_pick 86 = .ok (.invokevirtual 62, 3) := by decide +kernel
theorem dX4_pick_89 : decode cX4_pick 89 = .ok (.iconst 1, 1) := by decide +kernel
theorem dX4_pick_90 : decode cX4_pick 90 = .ok (.ireturn, 1) := by decide +kernel
theorem dX4_melt_0 : decode cX4_melt 0 = .ok (.aload_n 0, 1) := by decide +kernel
theorem dX4_melt_1 : decode cX4_melt 1 = .ok (.iload_n 1, 1) := by decide +kernel
theorem dX4_melt_2 : decode cX4_melt 2 = .ok (.invokevirtual 34, 3) := by decide +kernel
theorem dX4_melt_5 : decode cX4_melt 5 = .ok (.bipush 8, 2) := by decide +kernel
theorem dX4_melt_7 : decode cX4_melt 7 = .ok (.if_icmp .eq 5, 3) := by decide +kernel
theorem dX4_melt_10 : decode cX4_melt 10 = .ok (.iconst 0, 1) := by decide +kernel
theorem dX4_melt_11 : decode cX4_melt 11 = .ok (.ireturn, 1) := by decide +kernel
theorem dX4_melt_12 : decode cX4_melt 12 = .ok (.iload_n 1, 1) := by decide +kernel
theorem dX4_melt_13 : decode cX4_melt 13 = .ok (.iconst 1, 1) := by decide +kernel
theorem dX4_melt_14 : decode cX4_melt 14 = .ok (.iadd, 1) := by decide +kernel
theorem dX4_melt_15 : decode cX4_melt 15 = .ok (.istore_n 3, 1) := by decide +kernel
theorem dX4_melt_16 : decode cX4_melt 16 = .ok (.aload_n 0, 1) := by decide +kernel
theorem dX4_melt_17 : decode cX4_melt 17 = .ok (.iload_n 3, 1) := by decide +kernel
theorem dX4_melt_18 : decode cX4_melt 18 = .ok (.invokevirtual 47, 3) := by decide +kernel
theorem dX4_melt_21 : decode cX4_melt 21 = .ok (.istore 4, 2) := by decide +kernel
theorem dX4_melt_23 : decode cX4_melt 23 = .ok (.aload_n 0, 1) := by decide +kernel
theorem dX4_melt_24 : decode cX4_melt 24 = .ok (.iload 4, 2) := by decide +kernel
theorem dX4_melt_26 : decode cX4_melt 26 = .ok (.invokevirtual 47, 3) := by decide +kernel
theorem dX4_melt_29 : decode cX4_melt 29 = .ok (.istore 5, 2) := by decide +kernel
theorem dX4_melt_31 : decode cX4_melt 31 = .ok (.iload_n 2, 1) := by decide +kernel
theorem dX4_melt_32 : decode cX4_melt 32 = .ok (.iconst 1, 1) := by decide +kernel
theorem dX4_melt_33 : decode cX4_melt 33 = .ok (.if_icmp .ne 26, 3) := by decide +kernel
theorem dX4_melt_36 : decode cX4_melt 36 = .ok (.aload_n 0, 1) := by decide +kernel
theorem dX4_melt_37 : decode cX4_melt 37 = .ok (.iload 4, 2) := by decide +kernel
theorem dX4_melt_39 : decode cX4_melt 39 = .ok (.invokevirtual 71, 3) := by decide +kernel
theorem dX4_melt_42 : decode cX4_melt 42 = .ok (.aload_n 0, 1) := by decide +kernel
theorem dX4_melt_43 : decode cX4_melt 43 = .ok (.iload 5, 2) := by decide +kernel
theorem dX4_melt_45 : decode cX4_melt 45 = .ok (.invokevirtual 71, 3) := by decide +kernel
theorem dX4_melt_48 : decode cX4_melt 48 = .ok (.if_icmp .ne 7, 3) := by decide +kernel
theorem dX4_melt_51 : decode cX4_melt 51 = .ok (.iconst 1, 1) := by decide +kernel
theorem dX4_melt_52 : decode cX4_melt 52 = .ok (.goto 15, 3) := by decide +kernel
theorem dX4_melt_55 : decode cX4_melt 55 = .ok (.iconst 0, 1) := by decide +kernel
theorem dX4_melt_56 : decode cX4_melt 56 = .ok (.goto 11, 3) := by decide +kernel
theorem dX4_melt_59 : decode cX4_melt 59 = .ok (.aload_n 0, 1) := by decide +kernel
theorem dX4_melt_60 : decode cX4_melt 60 = .ok (.iload 4, 2) := by decide +kernel
theorem dX4_melt_62 : decode cX4_melt 62 = .ok (.iload 5, 2) := by decide +kernel
theorem dX4_melt_64 : decode cX4_melt 64 = .ok (.invokevirtual 68, 3) := by decide +kernel
theorem dX4_melt_67 : decode cX4_melt 67 = .ok (.istore 6, 2) := by decide +kernel
theorem dX4_melt_69 : decode cX4_melt 69 = .ok (.iload 6, 2) := by decide +kernel
theorem dX4_melt_71 : decode cX4_melt 71 = .ok (.ifCond .ne 20, 3) := by decide +kernel
theorem dX4_melt_74 : decode cX4_melt 74 = .ok (.iload_n 2, 1) := by decide +kernel
theorem dX4_melt_75 : decode cX4_melt 75 = .ok (.iconst 2, 1) := by decide +kernel
theorem dX4_melt_76 : decode cX4_melt 76 = .ok (.if_icmp .ne 13, 3) := by decide +kernel
theorem dX4_melt_79 : decode cX4_melt 79 = .ok (.aload_n 0, 1) := by decide +kernel
theorem dX4_melt_80 : decode cX4_melt 80 = .ok (.iload_n 3, 1) := by decide +kernel
theorem dX4_melt_81 : decode cX4_melt 81 = .ok (.iload 4, 2) := by decide +kernel
theorem dX4_melt_83 : decode cX4_melt 83 = .ok (.invokevirtual 68, 3) := by decide +kernel
theorem dX4_melt_86 : decode cX4_melt 86 = .ok (.ifCond .ne 5, 3) := by decide +kernel
theorem dX4_melt_89 : decode cX4_melt 89 = .ok (.iconst 0, 1) := by decide +kernel
theorem dX4_melt_90 : decode cX4_melt 90 = .ok (.ireturn, 1) := by decide +kernel
theorem dX4_melt_91 : decode cX4_melt 91 = .ok (.aload_n 0, 1) := by decide +kernel
theorem dX4_melt_92 : decode cX4_melt 92 = .ok (.iload_n 1, 1) := by decide +kernel
theorem dX4_melt_93 : decode cX4_melt 93 = .ok (.iload 4, 2) := by decide +kernel
theorem dX4_melt_95 : decode cX4_melt 95 = .ok (.invokevirtual 62, 3) := by decide +kernel
theorem dX4_melt_98 : decode cX4_melt 98 = .ok (.iconst 1, 1) := by decide +kernel
theorem dX4_melt_99 : decode cX4_melt 99 = .ok (.ireturn, 1) := by decide +kernel
theorem dX4_twice_0 : decode cX4_twice 0 = .ok (.iload_n 1, 1) := by decide +kernel
theorem dX4_twice_1 : decode cX4_twice 1 = .ok (.iconst 1, 1) := by decide +kernel
theorem dX4_twice_2 : decode cX4_twice 2 = .ok (.iadd, 1) := by decide +kernel
theorem dX4_twice_3 : decode cX4_twice 3 = .ok (.istore 4, 2) := by decide +kernel
theorem dX4_twice_5 : decode cX4_twice 5 = .ok (.aload_n 0, 1) := by decide +kernel
theorem dX4_twice_6 : decode cX4_twice 6 = .ok (.iload 4, 2) := by decide +kernel
theorem dX4_twice_8 : decode cX4_twice 8 = .ok (.invokevirtual 47, 3) := by decide +kernel
theorem dX4_twice_11 : decode cX4_twice 11 = .ok (.istore 5, 2) := by decide +kernel
theorem dX4_twice_13 : decode cX4_twice 13 = .ok (.aload_n 0, 1) := by decide +kernel
theorem dX4_twice_14 : decode cX4_twice 14 = .ok (.iload_n 1, 1) := by decide +kernel
theorem dX4_twice_15 : decode cX4_twice 15 = .ok (.invokevirtual 34, 3) := by decide +kernel
theorem dX4_twice_18 : decode cX4_twice 18 = .ok (.istore 6, 2) := by decide +kernel
theorem dX4_twice_20 : decode cX4_twice 20 = .ok (.iconst (-1), 1) := by decide +kernel
theorem dX4_twice_21 : decode cX4_twice 21 = .ok (.istore 7, 2) := by decide +kernel
theorem dX4_twice_23 : decode cX4_twice 23 = .ok (.iload 6, 2) := by decide +kernel
theorem dX4_twice_25 : decode cX4_twice 25 = .ok (.bipush 6, 2) := by decide +kernel
theorem dX4_twice_27 : decode cX4_twice 27 = .ok (.if_icmp .ne 38, 3) := by decide +kernel
theorem dX4_twice_30 : decode cX4_twice 30 = .ok (.aload_n 0, 1) := by decide +kernel
theorem dX4_twice_31 : decode cX4_twice 31 = .ok (.iload 4, 2) := by decide +kernel
theorem dX4_twice_33 : decode cX4_twice 33 = .ok (.iload 5, 2) := by decide +kernel
theorem dX4_twice_35 : decode cX4_twice 35 = .ok (.iconst 2, 1) := by decide +kernel
theorem dX4_twice_36 : decode cX4_twice 36 = .ok (.invokestatic 74, 3) := by decide +kernel
theorem dX4_twice_39 : decode cX4_twice 39 = .ok (.istore 7, 2) := by decide +kernel
theorem dX4_twice_41 : decode cX4_twice 41 = .ok (.iload 7, 2) := by decide +kernel
theorem dX4_twice_43 : decode cX4_twice 43 = .ok (.ifCond .ge 48, 3) := by decide +kernel
theorem dX4_twice_46 : decode cX4_twice 46 = .ok (.iload_n 2, 1) := by decide +kernel
theorem dX4_twice_47 : decode cX4_twice 47 = .ok (.iconst 1, 1) := by decide +kernel
theorem dX4_twice_48 : decode cX4_twice 48 = .ok (.if_icmp .ne 43, 3) := by decide +kernel
theorem dX4_twice_51 : decode cX4_twice 51 = .ok (.aload_n 0, 1) := by decide +kernel
theorem dX4_twice_52 : decode cX4_twice 52 = .ok (.iload 4, 2) := by decide +kernel
theorem dX4_twice_54 : decode cX4_twice 54 = .ok (.iload 5, 2) := by decide +kernel
theorem dX4_twice_56 : decode cX4_twice 56 = .ok (.iconst 3, 1) := by decide +kernel
theorem dX4_twice_57 : decode cX4_twice 57 = .ok (.invokestatic 74, 3) := by decide +kernel
theorem dX4_twice_60 : decode cX4_twice 60 = .ok (.istore 7, 2) := by decide +kernel
theorem dX4_twice_62 : decode cX4_twice 62 = .ok (.goto 29, 3) := by decide +kernel
theorem dX4_twice_65 : decode cX4_twice 65 = .ok (.iload 6, 2) := by decide +kernel
theorem dX4_twice_67 : decode cX4_twice 67 = .ok (.bipush 7, 2) := by decide +kernel
theorem dX4_twice_69 : decode cX4_twice 69 = .ok (.if_icmp .ne 22, 3) := by decide +kernel
theorem dX4_twice_72 : decode cX4_twice 72 = .ok (.iload_n 2, 1) := by decide +kernel
theorem dX4_twice_73 : decode cX4_twice 73 = .ok (.iconst 2, 1) := by decide +kernel
theorem dX4_twice_74 : decode cX4_twice 74 = .ok (.if_icmp .ne 17, 3) := by decide +kernel
theorem dX4_twice_77 : decode cX4_twice 77 = .ok (.aload_n 0, 1) := by decide +kernel
theorem dX4_twice_78 : decode cX4_twice 78 = .ok (.iload 5, 2) := by decide +kernel
theorem dX4_twice_80 : decode cX4_twice 80 = .ok (.iconst 2, 1) := by decide +kernel
theorem dX4_twice_81 : decode cX4_twice 81 = .ok (.invokevirtual 54, 3) := by decide +kernel
theorem dX4_twice_84 : decode cX4_twice 84 = .ok (.ifCond .eq 7, 3) := by decide +kernel
theorem dX4_twice_87 : decode cX4_twice 87 = .ok (.iload 4, 2) := by decide +kernel
theorem dX4_twice_89 : decode cX4_twice 89 = .ok (.istore 7, 2) := by decide +kernel
theorem dX4_twice_91 : decode cX4_twice 91 = .ok (.iload 7, 2) := by decide +kernel
theorem dX4_twice_93 : decode cX4_twice 93 = .ok (.ifCond .lt 24, 3) := by decide +kernel
theorem dX4_twice_96 : decode cX4_twice 96 = .ok (.aload_n 0, 1) := by decide +kernel
theorem dX4_twice_97 : decode cX4_twice 97 = .ok (.getfield 77, 3) := by decide +kernel
theorem dX4_twice_100 : decode cX4_twice 100 = .ok (.iload_n 3, 1) := by decide +kernel
theorem dX4_twice_101 : decode cX4_twice 101 = .ok (.iadd, 1) := by decide +kernel
theorem dX4_twice_102 : decode cX4_twice 102 = .ok (.aload_n 0, 1) := by decide +kernel
theorem dX4_twice_103 : decode cX4_twice 103 = .ok (.iload 7, 2) := by decide +kernel
theorem dX4_twice_105 : decode cX4_twice 105 = .ok (.invokevirtual 71, 3) := by decide +kernel
theorem dX4_twice_108 : decode cX4_twice 108 = .ok (.iadd, 1) := by decide +kernel
theorem dX4_twice_109 : decode cX4_twice 109 = .ok (.iconst 1, 1) := by decide +kernel
theorem dX4_twice_110 : decode cX4_twice 110 = .ok (.isub, 1) := by decide +kernel
theorem dX4_twice_111 : decode cX4_twice 111 = .ok (.sipush 200, 3) := by decide +kernel
theorem dX4_twice_114 : decode cX4_twice 114 = .ok (.if_icmp .le 5, 3) := by decide +kernel
theorem dX4_twice_117 : decode cX4_twice 117 = .ok (.iconst 0, 1) := by decide +kernel
theorem dX4_twice_118 : decode cX4_twice 118 = .ok (.ireturn, 1) := by decide +kernel
theorem dX4_twice_119 : decode cX4_twice 119 = .ok (.aload_n 0, 1) := by decide +kernel
theorem dX4_twice_120 : decode cX4_twice 120 = .ok (.iload_n 1, 1) := by decide +kernel
theorem dX4_twice_121 : decode cX4_twice 121 = .ok (.iload 7, 2) := by decide +kernel
theorem dX4_twice_123 : decode cX4_twice 123 = .ok (.invokevirtual 62, 3) := by decide +kernel
theorem dX4_twice_126 : decode cX4_twice 126 = .ok (.aload_n 0, 1) := by decide +kernel
theorem dX4_twice_127 : decode cX4_twice 127 = .ok (.iload_n 1, 1) := by decide +kernel
theorem dX4_twice_128 : decode cX4_twice 128 = .ok (.invokevirtual 71, 3) := by decide +kernel
theorem dX4_twice_131 : decode cX4_twice 131 = .ok (.istore 8, 2) := by decide +kernel
theorem dX4_twice_133 : decode cX4_twice 133 = .ok (.aload_n 0, 1) := by decide +kernel
theorem dX4_twice_134 : decode cX4_twice 134 = .ok (.iload_n 1, 1) := by decide +kernel
theorem dX4_twice_135 : decode cX4_twice 135 = .ok (.iload 6, 2) := by decide +kernel
theorem dX4_twice_137 : decode cX4_twice 137 = .ok (.bipush 6, 2) := by decide +kernel
theorem dX4_twice_139 : decode cX4_twice 139 = .ok (.if_icmp .ne 7, 3) := by decide +kernel
theorem dX4_twice_142 : decode cX4_twice 142 = .ok (.iconst 4, 1) := by decide +kernel
theorem dX4_twice_143 : decode cX4_twice 143 = .ok (.goto 4, 3) := by decide +kernel
theorem dX4_twice_146 : decode cX4_twice 146 = .ok (.iconst 5, 1) := by decide +kernel
theorem dX4_twice_147 : decode cX4_twice 147 = .ok (.iconst 0, 1) := by decide +kernel
theorem dX4_twice_148 : decode cX4_twice 148 = .ok (.invokevirtual 81, 3) := by decide +kernel
theorem dX4_twice_151 : decode cX4_twice 151 = .ok (.aload_n 0, 1) := by decide +kernel
theorem dX4_twice_152 : decode cX4_twice 152 = .ok (.aload_n 0, 1) := by decide +kernel
theorem dX4_twice_153 : decode cX4_twice 153 = .ok (.iload_n 1, 1) := by decide +kernel
theorem dX4_twice_154 : decode cX4_twice 154 = .ok (.iconst 1, 1) := by decide +kernel
theorem dX4_twice_155 : decode cX4_twice 155 = .ok (.iadd, 1) := by decide +kernel
theorem dX4_twice_156 : decode cX4_twice 156 = .ok (.iload 8, 2) := by decide +kernel
theorem dX4_twice_158 : decode cX4_twice 158 = .ok (.invokevirtual 85, 3) := by decide +kernel
theorem dX4_twice_161 : decode cX4_twice 161 = .ok (.aload_n 0, 1) := by decide +kernel
theorem dX4_twice_162 : decode cX4_twice 162 = .ok (.iload_n 1, 1) := by decide +kernel
theorem dX4_twice_163 : decode cX4_twice 163 = .ok (.invokevirtual 89, 3) := by decide +kernel
theorem dX4_twice_166 : decode cX4_twice 166 = .ok (.iconst 1, 1) := by decide +kernel
theorem dX4_twice_167 : decode cX4_twice 167 = .ok (.ireturn, 1) := by decide +kernel
theorem dX4_otherThan_0 : decode cX4_otherThan 0 = .ok (.aload_n 0, 1) := by decide +kernel
theorem dX4_otherThan_1 : decode cX4_otherThan 1 = .ok (.iload_n 2, 1) := by decide +kernel
theorem dX4_otherThan_2 : decode cX4_otherThan 2 = .ok (.iload_n 3, 1) := by decide +kernel
theorem dX4_otherThan_3 : decode cX4_otherThan 3 = .ok (.invokevirtual 54, 3) := by decide +kernel
theorem dX4_otherThan_6 : decode cX4_otherThan 6 = .ok (.ifCond .eq 7, 3) := by decide +kernel
theorem dX4_otherThan_9 : decode cX4_otherThan 9 = .ok (.iload_n 1, 1) := by decide +kernel
theorem dX4_otherThan_10 : decode cX4_otherThan 10 = .ok (.goto 17, 3) := by decide +kernel
theorem dX4_otherThan_13 : decode cX4_otherThan 13 = .ok (.aload_n 0, 1) := by decide +kernel
theorem dX4_otherThan_14 : decode cX4_otherThan 14 = .ok (.iload_n 1, 1) := by decide +kernel
theorem dX4_otherThan_15 : decode cX4_otherThan 15 = .ok (.iload_n 3, 1) := by decide +kernel
theorem dX4_otherThan_16 : decode cX4_otherThan 16 = .ok (.invokevirtual 54, 3) := by decide +kernel
theorem dX4_otherThan_19 : decode cX4_otherThan 19 = .ok (.ifCond .eq 7, 3) := by decide +kernel
theorem dX4_otherThan_22 : decode cX4_otherThan 22 = .ok (.iload_n 2, 1) := by decide +kernel
theorem dX4_otherThan_23 : decode cX4_otherThan 23 = .ok (.goto 4, 3) := by decide +kernel
theorem dX4_otherThan_26 : decode cX4_otherThan 26 = .ok (.iconst (-1), 1) := by decide +kernel
theorem dX4_otherThan_27 : decode cX4_otherThan 27 = .ok (.ireturn, 1) := by decide +kernel
theorem dX4_sink_0 : decode cX4_sink 0 = .ok (.aload_n 0, 1) := by decide +kernel
theorem dX4_sink_1 : decode cX4_sink 1 = .ok (.iload_n 1, 1) := by decide +kernel
theorem dX4_sink_2 : decode cX4_sink 2 = .ok (.invokevirtual 34, 3) := by decide +kernel
theorem dX4_sink_5 : decode cX4_sink 5 = .ok (.istore_n 3, 1) := by decide +kernel
theorem dX4_sink_6 : decode cX4_sink 6 = .ok (.iload_n 1, 1) := by decide +kernel
theorem dX4_sink_7 : decode cX4_sink 7 = .ok (.iconst 1, 1) := by decide +kernel
theorem dX4_sink_8 : decode cX4_sink 8 = .ok (.iadd, 1) := by decide +kernel
theorem dX4_sink_9 : decode cX4_sink 9 = .ok (.istore 4, 2) := by decide +kernel
theorem dX4_sink_11 : decode cX4_sink 11 = .ok (.iload_n 3, 1) := by decide +kernel
theorem dX4_sink_12 : decode cX4_sink 12 = .ok (.iconst 3, 1) := by decide +kernel
theorem dX4_sink_13 : decode cX4_sink 13 = .ok (.if_icmp .ne 24, 3) := by decide +kernel
theorem dX4_sink_16 : decode cX4_sink 16 = .ok (.aload_n 0, 1) := by decide +kernel
theorem dX4_sink_17 : decode cX4_sink 17 = .ok (.iload 4, 2) := by decide +kernel
theorem dX4_sink_19 : decode cX4_sink 19 = .ok (.invokevirtual 34, 3) := by decide +kernel
theorem dX4_sink_22 : decode cX4_sink 22 = .ok (.iconst 3, 1) := by decide +kernel
theorem dX4_sink_23 : decode cX4_sink 23 = .ok (.if_icmp .ne 14, 3) := by decide +kernel
theorem dX4_sink_26 : decode cX4_sink 26 = .ok (.aload_n 0, 1) := by decide +kernel
theorem dX4_sink_27 : decode cX4_sink 27 = .ok (.iload_n 1, 1) := by decide +kernel
theorem dX4_sink_28 : decode cX4_sink 28 = .ok (.iload 4, 2) := by decide +kernel
theorem dX4_sink_30 : decode cX4_sink 30 = .ok (.iconst 1, 1) := by decide +kernel
theorem dX4_sink_31 : decode cX4_sink 31 = .ok (.iadd, 1) := by decide +kernel
theorem dX4_sink_32 : decode cX4_sink 32 = .ok (.invokevirtual 62, 3) := by decide +kernel
theorem dX4_sink_35 : decode cX4_sink 35 = .ok (.iconst 1, 1) := by decide +kernel
theorem dX4_sink_36 : decode cX4_sink 36 = .ok (.ireturn, 1) := by decide +kernel
theorem dX4_sink_37 : decode cX4_sink 37 = .ok (.iload_n 3, 1) := by decide +kernel
theorem dX4_sink_38 : decode cX4_sink 38 = .ok (.iconst 4, 1) := by decide +kernel
theorem dX4_sink_39 : decode cX4_sink 39 = .ok (.if_icmp .eq 10, 3) := by decide +kernel
theorem dX4_sink_42 : decode cX4_sink 42 = .ok (.iload_n 3, 1) := by decide +kernel
theorem dX4_sink_43 : decode cX4_sink 43 = .ok (.iconst 5, 1) := by decide +kernel
theorem dX4_sink_44 : decode cX4_sink 44 = .ok (.if_icmp .eq 5, 3) := by decide +kernel
theorem dX4_sink_47 : decode cX4_sink 47 = .ok (.iconst 0, 1) := by decide +kernel
theorem dX4_sink_48 : decode cX4_sink 48 = .ok (.ireturn, 1) := by decide +kernel
theorem dX4_sink_49 : decode cX4_sink 49 = .ok (.aload_n 0, 1) := by decide +kernel
theorem dX4_sink_50 : decode cX4_sink 50 = .ok (.iload 4, 2) := by decide +kernel
theorem dX4_sink_52 : decode cX4_sink 52 = .ok (.invokevirtual 47, 3) := by decide +kernel
theorem dX4_sink_55 : decode cX4_sink 55 = .ok (.istore 5, 2) := by decide +kernel
theorem dX4_sink_57 : decode cX4_sink 57 = .ok (.aload_n 0, 1) := by decide +kernel
theorem dX4_sink_58 : decode cX4_sink 58 = .ok (.iload 5, 2) := by decide +kernel
theorem dX4_sink_60 : decode cX4_sink 60 = .ok (.invokevirtual 34, 3) := by decide +kernel
theorem dX4_sink_63 : decode cX4_sink 63 = .ok (.iconst 3, 1) := by decide +kernel
theorem dX4_sink_64 : decode cX4_sink 64 = .ok (.if_icmp .ne 32, 3) := by decide +kernel
theorem dX4_sink_67 : decode cX4_sink 67 = .ok (.aload_n 0, 1) := by decide +kernel
theorem dX4_sink_68 : decode cX4_sink 68 = .ok (.iload 5, 2) := by decide +kernel
theorem dX4_sink_70 : decode cX4_sink 70 = .ok (.iconst 1, 1) := by decide +kernel
theorem dX4_sink_71 : decode cX4_sink 71 = .ok (.invokevirtual 93, 3) := by decide +kernel
theorem dX4_sink_74 : decode cX4_sink 74 = .ok (.aload_n 0, 1) := by decide +kernel
theorem dX4_sink_75 : decode cX4_sink 75 = .ok (.iload_n 1, 1) := by decide +kernel
theorem dX4_sink_76 : decode cX4_sink 76 = .ok (.iload_n 3, 1) := by decide +kernel
theorem dX4_sink_77 : decode cX4_sink 77 = .ok (.iconst 4, 1) := by decide +kernel
theorem dX4_sink_78 : decode cX4_sink 78 = .ok (.if_icmp .eq 8, 3) := by decide +kernel
theorem dX4_sink_81 : decode cX4_sink 81 = .ok (.iload_n 2, 1) := by decide +kernel
theorem dX4_sink_82 : decode cX4_sink 82 = .ok (.iconst 2, 1) := by decide +kernel
theorem dX4_sink_83 : decode cX4_sink 83 = .ok (.if_icmp .ne 7, 3) := by decide +kernel
theorem dX4_sink_86 : decode cX4_sink 86 = .ok (.iconst 5, 1) := by decide +kernel
theorem dX4_sink_87 : decode cX4_sink 87 = .ok (.goto 4, 3) := by decide +kernel
theorem dX4_sink_90 : decode cX4_sink 90 = .ok (.iconst 4, 1) := by decide +kernel
theorem dX4_sink_91 : decode cX4_sink 91 = .ok (.invokevirtual 96, 3) := by decide +kernel
theorem dX4_sink_94 : decode cX4_sink 94 = .ok (.iconst 1, 1) := by decide +kernel
theorem dX4_sink_95 : decode cX4_sink 95 = .ok (.ireturn, 1) := by decide +kernel
theorem dX4_sink_96 : decode cX4_sink 96 = .ok (.iload_n 3, 1) := by decide +kernel
theorem dX4_sink_97 : decode cX4_sink 97 = .ok (.iconst 4, 1) := by decide +kernel
theorem dX4_sink_98 : decode cX4_sink 98 = .ok (.if_icmp .ne 33, 3) := by decide +kernel
theorem dX4_sink_101 : decode cX4_sink 101 = .ok (.iload_n 2, 1) := by decide +kernel
theorem dX4_sink_102 : decode cX4_sink 102 = .ok (.iconst 1, 1) := by decide +kernel
theorem dX4_sink_103 : decode cX4_sink 103 = .ok (.if_icmp .ne 28, 3) := by decide +kernel
theorem dX4_sink_106 : decode cX4_sink 106 = .ok (.aload_n 0, 1) := by decide +kernel
theorem dX4_sink_107 : decode cX4_sink 107 = .ok (.iload 4, 2) := by decide +kernel
theorem dX4_sink_109 : decode cX4_sink 109 = .ok (.invokevirtual 34, 3) := by decide +kernel
theorem dX4_sink_112 : decode cX4_sink 112 = .ok (.iconst 3, 1) := by decide +kernel
theorem dX4_sink_113 : decode cX4_sink 113 = .ok (.if_icmp .ne 18, 3) := by decide +kernel
theorem dX4_sink_116 : decode cX4_sink 116 = .ok (.aload_n 0, 1) := by decide +kernel
theorem dX4_sink_117 : decode cX4_sink 117 = .ok (.iload 4, 2) := by decide +kernel
theorem dX4_sink_119 : decode cX4_sink 119 = .ok (.iconst 1, 1) := by decide +kernel
theorem dX4_sink_120 : decode cX4_sink 120 = .ok (.invokevirtual 93, 3) := by decide +kernel
theorem dX4_sink_123 : decode cX4_sink 123 = .ok (.aload_n 0, 1) := by decide +kernel
theorem dX4_sink_124 : decode cX4_sink 124 = .ok (.iload_n 1, 1) := by decide +kernel
theorem dX4_sink_125 : decode cX4_sink 125 = .ok (.iconst 5, 1) := by decide +kernel
theorem dX4_sink_126 : decode cX4_sink 126 = .ok (.invokevirtual 96, 3) := by decide +kernel
theorem dX4_sink_129 : decode cX4_sink 129 = .ok (.iconst 1, 1) := by decide +kernel
theorem dX4_sink_130 : decode cX4_sink 130 = .ok (.ireturn, 1) := by decide +kernel
theorem dX4_sink_131 : decode cX4_sink 131 = .ok (.iconst 0, 1) := by decide +kernel
theorem dX4_sink_132 : decode cX4_sink 132 = .ok (.ireturn, 1) := by decide +kernel
theorem dX5_init_0 : decode cX5_init 0 = .ok (.aload_n 0, 1) := by decide +kernel
theorem dX5_init_1 : decode cX5_init 1 = .ok (.invokespecial 3, 3) := by decide +kernel
theorem dX5_init_4 : decode cX5_init 4 = .ok (.aload_n 0, 1) := by decide +kernel
theorem dX5_init_5 : decode cX5_init 5 = .ok (.sipush 200, 3) := by decide +kernel
theorem dX5_init_8 : decode cX5_init 8 = .ok (.newarray .int, 2) := by decide +kernel
theorem dX5_init_10 : decode cX5_init 10 = .ok (.putfield 9, 3) := by decide +kernel
theorem dX5_init_13 : decode cX5_init 13 = .ok (.aload_n 0, 1) := by decide +kernel
theorem dX5_init_14 : decode cX5_init 14 = .ok (.sipush 200, 3) := by decide +kernel
theorem dX5_init_17 : decode cX5_init 17 = .ok (.newarray .int, 2) := by decide +kernel
theorem dX5_init_19 : decode cX5_init 19 = .ok (.putfield 15, 3) := by decide +kernel
theorem dX5_init_22 : decode cX5_init 22 = .ok (.aload_n 0, 1) := by decide +kernel
theorem dX5_init_23 : decode cX5_init 23 = .ok (.sipush 200, 3) := by decide +kernel
theorem dX5_init_26 : decode cX5_init 26 = .ok (.newarray .int, 2) := by decide +kernel
theorem dX5_init_28 : decode cX5_init 28 = .ok (.putfield 18, 3) := by decide +kernel
theorem dX5_init_31 : decode cX5_init 31 = .ok (.aload_n 0, 1) := by decide +kernel
theorem dX5_init_32 : decode cX5_init 32 = .ok (.iconst 0, 1) := by decide +kernel
theorem dX5_init_33 : decode cX5_init 33 = .ok (.putfield 21, 3) := by decide +kernel
theorem dX5_init_36 : decode cX5_init 36 = .ok (.return_, 1) := by decide +kernel
theorem dX5_has_0 : decode cX5_has 0 = .ok (.iload_n 1, 1) := by decide +kernel
theorem dX5_has_1 : decode cX5_has 1 = .ok (.ifCond .lt 15, 3) := by decide +kernel
theorem dX5_has_4 : decode cX5_has 4 = .ok (.iload_n 1, 1) := by decide +kernel
theorem dX5_has_5 : decode cX5_has 5 = .ok (.aload_n 0, 1) := by decide +kernel
theorem dX5_has_6 : decode cX5_has 6 = .ok (.getfield 21, 3) := by decide +kernel
theorem dX5_has_9 : decode cX5_has 9 = .ok (.if_icmp .ge 7, 3) := by decide +kernel
theorem dX5_has_12 : decode cX5_has 12 = .ok (.iconst 1, 1) := by decide +kernel
theorem dX5_has_13 : decode cX5_has 13 = .ok (.goto 4, 3) := by decide +kernel
theorem dX5_has_16 : decode cX5_has 16 = .ok (.iconst 0, 1) := by decide +kernel
theorem dX5_has_17 : decode cX5_has 17 = .ok (.ireturn, 1) := by decide +kernel
theorem dX5_kindOf_0 : decode cX5_kindOf 0 = .ok (.iload_n 1, 1) := by decide +kernel
theorem dX5_kindOf_1 : decode cX5_kindOf 1 = .ok (.ifCond .lt 20, 3) := by decide +kernel
theorem dX5_kindOf_4 : decode cX5_kindOf 4 = .ok (.iload_n 1, 1) := by decide +kernel
theorem dX5_kindOf_5 : decode cX5_kindOf 5 = .ok (.aload_n 0, 1) := by decide +kernel
theorem dX5_kindOf_6 : decode cX5_kindOf 6 = .ok (.getfield 21, 3) := by decide +kernel
theorem dX5_kindOf_9 : decode cX5_kindOf 9 = .ok (.if_icmp .ge 12, 3) := by decide +kernel
theorem dX5_kindOf_12 : decode cX5_kindOf 12 = .ok (.aload_n 0, 1) := by decide +kernel
theorem dX5_kindOf_13 : decode cX5_kindOf 13 = .ok (.getfield 9, 3) := by decide +kernel
theorem dX5_kindOf_16 : decode cX5_kindOf 16 = .ok (.iload_n 1, 1) := by decide +kernel
theorem dX5_kindOf_17 : decode cX5_kindOf 17 = .ok (.iaload, 1) := by decide +kernel
theorem dX5_kindOf_18 : decode cX5_kindOf 18 = .ok (.goto 4, 3) := by decide +kernel
theorem dX5_kindOf_21 : decode cX5_kindOf 21 = .ok (.iconst 0, 1) := by decide +kernel
theorem dX5_kindOf_22 : decode cX5_kindOf 22 = .ok (.ireturn, 1) := by decide +kernel
theorem dX5_numberOf_0 : decode cX5_numberOf 0 = .ok (.iload_n 1, 1) := by decide +kernel
theorem dX5_numberOf_1 : decode cX5_numberOf 1 = .ok (.ifCond .lt 20, 3) := by decide +kernel
theorem dX5_numberOf_4 : decode cX5_numberOf 4 = .ok (.iload_n 1, 1) := by decide +kernel
theorem dX5_numberOf_5 : decode cX5_numberOf 5 = .ok (.aload_n 0, 1) := by decide +kernel
theorem dX5_numberOf_6 : decode cX5_numberOf 6 = .ok (.getfield 21, 3) := by decide +kernel
theorem dX5_numberOf_9 : decode cX5_numberOf 9 = .ok (.if_icmp .ge 12, 3) := by decide +kernel
theorem dX5_numberOf_12 : decode cX5_numberOf 12 = .ok (.aload_n 0, 1) := by decide +kernel
theorem dX5_numberOf_13 : decode cX5_numberOf 13 = .ok (.getfield 15, 3) := by decide +kernel
theorem dX5_numberOf_16 : decode cX5_numberOf 16 = .ok (.iload_n 1, 1) := by decide +kernel
theorem dX5_numberOf_17 : decode cX5_numberOf 17 = .ok (.iaload, 1) := by decide +kernel
theorem dX5_numberOf_18 : decode cX5_numberOf 18 = .ok (.goto 4, 3) := by decide +kernel
theorem dX5_numberOf_21 : decode cX5_numberOf 21 = .ok (.iconst 0, 1) := by decide +kernel
theorem dX5_numberOf_22 : decode cX5_numberOf 22 = .ok (.ireturn, 1) := by decide +kernel
theorem dX5_sizeOf_0 : decode cX5_sizeOf 0 = .ok (.iload_n 1, 1) := by decide +kernel
theorem dX5_sizeOf_1 : decode cX5_sizeOf 1 = .ok (.ifCond .lt 20, 3) := by decide +kernel
theorem dX5_sizeOf_4 : decode cX5_sizeOf 4 = .ok (.iload_n 1, 1) := by decide +kernel
theorem dX5_sizeOf_5 : decode cX5_sizeOf 5 = .ok (.aload_n 0, 1) := by decide +kernel
theorem dX5_sizeOf_6 : decode cX5_sizeOf 6 = .ok (.getfield 21, 3) := by decide +kernel
theorem dX5_sizeOf_9 : decode cX5_sizeOf 9 = .ok (.if_icmp .ge 12, 3) := by decide +kernel
theorem dX5_sizeOf_12 : decode cX5_sizeOf 12 = .ok (.aload_n 0, 1) := by decide +kernel
theorem dX5_sizeOf_13 : decode cX5_sizeOf 13 = .ok (.getfield 18, 3) := by decide +kernel
theorem dX5_sizeOf_16 : decode cX5_sizeOf 16 = .ok (.iload_n 1, 1) := by decide +kernel
theorem dX5_sizeOf_17 : decode cX5_sizeOf 17 = .ok (.iaload, 1) := by decide +kernel
theorem dX5_sizeOf_18 : decode cX5_sizeOf 18 = .ok (.goto 4, 3) := by decide +kernel
theorem dX5_sizeOf_21 : decode cX5_sizeOf 21 = .ok (.iconst 0, 1) := by decide +kernel
theorem dX5_sizeOf_22 : decode cX5_sizeOf 22 = .ok (.ireturn, 1) := by decide +kernel
theorem dX5_behind_0 : decode cX5_behind 0 = .ok (.iload_n 1, 1) := by decide +kernel
theorem dX5_behind_1 : decode cX5_behind 1 = .ok (.ifCond .lt 22, 3) := by decide +kernel
theorem dX5_behind_4 : decode cX5_behind 4 = .ok (.iload_n 1, 1) := by decide +kernel
theorem dX5_behind_5 : decode cX5_behind 5 = .ok (.aload_n 0, 1) := by decide +kernel
theorem dX5_behind_6 : decode cX5_behind 6 = .ok (.getfield 21, 3) := by decide +kernel
theorem dX5_behind_9 : decode cX5_behind 9 = .ok (.if_icmp .ge 14, 3) := by decide +kernel
theorem dX5_behind_12 : decode cX5_behind 12 = .ok (.iload_n 1, 1) := by decide +kernel
theorem dX5_behind_13 : decode cX5_behind 13 = .ok (.aload_n 0, 1) := by decide +kernel
theorem dX5_behind_14 : decode cX5_behind 14 = .ok (.getfield 18, 3) := by decide +kernel
theorem dX5_behind_17 : decode cX5_behind 17 = .ok (.iload_n 1, 1) := by decide +kernel
theorem dX5_behind_18 : decode cX5_behind 18 = .ok (.iaload, 1) := by decide +kernel
theorem dX5_behind_19 : decode cX5_behind 19 = .ok (.iadd, 1) := by decide +kernel
theorem dX5_behind_20 : decode cX5_behind 20 = .ok (.goto 7, 3) := by decide +kernel
theorem dX5_behind_23 : decode cX5_behind 23 = .ok (.aload_n 0, 1) := by decide +kernel
theorem dX5_behind_24 : decode cX5_behind 24 = .ok (.getfield 21, 3) := by decide +kernel
theorem dX5_behind_27 : decode cX5_behind 27 = .ok (.ireturn, 1) := by decide +kernel
theorem dX5_isNumber_0 : decode cX5_isNumber 0 = .ok (.iload_n 1, 1) := by decide +kernel
theorem dX5_isNumber_1 : decode cX5_isNumber 1 = .ok (.ifCond .lt 34, 3) := by decide +kernel
theorem dX5_isNumber_4 : decode cX5_isNumber 4 = .ok (.iload_n 1, 1) := by decide +kernel
theorem dX5_isNumber_5 : decode cX5_isNumber 5 = .ok (.aload_n 0, 1) := by decide +kernel
theorem dX5_isNumber_6 : decode cX5_isNumber 6 = .ok (.getfield 21, 3) := by decide +kernel
theorem dX5_isNumber_9 : decode cX5_isNumber 9 = .ok (.if_icmp .ge 26, 3) := by decide +kernel
theorem dX5_isNumber_12 : decode cX5_isNumber 12 = .ok (.aload_n 0, 1) := by decide +kernel
theorem dX5_isNumber_13 : decode cX5_isNumber 13 = .ok (.getfield 9, 3) := by decide +kernel
theorem dX5_isNumber_16 : decode cX5_isNumber 16 = .ok (.iload_n 1, 1) := by decide +kernel
theorem dX5_isNumber_17 : decode cX5_isNumber 17 = .ok (.iaload, 1) := by decide +kernel
theorem dX5_isNumber_18 : decode cX5_isNumber 18 = .ok (.ifCond .ne 17, 3) := by decide +kernel
theorem dX5_isNumber_21 : decode cX5_isNumber 21 = .ok (.aload_n 0, 1) := by decide +kernel
theorem dX5_isNumber_22 : decode cX5_isNumber 22 = .ok (.getfield 15, 3) := by decide +kernel
theorem dX5_isNumber_25 : decode cX5_isNumber 25 = .ok (.iload_n 1, 1) := by decide +kernel
theorem dX5_isNumber_26 : decode cX5_isNumber 26 = .ok (.iaload, 1) := by decide +kernel
theorem dX5_isNumber_27 : decode cX5_isNumber 27 = .ok (.iload_n 2, 1) := by decide +kernel
theorem dX5_isNumber_28 : decode cX5_isNumber 28 = .ok (.if_icmp .ne 7, 3) := by decide +kernel
theorem dX5_isNumber_31 : decode cX5_isNumber 31 = .ok (.iconst 1, 1) := by decide +kernel
theorem dX5_isNumber_32 : decode cX5_isNumber 32 = .ok (.goto 4, 3) := by decide +kernel
theorem dX5_isNumber_35 : decode cX5_isNumber 35 = .ok (.iconst 0, 1) := by decide +kernel
theorem dX5_isNumber_36 : decode cX5_isNumber 36 = .ok (.ireturn, 1) := by decide +kernel
theorem dX5_isSame_0 : decode cX5_isSame 0 = .ok (.aload_n 0, 1) := by decide +kernel
theorem dX5_isSame_1 : decode cX5_isSame 1 = .ok (.iload_n 1, 1) := by decide +kernel
theorem dX5_isSame_2 : decode cX5_isSame 2 = .ok (.invokevirtual 25, 3) := by decide +kernel
theorem dX5_isSame_5 : decode cX5_isSame 5 = .ok (.istore_n 3, 1) := by decide +kernel
theorem dX5_isSame_6 : decode cX5_isSame 6 = .ok (.iload_n 3, 1) := by decide +kernel
theorem dX5_isSame_7 : decode cX5_isSame 7 = .ok (.aload_n 0, 1) := by decide +kernel
theorem dX5_isSame_8 : decode cX5_isSame 8 = .ok (.iload_n 2, 1) := by decide +kernel
theorem dX5_isSame_9 : decode cX5_isSame 9 = .ok (.invokevirtual 25, 3) := by decide +kernel
theorem dX5_isSame_12 : decode cX5_isSame 12 = .ok (.if_icmp .eq 5, 3) := by decide +kernel
theorem dX5_isSame_15 : decode cX5_isSame 15 = .ok (.iconst 0, 1) := by decide +kernel
theorem dX5_isSame_16 : decode cX5_isSame 16 = .ok (.ireturn, 1) := by decide +kernel
theorem dX5_isSame_17 : decode cX5_isSame 17 = .ok (.iconst 0, 1) := by decide +kernel
theorem dX5_isSame_18 : decode cX5_isSame 18 = .ok (.istore 4, 2) := by decide +kernel
theorem dX5_isSame_20 : decode cX5_isSame 20 = .ok (.iload 4, 2) := by decide +kernel
theorem dX5_isSame_22 : decode cX5_isSame 22 = .ok (.iload_n 3, 1) := by decide +kernel
theorem dX5_isSame_23 : decode cX5_isSame 23 = .ok (.if_icmp .ge 49, 3) := by decide +kernel
theorem dX5_isSame_26 : decode cX5_isSame 26 = .ok (.aload_n 0, 1) := by decide +kernel
theorem dX5_isSame_27 : decode cX5_isSame 27 = .ok (.iload_n 1, 1) := by decide +kernel
theorem dX5_isSame_28 : decode cX5_isSame 28 = .ok (.iload 4, 2) := by decide +kernel
theorem dX5_isSame_30 : decode cX5_isSame 30 = .ok (.iadd, 1) := by decide +kernel
theorem dX5_isSame_31 : decode cX5_isSame 31 = .ok (.invokevirtual 29, 3) := by decide +kernel
theorem dX5_isSame_34 : decode cX5_isSame 34 = .ok (.aload_n 0, 1) := by decide +kernel
theorem dX5_isSame_35 : decode cX5_isSame 35 = .ok (.iload_n 2, 1) := by decide +kernel
theorem dX5_isSame_36 : decode cX5_isSame 36 = .ok (.iload 4, 2) := by decide +kernel
theorem dX5_isSame_38 : decode cX5_isSame 38 = .ok (.iadd, 1) := by decide +kernel
theorem dX5_isSame_39 : decode cX5_isSame 39 = .ok (.invokevirtual 29, 3) := by decide +kernel
theorem dX5_isSame_42 : decode cX5_isSame 42 = .ok (.if_icmp .ne 22, 3) := by decide +kernel
theorem dX5_isSame_45 : decode cX5_isSame 45 = .ok (.aload_n 0, 1) := by decide +kernel
theorem dX5_isSame_46 : decode cX5_isSame 46 = .ok (.iload_n 1, 1) := by decide +kernel
theorem dX5_isSame_47 : decode cX5_isSame 47 = .ok (.iload 4, 2) := by decide +kernel
theorem dX5_isSame_49 : decode cX5_isSame 49 = .ok (.iadd, 1) := by decide +kernel
theorem dX5_isSame_50 : decode cX5_isSame 50 = .ok (.invokevirtual 32, 3) := by decide +kernel
theorem dX5_isSame_53 : decode cX5_isSame 53 = .ok (.aload_n 0, 1) := by decide +kernel
theorem dX5_isSame_54 : decode cX5_isSame 54 = .ok (.iload_n 2, 1) := by decide +kernel
theorem dX5_isSame_55 : decode cX5_isSame 55 = .ok (.iload 4, 2) := by decide +kernel
theorem dX5_isSame_57 : decode cX5_isSame 57 = .ok (.iadd, 1) := by decide +kernel
theorem dX5_isSame_58 : decode cX5_isSame 58 = .ok (.invokevirtual 32, 3) := by decide +kernel
theorem dX5_isSame_61 : decode cX5_isSame 61 = .ok (.if_icmp .eq 5, 3) := by decide +kernel
theorem dX5_isSame_64 : decode cX5_isSame 64 = .ok (.iconst 0, 1) := by decide +kernel
theorem dX5_isSame_65 : decode cX5_isSame 65 = .ok (.ireturn, 1) := by decide +kernel
theorem dX5_isSame_66 : decode cX5_isSame 66 = .ok (.iinc 4 1, 3) := by decide +kernel
theorem dX5_isSame_69 : decode cX5_isSame 69 = .ok (.goto (-49), 3) := by decide +kernel
theorem dX5_isSame_72 : decode cX5_isSame 72 = .ok (.iconst 1, 1) := by decide +kernel
theorem dX5_isSame_73 : decode cX5_isSame 73 = .ok (.ireturn, 1) := by decide +kernel
theorem dX5_clear_0 : decode cX5_clear 0 = .ok (.aload_n 0, 1) := by decide +kernel
theorem dX5_clear_1 : decode cX5_clear 1 = .ok (.iconst 0, 1) := by decide +kernel
theorem dX5_clear_2 : decode cX5_clear 2 = .ok (.putfield 21, 3) := by decide +kernel
theorem dX5_clear_5 : decode cX5_clear 5 = .ok (.return_, 1) := by decide +kernel
theorem dX5_append_0 : decode cX5_append 0 = .ok (.aload_n 0, 1) := by decide +kernel
theorem dX5_append_1 : decode cX5_append 1 = .ok (.getfield 21, 3) := by decide +kernel
theorem dX5_append_4 : decode cX5_append 4 = .ok (.ifCond .lt 53, 3) := by decide +kernel
theorem dX5_append_7 : decode cX5_append 7 = .ok (.aload_n 0, 1) := by decide +kernel
theorem dX5_append_8 : decode cX5_append 8 = .ok (.getfield 21, 3) := by decide +kernel
theorem dX5_append_11 : decode cX5_append 11 = .ok (.sipush 200, 3) := by decide +kernel
theorem dX5_append_14 : decode cX5_append 14 = .ok (.if_icmp .ge 43, 3) := by decide +kernel
theorem dX5_append_17 : decode cX5_append 17 = .ok (.aload_n 0, 1) := by decide +kernel
theorem dX5_append_18 : decode cX5_append 18 = .ok (.getfield 9, 3) := by decide +kernel
theorem dX5_append_21 : decode cX5_append 21 = .ok (.aload_n 0, 1) := by decide +kernel
theorem dX5_append_22 : decode cX5_append 22 = .ok (.getfield 21, 3) := by decide +kernel
theorem dX5_append_25 : decode cX5_append 25 = .ok (.iload_n 1, 1) := by decide +kernel
theorem dX5_append_26 : decode cX5_append 26 = .ok (.iastore, 1) := by decide +kernel
theorem dX5_append_27 : decode cX5_append 27 = .ok (.aload_n 0, 1) := by decide +kernel
theorem dX5_append_28 : decode cX5_append 28 = .ok (.getfield 15, 3) := by decide +kernel
theorem dX5_append_31 : decode cX5_append 31 = .ok (.aload_n 0, 1) := by decide +kernel
theorem dX5_append_32 : decode cX5_append 32 = .ok (.getfield 21, 3) := by decide +kernel
theorem dX5_append_35 : decode cX5_append 35 = .ok (.iload_n 2, 1) := by decide +kernel
theorem dX5_append_36 : decode cX5_append 36 = .ok (.iastore, 1) := by decide +kernel
theorem dX5_append_37 : decode cX5_append 37 = .ok (.aload_n 0, 1) := by decide +kernel
theorem dX5_append_38 : decode cX5_append 38 = .ok (.getfield 18, 3) := by decide +kernel
theorem dX5_append_41 : decode cX5_append 41 = .ok (.aload_n 0, 1) := by decide +kernel
theorem dX5_append_42 : decode cX5_append 42 = .ok (.getfield 21, 3) := by decide +kernel
theorem dX5_append_45 : decode cX5_append 45 = .ok (.iconst 1, 1) := by decide +kernel
theorem dX5_append_46 : decode cX5_append 46 = .ok (.iastore, 1) := by decide +kernel
theorem dX5_append_47 : decode cX5_append 47 = .ok (.aload_n 0, 1) := by decide +kernel
theorem dX5_append_48 : decode cX5_append 48 = .ok (.dup, 1) := by decide +kernel
theorem dX5_append_49 : decode cX5_append 49 = .ok (.getfield 21, 3) := by decide +kernel
theorem dX5_append_52 : decode cX5_append 52 = .ok (.iconst 1, 1) := by decide +kernel
theorem dX5_append_53 : decode cX5_append 53 = .ok (.iadd, 1) := by decide +kernel
theorem dX5_append_54 : decode cX5_append 54 = .ok (.putfield 21, 3) := by decide +kernel
theorem dX5_append_57 : decode cX5_append 57 = .ok (.return_, 1) := by decide +kernel
theorem dX5_appendRun_0 : decode cX5_appendRun 0 = .ok (.iload_n 2, 1) := by decide +kernel
theorem dX5_appendRun_1 : decode cX5_appendRun 1 = .ok (.ifCond .lt 29, 3) := by decide +kernel
theorem dX5_appendRun_4 : decode cX5_appendRun 4 = .ok (.iload_n 3, 1) := by decide +kernel
theorem dX5_appendRun_5 : decode cX5_appendRun 5 = .ok (.ifCond .lt 25, 3) := by decide +kernel
theorem dX5_appendRun_8 : decode cX5_appendRun 8 = .ok (.iload_n 2, 1) := by decide +kernel
theorem dX5_appendRun_9 : decode cX5_appendRun 9 = .ok (.aload_n 1, 1) := by decide +kernel
theorem dX5_appendRun_10 : decode cX5_appendRun 10 = .ok (.getfield 21, 3) := by decide +kernel
theorem dX5_appendRun_13 : decode cX5_appendRun 13 = .ok (.iload_n 3, 1) := by decide +kernel
theorem dX5_appendRun_14 : decode cX5_appendRun 14 = .ok (.isub, 1) := by decide +kernel
theorem dX5_appendRun_15 : decode cX5_appendRun 15 = .ok (.if_icmp .gt 15, 3) := by decide +kernel
theorem dX5_appendRun_18 : decode cX5_appendRun 18 = .ok (.aload_n 0, 1) := by decide +kernel
theorem dX5_appendRun_19 : decode cX5_appendRun 19 = .ok (.getfield 21, 3) := by decide +kernel
theorem dX5_appendRun_22 : decode cX5_appendRun 22 = .ok (.sipush 200, 3) := by decide +kernel
theorem dX5_appendRun_25 : decode cX5_appendRun 25 = .ok (.iload_n 3, 1) := by decide +kernel
theorem dX5_appendRun_26 : decode cX5_appendRun 26 = .ok (.isub, 1) := by decide +kernel
theorem dX5_appendRun_27 : decode cX5_appendRun 27 = .ok (.if_icmp .le 4, 3) := by decide +kernel
theorem dX5_appendRun_30 : decode cX5_appendRun 30 = .ok (.return_, 1) := by decide +kernel
theorem dX5_appendRun_31 : decode cX5_appendRun 31 = .ok (.aload_n 1, 1) := by decide +kernel
theorem dX5_appendRun_32 : decode cX5_appendRun 32 = .ok (.getfield 9, 3) := by decide +kernel
theorem dX5_appendRun_35 : decode cX5_appendRun 35 = .ok (.iload_n 2, 1) := by decide +kernel
theorem dX5_appendRun_36 : decode cX5_appendRun 36 = .ok (.aload_n 0, 1) := by decide +kernel
theorem dX5_appendRun_37 : decode cX5_appendRun 37 = .ok (.getfield 9, 3) := by decide +kernel
theorem dX5_appendRun_40 : decode cX5_appendRun 40 = .ok (.aload_n 0, 1) := by decide +kernel
theorem dX5_appendRun_41 : decode cX5_appendRun 41 = .ok (.getfield 21, 3) := by decide +kernel
theorem dX5_appendRun_44 : decode cX5_appendRun 44 = .ok (.iload_n 3, 1) := by decide +kernel
theorem dX5_appendRun_45 : decode cX5_appendRun 45 = .ok (.invokestatic 35, 3) := by decide +kernel
theorem dX5_appendRun_48 : decode cX5_appendRun 48 = .ok (.aload_n 1, 1) := by decide +kernel
theorem dX5_appendRun_49 : decode cX5_appendRun 49 = .ok (.getfield 15, 3) := by decide +kernel
theorem dX5_appendRun_52 : decode cX5_appendRun 52 = .ok (.iload_n 2, 1) := by decide +kernel
theorem dX5_appendRun_53 : decode cX5_appendRun 53 = .ok (.aload_n 0, 1) := by decide +kernel
theorem dX5_appendRun_54 : decode cX5_appendRun 54 = .ok (.getfield 15, 3) := by decide +kernel
theorem dX5_appendRun_57 : decode cX5_appendRun 57 = .ok (.aload_n 0, 1) := by decide +kernel
theorem dX5_appendRun_58 : decode cX5_appendRun 58 = .ok (.getfield 21, 3) := by decide +kernel
theorem dX5_appendRun_61 : decode cX5_appendRun 61 = .ok (.iload_n 3, 1) := by decide +kernel
theorem dX5_appendRun_62 : decode cX5_appendRun 62 = .ok (.invokestatic 35, 3) := by decide +kernel
theorem dX5_appendRun_65 : decode cX5_appendRun 65 = .ok (.aload_n 1, 1) := by decide +kernel
theorem dX5_appendRun_66 : decode cX5_appendRun 66 = .ok (.getfield 18, 3) := by decide +kernel
theorem dX5_appendRun_69 : decode cX5_appendRun 69 = .ok (.iload_n 2, 1) := by decide +kernel
theorem dX5_appendRun_70 : decode cX5_appendRun 70 = .ok (.aload_n 0, 1) := by decide +kernel
theorem dX5_appendRun_71 : decode cX5_appendRun 71 = .ok (.getfield 18, 3) := by decide +kernel
theorem dX5_appendRun_74 : decode cX5_appendRun 74 = .ok (.aload_n 0, 1) := by decide +kernel
theorem dX5_appendRun_75 : decode cX5_appendRun 75 = .ok (.getfield 21, 3) := by decide +kernel
theorem dX5_appendRun_78 : decode cX5_appendRun 78 = .ok (.iload_n 3, 1) := by decide +kernel
theorem dX5_appendRun_79 : decode cX5_appendRun 79 = .ok (.invokestatic 35, 3) := by decide +kernel
theorem dX5_appendRun_82 : decode cX5_appendRun 82 = .ok (.aload_n 0, 1) := by decide +kernel
theorem dX5_appendRun_83 : decode cX5_appendRun 83 = .ok (.dup, 1) := by decide +kernel
theorem dX5_appendRun_84 : decode cX5_appendRun 84 = .ok (.getfield 21, 3) := by decide +kernel
theorem dX5_appendRun_87 : decode cX5_appendRun 87 = .ok (.iload_n 3, 1) := by decide +kernel
theorem dX5_appendRun_88 : decode cX5_appendRun 88 = .ok (.iadd, 1) := by decide +kernel
theorem dX5_appendRun_89 : decode cX5_appendRun 89 = .ok (.putfield 21, 3) := by decide +kernel
theorem dX5_appendRun_92 : decode cX5_appendRun 92 = .ok (.return_, 1) := by decide +kernel
theorem dX5_become_0 : decode cX5_become 0 = .ok (.aload_n 0, 1) := by decide +kernel
theorem dX5_become_1 : decode cX5_become 1 = .ok (.iconst 0, 1) := by decide +kernel
theorem dX5_become_2 : decode cX5_become 2 = .ok (.putfield 21, 3) := by decide +kernel
theorem dX5_become_5 : decode cX5_become 5 = .ok (.aload_n 0, 1) := by decide +kernel
theorem dX5_become_6 : decode cX5_become 6 = .ok (.aload_n 1, 1) := by decide +kernel
theorem dX5_become_7 : decode cX5_become 7 = .ok (.iconst 0, 1) := by decide +kernel
theorem dX5_become_8 : decode cX5_become 8 = .ok (.aload_n 1, 1) := by decide +kernel
theorem dX5_become_9 : decode cX5_become 9 = .ok (.getfield 21, 3) := by decide +kernel
theorem dX5_become_12 : decode cX5_become 12 = .ok (.invokevirtual 41, 3) := by decide +kernel
theorem dX5_become_15 : decode cX5_become 15 = .ok (.return_, 1) := by decide +kernel
theorem dX5_join_0 : decode cX5_join 0 = .ok (.aload_n 0, 1) := by decide +kernel
theorem dX5_join_1 : decode cX5_join 1 = .ok (.iconst 0, 1) := by decide +kernel
theorem dX5_join_2 : decode cX5_join 2 = .ok (.putfield 21, 3) := by decide +kernel
theorem dX5_join_5 : decode cX5_join 5 = .ok (.aload_n 0, 1) := by decide +kernel
theorem dX5_join_6 : decode cX5_join 6 = .ok (.aload_n 1, 1) := by decide +kernel
theorem dX5_join_7 : decode cX5_join 7 = .ok (.iconst 0, 1) := by decide +kernel
theorem dX5_join_8 : decode cX5_join 8 = .ok (.iload_n 2, 1) := by decide +kernel
theorem dX5_join_9 : decode cX5_join 9 = .ok (.invokevirtual 41, 3) := by decide +kernel
theorem dX5_join_12 : decode cX5_join 12 = .ok (.aload_n 0, 1) := by decide +kernel
theorem dX5_join_13 : decode cX5_join 13 = .ok (.aload_n 3, 1) := by decide +kernel
theorem dX5_join_14 : decode cX5_join 14 = .ok (.iload 4, 2) := by decide +kernel
theorem dX5_join_16 : decode cX5_join 16 = .ok (.aload_n 3, 1) := by decide +kernel
theorem dX5_join_17 : decode cX5_join 17 = .ok (.iload 4, 2) := by decide +kernel
theorem dX5_join_19 : decode cX5_join 19 = .ok (.invokevirtual 25, 3) := by decide +kernel
theorem dX5_join_22 : decode cX5_join 22 = .ok (.invokevirtual 41, 3) := by decide +kernel
theorem dX5_join_25 : decode cX5_join 25 = .ok (.aload_n 0, 1) := by decide +kernel
theorem dX5_join_26 : decode cX5_join 26 = .ok (.aload_n 1, 1) := by decide +kernel
theorem dX5_join_27 : decode cX5_join 27 = .ok (.aload_n 1, 1) := by decide +kernel
theorem dX5_join_28 : decode cX5_join 28 = .ok (.iload_n 2, 1) := by decide +kernel
theorem dX5_join_29 : decode cX5_join 29 = .ok (.invokevirtual 45, 3) := by decide +kernel
theorem dX5_join_32 : decode cX5_join 32 = .ok (.aload_n 1, 1) := by decide +kernel
theorem dX5_join_33 : decode cX5_join 33 = .ok (.getfield 21, 3) := by decide +kernel
theorem dX5_join_36 : decode cX5_join 36 = .ok (.aload_n 1, 1) := by decide +kernel
theorem dX5_join_37 : decode cX5_join 37 = .ok (.iload_n 2, 1) := by decide +kernel
theorem dX5_join_38 : decode cX5_join 38 = .ok (.invokevirtual 45, 3) := by decide +kernel
theorem dX5_join_41 : decode cX5_join 41 = .ok (.isub, 1) := by decide +kernel
theorem dX5_join_42 : decode cX5_join 42 = .ok (.invokevirtual 41, 3) := by decide +kernel
theorem dX5_join_45 : decode cX5_join 45 = .ok (.aload_n 0, 1) := by decide +kernel
theorem dX5_join_46 : decode cX5_join 46 = .ok (.invokevirtual 48, 3) := by decide +kernel
theorem dX5_join_49 : decode cX5_join 49 = .ok (.return_, 1) := by decide +kernel
theorem dX5_measure_0 : decode cX5_measure 0 = .ok (.aload_n 0, 1) := by decide +kernel
theorem dX5_measure_1 : decode cX5_measure 1 = .ok (.getfield 21, 3) := by decide +kernel
theorem dX5_measure_4 : decode cX5_measure 4 = .ok (.iconst 1, 1) := by decide +kernel
theorem dX5_measure_5 : decode cX5_measure 5 = .ok (.isub, 1) := by decide +kernel
theorem dX5_measure_6 : decode cX5_measure 6 = .ok (.istore_n 1, 1) := by decide +kernel
theorem dX5_measure_7 : decode cX5_measure 7 = .ok (.iload_n 1, 1) := by decide +kernel
theorem dX5_measure_8 : decode cX5_measure 8 = .ok (.ifCond .lt 48, 3) := by decide +kernel
theorem dX5_measure_11 : decode cX5_measure 11 = .ok (.iload_n 1, 1) := by decide +kernel
theorem dX5_measure_12 : decode cX5_measure 12 = .ok (.iconst 1, 1) := by decide +kernel
theorem dX5_measure_13 : decode cX5_measure 13 = .ok (.iadd, 1) := by decide +kernel
theorem dX5_measure_14 : decode cX5_measure 14 = .ok (.istore_n 2, 1) := by decide +kernel
theorem dX5_measure_15 : decode cX5_measure 15 = .ok (.aload_n 0, 1) := by decide +kernel
theorem dX5_measure_16 : decode cX5_measure 16 = .ok (.getfield 9, 3) := by decide +kernel
theorem dX5_measure_19 : decode cX5_measure 19 = .ok (.iload_n 1, 1) := by decide +kernel
theorem dX5_measure_20 : decode cX5_measure 20 = .ok (.iaload, 1) := by decide +kernel
theorem dX5_measure_21 : decode cX5_measure 21 = .ok (.invokestatic 51, 3) := by decide +kernel
theorem dX5_measure_24 : decode cX5_measure 24 = .ok (.istore_n 3, 1) := by decide +kernel
theorem dX5_measure_25 : decode cX5_measure 25 = .ok (.iload_n 3, 1) := by decide +kernel
theorem dX5_measure_26 : decode cX5_measure 26 = .ok (.ifCond .le 15, 3) := by decide +kernel
theorem dX5_measure_29 : decode cX5_measure 29 = .ok (.aload_n 0, 1) := by decide +kernel
theorem dX5_measure_30 : decode cX5_measure 30 = .ok (.iload_n 2, 1) := by decide +kernel
theorem dX5_measure_31 : decode cX5_measure 31 = .ok (.invokevirtual 45, 3) := by decide +kernel
theorem dX5_measure_34 : decode cX5_measure 34 = .ok (.istore_n 2, 1) := by decide +kernel
theorem dX5_measure_35 : decode cX5_measure 35 = .ok (.iinc 3 (-1), 3) := by decide +kernel
theorem dX5_measure_38 : decode cX5_measure 38 = .ok (.goto (-13), 3) := by decide +kernel
theorem dX5_measure_41 : decode cX5_measure 41 = .ok (.aload_n 0, 1) := by decide +kernel
theorem dX5_measure_42 : decode cX5_measure 42 = .ok (.getfield 18, 3) := by decide +kernel
theorem dX5_measure_45 : decode cX5_measure 45 = .ok (.iload_n 1, 1) := by decide +kernel
theorem dX5_measure_46 : decode cX5_measure 46 = .ok (.iload_n 2, 1) := by decide +kernel
theorem dX5_measure_47 : decode cX5_measure 47 = .ok (.iload_n 1, 1) := by decide +kernel
theorem dX5_measure_48 : decode cX5_measure 48 = .ok (.isub, 1) := by decide +kernel
theorem dX5_measure_49 : decode cX5_measure 49 = .ok (.iastore, 1) := by decide +kernel
theorem dX5_measure_50 : decode cX5_measure 50 = .ok (.iinc 1 (-1), 3) := by decide +kernel
theorem dX5_measure_53 : decode cX5_measure 53 = .ok (.goto (-46), 3) := by decide +kernel
theorem dX5_measure_56 : decode cX5_measure 56 = .ok (.return_, 1) := by decide +kernel
theorem dX5_close_0 : decode cX5_close 0 = .ok (.aload_n 0, 1) := by decide +kernel
theorem dX5_close_1 : decode cX5_close 1 = .ok (.iload_n 1, 1) := by decide +kernel
theorem dX5_close_2 : decode cX5_close 2 = .ok (.invokevirtual 54, 3) := by decide +kernel
theorem dX5_close_5 : decode cX5_close 5 = .ok (.ifCond .eq 15, 3) := by decide +kernel
theorem dX5_close_8 : decode cX5_close 8 = .ok (.aload_n 0, 1) := by decide +kernel
theorem dX5_close_9 : decode cX5_close 9 = .ok (.getfield 18, 3) := by decide +kernel
theorem dX5_close_12 : decode cX5_close 12 = .ok (.iload_n 1, 1) := by decide +kernel
theorem dX5_close_13 : decode cX5_close 13 = .ok (.aload_n 0, 1) := by decide +kernel
theorem dX5_close_14 : decode cX5_close 14 = .ok (.getfield 21, 3) := by decide +kernel
theorem dX5_close_17 : decode cX5_close 17 = .ok (.iload_n 1, 1) := by decide +kernel
theorem dX5_close_18 : decode cX5_close 18 = .ok (.isub, 1) := by decide +kernel
end
section
theorem dX5_close_19 : decode cX5_close 19 = .ok (.iastore, 1) := by decide +kernel
theorem dX5_close_20 : decode cX5_close 20 = .ok (.return_, 1) := by decide +kernel
theorem dX5_rename_0 : decode cX5_rename 0 = .ok (.aload_n 0, 1) := by decide +kernel
theorem dX5_rename_1 : decode cX5_rename 1 = .ok (.iload_n 1, 1) := by decide +kernel
theorem dX5_rename_2 : decode cX5_rename 2 = .ok (.invokevirtual 54, 3) := by decide +kernel
theorem dX5_rename_5 : decode cX5_rename 5 = .ok (.ifCond .eq 29, 3) := by decide +kernel
theorem dX5_rename_8 : decode cX5_rename 8 = .ok (.aload_n 0, 1) := by decide +kernel
theorem dX5_rename_9 : decode cX5_rename 9 = .ok (.getfield 9, 3) := by decide +kernel
theorem dX5_rename_12 : decode cX5_rename 12 = .ok (.iload_n 1, 1) := by decide +kernel
theorem dX5_rename_13 : decode cX5_rename 13 = .ok (.iload_n 2, 1) := by decide +kernel
theorem dX5_rename_14 : decode cX5_rename 14 = .ok (.iastore, 1) := by decide +kernel
theorem dX5_rename_15 : decode cX5_rename 15 = .ok (.aload_n 0, 1) := by decide +kernel
theorem dX5_rename_16 : decode cX5_rename 16 = .ok (.getfield 15, 3) := by decide +kernel
theorem dX5_rename_19 : decode cX5_rename 19 = .ok (.iload_n 1, 1) := by decide +kernel
theorem dX5_rename_20 : decode cX5_rename 20 = .ok (.iconst 0, 1) := by decide +kernel
theorem dX5_rename_21 : decode cX5_rename 21 = .ok (.iastore, 1) := by decide +kernel
theorem dX5_rename_22 : decode cX5_rename 22 = .ok (.aload_n 0, 1) := by decide +kernel
theorem dX5_rename_23 : decode cX5_rename 23 = .ok (.getfield 18, 3) := by decide +kernel
theorem dX5_rename_26 : decode cX5_rename 26 = .ok (.iload_n 1, 1) := by decide +kernel
theorem dX5_rename_27 : decode cX5_rename 27 = .ok (.aload_n 0, 1) := by decide +kernel
theorem dX5_rename_28 : decode cX5_rename 28 = .ok (.getfield 21, 3) := by decide +kernel
theorem dX5_rename_31 : decode cX5_rename 31 = .ok (.iload_n 1, 1) := by decide +kernel
theorem dX5_rename_32 : decode cX5_rename 32 = .ok (.isub, 1) := by decide +kernel
theorem dX5_rename_33 : decode cX5_rename 33 = .ok (.iastore, 1) := by decide +kernel
theorem dX5_rename_34 : decode cX5_rename 34 = .ok (.return_, 1) := by decide +kernel
theorem dX5_insert_0 : decode cX5_insert 0 = .ok (.iload_n 1, 1) := by decide +kernel
theorem dX5_insert_1 : decode cX5_insert 1 = .ok (.ifCond .lt 21, 3) := by decide +kernel
theorem dX5_insert_4 : decode cX5_insert 4 = .ok (.iload_n 1, 1) := by decide +kernel
theorem dX5_insert_5 : decode cX5_insert 5 = .ok (.aload_n 0, 1) := by decide +kernel
theorem dX5_insert_6 : decode cX5_insert 6 = .ok (.getfield 21, 3) := by decide +kernel
theorem dX5_insert_9 : decode cX5_insert 9 = .ok (.if_icmp .gt 13, 3) := by decide +kernel
theorem dX5_insert_12 : decode cX5_insert 12 = .ok (.aload_n 0, 1) := by decide +kernel
theorem dX5_insert_13 : decode cX5_insert 13 = .ok (.getfield 21, 3) := by decide +kernel
theorem dX5_insert_16 : decode cX5_insert 16 = .ok (.sipush 200, 3) := by decide +kernel
theorem dX5_insert_19 : decode cX5_insert 19 = .ok (.if_icmp .lt 4, 3) := by decide +kernel
theorem dX5_insert_22 : decode cX5_insert 22 = .ok (.return_, 1) := by decide +kernel
theorem dX5_insert_23 : decode cX5_insert 23 = .ok (.aload_n 0, 1) := by decide +kernel
theorem dX5_insert_24 : decode cX5_insert 24 = .ok (.getfield 9, 3) := by decide +kernel
theorem dX5_insert_27 : decode cX5_insert 27 = .ok (.iload_n 1, 1) := by decide +kernel
theorem dX5_insert_28 : decode cX5_insert 28 = .ok (.aload_n 0, 1) := by decide +kernel
theorem dX5_insert_29 : decode cX5_insert 29 = .ok (.getfield 9, 3) := by decide +kernel
theorem dX5_insert_32 : decode cX5_insert 32 = .ok (.iload_n 1, 1) := by decide +kernel
theorem dX5_insert_33 : decode cX5_insert 33 = .ok (.iconst 1, 1) := by decide +kernel
theorem dX5_insert_34 : decode cX5_insert 34 = .ok (.iadd, 1) := by decide +kernel
theorem dX5_insert_35 : decode cX5_insert 35 = .ok (.aload_n 0, 1) := by decide +kernel
theorem dX5_insert_36 : decode cX5_insert 36 = .ok (.getfield 21, 3) := by decide +kernel
theorem dX5_insert_39 : decode cX5_insert 39 = .ok (.iload_n 1, 1) := by decide +kernel
theorem dX5_insert_40 : decode cX5_insert 40 = .ok (.isub, 1) := by decide +kernel
theorem dX5_insert_41 : decode cX5_insert 41 = .ok (.invokestatic 35, 3) := by decide +kernel
theorem dX5_insert_44 : decode cX5_insert 44 = .ok (.aload_n 0, 1) := by decide +kernel
theorem dX5_insert_45 : decode cX5_insert 45 = .ok (.getfield 15, 3) := by decide +kernel
theorem dX5_insert_48 : decode cX5_insert 48 = .ok (.iload_n 1, 1) := by decide +kernel
theorem dX5_insert_49 : decode cX5_insert 49 = .ok (.aload_n 0, 1) := by decide +kernel
theorem dX5_insert_50 : decode cX5_insert 50 = .ok (.getfield 15, 3) := by decide +kernel
theorem dX5_insert_53 : decode cX5_insert 53 = .ok (.iload_n 1, 1) := by decide +kernel
theorem dX5_insert_54 : decode cX5_insert 54 = .ok (.iconst 1, 1) := by decide +kernel
theorem dX5_insert_55 : decode cX5_insert 55 = .ok (.iadd, 1) := by decide +kernel
theorem dX5_insert_56 : decode cX5_insert 56 = .ok (.aload_n 0, 1) := by decide +kernel
theorem dX5_insert_57 : decode cX5_insert 57 = .ok (.getfield 21, 3) := by decide +kernel
theorem dX5_insert_60 : decode cX5_insert 60 = .ok (.iload_n 1, 1) := by decide +kernel
theorem dX5_insert_61 : decode cX5_insert 61 = .ok (.isub, 1) := by decide +kernel
theorem dX5_insert_62 : decode cX5_insert 62 = .ok (.invokestatic 35, 3) := by decide +kernel
theorem dX5_insert_65 : decode cX5_insert 65 = .ok (.aload_n 0, 1) := by decide +kernel
theorem dX5_insert_66 : decode cX5_insert 66 = .ok (.getfield 18, 3) := by decide +kernel
theorem dX5_insert_69 : decode cX5_insert 69 = .ok (.iload_n 1, 1) := by decide +kernel
theorem dX5_insert_70 : decode cX5_insert 70 = .ok (.aload_n 0, 1) := by decide +kernel
theorem dX5_insert_71 : decode cX5_insert 71 = .ok (.getfield 18, 3) := by decide +kernel
theorem dX5_insert_74 : decode cX5_insert 74 = .ok (.iload_n 1, 1) := by decide +kernel
theorem dX5_insert_75 : decode cX5_insert 75 = .ok (.iconst 1, 1) := by decide +kernel
theorem dX5_insert_76 : decode cX5_insert 76 = .ok (.iadd, 1) := by decide +kernel
theorem dX5_insert_77 : decode cX5_insert 77 = .ok (.aload_n 0, 1) := by decide +kernel
theorem dX5_insert_78 : decode cX5_insert 78 = .ok (.getfield 21, 3) := by decide +kernel
theorem dX5_insert_81 : decode cX5_insert 81 = .ok (.iload_n 1, 1) := by decide +kernel
theorem dX5_insert_82 : decode cX5_insert 82 = .ok (.isub, 1) := by decide +kernel
theorem dX5_insert_83 : decode cX5_insert 83 = .ok (.invokestatic 35, 3) := by decide +kernel
theorem dX5_insert_86 : decode cX5_insert 86 = .ok (.aload_n 0, 1) := by decide +kernel
theorem dX5_insert_87 : decode cX5_insert 87 = .ok (.dup, 1) := by decide +kernel
theorem dX5_insert_88 : decode cX5_insert 88 = .ok (.getfield 21, 3) := by decide +kernel
theorem dX5_insert_91 : decode cX5_insert 91 = .ok (.iconst 1, 1) := by decide +kernel
theorem dX5_insert_92 : decode cX5_insert 92 = .ok (.iadd, 1) := by decide +kernel
theorem dX5_insert_93 : decode cX5_insert 93 = .ok (.putfield 21, 3) := by decide +kernel
theorem dX5_insert_96 : decode cX5_insert 96 = .ok (.aload_n 0, 1) := by decide +kernel
theorem dX5_insert_97 : decode cX5_insert 97 = .ok (.getfield 9, 3) := by decide +kernel
theorem dX5_insert_100 : decode cX5_insert 100 = .ok (.iload_n 1, 1) := by decide +kernel
theorem dX5_insert_101 : decode cX5_insert 101 = .ok (.iload_n 2, 1) := by decide +kernel
theorem dX5_insert_102 : decode cX5_insert 102 = .ok (.iastore, 1) := by decide +kernel
theorem dX5_insert_103 : decode cX5_insert 103 = .ok (.aload_n 0, 1) := by decide +kernel
theorem dX5_insert_104 : decode cX5_insert 104 = .ok (.getfield 15, 3) := by decide +kernel
theorem dX5_insert_107 : decode cX5_insert 107 = .ok (.iload_n 1, 1) := by decide +kernel
theorem dX5_insert_108 : decode cX5_insert 108 = .ok (.iload_n 3, 1) := by decide +kernel
theorem dX5_insert_109 : decode cX5_insert 109 = .ok (.iastore, 1) := by decide +kernel
theorem dX5_insert_110 : decode cX5_insert 110 = .ok (.aload_n 0, 1) := by decide +kernel
theorem dX5_insert_111 : decode cX5_insert 111 = .ok (.getfield 18, 3) := by decide +kernel
theorem dX5_insert_114 : decode cX5_insert 114 = .ok (.iload_n 1, 1) := by decide +kernel
theorem dX5_insert_115 : decode cX5_insert 115 = .ok (.aload_n 0, 1) := by decide +kernel
theorem dX5_insert_116 : decode cX5_insert 116 = .ok (.getfield 21, 3) := by decide +kernel
theorem dX5_insert_119 : decode cX5_insert 119 = .ok (.iload_n 1, 1) := by decide +kernel
theorem dX5_insert_120 : decode cX5_insert 120 = .ok (.isub, 1) := by decide +kernel
theorem dX5_insert_121 : decode cX5_insert 121 = .ok (.iastore, 1) := by decide +kernel
theorem dX5_insert_122 : decode cX5_insert 122 = .ok (.return_, 1) := by decide +kernel
theorem dX5_cut_0 : decode cX5_cut 0 = .ok (.iload_n 1, 1) := by decide +kernel
theorem dX5_cut_1 : decode cX5_cut 1 = .ok (.ifCond .lt 17, 3) := by decide +kernel
theorem dX5_cut_4 : decode cX5_cut 4 = .ok (.iload_n 2, 1) := by decide +kernel
theorem dX5_cut_5 : decode cX5_cut 5 = .ok (.ifCond .lt 13, 3) := by decide +kernel
theorem dX5_cut_8 : decode cX5_cut 8 = .ok (.iload_n 1, 1) := by decide +kernel
theorem dX5_cut_9 : decode cX5_cut 9 = .ok (.aload_n 0, 1) := by decide +kernel
theorem dX5_cut_10 : decode cX5_cut 10 = .ok (.getfield 21, 3) := by decide +kernel
theorem dX5_cut_13 : decode cX5_cut 13 = .ok (.iload_n 2, 1) := by decide +kernel
theorem dX5_cut_14 : decode cX5_cut 14 = .ok (.isub, 1) := by decide +kernel
theorem dX5_cut_15 : decode cX5_cut 15 = .ok (.if_icmp .le 4, 3) := by decide +kernel
theorem dX5_cut_18 : decode cX5_cut 18 = .ok (.return_, 1) := by decide +kernel
theorem dX5_cut_19 : decode cX5_cut 19 = .ok (.iload_n 1, 1) := by decide +kernel
theorem dX5_cut_20 : decode cX5_cut 20 = .ok (.iload_n 2, 1) := by decide +kernel
theorem dX5_cut_21 : decode cX5_cut 21 = .ok (.iadd, 1) := by decide +kernel
theorem dX5_cut_22 : decode cX5_cut 22 = .ok (.istore_n 3, 1) := by decide +kernel
theorem dX5_cut_23 : decode cX5_cut 23 = .ok (.aload_n 0, 1) := by decide +kernel
theorem dX5_cut_24 : decode cX5_cut 24 = .ok (.getfield 9, 3) := by decide +kernel
theorem dX5_cut_27 : decode cX5_cut 27 = .ok (.iload_n 3, 1) := by decide +kernel
theorem dX5_cut_28 : decode cX5_cut 28 = .ok (.aload_n 0, 1) := by decide +kernel
theorem dX5_cut_29 : decode cX5_cut 29 = .ok (.getfield 9, 3) := by decide +kernel
theorem dX5_cut_32 : decode cX5_cut 32 = .ok (.iload_n 1, 1) := by decide +kernel
theorem dX5_cut_33 : decode cX5_cut 33 = .ok (.aload_n 0, 1) := by decide +kernel
theorem dX5_cut_34 : decode cX5_cut 34 = .ok (.getfield 21, 3) := by decide +kernel
theorem dX5_cut_37 : decode cX5_cut 37 = .ok (.iload_n 3, 1) := by decide +kernel
theorem dX5_cut_38 : decode cX5_cut 38 = .ok (.isub, 1) := by decide +kernel
theorem dX5_cut_39 : decode cX5_cut 39 = .ok (.invokestatic 35, 3) := by decide +kernel
theorem dX5_cut_42 : decode cX5_cut 42 = .ok (.aload_n 0, 1) := by decide +kernel
theorem dX5_cut_43 : decode cX5_cut 43 = .ok (.getfield 15, 3) := by decide +kernel
theorem dX5_cut_46 : decode cX5_cut 46 = .ok (.iload_n 3, 1) := by decide +kernel
theorem dX5_cut_47 : decode cX5_cut 47 = .ok (.aload_n 0, 1) := by decide +kernel
theorem dX5_cut_48 : decode cX5_cut 48 = .ok (.getfield 15, 3) := by decide +kernel
theorem dX5_cut_51 : decode cX5_cut 51 = .ok (.iload_n 1, 1) := by decide +kernel
theorem dX5_cut_52 : decode cX5_cut 52 = .ok (.aload_n 0, 1) := by decide +kernel
theorem dX5_cut_53 : decode cX5_cut 53 = .ok (.getfield 21, 3) := by decide +kernel
theorem dX5_cut_56 : decode cX5_cut 56 = .ok (.iload_n 3, 1) := by decide +kernel
theorem dX5_cut_57 : decode cX5_cut 57 = .ok (.isub, 1) := by decide +kernel
theorem dX5_cut_58 : decode cX5_cut 58 = .ok (.invokestatic 35, 3) := by decide +kernel
theorem dX5_cut_61 : decode cX5_cut 61 = .ok (.aload_n 0, 1) := by decide +kernel
theorem dX5_cut_62 : decode cX5_cut 62 = .ok (.getfield 18, 3) := by decide +kernel
theorem dX5_cut_65 : decode cX5_cut 65 = .ok (.iload_n 3, 1) := by decide +kernel
theorem dX5_cut_66 : decode cX5_cut 66 = .ok (.aload_n 0, 1) := by decide +kernel
theorem dX5_cut_67 : decode cX5_cut 67 = .ok (.getfield 18, 3) := by decide +kernel
theorem dX5_cut_70 : decode cX5_cut 70 = .ok (.iload_n 1, 1) := by decide +kernel
theorem dX5_cut_71 : decode cX5_cut 71 = .ok (.aload_n 0, 1) := by decide +kernel
theorem dX5_cut_72 : decode cX5_cut 72 = .ok (.getfield 21, 3) := by decide +kernel
theorem dX5_cut_75 : decode cX5_cut 75 = .ok (.iload_n 3, 1) := by decide +kernel
theorem dX5_cut_76 : decode cX5_cut 76 = .ok (.isub, 1) := by decide +kernel
theorem dX5_cut_77 : decode cX5_cut 77 = .ok (.invokestatic 35, 3) := by decide +kernel
theorem dX5_cut_80 : decode cX5_cut 80 = .ok (.aload_n 0, 1) := by decide +kernel
theorem dX5_cut_81 : decode cX5_cut 81 = .ok (.dup, 1) := by decide +kernel
theorem dX5_cut_82 : decode cX5_cut 82 = .ok (.getfield 21, 3) := by decide +kernel
theorem dX5_cut_85 : decode cX5_cut 85 = .ok (.iload_n 2, 1) := by decide +kernel
theorem dX5_cut_86 : decode cX5_cut 86 = .ok (.isub, 1) := by decide +kernel
theorem dX5_cut_87 : decode cX5_cut 87 = .ok (.putfield 21, 3) := by decide +kernel
theorem dX5_cut_90 : decode cX5_cut 90 = .ok (.return_, 1) := by decide +kernel
theorem dX5_endAsNumber_0 : decode cX5_endAsNumber 0 = .ok (.aload_n 0, 1) := by decide +kernel
theorem dX5_endAsNumber_1 : decode cX5_endAsNumber 1 = .ok (.iload_n 1, 1) := by decide +kernel
theorem dX5_endAsNumber_2 : decode cX5_endAsNumber 2 = .ok (.invokevirtual 54, 3) := by decide +kernel
theorem dX5_endAsNumber_5 : decode cX5_endAsNumber 5 = .ok (.ifCond .eq 14, 3) := by decide +kernel
theorem dX5_endAsNumber_8 : decode cX5_endAsNumber 8 = .ok (.aload_n 0, 1) := by decide +kernel
theorem dX5_endAsNumber_9 : decode cX5_endAsNumber 9 = .ok (.iload_n 1, 1) := by decide +kernel
theorem dX5_endAsNumber_10 : decode cX5_endAsNumber 10 = .ok (.putfield 21, 3) := by decide +kernel
theorem dX5_endAsNumber_13 : decode cX5_endAsNumber 13 = .ok (.aload_n 0, 1) := by decide +kernel
theorem dX5_endAsNumber_14 : decode cX5_endAsNumber 14 = .ok (.iconst 0, 1) := by decide +kernel
theorem dX5_endAsNumber_15 : decode cX5_endAsNumber 15 = .ok (.iload_n 2, 1) := by decide +kernel
theorem dX5_endAsNumber_16 : decode cX5_endAsNumber 16 = .ok (.invokevirtual 58, 3) := by decide +kernel
theorem dX5_endAsNumber_19 : decode cX5_endAsNumber 19 = .ok (.return_, 1) := by decide +kernel
theorem dX5_endAsPart_0 : decode cX5_endAsPart 0 = .ok (.iload_n 1, 1) := by decide +kernel
theorem dX5_endAsPart_1 : decode cX5_endAsPart 1 = .ok (.ifCond .lt 16, 3) := by decide +kernel
theorem dX5_endAsPart_4 : decode cX5_endAsPart 4 = .ok (.iload_n 2, 1) := by decide +kernel
theorem dX5_endAsPart_5 : decode cX5_endAsPart 5 = .ok (.iload_n 1, 1) := by decide +kernel
theorem dX5_endAsPart_6 : decode cX5_endAsPart 6 = .ok (.if_icmp .lt 11, 3) := by decide +kernel
theorem dX5_endAsPart_9 : decode cX5_endAsPart 9 = .ok (.iload_n 2, 1) := by decide +kernel
theorem dX5_endAsPart_10 : decode cX5_endAsPart 10 = .ok (.aload_n 0, 1) := by decide +kernel
theorem dX5_endAsPart_11 : decode cX5_endAsPart 11 = .ok (.getfield 21, 3) := by decide +kernel
theorem dX5_endAsPart_14 : decode cX5_endAsPart 14 = .ok (.if_icmp .lt 4, 3) := by decide +kernel
theorem dX5_endAsPart_17 : decode cX5_endAsPart 17 = .ok (.return_, 1) := by decide +kernel
theorem dX5_endAsPart_18 : decode cX5_endAsPart 18 = .ok (.aload_n 0, 1) := by decide +kernel
theorem dX5_endAsPart_19 : decode cX5_endAsPart 19 = .ok (.getfield 18, 3) := by decide +kernel
theorem dX5_endAsPart_22 : decode cX5_endAsPart 22 = .ok (.iload_n 2, 1) := by decide +kernel
theorem dX5_endAsPart_23 : decode cX5_endAsPart 23 = .ok (.iaload, 1) := by decide +kernel
theorem dX5_endAsPart_24 : decode cX5_endAsPart 24 = .ok (.aload_n 0, 1) := by decide +kernel
theorem dX5_endAsPart_25 : decode cX5_endAsPart 25 = .ok (.getfield 21, 3) := by decide +kernel
theorem dX5_endAsPart_28 : decode cX5_endAsPart 28 = .ok (.iload_n 2, 1) := by decide +kernel
theorem dX5_endAsPart_29 : decode cX5_endAsPart 29 = .ok (.isub, 1) := by decide +kernel
theorem dX5_endAsPart_30 : decode cX5_endAsPart 30 = .ok (.invokestatic 62, 3) := by decide +kernel
theorem dX5_endAsPart_33 : decode cX5_endAsPart 33 = .ok (.istore_n 3, 1) := by decide +kernel
theorem dX5_endAsPart_34 : decode cX5_endAsPart 34 = .ok (.aload_n 0, 1) := by decide +kernel
theorem dX5_endAsPart_35 : decode cX5_endAsPart 35 = .ok (.getfield 9, 3) := by decide +kernel
theorem dX5_endAsPart_38 : decode cX5_endAsPart 38 = .ok (.iload_n 2, 1) := by decide +kernel
theorem dX5_endAsPart_39 : decode cX5_endAsPart 39 = .ok (.aload_n 0, 1) := by decide +kernel
theorem dX5_endAsPart_40 : decode cX5_endAsPart 40 = .ok (.getfield 9, 3) := by decide +kernel
theorem dX5_endAsPart_43 : decode cX5_endAsPart 43 = .ok (.iload_n 1, 1) := by decide +kernel
theorem dX5_endAsPart_44 : decode cX5_endAsPart 44 = .ok (.iload_n 3, 1) := by decide +kernel
theorem dX5_endAsPart_45 : decode cX5_endAsPart 45 = .ok (.invokestatic 35, 3) := by decide +kernel
theorem dX5_endAsPart_48 : decode cX5_endAsPart 48 = .ok (.aload_n 0, 1) := by decide +kernel
theorem dX5_endAsPart_49 : decode cX5_endAsPart 49 = .ok (.getfield 15, 3) := by decide +kernel
theorem dX5_endAsPart_52 : decode cX5_endAsPart 52 = .ok (.iload_n 2, 1) := by decide +kernel
theorem dX5_endAsPart_53 : decode cX5_endAsPart 53 = .ok (.aload_n 0, 1) := by decide +kernel
theorem dX5_endAsPart_54 : decode cX5_endAsPart 54 = .ok (.getfield 15, 3) := by decide +kernel
theorem dX5_endAsPart_57 : decode cX5_endAsPart 57 = .ok (.iload_n 1, 1) := by decide +kernel
theorem dX5_endAsPart_58 : decode cX5_endAsPart 58 = .ok (.iload_n 3, 1) := by decide +kernel
theorem dX5_endAsPart_59 : decode cX5_endAsPart 59 = .ok (.invokestatic 35, 3) := by decide +kernel
theorem dX5_endAsPart_62 : decode cX5_endAsPart 62 = .ok (.aload_n 0, 1) := by decide +kernel
theorem dX5_endAsPart_63 : decode cX5_endAsPart 63 = .ok (.getfield 18, 3) := by decide +kernel
theorem dX5_endAsPart_66 : decode cX5_endAsPart 66 = .ok (.iload_n 2, 1) := by decide +kernel
theorem dX5_endAsPart_67 : decode cX5_endAsPart 67 = .ok (.aload_n 0, 1) := by decide +kernel
theorem dX5_endAsPart_68 : decode cX5_endAsPart 68 = .ok (.getfield 18, 3) := by decide +kernel
theorem dX5_endAsPart_71 : decode cX5_endAsPart 71 = .ok (.iload_n 1, 1) := by decide +kernel
theorem dX5_endAsPart_72 : decode cX5_endAsPart 72 = .ok (.iload_n 3, 1) := by decide +kernel
theorem dX5_endAsPart_73 : decode cX5_endAsPart 73 = .ok (.invokestatic 35, 3) := by decide +kernel
theorem dX5_endAsPart_76 : decode cX5_endAsPart 76 = .ok (.aload_n 0, 1) := by decide +kernel
theorem dX5_endAsPart_77 : decode cX5_endAsPart 77 = .ok (.iload_n 1, 1) := by decide +kernel
theorem dX5_endAsPart_78 : decode cX5_endAsPart 78 = .ok (.iload_n 3, 1) := by decide +kernel
theorem dX5_endAsPart_79 : decode cX5_endAsPart 79 = .ok (.iadd, 1) := by decide +kernel
theorem dX5_endAsPart_80 : decode cX5_endAsPart 80 = .ok (.putfield 21, 3) := by decide +kernel
theorem dX5_endAsPart_83 : decode cX5_endAsPart 83 = .ok (.return_, 1) := by decide +kernel
theorem dX6_init_0 : decode cX6_init 0 = .ok (.aload_n 0, 1) := by decide +kernel
theorem dX6_init_1 : decode cX6_init 1 = .ok (.invokespecial 3, 3) := by decide +kernel
theorem dX6_init_4 : decode cX6_init 4 = .ok (.aload_n 0, 1) := by decide +kernel
theorem dX6_init_5 : decode cX6_init 5 = .ok (.sipush 200, 3) := by decide +kernel
theorem dX6_init_8 : decode cX6_init 8 = .ok (.newarray .int, 2) := by decide +kernel
theorem dX6_init_10 : decode cX6_init 10 = .ok (.putfield 9, 3) := by decide +kernel
theorem dX6_init_13 : decode cX6_init 13 = .ok (.aload_n 0, 1) := by decide +kernel
theorem dX6_init_14 : decode cX6_init 14 = .ok (.sipush 200, 3) := by decide +kernel
theorem dX6_init_17 : decode cX6_init 17 = .ok (.newarray .int, 2) := by decide +kernel
theorem dX6_init_19 : decode cX6_init 19 = .ok (.putfield 15, 3) := by decide +kernel
theorem dX6_init_22 : decode cX6_init 22 = .ok (.aload_n 0, 1) := by decide +kernel
theorem dX6_init_23 : decode cX6_init 23 = .ok (.new 18, 3) := by decide +kernel
theorem dX6_init_26 : decode cX6_init 26 = .ok (.dup, 1) := by decide +kernel
theorem dX6_init_27 : decode cX6_init 27 = .ok (.invokespecial 20, 3) := by decide +kernel
theorem dX6_init_30 : decode cX6_init 30 = .ok (.putfield 21, 3) := by decide +kernel
theorem dX6_init_33 : decode cX6_init 33 = .ok (.aload_n 0, 1) := by decide +kernel
theorem dX6_init_34 : decode cX6_init 34 = .ok (.new 18, 3) := by decide +kernel
theorem dX6_init_37 : decode cX6_init 37 = .ok (.dup, 1) := by decide +kernel
theorem dX6_init_38 : decode cX6_init 38 = .ok (.invokespecial 20, 3) := by decide +kernel
theorem dX6_init_41 : decode cX6_init 41 = .ok (.putfield 25, 3) := by decide +kernel
theorem dX6_init_44 : decode cX6_init 44 = .ok (.return_, 1) := by decide +kernel
theorem dX6_make_0 : decode cX6_make 0 = .ok (.aload_n 0, 1) := by decide +kernel
theorem dX6_make_1 : decode cX6_make 1 = .ok (.getfield 21, 3) := by decide +kernel
theorem dX6_make_4 : decode cX6_make 4 = .ok (.aload_n 2, 1) := by decide +kernel
theorem dX6_make_5 : decode cX6_make 5 = .ok (.invokevirtual 28, 3) := by decide +kernel
theorem dX6_make_8 : decode cX6_make 8 = .ok (.iconst 0, 1) := by decide +kernel
theorem dX6_make_9 : decode cX6_make 9 = .ok (.istore 4, 2) := by decide +kernel
theorem dX6_make_11 : decode cX6_make 11 = .ok (.iconst 0, 1) := by decide +kernel
theorem dX6_make_12 : decode cX6_make 12 = .ok (.istore 5, 2) := by decide +kernel
theorem dX6_make_14 : decode cX6_make 14 = .ok (.iload 5, 2) := by decide +kernel
theorem dX6_make_16 : decode cX6_make 16 = .ok (.iload_n 3, 1) := by decide +kernel
theorem dX6_make_17 : decode cX6_make 17 = .ok (.if_icmp .ge 30, 3) := by decide +kernel
theorem dX6_make_20 : decode cX6_make 20 = .ok (.iload 4, 2) := by decide +kernel
theorem dX6_make_22 : decode cX6_make 22 = .ok (.aload_n 0, 1) := by decide +kernel
theorem dX6_make_23 : decode cX6_make 23 = .ok (.aload_n 1, 1) := by decide +kernel
theorem dX6_make_24 : decode cX6_make 24 = .ok (.iload 5, 2) := by decide +kernel
theorem dX6_make_26 : decode cX6_make 26 = .ok (.invokevirtual 32, 3) := by decide +kernel
theorem dX6_make_29 : decode cX6_make 29 = .ok (.aload_n 1, 1) := by decide +kernel
theorem dX6_make_30 : decode cX6_make 30 = .ok (.iload 5, 2) := by decide +kernel
theorem dX6_make_32 : decode cX6_make 32 = .ok (.invokevirtual 38, 3) := by decide +kernel
theorem dX6_make_35 : decode cX6_make 35 = .ok (.invokevirtual 41, 3) := by decide +kernel
theorem dX6_make_38 : decode cX6_make 38 = .ok (.iadd, 1) := by decide +kernel
theorem dX6_make_39 : decode cX6_make 39 = .ok (.istore 4, 2) := by decide +kernel
theorem dX6_make_41 : decode cX6_make 41 = .ok (.iinc 5 1, 3) := by decide +kernel
theorem dX6_make_44 : decode cX6_make 44 = .ok (.goto (-30), 3) := by decide +kernel
theorem dX6_make_47 : decode cX6_make 47 = .ok (.iload 4, 2) := by decide +kernel
theorem dX6_make_49 : decode cX6_make 49 = .ok (.ireturn, 1) := by decide +kernel
theorem dX6_firings_0 : decode cX6_firings 0 = .ok (.aload_n 0, 1) := by decide +kernel
theorem dX6_firings_1 : decode cX6_firings 1 = .ok (.aload_n 1, 1) := by decide +kernel
theorem dX6_firings_2 : decode cX6_firings 2 = .ok (.aload_n 2, 1) := by decide +kernel
theorem dX6_firings_3 : decode cX6_firings 3 = .ok (.iload_n 3, 1) := by decide +kernel
theorem dX6_firings_4 : decode cX6_firings 4 = .ok (.invokevirtual 45, 3) := by decide +kernel
theorem dX6_firings_7 : decode cX6_firings 7 = .ok (.pop, 1) := by decide +kernel
theorem dX6_firings_8 : decode cX6_firings 8 = .ok (.aload_n 0, 1) := by decide +kernel
theorem dX6_firings_9 : decode cX6_firings 9 = .ok (.aload_n 1, 1) := by decide +kernel
theorem dX6_firings_10 : decode cX6_firings 10 = .ok (.iload_n 3, 1) := by decide +kernel
theorem dX6_firings_11 : decode cX6_firings 11 = .ok (.invokevirtual 32, 3) := by decide +kernel
theorem dX6_firings_14 : decode cX6_firings 14 = .ok (.aload_n 1, 1) := by decide +kernel
theorem dX6_firings_15 : decode cX6_firings 15 = .ok (.iload_n 3, 1) := by decide +kernel
theorem dX6_firings_16 : decode cX6_firings 16 = .ok (.invokevirtual 38, 3) := by decide +kernel
theorem dX6_firings_19 : decode cX6_firings 19 = .ok (.invokevirtual 41, 3) := by decide +kernel
theorem dX6_firings_22 : decode cX6_firings 22 = .ok (.ireturn, 1) := by decide +kernel
theorem dX6_firingTurns_0 : decode cX6_firingTurns 0 = .ok (.aload_n 0, 1) := by decide +kernel
theorem dX6_firingTurns_1 : decode cX6_firingTurns 1 = .ok (.getfield 21, 3) := by decide +kernel
theorem dX6_firingTurns_4 : decode cX6_firingTurns 4 = .ok (.aload_n 2, 1) := by decide +kernel
theorem dX6_firingTurns_5 : decode cX6_firingTurns 5 = .ok (.invokevirtual 28, 3) := by decide +kernel
theorem dX6_firingTurns_8 : decode cX6_firingTurns 8 = .ok (.iconst 0, 1) := by decide +kernel
theorem dX6_firingTurns_9 : decode cX6_firingTurns 9 = .ok (.istore_n 3, 1) := by decide +kernel
theorem dX6_firingTurns_10 : decode cX6_firingTurns 10 = .ok (.iconst 0, 1) := by decide +kernel
theorem dX6_firingTurns_11 : decode cX6_firingTurns 11 = .ok (.istore 4, 2) := by decide +kernel
theorem dX6_firingTurns_13 : decode cX6_firingTurns 13 = .ok (.iload 4, 2) := by decide +kernel
theorem dX6_firingTurns_15 : decode cX6_firingTurns 15 = .ok (.aload_n 1, 1) := by decide +kernel
theorem dX6_firingTurns_16 : decode cX6_firingTurns 16 = .ok (.getfield 49, 3) := by decide +kernel
theorem dX6_firingTurns_19 : decode cX6_firingTurns 19 = .ok (.if_icmp .ge 35, 3) := by decide +kernel
theorem dX6_firingTurns_22 : decode cX6_firingTurns 22 = .ok (.aload_n 0, 1) := by decide +kernel
theorem dX6_firingTurns_23 : decode cX6_firingTurns 23 = .ok (.aload_n 1, 1) := by decide +kernel
theorem dX6_firingTurns_24 : decode cX6_firingTurns 24 = .ok (.iload 4, 2) := by decide +kernel
theorem dX6_firingTurns_26 : decode cX6_firingTurns 26 = .ok (.invokevirtual 32, 3) := by decide +kernel
theorem dX6_firingTurns_29 : decode cX6_firingTurns 29 = .ok (.aload_n 1, 1) := by decide +kernel
theorem dX6_firingTurns_30 : decode cX6_firingTurns 30 = .ok (.iload 4, 2) := by decide +kernel
theorem dX6_firingTurns_32 : decode cX6_firingTurns 32 = .ok (.invokevirtual 38, 3) := by decide +kernel
theorem dX6_firingTurns_35 : decode cX6_firingTurns 35 = .ok (.invokevirtual 41, 3) := by decide +kernel
theorem dX6_firingTurns_38 : decode cX6_firingTurns 38 = .ok (.ifCond .le 10, 3) := by decide +kernel
theorem dX6_firingTurns_41 : decode cX6_firingTurns 41 = .ok (.iload_n 3, 1) := by decide +kernel
theorem dX6_firingTurns_42 : decode cX6_firingTurns 42 = .ok (.iconst 1, 1) := by decide +kernel
theorem dX6_firingTurns_43 : decode cX6_firingTurns 43 = .ok (.iload 4, 2) := by decide +kernel
theorem dX6_firingTurns_45 : decode cX6_firingTurns 45 = .ok (.ishl, 1) := by decide +kernel
theorem dX6_firingTurns_46 : decode cX6_firingTurns 46 = .ok (.ior, 1) := by decide +kernel
theorem dX6_firingTurns_47 : decode cX6_firingTurns 47 = .ok (.istore_n 3, 1) := by decide +kernel
theorem dX6_firingTurns_48 : decode cX6_firingTurns 48 = .ok (.iinc 4 1, 3) := by decide +kernel
theorem dX6_firingTurns_51 : decode cX6_firingTurns 51 = .ok (.goto (-38), 3) := by decide +kernel
theorem dX6_firingTurns_54 : decode cX6_firingTurns 54 = .ok (.iload_n 3, 1) := by decide +kernel
theorem dX6_firingTurns_55 : decode cX6_firingTurns 55 = .ok (.ireturn, 1) := by decide +kernel
theorem dX6_apply_0 : decode cX6_apply 0 = .ok (.iconst 0, 1) := by decide +kernel
theorem dX6_apply_1 : decode cX6_apply 1 = .ok (.istore_n 3, 1) := by decide +kernel
theorem dX6_apply_2 : decode cX6_apply 2 = .ok (.iconst 0, 1) := by decide +kernel
theorem dX6_apply_3 : decode cX6_apply 3 = .ok (.istore 4, 2) := by decide +kernel
theorem dX6_apply_5 : decode cX6_apply 5 = .ok (.aload_n 0, 1) := by decide +kernel
theorem dX6_apply_6 : decode cX6_apply 6 = .ok (.getfield 25, 3) := by decide +kernel
theorem dX6_apply_9 : decode cX6_apply 9 = .ok (.invokevirtual 53, 3) := by decide +kernel
theorem dX6_apply_12 : decode cX6_apply 12 = .ok (.iconst 0, 1) := by decide +kernel
theorem dX6_apply_13 : decode cX6_apply 13 = .ok (.istore 5, 2) := by decide +kernel
theorem dX6_apply_15 : decode cX6_apply 15 = .ok (.iload 5, 2) := by decide +kernel
theorem dX6_apply_17 : decode cX6_apply 17 = .ok (.aload_n 0, 1) := by decide +kernel
theorem dX6_apply_18 : decode cX6_apply 18 = .ok (.getfield 21, 3) := by decide +kernel
theorem dX6_apply_21 : decode cX6_apply 21 = .ok (.getfield 56, 3) := by decide +kernel
theorem dX6_apply_24 : decode cX6_apply 24 = .ok (.if_icmp .ge 181, 3) := by decide +kernel
theorem dX6_apply_27 : decode cX6_apply 27 = .ok (.iload 4, 2) := by decide +kernel
theorem dX6_apply_29 : decode cX6_apply 29 = .ok (.sipush 200, 3) := by decide +kernel
theorem dX6_apply_32 : decode cX6_apply 32 = .ok (.if_icmp .ge 173, 3) := by decide +kernel
theorem dX6_apply_35 : decode cX6_apply 35 = .ok (.aload_n 0, 1) := by decide +kernel
theorem dX6_apply_36 : decode cX6_apply 36 = .ok (.getfield 21, 3) := by decide +kernel
theorem dX6_apply_39 : decode cX6_apply 39 = .ok (.iload 5, 2) := by decide +kernel
theorem dX6_apply_41 : decode cX6_apply 41 = .ok (.invokevirtual 59, 3) := by decide +kernel
theorem dX6_apply_44 : decode cX6_apply 44 = .ok (.istore 6, 2) := by decide +kernel
theorem dX6_apply_46 : decode cX6_apply 46 = .ok (.aload_n 0, 1) := by decide +kernel
theorem dX6_apply_47 : decode cX6_apply 47 = .ok (.getfield 25, 3) := by decide +kernel
theorem dX6_apply_50 : decode cX6_apply 50 = .ok (.iload 6, 2) := by decide +kernel
theorem dX6_apply_52 : decode cX6_apply 52 = .ok (.aload_n 0, 1) := by decide +kernel
theorem dX6_apply_53 : decode cX6_apply 53 = .ok (.getfield 21, 3) := by decide +kernel
theorem dX6_apply_56 : decode cX6_apply 56 = .ok (.iload 5, 2) := by decide +kernel
theorem dX6_apply_58 : decode cX6_apply 58 = .ok (.invokevirtual 62, 3) := by decide +kernel
theorem dX6_apply_61 : decode cX6_apply 61 = .ok (.invokevirtual 65, 3) := by decide +kernel
theorem dX6_apply_64 : decode cX6_apply 64 = .ok (.iload 6, 2) := by decide +kernel
theorem dX6_apply_66 : decode cX6_apply 66 = .ok (.invokestatic 69, 3) := by decide +kernel
theorem dX6_apply_69 : decode cX6_apply 69 = .ok (.ifCond .le 37, 3) := by decide +kernel
theorem dX6_apply_72 : decode cX6_apply 72 = .ok (.aload_n 0, 1) := by decide +kernel
theorem dX6_apply_73 : decode cX6_apply 73 = .ok (.getfield 9, 3) := by decide +kernel
theorem dX6_apply_76 : decode cX6_apply 76 = .ok (.iload 4, 2) := by decide +kernel
theorem dX6_apply_78 : decode cX6_apply 78 = .ok (.aload_n 0, 1) := by decide +kernel
theorem dX6_apply_79 : decode cX6_apply 79 = .ok (.getfield 25, 3) := by decide +kernel
theorem dX6_apply_82 : decode cX6_apply 82 = .ok (.getfield 56, 3) := by decide +kernel
theorem dX6_apply_85 : decode cX6_apply 85 = .ok (.iconst 1, 1) := by decide +kernel
theorem dX6_apply_86 : decode cX6_apply 86 = .ok (.isub, 1) := by decide +kernel
theorem dX6_apply_87 : decode cX6_apply 87 = .ok (.iastore, 1) := by decide +kernel
theorem dX6_apply_88 : decode cX6_apply 88 = .ok (.aload_n 0, 1) := by decide +kernel
theorem dX6_apply_89 : decode cX6_apply 89 = .ok (.getfield 15, 3) := by decide +kernel
theorem dX6_apply_92 : decode cX6_apply 92 = .ok (.iload 4, 2) := by decide +kernel
theorem dX6_apply_94 : decode cX6_apply 94 = .ok (.iload 6, 2) := by decide +kernel
theorem dX6_apply_96 : decode cX6_apply 96 = .ok (.invokestatic 69, 3) := by decide +kernel
theorem dX6_apply_99 : decode cX6_apply 99 = .ok (.iastore, 1) := by decide +kernel
theorem dX6_apply_100 : decode cX6_apply 100 = .ok (.iinc 4 1, 3) := by decide +kernel
theorem dX6_apply_103 : decode cX6_apply 103 = .ok (.goto 96, 3) := by decide +kernel
theorem dX6_apply_106 : decode cX6_apply 106 = .ok (.iload 4, 2) := by decide +kernel
theorem dX6_apply_108 : decode cX6_apply 108 = .ok (.iconst 1, 1) := by decide +kernel
theorem dX6_apply_109 : decode cX6_apply 109 = .ok (.isub, 1) := by decide +kernel
theorem dX6_apply_110 : decode cX6_apply 110 = .ok (.istore 7, 2) := by decide +kernel
theorem dX6_apply_112 : decode cX6_apply 112 = .ok (.iload 7, 2) := by decide +kernel
theorem dX6_apply_114 : decode cX6_apply 114 = .ok (.ifCond .lt 85, 3) := by decide +kernel
theorem dX6_apply_117 : decode cX6_apply 117 = .ok (.aload_n 0, 1) := by decide +kernel
theorem dX6_apply_118 : decode cX6_apply 118 = .ok (.getfield 15, 3) := by decide +kernel
theorem dX6_apply_121 : decode cX6_apply 121 = .ok (.iload 7, 2) := by decide +kernel
theorem dX6_apply_123 : decode cX6_apply 123 = .ok (.dup2, 1) := by decide +kernel
theorem dX6_apply_124 : decode cX6_apply 124 = .ok (.iaload, 1) := by decide +kernel
theorem dX6_apply_125 : decode cX6_apply 125 = .ok (.iconst 1, 1) := by decide +kernel
theorem dX6_apply_126 : decode cX6_apply 126 = .ok (.isub, 1) := by decide +kernel
theorem dX6_apply_127 : decode cX6_apply 127 = .ok (.iastore, 1) := by decide +kernel
theorem dX6_apply_128 : decode cX6_apply 128 = .ok (.aload_n 0, 1) := by decide +kernel
theorem dX6_apply_129 : decode cX6_apply 129 = .ok (.getfield 15, 3) := by decide +kernel
theorem dX6_apply_132 : decode cX6_apply 132 = .ok (.iload 7, 2) := by decide +kernel
theorem dX6_apply_134 : decode cX6_apply 134 = .ok (.iaload, 1) := by decide +kernel
theorem dX6_apply_135 : decode cX6_apply 135 = .ok (.ifCond .le 6, 3) := by decide +kernel
theorem dX6_apply_138 : decode cX6_apply 138 = .ok (.goto 61, 3) := by decide +kernel
theorem dX6_apply_141 : decode cX6_apply 141 = .ok (.iload 7, 2) := by decide +kernel
theorem dX6_apply_143 : decode cX6_apply 143 = .ok (.istore 4, 2) := by decide +kernel
theorem dX6_apply_145 : decode cX6_apply 145 = .ok (.aload_n 0, 1) := by decide +kernel
theorem dX6_apply_146 : decode cX6_apply 146 = .ok (.getfield 25, 3) := by decide +kernel
theorem dX6_apply_149 : decode cX6_apply 149 = .ok (.aload_n 0, 1) := by decide +kernel
theorem dX6_apply_150 : decode cX6_apply 150 = .ok (.getfield 9, 3) := by decide +kernel
theorem dX6_apply_153 : decode cX6_apply 153 = .ok (.iload 7, 2) := by decide +kernel
theorem dX6_apply_155 : decode cX6_apply 155 = .ok (.iaload, 1) := by decide +kernel
theorem dX6_apply_156 : decode cX6_apply 156 = .ok (.invokevirtual 72, 3) := by decide +kernel
theorem dX6_apply_159 : decode cX6_apply 159 = .ok (.aload_n 0, 1) := by decide +kernel
theorem dX6_apply_160 : decode cX6_apply 160 = .ok (.getfield 25, 3) := by decide +kernel
theorem dX6_apply_163 : decode cX6_apply 163 = .ok (.aload_n 0, 1) := by decide +kernel
theorem dX6_apply_164 : decode cX6_apply 164 = .ok (.getfield 9, 3) := by decide +kernel
theorem dX6_apply_167 : decode cX6_apply 167 = .ok (.iload 7, 2) := by decide +kernel
theorem dX6_apply_169 : decode cX6_apply 169 = .ok (.iaload, 1) := by decide +kernel
theorem dX6_apply_170 : decode cX6_apply 170 = .ok (.iload_n 1, 1) := by decide +kernel
theorem dX6_apply_171 : decode cX6_apply 171 = .ok (.iload_n 2, 1) := by decide +kernel
theorem dX6_apply_172 : decode cX6_apply 172 = .ok (.aload_n 0, 1) := by decide +kernel
theorem dX6_apply_173 : decode cX6_apply 173 = .ok (.getfield 21, 3) := by decide +kernel
theorem dX6_apply_176 : decode cX6_apply 176 = .ok (.getfield 56, 3) := by decide +kernel
theorem dX6_apply_179 : decode cX6_apply 179 = .ok (.iconst 1, 1) := by decide +kernel
theorem dX6_apply_180 : decode cX6_apply 180 = .ok (.isub, 1) := by decide +kernel
theorem dX6_apply_181 : decode cX6_apply 181 = .ok (.iload 5, 2) := by decide +kernel
theorem dX6_apply_183 : decode cX6_apply 183 = .ok (.isub, 1) := by decide +kernel
theorem dX6_apply_184 : decode cX6_apply 184 = .ok (.invokestatic 76, 3) := by decide +kernel
theorem dX6_apply_187 : decode cX6_apply 187 = .ok (.ifCond .eq 6, 3) := by decide +kernel
theorem dX6_apply_190 : decode cX6_apply 190 = .ok (.iinc 3 1, 3) := by decide +kernel
theorem dX6_apply_193 : decode cX6_apply 193 = .ok (.iinc 7 (-1), 3) := by decide +kernel
theorem dX6_apply_196 : decode cX6_apply 196 = .ok (.goto (-84), 3) := by decide +kernel
theorem dX6_apply_199 : decode cX6_apply 199 = .ok (.iinc 5 1, 3) := by decide +kernel
theorem dX6_apply_202 : decode cX6_apply 202 = .ok (.goto (-187), 3) := by decide +kernel
theorem dX6_apply_205 : decode cX6_apply 205 = .ok (.aload_n 0, 1) := by decide +kernel
theorem dX6_apply_206 : decode cX6_apply 206 = .ok (.getfield 21, 3) := by decide +kernel
theorem dX6_apply_209 : decode cX6_apply 209 = .ok (.astore 5, 2) := by decide +kernel
theorem dX6_apply_211 : decode cX6_apply 211 = .ok (.aload_n 0, 1) := by decide +kernel
theorem dX6_apply_212 : decode cX6_apply 212 = .ok (.aload_n 0, 1) := by decide +kernel
theorem dX6_apply_213 : decode cX6_apply 213 = .ok (.getfield 25, 3) := by decide +kernel
theorem dX6_apply_216 : decode cX6_apply 216 = .ok (.putfield 21, 3) := by decide +kernel
theorem dX6_apply_219 : decode cX6_apply 219 = .ok (.aload_n 0, 1) := by decide +kernel
theorem dX6_apply_220 : decode cX6_apply 220 = .ok (.aload 5, 2) := by decide +kernel
theorem dX6_apply_222 : decode cX6_apply 222 = .ok (.putfield 25, 3) := by decide +kernel
theorem dX6_apply_225 : decode cX6_apply 225 = .ok (.iload_n 3, 1) := by decide +kernel
theorem dX6_apply_226 : decode cX6_apply 226 = .ok (.ireturn, 1) := by decide +kernel
theorem dX7_init_0 : decode cX7_init 0 = .ok (.aload_n 0, 1) := by decide +kernel
theorem dX7_init_1 : decode cX7_init 1 = .ok (.invokespecial 1, 3) := by decide +kernel
theorem dX7_init_4 : decode cX7_init 4 = .ok (.aload_n 0, 1) := by decide +kernel
theorem dX7_init_5 : decode cX7_init 5 = .ok (.new 7, 3) := by decide +kernel
theorem dX7_init_8 : decode cX7_init 8 = .ok (.dup, 1) := by decide +kernel
theorem dX7_init_9 : decode cX7_init 9 = .ok (.invokespecial 9, 3) := by decide +kernel
theorem dX7_init_12 : decode cX7_init 12 = .ok (.putfield 10, 3) := by decide +kernel
theorem dX7_init_15 : decode cX7_init 15 = .ok (.aload_n 0, 1) := by decide +kernel
theorem dX7_init_16 : decode cX7_init 16 = .ok (.new 16, 3) := by decide +kernel
theorem dX7_init_19 : decode cX7_init 19 = .ok (.dup, 1) := by decide +kernel
theorem dX7_init_20 : decode cX7_init 20 = .ok (.invokespecial 18, 3) := by decide +kernel
theorem dX7_init_23 : decode cX7_init 23 = .ok (.putfield 19, 3) := by decide +kernel
theorem dX7_init_26 : decode cX7_init 26 = .ok (.aload_n 0, 1) := by decide +kernel
theorem dX7_init_27 : decode cX7_init 27 = .ok (.bipush 20, 2) := by decide +kernel
theorem dX7_init_29 : decode cX7_init 29 = .ok (.anewarray 23, 3) := by decide +kernel
theorem dX7_init_32 : decode cX7_init 32 = .ok (.putfield 25, 3) := by decide +kernel
theorem dX7_init_35 : decode cX7_init 35 = .ok (.aload_n 0, 1) := by decide +kernel
theorem dX7_init_36 : decode cX7_init 36 = .ok (.bipush 8, 2) := by decide +kernel
theorem dX7_init_38 : decode cX7_init 38 = .ok (.anewarray 29, 3) := by decide +kernel
theorem dX7_init_41 : decode cX7_init 41 = .ok (.putfield 31, 3) := by decide +kernel
theorem dX7_init_44 : decode cX7_init 44 = .ok (.aload_n 0, 1) := by decide +kernel
theorem dX7_init_45 : decode cX7_init 45 = .ok (.new 35, 3) := by decide +kernel
theorem dX7_init_48 : decode cX7_init 48 = .ok (.dup, 1) := by decide +kernel
theorem dX7_init_49 : decode cX7_init 49 = .ok (.invokespecial 37, 3) := by decide +kernel
theorem dX7_init_52 : decode cX7_init 52 = .ok (.putfield 38, 3) := by decide +kernel
theorem dX7_init_55 : decode cX7_init 55 = .ok (.aload_n 0, 1) := by decide +kernel
theorem dX7_init_56 : decode cX7_init 56 = .ok (.new 42, 3) := by decide +kernel
theorem dX7_init_59 : decode cX7_init 59 = .ok (.dup, 1) := by decide +kernel
theorem dX7_init_60 : decode cX7_init 60 = .ok (.invokespecial 44, 3) := by decide +kernel
theorem dX7_init_63 : decode cX7_init 63 = .ok (.putfield 45, 3) := by decide +kernel
theorem dX7_init_66 : decode cX7_init 66 = .ok (.aload_n 0, 1) := by decide +kernel
theorem dX7_init_67 : decode cX7_init 67 = .ok (.new 42, 3) := by decide +kernel
theorem dX7_init_70 : decode cX7_init 70 = .ok (.dup, 1) := by decide +kernel
theorem dX7_init_71 : decode cX7_init 71 = .ok (.invokespecial 44, 3) := by decide +kernel
theorem dX7_init_74 : decode cX7_init 74 = .ok (.putfield 49, 3) := by decide +kernel
theorem dX7_init_77 : decode cX7_init 77 = .ok (.aload_n 0, 1) := by decide +kernel
theorem dX7_init_78 : decode cX7_init 78 = .ok (.new 23, 3) := by decide +kernel
theorem dX7_init_81 : decode cX7_init 81 = .ok (.dup, 1) := by decide +kernel
theorem dX7_init_82 : decode cX7_init 82 = .ok (.invokespecial 52, 3) := by decide +kernel
theorem dX7_init_85 : decode cX7_init 85 = .ok (.putfield 53, 3) := by decide +kernel
theorem dX7_init_88 : decode cX7_init 88 = .ok (.aload_n 0, 1) := by decide +kernel
theorem dX7_init_89 : decode cX7_init 89 = .ok (.new 23, 3) := by decide +kernel
theorem dX7_init_92 : decode cX7_init 92 = .ok (.dup, 1) := by decide +kernel
theorem dX7_init_93 : decode cX7_init 93 = .ok (.invokespecial 52, 3) := by decide +kernel
theorem dX7_init_96 : decode cX7_init 96 = .ok (.putfield 57, 3) := by decide +kernel
theorem dX7_init_99 : decode cX7_init 99 = .ok (.aload_n 0, 1) := by decide +kernel
theorem dX7_init_100 : decode cX7_init 100 = .ok (.new 23, 3) := by decide +kernel
theorem dX7_init_103 : decode cX7_init 103 = .ok (.dup, 1) := by decide +kernel
theorem dX7_init_104 : decode cX7_init 104 = .ok (.invokespecial 52, 3) := by decide +kernel
theorem dX7_init_107 : decode cX7_init 107 = .ok (.putfield 60, 3) := by decide +kernel
theorem dX7_init_110 : decode cX7_init 110 = .ok (.aload_n 0, 1) := by decide +kernel
theorem dX7_init_111 : decode cX7_init 111 = .ok (.iconst 0, 1) := by decide +kernel
theorem dX7_init_112 : decode cX7_init 112 = .ok (.putfield 63, 3) := by decide +kernel
theorem dX7_init_115 : decode cX7_init 115 = .ok (.aload_n 0, 1) := by decide +kernel
theorem dX7_init_116 : decode cX7_init 116 = .ok (.iconst (-1), 1) := by decide +kernel
theorem dX7_init_117 : decode cX7_init 117 = .ok (.putfield 67, 3) := by decide +kernel
theorem dX7_init_120 : decode cX7_init 120 = .ok (.iconst 0, 1) := by decide +kernel
theorem dX7_init_121 : decode cX7_init 121 = .ok (.istore_n 1, 1) := by decide +kernel
theorem dX7_init_122 : decode cX7_init 122 = .ok (.iload_n 1, 1) := by decide +kernel
theorem dX7_init_123 : decode cX7_init 123 = .ok (.bipush 20, 2) := by decide +kernel
theorem dX7_init_125 : decode cX7_init 125 = .ok (.if_icmp .ge 22, 3) := by decide +kernel
theorem dX7_init_128 : decode cX7_init 128 = .ok (.aload_n 0, 1) := by decide +kernel
theorem dX7_init_129 : decode cX7_init 129 = .ok (.getfield 25, 3) := by decide +kernel
theorem dX7_init_132 : decode cX7_init 132 = .ok (.iload_n 1, 1) := by decide +kernel
theorem dX7_init_133 : decode cX7_init 133 = .ok (.new 23, 3) := by decide +kernel
theorem dX7_init_136 : decode cX7_init 136 = .ok (.dup, 1) := by decide +kernel
theorem dX7_init_137 : decode cX7_init 137 = .ok (.invokespecial 52, 3) := by decide +kernel
theorem dX7_init_140 : decode cX7_init 140 = .ok (.aastore, 1) := by decide +kernel
theorem dX7_init_141 : decode cX7_init 141 = .ok (.iinc 1 1, 3) := by decide +kernel
theorem dX7_init_144 : decode cX7_init 144 = .ok (.goto (-22), 3) := by decide +kernel
theorem dX7_init_147 : decode cX7_init 147 = .ok (.iconst 0, 1) := by decide +kernel
theorem dX7_init_148 : decode cX7_init 148 = .ok (.istore_n 1, 1) := by decide +kernel
theorem dX7_init_149 : decode cX7_init 149 = .ok (.iload_n 1, 1) := by decide +kernel
theorem dX7_init_150 : decode cX7_init 150 = .ok (.bipush 8, 2) := by decide +kernel
theorem dX7_init_152 : decode cX7_init 152 = .ok (.if_icmp .ge 22, 3) := by decide +kernel
theorem dX7_init_155 : decode cX7_init 155 = .ok (.aload_n 0, 1) := by decide +kernel
theorem dX7_init_156 : decode cX7_init 156 = .ok (.getfield 31, 3) := by decide +kernel
theorem dX7_init_159 : decode cX7_init 159 = .ok (.iload_n 1, 1) := by decide +kernel
theorem dX7_init_160 : decode cX7_init 160 = .ok (.new 29, 3) := by decide +kernel
theorem dX7_init_163 : decode cX7_init 163 = .ok (.dup, 1) := by decide +kernel
theorem dX7_init_164 : decode cX7_init 164 = .ok (.invokespecial 70, 3) := by decide +kernel
theorem dX7_init_167 : decode cX7_init 167 = .ok (.aastore, 1) := by decide +kernel
theorem dX7_init_168 : decode cX7_init 168 = .ok (.iinc 1 1, 3) := by decide +kernel
theorem dX7_init_171 : decode cX7_init 171 = .ok (.goto (-22), 3) := by decide +kernel
theorem dX7_init_174 : decode cX7_init 174 = .ok (.aload_n 0, 1) := by decide +kernel
theorem dX7_init_175 : decode cX7_init 175 = .ok (.getfield 60, 3) := by decide +kernel
theorem dX7_init_178 : decode cX7_init 178 = .ok (.iconst 0, 1) := by decide +kernel
theorem dX7_init_179 : decode cX7_init 179 = .ok (.iconst 0, 1) := by decide +kernel
theorem dX7_init_180 : decode cX7_init 180 = .ok (.invokevirtual 71, 3) := by decide +kernel
theorem dX7_init_183 : decode cX7_init 183 = .ok (.return_, 1) := by decide +kernel
theorem dX7_many_0 : decode cX7_many 0 = .ok (.iload_n 1, 1) := by decide +kernel
theorem dX7_many_1 : decode cX7_many 1 = .ok (.iconst 1, 1) := by decide +kernel
theorem dX7_many_2 : decode cX7_many 2 = .ok (.bipush 15, 2) := by decide +kernel
theorem dX7_many_4 : decode cX7_many 4 = .ok (.invokestatic 75, 3) := by decide +kernel
theorem dX7_many_7 : decode cX7_many 7 = .ok (.ifCond .eq 14, 3) := by decide +kernel
theorem dX7_many_10 : decode cX7_many 10 = .ok (.aload_n 0, 1) := by decide +kernel
theorem dX7_many_11 : decode cX7_many 11 = .ok (.getfield 10, 3) := by decide +kernel
theorem dX7_many_14 : decode cX7_many 14 = .ok (.iload_n 1, 1) := by decide +kernel
theorem dX7_many_15 : decode cX7_many 15 = .ok (.invokevirtual 79, 3) := by decide +kernel
theorem dX7_many_18 : decode cX7_many 18 = .ok (.goto 6, 3) := by decide +kernel
theorem dX7_many_21 : decode cX7_many 21 = .ok (.ldc2_w 83, 3) := by decide +kernel
theorem dX7_many_24 : decode cX7_many 24 = .ok (.lreturn, 1) := by decide +kernel
theorem dX7_nth_0 : decode cX7_nth 0 = .ok (.aload_n 0, 1) := by decide +kernel
theorem dX7_nth_1 : decode cX7_nth 1 = .ok (.iload_n 1, 1) := by decide +kernel
theorem dX7_nth_2 : decode cX7_nth 2 = .ok (.invokevirtual 85, 3) := by decide +kernel
theorem dX7_nth_5 : decode cX7_nth 5 = .ok (.astore 5, 2) := by decide +kernel
theorem dX7_nth_7 : decode cX7_nth 7 = .ok (.aload 5, 2) := by decide +kernel
theorem dX7_nth_9 : decode cX7_nth 9 = .ok (.ifnull 32, 3) := by decide +kernel
theorem dX7_nth_12 : decode cX7_nth 12 = .ok (.iload_n 2, 1) := by decide +kernel
theorem dX7_nth_13 : decode cX7_nth 13 = .ok (.iconst 1, 1) := by decide +kernel
theorem dX7_nth_14 : decode cX7_nth 14 = .ok (.bipush 15, 2) := by decide +kernel
theorem dX7_nth_16 : decode cX7_nth 16 = .ok (.invokestatic 75, 3) := by decide +kernel
theorem dX7_nth_19 : decode cX7_nth 19 = .ok (.ifCond .eq 22, 3) := by decide +kernel
theorem dX7_nth_22 : decode cX7_nth 22 = .ok (.lload_n 3, 1) := by decide +kernel
theorem dX7_nth_23 : decode cX7_nth 23 = .ok (.lconst 0, 1) := by decide +kernel
theorem dX7_nth_24 : decode cX7_nth 24 = .ok (.lcmp, 1) := by decide +kernel
theorem dX7_nth_25 : decode cX7_nth 25 = .ok (.ifCond .lt 16, 3) := by decide +kernel
theorem dX7_nth_28 : decode cX7_nth 28 = .ok (.lload_n 3, 1) := by decide +kernel
theorem dX7_nth_29 : decode cX7_nth 29 = .ok (.aload_n 0, 1) := by decide +kernel
theorem dX7_nth_30 : decode cX7_nth 30 = .ok (.getfield 10, 3) := by decide +kernel
theorem dX7_nth_33 : decode cX7_nth 33 = .ok (.iload_n 2, 1) := by decide +kernel
theorem dX7_nth_34 : decode cX7_nth 34 = .ok (.invokevirtual 79, 3) := by decide +kernel
theorem dX7_nth_37 : decode cX7_nth 37 = .ok (.lcmp, 1) := by decide +kernel
theorem dX7_nth_38 : decode cX7_nth 38 = .ok (.ifCond .lt 5, 3) := by decide +kernel
theorem dX7_nth_41 : decode cX7_nth 41 = .ok (.iconst (-1), 1) := by decide +kernel
theorem dX7_nth_42 : decode cX7_nth 42 = .ok (.ireturn, 1) := by decide +kernel
theorem dX7_nth_43 : decode cX7_nth 43 = .ok (.aload_n 0, 1) := by decide +kernel
theorem dX7_nth_44 : decode cX7_nth 44 = .ok (.getfield 10, 3) := by decide +kernel
theorem dX7_nth_47 : decode cX7_nth 47 = .ok (.aload 5, 2) := by decide +kernel
theorem dX7_nth_49 : decode cX7_nth 49 = .ok (.iload_n 2, 1) := by decide +kernel
theorem dX7_nth_50 : decode cX7_nth 50 = .ok (.lload_n 3, 1) := by decide +kernel
theorem dX7_nth_51 : decode cX7_nth 51 = .ok (.invokevirtual 89, 3) := by decide +kernel
theorem dX7_nth_54 : decode cX7_nth 54 = .ok (.aload 5, 2) := by decide +kernel
theorem dX7_nth_56 : decode cX7_nth 56 = .ok (.getfield 93, 3) := by decide +kernel
theorem dX7_nth_59 : decode cX7_nth 59 = .ok (.ireturn, 1) := by decide +kernel
theorem dX7_number_0 : decode cX7_number 0 = .ok (.aload_n 0, 1) := by decide +kernel
theorem dX7_number_1 : decode cX7_number 1 = .ok (.iload_n 1, 1) := by decide +kernel
theorem dX7_number_2 : decode cX7_number 2 = .ok (.invokevirtual 96, 3) := by decide +kernel
theorem dX7_number_5 : decode cX7_number 5 = .ok (.astore_n 2, 1) := by decide +kernel
theorem dX7_number_6 : decode cX7_number 6 = .ok (.aload_n 2, 1) := by decide +kernel
theorem dX7_number_7 : decode cX7_number 7 = .ok (.ifnonnull 7, 3) := by decide +kernel
theorem dX7_number_10 : decode cX7_number 10 = .ok (.ldc2_w 83, 3) := by decide +kernel
theorem dX7_number_13 : decode cX7_number 13 = .ok (.lreturn, 1) := by decide +kernel
theorem dX7_number_14 : decode cX7_number 14 = .ok (.aload_n 0, 1) := by decide +kernel
theorem dX7_number_15 : decode cX7_number 15 = .ok (.getfield 10, 3) := by decide +kernel
theorem dX7_number_18 : decode cX7_number 18 = .ok (.aload_n 2, 1) := by decide +kernel
theorem dX7_number_19 : decode cX7_number 19 = .ok (.invokevirtual 99, 3) := by decide +kernel
theorem dX7_number_22 : decode cX7_number 22 = .ok (.ifCond .eq 14, 3) := by decide +kernel
theorem dX7_number_25 : decode cX7_number 25 = .ok (.aload_n 0, 1) := by decide +kernel
theorem dX7_number_26 : decode cX7_number 26 = .ok (.getfield 10, 3) := by decide +kernel
theorem dX7_number_29 : decode cX7_number 29 = .ok (.aload_n 2, 1) := by decide +kernel
theorem dX7_number_30 : decode cX7_number 30 = .ok (.invokevirtual 103, 3) := by decide +kernel
theorem dX7_number_33 : decode cX7_number 33 = .ok (.goto 6, 3) := by decide +kernel
theorem dX7_number_36 : decode cX7_number 36 = .ok (.ldc2_w 107, 3) := by decide +kernel
theorem dX7_number_39 : decode cX7_number 39 = .ok (.lreturn, 1) := by decide +kernel
theorem dX7_node_0 : decode cX7_node 0 = .ok (.iload_n 1, 1) := by decide +kernel
theorem dX7_node_1 : decode cX7_node 1 = .ok (.iconst 0, 1) := by decide +kernel
theorem dX7_node_2 : decode cX7_node 2 = .ok (.bipush 8, 2) := by decide +kernel
theorem dX7_node_4 : decode cX7_node 4 = .ok (.invokestatic 75, 3) := by decide +kernel
theorem dX7_node_7 : decode cX7_node 7 = .ok (.ifCond .eq 11, 3) := by decide +kernel
theorem dX7_node_10 : decode cX7_node 10 = .ok (.iload_n 1, 1) := by decide +kernel
theorem dX7_node_11 : decode cX7_node 11 = .ok (.ifCond .eq 9, 3) := by decide +kernel
theorem dX7_node_14 : decode cX7_node 14 = .ok (.iload_n 2, 1) := by decide +kernel
theorem dX7_node_15 : decode cX7_node 15 = .ok (.ifCond .eq 5, 3) := by decide +kernel
theorem dX7_node_18 : decode cX7_node 18 = .ok (.iconst (-1), 1) := by decide +kernel
theorem dX7_node_19 : decode cX7_node 19 = .ok (.ireturn, 1) := by decide +kernel
theorem dX7_node_20 : decode cX7_node 20 = .ok (.aload_n 0, 1) := by decide +kernel
theorem dX7_node_21 : decode cX7_node 21 = .ok (.getfield 19, 3) := by decide +kernel
theorem dX7_node_24 : decode cX7_node 24 = .ok (.getfield 109, 3) := by decide +kernel
theorem dX7_node_27 : decode cX7_node 27 = .ok (.iload_n 1, 1) := by decide +kernel
theorem dX7_node_28 : decode cX7_node 28 = .ok (.invokestatic 112, 3) := by decide +kernel
theorem dX7_node_31 : decode cX7_node 31 = .ok (.if_icmp .ge 6, 3) := by decide +kernel
theorem dX7_node_34 : decode cX7_node 34 = .ok (.bipush (-2), 2) := by decide +kernel
theorem dX7_node_36 : decode cX7_node 36 = .ok (.ireturn, 1) := by decide +kernel
theorem dX7_node_37 : decode cX7_node 37 = .ok (.aload_n 0, 1) := by decide +kernel
theorem dX7_node_38 : decode cX7_node 38 = .ok (.getfield 19, 3) := by decide +kernel
theorem dX7_node_41 : decode cX7_node 41 = .ok (.getfield 116, 3) := by decide +kernel
theorem dX7_node_44 : decode cX7_node 44 = .ok (.getfield 93, 3) := by decide +kernel
theorem dX7_node_47 : decode cX7_node 47 = .ok (.bipush 60, 2) := by decide +kernel
theorem dX7_node_49 : decode cX7_node 49 = .ok (.if_icmp .lt 6, 3) := by decide +kernel
theorem dX7_node_52 : decode cX7_node 52 = .ok (.bipush (-3), 2) := by decide +kernel
theorem dX7_node_54 : decode cX7_node 54 = .ok (.ireturn, 1) := by decide +kernel
theorem dX7_node_55 : decode cX7_node 55 = .ok (.aload_n 0, 1) := by decide +kernel
theorem dX7_node_56 : decode cX7_node 56 = .ok (.getfield 19, 3) := by decide +kernel
theorem dX7_node_59 : decode cX7_node 59 = .ok (.iload_n 1, 1) := by decide +kernel
theorem dX7_node_60 : decode cX7_node 60 = .ok (.iload_n 2, 1) := by decide +kernel
theorem dX7_node_61 : decode cX7_node 61 = .ok (.invokevirtual 119, 3) := by decide +kernel
theorem dX7_node_64 : decode cX7_node 64 = .ok (.aload_n 0, 1) := by decide +kernel
theorem dX7_node_65 : decode cX7_node 65 = .ok (.getfield 19, 3) := by decide +kernel
theorem dX7_node_68 : decode cX7_node 68 = .ok (.getfield 109, 3) := by decide +kernel
theorem dX7_node_71 : decode cX7_node 71 = .ok (.ireturn, 1) := by decide +kernel
theorem dX7_keep_0 : decode cX7_keep 0 = .ok (.aload_n 0, 1) := by decide +kernel
theorem dX7_keep_1 : decode cX7_keep 1 = .ok (.iload_n 1, 1) := by decide +kernel
theorem dX7_keep_2 : decode cX7_keep 2 = .ok (.invokevirtual 85, 3) := by decide +kernel
theorem dX7_keep_5 : decode cX7_keep 5 = .ok (.astore_n 2, 1) := by decide +kernel
theorem dX7_keep_6 : decode cX7_keep 6 = .ok (.aload_n 2, 1) := by decide +kernel
theorem dX7_keep_7 : decode cX7_keep 7 = .ok (.ifnonnull 5, 3) := by decide +kernel
theorem dX7_keep_10 : decode cX7_keep 10 = .ok (.iconst (-1), 1) := by decide +kernel
theorem dX7_keep_11 : decode cX7_keep 11 = .ok (.ireturn, 1) := by decide +kernel
theorem dX7_keep_12 : decode cX7_keep 12 = .ok (.aload_n 0, 1) := by decide +kernel
theorem dX7_keep_13 : decode cX7_keep 13 = .ok (.getfield 19, 3) := by decide +kernel
theorem dX7_keep_16 : decode cX7_keep 16 = .ok (.getfield 109, 3) := by decide +kernel
theorem dX7_keep_19 : decode cX7_keep 19 = .ok (.iconst 1, 1) := by decide +kernel
theorem dX7_keep_20 : decode cX7_keep 20 = .ok (.if_icmp .eq 6, 3) := by decide +kernel
theorem dX7_keep_23 : decode cX7_keep 23 = .ok (.bipush (-2), 2) := by decide +kernel
theorem dX7_keep_25 : decode cX7_keep 25 = .ok (.ireturn, 1) := by decide +kernel
theorem dX7_keep_26 : decode cX7_keep 26 = .ok (.aload_n 2, 1) := by decide +kernel
theorem dX7_keep_27 : decode cX7_keep 27 = .ok (.aload_n 0, 1) := by decide +kernel
theorem dX7_keep_28 : decode cX7_keep 28 = .ok (.getfield 19, 3) := by decide +kernel
theorem dX7_keep_31 : decode cX7_keep 31 = .ok (.getfield 116, 3) := by decide +kernel
theorem dX7_keep_34 : decode cX7_keep 34 = .ok (.invokevirtual 122, 3) := by decide +kernel
theorem dX7_keep_37 : decode cX7_keep 37 = .ok (.aload_n 0, 1) := by decide +kernel
theorem dX7_keep_38 : decode cX7_keep 38 = .ok (.getfield 19, 3) := by decide +kernel
theorem dX7_keep_41 : decode cX7_keep 41 = .ok (.invokevirtual 126, 3) := by decide +kernel
theorem dX7_keep_44 : decode cX7_keep 44 = .ok (.aload_n 2, 1) := by decide +kernel
theorem dX7_keep_45 : decode cX7_keep 45 = .ok (.getfield 93, 3) := by decide +kernel
theorem dX7_keep_48 : decode cX7_keep 48 = .ok (.ireturn, 1) := by decide +kernel
theorem dX7_drop_0 : decode cX7_drop 0 = .ok (.aload_n 0, 1) := by decide +kernel
theorem dX7_drop_1 : decode cX7_drop 1 = .ok (.iload_n 1, 1) := by decide +kernel
theorem dX7_drop_2 : decode cX7_drop 2 = .ok (.invokevirtual 96, 3) := by decide +kernel
theorem dX7_drop_5 : decode cX7_drop 5 = .ok (.astore_n 2, 1) := by decide +kernel
theorem dX7_drop_6 : decode cX7_drop 6 = .ok (.aload_n 2, 1) := by decide +kernel
theorem dX7_drop_7 : decode cX7_drop 7 = .ok (.ifnonnull 5, 3) := by decide +kernel
theorem dX7_drop_10 : decode cX7_drop 10 = .ok (.iconst (-1), 1) := by decide +kernel
theorem dX7_drop_11 : decode cX7_drop 11 = .ok (.ireturn, 1) := by decide +kernel
theorem dX7_drop_12 : decode cX7_drop 12 = .ok (.aload_n 2, 1) := by decide +kernel
theorem dX7_drop_13 : decode cX7_drop 13 = .ok (.getfield 93, 3) := by decide +kernel
theorem dX7_drop_16 : decode cX7_drop 16 = .ok (.istore_n 3, 1) := by decide +kernel
theorem dX7_drop_17 : decode cX7_drop 17 = .ok (.aload_n 2, 1) := by decide +kernel
theorem dX7_drop_18 : decode cX7_drop 18 = .ok (.invokevirtual 129, 3) := by decide +kernel
theorem dX7_drop_21 : decode cX7_drop 21 = .ok (.iload_n 3, 1) := by decide +kernel
theorem dX7_drop_22 : decode cX7_drop 22 = .ok (.ireturn, 1) := by decide +kernel
theorem dX7_read_0 : decode cX7_read 0 = .ok (.aload_n 0, 1) := by decide +kernel
theorem dX7_read_1 : decode cX7_read 1 = .ok (.iload_n 1, 1) := by decide +kernel
theorem dX7_read_2 : decode cX7_read 2 = .ok (.invokevirtual 96, 3) := by decide +kernel
theorem dX7_read_5 : decode cX7_read 5 = .ok (.astore 4, 2) := by decide +kernel
theorem dX7_read_7 : decode cX7_read 7 = .ok (.aload 4, 2) := by decide +kernel
theorem dX7_read_9 : decode cX7_read 9 = .ok (.ifnonnull 8, 3) := by decide +kernel
theorem dX7_read_12 : decode cX7_read 12 = .ok (.ldc 130, 2) := by decide +kernel
theorem dX7_read_14 : decode cX7_read 14 = .ok (.goto 10, 3) := by decide +kernel
theorem dX7_read_17 : decode cX7_read 17 = .ok (.aload 4, 2) := by decide +kernel
theorem dX7_read_19 : decode cX7_read 19 = .ok (.iload_n 2, 1) := by decide +kernel
theorem dX7_read_20 : decode cX7_read 20 = .ok (.iload_n 3, 1) := by decide +kernel
theorem dX7_read_21 : decode cX7_read 21 = .ok (.invokestatic 131, 3) := by decide +kernel
theorem dX7_read_24 : decode cX7_read 24 = .ok (.ireturn, 1) := by decide +kernel
theorem dX7_value_0 : decode cX7_value 0 = .ok (.aload_n 0, 1) := by decide +kernel
theorem dX7_value_1 : decode cX7_value 1 = .ok (.iload_n 1, 1) := by decide +kernel
theorem dX7_value_2 : decode cX7_value 2 = .ok (.invokevirtual 96, 3) := by decide +kernel
theorem dX7_value_5 : decode cX7_value 5 = .ok (.astore 4, 2) := by decide +kernel
theorem dX7_value_7 : decode cX7_value 7 = .ok (.aload 4, 2) := by decide +kernel
theorem dX7_value_9 : decode cX7_value 9 = .ok (.ifnonnull 6, 3) := by decide +kernel
theorem dX7_value_12 : decode cX7_value 12 = .ok (.ldc 130, 2) := by decide +kernel
theorem dX7_value_14 : decode cX7_value 14 = .ok (.ireturn, 1) := by decide +kernel
theorem dX7_value_15 : decode cX7_value 15 = .ok (.aload_n 0, 1) := by decide +kernel
theorem dX7_value_16 : decode cX7_value 16 = .ok (.getfield 45, 3) := by decide +kernel
theorem dX7_value_19 : decode cX7_value 19 = .ok (.aload 4, 2) := by decide +kernel
theorem dX7_value_21 : decode cX7_value 21 = .ok (.invokevirtual 135, 3) := by decide +kernel
theorem dX7_value_24 : decode cX7_value 24 = .ok (.aload_n 0, 1) := by decide +kernel
theorem dX7_value_25 : decode cX7_value 25 = .ok (.getfield 45, 3) := by decide +kernel
theorem dX7_value_28 : decode cX7_value 28 = .ok (.iload_n 2, 1) := by decide +kernel
theorem dX7_value_29 : decode cX7_value 29 = .ok (.iload_n 3, 1) := by decide +kernel
theorem dX7_value_30 : decode cX7_value 30 = .ok (.invokevirtual 138, 3) := by decide +kernel
theorem dX7_value_33 : decode cX7_value 33 = .ok (.ifCond .eq 13, 3) := by decide +kernel
theorem dX7_value_36 : decode cX7_value 36 = .ok (.aload_n 0, 1) := by decide +kernel
theorem dX7_value_37 : decode cX7_value 37 = .ok (.getfield 45, 3) := by decide +kernel
theorem dX7_value_40 : decode cX7_value 40 = .ok (.getfield 142, 3) := by decide +kernel
theorem dX7_value_43 : decode cX7_value 43 = .ok (.goto 5, 3) := by decide +kernel
theorem dX7_value_46 : decode cX7_value 46 = .ok (.ldc 130, 2) := by decide +kernel
theorem dX7_value_48 : decode cX7_value 48 = .ok (.ireturn, 1) := by decide +kernel
theorem dX7_safe_0 : decode cX7_safe 0 = .ok (.aload_n 0, 1) := by decide +kernel
theorem dX7_safe_1 : decode cX7_safe 1 = .ok (.iload_n 1, 1) := by decide +kernel
theorem dX7_safe_2 : decode cX7_safe 2 = .ok (.invokevirtual 96, 3) := by decide +kernel
theorem dX7_safe_5 : decode cX7_safe 5 = .ok (.astore_n 3, 1) := by decide +kernel
theorem dX7_safe_6 : decode cX7_safe 6 = .ok (.aload_n 3, 1) := by decide +kernel
theorem dX7_safe_7 : decode cX7_safe 7 = .ok (.ifnull 13, 3) := by decide +kernel
theorem dX7_safe_10 : decode cX7_safe 10 = .ok (.iload_n 2, 1) := by decide +kernel
theorem dX7_safe_11 : decode cX7_safe 11 = .ok (.iconst 0, 1) := by decide +kernel
theorem dX7_safe_12 : decode cX7_safe 12 = .ok (.bipush 6, 2) := by decide +kernel
theorem dX7_safe_14 : decode cX7_safe 14 = .ok (.invokestatic 75, 3) := by decide +kernel
theorem dX7_safe_17 : decode cX7_safe 17 = .ok (.ifCond .ne 5, 3) := by decide +kernel
theorem dX7_safe_20 : decode cX7_safe 20 = .ok (.iconst (-1), 1) := by decide +kernel
theorem dX7_safe_21 : decode cX7_safe 21 = .ok (.ireturn, 1) := by decide +kernel
theorem dX7_safe_22 : decode cX7_safe 22 = .ok (.aload_n 0, 1) := by decide +kernel
theorem dX7_safe_23 : decode cX7_safe 23 = .ok (.aload_n 3, 1) := by decide +kernel
theorem dX7_safe_24 : decode cX7_safe 24 = .ok (.iload_n 2, 1) := by decide +kernel
theorem dX7_safe_25 : decode cX7_safe 25 = .ok (.invokevirtual 145, 3) := by decide +kernel
theorem dX7_safe_28 : decode cX7_safe 28 = .ok (.ifCond .eq 7, 3) := by decide +kernel
theorem dX7_safe_31 : decode cX7_safe 31 = .ok (.iconst 1, 1) := by decide +kernel
theorem dX7_safe_32 : decode cX7_safe 32 = .ok (.goto 4, 3) := by decide +kernel
theorem dX7_safe_35 : decode cX7_safe 35 = .ok (.iconst 0, 1) := by decide +kernel
theorem dX7_safe_36 : decode cX7_safe 36 = .ok (.ireturn, 1) := by decide +kernel
theorem dX7_breed_0 : decode cX7_breed 0 = .ok (.aload_n 0, 1) := by decide +kernel
theorem dX7_breed_1 : decode cX7_breed 1 = .ok (.iload_n 1, 1) := by decide +kernel
theorem dX7_breed_2 : decode cX7_breed 2 = .ok (.invokevirtual 85, 3) := by decide +kernel
theorem dX7_breed_5 : decode cX7_breed 5 = .ok (.astore 6, 2) := by decide +kernel
theorem dX7_breed_7 : decode cX7_breed 7 = .ok (.aload_n 0, 1) := by decide +kernel
theorem dX7_breed_8 : decode cX7_breed 8 = .ok (.iload_n 2, 1) := by decide +kernel
theorem dX7_breed_9 : decode cX7_breed 9 = .ok (.invokevirtual 96, 3) := by decide +kernel
theorem dX7_breed_12 : decode cX7_breed 12 = .ok (.astore 7, 2) := by decide +kernel
theorem dX7_breed_14 : decode cX7_breed 14 = .ok (.aload_n 0, 1) := by decide +kernel
theorem dX7_breed_15 : decode cX7_breed 15 = .ok (.iload 4, 2) := by decide +kernel
theorem dX7_breed_17 : decode cX7_breed 17 = .ok (.invokevirtual 96, 3) := by decide +kernel
theorem dX7_breed_20 : decode cX7_breed 20 = .ok (.astore 8, 2) := by decide +kernel
theorem dX7_breed_22 : decode cX7_breed 22 = .ok (.aload 6, 2) := by decide +kernel
theorem dX7_breed_24 : decode cX7_breed 24 = .ok (.ifnull 32, 3) := by decide +kernel
theorem dX7_breed_27 : decode cX7_breed 27 = .ok (.aload 7, 2) := by decide +kernel
theorem dX7_breed_29 : decode cX7_breed 29 = .ok (.ifnull 27, 3) := by decide +kernel
theorem dX7_breed_32 : decode cX7_breed 32 = .ok (.aload 8, 2) := by decide +kernel
theorem dX7_breed_34 : decode cX7_breed 34 = .ok (.ifnull 22, 3) := by decide +kernel
theorem dX7_breed_37 : decode cX7_breed 37 = .ok (.aload 7, 2) := by decide +kernel
theorem dX7_breed_39 : decode cX7_breed 39 = .ok (.iload_n 3, 1) := by decide +kernel
theorem dX7_breed_40 : decode cX7_breed 40 = .ok (.invokevirtual 149, 3) := by decide +kernel
theorem dX7_breed_43 : decode cX7_breed 43 = .ok (.ifCond .eq 13, 3) := by decide +kernel
theorem dX7_breed_46 : decode cX7_breed 46 = .ok (.aload 8, 2) := by decide +kernel
theorem dX7_breed_48 : decode cX7_breed 48 = .ok (.iload 5, 2) := by decide +kernel
theorem dX7_breed_50 : decode cX7_breed 50 = .ok (.invokevirtual 149, 3) := by decide +kernel
theorem dX7_breed_53 : decode cX7_breed 53 = .ok (.ifCond .ne 5, 3) := by decide +kernel
theorem dX7_breed_56 : decode cX7_breed 56 = .ok (.iconst (-1), 1) := by decide +kernel
theorem dX7_breed_57 : decode cX7_breed 57 = .ok (.ireturn, 1) := by decide +kernel
theorem dX7_breed_58 : decode cX7_breed 58 = .ok (.aload 7, 2) := by decide +kernel
theorem dX7_breed_60 : decode cX7_breed 60 = .ok (.getfield 93, 3) := by decide +kernel
theorem dX7_breed_63 : decode cX7_breed 63 = .ok (.aload 7, 2) := by decide +kernel
theorem dX7_breed_65 : decode cX7_breed 65 = .ok (.iload_n 3, 1) := by decide +kernel
theorem dX7_breed_66 : decode cX7_breed 66 = .ok (.invokevirtual 153, 3) := by decide +kernel
theorem dX7_breed_69 : decode cX7_breed 69 = .ok (.isub, 1) := by decide +kernel
theorem dX7_breed_70 : decode cX7_breed 70 = .ok (.aload 8, 2) := by decide +kernel
theorem dX7_breed_72 : decode cX7_breed 72 = .ok (.iload 5, 2) := by decide +kernel
theorem dX7_breed_74 : decode cX7_breed 74 = .ok (.invokevirtual 153, 3) := by decide +kernel
theorem dX7_breed_77 : decode cX7_breed 77 = .ok (.iadd, 1) := by decide +kernel
theorem dX7_breed_78 : decode cX7_breed 78 = .ok (.bipush 60, 2) := by decide +kernel
theorem dX7_breed_80 : decode cX7_breed 80 = .ok (.if_icmp .le 6, 3) := by decide +kernel
theorem dX7_breed_83 : decode cX7_breed 83 = .ok (.bipush (-3), 2) := by decide +kernel
theorem dX7_breed_85 : decode cX7_breed 85 = .ok (.ireturn, 1) := by decide +kernel
theorem dX7_breed_86 : decode cX7_breed 86 = .ok (.aload_n 0, 1) := by decide +kernel
theorem dX7_breed_87 : decode cX7_breed 87 = .ok (.getfield 57, 3) := by decide +kernel
theorem dX7_breed_90 : decode cX7_breed 90 = .ok (.aload 7, 2) := by decide +kernel
theorem dX7_breed_92 : decode cX7_breed 92 = .ok (.iload_n 3, 1) := by decide +kernel
theorem dX7_breed_93 : decode cX7_breed 93 = .ok (.aload 8, 2) := by decide +kernel
theorem dX7_breed_95 : decode cX7_breed 95 = .ok (.iload 5, 2) := by decide +kernel
theorem dX7_breed_97 : decode cX7_breed 97 = .ok (.invokevirtual 156, 3) := by decide +kernel
theorem dX7_breed_100 : decode cX7_breed 100 = .ok (.aload 6, 2) := by decide +kernel
theorem dX7_breed_102 : decode cX7_breed 102 = .ok (.aload_n 0, 1) := by decide +kernel
theorem dX7_breed_103 : decode cX7_breed 103 = .ok (.getfield 57, 3) := by decide +kernel
theorem dX7_breed_106 : decode cX7_breed 106 = .ok (.invokevirtual 122, 3) := by decide +kernel
theorem dX7_breed_109 : decode cX7_breed 109 = .ok (.aload 6, 2) := by decide +kernel
theorem dX7_breed_111 : decode cX7_breed 111 = .ok (.getfield 93, 3) := by decide +kernel
theorem dX7_breed_114 : decode cX7_breed 114 = .ok (.ireturn, 1) := by decide +kernel
theorem dX7_maker_0 : decode cX7_maker 0 = .ok (.aload_n 0, 1) := by decide +kernel
theorem dX7_maker_1 : decode cX7_maker 1 = .ok (.getfield 63, 3) := by decide +kernel
theorem dX7_maker_4 : decode cX7_maker 4 = .ok (.bipush 8, 2) := by decide +kernel
theorem dX7_maker_6 : decode cX7_maker 6 = .ok (.if_icmp .lt 6, 3) := by decide +kernel
theorem dX7_maker_9 : decode cX7_maker 9 = .ok (.bipush (-3), 2) := by decide +kernel
theorem dX7_maker_11 : decode cX7_maker 11 = .ok (.ireturn, 1) := by decide +kernel
theorem dX7_maker_12 : decode cX7_maker 12 = .ok (.aload_n 0, 1) := by decide +kernel
theorem dX7_maker_13 : decode cX7_maker 13 = .ok (.dup, 1) := by decide +kernel
theorem dX7_maker_14 : decode cX7_maker 14 = .ok (.getfield 63, 3) := by decide +kernel
theorem dX7_maker_17 : decode cX7_maker 17 = .ok (.iconst 1, 1) := by decide +kernel
theorem dX7_maker_18 : decode cX7_maker 18 = .ok (.iadd, 1) := by decide +kernel
theorem dX7_maker_19 : decode cX7_maker 19 = .ok (.putfield 63, 3) := by decide +kernel
theorem dX7_maker_22 : decode cX7_maker 22 = .ok (.aload_n 0, 1) := by decide +kernel
theorem dX7_maker_23 : decode cX7_maker 23 = .ok (.getfield 63, 3) := by decide +kernel
theorem dX7_maker_26 : decode cX7_maker 26 = .ok (.iconst 1, 1) := by decide +kernel
theorem dX7_maker_27 : decode cX7_maker 27 = .ok (.isub, 1) := by decide +kernel
theorem dX7_maker_28 : decode cX7_maker 28 = .ok (.ireturn, 1) := by decide +kernel
theorem dX7_turn_0 : decode cX7_turn 0 = .ok (.aload_n 0, 1) := by decide +kernel
theorem dX7_turn_1 : decode cX7_turn 1 = .ok (.iload_n 1, 1) := by decide +kernel
theorem dX7_turn_2 : decode cX7_turn 2 = .ok (.invokevirtual 160, 3) := by decide +kernel
theorem dX7_turn_5 : decode cX7_turn 5 = .ok (.astore 4, 2) := by decide +kernel
theorem dX7_turn_7 : decode cX7_turn 7 = .ok (.aload 4, 2) := by decide +kernel
theorem dX7_turn_9 : decode cX7_turn 9 = .ok (.ifnull 22, 3) := by decide +kernel
theorem dX7_turn_12 : decode cX7_turn 12 = .ok (.iload_n 2, 1) := by decide +kernel
theorem dX7_turn_13 : decode cX7_turn 13 = .ok (.iconst 0, 1) := by decide +kernel
theorem dX7_turn_14 : decode cX7_turn 14 = .ok (.bipush 6, 2) := by decide +kernel
theorem dX7_turn_16 : decode cX7_turn 16 = .ok (.invokestatic 75, 3) := by decide +kernel
theorem dX7_turn_19 : decode cX7_turn 19 = .ok (.ifCond .eq 12, 3) := by decide +kernel
theorem dX7_turn_22 : decode cX7_turn 22 = .ok (.iload_n 3, 1) := by decide +kernel
theorem dX7_turn_23 : decode cX7_turn 23 = .ok (.iconst 0, 1) := by decide +kernel
theorem dX7_turn_24 : decode cX7_turn 24 = .ok (.iconst 2, 1) := by decide +kernel
theorem dX7_turn_25 : decode cX7_turn 25 = .ok (.invokestatic 75, 3) := by decide +kernel
theorem dX7_turn_28 : decode cX7_turn 28 = .ok (.ifCond .ne 5, 3) := by decide +kernel
theorem dX7_turn_31 : decode cX7_turn 31 = .ok (.iconst (-1), 1) := by decide +kernel
theorem dX7_turn_32 : decode cX7_turn 32 = .ok (.ireturn, 1) := by decide +kernel
theorem dX7_turn_33 : decode cX7_turn 33 = .ok (.aload 4, 2) := by decide +kernel
theorem dX7_turn_35 : decode cX7_turn 35 = .ok (.getfield 164, 3) := by decide +kernel
theorem dX7_turn_38 : decode cX7_turn 38 = .ok (.bipush 10, 2) := by decide +kernel
theorem dX7_turn_40 : decode cX7_turn 40 = .ok (.if_icmp .lt 6, 3) := by decide +kernel
theorem dX7_turn_43 : decode cX7_turn 43 = .ok (.bipush (-3), 2) := by decide +kernel
theorem dX7_turn_45 : decode cX7_turn 45 = .ok (.ireturn, 1) := by decide +kernel
theorem dX7_turn_46 : decode cX7_turn 46 = .ok (.aload 4, 2) := by decide +kernel
theorem dX7_turn_48 : decode cX7_turn 48 = .ok (.iload_n 2, 1) := by decide +kernel
theorem dX7_turn_49 : decode cX7_turn 49 = .ok (.iload_n 3, 1) := by decide +kernel
theorem dX7_turn_50 : decode cX7_turn 50 = .ok (.invokevirtual 167, 3) := by decide +kernel
theorem dX7_turn_53 : decode cX7_turn 53 = .ok (.aload 4, 2) := by decide +kernel
theorem dX7_turn_55 : decode cX7_turn 55 = .ok (.getfield 164, 3) := by decide +kernel
theorem dX7_turn_58 : decode cX7_turn 58 = .ok (.ireturn, 1) := by decide +kernel
theorem dX7_plant_0 : decode cX7_plant 0 = .ok (.aload_n 0, 1) := by decide +kernel
theorem dX7_plant_1 : decode cX7_plant 1 = .ok (.iload_n 1, 1) := by decide +kernel
theorem dX7_plant_2 : decode cX7_plant 2 = .ok (.invokevirtual 160, 3) := by decide +kernel
theorem dX7_plant_5 : decode cX7_plant 5 = .ok (.astore 4, 2) := by decide +kernel
theorem dX7_plant_7 : decode cX7_plant 7 = .ok (.aload 4, 2) := by decide +kernel
theorem dX7_plant_9 : decode cX7_plant 9 = .ok (.ifnull 21, 3) := by decide +kernel
theorem dX7_plant_12 : decode cX7_plant 12 = .ok (.aload 4, 2) := by decide +kernel
theorem dX7_plant_14 : decode cX7_plant 14 = .ok (.iload_n 2, 1) := by decide +kernel
theorem dX7_plant_15 : decode cX7_plant 15 = .ok (.invokevirtual 170, 3) := by decide +kernel
theorem dX7_plant_18 : decode cX7_plant 18 = .ok (.ifCond .eq 12, 3) := by decide +kernel
theorem dX7_plant_21 : decode cX7_plant 21 = .ok (.iload_n 3, 1) := by decide +kernel
theorem dX7_plant_22 : decode cX7_plant 22 = .ok (.iconst 0, 1) := by decide +kernel
theorem dX7_plant_23 : decode cX7_plant 23 = .ok (.iconst 2, 1) := by decide +kernel
theorem dX7_plant_24 : decode cX7_plant 24 = .ok (.invokestatic 75, 3) := by decide +kernel
theorem dX7_plant_27 : decode cX7_plant 27 = .ok (.ifCond .ne 5, 3) := by decide +kernel
theorem dX7_plant_30 : decode cX7_plant 30 = .ok (.iconst (-1), 1) := by decide +kernel
theorem dX7_plant_31 : decode cX7_plant 31 = .ok (.ireturn, 1) := by decide +kernel
theorem dX7_plant_32 : decode cX7_plant 32 = .ok (.aload 4, 2) := by decide +kernel
theorem dX7_plant_34 : decode cX7_plant 34 = .ok (.iload_n 2, 1) := by decide +kernel
theorem dX7_plant_35 : decode cX7_plant 35 = .ok (.invokevirtual 171, 3) := by decide +kernel
theorem dX7_plant_38 : decode cX7_plant 38 = .ok (.istore 5, 2) := by decide +kernel
theorem dX7_plant_40 : decode cX7_plant 40 = .ok (.aload 4, 2) := by decide +kernel
theorem dX7_plant_42 : decode cX7_plant 42 = .ok (.iload_n 2, 1) := by decide +kernel
theorem dX7_plant_43 : decode cX7_plant 43 = .ok (.iload_n 3, 1) := by decide +kernel
theorem dX7_plant_44 : decode cX7_plant 44 = .ok (.invokevirtual 174, 3) := by decide +kernel
theorem dX7_plant_47 : decode cX7_plant 47 = .ok (.iload 5, 2) := by decide +kernel
theorem dX7_plant_49 : decode cX7_plant 49 = .ok (.ireturn, 1) := by decide +kernel
theorem dX7_made_0 : decode cX7_made 0 = .ok (.aload_n 0, 1) := by decide +kernel
theorem dX7_made_1 : decode cX7_made 1 = .ok (.iload_n 1, 1) := by decide +kernel
theorem dX7_made_2 : decode cX7_made 2 = .ok (.invokevirtual 160, 3) := by decide +kernel
theorem dX7_made_5 : decode cX7_made 5 = .ok (.astore 4, 2) := by decide +kernel
theorem dX7_made_7 : decode cX7_made 7 = .ok (.aload_n 0, 1) := by decide +kernel
theorem dX7_made_8 : decode cX7_made 8 = .ok (.iload_n 2, 1) := by decide +kernel
theorem dX7_made_9 : decode cX7_made 9 = .ok (.invokevirtual 96, 3) := by decide +kernel
theorem dX7_made_12 : decode cX7_made 12 = .ok (.astore 5, 2) := by decide +kernel
theorem dX7_made_14 : decode cX7_made 14 = .ok (.aload 4, 2) := by decide +kernel
theorem dX7_made_16 : decode cX7_made 16 = .ok (.ifnull 21, 3) := by decide +kernel
theorem dX7_made_19 : decode cX7_made 19 = .ok (.aload 5, 2) := by decide +kernel
theorem dX7_made_21 : decode cX7_made 21 = .ok (.ifnull 16, 3) := by decide +kernel
theorem dX7_made_24 : decode cX7_made 24 = .ok (.iload_n 3, 1) := by decide +kernel
theorem dX7_made_25 : decode cX7_made 25 = .ok (.iconst 0, 1) := by decide +kernel
theorem dX7_made_26 : decode cX7_made 26 = .ok (.aload 4, 2) := by decide +kernel
theorem dX7_made_28 : decode cX7_made 28 = .ok (.getfield 164, 3) := by decide +kernel
theorem dX7_made_31 : decode cX7_made 31 = .ok (.invokestatic 75, 3) := by decide +kernel
theorem dX7_made_34 : decode cX7_made 34 = .ok (.ifCond .ne 5, 3) := by decide +kernel
theorem dX7_made_37 : decode cX7_made 37 = .ok (.iconst (-1), 1) := by decide +kernel
theorem dX7_made_38 : decode cX7_made 38 = .ok (.ireturn, 1) := by decide +kernel
theorem dX7_made_39 : decode cX7_made 39 = .ok (.aload_n 0, 1) := by decide +kernel
theorem dX7_made_40 : decode cX7_made 40 = .ok (.getfield 38, 3) := by decide +kernel
theorem dX7_made_43 : decode cX7_made 43 = .ok (.aload 4, 2) := by decide +kernel
theorem dX7_made_45 : decode cX7_made 45 = .ok (.aload 5, 2) := by decide +kernel
theorem dX7_made_47 : decode cX7_made 47 = .ok (.iload_n 3, 1) := by decide +kernel
theorem dX7_made_48 : decode cX7_made 48 = .ok (.invokevirtual 177, 3) := by decide +kernel
theorem dX7_made_51 : decode cX7_made 51 = .ok (.pop, 1) := by decide +kernel
theorem dX7_made_52 : decode cX7_made 52 = .ok (.aload_n 0, 1) := by decide +kernel
theorem dX7_made_53 : decode cX7_made 53 = .ok (.getfield 53, 3) := by decide +kernel
theorem dX7_made_56 : decode cX7_made 56 = .ok (.aload_n 0, 1) := by decide +kernel
theorem dX7_made_57 : decode cX7_made 57 = .ok (.getfield 38, 3) := by decide +kernel
theorem dX7_made_60 : decode cX7_made 60 = .ok (.getfield 181, 3) := by decide +kernel
theorem dX7_made_63 : decode cX7_made 63 = .ok (.invokevirtual 122, 3) := by decide +kernel
theorem dX7_made_66 : decode cX7_made 66 = .ok (.aload_n 0, 1) := by decide +kernel
theorem dX7_made_67 : decode cX7_made 67 = .ok (.getfield 53, 3) := by decide +kernel
theorem dX7_made_70 : decode cX7_made 70 = .ok (.getfield 93, 3) := by decide +kernel
theorem dX7_made_73 : decode cX7_made 73 = .ok (.ireturn, 1) := by decide +kernel
theorem dX7_part_0 : decode cX7_part 0 = .ok (.aload_n 0, 1) := by decide +kernel
theorem dX7_part_1 : decode cX7_part 1 = .ok (.getfield 53, 3) := by decide +kernel
theorem dX7_part_4 : decode cX7_part 4 = .ok (.iload_n 1, 1) := by decide +kernel
theorem dX7_part_5 : decode cX7_part 5 = .ok (.iload_n 2, 1) := by decide +kernel
theorem dX7_part_6 : decode cX7_part 6 = .ok (.invokestatic 131, 3) := by decide +kernel
theorem dX7_part_9 : decode cX7_part 9 = .ok (.ireturn, 1) := by decide +kernel
theorem dX7_answer_0 : decode cX7_answer 0 = .ok (.aload_n 0, 1) := by decide +kernel
theorem dX7_answer_1 : decode cX7_answer 1 = .ok (.iload_n 1, 1) := by decide +kernel
theorem dX7_answer_2 : decode cX7_answer 2 = .ok (.iload_n 2, 1) := by decide +kernel
theorem dX7_answer_3 : decode cX7_answer 3 = .ok (.invokevirtual 184, 3) := by decide +kernel
theorem dX7_answer_6 : decode cX7_answer 6 = .ok (.ifCond .ne 6, 3) := by decide +kernel
theorem dX7_answer_9 : decode cX7_answer 9 = .ok (.ldc 130, 2) := by decide +kernel
theorem dX7_answer_11 : decode cX7_answer 11 = .ok (.ireturn, 1) := by decide +kernel
theorem dX7_answer_12 : decode cX7_answer 12 = .ok (.aload_n 0, 1) := by decide +kernel
theorem dX7_answer_13 : decode cX7_answer 13 = .ok (.getfield 49, 3) := by decide +kernel
theorem dX7_answer_16 : decode cX7_answer 16 = .ok (.iload_n 3, 1) := by decide +kernel
theorem dX7_answer_17 : decode cX7_answer 17 = .ok (.iload 4, 2) := by decide +kernel
theorem dX7_answer_19 : decode cX7_answer 19 = .ok (.invokevirtual 138, 3) := by decide +kernel
theorem dX7_answer_22 : decode cX7_answer 22 = .ok (.ifCond .eq 13, 3) := by decide +kernel
theorem dX7_answer_25 : decode cX7_answer 25 = .ok (.aload_n 0, 1) := by decide +kernel
theorem dX7_answer_26 : decode cX7_answer 26 = .ok (.getfield 49, 3) := by decide +kernel
theorem dX7_answer_29 : decode cX7_answer 29 = .ok (.getfield 142, 3) := by decide +kernel
theorem dX7_answer_32 : decode cX7_answer 32 = .ok (.goto 5, 3) := by decide +kernel
theorem dX7_answer_35 : decode cX7_answer 35 = .ok (.ldc 130, 2) := by decide +kernel
theorem dX7_answer_37 : decode cX7_answer 37 = .ok (.ireturn, 1) := by decide +kernel
theorem dX7_cost_0 : decode cX7_cost 0 = .ok (.aload_n 0, 1) := by decide +kernel
theorem dX7_cost_1 : decode cX7_cost 1 = .ok (.iload_n 1, 1) := by decide +kernel
theorem dX7_cost_2 : decode cX7_cost 2 = .ok (.iload_n 2, 1) := by decide +kernel
theorem dX7_cost_3 : decode cX7_cost 3 = .ok (.invokevirtual 184, 3) := by decide +kernel
theorem dX7_cost_6 : decode cX7_cost 6 = .ok (.ifCond .ne 5, 3) := by decide +kernel
theorem dX7_cost_9 : decode cX7_cost 9 = .ok (.iconst (-1), 1) := by decide +kernel
theorem dX7_cost_10 : decode cX7_cost 10 = .ok (.ireturn, 1) := by decide +kernel
theorem dX7_cost_11 : decode cX7_cost 11 = .ok (.aload_n 0, 1) := by decide +kernel
theorem dX7_cost_12 : decode cX7_cost 12 = .ok (.getfield 49, 3) := by decide +kernel
theorem dX7_cost_15 : decode cX7_cost 15 = .ok (.iload_n 3, 1) := by decide +kernel
theorem dX7_cost_16 : decode cX7_cost 16 = .ok (.iload 4, 2) := by decide +kernel
theorem dX7_cost_18 : decode cX7_cost 18 = .ok (.invokevirtual 138, 3) := by decide +kernel
theorem dX7_cost_21 : decode cX7_cost 21 = .ok (.pop, 1) := by decide +kernel
theorem dX7_cost_22 : decode cX7_cost 22 = .ok (.aload_n 0, 1) := by decide +kernel
theorem dX7_cost_23 : decode cX7_cost 23 = .ok (.getfield 49, 3) := by decide +kernel
theorem dX7_cost_26 : decode cX7_cost 26 = .ok (.getfield 186, 3) := by decide +kernel
theorem dX7_cost_29 : decode cX7_cost 29 = .ok (.ireturn, 1) := by decide +kernel
theorem dX7_fires_0 : decode cX7_fires 0 = .ok (.aload_n 0, 1) := by decide +kernel
theorem dX7_fires_1 : decode cX7_fires 1 = .ok (.iload_n 1, 1) := by decide +kernel
theorem dX7_fires_2 : decode cX7_fires 2 = .ok (.invokevirtual 160, 3) := by decide +kernel
theorem dX7_fires_5 : decode cX7_fires 5 = .ok (.astore 4, 2) := by decide +kernel
theorem dX7_fires_7 : decode cX7_fires 7 = .ok (.aload_n 0, 1) := by decide +kernel
theorem dX7_fires_8 : decode cX7_fires 8 = .ok (.iload_n 2, 1) := by decide +kernel
theorem dX7_fires_9 : decode cX7_fires 9 = .ok (.invokevirtual 96, 3) := by decide +kernel
theorem dX7_fires_12 : decode cX7_fires 12 = .ok (.astore 5, 2) := by decide +kernel
theorem dX7_fires_14 : decode cX7_fires 14 = .ok (.aload 4, 2) := by decide +kernel
theorem dX7_fires_16 : decode cX7_fires 16 = .ok (.ifnull 17, 3) := by decide +kernel
theorem dX7_fires_19 : decode cX7_fires 19 = .ok (.aload 5, 2) := by decide +kernel
theorem dX7_fires_21 : decode cX7_fires 21 = .ok (.ifnull 12, 3) := by decide +kernel
theorem dX7_fires_24 : decode cX7_fires 24 = .ok (.aload 4, 2) := by decide +kernel
theorem dX7_fires_26 : decode cX7_fires 26 = .ok (.iload_n 3, 1) := by decide +kernel
theorem dX7_fires_27 : decode cX7_fires 27 = .ok (.invokevirtual 170, 3) := by decide +kernel
theorem dX7_fires_30 : decode cX7_fires 30 = .ok (.ifCond .ne 5, 3) := by decide +kernel
theorem dX7_fires_33 : decode cX7_fires 33 = .ok (.iconst (-1), 1) := by decide +kernel
theorem dX7_fires_34 : decode cX7_fires 34 = .ok (.ireturn, 1) := by decide +kernel
theorem dX7_fires_35 : decode cX7_fires 35 = .ok (.aload_n 0, 1) := by decide +kernel
theorem dX7_fires_36 : decode cX7_fires 36 = .ok (.getfield 38, 3) := by decide +kernel
theorem dX7_fires_39 : decode cX7_fires 39 = .ok (.aload 4, 2) := by decide +kernel
theorem dX7_fires_41 : decode cX7_fires 41 = .ok (.aload 5, 2) := by decide +kernel
theorem dX7_fires_43 : decode cX7_fires 43 = .ok (.iload_n 3, 1) := by decide +kernel
theorem dX7_fires_44 : decode cX7_fires 44 = .ok (.invokevirtual 189, 3) := by decide +kernel
theorem dX7_fires_47 : decode cX7_fires 47 = .ok (.ireturn, 1) := by decide +kernel
theorem dX7_never_0 : decode cX7_never 0 = .ok (.aload_n 0, 1) := by decide +kernel
theorem dX7_never_1 : decode cX7_never 1 = .ok (.iload_n 1, 1) := by decide +kernel
theorem dX7_never_2 : decode cX7_never 2 = .ok (.invokevirtual 160, 3) := by decide +kernel
theorem dX7_never_5 : decode cX7_never 5 = .ok (.astore_n 2, 1) := by decide +kernel
theorem dX7_never_6 : decode cX7_never 6 = .ok (.aload_n 2, 1) := by decide +kernel
theorem dX7_never_7 : decode cX7_never 7 = .ok (.ifnonnull 5, 3) := by decide +kernel
theorem dX7_never_10 : decode cX7_never 10 = .ok (.iconst (-1), 1) := by decide +kernel
theorem dX7_never_11 : decode cX7_never 11 = .ok (.ireturn, 1) := by decide +kernel
theorem dX7_never_12 : decode cX7_never 12 = .ok (.iconst 1, 1) := by decide +kernel
theorem dX7_never_13 : decode cX7_never 13 = .ok (.aload_n 2, 1) := by decide +kernel
theorem dX7_never_14 : decode cX7_never 14 = .ok (.getfield 164, 3) := by decide +kernel
theorem dX7_never_17 : decode cX7_never 17 = .ok (.ishl, 1) := by decide +kernel
theorem dX7_never_18 : decode cX7_never 18 = .ok (.iconst 1, 1) := by decide +kernel
theorem dX7_never_19 : decode cX7_never 19 = .ok (.isub, 1) := by decide +kernel
theorem dX7_never_20 : decode cX7_never 20 = .ok (.istore_n 3, 1) := by decide +kernel
theorem dX7_never_21 : decode cX7_never 21 = .ok (.iconst 0, 1) := by decide +kernel
theorem dX7_never_22 : decode cX7_never 22 = .ok (.istore 4, 2) := by decide +kernel
theorem dX7_never_24 : decode cX7_never 24 = .ok (.iload 4, 2) := by decide +kernel
theorem dX7_never_26 : decode cX7_never 26 = .ok (.bipush 20, 2) := by decide +kernel
theorem dX7_never_28 : decode cX7_never 28 = .ok (.if_icmp .ge 37, 3) := by decide +kernel
theorem dX7_never_31 : decode cX7_never 31 = .ok (.aload_n 0, 1) := by decide +kernel
theorem dX7_never_32 : decode cX7_never 32 = .ok (.iload 4, 2) := by decide +kernel
theorem dX7_never_34 : decode cX7_never 34 = .ok (.invokevirtual 96, 3) := by decide +kernel
theorem dX7_never_37 : decode cX7_never 37 = .ok (.astore 5, 2) := by decide +kernel
theorem dX7_never_39 : decode cX7_never 39 = .ok (.aload 5, 2) := by decide +kernel
theorem dX7_never_41 : decode cX7_never 41 = .ok (.ifnull 18, 3) := by decide +kernel
theorem dX7_never_44 : decode cX7_never 44 = .ok (.iload_n 3, 1) := by decide +kernel
theorem dX7_never_45 : decode cX7_never 45 = .ok (.aload_n 0, 1) := by decide +kernel
theorem dX7_never_46 : decode cX7_never 46 = .ok (.getfield 38, 3) := by decide +kernel
theorem dX7_never_49 : decode cX7_never 49 = .ok (.aload_n 2, 1) := by decide +kernel
theorem dX7_never_50 : decode cX7_never 50 = .ok (.aload 5, 2) := by decide +kernel
theorem dX7_never_52 : decode cX7_never 52 = .ok (.invokevirtual 192, 3) := by decide +kernel
theorem dX7_never_55 : decode cX7_never 55 = .ok (.iconst (-1), 1) := by decide +kernel
theorem dX7_never_56 : decode cX7_never 56 = .ok (.ixor, 1) := by decide +kernel
theorem dX7_never_57 : decode cX7_never 57 = .ok (.iand, 1) := by decide +kernel
theorem dX7_never_58 : decode cX7_never 58 = .ok (.istore_n 3, 1) := by decide +kernel
theorem dX7_never_59 : decode cX7_never 59 = .ok (.iinc 4 1, 3) := by decide +kernel
theorem dX7_never_62 : decode cX7_never 62 = .ok (.goto (-38), 3) := by decide +kernel
theorem dX7_never_65 : decode cX7_never 65 = .ok (.iload_n 3, 1) := by decide +kernel
theorem dX7_never_66 : decode cX7_never 66 = .ok (.ireturn, 1) := by decide +kernel
theorem dX7_differ_0 : decode cX7_differ 0 = .ok (.iload_n 3, 1) := by decide +kernel
theorem dX7_differ_1 : decode cX7_differ 1 = .ok (.iconst 0, 1) := by decide +kernel
theorem dX7_differ_2 : decode cX7_differ 2 = .ok (.bipush 6, 2) := by decide +kernel
theorem dX7_differ_4 : decode cX7_differ 4 = .ok (.invokestatic 75, 3) := by decide +kernel
theorem dX7_differ_7 : decode cX7_differ 7 = .ok (.ifCond .eq 12, 3) := by decide +kernel
theorem dX7_differ_10 : decode cX7_differ 10 = .ok (.aload_n 0, 1) := by decide +kernel
theorem dX7_differ_11 : decode cX7_differ 11 = .ok (.iload_n 1, 1) := by decide +kernel
theorem dX7_differ_12 : decode cX7_differ 12 = .ok (.iload_n 2, 1) := by decide +kernel
theorem dX7_differ_13 : decode cX7_differ 13 = .ok (.invokevirtual 184, 3) := by decide +kernel
theorem dX7_differ_16 : decode cX7_differ 16 = .ok (.ifCond .ne 5, 3) := by decide +kernel
theorem dX7_differ_19 : decode cX7_differ 19 = .ok (.iconst (-1), 1) := by decide +kernel
theorem dX7_differ_20 : decode cX7_differ 20 = .ok (.ireturn, 1) := by decide +kernel
theorem dX7_differ_21 : decode cX7_differ 21 = .ok (.aload_n 0, 1) := by decide +kernel
theorem dX7_differ_22 : decode cX7_differ 22 = .ok (.getfield 45, 3) := by decide +kernel
theorem dX7_differ_25 : decode cX7_differ 25 = .ok (.iload_n 3, 1) := by decide +kernel
theorem dX7_differ_26 : decode cX7_differ 26 = .ok (.invokevirtual 196, 3) := by decide +kernel
theorem dX7_differ_29 : decode cX7_differ 29 = .ok (.ifCond .ne 6, 3) := by decide +kernel
theorem dX7_differ_32 : decode cX7_differ 32 = .ok (.bipush (-2), 2) := by decide +kernel
theorem dX7_differ_34 : decode cX7_differ 34 = .ok (.ireturn, 1) := by decide +kernel
theorem dX7_differ_35 : decode cX7_differ 35 = .ok (.iconst 0, 1) := by decide +kernel
theorem dX7_differ_36 : decode cX7_differ 36 = .ok (.istore 4, 2) := by decide +kernel
theorem dX7_differ_38 : decode cX7_differ 38 = .ok (.iload_n 3, 1) := by decide +kernel
theorem dX7_differ_39 : decode cX7_differ 39 = .ok (.ineg, 1) := by decide +kernel
theorem dX7_differ_40 : decode cX7_differ 40 = .ok (.istore 5, 2) := by decide +kernel
theorem dX7_differ_42 : decode cX7_differ 42 = .ok (.iload 5, 2) := by decide +kernel
theorem dX7_differ_44 : decode cX7_differ 44 = .ok (.iload_n 3, 1) := by decide +kernel
theorem dX7_differ_45 : decode cX7_differ 45 = .ok (.if_icmp .gt 39, 3) := by decide +kernel
theorem dX7_differ_48 : decode cX7_differ 48 = .ok (.iload_n 3, 1) := by decide +kernel
theorem dX7_differ_49 : decode cX7_differ 49 = .ok (.ineg, 1) := by decide +kernel
theorem dX7_differ_50 : decode cX7_differ 50 = .ok (.istore 6, 2) := by decide +kernel
theorem dX7_differ_52 : decode cX7_differ 52 = .ok (.iload 6, 2) := by decide +kernel
theorem dX7_differ_54 : decode cX7_differ 54 = .ok (.iload_n 3, 1) := by decide +kernel
theorem dX7_differ_55 : decode cX7_differ 55 = .ok (.if_icmp .gt 23, 3) := by decide +kernel
theorem dX7_differ_58 : decode cX7_differ 58 = .ok (.aload_n 0, 1) := by decide +kernel
theorem dX7_differ_59 : decode cX7_differ 59 = .ok (.iload 5, 2) := by decide +kernel
theorem dX7_differ_61 : decode cX7_differ 61 = .ok (.iload 6, 2) := by decide +kernel
theorem dX7_differ_63 : decode cX7_differ 63 = .ok (.invokevirtual 199, 3) := by decide +kernel
theorem dX7_differ_66 : decode cX7_differ 66 = .ok (.ifCond .eq 6, 3) := by decide +kernel
theorem dX7_differ_69 : decode cX7_differ 69 = .ok (.iinc 4 1, 3) := by decide +kernel
theorem dX7_differ_72 : decode cX7_differ 72 = .ok (.iinc 6 1, 3) := by decide +kernel
theorem dX7_differ_75 : decode cX7_differ 75 = .ok (.goto (-23), 3) := by decide +kernel
theorem dX7_differ_78 : decode cX7_differ 78 = .ok (.iinc 5 1, 3) := by decide +kernel
theorem dX7_differ_81 : decode cX7_differ 81 = .ok (.goto (-39), 3) := by decide +kernel
theorem dX7_differ_84 : decode cX7_differ 84 = .ok (.iload 4, 2) := by decide +kernel
theorem dX7_differ_86 : decode cX7_differ 86 = .ok (.ireturn, 1) := by decide +kernel
theorem dX7_first_0 : decode cX7_first 0 = .ok (.iload_n 3, 1) := by decide +kernel
theorem dX7_first_1 : decode cX7_first 1 = .ok (.iconst 0, 1) := by decide +kernel
theorem dX7_first_2 : decode cX7_first 2 = .ok (.bipush 6, 2) := by decide +kernel
theorem dX7_first_4 : decode cX7_first 4 = .ok (.invokestatic 75, 3) := by decide +kernel
theorem dX7_first_7 : decode cX7_first 7 = .ok (.ifCond .eq 12, 3) := by decide +kernel
theorem dX7_first_10 : decode cX7_first 10 = .ok (.aload_n 0, 1) := by decide +kernel
theorem dX7_first_11 : decode cX7_first 11 = .ok (.iload_n 1, 1) := by decide +kernel
theorem dX7_first_12 : decode cX7_first 12 = .ok (.iload_n 2, 1) := by decide +kernel
theorem dX7_first_13 : decode cX7_first 13 = .ok (.invokevirtual 184, 3) := by decide +kernel
theorem dX7_first_16 : decode cX7_first 16 = .ok (.ifCond .ne 5, 3) := by decide +kernel
theorem dX7_first_19 : decode cX7_first 19 = .ok (.iconst (-1), 1) := by decide +kernel
theorem dX7_first_20 : decode cX7_first 20 = .ok (.ireturn, 1) := by decide +kernel
theorem dX7_first_21 : decode cX7_first 21 = .ok (.aload_n 0, 1) := by decide +kernel
theorem dX7_first_22 : decode cX7_first 22 = .ok (.getfield 45, 3) := by decide +kernel
theorem dX7_first_25 : decode cX7_first 25 = .ok (.iload_n 3, 1) := by decide +kernel
theorem dX7_first_26 : decode cX7_first 26 = .ok (.invokevirtual 196, 3) := by decide +kernel
theorem dX7_first_29 : decode cX7_first 29 = .ok (.ifCond .ne 6, 3) := by decide +kernel
theorem dX7_first_32 : decode cX7_first 32 = .ok (.bipush (-2), 2) := by decide +kernel
theorem dX7_first_34 : decode cX7_first 34 = .ok (.ireturn, 1) := by decide +kernel
theorem dX7_first_35 : decode cX7_first 35 = .ok (.iload_n 3, 1) := by decide +kernel
theorem dX7_first_36 : decode cX7_first 36 = .ok (.ineg, 1) := by decide +kernel
theorem dX7_first_37 : decode cX7_first 37 = .ok (.istore 4, 2) := by decide +kernel
theorem dX7_first_39 : decode cX7_first 39 = .ok (.iload 4, 2) := by decide +kernel
theorem dX7_first_41 : decode cX7_first 41 = .ok (.iload_n 3, 1) := by decide +kernel
theorem dX7_first_42 : decode cX7_first 42 = .ok (.if_icmp .gt 51, 3) := by decide +kernel
theorem dX7_first_45 : decode cX7_first 45 = .ok (.iload_n 3, 1) := by decide +kernel
theorem dX7_first_46 : decode cX7_first 46 = .ok (.ineg, 1) := by decide +kernel
theorem dX7_first_47 : decode cX7_first 47 = .ok (.istore 5, 2) := by decide +kernel
theorem dX7_first_49 : decode cX7_first 49 = .ok (.iload 5, 2) := by decide +kernel
theorem dX7_first_51 : decode cX7_first 51 = .ok (.iload_n 3, 1) := by decide +kernel
theorem dX7_first_52 : decode cX7_first 52 = .ok (.if_icmp .gt 35, 3) := by decide +kernel
theorem dX7_first_55 : decode cX7_first 55 = .ok (.aload_n 0, 1) := by decide +kernel
theorem dX7_first_56 : decode cX7_first 56 = .ok (.iload 4, 2) := by decide +kernel
theorem dX7_first_58 : decode cX7_first 58 = .ok (.iload 5, 2) := by decide +kernel
theorem dX7_first_60 : decode cX7_first 60 = .ok (.invokevirtual 199, 3) := by decide +kernel
theorem dX7_first_63 : decode cX7_first 63 = .ok (.ifCond .eq 18, 3) := by decide +kernel
theorem dX7_first_66 : decode cX7_first 66 = .ok (.bipush 100, 2) := by decide +kernel
theorem dX7_first_68 : decode cX7_first 68 = .ok (.iload 4, 2) := by decide +kernel
theorem dX7_first_70 : decode cX7_first 70 = .ok (.bipush 6, 2) := by decide +kernel
theorem dX7_first_72 : decode cX7_first 72 = .ok (.iadd, 1) := by decide +kernel
theorem dX7_first_73 : decode cX7_first 73 = .ok (.imul, 1) := by decide +kernel
theorem dX7_first_74 : decode cX7_first 74 = .ok (.iload 5, 2) := by decide +kernel
theorem dX7_first_76 : decode cX7_first 76 = .ok (.iadd, 1) := by decide +kernel
theorem dX7_first_77 : decode cX7_first 77 = .ok (.bipush 6, 2) := by decide +kernel
theorem dX7_first_79 : decode cX7_first 79 = .ok (.iadd, 1) := by decide +kernel
theorem dX7_first_80 : decode cX7_first 80 = .ok (.ireturn, 1) := by decide +kernel
theorem dX7_first_81 : decode cX7_first 81 = .ok (.iinc 5 1, 3) := by decide +kernel
theorem dX7_first_84 : decode cX7_first 84 = .ok (.goto (-35), 3) := by decide +kernel
theorem dX7_first_87 : decode cX7_first 87 = .ok (.iinc 4 1, 3) := by decide +kernel
theorem dX7_first_90 : decode cX7_first 90 = .ok (.goto (-51), 3) := by decide +kernel
theorem dX7_first_93 : decode cX7_first 93 = .ok (.bipush (-5), 2) := by decide +kernel
theorem dX7_first_95 : decode cX7_first 95 = .ok (.ireturn, 1) := by decide +kernel
theorem dX7_cause_0 : decode cX7_cause 0 = .ok (.aload_n 0, 1) := by decide +kernel
theorem dX7_cause_1 : decode cX7_cause 1 = .ok (.iload_n 1, 1) := by decide +kernel
theorem dX7_cause_2 : decode cX7_cause 2 = .ok (.invokevirtual 160, 3) := by decide +kernel
theorem dX7_cause_5 : decode cX7_cause 5 = .ok (.astore 5, 2) := by decide +kernel
theorem dX7_cause_7 : decode cX7_cause 7 = .ok (.aload_n 0, 1) := by decide +kernel
theorem dX7_cause_8 : decode cX7_cause 8 = .ok (.iload_n 2, 1) := by decide +kernel
theorem dX7_cause_9 : decode cX7_cause 9 = .ok (.invokevirtual 96, 3) := by decide +kernel
theorem dX7_cause_12 : decode cX7_cause 12 = .ok (.astore 6, 2) := by decide +kernel
theorem dX7_cause_14 : decode cX7_cause 14 = .ok (.aload 5, 2) := by decide +kernel
theorem dX7_cause_16 : decode cX7_cause 16 = .ok (.ifnull 8, 3) := by decide +kernel
theorem dX7_cause_19 : decode cX7_cause 19 = .ok (.aload 6, 2) := by decide +kernel
theorem dX7_cause_21 : decode cX7_cause 21 = .ok (.ifnonnull 5, 3) := by decide +kernel
theorem dX7_cause_24 : decode cX7_cause 24 = .ok (.iconst (-1), 1) := by decide +kernel
theorem dX7_cause_25 : decode cX7_cause 25 = .ok (.ireturn, 1) := by decide +kernel
theorem dX7_cause_26 : decode cX7_cause 26 = .ok (.aload_n 0, 1) := by decide +kernel
theorem dX7_cause_27 : decode cX7_cause 27 = .ok (.getfield 45, 3) := by decide +kernel
theorem dX7_cause_30 : decode cX7_cause 30 = .ok (.aload 6, 2) := by decide +kernel
theorem dX7_cause_32 : decode cX7_cause 32 = .ok (.invokevirtual 135, 3) := by decide +kernel
theorem dX7_cause_35 : decode cX7_cause 35 = .ok (.aload_n 0, 1) := by decide +kernel
theorem dX7_cause_36 : decode cX7_cause 36 = .ok (.getfield 45, 3) := by decide +kernel
theorem dX7_cause_39 : decode cX7_cause 39 = .ok (.iload_n 3, 1) := by decide +kernel
theorem dX7_cause_40 : decode cX7_cause 40 = .ok (.iload 4, 2) := by decide +kernel
theorem dX7_cause_42 : decode cX7_cause 42 = .ok (.invokevirtual 138, 3) := by decide +kernel
theorem dX7_cause_45 : decode cX7_cause 45 = .ok (.ifCond .ne 6, 3) := by decide +kernel
theorem dX7_cause_48 : decode cX7_cause 48 = .ok (.bipush (-2), 2) := by decide +kernel
theorem dX7_cause_50 : decode cX7_cause 50 = .ok (.ireturn, 1) := by decide +kernel
theorem dX7_cause_51 : decode cX7_cause 51 = .ok (.aload_n 0, 1) := by decide +kernel
theorem dX7_cause_52 : decode cX7_cause 52 = .ok (.getfield 38, 3) := by decide +kernel
theorem dX7_cause_55 : decode cX7_cause 55 = .ok (.getfield 181, 3) := by decide +kernel
theorem dX7_cause_58 : decode cX7_cause 58 = .ok (.aload 6, 2) := by decide +kernel
theorem dX7_cause_60 : decode cX7_cause 60 = .ok (.invokevirtual 122, 3) := by decide +kernel
theorem dX7_cause_63 : decode cX7_cause 63 = .ok (.iconst 0, 1) := by decide +kernel
theorem dX7_cause_64 : decode cX7_cause 64 = .ok (.istore 7, 2) := by decide +kernel
theorem dX7_cause_66 : decode cX7_cause 66 = .ok (.iload 7, 2) := by decide +kernel
theorem dX7_cause_68 : decode cX7_cause 68 = .ok (.aload 5, 2) := by decide +kernel
theorem dX7_cause_70 : decode cX7_cause 70 = .ok (.getfield 164, 3) := by decide +kernel
theorem dX7_cause_73 : decode cX7_cause 73 = .ok (.if_icmp .ge 78, 3) := by decide +kernel
theorem dX7_cause_76 : decode cX7_cause 76 = .ok (.aload_n 0, 1) := by decide +kernel
theorem dX7_cause_77 : decode cX7_cause 77 = .ok (.getfield 38, 3) := by decide +kernel
theorem dX7_cause_80 : decode cX7_cause 80 = .ok (.aload 5, 2) := by decide +kernel
theorem dX7_cause_82 : decode cX7_cause 82 = .ok (.iload 7, 2) := by decide +kernel
theorem dX7_cause_84 : decode cX7_cause 84 = .ok (.invokevirtual 202, 3) := by decide +kernel
theorem dX7_cause_87 : decode cX7_cause 87 = .ok (.aload 5, 2) := by decide +kernel
theorem dX7_cause_89 : decode cX7_cause 89 = .ok (.iload 7, 2) := by decide +kernel
theorem dX7_cause_91 : decode cX7_cause 91 = .ok (.invokevirtual 171, 3) := by decide +kernel
theorem dX7_cause_94 : decode cX7_cause 94 = .ok (.invokevirtual 205, 3) := by decide +kernel
theorem dX7_cause_97 : decode cX7_cause 97 = .ok (.pop, 1) := by decide +kernel
theorem dX7_cause_98 : decode cX7_cause 98 = .ok (.aload_n 0, 1) := by decide +kernel
theorem dX7_cause_99 : decode cX7_cause 99 = .ok (.getfield 49, 3) := by decide +kernel
theorem dX7_cause_102 : decode cX7_cause 102 = .ok (.aload_n 0, 1) := by decide +kernel
theorem dX7_cause_103 : decode cX7_cause 103 = .ok (.getfield 38, 3) := by decide +kernel
theorem dX7_cause_106 : decode cX7_cause 106 = .ok (.getfield 181, 3) := by decide +kernel
theorem dX7_cause_109 : decode cX7_cause 109 = .ok (.invokevirtual 135, 3) := by decide +kernel
theorem dX7_cause_112 : decode cX7_cause 112 = .ok (.aload_n 0, 1) := by decide +kernel
theorem dX7_cause_113 : decode cX7_cause 113 = .ok (.getfield 49, 3) := by decide +kernel
theorem dX7_cause_116 : decode cX7_cause 116 = .ok (.iload_n 3, 1) := by decide +kernel
theorem dX7_cause_117 : decode cX7_cause 117 = .ok (.iload 4, 2) := by decide +kernel
theorem dX7_cause_119 : decode cX7_cause 119 = .ok (.invokevirtual 138, 3) := by decide +kernel
theorem dX7_cause_122 : decode cX7_cause 122 = .ok (.ifCond .eq 20, 3) := by decide +kernel
theorem dX7_cause_125 : decode cX7_cause 125 = .ok (.aload_n 0, 1) := by decide +kernel
theorem dX7_cause_126 : decode cX7_cause 126 = .ok (.getfield 49, 3) := by decide +kernel
theorem dX7_cause_129 : decode cX7_cause 129 = .ok (.getfield 142, 3) := by decide +kernel
theorem dX7_cause_132 : decode cX7_cause 132 = .ok (.aload_n 0, 1) := by decide +kernel
theorem dX7_cause_133 : decode cX7_cause 133 = .ok (.getfield 45, 3) := by decide +kernel
theorem dX7_cause_136 : decode cX7_cause 136 = .ok (.getfield 142, 3) := by decide +kernel
theorem dX7_cause_139 : decode cX7_cause 139 = .ok (.if_icmp .eq 6, 3) := by decide +kernel
theorem dX7_cause_142 : decode cX7_cause 142 = .ok (.iload 7, 2) := by decide +kernel
theorem dX7_cause_144 : decode cX7_cause 144 = .ok (.ireturn, 1) := by decide +kernel
theorem dX7_cause_145 : decode cX7_cause 145 = .ok (.iinc 7 1, 3) := by decide +kernel
theorem dX7_cause_148 : decode cX7_cause 148 = .ok (.goto (-82), 3) := by decide +kernel
theorem dX7_cause_151 : decode cX7_cause 151 = .ok (.bipush (-2), 2) := by decide +kernel
theorem dX7_cause_153 : decode cX7_cause 153 = .ok (.ireturn, 1) := by decide +kernel
theorem dX7_small_0 : decode cX7_small 0 = .ok (.aload_n 0, 1) := by decide +kernel
theorem dX7_small_1 : decode cX7_small 1 = .ok (.iload_n 1, 1) := by decide +kernel
theorem dX7_small_2 : decode cX7_small 2 = .ok (.invokevirtual 160, 3) := by decide +kernel
theorem dX7_small_5 : decode cX7_small 5 = .ok (.astore 4, 2) := by decide +kernel
theorem dX7_small_7 : decode cX7_small 7 = .ok (.aload_n 0, 1) := by decide +kernel
theorem dX7_small_8 : decode cX7_small 8 = .ok (.iload_n 2, 1) := by decide +kernel
theorem dX7_small_9 : decode cX7_small 9 = .ok (.invokevirtual 96, 3) := by decide +kernel
theorem dX7_small_12 : decode cX7_small 12 = .ok (.astore 5, 2) := by decide +kernel
theorem dX7_small_14 : decode cX7_small 14 = .ok (.aload 4, 2) := by decide +kernel
theorem dX7_small_16 : decode cX7_small 16 = .ok (.ifnull 18, 3) := by decide +kernel
theorem dX7_small_19 : decode cX7_small 19 = .ok (.aload 5, 2) := by decide +kernel
theorem dX7_small_21 : decode cX7_small 21 = .ok (.ifnull 13, 3) := by decide +kernel
theorem dX7_small_24 : decode cX7_small 24 = .ok (.iload_n 3, 1) := by decide +kernel
theorem dX7_small_25 : decode cX7_small 25 = .ok (.iconst 0, 1) := by decide +kernel
theorem dX7_small_26 : decode cX7_small 26 = .ok (.bipush 6, 2) := by decide +kernel
theorem dX7_small_28 : decode cX7_small 28 = .ok (.invokestatic 75, 3) := by decide +kernel
theorem dX7_small_31 : decode cX7_small 31 = .ok (.ifCond .ne 5, 3) := by decide +kernel
theorem dX7_small_34 : decode cX7_small 34 = .ok (.iconst (-1), 1) := by decide +kernel
theorem dX7_small_35 : decode cX7_small 35 = .ok (.ireturn, 1) := by decide +kernel
theorem dX7_small_36 : decode cX7_small 36 = .ok (.aload_n 0, 1) := by decide +kernel
theorem dX7_small_37 : decode cX7_small 37 = .ok (.aload 4, 2) := by decide +kernel
theorem dX7_small_39 : decode cX7_small 39 = .ok (.aload 5, 2) := by decide +kernel
theorem dX7_small_41 : decode cX7_small 41 = .ok (.iload_n 3, 1) := by decide +kernel
theorem dX7_small_42 : decode cX7_small 42 = .ok (.invokevirtual 209, 3) := by decide +kernel
theorem dX7_small_45 : decode cX7_small 45 = .ok (.ifCond .ne 6, 3) := by decide +kernel
theorem dX7_small_48 : decode cX7_small 48 = .ok (.bipush (-2), 2) := by decide +kernel
theorem dX7_small_50 : decode cX7_small 50 = .ok (.ireturn, 1) := by decide +kernel
theorem dX7_small_51 : decode cX7_small 51 = .ok (.iconst 0, 1) := by decide +kernel
theorem dX7_small_52 : decode cX7_small 52 = .ok (.istore 6, 2) := by decide +kernel
theorem dX7_small_54 : decode cX7_small 54 = .ok (.bipush 120, 2) := by decide +kernel
theorem dX7_small_56 : decode cX7_small 56 = .ok (.istore 7, 2) := by decide +kernel
theorem dX7_small_58 : decode cX7_small 58 = .ok (.iload 6, 2) := by decide +kernel
theorem dX7_small_60 : decode cX7_small 60 = .ok (.iload 7, 2) := by decide +kernel
theorem dX7_small_62 : decode cX7_small 62 = .ok (.if_icmp .ge 30, 3) := by decide +kernel
theorem dX7_small_65 : decode cX7_small 65 = .ok (.aload_n 0, 1) := by decide +kernel
theorem dX7_small_66 : decode cX7_small 66 = .ok (.aload 4, 2) := by decide +kernel
theorem dX7_small_68 : decode cX7_small 68 = .ok (.aload 5, 2) := by decide +kernel
theorem dX7_small_70 : decode cX7_small 70 = .ok (.iload_n 3, 1) := by decide +kernel
theorem dX7_small_71 : decode cX7_small 71 = .ok (.invokevirtual 213, 3) := by decide +kernel
theorem dX7_small_74 : decode cX7_small 74 = .ok (.ifCond .eq 18, 3) := by decide +kernel
theorem dX7_small_77 : decode cX7_small 77 = .ok (.aload 5, 2) := by decide +kernel
theorem dX7_small_79 : decode cX7_small 79 = .ok (.aload_n 0, 1) := by decide +kernel
theorem dX7_small_80 : decode cX7_small 80 = .ok (.getfield 57, 3) := by decide +kernel
theorem dX7_small_83 : decode cX7_small 83 = .ok (.invokevirtual 122, 3) := by decide +kernel
theorem dX7_small_86 : decode cX7_small 86 = .ok (.iinc 6 1, 3) := by decide +kernel
theorem dX7_small_89 : decode cX7_small 89 = .ok (.goto (-31), 3) := by decide +kernel
theorem dX7_small_92 : decode cX7_small 92 = .ok (.aload_n 0, 1) := by decide +kernel
theorem dX7_small_93 : decode cX7_small 93 = .ok (.iload 6, 2) := by decide +kernel
theorem dX7_small_95 : decode cX7_small 95 = .ok (.putfield 67, 3) := by decide +kernel
theorem dX7_small_98 : decode cX7_small 98 = .ok (.aload 5, 2) := by decide +kernel
theorem dX7_small_100 : decode cX7_small 100 = .ok (.getfield 93, 3) := by decide +kernel
theorem dX7_small_103 : decode cX7_small 103 = .ok (.ireturn, 1) := by decide +kernel
theorem dX7_steps_0 : decode cX7_steps 0 = .ok (.aload_n 0, 1) := by decide +kernel
theorem dX7_steps_1 : decode cX7_steps 1 = .ok (.getfield 67, 3) := by decide +kernel
theorem dX7_steps_4 : decode cX7_steps 4 = .ok (.ireturn, 1) := by decide +kernel
theorem dX7_least_0 : decode cX7_least 0 = .ok (.aload_n 0, 1) := by decide +kernel
theorem dX7_least_1 : decode cX7_least 1 = .ok (.iload_n 1, 1) := by decide +kernel
theorem dX7_least_2 : decode cX7_least 2 = .ok (.invokevirtual 160, 3) := by decide +kernel
theorem dX7_least_5 : decode cX7_least 5 = .ok (.astore 4, 2) := by decide +kernel
theorem dX7_least_7 : decode cX7_least 7 = .ok (.aload 4, 2) := by decide +kernel
theorem dX7_least_9 : decode cX7_least 9 = .ok (.ifnull 21, 3) := by decide +kernel
theorem dX7_least_12 : decode cX7_least 12 = .ok (.aload 4, 2) := by decide +kernel
theorem dX7_least_14 : decode cX7_least 14 = .ok (.iload_n 2, 1) := by decide +kernel
theorem dX7_least_15 : decode cX7_least 15 = .ok (.invokevirtual 170, 3) := by decide +kernel
theorem dX7_least_18 : decode cX7_least 18 = .ok (.ifCond .eq 12, 3) := by decide +kernel
theorem dX7_least_21 : decode cX7_least 21 = .ok (.iload_n 3, 1) := by decide +kernel
theorem dX7_least_22 : decode cX7_least 22 = .ok (.iconst 1, 1) := by decide +kernel
theorem dX7_least_23 : decode cX7_least 23 = .ok (.iconst 5, 1) := by decide +kernel
theorem dX7_least_24 : decode cX7_least 24 = .ok (.invokestatic 75, 3) := by decide +kernel
theorem dX7_least_27 : decode cX7_least 27 = .ok (.ifCond .ne 7, 3) := by decide +kernel
theorem dX7_least_30 : decode cX7_least 30 = .ok (.ldc2_w 83, 3) := by decide +kernel
theorem dX7_least_33 : decode cX7_least 33 = .ok (.lreturn, 1) := by decide +kernel
theorem dX7_least_34 : decode cX7_least 34 = .ok (.iconst 1, 1) := by decide +kernel
theorem dX7_least_35 : decode cX7_least 35 = .ok (.istore 5, 2) := by decide +kernel
theorem dX7_least_37 : decode cX7_least 37 = .ok (.iload 5, 2) := by decide +kernel
theorem dX7_least_39 : decode cX7_least 39 = .ok (.iload_n 3, 1) := by decide +kernel
theorem dX7_least_40 : decode cX7_least 40 = .ok (.if_icmp .gt 83, 3) := by decide +kernel
theorem dX7_least_43 : decode cX7_least 43 = .ok (.aload_n 0, 1) := by decide +kernel
theorem dX7_least_44 : decode cX7_least 44 = .ok (.getfield 10, 3) := by decide +kernel
theorem dX7_least_47 : decode cX7_least 47 = .ok (.iload 5, 2) := by decide +kernel
theorem dX7_least_49 : decode cX7_least 49 = .ok (.invokevirtual 79, 3) := by decide +kernel
theorem dX7_least_52 : decode cX7_least 52 = .ok (.lstore 6, 2) := by decide +kernel
theorem dX7_least_54 : decode cX7_least 54 = .ok (.lconst 0, 1) := by decide +kernel
theorem dX7_least_55 : decode cX7_least 55 = .ok (.lstore 8, 2) := by decide +kernel
theorem dX7_least_57 : decode cX7_least 57 = .ok (.lload 8, 2) := by decide +kernel
theorem dX7_least_59 : decode cX7_least 59 = .ok (.lload 6, 2) := by decide +kernel
theorem dX7_least_61 : decode cX7_least 61 = .ok (.lcmp, 1) := by decide +kernel
theorem dX7_least_62 : decode cX7_least 62 = .ok (.ifCond .ge 55, 3) := by decide +kernel
theorem dX7_least_65 : decode cX7_least 65 = .ok (.aload_n 0, 1) := by decide +kernel
theorem dX7_least_66 : decode cX7_least 66 = .ok (.getfield 10, 3) := by decide +kernel
theorem dX7_least_69 : decode cX7_least 69 = .ok (.aload_n 0, 1) := by decide +kernel
theorem dX7_least_70 : decode cX7_least 70 = .ok (.getfield 57, 3) := by decide +kernel
theorem dX7_least_73 : decode cX7_least 73 = .ok (.iload 5, 2) := by decide +kernel
theorem dX7_least_75 : decode cX7_least 75 = .ok (.lload 8, 2) := by decide +kernel
theorem dX7_least_77 : decode cX7_least 77 = .ok (.invokevirtual 89, 3) := by decide +kernel
theorem dX7_least_80 : decode cX7_least 80 = .ok (.aload_n 0, 1) := by decide +kernel
theorem dX7_least_81 : decode cX7_least 81 = .ok (.getfield 38, 3) := by decide +kernel
theorem dX7_least_84 : decode cX7_least 84 = .ok (.aload 4, 2) := by decide +kernel
theorem dX7_least_86 : decode cX7_least 86 = .ok (.aload_n 0, 1) := by decide +kernel
theorem dX7_least_87 : decode cX7_least 87 = .ok (.getfield 57, 3) := by decide +kernel
theorem dX7_least_90 : decode cX7_least 90 = .ok (.iload_n 2, 1) := by decide +kernel
theorem dX7_least_91 : decode cX7_least 91 = .ok (.invokevirtual 189, 3) := by decide +kernel
theorem dX7_least_94 : decode cX7_least 94 = .ok (.ifCond .le 14, 3) := by decide +kernel
theorem dX7_least_97 : decode cX7_least 97 = .ok (.ldc2_w 216, 3) := by decide +kernel
theorem dX7_least_100 : decode cX7_least 100 = .ok (.lload 8, 2) := by decide +kernel
theorem dX7_least_102 : decode cX7_least 102 = .ok (.lmul, 1) := by decide +kernel
theorem dX7_least_103 : decode cX7_least 103 = .ok (.iload 5, 2) := by decide +kernel
theorem dX7_least_105 : decode cX7_least 105 = .ok (.i2l, 1) := by decide +kernel
theorem dX7_least_106 : decode cX7_least 106 = .ok (.ladd, 1) := by decide +kernel
theorem dX7_least_107 : decode cX7_least 107 = .ok (.lreturn, 1) := by decide +kernel
theorem dX7_least_108 : decode cX7_least 108 = .ok (.lload 8, 2) := by decide +kernel
theorem dX7_least_110 : decode cX7_least 110 = .ok (.lconst 1, 1) := by decide +kernel
theorem dX7_least_111 : decode cX7_least 111 = .ok (.ladd, 1) := by decide +kernel
theorem dX7_least_112 : decode cX7_least 112 = .ok (.lstore 8, 2) := by decide +kernel
theorem dX7_least_114 : decode cX7_least 114 = .ok (.goto (-57), 3) := by decide +kernel
theorem dX7_least_117 : decode cX7_least 117 = .ok (.iinc 5 1, 3) := by decide +kernel
theorem dX7_least_120 : decode cX7_least 120 = .ok (.goto (-83), 3) := by decide +kernel
theorem dX7_least_123 : decode cX7_least 123 = .ok (.ldc2_w 218, 3) := by decide +kernel
theorem dX7_least_126 : decode cX7_least 126 = .ok (.lreturn, 1) := by decide +kernel
theorem dX7_shown_0 : decode cX7_shown 0 = .ok (.aload_n 0, 1) := by decide +kernel
theorem dX7_shown_1 : decode cX7_shown 1 = .ok (.iload_n 1, 1) := by decide +kernel
theorem dX7_shown_2 : decode cX7_shown 2 = .ok (.invokevirtual 160, 3) := by decide +kernel
theorem dX7_shown_5 : decode cX7_shown 5 = .ok (.astore 5, 2) := by decide +kernel
theorem dX7_shown_7 : decode cX7_shown 7 = .ok (.aload 5, 2) := by decide +kernel
theorem dX7_shown_9 : decode cX7_shown 9 = .ok (.ifnull 31, 3) := by decide +kernel
theorem dX7_shown_12 : decode cX7_shown 12 = .ok (.iload_n 2, 1) := by decide +kernel
theorem dX7_shown_13 : decode cX7_shown 13 = .ok (.iconst 1, 1) := by decide +kernel
theorem dX7_shown_14 : decode cX7_shown 14 = .ok (.iconst 5, 1) := by decide +kernel
theorem dX7_shown_15 : decode cX7_shown 15 = .ok (.invokestatic 75, 3) := by decide +kernel
theorem dX7_shown_18 : decode cX7_shown 18 = .ok (.ifCond .eq 22, 3) := by decide +kernel
theorem dX7_shown_21 : decode cX7_shown 21 = .ok (.iload_n 3, 1) := by decide +kernel
theorem dX7_shown_22 : decode cX7_shown 22 = .ok (.iconst 0, 1) := by decide +kernel
theorem dX7_shown_23 : decode cX7_shown 23 = .ok (.iconst 2, 1) := by decide +kernel
theorem dX7_shown_24 : decode cX7_shown 24 = .ok (.invokestatic 75, 3) := by decide +kernel
theorem dX7_shown_27 : decode cX7_shown 27 = .ok (.ifCond .eq 13, 3) := by decide +kernel
theorem dX7_shown_30 : decode cX7_shown 30 = .ok (.iload 4, 2) := by decide +kernel
theorem dX7_shown_32 : decode cX7_shown 32 = .ok (.iconst 0, 1) := by decide +kernel
theorem dX7_shown_33 : decode cX7_shown 33 = .ok (.iconst 1, 1) := by decide +kernel
theorem dX7_shown_34 : decode cX7_shown 34 = .ok (.invokestatic 75, 3) := by decide +kernel
theorem dX7_shown_37 : decode cX7_shown 37 = .ok (.ifCond .ne 5, 3) := by decide +kernel
theorem dX7_shown_40 : decode cX7_shown 40 = .ok (.iconst (-1), 1) := by decide +kernel
theorem dX7_shown_41 : decode cX7_shown 41 = .ok (.ireturn, 1) := by decide +kernel
theorem dX7_shown_42 : decode cX7_shown 42 = .ok (.iconst 0, 1) := by decide +kernel
theorem dX7_shown_43 : decode cX7_shown 43 = .ok (.istore 6, 2) := by decide +kernel
theorem dX7_shown_45 : decode cX7_shown 45 = .ok (.aload_n 0, 1) := by decide +kernel
theorem dX7_shown_46 : decode cX7_shown 46 = .ok (.getfield 10, 3) := by decide +kernel
theorem dX7_shown_49 : decode cX7_shown 49 = .ok (.iload_n 2, 1) := by decide +kernel
theorem dX7_shown_50 : decode cX7_shown 50 = .ok (.invokevirtual 79, 3) := by decide +kernel
theorem dX7_shown_53 : decode cX7_shown 53 = .ok (.lstore 7, 2) := by decide +kernel
theorem dX7_shown_55 : decode cX7_shown 55 = .ok (.lconst 0, 1) := by decide +kernel
theorem dX7_shown_56 : decode cX7_shown 56 = .ok (.lstore 9, 2) := by decide +kernel
theorem dX7_shown_58 : decode cX7_shown 58 = .ok (.lload 9, 2) := by decide +kernel
theorem dX7_shown_60 : decode cX7_shown 60 = .ok (.lload 7, 2) := by decide +kernel
theorem dX7_shown_62 : decode cX7_shown 62 = .ok (.lcmp, 1) := by decide +kernel
theorem dX7_shown_63 : decode cX7_shown 63 = .ok (.ifCond .ge 63, 3) := by decide +kernel
theorem dX7_shown_66 : decode cX7_shown 66 = .ok (.aload_n 0, 1) := by decide +kernel
theorem dX7_shown_67 : decode cX7_shown 67 = .ok (.getfield 10, 3) := by decide +kernel
theorem dX7_shown_70 : decode cX7_shown 70 = .ok (.aload_n 0, 1) := by decide +kernel
theorem dX7_shown_71 : decode cX7_shown 71 = .ok (.getfield 57, 3) := by decide +kernel
theorem dX7_shown_74 : decode cX7_shown 74 = .ok (.iload_n 2, 1) := by decide +kernel
theorem dX7_shown_75 : decode cX7_shown 75 = .ok (.lload 9, 2) := by decide +kernel
theorem dX7_shown_77 : decode cX7_shown 77 = .ok (.invokevirtual 89, 3) := by decide +kernel
theorem dX7_shown_80 : decode cX7_shown 80 = .ok (.iload 4, 2) := by decide +kernel
theorem dX7_shown_82 : decode cX7_shown 82 = .ok (.ifCond .ne 18, 3) := by decide +kernel
theorem dX7_shown_85 : decode cX7_shown 85 = .ok (.aload_n 0, 1) := by decide +kernel
theorem dX7_shown_86 : decode cX7_shown 86 = .ok (.aload_n 0, 1) := by decide +kernel
theorem dX7_shown_87 : decode cX7_shown 87 = .ok (.getfield 57, 3) := by decide +kernel
theorem dX7_shown_90 : decode cX7_shown 90 = .ok (.iload_n 3, 1) := by decide +kernel
theorem dX7_shown_91 : decode cX7_shown 91 = .ok (.invokevirtual 145, 3) := by decide +kernel
theorem dX7_shown_94 : decode cX7_shown 94 = .ok (.ifCond .eq 23, 3) := by decide +kernel
theorem dX7_shown_97 : decode cX7_shown 97 = .ok (.goto 17, 3) := by decide +kernel
theorem dX7_shown_100 : decode cX7_shown 100 = .ok (.aload_n 0, 1) := by decide +kernel
theorem dX7_shown_101 : decode cX7_shown 101 = .ok (.aload 5, 2) := by decide +kernel
theorem dX7_shown_103 : decode cX7_shown 103 = .ok (.aload_n 0, 1) := by decide +kernel
theorem dX7_shown_104 : decode cX7_shown 104 = .ok (.getfield 57, 3) := by decide +kernel
theorem dX7_shown_107 : decode cX7_shown 107 = .ok (.iload_n 3, 1) := by decide +kernel
theorem dX7_shown_108 : decode cX7_shown 108 = .ok (.invokevirtual 209, 3) := by decide +kernel
theorem dX7_shown_111 : decode cX7_shown 111 = .ok (.ifCond .eq 6, 3) := by decide +kernel
theorem dX7_shown_114 : decode cX7_shown 114 = .ok (.iinc 6 1, 3) := by decide +kernel
theorem dX7_shown_117 : decode cX7_shown 117 = .ok (.lload 9, 2) := by decide +kernel
theorem dX7_shown_119 : decode cX7_shown 119 = .ok (.lconst 1, 1) := by decide +kernel
theorem dX7_shown_120 : decode cX7_shown 120 = .ok (.ladd, 1) := by decide +kernel
theorem dX7_shown_121 : decode cX7_shown 121 = .ok (.lstore 9, 2) := by decide +kernel
theorem dX7_shown_123 : decode cX7_shown 123 = .ok (.goto (-65), 3) := by decide +kernel
theorem dX7_shown_126 : decode cX7_shown 126 = .ok (.iload 6, 2) := by decide +kernel
theorem dX7_shown_128 : decode cX7_shown 128 = .ok (.ireturn, 1) := by decide +kernel
theorem dX7_count_0 : decode cX7_count 0 = .ok (.iload_n 1, 1) := by decide +kernel
theorem dX7_count_1 : decode cX7_count 1 = .ok (.tableswitch 69 0 4 #[35, 40, 45, 53, 64], 35) := by decide +kernel
theorem dX7_count_36 : decode cX7_count 36 = .ok (.aload_n 0, 1) := by decide +kernel
theorem dX7_count_37 : decode cX7_count 37 = .ok (.invokevirtual 220, 3) := by decide +kernel
theorem dX7_count_40 : decode cX7_count 40 = .ok (.ireturn, 1) := by decide +kernel
theorem dX7_count_41 : decode cX7_count 41 = .ok (.aload_n 0, 1) := by decide +kernel
theorem dX7_count_42 : decode cX7_count 42 = .ok (.getfield 63, 3) := by decide +kernel
theorem dX7_count_45 : decode cX7_count 45 = .ok (.ireturn, 1) := by decide +kernel
theorem dX7_count_46 : decode cX7_count 46 = .ok (.aload_n 0, 1) := by decide +kernel
theorem dX7_count_47 : decode cX7_count 47 = .ok (.getfield 19, 3) := by decide +kernel
theorem dX7_count_50 : decode cX7_count 50 = .ok (.getfield 109, 3) := by decide +kernel
theorem dX7_count_53 : decode cX7_count 53 = .ok (.ireturn, 1) := by decide +kernel
theorem dX7_count_54 : decode cX7_count 54 = .ok (.aload_n 0, 1) := by decide +kernel
theorem dX7_count_55 : decode cX7_count 55 = .ok (.getfield 19, 3) := by decide +kernel
theorem dX7_count_58 : decode cX7_count 58 = .ok (.getfield 116, 3) := by decide +kernel
theorem dX7_count_61 : decode cX7_count 61 = .ok (.getfield 93, 3) := by decide +kernel
theorem dX7_count_64 : decode cX7_count 64 = .ok (.ireturn, 1) := by decide +kernel
theorem dX7_count_65 : decode cX7_count 65 = .ok (.aload_n 0, 1) := by decide +kernel
theorem dX7_count_66 : decode cX7_count 66 = .ok (.invokevirtual 224, 3) := by decide +kernel
theorem dX7_count_69 : decode cX7_count 69 = .ok (.ireturn, 1) := by decide +kernel
theorem dX7_count_70 : decode cX7_count 70 = .ok (.iconst (-1), 1) := by decide +kernel
theorem dX7_count_71 : decode cX7_count 71 = .ok (.ireturn, 1) := by decide +kernel
theorem dX7_ofMaker_0 : decode cX7_ofMaker 0 = .ok (.aload_n 0, 1) := by decide +kernel
theorem dX7_ofMaker_1 : decode cX7_ofMaker 1 = .ok (.iload_n 1, 1) := by decide +kernel
theorem dX7_ofMaker_2 : decode cX7_ofMaker 2 = .ok (.invokevirtual 160, 3) := by decide +kernel
theorem dX7_ofMaker_5 : decode cX7_ofMaker 5 = .ok (.astore_n 3, 1) := by decide +kernel
theorem dX7_ofMaker_6 : decode cX7_ofMaker 6 = .ok (.aload_n 3, 1) := by decide +kernel
theorem dX7_ofMaker_7 : decode cX7_ofMaker 7 = .ok (.ifnonnull 5, 3) := by decide +kernel
theorem dX7_ofMaker_10 : decode cX7_ofMaker 10 = .ok (.iconst (-1), 1) := by decide +kernel
theorem dX7_ofMaker_11 : decode cX7_ofMaker 11 = .ok (.ireturn, 1) := by decide +kernel
theorem dX7_ofMaker_12 : decode cX7_ofMaker 12 = .ok (.iload_n 2, 1) := by decide +kernel
theorem dX7_ofMaker_13 : decode cX7_ofMaker 13 = .ok (.iconst (-1), 1) := by decide +kernel
theorem dX7_ofMaker_14 : decode cX7_ofMaker 14 = .ok (.if_icmp .ne 8, 3) := by decide +kernel
theorem dX7_ofMaker_17 : decode cX7_ofMaker 17 = .ok (.aload_n 3, 1) := by decide +kernel
theorem dX7_ofMaker_18 : decode cX7_ofMaker 18 = .ok (.getfield 164, 3) := by decide +kernel
theorem dX7_ofMaker_21 : decode cX7_ofMaker 21 = .ok (.ireturn, 1) := by decide +kernel
theorem dX7_ofMaker_22 : decode cX7_ofMaker 22 = .ok (.aload_n 3, 1) := by decide +kernel
theorem dX7_ofMaker_23 : decode cX7_ofMaker 23 = .ok (.iload_n 2, 1) := by decide +kernel
theorem dX7_ofMaker_24 : decode cX7_ofMaker 24 = .ok (.invokevirtual 170, 3) := by decide +kernel
theorem dX7_ofMaker_27 : decode cX7_ofMaker 27 = .ok (.ifCond .eq 20, 3) := by decide +kernel
theorem dX7_ofMaker_30 : decode cX7_ofMaker 30 = .ok (.bipush 10, 2) := by decide +kernel
theorem dX7_ofMaker_32 : decode cX7_ofMaker 32 = .ok (.aload_n 3, 1) := by decide +kernel
theorem dX7_ofMaker_33 : decode cX7_ofMaker 33 = .ok (.iload_n 2, 1) := by decide +kernel
theorem dX7_ofMaker_34 : decode cX7_ofMaker 34 = .ok (.invokevirtual 202, 3) := by decide +kernel
theorem dX7_ofMaker_37 : decode cX7_ofMaker 37 = .ok (.imul, 1) := by decide +kernel
theorem dX7_ofMaker_38 : decode cX7_ofMaker 38 = .ok (.aload_n 3, 1) := by decide +kernel
theorem dX7_ofMaker_39 : decode cX7_ofMaker 39 = .ok (.iload_n 2, 1) := by decide +kernel
theorem dX7_ofMaker_40 : decode cX7_ofMaker 40 = .ok (.invokevirtual 171, 3) := by decide +kernel
theorem dX7_ofMaker_43 : decode cX7_ofMaker 43 = .ok (.iadd, 1) := by decide +kernel
theorem dX7_ofMaker_44 : decode cX7_ofMaker 44 = .ok (.goto 4, 3) := by decide +kernel
theorem dX7_ofMaker_47 : decode cX7_ofMaker 47 = .ok (.iconst (-1), 1) := by decide +kernel
theorem dX7_ofMaker_48 : decode cX7_ofMaker 48 = .ok (.ireturn, 1) := by decide +kernel
theorem dX7_within_0 : decode cX7_within 0 = .ok (.iload_n 0, 1) := by decide +kernel
theorem dX7_within_1 : decode cX7_within 1 = .ok (.iload_n 1, 1) := by decide +kernel
theorem dX7_within_2 : decode cX7_within 2 = .ok (.if_icmp .lt 12, 3) := by decide +kernel
theorem dX7_within_5 : decode cX7_within 5 = .ok (.iload_n 0, 1) := by decide +kernel
theorem dX7_within_6 : decode cX7_within 6 = .ok (.iload_n 2, 1) := by decide +kernel
theorem dX7_within_7 : decode cX7_within 7 = .ok (.if_icmp .gt 7, 3) := by decide +kernel
theorem dX7_within_10 : decode cX7_within 10 = .ok (.iconst 1, 1) := by decide +kernel
theorem dX7_within_11 : decode cX7_within 11 = .ok (.goto 4, 3) := by decide +kernel
theorem dX7_within_14 : decode cX7_within 14 = .ok (.iconst 0, 1) := by decide +kernel
theorem dX7_within_15 : decode cX7_within 15 = .ok (.ireturn, 1) := by decide +kernel
theorem dX7_partsOf_0 : decode cX7_partsOf 0 = .ok (.iload_n 0, 1) := by decide +kernel
theorem dX7_partsOf_1 : decode cX7_partsOf 1 = .ok (.ifCond .lt 19, 3) := by decide +kernel
theorem dX7_partsOf_4 : decode cX7_partsOf 4 = .ok (.iload_n 0, 1) := by decide +kernel
theorem dX7_partsOf_5 : decode cX7_partsOf 5 = .ok (.getstatic 227, 3) := by decide +kernel
theorem dX7_partsOf_8 : decode cX7_partsOf 8 = .ok (.arraylength, 1) := by decide +kernel
theorem dX7_partsOf_9 : decode cX7_partsOf 9 = .ok (.if_icmp .ge 11, 3) := by decide +kernel
theorem dX7_partsOf_12 : decode cX7_partsOf 12 = .ok (.getstatic 227, 3) := by decide +kernel
theorem dX7_partsOf_15 : decode cX7_partsOf 15 = .ok (.iload_n 0, 1) := by decide +kernel
theorem dX7_partsOf_16 : decode cX7_partsOf 16 = .ok (.iaload, 1) := by decide +kernel
theorem dX7_partsOf_17 : decode cX7_partsOf 17 = .ok (.goto 4, 3) := by decide +kernel
theorem dX7_partsOf_20 : decode cX7_partsOf 20 = .ok (.iconst 0, 1) := by decide +kernel
theorem dX7_partsOf_21 : decode cX7_partsOf 21 = .ok (.ireturn, 1) := by decide +kernel
theorem dX7_combine_0 : decode cX7_combine 0 = .ok (.iload_n 0, 1) := by decide +kernel
theorem dX7_combine_1 : decode cX7_combine 1 = .ok (.tableswitch 39 4 6 #[27, 31, 35], 27) := by decide +kernel
theorem dX7_combine_28 : decode cX7_combine 28 = .ok (.iload_n 1, 1) := by decide +kernel
theorem dX7_combine_29 : decode cX7_combine 29 = .ok (.iload_n 2, 1) := by decide +kernel
theorem dX7_combine_30 : decode cX7_combine 30 = .ok (.iadd, 1) := by decide +kernel
theorem dX7_combine_31 : decode cX7_combine 31 = .ok (.ireturn, 1) := by decide +kernel
theorem dX7_combine_32 : decode cX7_combine 32 = .ok (.iload_n 1, 1) := by decide +kernel
theorem dX7_combine_33 : decode cX7_combine 33 = .ok (.iload_n 2, 1) := by decide +kernel
theorem dX7_combine_34 : decode cX7_combine 34 = .ok (.isub, 1) := by decide +kernel
theorem dX7_combine_35 : decode cX7_combine 35 = .ok (.ireturn, 1) := by decide +kernel
theorem dX7_combine_36 : decode cX7_combine 36 = .ok (.iload_n 1, 1) := by decide +kernel
theorem dX7_combine_37 : decode cX7_combine 37 = .ok (.iload_n 2, 1) := by decide +kernel
theorem dX7_combine_38 : decode cX7_combine 38 = .ok (.imul, 1) := by decide +kernel
theorem dX7_combine_39 : decode cX7_combine 39 = .ok (.ireturn, 1) := by decide +kernel
theorem dX7_combine_40 : decode cX7_combine 40 = .ok (.iload_n 2, 1) := by decide +kernel
theorem dX7_combine_41 : decode cX7_combine 41 = .ok (.ifCond .ne 7, 3) := by decide +kernel
theorem dX7_combine_44 : decode cX7_combine 44 = .ok (.iconst 0, 1) := by decide +kernel
theorem dX7_combine_45 : decode cX7_combine 45 = .ok (.goto 6, 3) := by decide +kernel
theorem dX7_combine_48 : decode cX7_combine 48 = .ok (.iload_n 1, 1) := by decide +kernel
theorem dX7_combine_49 : decode cX7_combine 49 = .ok (.iload_n 2, 1) := by decide +kernel
theorem dX7_combine_50 : decode cX7_combine 50 = .ok (.idiv, 1) := by decide +kernel
theorem dX7_combine_51 : decode cX7_combine 51 = .ok (.ireturn, 1) := by decide +kernel
theorem dX7_tell_0 : decode cX7_tell 0 = .ok (.aload_n 0, 1) := by decide +kernel
theorem dX7_tell_1 : decode cX7_tell 1 = .ok (.iload_n 1, 1) := by decide +kernel
theorem dX7_tell_2 : decode cX7_tell 2 = .ok (.invokevirtual 149, 3) := by decide +kernel
theorem dX7_tell_5 : decode cX7_tell 5 = .ok (.ifCond .ne 6, 3) := by decide +kernel
theorem dX7_tell_8 : decode cX7_tell 8 = .ok (.ldc 130, 2) := by decide +kernel
theorem dX7_tell_10 : decode cX7_tell 10 = .ok (.ireturn, 1) := by decide +kernel
theorem dX7_tell_11 : decode cX7_tell 11 = .ok (.iload_n 2, 1) := by decide +kernel
theorem dX7_tell_12 : decode cX7_tell 12 = .ok (.tableswitch 46 0 2 #[28, 34, 40], 28) := by decide +kernel
theorem dX7_tell_40 : decode cX7_tell 40 = .ok (.aload_n 0, 1) := by decide +kernel
theorem dX7_tell_41 : decode cX7_tell 41 = .ok (.iload_n 1, 1) := by decide +kernel
theorem dX7_tell_42 : decode cX7_tell 42 = .ok (.invokevirtual 231, 3) := by decide +kernel
theorem dX7_tell_45 : decode cX7_tell 45 = .ok (.ireturn, 1) := by decide +kernel
theorem dX7_tell_46 : decode cX7_tell 46 = .ok (.aload_n 0, 1) := by decide +kernel
theorem dX7_tell_47 : decode cX7_tell 47 = .ok (.iload_n 1, 1) := by decide +kernel
theorem dX7_tell_48 : decode cX7_tell 48 = .ok (.invokevirtual 234, 3) := by decide +kernel
theorem dX7_tell_51 : decode cX7_tell 51 = .ok (.ireturn, 1) := by decide +kernel
theorem dX7_tell_52 : decode cX7_tell 52 = .ok (.aload_n 0, 1) := by decide +kernel
theorem dX7_tell_53 : decode cX7_tell 53 = .ok (.iload_n 1, 1) := by decide +kernel
theorem dX7_tell_54 : decode cX7_tell 54 = .ok (.invokevirtual 153, 3) := by decide +kernel
theorem dX7_tell_57 : decode cX7_tell 57 = .ok (.ireturn, 1) := by decide +kernel
theorem dX7_tell_58 : decode cX7_tell 58 = .ok (.ldc 130, 2) := by decide +kernel
theorem dX7_tell_60 : decode cX7_tell 60 = .ok (.ireturn, 1) := by decide +kernel
theorem dX7_placeAt_0 : decode cX7_placeAt 0 = .ok (.iload_n 1, 1) := by decide +kernel
theorem dX7_placeAt_1 : decode cX7_placeAt 1 = .ok (.iconst 0, 1) := by decide +kernel
theorem dX7_placeAt_2 : decode cX7_placeAt 2 = .ok (.bipush 19, 2) := by decide +kernel
theorem dX7_placeAt_4 : decode cX7_placeAt 4 = .ok (.invokestatic 75, 3) := by decide +kernel
theorem dX7_placeAt_7 : decode cX7_placeAt 7 = .ok (.ifCond .eq 12, 3) := by decide +kernel
theorem dX7_placeAt_10 : decode cX7_placeAt 10 = .ok (.aload_n 0, 1) := by decide +kernel
theorem dX7_placeAt_11 : decode cX7_placeAt 11 = .ok (.getfield 25, 3) := by decide +kernel
theorem dX7_placeAt_14 : decode cX7_placeAt 14 = .ok (.iload_n 1, 1) := by decide +kernel
theorem dX7_placeAt_15 : decode cX7_placeAt 15 = .ok (.aaload, 1) := by decide +kernel
theorem dX7_placeAt_16 : decode cX7_placeAt 16 = .ok (.goto 4, 3) := by decide +kernel
theorem dX7_placeAt_19 : decode cX7_placeAt 19 = .ok (.aconst_null, 1) := by decide +kernel
theorem dX7_placeAt_20 : decode cX7_placeAt 20 = .ok (.areturn, 1) := by decide +kernel
theorem dX7_programAt_0 : decode cX7_programAt 0 = .ok (.aload_n 0, 1) := by decide +kernel
theorem dX7_programAt_1 : decode cX7_programAt 1 = .ok (.iload_n 1, 1) := by decide +kernel
theorem dX7_programAt_2 : decode cX7_programAt 2 = .ok (.invokevirtual 85, 3) := by decide +kernel
theorem dX7_programAt_5 : decode cX7_programAt 5 = .ok (.astore_n 2, 1) := by decide +kernel
theorem dX7_programAt_6 : decode cX7_programAt 6 = .ok (.aload_n 2, 1) := by decide +kernel
theorem dX7_programAt_7 : decode cX7_programAt 7 = .ok (.ifnull 10, 3) := by decide +kernel
theorem dX7_programAt_10 : decode cX7_programAt 10 = .ok (.aload_n 2, 1) := by decide +kernel
theorem dX7_programAt_11 : decode cX7_programAt 11 = .ok (.getfield 93, 3) := by decide +kernel
theorem dX7_programAt_14 : decode cX7_programAt 14 = .ok (.ifCond .ne 7, 3) := by decide +kernel
theorem dX7_programAt_17 : decode cX7_programAt 17 = .ok (.aconst_null, 1) := by decide +kernel
theorem dX7_programAt_18 : decode cX7_programAt 18 = .ok (.goto 4, 3) := by decide +kernel
theorem dX7_programAt_21 : decode cX7_programAt 21 = .ok (.aload_n 2, 1) := by decide +kernel
theorem dX7_programAt_22 : decode cX7_programAt 22 = .ok (.areturn, 1) := by decide +kernel
theorem dX7_makerAt_0 : decode cX7_makerAt 0 = .ok (.iload_n 1, 1) := by decide +kernel
theorem dX7_makerAt_1 : decode cX7_makerAt 1 = .ok (.iconst 0, 1) := by decide +kernel
theorem dX7_makerAt_2 : decode cX7_makerAt 2 = .ok (.aload_n 0, 1) := by decide +kernel
theorem dX7_makerAt_3 : decode cX7_makerAt 3 = .ok (.getfield 63, 3) := by decide +kernel
theorem dX7_makerAt_6 : decode cX7_makerAt 6 = .ok (.iconst 1, 1) := by decide +kernel
theorem dX7_makerAt_7 : decode cX7_makerAt 7 = .ok (.isub, 1) := by decide +kernel
theorem dX7_makerAt_8 : decode cX7_makerAt 8 = .ok (.invokestatic 75, 3) := by decide +kernel
theorem dX7_makerAt_11 : decode cX7_makerAt 11 = .ok (.ifCond .eq 18, 3) := by decide +kernel
theorem dX7_makerAt_14 : decode cX7_makerAt 14 = .ok (.iload_n 1, 1) := by decide +kernel
theorem dX7_makerAt_15 : decode cX7_makerAt 15 = .ok (.bipush 8, 2) := by decide +kernel
theorem dX7_makerAt_17 : decode cX7_makerAt 17 = .ok (.if_icmp .ge 12, 3) := by decide +kernel
theorem dX7_makerAt_20 : decode cX7_makerAt 20 = .ok (.aload_n 0, 1) := by decide +kernel
theorem dX7_makerAt_21 : decode cX7_makerAt 21 = .ok (.getfield 31, 3) := by decide +kernel
theorem dX7_makerAt_24 : decode cX7_makerAt 24 = .ok (.iload_n 1, 1) := by decide +kernel
theorem dX7_makerAt_25 : decode cX7_makerAt 25 = .ok (.aaload, 1) := by decide +kernel
theorem dX7_makerAt_26 : decode cX7_makerAt 26 = .ok (.goto 4, 3) := by decide +kernel
theorem dX7_makerAt_29 : decode cX7_makerAt 29 = .ok (.aconst_null, 1) := by decide +kernel
theorem dX7_makerAt_30 : decode cX7_makerAt 30 = .ok (.areturn, 1) := by decide +kernel
theorem dX7_keptPrograms_0 : decode cX7_keptPrograms 0 = .ok (.iconst 0, 1) := by decide +kernel
theorem dX7_keptPrograms_1 : decode cX7_keptPrograms 1 = .ok (.istore_n 1, 1) := by decide +kernel
theorem dX7_keptPrograms_2 : decode cX7_keptPrograms 2 = .ok (.iconst 0, 1) := by decide +kernel
theorem dX7_keptPrograms_3 : decode cX7_keptPrograms 3 = .ok (.istore_n 2, 1) := by decide +kernel
theorem dX7_keptPrograms_4 : decode cX7_keptPrograms 4 = .ok (.iload_n 2, 1) := by decide +kernel
theorem dX7_keptPrograms_5 : decode cX7_keptPrograms 5 = .ok (.bipush 20, 2) := by decide +kernel
theorem dX7_keptPrograms_7 : decode cX7_keptPrograms 7 = .ok (.if_icmp .ge 20, 3) := by decide +kernel
theorem dX7_keptPrograms_10 : decode cX7_keptPrograms 10 = .ok (.aload_n 0, 1) := by decide +kernel
theorem dX7_keptPrograms_11 : decode cX7_keptPrograms 11 = .ok (.iload_n 2, 1) := by decide +kernel
theorem dX7_keptPrograms_12 : decode cX7_keptPrograms 12 = .ok (.invokevirtual 96, 3) := by decide +kernel
theorem dX7_keptPrograms_15 : decode cX7_keptPrograms 15 = .ok (.ifnull 6, 3) := by decide +kernel
theorem dX7_keptPrograms_18 : decode cX7_keptPrograms 18 = .ok (.iinc 1 1, 3) := by decide +kernel
theorem dX7_keptPrograms_21 : decode cX7_keptPrograms 21 = .ok (.iinc 2 1, 3) := by decide +kernel
theorem dX7_keptPrograms_24 : decode cX7_keptPrograms 24 = .ok (.goto (-20), 3) := by decide +kernel
theorem dX7_keptPrograms_27 : decode cX7_keptPrograms 27 = .ok (.iload_n 1, 1) := by decide +kernel
theorem dX7_keptPrograms_28 : decode cX7_keptPrograms 28 = .ok (.ireturn, 1) := by decide +kernel
theorem dX7_keptNodes_0 : decode cX7_keptNodes 0 = .ok (.iconst 0, 1) := by decide +kernel
theorem dX7_keptNodes_1 : decode cX7_keptNodes 1 = .ok (.istore_n 1, 1) := by decide +kernel
theorem dX7_keptNodes_2 : decode cX7_keptNodes 2 = .ok (.iconst 0, 1) := by decide +kernel
theorem dX7_keptNodes_3 : decode cX7_keptNodes 3 = .ok (.istore_n 2, 1) := by decide +kernel
theorem dX7_keptNodes_4 : decode cX7_keptNodes 4 = .ok (.iload_n 2, 1) := by decide +kernel
theorem dX7_keptNodes_5 : decode cX7_keptNodes 5 = .ok (.bipush 20, 2) := by decide +kernel
theorem dX7_keptNodes_7 : decode cX7_keptNodes 7 = .ok (.if_icmp .ge 26, 3) := by decide +kernel
theorem dX7_keptNodes_10 : decode cX7_keptNodes 10 = .ok (.aload_n 0, 1) := by decide +kernel
theorem dX7_keptNodes_11 : decode cX7_keptNodes 11 = .ok (.iload_n 2, 1) := by decide +kernel
theorem dX7_keptNodes_12 : decode cX7_keptNodes 12 = .ok (.invokevirtual 96, 3) := by decide +kernel
theorem dX7_keptNodes_15 : decode cX7_keptNodes 15 = .ok (.astore_n 3, 1) := by decide +kernel
theorem dX7_keptNodes_16 : decode cX7_keptNodes 16 = .ok (.aload_n 3, 1) := by decide +kernel
theorem dX7_keptNodes_17 : decode cX7_keptNodes 17 = .ok (.ifnull 10, 3) := by decide +kernel
theorem dX7_keptNodes_20 : decode cX7_keptNodes 20 = .ok (.iload_n 1, 1) := by decide +kernel
theorem dX7_keptNodes_21 : decode cX7_keptNodes 21 = .ok (.aload_n 3, 1) := by decide +kernel
theorem dX7_keptNodes_22 : decode cX7_keptNodes 22 = .ok (.getfield 93, 3) := by decide +kernel
theorem dX7_keptNodes_25 : decode cX7_keptNodes 25 = .ok (.iadd, 1) := by decide +kernel
theorem dX7_keptNodes_26 : decode cX7_keptNodes 26 = .ok (.istore_n 1, 1) := by decide +kernel
theorem dX7_keptNodes_27 : decode cX7_keptNodes 27 = .ok (.iinc 2 1, 3) := by decide +kernel
theorem dX7_keptNodes_30 : decode cX7_keptNodes 30 = .ok (.goto (-26), 3) := by decide +kernel
theorem dX7_keptNodes_33 : decode cX7_keptNodes 33 = .ok (.iload_n 1, 1) := by decide +kernel
theorem dX7_keptNodes_34 : decode cX7_keptNodes 34 = .ok (.ireturn, 1) := by decide +kernel
theorem dX7_write_0 : decode cX7_write 0 = .ok (.aload_n 0, 1) := by decide +kernel
theorem dX7_write_1 : decode cX7_write 1 = .ok (.iload_n 1, 1) := by decide +kernel
theorem dX7_write_2 : decode cX7_write 2 = .ok (.invokevirtual 160, 3) := by decide +kernel
theorem dX7_write_5 : decode cX7_write 5 = .ok (.astore_n 3, 1) := by decide +kernel
theorem dX7_write_6 : decode cX7_write 6 = .ok (.aload_n 0, 1) := by decide +kernel
theorem dX7_write_7 : decode cX7_write 7 = .ok (.iload_n 2, 1) := by decide +kernel
theorem dX7_write_8 : decode cX7_write 8 = .ok (.invokevirtual 96, 3) := by decide +kernel
theorem dX7_write_11 : decode cX7_write 11 = .ok (.astore 4, 2) := by decide +kernel
theorem dX7_write_13 : decode cX7_write 13 = .ok (.aload_n 3, 1) := by decide +kernel
theorem dX7_write_14 : decode cX7_write 14 = .ok (.ifnull 8, 3) := by decide +kernel
theorem dX7_write_17 : decode cX7_write 17 = .ok (.aload 4, 2) := by decide +kernel
theorem dX7_write_19 : decode cX7_write 19 = .ok (.ifnonnull 5, 3) := by decide +kernel
theorem dX7_write_22 : decode cX7_write 22 = .ok (.iconst 0, 1) := by decide +kernel
theorem dX7_write_23 : decode cX7_write 23 = .ok (.ireturn, 1) := by decide +kernel
theorem dX7_write_24 : decode cX7_write 24 = .ok (.aload_n 0, 1) := by decide +kernel
theorem dX7_write_25 : decode cX7_write 25 = .ok (.getfield 38, 3) := by decide +kernel
theorem dX7_write_28 : decode cX7_write 28 = .ok (.aload_n 3, 1) := by decide +kernel
theorem dX7_write_29 : decode cX7_write 29 = .ok (.aload 4, 2) := by decide +kernel
theorem dX7_write_31 : decode cX7_write 31 = .ok (.aload_n 3, 1) := by decide +kernel
theorem dX7_write_32 : decode cX7_write 32 = .ok (.getfield 164, 3) := by decide +kernel
theorem dX7_write_35 : decode cX7_write 35 = .ok (.invokevirtual 177, 3) := by decide +kernel
theorem dX7_write_38 : decode cX7_write 38 = .ok (.pop, 1) := by decide +kernel
theorem dX7_write_39 : decode cX7_write 39 = .ok (.aload_n 0, 1) := by decide +kernel
theorem dX7_write_40 : decode cX7_write 40 = .ok (.getfield 45, 3) := by decide +kernel
theorem dX7_write_43 : decode cX7_write 43 = .ok (.aload 4, 2) := by decide +kernel
theorem dX7_write_45 : decode cX7_write 45 = .ok (.invokevirtual 135, 3) := by decide +kernel
theorem dX7_write_48 : decode cX7_write 48 = .ok (.aload_n 0, 1) := by decide +kernel
theorem dX7_write_49 : decode cX7_write 49 = .ok (.getfield 49, 3) := by decide +kernel
theorem dX7_write_52 : decode cX7_write 52 = .ok (.aload_n 0, 1) := by decide +kernel
theorem dX7_write_53 : decode cX7_write 53 = .ok (.getfield 38, 3) := by decide +kernel
theorem dX7_write_56 : decode cX7_write 56 = .ok (.getfield 181, 3) := by decide +kernel
theorem dX7_write_59 : decode cX7_write 59 = .ok (.invokevirtual 135, 3) := by decide +kernel
theorem dX7_write_62 : decode cX7_write 62 = .ok (.iconst 1, 1) := by decide +kernel
theorem dX7_write_63 : decode cX7_write 63 = .ok (.ireturn, 1) := by decide +kernel
theorem dX7_isWrongAt_0 : decode cX7_isWrongAt 0 = .ok (.aload_n 0, 1) := by decide +kernel
theorem dX7_isWrongAt_1 : decode cX7_isWrongAt 1 = .ok (.getfield 45, 3) := by decide +kernel
theorem dX7_isWrongAt_4 : decode cX7_isWrongAt 4 = .ok (.iload_n 1, 1) := by decide +kernel
theorem dX7_isWrongAt_5 : decode cX7_isWrongAt 5 = .ok (.iload_n 2, 1) := by decide +kernel
theorem dX7_isWrongAt_6 : decode cX7_isWrongAt 6 = .ok (.invokevirtual 138, 3) := by decide +kernel
theorem dX7_isWrongAt_9 : decode cX7_isWrongAt 9 = .ok (.pop, 1) := by decide +kernel
theorem dX7_isWrongAt_10 : decode cX7_isWrongAt 10 = .ok (.aload_n 0, 1) := by decide +kernel
theorem dX7_isWrongAt_11 : decode cX7_isWrongAt 11 = .ok (.getfield 49, 3) := by decide +kernel
theorem dX7_isWrongAt_14 : decode cX7_isWrongAt 14 = .ok (.iload_n 1, 1) := by decide +kernel
theorem dX7_isWrongAt_15 : decode cX7_isWrongAt 15 = .ok (.iload_n 2, 1) := by decide +kernel
theorem dX7_isWrongAt_16 : decode cX7_isWrongAt 16 = .ok (.invokevirtual 138, 3) := by decide +kernel
theorem dX7_isWrongAt_19 : decode cX7_isWrongAt 19 = .ok (.ifCond .eq 20, 3) := by decide +kernel
theorem dX7_isWrongAt_22 : decode cX7_isWrongAt 22 = .ok (.aload_n 0, 1) := by decide +kernel
theorem dX7_isWrongAt_23 : decode cX7_isWrongAt 23 = .ok (.getfield 49, 3) := by decide +kernel
theorem dX7_isWrongAt_26 : decode cX7_isWrongAt 26 = .ok (.getfield 142, 3) := by decide +kernel
theorem dX7_isWrongAt_29 : decode cX7_isWrongAt 29 = .ok (.aload_n 0, 1) := by decide +kernel
theorem dX7_isWrongAt_30 : decode cX7_isWrongAt 30 = .ok (.getfield 45, 3) := by decide +kernel
theorem dX7_isWrongAt_33 : decode cX7_isWrongAt 33 = .ok (.getfield 142, 3) := by decide +kernel
theorem dX7_isWrongAt_36 : decode cX7_isWrongAt 36 = .ok (.if_icmp .eq 7, 3) := by decide +kernel
theorem dX7_isWrongAt_39 : decode cX7_isWrongAt 39 = .ok (.iconst 1, 1) := by decide +kernel
theorem dX7_isWrongAt_40 : decode cX7_isWrongAt 40 = .ok (.goto 4, 3) := by decide +kernel
theorem dX7_isWrongAt_43 : decode cX7_isWrongAt 43 = .ok (.iconst 0, 1) := by decide +kernel
theorem dX7_isWrongAt_44 : decode cX7_isWrongAt 44 = .ok (.ireturn, 1) := by decide +kernel
theorem dX7_isSafe_0 : decode cX7_isSafe 0 = .ok (.aload_n 0, 1) := by decide +kernel
theorem dX7_isSafe_1 : decode cX7_isSafe 1 = .ok (.getfield 45, 3) := by decide +kernel
theorem dX7_isSafe_4 : decode cX7_isSafe 4 = .ok (.aload_n 1, 1) := by decide +kernel
theorem dX7_isSafe_5 : decode cX7_isSafe 5 = .ok (.invokevirtual 135, 3) := by decide +kernel
theorem dX7_isSafe_8 : decode cX7_isSafe 8 = .ok (.aload_n 0, 1) := by decide +kernel
theorem dX7_isSafe_9 : decode cX7_isSafe 9 = .ok (.getfield 45, 3) := by decide +kernel
theorem dX7_isSafe_12 : decode cX7_isSafe 12 = .ok (.iload_n 2, 1) := by decide +kernel
theorem dX7_isSafe_13 : decode cX7_isSafe 13 = .ok (.invokevirtual 196, 3) := by decide +kernel
theorem dX7_isSafe_16 : decode cX7_isSafe 16 = .ok (.ireturn, 1) := by decide +kernel
theorem dX7_isFaulty_0 : decode cX7_isFaulty 0 = .ok (.aload_n 0, 1) := by decide +kernel
theorem dX7_isFaulty_1 : decode cX7_isFaulty 1 = .ok (.getfield 38, 3) := by decide +kernel
theorem dX7_isFaulty_4 : decode cX7_isFaulty 4 = .ok (.aload_n 1, 1) := by decide +kernel
theorem dX7_isFaulty_5 : decode cX7_isFaulty 5 = .ok (.aload_n 2, 1) := by decide +kernel
theorem dX7_isFaulty_6 : decode cX7_isFaulty 6 = .ok (.aload_n 1, 1) := by decide +kernel
theorem dX7_isFaulty_7 : decode cX7_isFaulty 7 = .ok (.getfield 164, 3) := by decide +kernel
theorem dX7_isFaulty_10 : decode cX7_isFaulty 10 = .ok (.invokevirtual 177, 3) := by decide +kernel
theorem dX7_isFaulty_13 : decode cX7_isFaulty 13 = .ok (.ifCond .le 16, 3) := by decide +kernel
theorem dX7_isFaulty_16 : decode cX7_isFaulty 16 = .ok (.aload_n 0, 1) := by decide +kernel
theorem dX7_isFaulty_17 : decode cX7_isFaulty 17 = .ok (.aload_n 2, 1) := by decide +kernel
theorem dX7_isFaulty_18 : decode cX7_isFaulty 18 = .ok (.iload_n 3, 1) := by decide +kernel
theorem dX7_isFaulty_19 : decode cX7_isFaulty 19 = .ok (.invokevirtual 237, 3) := by decide +kernel
theorem dX7_isFaulty_22 : decode cX7_isFaulty 22 = .ok (.ifCond .eq 7, 3) := by decide +kernel
theorem dX7_isFaulty_25 : decode cX7_isFaulty 25 = .ok (.iconst 1, 1) := by decide +kernel
theorem dX7_isFaulty_26 : decode cX7_isFaulty 26 = .ok (.goto 4, 3) := by decide +kernel
theorem dX7_isFaulty_29 : decode cX7_isFaulty 29 = .ok (.iconst 0, 1) := by decide +kernel
theorem dX7_isFaulty_30 : decode cX7_isFaulty 30 = .ok (.ireturn, 1) := by decide +kernel
theorem dX7_showsFault_0 : decode cX7_showsFault 0 = .ok (.aload_n 0, 1) := by decide +kernel
theorem dX7_showsFault_1 : decode cX7_showsFault 1 = .ok (.getfield 45, 3) := by decide +kernel
theorem dX7_showsFault_4 : decode cX7_showsFault 4 = .ok (.aload_n 1, 1) := by decide +kernel
theorem dX7_showsFault_5 : decode cX7_showsFault 5 = .ok (.invokevirtual 135, 3) := by decide +kernel
theorem dX7_showsFault_8 : decode cX7_showsFault 8 = .ok (.aload_n 0, 1) := by decide +kernel
theorem dX7_showsFault_9 : decode cX7_showsFault 9 = .ok (.getfield 49, 3) := by decide +kernel
theorem dX7_showsFault_12 : decode cX7_showsFault 12 = .ok (.aload_n 0, 1) := by decide +kernel
theorem dX7_showsFault_13 : decode cX7_showsFault 13 = .ok (.getfield 38, 3) := by decide +kernel
theorem dX7_showsFault_16 : decode cX7_showsFault 16 = .ok (.getfield 181, 3) := by decide +kernel
theorem dX7_showsFault_19 : decode cX7_showsFault 19 = .ok (.invokevirtual 135, 3) := by decide +kernel
theorem dX7_showsFault_22 : decode cX7_showsFault 22 = .ok (.aload_n 0, 1) := by decide +kernel
theorem dX7_showsFault_23 : decode cX7_showsFault 23 = .ok (.getfield 45, 3) := by decide +kernel
theorem dX7_showsFault_26 : decode cX7_showsFault 26 = .ok (.getfield 240, 3) := by decide +kernel
theorem dX7_showsFault_29 : decode cX7_showsFault 29 = .ok (.ifCond .eq 7, 3) := by decide +kernel
theorem dX7_showsFault_32 : decode cX7_showsFault 32 = .ok (.iload_n 2, 1) := by decide +kernel
theorem dX7_showsFault_33 : decode cX7_showsFault 33 = .ok (.goto 5, 3) := by decide +kernel
theorem dX7_showsFault_36 : decode cX7_showsFault 36 = .ok (.iload_n 2, 1) := by decide +kernel
theorem dX7_showsFault_37 : decode cX7_showsFault 37 = .ok (.ineg, 1) := by decide +kernel
theorem dX7_showsFault_38 : decode cX7_showsFault 38 = .ok (.istore_n 3, 1) := by decide +kernel
theorem dX7_showsFault_39 : decode cX7_showsFault 39 = .ok (.aload_n 0, 1) := by decide +kernel
theorem dX7_showsFault_40 : decode cX7_showsFault 40 = .ok (.getfield 45, 3) := by decide +kernel
theorem dX7_showsFault_43 : decode cX7_showsFault 43 = .ok (.getfield 244, 3) := by decide +kernel
theorem dX7_showsFault_46 : decode cX7_showsFault 46 = .ok (.ifCond .eq 7, 3) := by decide +kernel
theorem dX7_showsFault_49 : decode cX7_showsFault 49 = .ok (.iload_n 2, 1) := by decide +kernel
theorem dX7_showsFault_50 : decode cX7_showsFault 50 = .ok (.goto 5, 3) := by decide +kernel
theorem dX7_showsFault_53 : decode cX7_showsFault 53 = .ok (.iload_n 2, 1) := by decide +kernel
theorem dX7_showsFault_54 : decode cX7_showsFault 54 = .ok (.ineg, 1) := by decide +kernel
theorem dX7_showsFault_55 : decode cX7_showsFault 55 = .ok (.istore 4, 2) := by decide +kernel
theorem dX7_showsFault_57 : decode cX7_showsFault 57 = .ok (.iconst 0, 1) := by decide +kernel
theorem dX7_showsFault_58 : decode cX7_showsFault 58 = .ok (.istore 5, 2) := by decide +kernel
theorem dX7_showsFault_60 : decode cX7_showsFault 60 = .ok (.iload_n 2, 1) := by decide +kernel
theorem dX7_showsFault_61 : decode cX7_showsFault 61 = .ok (.ineg, 1) := by decide +kernel
theorem dX7_showsFault_62 : decode cX7_showsFault 62 = .ok (.istore 6, 2) := by decide +kernel
theorem dX7_showsFault_64 : decode cX7_showsFault 64 = .ok (.iload 6, 2) := by decide +kernel
theorem dX7_showsFault_66 : decode cX7_showsFault 66 = .ok (.iload_n 3, 1) := by decide +kernel
theorem dX7_showsFault_67 : decode cX7_showsFault 67 = .ok (.if_icmp .gt 102, 3) := by decide +kernel
theorem dX7_showsFault_70 : decode cX7_showsFault 70 = .ok (.iload_n 2, 1) := by decide +kernel
theorem dX7_showsFault_71 : decode cX7_showsFault 71 = .ok (.ineg, 1) := by decide +kernel
theorem dX7_showsFault_72 : decode cX7_showsFault 72 = .ok (.istore 7, 2) := by decide +kernel
theorem dX7_showsFault_74 : decode cX7_showsFault 74 = .ok (.iload 7, 2) := by decide +kernel
theorem dX7_showsFault_76 : decode cX7_showsFault 76 = .ok (.iload 4, 2) := by decide +kernel
theorem dX7_showsFault_78 : decode cX7_showsFault 78 = .ok (.if_icmp .gt 85, 3) := by decide +kernel
theorem dX7_showsFault_81 : decode cX7_showsFault 81 = .ok (.aload_n 0, 1) := by decide +kernel
theorem dX7_showsFault_82 : decode cX7_showsFault 82 = .ok (.getfield 45, 3) := by decide +kernel
theorem dX7_showsFault_85 : decode cX7_showsFault 85 = .ok (.iload 6, 2) := by decide +kernel
theorem dX7_showsFault_87 : decode cX7_showsFault 87 = .ok (.iload 7, 2) := by decide +kernel
theorem dX7_showsFault_89 : decode cX7_showsFault 89 = .ok (.invokevirtual 138, 3) := by decide +kernel
theorem dX7_showsFault_92 : decode cX7_showsFault 92 = .ok (.ifCond .ne 5, 3) := by decide +kernel
theorem dX7_showsFault_95 : decode cX7_showsFault 95 = .ok (.iconst 0, 1) := by decide +kernel
theorem dX7_showsFault_96 : decode cX7_showsFault 96 = .ok (.ireturn, 1) := by decide +kernel
theorem dX7_showsFault_97 : decode cX7_showsFault 97 = .ok (.iload 5, 2) := by decide +kernel
theorem dX7_showsFault_99 : decode cX7_showsFault 99 = .ok (.ifCond .ne 34, 3) := by decide +kernel
theorem dX7_showsFault_102 : decode cX7_showsFault 102 = .ok (.aload_n 0, 1) := by decide +kernel
theorem dX7_showsFault_103 : decode cX7_showsFault 103 = .ok (.getfield 49, 3) := by decide +kernel
theorem dX7_showsFault_106 : decode cX7_showsFault 106 = .ok (.iload 6, 2) := by decide +kernel
theorem dX7_showsFault_108 : decode cX7_showsFault 108 = .ok (.iload 7, 2) := by decide +kernel
theorem dX7_showsFault_110 : decode cX7_showsFault 110 = .ok (.invokevirtual 138, 3) := by decide +kernel
theorem dX7_showsFault_113 : decode cX7_showsFault 113 = .ok (.ifCond .eq 20, 3) := by decide +kernel
theorem dX7_showsFault_116 : decode cX7_showsFault 116 = .ok (.aload_n 0, 1) := by decide +kernel
theorem dX7_showsFault_117 : decode cX7_showsFault 117 = .ok (.getfield 49, 3) := by decide +kernel
theorem dX7_showsFault_120 : decode cX7_showsFault 120 = .ok (.getfield 142, 3) := by decide +kernel
theorem dX7_showsFault_123 : decode cX7_showsFault 123 = .ok (.aload_n 0, 1) := by decide +kernel
theorem dX7_showsFault_124 : decode cX7_showsFault 124 = .ok (.getfield 45, 3) := by decide +kernel
theorem dX7_showsFault_127 : decode cX7_showsFault 127 = .ok (.getfield 142, 3) := by decide +kernel
theorem dX7_showsFault_130 : decode cX7_showsFault 130 = .ok (.if_icmp .eq 7, 3) := by decide +kernel
theorem dX7_showsFault_133 : decode cX7_showsFault 133 = .ok (.iconst 1, 1) := by decide +kernel
theorem dX7_showsFault_134 : decode cX7_showsFault 134 = .ok (.goto 4, 3) := by decide +kernel
theorem dX7_showsFault_137 : decode cX7_showsFault 137 = .ok (.iconst 0, 1) := by decide +kernel
theorem dX7_showsFault_138 : decode cX7_showsFault 138 = .ok (.istore 5, 2) := by decide +kernel
theorem dX7_showsFault_140 : decode cX7_showsFault 140 = .ok (.iload 5, 2) := by decide +kernel
theorem dX7_showsFault_142 : decode cX7_showsFault 142 = .ok (.ifCond .eq 15, 3) := by decide +kernel
theorem dX7_showsFault_145 : decode cX7_showsFault 145 = .ok (.aload_n 0, 1) := by decide +kernel
theorem dX7_showsFault_146 : decode cX7_showsFault 146 = .ok (.getfield 45, 3) := by decide +kernel
theorem dX7_showsFault_149 : decode cX7_showsFault 149 = .ok (.getfield 247, 3) := by decide +kernel
theorem dX7_showsFault_152 : decode cX7_showsFault 152 = .ok (.ifCond .ne 5, 3) := by decide +kernel
theorem dX7_showsFault_155 : decode cX7_showsFault 155 = .ok (.iconst 1, 1) := by decide +kernel
theorem dX7_showsFault_156 : decode cX7_showsFault 156 = .ok (.ireturn, 1) := by decide +kernel
theorem dX7_showsFault_157 : decode cX7_showsFault 157 = .ok (.iinc 7 1, 3) := by decide +kernel
theorem dX7_showsFault_160 : decode cX7_showsFault 160 = .ok (.goto (-86), 3) := by decide +kernel
theorem dX7_showsFault_163 : decode cX7_showsFault 163 = .ok (.iinc 6 1, 3) := by decide +kernel
theorem dX7_showsFault_166 : decode cX7_showsFault 166 = .ok (.goto (-102), 3) := by decide +kernel
theorem dX7_showsFault_169 : decode cX7_showsFault 169 = .ok (.iload 5, 2) := by decide +kernel
theorem dX7_showsFault_171 : decode cX7_showsFault 171 = .ok (.ireturn, 1) := by decide +kernel
theorem dX7_shrink_0 : decode cX7_shrink 0 = .ok (.iconst 0, 1) := by decide +kernel
theorem dX7_shrink_1 : decode cX7_shrink 1 = .ok (.istore 4, 2) := by decide +kernel
theorem dX7_shrink_3 : decode cX7_shrink 3 = .ok (.iload 4, 2) := by decide +kernel
theorem dX7_shrink_5 : decode cX7_shrink 5 = .ok (.aload_n 2, 1) := by decide +kernel
theorem dX7_shrink_6 : decode cX7_shrink 6 = .ok (.getfield 93, 3) := by decide +kernel
theorem dX7_shrink_9 : decode cX7_shrink 9 = .ok (.if_icmp .ge 149, 3) := by decide +kernel
theorem dX7_shrink_12 : decode cX7_shrink 12 = .ok (.aload_n 2, 1) := by decide +kernel
theorem dX7_shrink_13 : decode cX7_shrink 13 = .ok (.iload 4, 2) := by decide +kernel
theorem dX7_shrink_15 : decode cX7_shrink 15 = .ok (.invokevirtual 231, 3) := by decide +kernel
theorem dX7_shrink_18 : decode cX7_shrink 18 = .ok (.invokestatic 112, 3) := by decide +kernel
theorem dX7_shrink_21 : decode cX7_shrink 21 = .ok (.istore 5, 2) := by decide +kernel
theorem dX7_shrink_23 : decode cX7_shrink 23 = .ok (.iload 4, 2) := by decide +kernel
theorem dX7_shrink_25 : decode cX7_shrink 25 = .ok (.iconst 1, 1) := by decide +kernel
theorem dX7_shrink_26 : decode cX7_shrink 26 = .ok (.iadd, 1) := by decide +kernel
theorem dX7_shrink_27 : decode cX7_shrink 27 = .ok (.istore 6, 2) := by decide +kernel
theorem dX7_shrink_29 : decode cX7_shrink 29 = .ok (.iconst 0, 1) := by decide +kernel
theorem dX7_shrink_30 : decode cX7_shrink 30 = .ok (.istore 7, 2) := by decide +kernel
theorem dX7_shrink_32 : decode cX7_shrink 32 = .ok (.iload 7, 2) := by decide +kernel
theorem dX7_shrink_34 : decode cX7_shrink 34 = .ok (.iload 5, 2) := by decide +kernel
theorem dX7_shrink_36 : decode cX7_shrink 36 = .ok (.if_icmp .gt 116, 3) := by decide +kernel
theorem dX7_shrink_39 : decode cX7_shrink 39 = .ok (.iload 7, 2) := by decide +kernel
theorem dX7_shrink_41 : decode cX7_shrink 41 = .ok (.iload 5, 2) := by decide +kernel
theorem dX7_shrink_43 : decode cX7_shrink 43 = .ok (.if_icmp .ne 7, 3) := by decide +kernel
theorem dX7_shrink_46 : decode cX7_shrink 46 = .ok (.iconst 1, 1) := by decide +kernel
theorem dX7_shrink_47 : decode cX7_shrink 47 = .ok (.goto 4, 3) := by decide +kernel
theorem dX7_shrink_50 : decode cX7_shrink 50 = .ok (.iconst 0, 1) := by decide +kernel
theorem dX7_shrink_51 : decode cX7_shrink 51 = .ok (.istore 8, 2) := by decide +kernel
theorem dX7_shrink_53 : decode cX7_shrink 53 = .ok (.iload 8, 2) := by decide +kernel
theorem dX7_shrink_55 : decode cX7_shrink 55 = .ok (.ifCond .eq 16, 3) := by decide +kernel
theorem dX7_shrink_58 : decode cX7_shrink 58 = .ok (.aload_n 2, 1) := by decide +kernel
theorem dX7_shrink_59 : decode cX7_shrink 59 = .ok (.iload 4, 2) := by decide +kernel
theorem dX7_shrink_61 : decode cX7_shrink 61 = .ok (.iconst 0, 1) := by decide +kernel
theorem dX7_shrink_62 : decode cX7_shrink 62 = .ok (.invokevirtual 250, 3) := by decide +kernel
theorem dX7_shrink_65 : decode cX7_shrink 65 = .ok (.ifCond .eq 6, 3) := by decide +kernel
theorem dX7_shrink_68 : decode cX7_shrink 68 = .ok (.goto 78, 3) := by decide +kernel
theorem dX7_shrink_71 : decode cX7_shrink 71 = .ok (.aload_n 0, 1) := by decide +kernel
theorem dX7_shrink_72 : decode cX7_shrink 72 = .ok (.getfield 57, 3) := by decide +kernel
theorem dX7_shrink_75 : decode cX7_shrink 75 = .ok (.aload_n 2, 1) := by decide +kernel
theorem dX7_shrink_76 : decode cX7_shrink 76 = .ok (.iload 4, 2) := by decide +kernel
theorem dX7_shrink_78 : decode cX7_shrink 78 = .ok (.iload 8, 2) := by decide +kernel
theorem dX7_shrink_80 : decode cX7_shrink 80 = .ok (.ifCond .eq 10, 3) := by decide +kernel
theorem dX7_shrink_83 : decode cX7_shrink 83 = .ok (.aload_n 0, 1) := by decide +kernel
theorem dX7_shrink_84 : decode cX7_shrink 84 = .ok (.getfield 60, 3) := by decide +kernel
theorem dX7_shrink_87 : decode cX7_shrink 87 = .ok (.goto 4, 3) := by decide +kernel
theorem dX7_shrink_90 : decode cX7_shrink 90 = .ok (.aload_n 2, 1) := by decide +kernel
theorem dX7_shrink_91 : decode cX7_shrink 91 = .ok (.iload 8, 2) := by decide +kernel
theorem dX7_shrink_93 : decode cX7_shrink 93 = .ok (.ifCond .eq 7, 3) := by decide +kernel
theorem dX7_shrink_96 : decode cX7_shrink 96 = .ok (.iconst 0, 1) := by decide +kernel
theorem dX7_shrink_97 : decode cX7_shrink 97 = .ok (.goto 5, 3) := by decide +kernel
theorem dX7_shrink_100 : decode cX7_shrink 100 = .ok (.iload 6, 2) := by decide +kernel
theorem dX7_shrink_102 : decode cX7_shrink 102 = .ok (.invokevirtual 156, 3) := by decide +kernel
theorem dX7_shrink_105 : decode cX7_shrink 105 = .ok (.aload_n 0, 1) := by decide +kernel
theorem dX7_shrink_106 : decode cX7_shrink 106 = .ok (.getfield 38, 3) := by decide +kernel
theorem dX7_shrink_109 : decode cX7_shrink 109 = .ok (.aload_n 1, 1) := by decide +kernel
theorem dX7_shrink_110 : decode cX7_shrink 110 = .ok (.aload_n 0, 1) := by decide +kernel
theorem dX7_shrink_111 : decode cX7_shrink 111 = .ok (.getfield 57, 3) := by decide +kernel
theorem dX7_shrink_114 : decode cX7_shrink 114 = .ok (.aload_n 1, 1) := by decide +kernel
theorem dX7_shrink_115 : decode cX7_shrink 115 = .ok (.getfield 164, 3) := by decide +kernel
theorem dX7_shrink_118 : decode cX7_shrink 118 = .ok (.invokevirtual 177, 3) := by decide +kernel
theorem dX7_shrink_121 : decode cX7_shrink 121 = .ok (.ifCond .le 17, 3) := by decide +kernel
theorem dX7_shrink_124 : decode cX7_shrink 124 = .ok (.aload_n 0, 1) := by decide +kernel
theorem dX7_shrink_125 : decode cX7_shrink 125 = .ok (.aload_n 0, 1) := by decide +kernel
theorem dX7_shrink_126 : decode cX7_shrink 126 = .ok (.getfield 57, 3) := by decide +kernel
theorem dX7_shrink_129 : decode cX7_shrink 129 = .ok (.iload_n 3, 1) := by decide +kernel
theorem dX7_shrink_130 : decode cX7_shrink 130 = .ok (.invokevirtual 237, 3) := by decide +kernel
theorem dX7_shrink_133 : decode cX7_shrink 133 = .ok (.ifCond .eq 5, 3) := by decide +kernel
theorem dX7_shrink_136 : decode cX7_shrink 136 = .ok (.iconst 1, 1) := by decide +kernel
theorem dX7_shrink_137 : decode cX7_shrink 137 = .ok (.ireturn, 1) := by decide +kernel
theorem dX7_shrink_138 : decode cX7_shrink 138 = .ok (.aload_n 2, 1) := by decide +kernel
theorem dX7_shrink_139 : decode cX7_shrink 139 = .ok (.iload 6, 2) := by decide +kernel
theorem dX7_shrink_141 : decode cX7_shrink 141 = .ok (.invokevirtual 253, 3) := by decide +kernel
theorem dX7_shrink_144 : decode cX7_shrink 144 = .ok (.istore 6, 2) := by decide +kernel
theorem dX7_shrink_146 : decode cX7_shrink 146 = .ok (.iinc 7 1, 3) := by decide +kernel
theorem dX7_shrink_149 : decode cX7_shrink 149 = .ok (.goto (-117), 3) := by decide +kernel
theorem dX7_shrink_152 : decode cX7_shrink 152 = .ok (.iinc 4 1, 3) := by decide +kernel
theorem dX7_shrink_155 : decode cX7_shrink 155 = .ok (.goto (-152), 3) := by decide +kernel
theorem dX7_shrink_158 : decode cX7_shrink 158 = .ok (.iconst 0, 1) := by decide +kernel
theorem dX7_shrink_159 : decode cX7_shrink 159 = .ok (.ireturn, 1) := by decide +kernel
theorem dX8_init_0 : decode cX8_init 0 = .ok (.aload_n 0, 1) := by decide +kernel
theorem dX8_init_1 : decode cX8_init 1 = .ok (.invokespecial 1, 3) := by decide +kernel
theorem dX8_init_4 : decode cX8_init 4 = .ok (.aload_n 0, 1) := by decide +kernel
theorem dX8_init_5 : decode cX8_init 5 = .ok (.sipush 9000, 3) := by decide +kernel
theorem dX8_init_8 : decode cX8_init 8 = .ok (.newarray .int, 2) := by decide +kernel
theorem dX8_init_10 : decode cX8_init 10 = .ok (.putfield 7, 3) := by decide +kernel
theorem dX8_init_13 : decode cX8_init 13 = .ok (.aload_n 0, 1) := by decide +kernel
theorem dX8_init_14 : decode cX8_init 14 = .ok (.sipush 9000, 3) := by decide +kernel
theorem dX8_init_17 : decode cX8_init 17 = .ok (.newarray .int, 2) := by decide +kernel
theorem dX8_init_19 : decode cX8_init 19 = .ok (.putfield 13, 3) := by decide +kernel
theorem dX8_init_22 : decode cX8_init 22 = .ok (.aload_n 0, 1) := by decide +kernel
theorem dX8_init_23 : decode cX8_init 23 = .ok (.sipush 9000, 3) := by decide +kernel
theorem dX8_init_26 : decode cX8_init 26 = .ok (.newarray .int, 2) := by decide +kernel
theorem dX8_init_28 : decode cX8_init 28 = .ok (.putfield 16, 3) := by decide +kernel
theorem dX8_init_31 : decode cX8_init 31 = .ok (.aload_n 0, 1) := by decide +kernel
theorem dX8_init_32 : decode cX8_init 32 = .ok (.sipush 9000, 3) := by decide +kernel
theorem dX8_init_35 : decode cX8_init 35 = .ok (.newarray .int, 2) := by decide +kernel
theorem dX8_init_37 : decode cX8_init 37 = .ok (.putfield 19, 3) := by decide +kernel
theorem dX8_init_40 : decode cX8_init 40 = .ok (.aload_n 0, 1) := by decide +kernel
theorem dX8_init_41 : decode cX8_init 41 = .ok (.sipush 9000, 3) := by decide +kernel
theorem dX8_init_44 : decode cX8_init 44 = .ok (.newarray .int, 2) := by decide +kernel
theorem dX8_init_46 : decode cX8_init 46 = .ok (.putfield 22, 3) := by decide +kernel
theorem dX8_init_49 : decode cX8_init 49 = .ok (.aload_n 0, 1) := by decide +kernel
theorem dX8_init_50 : decode cX8_init 50 = .ok (.sipush 9000, 3) := by decide +kernel
theorem dX8_init_53 : decode cX8_init 53 = .ok (.newarray .int, 2) := by decide +kernel
theorem dX8_init_55 : decode cX8_init 55 = .ok (.putfield 25, 3) := by decide +kernel
theorem dX8_init_58 : decode cX8_init 58 = .ok (.aload_n 0, 1) := by decide +kernel
theorem dX8_init_59 : decode cX8_init 59 = .ok (.bipush 20, 2) := by decide +kernel
theorem dX8_init_61 : decode cX8_init 61 = .ok (.newarray .int, 2) := by decide +kernel
theorem dX8_init_63 : decode cX8_init 63 = .ok (.putfield 28, 3) := by decide +kernel
theorem dX8_init_66 : decode cX8_init 66 = .ok (.aload_n 0, 1) := by decide +kernel
theorem dX8_init_67 : decode cX8_init 67 = .ok (.sipush 1200, 3) := by decide +kernel
theorem dX8_init_70 : decode cX8_init 70 = .ok (.newarray .int, 2) := by decide +kernel
theorem dX8_init_72 : decode cX8_init 72 = .ok (.putfield 31, 3) := by decide +kernel
theorem dX8_init_75 : decode cX8_init 75 = .ok (.aload_n 0, 1) := by decide +kernel
theorem dX8_init_76 : decode cX8_init 76 = .ok (.sipush 1200, 3) := by decide +kernel
theorem dX8_init_79 : decode cX8_init 79 = .ok (.newarray .int, 2) := by decide +kernel
theorem dX8_init_81 : decode cX8_init 81 = .ok (.putfield 34, 3) := by decide +kernel
theorem dX8_init_84 : decode cX8_init 84 = .ok (.aload_n 0, 1) := by decide +kernel
theorem dX8_init_85 : decode cX8_init 85 = .ok (.sipush 400, 3) := by decide +kernel
theorem dX8_init_88 : decode cX8_init 88 = .ok (.newarray .int, 2) := by decide +kernel
theorem dX8_init_90 : decode cX8_init 90 = .ok (.putfield 37, 3) := by decide +kernel
theorem dX8_init_93 : decode cX8_init 93 = .ok (.aload_n 0, 1) := by decide +kernel
theorem dX8_init_94 : decode cX8_init 94 = .ok (.sipush 400, 3) := by decide +kernel
theorem dX8_init_97 : decode cX8_init 97 = .ok (.newarray .int, 2) := by decide +kernel
theorem dX8_init_99 : decode cX8_init 99 = .ok (.putfield 40, 3) := by decide +kernel
theorem dX8_init_102 : decode cX8_init 102 = .ok (.aload_n 0, 1) := by decide +kernel
theorem dX8_init_103 : decode cX8_init 103 = .ok (.bipush 16, 2) := by decide +kernel
theorem dX8_init_105 : decode cX8_init 105 = .ok (.newarray .long, 2) := by decide +kernel
theorem dX8_init_107 : decode cX8_init 107 = .ok (.putfield 43, 3) := by decide +kernel
theorem dX8_init_110 : decode cX8_init 110 = .ok (.aload_n 0, 1) := by decide +kernel
theorem dX8_init_111 : decode cX8_init 111 = .ok (.bipush 61, 2) := by decide +kernel
theorem dX8_init_113 : decode cX8_init 113 = .ok (.newarray .int, 2) := by decide +kernel
theorem dX8_init_115 : decode cX8_init 115 = .ok (.putfield 47, 3) := by decide +kernel
theorem dX8_init_118 : decode cX8_init 118 = .ok (.aload_n 0, 1) := by decide +kernel
theorem dX8_init_119 : decode cX8_init 119 = .ok (.bipush 60, 2) := by decide +kernel
theorem dX8_init_121 : decode cX8_init 121 = .ok (.newarray .int, 2) := by decide +kernel
theorem dX8_init_123 : decode cX8_init 123 = .ok (.putfield 50, 3) := by decide +kernel
theorem dX8_init_126 : decode cX8_init 126 = .ok (.aload_n 0, 1) := by decide +kernel
theorem dX8_init_127 : decode cX8_init 127 = .ok (.bipush 60, 2) := by decide +kernel
theorem dX8_init_129 : decode cX8_init 129 = .ok (.newarray .int, 2) := by decide +kernel
theorem dX8_init_131 : decode cX8_init 131 = .ok (.putfield 53, 3) := by decide +kernel
theorem dX8_init_134 : decode cX8_init 134 = .ok (.aload_n 0, 1) := by decide +kernel
theorem dX8_init_135 : decode cX8_init 135 = .ok (.bipush 60, 2) := by decide +kernel
theorem dX8_init_137 : decode cX8_init 137 = .ok (.newarray .int, 2) := by decide +kernel
theorem dX8_init_139 : decode cX8_init 139 = .ok (.putfield 56, 3) := by decide +kernel
theorem dX8_init_142 : decode cX8_init 142 = .ok (.aload_n 0, 1) := by decide +kernel
theorem dX8_init_143 : decode cX8_init 143 = .ok (.bipush 60, 2) := by decide +kernel
theorem dX8_init_145 : decode cX8_init 145 = .ok (.newarray .int, 2) := by decide +kernel
theorem dX8_init_147 : decode cX8_init 147 = .ok (.putfield 59, 3) := by decide +kernel
theorem dX8_init_150 : decode cX8_init 150 = .ok (.aload_n 0, 1) := by decide +kernel
theorem dX8_init_151 : decode cX8_init 151 = .ok (.bipush 8, 2) := by decide +kernel
theorem dX8_init_153 : decode cX8_init 153 = .ok (.newarray .int, 2) := by decide +kernel
theorem dX8_init_155 : decode cX8_init 155 = .ok (.putfield 62, 3) := by decide +kernel
theorem dX8_init_158 : decode cX8_init 158 = .ok (.aload_n 0, 1) := by decide +kernel
theorem dX8_init_159 : decode cX8_init 159 = .ok (.bipush 80, 2) := by decide +kernel
theorem dX8_init_161 : decode cX8_init 161 = .ok (.newarray .int, 2) := by decide +kernel
theorem dX8_init_163 : decode cX8_init 163 = .ok (.putfield 65, 3) := by decide +kernel
theorem dX8_init_166 : decode cX8_init 166 = .ok (.aload_n 0, 1) := by decide +kernel
theorem dX8_init_167 : decode cX8_init 167 = .ok (.bipush 80, 2) := by decide +kernel
theorem dX8_init_169 : decode cX8_init 169 = .ok (.newarray .int, 2) := by decide +kernel
theorem dX8_init_171 : decode cX8_init 171 = .ok (.putfield 68, 3) := by decide +kernel
theorem dX8_init_174 : decode cX8_init 174 = .ok (.aload_n 0, 1) := by decide +kernel
theorem dX8_init_175 : decode cX8_init 175 = .ok (.sipush 400, 3) := by decide +kernel
theorem dX8_init_178 : decode cX8_init 178 = .ok (.newarray .int, 2) := by decide +kernel
theorem dX8_init_180 : decode cX8_init 180 = .ok (.putfield 71, 3) := by decide +kernel
theorem dX8_init_183 : decode cX8_init 183 = .ok (.aload_n 0, 1) := by decide +kernel
theorem dX8_init_184 : decode cX8_init 184 = .ok (.sipush 400, 3) := by decide +kernel
theorem dX8_init_187 : decode cX8_init 187 = .ok (.newarray .int, 2) := by decide +kernel
theorem dX8_init_189 : decode cX8_init 189 = .ok (.putfield 74, 3) := by decide +kernel
theorem dX8_init_192 : decode cX8_init 192 = .ok (.aload_n 0, 1) := by decide +kernel
theorem dX8_init_193 : decode cX8_init 193 = .ok (.sipush 400, 3) := by decide +kernel
theorem dX8_init_196 : decode cX8_init 196 = .ok (.newarray .int, 2) := by decide +kernel
theorem dX8_init_198 : decode cX8_init 198 = .ok (.putfield 77, 3) := by decide +kernel
theorem dX8_init_201 : decode cX8_init 201 = .ok (.aload_n 0, 1) := by decide +kernel
theorem dX8_init_202 : decode cX8_init 202 = .ok (.iconst (-1), 1) := by decide +kernel
theorem dX8_init_203 : decode cX8_init 203 = .ok (.putfield 80, 3) := by decide +kernel
theorem dX8_init_206 : decode cX8_init 206 = .ok (.aload_n 0, 1) := by decide +kernel
theorem dX8_init_207 : decode cX8_init 207 = .ok (.bipush 60, 2) := by decide +kernel
theorem dX8_init_209 : decode cX8_init 209 = .ok (.newarray .int, 2) := by decide +kernel
theorem dX8_init_211 : decode cX8_init 211 = .ok (.putfield 84, 3) := by decide +kernel
theorem dX8_init_214 : decode cX8_init 214 = .ok (.aload_n 0, 1) := by decide +kernel
theorem dX8_init_215 : decode cX8_init 215 = .ok (.bipush 60, 2) := by decide +kernel
theorem dX8_init_217 : decode cX8_init 217 = .ok (.newarray .int, 2) := by decide +kernel
theorem dX8_init_219 : decode cX8_init 219 = .ok (.putfield 87, 3) := by decide +kernel
theorem dX8_init_222 : decode cX8_init 222 = .ok (.return_, 1) := by decide +kernel
theorem dX8_in_0 : decode cX8_in 0 = .ok (.lload_n 0, 1) := by decide +kernel
theorem dX8_in_1 : decode cX8_in 1 = .ok (.lload_n 2, 1) := by decide +kernel
theorem dX8_in_2 : decode cX8_in 2 = .ok (.lcmp, 1) := by decide +kernel
theorem dX8_in_3 : decode cX8_in 3 = .ok (.ifCond .lt 14, 3) := by decide +kernel
theorem dX8_in_6 : decode cX8_in 6 = .ok (.lload_n 0, 1) := by decide +kernel
theorem dX8_in_7 : decode cX8_in 7 = .ok (.lload 4, 2) := by decide +kernel
theorem dX8_in_9 : decode cX8_in 9 = .ok (.lcmp, 1) := by decide +kernel
theorem dX8_in_10 : decode cX8_in 10 = .ok (.ifCond .gt 7, 3) := by decide +kernel
theorem dX8_in_13 : decode cX8_in 13 = .ok (.iconst 1, 1) := by decide +kernel
theorem dX8_in_14 : decode cX8_in 14 = .ok (.goto 4, 3) := by decide +kernel
theorem dX8_in_17 : decode cX8_in 17 = .ok (.iconst 0, 1) := by decide +kernel
theorem dX8_in_18 : decode cX8_in 18 = .ok (.ireturn, 1) := by decide +kernel
theorem dX8_parts_0 : decode cX8_parts 0 = .ok (.iload_n 0, 1) := by decide +kernel
theorem dX8_parts_1 : decode cX8_parts 1 = .ok (.iconst 3, 1) := by decide +kernel
theorem dX8_parts_2 : decode cX8_parts 2 = .ok (.if_icmp .ge 7, 3) := by decide +kernel
theorem dX8_parts_5 : decode cX8_parts 5 = .ok (.iconst 0, 1) := by decide +kernel
theorem dX8_parts_6 : decode cX8_parts 6 = .ok (.goto 23, 3) := by decide +kernel
theorem dX8_parts_9 : decode cX8_parts 9 = .ok (.iload_n 0, 1) := by decide +kernel
theorem dX8_parts_10 : decode cX8_parts 10 = .ok (.iconst 3, 1) := by decide +kernel
theorem dX8_parts_11 : decode cX8_parts 11 = .ok (.if_icmp .ne 7, 3) := by decide +kernel
theorem dX8_parts_14 : decode cX8_parts 14 = .ok (.iconst 1, 1) := by decide +kernel
theorem dX8_parts_15 : decode cX8_parts 15 = .ok (.goto 14, 3) := by decide +kernel
theorem dX8_parts_18 : decode cX8_parts 18 = .ok (.iload_n 0, 1) := by decide +kernel
theorem dX8_parts_19 : decode cX8_parts 19 = .ok (.bipush 8, 2) := by decide +kernel
theorem dX8_parts_21 : decode cX8_parts 21 = .ok (.if_icmp .ne 7, 3) := by decide +kernel
theorem dX8_parts_24 : decode cX8_parts 24 = .ok (.iconst 3, 1) := by decide +kernel
theorem dX8_parts_25 : decode cX8_parts 25 = .ok (.goto 4, 3) := by decide +kernel
theorem dX8_parts_28 : decode cX8_parts 28 = .ok (.iconst 2, 1) := by decide +kernel
theorem dX8_parts_29 : decode cX8_parts 29 = .ok (.ireturn, 1) := by decide +kernel
theorem dX8_make_0 : decode cX8_make 0 = .ok (.aload_n 0, 1) := by decide +kernel
theorem dX8_make_1 : decode cX8_make 1 = .ok (.getfield 7, 3) := by decide +kernel
theorem dX8_make_4 : decode cX8_make 4 = .ok (.aload_n 0, 1) := by decide +kernel
theorem dX8_make_5 : decode cX8_make 5 = .ok (.getfield 93, 3) := by decide +kernel
theorem dX8_make_8 : decode cX8_make 8 = .ok (.iload_n 1, 1) := by decide +kernel
theorem dX8_make_9 : decode cX8_make 9 = .ok (.iastore, 1) := by decide +kernel
theorem dX8_make_10 : decode cX8_make 10 = .ok (.aload_n 0, 1) := by decide +kernel
theorem dX8_make_11 : decode cX8_make 11 = .ok (.getfield 13, 3) := by decide +kernel
theorem dX8_make_14 : decode cX8_make 14 = .ok (.aload_n 0, 1) := by decide +kernel
theorem dX8_make_15 : decode cX8_make 15 = .ok (.getfield 93, 3) := by decide +kernel
theorem dX8_make_18 : decode cX8_make 18 = .ok (.iload_n 2, 1) := by decide +kernel
theorem dX8_make_19 : decode cX8_make 19 = .ok (.iastore, 1) := by decide +kernel
theorem dX8_make_20 : decode cX8_make 20 = .ok (.aload_n 0, 1) := by decide +kernel
theorem dX8_make_21 : decode cX8_make 21 = .ok (.getfield 16, 3) := by decide +kernel
theorem dX8_make_24 : decode cX8_make 24 = .ok (.aload_n 0, 1) := by decide +kernel
theorem dX8_make_25 : decode cX8_make 25 = .ok (.getfield 93, 3) := by decide +kernel
theorem dX8_make_28 : decode cX8_make 28 = .ok (.iload_n 3, 1) := by decide +kernel
theorem dX8_make_29 : decode cX8_make 29 = .ok (.iastore, 1) := by decide +kernel
theorem dX8_make_30 : decode cX8_make 30 = .ok (.aload_n 0, 1) := by decide +kernel
theorem dX8_make_31 : decode cX8_make 31 = .ok (.getfield 19, 3) := by decide +kernel
theorem dX8_make_34 : decode cX8_make 34 = .ok (.aload_n 0, 1) := by decide +kernel
theorem dX8_make_35 : decode cX8_make 35 = .ok (.getfield 93, 3) := by decide +kernel
theorem dX8_make_38 : decode cX8_make 38 = .ok (.iload 4, 2) := by decide +kernel
theorem dX8_make_40 : decode cX8_make 40 = .ok (.iastore, 1) := by decide +kernel
theorem dX8_make_41 : decode cX8_make 41 = .ok (.aload_n 0, 1) := by decide +kernel
theorem dX8_make_42 : decode cX8_make 42 = .ok (.getfield 22, 3) := by decide +kernel
theorem dX8_make_45 : decode cX8_make 45 = .ok (.aload_n 0, 1) := by decide +kernel
theorem dX8_make_46 : decode cX8_make 46 = .ok (.getfield 93, 3) := by decide +kernel
theorem dX8_make_49 : decode cX8_make 49 = .ok (.iload 5, 2) := by decide +kernel
theorem dX8_make_51 : decode cX8_make 51 = .ok (.iastore, 1) := by decide +kernel
theorem dX8_make_52 : decode cX8_make 52 = .ok (.aload_n 0, 1) := by decide +kernel
theorem dX8_make_53 : decode cX8_make 53 = .ok (.getfield 25, 3) := by decide +kernel
theorem dX8_make_56 : decode cX8_make 56 = .ok (.aload_n 0, 1) := by decide +kernel
theorem dX8_make_57 : decode cX8_make 57 = .ok (.getfield 93, 3) := by decide +kernel
theorem dX8_make_60 : decode cX8_make 60 = .ok (.iconst 1, 1) := by decide +kernel
theorem dX8_make_61 : decode cX8_make 61 = .ok (.iload_n 3, 1) := by decide +kernel
theorem dX8_make_62 : decode cX8_make 62 = .ok (.ifCond .ge 7, 3) := by decide +kernel
theorem dX8_make_65 : decode cX8_make 65 = .ok (.iconst 0, 1) := by decide +kernel
theorem dX8_make_66 : decode cX8_make 66 = .ok (.goto 9, 3) := by decide +kernel
theorem dX8_make_69 : decode cX8_make 69 = .ok (.aload_n 0, 1) := by decide +kernel
theorem dX8_make_70 : decode cX8_make 70 = .ok (.getfield 25, 3) := by decide +kernel
theorem dX8_make_73 : decode cX8_make 73 = .ok (.iload_n 3, 1) := by decide +kernel
theorem dX8_make_74 : decode cX8_make 74 = .ok (.iaload, 1) := by decide +kernel
theorem dX8_make_75 : decode cX8_make 75 = .ok (.iadd, 1) := by decide +kernel
theorem dX8_make_76 : decode cX8_make 76 = .ok (.iload 4, 2) := by decide +kernel
theorem dX8_make_78 : decode cX8_make 78 = .ok (.ifCond .ge 7, 3) := by decide +kernel
theorem dX8_make_81 : decode cX8_make 81 = .ok (.iconst 0, 1) := by decide +kernel
theorem dX8_make_82 : decode cX8_make 82 = .ok (.goto 10, 3) := by decide +kernel
theorem dX8_make_85 : decode cX8_make 85 = .ok (.aload_n 0, 1) := by decide +kernel
theorem dX8_make_86 : decode cX8_make 86 = .ok (.getfield 25, 3) := by decide +kernel
theorem dX8_make_89 : decode cX8_make 89 = .ok (.iload 4, 2) := by decide +kernel
theorem dX8_make_91 : decode cX8_make 91 = .ok (.iaload, 1) := by decide +kernel
theorem dX8_make_92 : decode cX8_make 92 = .ok (.iadd, 1) := by decide +kernel
theorem dX8_make_93 : decode cX8_make 93 = .ok (.iload 5, 2) := by decide +kernel
theorem dX8_make_95 : decode cX8_make 95 = .ok (.ifCond .ge 7, 3) := by decide +kernel
theorem dX8_make_98 : decode cX8_make 98 = .ok (.iconst 0, 1) := by decide +kernel
theorem dX8_make_99 : decode cX8_make 99 = .ok (.goto 10, 3) := by decide +kernel
theorem dX8_make_102 : decode cX8_make 102 = .ok (.aload_n 0, 1) := by decide +kernel
theorem dX8_make_103 : decode cX8_make 103 = .ok (.getfield 25, 3) := by decide +kernel
theorem dX8_make_106 : decode cX8_make 106 = .ok (.iload 5, 2) := by decide +kernel
theorem dX8_make_108 : decode cX8_make 108 = .ok (.iaload, 1) := by decide +kernel
theorem dX8_make_109 : decode cX8_make 109 = .ok (.iadd, 1) := by decide +kernel
theorem dX8_make_110 : decode cX8_make 110 = .ok (.iastore, 1) := by decide +kernel
theorem dX8_make_111 : decode cX8_make 111 = .ok (.aload_n 0, 1) := by decide +kernel
theorem dX8_make_112 : decode cX8_make 112 = .ok (.dup, 1) := by decide +kernel
theorem dX8_make_113 : decode cX8_make 113 = .ok (.getfield 93, 3) := by decide +kernel
theorem dX8_make_116 : decode cX8_make 116 = .ok (.iconst 1, 1) := by decide +kernel
theorem dX8_make_117 : decode cX8_make 117 = .ok (.iadd, 1) := by decide +kernel
theorem dX8_make_118 : decode cX8_make 118 = .ok (.putfield 93, 3) := by decide +kernel
theorem dX8_make_121 : decode cX8_make 121 = .ok (.aload_n 0, 1) := by decide +kernel
theorem dX8_make_122 : decode cX8_make 122 = .ok (.getfield 93, 3) := by decide +kernel
theorem dX8_make_125 : decode cX8_make 125 = .ok (.iconst 1, 1) := by decide +kernel
theorem dX8_make_126 : decode cX8_make 126 = .ok (.isub, 1) := by decide +kernel
theorem dX8_make_127 : decode cX8_make 127 = .ok (.ireturn, 1) := by decide +kernel
theorem dX8_numeral_0 : decode cX8_numeral 0 = .ok (.aload_n 0, 1) := by decide +kernel
theorem dX8_numeral_1 : decode cX8_numeral 1 = .ok (.iconst 0, 1) := by decide +kernel
theorem dX8_numeral_2 : decode cX8_numeral 2 = .ok (.iload_n 1, 1) := by decide +kernel
theorem dX8_numeral_3 : decode cX8_numeral 3 = .ok (.iconst (-1), 1) := by decide +kernel
theorem dX8_numeral_4 : decode cX8_numeral 4 = .ok (.iconst (-1), 1) := by decide +kernel
theorem dX8_numeral_5 : decode cX8_numeral 5 = .ok (.iconst (-1), 1) := by decide +kernel
theorem dX8_numeral_6 : decode cX8_numeral 6 = .ok (.invokevirtual 96, 3) := by decide +kernel
theorem dX8_numeral_9 : decode cX8_numeral 9 = .ok (.ireturn, 1) := by decide +kernel
theorem dX8_pair_0 : decode cX8_pair 0 = .ok (.aload_n 0, 1) := by decide +kernel
theorem dX8_pair_1 : decode cX8_pair 1 = .ok (.iload_n 1, 1) := by decide +kernel
theorem dX8_pair_2 : decode cX8_pair 2 = .ok (.iconst 0, 1) := by decide +kernel
theorem dX8_pair_3 : decode cX8_pair 3 = .ok (.iload_n 2, 1) := by decide +kernel
theorem dX8_pair_4 : decode cX8_pair 4 = .ok (.iload_n 3, 1) := by decide +kernel
theorem dX8_pair_5 : decode cX8_pair 5 = .ok (.iconst (-1), 1) := by decide +kernel
theorem dX8_pair_6 : decode cX8_pair 6 = .ok (.invokevirtual 96, 3) := by decide +kernel
theorem dX8_pair_9 : decode cX8_pair 9 = .ok (.ireturn, 1) := by decide +kernel
theorem dX8_isNumber_0 : decode cX8_isNumber 0 = .ok (.aload_n 0, 1) := by decide +kernel
theorem dX8_isNumber_1 : decode cX8_isNumber 1 = .ok (.getfield 7, 3) := by decide +kernel
theorem dX8_isNumber_4 : decode cX8_isNumber 4 = .ok (.iload_n 1, 1) := by decide +kernel
theorem dX8_isNumber_5 : decode cX8_isNumber 5 = .ok (.iaload, 1) := by decide +kernel
theorem dX8_isNumber_6 : decode cX8_isNumber 6 = .ok (.ifCond .ne 17, 3) := by decide +kernel
theorem dX8_isNumber_9 : decode cX8_isNumber 9 = .ok (.aload_n 0, 1) := by decide +kernel
theorem dX8_isNumber_10 : decode cX8_isNumber 10 = .ok (.getfield 13, 3) := by decide +kernel
theorem dX8_isNumber_13 : decode cX8_isNumber 13 = .ok (.iload_n 1, 1) := by decide +kernel
theorem dX8_isNumber_14 : decode cX8_isNumber 14 = .ok (.iaload, 1) := by decide +kernel
theorem dX8_isNumber_15 : decode cX8_isNumber 15 = .ok (.iload_n 2, 1) := by decide +kernel
theorem dX8_isNumber_16 : decode cX8_isNumber 16 = .ok (.if_icmp .ne 7, 3) := by decide +kernel
theorem dX8_isNumber_19 : decode cX8_isNumber 19 = .ok (.iconst 1, 1) := by decide +kernel
theorem dX8_isNumber_20 : decode cX8_isNumber 20 = .ok (.goto 4, 3) := by decide +kernel
theorem dX8_isNumber_23 : decode cX8_isNumber 23 = .ok (.iconst 0, 1) := by decide +kernel
theorem dX8_isNumber_24 : decode cX8_isNumber 24 = .ok (.ireturn, 1) := by decide +kernel
theorem dX8_areSame_0 : decode cX8_areSame 0 = .ok (.iload_n 1, 1) := by decide +kernel
theorem dX8_areSame_1 : decode cX8_areSame 1 = .ok (.iload_n 2, 1) := by decide +kernel
theorem dX8_areSame_2 : decode cX8_areSame 2 = .ok (.if_icmp .ne 5, 3) := by decide +kernel
theorem dX8_areSame_5 : decode cX8_areSame 5 = .ok (.iconst 1, 1) := by decide +kernel
theorem dX8_areSame_6 : decode cX8_areSame 6 = .ok (.ireturn, 1) := by decide +kernel
theorem dX8_areSame_7 : decode cX8_areSame 7 = .ok (.iload_n 1, 1) := by decide +kernel
theorem dX8_areSame_8 : decode cX8_areSame 8 = .ok (.ifCond .lt 52, 3) := by decide +kernel
theorem dX8_areSame_11 : decode cX8_areSame 11 = .ok (.iload_n 2, 1) := by decide +kernel
theorem dX8_areSame_12 : decode cX8_areSame 12 = .ok (.ifCond .lt 48, 3) := by decide +kernel
theorem dX8_areSame_15 : decode cX8_areSame 15 = .ok (.aload_n 0, 1) := by decide +kernel
theorem dX8_areSame_16 : decode cX8_areSame 16 = .ok (.getfield 7, 3) := by decide +kernel
theorem dX8_areSame_19 : decode cX8_areSame 19 = .ok (.iload_n 1, 1) := by decide +kernel
theorem dX8_areSame_20 : decode cX8_areSame 20 = .ok (.iaload, 1) := by decide +kernel
theorem dX8_areSame_21 : decode cX8_areSame 21 = .ok (.aload_n 0, 1) := by decide +kernel
theorem dX8_areSame_22 : decode cX8_areSame 22 = .ok (.getfield 7, 3) := by decide +kernel
theorem dX8_areSame_25 : decode cX8_areSame 25 = .ok (.iload_n 2, 1) := by decide +kernel
theorem dX8_areSame_26 : decode cX8_areSame 26 = .ok (.iaload, 1) := by decide +kernel
theorem dX8_areSame_27 : decode cX8_areSame 27 = .ok (.if_icmp .ne 33, 3) := by decide +kernel
theorem dX8_areSame_30 : decode cX8_areSame 30 = .ok (.aload_n 0, 1) := by decide +kernel
theorem dX8_areSame_31 : decode cX8_areSame 31 = .ok (.getfield 13, 3) := by decide +kernel
theorem dX8_areSame_34 : decode cX8_areSame 34 = .ok (.iload_n 1, 1) := by decide +kernel
theorem dX8_areSame_35 : decode cX8_areSame 35 = .ok (.iaload, 1) := by decide +kernel
theorem dX8_areSame_36 : decode cX8_areSame 36 = .ok (.aload_n 0, 1) := by decide +kernel
theorem dX8_areSame_37 : decode cX8_areSame 37 = .ok (.getfield 13, 3) := by decide +kernel
theorem dX8_areSame_40 : decode cX8_areSame 40 = .ok (.iload_n 2, 1) := by decide +kernel
theorem dX8_areSame_41 : decode cX8_areSame 41 = .ok (.iaload, 1) := by decide +kernel
theorem dX8_areSame_42 : decode cX8_areSame 42 = .ok (.if_icmp .ne 18, 3) := by decide +kernel
theorem dX8_areSame_45 : decode cX8_areSame 45 = .ok (.aload_n 0, 1) := by decide +kernel
theorem dX8_areSame_46 : decode cX8_areSame 46 = .ok (.getfield 25, 3) := by decide +kernel
theorem dX8_areSame_49 : decode cX8_areSame 49 = .ok (.iload_n 1, 1) := by decide +kernel
theorem dX8_areSame_50 : decode cX8_areSame 50 = .ok (.iaload, 1) := by decide +kernel
theorem dX8_areSame_51 : decode cX8_areSame 51 = .ok (.aload_n 0, 1) := by decide +kernel
theorem dX8_areSame_52 : decode cX8_areSame 52 = .ok (.getfield 25, 3) := by decide +kernel
theorem dX8_areSame_55 : decode cX8_areSame 55 = .ok (.iload_n 2, 1) := by decide +kernel
theorem dX8_areSame_56 : decode cX8_areSame 56 = .ok (.iaload, 1) := by decide +kernel
theorem dX8_areSame_57 : decode cX8_areSame 57 = .ok (.if_icmp .eq 5, 3) := by decide +kernel
theorem dX8_areSame_60 : decode cX8_areSame 60 = .ok (.iconst 0, 1) := by decide +kernel
theorem dX8_areSame_61 : decode cX8_areSame 61 = .ok (.ireturn, 1) := by decide +kernel
theorem dX8_areSame_62 : decode cX8_areSame 62 = .ok (.aload_n 0, 1) := by decide +kernel
theorem dX8_areSame_63 : decode cX8_areSame 63 = .ok (.aload_n 0, 1) := by decide +kernel
theorem dX8_areSame_64 : decode cX8_areSame 64 = .ok (.getfield 16, 3) := by decide +kernel
theorem dX8_areSame_67 : decode cX8_areSame 67 = .ok (.iload_n 1, 1) := by decide +kernel
theorem dX8_areSame_68 : decode cX8_areSame 68 = .ok (.iaload, 1) := by decide +kernel
theorem dX8_areSame_69 : decode cX8_areSame 69 = .ok (.aload_n 0, 1) := by decide +kernel
theorem dX8_areSame_70 : decode cX8_areSame 70 = .ok (.getfield 16, 3) := by decide +kernel
theorem dX8_areSame_73 : decode cX8_areSame 73 = .ok (.iload_n 2, 1) := by decide +kernel
theorem dX8_areSame_74 : decode cX8_areSame 74 = .ok (.iaload, 1) := by decide +kernel
theorem dX8_areSame_75 : decode cX8_areSame 75 = .ok (.invokevirtual 100, 3) := by decide +kernel
theorem dX8_areSame_78 : decode cX8_areSame 78 = .ok (.ifCond .eq 45, 3) := by decide +kernel
theorem dX8_areSame_81 : decode cX8_areSame 81 = .ok (.aload_n 0, 1) := by decide +kernel
theorem dX8_areSame_82 : decode cX8_areSame 82 = .ok (.aload_n 0, 1) := by decide +kernel
theorem dX8_areSame_83 : decode cX8_areSame 83 = .ok (.getfield 19, 3) := by decide +kernel
theorem dX8_areSame_86 : decode cX8_areSame 86 = .ok (.iload_n 1, 1) := by decide +kernel
theorem dX8_areSame_87 : decode cX8_areSame 87 = .ok (.iaload, 1) := by decide +kernel
theorem dX8_areSame_88 : decode cX8_areSame 88 = .ok (.aload_n 0, 1) := by decide +kernel
theorem dX8_areSame_89 : decode cX8_areSame 89 = .ok (.getfield 19, 3) := by decide +kernel
theorem dX8_areSame_92 : decode cX8_areSame 92 = .ok (.iload_n 2, 1) := by decide +kernel
theorem dX8_areSame_93 : decode cX8_areSame 93 = .ok (.iaload, 1) := by decide +kernel
theorem dX8_areSame_94 : decode cX8_areSame 94 = .ok (.invokevirtual 100, 3) := by decide +kernel
theorem dX8_areSame_97 : decode cX8_areSame 97 = .ok (.ifCond .eq 26, 3) := by decide +kernel
theorem dX8_areSame_100 : decode cX8_areSame 100 = .ok (.aload_n 0, 1) := by decide +kernel
theorem dX8_areSame_101 : decode cX8_areSame 101 = .ok (.aload_n 0, 1) := by decide +kernel
theorem dX8_areSame_102 : decode cX8_areSame 102 = .ok (.getfield 22, 3) := by decide +kernel
theorem dX8_areSame_105 : decode cX8_areSame 105 = .ok (.iload_n 1, 1) := by decide +kernel
theorem dX8_areSame_106 : decode cX8_areSame 106 = .ok (.iaload, 1) := by decide +kernel
theorem dX8_areSame_107 : decode cX8_areSame 107 = .ok (.aload_n 0, 1) := by decide +kernel
theorem dX8_areSame_108 : decode cX8_areSame 108 = .ok (.getfield 22, 3) := by decide +kernel
theorem dX8_areSame_111 : decode cX8_areSame 111 = .ok (.iload_n 2, 1) := by decide +kernel
theorem dX8_areSame_112 : decode cX8_areSame 112 = .ok (.iaload, 1) := by decide +kernel
theorem dX8_areSame_113 : decode cX8_areSame 113 = .ok (.invokevirtual 100, 3) := by decide +kernel
theorem dX8_areSame_116 : decode cX8_areSame 116 = .ok (.ifCond .eq 7, 3) := by decide +kernel
theorem dX8_areSame_119 : decode cX8_areSame 119 = .ok (.iconst 1, 1) := by decide +kernel
theorem dX8_areSame_120 : decode cX8_areSame 120 = .ok (.goto 4, 3) := by decide +kernel
theorem dX8_areSame_123 : decode cX8_areSame 123 = .ok (.iconst 0, 1) := by decide +kernel
theorem dX8_areSame_124 : decode cX8_areSame 124 = .ok (.ireturn, 1) := by decide +kernel
theorem dX8_both_0 : decode cX8_both 0 = .ok (.iload_n 0, 1) := by decide +kernel
theorem dX8_both_1 : decode cX8_both 1 = .ok (.iconst 4, 1) := by decide +kernel
theorem dX8_both_2 : decode cX8_both 2 = .ok (.if_icmp .ne 9, 3) := by decide +kernel
theorem dX8_both_5 : decode cX8_both 5 = .ok (.iload_n 1, 1) := by decide +kernel
theorem dX8_both_6 : decode cX8_both 6 = .ok (.iload_n 2, 1) := by decide +kernel
theorem dX8_both_7 : decode cX8_both 7 = .ok (.iadd, 1) := by decide +kernel
theorem dX8_both_8 : decode cX8_both 8 = .ok (.goto 39, 3) := by decide +kernel
theorem dX8_both_11 : decode cX8_both 11 = .ok (.iload_n 0, 1) := by decide +kernel
theorem dX8_both_12 : decode cX8_both 12 = .ok (.iconst 5, 1) := by decide +kernel
theorem dX8_both_13 : decode cX8_both 13 = .ok (.if_icmp .ne 9, 3) := by decide +kernel
theorem dX8_both_16 : decode cX8_both 16 = .ok (.iload_n 1, 1) := by decide +kernel
theorem dX8_both_17 : decode cX8_both 17 = .ok (.iload_n 2, 1) := by decide +kernel
theorem dX8_both_18 : decode cX8_both 18 = .ok (.isub, 1) := by decide +kernel
theorem dX8_both_19 : decode cX8_both 19 = .ok (.goto 28, 3) := by decide +kernel
theorem dX8_both_22 : decode cX8_both 22 = .ok (.iload_n 0, 1) := by decide +kernel
theorem dX8_both_23 : decode cX8_both 23 = .ok (.bipush 6, 2) := by decide +kernel
theorem dX8_both_25 : decode cX8_both 25 = .ok (.if_icmp .ne 9, 3) := by decide +kernel
theorem dX8_both_28 : decode cX8_both 28 = .ok (.iload_n 1, 1) := by decide +kernel
theorem dX8_both_29 : decode cX8_both 29 = .ok (.iload_n 2, 1) := by decide +kernel
theorem dX8_both_30 : decode cX8_both 30 = .ok (.imul, 1) := by decide +kernel
theorem dX8_both_31 : decode cX8_both 31 = .ok (.goto 16, 3) := by decide +kernel
theorem dX8_both_34 : decode cX8_both 34 = .ok (.iload_n 2, 1) := by decide +kernel
theorem dX8_both_35 : decode cX8_both 35 = .ok (.iconst (-1), 1) := by decide +kernel
theorem dX8_both_36 : decode cX8_both 36 = .ok (.if_icmp .ne 8, 3) := by decide +kernel
theorem dX8_both_39 : decode cX8_both 39 = .ok (.iload_n 1, 1) := by decide +kernel
theorem dX8_both_40 : decode cX8_both 40 = .ok (.ineg, 1) := by decide +kernel
theorem dX8_both_41 : decode cX8_both 41 = .ok (.goto 6, 3) := by decide +kernel
theorem dX8_both_44 : decode cX8_both 44 = .ok (.iload_n 1, 1) := by decide +kernel
theorem dX8_both_45 : decode cX8_both 45 = .ok (.iload_n 2, 1) := by decide +kernel
theorem dX8_both_46 : decode cX8_both 46 = .ok (.idiv, 1) := by decide +kernel
theorem dX8_both_47 : decode cX8_both 47 = .ok (.ireturn, 1) := by decide +kernel
theorem dX8_works_0 : decode cX8_works 0 = .ok (.aload_n 0, 1) := by decide +kernel
theorem dX8_works_1 : decode cX8_works 1 = .ok (.getfield 104, 3) := by decide +kernel
theorem dX8_works_4 : decode cX8_works 4 = .ok (.ifCond .eq 5, 3) := by decide +kernel
theorem dX8_works_7 : decode cX8_works 7 = .ok (.iconst 0, 1) := by decide +kernel
theorem dX8_works_8 : decode cX8_works 8 = .ok (.ireturn, 1) := by decide +kernel
theorem dX8_works_9 : decode cX8_works 9 = .ok (.aload_n 0, 1) := by decide +kernel
theorem dX8_works_10 : decode cX8_works 10 = .ok (.getfield 7, 3) := by decide +kernel
theorem dX8_works_13 : decode cX8_works 13 = .ok (.iload_n 1, 1) := by decide +kernel
theorem dX8_works_14 : decode cX8_works 14 = .ok (.iaload, 1) := by decide +kernel
theorem dX8_works_15 : decode cX8_works 15 = .ok (.iconst 3, 1) := by decide +kernel
theorem dX8_works_16 : decode cX8_works 16 = .ok (.if_icmp .ge 47, 3) := by decide +kernel
theorem dX8_works_19 : decode cX8_works 19 = .ok (.aload_n 0, 1) := by decide +kernel
theorem dX8_works_20 : decode cX8_works 20 = .ok (.dup, 1) := by decide +kernel
theorem dX8_works_21 : decode cX8_works 21 = .ok (.getfield 108, 3) := by decide +kernel
theorem dX8_works_24 : decode cX8_works 24 = .ok (.iconst 1, 1) := by decide +kernel
theorem dX8_works_25 : decode cX8_works 25 = .ok (.iadd, 1) := by decide +kernel
theorem dX8_works_26 : decode cX8_works 26 = .ok (.putfield 108, 3) := by decide +kernel
theorem dX8_works_29 : decode cX8_works 29 = .ok (.aload_n 0, 1) := by decide +kernel
theorem dX8_works_30 : decode cX8_works 30 = .ok (.getfield 7, 3) := by decide +kernel
theorem dX8_works_33 : decode cX8_works 33 = .ok (.iload_n 1, 1) := by decide +kernel
theorem dX8_works_34 : decode cX8_works 34 = .ok (.iaload, 1) := by decide +kernel
theorem dX8_works_35 : decode cX8_works 35 = .ok (.ifCond .ne 12, 3) := by decide +kernel
theorem dX8_works_38 : decode cX8_works 38 = .ok (.aload_n 0, 1) := by decide +kernel
theorem dX8_works_39 : decode cX8_works 39 = .ok (.getfield 13, 3) := by decide +kernel
theorem dX8_works_42 : decode cX8_works 42 = .ok (.iload_n 1, 1) := by decide +kernel
theorem dX8_works_43 : decode cX8_works 43 = .ok (.iaload, 1) := by decide +kernel
theorem dX8_works_44 : decode cX8_works 44 = .ok (.goto 18, 3) := by decide +kernel
theorem dX8_works_47 : decode cX8_works 47 = .ok (.aload_n 0, 1) := by decide +kernel
theorem dX8_works_48 : decode cX8_works 48 = .ok (.getfield 7, 3) := by decide +kernel
theorem dX8_works_51 : decode cX8_works 51 = .ok (.iload_n 1, 1) := by decide +kernel
theorem dX8_works_52 : decode cX8_works 52 = .ok (.iaload, 1) := by decide +kernel
theorem dX8_works_53 : decode cX8_works 53 = .ok (.iconst 1, 1) := by decide +kernel
theorem dX8_works_54 : decode cX8_works 54 = .ok (.if_icmp .ne 7, 3) := by decide +kernel
theorem dX8_works_57 : decode cX8_works 57 = .ok (.iload_n 2, 1) := by decide +kernel
theorem dX8_works_58 : decode cX8_works 58 = .ok (.goto 4, 3) := by decide +kernel
theorem dX8_works_61 : decode cX8_works 61 = .ok (.iload_n 3, 1) := by decide +kernel
theorem dX8_works_62 : decode cX8_works 62 = .ok (.ireturn, 1) := by decide +kernel
theorem dX8_works_63 : decode cX8_works 63 = .ok (.aload_n 0, 1) := by decide +kernel
theorem dX8_works_64 : decode cX8_works 64 = .ok (.aload_n 0, 1) := by decide +kernel
theorem dX8_works_65 : decode cX8_works 65 = .ok (.getfield 16, 3) := by decide +kernel
theorem dX8_works_68 : decode cX8_works 68 = .ok (.iload_n 1, 1) := by decide +kernel
theorem dX8_works_69 : decode cX8_works 69 = .ok (.iaload, 1) := by decide +kernel
theorem dX8_works_70 : decode cX8_works 70 = .ok (.iload_n 2, 1) := by decide +kernel
theorem dX8_works_71 : decode cX8_works 71 = .ok (.iload_n 3, 1) := by decide +kernel
theorem dX8_works_72 : decode cX8_works 72 = .ok (.invokevirtual 111, 3) := by decide +kernel
theorem dX8_works_75 : decode cX8_works 75 = .ok (.istore 4, 2) := by decide +kernel
theorem dX8_works_77 : decode cX8_works 77 = .ok (.aload_n 0, 1) := by decide +kernel
theorem dX8_works_78 : decode cX8_works 78 = .ok (.getfield 104, 3) := by decide +kernel
theorem dX8_works_81 : decode cX8_works 81 = .ok (.ifCond .eq 5, 3) := by decide +kernel
theorem dX8_works_84 : decode cX8_works 84 = .ok (.iconst 0, 1) := by decide +kernel
theorem dX8_works_85 : decode cX8_works 85 = .ok (.ireturn, 1) := by decide +kernel
theorem dX8_works_86 : decode cX8_works 86 = .ok (.aload_n 0, 1) := by decide +kernel
theorem dX8_works_87 : decode cX8_works 87 = .ok (.getfield 7, 3) := by decide +kernel
theorem dX8_works_90 : decode cX8_works 90 = .ok (.iload_n 1, 1) := by decide +kernel
theorem dX8_works_91 : decode cX8_works 91 = .ok (.iaload, 1) := by decide +kernel
theorem dX8_works_92 : decode cX8_works 92 = .ok (.iconst 3, 1) := by decide +kernel
theorem dX8_works_93 : decode cX8_works 93 = .ok (.if_icmp .ne 17, 3) := by decide +kernel
theorem dX8_works_96 : decode cX8_works 96 = .ok (.aload_n 0, 1) := by decide +kernel
theorem dX8_works_97 : decode cX8_works 97 = .ok (.dup, 1) := by decide +kernel
theorem dX8_works_98 : decode cX8_works 98 = .ok (.getfield 108, 3) := by decide +kernel
theorem dX8_works_101 : decode cX8_works 101 = .ok (.iconst 1, 1) := by decide +kernel
theorem dX8_works_102 : decode cX8_works 102 = .ok (.iadd, 1) := by decide +kernel
theorem dX8_works_103 : decode cX8_works 103 = .ok (.putfield 108, 3) := by decide +kernel
theorem dX8_works_106 : decode cX8_works 106 = .ok (.iload 4, 2) := by decide +kernel
theorem dX8_works_108 : decode cX8_works 108 = .ok (.ineg, 1) := by decide +kernel
end
section
theorem dX8_works_109 : decode cX8_works 109 = .ok (.ireturn, 1) := by decide +kernel
theorem dX8_works_110 : decode cX8_works 110 = .ok (.aload_n 0, 1) := by decide +kernel
theorem dX8_works_111 : decode cX8_works 111 = .ok (.getfield 7, 3) := by decide +kernel
theorem dX8_works_114 : decode cX8_works 114 = .ok (.iload_n 1, 1) := by decide +kernel
theorem dX8_works_115 : decode cX8_works 115 = .ok (.iaload, 1) := by decide +kernel
theorem dX8_works_116 : decode cX8_works 116 = .ok (.bipush 8, 2) := by decide +kernel
theorem dX8_works_118 : decode cX8_works 118 = .ok (.if_icmp .ne 69, 3) := by decide +kernel
theorem dX8_works_121 : decode cX8_works 121 = .ok (.aload_n 0, 1) := by decide +kernel
theorem dX8_works_122 : decode cX8_works 122 = .ok (.dup, 1) := by decide +kernel
theorem dX8_works_123 : decode cX8_works 123 = .ok (.getfield 108, 3) := by decide +kernel
theorem dX8_works_126 : decode cX8_works 126 = .ok (.iconst 1, 1) := by decide +kernel
theorem dX8_works_127 : decode cX8_works 127 = .ok (.iadd, 1) := by decide +kernel
theorem dX8_works_128 : decode cX8_works 128 = .ok (.putfield 108, 3) := by decide +kernel
theorem dX8_works_131 : decode cX8_works 131 = .ok (.iload 4, 2) := by decide +kernel
theorem dX8_works_133 : decode cX8_works 133 = .ok (.ifCond .ne 16, 3) := by decide +kernel
theorem dX8_works_136 : decode cX8_works 136 = .ok (.aload_n 0, 1) := by decide +kernel
theorem dX8_works_137 : decode cX8_works 137 = .ok (.aload_n 0, 1) := by decide +kernel
theorem dX8_works_138 : decode cX8_works 138 = .ok (.getfield 22, 3) := by decide +kernel
theorem dX8_works_141 : decode cX8_works 141 = .ok (.iload_n 1, 1) := by decide +kernel
theorem dX8_works_142 : decode cX8_works 142 = .ok (.iaload, 1) := by decide +kernel
theorem dX8_works_143 : decode cX8_works 143 = .ok (.iload_n 2, 1) := by decide +kernel
theorem dX8_works_144 : decode cX8_works 144 = .ok (.iload_n 3, 1) := by decide +kernel
theorem dX8_works_145 : decode cX8_works 145 = .ok (.invokevirtual 111, 3) := by decide +kernel
theorem dX8_works_148 : decode cX8_works 148 = .ok (.ireturn, 1) := by decide +kernel
theorem dX8_works_149 : decode cX8_works 149 = .ok (.aload_n 0, 1) := by decide +kernel
theorem dX8_works_150 : decode cX8_works 150 = .ok (.aload_n 0, 1) := by decide +kernel
theorem dX8_works_151 : decode cX8_works 151 = .ok (.getfield 19, 3) := by decide +kernel
theorem dX8_works_154 : decode cX8_works 154 = .ok (.iload_n 1, 1) := by decide +kernel
theorem dX8_works_155 : decode cX8_works 155 = .ok (.iaload, 1) := by decide +kernel
theorem dX8_works_156 : decode cX8_works 156 = .ok (.iload_n 2, 1) := by decide +kernel
theorem dX8_works_157 : decode cX8_works 157 = .ok (.iload_n 3, 1) := by decide +kernel
theorem dX8_works_158 : decode cX8_works 158 = .ok (.invokevirtual 111, 3) := by decide +kernel
theorem dX8_works_161 : decode cX8_works 161 = .ok (.istore 5, 2) := by decide +kernel
theorem dX8_works_163 : decode cX8_works 163 = .ok (.aload_n 0, 1) := by decide +kernel
theorem dX8_works_164 : decode cX8_works 164 = .ok (.dup, 1) := by decide +kernel
theorem dX8_works_165 : decode cX8_works 165 = .ok (.getfield 108, 3) := by decide +kernel
theorem dX8_works_168 : decode cX8_works 168 = .ok (.aload_n 0, 1) := by decide +kernel
theorem dX8_works_169 : decode cX8_works 169 = .ok (.getfield 104, 3) := by decide +kernel
theorem dX8_works_172 : decode cX8_works 172 = .ok (.ifCond .eq 7, 3) := by decide +kernel
theorem dX8_works_175 : decode cX8_works 175 = .ok (.iconst 0, 1) := by decide +kernel
theorem dX8_works_176 : decode cX8_works 176 = .ok (.goto 4, 3) := by decide +kernel
theorem dX8_works_179 : decode cX8_works 179 = .ok (.iconst 1, 1) := by decide +kernel
theorem dX8_works_180 : decode cX8_works 180 = .ok (.iadd, 1) := by decide +kernel
theorem dX8_works_181 : decode cX8_works 181 = .ok (.putfield 108, 3) := by decide +kernel
theorem dX8_works_184 : decode cX8_works 184 = .ok (.iload 5, 2) := by decide +kernel
theorem dX8_works_186 : decode cX8_works 186 = .ok (.ireturn, 1) := by decide +kernel
theorem dX8_works_187 : decode cX8_works 187 = .ok (.aload_n 0, 1) := by decide +kernel
theorem dX8_works_188 : decode cX8_works 188 = .ok (.aload_n 0, 1) := by decide +kernel
theorem dX8_works_189 : decode cX8_works 189 = .ok (.getfield 19, 3) := by decide +kernel
theorem dX8_works_192 : decode cX8_works 192 = .ok (.iload_n 1, 1) := by decide +kernel
theorem dX8_works_193 : decode cX8_works 193 = .ok (.iaload, 1) := by decide +kernel
theorem dX8_works_194 : decode cX8_works 194 = .ok (.iload_n 2, 1) := by decide +kernel
theorem dX8_works_195 : decode cX8_works 195 = .ok (.iload_n 3, 1) := by decide +kernel
theorem dX8_works_196 : decode cX8_works 196 = .ok (.invokevirtual 111, 3) := by decide +kernel
theorem dX8_works_199 : decode cX8_works 199 = .ok (.istore 5, 2) := by decide +kernel
theorem dX8_works_201 : decode cX8_works 201 = .ok (.aload_n 0, 1) := by decide +kernel
theorem dX8_works_202 : decode cX8_works 202 = .ok (.getfield 104, 3) := by decide +kernel
theorem dX8_works_205 : decode cX8_works 205 = .ok (.ifCond .eq 5, 3) := by decide +kernel
theorem dX8_works_208 : decode cX8_works 208 = .ok (.iconst 0, 1) := by decide +kernel
theorem dX8_works_209 : decode cX8_works 209 = .ok (.ireturn, 1) := by decide +kernel
theorem dX8_works_210 : decode cX8_works 210 = .ok (.aload_n 0, 1) := by decide +kernel
theorem dX8_works_211 : decode cX8_works 211 = .ok (.dup, 1) := by decide +kernel
theorem dX8_works_212 : decode cX8_works 212 = .ok (.getfield 108, 3) := by decide +kernel
theorem dX8_works_215 : decode cX8_works 215 = .ok (.iconst 1, 1) := by decide +kernel
theorem dX8_works_216 : decode cX8_works 216 = .ok (.iadd, 1) := by decide +kernel
theorem dX8_works_217 : decode cX8_works 217 = .ok (.putfield 108, 3) := by decide +kernel
theorem dX8_works_220 : decode cX8_works 220 = .ok (.aload_n 0, 1) := by decide +kernel
theorem dX8_works_221 : decode cX8_works 221 = .ok (.aload_n 0, 1) := by decide +kernel
theorem dX8_works_222 : decode cX8_works 222 = .ok (.getfield 7, 3) := by decide +kernel
theorem dX8_works_225 : decode cX8_works 225 = .ok (.iload_n 1, 1) := by decide +kernel
theorem dX8_works_226 : decode cX8_works 226 = .ok (.iaload, 1) := by decide +kernel
theorem dX8_works_227 : decode cX8_works 227 = .ok (.bipush 7, 2) := by decide +kernel
theorem dX8_works_229 : decode cX8_works 229 = .ok (.if_icmp .ne 12, 3) := by decide +kernel
theorem dX8_works_232 : decode cX8_works 232 = .ok (.iload 5, 2) := by decide +kernel
theorem dX8_works_234 : decode cX8_works 234 = .ok (.ifCond .ne 7, 3) := by decide +kernel
theorem dX8_works_237 : decode cX8_works 237 = .ok (.iconst 1, 1) := by decide +kernel
theorem dX8_works_238 : decode cX8_works 238 = .ok (.goto 4, 3) := by decide +kernel
theorem dX8_works_241 : decode cX8_works 241 = .ok (.iconst 0, 1) := by decide +kernel
theorem dX8_works_242 : decode cX8_works 242 = .ok (.putfield 104, 3) := by decide +kernel
theorem dX8_works_245 : decode cX8_works 245 = .ok (.aload_n 0, 1) := by decide +kernel
theorem dX8_works_246 : decode cX8_works 246 = .ok (.getfield 104, 3) := by decide +kernel
theorem dX8_works_249 : decode cX8_works 249 = .ok (.ifCond .eq 7, 3) := by decide +kernel
theorem dX8_works_252 : decode cX8_works 252 = .ok (.iconst 0, 1) := by decide +kernel
theorem dX8_works_253 : decode cX8_works 253 = .ok (.goto 16, 3) := by decide +kernel
theorem dX8_works_256 : decode cX8_works 256 = .ok (.aload_n 0, 1) := by decide +kernel
theorem dX8_works_257 : decode cX8_works 257 = .ok (.getfield 7, 3) := by decide +kernel
theorem dX8_works_260 : decode cX8_works 260 = .ok (.iload_n 1, 1) := by decide +kernel
theorem dX8_works_261 : decode cX8_works 261 = .ok (.iaload, 1) := by decide +kernel
theorem dX8_works_262 : decode cX8_works 262 = .ok (.iload 4, 2) := by decide +kernel
theorem dX8_works_264 : decode cX8_works 264 = .ok (.iload 5, 2) := by decide +kernel
theorem dX8_works_266 : decode cX8_works 266 = .ok (.invokestatic 115, 3) := by decide +kernel
theorem dX8_works_269 : decode cX8_works 269 = .ok (.ireturn, 1) := by decide +kernel
theorem dX8_valueOf_0 : decode cX8_valueOf 0 = .ok (.aload_n 0, 1) := by decide +kernel
theorem dX8_valueOf_1 : decode cX8_valueOf 1 = .ok (.iconst 0, 1) := by decide +kernel
theorem dX8_valueOf_2 : decode cX8_valueOf 2 = .ok (.putfield 104, 3) := by decide +kernel
theorem dX8_valueOf_5 : decode cX8_valueOf 5 = .ok (.aload_n 0, 1) := by decide +kernel
theorem dX8_valueOf_6 : decode cX8_valueOf 6 = .ok (.iconst 0, 1) := by decide +kernel
theorem dX8_valueOf_7 : decode cX8_valueOf 7 = .ok (.putfield 108, 3) := by decide +kernel
theorem dX8_valueOf_10 : decode cX8_valueOf 10 = .ok (.aload_n 0, 1) := by decide +kernel
theorem dX8_valueOf_11 : decode cX8_valueOf 11 = .ok (.iload_n 1, 1) := by decide +kernel
theorem dX8_valueOf_12 : decode cX8_valueOf 12 = .ok (.iload_n 2, 1) := by decide +kernel
theorem dX8_valueOf_13 : decode cX8_valueOf 13 = .ok (.iload_n 3, 1) := by decide +kernel
theorem dX8_valueOf_14 : decode cX8_valueOf 14 = .ok (.invokevirtual 111, 3) := by decide +kernel
theorem dX8_valueOf_17 : decode cX8_valueOf 17 = .ok (.ireturn, 1) := by decide +kernel
theorem dX8_isSafe_0 : decode cX8_isSafe 0 = .ok (.iload_n 2, 1) := by decide +kernel
theorem dX8_isSafe_1 : decode cX8_isSafe 1 = .ok (.ineg, 1) := by decide +kernel
theorem dX8_isSafe_2 : decode cX8_isSafe 2 = .ok (.istore_n 3, 1) := by decide +kernel
theorem dX8_isSafe_3 : decode cX8_isSafe 3 = .ok (.iload_n 3, 1) := by decide +kernel
theorem dX8_isSafe_4 : decode cX8_isSafe 4 = .ok (.iload_n 2, 1) := by decide +kernel
theorem dX8_isSafe_5 : decode cX8_isSafe 5 = .ok (.if_icmp .gt 44, 3) := by decide +kernel
theorem dX8_isSafe_8 : decode cX8_isSafe 8 = .ok (.iload_n 2, 1) := by decide +kernel
theorem dX8_isSafe_9 : decode cX8_isSafe 9 = .ok (.ineg, 1) := by decide +kernel
theorem dX8_isSafe_10 : decode cX8_isSafe 10 = .ok (.istore 4, 2) := by decide +kernel
theorem dX8_isSafe_12 : decode cX8_isSafe 12 = .ok (.iload 4, 2) := by decide +kernel
theorem dX8_isSafe_14 : decode cX8_isSafe 14 = .ok (.iload_n 2, 1) := by decide +kernel
theorem dX8_isSafe_15 : decode cX8_isSafe 15 = .ok (.if_icmp .gt 28, 3) := by decide +kernel
theorem dX8_isSafe_18 : decode cX8_isSafe 18 = .ok (.aload_n 0, 1) := by decide +kernel
theorem dX8_isSafe_19 : decode cX8_isSafe 19 = .ok (.iload_n 1, 1) := by decide +kernel
theorem dX8_isSafe_20 : decode cX8_isSafe 20 = .ok (.iload_n 3, 1) := by decide +kernel
theorem dX8_isSafe_21 : decode cX8_isSafe 21 = .ok (.iload 4, 2) := by decide +kernel
theorem dX8_isSafe_23 : decode cX8_isSafe 23 = .ok (.invokevirtual 118, 3) := by decide +kernel
theorem dX8_isSafe_26 : decode cX8_isSafe 26 = .ok (.istore 5, 2) := by decide +kernel
theorem dX8_isSafe_28 : decode cX8_isSafe 28 = .ok (.aload_n 0, 1) := by decide +kernel
theorem dX8_isSafe_29 : decode cX8_isSafe 29 = .ok (.getfield 104, 3) := by decide +kernel
theorem dX8_isSafe_32 : decode cX8_isSafe 32 = .ok (.ifCond .eq 5, 3) := by decide +kernel
theorem dX8_isSafe_35 : decode cX8_isSafe 35 = .ok (.iconst 0, 1) := by decide +kernel
theorem dX8_isSafe_36 : decode cX8_isSafe 36 = .ok (.ireturn, 1) := by decide +kernel
theorem dX8_isSafe_37 : decode cX8_isSafe 37 = .ok (.iinc 4 1, 3) := by decide +kernel
theorem dX8_isSafe_40 : decode cX8_isSafe 40 = .ok (.goto (-28), 3) := by decide +kernel
theorem dX8_isSafe_43 : decode cX8_isSafe 43 = .ok (.iinc 3 1, 3) := by decide +kernel
theorem dX8_isSafe_46 : decode cX8_isSafe 46 = .ok (.goto (-43), 3) := by decide +kernel
theorem dX8_isSafe_49 : decode cX8_isSafe 49 = .ok (.iconst 1, 1) := by decide +kernel
theorem dX8_isSafe_50 : decode cX8_isSafe 50 = .ok (.ireturn, 1) := by decide +kernel
theorem dX8_becomes_0 : decode cX8_becomes 0 = .ok (.iload_n 2, 1) := by decide +kernel
theorem dX8_becomes_1 : decode cX8_becomes 1 = .ok (.tableswitch 81 0 5 #[39, 46, 53, 60, 67, 74], 39) := by decide +kernel
theorem dX8_becomes_40 : decode cX8_becomes 40 = .ok (.aload_n 0, 1) := by decide +kernel
theorem dX8_becomes_41 : decode cX8_becomes 41 = .ok (.iload_n 1, 1) := by decide +kernel
theorem dX8_becomes_42 : decode cX8_becomes 42 = .ok (.iload_n 3, 1) := by decide +kernel
theorem dX8_becomes_43 : decode cX8_becomes 43 = .ok (.invokevirtual 121, 3) := by decide +kernel
theorem dX8_becomes_46 : decode cX8_becomes 46 = .ok (.ireturn, 1) := by decide +kernel
theorem dX8_becomes_47 : decode cX8_becomes 47 = .ok (.aload_n 0, 1) := by decide +kernel
theorem dX8_becomes_48 : decode cX8_becomes 48 = .ok (.iload_n 1, 1) := by decide +kernel
theorem dX8_becomes_49 : decode cX8_becomes 49 = .ok (.iload_n 3, 1) := by decide +kernel
theorem dX8_becomes_50 : decode cX8_becomes 50 = .ok (.invokevirtual 125, 3) := by decide +kernel
theorem dX8_becomes_53 : decode cX8_becomes 53 = .ok (.ireturn, 1) := by decide +kernel
theorem dX8_becomes_54 : decode cX8_becomes 54 = .ok (.aload_n 0, 1) := by decide +kernel
theorem dX8_becomes_55 : decode cX8_becomes 55 = .ok (.iload_n 1, 1) := by decide +kernel
theorem dX8_becomes_56 : decode cX8_becomes 56 = .ok (.iload_n 3, 1) := by decide +kernel
theorem dX8_becomes_57 : decode cX8_becomes 57 = .ok (.invokevirtual 128, 3) := by decide +kernel
theorem dX8_becomes_60 : decode cX8_becomes 60 = .ok (.ireturn, 1) := by decide +kernel
theorem dX8_becomes_61 : decode cX8_becomes 61 = .ok (.aload_n 0, 1) := by decide +kernel
theorem dX8_becomes_62 : decode cX8_becomes 62 = .ok (.iload_n 1, 1) := by decide +kernel
theorem dX8_becomes_63 : decode cX8_becomes 63 = .ok (.iload_n 3, 1) := by decide +kernel
theorem dX8_becomes_64 : decode cX8_becomes 64 = .ok (.invokevirtual 131, 3) := by decide +kernel
theorem dX8_becomes_67 : decode cX8_becomes 67 = .ok (.ireturn, 1) := by decide +kernel
theorem dX8_becomes_68 : decode cX8_becomes 68 = .ok (.aload_n 0, 1) := by decide +kernel
theorem dX8_becomes_69 : decode cX8_becomes 69 = .ok (.iload_n 1, 1) := by decide +kernel
theorem dX8_becomes_70 : decode cX8_becomes 70 = .ok (.iload_n 3, 1) := by decide +kernel
theorem dX8_becomes_71 : decode cX8_becomes 71 = .ok (.invokevirtual 134, 3) := by decide +kernel
theorem dX8_becomes_74 : decode cX8_becomes 74 = .ok (.ireturn, 1) := by decide +kernel
theorem dX8_becomes_75 : decode cX8_becomes 75 = .ok (.aload_n 0, 1) := by decide +kernel
theorem dX8_becomes_76 : decode cX8_becomes 76 = .ok (.iload_n 1, 1) := by decide +kernel
theorem dX8_becomes_77 : decode cX8_becomes 77 = .ok (.iload_n 3, 1) := by decide +kernel
theorem dX8_becomes_78 : decode cX8_becomes 78 = .ok (.invokevirtual 137, 3) := by decide +kernel
theorem dX8_becomes_81 : decode cX8_becomes 81 = .ok (.ireturn, 1) := by decide +kernel
theorem dX8_becomes_82 : decode cX8_becomes 82 = .ok (.aload_n 0, 1) := by decide +kernel
theorem dX8_becomes_83 : decode cX8_becomes 83 = .ok (.iload_n 1, 1) := by decide +kernel
theorem dX8_becomes_84 : decode cX8_becomes 84 = .ok (.iload_n 3, 1) := by decide +kernel
theorem dX8_becomes_85 : decode cX8_becomes 85 = .ok (.invokevirtual 140, 3) := by decide +kernel
theorem dX8_becomes_88 : decode cX8_becomes 88 = .ok (.ireturn, 1) := by decide +kernel
theorem dX8_folded_0 : decode cX8_folded 0 = .ok (.aload_n 0, 1) := by decide +kernel
theorem dX8_folded_1 : decode cX8_folded 1 = .ok (.getfield 7, 3) := by decide +kernel
theorem dX8_folded_4 : decode cX8_folded 4 = .ok (.iload_n 1, 1) := by decide +kernel
theorem dX8_folded_5 : decode cX8_folded 5 = .ok (.iaload, 1) := by decide +kernel
theorem dX8_folded_6 : decode cX8_folded 6 = .ok (.istore_n 3, 1) := by decide +kernel
theorem dX8_folded_7 : decode cX8_folded 7 = .ok (.iload_n 3, 1) := by decide +kernel
theorem dX8_folded_8 : decode cX8_folded 8 = .ok (.iconst 3, 1) := by decide +kernel
theorem dX8_folded_9 : decode cX8_folded 9 = .ok (.if_icmp .lt 23, 3) := by decide +kernel
theorem dX8_folded_12 : decode cX8_folded 12 = .ok (.iload_n 3, 1) := by decide +kernel
theorem dX8_folded_13 : decode cX8_folded 13 = .ok (.bipush 8, 2) := by decide +kernel
theorem dX8_folded_15 : decode cX8_folded 15 = .ok (.if_icmp .eq 17, 3) := by decide +kernel
theorem dX8_folded_18 : decode cX8_folded 18 = .ok (.aload_n 0, 1) := by decide +kernel
theorem dX8_folded_19 : decode cX8_folded 19 = .ok (.getfield 7, 3) := by decide +kernel
theorem dX8_folded_22 : decode cX8_folded 22 = .ok (.aload_n 0, 1) := by decide +kernel
theorem dX8_folded_23 : decode cX8_folded 23 = .ok (.getfield 16, 3) := by decide +kernel
theorem dX8_folded_26 : decode cX8_folded 26 = .ok (.iload_n 1, 1) := by decide +kernel
theorem dX8_folded_27 : decode cX8_folded 27 = .ok (.iaload, 1) := by decide +kernel
theorem dX8_folded_28 : decode cX8_folded 28 = .ok (.iaload, 1) := by decide +kernel
theorem dX8_folded_29 : decode cX8_folded 29 = .ok (.ifCond .eq 5, 3) := by decide +kernel
theorem dX8_folded_32 : decode cX8_folded 32 = .ok (.iload_n 1, 1) := by decide +kernel
theorem dX8_folded_33 : decode cX8_folded 33 = .ok (.ireturn, 1) := by decide +kernel
theorem dX8_folded_34 : decode cX8_folded 34 = .ok (.aload_n 0, 1) := by decide +kernel
theorem dX8_folded_35 : decode cX8_folded 35 = .ok (.getfield 13, 3) := by decide +kernel
theorem dX8_folded_38 : decode cX8_folded 38 = .ok (.aload_n 0, 1) := by decide +kernel
theorem dX8_folded_39 : decode cX8_folded 39 = .ok (.getfield 16, 3) := by decide +kernel
theorem dX8_folded_42 : decode cX8_folded 42 = .ok (.iload_n 1, 1) := by decide +kernel
theorem dX8_folded_43 : decode cX8_folded 43 = .ok (.iaload, 1) := by decide +kernel
theorem dX8_folded_44 : decode cX8_folded 44 = .ok (.iaload, 1) := by decide +kernel
theorem dX8_folded_45 : decode cX8_folded 45 = .ok (.istore 4, 2) := by decide +kernel
theorem dX8_folded_47 : decode cX8_folded 47 = .ok (.iload_n 3, 1) := by decide +kernel
theorem dX8_folded_48 : decode cX8_folded 48 = .ok (.iconst 3, 1) := by decide +kernel
theorem dX8_folded_49 : decode cX8_folded 49 = .ok (.if_icmp .ne 11, 3) := by decide +kernel
theorem dX8_folded_52 : decode cX8_folded 52 = .ok (.aload_n 0, 1) := by decide +kernel
theorem dX8_folded_53 : decode cX8_folded 53 = .ok (.iload 4, 2) := by decide +kernel
theorem dX8_folded_55 : decode cX8_folded 55 = .ok (.ineg, 1) := by decide +kernel
theorem dX8_folded_56 : decode cX8_folded 56 = .ok (.invokevirtual 143, 3) := by decide +kernel
theorem dX8_folded_59 : decode cX8_folded 59 = .ok (.ireturn, 1) := by decide +kernel
theorem dX8_folded_60 : decode cX8_folded 60 = .ok (.aload_n 0, 1) := by decide +kernel
theorem dX8_folded_61 : decode cX8_folded 61 = .ok (.getfield 7, 3) := by decide +kernel
theorem dX8_folded_64 : decode cX8_folded 64 = .ok (.aload_n 0, 1) := by decide +kernel
theorem dX8_folded_65 : decode cX8_folded 65 = .ok (.getfield 19, 3) := by decide +kernel
theorem dX8_folded_68 : decode cX8_folded 68 = .ok (.iload_n 1, 1) := by decide +kernel
theorem dX8_folded_69 : decode cX8_folded 69 = .ok (.iaload, 1) := by decide +kernel
theorem dX8_folded_70 : decode cX8_folded 70 = .ok (.iaload, 1) := by decide +kernel
theorem dX8_folded_71 : decode cX8_folded 71 = .ok (.ifCond .eq 5, 3) := by decide +kernel
theorem dX8_folded_74 : decode cX8_folded 74 = .ok (.iload_n 1, 1) := by decide +kernel
theorem dX8_folded_75 : decode cX8_folded 75 = .ok (.ireturn, 1) := by decide +kernel
theorem dX8_folded_76 : decode cX8_folded 76 = .ok (.aload_n 0, 1) := by decide +kernel
theorem dX8_folded_77 : decode cX8_folded 77 = .ok (.getfield 13, 3) := by decide +kernel
theorem dX8_folded_80 : decode cX8_folded 80 = .ok (.aload_n 0, 1) := by decide +kernel
theorem dX8_folded_81 : decode cX8_folded 81 = .ok (.getfield 19, 3) := by decide +kernel
theorem dX8_folded_84 : decode cX8_folded 84 = .ok (.iload_n 1, 1) := by decide +kernel
theorem dX8_folded_85 : decode cX8_folded 85 = .ok (.iaload, 1) := by decide +kernel
theorem dX8_folded_86 : decode cX8_folded 86 = .ok (.iaload, 1) := by decide +kernel
theorem dX8_folded_87 : decode cX8_folded 87 = .ok (.istore 5, 2) := by decide +kernel
theorem dX8_folded_89 : decode cX8_folded 89 = .ok (.iload_n 3, 1) := by decide +kernel
theorem dX8_folded_90 : decode cX8_folded 90 = .ok (.bipush 7, 2) := by decide +kernel
theorem dX8_folded_92 : decode cX8_folded 92 = .ok (.if_icmp .ne 10, 3) := by decide +kernel
theorem dX8_folded_95 : decode cX8_folded 95 = .ok (.iload 5, 2) := by decide +kernel
theorem dX8_folded_97 : decode cX8_folded 97 = .ok (.ifCond .ne 5, 3) := by decide +kernel
theorem dX8_folded_100 : decode cX8_folded 100 = .ok (.iload_n 1, 1) := by decide +kernel
theorem dX8_folded_101 : decode cX8_folded 101 = .ok (.ireturn, 1) := by decide +kernel
theorem dX8_folded_102 : decode cX8_folded 102 = .ok (.iload_n 3, 1) := by decide +kernel
theorem dX8_folded_103 : decode cX8_folded 103 = .ok (.iconst 5, 1) := by decide +kernel
theorem dX8_folded_104 : decode cX8_folded 104 = .ok (.if_icmp .ne 18, 3) := by decide +kernel
theorem dX8_folded_107 : decode cX8_folded 107 = .ok (.iload_n 2, 1) := by decide +kernel
theorem dX8_folded_108 : decode cX8_folded 108 = .ok (.iconst 1, 1) := by decide +kernel
theorem dX8_folded_109 : decode cX8_folded 109 = .ok (.if_icmp .ne 13, 3) := by decide +kernel
theorem dX8_folded_112 : decode cX8_folded 112 = .ok (.aload_n 0, 1) := by decide +kernel
theorem dX8_folded_113 : decode cX8_folded 113 = .ok (.iload 5, 2) := by decide +kernel
theorem dX8_folded_115 : decode cX8_folded 115 = .ok (.iload 4, 2) := by decide +kernel
theorem dX8_folded_117 : decode cX8_folded 117 = .ok (.isub, 1) := by decide +kernel
theorem dX8_folded_118 : decode cX8_folded 118 = .ok (.invokevirtual 143, 3) := by decide +kernel
theorem dX8_folded_121 : decode cX8_folded 121 = .ok (.ireturn, 1) := by decide +kernel
theorem dX8_folded_122 : decode cX8_folded 122 = .ok (.aload_n 0, 1) := by decide +kernel
theorem dX8_folded_123 : decode cX8_folded 123 = .ok (.iload_n 3, 1) := by decide +kernel
theorem dX8_folded_124 : decode cX8_folded 124 = .ok (.bipush 6, 2) := by decide +kernel
theorem dX8_folded_126 : decode cX8_folded 126 = .ok (.if_icmp .ne 17, 3) := by decide +kernel
theorem dX8_folded_129 : decode cX8_folded 129 = .ok (.iload_n 2, 1) := by decide +kernel
theorem dX8_folded_130 : decode cX8_folded 130 = .ok (.iconst 2, 1) := by decide +kernel
theorem dX8_folded_131 : decode cX8_folded 131 = .ok (.if_icmp .ne 12, 3) := by decide +kernel
theorem dX8_folded_134 : decode cX8_folded 134 = .ok (.iload 4, 2) := by decide +kernel
theorem dX8_folded_136 : decode cX8_folded 136 = .ok (.iload 5, 2) := by decide +kernel
theorem dX8_folded_138 : decode cX8_folded 138 = .ok (.imul, 1) := by decide +kernel
theorem dX8_folded_139 : decode cX8_folded 139 = .ok (.i2s, 1) := by decide +kernel
theorem dX8_folded_140 : decode cX8_folded 140 = .ok (.goto 11, 3) := by decide +kernel
theorem dX8_folded_143 : decode cX8_folded 143 = .ok (.iload_n 3, 1) := by decide +kernel
theorem dX8_folded_144 : decode cX8_folded 144 = .ok (.iload 4, 2) := by decide +kernel
theorem dX8_folded_146 : decode cX8_folded 146 = .ok (.iload 5, 2) := by decide +kernel
theorem dX8_folded_148 : decode cX8_folded 148 = .ok (.invokestatic 115, 3) := by decide +kernel
theorem dX8_folded_151 : decode cX8_folded 151 = .ok (.invokevirtual 143, 3) := by decide +kernel
theorem dX8_folded_154 : decode cX8_folded 154 = .ok (.ireturn, 1) := by decide +kernel
theorem dX8_zeroed_0 : decode cX8_zeroed 0 = .ok (.aload_n 0, 1) := by decide +kernel
theorem dX8_zeroed_1 : decode cX8_zeroed 1 = .ok (.getfield 7, 3) := by decide +kernel
theorem dX8_zeroed_4 : decode cX8_zeroed 4 = .ok (.iload_n 1, 1) := by decide +kernel
theorem dX8_zeroed_5 : decode cX8_zeroed 5 = .ok (.iaload, 1) := by decide +kernel
theorem dX8_zeroed_6 : decode cX8_zeroed 6 = .ok (.istore_n 3, 1) := by decide +kernel
theorem dX8_zeroed_7 : decode cX8_zeroed 7 = .ok (.iload_n 3, 1) := by decide +kernel
theorem dX8_zeroed_8 : decode cX8_zeroed 8 = .ok (.iconst 4, 1) := by decide +kernel
theorem dX8_zeroed_9 : decode cX8_zeroed 9 = .ok (.if_icmp .lt 9, 3) := by decide +kernel
theorem dX8_zeroed_12 : decode cX8_zeroed 12 = .ok (.iload_n 3, 1) := by decide +kernel
theorem dX8_zeroed_13 : decode cX8_zeroed 13 = .ok (.bipush 8, 2) := by decide +kernel
theorem dX8_zeroed_15 : decode cX8_zeroed 15 = .ok (.if_icmp .ne 5, 3) := by decide +kernel
theorem dX8_zeroed_18 : decode cX8_zeroed 18 = .ok (.iload_n 1, 1) := by decide +kernel
theorem dX8_zeroed_19 : decode cX8_zeroed 19 = .ok (.ireturn, 1) := by decide +kernel
theorem dX8_zeroed_20 : decode cX8_zeroed 20 = .ok (.aload_n 0, 1) := by decide +kernel
theorem dX8_zeroed_21 : decode cX8_zeroed 21 = .ok (.getfield 16, 3) := by decide +kernel
theorem dX8_zeroed_24 : decode cX8_zeroed 24 = .ok (.iload_n 1, 1) := by decide +kernel
theorem dX8_zeroed_25 : decode cX8_zeroed 25 = .ok (.iaload, 1) := by decide +kernel
theorem dX8_zeroed_26 : decode cX8_zeroed 26 = .ok (.istore 4, 2) := by decide +kernel
theorem dX8_zeroed_28 : decode cX8_zeroed 28 = .ok (.aload_n 0, 1) := by decide +kernel
theorem dX8_zeroed_29 : decode cX8_zeroed 29 = .ok (.getfield 19, 3) := by decide +kernel
theorem dX8_zeroed_32 : decode cX8_zeroed 32 = .ok (.iload_n 1, 1) := by decide +kernel
theorem dX8_zeroed_33 : decode cX8_zeroed 33 = .ok (.iaload, 1) := by decide +kernel
theorem dX8_zeroed_34 : decode cX8_zeroed 34 = .ok (.istore 5, 2) := by decide +kernel
theorem dX8_zeroed_36 : decode cX8_zeroed 36 = .ok (.iload_n 3, 1) := by decide +kernel
theorem dX8_zeroed_37 : decode cX8_zeroed 37 = .ok (.iconst 4, 1) := by decide +kernel
theorem dX8_zeroed_38 : decode cX8_zeroed 38 = .ok (.if_icmp .ne 35, 3) := by decide +kernel
theorem dX8_zeroed_41 : decode cX8_zeroed 41 = .ok (.aload_n 0, 1) := by decide +kernel
theorem dX8_zeroed_42 : decode cX8_zeroed 42 = .ok (.iload 5, 2) := by decide +kernel
theorem dX8_zeroed_44 : decode cX8_zeroed 44 = .ok (.iconst 0, 1) := by decide +kernel
theorem dX8_zeroed_45 : decode cX8_zeroed 45 = .ok (.invokevirtual 147, 3) := by decide +kernel
theorem dX8_zeroed_48 : decode cX8_zeroed 48 = .ok (.ifCond .eq 8, 3) := by decide +kernel
theorem dX8_zeroed_51 : decode cX8_zeroed 51 = .ok (.iload 4, 2) := by decide +kernel
theorem dX8_zeroed_53 : decode cX8_zeroed 53 = .ok (.goto 19, 3) := by decide +kernel
theorem dX8_zeroed_56 : decode cX8_zeroed 56 = .ok (.aload_n 0, 1) := by decide +kernel
theorem dX8_zeroed_57 : decode cX8_zeroed 57 = .ok (.iload 4, 2) := by decide +kernel
theorem dX8_zeroed_59 : decode cX8_zeroed 59 = .ok (.iconst 0, 1) := by decide +kernel
theorem dX8_zeroed_60 : decode cX8_zeroed 60 = .ok (.invokevirtual 147, 3) := by decide +kernel
theorem dX8_zeroed_63 : decode cX8_zeroed 63 = .ok (.ifCond .eq 8, 3) := by decide +kernel
theorem dX8_zeroed_66 : decode cX8_zeroed 66 = .ok (.iload 5, 2) := by decide +kernel
theorem dX8_zeroed_68 : decode cX8_zeroed 68 = .ok (.goto 4, 3) := by decide +kernel
theorem dX8_zeroed_71 : decode cX8_zeroed 71 = .ok (.iload_n 1, 1) := by decide +kernel
theorem dX8_zeroed_72 : decode cX8_zeroed 72 = .ok (.ireturn, 1) := by decide +kernel
theorem dX8_zeroed_73 : decode cX8_zeroed 73 = .ok (.iload_n 3, 1) := by decide +kernel
theorem dX8_zeroed_74 : decode cX8_zeroed 74 = .ok (.iconst 5, 1) := by decide +kernel
theorem dX8_zeroed_75 : decode cX8_zeroed 75 = .ok (.if_icmp .ne 40, 3) := by decide +kernel
theorem dX8_zeroed_78 : decode cX8_zeroed 78 = .ok (.aload_n 0, 1) := by decide +kernel
theorem dX8_zeroed_79 : decode cX8_zeroed 79 = .ok (.iload 5, 2) := by decide +kernel
theorem dX8_zeroed_81 : decode cX8_zeroed 81 = .ok (.iconst 0, 1) := by decide +kernel
theorem dX8_zeroed_82 : decode cX8_zeroed 82 = .ok (.invokevirtual 147, 3) := by decide +kernel
theorem dX8_zeroed_85 : decode cX8_zeroed 85 = .ok (.ifCond .eq 8, 3) := by decide +kernel
theorem dX8_zeroed_88 : decode cX8_zeroed 88 = .ok (.iload 4, 2) := by decide +kernel
theorem dX8_zeroed_90 : decode cX8_zeroed 90 = .ok (.goto 24, 3) := by decide +kernel
theorem dX8_zeroed_93 : decode cX8_zeroed 93 = .ok (.iload_n 2, 1) := by decide +kernel
theorem dX8_zeroed_94 : decode cX8_zeroed 94 = .ok (.iconst 1, 1) := by decide +kernel
theorem dX8_zeroed_95 : decode cX8_zeroed 95 = .ok (.if_icmp .ne 18, 3) := by decide +kernel
theorem dX8_zeroed_98 : decode cX8_zeroed 98 = .ok (.aload_n 0, 1) := by decide +kernel
theorem dX8_zeroed_99 : decode cX8_zeroed 99 = .ok (.iload 4, 2) := by decide +kernel
theorem dX8_zeroed_101 : decode cX8_zeroed 101 = .ok (.iconst 0, 1) := by decide +kernel
theorem dX8_zeroed_102 : decode cX8_zeroed 102 = .ok (.invokevirtual 147, 3) := by decide +kernel
theorem dX8_zeroed_105 : decode cX8_zeroed 105 = .ok (.ifCond .eq 8, 3) := by decide +kernel
theorem dX8_zeroed_108 : decode cX8_zeroed 108 = .ok (.iload 5, 2) := by decide +kernel
theorem dX8_zeroed_110 : decode cX8_zeroed 110 = .ok (.goto 4, 3) := by decide +kernel
theorem dX8_zeroed_113 : decode cX8_zeroed 113 = .ok (.iload_n 1, 1) := by decide +kernel
theorem dX8_zeroed_114 : decode cX8_zeroed 114 = .ok (.ireturn, 1) := by decide +kernel
theorem dX8_zeroed_115 : decode cX8_zeroed 115 = .ok (.iload_n 3, 1) := by decide +kernel
theorem dX8_zeroed_116 : decode cX8_zeroed 116 = .ok (.bipush 7, 2) := by decide +kernel
theorem dX8_zeroed_118 : decode cX8_zeroed 118 = .ok (.if_icmp .ne 20, 3) := by decide +kernel
theorem dX8_zeroed_121 : decode cX8_zeroed 121 = .ok (.aload_n 0, 1) := by decide +kernel
theorem dX8_zeroed_122 : decode cX8_zeroed 122 = .ok (.iload 5, 2) := by decide +kernel
theorem dX8_zeroed_124 : decode cX8_zeroed 124 = .ok (.iconst 1, 1) := by decide +kernel
theorem dX8_zeroed_125 : decode cX8_zeroed 125 = .ok (.invokevirtual 147, 3) := by decide +kernel
theorem dX8_zeroed_128 : decode cX8_zeroed 128 = .ok (.ifCond .eq 8, 3) := by decide +kernel
theorem dX8_zeroed_131 : decode cX8_zeroed 131 = .ok (.iload 4, 2) := by decide +kernel
theorem dX8_zeroed_133 : decode cX8_zeroed 133 = .ok (.goto 4, 3) := by decide +kernel
theorem dX8_zeroed_136 : decode cX8_zeroed 136 = .ok (.iload_n 1, 1) := by decide +kernel
theorem dX8_zeroed_137 : decode cX8_zeroed 137 = .ok (.ireturn, 1) := by decide +kernel
theorem dX8_zeroed_138 : decode cX8_zeroed 138 = .ok (.aload_n 0, 1) := by decide +kernel
theorem dX8_zeroed_139 : decode cX8_zeroed 139 = .ok (.iload 5, 2) := by decide +kernel
theorem dX8_zeroed_141 : decode cX8_zeroed 141 = .ok (.iconst 1, 1) := by decide +kernel
theorem dX8_zeroed_142 : decode cX8_zeroed 142 = .ok (.invokevirtual 147, 3) := by decide +kernel
theorem dX8_zeroed_145 : decode cX8_zeroed 145 = .ok (.ifCond .eq 6, 3) := by decide +kernel
theorem dX8_zeroed_148 : decode cX8_zeroed 148 = .ok (.iload 4, 2) := by decide +kernel
theorem dX8_zeroed_150 : decode cX8_zeroed 150 = .ok (.ireturn, 1) := by decide +kernel
theorem dX8_zeroed_151 : decode cX8_zeroed 151 = .ok (.aload_n 0, 1) := by decide +kernel
theorem dX8_zeroed_152 : decode cX8_zeroed 152 = .ok (.iload 4, 2) := by decide +kernel
theorem dX8_zeroed_154 : decode cX8_zeroed 154 = .ok (.iconst 1, 1) := by decide +kernel
theorem dX8_zeroed_155 : decode cX8_zeroed 155 = .ok (.invokevirtual 147, 3) := by decide +kernel
theorem dX8_zeroed_158 : decode cX8_zeroed 158 = .ok (.ifCond .eq 6, 3) := by decide +kernel
theorem dX8_zeroed_161 : decode cX8_zeroed 161 = .ok (.iload 5, 2) := by decide +kernel
theorem dX8_zeroed_163 : decode cX8_zeroed 163 = .ok (.ireturn, 1) := by decide +kernel
theorem dX8_zeroed_164 : decode cX8_zeroed 164 = .ok (.aload_n 0, 1) := by decide +kernel
theorem dX8_zeroed_165 : decode cX8_zeroed 165 = .ok (.iload 5, 2) := by decide +kernel
theorem dX8_zeroed_167 : decode cX8_zeroed 167 = .ok (.iconst 0, 1) := by decide +kernel
theorem dX8_zeroed_168 : decode cX8_zeroed 168 = .ok (.invokevirtual 147, 3) := by decide +kernel
theorem dX8_zeroed_171 : decode cX8_zeroed 171 = .ok (.ifCond .eq 19, 3) := by decide +kernel
theorem dX8_zeroed_174 : decode cX8_zeroed 174 = .ok (.iload_n 2, 1) := by decide +kernel
theorem dX8_zeroed_175 : decode cX8_zeroed 175 = .ok (.iconst 2, 1) := by decide +kernel
theorem dX8_zeroed_176 : decode cX8_zeroed 176 = .ok (.if_icmp .ne 8, 3) := by decide +kernel
theorem dX8_zeroed_179 : decode cX8_zeroed 179 = .ok (.iload 4, 2) := by decide +kernel
theorem dX8_zeroed_181 : decode cX8_zeroed 181 = .ok (.goto 8, 3) := by decide +kernel
theorem dX8_zeroed_184 : decode cX8_zeroed 184 = .ok (.aload_n 0, 1) := by decide +kernel
theorem dX8_zeroed_185 : decode cX8_zeroed 185 = .ok (.iconst 0, 1) := by decide +kernel
theorem dX8_zeroed_186 : decode cX8_zeroed 186 = .ok (.invokevirtual 143, 3) := by decide +kernel
theorem dX8_zeroed_189 : decode cX8_zeroed 189 = .ok (.ireturn, 1) := by decide +kernel
theorem dX8_zeroed_190 : decode cX8_zeroed 190 = .ok (.aload_n 0, 1) := by decide +kernel
theorem dX8_zeroed_191 : decode cX8_zeroed 191 = .ok (.iload 4, 2) := by decide +kernel
theorem dX8_zeroed_193 : decode cX8_zeroed 193 = .ok (.iconst 0, 1) := by decide +kernel
theorem dX8_zeroed_194 : decode cX8_zeroed 194 = .ok (.invokevirtual 147, 3) := by decide +kernel
theorem dX8_zeroed_197 : decode cX8_zeroed 197 = .ok (.ifCond .ne 7, 3) := by decide +kernel
theorem dX8_zeroed_200 : decode cX8_zeroed 200 = .ok (.iload_n 1, 1) := by decide +kernel
theorem dX8_zeroed_201 : decode cX8_zeroed 201 = .ok (.goto 18, 3) := by decide +kernel
theorem dX8_zeroed_204 : decode cX8_zeroed 204 = .ok (.iload_n 2, 1) := by decide +kernel
theorem dX8_zeroed_205 : decode cX8_zeroed 205 = .ok (.iconst 2, 1) := by decide +kernel
theorem dX8_zeroed_206 : decode cX8_zeroed 206 = .ok (.if_icmp .ne 8, 3) := by decide +kernel
theorem dX8_zeroed_209 : decode cX8_zeroed 209 = .ok (.iload 5, 2) := by decide +kernel
theorem dX8_zeroed_211 : decode cX8_zeroed 211 = .ok (.goto 8, 3) := by decide +kernel
theorem dX8_zeroed_214 : decode cX8_zeroed 214 = .ok (.aload_n 0, 1) := by decide +kernel
theorem dX8_zeroed_215 : decode cX8_zeroed 215 = .ok (.iconst 0, 1) := by decide +kernel
theorem dX8_zeroed_216 : decode cX8_zeroed 216 = .ok (.invokevirtual 143, 3) := by decide +kernel
theorem dX8_zeroed_219 : decode cX8_zeroed 219 = .ok (.ireturn, 1) := by decide +kernel
theorem dX8_lookSame_0 : decode cX8_lookSame 0 = .ok (.iload_n 3, 1) := by decide +kernel
theorem dX8_lookSame_1 : decode cX8_lookSame 1 = .ok (.iconst 2, 1) := by decide +kernel
theorem dX8_lookSame_2 : decode cX8_lookSame 2 = .ok (.if_icmp .ne 65, 3) := by decide +kernel
theorem dX8_lookSame_5 : decode cX8_lookSame 5 = .ok (.aload_n 0, 1) := by decide +kernel
theorem dX8_lookSame_6 : decode cX8_lookSame 6 = .ok (.getfield 7, 3) := by decide +kernel
theorem dX8_lookSame_9 : decode cX8_lookSame 9 = .ok (.iload_n 1, 1) := by decide +kernel
theorem dX8_lookSame_10 : decode cX8_lookSame 10 = .ok (.iaload, 1) := by decide +kernel
theorem dX8_lookSame_11 : decode cX8_lookSame 11 = .ok (.aload_n 0, 1) := by decide +kernel
theorem dX8_lookSame_12 : decode cX8_lookSame 12 = .ok (.getfield 7, 3) := by decide +kernel
theorem dX8_lookSame_15 : decode cX8_lookSame 15 = .ok (.iload_n 2, 1) := by decide +kernel
theorem dX8_lookSame_16 : decode cX8_lookSame 16 = .ok (.iaload, 1) := by decide +kernel
theorem dX8_lookSame_17 : decode cX8_lookSame 17 = .ok (.if_icmp .ne 46, 3) := by decide +kernel
theorem dX8_lookSame_20 : decode cX8_lookSame 20 = .ok (.aload_n 0, 1) := by decide +kernel
theorem dX8_lookSame_21 : decode cX8_lookSame 21 = .ok (.getfield 25, 3) := by decide +kernel
theorem dX8_lookSame_24 : decode cX8_lookSame 24 = .ok (.iload_n 1, 1) := by decide +kernel
theorem dX8_lookSame_25 : decode cX8_lookSame 25 = .ok (.iaload, 1) := by decide +kernel
theorem dX8_lookSame_26 : decode cX8_lookSame 26 = .ok (.aload_n 0, 1) := by decide +kernel
theorem dX8_lookSame_27 : decode cX8_lookSame 27 = .ok (.getfield 25, 3) := by decide +kernel
theorem dX8_lookSame_30 : decode cX8_lookSame 30 = .ok (.iload_n 2, 1) := by decide +kernel
theorem dX8_lookSame_31 : decode cX8_lookSame 31 = .ok (.iaload, 1) := by decide +kernel
theorem dX8_lookSame_32 : decode cX8_lookSame 32 = .ok (.if_icmp .ne 31, 3) := by decide +kernel
theorem dX8_lookSame_35 : decode cX8_lookSame 35 = .ok (.aload_n 0, 1) := by decide +kernel
theorem dX8_lookSame_36 : decode cX8_lookSame 36 = .ok (.getfield 7, 3) := by decide +kernel
theorem dX8_lookSame_39 : decode cX8_lookSame 39 = .ok (.iload_n 1, 1) := by decide +kernel
theorem dX8_lookSame_40 : decode cX8_lookSame 40 = .ok (.iaload, 1) := by decide +kernel
theorem dX8_lookSame_41 : decode cX8_lookSame 41 = .ok (.ifCond .ne 18, 3) := by decide +kernel
theorem dX8_lookSame_44 : decode cX8_lookSame 44 = .ok (.aload_n 0, 1) := by decide +kernel
theorem dX8_lookSame_45 : decode cX8_lookSame 45 = .ok (.getfield 13, 3) := by decide +kernel
theorem dX8_lookSame_48 : decode cX8_lookSame 48 = .ok (.iload_n 1, 1) := by decide +kernel
theorem dX8_lookSame_49 : decode cX8_lookSame 49 = .ok (.iaload, 1) := by decide +kernel
theorem dX8_lookSame_50 : decode cX8_lookSame 50 = .ok (.aload_n 0, 1) := by decide +kernel
theorem dX8_lookSame_51 : decode cX8_lookSame 51 = .ok (.getfield 13, 3) := by decide +kernel
theorem dX8_lookSame_54 : decode cX8_lookSame 54 = .ok (.iload_n 2, 1) := by decide +kernel
theorem dX8_lookSame_55 : decode cX8_lookSame 55 = .ok (.iaload, 1) := by decide +kernel
theorem dX8_lookSame_56 : decode cX8_lookSame 56 = .ok (.if_icmp .ne 7, 3) := by decide +kernel
theorem dX8_lookSame_59 : decode cX8_lookSame 59 = .ok (.iconst 1, 1) := by decide +kernel
theorem dX8_lookSame_60 : decode cX8_lookSame 60 = .ok (.goto 13, 3) := by decide +kernel
theorem dX8_lookSame_63 : decode cX8_lookSame 63 = .ok (.iconst 0, 1) := by decide +kernel
theorem dX8_lookSame_64 : decode cX8_lookSame 64 = .ok (.goto 9, 3) := by decide +kernel
theorem dX8_lookSame_67 : decode cX8_lookSame 67 = .ok (.aload_n 0, 1) := by decide +kernel
theorem dX8_lookSame_68 : decode cX8_lookSame 68 = .ok (.iload_n 1, 1) := by decide +kernel
theorem dX8_lookSame_69 : decode cX8_lookSame 69 = .ok (.iload_n 2, 1) := by decide +kernel
theorem dX8_lookSame_70 : decode cX8_lookSame 70 = .ok (.invokevirtual 100, 3) := by decide +kernel
theorem dX8_lookSame_73 : decode cX8_lookSame 73 = .ok (.ireturn, 1) := by decide +kernel
theorem dX8_samed_0 : decode cX8_samed 0 = .ok (.aload_n 0, 1) := by decide +kernel
theorem dX8_samed_1 : decode cX8_samed 1 = .ok (.getfield 7, 3) := by decide +kernel
theorem dX8_samed_4 : decode cX8_samed 4 = .ok (.iload_n 1, 1) := by decide +kernel
theorem dX8_samed_5 : decode cX8_samed 5 = .ok (.iaload, 1) := by decide +kernel
theorem dX8_samed_6 : decode cX8_samed 6 = .ok (.iconst 5, 1) := by decide +kernel
theorem dX8_samed_7 : decode cX8_samed 7 = .ok (.if_icmp .ne 29, 3) := by decide +kernel
theorem dX8_samed_10 : decode cX8_samed 10 = .ok (.aload_n 0, 1) := by decide +kernel
theorem dX8_samed_11 : decode cX8_samed 11 = .ok (.aload_n 0, 1) := by decide +kernel
theorem dX8_samed_12 : decode cX8_samed 12 = .ok (.getfield 16, 3) := by decide +kernel
theorem dX8_samed_15 : decode cX8_samed 15 = .ok (.iload_n 1, 1) := by decide +kernel
theorem dX8_samed_16 : decode cX8_samed 16 = .ok (.iaload, 1) := by decide +kernel
theorem dX8_samed_17 : decode cX8_samed 17 = .ok (.aload_n 0, 1) := by decide +kernel
theorem dX8_samed_18 : decode cX8_samed 18 = .ok (.getfield 19, 3) := by decide +kernel
theorem dX8_samed_21 : decode cX8_samed 21 = .ok (.iload_n 1, 1) := by decide +kernel
theorem dX8_samed_22 : decode cX8_samed 22 = .ok (.iaload, 1) := by decide +kernel
theorem dX8_samed_23 : decode cX8_samed 23 = .ok (.iload_n 2, 1) := by decide +kernel
theorem dX8_samed_24 : decode cX8_samed 24 = .ok (.invokevirtual 150, 3) := by decide +kernel
theorem dX8_samed_27 : decode cX8_samed 27 = .ok (.ifCond .eq 9, 3) := by decide +kernel
theorem dX8_samed_30 : decode cX8_samed 30 = .ok (.aload_n 0, 1) := by decide +kernel
theorem dX8_samed_31 : decode cX8_samed 31 = .ok (.iconst 0, 1) := by decide +kernel
theorem dX8_samed_32 : decode cX8_samed 32 = .ok (.invokevirtual 143, 3) := by decide +kernel
theorem dX8_samed_35 : decode cX8_samed 35 = .ok (.ireturn, 1) := by decide +kernel
theorem dX8_samed_36 : decode cX8_samed 36 = .ok (.aload_n 0, 1) := by decide +kernel
theorem dX8_samed_37 : decode cX8_samed 37 = .ok (.getfield 7, 3) := by decide +kernel
theorem dX8_samed_40 : decode cX8_samed 40 = .ok (.iload_n 1, 1) := by decide +kernel
theorem dX8_samed_41 : decode cX8_samed 41 = .ok (.iaload, 1) := by decide +kernel
theorem dX8_samed_42 : decode cX8_samed 42 = .ok (.iconst 4, 1) := by decide +kernel
theorem dX8_samed_43 : decode cX8_samed 43 = .ok (.if_icmp .ne 35, 3) := by decide +kernel
theorem dX8_samed_46 : decode cX8_samed 46 = .ok (.iload_n 2, 1) := by decide +kernel
theorem dX8_samed_47 : decode cX8_samed 47 = .ok (.iconst 1, 1) := by decide +kernel
theorem dX8_samed_48 : decode cX8_samed 48 = .ok (.if_icmp .ne 30, 3) := by decide +kernel
theorem dX8_samed_51 : decode cX8_samed 51 = .ok (.aload_n 0, 1) := by decide +kernel
theorem dX8_samed_52 : decode cX8_samed 52 = .ok (.aload_n 0, 1) := by decide +kernel
theorem dX8_samed_53 : decode cX8_samed 53 = .ok (.getfield 16, 3) := by decide +kernel
theorem dX8_samed_56 : decode cX8_samed 56 = .ok (.iload_n 1, 1) := by decide +kernel
theorem dX8_samed_57 : decode cX8_samed 57 = .ok (.iaload, 1) := by decide +kernel
theorem dX8_samed_58 : decode cX8_samed 58 = .ok (.aload_n 0, 1) := by decide +kernel
theorem dX8_samed_59 : decode cX8_samed 59 = .ok (.getfield 19, 3) := by decide +kernel
theorem dX8_samed_62 : decode cX8_samed 62 = .ok (.iload_n 1, 1) := by decide +kernel
theorem dX8_samed_63 : decode cX8_samed 63 = .ok (.iaload, 1) := by decide +kernel
theorem dX8_samed_64 : decode cX8_samed 64 = .ok (.invokevirtual 100, 3) := by decide +kernel
theorem dX8_samed_67 : decode cX8_samed 67 = .ok (.ifCond .eq 11, 3) := by decide +kernel
theorem dX8_samed_70 : decode cX8_samed 70 = .ok (.aload_n 0, 1) := by decide +kernel
theorem dX8_samed_71 : decode cX8_samed 71 = .ok (.iconst 0, 1) := by decide +kernel
theorem dX8_samed_72 : decode cX8_samed 72 = .ok (.invokevirtual 143, 3) := by decide +kernel
theorem dX8_samed_75 : decode cX8_samed 75 = .ok (.goto 4, 3) := by decide +kernel
theorem dX8_samed_78 : decode cX8_samed 78 = .ok (.iload_n 1, 1) := by decide +kernel
theorem dX8_samed_79 : decode cX8_samed 79 = .ok (.ireturn, 1) := by decide +kernel
theorem dX8_picked_0 : decode cX8_picked 0 = .ok (.aload_n 0, 1) := by decide +kernel
theorem dX8_picked_1 : decode cX8_picked 1 = .ok (.getfield 7, 3) := by decide +kernel
theorem dX8_picked_4 : decode cX8_picked 4 = .ok (.iload_n 1, 1) := by decide +kernel
theorem dX8_picked_5 : decode cX8_picked 5 = .ok (.iaload, 1) := by decide +kernel
theorem dX8_picked_6 : decode cX8_picked 6 = .ok (.bipush 8, 2) := by decide +kernel
theorem dX8_picked_8 : decode cX8_picked 8 = .ok (.if_icmp .ne 17, 3) := by decide +kernel
theorem dX8_picked_11 : decode cX8_picked 11 = .ok (.aload_n 0, 1) := by decide +kernel
theorem dX8_picked_12 : decode cX8_picked 12 = .ok (.getfield 7, 3) := by decide +kernel
theorem dX8_picked_15 : decode cX8_picked 15 = .ok (.aload_n 0, 1) := by decide +kernel
theorem dX8_picked_16 : decode cX8_picked 16 = .ok (.getfield 16, 3) := by decide +kernel
theorem dX8_picked_19 : decode cX8_picked 19 = .ok (.iload_n 1, 1) := by decide +kernel
theorem dX8_picked_20 : decode cX8_picked 20 = .ok (.iaload, 1) := by decide +kernel
theorem dX8_picked_21 : decode cX8_picked 21 = .ok (.iaload, 1) := by decide +kernel
theorem dX8_picked_22 : decode cX8_picked 22 = .ok (.ifCond .eq 5, 3) := by decide +kernel
theorem dX8_picked_25 : decode cX8_picked 25 = .ok (.iload_n 1, 1) := by decide +kernel
theorem dX8_picked_26 : decode cX8_picked 26 = .ok (.ireturn, 1) := by decide +kernel
theorem dX8_picked_27 : decode cX8_picked 27 = .ok (.aload_n 0, 1) := by decide +kernel
theorem dX8_picked_28 : decode cX8_picked 28 = .ok (.getfield 13, 3) := by decide +kernel
theorem dX8_picked_31 : decode cX8_picked 31 = .ok (.aload_n 0, 1) := by decide +kernel
theorem dX8_picked_32 : decode cX8_picked 32 = .ok (.getfield 16, 3) := by decide +kernel
theorem dX8_picked_35 : decode cX8_picked 35 = .ok (.iload_n 1, 1) := by decide +kernel
theorem dX8_picked_36 : decode cX8_picked 36 = .ok (.iaload, 1) := by decide +kernel
theorem dX8_picked_37 : decode cX8_picked 37 = .ok (.iaload, 1) := by decide +kernel
theorem dX8_picked_38 : decode cX8_picked 38 = .ok (.istore_n 3, 1) := by decide +kernel
theorem dX8_picked_39 : decode cX8_picked 39 = .ok (.iload_n 2, 1) := by decide +kernel
theorem dX8_picked_40 : decode cX8_picked 40 = .ok (.iconst 2, 1) := by decide +kernel
theorem dX8_picked_41 : decode cX8_picked 41 = .ok (.if_icmp .ne 10, 3) := by decide +kernel
theorem dX8_picked_44 : decode cX8_picked 44 = .ok (.aload_n 0, 1) := by decide +kernel
theorem dX8_picked_45 : decode cX8_picked 45 = .ok (.getfield 19, 3) := by decide +kernel
theorem dX8_picked_48 : decode cX8_picked 48 = .ok (.iload_n 1, 1) := by decide +kernel
theorem dX8_picked_49 : decode cX8_picked 49 = .ok (.iaload, 1) := by decide +kernel
theorem dX8_picked_50 : decode cX8_picked 50 = .ok (.ireturn, 1) := by decide +kernel
theorem dX8_picked_51 : decode cX8_picked 51 = .ok (.iload_n 3, 1) := by decide +kernel
theorem dX8_picked_52 : decode cX8_picked 52 = .ok (.ifCond .eq 12, 3) := by decide +kernel
theorem dX8_picked_55 : decode cX8_picked 55 = .ok (.iload_n 2, 1) := by decide +kernel
theorem dX8_picked_56 : decode cX8_picked 56 = .ok (.iconst 1, 1) := by decide +kernel
theorem dX8_picked_57 : decode cX8_picked 57 = .ok (.if_icmp .ne 16, 3) := by decide +kernel
theorem dX8_picked_60 : decode cX8_picked 60 = .ok (.iload_n 3, 1) := by decide +kernel
theorem dX8_picked_61 : decode cX8_picked 61 = .ok (.ifCond .ge 12, 3) := by decide +kernel
theorem dX8_picked_64 : decode cX8_picked 64 = .ok (.aload_n 0, 1) := by decide +kernel
theorem dX8_picked_65 : decode cX8_picked 65 = .ok (.getfield 22, 3) := by decide +kernel
theorem dX8_picked_68 : decode cX8_picked 68 = .ok (.iload_n 1, 1) := by decide +kernel
theorem dX8_picked_69 : decode cX8_picked 69 = .ok (.iaload, 1) := by decide +kernel
theorem dX8_picked_70 : decode cX8_picked 70 = .ok (.goto 9, 3) := by decide +kernel
theorem dX8_picked_73 : decode cX8_picked 73 = .ok (.aload_n 0, 1) := by decide +kernel
theorem dX8_picked_74 : decode cX8_picked 74 = .ok (.getfield 19, 3) := by decide +kernel
theorem dX8_picked_77 : decode cX8_picked 77 = .ok (.iload_n 1, 1) := by decide +kernel
theorem dX8_picked_78 : decode cX8_picked 78 = .ok (.iaload, 1) := by decide +kernel
theorem dX8_picked_79 : decode cX8_picked 79 = .ok (.ireturn, 1) := by decide +kernel
theorem dX8_melted_0 : decode cX8_melted 0 = .ok (.aload_n 0, 1) := by decide +kernel
theorem dX8_melted_1 : decode cX8_melted 1 = .ok (.getfield 7, 3) := by decide +kernel
theorem dX8_melted_4 : decode cX8_melted 4 = .ok (.iload_n 1, 1) := by decide +kernel
theorem dX8_melted_5 : decode cX8_melted 5 = .ok (.iaload, 1) := by decide +kernel
theorem dX8_melted_6 : decode cX8_melted 6 = .ok (.bipush 8, 2) := by decide +kernel
theorem dX8_melted_8 : decode cX8_melted 8 = .ok (.if_icmp .eq 5, 3) := by decide +kernel
theorem dX8_melted_11 : decode cX8_melted 11 = .ok (.iload_n 1, 1) := by decide +kernel
theorem dX8_melted_12 : decode cX8_melted 12 = .ok (.ireturn, 1) := by decide +kernel
theorem dX8_melted_13 : decode cX8_melted 13 = .ok (.iload_n 2, 1) := by decide +kernel
theorem dX8_melted_14 : decode cX8_melted 14 = .ok (.iconst 1, 1) := by decide +kernel
theorem dX8_melted_15 : decode cX8_melted 15 = .ok (.if_icmp .ne 36, 3) := by decide +kernel
theorem dX8_melted_18 : decode cX8_melted 18 = .ok (.aload_n 0, 1) := by decide +kernel
theorem dX8_melted_19 : decode cX8_melted 19 = .ok (.getfield 25, 3) := by decide +kernel
theorem dX8_melted_22 : decode cX8_melted 22 = .ok (.aload_n 0, 1) := by decide +kernel
theorem dX8_melted_23 : decode cX8_melted 23 = .ok (.getfield 19, 3) := by decide +kernel
theorem dX8_melted_26 : decode cX8_melted 26 = .ok (.iload_n 1, 1) := by decide +kernel
theorem dX8_melted_27 : decode cX8_melted 27 = .ok (.iaload, 1) := by decide +kernel
theorem dX8_melted_28 : decode cX8_melted 28 = .ok (.iaload, 1) := by decide +kernel
theorem dX8_melted_29 : decode cX8_melted 29 = .ok (.aload_n 0, 1) := by decide +kernel
theorem dX8_melted_30 : decode cX8_melted 30 = .ok (.getfield 25, 3) := by decide +kernel
theorem dX8_melted_33 : decode cX8_melted 33 = .ok (.aload_n 0, 1) := by decide +kernel
theorem dX8_melted_34 : decode cX8_melted 34 = .ok (.getfield 22, 3) := by decide +kernel
theorem dX8_melted_37 : decode cX8_melted 37 = .ok (.iload_n 1, 1) := by decide +kernel
theorem dX8_melted_38 : decode cX8_melted 38 = .ok (.iaload, 1) := by decide +kernel
theorem dX8_melted_39 : decode cX8_melted 39 = .ok (.iaload, 1) := by decide +kernel
theorem dX8_melted_40 : decode cX8_melted 40 = .ok (.if_icmp .ne 7, 3) := by decide +kernel
theorem dX8_melted_43 : decode cX8_melted 43 = .ok (.iconst 1, 1) := by decide +kernel
theorem dX8_melted_44 : decode cX8_melted 44 = .ok (.goto 23, 3) := by decide +kernel
theorem dX8_melted_47 : decode cX8_melted 47 = .ok (.iconst 0, 1) := by decide +kernel
theorem dX8_melted_48 : decode cX8_melted 48 = .ok (.goto 19, 3) := by decide +kernel
theorem dX8_melted_51 : decode cX8_melted 51 = .ok (.aload_n 0, 1) := by decide +kernel
theorem dX8_melted_52 : decode cX8_melted 52 = .ok (.aload_n 0, 1) := by decide +kernel
theorem dX8_melted_53 : decode cX8_melted 53 = .ok (.getfield 19, 3) := by decide +kernel
theorem dX8_melted_56 : decode cX8_melted 56 = .ok (.iload_n 1, 1) := by decide +kernel
theorem dX8_melted_57 : decode cX8_melted 57 = .ok (.iaload, 1) := by decide +kernel
theorem dX8_melted_58 : decode cX8_melted 58 = .ok (.aload_n 0, 1) := by decide +kernel
theorem dX8_melted_59 : decode cX8_melted 59 = .ok (.getfield 22, 3) := by decide +kernel
theorem dX8_melted_62 : decode cX8_melted 62 = .ok (.iload_n 1, 1) := by decide +kernel
theorem dX8_melted_63 : decode cX8_melted 63 = .ok (.iaload, 1) := by decide +kernel
theorem dX8_melted_64 : decode cX8_melted 64 = .ok (.invokevirtual 100, 3) := by decide +kernel
theorem dX8_melted_67 : decode cX8_melted 67 = .ok (.istore_n 3, 1) := by decide +kernel
theorem dX8_melted_68 : decode cX8_melted 68 = .ok (.iload_n 3, 1) := by decide +kernel
theorem dX8_melted_69 : decode cX8_melted 69 = .ok (.ifCond .eq 10, 3) := by decide +kernel
theorem dX8_melted_72 : decode cX8_melted 72 = .ok (.aload_n 0, 1) := by decide +kernel
theorem dX8_melted_73 : decode cX8_melted 73 = .ok (.getfield 19, 3) := by decide +kernel
theorem dX8_melted_76 : decode cX8_melted 76 = .ok (.iload_n 1, 1) := by decide +kernel
theorem dX8_melted_77 : decode cX8_melted 77 = .ok (.iaload, 1) := by decide +kernel
theorem dX8_melted_78 : decode cX8_melted 78 = .ok (.ireturn, 1) := by decide +kernel
theorem dX8_melted_79 : decode cX8_melted 79 = .ok (.iload_n 2, 1) := by decide +kernel
theorem dX8_melted_80 : decode cX8_melted 80 = .ok (.iconst 2, 1) := by decide +kernel
theorem dX8_melted_81 : decode cX8_melted 81 = .ok (.if_icmp .ne 31, 3) := by decide +kernel
theorem dX8_melted_84 : decode cX8_melted 84 = .ok (.aload_n 0, 1) := by decide +kernel
theorem dX8_melted_85 : decode cX8_melted 85 = .ok (.aload_n 0, 1) := by decide +kernel
theorem dX8_melted_86 : decode cX8_melted 86 = .ok (.getfield 16, 3) := by decide +kernel
theorem dX8_melted_89 : decode cX8_melted 89 = .ok (.iload_n 1, 1) := by decide +kernel
theorem dX8_melted_90 : decode cX8_melted 90 = .ok (.iaload, 1) := by decide +kernel
theorem dX8_melted_91 : decode cX8_melted 91 = .ok (.aload_n 0, 1) := by decide +kernel
theorem dX8_melted_92 : decode cX8_melted 92 = .ok (.getfield 19, 3) := by decide +kernel
theorem dX8_melted_95 : decode cX8_melted 95 = .ok (.iload_n 1, 1) := by decide +kernel
theorem dX8_melted_96 : decode cX8_melted 96 = .ok (.iaload, 1) := by decide +kernel
theorem dX8_melted_97 : decode cX8_melted 97 = .ok (.invokevirtual 100, 3) := by decide +kernel
theorem dX8_melted_100 : decode cX8_melted 100 = .ok (.ifCond .eq 12, 3) := by decide +kernel
theorem dX8_melted_103 : decode cX8_melted 103 = .ok (.aload_n 0, 1) := by decide +kernel
theorem dX8_melted_104 : decode cX8_melted 104 = .ok (.getfield 16, 3) := by decide +kernel
theorem dX8_melted_107 : decode cX8_melted 107 = .ok (.iload_n 1, 1) := by decide +kernel
theorem dX8_melted_108 : decode cX8_melted 108 = .ok (.iaload, 1) := by decide +kernel
theorem dX8_melted_109 : decode cX8_melted 109 = .ok (.goto 4, 3) := by decide +kernel
theorem dX8_melted_112 : decode cX8_melted 112 = .ok (.iload_n 1, 1) := by decide +kernel
theorem dX8_melted_113 : decode cX8_melted 113 = .ok (.ireturn, 1) := by decide +kernel
theorem dX8_twice_0 : decode cX8_twice 0 = .ok (.aload_n 0, 1) := by decide +kernel
theorem dX8_twice_1 : decode cX8_twice 1 = .ok (.getfield 154, 3) := by decide +kernel
theorem dX8_twice_4 : decode cX8_twice 4 = .ok (.aload_n 0, 1) := by decide +kernel
theorem dX8_twice_5 : decode cX8_twice 5 = .ok (.getfield 25, 3) := by decide +kernel
theorem dX8_twice_8 : decode cX8_twice 8 = .ok (.iload_n 1, 1) := by decide +kernel
theorem dX8_twice_9 : decode cX8_twice 9 = .ok (.iaload, 1) := by decide +kernel
theorem dX8_twice_10 : decode cX8_twice 10 = .ok (.isub, 1) := by decide +kernel
theorem dX8_twice_11 : decode cX8_twice 11 = .ok (.iconst 1, 1) := by decide +kernel
theorem dX8_twice_12 : decode cX8_twice 12 = .ok (.iadd, 1) := by decide +kernel
theorem dX8_twice_13 : decode cX8_twice 13 = .ok (.iconst 2, 1) := by decide +kernel
theorem dX8_twice_14 : decode cX8_twice 14 = .ok (.aload_n 0, 1) := by decide +kernel
theorem dX8_twice_15 : decode cX8_twice 15 = .ok (.getfield 25, 3) := by decide +kernel
theorem dX8_twice_18 : decode cX8_twice 18 = .ok (.iload_n 3, 1) := by decide +kernel
theorem dX8_twice_19 : decode cX8_twice 19 = .ok (.iaload, 1) := by decide +kernel
theorem dX8_twice_20 : decode cX8_twice 20 = .ok (.imul, 1) := by decide +kernel
theorem dX8_twice_21 : decode cX8_twice 21 = .ok (.iadd, 1) := by decide +kernel
theorem dX8_twice_22 : decode cX8_twice 22 = .ok (.sipush 200, 3) := by decide +kernel
theorem dX8_twice_25 : decode cX8_twice 25 = .ok (.if_icmp .le 7, 3) := by decide +kernel
theorem dX8_twice_28 : decode cX8_twice 28 = .ok (.iload_n 1, 1) := by decide +kernel
theorem dX8_twice_29 : decode cX8_twice 29 = .ok (.goto 10, 3) := by decide +kernel
theorem dX8_twice_32 : decode cX8_twice 32 = .ok (.aload_n 0, 1) := by decide +kernel
theorem dX8_twice_33 : decode cX8_twice 33 = .ok (.iload_n 2, 1) := by decide +kernel
theorem dX8_twice_34 : decode cX8_twice 34 = .ok (.iload_n 3, 1) := by decide +kernel
theorem dX8_twice_35 : decode cX8_twice 35 = .ok (.iload_n 3, 1) := by decide +kernel
theorem dX8_twice_36 : decode cX8_twice 36 = .ok (.invokevirtual 157, 3) := by decide +kernel
theorem dX8_twice_39 : decode cX8_twice 39 = .ok (.ireturn, 1) := by decide +kernel
theorem dX8_twiced_0 : decode cX8_twiced 0 = .ok (.aload_n 0, 1) := by decide +kernel
theorem dX8_twiced_1 : decode cX8_twiced 1 = .ok (.getfield 7, 3) := by decide +kernel
theorem dX8_twiced_4 : decode cX8_twiced 4 = .ok (.iload_n 1, 1) := by decide +kernel
theorem dX8_twiced_5 : decode cX8_twiced 5 = .ok (.iaload, 1) := by decide +kernel
theorem dX8_twiced_6 : decode cX8_twiced 6 = .ok (.bipush 6, 2) := by decide +kernel
theorem dX8_twiced_8 : decode cX8_twiced 8 = .ok (.if_icmp .ne 121, 3) := by decide +kernel
theorem dX8_twiced_11 : decode cX8_twiced 11 = .ok (.aload_n 0, 1) := by decide +kernel
theorem dX8_twiced_12 : decode cX8_twiced 12 = .ok (.aload_n 0, 1) := by decide +kernel
theorem dX8_twiced_13 : decode cX8_twiced 13 = .ok (.getfield 19, 3) := by decide +kernel
theorem dX8_twiced_16 : decode cX8_twiced 16 = .ok (.iload_n 1, 1) := by decide +kernel
theorem dX8_twiced_17 : decode cX8_twiced 17 = .ok (.iaload, 1) := by decide +kernel
theorem dX8_twiced_18 : decode cX8_twiced 18 = .ok (.iconst 2, 1) := by decide +kernel
theorem dX8_twiced_19 : decode cX8_twiced 19 = .ok (.invokevirtual 147, 3) := by decide +kernel
theorem dX8_twiced_22 : decode cX8_twiced 22 = .ok (.ifCond .eq 16, 3) := by decide +kernel
theorem dX8_twiced_25 : decode cX8_twiced 25 = .ok (.aload_n 0, 1) := by decide +kernel
theorem dX8_twiced_26 : decode cX8_twiced 26 = .ok (.iload_n 1, 1) := by decide +kernel
theorem dX8_twiced_27 : decode cX8_twiced 27 = .ok (.iconst 4, 1) := by decide +kernel
theorem dX8_twiced_28 : decode cX8_twiced 28 = .ok (.aload_n 0, 1) := by decide +kernel
theorem dX8_twiced_29 : decode cX8_twiced 29 = .ok (.getfield 16, 3) := by decide +kernel
theorem dX8_twiced_32 : decode cX8_twiced 32 = .ok (.iload_n 1, 1) := by decide +kernel
theorem dX8_twiced_33 : decode cX8_twiced 33 = .ok (.iaload, 1) := by decide +kernel
theorem dX8_twiced_34 : decode cX8_twiced 34 = .ok (.invokevirtual 160, 3) := by decide +kernel
theorem dX8_twiced_37 : decode cX8_twiced 37 = .ok (.ireturn, 1) := by decide +kernel
theorem dX8_twiced_38 : decode cX8_twiced 38 = .ok (.aload_n 0, 1) := by decide +kernel
theorem dX8_twiced_39 : decode cX8_twiced 39 = .ok (.aload_n 0, 1) := by decide +kernel
theorem dX8_twiced_40 : decode cX8_twiced 40 = .ok (.getfield 16, 3) := by decide +kernel
theorem dX8_twiced_43 : decode cX8_twiced 43 = .ok (.iload_n 1, 1) := by decide +kernel
theorem dX8_twiced_44 : decode cX8_twiced 44 = .ok (.iaload, 1) := by decide +kernel
theorem dX8_twiced_45 : decode cX8_twiced 45 = .ok (.iconst 2, 1) := by decide +kernel
theorem dX8_twiced_46 : decode cX8_twiced 46 = .ok (.invokevirtual 147, 3) := by decide +kernel
theorem dX8_twiced_49 : decode cX8_twiced 49 = .ok (.ifCond .eq 16, 3) := by decide +kernel
theorem dX8_twiced_52 : decode cX8_twiced 52 = .ok (.aload_n 0, 1) := by decide +kernel
theorem dX8_twiced_53 : decode cX8_twiced 53 = .ok (.iload_n 1, 1) := by decide +kernel
theorem dX8_twiced_54 : decode cX8_twiced 54 = .ok (.iconst 4, 1) := by decide +kernel
theorem dX8_twiced_55 : decode cX8_twiced 55 = .ok (.aload_n 0, 1) := by decide +kernel
theorem dX8_twiced_56 : decode cX8_twiced 56 = .ok (.getfield 19, 3) := by decide +kernel
theorem dX8_twiced_59 : decode cX8_twiced 59 = .ok (.iload_n 1, 1) := by decide +kernel
theorem dX8_twiced_60 : decode cX8_twiced 60 = .ok (.iaload, 1) := by decide +kernel
theorem dX8_twiced_61 : decode cX8_twiced 61 = .ok (.invokevirtual 160, 3) := by decide +kernel
theorem dX8_twiced_64 : decode cX8_twiced 64 = .ok (.ireturn, 1) := by decide +kernel
theorem dX8_twiced_65 : decode cX8_twiced 65 = .ok (.iload_n 2, 1) := by decide +kernel
theorem dX8_twiced_66 : decode cX8_twiced 66 = .ok (.iconst 1, 1) := by decide +kernel
theorem dX8_twiced_67 : decode cX8_twiced 67 = .ok (.if_icmp .ne 30, 3) := by decide +kernel
theorem dX8_twiced_70 : decode cX8_twiced 70 = .ok (.aload_n 0, 1) := by decide +kernel
theorem dX8_twiced_71 : decode cX8_twiced 71 = .ok (.aload_n 0, 1) := by decide +kernel
theorem dX8_twiced_72 : decode cX8_twiced 72 = .ok (.getfield 19, 3) := by decide +kernel
theorem dX8_twiced_75 : decode cX8_twiced 75 = .ok (.iload_n 1, 1) := by decide +kernel
theorem dX8_twiced_76 : decode cX8_twiced 76 = .ok (.iaload, 1) := by decide +kernel
theorem dX8_twiced_77 : decode cX8_twiced 77 = .ok (.iconst 3, 1) := by decide +kernel
theorem dX8_twiced_78 : decode cX8_twiced 78 = .ok (.invokevirtual 147, 3) := by decide +kernel
theorem dX8_twiced_81 : decode cX8_twiced 81 = .ok (.ifCond .eq 16, 3) := by decide +kernel
theorem dX8_twiced_84 : decode cX8_twiced 84 = .ok (.aload_n 0, 1) := by decide +kernel
theorem dX8_twiced_85 : decode cX8_twiced 85 = .ok (.iload_n 1, 1) := by decide +kernel
theorem dX8_twiced_86 : decode cX8_twiced 86 = .ok (.iconst 4, 1) := by decide +kernel
theorem dX8_twiced_87 : decode cX8_twiced 87 = .ok (.aload_n 0, 1) := by decide +kernel
theorem dX8_twiced_88 : decode cX8_twiced 88 = .ok (.getfield 16, 3) := by decide +kernel
theorem dX8_twiced_91 : decode cX8_twiced 91 = .ok (.iload_n 1, 1) := by decide +kernel
theorem dX8_twiced_92 : decode cX8_twiced 92 = .ok (.iaload, 1) := by decide +kernel
theorem dX8_twiced_93 : decode cX8_twiced 93 = .ok (.invokevirtual 160, 3) := by decide +kernel
theorem dX8_twiced_96 : decode cX8_twiced 96 = .ok (.ireturn, 1) := by decide +kernel
theorem dX8_twiced_97 : decode cX8_twiced 97 = .ok (.iload_n 2, 1) := by decide +kernel
theorem dX8_twiced_98 : decode cX8_twiced 98 = .ok (.iconst 1, 1) := by decide +kernel
theorem dX8_twiced_99 : decode cX8_twiced 99 = .ok (.if_icmp .ne 30, 3) := by decide +kernel
theorem dX8_twiced_102 : decode cX8_twiced 102 = .ok (.aload_n 0, 1) := by decide +kernel
theorem dX8_twiced_103 : decode cX8_twiced 103 = .ok (.aload_n 0, 1) := by decide +kernel
theorem dX8_twiced_104 : decode cX8_twiced 104 = .ok (.getfield 16, 3) := by decide +kernel
theorem dX8_twiced_107 : decode cX8_twiced 107 = .ok (.iload_n 1, 1) := by decide +kernel
theorem dX8_twiced_108 : decode cX8_twiced 108 = .ok (.iaload, 1) := by decide +kernel
theorem dX8_twiced_109 : decode cX8_twiced 109 = .ok (.iconst 3, 1) := by decide +kernel
theorem dX8_twiced_110 : decode cX8_twiced 110 = .ok (.invokevirtual 147, 3) := by decide +kernel
theorem dX8_twiced_113 : decode cX8_twiced 113 = .ok (.ifCond .eq 16, 3) := by decide +kernel
theorem dX8_twiced_116 : decode cX8_twiced 116 = .ok (.aload_n 0, 1) := by decide +kernel
theorem dX8_twiced_117 : decode cX8_twiced 117 = .ok (.iload_n 1, 1) := by decide +kernel
theorem dX8_twiced_118 : decode cX8_twiced 118 = .ok (.iconst 4, 1) := by decide +kernel
theorem dX8_twiced_119 : decode cX8_twiced 119 = .ok (.aload_n 0, 1) := by decide +kernel
theorem dX8_twiced_120 : decode cX8_twiced 120 = .ok (.getfield 19, 3) := by decide +kernel
theorem dX8_twiced_123 : decode cX8_twiced 123 = .ok (.iload_n 1, 1) := by decide +kernel
theorem dX8_twiced_124 : decode cX8_twiced 124 = .ok (.iaload, 1) := by decide +kernel
theorem dX8_twiced_125 : decode cX8_twiced 125 = .ok (.invokevirtual 160, 3) := by decide +kernel
theorem dX8_twiced_128 : decode cX8_twiced 128 = .ok (.ireturn, 1) := by decide +kernel
theorem dX8_twiced_129 : decode cX8_twiced 129 = .ok (.aload_n 0, 1) := by decide +kernel
theorem dX8_twiced_130 : decode cX8_twiced 130 = .ok (.getfield 7, 3) := by decide +kernel
theorem dX8_twiced_133 : decode cX8_twiced 133 = .ok (.iload_n 1, 1) := by decide +kernel
theorem dX8_twiced_134 : decode cX8_twiced 134 = .ok (.iaload, 1) := by decide +kernel
theorem dX8_twiced_135 : decode cX8_twiced 135 = .ok (.bipush 7, 2) := by decide +kernel
theorem dX8_twiced_137 : decode cX8_twiced 137 = .ok (.if_icmp .ne 37, 3) := by decide +kernel
theorem dX8_twiced_140 : decode cX8_twiced 140 = .ok (.iload_n 2, 1) := by decide +kernel
theorem dX8_twiced_141 : decode cX8_twiced 141 = .ok (.iconst 2, 1) := by decide +kernel
theorem dX8_twiced_142 : decode cX8_twiced 142 = .ok (.if_icmp .ne 32, 3) := by decide +kernel
theorem dX8_twiced_145 : decode cX8_twiced 145 = .ok (.aload_n 0, 1) := by decide +kernel
theorem dX8_twiced_146 : decode cX8_twiced 146 = .ok (.aload_n 0, 1) := by decide +kernel
theorem dX8_twiced_147 : decode cX8_twiced 147 = .ok (.getfield 19, 3) := by decide +kernel
theorem dX8_twiced_150 : decode cX8_twiced 150 = .ok (.iload_n 1, 1) := by decide +kernel
theorem dX8_twiced_151 : decode cX8_twiced 151 = .ok (.iaload, 1) := by decide +kernel
theorem dX8_twiced_152 : decode cX8_twiced 152 = .ok (.iconst 2, 1) := by decide +kernel
theorem dX8_twiced_153 : decode cX8_twiced 153 = .ok (.invokevirtual 147, 3) := by decide +kernel
theorem dX8_twiced_156 : decode cX8_twiced 156 = .ok (.ifCond .eq 18, 3) := by decide +kernel
theorem dX8_twiced_159 : decode cX8_twiced 159 = .ok (.aload_n 0, 1) := by decide +kernel
theorem dX8_twiced_160 : decode cX8_twiced 160 = .ok (.iload_n 1, 1) := by decide +kernel
theorem dX8_twiced_161 : decode cX8_twiced 161 = .ok (.iconst 5, 1) := by decide +kernel
theorem dX8_twiced_162 : decode cX8_twiced 162 = .ok (.aload_n 0, 1) := by decide +kernel
theorem dX8_twiced_163 : decode cX8_twiced 163 = .ok (.getfield 16, 3) := by decide +kernel
theorem dX8_twiced_166 : decode cX8_twiced 166 = .ok (.iload_n 1, 1) := by decide +kernel
theorem dX8_twiced_167 : decode cX8_twiced 167 = .ok (.iaload, 1) := by decide +kernel
theorem dX8_twiced_168 : decode cX8_twiced 168 = .ok (.invokevirtual 160, 3) := by decide +kernel
theorem dX8_twiced_171 : decode cX8_twiced 171 = .ok (.goto 4, 3) := by decide +kernel
theorem dX8_twiced_174 : decode cX8_twiced 174 = .ok (.iload_n 1, 1) := by decide +kernel
theorem dX8_twiced_175 : decode cX8_twiced 175 = .ok (.ireturn, 1) := by decide +kernel
theorem dX8_sunk_0 : decode cX8_sunk 0 = .ok (.aload_n 0, 1) := by decide +kernel
theorem dX8_sunk_1 : decode cX8_sunk 1 = .ok (.getfield 7, 3) := by decide +kernel
theorem dX8_sunk_4 : decode cX8_sunk 4 = .ok (.iload_n 1, 1) := by decide +kernel
theorem dX8_sunk_5 : decode cX8_sunk 5 = .ok (.iaload, 1) := by decide +kernel
theorem dX8_sunk_6 : decode cX8_sunk 6 = .ok (.iconst 3, 1) := by decide +kernel
theorem dX8_sunk_7 : decode cX8_sunk 7 = .ok (.if_icmp .ne 34, 3) := by decide +kernel
theorem dX8_sunk_10 : decode cX8_sunk 10 = .ok (.aload_n 0, 1) := by decide +kernel
theorem dX8_sunk_11 : decode cX8_sunk 11 = .ok (.getfield 7, 3) := by decide +kernel
theorem dX8_sunk_14 : decode cX8_sunk 14 = .ok (.aload_n 0, 1) := by decide +kernel
theorem dX8_sunk_15 : decode cX8_sunk 15 = .ok (.getfield 16, 3) := by decide +kernel
theorem dX8_sunk_18 : decode cX8_sunk 18 = .ok (.iload_n 1, 1) := by decide +kernel
theorem dX8_sunk_19 : decode cX8_sunk 19 = .ok (.iaload, 1) := by decide +kernel
theorem dX8_sunk_20 : decode cX8_sunk 20 = .ok (.iaload, 1) := by decide +kernel
theorem dX8_sunk_21 : decode cX8_sunk 21 = .ok (.iconst 3, 1) := by decide +kernel
theorem dX8_sunk_22 : decode cX8_sunk 22 = .ok (.if_icmp .ne 17, 3) := by decide +kernel
theorem dX8_sunk_25 : decode cX8_sunk 25 = .ok (.aload_n 0, 1) := by decide +kernel
theorem dX8_sunk_26 : decode cX8_sunk 26 = .ok (.getfield 16, 3) := by decide +kernel
theorem dX8_sunk_29 : decode cX8_sunk 29 = .ok (.aload_n 0, 1) := by decide +kernel
theorem dX8_sunk_30 : decode cX8_sunk 30 = .ok (.getfield 16, 3) := by decide +kernel
theorem dX8_sunk_33 : decode cX8_sunk 33 = .ok (.iload_n 1, 1) := by decide +kernel
theorem dX8_sunk_34 : decode cX8_sunk 34 = .ok (.iaload, 1) := by decide +kernel
theorem dX8_sunk_35 : decode cX8_sunk 35 = .ok (.iaload, 1) := by decide +kernel
theorem dX8_sunk_36 : decode cX8_sunk 36 = .ok (.goto 4, 3) := by decide +kernel
theorem dX8_sunk_39 : decode cX8_sunk 39 = .ok (.iload_n 1, 1) := by decide +kernel
theorem dX8_sunk_40 : decode cX8_sunk 40 = .ok (.ireturn, 1) := by decide +kernel
theorem dX8_sunk_41 : decode cX8_sunk 41 = .ok (.aload_n 0, 1) := by decide +kernel
theorem dX8_sunk_42 : decode cX8_sunk 42 = .ok (.getfield 7, 3) := by decide +kernel
theorem dX8_sunk_45 : decode cX8_sunk 45 = .ok (.iload_n 1, 1) := by decide +kernel
theorem dX8_sunk_46 : decode cX8_sunk 46 = .ok (.iaload, 1) := by decide +kernel
theorem dX8_sunk_47 : decode cX8_sunk 47 = .ok (.iconst 4, 1) := by decide +kernel
theorem dX8_sunk_48 : decode cX8_sunk 48 = .ok (.if_icmp .ne 88, 3) := by decide +kernel
theorem dX8_sunk_51 : decode cX8_sunk 51 = .ok (.aload_n 0, 1) := by decide +kernel
theorem dX8_sunk_52 : decode cX8_sunk 52 = .ok (.getfield 7, 3) := by decide +kernel
theorem dX8_sunk_55 : decode cX8_sunk 55 = .ok (.aload_n 0, 1) := by decide +kernel
theorem dX8_sunk_56 : decode cX8_sunk 56 = .ok (.getfield 19, 3) := by decide +kernel
theorem dX8_sunk_59 : decode cX8_sunk 59 = .ok (.iload_n 1, 1) := by decide +kernel
theorem dX8_sunk_60 : decode cX8_sunk 60 = .ok (.iaload, 1) := by decide +kernel
theorem dX8_sunk_61 : decode cX8_sunk 61 = .ok (.iaload, 1) := by decide +kernel
theorem dX8_sunk_62 : decode cX8_sunk 62 = .ok (.iconst 3, 1) := by decide +kernel
theorem dX8_sunk_63 : decode cX8_sunk 63 = .ok (.if_icmp .ne 26, 3) := by decide +kernel
theorem dX8_sunk_66 : decode cX8_sunk 66 = .ok (.aload_n 0, 1) := by decide +kernel
theorem dX8_sunk_67 : decode cX8_sunk 67 = .ok (.iconst 5, 1) := by decide +kernel
theorem dX8_sunk_68 : decode cX8_sunk 68 = .ok (.aload_n 0, 1) := by decide +kernel
theorem dX8_sunk_69 : decode cX8_sunk 69 = .ok (.getfield 16, 3) := by decide +kernel
theorem dX8_sunk_72 : decode cX8_sunk 72 = .ok (.iload_n 1, 1) := by decide +kernel
theorem dX8_sunk_73 : decode cX8_sunk 73 = .ok (.iaload, 1) := by decide +kernel
theorem dX8_sunk_74 : decode cX8_sunk 74 = .ok (.aload_n 0, 1) := by decide +kernel
theorem dX8_sunk_75 : decode cX8_sunk 75 = .ok (.getfield 16, 3) := by decide +kernel
theorem dX8_sunk_78 : decode cX8_sunk 78 = .ok (.aload_n 0, 1) := by decide +kernel
theorem dX8_sunk_79 : decode cX8_sunk 79 = .ok (.getfield 19, 3) := by decide +kernel
theorem dX8_sunk_82 : decode cX8_sunk 82 = .ok (.iload_n 1, 1) := by decide +kernel
theorem dX8_sunk_83 : decode cX8_sunk 83 = .ok (.iaload, 1) := by decide +kernel
theorem dX8_sunk_84 : decode cX8_sunk 84 = .ok (.iaload, 1) := by decide +kernel
theorem dX8_sunk_85 : decode cX8_sunk 85 = .ok (.invokevirtual 157, 3) := by decide +kernel
theorem dX8_sunk_88 : decode cX8_sunk 88 = .ok (.ireturn, 1) := by decide +kernel
theorem dX8_sunk_89 : decode cX8_sunk 89 = .ok (.iload_n 2, 1) := by decide +kernel
theorem dX8_sunk_90 : decode cX8_sunk 90 = .ok (.iconst 1, 1) := by decide +kernel
theorem dX8_sunk_91 : decode cX8_sunk 91 = .ok (.if_icmp .ne 43, 3) := by decide +kernel
theorem dX8_sunk_94 : decode cX8_sunk 94 = .ok (.aload_n 0, 1) := by decide +kernel
theorem dX8_sunk_95 : decode cX8_sunk 95 = .ok (.getfield 7, 3) := by decide +kernel
theorem dX8_sunk_98 : decode cX8_sunk 98 = .ok (.aload_n 0, 1) := by decide +kernel
theorem dX8_sunk_99 : decode cX8_sunk 99 = .ok (.getfield 16, 3) := by decide +kernel
theorem dX8_sunk_102 : decode cX8_sunk 102 = .ok (.iload_n 1, 1) := by decide +kernel
theorem dX8_sunk_103 : decode cX8_sunk 103 = .ok (.iaload, 1) := by decide +kernel
theorem dX8_sunk_104 : decode cX8_sunk 104 = .ok (.iaload, 1) := by decide +kernel
theorem dX8_sunk_105 : decode cX8_sunk 105 = .ok (.iconst 3, 1) := by decide +kernel
theorem dX8_sunk_106 : decode cX8_sunk 106 = .ok (.if_icmp .ne 28, 3) := by decide +kernel
theorem dX8_sunk_109 : decode cX8_sunk 109 = .ok (.aload_n 0, 1) := by decide +kernel
theorem dX8_sunk_110 : decode cX8_sunk 110 = .ok (.iconst 5, 1) := by decide +kernel
theorem dX8_sunk_111 : decode cX8_sunk 111 = .ok (.aload_n 0, 1) := by decide +kernel
theorem dX8_sunk_112 : decode cX8_sunk 112 = .ok (.getfield 16, 3) := by decide +kernel
theorem dX8_sunk_115 : decode cX8_sunk 115 = .ok (.aload_n 0, 1) := by decide +kernel
theorem dX8_sunk_116 : decode cX8_sunk 116 = .ok (.getfield 16, 3) := by decide +kernel
theorem dX8_sunk_119 : decode cX8_sunk 119 = .ok (.iload_n 1, 1) := by decide +kernel
theorem dX8_sunk_120 : decode cX8_sunk 120 = .ok (.iaload, 1) := by decide +kernel
theorem dX8_sunk_121 : decode cX8_sunk 121 = .ok (.iaload, 1) := by decide +kernel
theorem dX8_sunk_122 : decode cX8_sunk 122 = .ok (.aload_n 0, 1) := by decide +kernel
theorem dX8_sunk_123 : decode cX8_sunk 123 = .ok (.getfield 19, 3) := by decide +kernel
theorem dX8_sunk_126 : decode cX8_sunk 126 = .ok (.iload_n 1, 1) := by decide +kernel
theorem dX8_sunk_127 : decode cX8_sunk 127 = .ok (.iaload, 1) := by decide +kernel
theorem dX8_sunk_128 : decode cX8_sunk 128 = .ok (.invokevirtual 157, 3) := by decide +kernel
theorem dX8_sunk_131 : decode cX8_sunk 131 = .ok (.goto 4, 3) := by decide +kernel
theorem dX8_sunk_134 : decode cX8_sunk 134 = .ok (.iload_n 1, 1) := by decide +kernel
theorem dX8_sunk_135 : decode cX8_sunk 135 = .ok (.ireturn, 1) := by decide +kernel
theorem dX8_sunk_136 : decode cX8_sunk 136 = .ok (.aload_n 0, 1) := by decide +kernel
theorem dX8_sunk_137 : decode cX8_sunk 137 = .ok (.getfield 7, 3) := by decide +kernel
theorem dX8_sunk_140 : decode cX8_sunk 140 = .ok (.iload_n 1, 1) := by decide +kernel
theorem dX8_sunk_141 : decode cX8_sunk 141 = .ok (.iaload, 1) := by decide +kernel
theorem dX8_sunk_142 : decode cX8_sunk 142 = .ok (.iconst 5, 1) := by decide +kernel
theorem dX8_sunk_143 : decode cX8_sunk 143 = .ok (.if_icmp .ne 52, 3) := by decide +kernel
theorem dX8_sunk_146 : decode cX8_sunk 146 = .ok (.aload_n 0, 1) := by decide +kernel
theorem dX8_sunk_147 : decode cX8_sunk 147 = .ok (.getfield 7, 3) := by decide +kernel
theorem dX8_sunk_150 : decode cX8_sunk 150 = .ok (.aload_n 0, 1) := by decide +kernel
theorem dX8_sunk_151 : decode cX8_sunk 151 = .ok (.getfield 19, 3) := by decide +kernel
theorem dX8_sunk_154 : decode cX8_sunk 154 = .ok (.iload_n 1, 1) := by decide +kernel
theorem dX8_sunk_155 : decode cX8_sunk 155 = .ok (.iaload, 1) := by decide +kernel
theorem dX8_sunk_156 : decode cX8_sunk 156 = .ok (.iaload, 1) := by decide +kernel
theorem dX8_sunk_157 : decode cX8_sunk 157 = .ok (.iconst 3, 1) := by decide +kernel
theorem dX8_sunk_158 : decode cX8_sunk 158 = .ok (.if_icmp .ne 37, 3) := by decide +kernel
theorem dX8_sunk_161 : decode cX8_sunk 161 = .ok (.aload_n 0, 1) := by decide +kernel
theorem dX8_sunk_162 : decode cX8_sunk 162 = .ok (.iload_n 2, 1) := by decide +kernel
theorem dX8_sunk_163 : decode cX8_sunk 163 = .ok (.iconst 2, 1) := by decide +kernel
theorem dX8_sunk_164 : decode cX8_sunk 164 = .ok (.if_icmp .ne 7, 3) := by decide +kernel
theorem dX8_sunk_167 : decode cX8_sunk 167 = .ok (.iconst 5, 1) := by decide +kernel
theorem dX8_sunk_168 : decode cX8_sunk 168 = .ok (.goto 4, 3) := by decide +kernel
theorem dX8_sunk_171 : decode cX8_sunk 171 = .ok (.iconst 4, 1) := by decide +kernel
theorem dX8_sunk_172 : decode cX8_sunk 172 = .ok (.aload_n 0, 1) := by decide +kernel
theorem dX8_sunk_173 : decode cX8_sunk 173 = .ok (.getfield 16, 3) := by decide +kernel
theorem dX8_sunk_176 : decode cX8_sunk 176 = .ok (.iload_n 1, 1) := by decide +kernel
theorem dX8_sunk_177 : decode cX8_sunk 177 = .ok (.iaload, 1) := by decide +kernel
theorem dX8_sunk_178 : decode cX8_sunk 178 = .ok (.aload_n 0, 1) := by decide +kernel
theorem dX8_sunk_179 : decode cX8_sunk 179 = .ok (.getfield 16, 3) := by decide +kernel
theorem dX8_sunk_182 : decode cX8_sunk 182 = .ok (.aload_n 0, 1) := by decide +kernel
theorem dX8_sunk_183 : decode cX8_sunk 183 = .ok (.getfield 19, 3) := by decide +kernel
theorem dX8_sunk_186 : decode cX8_sunk 186 = .ok (.iload_n 1, 1) := by decide +kernel
theorem dX8_sunk_187 : decode cX8_sunk 187 = .ok (.iaload, 1) := by decide +kernel
theorem dX8_sunk_188 : decode cX8_sunk 188 = .ok (.iaload, 1) := by decide +kernel
theorem dX8_sunk_189 : decode cX8_sunk 189 = .ok (.invokevirtual 157, 3) := by decide +kernel
theorem dX8_sunk_192 : decode cX8_sunk 192 = .ok (.goto 4, 3) := by decide +kernel
theorem dX8_sunk_195 : decode cX8_sunk 195 = .ok (.iload_n 1, 1) := by decide +kernel
theorem dX8_sunk_196 : decode cX8_sunk 196 = .ok (.ireturn, 1) := by decide +kernel
theorem dX8_turned_0 : decode cX8_turned 0 = .ok (.aload_n 0, 1) := by decide +kernel
theorem dX8_turned_1 : decode cX8_turned 1 = .ok (.getfield 16, 3) := by decide +kernel
theorem dX8_turned_4 : decode cX8_turned 4 = .ok (.iload_n 1, 1) := by decide +kernel
theorem dX8_turned_5 : decode cX8_turned 5 = .ok (.iaload, 1) := by decide +kernel
theorem dX8_turned_6 : decode cX8_turned 6 = .ok (.ifCond .ge 7, 3) := by decide +kernel
theorem dX8_turned_9 : decode cX8_turned 9 = .ok (.iconst (-1), 1) := by decide +kernel
theorem dX8_turned_10 : decode cX8_turned 10 = .ok (.goto 15, 3) := by decide +kernel
theorem dX8_turned_13 : decode cX8_turned 13 = .ok (.aload_n 0, 1) := by decide +kernel
theorem dX8_turned_14 : decode cX8_turned 14 = .ok (.aload_n 0, 1) := by decide +kernel
theorem dX8_turned_15 : decode cX8_turned 15 = .ok (.getfield 16, 3) := by decide +kernel
theorem dX8_turned_18 : decode cX8_turned 18 = .ok (.iload_n 1, 1) := by decide +kernel
theorem dX8_turned_19 : decode cX8_turned 19 = .ok (.iaload, 1) := by decide +kernel
theorem dX8_turned_20 : decode cX8_turned 20 = .ok (.iload_n 2, 1) := by decide +kernel
theorem dX8_turned_21 : decode cX8_turned 21 = .ok (.iload_n 3, 1) := by decide +kernel
theorem dX8_turned_22 : decode cX8_turned 22 = .ok (.invokevirtual 163, 3) := by decide +kernel
theorem dX8_turned_25 : decode cX8_turned 25 = .ok (.istore 4, 2) := by decide +kernel
theorem dX8_turned_27 : decode cX8_turned 27 = .ok (.aload_n 0, 1) := by decide +kernel
theorem dX8_turned_28 : decode cX8_turned 28 = .ok (.getfield 19, 3) := by decide +kernel
theorem dX8_turned_31 : decode cX8_turned 31 = .ok (.iload_n 1, 1) := by decide +kernel
theorem dX8_turned_32 : decode cX8_turned 32 = .ok (.iaload, 1) := by decide +kernel
theorem dX8_turned_33 : decode cX8_turned 33 = .ok (.ifCond .ge 7, 3) := by decide +kernel
theorem dX8_turned_36 : decode cX8_turned 36 = .ok (.iconst (-1), 1) := by decide +kernel
theorem dX8_turned_37 : decode cX8_turned 37 = .ok (.goto 15, 3) := by decide +kernel
theorem dX8_turned_40 : decode cX8_turned 40 = .ok (.aload_n 0, 1) := by decide +kernel
theorem dX8_turned_41 : decode cX8_turned 41 = .ok (.aload_n 0, 1) := by decide +kernel
theorem dX8_turned_42 : decode cX8_turned 42 = .ok (.getfield 19, 3) := by decide +kernel
theorem dX8_turned_45 : decode cX8_turned 45 = .ok (.iload_n 1, 1) := by decide +kernel
theorem dX8_turned_46 : decode cX8_turned 46 = .ok (.iaload, 1) := by decide +kernel
theorem dX8_turned_47 : decode cX8_turned 47 = .ok (.iload_n 2, 1) := by decide +kernel
theorem dX8_turned_48 : decode cX8_turned 48 = .ok (.iload_n 3, 1) := by decide +kernel
theorem dX8_turned_49 : decode cX8_turned 49 = .ok (.invokevirtual 163, 3) := by decide +kernel
theorem dX8_turned_52 : decode cX8_turned 52 = .ok (.istore 5, 2) := by decide +kernel
theorem dX8_turned_54 : decode cX8_turned 54 = .ok (.aload_n 0, 1) := by decide +kernel
theorem dX8_turned_55 : decode cX8_turned 55 = .ok (.getfield 22, 3) := by decide +kernel
theorem dX8_turned_58 : decode cX8_turned 58 = .ok (.iload_n 1, 1) := by decide +kernel
theorem dX8_turned_59 : decode cX8_turned 59 = .ok (.iaload, 1) := by decide +kernel
theorem dX8_turned_60 : decode cX8_turned 60 = .ok (.ifCond .ge 7, 3) := by decide +kernel
theorem dX8_turned_63 : decode cX8_turned 63 = .ok (.iconst (-1), 1) := by decide +kernel
theorem dX8_turned_64 : decode cX8_turned 64 = .ok (.goto 15, 3) := by decide +kernel
theorem dX8_turned_67 : decode cX8_turned 67 = .ok (.aload_n 0, 1) := by decide +kernel
theorem dX8_turned_68 : decode cX8_turned 68 = .ok (.aload_n 0, 1) := by decide +kernel
theorem dX8_turned_69 : decode cX8_turned 69 = .ok (.getfield 22, 3) := by decide +kernel
theorem dX8_turned_72 : decode cX8_turned 72 = .ok (.iload_n 1, 1) := by decide +kernel
theorem dX8_turned_73 : decode cX8_turned 73 = .ok (.iaload, 1) := by decide +kernel
theorem dX8_turned_74 : decode cX8_turned 74 = .ok (.iload_n 2, 1) := by decide +kernel
theorem dX8_turned_75 : decode cX8_turned 75 = .ok (.iload_n 3, 1) := by decide +kernel
theorem dX8_turned_76 : decode cX8_turned 76 = .ok (.invokevirtual 163, 3) := by decide +kernel
theorem dX8_turned_79 : decode cX8_turned 79 = .ok (.istore 6, 2) := by decide +kernel
theorem dX8_turned_81 : decode cX8_turned 81 = .ok (.iload 4, 2) := by decide +kernel
theorem dX8_turned_83 : decode cX8_turned 83 = .ok (.aload_n 0, 1) := by decide +kernel
theorem dX8_turned_84 : decode cX8_turned 84 = .ok (.getfield 16, 3) := by decide +kernel
theorem dX8_turned_87 : decode cX8_turned 87 = .ok (.iload_n 1, 1) := by decide +kernel
theorem dX8_turned_88 : decode cX8_turned 88 = .ok (.iaload, 1) := by decide +kernel
theorem dX8_turned_89 : decode cX8_turned 89 = .ok (.if_icmp .ne 29, 3) := by decide +kernel
theorem dX8_turned_92 : decode cX8_turned 92 = .ok (.iload 5, 2) := by decide +kernel
theorem dX8_turned_94 : decode cX8_turned 94 = .ok (.aload_n 0, 1) := by decide +kernel
theorem dX8_turned_95 : decode cX8_turned 95 = .ok (.getfield 19, 3) := by decide +kernel
theorem dX8_turned_98 : decode cX8_turned 98 = .ok (.iload_n 1, 1) := by decide +kernel
theorem dX8_turned_99 : decode cX8_turned 99 = .ok (.iaload, 1) := by decide +kernel
theorem dX8_turned_100 : decode cX8_turned 100 = .ok (.if_icmp .ne 18, 3) := by decide +kernel
theorem dX8_turned_103 : decode cX8_turned 103 = .ok (.iload 6, 2) := by decide +kernel
theorem dX8_turned_105 : decode cX8_turned 105 = .ok (.aload_n 0, 1) := by decide +kernel
theorem dX8_turned_106 : decode cX8_turned 106 = .ok (.getfield 22, 3) := by decide +kernel
theorem dX8_turned_109 : decode cX8_turned 109 = .ok (.iload_n 1, 1) := by decide +kernel
theorem dX8_turned_110 : decode cX8_turned 110 = .ok (.iaload, 1) := by decide +kernel
theorem dX8_turned_111 : decode cX8_turned 111 = .ok (.if_icmp .ne 7, 3) := by decide +kernel
theorem dX8_turned_114 : decode cX8_turned 114 = .ok (.iload_n 1, 1) := by decide +kernel
theorem dX8_turned_115 : decode cX8_turned 115 = .ok (.goto 25, 3) := by decide +kernel
theorem dX8_turned_118 : decode cX8_turned 118 = .ok (.aload_n 0, 1) := by decide +kernel
theorem dX8_turned_119 : decode cX8_turned 119 = .ok (.aload_n 0, 1) := by decide +kernel
theorem dX8_turned_120 : decode cX8_turned 120 = .ok (.getfield 7, 3) := by decide +kernel
theorem dX8_turned_123 : decode cX8_turned 123 = .ok (.iload_n 1, 1) := by decide +kernel
theorem dX8_turned_124 : decode cX8_turned 124 = .ok (.iaload, 1) := by decide +kernel
theorem dX8_turned_125 : decode cX8_turned 125 = .ok (.aload_n 0, 1) := by decide +kernel
theorem dX8_turned_126 : decode cX8_turned 126 = .ok (.getfield 13, 3) := by decide +kernel
theorem dX8_turned_129 : decode cX8_turned 129 = .ok (.iload_n 1, 1) := by decide +kernel
theorem dX8_turned_130 : decode cX8_turned 130 = .ok (.iaload, 1) := by decide +kernel
theorem dX8_turned_131 : decode cX8_turned 131 = .ok (.iload 4, 2) := by decide +kernel
theorem dX8_turned_133 : decode cX8_turned 133 = .ok (.iload 5, 2) := by decide +kernel
theorem dX8_turned_135 : decode cX8_turned 135 = .ok (.iload 6, 2) := by decide +kernel
theorem dX8_turned_137 : decode cX8_turned 137 = .ok (.invokevirtual 96, 3) := by decide +kernel
theorem dX8_turned_140 : decode cX8_turned 140 = .ok (.istore 7, 2) := by decide +kernel
theorem dX8_turned_142 : decode cX8_turned 142 = .ok (.aload_n 0, 1) := by decide +kernel
theorem dX8_turned_143 : decode cX8_turned 143 = .ok (.iload 7, 2) := by decide +kernel
theorem dX8_turned_145 : decode cX8_turned 145 = .ok (.iload_n 2, 1) := by decide +kernel
theorem dX8_turned_146 : decode cX8_turned 146 = .ok (.iload_n 3, 1) := by decide +kernel
theorem dX8_turned_147 : decode cX8_turned 147 = .ok (.invokevirtual 166, 3) := by decide +kernel
theorem dX8_turned_150 : decode cX8_turned 150 = .ok (.istore 8, 2) := by decide +kernel
theorem dX8_turned_152 : decode cX8_turned 152 = .ok (.iload 8, 2) := by decide +kernel
theorem dX8_turned_154 : decode cX8_turned 154 = .ok (.iload 7, 2) := by decide +kernel
theorem dX8_turned_156 : decode cX8_turned 156 = .ok (.if_icmp .eq 37, 3) := by decide +kernel
theorem dX8_turned_159 : decode cX8_turned 159 = .ok (.aload_n 0, 1) := by decide +kernel
theorem dX8_turned_160 : decode cX8_turned 160 = .ok (.dup, 1) := by decide +kernel
theorem dX8_turned_161 : decode cX8_turned 161 = .ok (.getfield 169, 3) := by decide +kernel
theorem dX8_turned_164 : decode cX8_turned 164 = .ok (.iconst 1, 1) := by decide +kernel
theorem dX8_turned_165 : decode cX8_turned 165 = .ok (.iadd, 1) := by decide +kernel
theorem dX8_turned_166 : decode cX8_turned 166 = .ok (.putfield 169, 3) := by decide +kernel
theorem dX8_turned_169 : decode cX8_turned 169 = .ok (.aload_n 0, 1) := by decide +kernel
theorem dX8_turned_170 : decode cX8_turned 170 = .ok (.dup, 1) := by decide +kernel
theorem dX8_turned_171 : decode cX8_turned 171 = .ok (.getfield 154, 3) := by decide +kernel
theorem dX8_turned_174 : decode cX8_turned 174 = .ok (.aload_n 0, 1) := by decide +kernel
theorem dX8_turned_175 : decode cX8_turned 175 = .ok (.getfield 25, 3) := by decide +kernel
theorem dX8_turned_178 : decode cX8_turned 178 = .ok (.iload 8, 2) := by decide +kernel
theorem dX8_turned_180 : decode cX8_turned 180 = .ok (.iaload, 1) := by decide +kernel
theorem dX8_turned_181 : decode cX8_turned 181 = .ok (.aload_n 0, 1) := by decide +kernel
theorem dX8_turned_182 : decode cX8_turned 182 = .ok (.getfield 25, 3) := by decide +kernel
theorem dX8_turned_185 : decode cX8_turned 185 = .ok (.iload 7, 2) := by decide +kernel
theorem dX8_turned_187 : decode cX8_turned 187 = .ok (.iaload, 1) := by decide +kernel
theorem dX8_turned_188 : decode cX8_turned 188 = .ok (.isub, 1) := by decide +kernel
theorem dX8_turned_189 : decode cX8_turned 189 = .ok (.iadd, 1) := by decide +kernel
theorem dX8_turned_190 : decode cX8_turned 190 = .ok (.putfield 154, 3) := by decide +kernel
theorem dX8_turned_193 : decode cX8_turned 193 = .ok (.iload 8, 2) := by decide +kernel
theorem dX8_turned_195 : decode cX8_turned 195 = .ok (.ireturn, 1) := by decide +kernel
theorem dX8_goOver_0 : decode cX8_goOver 0 = .ok (.aload_n 0, 1) := by decide +kernel
theorem dX8_goOver_1 : decode cX8_goOver 1 = .ok (.iconst 0, 1) := by decide +kernel
theorem dX8_goOver_2 : decode cX8_goOver 2 = .ok (.putfield 169, 3) := by decide +kernel
theorem dX8_goOver_5 : decode cX8_goOver 5 = .ok (.aload_n 0, 1) := by decide +kernel
theorem dX8_goOver_6 : decode cX8_goOver 6 = .ok (.aload_n 0, 1) := by decide +kernel
theorem dX8_goOver_7 : decode cX8_goOver 7 = .ok (.getfield 25, 3) := by decide +kernel
theorem dX8_goOver_10 : decode cX8_goOver 10 = .ok (.iload_n 1, 1) := by decide +kernel
theorem dX8_goOver_11 : decode cX8_goOver 11 = .ok (.iaload, 1) := by decide +kernel
theorem dX8_goOver_12 : decode cX8_goOver 12 = .ok (.putfield 154, 3) := by decide +kernel
theorem dX8_goOver_15 : decode cX8_goOver 15 = .ok (.aload_n 0, 1) := by decide +kernel
theorem dX8_goOver_16 : decode cX8_goOver 16 = .ok (.iload_n 1, 1) := by decide +kernel
theorem dX8_goOver_17 : decode cX8_goOver 17 = .ok (.aload_n 0, 1) := by decide +kernel
theorem dX8_goOver_18 : decode cX8_goOver 18 = .ok (.getfield 65, 3) := by decide +kernel
theorem dX8_goOver_21 : decode cX8_goOver 21 = .ok (.bipush 10, 2) := by decide +kernel
theorem dX8_goOver_23 : decode cX8_goOver 23 = .ok (.iload_n 2, 1) := by decide +kernel
theorem dX8_goOver_24 : decode cX8_goOver 24 = .ok (.imul, 1) := by decide +kernel
theorem dX8_goOver_25 : decode cX8_goOver 25 = .ok (.iload_n 3, 1) := by decide +kernel
theorem dX8_goOver_26 : decode cX8_goOver 26 = .ok (.iadd, 1) := by decide +kernel
theorem dX8_goOver_27 : decode cX8_goOver 27 = .ok (.iaload, 1) := by decide +kernel
theorem dX8_goOver_28 : decode cX8_goOver 28 = .ok (.aload_n 0, 1) := by decide +kernel
theorem dX8_goOver_29 : decode cX8_goOver 29 = .ok (.getfield 68, 3) := by decide +kernel
theorem dX8_goOver_32 : decode cX8_goOver 32 = .ok (.bipush 10, 2) := by decide +kernel
theorem dX8_goOver_34 : decode cX8_goOver 34 = .ok (.iload_n 2, 1) := by decide +kernel
theorem dX8_goOver_35 : decode cX8_goOver 35 = .ok (.imul, 1) := by decide +kernel
theorem dX8_goOver_36 : decode cX8_goOver 36 = .ok (.iload_n 3, 1) := by decide +kernel
theorem dX8_goOver_37 : decode cX8_goOver 37 = .ok (.iadd, 1) := by decide +kernel
theorem dX8_goOver_38 : decode cX8_goOver 38 = .ok (.iaload, 1) := by decide +kernel
theorem dX8_goOver_39 : decode cX8_goOver 39 = .ok (.invokevirtual 163, 3) := by decide +kernel
theorem dX8_goOver_42 : decode cX8_goOver 42 = .ok (.ireturn, 1) := by decide +kernel
theorem dX8_madeBy_0 : decode cX8_madeBy 0 = .ok (.iload_n 1, 1) := by decide +kernel
theorem dX8_madeBy_1 : decode cX8_madeBy 1 = .ok (.istore 4, 2) := by decide +kernel
theorem dX8_madeBy_3 : decode cX8_madeBy 3 = .ok (.iconst 0, 1) := by decide +kernel
theorem dX8_madeBy_4 : decode cX8_madeBy 4 = .ok (.istore 5, 2) := by decide +kernel
theorem dX8_madeBy_6 : decode cX8_madeBy 6 = .ok (.iload 5, 2) := by decide +kernel
theorem dX8_madeBy_8 : decode cX8_madeBy 8 = .ok (.iload_n 3, 1) := by decide +kernel
theorem dX8_madeBy_9 : decode cX8_madeBy 9 = .ok (.if_icmp .ge 20, 3) := by decide +kernel
theorem dX8_madeBy_12 : decode cX8_madeBy 12 = .ok (.aload_n 0, 1) := by decide +kernel
theorem dX8_madeBy_13 : decode cX8_madeBy 13 = .ok (.iload 4, 2) := by decide +kernel
theorem dX8_madeBy_15 : decode cX8_madeBy 15 = .ok (.iload_n 2, 1) := by decide +kernel
theorem dX8_madeBy_16 : decode cX8_madeBy 16 = .ok (.iload 5, 2) := by decide +kernel
theorem dX8_madeBy_18 : decode cX8_madeBy 18 = .ok (.invokevirtual 172, 3) := by decide +kernel
theorem dX8_madeBy_21 : decode cX8_madeBy 21 = .ok (.istore 4, 2) := by decide +kernel
theorem dX8_madeBy_23 : decode cX8_madeBy 23 = .ok (.iinc 5 1, 3) := by decide +kernel
theorem dX8_madeBy_26 : decode cX8_madeBy 26 = .ok (.goto (-20), 3) := by decide +kernel
theorem dX8_madeBy_29 : decode cX8_madeBy 29 = .ok (.iload 4, 2) := by decide +kernel
theorem dX8_madeBy_31 : decode cX8_madeBy 31 = .ok (.ireturn, 1) := by decide +kernel
theorem dX8_isPlace_0 : decode cX8_isPlace 0 = .ok (.iload_n 0, 1) := by decide +kernel
theorem dX8_isPlace_1 : decode cX8_isPlace 1 = .ok (.i2l, 1) := by decide +kernel
theorem dX8_isPlace_2 : decode cX8_isPlace 2 = .ok (.lconst 0, 1) := by decide +kernel
theorem dX8_isPlace_3 : decode cX8_isPlace 3 = .ok (.ldc2_w 175, 3) := by decide +kernel
theorem dX8_isPlace_6 : decode cX8_isPlace 6 = .ok (.invokestatic 177, 3) := by decide +kernel
theorem dX8_isPlace_9 : decode cX8_isPlace 9 = .ok (.ireturn, 1) := by decide +kernel
theorem dX8_has_0 : decode cX8_has 0 = .ok (.iload_n 1, 1) := by decide +kernel
theorem dX8_has_1 : decode cX8_has 1 = .ok (.invokestatic 181, 3) := by decide +kernel
theorem dX8_has_4 : decode cX8_has 4 = .ok (.ifCond .eq 16, 3) := by decide +kernel
theorem dX8_has_7 : decode cX8_has 7 = .ok (.aload_n 0, 1) := by decide +kernel
theorem dX8_has_8 : decode cX8_has 8 = .ok (.getfield 28, 3) := by decide +kernel
theorem dX8_has_11 : decode cX8_has 11 = .ok (.iload_n 1, 1) := by decide +kernel
theorem dX8_has_12 : decode cX8_has 12 = .ok (.iaload, 1) := by decide +kernel
theorem dX8_has_13 : decode cX8_has 13 = .ok (.ifCond .le 7, 3) := by decide +kernel
theorem dX8_has_16 : decode cX8_has 16 = .ok (.iconst 1, 1) := by decide +kernel
theorem dX8_has_17 : decode cX8_has 17 = .ok (.goto 4, 3) := by decide +kernel
theorem dX8_has_20 : decode cX8_has 20 = .ok (.iconst 0, 1) := by decide +kernel
theorem dX8_has_21 : decode cX8_has 21 = .ok (.ireturn, 1) := by decide +kernel
theorem dX8_take_0 : decode cX8_take 0 = .ok (.aload_n 0, 1) := by decide +kernel
theorem dX8_take_1 : decode cX8_take 1 = .ok (.aload_n 0, 1) := by decide +kernel
theorem dX8_take_2 : decode cX8_take 2 = .ok (.getfield 28, 3) := by decide +kernel
theorem dX8_take_5 : decode cX8_take 5 = .ok (.iload_n 1, 1) := by decide +kernel
theorem dX8_take_6 : decode cX8_take 6 = .ok (.iaload, 1) := by decide +kernel
theorem dX8_take_7 : decode cX8_take 7 = .ok (.putfield 185, 3) := by decide +kernel
theorem dX8_take_10 : decode cX8_take 10 = .ok (.iconst 0, 1) := by decide +kernel
theorem dX8_take_11 : decode cX8_take 11 = .ok (.istore_n 2, 1) := by decide +kernel
theorem dX8_take_12 : decode cX8_take 12 = .ok (.iload_n 2, 1) := by decide +kernel
theorem dX8_take_13 : decode cX8_take 13 = .ok (.aload_n 0, 1) := by decide +kernel
theorem dX8_take_14 : decode cX8_take 14 = .ok (.getfield 185, 3) := by decide +kernel
theorem dX8_take_17 : decode cX8_take 17 = .ok (.if_icmp .ge 43, 3) := by decide +kernel
theorem dX8_take_20 : decode cX8_take 20 = .ok (.aload_n 0, 1) := by decide +kernel
theorem dX8_take_21 : decode cX8_take 21 = .ok (.getfield 37, 3) := by decide +kernel
theorem dX8_take_24 : decode cX8_take 24 = .ok (.iload_n 2, 1) := by decide +kernel
theorem dX8_take_25 : decode cX8_take 25 = .ok (.aload_n 0, 1) := by decide +kernel
theorem dX8_take_26 : decode cX8_take 26 = .ok (.getfield 31, 3) := by decide +kernel
theorem dX8_take_29 : decode cX8_take 29 = .ok (.bipush 60, 2) := by decide +kernel
theorem dX8_take_31 : decode cX8_take 31 = .ok (.iload_n 1, 1) := by decide +kernel
theorem dX8_take_32 : decode cX8_take 32 = .ok (.imul, 1) := by decide +kernel
theorem dX8_take_33 : decode cX8_take 33 = .ok (.iload_n 2, 1) := by decide +kernel
theorem dX8_take_34 : decode cX8_take 34 = .ok (.iadd, 1) := by decide +kernel
theorem dX8_take_35 : decode cX8_take 35 = .ok (.iaload, 1) := by decide +kernel
theorem dX8_take_36 : decode cX8_take 36 = .ok (.iastore, 1) := by decide +kernel
theorem dX8_take_37 : decode cX8_take 37 = .ok (.aload_n 0, 1) := by decide +kernel
theorem dX8_take_38 : decode cX8_take 38 = .ok (.getfield 40, 3) := by decide +kernel
theorem dX8_take_41 : decode cX8_take 41 = .ok (.iload_n 2, 1) := by decide +kernel
theorem dX8_take_42 : decode cX8_take 42 = .ok (.aload_n 0, 1) := by decide +kernel
theorem dX8_take_43 : decode cX8_take 43 = .ok (.getfield 34, 3) := by decide +kernel
theorem dX8_take_46 : decode cX8_take 46 = .ok (.bipush 60, 2) := by decide +kernel
theorem dX8_take_48 : decode cX8_take 48 = .ok (.iload_n 1, 1) := by decide +kernel
theorem dX8_take_49 : decode cX8_take 49 = .ok (.imul, 1) := by decide +kernel
theorem dX8_take_50 : decode cX8_take 50 = .ok (.iload_n 2, 1) := by decide +kernel
theorem dX8_take_51 : decode cX8_take 51 = .ok (.iadd, 1) := by decide +kernel
theorem dX8_take_52 : decode cX8_take 52 = .ok (.iaload, 1) := by decide +kernel
theorem dX8_take_53 : decode cX8_take 53 = .ok (.iastore, 1) := by decide +kernel
theorem dX8_take_54 : decode cX8_take 54 = .ok (.iinc 2 1, 3) := by decide +kernel
theorem dX8_take_57 : decode cX8_take 57 = .ok (.goto (-45), 3) := by decide +kernel
theorem dX8_take_60 : decode cX8_take 60 = .ok (.return_, 1) := by decide +kernel
theorem dX8_put_0 : decode cX8_put 0 = .ok (.aload_n 0, 1) := by decide +kernel
theorem dX8_put_1 : decode cX8_put 1 = .ok (.getfield 28, 3) := by decide +kernel
theorem dX8_put_4 : decode cX8_put 4 = .ok (.iload_n 1, 1) := by decide +kernel
theorem dX8_put_5 : decode cX8_put 5 = .ok (.aload_n 0, 1) := by decide +kernel
theorem dX8_put_6 : decode cX8_put 6 = .ok (.getfield 185, 3) := by decide +kernel
theorem dX8_put_9 : decode cX8_put 9 = .ok (.iastore, 1) := by decide +kernel
theorem dX8_put_10 : decode cX8_put 10 = .ok (.iconst 0, 1) := by decide +kernel
theorem dX8_put_11 : decode cX8_put 11 = .ok (.istore_n 2, 1) := by decide +kernel
theorem dX8_put_12 : decode cX8_put 12 = .ok (.iload_n 2, 1) := by decide +kernel
theorem dX8_put_13 : decode cX8_put 13 = .ok (.aload_n 0, 1) := by decide +kernel
theorem dX8_put_14 : decode cX8_put 14 = .ok (.getfield 185, 3) := by decide +kernel
theorem dX8_put_17 : decode cX8_put 17 = .ok (.if_icmp .ge 43, 3) := by decide +kernel
theorem dX8_put_20 : decode cX8_put 20 = .ok (.aload_n 0, 1) := by decide +kernel
theorem dX8_put_21 : decode cX8_put 21 = .ok (.getfield 31, 3) := by decide +kernel
theorem dX8_put_24 : decode cX8_put 24 = .ok (.bipush 60, 2) := by decide +kernel
theorem dX8_put_26 : decode cX8_put 26 = .ok (.iload_n 1, 1) := by decide +kernel
theorem dX8_put_27 : decode cX8_put 27 = .ok (.imul, 1) := by decide +kernel
theorem dX8_put_28 : decode cX8_put 28 = .ok (.iload_n 2, 1) := by decide +kernel
theorem dX8_put_29 : decode cX8_put 29 = .ok (.iadd, 1) := by decide +kernel
theorem dX8_put_30 : decode cX8_put 30 = .ok (.aload_n 0, 1) := by decide +kernel
theorem dX8_put_31 : decode cX8_put 31 = .ok (.getfield 37, 3) := by decide +kernel
theorem dX8_put_34 : decode cX8_put 34 = .ok (.iload_n 2, 1) := by decide +kernel
theorem dX8_put_35 : decode cX8_put 35 = .ok (.iaload, 1) := by decide +kernel
theorem dX8_put_36 : decode cX8_put 36 = .ok (.iastore, 1) := by decide +kernel
theorem dX8_put_37 : decode cX8_put 37 = .ok (.aload_n 0, 1) := by decide +kernel
theorem dX8_put_38 : decode cX8_put 38 = .ok (.getfield 34, 3) := by decide +kernel
theorem dX8_put_41 : decode cX8_put 41 = .ok (.bipush 60, 2) := by decide +kernel
theorem dX8_put_43 : decode cX8_put 43 = .ok (.iload_n 1, 1) := by decide +kernel
theorem dX8_put_44 : decode cX8_put 44 = .ok (.imul, 1) := by decide +kernel
theorem dX8_put_45 : decode cX8_put 45 = .ok (.iload_n 2, 1) := by decide +kernel
theorem dX8_put_46 : decode cX8_put 46 = .ok (.iadd, 1) := by decide +kernel
theorem dX8_put_47 : decode cX8_put 47 = .ok (.aload_n 0, 1) := by decide +kernel
theorem dX8_put_48 : decode cX8_put 48 = .ok (.getfield 40, 3) := by decide +kernel
theorem dX8_put_51 : decode cX8_put 51 = .ok (.iload_n 2, 1) := by decide +kernel
theorem dX8_put_52 : decode cX8_put 52 = .ok (.iaload, 1) := by decide +kernel
theorem dX8_put_53 : decode cX8_put 53 = .ok (.iastore, 1) := by decide +kernel
theorem dX8_put_54 : decode cX8_put 54 = .ok (.iinc 2 1, 3) := by decide +kernel
theorem dX8_put_57 : decode cX8_put 57 = .ok (.goto (-45), 3) := by decide +kernel
theorem dX8_put_60 : decode cX8_put 60 = .ok (.aload_n 0, 1) := by decide +kernel
theorem dX8_put_61 : decode cX8_put 61 = .ok (.getfield 185, 3) := by decide +kernel
theorem dX8_put_64 : decode cX8_put 64 = .ok (.ireturn, 1) := by decide +kernel
theorem dX8_grow_0 : decode cX8_grow 0 = .ok (.aload_n 0, 1) := by decide +kernel
theorem dX8_grow_1 : decode cX8_grow 1 = .ok (.getfield 37, 3) := by decide +kernel
theorem dX8_grow_4 : decode cX8_grow 4 = .ok (.aload_n 0, 1) := by decide +kernel
theorem dX8_grow_5 : decode cX8_grow 5 = .ok (.getfield 188, 3) := by decide +kernel
theorem dX8_grow_8 : decode cX8_grow 8 = .ok (.iaload, 1) := by decide +kernel
theorem dX8_grow_9 : decode cX8_grow 9 = .ok (.istore_n 1, 1) := by decide +kernel
theorem dX8_grow_10 : decode cX8_grow 10 = .ok (.aload_n 0, 1) := by decide +kernel
theorem dX8_grow_11 : decode cX8_grow 11 = .ok (.getfield 40, 3) := by decide +kernel
theorem dX8_grow_14 : decode cX8_grow 14 = .ok (.aload_n 0, 1) := by decide +kernel
theorem dX8_grow_15 : decode cX8_grow 15 = .ok (.getfield 188, 3) := by decide +kernel
theorem dX8_grow_18 : decode cX8_grow 18 = .ok (.iaload, 1) := by decide +kernel
theorem dX8_grow_19 : decode cX8_grow 19 = .ok (.istore_n 2, 1) := by decide +kernel
theorem dX8_grow_20 : decode cX8_grow 20 = .ok (.aload_n 0, 1) := by decide +kernel
theorem dX8_grow_21 : decode cX8_grow 21 = .ok (.dup, 1) := by decide +kernel
theorem dX8_grow_22 : decode cX8_grow 22 = .ok (.getfield 188, 3) := by decide +kernel
theorem dX8_grow_25 : decode cX8_grow 25 = .ok (.iconst 1, 1) := by decide +kernel
theorem dX8_grow_26 : decode cX8_grow 26 = .ok (.iadd, 1) := by decide +kernel
theorem dX8_grow_27 : decode cX8_grow 27 = .ok (.putfield 188, 3) := by decide +kernel
theorem dX8_grow_30 : decode cX8_grow 30 = .ok (.iload_n 1, 1) := by decide +kernel
theorem dX8_grow_31 : decode cX8_grow 31 = .ok (.invokestatic 191, 3) := by decide +kernel
theorem dX8_grow_34 : decode cX8_grow 34 = .ok (.ifCond .le 10, 3) := by decide +kernel
theorem dX8_grow_37 : decode cX8_grow 37 = .ok (.aload_n 0, 1) := by decide +kernel
theorem dX8_grow_38 : decode cX8_grow 38 = .ok (.invokevirtual 194, 3) := by decide +kernel
theorem dX8_grow_41 : decode cX8_grow 41 = .ok (.goto 4, 3) := by decide +kernel
theorem dX8_grow_44 : decode cX8_grow 44 = .ok (.iconst (-1), 1) := by decide +kernel
theorem dX8_grow_45 : decode cX8_grow 45 = .ok (.istore_n 3, 1) := by decide +kernel
theorem dX8_grow_46 : decode cX8_grow 46 = .ok (.iload_n 1, 1) := by decide +kernel
theorem dX8_grow_47 : decode cX8_grow 47 = .ok (.invokestatic 191, 3) := by decide +kernel
theorem dX8_grow_50 : decode cX8_grow 50 = .ok (.iconst 1, 1) := by decide +kernel
theorem dX8_grow_51 : decode cX8_grow 51 = .ok (.if_icmp .le 10, 3) := by decide +kernel
theorem dX8_grow_54 : decode cX8_grow 54 = .ok (.aload_n 0, 1) := by decide +kernel
theorem dX8_grow_55 : decode cX8_grow 55 = .ok (.invokevirtual 194, 3) := by decide +kernel
theorem dX8_grow_58 : decode cX8_grow 58 = .ok (.goto 4, 3) := by decide +kernel
theorem dX8_grow_61 : decode cX8_grow 61 = .ok (.iconst (-1), 1) := by decide +kernel
theorem dX8_grow_62 : decode cX8_grow 62 = .ok (.istore 4, 2) := by decide +kernel
theorem dX8_grow_64 : decode cX8_grow 64 = .ok (.iload_n 1, 1) := by decide +kernel
theorem dX8_grow_65 : decode cX8_grow 65 = .ok (.invokestatic 191, 3) := by decide +kernel
theorem dX8_grow_68 : decode cX8_grow 68 = .ok (.iconst 2, 1) := by decide +kernel
theorem dX8_grow_69 : decode cX8_grow 69 = .ok (.if_icmp .le 10, 3) := by decide +kernel
theorem dX8_grow_72 : decode cX8_grow 72 = .ok (.aload_n 0, 1) := by decide +kernel
theorem dX8_grow_73 : decode cX8_grow 73 = .ok (.invokevirtual 194, 3) := by decide +kernel
theorem dX8_grow_76 : decode cX8_grow 76 = .ok (.goto 4, 3) := by decide +kernel
theorem dX8_grow_79 : decode cX8_grow 79 = .ok (.iconst (-1), 1) := by decide +kernel
theorem dX8_grow_80 : decode cX8_grow 80 = .ok (.istore 5, 2) := by decide +kernel
theorem dX8_grow_82 : decode cX8_grow 82 = .ok (.aload_n 0, 1) := by decide +kernel
theorem dX8_grow_83 : decode cX8_grow 83 = .ok (.iload_n 1, 1) := by decide +kernel
theorem dX8_grow_84 : decode cX8_grow 84 = .ok (.iload_n 2, 1) := by decide +kernel
theorem dX8_grow_85 : decode cX8_grow 85 = .ok (.iload_n 3, 1) := by decide +kernel
theorem dX8_grow_86 : decode cX8_grow 86 = .ok (.iload 4, 2) := by decide +kernel
theorem dX8_grow_88 : decode cX8_grow 88 = .ok (.iload 5, 2) := by decide +kernel
theorem dX8_grow_90 : decode cX8_grow 90 = .ok (.invokevirtual 96, 3) := by decide +kernel
theorem dX8_grow_93 : decode cX8_grow 93 = .ok (.ireturn, 1) := by decide +kernel
theorem dX8_tree_0 : decode cX8_tree 0 = .ok (.aload_n 0, 1) := by decide +kernel
theorem dX8_tree_1 : decode cX8_tree 1 = .ok (.iconst 0, 1) := by decide +kernel
theorem dX8_tree_2 : decode cX8_tree 2 = .ok (.putfield 93, 3) := by decide +kernel
theorem dX8_tree_5 : decode cX8_tree 5 = .ok (.aload_n 0, 1) := by decide +kernel
theorem dX8_tree_6 : decode cX8_tree 6 = .ok (.iconst 0, 1) := by decide +kernel
theorem dX8_tree_7 : decode cX8_tree 7 = .ok (.putfield 188, 3) := by decide +kernel
theorem dX8_tree_10 : decode cX8_tree 10 = .ok (.aload_n 0, 1) := by decide +kernel
theorem dX8_tree_11 : decode cX8_tree 11 = .ok (.invokevirtual 194, 3) := by decide +kernel
theorem dX8_tree_14 : decode cX8_tree 14 = .ok (.ireturn, 1) := by decide +kernel
theorem dX8_treeOf_0 : decode cX8_treeOf 0 = .ok (.aload_n 0, 1) := by decide +kernel
theorem dX8_treeOf_1 : decode cX8_treeOf 1 = .ok (.iload_n 1, 1) := by decide +kernel
theorem dX8_treeOf_2 : decode cX8_treeOf 2 = .ok (.invokevirtual 198, 3) := by decide +kernel
theorem dX8_treeOf_5 : decode cX8_treeOf 5 = .ok (.aload_n 0, 1) := by decide +kernel
theorem dX8_treeOf_6 : decode cX8_treeOf 6 = .ok (.invokevirtual 202, 3) := by decide +kernel
theorem dX8_treeOf_9 : decode cX8_treeOf 9 = .ok (.ireturn, 1) := by decide +kernel
theorem dX8_flatten_0 : decode cX8_flatten 0 = .ok (.aload_n 0, 1) := by decide +kernel
theorem dX8_flatten_1 : decode cX8_flatten 1 = .ok (.getfield 37, 3) := by decide +kernel
theorem dX8_flatten_4 : decode cX8_flatten 4 = .ok (.aload_n 0, 1) := by decide +kernel
theorem dX8_flatten_5 : decode cX8_flatten 5 = .ok (.getfield 185, 3) := by decide +kernel
theorem dX8_flatten_8 : decode cX8_flatten 8 = .ok (.aload_n 0, 1) := by decide +kernel
theorem dX8_flatten_9 : decode cX8_flatten 9 = .ok (.getfield 7, 3) := by decide +kernel
theorem dX8_flatten_12 : decode cX8_flatten 12 = .ok (.iload_n 1, 1) := by decide +kernel
theorem dX8_flatten_13 : decode cX8_flatten 13 = .ok (.iaload, 1) := by decide +kernel
theorem dX8_flatten_14 : decode cX8_flatten 14 = .ok (.iastore, 1) := by decide +kernel
theorem dX8_flatten_15 : decode cX8_flatten 15 = .ok (.aload_n 0, 1) := by decide +kernel
theorem dX8_flatten_16 : decode cX8_flatten 16 = .ok (.getfield 40, 3) := by decide +kernel
theorem dX8_flatten_19 : decode cX8_flatten 19 = .ok (.aload_n 0, 1) := by decide +kernel
theorem dX8_flatten_20 : decode cX8_flatten 20 = .ok (.getfield 185, 3) := by decide +kernel
theorem dX8_flatten_23 : decode cX8_flatten 23 = .ok (.aload_n 0, 1) := by decide +kernel
theorem dX8_flatten_24 : decode cX8_flatten 24 = .ok (.getfield 13, 3) := by decide +kernel
theorem dX8_flatten_27 : decode cX8_flatten 27 = .ok (.iload_n 1, 1) := by decide +kernel
theorem dX8_flatten_28 : decode cX8_flatten 28 = .ok (.iaload, 1) := by decide +kernel
theorem dX8_flatten_29 : decode cX8_flatten 29 = .ok (.iastore, 1) := by decide +kernel
theorem dX8_flatten_30 : decode cX8_flatten 30 = .ok (.aload_n 0, 1) := by decide +kernel
theorem dX8_flatten_31 : decode cX8_flatten 31 = .ok (.dup, 1) := by decide +kernel
theorem dX8_flatten_32 : decode cX8_flatten 32 = .ok (.getfield 185, 3) := by decide +kernel
theorem dX8_flatten_35 : decode cX8_flatten 35 = .ok (.iconst 1, 1) := by decide +kernel
theorem dX8_flatten_36 : decode cX8_flatten 36 = .ok (.iadd, 1) := by decide +kernel
theorem dX8_flatten_37 : decode cX8_flatten 37 = .ok (.putfield 185, 3) := by decide +kernel
theorem dX8_flatten_40 : decode cX8_flatten 40 = .ok (.aload_n 0, 1) := by decide +kernel
theorem dX8_flatten_41 : decode cX8_flatten 41 = .ok (.getfield 16, 3) := by decide +kernel
theorem dX8_flatten_44 : decode cX8_flatten 44 = .ok (.iload_n 1, 1) := by decide +kernel
theorem dX8_flatten_45 : decode cX8_flatten 45 = .ok (.iaload, 1) := by decide +kernel
theorem dX8_flatten_46 : decode cX8_flatten 46 = .ok (.ifCond .lt 13, 3) := by decide +kernel
theorem dX8_flatten_49 : decode cX8_flatten 49 = .ok (.aload_n 0, 1) := by decide +kernel
theorem dX8_flatten_50 : decode cX8_flatten 50 = .ok (.aload_n 0, 1) := by decide +kernel
theorem dX8_flatten_51 : decode cX8_flatten 51 = .ok (.getfield 16, 3) := by decide +kernel
theorem dX8_flatten_54 : decode cX8_flatten 54 = .ok (.iload_n 1, 1) := by decide +kernel
theorem dX8_flatten_55 : decode cX8_flatten 55 = .ok (.iaload, 1) := by decide +kernel
theorem dX8_flatten_56 : decode cX8_flatten 56 = .ok (.invokevirtual 205, 3) := by decide +kernel
theorem dX8_flatten_59 : decode cX8_flatten 59 = .ok (.aload_n 0, 1) := by decide +kernel
theorem dX8_flatten_60 : decode cX8_flatten 60 = .ok (.getfield 19, 3) := by decide +kernel
theorem dX8_flatten_63 : decode cX8_flatten 63 = .ok (.iload_n 1, 1) := by decide +kernel
theorem dX8_flatten_64 : decode cX8_flatten 64 = .ok (.iaload, 1) := by decide +kernel
theorem dX8_flatten_65 : decode cX8_flatten 65 = .ok (.ifCond .lt 13, 3) := by decide +kernel
theorem dX8_flatten_68 : decode cX8_flatten 68 = .ok (.aload_n 0, 1) := by decide +kernel
theorem dX8_flatten_69 : decode cX8_flatten 69 = .ok (.aload_n 0, 1) := by decide +kernel
theorem dX8_flatten_70 : decode cX8_flatten 70 = .ok (.getfield 19, 3) := by decide +kernel
theorem dX8_flatten_73 : decode cX8_flatten 73 = .ok (.iload_n 1, 1) := by decide +kernel
theorem dX8_flatten_74 : decode cX8_flatten 74 = .ok (.iaload, 1) := by decide +kernel
theorem dX8_flatten_75 : decode cX8_flatten 75 = .ok (.invokevirtual 205, 3) := by decide +kernel
theorem dX8_flatten_78 : decode cX8_flatten 78 = .ok (.aload_n 0, 1) := by decide +kernel
theorem dX8_flatten_79 : decode cX8_flatten 79 = .ok (.getfield 22, 3) := by decide +kernel
theorem dX8_flatten_82 : decode cX8_flatten 82 = .ok (.iload_n 1, 1) := by decide +kernel
theorem dX8_flatten_83 : decode cX8_flatten 83 = .ok (.iaload, 1) := by decide +kernel
theorem dX8_flatten_84 : decode cX8_flatten 84 = .ok (.ifCond .lt 13, 3) := by decide +kernel
theorem dX8_flatten_87 : decode cX8_flatten 87 = .ok (.aload_n 0, 1) := by decide +kernel
theorem dX8_flatten_88 : decode cX8_flatten 88 = .ok (.aload_n 0, 1) := by decide +kernel
theorem dX8_flatten_89 : decode cX8_flatten 89 = .ok (.getfield 22, 3) := by decide +kernel
theorem dX8_flatten_92 : decode cX8_flatten 92 = .ok (.iload_n 1, 1) := by decide +kernel
theorem dX8_flatten_93 : decode cX8_flatten 93 = .ok (.iaload, 1) := by decide +kernel
theorem dX8_flatten_94 : decode cX8_flatten 94 = .ok (.invokevirtual 205, 3) := by decide +kernel
theorem dX8_flatten_97 : decode cX8_flatten 97 = .ok (.return_, 1) := by decide +kernel
theorem dX8_endOf_0 : decode cX8_endOf 0 = .ok (.iconst 1, 1) := by decide +kernel
theorem dX8_endOf_1 : decode cX8_endOf 1 = .ok (.istore_n 2, 1) := by decide +kernel
theorem dX8_endOf_2 : decode cX8_endOf 2 = .ok (.iload_n 1, 1) := by decide +kernel
theorem dX8_endOf_3 : decode cX8_endOf 3 = .ok (.istore_n 3, 1) := by decide +kernel
theorem dX8_endOf_4 : decode cX8_endOf 4 = .ok (.iload_n 2, 1) := by decide +kernel
theorem dX8_endOf_5 : decode cX8_endOf 5 = .ok (.ifCond .le 23, 3) := by decide +kernel
theorem dX8_endOf_8 : decode cX8_endOf 8 = .ok (.iload_n 2, 1) := by decide +kernel
theorem dX8_endOf_9 : decode cX8_endOf 9 = .ok (.aload_n 0, 1) := by decide +kernel
theorem dX8_endOf_10 : decode cX8_endOf 10 = .ok (.getfield 37, 3) := by decide +kernel
theorem dX8_endOf_13 : decode cX8_endOf 13 = .ok (.iload_n 3, 1) := by decide +kernel
theorem dX8_endOf_14 : decode cX8_endOf 14 = .ok (.iaload, 1) := by decide +kernel
theorem dX8_endOf_15 : decode cX8_endOf 15 = .ok (.invokestatic 191, 3) := by decide +kernel
theorem dX8_endOf_18 : decode cX8_endOf 18 = .ok (.iconst 1, 1) := by decide +kernel
theorem dX8_endOf_19 : decode cX8_endOf 19 = .ok (.isub, 1) := by decide +kernel
theorem dX8_endOf_20 : decode cX8_endOf 20 = .ok (.iadd, 1) := by decide +kernel
theorem dX8_endOf_21 : decode cX8_endOf 21 = .ok (.istore_n 2, 1) := by decide +kernel
theorem dX8_endOf_22 : decode cX8_endOf 22 = .ok (.iinc 3 1, 3) := by decide +kernel
theorem dX8_endOf_25 : decode cX8_endOf 25 = .ok (.goto (-21), 3) := by decide +kernel
theorem dX8_endOf_28 : decode cX8_endOf 28 = .ok (.iload_n 3, 1) := by decide +kernel
theorem dX8_endOf_29 : decode cX8_endOf 29 = .ok (.ireturn, 1) := by decide +kernel
theorem dX8_count0_0 : decode cX8_count0 0 = .ok (.aload_n 0, 1) := by decide +kernel
theorem dX8_count0_1 : decode cX8_count0 1 = .ok (.getfield 43, 3) := by decide +kernel
theorem dX8_count0_4 : decode cX8_count0 4 = .ok (.iconst 1, 1) := by decide +kernel
theorem dX8_count0_5 : decode cX8_count0 5 = .ok (.laload, 1) := by decide +kernel
theorem dX8_count0_6 : decode cX8_count0 6 = .ok (.lconst 0, 1) := by decide +kernel
theorem dX8_count0_7 : decode cX8_count0 7 = .ok (.lcmp, 1) := by decide +kernel
theorem dX8_count0_8 : decode cX8_count0 8 = .ok (.ifCond .le 4, 3) := by decide +kernel
theorem dX8_count0_11 : decode cX8_count0 11 = .ok (.return_, 1) := by decide +kernel
theorem dX8_count0_12 : decode cX8_count0 12 = .ok (.aload_n 0, 1) := by decide +kernel
theorem dX8_count0_13 : decode cX8_count0 13 = .ok (.getfield 43, 3) := by decide +kernel
theorem dX8_count0_16 : decode cX8_count0 16 = .ok (.iconst 1, 1) := by decide +kernel
theorem dX8_count0_17 : decode cX8_count0 17 = .ok (.ldc2_w 208, 3) := by decide +kernel
theorem dX8_count0_20 : decode cX8_count0 20 = .ok (.lastore, 1) := by decide +kernel
theorem dX8_count0_21 : decode cX8_count0 21 = .ok (.iconst 2, 1) := by decide +kernel
theorem dX8_count0_22 : decode cX8_count0 22 = .ok (.istore_n 1, 1) := by decide +kernel
theorem dX8_count0_23 : decode cX8_count0 23 = .ok (.iload_n 1, 1) := by decide +kernel
theorem dX8_count0_24 : decode cX8_count0 24 = .ok (.bipush 15, 2) := by decide +kernel
theorem dX8_count0_26 : decode cX8_count0 26 = .ok (.if_icmp .gt 106, 3) := by decide +kernel
theorem dX8_count0_29 : decode cX8_count0 29 = .ok (.aload_n 0, 1) := by decide +kernel
theorem dX8_count0_30 : decode cX8_count0 30 = .ok (.getfield 43, 3) := by decide +kernel
theorem dX8_count0_33 : decode cX8_count0 33 = .ok (.iload_n 1, 1) := by decide +kernel
theorem dX8_count0_34 : decode cX8_count0 34 = .ok (.iconst 1, 1) := by decide +kernel
theorem dX8_count0_35 : decode cX8_count0 35 = .ok (.isub, 1) := by decide +kernel
theorem dX8_count0_36 : decode cX8_count0 36 = .ok (.laload, 1) := by decide +kernel
theorem dX8_count0_37 : decode cX8_count0 37 = .ok (.lstore_n 2, 1) := by decide +kernel
theorem dX8_count0_38 : decode cX8_count0 38 = .ok (.iconst 1, 1) := by decide +kernel
theorem dX8_count0_39 : decode cX8_count0 39 = .ok (.istore 4, 2) := by decide +kernel
theorem dX8_count0_41 : decode cX8_count0 41 = .ok (.iload 4, 2) := by decide +kernel
theorem dX8_count0_43 : decode cX8_count0 43 = .ok (.iload_n 1, 1) := by decide +kernel
theorem dX8_count0_44 : decode cX8_count0 44 = .ok (.iconst 1, 1) := by decide +kernel
theorem dX8_count0_45 : decode cX8_count0 45 = .ok (.isub, 1) := by decide +kernel
theorem dX8_count0_46 : decode cX8_count0 46 = .ok (.if_icmp .ge 35, 3) := by decide +kernel
theorem dX8_count0_49 : decode cX8_count0 49 = .ok (.lload_n 2, 1) := by decide +kernel
theorem dX8_count0_50 : decode cX8_count0 50 = .ok (.ldc2_w 210, 3) := by decide +kernel
theorem dX8_count0_53 : decode cX8_count0 53 = .ok (.aload_n 0, 1) := by decide +kernel
theorem dX8_count0_54 : decode cX8_count0 54 = .ok (.getfield 43, 3) := by decide +kernel
theorem dX8_count0_57 : decode cX8_count0 57 = .ok (.iload 4, 2) := by decide +kernel
theorem dX8_count0_59 : decode cX8_count0 59 = .ok (.laload, 1) := by decide +kernel
theorem dX8_count0_60 : decode cX8_count0 60 = .ok (.lmul, 1) := by decide +kernel
theorem dX8_count0_61 : decode cX8_count0 61 = .ok (.aload_n 0, 1) := by decide +kernel
theorem dX8_count0_62 : decode cX8_count0 62 = .ok (.getfield 43, 3) := by decide +kernel
theorem dX8_count0_65 : decode cX8_count0 65 = .ok (.iload_n 1, 1) := by decide +kernel
theorem dX8_count0_66 : decode cX8_count0 66 = .ok (.iconst 1, 1) := by decide +kernel
theorem dX8_count0_67 : decode cX8_count0 67 = .ok (.isub, 1) := by decide +kernel
theorem dX8_count0_68 : decode cX8_count0 68 = .ok (.iload 4, 2) := by decide +kernel
theorem dX8_count0_70 : decode cX8_count0 70 = .ok (.isub, 1) := by decide +kernel
theorem dX8_count0_71 : decode cX8_count0 71 = .ok (.laload, 1) := by decide +kernel
theorem dX8_count0_72 : decode cX8_count0 72 = .ok (.lmul, 1) := by decide +kernel
theorem dX8_count0_73 : decode cX8_count0 73 = .ok (.ladd, 1) := by decide +kernel
theorem dX8_count0_74 : decode cX8_count0 74 = .ok (.lstore_n 2, 1) := by decide +kernel
theorem dX8_count0_75 : decode cX8_count0 75 = .ok (.iinc 4 1, 3) := by decide +kernel
theorem dX8_count0_78 : decode cX8_count0 78 = .ok (.goto (-37), 3) := by decide +kernel
theorem dX8_count0_81 : decode cX8_count0 81 = .ok (.iconst 1, 1) := by decide +kernel
theorem dX8_count0_82 : decode cX8_count0 82 = .ok (.istore 4, 2) := by decide +kernel
theorem dX8_count0_84 : decode cX8_count0 84 = .ok (.iload 4, 2) := by decide +kernel
theorem dX8_count0_86 : decode cX8_count0 86 = .ok (.iload_n 1, 1) := by decide +kernel
theorem dX8_count0_87 : decode cX8_count0 87 = .ok (.iconst 2, 1) := by decide +kernel
theorem dX8_count0_88 : decode cX8_count0 88 = .ok (.isub, 1) := by decide +kernel
theorem dX8_count0_89 : decode cX8_count0 89 = .ok (.if_icmp .ge 30, 3) := by decide +kernel
theorem dX8_count0_92 : decode cX8_count0 92 = .ok (.lload_n 2, 1) := by decide +kernel
theorem dX8_count0_93 : decode cX8_count0 93 = .ok (.aload_n 0, 1) := by decide +kernel
theorem dX8_count0_94 : decode cX8_count0 94 = .ok (.getfield 43, 3) := by decide +kernel
theorem dX8_count0_97 : decode cX8_count0 97 = .ok (.iload 4, 2) := by decide +kernel
theorem dX8_count0_99 : decode cX8_count0 99 = .ok (.laload, 1) := by decide +kernel
theorem dX8_count0_100 : decode cX8_count0 100 = .ok (.aload_n 0, 1) := by decide +kernel
theorem dX8_count0_101 : decode cX8_count0 101 = .ok (.iload_n 1, 1) := by decide +kernel
theorem dX8_count0_102 : decode cX8_count0 102 = .ok (.iconst 1, 1) := by decide +kernel
theorem dX8_count0_103 : decode cX8_count0 103 = .ok (.isub, 1) := by decide +kernel
theorem dX8_count0_104 : decode cX8_count0 104 = .ok (.iload 4, 2) := by decide +kernel
theorem dX8_count0_106 : decode cX8_count0 106 = .ok (.isub, 1) := by decide +kernel
theorem dX8_count0_107 : decode cX8_count0 107 = .ok (.invokevirtual 212, 3) := by decide +kernel
theorem dX8_count0_110 : decode cX8_count0 110 = .ok (.lmul, 1) := by decide +kernel
theorem dX8_count0_111 : decode cX8_count0 111 = .ok (.ladd, 1) := by decide +kernel
theorem dX8_count0_112 : decode cX8_count0 112 = .ok (.lstore_n 2, 1) := by decide +kernel
theorem dX8_count0_113 : decode cX8_count0 113 = .ok (.iinc 4 1, 3) := by decide +kernel
theorem dX8_count0_116 : decode cX8_count0 116 = .ok (.goto (-32), 3) := by decide +kernel
theorem dX8_count0_119 : decode cX8_count0 119 = .ok (.aload_n 0, 1) := by decide +kernel
theorem dX8_count0_120 : decode cX8_count0 120 = .ok (.getfield 43, 3) := by decide +kernel
theorem dX8_count0_123 : decode cX8_count0 123 = .ok (.iload_n 1, 1) := by decide +kernel
theorem dX8_count0_124 : decode cX8_count0 124 = .ok (.lload_n 2, 1) := by decide +kernel
theorem dX8_count0_125 : decode cX8_count0 125 = .ok (.lastore, 1) := by decide +kernel
theorem dX8_count0_126 : decode cX8_count0 126 = .ok (.iinc 1 1, 3) := by decide +kernel
theorem dX8_count0_129 : decode cX8_count0 129 = .ok (.goto (-106), 3) := by decide +kernel
theorem dX8_count0_132 : decode cX8_count0 132 = .ok (.return_, 1) := by decide +kernel
theorem dX8_pairs_0 : decode cX8_pairs 0 = .ok (.lconst 0, 1) := by decide +kernel
theorem dX8_pairs_1 : decode cX8_pairs 1 = .ok (.lstore_n 2, 1) := by decide +kernel
theorem dX8_pairs_2 : decode cX8_pairs 2 = .ok (.iconst 1, 1) := by decide +kernel
theorem dX8_pairs_3 : decode cX8_pairs 3 = .ok (.istore 4, 2) := by decide +kernel
theorem dX8_pairs_5 : decode cX8_pairs 5 = .ok (.iload 4, 2) := by decide +kernel
theorem dX8_pairs_7 : decode cX8_pairs 7 = .ok (.iload_n 1, 1) := by decide +kernel
theorem dX8_pairs_8 : decode cX8_pairs 8 = .ok (.if_icmp .ge 29, 3) := by decide +kernel
theorem dX8_pairs_11 : decode cX8_pairs 11 = .ok (.lload_n 2, 1) := by decide +kernel
theorem dX8_pairs_12 : decode cX8_pairs 12 = .ok (.aload_n 0, 1) := by decide +kernel
theorem dX8_pairs_13 : decode cX8_pairs 13 = .ok (.getfield 43, 3) := by decide +kernel
theorem dX8_pairs_16 : decode cX8_pairs 16 = .ok (.iload 4, 2) := by decide +kernel
theorem dX8_pairs_18 : decode cX8_pairs 18 = .ok (.laload, 1) := by decide +kernel
theorem dX8_pairs_19 : decode cX8_pairs 19 = .ok (.aload_n 0, 1) := by decide +kernel
theorem dX8_pairs_20 : decode cX8_pairs 20 = .ok (.getfield 43, 3) := by decide +kernel
theorem dX8_pairs_23 : decode cX8_pairs 23 = .ok (.iload_n 1, 1) := by decide +kernel
theorem dX8_pairs_24 : decode cX8_pairs 24 = .ok (.iload 4, 2) := by decide +kernel
theorem dX8_pairs_26 : decode cX8_pairs 26 = .ok (.isub, 1) := by decide +kernel
theorem dX8_pairs_27 : decode cX8_pairs 27 = .ok (.laload, 1) := by decide +kernel
theorem dX8_pairs_28 : decode cX8_pairs 28 = .ok (.lmul, 1) := by decide +kernel
theorem dX8_pairs_29 : decode cX8_pairs 29 = .ok (.ladd, 1) := by decide +kernel
theorem dX8_pairs_30 : decode cX8_pairs 30 = .ok (.lstore_n 2, 1) := by decide +kernel
theorem dX8_pairs_31 : decode cX8_pairs 31 = .ok (.iinc 4 1, 3) := by decide +kernel
theorem dX8_pairs_34 : decode cX8_pairs 34 = .ok (.goto (-29), 3) := by decide +kernel
theorem dX8_pairs_37 : decode cX8_pairs 37 = .ok (.lload_n 2, 1) := by decide +kernel
theorem dX8_pairs_38 : decode cX8_pairs 38 = .ok (.lreturn, 1) := by decide +kernel
theorem dX8_many_0 : decode cX8_many 0 = .ok (.iload_n 1, 1) := by decide +kernel
theorem dX8_many_1 : decode cX8_many 1 = .ok (.i2l, 1) := by decide +kernel
theorem dX8_many_2 : decode cX8_many 2 = .ok (.lconst 1, 1) := by decide +kernel
theorem dX8_many_3 : decode cX8_many 3 = .ok (.ldc2_w 216, 3) := by decide +kernel
theorem dX8_many_6 : decode cX8_many 6 = .ok (.invokestatic 177, 3) := by decide +kernel
theorem dX8_many_9 : decode cX8_many 9 = .ok (.ifCond .ne 7, 3) := by decide +kernel
theorem dX8_many_12 : decode cX8_many 12 = .ok (.ldc2_w 218, 3) := by decide +kernel
theorem dX8_many_15 : decode cX8_many 15 = .ok (.lreturn, 1) := by decide +kernel
theorem dX8_many_16 : decode cX8_many 16 = .ok (.aload_n 0, 1) := by decide +kernel
theorem dX8_many_17 : decode cX8_many 17 = .ok (.invokevirtual 220, 3) := by decide +kernel
theorem dX8_many_20 : decode cX8_many 20 = .ok (.aload_n 0, 1) := by decide +kernel
theorem dX8_many_21 : decode cX8_many 21 = .ok (.getfield 43, 3) := by decide +kernel
theorem dX8_many_24 : decode cX8_many 24 = .ok (.iload_n 1, 1) := by decide +kernel
theorem dX8_many_25 : decode cX8_many 25 = .ok (.laload, 1) := by decide +kernel
theorem dX8_many_26 : decode cX8_many 26 = .ok (.lreturn, 1) := by decide +kernel
theorem dX8_hand_0 : decode cX8_hand 0 = .ok (.aload_n 0, 1) := by decide +kernel
theorem dX8_hand_1 : decode cX8_hand 1 = .ok (.getfield 37, 3) := by decide +kernel
theorem dX8_hand_4 : decode cX8_hand 4 = .ok (.aload_n 0, 1) := by decide +kernel
theorem dX8_hand_5 : decode cX8_hand 5 = .ok (.getfield 185, 3) := by decide +kernel
theorem dX8_hand_8 : decode cX8_hand 8 = .ok (.iload_n 1, 1) := by decide +kernel
theorem dX8_hand_9 : decode cX8_hand 9 = .ok (.iastore, 1) := by decide +kernel
theorem dX8_hand_10 : decode cX8_hand 10 = .ok (.aload_n 0, 1) := by decide +kernel
theorem dX8_hand_11 : decode cX8_hand 11 = .ok (.getfield 40, 3) := by decide +kernel
theorem dX8_hand_14 : decode cX8_hand 14 = .ok (.aload_n 0, 1) := by decide +kernel
theorem dX8_hand_15 : decode cX8_hand 15 = .ok (.getfield 185, 3) := by decide +kernel
theorem dX8_hand_18 : decode cX8_hand 18 = .ok (.iload_n 2, 1) := by decide +kernel
theorem dX8_hand_19 : decode cX8_hand 19 = .ok (.iastore, 1) := by decide +kernel
theorem dX8_hand_20 : decode cX8_hand 20 = .ok (.aload_n 0, 1) := by decide +kernel
theorem dX8_hand_21 : decode cX8_hand 21 = .ok (.dup, 1) := by decide +kernel
theorem dX8_hand_22 : decode cX8_hand 22 = .ok (.getfield 185, 3) := by decide +kernel
theorem dX8_hand_25 : decode cX8_hand 25 = .ok (.iconst 1, 1) := by decide +kernel
theorem dX8_hand_26 : decode cX8_hand 26 = .ok (.iadd, 1) := by decide +kernel
theorem dX8_hand_27 : decode cX8_hand 27 = .ok (.putfield 185, 3) := by decide +kernel
theorem dX8_hand_30 : decode cX8_hand 30 = .ok (.return_, 1) := by decide +kernel
theorem dX8_nthPair_0 : decode cX8_nthPair 0 = .ok (.lload_n 2, 1) := by decide +kernel
theorem dX8_nthPair_1 : decode cX8_nthPair 1 = .ok (.lstore 4, 2) := by decide +kernel
theorem dX8_nthPair_3 : decode cX8_nthPair 3 = .ok (.iconst 1, 1) := by decide +kernel
theorem dX8_nthPair_4 : decode cX8_nthPair 4 = .ok (.istore 6, 2) := by decide +kernel
theorem dX8_nthPair_6 : decode cX8_nthPair 6 = .ok (.lload 4, 2) := by decide +kernel
theorem dX8_nthPair_8 : decode cX8_nthPair 8 = .ok (.aload_n 0, 1) := by decide +kernel
theorem dX8_nthPair_9 : decode cX8_nthPair 9 = .ok (.getfield 43, 3) := by decide +kernel
theorem dX8_nthPair_12 : decode cX8_nthPair 12 = .ok (.iload 6, 2) := by decide +kernel
theorem dX8_nthPair_14 : decode cX8_nthPair 14 = .ok (.laload, 1) := by decide +kernel
theorem dX8_nthPair_15 : decode cX8_nthPair 15 = .ok (.aload_n 0, 1) := by decide +kernel
theorem dX8_nthPair_16 : decode cX8_nthPair 16 = .ok (.getfield 43, 3) := by decide +kernel
theorem dX8_nthPair_19 : decode cX8_nthPair 19 = .ok (.iload_n 1, 1) := by decide +kernel
theorem dX8_nthPair_20 : decode cX8_nthPair 20 = .ok (.iload 6, 2) := by decide +kernel
theorem dX8_nthPair_22 : decode cX8_nthPair 22 = .ok (.isub, 1) := by decide +kernel
theorem dX8_nthPair_23 : decode cX8_nthPair 23 = .ok (.laload, 1) := by decide +kernel
theorem dX8_nthPair_24 : decode cX8_nthPair 24 = .ok (.lmul, 1) := by decide +kernel
theorem dX8_nthPair_25 : decode cX8_nthPair 25 = .ok (.lcmp, 1) := by decide +kernel
theorem dX8_nthPair_26 : decode cX8_nthPair 26 = .ok (.ifCond .lt 31, 3) := by decide +kernel
theorem dX8_nthPair_29 : decode cX8_nthPair 29 = .ok (.lload 4, 2) := by decide +kernel
theorem dX8_nthPair_31 : decode cX8_nthPair 31 = .ok (.aload_n 0, 1) := by decide +kernel
theorem dX8_nthPair_32 : decode cX8_nthPair 32 = .ok (.getfield 43, 3) := by decide +kernel
theorem dX8_nthPair_35 : decode cX8_nthPair 35 = .ok (.iload 6, 2) := by decide +kernel
theorem dX8_nthPair_37 : decode cX8_nthPair 37 = .ok (.laload, 1) := by decide +kernel
theorem dX8_nthPair_38 : decode cX8_nthPair 38 = .ok (.aload_n 0, 1) := by decide +kernel
theorem dX8_nthPair_39 : decode cX8_nthPair 39 = .ok (.getfield 43, 3) := by decide +kernel
theorem dX8_nthPair_42 : decode cX8_nthPair 42 = .ok (.iload_n 1, 1) := by decide +kernel
theorem dX8_nthPair_43 : decode cX8_nthPair 43 = .ok (.iload 6, 2) := by decide +kernel
theorem dX8_nthPair_45 : decode cX8_nthPair 45 = .ok (.isub, 1) := by decide +kernel
theorem dX8_nthPair_46 : decode cX8_nthPair 46 = .ok (.laload, 1) := by decide +kernel
theorem dX8_nthPair_47 : decode cX8_nthPair 47 = .ok (.lmul, 1) := by decide +kernel
theorem dX8_nthPair_48 : decode cX8_nthPair 48 = .ok (.lsub, 1) := by decide +kernel
theorem dX8_nthPair_49 : decode cX8_nthPair 49 = .ok (.lstore 4, 2) := by decide +kernel
theorem dX8_nthPair_51 : decode cX8_nthPair 51 = .ok (.iinc 6 1, 3) := by decide +kernel
theorem dX8_nthPair_54 : decode cX8_nthPair 54 = .ok (.goto (-48), 3) := by decide +kernel
theorem dX8_nthPair_57 : decode cX8_nthPair 57 = .ok (.aload_n 0, 1) := by decide +kernel
theorem dX8_nthPair_58 : decode cX8_nthPair 58 = .ok (.iload 6, 2) := by decide +kernel
theorem dX8_nthPair_60 : decode cX8_nthPair 60 = .ok (.lload 4, 2) := by decide +kernel
theorem dX8_nthPair_62 : decode cX8_nthPair 62 = .ok (.aload_n 0, 1) := by decide +kernel
theorem dX8_nthPair_63 : decode cX8_nthPair 63 = .ok (.getfield 43, 3) := by decide +kernel
theorem dX8_nthPair_66 : decode cX8_nthPair 66 = .ok (.iload_n 1, 1) := by decide +kernel
theorem dX8_nthPair_67 : decode cX8_nthPair 67 = .ok (.iload 6, 2) := by decide +kernel
theorem dX8_nthPair_69 : decode cX8_nthPair 69 = .ok (.isub, 1) := by decide +kernel
theorem dX8_nthPair_70 : decode cX8_nthPair 70 = .ok (.laload, 1) := by decide +kernel
theorem dX8_nthPair_71 : decode cX8_nthPair 71 = .ok (.ldiv, 1) := by decide +kernel
theorem dX8_nthPair_72 : decode cX8_nthPair 72 = .ok (.invokevirtual 223, 3) := by decide +kernel
theorem dX8_nthPair_75 : decode cX8_nthPair 75 = .ok (.aload_n 0, 1) := by decide +kernel
theorem dX8_nthPair_76 : decode cX8_nthPair 76 = .ok (.iload_n 1, 1) := by decide +kernel
theorem dX8_nthPair_77 : decode cX8_nthPair 77 = .ok (.iload 6, 2) := by decide +kernel
theorem dX8_nthPair_79 : decode cX8_nthPair 79 = .ok (.isub, 1) := by decide +kernel
theorem dX8_nthPair_80 : decode cX8_nthPair 80 = .ok (.lload 4, 2) := by decide +kernel
theorem dX8_nthPair_82 : decode cX8_nthPair 82 = .ok (.aload_n 0, 1) := by decide +kernel
theorem dX8_nthPair_83 : decode cX8_nthPair 83 = .ok (.getfield 43, 3) := by decide +kernel
theorem dX8_nthPair_86 : decode cX8_nthPair 86 = .ok (.iload_n 1, 1) := by decide +kernel
theorem dX8_nthPair_87 : decode cX8_nthPair 87 = .ok (.iload 6, 2) := by decide +kernel
theorem dX8_nthPair_89 : decode cX8_nthPair 89 = .ok (.isub, 1) := by decide +kernel
theorem dX8_nthPair_90 : decode cX8_nthPair 90 = .ok (.laload, 1) := by decide +kernel
theorem dX8_nthPair_91 : decode cX8_nthPair 91 = .ok (.lrem, 1) := by decide +kernel
theorem dX8_nthPair_92 : decode cX8_nthPair 92 = .ok (.invokevirtual 223, 3) := by decide +kernel
theorem dX8_nthPair_95 : decode cX8_nthPair 95 = .ok (.return_, 1) := by decide +kernel
theorem dX8_nth0_0 : decode cX8_nth0 0 = .ok (.iload_n 1, 1) := by decide +kernel
theorem dX8_nth0_1 : decode cX8_nth0 1 = .ok (.iconst 1, 1) := by decide +kernel
theorem dX8_nth0_2 : decode cX8_nth0 2 = .ok (.if_icmp .ne 38, 3) := by decide +kernel
theorem dX8_nth0_5 : decode cX8_nth0 5 = .ok (.aload_n 0, 1) := by decide +kernel
theorem dX8_nth0_6 : decode cX8_nth0 6 = .ok (.lload_n 2, 1) := by decide +kernel
theorem dX8_nth0_7 : decode cX8_nth0 7 = .ok (.ldc2_w 227, 3) := by decide +kernel
theorem dX8_nth0_10 : decode cX8_nth0 10 = .ok (.lcmp, 1) := by decide +kernel
theorem dX8_nth0_11 : decode cX8_nth0 11 = .ok (.ifCond .ge 7, 3) := by decide +kernel
theorem dX8_nth0_14 : decode cX8_nth0 14 = .ok (.iconst 0, 1) := by decide +kernel
theorem dX8_nth0_15 : decode cX8_nth0 15 = .ok (.goto 7, 3) := by decide +kernel
theorem dX8_nth0_18 : decode cX8_nth0 18 = .ok (.lload_n 2, 1) := by decide +kernel
theorem dX8_nth0_19 : decode cX8_nth0 19 = .ok (.l2i, 1) := by decide +kernel
theorem dX8_nth0_20 : decode cX8_nth0 20 = .ok (.iconst 2, 1) := by decide +kernel
theorem dX8_nth0_21 : decode cX8_nth0 21 = .ok (.isub, 1) := by decide +kernel
theorem dX8_nth0_22 : decode cX8_nth0 22 = .ok (.lload_n 2, 1) := by decide +kernel
theorem dX8_nth0_23 : decode cX8_nth0 23 = .ok (.ldc2_w 227, 3) := by decide +kernel
theorem dX8_nth0_26 : decode cX8_nth0 26 = .ok (.lcmp, 1) := by decide +kernel
theorem dX8_nth0_27 : decode cX8_nth0 27 = .ok (.ifCond .ge 8, 3) := by decide +kernel
theorem dX8_nth0_30 : decode cX8_nth0 30 = .ok (.lload_n 2, 1) := by decide +kernel
theorem dX8_nth0_31 : decode cX8_nth0 31 = .ok (.l2i, 1) := by decide +kernel
theorem dX8_nth0_32 : decode cX8_nth0 32 = .ok (.goto 4, 3) := by decide +kernel
theorem dX8_nth0_35 : decode cX8_nth0 35 = .ok (.iconst 0, 1) := by decide +kernel
theorem dX8_nth0_36 : decode cX8_nth0 36 = .ok (.invokevirtual 229, 3) := by decide +kernel
theorem dX8_nth0_39 : decode cX8_nth0 39 = .ok (.return_, 1) := by decide +kernel
theorem dX8_nth0_40 : decode cX8_nth0 40 = .ok (.lload_n 2, 1) := by decide +kernel
theorem dX8_nth0_41 : decode cX8_nth0 41 = .ok (.lstore 4, 2) := by decide +kernel
theorem dX8_nth0_43 : decode cX8_nth0 43 = .ok (.lload 4, 2) := by decide +kernel
theorem dX8_nth0_45 : decode cX8_nth0 45 = .ok (.aload_n 0, 1) := by decide +kernel
theorem dX8_nth0_46 : decode cX8_nth0 46 = .ok (.getfield 43, 3) := by decide +kernel
theorem dX8_nth0_49 : decode cX8_nth0 49 = .ok (.iload_n 1, 1) := by decide +kernel
theorem dX8_nth0_50 : decode cX8_nth0 50 = .ok (.iconst 1, 1) := by decide +kernel
theorem dX8_nth0_51 : decode cX8_nth0 51 = .ok (.isub, 1) := by decide +kernel
theorem dX8_nth0_52 : decode cX8_nth0 52 = .ok (.laload, 1) := by decide +kernel
theorem dX8_nth0_53 : decode cX8_nth0 53 = .ok (.lcmp, 1) := by decide +kernel
theorem dX8_nth0_54 : decode cX8_nth0 54 = .ok (.ifCond .ge 19, 3) := by decide +kernel
theorem dX8_nth0_57 : decode cX8_nth0 57 = .ok (.aload_n 0, 1) := by decide +kernel
theorem dX8_nth0_58 : decode cX8_nth0 58 = .ok (.iconst 3, 1) := by decide +kernel
theorem dX8_nth0_59 : decode cX8_nth0 59 = .ok (.iconst 0, 1) := by decide +kernel
theorem dX8_nth0_60 : decode cX8_nth0 60 = .ok (.invokevirtual 229, 3) := by decide +kernel
theorem dX8_nth0_63 : decode cX8_nth0 63 = .ok (.aload_n 0, 1) := by decide +kernel
theorem dX8_nth0_64 : decode cX8_nth0 64 = .ok (.iload_n 1, 1) := by decide +kernel
theorem dX8_nth0_65 : decode cX8_nth0 65 = .ok (.iconst 1, 1) := by decide +kernel
theorem dX8_nth0_66 : decode cX8_nth0 66 = .ok (.isub, 1) := by decide +kernel
theorem dX8_nth0_67 : decode cX8_nth0 67 = .ok (.lload 4, 2) := by decide +kernel
theorem dX8_nth0_69 : decode cX8_nth0 69 = .ok (.invokevirtual 223, 3) := by decide +kernel
theorem dX8_nth0_72 : decode cX8_nth0 72 = .ok (.return_, 1) := by decide +kernel
theorem dX8_nth0_73 : decode cX8_nth0 73 = .ok (.lload 4, 2) := by decide +kernel
theorem dX8_nth0_75 : decode cX8_nth0 75 = .ok (.aload_n 0, 1) := by decide +kernel
theorem dX8_nth0_76 : decode cX8_nth0 76 = .ok (.getfield 43, 3) := by decide +kernel
theorem dX8_nth0_79 : decode cX8_nth0 79 = .ok (.iload_n 1, 1) := by decide +kernel
theorem dX8_nth0_80 : decode cX8_nth0 80 = .ok (.iconst 1, 1) := by decide +kernel
theorem dX8_nth0_81 : decode cX8_nth0 81 = .ok (.isub, 1) := by decide +kernel
theorem dX8_nth0_82 : decode cX8_nth0 82 = .ok (.laload, 1) := by decide +kernel
theorem dX8_nth0_83 : decode cX8_nth0 83 = .ok (.lsub, 1) := by decide +kernel
theorem dX8_nth0_84 : decode cX8_nth0 84 = .ok (.lstore 4, 2) := by decide +kernel
theorem dX8_nth0_86 : decode cX8_nth0 86 = .ok (.aload_n 0, 1) := by decide +kernel
theorem dX8_nth0_87 : decode cX8_nth0 87 = .ok (.iload_n 1, 1) := by decide +kernel
theorem dX8_nth0_88 : decode cX8_nth0 88 = .ok (.iconst 1, 1) := by decide +kernel
theorem dX8_nth0_89 : decode cX8_nth0 89 = .ok (.isub, 1) := by decide +kernel
theorem dX8_nth0_90 : decode cX8_nth0 90 = .ok (.invokevirtual 212, 3) := by decide +kernel
theorem dX8_nth0_93 : decode cX8_nth0 93 = .ok (.lstore 6, 2) := by decide +kernel
theorem dX8_nth0_95 : decode cX8_nth0 95 = .ok (.iconst 4, 1) := by decide +kernel
theorem dX8_nth0_96 : decode cX8_nth0 96 = .ok (.istore 8, 2) := by decide +kernel
theorem dX8_nth0_98 : decode cX8_nth0 98 = .ok (.iload 8, 2) := by decide +kernel
theorem dX8_nth0_100 : decode cX8_nth0 100 = .ok (.bipush 7, 2) := by decide +kernel
theorem dX8_nth0_102 : decode cX8_nth0 102 = .ok (.if_icmp .gt 41, 3) := by decide +kernel
theorem dX8_nth0_105 : decode cX8_nth0 105 = .ok (.lload 4, 2) := by decide +kernel
theorem dX8_nth0_107 : decode cX8_nth0 107 = .ok (.lload 6, 2) := by decide +kernel
theorem dX8_nth0_109 : decode cX8_nth0 109 = .ok (.lcmp, 1) := by decide +kernel
theorem dX8_nth0_110 : decode cX8_nth0 110 = .ok (.ifCond .ge 20, 3) := by decide +kernel
theorem dX8_nth0_113 : decode cX8_nth0 113 = .ok (.aload_n 0, 1) := by decide +kernel
theorem dX8_nth0_114 : decode cX8_nth0 114 = .ok (.iload 8, 2) := by decide +kernel
theorem dX8_nth0_116 : decode cX8_nth0 116 = .ok (.iconst 0, 1) := by decide +kernel
theorem dX8_nth0_117 : decode cX8_nth0 117 = .ok (.invokevirtual 229, 3) := by decide +kernel
theorem dX8_nth0_120 : decode cX8_nth0 120 = .ok (.aload_n 0, 1) := by decide +kernel
theorem dX8_nth0_121 : decode cX8_nth0 121 = .ok (.iload_n 1, 1) := by decide +kernel
theorem dX8_nth0_122 : decode cX8_nth0 122 = .ok (.iconst 1, 1) := by decide +kernel
theorem dX8_nth0_123 : decode cX8_nth0 123 = .ok (.isub, 1) := by decide +kernel
theorem dX8_nth0_124 : decode cX8_nth0 124 = .ok (.lload 4, 2) := by decide +kernel
theorem dX8_nth0_126 : decode cX8_nth0 126 = .ok (.invokevirtual 233, 3) := by decide +kernel
theorem dX8_nth0_129 : decode cX8_nth0 129 = .ok (.return_, 1) := by decide +kernel
theorem dX8_nth0_130 : decode cX8_nth0 130 = .ok (.lload 4, 2) := by decide +kernel
theorem dX8_nth0_132 : decode cX8_nth0 132 = .ok (.lload 6, 2) := by decide +kernel
theorem dX8_nth0_134 : decode cX8_nth0 134 = .ok (.lsub, 1) := by decide +kernel
theorem dX8_nth0_135 : decode cX8_nth0 135 = .ok (.lstore 4, 2) := by decide +kernel
theorem dX8_nth0_137 : decode cX8_nth0 137 = .ok (.iinc 8 1, 3) := by decide +kernel
theorem dX8_nth0_140 : decode cX8_nth0 140 = .ok (.goto (-42), 3) := by decide +kernel
theorem dX8_nth0_143 : decode cX8_nth0 143 = .ok (.aload_n 0, 1) := by decide +kernel
theorem dX8_nth0_144 : decode cX8_nth0 144 = .ok (.bipush 8, 2) := by decide +kernel
theorem dX8_nth0_146 : decode cX8_nth0 146 = .ok (.iconst 0, 1) := by decide +kernel
theorem dX8_nth0_147 : decode cX8_nth0 147 = .ok (.invokevirtual 229, 3) := by decide +kernel
theorem dX8_nth0_150 : decode cX8_nth0 150 = .ok (.iconst 1, 1) := by decide +kernel
theorem dX8_nth0_151 : decode cX8_nth0 151 = .ok (.istore 8, 2) := by decide +kernel
theorem dX8_nth0_153 : decode cX8_nth0 153 = .ok (.lload 4, 2) := by decide +kernel
theorem dX8_nth0_155 : decode cX8_nth0 155 = .ok (.aload_n 0, 1) := by decide +kernel
theorem dX8_nth0_156 : decode cX8_nth0 156 = .ok (.getfield 43, 3) := by decide +kernel
theorem dX8_nth0_159 : decode cX8_nth0 159 = .ok (.iload 8, 2) := by decide +kernel
theorem dX8_nth0_161 : decode cX8_nth0 161 = .ok (.laload, 1) := by decide +kernel
theorem dX8_nth0_162 : decode cX8_nth0 162 = .ok (.aload_n 0, 1) := by decide +kernel
theorem dX8_nth0_163 : decode cX8_nth0 163 = .ok (.iload_n 1, 1) := by decide +kernel
theorem dX8_nth0_164 : decode cX8_nth0 164 = .ok (.iconst 1, 1) := by decide +kernel
theorem dX8_nth0_165 : decode cX8_nth0 165 = .ok (.isub, 1) := by decide +kernel
theorem dX8_nth0_166 : decode cX8_nth0 166 = .ok (.iload 8, 2) := by decide +kernel
theorem dX8_nth0_168 : decode cX8_nth0 168 = .ok (.isub, 1) := by decide +kernel
theorem dX8_nth0_169 : decode cX8_nth0 169 = .ok (.invokevirtual 212, 3) := by decide +kernel
theorem dX8_nth0_172 : decode cX8_nth0 172 = .ok (.lmul, 1) := by decide +kernel
theorem dX8_nth0_173 : decode cX8_nth0 173 = .ok (.lcmp, 1) := by decide +kernel
theorem dX8_nth0_174 : decode cX8_nth0 174 = .ok (.ifCond .lt 32, 3) := by decide +kernel
theorem dX8_nth0_177 : decode cX8_nth0 177 = .ok (.lload 4, 2) := by decide +kernel
theorem dX8_nth0_179 : decode cX8_nth0 179 = .ok (.aload_n 0, 1) := by decide +kernel
theorem dX8_nth0_180 : decode cX8_nth0 180 = .ok (.getfield 43, 3) := by decide +kernel
theorem dX8_nth0_183 : decode cX8_nth0 183 = .ok (.iload 8, 2) := by decide +kernel
theorem dX8_nth0_185 : decode cX8_nth0 185 = .ok (.laload, 1) := by decide +kernel
theorem dX8_nth0_186 : decode cX8_nth0 186 = .ok (.aload_n 0, 1) := by decide +kernel
theorem dX8_nth0_187 : decode cX8_nth0 187 = .ok (.iload_n 1, 1) := by decide +kernel
theorem dX8_nth0_188 : decode cX8_nth0 188 = .ok (.iconst 1, 1) := by decide +kernel
theorem dX8_nth0_189 : decode cX8_nth0 189 = .ok (.isub, 1) := by decide +kernel
theorem dX8_nth0_190 : decode cX8_nth0 190 = .ok (.iload 8, 2) := by decide +kernel
theorem dX8_nth0_192 : decode cX8_nth0 192 = .ok (.isub, 1) := by decide +kernel
theorem dX8_nth0_193 : decode cX8_nth0 193 = .ok (.invokevirtual 212, 3) := by decide +kernel
theorem dX8_nth0_196 : decode cX8_nth0 196 = .ok (.lmul, 1) := by decide +kernel
theorem dX8_nth0_197 : decode cX8_nth0 197 = .ok (.lsub, 1) := by decide +kernel
theorem dX8_nth0_198 : decode cX8_nth0 198 = .ok (.lstore 4, 2) := by decide +kernel
theorem dX8_nth0_200 : decode cX8_nth0 200 = .ok (.iinc 8 1, 3) := by decide +kernel
theorem dX8_nth0_203 : decode cX8_nth0 203 = .ok (.goto (-50), 3) := by decide +kernel
theorem dX8_nth0_206 : decode cX8_nth0 206 = .ok (.aload_n 0, 1) := by decide +kernel
theorem dX8_nth0_207 : decode cX8_nth0 207 = .ok (.iload_n 1, 1) := by decide +kernel
theorem dX8_nth0_208 : decode cX8_nth0 208 = .ok (.iconst 1, 1) := by decide +kernel
theorem dX8_nth0_209 : decode cX8_nth0 209 = .ok (.isub, 1) := by decide +kernel
theorem dX8_nth0_210 : decode cX8_nth0 210 = .ok (.iload 8, 2) := by decide +kernel
theorem dX8_nth0_212 : decode cX8_nth0 212 = .ok (.isub, 1) := by decide +kernel
theorem dX8_nth0_213 : decode cX8_nth0 213 = .ok (.invokevirtual 212, 3) := by decide +kernel
theorem dX8_nth0_216 : decode cX8_nth0 216 = .ok (.lstore 9, 2) := by decide +kernel
theorem dX8_nth0_218 : decode cX8_nth0 218 = .ok (.aload_n 0, 1) := by decide +kernel
theorem dX8_nth0_219 : decode cX8_nth0 219 = .ok (.iload 8, 2) := by decide +kernel
theorem dX8_nth0_221 : decode cX8_nth0 221 = .ok (.lload 4, 2) := by decide +kernel
theorem dX8_nth0_223 : decode cX8_nth0 223 = .ok (.lload 9, 2) := by decide +kernel
theorem dX8_nth0_225 : decode cX8_nth0 225 = .ok (.ldiv, 1) := by decide +kernel
theorem dX8_nth0_226 : decode cX8_nth0 226 = .ok (.invokevirtual 223, 3) := by decide +kernel
theorem dX8_nth0_229 : decode cX8_nth0 229 = .ok (.aload_n 0, 1) := by decide +kernel
theorem dX8_nth0_230 : decode cX8_nth0 230 = .ok (.iload_n 1, 1) := by decide +kernel
theorem dX8_nth0_231 : decode cX8_nth0 231 = .ok (.iconst 1, 1) := by decide +kernel
theorem dX8_nth0_232 : decode cX8_nth0 232 = .ok (.isub, 1) := by decide +kernel
theorem dX8_nth0_233 : decode cX8_nth0 233 = .ok (.iload 8, 2) := by decide +kernel
theorem dX8_nth0_235 : decode cX8_nth0 235 = .ok (.isub, 1) := by decide +kernel
theorem dX8_nth0_236 : decode cX8_nth0 236 = .ok (.lload 4, 2) := by decide +kernel
theorem dX8_nth0_238 : decode cX8_nth0 238 = .ok (.lload 9, 2) := by decide +kernel
theorem dX8_nth0_240 : decode cX8_nth0 240 = .ok (.lrem, 1) := by decide +kernel
theorem dX8_nth0_241 : decode cX8_nth0 241 = .ok (.invokevirtual 233, 3) := by decide +kernel
theorem dX8_nth0_244 : decode cX8_nth0 244 = .ok (.return_, 1) := by decide +kernel
theorem dX8_nth_0 : decode cX8_nth 0 = .ok (.iload_n 1, 1) := by decide +kernel
theorem dX8_nth_1 : decode cX8_nth 1 = .ok (.invokestatic 181, 3) := by decide +kernel
theorem dX8_nth_4 : decode cX8_nth 4 = .ok (.ifCond .eq 15, 3) := by decide +kernel
theorem dX8_nth_7 : decode cX8_nth 7 = .ok (.iload_n 2, 1) := by decide +kernel
theorem dX8_nth_8 : decode cX8_nth 8 = .ok (.i2l, 1) := by decide +kernel
theorem dX8_nth_9 : decode cX8_nth 9 = .ok (.lconst 1, 1) := by decide +kernel
theorem dX8_nth_10 : decode cX8_nth 10 = .ok (.ldc2_w 216, 3) := by decide +kernel
theorem dX8_nth_13 : decode cX8_nth 13 = .ok (.invokestatic 177, 3) := by decide +kernel
theorem dX8_nth_16 : decode cX8_nth 16 = .ok (.ifCond .ne 5, 3) := by decide +kernel
theorem dX8_nth_19 : decode cX8_nth 19 = .ok (.iconst (-1), 1) := by decide +kernel
theorem dX8_nth_20 : decode cX8_nth 20 = .ok (.ireturn, 1) := by decide +kernel
theorem dX8_nth_21 : decode cX8_nth 21 = .ok (.aload_n 0, 1) := by decide +kernel
theorem dX8_nth_22 : decode cX8_nth 22 = .ok (.invokevirtual 220, 3) := by decide +kernel
theorem dX8_nth_25 : decode cX8_nth 25 = .ok (.lload_n 3, 1) := by decide +kernel
theorem dX8_nth_26 : decode cX8_nth 26 = .ok (.lconst 0, 1) := by decide +kernel
theorem dX8_nth_27 : decode cX8_nth 27 = .ok (.aload_n 0, 1) := by decide +kernel
theorem dX8_nth_28 : decode cX8_nth 28 = .ok (.getfield 43, 3) := by decide +kernel
theorem dX8_nth_31 : decode cX8_nth 31 = .ok (.iload_n 2, 1) := by decide +kernel
theorem dX8_nth_32 : decode cX8_nth 32 = .ok (.laload, 1) := by decide +kernel
theorem dX8_nth_33 : decode cX8_nth 33 = .ok (.lconst 1, 1) := by decide +kernel
theorem dX8_nth_34 : decode cX8_nth 34 = .ok (.lsub, 1) := by decide +kernel
theorem dX8_nth_35 : decode cX8_nth 35 = .ok (.invokestatic 177, 3) := by decide +kernel
theorem dX8_nth_38 : decode cX8_nth 38 = .ok (.ifCond .ne 5, 3) := by decide +kernel
theorem dX8_nth_41 : decode cX8_nth 41 = .ok (.iconst (-1), 1) := by decide +kernel
theorem dX8_nth_42 : decode cX8_nth 42 = .ok (.ireturn, 1) := by decide +kernel
theorem dX8_nth_43 : decode cX8_nth 43 = .ok (.aload_n 0, 1) := by decide +kernel
theorem dX8_nth_44 : decode cX8_nth 44 = .ok (.iconst 0, 1) := by decide +kernel
theorem dX8_nth_45 : decode cX8_nth 45 = .ok (.putfield 185, 3) := by decide +kernel
theorem dX8_nth_48 : decode cX8_nth 48 = .ok (.aload_n 0, 1) := by decide +kernel
theorem dX8_nth_49 : decode cX8_nth 49 = .ok (.iload_n 2, 1) := by decide +kernel
theorem dX8_nth_50 : decode cX8_nth 50 = .ok (.lload_n 3, 1) := by decide +kernel
theorem dX8_nth_51 : decode cX8_nth 51 = .ok (.invokevirtual 223, 3) := by decide +kernel
theorem dX8_nth_54 : decode cX8_nth 54 = .ok (.aload_n 0, 1) := by decide +kernel
theorem dX8_nth_55 : decode cX8_nth 55 = .ok (.iload_n 1, 1) := by decide +kernel
theorem dX8_nth_56 : decode cX8_nth 56 = .ok (.invokevirtual 236, 3) := by decide +kernel
theorem dX8_nth_59 : decode cX8_nth 59 = .ok (.ireturn, 1) := by decide +kernel
theorem dX8_pairRank_0 : decode cX8_pairRank 0 = .ok (.aload_n 0, 1) := by decide +kernel
theorem dX8_pairRank_1 : decode cX8_pairRank 1 = .ok (.getfield 25, 3) := by decide +kernel
theorem dX8_pairRank_4 : decode cX8_pairRank 4 = .ok (.iload_n 1, 1) := by decide +kernel
theorem dX8_pairRank_5 : decode cX8_pairRank 5 = .ok (.iaload, 1) := by decide +kernel
theorem dX8_pairRank_6 : decode cX8_pairRank 6 = .ok (.aload_n 0, 1) := by decide +kernel
theorem dX8_pairRank_7 : decode cX8_pairRank 7 = .ok (.getfield 25, 3) := by decide +kernel
theorem dX8_pairRank_10 : decode cX8_pairRank 10 = .ok (.iload_n 2, 1) := by decide +kernel
theorem dX8_pairRank_11 : decode cX8_pairRank 11 = .ok (.iaload, 1) := by decide +kernel
theorem dX8_pairRank_12 : decode cX8_pairRank 12 = .ok (.iadd, 1) := by decide +kernel
theorem dX8_pairRank_13 : decode cX8_pairRank 13 = .ok (.istore_n 3, 1) := by decide +kernel
theorem dX8_pairRank_14 : decode cX8_pairRank 14 = .ok (.lconst 0, 1) := by decide +kernel
theorem dX8_pairRank_15 : decode cX8_pairRank 15 = .ok (.lstore 4, 2) := by decide +kernel
theorem dX8_pairRank_17 : decode cX8_pairRank 17 = .ok (.iconst 1, 1) := by decide +kernel
theorem dX8_pairRank_18 : decode cX8_pairRank 18 = .ok (.istore 6, 2) := by decide +kernel
theorem dX8_pairRank_20 : decode cX8_pairRank 20 = .ok (.iload 6, 2) := by decide +kernel
theorem dX8_pairRank_22 : decode cX8_pairRank 22 = .ok (.aload_n 0, 1) := by decide +kernel
theorem dX8_pairRank_23 : decode cX8_pairRank 23 = .ok (.getfield 25, 3) := by decide +kernel
theorem dX8_pairRank_26 : decode cX8_pairRank 26 = .ok (.iload_n 1, 1) := by decide +kernel
theorem dX8_pairRank_27 : decode cX8_pairRank 27 = .ok (.iaload, 1) := by decide +kernel
theorem dX8_pairRank_28 : decode cX8_pairRank 28 = .ok (.if_icmp .ge 31, 3) := by decide +kernel
theorem dX8_pairRank_31 : decode cX8_pairRank 31 = .ok (.lload 4, 2) := by decide +kernel
theorem dX8_pairRank_33 : decode cX8_pairRank 33 = .ok (.aload_n 0, 1) := by decide +kernel
theorem dX8_pairRank_34 : decode cX8_pairRank 34 = .ok (.getfield 43, 3) := by decide +kernel
theorem dX8_pairRank_37 : decode cX8_pairRank 37 = .ok (.iload 6, 2) := by decide +kernel
theorem dX8_pairRank_39 : decode cX8_pairRank 39 = .ok (.laload, 1) := by decide +kernel
theorem dX8_pairRank_40 : decode cX8_pairRank 40 = .ok (.aload_n 0, 1) := by decide +kernel
theorem dX8_pairRank_41 : decode cX8_pairRank 41 = .ok (.getfield 43, 3) := by decide +kernel
theorem dX8_pairRank_44 : decode cX8_pairRank 44 = .ok (.iload_n 3, 1) := by decide +kernel
theorem dX8_pairRank_45 : decode cX8_pairRank 45 = .ok (.iload 6, 2) := by decide +kernel
theorem dX8_pairRank_47 : decode cX8_pairRank 47 = .ok (.isub, 1) := by decide +kernel
theorem dX8_pairRank_48 : decode cX8_pairRank 48 = .ok (.laload, 1) := by decide +kernel
theorem dX8_pairRank_49 : decode cX8_pairRank 49 = .ok (.lmul, 1) := by decide +kernel
theorem dX8_pairRank_50 : decode cX8_pairRank 50 = .ok (.ladd, 1) := by decide +kernel
theorem dX8_pairRank_51 : decode cX8_pairRank 51 = .ok (.lstore 4, 2) := by decide +kernel
theorem dX8_pairRank_53 : decode cX8_pairRank 53 = .ok (.iinc 6 1, 3) := by decide +kernel
theorem dX8_pairRank_56 : decode cX8_pairRank 56 = .ok (.goto (-36), 3) := by decide +kernel
theorem dX8_pairRank_59 : decode cX8_pairRank 59 = .ok (.lload 4, 2) := by decide +kernel
theorem dX8_pairRank_61 : decode cX8_pairRank 61 = .ok (.aload_n 0, 1) := by decide +kernel
theorem dX8_pairRank_62 : decode cX8_pairRank 62 = .ok (.iload_n 1, 1) := by decide +kernel
theorem dX8_pairRank_63 : decode cX8_pairRank 63 = .ok (.invokevirtual 239, 3) := by decide +kernel
theorem dX8_pairRank_66 : decode cX8_pairRank 66 = .ok (.aload_n 0, 1) := by decide +kernel
theorem dX8_pairRank_67 : decode cX8_pairRank 67 = .ok (.getfield 43, 3) := by decide +kernel
theorem dX8_pairRank_70 : decode cX8_pairRank 70 = .ok (.aload_n 0, 1) := by decide +kernel
theorem dX8_pairRank_71 : decode cX8_pairRank 71 = .ok (.getfield 25, 3) := by decide +kernel
theorem dX8_pairRank_74 : decode cX8_pairRank 74 = .ok (.iload_n 2, 1) := by decide +kernel
theorem dX8_pairRank_75 : decode cX8_pairRank 75 = .ok (.iaload, 1) := by decide +kernel
theorem dX8_pairRank_76 : decode cX8_pairRank 76 = .ok (.laload, 1) := by decide +kernel
theorem dX8_pairRank_77 : decode cX8_pairRank 77 = .ok (.lmul, 1) := by decide +kernel
theorem dX8_pairRank_78 : decode cX8_pairRank 78 = .ok (.ladd, 1) := by decide +kernel
theorem dX8_pairRank_79 : decode cX8_pairRank 79 = .ok (.aload_n 0, 1) := by decide +kernel
theorem dX8_pairRank_80 : decode cX8_pairRank 80 = .ok (.iload_n 2, 1) := by decide +kernel
theorem dX8_pairRank_81 : decode cX8_pairRank 81 = .ok (.invokevirtual 239, 3) := by decide +kernel
theorem dX8_pairRank_84 : decode cX8_pairRank 84 = .ok (.ladd, 1) := by decide +kernel
theorem dX8_pairRank_85 : decode cX8_pairRank 85 = .ok (.lreturn, 1) := by decide +kernel
theorem dX8_rank_0 : decode cX8_rank 0 = .ok (.aload_n 0, 1) := by decide +kernel
theorem dX8_rank_1 : decode cX8_rank 1 = .ok (.getfield 25, 3) := by decide +kernel
theorem dX8_rank_4 : decode cX8_rank 4 = .ok (.iload_n 1, 1) := by decide +kernel
theorem dX8_rank_5 : decode cX8_rank 5 = .ok (.iaload, 1) := by decide +kernel
theorem dX8_rank_6 : decode cX8_rank 6 = .ok (.istore_n 2, 1) := by decide +kernel
theorem dX8_rank_7 : decode cX8_rank 7 = .ok (.iload_n 2, 1) := by decide +kernel
theorem dX8_rank_8 : decode cX8_rank 8 = .ok (.iconst 1, 1) := by decide +kernel
theorem dX8_rank_9 : decode cX8_rank 9 = .ok (.if_icmp .ne 32, 3) := by decide +kernel
theorem dX8_rank_12 : decode cX8_rank 12 = .ok (.aload_n 0, 1) := by decide +kernel
theorem dX8_rank_13 : decode cX8_rank 13 = .ok (.getfield 7, 3) := by decide +kernel
theorem dX8_rank_16 : decode cX8_rank 16 = .ok (.iload_n 1, 1) := by decide +kernel
theorem dX8_rank_17 : decode cX8_rank 17 = .ok (.iaload, 1) := by decide +kernel
theorem dX8_rank_18 : decode cX8_rank 18 = .ok (.ifCond .ne 13, 3) := by decide +kernel
theorem dX8_rank_21 : decode cX8_rank 21 = .ok (.aload_n 0, 1) := by decide +kernel
theorem dX8_rank_22 : decode cX8_rank 22 = .ok (.getfield 13, 3) := by decide +kernel
theorem dX8_rank_25 : decode cX8_rank 25 = .ok (.iload_n 1, 1) := by decide +kernel
theorem dX8_rank_26 : decode cX8_rank 26 = .ok (.iaload, 1) := by decide +kernel
theorem dX8_rank_27 : decode cX8_rank 27 = .ok (.i2l, 1) := by decide +kernel
theorem dX8_rank_28 : decode cX8_rank 28 = .ok (.goto 12, 3) := by decide +kernel
theorem dX8_rank_31 : decode cX8_rank 31 = .ok (.aload_n 0, 1) := by decide +kernel
theorem dX8_rank_32 : decode cX8_rank 32 = .ok (.getfield 7, 3) := by decide +kernel
theorem dX8_rank_35 : decode cX8_rank 35 = .ok (.iload_n 1, 1) := by decide +kernel
theorem dX8_rank_36 : decode cX8_rank 36 = .ok (.iaload, 1) := by decide +kernel
theorem dX8_rank_37 : decode cX8_rank 37 = .ok (.iconst 2, 1) := by decide +kernel
theorem dX8_rank_38 : decode cX8_rank 38 = .ok (.iadd, 1) := by decide +kernel
theorem dX8_rank_39 : decode cX8_rank 39 = .ok (.i2l, 1) := by decide +kernel
theorem dX8_rank_40 : decode cX8_rank 40 = .ok (.lreturn, 1) := by decide +kernel
theorem dX8_rank_41 : decode cX8_rank 41 = .ok (.aload_n 0, 1) := by decide +kernel
theorem dX8_rank_42 : decode cX8_rank 42 = .ok (.getfield 7, 3) := by decide +kernel
theorem dX8_rank_45 : decode cX8_rank 45 = .ok (.iload_n 1, 1) := by decide +kernel
theorem dX8_rank_46 : decode cX8_rank 46 = .ok (.iaload, 1) := by decide +kernel
theorem dX8_rank_47 : decode cX8_rank 47 = .ok (.iconst 3, 1) := by decide +kernel
theorem dX8_rank_48 : decode cX8_rank 48 = .ok (.if_icmp .ne 14, 3) := by decide +kernel
theorem dX8_rank_51 : decode cX8_rank 51 = .ok (.aload_n 0, 1) := by decide +kernel
theorem dX8_rank_52 : decode cX8_rank 52 = .ok (.aload_n 0, 1) := by decide +kernel
theorem dX8_rank_53 : decode cX8_rank 53 = .ok (.getfield 16, 3) := by decide +kernel
theorem dX8_rank_56 : decode cX8_rank 56 = .ok (.iload_n 1, 1) := by decide +kernel
theorem dX8_rank_57 : decode cX8_rank 57 = .ok (.iaload, 1) := by decide +kernel
theorem dX8_rank_58 : decode cX8_rank 58 = .ok (.invokevirtual 239, 3) := by decide +kernel
theorem dX8_rank_61 : decode cX8_rank 61 = .ok (.lreturn, 1) := by decide +kernel
theorem dX8_rank_62 : decode cX8_rank 62 = .ok (.aload_n 0, 1) := by decide +kernel
theorem dX8_rank_63 : decode cX8_rank 63 = .ok (.getfield 43, 3) := by decide +kernel
theorem dX8_rank_66 : decode cX8_rank 66 = .ok (.iload_n 2, 1) := by decide +kernel
theorem dX8_rank_67 : decode cX8_rank 67 = .ok (.iconst 1, 1) := by decide +kernel
theorem dX8_rank_68 : decode cX8_rank 68 = .ok (.isub, 1) := by decide +kernel
theorem dX8_rank_69 : decode cX8_rank 69 = .ok (.laload, 1) := by decide +kernel
theorem dX8_rank_70 : decode cX8_rank 70 = .ok (.lstore_n 3, 1) := by decide +kernel
theorem dX8_rank_71 : decode cX8_rank 71 = .ok (.aload_n 0, 1) := by decide +kernel
theorem dX8_rank_72 : decode cX8_rank 72 = .ok (.getfield 7, 3) := by decide +kernel
theorem dX8_rank_75 : decode cX8_rank 75 = .ok (.iload_n 1, 1) := by decide +kernel
theorem dX8_rank_76 : decode cX8_rank 76 = .ok (.iaload, 1) := by decide +kernel
theorem dX8_rank_77 : decode cX8_rank 77 = .ok (.bipush 8, 2) := by decide +kernel
theorem dX8_rank_79 : decode cX8_rank 79 = .ok (.if_icmp .eq 40, 3) := by decide +kernel
theorem dX8_rank_82 : decode cX8_rank 82 = .ok (.lload_n 3, 1) := by decide +kernel
theorem dX8_rank_83 : decode cX8_rank 83 = .ok (.aload_n 0, 1) := by decide +kernel
theorem dX8_rank_84 : decode cX8_rank 84 = .ok (.getfield 7, 3) := by decide +kernel
theorem dX8_rank_87 : decode cX8_rank 87 = .ok (.iload_n 1, 1) := by decide +kernel
theorem dX8_rank_88 : decode cX8_rank 88 = .ok (.iaload, 1) := by decide +kernel
theorem dX8_rank_89 : decode cX8_rank 89 = .ok (.iconst 4, 1) := by decide +kernel
theorem dX8_rank_90 : decode cX8_rank 90 = .ok (.isub, 1) := by decide +kernel
theorem dX8_rank_91 : decode cX8_rank 91 = .ok (.i2l, 1) := by decide +kernel
theorem dX8_rank_92 : decode cX8_rank 92 = .ok (.aload_n 0, 1) := by decide +kernel
theorem dX8_rank_93 : decode cX8_rank 93 = .ok (.iload_n 2, 1) := by decide +kernel
theorem dX8_rank_94 : decode cX8_rank 94 = .ok (.iconst 1, 1) := by decide +kernel
theorem dX8_rank_95 : decode cX8_rank 95 = .ok (.isub, 1) := by decide +kernel
theorem dX8_rank_96 : decode cX8_rank 96 = .ok (.invokevirtual 212, 3) := by decide +kernel
theorem dX8_rank_99 : decode cX8_rank 99 = .ok (.lmul, 1) := by decide +kernel
theorem dX8_rank_100 : decode cX8_rank 100 = .ok (.ladd, 1) := by decide +kernel
theorem dX8_rank_101 : decode cX8_rank 101 = .ok (.aload_n 0, 1) := by decide +kernel
theorem dX8_rank_102 : decode cX8_rank 102 = .ok (.aload_n 0, 1) := by decide +kernel
theorem dX8_rank_103 : decode cX8_rank 103 = .ok (.getfield 16, 3) := by decide +kernel
theorem dX8_rank_106 : decode cX8_rank 106 = .ok (.iload_n 1, 1) := by decide +kernel
theorem dX8_rank_107 : decode cX8_rank 107 = .ok (.iaload, 1) := by decide +kernel
theorem dX8_rank_108 : decode cX8_rank 108 = .ok (.aload_n 0, 1) := by decide +kernel
theorem dX8_rank_109 : decode cX8_rank 109 = .ok (.getfield 19, 3) := by decide +kernel
theorem dX8_rank_112 : decode cX8_rank 112 = .ok (.iload_n 1, 1) := by decide +kernel
theorem dX8_rank_113 : decode cX8_rank 113 = .ok (.iaload, 1) := by decide +kernel
theorem dX8_rank_114 : decode cX8_rank 114 = .ok (.invokevirtual 242, 3) := by decide +kernel
theorem dX8_rank_117 : decode cX8_rank 117 = .ok (.ladd, 1) := by decide +kernel
theorem dX8_rank_118 : decode cX8_rank 118 = .ok (.lreturn, 1) := by decide +kernel
theorem dX8_rank_119 : decode cX8_rank 119 = .ok (.lload_n 3, 1) := by decide +kernel
theorem dX8_rank_120 : decode cX8_rank 120 = .ok (.ldc2_w 210, 3) := by decide +kernel
theorem dX8_rank_123 : decode cX8_rank 123 = .ok (.aload_n 0, 1) := by decide +kernel
theorem dX8_rank_124 : decode cX8_rank 124 = .ok (.iload_n 2, 1) := by decide +kernel
theorem dX8_rank_125 : decode cX8_rank 125 = .ok (.iconst 1, 1) := by decide +kernel
theorem dX8_rank_126 : decode cX8_rank 126 = .ok (.isub, 1) := by decide +kernel
theorem dX8_rank_127 : decode cX8_rank 127 = .ok (.invokevirtual 212, 3) := by decide +kernel
theorem dX8_rank_130 : decode cX8_rank 130 = .ok (.lmul, 1) := by decide +kernel
theorem dX8_rank_131 : decode cX8_rank 131 = .ok (.ladd, 1) := by decide +kernel
theorem dX8_rank_132 : decode cX8_rank 132 = .ok (.lstore_n 3, 1) := by decide +kernel
theorem dX8_rank_133 : decode cX8_rank 133 = .ok (.iconst 1, 1) := by decide +kernel
theorem dX8_rank_134 : decode cX8_rank 134 = .ok (.istore 5, 2) := by decide +kernel
theorem dX8_rank_136 : decode cX8_rank 136 = .ok (.iload 5, 2) := by decide +kernel
theorem dX8_rank_138 : decode cX8_rank 138 = .ok (.aload_n 0, 1) := by decide +kernel
theorem dX8_rank_139 : decode cX8_rank 139 = .ok (.getfield 25, 3) := by decide +kernel
theorem dX8_rank_142 : decode cX8_rank 142 = .ok (.aload_n 0, 1) := by decide +kernel
theorem dX8_rank_143 : decode cX8_rank 143 = .ok (.getfield 16, 3) := by decide +kernel
theorem dX8_rank_146 : decode cX8_rank 146 = .ok (.iload_n 1, 1) := by decide +kernel
theorem dX8_rank_147 : decode cX8_rank 147 = .ok (.iaload, 1) := by decide +kernel
theorem dX8_rank_148 : decode cX8_rank 148 = .ok (.iaload, 1) := by decide +kernel
theorem dX8_rank_149 : decode cX8_rank 149 = .ok (.if_icmp .ge 30, 3) := by decide +kernel
theorem dX8_rank_152 : decode cX8_rank 152 = .ok (.lload_n 3, 1) := by decide +kernel
theorem dX8_rank_153 : decode cX8_rank 153 = .ok (.aload_n 0, 1) := by decide +kernel
theorem dX8_rank_154 : decode cX8_rank 154 = .ok (.getfield 43, 3) := by decide +kernel
theorem dX8_rank_157 : decode cX8_rank 157 = .ok (.iload 5, 2) := by decide +kernel
theorem dX8_rank_159 : decode cX8_rank 159 = .ok (.laload, 1) := by decide +kernel
theorem dX8_rank_160 : decode cX8_rank 160 = .ok (.aload_n 0, 1) := by decide +kernel
theorem dX8_rank_161 : decode cX8_rank 161 = .ok (.iload_n 2, 1) := by decide +kernel
theorem dX8_rank_162 : decode cX8_rank 162 = .ok (.iconst 1, 1) := by decide +kernel
theorem dX8_rank_163 : decode cX8_rank 163 = .ok (.isub, 1) := by decide +kernel
theorem dX8_rank_164 : decode cX8_rank 164 = .ok (.iload 5, 2) := by decide +kernel
theorem dX8_rank_166 : decode cX8_rank 166 = .ok (.isub, 1) := by decide +kernel
theorem dX8_rank_167 : decode cX8_rank 167 = .ok (.invokevirtual 212, 3) := by decide +kernel
theorem dX8_rank_170 : decode cX8_rank 170 = .ok (.lmul, 1) := by decide +kernel
theorem dX8_rank_171 : decode cX8_rank 171 = .ok (.ladd, 1) := by decide +kernel
theorem dX8_rank_172 : decode cX8_rank 172 = .ok (.lstore_n 3, 1) := by decide +kernel
theorem dX8_rank_173 : decode cX8_rank 173 = .ok (.iinc 5 1, 3) := by decide +kernel
theorem dX8_rank_176 : decode cX8_rank 176 = .ok (.goto (-40), 3) := by decide +kernel
theorem dX8_rank_179 : decode cX8_rank 179 = .ok (.lload_n 3, 1) := by decide +kernel
theorem dX8_rank_180 : decode cX8_rank 180 = .ok (.aload_n 0, 1) := by decide +kernel
theorem dX8_rank_181 : decode cX8_rank 181 = .ok (.aload_n 0, 1) := by decide +kernel
theorem dX8_rank_182 : decode cX8_rank 182 = .ok (.getfield 16, 3) := by decide +kernel
theorem dX8_rank_185 : decode cX8_rank 185 = .ok (.iload_n 1, 1) := by decide +kernel
theorem dX8_rank_186 : decode cX8_rank 186 = .ok (.iaload, 1) := by decide +kernel
theorem dX8_rank_187 : decode cX8_rank 187 = .ok (.invokevirtual 239, 3) := by decide +kernel
theorem dX8_rank_190 : decode cX8_rank 190 = .ok (.aload_n 0, 1) := by decide +kernel
theorem dX8_rank_191 : decode cX8_rank 191 = .ok (.iload_n 2, 1) := by decide +kernel
theorem dX8_rank_192 : decode cX8_rank 192 = .ok (.iconst 1, 1) := by decide +kernel
theorem dX8_rank_193 : decode cX8_rank 193 = .ok (.isub, 1) := by decide +kernel
theorem dX8_rank_194 : decode cX8_rank 194 = .ok (.aload_n 0, 1) := by decide +kernel
theorem dX8_rank_195 : decode cX8_rank 195 = .ok (.getfield 25, 3) := by decide +kernel
theorem dX8_rank_198 : decode cX8_rank 198 = .ok (.aload_n 0, 1) := by decide +kernel
theorem dX8_rank_199 : decode cX8_rank 199 = .ok (.getfield 16, 3) := by decide +kernel
theorem dX8_rank_202 : decode cX8_rank 202 = .ok (.iload_n 1, 1) := by decide +kernel
theorem dX8_rank_203 : decode cX8_rank 203 = .ok (.iaload, 1) := by decide +kernel
theorem dX8_rank_204 : decode cX8_rank 204 = .ok (.iaload, 1) := by decide +kernel
theorem dX8_rank_205 : decode cX8_rank 205 = .ok (.isub, 1) := by decide +kernel
theorem dX8_rank_206 : decode cX8_rank 206 = .ok (.invokevirtual 212, 3) := by decide +kernel
theorem dX8_rank_209 : decode cX8_rank 209 = .ok (.lmul, 1) := by decide +kernel
theorem dX8_rank_210 : decode cX8_rank 210 = .ok (.ladd, 1) := by decide +kernel
theorem dX8_rank_211 : decode cX8_rank 211 = .ok (.aload_n 0, 1) := by decide +kernel
theorem dX8_rank_212 : decode cX8_rank 212 = .ok (.aload_n 0, 1) := by decide +kernel
theorem dX8_rank_213 : decode cX8_rank 213 = .ok (.getfield 19, 3) := by decide +kernel
theorem dX8_rank_216 : decode cX8_rank 216 = .ok (.iload_n 1, 1) := by decide +kernel
theorem dX8_rank_217 : decode cX8_rank 217 = .ok (.iaload, 1) := by decide +kernel
theorem dX8_rank_218 : decode cX8_rank 218 = .ok (.aload_n 0, 1) := by decide +kernel
theorem dX8_rank_219 : decode cX8_rank 219 = .ok (.getfield 22, 3) := by decide +kernel
theorem dX8_rank_222 : decode cX8_rank 222 = .ok (.iload_n 1, 1) := by decide +kernel
theorem dX8_rank_223 : decode cX8_rank 223 = .ok (.iaload, 1) := by decide +kernel
theorem dX8_rank_224 : decode cX8_rank 224 = .ok (.invokevirtual 242, 3) := by decide +kernel
theorem dX8_rank_227 : decode cX8_rank 227 = .ok (.ladd, 1) := by decide +kernel
theorem dX8_rank_228 : decode cX8_rank 228 = .ok (.lreturn, 1) := by decide +kernel
theorem dX8_number_0 : decode cX8_number 0 = .ok (.aload_n 0, 1) := by decide +kernel
theorem dX8_number_1 : decode cX8_number 1 = .ok (.iload_n 1, 1) := by decide +kernel
theorem dX8_number_2 : decode cX8_number 2 = .ok (.invokevirtual 246, 3) := by decide +kernel
theorem dX8_number_5 : decode cX8_number 5 = .ok (.ifCond .ne 7, 3) := by decide +kernel
theorem dX8_number_8 : decode cX8_number 8 = .ok (.ldc2_w 218, 3) := by decide +kernel
theorem dX8_number_11 : decode cX8_number 11 = .ok (.lreturn, 1) := by decide +kernel
theorem dX8_number_12 : decode cX8_number 12 = .ok (.aload_n 0, 1) := by decide +kernel
theorem dX8_number_13 : decode cX8_number 13 = .ok (.iload_n 1, 1) := by decide +kernel
theorem dX8_number_14 : decode cX8_number 14 = .ok (.invokevirtual 198, 3) := by decide +kernel
theorem dX8_number_17 : decode cX8_number 17 = .ok (.aload_n 0, 1) := by decide +kernel
theorem dX8_number_18 : decode cX8_number 18 = .ok (.getfield 185, 3) := by decide +kernel
theorem dX8_number_21 : decode cX8_number 21 = .ok (.bipush 15, 2) := by decide +kernel
theorem dX8_number_23 : decode cX8_number 23 = .ok (.if_icmp .le 7, 3) := by decide +kernel
theorem dX8_number_26 : decode cX8_number 26 = .ok (.ldc2_w 249, 3) := by decide +kernel
theorem dX8_number_29 : decode cX8_number 29 = .ok (.lreturn, 1) := by decide +kernel
theorem dX8_number_30 : decode cX8_number 30 = .ok (.iconst 0, 1) := by decide +kernel
theorem dX8_number_31 : decode cX8_number 31 = .ok (.istore_n 2, 1) := by decide +kernel
theorem dX8_number_32 : decode cX8_number 32 = .ok (.iload_n 2, 1) := by decide +kernel
theorem dX8_number_33 : decode cX8_number 33 = .ok (.aload_n 0, 1) := by decide +kernel
theorem dX8_number_34 : decode cX8_number 34 = .ok (.getfield 185, 3) := by decide +kernel
theorem dX8_number_37 : decode cX8_number 37 = .ok (.if_icmp .ge 39, 3) := by decide +kernel
theorem dX8_number_40 : decode cX8_number 40 = .ok (.aload_n 0, 1) := by decide +kernel
theorem dX8_number_41 : decode cX8_number 41 = .ok (.getfield 37, 3) := by decide +kernel
theorem dX8_number_44 : decode cX8_number 44 = .ok (.iload_n 2, 1) := by decide +kernel
theorem dX8_number_45 : decode cX8_number 45 = .ok (.iaload, 1) := by decide +kernel
theorem dX8_number_46 : decode cX8_number 46 = .ok (.ifCond .ne 24, 3) := by decide +kernel
theorem dX8_number_49 : decode cX8_number 49 = .ok (.aload_n 0, 1) := by decide +kernel
theorem dX8_number_50 : decode cX8_number 50 = .ok (.getfield 40, 3) := by decide +kernel
theorem dX8_number_53 : decode cX8_number 53 = .ok (.iload_n 2, 1) := by decide +kernel
theorem dX8_number_54 : decode cX8_number 54 = .ok (.iaload, 1) := by decide +kernel
theorem dX8_number_55 : decode cX8_number 55 = .ok (.i2l, 1) := by decide +kernel
theorem dX8_number_56 : decode cX8_number 56 = .ok (.lconst 0, 1) := by decide +kernel
theorem dX8_number_57 : decode cX8_number 57 = .ok (.ldc2_w 251, 3) := by decide +kernel
theorem dX8_number_60 : decode cX8_number 60 = .ok (.invokestatic 177, 3) := by decide +kernel
theorem dX8_number_63 : decode cX8_number 63 = .ok (.ifCond .ne 7, 3) := by decide +kernel
theorem dX8_number_66 : decode cX8_number 66 = .ok (.ldc2_w 249, 3) := by decide +kernel
theorem dX8_number_69 : decode cX8_number 69 = .ok (.lreturn, 1) := by decide +kernel
theorem dX8_number_70 : decode cX8_number 70 = .ok (.iinc 2 1, 3) := by decide +kernel
theorem dX8_number_73 : decode cX8_number 73 = .ok (.goto (-41), 3) := by decide +kernel
theorem dX8_number_76 : decode cX8_number 76 = .ok (.aload_n 0, 1) := by decide +kernel
theorem dX8_number_77 : decode cX8_number 77 = .ok (.invokevirtual 220, 3) := by decide +kernel
theorem dX8_number_80 : decode cX8_number 80 = .ok (.aload_n 0, 1) := by decide +kernel
theorem dX8_number_81 : decode cX8_number 81 = .ok (.aload_n 0, 1) := by decide +kernel
theorem dX8_number_82 : decode cX8_number 82 = .ok (.invokevirtual 202, 3) := by decide +kernel
theorem dX8_number_85 : decode cX8_number 85 = .ok (.invokevirtual 239, 3) := by decide +kernel
theorem dX8_number_88 : decode cX8_number 88 = .ok (.lreturn, 1) := by decide +kernel
theorem dX8_node_0 : decode cX8_node 0 = .ok (.iload_n 1, 1) := by decide +kernel
theorem dX8_node_1 : decode cX8_node 1 = .ok (.i2l, 1) := by decide +kernel
theorem dX8_node_2 : decode cX8_node 2 = .ok (.lconst 0, 1) := by decide +kernel
theorem dX8_node_3 : decode cX8_node 3 = .ok (.ldc2_w 253, 3) := by decide +kernel
theorem dX8_node_6 : decode cX8_node 6 = .ok (.invokestatic 177, 3) := by decide +kernel
theorem dX8_node_9 : decode cX8_node 9 = .ok (.ifCond .eq 11, 3) := by decide +kernel
theorem dX8_node_12 : decode cX8_node 12 = .ok (.iload_n 1, 1) := by decide +kernel
theorem dX8_node_13 : decode cX8_node 13 = .ok (.ifCond .eq 9, 3) := by decide +kernel
theorem dX8_node_16 : decode cX8_node 16 = .ok (.iload_n 2, 1) := by decide +kernel
theorem dX8_node_17 : decode cX8_node 17 = .ok (.ifCond .eq 5, 3) := by decide +kernel
theorem dX8_node_20 : decode cX8_node 20 = .ok (.iconst (-1), 1) := by decide +kernel
theorem dX8_node_21 : decode cX8_node 21 = .ok (.ireturn, 1) := by decide +kernel
theorem dX8_node_22 : decode cX8_node 22 = .ok (.aload_n 0, 1) := by decide +kernel
theorem dX8_node_23 : decode cX8_node 23 = .ok (.getfield 255, 3) := by decide +kernel
theorem dX8_node_26 : decode cX8_node 26 = .ok (.iload_n 1, 1) := by decide +kernel
theorem dX8_node_27 : decode cX8_node 27 = .ok (.invokestatic 191, 3) := by decide +kernel
theorem dX8_node_30 : decode cX8_node 30 = .ok (.if_icmp .ge 6, 3) := by decide +kernel
theorem dX8_node_33 : decode cX8_node 33 = .ok (.bipush (-2), 2) := by decide +kernel
theorem dX8_node_35 : decode cX8_node 35 = .ok (.ireturn, 1) := by decide +kernel
theorem dX8_node_36 : decode cX8_node 36 = .ok (.aload_n 0, 1) := by decide +kernel
theorem dX8_node_37 : decode cX8_node 37 = .ok (.getfield 258, 3) := by decide +kernel
theorem dX8_node_40 : decode cX8_node 40 = .ok (.bipush 60, 2) := by decide +kernel
theorem dX8_node_42 : decode cX8_node 42 = .ok (.if_icmp .ne 6, 3) := by decide +kernel
theorem dX8_node_45 : decode cX8_node 45 = .ok (.bipush (-3), 2) := by decide +kernel
theorem dX8_node_47 : decode cX8_node 47 = .ok (.ireturn, 1) := by decide +kernel
theorem dX8_node_48 : decode cX8_node 48 = .ok (.aload_n 0, 1) := by decide +kernel
theorem dX8_node_49 : decode cX8_node 49 = .ok (.dup, 1) := by decide +kernel
theorem dX8_node_50 : decode cX8_node 50 = .ok (.getfield 255, 3) := by decide +kernel
theorem dX8_node_53 : decode cX8_node 53 = .ok (.iload_n 1, 1) := by decide +kernel
theorem dX8_node_54 : decode cX8_node 54 = .ok (.invokestatic 191, 3) := by decide +kernel
theorem dX8_node_57 : decode cX8_node 57 = .ok (.isub, 1) := by decide +kernel
theorem dX8_node_58 : decode cX8_node 58 = .ok (.putfield 255, 3) := by decide +kernel
theorem dX8_node_61 : decode cX8_node 61 = .ok (.iload_n 1, 1) := by decide +kernel
theorem dX8_node_62 : decode cX8_node 62 = .ok (.invokestatic 191, 3) := by decide +kernel
theorem dX8_node_65 : decode cX8_node 65 = .ok (.ifCond .ne 10, 3) := by decide +kernel
theorem dX8_node_68 : decode cX8_node 68 = .ok (.aload_n 0, 1) := by decide +kernel
theorem dX8_node_69 : decode cX8_node 69 = .ok (.getfield 258, 3) := by decide +kernel
theorem dX8_node_72 : decode cX8_node 72 = .ok (.goto 12, 3) := by decide +kernel
theorem dX8_node_75 : decode cX8_node 75 = .ok (.aload_n 0, 1) := by decide +kernel
theorem dX8_node_76 : decode cX8_node 76 = .ok (.getfield 47, 3) := by decide +kernel
theorem dX8_node_79 : decode cX8_node 79 = .ok (.aload_n 0, 1) := by decide +kernel
theorem dX8_node_80 : decode cX8_node 80 = .ok (.getfield 255, 3) := by decide +kernel
theorem dX8_node_83 : decode cX8_node 83 = .ok (.iaload, 1) := by decide +kernel
theorem dX8_node_84 : decode cX8_node 84 = .ok (.istore_n 3, 1) := by decide +kernel
theorem dX8_node_85 : decode cX8_node 85 = .ok (.aload_n 0, 1) := by decide +kernel
theorem dX8_node_86 : decode cX8_node 86 = .ok (.getfield 258, 3) := by decide +kernel
theorem dX8_node_89 : decode cX8_node 89 = .ok (.istore 4, 2) := by decide +kernel
theorem dX8_node_91 : decode cX8_node 91 = .ok (.iload 4, 2) := by decide +kernel
theorem dX8_node_93 : decode cX8_node 93 = .ok (.iload_n 3, 1) := by decide +kernel
theorem dX8_node_94 : decode cX8_node 94 = .ok (.if_icmp .le 41, 3) := by decide +kernel
theorem dX8_node_97 : decode cX8_node 97 = .ok (.aload_n 0, 1) := by decide +kernel
theorem dX8_node_98 : decode cX8_node 98 = .ok (.getfield 50, 3) := by decide +kernel
theorem dX8_node_101 : decode cX8_node 101 = .ok (.iload 4, 2) := by decide +kernel
theorem dX8_node_103 : decode cX8_node 103 = .ok (.aload_n 0, 1) := by decide +kernel
theorem dX8_node_104 : decode cX8_node 104 = .ok (.getfield 50, 3) := by decide +kernel
theorem dX8_node_107 : decode cX8_node 107 = .ok (.iload 4, 2) := by decide +kernel
theorem dX8_node_109 : decode cX8_node 109 = .ok (.iconst 1, 1) := by decide +kernel
theorem dX8_node_110 : decode cX8_node 110 = .ok (.isub, 1) := by decide +kernel
theorem dX8_node_111 : decode cX8_node 111 = .ok (.iaload, 1) := by decide +kernel
theorem dX8_node_112 : decode cX8_node 112 = .ok (.iastore, 1) := by decide +kernel
theorem dX8_node_113 : decode cX8_node 113 = .ok (.aload_n 0, 1) := by decide +kernel
theorem dX8_node_114 : decode cX8_node 114 = .ok (.getfield 53, 3) := by decide +kernel
theorem dX8_node_117 : decode cX8_node 117 = .ok (.iload 4, 2) := by decide +kernel
theorem dX8_node_119 : decode cX8_node 119 = .ok (.aload_n 0, 1) := by decide +kernel
theorem dX8_node_120 : decode cX8_node 120 = .ok (.getfield 53, 3) := by decide +kernel
theorem dX8_node_123 : decode cX8_node 123 = .ok (.iload 4, 2) := by decide +kernel
theorem dX8_node_125 : decode cX8_node 125 = .ok (.iconst 1, 1) := by decide +kernel
theorem dX8_node_126 : decode cX8_node 126 = .ok (.isub, 1) := by decide +kernel
theorem dX8_node_127 : decode cX8_node 127 = .ok (.iaload, 1) := by decide +kernel
theorem dX8_node_128 : decode cX8_node 128 = .ok (.iastore, 1) := by decide +kernel
theorem dX8_node_129 : decode cX8_node 129 = .ok (.iinc 4 (-1), 3) := by decide +kernel
theorem dX8_node_132 : decode cX8_node 132 = .ok (.goto (-41), 3) := by decide +kernel
theorem dX8_node_135 : decode cX8_node 135 = .ok (.aload_n 0, 1) := by decide +kernel
theorem dX8_node_136 : decode cX8_node 136 = .ok (.getfield 50, 3) := by decide +kernel
theorem dX8_node_139 : decode cX8_node 139 = .ok (.iload_n 3, 1) := by decide +kernel
theorem dX8_node_140 : decode cX8_node 140 = .ok (.iload_n 1, 1) := by decide +kernel
theorem dX8_node_141 : decode cX8_node 141 = .ok (.iastore, 1) := by decide +kernel
theorem dX8_node_142 : decode cX8_node 142 = .ok (.aload_n 0, 1) := by decide +kernel
theorem dX8_node_143 : decode cX8_node 143 = .ok (.getfield 53, 3) := by decide +kernel
theorem dX8_node_146 : decode cX8_node 146 = .ok (.iload_n 3, 1) := by decide +kernel
theorem dX8_node_147 : decode cX8_node 147 = .ok (.iload_n 2, 1) := by decide +kernel
theorem dX8_node_148 : decode cX8_node 148 = .ok (.iastore, 1) := by decide +kernel
theorem dX8_node_149 : decode cX8_node 149 = .ok (.aload_n 0, 1) := by decide +kernel
theorem dX8_node_150 : decode cX8_node 150 = .ok (.dup, 1) := by decide +kernel
theorem dX8_node_151 : decode cX8_node 151 = .ok (.getfield 258, 3) := by decide +kernel
theorem dX8_node_154 : decode cX8_node 154 = .ok (.iconst 1, 1) := by decide +kernel
theorem dX8_node_155 : decode cX8_node 155 = .ok (.iadd, 1) := by decide +kernel
theorem dX8_node_156 : decode cX8_node 156 = .ok (.putfield 258, 3) := by decide +kernel
theorem dX8_node_159 : decode cX8_node 159 = .ok (.aload_n 0, 1) := by decide +kernel
theorem dX8_node_160 : decode cX8_node 160 = .ok (.getfield 47, 3) := by decide +kernel
theorem dX8_node_163 : decode cX8_node 163 = .ok (.aload_n 0, 1) := by decide +kernel
theorem dX8_node_164 : decode cX8_node 164 = .ok (.getfield 255, 3) := by decide +kernel
theorem dX8_node_167 : decode cX8_node 167 = .ok (.iload_n 3, 1) := by decide +kernel
theorem dX8_node_168 : decode cX8_node 168 = .ok (.iastore, 1) := by decide +kernel
theorem dX8_node_169 : decode cX8_node 169 = .ok (.aload_n 0, 1) := by decide +kernel
theorem dX8_node_170 : decode cX8_node 170 = .ok (.dup, 1) := by decide +kernel
theorem dX8_node_171 : decode cX8_node 171 = .ok (.getfield 255, 3) := by decide +kernel
theorem dX8_node_174 : decode cX8_node 174 = .ok (.iconst 1, 1) := by decide +kernel
theorem dX8_node_175 : decode cX8_node 175 = .ok (.iadd, 1) := by decide +kernel
theorem dX8_node_176 : decode cX8_node 176 = .ok (.putfield 255, 3) := by decide +kernel
theorem dX8_node_179 : decode cX8_node 179 = .ok (.aload_n 0, 1) := by decide +kernel
theorem dX8_node_180 : decode cX8_node 180 = .ok (.getfield 255, 3) := by decide +kernel
theorem dX8_node_183 : decode cX8_node 183 = .ok (.ireturn, 1) := by decide +kernel
theorem dX8_keep_0 : decode cX8_keep 0 = .ok (.iload_n 1, 1) := by decide +kernel
theorem dX8_keep_1 : decode cX8_keep 1 = .ok (.invokestatic 181, 3) := by decide +kernel
theorem dX8_keep_4 : decode cX8_keep 4 = .ok (.ifCond .ne 5, 3) := by decide +kernel
theorem dX8_keep_7 : decode cX8_keep 7 = .ok (.iconst (-1), 1) := by decide +kernel
theorem dX8_keep_8 : decode cX8_keep 8 = .ok (.ireturn, 1) := by decide +kernel
theorem dX8_keep_9 : decode cX8_keep 9 = .ok (.aload_n 0, 1) := by decide +kernel
theorem dX8_keep_10 : decode cX8_keep 10 = .ok (.getfield 255, 3) := by decide +kernel
theorem dX8_keep_13 : decode cX8_keep 13 = .ok (.iconst 1, 1) := by decide +kernel
theorem dX8_keep_14 : decode cX8_keep 14 = .ok (.if_icmp .eq 6, 3) := by decide +kernel
theorem dX8_keep_17 : decode cX8_keep 17 = .ok (.bipush (-2), 2) := by decide +kernel
theorem dX8_keep_19 : decode cX8_keep 19 = .ok (.ireturn, 1) := by decide +kernel
theorem dX8_keep_20 : decode cX8_keep 20 = .ok (.aload_n 0, 1) := by decide +kernel
theorem dX8_keep_21 : decode cX8_keep 21 = .ok (.aload_n 0, 1) := by decide +kernel
theorem dX8_keep_22 : decode cX8_keep 22 = .ok (.getfield 258, 3) := by decide +kernel
theorem dX8_keep_25 : decode cX8_keep 25 = .ok (.putfield 185, 3) := by decide +kernel
theorem dX8_keep_28 : decode cX8_keep 28 = .ok (.iconst 0, 1) := by decide +kernel
theorem dX8_keep_29 : decode cX8_keep 29 = .ok (.istore_n 2, 1) := by decide +kernel
theorem dX8_keep_30 : decode cX8_keep 30 = .ok (.iload_n 2, 1) := by decide +kernel
theorem dX8_keep_31 : decode cX8_keep 31 = .ok (.aload_n 0, 1) := by decide +kernel
theorem dX8_keep_32 : decode cX8_keep 32 = .ok (.getfield 258, 3) := by decide +kernel
theorem dX8_keep_35 : decode cX8_keep 35 = .ok (.if_icmp .ge 33, 3) := by decide +kernel
theorem dX8_keep_38 : decode cX8_keep 38 = .ok (.aload_n 0, 1) := by decide +kernel
theorem dX8_keep_39 : decode cX8_keep 39 = .ok (.getfield 37, 3) := by decide +kernel
theorem dX8_keep_42 : decode cX8_keep 42 = .ok (.iload_n 2, 1) := by decide +kernel
theorem dX8_keep_43 : decode cX8_keep 43 = .ok (.aload_n 0, 1) := by decide +kernel
theorem dX8_keep_44 : decode cX8_keep 44 = .ok (.getfield 50, 3) := by decide +kernel
theorem dX8_keep_47 : decode cX8_keep 47 = .ok (.iload_n 2, 1) := by decide +kernel
theorem dX8_keep_48 : decode cX8_keep 48 = .ok (.iaload, 1) := by decide +kernel
theorem dX8_keep_49 : decode cX8_keep 49 = .ok (.iastore, 1) := by decide +kernel
theorem dX8_keep_50 : decode cX8_keep 50 = .ok (.aload_n 0, 1) := by decide +kernel
theorem dX8_keep_51 : decode cX8_keep 51 = .ok (.getfield 40, 3) := by decide +kernel
theorem dX8_keep_54 : decode cX8_keep 54 = .ok (.iload_n 2, 1) := by decide +kernel
theorem dX8_keep_55 : decode cX8_keep 55 = .ok (.aload_n 0, 1) := by decide +kernel
theorem dX8_keep_56 : decode cX8_keep 56 = .ok (.getfield 53, 3) := by decide +kernel
theorem dX8_keep_59 : decode cX8_keep 59 = .ok (.iload_n 2, 1) := by decide +kernel
theorem dX8_keep_60 : decode cX8_keep 60 = .ok (.iaload, 1) := by decide +kernel
theorem dX8_keep_61 : decode cX8_keep 61 = .ok (.iastore, 1) := by decide +kernel
theorem dX8_keep_62 : decode cX8_keep 62 = .ok (.iinc 2 1, 3) := by decide +kernel
theorem dX8_keep_65 : decode cX8_keep 65 = .ok (.goto (-35), 3) := by decide +kernel
theorem dX8_keep_68 : decode cX8_keep 68 = .ok (.aload_n 0, 1) := by decide +kernel
theorem dX8_keep_69 : decode cX8_keep 69 = .ok (.iconst 0, 1) := by decide +kernel
theorem dX8_keep_70 : decode cX8_keep 70 = .ok (.putfield 255, 3) := by decide +kernel
theorem dX8_keep_73 : decode cX8_keep 73 = .ok (.aload_n 0, 1) := by decide +kernel
theorem dX8_keep_74 : decode cX8_keep 74 = .ok (.iconst 0, 1) := by decide +kernel
theorem dX8_keep_75 : decode cX8_keep 75 = .ok (.putfield 258, 3) := by decide +kernel
theorem dX8_keep_78 : decode cX8_keep 78 = .ok (.aload_n 0, 1) := by decide +kernel
theorem dX8_keep_79 : decode cX8_keep 79 = .ok (.iload_n 1, 1) := by decide +kernel
theorem dX8_keep_80 : decode cX8_keep 80 = .ok (.invokevirtual 236, 3) := by decide +kernel
theorem dX8_keep_83 : decode cX8_keep 83 = .ok (.ireturn, 1) := by decide +kernel
theorem dX8_drop_0 : decode cX8_drop 0 = .ok (.aload_n 0, 1) := by decide +kernel
theorem dX8_drop_1 : decode cX8_drop 1 = .ok (.iload_n 1, 1) := by decide +kernel
theorem dX8_drop_2 : decode cX8_drop 2 = .ok (.invokevirtual 246, 3) := by decide +kernel
theorem dX8_drop_5 : decode cX8_drop 5 = .ok (.ifCond .ne 5, 3) := by decide +kernel
theorem dX8_drop_8 : decode cX8_drop 8 = .ok (.iconst (-1), 1) := by decide +kernel
theorem dX8_drop_9 : decode cX8_drop 9 = .ok (.ireturn, 1) := by decide +kernel
theorem dX8_drop_10 : decode cX8_drop 10 = .ok (.aload_n 0, 1) := by decide +kernel
theorem dX8_drop_11 : decode cX8_drop 11 = .ok (.getfield 28, 3) := by decide +kernel
theorem dX8_drop_14 : decode cX8_drop 14 = .ok (.iload_n 1, 1) := by decide +kernel
theorem dX8_drop_15 : decode cX8_drop 15 = .ok (.iaload, 1) := by decide +kernel
theorem dX8_drop_16 : decode cX8_drop 16 = .ok (.istore_n 2, 1) := by decide +kernel
theorem dX8_drop_17 : decode cX8_drop 17 = .ok (.aload_n 0, 1) := by decide +kernel
theorem dX8_drop_18 : decode cX8_drop 18 = .ok (.getfield 28, 3) := by decide +kernel
theorem dX8_drop_21 : decode cX8_drop 21 = .ok (.iload_n 1, 1) := by decide +kernel
theorem dX8_drop_22 : decode cX8_drop 22 = .ok (.iconst 0, 1) := by decide +kernel
theorem dX8_drop_23 : decode cX8_drop 23 = .ok (.iastore, 1) := by decide +kernel
theorem dX8_drop_24 : decode cX8_drop 24 = .ok (.iload_n 2, 1) := by decide +kernel
theorem dX8_drop_25 : decode cX8_drop 25 = .ok (.ireturn, 1) := by decide +kernel
theorem dX8_read_0 : decode cX8_read 0 = .ok (.aload_n 0, 1) := by decide +kernel
theorem dX8_read_1 : decode cX8_read 1 = .ok (.iload_n 1, 1) := by decide +kernel
theorem dX8_read_2 : decode cX8_read 2 = .ok (.invokevirtual 246, 3) := by decide +kernel
theorem dX8_read_5 : decode cX8_read 5 = .ok (.ifCond .eq 33, 3) := by decide +kernel
theorem dX8_read_8 : decode cX8_read 8 = .ok (.iload_n 2, 1) := by decide +kernel
theorem dX8_read_9 : decode cX8_read 9 = .ok (.i2l, 1) := by decide +kernel
theorem dX8_read_10 : decode cX8_read 10 = .ok (.lconst 0, 1) := by decide +kernel
theorem dX8_read_11 : decode cX8_read 11 = .ok (.aload_n 0, 1) := by decide +kernel
theorem dX8_read_12 : decode cX8_read 12 = .ok (.getfield 28, 3) := by decide +kernel
theorem dX8_read_15 : decode cX8_read 15 = .ok (.iload_n 1, 1) := by decide +kernel
theorem dX8_read_16 : decode cX8_read 16 = .ok (.iaload, 1) := by decide +kernel
theorem dX8_read_17 : decode cX8_read 17 = .ok (.iconst 1, 1) := by decide +kernel
theorem dX8_read_18 : decode cX8_read 18 = .ok (.isub, 1) := by decide +kernel
theorem dX8_read_19 : decode cX8_read 19 = .ok (.i2l, 1) := by decide +kernel
theorem dX8_read_20 : decode cX8_read 20 = .ok (.invokestatic 177, 3) := by decide +kernel
theorem dX8_read_23 : decode cX8_read 23 = .ok (.ifCond .eq 15, 3) := by decide +kernel
theorem dX8_read_26 : decode cX8_read 26 = .ok (.iload_n 3, 1) := by decide +kernel
theorem dX8_read_27 : decode cX8_read 27 = .ok (.i2l, 1) := by decide +kernel
theorem dX8_read_28 : decode cX8_read 28 = .ok (.lconst 0, 1) := by decide +kernel
theorem dX8_read_29 : decode cX8_read 29 = .ok (.ldc2_w 251, 3) := by decide +kernel
theorem dX8_read_32 : decode cX8_read 32 = .ok (.invokestatic 177, 3) := by decide +kernel
theorem dX8_read_35 : decode cX8_read 35 = .ok (.ifCond .ne 7, 3) := by decide +kernel
theorem dX8_read_38 : decode cX8_read 38 = .ok (.ldc_w 261, 3) := by decide +kernel
theorem dX8_read_41 : decode cX8_read 41 = .ok (.ireturn, 1) := by decide +kernel
theorem dX8_read_42 : decode cX8_read 42 = .ok (.aload_n 0, 1) := by decide +kernel
theorem dX8_read_43 : decode cX8_read 43 = .ok (.iload_n 1, 1) := by decide +kernel
theorem dX8_read_44 : decode cX8_read 44 = .ok (.invokevirtual 198, 3) := by decide +kernel
theorem dX8_read_47 : decode cX8_read 47 = .ok (.iload_n 3, 1) := by decide +kernel
theorem dX8_read_48 : decode cX8_read 48 = .ok (.ifCond .ne 12, 3) := by decide +kernel
theorem dX8_read_51 : decode cX8_read 51 = .ok (.aload_n 0, 1) := by decide +kernel
theorem dX8_read_52 : decode cX8_read 52 = .ok (.getfield 37, 3) := by decide +kernel
theorem dX8_read_55 : decode cX8_read 55 = .ok (.iload_n 2, 1) := by decide +kernel
theorem dX8_read_56 : decode cX8_read 56 = .ok (.iaload, 1) := by decide +kernel
theorem dX8_read_57 : decode cX8_read 57 = .ok (.goto 24, 3) := by decide +kernel
theorem dX8_read_60 : decode cX8_read 60 = .ok (.iload_n 3, 1) := by decide +kernel
theorem dX8_read_61 : decode cX8_read 61 = .ok (.iconst 1, 1) := by decide +kernel
theorem dX8_read_62 : decode cX8_read 62 = .ok (.if_icmp .ne 12, 3) := by decide +kernel
theorem dX8_read_65 : decode cX8_read 65 = .ok (.aload_n 0, 1) := by decide +kernel
theorem dX8_read_66 : decode cX8_read 66 = .ok (.getfield 40, 3) := by decide +kernel
theorem dX8_read_69 : decode cX8_read 69 = .ok (.iload_n 2, 1) := by decide +kernel
theorem dX8_read_70 : decode cX8_read 70 = .ok (.iaload, 1) := by decide +kernel
theorem dX8_read_71 : decode cX8_read 71 = .ok (.goto 10, 3) := by decide +kernel
theorem dX8_read_74 : decode cX8_read 74 = .ok (.aload_n 0, 1) := by decide +kernel
theorem dX8_read_75 : decode cX8_read 75 = .ok (.iload_n 2, 1) := by decide +kernel
theorem dX8_read_76 : decode cX8_read 76 = .ok (.invokevirtual 262, 3) := by decide +kernel
theorem dX8_read_79 : decode cX8_read 79 = .ok (.iload_n 2, 1) := by decide +kernel
theorem dX8_read_80 : decode cX8_read 80 = .ok (.isub, 1) := by decide +kernel
theorem dX8_read_81 : decode cX8_read 81 = .ok (.ireturn, 1) := by decide +kernel
theorem dX8_value_0 : decode cX8_value 0 = .ok (.aload_n 0, 1) := by decide +kernel
theorem dX8_value_1 : decode cX8_value 1 = .ok (.iload_n 1, 1) := by decide +kernel
theorem dX8_value_2 : decode cX8_value 2 = .ok (.invokevirtual 246, 3) := by decide +kernel
theorem dX8_value_5 : decode cX8_value 5 = .ok (.ifCond .ne 7, 3) := by decide +kernel
theorem dX8_value_8 : decode cX8_value 8 = .ok (.ldc_w 261, 3) := by decide +kernel
theorem dX8_value_11 : decode cX8_value 11 = .ok (.ireturn, 1) := by decide +kernel
theorem dX8_value_12 : decode cX8_value 12 = .ok (.aload_n 0, 1) := by decide +kernel
theorem dX8_value_13 : decode cX8_value 13 = .ok (.aload_n 0, 1) := by decide +kernel
theorem dX8_value_14 : decode cX8_value 14 = .ok (.iload_n 1, 1) := by decide +kernel
theorem dX8_value_15 : decode cX8_value 15 = .ok (.invokevirtual 265, 3) := by decide +kernel
theorem dX8_value_18 : decode cX8_value 18 = .ok (.iload_n 2, 1) := by decide +kernel
theorem dX8_value_19 : decode cX8_value 19 = .ok (.iload_n 3, 1) := by decide +kernel
theorem dX8_value_20 : decode cX8_value 20 = .ok (.invokevirtual 118, 3) := by decide +kernel
theorem dX8_value_23 : decode cX8_value 23 = .ok (.istore 4, 2) := by decide +kernel
theorem dX8_value_25 : decode cX8_value 25 = .ok (.aload_n 0, 1) := by decide +kernel
theorem dX8_value_26 : decode cX8_value 26 = .ok (.getfield 104, 3) := by decide +kernel
theorem dX8_value_29 : decode cX8_value 29 = .ok (.ifCond .eq 9, 3) := by decide +kernel
theorem dX8_value_32 : decode cX8_value 32 = .ok (.ldc_w 261, 3) := by decide +kernel
theorem dX8_value_35 : decode cX8_value 35 = .ok (.goto 5, 3) := by decide +kernel
theorem dX8_value_38 : decode cX8_value 38 = .ok (.iload 4, 2) := by decide +kernel
theorem dX8_value_40 : decode cX8_value 40 = .ok (.ireturn, 1) := by decide +kernel
theorem dX8_safe_0 : decode cX8_safe 0 = .ok (.aload_n 0, 1) := by decide +kernel
theorem dX8_safe_1 : decode cX8_safe 1 = .ok (.iload_n 1, 1) := by decide +kernel
theorem dX8_safe_2 : decode cX8_safe 2 = .ok (.invokevirtual 246, 3) := by decide +kernel
theorem dX8_safe_5 : decode cX8_safe 5 = .ok (.ifCond .eq 15, 3) := by decide +kernel
theorem dX8_safe_8 : decode cX8_safe 8 = .ok (.iload_n 2, 1) := by decide +kernel
theorem dX8_safe_9 : decode cX8_safe 9 = .ok (.i2l, 1) := by decide +kernel
theorem dX8_safe_10 : decode cX8_safe 10 = .ok (.lconst 0, 1) := by decide +kernel
theorem dX8_safe_11 : decode cX8_safe 11 = .ok (.ldc2_w 268, 3) := by decide +kernel
theorem dX8_safe_14 : decode cX8_safe 14 = .ok (.invokestatic 177, 3) := by decide +kernel
theorem dX8_safe_17 : decode cX8_safe 17 = .ok (.ifCond .ne 7, 3) := by decide +kernel
theorem dX8_safe_20 : decode cX8_safe 20 = .ok (.iconst (-1), 1) := by decide +kernel
theorem dX8_safe_21 : decode cX8_safe 21 = .ok (.goto 21, 3) := by decide +kernel
theorem dX8_safe_24 : decode cX8_safe 24 = .ok (.aload_n 0, 1) := by decide +kernel
theorem dX8_safe_25 : decode cX8_safe 25 = .ok (.aload_n 0, 1) := by decide +kernel
theorem dX8_safe_26 : decode cX8_safe 26 = .ok (.iload_n 1, 1) := by decide +kernel
theorem dX8_safe_27 : decode cX8_safe 27 = .ok (.invokevirtual 265, 3) := by decide +kernel
theorem dX8_safe_30 : decode cX8_safe 30 = .ok (.iload_n 2, 1) := by decide +kernel
theorem dX8_safe_31 : decode cX8_safe 31 = .ok (.invokevirtual 270, 3) := by decide +kernel
theorem dX8_safe_34 : decode cX8_safe 34 = .ok (.ifCond .eq 7, 3) := by decide +kernel
theorem dX8_safe_37 : decode cX8_safe 37 = .ok (.iconst 1, 1) := by decide +kernel
theorem dX8_safe_38 : decode cX8_safe 38 = .ok (.goto 4, 3) := by decide +kernel
theorem dX8_safe_41 : decode cX8_safe 41 = .ok (.iconst 0, 1) := by decide +kernel
theorem dX8_safe_42 : decode cX8_safe 42 = .ok (.ireturn, 1) := by decide +kernel
theorem dX8_splice_0 : decode cX8_splice 0 = .ok (.aload_n 0, 1) := by decide +kernel
theorem dX8_splice_1 : decode cX8_splice 1 = .ok (.getfield 185, 3) := by decide +kernel
theorem dX8_splice_4 : decode cX8_splice 4 = .ok (.iload_n 2, 1) := by decide +kernel
theorem dX8_splice_5 : decode cX8_splice 5 = .ok (.isub, 1) := by decide +kernel
theorem dX8_splice_6 : decode cX8_splice 6 = .ok (.istore 4, 2) := by decide +kernel
theorem dX8_splice_8 : decode cX8_splice 8 = .ok (.iload_n 3, 1) := by decide +kernel
theorem dX8_splice_9 : decode cX8_splice 9 = .ok (.iload_n 2, 1) := by decide +kernel
theorem dX8_splice_10 : decode cX8_splice 10 = .ok (.iload_n 1, 1) := by decide +kernel
theorem dX8_splice_11 : decode cX8_splice 11 = .ok (.isub, 1) := by decide +kernel
theorem dX8_splice_12 : decode cX8_splice 12 = .ok (.if_icmp .le 37, 3) := by decide +kernel
theorem dX8_splice_15 : decode cX8_splice 15 = .ok (.iload 4, 2) := by decide +kernel
theorem dX8_splice_17 : decode cX8_splice 17 = .ok (.iconst 1, 1) := by decide +kernel
theorem dX8_splice_18 : decode cX8_splice 18 = .ok (.isub, 1) := by decide +kernel
theorem dX8_splice_19 : decode cX8_splice 19 = .ok (.istore 5, 2) := by decide +kernel
theorem dX8_splice_21 : decode cX8_splice 21 = .ok (.iload 5, 2) := by decide +kernel
theorem dX8_splice_23 : decode cX8_splice 23 = .ok (.ifCond .lt 23, 3) := by decide +kernel
theorem dX8_splice_26 : decode cX8_splice 26 = .ok (.aload_n 0, 1) := by decide +kernel
theorem dX8_splice_27 : decode cX8_splice 27 = .ok (.iload_n 2, 1) := by decide +kernel
theorem dX8_splice_28 : decode cX8_splice 28 = .ok (.iload 5, 2) := by decide +kernel
theorem dX8_splice_30 : decode cX8_splice 30 = .ok (.iadd, 1) := by decide +kernel
theorem dX8_splice_31 : decode cX8_splice 31 = .ok (.iload_n 1, 1) := by decide +kernel
theorem dX8_splice_32 : decode cX8_splice 32 = .ok (.iload_n 3, 1) := by decide +kernel
theorem dX8_splice_33 : decode cX8_splice 33 = .ok (.iadd, 1) := by decide +kernel
theorem dX8_splice_34 : decode cX8_splice 34 = .ok (.iload 5, 2) := by decide +kernel
theorem dX8_splice_36 : decode cX8_splice 36 = .ok (.iadd, 1) := by decide +kernel
theorem dX8_splice_37 : decode cX8_splice 37 = .ok (.invokevirtual 273, 3) := by decide +kernel
theorem dX8_splice_40 : decode cX8_splice 40 = .ok (.iinc 5 (-1), 3) := by decide +kernel
theorem dX8_splice_43 : decode cX8_splice 43 = .ok (.goto (-22), 3) := by decide +kernel
theorem dX8_splice_46 : decode cX8_splice 46 = .ok (.goto 33, 3) := by decide +kernel
theorem dX8_splice_49 : decode cX8_splice 49 = .ok (.iconst 0, 1) := by decide +kernel
theorem dX8_splice_50 : decode cX8_splice 50 = .ok (.istore 5, 2) := by decide +kernel
theorem dX8_splice_52 : decode cX8_splice 52 = .ok (.iload 5, 2) := by decide +kernel
theorem dX8_splice_54 : decode cX8_splice 54 = .ok (.iload 4, 2) := by decide +kernel
theorem dX8_splice_56 : decode cX8_splice 56 = .ok (.if_icmp .ge 23, 3) := by decide +kernel
theorem dX8_splice_59 : decode cX8_splice 59 = .ok (.aload_n 0, 1) := by decide +kernel
theorem dX8_splice_60 : decode cX8_splice 60 = .ok (.iload_n 2, 1) := by decide +kernel
theorem dX8_splice_61 : decode cX8_splice 61 = .ok (.iload 5, 2) := by decide +kernel
theorem dX8_splice_63 : decode cX8_splice 63 = .ok (.iadd, 1) := by decide +kernel
theorem dX8_splice_64 : decode cX8_splice 64 = .ok (.iload_n 1, 1) := by decide +kernel
theorem dX8_splice_65 : decode cX8_splice 65 = .ok (.iload_n 3, 1) := by decide +kernel
theorem dX8_splice_66 : decode cX8_splice 66 = .ok (.iadd, 1) := by decide +kernel
theorem dX8_splice_67 : decode cX8_splice 67 = .ok (.iload 5, 2) := by decide +kernel
theorem dX8_splice_69 : decode cX8_splice 69 = .ok (.iadd, 1) := by decide +kernel
theorem dX8_splice_70 : decode cX8_splice 70 = .ok (.invokevirtual 273, 3) := by decide +kernel
theorem dX8_splice_73 : decode cX8_splice 73 = .ok (.iinc 5 1, 3) := by decide +kernel
theorem dX8_splice_76 : decode cX8_splice 76 = .ok (.goto (-24), 3) := by decide +kernel
theorem dX8_splice_79 : decode cX8_splice 79 = .ok (.iconst 0, 1) := by decide +kernel
end
section
theorem dX8_splice_80 : decode cX8_splice 80 = .ok (.istore 5, 2) := by decide +kernel
theorem dX8_splice_82 : decode cX8_splice 82 = .ok (.iload 5, 2) := by decide +kernel
theorem dX8_splice_84 : decode cX8_splice 84 = .ok (.iload_n 3, 1) := by decide +kernel
theorem dX8_splice_85 : decode cX8_splice 85 = .ok (.if_icmp .ge 41, 3) := by decide +kernel
theorem dX8_splice_88 : decode cX8_splice 88 = .ok (.aload_n 0, 1) := by decide +kernel
theorem dX8_splice_89 : decode cX8_splice 89 = .ok (.getfield 37, 3) := by decide +kernel
theorem dX8_splice_92 : decode cX8_splice 92 = .ok (.iload_n 1, 1) := by decide +kernel
theorem dX8_splice_93 : decode cX8_splice 93 = .ok (.iload 5, 2) := by decide +kernel
theorem dX8_splice_95 : decode cX8_splice 95 = .ok (.iadd, 1) := by decide +kernel
theorem dX8_splice_96 : decode cX8_splice 96 = .ok (.aload_n 0, 1) := by decide +kernel
theorem dX8_splice_97 : decode cX8_splice 97 = .ok (.getfield 56, 3) := by decide +kernel
theorem dX8_splice_100 : decode cX8_splice 100 = .ok (.iload 5, 2) := by decide +kernel
theorem dX8_splice_102 : decode cX8_splice 102 = .ok (.iaload, 1) := by decide +kernel
theorem dX8_splice_103 : decode cX8_splice 103 = .ok (.iastore, 1) := by decide +kernel
theorem dX8_splice_104 : decode cX8_splice 104 = .ok (.aload_n 0, 1) := by decide +kernel
theorem dX8_splice_105 : decode cX8_splice 105 = .ok (.getfield 40, 3) := by decide +kernel
theorem dX8_splice_108 : decode cX8_splice 108 = .ok (.iload_n 1, 1) := by decide +kernel
theorem dX8_splice_109 : decode cX8_splice 109 = .ok (.iload 5, 2) := by decide +kernel
theorem dX8_splice_111 : decode cX8_splice 111 = .ok (.iadd, 1) := by decide +kernel
theorem dX8_splice_112 : decode cX8_splice 112 = .ok (.aload_n 0, 1) := by decide +kernel
theorem dX8_splice_113 : decode cX8_splice 113 = .ok (.getfield 59, 3) := by decide +kernel
theorem dX8_splice_116 : decode cX8_splice 116 = .ok (.iload 5, 2) := by decide +kernel
theorem dX8_splice_118 : decode cX8_splice 118 = .ok (.iaload, 1) := by decide +kernel
theorem dX8_splice_119 : decode cX8_splice 119 = .ok (.iastore, 1) := by decide +kernel
theorem dX8_splice_120 : decode cX8_splice 120 = .ok (.iinc 5 1, 3) := by decide +kernel
theorem dX8_splice_123 : decode cX8_splice 123 = .ok (.goto (-41), 3) := by decide +kernel
theorem dX8_splice_126 : decode cX8_splice 126 = .ok (.aload_n 0, 1) := by decide +kernel
theorem dX8_splice_127 : decode cX8_splice 127 = .ok (.iload_n 1, 1) := by decide +kernel
theorem dX8_splice_128 : decode cX8_splice 128 = .ok (.iload_n 3, 1) := by decide +kernel
theorem dX8_splice_129 : decode cX8_splice 129 = .ok (.iadd, 1) := by decide +kernel
theorem dX8_splice_130 : decode cX8_splice 130 = .ok (.iload 4, 2) := by decide +kernel
theorem dX8_splice_132 : decode cX8_splice 132 = .ok (.iadd, 1) := by decide +kernel
theorem dX8_splice_133 : decode cX8_splice 133 = .ok (.putfield 185, 3) := by decide +kernel
theorem dX8_splice_136 : decode cX8_splice 136 = .ok (.return_, 1) := by decide +kernel
theorem dX8_shift_0 : decode cX8_shift 0 = .ok (.aload_n 0, 1) := by decide +kernel
theorem dX8_shift_1 : decode cX8_shift 1 = .ok (.getfield 37, 3) := by decide +kernel
theorem dX8_shift_4 : decode cX8_shift 4 = .ok (.iload_n 2, 1) := by decide +kernel
theorem dX8_shift_5 : decode cX8_shift 5 = .ok (.aload_n 0, 1) := by decide +kernel
theorem dX8_shift_6 : decode cX8_shift 6 = .ok (.getfield 37, 3) := by decide +kernel
theorem dX8_shift_9 : decode cX8_shift 9 = .ok (.iload_n 1, 1) := by decide +kernel
theorem dX8_shift_10 : decode cX8_shift 10 = .ok (.iaload, 1) := by decide +kernel
theorem dX8_shift_11 : decode cX8_shift 11 = .ok (.iastore, 1) := by decide +kernel
theorem dX8_shift_12 : decode cX8_shift 12 = .ok (.aload_n 0, 1) := by decide +kernel
theorem dX8_shift_13 : decode cX8_shift 13 = .ok (.getfield 40, 3) := by decide +kernel
theorem dX8_shift_16 : decode cX8_shift 16 = .ok (.iload_n 2, 1) := by decide +kernel
theorem dX8_shift_17 : decode cX8_shift 17 = .ok (.aload_n 0, 1) := by decide +kernel
theorem dX8_shift_18 : decode cX8_shift 18 = .ok (.getfield 40, 3) := by decide +kernel
theorem dX8_shift_21 : decode cX8_shift 21 = .ok (.iload_n 1, 1) := by decide +kernel
theorem dX8_shift_22 : decode cX8_shift 22 = .ok (.iaload, 1) := by decide +kernel
theorem dX8_shift_23 : decode cX8_shift 23 = .ok (.iastore, 1) := by decide +kernel
theorem dX8_shift_24 : decode cX8_shift 24 = .ok (.return_, 1) := by decide +kernel
theorem dX8_spare_0 : decode cX8_spare 0 = .ok (.iload_n 1, 1) := by decide +kernel
theorem dX8_spare_1 : decode cX8_spare 1 = .ok (.istore_n 3, 1) := by decide +kernel
theorem dX8_spare_2 : decode cX8_spare 2 = .ok (.iload_n 3, 1) := by decide +kernel
theorem dX8_spare_3 : decode cX8_spare 3 = .ok (.iload_n 2, 1) := by decide +kernel
theorem dX8_spare_4 : decode cX8_spare 4 = .ok (.if_icmp .ge 37, 3) := by decide +kernel
theorem dX8_spare_7 : decode cX8_spare 7 = .ok (.aload_n 0, 1) := by decide +kernel
theorem dX8_spare_8 : decode cX8_spare 8 = .ok (.getfield 56, 3) := by decide +kernel
theorem dX8_spare_11 : decode cX8_spare 11 = .ok (.iload_n 3, 1) := by decide +kernel
theorem dX8_spare_12 : decode cX8_spare 12 = .ok (.iload_n 1, 1) := by decide +kernel
theorem dX8_spare_13 : decode cX8_spare 13 = .ok (.isub, 1) := by decide +kernel
theorem dX8_spare_14 : decode cX8_spare 14 = .ok (.aload_n 0, 1) := by decide +kernel
theorem dX8_spare_15 : decode cX8_spare 15 = .ok (.getfield 37, 3) := by decide +kernel
theorem dX8_spare_18 : decode cX8_spare 18 = .ok (.iload_n 3, 1) := by decide +kernel
theorem dX8_spare_19 : decode cX8_spare 19 = .ok (.iaload, 1) := by decide +kernel
theorem dX8_spare_20 : decode cX8_spare 20 = .ok (.iastore, 1) := by decide +kernel
theorem dX8_spare_21 : decode cX8_spare 21 = .ok (.aload_n 0, 1) := by decide +kernel
theorem dX8_spare_22 : decode cX8_spare 22 = .ok (.getfield 59, 3) := by decide +kernel
theorem dX8_spare_25 : decode cX8_spare 25 = .ok (.iload_n 3, 1) := by decide +kernel
theorem dX8_spare_26 : decode cX8_spare 26 = .ok (.iload_n 1, 1) := by decide +kernel
theorem dX8_spare_27 : decode cX8_spare 27 = .ok (.isub, 1) := by decide +kernel
theorem dX8_spare_28 : decode cX8_spare 28 = .ok (.aload_n 0, 1) := by decide +kernel
theorem dX8_spare_29 : decode cX8_spare 29 = .ok (.getfield 40, 3) := by decide +kernel
theorem dX8_spare_32 : decode cX8_spare 32 = .ok (.iload_n 3, 1) := by decide +kernel
theorem dX8_spare_33 : decode cX8_spare 33 = .ok (.iaload, 1) := by decide +kernel
theorem dX8_spare_34 : decode cX8_spare 34 = .ok (.iastore, 1) := by decide +kernel
theorem dX8_spare_35 : decode cX8_spare 35 = .ok (.iinc 3 1, 3) := by decide +kernel
theorem dX8_spare_38 : decode cX8_spare 38 = .ok (.goto (-36), 3) := by decide +kernel
theorem dX8_spare_41 : decode cX8_spare 41 = .ok (.return_, 1) := by decide +kernel
theorem dX8_breed_0 : decode cX8_breed 0 = .ok (.iload_n 1, 1) := by decide +kernel
theorem dX8_breed_1 : decode cX8_breed 1 = .ok (.invokestatic 181, 3) := by decide +kernel
theorem dX8_breed_4 : decode cX8_breed 4 = .ok (.ifCond .eq 58, 3) := by decide +kernel
theorem dX8_breed_7 : decode cX8_breed 7 = .ok (.aload_n 0, 1) := by decide +kernel
theorem dX8_breed_8 : decode cX8_breed 8 = .ok (.iload_n 2, 1) := by decide +kernel
theorem dX8_breed_9 : decode cX8_breed 9 = .ok (.invokevirtual 246, 3) := by decide +kernel
theorem dX8_breed_12 : decode cX8_breed 12 = .ok (.ifCond .eq 50, 3) := by decide +kernel
theorem dX8_breed_15 : decode cX8_breed 15 = .ok (.aload_n 0, 1) := by decide +kernel
theorem dX8_breed_16 : decode cX8_breed 16 = .ok (.iload 4, 2) := by decide +kernel
theorem dX8_breed_18 : decode cX8_breed 18 = .ok (.invokevirtual 246, 3) := by decide +kernel
theorem dX8_breed_21 : decode cX8_breed 21 = .ok (.ifCond .eq 41, 3) := by decide +kernel
theorem dX8_breed_24 : decode cX8_breed 24 = .ok (.iload_n 3, 1) := by decide +kernel
theorem dX8_breed_25 : decode cX8_breed 25 = .ok (.i2l, 1) := by decide +kernel
theorem dX8_breed_26 : decode cX8_breed 26 = .ok (.lconst 0, 1) := by decide +kernel
theorem dX8_breed_27 : decode cX8_breed 27 = .ok (.aload_n 0, 1) := by decide +kernel
theorem dX8_breed_28 : decode cX8_breed 28 = .ok (.getfield 28, 3) := by decide +kernel
theorem dX8_breed_31 : decode cX8_breed 31 = .ok (.iload_n 2, 1) := by decide +kernel
theorem dX8_breed_32 : decode cX8_breed 32 = .ok (.iaload, 1) := by decide +kernel
theorem dX8_breed_33 : decode cX8_breed 33 = .ok (.iconst 1, 1) := by decide +kernel
theorem dX8_breed_34 : decode cX8_breed 34 = .ok (.isub, 1) := by decide +kernel
theorem dX8_breed_35 : decode cX8_breed 35 = .ok (.i2l, 1) := by decide +kernel
theorem dX8_breed_36 : decode cX8_breed 36 = .ok (.invokestatic 177, 3) := by decide +kernel
theorem dX8_breed_39 : decode cX8_breed 39 = .ok (.ifCond .eq 23, 3) := by decide +kernel
theorem dX8_breed_42 : decode cX8_breed 42 = .ok (.iload 5, 2) := by decide +kernel
theorem dX8_breed_44 : decode cX8_breed 44 = .ok (.i2l, 1) := by decide +kernel
theorem dX8_breed_45 : decode cX8_breed 45 = .ok (.lconst 0, 1) := by decide +kernel
theorem dX8_breed_46 : decode cX8_breed 46 = .ok (.aload_n 0, 1) := by decide +kernel
theorem dX8_breed_47 : decode cX8_breed 47 = .ok (.getfield 28, 3) := by decide +kernel
theorem dX8_breed_50 : decode cX8_breed 50 = .ok (.iload 4, 2) := by decide +kernel
theorem dX8_breed_52 : decode cX8_breed 52 = .ok (.iaload, 1) := by decide +kernel
theorem dX8_breed_53 : decode cX8_breed 53 = .ok (.iconst 1, 1) := by decide +kernel
theorem dX8_breed_54 : decode cX8_breed 54 = .ok (.isub, 1) := by decide +kernel
theorem dX8_breed_55 : decode cX8_breed 55 = .ok (.i2l, 1) := by decide +kernel
theorem dX8_breed_56 : decode cX8_breed 56 = .ok (.invokestatic 177, 3) := by decide +kernel
theorem dX8_breed_59 : decode cX8_breed 59 = .ok (.ifCond .ne 5, 3) := by decide +kernel
theorem dX8_breed_62 : decode cX8_breed 62 = .ok (.iconst (-1), 1) := by decide +kernel
theorem dX8_breed_63 : decode cX8_breed 63 = .ok (.ireturn, 1) := by decide +kernel
theorem dX8_breed_64 : decode cX8_breed 64 = .ok (.aload_n 0, 1) := by decide +kernel
theorem dX8_breed_65 : decode cX8_breed 65 = .ok (.iload 4, 2) := by decide +kernel
theorem dX8_breed_67 : decode cX8_breed 67 = .ok (.invokevirtual 198, 3) := by decide +kernel
theorem dX8_breed_70 : decode cX8_breed 70 = .ok (.aload_n 0, 1) := by decide +kernel
theorem dX8_breed_71 : decode cX8_breed 71 = .ok (.iload 5, 2) := by decide +kernel
theorem dX8_breed_73 : decode cX8_breed 73 = .ok (.invokevirtual 262, 3) := by decide +kernel
theorem dX8_breed_76 : decode cX8_breed 76 = .ok (.istore 6, 2) := by decide +kernel
theorem dX8_breed_78 : decode cX8_breed 78 = .ok (.aload_n 0, 1) := by decide +kernel
theorem dX8_breed_79 : decode cX8_breed 79 = .ok (.iload 5, 2) := by decide +kernel
theorem dX8_breed_81 : decode cX8_breed 81 = .ok (.iload 6, 2) := by decide +kernel
theorem dX8_breed_83 : decode cX8_breed 83 = .ok (.invokevirtual 276, 3) := by decide +kernel
theorem dX8_breed_86 : decode cX8_breed 86 = .ok (.aload_n 0, 1) := by decide +kernel
theorem dX8_breed_87 : decode cX8_breed 87 = .ok (.iload_n 2, 1) := by decide +kernel
theorem dX8_breed_88 : decode cX8_breed 88 = .ok (.invokevirtual 198, 3) := by decide +kernel
theorem dX8_breed_91 : decode cX8_breed 91 = .ok (.aload_n 0, 1) := by decide +kernel
theorem dX8_breed_92 : decode cX8_breed 92 = .ok (.getfield 185, 3) := by decide +kernel
theorem dX8_breed_95 : decode cX8_breed 95 = .ok (.aload_n 0, 1) := by decide +kernel
theorem dX8_breed_96 : decode cX8_breed 96 = .ok (.iload_n 3, 1) := by decide +kernel
theorem dX8_breed_97 : decode cX8_breed 97 = .ok (.invokevirtual 262, 3) := by decide +kernel
theorem dX8_breed_100 : decode cX8_breed 100 = .ok (.iload_n 3, 1) := by decide +kernel
theorem dX8_breed_101 : decode cX8_breed 101 = .ok (.isub, 1) := by decide +kernel
theorem dX8_breed_102 : decode cX8_breed 102 = .ok (.isub, 1) := by decide +kernel
theorem dX8_breed_103 : decode cX8_breed 103 = .ok (.iload 6, 2) := by decide +kernel
theorem dX8_breed_105 : decode cX8_breed 105 = .ok (.iadd, 1) := by decide +kernel
theorem dX8_breed_106 : decode cX8_breed 106 = .ok (.iload 5, 2) := by decide +kernel
theorem dX8_breed_108 : decode cX8_breed 108 = .ok (.isub, 1) := by decide +kernel
theorem dX8_breed_109 : decode cX8_breed 109 = .ok (.bipush 60, 2) := by decide +kernel
theorem dX8_breed_111 : decode cX8_breed 111 = .ok (.if_icmp .le 6, 3) := by decide +kernel
theorem dX8_breed_114 : decode cX8_breed 114 = .ok (.bipush (-3), 2) := by decide +kernel
theorem dX8_breed_116 : decode cX8_breed 116 = .ok (.ireturn, 1) := by decide +kernel
theorem dX8_breed_117 : decode cX8_breed 117 = .ok (.aload_n 0, 1) := by decide +kernel
theorem dX8_breed_118 : decode cX8_breed 118 = .ok (.iload_n 3, 1) := by decide +kernel
theorem dX8_breed_119 : decode cX8_breed 119 = .ok (.aload_n 0, 1) := by decide +kernel
theorem dX8_breed_120 : decode cX8_breed 120 = .ok (.iload_n 3, 1) := by decide +kernel
theorem dX8_breed_121 : decode cX8_breed 121 = .ok (.invokevirtual 262, 3) := by decide +kernel
theorem dX8_breed_124 : decode cX8_breed 124 = .ok (.iload 6, 2) := by decide +kernel
theorem dX8_breed_126 : decode cX8_breed 126 = .ok (.iload 5, 2) := by decide +kernel
theorem dX8_breed_128 : decode cX8_breed 128 = .ok (.isub, 1) := by decide +kernel
theorem dX8_breed_129 : decode cX8_breed 129 = .ok (.invokevirtual 279, 3) := by decide +kernel
theorem dX8_breed_132 : decode cX8_breed 132 = .ok (.aload_n 0, 1) := by decide +kernel
theorem dX8_breed_133 : decode cX8_breed 133 = .ok (.iload_n 1, 1) := by decide +kernel
theorem dX8_breed_134 : decode cX8_breed 134 = .ok (.invokevirtual 236, 3) := by decide +kernel
theorem dX8_breed_137 : decode cX8_breed 137 = .ok (.ireturn, 1) := by decide +kernel
theorem dX8_isMaker_0 : decode cX8_isMaker 0 = .ok (.iload_n 1, 1) := by decide +kernel
theorem dX8_isMaker_1 : decode cX8_isMaker 1 = .ok (.i2l, 1) := by decide +kernel
theorem dX8_isMaker_2 : decode cX8_isMaker 2 = .ok (.lconst 0, 1) := by decide +kernel
theorem dX8_isMaker_3 : decode cX8_isMaker 3 = .ok (.aload_n 0, 1) := by decide +kernel
theorem dX8_isMaker_4 : decode cX8_isMaker 4 = .ok (.getfield 283, 3) := by decide +kernel
theorem dX8_isMaker_7 : decode cX8_isMaker 7 = .ok (.iconst 1, 1) := by decide +kernel
theorem dX8_isMaker_8 : decode cX8_isMaker 8 = .ok (.isub, 1) := by decide +kernel
theorem dX8_isMaker_9 : decode cX8_isMaker 9 = .ok (.i2l, 1) := by decide +kernel
theorem dX8_isMaker_10 : decode cX8_isMaker 10 = .ok (.invokestatic 177, 3) := by decide +kernel
theorem dX8_isMaker_13 : decode cX8_isMaker 13 = .ok (.ireturn, 1) := by decide +kernel
theorem dX8_isTurn_0 : decode cX8_isTurn 0 = .ok (.aload_n 0, 1) := by decide +kernel
theorem dX8_isTurn_1 : decode cX8_isTurn 1 = .ok (.iload_n 1, 1) := by decide +kernel
theorem dX8_isTurn_2 : decode cX8_isTurn 2 = .ok (.invokevirtual 286, 3) := by decide +kernel
theorem dX8_isTurn_5 : decode cX8_isTurn 5 = .ok (.ifCond .eq 25, 3) := by decide +kernel
theorem dX8_isTurn_8 : decode cX8_isTurn 8 = .ok (.iload_n 2, 1) := by decide +kernel
theorem dX8_isTurn_9 : decode cX8_isTurn 9 = .ok (.i2l, 1) := by decide +kernel
theorem dX8_isTurn_10 : decode cX8_isTurn 10 = .ok (.lconst 0, 1) := by decide +kernel
theorem dX8_isTurn_11 : decode cX8_isTurn 11 = .ok (.aload_n 0, 1) := by decide +kernel
theorem dX8_isTurn_12 : decode cX8_isTurn 12 = .ok (.getfield 62, 3) := by decide +kernel
theorem dX8_isTurn_15 : decode cX8_isTurn 15 = .ok (.iload_n 1, 1) := by decide +kernel
theorem dX8_isTurn_16 : decode cX8_isTurn 16 = .ok (.iaload, 1) := by decide +kernel
theorem dX8_isTurn_17 : decode cX8_isTurn 17 = .ok (.iconst 1, 1) := by decide +kernel
theorem dX8_isTurn_18 : decode cX8_isTurn 18 = .ok (.isub, 1) := by decide +kernel
theorem dX8_isTurn_19 : decode cX8_isTurn 19 = .ok (.i2l, 1) := by decide +kernel
theorem dX8_isTurn_20 : decode cX8_isTurn 20 = .ok (.invokestatic 177, 3) := by decide +kernel
theorem dX8_isTurn_23 : decode cX8_isTurn 23 = .ok (.ifCond .eq 7, 3) := by decide +kernel
theorem dX8_isTurn_26 : decode cX8_isTurn 26 = .ok (.iconst 1, 1) := by decide +kernel
theorem dX8_isTurn_27 : decode cX8_isTurn 27 = .ok (.goto 4, 3) := by decide +kernel
theorem dX8_isTurn_30 : decode cX8_isTurn 30 = .ok (.iconst 0, 1) := by decide +kernel
theorem dX8_isTurn_31 : decode cX8_isTurn 31 = .ok (.ireturn, 1) := by decide +kernel
theorem dX8_maker_0 : decode cX8_maker 0 = .ok (.aload_n 0, 1) := by decide +kernel
theorem dX8_maker_1 : decode cX8_maker 1 = .ok (.getfield 283, 3) := by decide +kernel
theorem dX8_maker_4 : decode cX8_maker 4 = .ok (.bipush 8, 2) := by decide +kernel
theorem dX8_maker_6 : decode cX8_maker 6 = .ok (.if_icmp .ne 6, 3) := by decide +kernel
theorem dX8_maker_9 : decode cX8_maker 9 = .ok (.bipush (-3), 2) := by decide +kernel
theorem dX8_maker_11 : decode cX8_maker 11 = .ok (.ireturn, 1) := by decide +kernel
theorem dX8_maker_12 : decode cX8_maker 12 = .ok (.aload_n 0, 1) := by decide +kernel
theorem dX8_maker_13 : decode cX8_maker 13 = .ok (.dup, 1) := by decide +kernel
theorem dX8_maker_14 : decode cX8_maker 14 = .ok (.getfield 283, 3) := by decide +kernel
theorem dX8_maker_17 : decode cX8_maker 17 = .ok (.iconst 1, 1) := by decide +kernel
theorem dX8_maker_18 : decode cX8_maker 18 = .ok (.iadd, 1) := by decide +kernel
theorem dX8_maker_19 : decode cX8_maker 19 = .ok (.putfield 283, 3) := by decide +kernel
theorem dX8_maker_22 : decode cX8_maker 22 = .ok (.aload_n 0, 1) := by decide +kernel
theorem dX8_maker_23 : decode cX8_maker 23 = .ok (.getfield 283, 3) := by decide +kernel
theorem dX8_maker_26 : decode cX8_maker 26 = .ok (.iconst 1, 1) := by decide +kernel
theorem dX8_maker_27 : decode cX8_maker 27 = .ok (.isub, 1) := by decide +kernel
theorem dX8_maker_28 : decode cX8_maker 28 = .ok (.ireturn, 1) := by decide +kernel
theorem dX8_turn_0 : decode cX8_turn 0 = .ok (.aload_n 0, 1) := by decide +kernel
theorem dX8_turn_1 : decode cX8_turn 1 = .ok (.iload_n 1, 1) := by decide +kernel
theorem dX8_turn_2 : decode cX8_turn 2 = .ok (.invokevirtual 286, 3) := by decide +kernel
theorem dX8_turn_5 : decode cX8_turn 5 = .ok (.ifCond .eq 27, 3) := by decide +kernel
theorem dX8_turn_8 : decode cX8_turn 8 = .ok (.iload_n 2, 1) := by decide +kernel
theorem dX8_turn_9 : decode cX8_turn 9 = .ok (.i2l, 1) := by decide +kernel
theorem dX8_turn_10 : decode cX8_turn 10 = .ok (.lconst 0, 1) := by decide +kernel
theorem dX8_turn_11 : decode cX8_turn 11 = .ok (.ldc2_w 268, 3) := by decide +kernel
theorem dX8_turn_14 : decode cX8_turn 14 = .ok (.invokestatic 177, 3) := by decide +kernel
theorem dX8_turn_17 : decode cX8_turn 17 = .ok (.ifCond .eq 15, 3) := by decide +kernel
theorem dX8_turn_20 : decode cX8_turn 20 = .ok (.iload_n 3, 1) := by decide +kernel
theorem dX8_turn_21 : decode cX8_turn 21 = .ok (.i2l, 1) := by decide +kernel
theorem dX8_turn_22 : decode cX8_turn 22 = .ok (.lconst 0, 1) := by decide +kernel
theorem dX8_turn_23 : decode cX8_turn 23 = .ok (.ldc2_w 251, 3) := by decide +kernel
theorem dX8_turn_26 : decode cX8_turn 26 = .ok (.invokestatic 177, 3) := by decide +kernel
theorem dX8_turn_29 : decode cX8_turn 29 = .ok (.ifCond .ne 5, 3) := by decide +kernel
theorem dX8_turn_32 : decode cX8_turn 32 = .ok (.iconst (-1), 1) := by decide +kernel
theorem dX8_turn_33 : decode cX8_turn 33 = .ok (.ireturn, 1) := by decide +kernel
theorem dX8_turn_34 : decode cX8_turn 34 = .ok (.aload_n 0, 1) := by decide +kernel
theorem dX8_turn_35 : decode cX8_turn 35 = .ok (.getfield 62, 3) := by decide +kernel
theorem dX8_turn_38 : decode cX8_turn 38 = .ok (.iload_n 1, 1) := by decide +kernel
theorem dX8_turn_39 : decode cX8_turn 39 = .ok (.iaload, 1) := by decide +kernel
theorem dX8_turn_40 : decode cX8_turn 40 = .ok (.bipush 10, 2) := by decide +kernel
theorem dX8_turn_42 : decode cX8_turn 42 = .ok (.if_icmp .ne 6, 3) := by decide +kernel
theorem dX8_turn_45 : decode cX8_turn 45 = .ok (.bipush (-3), 2) := by decide +kernel
theorem dX8_turn_47 : decode cX8_turn 47 = .ok (.ireturn, 1) := by decide +kernel
theorem dX8_turn_48 : decode cX8_turn 48 = .ok (.aload_n 0, 1) := by decide +kernel
theorem dX8_turn_49 : decode cX8_turn 49 = .ok (.getfield 65, 3) := by decide +kernel
theorem dX8_turn_52 : decode cX8_turn 52 = .ok (.bipush 10, 2) := by decide +kernel
theorem dX8_turn_54 : decode cX8_turn 54 = .ok (.iload_n 1, 1) := by decide +kernel
theorem dX8_turn_55 : decode cX8_turn 55 = .ok (.imul, 1) := by decide +kernel
theorem dX8_turn_56 : decode cX8_turn 56 = .ok (.aload_n 0, 1) := by decide +kernel
theorem dX8_turn_57 : decode cX8_turn 57 = .ok (.getfield 62, 3) := by decide +kernel
theorem dX8_turn_60 : decode cX8_turn 60 = .ok (.iload_n 1, 1) := by decide +kernel
theorem dX8_turn_61 : decode cX8_turn 61 = .ok (.iaload, 1) := by decide +kernel
theorem dX8_turn_62 : decode cX8_turn 62 = .ok (.iadd, 1) := by decide +kernel
theorem dX8_turn_63 : decode cX8_turn 63 = .ok (.iload_n 2, 1) := by decide +kernel
theorem dX8_turn_64 : decode cX8_turn 64 = .ok (.iastore, 1) := by decide +kernel
theorem dX8_turn_65 : decode cX8_turn 65 = .ok (.aload_n 0, 1) := by decide +kernel
theorem dX8_turn_66 : decode cX8_turn 66 = .ok (.getfield 68, 3) := by decide +kernel
theorem dX8_turn_69 : decode cX8_turn 69 = .ok (.bipush 10, 2) := by decide +kernel
theorem dX8_turn_71 : decode cX8_turn 71 = .ok (.iload_n 1, 1) := by decide +kernel
theorem dX8_turn_72 : decode cX8_turn 72 = .ok (.imul, 1) := by decide +kernel
theorem dX8_turn_73 : decode cX8_turn 73 = .ok (.aload_n 0, 1) := by decide +kernel
theorem dX8_turn_74 : decode cX8_turn 74 = .ok (.getfield 62, 3) := by decide +kernel
theorem dX8_turn_77 : decode cX8_turn 77 = .ok (.iload_n 1, 1) := by decide +kernel
theorem dX8_turn_78 : decode cX8_turn 78 = .ok (.iaload, 1) := by decide +kernel
theorem dX8_turn_79 : decode cX8_turn 79 = .ok (.iadd, 1) := by decide +kernel
theorem dX8_turn_80 : decode cX8_turn 80 = .ok (.iload_n 3, 1) := by decide +kernel
theorem dX8_turn_81 : decode cX8_turn 81 = .ok (.iastore, 1) := by decide +kernel
theorem dX8_turn_82 : decode cX8_turn 82 = .ok (.aload_n 0, 1) := by decide +kernel
theorem dX8_turn_83 : decode cX8_turn 83 = .ok (.getfield 62, 3) := by decide +kernel
theorem dX8_turn_86 : decode cX8_turn 86 = .ok (.iload_n 1, 1) := by decide +kernel
theorem dX8_turn_87 : decode cX8_turn 87 = .ok (.dup2, 1) := by decide +kernel
theorem dX8_turn_88 : decode cX8_turn 88 = .ok (.iaload, 1) := by decide +kernel
theorem dX8_turn_89 : decode cX8_turn 89 = .ok (.iconst 1, 1) := by decide +kernel
theorem dX8_turn_90 : decode cX8_turn 90 = .ok (.iadd, 1) := by decide +kernel
theorem dX8_turn_91 : decode cX8_turn 91 = .ok (.iastore, 1) := by decide +kernel
theorem dX8_turn_92 : decode cX8_turn 92 = .ok (.aload_n 0, 1) := by decide +kernel
theorem dX8_turn_93 : decode cX8_turn 93 = .ok (.getfield 62, 3) := by decide +kernel
theorem dX8_turn_96 : decode cX8_turn 96 = .ok (.iload_n 1, 1) := by decide +kernel
theorem dX8_turn_97 : decode cX8_turn 97 = .ok (.iaload, 1) := by decide +kernel
theorem dX8_turn_98 : decode cX8_turn 98 = .ok (.ireturn, 1) := by decide +kernel
theorem dX8_plant_0 : decode cX8_plant 0 = .ok (.aload_n 0, 1) := by decide +kernel
theorem dX8_plant_1 : decode cX8_plant 1 = .ok (.iload_n 1, 1) := by decide +kernel
theorem dX8_plant_2 : decode cX8_plant 2 = .ok (.iload_n 2, 1) := by decide +kernel
theorem dX8_plant_3 : decode cX8_plant 3 = .ok (.invokevirtual 289, 3) := by decide +kernel
theorem dX8_plant_6 : decode cX8_plant 6 = .ok (.ifCond .eq 15, 3) := by decide +kernel
theorem dX8_plant_9 : decode cX8_plant 9 = .ok (.iload_n 3, 1) := by decide +kernel
theorem dX8_plant_10 : decode cX8_plant 10 = .ok (.i2l, 1) := by decide +kernel
theorem dX8_plant_11 : decode cX8_plant 11 = .ok (.lconst 0, 1) := by decide +kernel
theorem dX8_plant_12 : decode cX8_plant 12 = .ok (.ldc2_w 251, 3) := by decide +kernel
theorem dX8_plant_15 : decode cX8_plant 15 = .ok (.invokestatic 177, 3) := by decide +kernel
theorem dX8_plant_18 : decode cX8_plant 18 = .ok (.ifCond .ne 5, 3) := by decide +kernel
theorem dX8_plant_21 : decode cX8_plant 21 = .ok (.iconst (-1), 1) := by decide +kernel
theorem dX8_plant_22 : decode cX8_plant 22 = .ok (.ireturn, 1) := by decide +kernel
theorem dX8_plant_23 : decode cX8_plant 23 = .ok (.aload_n 0, 1) := by decide +kernel
theorem dX8_plant_24 : decode cX8_plant 24 = .ok (.getfield 68, 3) := by decide +kernel
theorem dX8_plant_27 : decode cX8_plant 27 = .ok (.bipush 10, 2) := by decide +kernel
theorem dX8_plant_29 : decode cX8_plant 29 = .ok (.iload_n 1, 1) := by decide +kernel
theorem dX8_plant_30 : decode cX8_plant 30 = .ok (.imul, 1) := by decide +kernel
theorem dX8_plant_31 : decode cX8_plant 31 = .ok (.iload_n 2, 1) := by decide +kernel
theorem dX8_plant_32 : decode cX8_plant 32 = .ok (.iadd, 1) := by decide +kernel
theorem dX8_plant_33 : decode cX8_plant 33 = .ok (.iaload, 1) := by decide +kernel
theorem dX8_plant_34 : decode cX8_plant 34 = .ok (.istore 4, 2) := by decide +kernel
theorem dX8_plant_36 : decode cX8_plant 36 = .ok (.aload_n 0, 1) := by decide +kernel
theorem dX8_plant_37 : decode cX8_plant 37 = .ok (.getfield 68, 3) := by decide +kernel
theorem dX8_plant_40 : decode cX8_plant 40 = .ok (.bipush 10, 2) := by decide +kernel
theorem dX8_plant_42 : decode cX8_plant 42 = .ok (.iload_n 1, 1) := by decide +kernel
theorem dX8_plant_43 : decode cX8_plant 43 = .ok (.imul, 1) := by decide +kernel
theorem dX8_plant_44 : decode cX8_plant 44 = .ok (.iload_n 2, 1) := by decide +kernel
theorem dX8_plant_45 : decode cX8_plant 45 = .ok (.iadd, 1) := by decide +kernel
theorem dX8_plant_46 : decode cX8_plant 46 = .ok (.iload_n 3, 1) := by decide +kernel
theorem dX8_plant_47 : decode cX8_plant 47 = .ok (.iastore, 1) := by decide +kernel
theorem dX8_plant_48 : decode cX8_plant 48 = .ok (.iload 4, 2) := by decide +kernel
theorem dX8_plant_50 : decode cX8_plant 50 = .ok (.ireturn, 1) := by decide +kernel
theorem dX8_made_0 : decode cX8_made 0 = .ok (.aload_n 0, 1) := by decide +kernel
theorem dX8_made_1 : decode cX8_made 1 = .ok (.iload_n 1, 1) := by decide +kernel
theorem dX8_made_2 : decode cX8_made 2 = .ok (.invokevirtual 286, 3) := by decide +kernel
theorem dX8_made_5 : decode cX8_made 5 = .ok (.ifCond .eq 27, 3) := by decide +kernel
theorem dX8_made_8 : decode cX8_made 8 = .ok (.aload_n 0, 1) := by decide +kernel
theorem dX8_made_9 : decode cX8_made 9 = .ok (.iload_n 2, 1) := by decide +kernel
theorem dX8_made_10 : decode cX8_made 10 = .ok (.invokevirtual 246, 3) := by decide +kernel
theorem dX8_made_13 : decode cX8_made 13 = .ok (.ifCond .eq 19, 3) := by decide +kernel
theorem dX8_made_16 : decode cX8_made 16 = .ok (.iload_n 3, 1) := by decide +kernel
theorem dX8_made_17 : decode cX8_made 17 = .ok (.i2l, 1) := by decide +kernel
theorem dX8_made_18 : decode cX8_made 18 = .ok (.lconst 0, 1) := by decide +kernel
theorem dX8_made_19 : decode cX8_made 19 = .ok (.aload_n 0, 1) := by decide +kernel
theorem dX8_made_20 : decode cX8_made 20 = .ok (.getfield 62, 3) := by decide +kernel
theorem dX8_made_23 : decode cX8_made 23 = .ok (.iload_n 1, 1) := by decide +kernel
theorem dX8_made_24 : decode cX8_made 24 = .ok (.iaload, 1) := by decide +kernel
theorem dX8_made_25 : decode cX8_made 25 = .ok (.i2l, 1) := by decide +kernel
theorem dX8_made_26 : decode cX8_made 26 = .ok (.invokestatic 177, 3) := by decide +kernel
theorem dX8_made_29 : decode cX8_made 29 = .ok (.ifCond .ne 5, 3) := by decide +kernel
theorem dX8_made_32 : decode cX8_made 32 = .ok (.iconst (-1), 1) := by decide +kernel
theorem dX8_made_33 : decode cX8_made 33 = .ok (.ireturn, 1) := by decide +kernel
theorem dX8_made_34 : decode cX8_made 34 = .ok (.aload_n 0, 1) := by decide +kernel
theorem dX8_made_35 : decode cX8_made 35 = .ok (.aload_n 0, 1) := by decide +kernel
theorem dX8_made_36 : decode cX8_made 36 = .ok (.iload_n 2, 1) := by decide +kernel
theorem dX8_made_37 : decode cX8_made 37 = .ok (.invokevirtual 265, 3) := by decide +kernel
theorem dX8_made_40 : decode cX8_made 40 = .ok (.iload_n 1, 1) := by decide +kernel
theorem dX8_made_41 : decode cX8_made 41 = .ok (.iload_n 3, 1) := by decide +kernel
theorem dX8_made_42 : decode cX8_made 42 = .ok (.invokevirtual 292, 3) := by decide +kernel
theorem dX8_made_45 : decode cX8_made 45 = .ok (.istore 4, 2) := by decide +kernel
theorem dX8_made_47 : decode cX8_made 47 = .ok (.aload_n 0, 1) := by decide +kernel
theorem dX8_made_48 : decode cX8_made 48 = .ok (.iconst 0, 1) := by decide +kernel
theorem dX8_made_49 : decode cX8_made 49 = .ok (.putfield 185, 3) := by decide +kernel
theorem dX8_made_52 : decode cX8_made 52 = .ok (.aload_n 0, 1) := by decide +kernel
theorem dX8_made_53 : decode cX8_made 53 = .ok (.iload 4, 2) := by decide +kernel
theorem dX8_made_55 : decode cX8_made 55 = .ok (.invokevirtual 205, 3) := by decide +kernel
theorem dX8_made_58 : decode cX8_made 58 = .ok (.aload_n 0, 1) := by decide +kernel
theorem dX8_made_59 : decode cX8_made 59 = .ok (.aload_n 0, 1) := by decide +kernel
theorem dX8_made_60 : decode cX8_made 60 = .ok (.getfield 185, 3) := by decide +kernel
theorem dX8_made_63 : decode cX8_made 63 = .ok (.putfield 295, 3) := by decide +kernel
theorem dX8_made_66 : decode cX8_made 66 = .ok (.iconst 0, 1) := by decide +kernel
theorem dX8_made_67 : decode cX8_made 67 = .ok (.istore 5, 2) := by decide +kernel
theorem dX8_made_69 : decode cX8_made 69 = .ok (.iload 5, 2) := by decide +kernel
theorem dX8_made_71 : decode cX8_made 71 = .ok (.aload_n 0, 1) := by decide +kernel
theorem dX8_made_72 : decode cX8_made 72 = .ok (.getfield 295, 3) := by decide +kernel
theorem dX8_made_75 : decode cX8_made 75 = .ok (.if_icmp .ge 53, 3) := by decide +kernel
theorem dX8_made_78 : decode cX8_made 78 = .ok (.aload_n 0, 1) := by decide +kernel
theorem dX8_made_79 : decode cX8_made 79 = .ok (.getfield 71, 3) := by decide +kernel
theorem dX8_made_82 : decode cX8_made 82 = .ok (.iload 5, 2) := by decide +kernel
theorem dX8_made_84 : decode cX8_made 84 = .ok (.aload_n 0, 1) := by decide +kernel
theorem dX8_made_85 : decode cX8_made 85 = .ok (.getfield 37, 3) := by decide +kernel
theorem dX8_made_88 : decode cX8_made 88 = .ok (.iload 5, 2) := by decide +kernel
theorem dX8_made_90 : decode cX8_made 90 = .ok (.iaload, 1) := by decide +kernel
theorem dX8_made_91 : decode cX8_made 91 = .ok (.iastore, 1) := by decide +kernel
theorem dX8_made_92 : decode cX8_made 92 = .ok (.aload_n 0, 1) := by decide +kernel
theorem dX8_made_93 : decode cX8_made 93 = .ok (.getfield 74, 3) := by decide +kernel
theorem dX8_made_96 : decode cX8_made 96 = .ok (.iload 5, 2) := by decide +kernel
theorem dX8_made_98 : decode cX8_made 98 = .ok (.aload_n 0, 1) := by decide +kernel
theorem dX8_made_99 : decode cX8_made 99 = .ok (.getfield 40, 3) := by decide +kernel
theorem dX8_made_102 : decode cX8_made 102 = .ok (.iload 5, 2) := by decide +kernel
theorem dX8_made_104 : decode cX8_made 104 = .ok (.iaload, 1) := by decide +kernel
theorem dX8_made_105 : decode cX8_made 105 = .ok (.iastore, 1) := by decide +kernel
theorem dX8_made_106 : decode cX8_made 106 = .ok (.aload_n 0, 1) := by decide +kernel
theorem dX8_made_107 : decode cX8_made 107 = .ok (.getfield 77, 3) := by decide +kernel
theorem dX8_made_110 : decode cX8_made 110 = .ok (.iload 5, 2) := by decide +kernel
theorem dX8_made_112 : decode cX8_made 112 = .ok (.aload_n 0, 1) := by decide +kernel
theorem dX8_made_113 : decode cX8_made 113 = .ok (.iload 5, 2) := by decide +kernel
theorem dX8_made_115 : decode cX8_made 115 = .ok (.invokevirtual 262, 3) := by decide +kernel
theorem dX8_made_118 : decode cX8_made 118 = .ok (.iload 5, 2) := by decide +kernel
theorem dX8_made_120 : decode cX8_made 120 = .ok (.isub, 1) := by decide +kernel
theorem dX8_made_121 : decode cX8_made 121 = .ok (.iastore, 1) := by decide +kernel
theorem dX8_made_122 : decode cX8_made 122 = .ok (.iinc 5 1, 3) := by decide +kernel
theorem dX8_made_125 : decode cX8_made 125 = .ok (.goto (-56), 3) := by decide +kernel
theorem dX8_made_128 : decode cX8_made 128 = .ok (.aload_n 0, 1) := by decide +kernel
theorem dX8_made_129 : decode cX8_made 129 = .ok (.getfield 295, 3) := by decide +kernel
theorem dX8_made_132 : decode cX8_made 132 = .ok (.ireturn, 1) := by decide +kernel
theorem dX8_part_0 : decode cX8_part 0 = .ok (.iload_n 1, 1) := by decide +kernel
theorem dX8_part_1 : decode cX8_part 1 = .ok (.i2l, 1) := by decide +kernel
theorem dX8_part_2 : decode cX8_part 2 = .ok (.lconst 0, 1) := by decide +kernel
theorem dX8_part_3 : decode cX8_part 3 = .ok (.aload_n 0, 1) := by decide +kernel
theorem dX8_part_4 : decode cX8_part 4 = .ok (.getfield 295, 3) := by decide +kernel
theorem dX8_part_7 : decode cX8_part 7 = .ok (.iconst 1, 1) := by decide +kernel
theorem dX8_part_8 : decode cX8_part 8 = .ok (.isub, 1) := by decide +kernel
theorem dX8_part_9 : decode cX8_part 9 = .ok (.i2l, 1) := by decide +kernel
theorem dX8_part_10 : decode cX8_part 10 = .ok (.invokestatic 177, 3) := by decide +kernel
theorem dX8_part_13 : decode cX8_part 13 = .ok (.ifCond .eq 15, 3) := by decide +kernel
theorem dX8_part_16 : decode cX8_part 16 = .ok (.iload_n 2, 1) := by decide +kernel
theorem dX8_part_17 : decode cX8_part 17 = .ok (.i2l, 1) := by decide +kernel
theorem dX8_part_18 : decode cX8_part 18 = .ok (.lconst 0, 1) := by decide +kernel
theorem dX8_part_19 : decode cX8_part 19 = .ok (.ldc2_w 251, 3) := by decide +kernel
theorem dX8_part_22 : decode cX8_part 22 = .ok (.invokestatic 177, 3) := by decide +kernel
theorem dX8_part_25 : decode cX8_part 25 = .ok (.ifCond .ne 7, 3) := by decide +kernel
theorem dX8_part_28 : decode cX8_part 28 = .ok (.ldc_w 261, 3) := by decide +kernel
theorem dX8_part_31 : decode cX8_part 31 = .ok (.ireturn, 1) := by decide +kernel
theorem dX8_part_32 : decode cX8_part 32 = .ok (.iload_n 2, 1) := by decide +kernel
theorem dX8_part_33 : decode cX8_part 33 = .ok (.ifCond .ne 12, 3) := by decide +kernel
theorem dX8_part_36 : decode cX8_part 36 = .ok (.aload_n 0, 1) := by decide +kernel
theorem dX8_part_37 : decode cX8_part 37 = .ok (.getfield 71, 3) := by decide +kernel
theorem dX8_part_40 : decode cX8_part 40 = .ok (.iload_n 1, 1) := by decide +kernel
theorem dX8_part_41 : decode cX8_part 41 = .ok (.iaload, 1) := by decide +kernel
theorem dX8_part_42 : decode cX8_part 42 = .ok (.goto 23, 3) := by decide +kernel
theorem dX8_part_45 : decode cX8_part 45 = .ok (.iload_n 2, 1) := by decide +kernel
theorem dX8_part_46 : decode cX8_part 46 = .ok (.iconst 1, 1) := by decide +kernel
theorem dX8_part_47 : decode cX8_part 47 = .ok (.if_icmp .ne 12, 3) := by decide +kernel
theorem dX8_part_50 : decode cX8_part 50 = .ok (.aload_n 0, 1) := by decide +kernel
theorem dX8_part_51 : decode cX8_part 51 = .ok (.getfield 74, 3) := by decide +kernel
theorem dX8_part_54 : decode cX8_part 54 = .ok (.iload_n 1, 1) := by decide +kernel
theorem dX8_part_55 : decode cX8_part 55 = .ok (.iaload, 1) := by decide +kernel
theorem dX8_part_56 : decode cX8_part 56 = .ok (.goto 9, 3) := by decide +kernel
theorem dX8_part_59 : decode cX8_part 59 = .ok (.aload_n 0, 1) := by decide +kernel
theorem dX8_part_60 : decode cX8_part 60 = .ok (.getfield 77, 3) := by decide +kernel
theorem dX8_part_63 : decode cX8_part 63 = .ok (.iload_n 1, 1) := by decide +kernel
theorem dX8_part_64 : decode cX8_part 64 = .ok (.iaload, 1) := by decide +kernel
theorem dX8_part_65 : decode cX8_part 65 = .ok (.ireturn, 1) := by decide +kernel
theorem dX8_answer_0 : decode cX8_answer 0 = .ok (.aload_n 0, 1) := by decide +kernel
theorem dX8_answer_1 : decode cX8_answer 1 = .ok (.iload_n 1, 1) := by decide +kernel
theorem dX8_answer_2 : decode cX8_answer 2 = .ok (.invokevirtual 286, 3) := by decide +kernel
theorem dX8_answer_5 : decode cX8_answer 5 = .ok (.ifCond .eq 11, 3) := by decide +kernel
theorem dX8_answer_8 : decode cX8_answer 8 = .ok (.aload_n 0, 1) := by decide +kernel
theorem dX8_answer_9 : decode cX8_answer 9 = .ok (.iload_n 2, 1) := by decide +kernel
theorem dX8_answer_10 : decode cX8_answer 10 = .ok (.invokevirtual 246, 3) := by decide +kernel
theorem dX8_answer_13 : decode cX8_answer 13 = .ok (.ifCond .ne 7, 3) := by decide +kernel
theorem dX8_answer_16 : decode cX8_answer 16 = .ok (.ldc_w 261, 3) := by decide +kernel
theorem dX8_answer_19 : decode cX8_answer 19 = .ok (.ireturn, 1) := by decide +kernel
theorem dX8_answer_20 : decode cX8_answer 20 = .ok (.aload_n 0, 1) := by decide +kernel
theorem dX8_answer_21 : decode cX8_answer 21 = .ok (.aload_n 0, 1) := by decide +kernel
theorem dX8_answer_22 : decode cX8_answer 22 = .ok (.aload_n 0, 1) := by decide +kernel
theorem dX8_answer_23 : decode cX8_answer 23 = .ok (.iload_n 2, 1) := by decide +kernel
theorem dX8_answer_24 : decode cX8_answer 24 = .ok (.invokevirtual 265, 3) := by decide +kernel
theorem dX8_answer_27 : decode cX8_answer 27 = .ok (.iload_n 1, 1) := by decide +kernel
theorem dX8_answer_28 : decode cX8_answer 28 = .ok (.aload_n 0, 1) := by decide +kernel
theorem dX8_answer_29 : decode cX8_answer 29 = .ok (.getfield 62, 3) := by decide +kernel
theorem dX8_answer_32 : decode cX8_answer 32 = .ok (.iload_n 1, 1) := by decide +kernel
theorem dX8_answer_33 : decode cX8_answer 33 = .ok (.iaload, 1) := by decide +kernel
theorem dX8_answer_34 : decode cX8_answer 34 = .ok (.invokevirtual 292, 3) := by decide +kernel
theorem dX8_answer_37 : decode cX8_answer 37 = .ok (.iload_n 3, 1) := by decide +kernel
theorem dX8_answer_38 : decode cX8_answer 38 = .ok (.iload 4, 2) := by decide +kernel
theorem dX8_answer_40 : decode cX8_answer 40 = .ok (.invokevirtual 118, 3) := by decide +kernel
theorem dX8_answer_43 : decode cX8_answer 43 = .ok (.istore 5, 2) := by decide +kernel
theorem dX8_answer_45 : decode cX8_answer 45 = .ok (.aload_n 0, 1) := by decide +kernel
theorem dX8_answer_46 : decode cX8_answer 46 = .ok (.getfield 104, 3) := by decide +kernel
theorem dX8_answer_49 : decode cX8_answer 49 = .ok (.ifCond .eq 9, 3) := by decide +kernel
theorem dX8_answer_52 : decode cX8_answer 52 = .ok (.ldc_w 261, 3) := by decide +kernel
theorem dX8_answer_55 : decode cX8_answer 55 = .ok (.goto 5, 3) := by decide +kernel
theorem dX8_answer_58 : decode cX8_answer 58 = .ok (.iload 5, 2) := by decide +kernel
theorem dX8_answer_60 : decode cX8_answer 60 = .ok (.ireturn, 1) := by decide +kernel
theorem dX8_cost_0 : decode cX8_cost 0 = .ok (.aload_n 0, 1) := by decide +kernel
theorem dX8_cost_1 : decode cX8_cost 1 = .ok (.iload_n 1, 1) := by decide +kernel
theorem dX8_cost_2 : decode cX8_cost 2 = .ok (.invokevirtual 286, 3) := by decide +kernel
theorem dX8_cost_5 : decode cX8_cost 5 = .ok (.ifCond .eq 11, 3) := by decide +kernel
theorem dX8_cost_8 : decode cX8_cost 8 = .ok (.aload_n 0, 1) := by decide +kernel
theorem dX8_cost_9 : decode cX8_cost 9 = .ok (.iload_n 2, 1) := by decide +kernel
theorem dX8_cost_10 : decode cX8_cost 10 = .ok (.invokevirtual 246, 3) := by decide +kernel
theorem dX8_cost_13 : decode cX8_cost 13 = .ok (.ifCond .ne 5, 3) := by decide +kernel
theorem dX8_cost_16 : decode cX8_cost 16 = .ok (.iconst (-1), 1) := by decide +kernel
theorem dX8_cost_17 : decode cX8_cost 17 = .ok (.ireturn, 1) := by decide +kernel
theorem dX8_cost_18 : decode cX8_cost 18 = .ok (.aload_n 0, 1) := by decide +kernel
theorem dX8_cost_19 : decode cX8_cost 19 = .ok (.aload_n 0, 1) := by decide +kernel
theorem dX8_cost_20 : decode cX8_cost 20 = .ok (.aload_n 0, 1) := by decide +kernel
theorem dX8_cost_21 : decode cX8_cost 21 = .ok (.iload_n 2, 1) := by decide +kernel
theorem dX8_cost_22 : decode cX8_cost 22 = .ok (.invokevirtual 265, 3) := by decide +kernel
theorem dX8_cost_25 : decode cX8_cost 25 = .ok (.iload_n 1, 1) := by decide +kernel
theorem dX8_cost_26 : decode cX8_cost 26 = .ok (.aload_n 0, 1) := by decide +kernel
theorem dX8_cost_27 : decode cX8_cost 27 = .ok (.getfield 62, 3) := by decide +kernel
theorem dX8_cost_30 : decode cX8_cost 30 = .ok (.iload_n 1, 1) := by decide +kernel
theorem dX8_cost_31 : decode cX8_cost 31 = .ok (.iaload, 1) := by decide +kernel
theorem dX8_cost_32 : decode cX8_cost 32 = .ok (.invokevirtual 292, 3) := by decide +kernel
theorem dX8_cost_35 : decode cX8_cost 35 = .ok (.iload_n 3, 1) := by decide +kernel
theorem dX8_cost_36 : decode cX8_cost 36 = .ok (.iload 4, 2) := by decide +kernel
theorem dX8_cost_38 : decode cX8_cost 38 = .ok (.invokevirtual 118, 3) := by decide +kernel
theorem dX8_cost_41 : decode cX8_cost 41 = .ok (.istore 5, 2) := by decide +kernel
theorem dX8_cost_43 : decode cX8_cost 43 = .ok (.aload_n 0, 1) := by decide +kernel
theorem dX8_cost_44 : decode cX8_cost 44 = .ok (.getfield 108, 3) := by decide +kernel
theorem dX8_cost_47 : decode cX8_cost 47 = .ok (.ireturn, 1) := by decide +kernel
theorem dX8_firesOf_0 : decode cX8_firesOf 0 = .ok (.aload_n 0, 1) := by decide +kernel
theorem dX8_firesOf_1 : decode cX8_firesOf 1 = .ok (.iload_n 1, 1) := by decide +kernel
theorem dX8_firesOf_2 : decode cX8_firesOf 2 = .ok (.iload_n 2, 1) := by decide +kernel
theorem dX8_firesOf_3 : decode cX8_firesOf 3 = .ok (.iload_n 3, 1) := by decide +kernel
theorem dX8_firesOf_4 : decode cX8_firesOf 4 = .ok (.invokevirtual 292, 3) := by decide +kernel
theorem dX8_firesOf_7 : decode cX8_firesOf 7 = .ok (.istore 4, 2) := by decide +kernel
theorem dX8_firesOf_9 : decode cX8_firesOf 9 = .ok (.aload_n 0, 1) := by decide +kernel
theorem dX8_firesOf_10 : decode cX8_firesOf 10 = .ok (.iload 4, 2) := by decide +kernel
theorem dX8_firesOf_12 : decode cX8_firesOf 12 = .ok (.iload_n 2, 1) := by decide +kernel
theorem dX8_firesOf_13 : decode cX8_firesOf 13 = .ok (.iload_n 3, 1) := by decide +kernel
theorem dX8_firesOf_14 : decode cX8_firesOf 14 = .ok (.invokevirtual 172, 3) := by decide +kernel
theorem dX8_firesOf_17 : decode cX8_firesOf 17 = .ok (.istore 4, 2) := by decide +kernel
theorem dX8_firesOf_19 : decode cX8_firesOf 19 = .ok (.aload_n 0, 1) := by decide +kernel
theorem dX8_firesOf_20 : decode cX8_firesOf 20 = .ok (.getfield 169, 3) := by decide +kernel
theorem dX8_firesOf_23 : decode cX8_firesOf 23 = .ok (.ireturn, 1) := by decide +kernel
theorem dX8_fires_0 : decode cX8_fires 0 = .ok (.aload_n 0, 1) := by decide +kernel
theorem dX8_fires_1 : decode cX8_fires 1 = .ok (.iload_n 1, 1) := by decide +kernel
theorem dX8_fires_2 : decode cX8_fires 2 = .ok (.iload_n 3, 1) := by decide +kernel
theorem dX8_fires_3 : decode cX8_fires 3 = .ok (.invokevirtual 289, 3) := by decide +kernel
theorem dX8_fires_6 : decode cX8_fires 6 = .ok (.ifCond .eq 25, 3) := by decide +kernel
theorem dX8_fires_9 : decode cX8_fires 9 = .ok (.aload_n 0, 1) := by decide +kernel
theorem dX8_fires_10 : decode cX8_fires 10 = .ok (.iload_n 2, 1) := by decide +kernel
theorem dX8_fires_11 : decode cX8_fires 11 = .ok (.invokevirtual 246, 3) := by decide +kernel
theorem dX8_fires_14 : decode cX8_fires 14 = .ok (.ifCond .eq 17, 3) := by decide +kernel
theorem dX8_fires_17 : decode cX8_fires 17 = .ok (.aload_n 0, 1) := by decide +kernel
theorem dX8_fires_18 : decode cX8_fires 18 = .ok (.aload_n 0, 1) := by decide +kernel
theorem dX8_fires_19 : decode cX8_fires 19 = .ok (.iload_n 2, 1) := by decide +kernel
theorem dX8_fires_20 : decode cX8_fires 20 = .ok (.invokevirtual 265, 3) := by decide +kernel
theorem dX8_fires_23 : decode cX8_fires 23 = .ok (.iload_n 1, 1) := by decide +kernel
theorem dX8_fires_24 : decode cX8_fires 24 = .ok (.iload_n 3, 1) := by decide +kernel
theorem dX8_fires_25 : decode cX8_fires 25 = .ok (.invokevirtual 298, 3) := by decide +kernel
theorem dX8_fires_28 : decode cX8_fires 28 = .ok (.goto 4, 3) := by decide +kernel
theorem dX8_fires_31 : decode cX8_fires 31 = .ok (.iconst (-1), 1) := by decide +kernel
theorem dX8_fires_32 : decode cX8_fires 32 = .ok (.ireturn, 1) := by decide +kernel
theorem dX8_never_0 : decode cX8_never 0 = .ok (.aload_n 0, 1) := by decide +kernel
theorem dX8_never_1 : decode cX8_never 1 = .ok (.iload_n 1, 1) := by decide +kernel
theorem dX8_never_2 : decode cX8_never 2 = .ok (.invokevirtual 286, 3) := by decide +kernel
theorem dX8_never_5 : decode cX8_never 5 = .ok (.ifCond .ne 5, 3) := by decide +kernel
theorem dX8_never_8 : decode cX8_never 8 = .ok (.iconst (-1), 1) := by decide +kernel
theorem dX8_never_9 : decode cX8_never 9 = .ok (.ireturn, 1) := by decide +kernel
theorem dX8_never_10 : decode cX8_never 10 = .ok (.iconst 0, 1) := by decide +kernel
theorem dX8_never_11 : decode cX8_never 11 = .ok (.istore_n 2, 1) := by decide +kernel
theorem dX8_never_12 : decode cX8_never 12 = .ok (.iconst 0, 1) := by decide +kernel
theorem dX8_never_13 : decode cX8_never 13 = .ok (.istore_n 3, 1) := by decide +kernel
theorem dX8_never_14 : decode cX8_never 14 = .ok (.iload_n 3, 1) := by decide +kernel
theorem dX8_never_15 : decode cX8_never 15 = .ok (.aload_n 0, 1) := by decide +kernel
theorem dX8_never_16 : decode cX8_never 16 = .ok (.getfield 62, 3) := by decide +kernel
theorem dX8_never_19 : decode cX8_never 19 = .ok (.iload_n 1, 1) := by decide +kernel
theorem dX8_never_20 : decode cX8_never 20 = .ok (.iaload, 1) := by decide +kernel
theorem dX8_never_21 : decode cX8_never 21 = .ok (.if_icmp .ge 79, 3) := by decide +kernel
theorem dX8_never_24 : decode cX8_never 24 = .ok (.iconst 0, 1) := by decide +kernel
theorem dX8_never_25 : decode cX8_never 25 = .ok (.istore 4, 2) := by decide +kernel
theorem dX8_never_27 : decode cX8_never 27 = .ok (.iconst 0, 1) := by decide +kernel
theorem dX8_never_28 : decode cX8_never 28 = .ok (.istore 5, 2) := by decide +kernel
theorem dX8_never_30 : decode cX8_never 30 = .ok (.iload 5, 2) := by decide +kernel
theorem dX8_never_32 : decode cX8_never 32 = .ok (.bipush 20, 2) := by decide +kernel
theorem dX8_never_34 : decode cX8_never 34 = .ok (.if_icmp .ge 45, 3) := by decide +kernel
theorem dX8_never_37 : decode cX8_never 37 = .ok (.iload 4, 2) := by decide +kernel
theorem dX8_never_39 : decode cX8_never 39 = .ok (.ifCond .ne 40, 3) := by decide +kernel
theorem dX8_never_42 : decode cX8_never 42 = .ok (.aload_n 0, 1) := by decide +kernel
theorem dX8_never_43 : decode cX8_never 43 = .ok (.iload 5, 2) := by decide +kernel
theorem dX8_never_45 : decode cX8_never 45 = .ok (.invokevirtual 246, 3) := by decide +kernel
theorem dX8_never_48 : decode cX8_never 48 = .ok (.ifCond .eq 22, 3) := by decide +kernel
theorem dX8_never_51 : decode cX8_never 51 = .ok (.aload_n 0, 1) := by decide +kernel
theorem dX8_never_52 : decode cX8_never 52 = .ok (.aload_n 0, 1) := by decide +kernel
theorem dX8_never_53 : decode cX8_never 53 = .ok (.iload 5, 2) := by decide +kernel
theorem dX8_never_55 : decode cX8_never 55 = .ok (.invokevirtual 265, 3) := by decide +kernel
theorem dX8_never_58 : decode cX8_never 58 = .ok (.iload_n 1, 1) := by decide +kernel
theorem dX8_never_59 : decode cX8_never 59 = .ok (.iload_n 3, 1) := by decide +kernel
theorem dX8_never_60 : decode cX8_never 60 = .ok (.invokevirtual 298, 3) := by decide +kernel
theorem dX8_never_63 : decode cX8_never 63 = .ok (.ifCond .le 7, 3) := by decide +kernel
theorem dX8_never_66 : decode cX8_never 66 = .ok (.iconst 1, 1) := by decide +kernel
theorem dX8_never_67 : decode cX8_never 67 = .ok (.goto 4, 3) := by decide +kernel
theorem dX8_never_70 : decode cX8_never 70 = .ok (.iconst 0, 1) := by decide +kernel
theorem dX8_never_71 : decode cX8_never 71 = .ok (.istore 4, 2) := by decide +kernel
theorem dX8_never_73 : decode cX8_never 73 = .ok (.iinc 5 1, 3) := by decide +kernel
theorem dX8_never_76 : decode cX8_never 76 = .ok (.goto (-46), 3) := by decide +kernel
theorem dX8_never_79 : decode cX8_never 79 = .ok (.iload_n 2, 1) := by decide +kernel
theorem dX8_never_80 : decode cX8_never 80 = .ok (.iload 4, 2) := by decide +kernel
theorem dX8_never_82 : decode cX8_never 82 = .ok (.ifCond .eq 7, 3) := by decide +kernel
theorem dX8_never_85 : decode cX8_never 85 = .ok (.iconst 0, 1) := by decide +kernel
theorem dX8_never_86 : decode cX8_never 86 = .ok (.goto 6, 3) := by decide +kernel
theorem dX8_never_89 : decode cX8_never 89 = .ok (.iconst 1, 1) := by decide +kernel
theorem dX8_never_90 : decode cX8_never 90 = .ok (.iload_n 3, 1) := by decide +kernel
theorem dX8_never_91 : decode cX8_never 91 = .ok (.ishl, 1) := by decide +kernel
theorem dX8_never_92 : decode cX8_never 92 = .ok (.ior, 1) := by decide +kernel
theorem dX8_never_93 : decode cX8_never 93 = .ok (.istore_n 2, 1) := by decide +kernel
theorem dX8_never_94 : decode cX8_never 94 = .ok (.iinc 3 1, 3) := by decide +kernel
theorem dX8_never_97 : decode cX8_never 97 = .ok (.goto (-83), 3) := by decide +kernel
theorem dX8_never_100 : decode cX8_never 100 = .ok (.iload_n 2, 1) := by decide +kernel
theorem dX8_never_101 : decode cX8_never 101 = .ok (.ireturn, 1) := by decide +kernel
theorem dX8_isOther_0 : decode cX8_isOther 0 = .ok (.aload_n 0, 1) := by decide +kernel
theorem dX8_isOther_1 : decode cX8_isOther 1 = .ok (.iload_n 1, 1) := by decide +kernel
theorem dX8_isOther_2 : decode cX8_isOther 2 = .ok (.iload_n 3, 1) := by decide +kernel
theorem dX8_isOther_3 : decode cX8_isOther 3 = .ok (.iload 4, 2) := by decide +kernel
theorem dX8_isOther_5 : decode cX8_isOther 5 = .ok (.invokevirtual 118, 3) := by decide +kernel
theorem dX8_isOther_8 : decode cX8_isOther 8 = .ok (.istore 5, 2) := by decide +kernel
theorem dX8_isOther_10 : decode cX8_isOther 10 = .ok (.aload_n 0, 1) := by decide +kernel
theorem dX8_isOther_11 : decode cX8_isOther 11 = .ok (.iload_n 2, 1) := by decide +kernel
theorem dX8_isOther_12 : decode cX8_isOther 12 = .ok (.iload_n 3, 1) := by decide +kernel
theorem dX8_isOther_13 : decode cX8_isOther 13 = .ok (.iload 4, 2) := by decide +kernel
theorem dX8_isOther_15 : decode cX8_isOther 15 = .ok (.invokevirtual 118, 3) := by decide +kernel
theorem dX8_isOther_18 : decode cX8_isOther 18 = .ok (.istore 6, 2) := by decide +kernel
theorem dX8_isOther_20 : decode cX8_isOther 20 = .ok (.aload_n 0, 1) := by decide +kernel
theorem dX8_isOther_21 : decode cX8_isOther 21 = .ok (.getfield 104, 3) := by decide +kernel
theorem dX8_isOther_24 : decode cX8_isOther 24 = .ok (.ifCond .ne 10, 3) := by decide +kernel
theorem dX8_isOther_27 : decode cX8_isOther 27 = .ok (.iload 5, 2) := by decide +kernel
theorem dX8_isOther_29 : decode cX8_isOther 29 = .ok (.iload 6, 2) := by decide +kernel
theorem dX8_isOther_31 : decode cX8_isOther 31 = .ok (.if_icmp .eq 7, 3) := by decide +kernel
theorem dX8_isOther_34 : decode cX8_isOther 34 = .ok (.iconst 1, 1) := by decide +kernel
theorem dX8_isOther_35 : decode cX8_isOther 35 = .ok (.goto 4, 3) := by decide +kernel
theorem dX8_isOther_38 : decode cX8_isOther 38 = .ok (.iconst 0, 1) := by decide +kernel
theorem dX8_isOther_39 : decode cX8_isOther 39 = .ok (.ireturn, 1) := by decide +kernel
theorem dX8_firstOf_0 : decode cX8_firstOf 0 = .ok (.aload_n 0, 1) := by decide +kernel
theorem dX8_firstOf_1 : decode cX8_firstOf 1 = .ok (.iload_n 1, 1) := by decide +kernel
theorem dX8_firstOf_2 : decode cX8_firstOf 2 = .ok (.iload_n 2, 1) := by decide +kernel
theorem dX8_firstOf_3 : decode cX8_firstOf 3 = .ok (.aload_n 0, 1) := by decide +kernel
theorem dX8_firstOf_4 : decode cX8_firstOf 4 = .ok (.getfield 62, 3) := by decide +kernel
theorem dX8_firstOf_7 : decode cX8_firstOf 7 = .ok (.iload_n 2, 1) := by decide +kernel
theorem dX8_firstOf_8 : decode cX8_firstOf 8 = .ok (.iaload, 1) := by decide +kernel
theorem dX8_firstOf_9 : decode cX8_firstOf 9 = .ok (.invokevirtual 292, 3) := by decide +kernel
theorem dX8_firstOf_12 : decode cX8_firstOf 12 = .ok (.istore 4, 2) := by decide +kernel
theorem dX8_firstOf_14 : decode cX8_firstOf 14 = .ok (.iload_n 3, 1) := by decide +kernel
theorem dX8_firstOf_15 : decode cX8_firstOf 15 = .ok (.ineg, 1) := by decide +kernel
theorem dX8_firstOf_16 : decode cX8_firstOf 16 = .ok (.istore 5, 2) := by decide +kernel
theorem dX8_firstOf_18 : decode cX8_firstOf 18 = .ok (.iload 5, 2) := by decide +kernel
theorem dX8_firstOf_20 : decode cX8_firstOf 20 = .ok (.iload_n 3, 1) := by decide +kernel
theorem dX8_firstOf_21 : decode cX8_firstOf 21 = .ok (.if_icmp .gt 54, 3) := by decide +kernel
theorem dX8_firstOf_24 : decode cX8_firstOf 24 = .ok (.iload_n 3, 1) := by decide +kernel
theorem dX8_firstOf_25 : decode cX8_firstOf 25 = .ok (.ineg, 1) := by decide +kernel
theorem dX8_firstOf_26 : decode cX8_firstOf 26 = .ok (.istore 6, 2) := by decide +kernel
theorem dX8_firstOf_28 : decode cX8_firstOf 28 = .ok (.iload 6, 2) := by decide +kernel
theorem dX8_firstOf_30 : decode cX8_firstOf 30 = .ok (.iload_n 3, 1) := by decide +kernel
theorem dX8_firstOf_31 : decode cX8_firstOf 31 = .ok (.if_icmp .gt 38, 3) := by decide +kernel
theorem dX8_firstOf_34 : decode cX8_firstOf 34 = .ok (.aload_n 0, 1) := by decide +kernel
theorem dX8_firstOf_35 : decode cX8_firstOf 35 = .ok (.iload_n 1, 1) := by decide +kernel
theorem dX8_firstOf_36 : decode cX8_firstOf 36 = .ok (.iload 4, 2) := by decide +kernel
theorem dX8_firstOf_38 : decode cX8_firstOf 38 = .ok (.iload 5, 2) := by decide +kernel
theorem dX8_firstOf_40 : decode cX8_firstOf 40 = .ok (.iload 6, 2) := by decide +kernel
theorem dX8_firstOf_42 : decode cX8_firstOf 42 = .ok (.invokevirtual 301, 3) := by decide +kernel
theorem dX8_firstOf_45 : decode cX8_firstOf 45 = .ok (.ifCond .eq 18, 3) := by decide +kernel
theorem dX8_firstOf_48 : decode cX8_firstOf 48 = .ok (.bipush 100, 2) := by decide +kernel
theorem dX8_firstOf_50 : decode cX8_firstOf 50 = .ok (.iload 5, 2) := by decide +kernel
theorem dX8_firstOf_52 : decode cX8_firstOf 52 = .ok (.bipush 6, 2) := by decide +kernel
theorem dX8_firstOf_54 : decode cX8_firstOf 54 = .ok (.iadd, 1) := by decide +kernel
theorem dX8_firstOf_55 : decode cX8_firstOf 55 = .ok (.imul, 1) := by decide +kernel
theorem dX8_firstOf_56 : decode cX8_firstOf 56 = .ok (.iload 6, 2) := by decide +kernel
theorem dX8_firstOf_58 : decode cX8_firstOf 58 = .ok (.iadd, 1) := by decide +kernel
theorem dX8_firstOf_59 : decode cX8_firstOf 59 = .ok (.bipush 6, 2) := by decide +kernel
theorem dX8_firstOf_61 : decode cX8_firstOf 61 = .ok (.iadd, 1) := by decide +kernel
theorem dX8_firstOf_62 : decode cX8_firstOf 62 = .ok (.ireturn, 1) := by decide +kernel
theorem dX8_firstOf_63 : decode cX8_firstOf 63 = .ok (.iinc 6 1, 3) := by decide +kernel
theorem dX8_firstOf_66 : decode cX8_firstOf 66 = .ok (.goto (-38), 3) := by decide +kernel
theorem dX8_firstOf_69 : decode cX8_firstOf 69 = .ok (.iinc 5 1, 3) := by decide +kernel
theorem dX8_firstOf_72 : decode cX8_firstOf 72 = .ok (.goto (-54), 3) := by decide +kernel
theorem dX8_firstOf_75 : decode cX8_firstOf 75 = .ok (.bipush (-5), 2) := by decide +kernel
theorem dX8_firstOf_77 : decode cX8_firstOf 77 = .ok (.ireturn, 1) := by decide +kernel
theorem dX8_differ_0 : decode cX8_differ 0 = .ok (.aload_n 0, 1) := by decide +kernel
theorem dX8_differ_1 : decode cX8_differ 1 = .ok (.iload_n 1, 1) := by decide +kernel
theorem dX8_differ_2 : decode cX8_differ 2 = .ok (.invokevirtual 286, 3) := by decide +kernel
theorem dX8_differ_5 : decode cX8_differ 5 = .ok (.ifCond .eq 23, 3) := by decide +kernel
theorem dX8_differ_8 : decode cX8_differ 8 = .ok (.aload_n 0, 1) := by decide +kernel
theorem dX8_differ_9 : decode cX8_differ 9 = .ok (.iload_n 2, 1) := by decide +kernel
theorem dX8_differ_10 : decode cX8_differ 10 = .ok (.invokevirtual 246, 3) := by decide +kernel
theorem dX8_differ_13 : decode cX8_differ 13 = .ok (.ifCond .eq 15, 3) := by decide +kernel
theorem dX8_differ_16 : decode cX8_differ 16 = .ok (.iload_n 3, 1) := by decide +kernel
theorem dX8_differ_17 : decode cX8_differ 17 = .ok (.i2l, 1) := by decide +kernel
theorem dX8_differ_18 : decode cX8_differ 18 = .ok (.lconst 0, 1) := by decide +kernel
theorem dX8_differ_19 : decode cX8_differ 19 = .ok (.ldc2_w 268, 3) := by decide +kernel
theorem dX8_differ_22 : decode cX8_differ 22 = .ok (.invokestatic 177, 3) := by decide +kernel
theorem dX8_differ_25 : decode cX8_differ 25 = .ok (.ifCond .ne 5, 3) := by decide +kernel
theorem dX8_differ_28 : decode cX8_differ 28 = .ok (.iconst (-1), 1) := by decide +kernel
theorem dX8_differ_29 : decode cX8_differ 29 = .ok (.ireturn, 1) := by decide +kernel
theorem dX8_differ_30 : decode cX8_differ 30 = .ok (.aload_n 0, 1) := by decide +kernel
theorem dX8_differ_31 : decode cX8_differ 31 = .ok (.iload_n 2, 1) := by decide +kernel
theorem dX8_differ_32 : decode cX8_differ 32 = .ok (.invokevirtual 265, 3) := by decide +kernel
theorem dX8_differ_35 : decode cX8_differ 35 = .ok (.istore 4, 2) := by decide +kernel
theorem dX8_differ_37 : decode cX8_differ 37 = .ok (.aload_n 0, 1) := by decide +kernel
theorem dX8_differ_38 : decode cX8_differ 38 = .ok (.iload 4, 2) := by decide +kernel
theorem dX8_differ_40 : decode cX8_differ 40 = .ok (.iload_n 3, 1) := by decide +kernel
theorem dX8_differ_41 : decode cX8_differ 41 = .ok (.invokevirtual 270, 3) := by decide +kernel
theorem dX8_differ_44 : decode cX8_differ 44 = .ok (.ifCond .ne 6, 3) := by decide +kernel
theorem dX8_differ_47 : decode cX8_differ 47 = .ok (.bipush (-2), 2) := by decide +kernel
theorem dX8_differ_49 : decode cX8_differ 49 = .ok (.ireturn, 1) := by decide +kernel
theorem dX8_differ_50 : decode cX8_differ 50 = .ok (.aload_n 0, 1) := by decide +kernel
theorem dX8_differ_51 : decode cX8_differ 51 = .ok (.iload 4, 2) := by decide +kernel
theorem dX8_differ_53 : decode cX8_differ 53 = .ok (.iload_n 1, 1) := by decide +kernel
theorem dX8_differ_54 : decode cX8_differ 54 = .ok (.aload_n 0, 1) := by decide +kernel
theorem dX8_differ_55 : decode cX8_differ 55 = .ok (.getfield 62, 3) := by decide +kernel
theorem dX8_differ_58 : decode cX8_differ 58 = .ok (.iload_n 1, 1) := by decide +kernel
theorem dX8_differ_59 : decode cX8_differ 59 = .ok (.iaload, 1) := by decide +kernel
theorem dX8_differ_60 : decode cX8_differ 60 = .ok (.invokevirtual 292, 3) := by decide +kernel
theorem dX8_differ_63 : decode cX8_differ 63 = .ok (.istore 5, 2) := by decide +kernel
theorem dX8_differ_65 : decode cX8_differ 65 = .ok (.iconst 0, 1) := by decide +kernel
theorem dX8_differ_66 : decode cX8_differ 66 = .ok (.istore 6, 2) := by decide +kernel
theorem dX8_differ_68 : decode cX8_differ 68 = .ok (.iload_n 3, 1) := by decide +kernel
theorem dX8_differ_69 : decode cX8_differ 69 = .ok (.ineg, 1) := by decide +kernel
theorem dX8_differ_70 : decode cX8_differ 70 = .ok (.istore 7, 2) := by decide +kernel
theorem dX8_differ_72 : decode cX8_differ 72 = .ok (.iload 7, 2) := by decide +kernel
theorem dX8_differ_74 : decode cX8_differ 74 = .ok (.iload_n 3, 1) := by decide +kernel
theorem dX8_differ_75 : decode cX8_differ 75 = .ok (.if_icmp .gt 50, 3) := by decide +kernel
theorem dX8_differ_78 : decode cX8_differ 78 = .ok (.iload_n 3, 1) := by decide +kernel
theorem dX8_differ_79 : decode cX8_differ 79 = .ok (.ineg, 1) := by decide +kernel
theorem dX8_differ_80 : decode cX8_differ 80 = .ok (.istore 8, 2) := by decide +kernel
theorem dX8_differ_82 : decode cX8_differ 82 = .ok (.iload 8, 2) := by decide +kernel
theorem dX8_differ_84 : decode cX8_differ 84 = .ok (.iload_n 3, 1) := by decide +kernel
theorem dX8_differ_85 : decode cX8_differ 85 = .ok (.if_icmp .gt 34, 3) := by decide +kernel
theorem dX8_differ_88 : decode cX8_differ 88 = .ok (.iload 6, 2) := by decide +kernel
theorem dX8_differ_90 : decode cX8_differ 90 = .ok (.aload_n 0, 1) := by decide +kernel
theorem dX8_differ_91 : decode cX8_differ 91 = .ok (.iload 4, 2) := by decide +kernel
theorem dX8_differ_93 : decode cX8_differ 93 = .ok (.iload 5, 2) := by decide +kernel
theorem dX8_differ_95 : decode cX8_differ 95 = .ok (.iload 7, 2) := by decide +kernel
theorem dX8_differ_97 : decode cX8_differ 97 = .ok (.iload 8, 2) := by decide +kernel
theorem dX8_differ_99 : decode cX8_differ 99 = .ok (.invokevirtual 301, 3) := by decide +kernel
theorem dX8_differ_102 : decode cX8_differ 102 = .ok (.ifCond .eq 7, 3) := by decide +kernel
theorem dX8_differ_105 : decode cX8_differ 105 = .ok (.iconst 1, 1) := by decide +kernel
theorem dX8_differ_106 : decode cX8_differ 106 = .ok (.goto 4, 3) := by decide +kernel
theorem dX8_differ_109 : decode cX8_differ 109 = .ok (.iconst 0, 1) := by decide +kernel
theorem dX8_differ_110 : decode cX8_differ 110 = .ok (.iadd, 1) := by decide +kernel
theorem dX8_differ_111 : decode cX8_differ 111 = .ok (.istore 6, 2) := by decide +kernel
theorem dX8_differ_113 : decode cX8_differ 113 = .ok (.iinc 8 1, 3) := by decide +kernel
theorem dX8_differ_116 : decode cX8_differ 116 = .ok (.goto (-34), 3) := by decide +kernel
theorem dX8_differ_119 : decode cX8_differ 119 = .ok (.iinc 7 1, 3) := by decide +kernel
theorem dX8_differ_122 : decode cX8_differ 122 = .ok (.goto (-50), 3) := by decide +kernel
theorem dX8_differ_125 : decode cX8_differ 125 = .ok (.iload 6, 2) := by decide +kernel
theorem dX8_differ_127 : decode cX8_differ 127 = .ok (.ireturn, 1) := by decide +kernel
theorem dX8_first_0 : decode cX8_first 0 = .ok (.aload_n 0, 1) := by decide +kernel
theorem dX8_first_1 : decode cX8_first 1 = .ok (.iload_n 1, 1) := by decide +kernel
theorem dX8_first_2 : decode cX8_first 2 = .ok (.invokevirtual 286, 3) := by decide +kernel
theorem dX8_first_5 : decode cX8_first 5 = .ok (.ifCond .eq 23, 3) := by decide +kernel
theorem dX8_first_8 : decode cX8_first 8 = .ok (.aload_n 0, 1) := by decide +kernel
theorem dX8_first_9 : decode cX8_first 9 = .ok (.iload_n 2, 1) := by decide +kernel
theorem dX8_first_10 : decode cX8_first 10 = .ok (.invokevirtual 246, 3) := by decide +kernel
theorem dX8_first_13 : decode cX8_first 13 = .ok (.ifCond .eq 15, 3) := by decide +kernel
theorem dX8_first_16 : decode cX8_first 16 = .ok (.iload_n 3, 1) := by decide +kernel
theorem dX8_first_17 : decode cX8_first 17 = .ok (.i2l, 1) := by decide +kernel
theorem dX8_first_18 : decode cX8_first 18 = .ok (.lconst 0, 1) := by decide +kernel
theorem dX8_first_19 : decode cX8_first 19 = .ok (.ldc2_w 268, 3) := by decide +kernel
theorem dX8_first_22 : decode cX8_first 22 = .ok (.invokestatic 177, 3) := by decide +kernel
theorem dX8_first_25 : decode cX8_first 25 = .ok (.ifCond .ne 5, 3) := by decide +kernel
theorem dX8_first_28 : decode cX8_first 28 = .ok (.iconst (-1), 1) := by decide +kernel
theorem dX8_first_29 : decode cX8_first 29 = .ok (.ireturn, 1) := by decide +kernel
theorem dX8_first_30 : decode cX8_first 30 = .ok (.aload_n 0, 1) := by decide +kernel
theorem dX8_first_31 : decode cX8_first 31 = .ok (.iload_n 2, 1) := by decide +kernel
theorem dX8_first_32 : decode cX8_first 32 = .ok (.invokevirtual 265, 3) := by decide +kernel
theorem dX8_first_35 : decode cX8_first 35 = .ok (.istore 4, 2) := by decide +kernel
theorem dX8_first_37 : decode cX8_first 37 = .ok (.aload_n 0, 1) := by decide +kernel
theorem dX8_first_38 : decode cX8_first 38 = .ok (.iload 4, 2) := by decide +kernel
theorem dX8_first_40 : decode cX8_first 40 = .ok (.iload_n 3, 1) := by decide +kernel
theorem dX8_first_41 : decode cX8_first 41 = .ok (.invokevirtual 270, 3) := by decide +kernel
theorem dX8_first_44 : decode cX8_first 44 = .ok (.ifCond .eq 14, 3) := by decide +kernel
theorem dX8_first_47 : decode cX8_first 47 = .ok (.aload_n 0, 1) := by decide +kernel
theorem dX8_first_48 : decode cX8_first 48 = .ok (.iload 4, 2) := by decide +kernel
theorem dX8_first_50 : decode cX8_first 50 = .ok (.iload_n 1, 1) := by decide +kernel
theorem dX8_first_51 : decode cX8_first 51 = .ok (.iload_n 3, 1) := by decide +kernel
theorem dX8_first_52 : decode cX8_first 52 = .ok (.invokevirtual 305, 3) := by decide +kernel
theorem dX8_first_55 : decode cX8_first 55 = .ok (.goto 5, 3) := by decide +kernel
theorem dX8_first_58 : decode cX8_first 58 = .ok (.bipush (-2), 2) := by decide +kernel
theorem dX8_first_60 : decode cX8_first 60 = .ok (.ireturn, 1) := by decide +kernel
theorem dX8_cause_0 : decode cX8_cause 0 = .ok (.aload_n 0, 1) := by decide +kernel
theorem dX8_cause_1 : decode cX8_cause 1 = .ok (.iload_n 1, 1) := by decide +kernel
theorem dX8_cause_2 : decode cX8_cause 2 = .ok (.invokevirtual 286, 3) := by decide +kernel
theorem dX8_cause_5 : decode cX8_cause 5 = .ok (.ifCond .eq 11, 3) := by decide +kernel
theorem dX8_cause_8 : decode cX8_cause 8 = .ok (.aload_n 0, 1) := by decide +kernel
theorem dX8_cause_9 : decode cX8_cause 9 = .ok (.iload_n 2, 1) := by decide +kernel
theorem dX8_cause_10 : decode cX8_cause 10 = .ok (.invokevirtual 246, 3) := by decide +kernel
theorem dX8_cause_13 : decode cX8_cause 13 = .ok (.ifCond .ne 5, 3) := by decide +kernel
theorem dX8_cause_16 : decode cX8_cause 16 = .ok (.iconst (-1), 1) := by decide +kernel
theorem dX8_cause_17 : decode cX8_cause 17 = .ok (.ireturn, 1) := by decide +kernel
theorem dX8_cause_18 : decode cX8_cause 18 = .ok (.aload_n 0, 1) := by decide +kernel
theorem dX8_cause_19 : decode cX8_cause 19 = .ok (.iload_n 2, 1) := by decide +kernel
theorem dX8_cause_20 : decode cX8_cause 20 = .ok (.invokevirtual 265, 3) := by decide +kernel
theorem dX8_cause_23 : decode cX8_cause 23 = .ok (.istore 5, 2) := by decide +kernel
theorem dX8_cause_25 : decode cX8_cause 25 = .ok (.aload_n 0, 1) := by decide +kernel
theorem dX8_cause_26 : decode cX8_cause 26 = .ok (.iload 5, 2) := by decide +kernel
theorem dX8_cause_28 : decode cX8_cause 28 = .ok (.iload_n 3, 1) := by decide +kernel
theorem dX8_cause_29 : decode cX8_cause 29 = .ok (.iload 4, 2) := by decide +kernel
theorem dX8_cause_31 : decode cX8_cause 31 = .ok (.invokevirtual 118, 3) := by decide +kernel
theorem dX8_cause_34 : decode cX8_cause 34 = .ok (.istore 6, 2) := by decide +kernel
theorem dX8_cause_36 : decode cX8_cause 36 = .ok (.aload_n 0, 1) := by decide +kernel
theorem dX8_cause_37 : decode cX8_cause 37 = .ok (.getfield 104, 3) := by decide +kernel
theorem dX8_cause_40 : decode cX8_cause 40 = .ok (.ifCond .eq 6, 3) := by decide +kernel
theorem dX8_cause_43 : decode cX8_cause 43 = .ok (.bipush (-2), 2) := by decide +kernel
theorem dX8_cause_45 : decode cX8_cause 45 = .ok (.ireturn, 1) := by decide +kernel
theorem dX8_cause_46 : decode cX8_cause 46 = .ok (.iconst 1, 1) := by decide +kernel
theorem dX8_cause_47 : decode cX8_cause 47 = .ok (.istore 7, 2) := by decide +kernel
theorem dX8_cause_49 : decode cX8_cause 49 = .ok (.iconst 0, 1) := by decide +kernel
theorem dX8_cause_50 : decode cX8_cause 50 = .ok (.istore 8, 2) := by decide +kernel
theorem dX8_cause_52 : decode cX8_cause 52 = .ok (.iload 8, 2) := by decide +kernel
theorem dX8_cause_54 : decode cX8_cause 54 = .ok (.aload_n 0, 1) := by decide +kernel
theorem dX8_cause_55 : decode cX8_cause 55 = .ok (.getfield 62, 3) := by decide +kernel
theorem dX8_cause_58 : decode cX8_cause 58 = .ok (.iload_n 1, 1) := by decide +kernel
theorem dX8_cause_59 : decode cX8_cause 59 = .ok (.iaload, 1) := by decide +kernel
theorem dX8_cause_60 : decode cX8_cause 60 = .ok (.if_icmp .ge 69, 3) := by decide +kernel
theorem dX8_cause_63 : decode cX8_cause 63 = .ok (.aload_n 0, 1) := by decide +kernel
theorem dX8_cause_64 : decode cX8_cause 64 = .ok (.iload 5, 2) := by decide +kernel
theorem dX8_cause_66 : decode cX8_cause 66 = .ok (.iload_n 1, 1) := by decide +kernel
theorem dX8_cause_67 : decode cX8_cause 67 = .ok (.iload 8, 2) := by decide +kernel
theorem dX8_cause_69 : decode cX8_cause 69 = .ok (.invokevirtual 172, 3) := by decide +kernel
theorem dX8_cause_72 : decode cX8_cause 72 = .ok (.istore 5, 2) := by decide +kernel
theorem dX8_cause_74 : decode cX8_cause 74 = .ok (.aload_n 0, 1) := by decide +kernel
theorem dX8_cause_75 : decode cX8_cause 75 = .ok (.iload 5, 2) := by decide +kernel
theorem dX8_cause_77 : decode cX8_cause 77 = .ok (.iload_n 3, 1) := by decide +kernel
theorem dX8_cause_78 : decode cX8_cause 78 = .ok (.iload 4, 2) := by decide +kernel
theorem dX8_cause_80 : decode cX8_cause 80 = .ok (.invokevirtual 118, 3) := by decide +kernel
theorem dX8_cause_83 : decode cX8_cause 83 = .ok (.istore 9, 2) := by decide +kernel
theorem dX8_cause_85 : decode cX8_cause 85 = .ok (.aload_n 0, 1) := by decide +kernel
theorem dX8_cause_86 : decode cX8_cause 86 = .ok (.getfield 104, 3) := by decide +kernel
theorem dX8_cause_89 : decode cX8_cause 89 = .ok (.ifCond .ne 14, 3) := by decide +kernel
theorem dX8_cause_92 : decode cX8_cause 92 = .ok (.iload 9, 2) := by decide +kernel
theorem dX8_cause_94 : decode cX8_cause 94 = .ok (.iload 6, 2) := by decide +kernel
theorem dX8_cause_96 : decode cX8_cause 96 = .ok (.if_icmp .ne 7, 3) := by decide +kernel
theorem dX8_cause_99 : decode cX8_cause 99 = .ok (.iconst 1, 1) := by decide +kernel
theorem dX8_cause_100 : decode cX8_cause 100 = .ok (.goto 4, 3) := by decide +kernel
theorem dX8_cause_103 : decode cX8_cause 103 = .ok (.iconst 0, 1) := by decide +kernel
theorem dX8_cause_104 : decode cX8_cause 104 = .ok (.istore 10, 2) := by decide +kernel
theorem dX8_cause_106 : decode cX8_cause 106 = .ok (.iload 7, 2) := by decide +kernel
theorem dX8_cause_108 : decode cX8_cause 108 = .ok (.ifCond .eq 11, 3) := by decide +kernel
theorem dX8_cause_111 : decode cX8_cause 111 = .ok (.iload 10, 2) := by decide +kernel
theorem dX8_cause_113 : decode cX8_cause 113 = .ok (.ifCond .ne 6, 3) := by decide +kernel
theorem dX8_cause_116 : decode cX8_cause 116 = .ok (.iload 8, 2) := by decide +kernel
theorem dX8_cause_118 : decode cX8_cause 118 = .ok (.ireturn, 1) := by decide +kernel
theorem dX8_cause_119 : decode cX8_cause 119 = .ok (.iload 10, 2) := by decide +kernel
theorem dX8_cause_121 : decode cX8_cause 121 = .ok (.istore 7, 2) := by decide +kernel
theorem dX8_cause_123 : decode cX8_cause 123 = .ok (.iinc 8 1, 3) := by decide +kernel
theorem dX8_cause_126 : decode cX8_cause 126 = .ok (.goto (-74), 3) := by decide +kernel
theorem dX8_cause_129 : decode cX8_cause 129 = .ok (.bipush (-2), 2) := by decide +kernel
theorem dX8_cause_131 : decode cX8_cause 131 = .ok (.ireturn, 1) := by decide +kernel
theorem dX8_remember_0 : decode cX8_remember 0 = .ok (.aload_n 0, 1) := by decide +kernel
theorem dX8_remember_1 : decode cX8_remember 1 = .ok (.aload_n 0, 1) := by decide +kernel
theorem dX8_remember_2 : decode cX8_remember 2 = .ok (.getfield 185, 3) := by decide +kernel
theorem dX8_remember_5 : decode cX8_remember 5 = .ok (.putfield 308, 3) := by decide +kernel
theorem dX8_remember_8 : decode cX8_remember 8 = .ok (.iconst 0, 1) := by decide +kernel
theorem dX8_remember_9 : decode cX8_remember 9 = .ok (.istore_n 1, 1) := by decide +kernel
theorem dX8_remember_10 : decode cX8_remember 10 = .ok (.iload_n 1, 1) := by decide +kernel
theorem dX8_remember_11 : decode cX8_remember 11 = .ok (.aload_n 0, 1) := by decide +kernel
theorem dX8_remember_12 : decode cX8_remember 12 = .ok (.getfield 185, 3) := by decide +kernel
theorem dX8_remember_15 : decode cX8_remember 15 = .ok (.if_icmp .ge 33, 3) := by decide +kernel
theorem dX8_remember_18 : decode cX8_remember 18 = .ok (.aload_n 0, 1) := by decide +kernel
theorem dX8_remember_19 : decode cX8_remember 19 = .ok (.getfield 84, 3) := by decide +kernel
theorem dX8_remember_22 : decode cX8_remember 22 = .ok (.iload_n 1, 1) := by decide +kernel
theorem dX8_remember_23 : decode cX8_remember 23 = .ok (.aload_n 0, 1) := by decide +kernel
theorem dX8_remember_24 : decode cX8_remember 24 = .ok (.getfield 37, 3) := by decide +kernel
theorem dX8_remember_27 : decode cX8_remember 27 = .ok (.iload_n 1, 1) := by decide +kernel
theorem dX8_remember_28 : decode cX8_remember 28 = .ok (.iaload, 1) := by decide +kernel
theorem dX8_remember_29 : decode cX8_remember 29 = .ok (.iastore, 1) := by decide +kernel
theorem dX8_remember_30 : decode cX8_remember 30 = .ok (.aload_n 0, 1) := by decide +kernel
theorem dX8_remember_31 : decode cX8_remember 31 = .ok (.getfield 87, 3) := by decide +kernel
theorem dX8_remember_34 : decode cX8_remember 34 = .ok (.iload_n 1, 1) := by decide +kernel
theorem dX8_remember_35 : decode cX8_remember 35 = .ok (.aload_n 0, 1) := by decide +kernel
theorem dX8_remember_36 : decode cX8_remember 36 = .ok (.getfield 40, 3) := by decide +kernel
theorem dX8_remember_39 : decode cX8_remember 39 = .ok (.iload_n 1, 1) := by decide +kernel
theorem dX8_remember_40 : decode cX8_remember 40 = .ok (.iaload, 1) := by decide +kernel
theorem dX8_remember_41 : decode cX8_remember 41 = .ok (.iastore, 1) := by decide +kernel
theorem dX8_remember_42 : decode cX8_remember 42 = .ok (.iinc 1 1, 3) := by decide +kernel
theorem dX8_remember_45 : decode cX8_remember 45 = .ok (.goto (-35), 3) := by decide +kernel
theorem dX8_remember_48 : decode cX8_remember 48 = .ok (.return_, 1) := by decide +kernel
theorem dX8_recall_0 : decode cX8_recall 0 = .ok (.aload_n 0, 1) := by decide +kernel
theorem dX8_recall_1 : decode cX8_recall 1 = .ok (.aload_n 0, 1) := by decide +kernel
theorem dX8_recall_2 : decode cX8_recall 2 = .ok (.getfield 308, 3) := by decide +kernel
theorem dX8_recall_5 : decode cX8_recall 5 = .ok (.putfield 185, 3) := by decide +kernel
theorem dX8_recall_8 : decode cX8_recall 8 = .ok (.iconst 0, 1) := by decide +kernel
theorem dX8_recall_9 : decode cX8_recall 9 = .ok (.istore_n 1, 1) := by decide +kernel
theorem dX8_recall_10 : decode cX8_recall 10 = .ok (.iload_n 1, 1) := by decide +kernel
theorem dX8_recall_11 : decode cX8_recall 11 = .ok (.aload_n 0, 1) := by decide +kernel
theorem dX8_recall_12 : decode cX8_recall 12 = .ok (.getfield 308, 3) := by decide +kernel
theorem dX8_recall_15 : decode cX8_recall 15 = .ok (.if_icmp .ge 33, 3) := by decide +kernel
theorem dX8_recall_18 : decode cX8_recall 18 = .ok (.aload_n 0, 1) := by decide +kernel
theorem dX8_recall_19 : decode cX8_recall 19 = .ok (.getfield 37, 3) := by decide +kernel
theorem dX8_recall_22 : decode cX8_recall 22 = .ok (.iload_n 1, 1) := by decide +kernel
theorem dX8_recall_23 : decode cX8_recall 23 = .ok (.aload_n 0, 1) := by decide +kernel
theorem dX8_recall_24 : decode cX8_recall 24 = .ok (.getfield 84, 3) := by decide +kernel
theorem dX8_recall_27 : decode cX8_recall 27 = .ok (.iload_n 1, 1) := by decide +kernel
theorem dX8_recall_28 : decode cX8_recall 28 = .ok (.iaload, 1) := by decide +kernel
theorem dX8_recall_29 : decode cX8_recall 29 = .ok (.iastore, 1) := by decide +kernel
theorem dX8_recall_30 : decode cX8_recall 30 = .ok (.aload_n 0, 1) := by decide +kernel
theorem dX8_recall_31 : decode cX8_recall 31 = .ok (.getfield 40, 3) := by decide +kernel
theorem dX8_recall_34 : decode cX8_recall 34 = .ok (.iload_n 1, 1) := by decide +kernel
theorem dX8_recall_35 : decode cX8_recall 35 = .ok (.aload_n 0, 1) := by decide +kernel
theorem dX8_recall_36 : decode cX8_recall 36 = .ok (.getfield 87, 3) := by decide +kernel
theorem dX8_recall_39 : decode cX8_recall 39 = .ok (.iload_n 1, 1) := by decide +kernel
theorem dX8_recall_40 : decode cX8_recall 40 = .ok (.iaload, 1) := by decide +kernel
theorem dX8_recall_41 : decode cX8_recall 41 = .ok (.iastore, 1) := by decide +kernel
theorem dX8_recall_42 : decode cX8_recall 42 = .ok (.iinc 1 1, 3) := by decide +kernel
theorem dX8_recall_45 : decode cX8_recall 45 = .ok (.goto (-35), 3) := by decide +kernel
theorem dX8_recall_48 : decode cX8_recall 48 = .ok (.return_, 1) := by decide +kernel
theorem dX8_isShown_0 : decode cX8_isShown 0 = .ok (.aload_n 0, 1) := by decide +kernel
theorem dX8_isShown_1 : decode cX8_isShown 1 = .ok (.invokevirtual 202, 3) := by decide +kernel
theorem dX8_isShown_4 : decode cX8_isShown 4 = .ok (.istore_n 3, 1) := by decide +kernel
theorem dX8_isShown_5 : decode cX8_isShown 5 = .ok (.aload_n 0, 1) := by decide +kernel
theorem dX8_isShown_6 : decode cX8_isShown 6 = .ok (.iload_n 3, 1) := by decide +kernel
theorem dX8_isShown_7 : decode cX8_isShown 7 = .ok (.iload_n 2, 1) := by decide +kernel
theorem dX8_isShown_8 : decode cX8_isShown 8 = .ok (.invokevirtual 270, 3) := by decide +kernel
theorem dX8_isShown_11 : decode cX8_isShown 11 = .ok (.ifCond .eq 19, 3) := by decide +kernel
theorem dX8_isShown_14 : decode cX8_isShown 14 = .ok (.aload_n 0, 1) := by decide +kernel
theorem dX8_isShown_15 : decode cX8_isShown 15 = .ok (.iload_n 3, 1) := by decide +kernel
theorem dX8_isShown_16 : decode cX8_isShown 16 = .ok (.iload_n 1, 1) := by decide +kernel
theorem dX8_isShown_17 : decode cX8_isShown 17 = .ok (.iload_n 2, 1) := by decide +kernel
theorem dX8_isShown_18 : decode cX8_isShown 18 = .ok (.invokevirtual 305, 3) := by decide +kernel
theorem dX8_isShown_21 : decode cX8_isShown 21 = .ok (.bipush (-5), 2) := by decide +kernel
theorem dX8_isShown_23 : decode cX8_isShown 23 = .ok (.if_icmp .eq 7, 3) := by decide +kernel
theorem dX8_isShown_26 : decode cX8_isShown 26 = .ok (.iconst 1, 1) := by decide +kernel
theorem dX8_isShown_27 : decode cX8_isShown 27 = .ok (.goto 4, 3) := by decide +kernel
theorem dX8_isShown_30 : decode cX8_isShown 30 = .ok (.iconst 0, 1) := by decide +kernel
theorem dX8_isShown_31 : decode cX8_isShown 31 = .ok (.ireturn, 1) := by decide +kernel
theorem dX8_step_0 : decode cX8_step 0 = .ok (.aload_n 0, 1) := by decide +kernel
theorem dX8_step_1 : decode cX8_step 1 = .ok (.iload_n 1, 1) := by decide +kernel
theorem dX8_step_2 : decode cX8_step 2 = .ok (.invokevirtual 262, 3) := by decide +kernel
theorem dX8_step_5 : decode cX8_step 5 = .ok (.istore_n 3, 1) := by decide +kernel
theorem dX8_step_6 : decode cX8_step 6 = .ok (.iload_n 2, 1) := by decide +kernel
theorem dX8_step_7 : decode cX8_step 7 = .ok (.iconst 3, 1) := by decide +kernel
theorem dX8_step_8 : decode cX8_step 8 = .ok (.if_icmp .ne 46, 3) := by decide +kernel
theorem dX8_step_11 : decode cX8_step 11 = .ok (.aload_n 0, 1) := by decide +kernel
theorem dX8_step_12 : decode cX8_step 12 = .ok (.getfield 37, 3) := by decide +kernel
theorem dX8_step_15 : decode cX8_step 15 = .ok (.iload_n 1, 1) := by decide +kernel
theorem dX8_step_16 : decode cX8_step 16 = .ok (.iaload, 1) := by decide +kernel
theorem dX8_step_17 : decode cX8_step 17 = .ok (.ifCond .ne 14, 3) := by decide +kernel
theorem dX8_step_20 : decode cX8_step 20 = .ok (.aload_n 0, 1) := by decide +kernel
theorem dX8_step_21 : decode cX8_step 21 = .ok (.getfield 40, 3) := by decide +kernel
theorem dX8_step_24 : decode cX8_step 24 = .ok (.iload_n 1, 1) := by decide +kernel
theorem dX8_step_25 : decode cX8_step 25 = .ok (.iaload, 1) := by decide +kernel
theorem dX8_step_26 : decode cX8_step 26 = .ok (.ifCond .ne 5, 3) := by decide +kernel
theorem dX8_step_29 : decode cX8_step 29 = .ok (.iconst 0, 1) := by decide +kernel
theorem dX8_step_30 : decode cX8_step 30 = .ok (.ireturn, 1) := by decide +kernel
theorem dX8_step_31 : decode cX8_step 31 = .ok (.aload_n 0, 1) := by decide +kernel
theorem dX8_step_32 : decode cX8_step 32 = .ok (.getfield 56, 3) := by decide +kernel
theorem dX8_step_35 : decode cX8_step 35 = .ok (.iconst 0, 1) := by decide +kernel
theorem dX8_step_36 : decode cX8_step 36 = .ok (.iconst 0, 1) := by decide +kernel
theorem dX8_step_37 : decode cX8_step 37 = .ok (.iastore, 1) := by decide +kernel
theorem dX8_step_38 : decode cX8_step 38 = .ok (.aload_n 0, 1) := by decide +kernel
theorem dX8_step_39 : decode cX8_step 39 = .ok (.getfield 59, 3) := by decide +kernel
theorem dX8_step_42 : decode cX8_step 42 = .ok (.iconst 0, 1) := by decide +kernel
theorem dX8_step_43 : decode cX8_step 43 = .ok (.iconst 0, 1) := by decide +kernel
theorem dX8_step_44 : decode cX8_step 44 = .ok (.iastore, 1) := by decide +kernel
theorem dX8_step_45 : decode cX8_step 45 = .ok (.aload_n 0, 1) := by decide +kernel
theorem dX8_step_46 : decode cX8_step 46 = .ok (.iload_n 1, 1) := by decide +kernel
theorem dX8_step_47 : decode cX8_step 47 = .ok (.iload_n 3, 1) := by decide +kernel
theorem dX8_step_48 : decode cX8_step 48 = .ok (.iconst 1, 1) := by decide +kernel
theorem dX8_step_49 : decode cX8_step 49 = .ok (.invokevirtual 279, 3) := by decide +kernel
theorem dX8_step_52 : decode cX8_step 52 = .ok (.iconst 1, 1) := by decide +kernel
theorem dX8_step_53 : decode cX8_step 53 = .ok (.ireturn, 1) := by decide +kernel
theorem dX8_step_54 : decode cX8_step 54 = .ok (.iload_n 2, 1) := by decide +kernel
theorem dX8_step_55 : decode cX8_step 55 = .ok (.aload_n 0, 1) := by decide +kernel
theorem dX8_step_56 : decode cX8_step 56 = .ok (.getfield 37, 3) := by decide +kernel
theorem dX8_step_59 : decode cX8_step 59 = .ok (.iload_n 1, 1) := by decide +kernel
theorem dX8_step_60 : decode cX8_step 60 = .ok (.iaload, 1) := by decide +kernel
theorem dX8_step_61 : decode cX8_step 61 = .ok (.invokestatic 191, 3) := by decide +kernel
theorem dX8_step_64 : decode cX8_step 64 = .ok (.if_icmp .lt 5, 3) := by decide +kernel
theorem dX8_step_67 : decode cX8_step 67 = .ok (.iconst 0, 1) := by decide +kernel
theorem dX8_step_68 : decode cX8_step 68 = .ok (.ireturn, 1) := by decide +kernel
theorem dX8_step_69 : decode cX8_step 69 = .ok (.iload_n 1, 1) := by decide +kernel
theorem dX8_step_70 : decode cX8_step 70 = .ok (.iconst 1, 1) := by decide +kernel
theorem dX8_step_71 : decode cX8_step 71 = .ok (.iadd, 1) := by decide +kernel
theorem dX8_step_72 : decode cX8_step 72 = .ok (.istore 4, 2) := by decide +kernel
theorem dX8_step_74 : decode cX8_step 74 = .ok (.iconst 0, 1) := by decide +kernel
theorem dX8_step_75 : decode cX8_step 75 = .ok (.istore 5, 2) := by decide +kernel
theorem dX8_step_77 : decode cX8_step 77 = .ok (.iload 5, 2) := by decide +kernel
theorem dX8_step_79 : decode cX8_step 79 = .ok (.iload_n 2, 1) := by decide +kernel
theorem dX8_step_80 : decode cX8_step 80 = .ok (.if_icmp .ge 17, 3) := by decide +kernel
theorem dX8_step_83 : decode cX8_step 83 = .ok (.aload_n 0, 1) := by decide +kernel
theorem dX8_step_84 : decode cX8_step 84 = .ok (.iload 4, 2) := by decide +kernel
theorem dX8_step_86 : decode cX8_step 86 = .ok (.invokevirtual 262, 3) := by decide +kernel
theorem dX8_step_89 : decode cX8_step 89 = .ok (.istore 4, 2) := by decide +kernel
theorem dX8_step_91 : decode cX8_step 91 = .ok (.iinc 5 1, 3) := by decide +kernel
theorem dX8_step_94 : decode cX8_step 94 = .ok (.goto (-17), 3) := by decide +kernel
theorem dX8_step_97 : decode cX8_step 97 = .ok (.aload_n 0, 1) := by decide +kernel
theorem dX8_step_98 : decode cX8_step 98 = .ok (.iload 4, 2) := by decide +kernel
theorem dX8_step_100 : decode cX8_step 100 = .ok (.invokevirtual 262, 3) := by decide +kernel
theorem dX8_step_103 : decode cX8_step 103 = .ok (.istore 5, 2) := by decide +kernel
theorem dX8_step_105 : decode cX8_step 105 = .ok (.aload_n 0, 1) := by decide +kernel
theorem dX8_step_106 : decode cX8_step 106 = .ok (.iload 4, 2) := by decide +kernel
theorem dX8_step_108 : decode cX8_step 108 = .ok (.iload 5, 2) := by decide +kernel
theorem dX8_step_110 : decode cX8_step 110 = .ok (.invokevirtual 276, 3) := by decide +kernel
theorem dX8_step_113 : decode cX8_step 113 = .ok (.aload_n 0, 1) := by decide +kernel
theorem dX8_step_114 : decode cX8_step 114 = .ok (.iload_n 1, 1) := by decide +kernel
theorem dX8_step_115 : decode cX8_step 115 = .ok (.iload_n 3, 1) := by decide +kernel
theorem dX8_step_116 : decode cX8_step 116 = .ok (.iload 5, 2) := by decide +kernel
theorem dX8_step_118 : decode cX8_step 118 = .ok (.iload 4, 2) := by decide +kernel
theorem dX8_step_120 : decode cX8_step 120 = .ok (.isub, 1) := by decide +kernel
theorem dX8_step_121 : decode cX8_step 121 = .ok (.invokevirtual 279, 3) := by decide +kernel
theorem dX8_step_124 : decode cX8_step 124 = .ok (.iconst 1, 1) := by decide +kernel
theorem dX8_step_125 : decode cX8_step 125 = .ok (.ireturn, 1) := by decide +kernel
theorem dX8_makeSmaller_0 : decode cX8_makeSmaller 0 = .ok (.aload_n 0, 1) := by decide +kernel
theorem dX8_makeSmaller_1 : decode cX8_makeSmaller 1 = .ok (.invokevirtual 311, 3) := by decide +kernel
theorem dX8_makeSmaller_4 : decode cX8_makeSmaller 4 = .ok (.iconst 0, 1) := by decide +kernel
theorem dX8_makeSmaller_5 : decode cX8_makeSmaller 5 = .ok (.istore_n 3, 1) := by decide +kernel
theorem dX8_makeSmaller_6 : decode cX8_makeSmaller 6 = .ok (.iload_n 3, 1) := by decide +kernel
theorem dX8_makeSmaller_7 : decode cX8_makeSmaller 7 = .ok (.aload_n 0, 1) := by decide +kernel
theorem dX8_makeSmaller_8 : decode cX8_makeSmaller 8 = .ok (.getfield 308, 3) := by decide +kernel
theorem dX8_makeSmaller_11 : decode cX8_makeSmaller 11 = .ok (.if_icmp .ge 49, 3) := by decide +kernel
theorem dX8_makeSmaller_14 : decode cX8_makeSmaller 14 = .ok (.iconst 0, 1) := by decide +kernel
theorem dX8_makeSmaller_15 : decode cX8_makeSmaller 15 = .ok (.istore 4, 2) := by decide +kernel
theorem dX8_makeSmaller_17 : decode cX8_makeSmaller 17 = .ok (.iload 4, 2) := by decide +kernel
theorem dX8_makeSmaller_19 : decode cX8_makeSmaller 19 = .ok (.iconst 4, 1) := by decide +kernel
theorem dX8_makeSmaller_20 : decode cX8_makeSmaller 20 = .ok (.if_icmp .ge 34, 3) := by decide +kernel
theorem dX8_makeSmaller_23 : decode cX8_makeSmaller 23 = .ok (.aload_n 0, 1) := by decide +kernel
theorem dX8_makeSmaller_24 : decode cX8_makeSmaller 24 = .ok (.iload_n 3, 1) := by decide +kernel
theorem dX8_makeSmaller_25 : decode cX8_makeSmaller 25 = .ok (.iload 4, 2) := by decide +kernel
theorem dX8_makeSmaller_27 : decode cX8_makeSmaller 27 = .ok (.invokevirtual 314, 3) := by decide +kernel
theorem dX8_makeSmaller_30 : decode cX8_makeSmaller 30 = .ok (.ifCond .eq 14, 3) := by decide +kernel
theorem dX8_makeSmaller_33 : decode cX8_makeSmaller 33 = .ok (.aload_n 0, 1) := by decide +kernel
theorem dX8_makeSmaller_34 : decode cX8_makeSmaller 34 = .ok (.iload_n 1, 1) := by decide +kernel
theorem dX8_makeSmaller_35 : decode cX8_makeSmaller 35 = .ok (.iload_n 2, 1) := by decide +kernel
theorem dX8_makeSmaller_36 : decode cX8_makeSmaller 36 = .ok (.invokevirtual 317, 3) := by decide +kernel
theorem dX8_makeSmaller_39 : decode cX8_makeSmaller 39 = .ok (.ifCond .eq 5, 3) := by decide +kernel
theorem dX8_makeSmaller_42 : decode cX8_makeSmaller 42 = .ok (.iconst 1, 1) := by decide +kernel
theorem dX8_makeSmaller_43 : decode cX8_makeSmaller 43 = .ok (.ireturn, 1) := by decide +kernel
theorem dX8_makeSmaller_44 : decode cX8_makeSmaller 44 = .ok (.aload_n 0, 1) := by decide +kernel
theorem dX8_makeSmaller_45 : decode cX8_makeSmaller 45 = .ok (.invokevirtual 320, 3) := by decide +kernel
theorem dX8_makeSmaller_48 : decode cX8_makeSmaller 48 = .ok (.iinc 4 1, 3) := by decide +kernel
theorem dX8_makeSmaller_51 : decode cX8_makeSmaller 51 = .ok (.goto (-34), 3) := by decide +kernel
theorem dX8_makeSmaller_54 : decode cX8_makeSmaller 54 = .ok (.iinc 3 1, 3) := by decide +kernel
theorem dX8_makeSmaller_57 : decode cX8_makeSmaller 57 = .ok (.goto (-51), 3) := by decide +kernel
theorem dX8_makeSmaller_60 : decode cX8_makeSmaller 60 = .ok (.iconst 0, 1) := by decide +kernel
theorem dX8_makeSmaller_61 : decode cX8_makeSmaller 61 = .ok (.ireturn, 1) := by decide +kernel
theorem dX8_small_0 : decode cX8_small 0 = .ok (.aload_n 0, 1) := by decide +kernel
theorem dX8_small_1 : decode cX8_small 1 = .ok (.iload_n 1, 1) := by decide +kernel
theorem dX8_small_2 : decode cX8_small 2 = .ok (.invokevirtual 286, 3) := by decide +kernel
theorem dX8_small_5 : decode cX8_small 5 = .ok (.ifCond .eq 23, 3) := by decide +kernel
theorem dX8_small_8 : decode cX8_small 8 = .ok (.aload_n 0, 1) := by decide +kernel
theorem dX8_small_9 : decode cX8_small 9 = .ok (.iload_n 2, 1) := by decide +kernel
theorem dX8_small_10 : decode cX8_small 10 = .ok (.invokevirtual 246, 3) := by decide +kernel
theorem dX8_small_13 : decode cX8_small 13 = .ok (.ifCond .eq 15, 3) := by decide +kernel
theorem dX8_small_16 : decode cX8_small 16 = .ok (.iload_n 3, 1) := by decide +kernel
theorem dX8_small_17 : decode cX8_small 17 = .ok (.i2l, 1) := by decide +kernel
theorem dX8_small_18 : decode cX8_small 18 = .ok (.lconst 0, 1) := by decide +kernel
theorem dX8_small_19 : decode cX8_small 19 = .ok (.ldc2_w 268, 3) := by decide +kernel
theorem dX8_small_22 : decode cX8_small 22 = .ok (.invokestatic 177, 3) := by decide +kernel
theorem dX8_small_25 : decode cX8_small 25 = .ok (.ifCond .ne 5, 3) := by decide +kernel
theorem dX8_small_28 : decode cX8_small 28 = .ok (.iconst (-1), 1) := by decide +kernel
theorem dX8_small_29 : decode cX8_small 29 = .ok (.ireturn, 1) := by decide +kernel
theorem dX8_small_30 : decode cX8_small 30 = .ok (.aload_n 0, 1) := by decide +kernel
theorem dX8_small_31 : decode cX8_small 31 = .ok (.iload_n 2, 1) := by decide +kernel
theorem dX8_small_32 : decode cX8_small 32 = .ok (.invokevirtual 198, 3) := by decide +kernel
theorem dX8_small_35 : decode cX8_small 35 = .ok (.aload_n 0, 1) := by decide +kernel
theorem dX8_small_36 : decode cX8_small 36 = .ok (.iload_n 1, 1) := by decide +kernel
theorem dX8_small_37 : decode cX8_small 37 = .ok (.iload_n 3, 1) := by decide +kernel
theorem dX8_small_38 : decode cX8_small 38 = .ok (.invokevirtual 317, 3) := by decide +kernel
theorem dX8_small_41 : decode cX8_small 41 = .ok (.ifCond .ne 6, 3) := by decide +kernel
theorem dX8_small_44 : decode cX8_small 44 = .ok (.bipush (-2), 2) := by decide +kernel
theorem dX8_small_46 : decode cX8_small 46 = .ok (.ireturn, 1) := by decide +kernel
theorem dX8_small_47 : decode cX8_small 47 = .ok (.aload_n 0, 1) := by decide +kernel
theorem dX8_small_48 : decode cX8_small 48 = .ok (.iconst 0, 1) := by decide +kernel
theorem dX8_small_49 : decode cX8_small 49 = .ok (.putfield 80, 3) := by decide +kernel
theorem dX8_small_52 : decode cX8_small 52 = .ok (.aload_n 0, 1) := by decide +kernel
theorem dX8_small_53 : decode cX8_small 53 = .ok (.iload_n 1, 1) := by decide +kernel
theorem dX8_small_54 : decode cX8_small 54 = .ok (.iload_n 3, 1) := by decide +kernel
theorem dX8_small_55 : decode cX8_small 55 = .ok (.invokevirtual 323, 3) := by decide +kernel
theorem dX8_small_58 : decode cX8_small 58 = .ok (.ifCond .eq 16, 3) := by decide +kernel
theorem dX8_small_61 : decode cX8_small 61 = .ok (.aload_n 0, 1) := by decide +kernel
theorem dX8_small_62 : decode cX8_small 62 = .ok (.dup, 1) := by decide +kernel
theorem dX8_small_63 : decode cX8_small 63 = .ok (.getfield 80, 3) := by decide +kernel
theorem dX8_small_66 : decode cX8_small 66 = .ok (.iconst 1, 1) := by decide +kernel
theorem dX8_small_67 : decode cX8_small 67 = .ok (.iadd, 1) := by decide +kernel
theorem dX8_small_68 : decode cX8_small 68 = .ok (.putfield 80, 3) := by decide +kernel
theorem dX8_small_71 : decode cX8_small 71 = .ok (.goto (-19), 3) := by decide +kernel
theorem dX8_small_74 : decode cX8_small 74 = .ok (.aload_n 0, 1) := by decide +kernel
theorem dX8_small_75 : decode cX8_small 75 = .ok (.iload_n 2, 1) := by decide +kernel
theorem dX8_small_76 : decode cX8_small 76 = .ok (.invokevirtual 236, 3) := by decide +kernel
theorem dX8_small_79 : decode cX8_small 79 = .ok (.ireturn, 1) := by decide +kernel
theorem dX8_steps_0 : decode cX8_steps 0 = .ok (.aload_n 0, 1) := by decide +kernel
theorem dX8_steps_1 : decode cX8_steps 1 = .ok (.getfield 80, 3) := by decide +kernel
theorem dX8_steps_4 : decode cX8_steps 4 = .ok (.ireturn, 1) := by decide +kernel
theorem dX8_nthTree_0 : decode cX8_nthTree 0 = .ok (.aload_n 0, 1) := by decide +kernel
theorem dX8_nthTree_1 : decode cX8_nthTree 1 = .ok (.iconst 0, 1) := by decide +kernel
theorem dX8_nthTree_2 : decode cX8_nthTree 2 = .ok (.putfield 185, 3) := by decide +kernel
theorem dX8_nthTree_5 : decode cX8_nthTree 5 = .ok (.aload_n 0, 1) := by decide +kernel
theorem dX8_nthTree_6 : decode cX8_nthTree 6 = .ok (.iload_n 1, 1) := by decide +kernel
theorem dX8_nthTree_7 : decode cX8_nthTree 7 = .ok (.lload_n 2, 1) := by decide +kernel
theorem dX8_nthTree_8 : decode cX8_nthTree 8 = .ok (.invokevirtual 223, 3) := by decide +kernel
theorem dX8_nthTree_11 : decode cX8_nthTree 11 = .ok (.aload_n 0, 1) := by decide +kernel
theorem dX8_nthTree_12 : decode cX8_nthTree 12 = .ok (.invokevirtual 202, 3) := by decide +kernel
theorem dX8_nthTree_15 : decode cX8_nthTree 15 = .ok (.ireturn, 1) := by decide +kernel
theorem dX8_least_0 : decode cX8_least 0 = .ok (.aload_n 0, 1) := by decide +kernel
theorem dX8_least_1 : decode cX8_least 1 = .ok (.iload_n 1, 1) := by decide +kernel
theorem dX8_least_2 : decode cX8_least 2 = .ok (.iload_n 2, 1) := by decide +kernel
theorem dX8_least_3 : decode cX8_least 3 = .ok (.invokevirtual 289, 3) := by decide +kernel
theorem dX8_least_6 : decode cX8_least 6 = .ok (.ifCond .eq 15, 3) := by decide +kernel
theorem dX8_least_9 : decode cX8_least 9 = .ok (.iload_n 3, 1) := by decide +kernel
theorem dX8_least_10 : decode cX8_least 10 = .ok (.i2l, 1) := by decide +kernel
theorem dX8_least_11 : decode cX8_least 11 = .ok (.lconst 1, 1) := by decide +kernel
theorem dX8_least_12 : decode cX8_least 12 = .ok (.ldc2_w 208, 3) := by decide +kernel
theorem dX8_least_15 : decode cX8_least 15 = .ok (.invokestatic 177, 3) := by decide +kernel
theorem dX8_least_18 : decode cX8_least 18 = .ok (.ifCond .ne 7, 3) := by decide +kernel
theorem dX8_least_21 : decode cX8_least 21 = .ok (.ldc2_w 218, 3) := by decide +kernel
theorem dX8_least_24 : decode cX8_least 24 = .ok (.lreturn, 1) := by decide +kernel
theorem dX8_least_25 : decode cX8_least 25 = .ok (.aload_n 0, 1) := by decide +kernel
theorem dX8_least_26 : decode cX8_least 26 = .ok (.invokevirtual 220, 3) := by decide +kernel
theorem dX8_least_29 : decode cX8_least 29 = .ok (.iconst 1, 1) := by decide +kernel
theorem dX8_least_30 : decode cX8_least 30 = .ok (.istore 4, 2) := by decide +kernel
theorem dX8_least_32 : decode cX8_least 32 = .ok (.iload 4, 2) := by decide +kernel
theorem dX8_least_34 : decode cX8_least 34 = .ok (.iload_n 3, 1) := by decide +kernel
theorem dX8_least_35 : decode cX8_least 35 = .ok (.if_icmp .gt 62, 3) := by decide +kernel
theorem dX8_least_38 : decode cX8_least 38 = .ok (.lconst 0, 1) := by decide +kernel
theorem dX8_least_39 : decode cX8_least 39 = .ok (.lstore 5, 2) := by decide +kernel
theorem dX8_least_41 : decode cX8_least 41 = .ok (.lload 5, 2) := by decide +kernel
theorem dX8_least_43 : decode cX8_least 43 = .ok (.aload_n 0, 1) := by decide +kernel
theorem dX8_least_44 : decode cX8_least 44 = .ok (.getfield 43, 3) := by decide +kernel
theorem dX8_least_47 : decode cX8_least 47 = .ok (.iload 4, 2) := by decide +kernel
theorem dX8_least_49 : decode cX8_least 49 = .ok (.laload, 1) := by decide +kernel
theorem dX8_least_50 : decode cX8_least 50 = .ok (.lcmp, 1) := by decide +kernel
theorem dX8_least_51 : decode cX8_least 51 = .ok (.ifCond .ge 40, 3) := by decide +kernel
theorem dX8_least_54 : decode cX8_least 54 = .ok (.aload_n 0, 1) := by decide +kernel
theorem dX8_least_55 : decode cX8_least 55 = .ok (.aload_n 0, 1) := by decide +kernel
theorem dX8_least_56 : decode cX8_least 56 = .ok (.iload 4, 2) := by decide +kernel
theorem dX8_least_58 : decode cX8_least 58 = .ok (.lload 5, 2) := by decide +kernel
theorem dX8_least_60 : decode cX8_least 60 = .ok (.invokevirtual 326, 3) := by decide +kernel
theorem dX8_least_63 : decode cX8_least 63 = .ok (.iload_n 1, 1) := by decide +kernel
theorem dX8_least_64 : decode cX8_least 64 = .ok (.iload_n 2, 1) := by decide +kernel
theorem dX8_least_65 : decode cX8_least 65 = .ok (.invokevirtual 298, 3) := by decide +kernel
theorem dX8_least_68 : decode cX8_least 68 = .ok (.ifCond .le 14, 3) := by decide +kernel
theorem dX8_least_71 : decode cX8_least 71 = .ok (.ldc2_w 330, 3) := by decide +kernel
theorem dX8_least_74 : decode cX8_least 74 = .ok (.lload 5, 2) := by decide +kernel
theorem dX8_least_76 : decode cX8_least 76 = .ok (.lmul, 1) := by decide +kernel
theorem dX8_least_77 : decode cX8_least 77 = .ok (.iload 4, 2) := by decide +kernel
theorem dX8_least_79 : decode cX8_least 79 = .ok (.i2l, 1) := by decide +kernel
theorem dX8_least_80 : decode cX8_least 80 = .ok (.ladd, 1) := by decide +kernel
theorem dX8_least_81 : decode cX8_least 81 = .ok (.lreturn, 1) := by decide +kernel
theorem dX8_least_82 : decode cX8_least 82 = .ok (.lload 5, 2) := by decide +kernel
theorem dX8_least_84 : decode cX8_least 84 = .ok (.lconst 1, 1) := by decide +kernel
theorem dX8_least_85 : decode cX8_least 85 = .ok (.ladd, 1) := by decide +kernel
theorem dX8_least_86 : decode cX8_least 86 = .ok (.lstore 5, 2) := by decide +kernel
theorem dX8_least_88 : decode cX8_least 88 = .ok (.goto (-47), 3) := by decide +kernel
theorem dX8_least_91 : decode cX8_least 91 = .ok (.iinc 4 1, 3) := by decide +kernel
theorem dX8_least_94 : decode cX8_least 94 = .ok (.goto (-62), 3) := by decide +kernel
theorem dX8_least_97 : decode cX8_least 97 = .ok (.ldc2_w 332, 3) := by decide +kernel
theorem dX8_least_100 : decode cX8_least 100 = .ok (.lreturn, 1) := by decide +kernel
theorem dX8_shown_0 : decode cX8_shown 0 = .ok (.aload_n 0, 1) := by decide +kernel
theorem dX8_shown_1 : decode cX8_shown 1 = .ok (.iload_n 1, 1) := by decide +kernel
theorem dX8_shown_2 : decode cX8_shown 2 = .ok (.invokevirtual 286, 3) := by decide +kernel
theorem dX8_shown_5 : decode cX8_shown 5 = .ok (.ifCond .eq 38, 3) := by decide +kernel
theorem dX8_shown_8 : decode cX8_shown 8 = .ok (.iload_n 2, 1) := by decide +kernel
theorem dX8_shown_9 : decode cX8_shown 9 = .ok (.i2l, 1) := by decide +kernel
theorem dX8_shown_10 : decode cX8_shown 10 = .ok (.lconst 1, 1) := by decide +kernel
theorem dX8_shown_11 : decode cX8_shown 11 = .ok (.ldc2_w 208, 3) := by decide +kernel
theorem dX8_shown_14 : decode cX8_shown 14 = .ok (.invokestatic 177, 3) := by decide +kernel
theorem dX8_shown_17 : decode cX8_shown 17 = .ok (.ifCond .eq 26, 3) := by decide +kernel
theorem dX8_shown_20 : decode cX8_shown 20 = .ok (.iload_n 3, 1) := by decide +kernel
theorem dX8_shown_21 : decode cX8_shown 21 = .ok (.i2l, 1) := by decide +kernel
theorem dX8_shown_22 : decode cX8_shown 22 = .ok (.lconst 0, 1) := by decide +kernel
theorem dX8_shown_23 : decode cX8_shown 23 = .ok (.ldc2_w 251, 3) := by decide +kernel
theorem dX8_shown_26 : decode cX8_shown 26 = .ok (.invokestatic 177, 3) := by decide +kernel
theorem dX8_shown_29 : decode cX8_shown 29 = .ok (.ifCond .eq 14, 3) := by decide +kernel
theorem dX8_shown_32 : decode cX8_shown 32 = .ok (.iload 4, 2) := by decide +kernel
theorem dX8_shown_34 : decode cX8_shown 34 = .ok (.i2l, 1) := by decide +kernel
theorem dX8_shown_35 : decode cX8_shown 35 = .ok (.lconst 0, 1) := by decide +kernel
theorem dX8_shown_36 : decode cX8_shown 36 = .ok (.lconst 1, 1) := by decide +kernel
theorem dX8_shown_37 : decode cX8_shown 37 = .ok (.invokestatic 177, 3) := by decide +kernel
theorem dX8_shown_40 : decode cX8_shown 40 = .ok (.ifCond .ne 5, 3) := by decide +kernel
theorem dX8_shown_43 : decode cX8_shown 43 = .ok (.iconst (-1), 1) := by decide +kernel
theorem dX8_shown_44 : decode cX8_shown 44 = .ok (.ireturn, 1) := by decide +kernel
theorem dX8_shown_45 : decode cX8_shown 45 = .ok (.aload_n 0, 1) := by decide +kernel
theorem dX8_shown_46 : decode cX8_shown 46 = .ok (.invokevirtual 220, 3) := by decide +kernel
theorem dX8_shown_49 : decode cX8_shown 49 = .ok (.iconst 0, 1) := by decide +kernel
theorem dX8_shown_50 : decode cX8_shown 50 = .ok (.istore 5, 2) := by decide +kernel
theorem dX8_shown_52 : decode cX8_shown 52 = .ok (.lconst 0, 1) := by decide +kernel
theorem dX8_shown_53 : decode cX8_shown 53 = .ok (.lstore 6, 2) := by decide +kernel
theorem dX8_shown_55 : decode cX8_shown 55 = .ok (.lload 6, 2) := by decide +kernel
theorem dX8_shown_57 : decode cX8_shown 57 = .ok (.aload_n 0, 1) := by decide +kernel
theorem dX8_shown_58 : decode cX8_shown 58 = .ok (.getfield 43, 3) := by decide +kernel
theorem dX8_shown_61 : decode cX8_shown 61 = .ok (.iload_n 2, 1) := by decide +kernel
theorem dX8_shown_62 : decode cX8_shown 62 = .ok (.laload, 1) := by decide +kernel
theorem dX8_shown_63 : decode cX8_shown 63 = .ok (.lcmp, 1) := by decide +kernel
theorem dX8_shown_64 : decode cX8_shown 64 = .ok (.ifCond .ge 62, 3) := by decide +kernel
theorem dX8_shown_67 : decode cX8_shown 67 = .ok (.aload_n 0, 1) := by decide +kernel
theorem dX8_shown_68 : decode cX8_shown 68 = .ok (.iload_n 2, 1) := by decide +kernel
theorem dX8_shown_69 : decode cX8_shown 69 = .ok (.lload 6, 2) := by decide +kernel
theorem dX8_shown_71 : decode cX8_shown 71 = .ok (.invokevirtual 326, 3) := by decide +kernel
theorem dX8_shown_74 : decode cX8_shown 74 = .ok (.istore 8, 2) := by decide +kernel
theorem dX8_shown_76 : decode cX8_shown 76 = .ok (.aload_n 0, 1) := by decide +kernel
theorem dX8_shown_77 : decode cX8_shown 77 = .ok (.iload 8, 2) := by decide +kernel
theorem dX8_shown_79 : decode cX8_shown 79 = .ok (.iload_n 3, 1) := by decide +kernel
theorem dX8_shown_80 : decode cX8_shown 80 = .ok (.invokevirtual 270, 3) := by decide +kernel
theorem dX8_shown_83 : decode cX8_shown 83 = .ok (.ifCond .ne 6, 3) := by decide +kernel
theorem dX8_shown_86 : decode cX8_shown 86 = .ok (.goto 31, 3) := by decide +kernel
theorem dX8_shown_89 : decode cX8_shown 89 = .ok (.iload 5, 2) := by decide +kernel
theorem dX8_shown_91 : decode cX8_shown 91 = .ok (.iload 4, 2) := by decide +kernel
theorem dX8_shown_93 : decode cX8_shown 93 = .ok (.ifCond .eq 16, 3) := by decide +kernel
theorem dX8_shown_96 : decode cX8_shown 96 = .ok (.aload_n 0, 1) := by decide +kernel
theorem dX8_shown_97 : decode cX8_shown 97 = .ok (.iload 8, 2) := by decide +kernel
theorem dX8_shown_99 : decode cX8_shown 99 = .ok (.iload_n 1, 1) := by decide +kernel
theorem dX8_shown_100 : decode cX8_shown 100 = .ok (.iload_n 3, 1) := by decide +kernel
theorem dX8_shown_101 : decode cX8_shown 101 = .ok (.invokevirtual 305, 3) := by decide +kernel
theorem dX8_shown_104 : decode cX8_shown 104 = .ok (.bipush (-5), 2) := by decide +kernel
theorem dX8_shown_106 : decode cX8_shown 106 = .ok (.if_icmp .eq 7, 3) := by decide +kernel
theorem dX8_shown_109 : decode cX8_shown 109 = .ok (.iconst 1, 1) := by decide +kernel
theorem dX8_shown_110 : decode cX8_shown 110 = .ok (.goto 4, 3) := by decide +kernel
theorem dX8_shown_113 : decode cX8_shown 113 = .ok (.iconst 0, 1) := by decide +kernel
theorem dX8_shown_114 : decode cX8_shown 114 = .ok (.iadd, 1) := by decide +kernel
theorem dX8_shown_115 : decode cX8_shown 115 = .ok (.istore 5, 2) := by decide +kernel
theorem dX8_shown_117 : decode cX8_shown 117 = .ok (.lload 6, 2) := by decide +kernel
theorem dX8_shown_119 : decode cX8_shown 119 = .ok (.lconst 1, 1) := by decide +kernel
theorem dX8_shown_120 : decode cX8_shown 120 = .ok (.ladd, 1) := by decide +kernel
theorem dX8_shown_121 : decode cX8_shown 121 = .ok (.lstore 6, 2) := by decide +kernel
theorem dX8_shown_123 : decode cX8_shown 123 = .ok (.goto (-68), 3) := by decide +kernel
theorem dX8_shown_126 : decode cX8_shown 126 = .ok (.iload 5, 2) := by decide +kernel
theorem dX8_shown_128 : decode cX8_shown 128 = .ok (.ireturn, 1) := by decide +kernel
theorem dX8_count_0 : decode cX8_count 0 = .ok (.iconst 0, 1) := by decide +kernel
theorem dX8_count_1 : decode cX8_count 1 = .ok (.istore_n 2, 1) := by decide +kernel
theorem dX8_count_2 : decode cX8_count 2 = .ok (.iload_n 1, 1) := by decide +kernel
theorem dX8_count_3 : decode cX8_count 3 = .ok (.tableswitch 106 0 4 #[33, 66, 71, 76, 81], 33) := by decide +kernel
theorem dX8_count_36 : decode cX8_count 36 = .ok (.iconst 0, 1) := by decide +kernel
theorem dX8_count_37 : decode cX8_count 37 = .ok (.istore_n 3, 1) := by decide +kernel
theorem dX8_count_38 : decode cX8_count 38 = .ok (.iload_n 3, 1) := by decide +kernel
theorem dX8_count_39 : decode cX8_count 39 = .ok (.bipush 20, 2) := by decide +kernel
theorem dX8_count_41 : decode cX8_count 41 = .ok (.if_icmp .ge 26, 3) := by decide +kernel
theorem dX8_count_44 : decode cX8_count 44 = .ok (.iload_n 2, 1) := by decide +kernel
theorem dX8_count_45 : decode cX8_count 45 = .ok (.aload_n 0, 1) := by decide +kernel
theorem dX8_count_46 : decode cX8_count 46 = .ok (.getfield 28, 3) := by decide +kernel
theorem dX8_count_49 : decode cX8_count 49 = .ok (.iload_n 3, 1) := by decide +kernel
theorem dX8_count_50 : decode cX8_count 50 = .ok (.iaload, 1) := by decide +kernel
theorem dX8_count_51 : decode cX8_count 51 = .ok (.ifCond .le 7, 3) := by decide +kernel
theorem dX8_count_54 : decode cX8_count 54 = .ok (.iconst 1, 1) := by decide +kernel
theorem dX8_count_55 : decode cX8_count 55 = .ok (.goto 4, 3) := by decide +kernel
theorem dX8_count_58 : decode cX8_count 58 = .ok (.iconst 0, 1) := by decide +kernel
theorem dX8_count_59 : decode cX8_count 59 = .ok (.iadd, 1) := by decide +kernel
theorem dX8_count_60 : decode cX8_count 60 = .ok (.istore_n 2, 1) := by decide +kernel
theorem dX8_count_61 : decode cX8_count 61 = .ok (.iinc 3 1, 3) := by decide +kernel
theorem dX8_count_64 : decode cX8_count 64 = .ok (.goto (-26), 3) := by decide +kernel
theorem dX8_count_67 : decode cX8_count 67 = .ok (.iload_n 2, 1) := by decide +kernel
theorem dX8_count_68 : decode cX8_count 68 = .ok (.ireturn, 1) := by decide +kernel
theorem dX8_count_69 : decode cX8_count 69 = .ok (.aload_n 0, 1) := by decide +kernel
theorem dX8_count_70 : decode cX8_count 70 = .ok (.getfield 283, 3) := by decide +kernel
theorem dX8_count_73 : decode cX8_count 73 = .ok (.ireturn, 1) := by decide +kernel
theorem dX8_count_74 : decode cX8_count 74 = .ok (.aload_n 0, 1) := by decide +kernel
theorem dX8_count_75 : decode cX8_count 75 = .ok (.getfield 255, 3) := by decide +kernel
theorem dX8_count_78 : decode cX8_count 78 = .ok (.ireturn, 1) := by decide +kernel
theorem dX8_count_79 : decode cX8_count 79 = .ok (.aload_n 0, 1) := by decide +kernel
theorem dX8_count_80 : decode cX8_count 80 = .ok (.getfield 258, 3) := by decide +kernel
theorem dX8_count_83 : decode cX8_count 83 = .ok (.ireturn, 1) := by decide +kernel
theorem dX8_count_84 : decode cX8_count 84 = .ok (.iconst 0, 1) := by decide +kernel
theorem dX8_count_85 : decode cX8_count 85 = .ok (.istore_n 3, 1) := by decide +kernel
theorem dX8_count_86 : decode cX8_count 86 = .ok (.iload_n 3, 1) := by decide +kernel
theorem dX8_count_87 : decode cX8_count 87 = .ok (.bipush 20, 2) := by decide +kernel
theorem dX8_count_89 : decode cX8_count 89 = .ok (.if_icmp .ge 18, 3) := by decide +kernel
theorem dX8_count_92 : decode cX8_count 92 = .ok (.iload_n 2, 1) := by decide +kernel
theorem dX8_count_93 : decode cX8_count 93 = .ok (.aload_n 0, 1) := by decide +kernel
theorem dX8_count_94 : decode cX8_count 94 = .ok (.getfield 28, 3) := by decide +kernel
theorem dX8_count_97 : decode cX8_count 97 = .ok (.iload_n 3, 1) := by decide +kernel
theorem dX8_count_98 : decode cX8_count 98 = .ok (.iaload, 1) := by decide +kernel
theorem dX8_count_99 : decode cX8_count 99 = .ok (.iadd, 1) := by decide +kernel
theorem dX8_count_100 : decode cX8_count 100 = .ok (.istore_n 2, 1) := by decide +kernel
theorem dX8_count_101 : decode cX8_count 101 = .ok (.iinc 3 1, 3) := by decide +kernel
theorem dX8_count_104 : decode cX8_count 104 = .ok (.goto (-18), 3) := by decide +kernel
theorem dX8_count_107 : decode cX8_count 107 = .ok (.iload_n 2, 1) := by decide +kernel
theorem dX8_count_108 : decode cX8_count 108 = .ok (.ireturn, 1) := by decide +kernel
theorem dX8_count_109 : decode cX8_count 109 = .ok (.iconst (-1), 1) := by decide +kernel
theorem dX8_count_110 : decode cX8_count 110 = .ok (.ireturn, 1) := by decide +kernel
theorem dX8_ofMaker_0 : decode cX8_ofMaker 0 = .ok (.aload_n 0, 1) := by decide +kernel
theorem dX8_ofMaker_1 : decode cX8_ofMaker 1 = .ok (.iload_n 1, 1) := by decide +kernel
theorem dX8_ofMaker_2 : decode cX8_ofMaker 2 = .ok (.invokevirtual 286, 3) := by decide +kernel
theorem dX8_ofMaker_5 : decode cX8_ofMaker 5 = .ok (.ifCond .eq 23, 3) := by decide +kernel
theorem dX8_ofMaker_8 : decode cX8_ofMaker 8 = .ok (.iload_n 2, 1) := by decide +kernel
theorem dX8_ofMaker_9 : decode cX8_ofMaker 9 = .ok (.i2l, 1) := by decide +kernel
theorem dX8_ofMaker_10 : decode cX8_ofMaker 10 = .ok (.ldc2_w 218, 3) := by decide +kernel
theorem dX8_ofMaker_13 : decode cX8_ofMaker 13 = .ok (.aload_n 0, 1) := by decide +kernel
theorem dX8_ofMaker_14 : decode cX8_ofMaker 14 = .ok (.getfield 62, 3) := by decide +kernel
theorem dX8_ofMaker_17 : decode cX8_ofMaker 17 = .ok (.iload_n 1, 1) := by decide +kernel
theorem dX8_ofMaker_18 : decode cX8_ofMaker 18 = .ok (.iaload, 1) := by decide +kernel
theorem dX8_ofMaker_19 : decode cX8_ofMaker 19 = .ok (.iconst 1, 1) := by decide +kernel
theorem dX8_ofMaker_20 : decode cX8_ofMaker 20 = .ok (.isub, 1) := by decide +kernel
theorem dX8_ofMaker_21 : decode cX8_ofMaker 21 = .ok (.i2l, 1) := by decide +kernel
theorem dX8_ofMaker_22 : decode cX8_ofMaker 22 = .ok (.invokestatic 177, 3) := by decide +kernel
theorem dX8_ofMaker_25 : decode cX8_ofMaker 25 = .ok (.ifCond .ne 5, 3) := by decide +kernel
theorem dX8_ofMaker_28 : decode cX8_ofMaker 28 = .ok (.iconst (-1), 1) := by decide +kernel
theorem dX8_ofMaker_29 : decode cX8_ofMaker 29 = .ok (.ireturn, 1) := by decide +kernel
theorem dX8_ofMaker_30 : decode cX8_ofMaker 30 = .ok (.iload_n 2, 1) := by decide +kernel
theorem dX8_ofMaker_31 : decode cX8_ofMaker 31 = .ok (.ifCond .ge 12, 3) := by decide +kernel
theorem dX8_ofMaker_34 : decode cX8_ofMaker 34 = .ok (.aload_n 0, 1) := by decide +kernel
theorem dX8_ofMaker_35 : decode cX8_ofMaker 35 = .ok (.getfield 62, 3) := by decide +kernel
theorem dX8_ofMaker_38 : decode cX8_ofMaker 38 = .ok (.iload_n 1, 1) := by decide +kernel
theorem dX8_ofMaker_39 : decode cX8_ofMaker 39 = .ok (.iaload, 1) := by decide +kernel
theorem dX8_ofMaker_40 : decode cX8_ofMaker 40 = .ok (.goto 29, 3) := by decide +kernel
theorem dX8_ofMaker_43 : decode cX8_ofMaker 43 = .ok (.bipush 10, 2) := by decide +kernel
theorem dX8_ofMaker_45 : decode cX8_ofMaker 45 = .ok (.aload_n 0, 1) := by decide +kernel
theorem dX8_ofMaker_46 : decode cX8_ofMaker 46 = .ok (.getfield 65, 3) := by decide +kernel
theorem dX8_ofMaker_49 : decode cX8_ofMaker 49 = .ok (.bipush 10, 2) := by decide +kernel
theorem dX8_ofMaker_51 : decode cX8_ofMaker 51 = .ok (.iload_n 1, 1) := by decide +kernel
theorem dX8_ofMaker_52 : decode cX8_ofMaker 52 = .ok (.imul, 1) := by decide +kernel
theorem dX8_ofMaker_53 : decode cX8_ofMaker 53 = .ok (.iload_n 2, 1) := by decide +kernel
theorem dX8_ofMaker_54 : decode cX8_ofMaker 54 = .ok (.iadd, 1) := by decide +kernel
theorem dX8_ofMaker_55 : decode cX8_ofMaker 55 = .ok (.iaload, 1) := by decide +kernel
theorem dX8_ofMaker_56 : decode cX8_ofMaker 56 = .ok (.imul, 1) := by decide +kernel
theorem dX8_ofMaker_57 : decode cX8_ofMaker 57 = .ok (.aload_n 0, 1) := by decide +kernel
theorem dX8_ofMaker_58 : decode cX8_ofMaker 58 = .ok (.getfield 68, 3) := by decide +kernel
theorem dX8_ofMaker_61 : decode cX8_ofMaker 61 = .ok (.bipush 10, 2) := by decide +kernel
theorem dX8_ofMaker_63 : decode cX8_ofMaker 63 = .ok (.iload_n 1, 1) := by decide +kernel
theorem dX8_ofMaker_64 : decode cX8_ofMaker 64 = .ok (.imul, 1) := by decide +kernel
theorem dX8_ofMaker_65 : decode cX8_ofMaker 65 = .ok (.iload_n 2, 1) := by decide +kernel
theorem dX8_ofMaker_66 : decode cX8_ofMaker 66 = .ok (.iadd, 1) := by decide +kernel
theorem dX8_ofMaker_67 : decode cX8_ofMaker 67 = .ok (.iaload, 1) := by decide +kernel
theorem dX8_ofMaker_68 : decode cX8_ofMaker 68 = .ok (.iadd, 1) := by decide +kernel
theorem dX8_ofMaker_69 : decode cX8_ofMaker 69 = .ok (.ireturn, 1) := by decide +kernel
theorem dL_law_0 : decode cL_law 0 = .ok (.new 7, 3) := by decide +kernel
theorem dL_law_3 : decode cL_law 3 = .ok (.dup, 1) := by decide +kernel
theorem dL_law_4 : decode cL_law 4 = .ok (.invokespecial 9, 3) := by decide +kernel
theorem dL_law_7 : decode cL_law 7 = .ok (.astore_n 1, 1) := by decide +kernel
theorem dL_law_8 : decode cL_law 8 = .ok (.new 10, 3) := by decide +kernel
theorem dL_law_11 : decode cL_law 11 = .ok (.dup, 1) := by decide +kernel
theorem dL_law_12 : decode cL_law 12 = .ok (.invokespecial 12, 3) := by decide +kernel
theorem dL_law_15 : decode cL_law 15 = .ok (.astore_n 2, 1) := by decide +kernel
theorem dL_law_16 : decode cL_law 16 = .ok (.iconst 0, 1) := by decide +kernel
theorem dL_law_17 : decode cL_law 17 = .ok (.istore_n 3, 1) := by decide +kernel
theorem dL_law_18 : decode cL_law 18 = .ok (.iload_n 3, 1) := by decide +kernel
theorem dL_law_19 : decode cL_law 19 = .ok (.aload_n 0, 1) := by decide +kernel
theorem dL_law_20 : decode cL_law 20 = .ok (.arraylength, 1) := by decide +kernel
theorem dL_law_21 : decode cL_law 21 = .ok (.bipush 6, 2) := by decide +kernel
theorem dL_law_23 : decode cL_law 23 = .ok (.isub, 1) := by decide +kernel
theorem dL_law_24 : decode cL_law 24 = .ok (.if_icmp .gt 1219, 3) := by decide +kernel
theorem dL_law_27 : decode cL_law 27 = .ok (.aload_n 0, 1) := by decide +kernel
theorem dL_law_28 : decode cL_law 28 = .ok (.iload_n 3, 1) := by decide +kernel
theorem dL_law_29 : decode cL_law 29 = .ok (.iaload, 1) := by decide +kernel
theorem dL_law_30 : decode cL_law 30 = .ok (.bipush 31, 2) := by decide +kernel
theorem dL_law_32 : decode cL_law 32 = .ok (.iand, 1) := by decide +kernel
theorem dL_law_33 : decode cL_law 33 = .ok (.tableswitch 1204 0 27 #[127, 151, 224, 248, 281, 304, 327, 370, 413, 446, 509, 522, 565, 608, 651, 684, 737, 790, 833, 856, 899, 942, 995, 1038, 1051, 1095, 1148, 1171], 127) := by decide +kernel
theorem dL_law_160 : decode cL_law 160 = .ok (.aload_n 1, 1) := by decide +kernel
theorem dL_law_161 : decode cL_law 161 = .ok (.aload_n 0, 1) := by decide +kernel
theorem dL_law_162 : decode cL_law 162 = .ok (.iload_n 3, 1) := by decide +kernel
theorem dL_law_163 : decode cL_law 163 = .ok (.iconst 1, 1) := by decide +kernel
theorem dL_law_164 : decode cL_law 164 = .ok (.iadd, 1) := by decide +kernel
theorem dL_law_165 : decode cL_law 165 = .ok (.iaload, 1) := by decide +kernel
theorem dL_law_166 : decode cL_law 166 = .ok (.invokevirtual 13, 3) := by decide +kernel
theorem dL_law_169 : decode cL_law 169 = .ok (.aload_n 2, 1) := by decide +kernel
theorem dL_law_170 : decode cL_law 170 = .ok (.aload_n 0, 1) := by decide +kernel
theorem dL_law_171 : decode cL_law 171 = .ok (.iload_n 3, 1) := by decide +kernel
theorem dL_law_172 : decode cL_law 172 = .ok (.iconst 1, 1) := by decide +kernel
theorem dL_law_173 : decode cL_law 173 = .ok (.iadd, 1) := by decide +kernel
theorem dL_law_174 : decode cL_law 174 = .ok (.iaload, 1) := by decide +kernel
theorem dL_law_175 : decode cL_law 175 = .ok (.invokevirtual 17, 3) := by decide +kernel
theorem dL_law_178 : decode cL_law 178 = .ok (.lcmp, 1) := by decide +kernel
theorem dL_law_179 : decode cL_law 179 = .ok (.ifCond .eq 1058, 3) := by decide +kernel
theorem dL_law_182 : decode cL_law 182 = .ok (.iconst 0, 1) := by decide +kernel
theorem dL_law_183 : decode cL_law 183 = .ok (.ireturn, 1) := by decide +kernel
theorem dL_law_184 : decode cL_law 184 = .ok (.aload_n 1, 1) := by decide +kernel
theorem dL_law_185 : decode cL_law 185 = .ok (.aload_n 0, 1) := by decide +kernel
theorem dL_law_186 : decode cL_law 186 = .ok (.iload_n 3, 1) := by decide +kernel
theorem dL_law_187 : decode cL_law 187 = .ok (.iconst 1, 1) := by decide +kernel
theorem dL_law_188 : decode cL_law 188 = .ok (.iadd, 1) := by decide +kernel
theorem dL_law_189 : decode cL_law 189 = .ok (.iaload, 1) := by decide +kernel
theorem dL_law_190 : decode cL_law 190 = .ok (.aload_n 0, 1) := by decide +kernel
theorem dL_law_191 : decode cL_law 191 = .ok (.iload_n 3, 1) := by decide +kernel
theorem dL_law_192 : decode cL_law 192 = .ok (.iconst 2, 1) := by decide +kernel
theorem dL_law_193 : decode cL_law 193 = .ok (.iadd, 1) := by decide +kernel
theorem dL_law_194 : decode cL_law 194 = .ok (.iaload, 1) := by decide +kernel
theorem dL_law_195 : decode cL_law 195 = .ok (.aload_n 0, 1) := by decide +kernel
theorem dL_law_196 : decode cL_law 196 = .ok (.iload_n 3, 1) := by decide +kernel
theorem dL_law_197 : decode cL_law 197 = .ok (.iconst 3, 1) := by decide +kernel
theorem dL_law_198 : decode cL_law 198 = .ok (.iadd, 1) := by decide +kernel
theorem dL_law_199 : decode cL_law 199 = .ok (.iaload, 1) := by decide +kernel
theorem dL_law_200 : decode cL_law 200 = .ok (.i2l, 1) := by decide +kernel
theorem dL_law_201 : decode cL_law 201 = .ok (.bipush 32, 2) := by decide +kernel
theorem dL_law_203 : decode cL_law 203 = .ok (.lshl, 1) := by decide +kernel
theorem dL_law_204 : decode cL_law 204 = .ok (.aload_n 0, 1) := by decide +kernel
theorem dL_law_205 : decode cL_law 205 = .ok (.iload_n 3, 1) := by decide +kernel
theorem dL_law_206 : decode cL_law 206 = .ok (.iconst 4, 1) := by decide +kernel
theorem dL_law_207 : decode cL_law 207 = .ok (.iadd, 1) := by decide +kernel
theorem dL_law_208 : decode cL_law 208 = .ok (.iaload, 1) := by decide +kernel
theorem dL_law_209 : decode cL_law 209 = .ok (.i2l, 1) := by decide +kernel
theorem dL_law_210 : decode cL_law 210 = .ok (.ldc2_w 18, 3) := by decide +kernel
theorem dL_law_213 : decode cL_law 213 = .ok (.land, 1) := by decide +kernel
theorem dL_law_214 : decode cL_law 214 = .ok (.lor, 1) := by decide +kernel
theorem dL_law_215 : decode cL_law 215 = .ok (.invokevirtual 20, 3) := by decide +kernel
theorem dL_law_218 : decode cL_law 218 = .ok (.aload_n 2, 1) := by decide +kernel
theorem dL_law_219 : decode cL_law 219 = .ok (.aload_n 0, 1) := by decide +kernel
theorem dL_law_220 : decode cL_law 220 = .ok (.iload_n 3, 1) := by decide +kernel
theorem dL_law_221 : decode cL_law 221 = .ok (.iconst 1, 1) := by decide +kernel
theorem dL_law_222 : decode cL_law 222 = .ok (.iadd, 1) := by decide +kernel
theorem dL_law_223 : decode cL_law 223 = .ok (.iaload, 1) := by decide +kernel
theorem dL_law_224 : decode cL_law 224 = .ok (.aload_n 0, 1) := by decide +kernel
theorem dL_law_225 : decode cL_law 225 = .ok (.iload_n 3, 1) := by decide +kernel
theorem dL_law_226 : decode cL_law 226 = .ok (.iconst 2, 1) := by decide +kernel
theorem dL_law_227 : decode cL_law 227 = .ok (.iadd, 1) := by decide +kernel
theorem dL_law_228 : decode cL_law 228 = .ok (.iaload, 1) := by decide +kernel
theorem dL_law_229 : decode cL_law 229 = .ok (.aload_n 0, 1) := by decide +kernel
theorem dL_law_230 : decode cL_law 230 = .ok (.iload_n 3, 1) := by decide +kernel
theorem dL_law_231 : decode cL_law 231 = .ok (.iconst 3, 1) := by decide +kernel
theorem dL_law_232 : decode cL_law 232 = .ok (.iadd, 1) := by decide +kernel
theorem dL_law_233 : decode cL_law 233 = .ok (.iaload, 1) := by decide +kernel
theorem dL_law_234 : decode cL_law 234 = .ok (.i2l, 1) := by decide +kernel
theorem dL_law_235 : decode cL_law 235 = .ok (.bipush 32, 2) := by decide +kernel
theorem dL_law_237 : decode cL_law 237 = .ok (.lshl, 1) := by decide +kernel
theorem dL_law_238 : decode cL_law 238 = .ok (.aload_n 0, 1) := by decide +kernel
theorem dL_law_239 : decode cL_law 239 = .ok (.iload_n 3, 1) := by decide +kernel
theorem dL_law_240 : decode cL_law 240 = .ok (.iconst 4, 1) := by decide +kernel
theorem dL_law_241 : decode cL_law 241 = .ok (.iadd, 1) := by decide +kernel
theorem dL_law_242 : decode cL_law 242 = .ok (.iaload, 1) := by decide +kernel
theorem dL_law_243 : decode cL_law 243 = .ok (.i2l, 1) := by decide +kernel
theorem dL_law_244 : decode cL_law 244 = .ok (.ldc2_w 18, 3) := by decide +kernel
theorem dL_law_247 : decode cL_law 247 = .ok (.land, 1) := by decide +kernel
theorem dL_law_248 : decode cL_law 248 = .ok (.lor, 1) := by decide +kernel
theorem dL_law_249 : decode cL_law 249 = .ok (.invokevirtual 24, 3) := by decide +kernel
theorem dL_law_252 : decode cL_law 252 = .ok (.if_icmp .eq 985, 3) := by decide +kernel
theorem dL_law_255 : decode cL_law 255 = .ok (.iconst 0, 1) := by decide +kernel
theorem dL_law_256 : decode cL_law 256 = .ok (.ireturn, 1) := by decide +kernel
theorem dL_law_257 : decode cL_law 257 = .ok (.aload_n 1, 1) := by decide +kernel
theorem dL_law_258 : decode cL_law 258 = .ok (.aload_n 0, 1) := by decide +kernel
theorem dL_law_259 : decode cL_law 259 = .ok (.iload_n 3, 1) := by decide +kernel
theorem dL_law_260 : decode cL_law 260 = .ok (.iconst 1, 1) := by decide +kernel
theorem dL_law_261 : decode cL_law 261 = .ok (.iadd, 1) := by decide +kernel
theorem dL_law_262 : decode cL_law 262 = .ok (.iaload, 1) := by decide +kernel
theorem dL_law_263 : decode cL_law 263 = .ok (.invokevirtual 25, 3) := by decide +kernel
theorem dL_law_266 : decode cL_law 266 = .ok (.aload_n 2, 1) := by decide +kernel
theorem dL_law_267 : decode cL_law 267 = .ok (.aload_n 0, 1) := by decide +kernel
theorem dL_law_268 : decode cL_law 268 = .ok (.iload_n 3, 1) := by decide +kernel
theorem dL_law_269 : decode cL_law 269 = .ok (.iconst 1, 1) := by decide +kernel
theorem dL_law_270 : decode cL_law 270 = .ok (.iadd, 1) := by decide +kernel
theorem dL_law_271 : decode cL_law 271 = .ok (.iaload, 1) := by decide +kernel
theorem dL_law_272 : decode cL_law 272 = .ok (.invokevirtual 28, 3) := by decide +kernel
theorem dL_law_275 : decode cL_law 275 = .ok (.lcmp, 1) := by decide +kernel
theorem dL_law_276 : decode cL_law 276 = .ok (.ifCond .eq 961, 3) := by decide +kernel
theorem dL_law_279 : decode cL_law 279 = .ok (.iconst 0, 1) := by decide +kernel
theorem dL_law_280 : decode cL_law 280 = .ok (.ireturn, 1) := by decide +kernel
theorem dL_law_281 : decode cL_law 281 = .ok (.aload_n 1, 1) := by decide +kernel
theorem dL_law_282 : decode cL_law 282 = .ok (.aload_n 0, 1) := by decide +kernel
theorem dL_law_283 : decode cL_law 283 = .ok (.iload_n 3, 1) := by decide +kernel
theorem dL_law_284 : decode cL_law 284 = .ok (.iconst 1, 1) := by decide +kernel
theorem dL_law_285 : decode cL_law 285 = .ok (.iadd, 1) := by decide +kernel
theorem dL_law_286 : decode cL_law 286 = .ok (.iaload, 1) := by decide +kernel
theorem dL_law_287 : decode cL_law 287 = .ok (.aload_n 0, 1) := by decide +kernel
theorem dL_law_288 : decode cL_law 288 = .ok (.iload_n 3, 1) := by decide +kernel
theorem dL_law_289 : decode cL_law 289 = .ok (.iconst 2, 1) := by decide +kernel
theorem dL_law_290 : decode cL_law 290 = .ok (.iadd, 1) := by decide +kernel
theorem dL_law_291 : decode cL_law 291 = .ok (.iaload, 1) := by decide +kernel
theorem dL_law_292 : decode cL_law 292 = .ok (.invokevirtual 29, 3) := by decide +kernel
theorem dL_law_295 : decode cL_law 295 = .ok (.aload_n 2, 1) := by decide +kernel
theorem dL_law_296 : decode cL_law 296 = .ok (.aload_n 0, 1) := by decide +kernel
theorem dL_law_297 : decode cL_law 297 = .ok (.iload_n 3, 1) := by decide +kernel
theorem dL_law_298 : decode cL_law 298 = .ok (.iconst 1, 1) := by decide +kernel
theorem dL_law_299 : decode cL_law 299 = .ok (.iadd, 1) := by decide +kernel
theorem dL_law_300 : decode cL_law 300 = .ok (.iaload, 1) := by decide +kernel
theorem dL_law_301 : decode cL_law 301 = .ok (.aload_n 0, 1) := by decide +kernel
theorem dL_law_302 : decode cL_law 302 = .ok (.iload_n 3, 1) := by decide +kernel
theorem dL_law_303 : decode cL_law 303 = .ok (.iconst 2, 1) := by decide +kernel
theorem dL_law_304 : decode cL_law 304 = .ok (.iadd, 1) := by decide +kernel
theorem dL_law_305 : decode cL_law 305 = .ok (.iaload, 1) := by decide +kernel
theorem dL_law_306 : decode cL_law 306 = .ok (.invokevirtual 33, 3) := by decide +kernel
theorem dL_law_309 : decode cL_law 309 = .ok (.if_icmp .eq 928, 3) := by decide +kernel
theorem dL_law_312 : decode cL_law 312 = .ok (.iconst 0, 1) := by decide +kernel
theorem dL_law_313 : decode cL_law 313 = .ok (.ireturn, 1) := by decide +kernel
theorem dL_law_314 : decode cL_law 314 = .ok (.aload_n 1, 1) := by decide +kernel
theorem dL_law_315 : decode cL_law 315 = .ok (.aload_n 0, 1) := by decide +kernel
theorem dL_law_316 : decode cL_law 316 = .ok (.iload_n 3, 1) := by decide +kernel
theorem dL_law_317 : decode cL_law 317 = .ok (.iconst 1, 1) := by decide +kernel
theorem dL_law_318 : decode cL_law 318 = .ok (.iadd, 1) := by decide +kernel
theorem dL_law_319 : decode cL_law 319 = .ok (.iaload, 1) := by decide +kernel
theorem dL_law_320 : decode cL_law 320 = .ok (.invokevirtual 34, 3) := by decide +kernel
theorem dL_law_323 : decode cL_law 323 = .ok (.aload_n 2, 1) := by decide +kernel
theorem dL_law_324 : decode cL_law 324 = .ok (.aload_n 0, 1) := by decide +kernel
theorem dL_law_325 : decode cL_law 325 = .ok (.iload_n 3, 1) := by decide +kernel
theorem dL_law_326 : decode cL_law 326 = .ok (.iconst 1, 1) := by decide +kernel
theorem dL_law_327 : decode cL_law 327 = .ok (.iadd, 1) := by decide +kernel
theorem dL_law_328 : decode cL_law 328 = .ok (.iaload, 1) := by decide +kernel
theorem dL_law_329 : decode cL_law 329 = .ok (.invokevirtual 38, 3) := by decide +kernel
theorem dL_law_332 : decode cL_law 332 = .ok (.if_icmp .eq 905, 3) := by decide +kernel
theorem dL_law_335 : decode cL_law 335 = .ok (.iconst 0, 1) := by decide +kernel
theorem dL_law_336 : decode cL_law 336 = .ok (.ireturn, 1) := by decide +kernel
theorem dL_law_337 : decode cL_law 337 = .ok (.aload_n 1, 1) := by decide +kernel
theorem dL_law_338 : decode cL_law 338 = .ok (.aload_n 0, 1) := by decide +kernel
theorem dL_law_339 : decode cL_law 339 = .ok (.iload_n 3, 1) := by decide +kernel
theorem dL_law_340 : decode cL_law 340 = .ok (.iconst 1, 1) := by decide +kernel
theorem dL_law_341 : decode cL_law 341 = .ok (.iadd, 1) := by decide +kernel
theorem dL_law_342 : decode cL_law 342 = .ok (.iaload, 1) := by decide +kernel
theorem dL_law_343 : decode cL_law 343 = .ok (.invokevirtual 39, 3) := by decide +kernel
theorem dL_law_346 : decode cL_law 346 = .ok (.aload_n 2, 1) := by decide +kernel
theorem dL_law_347 : decode cL_law 347 = .ok (.aload_n 0, 1) := by decide +kernel
theorem dL_law_348 : decode cL_law 348 = .ok (.iload_n 3, 1) := by decide +kernel
theorem dL_law_349 : decode cL_law 349 = .ok (.iconst 1, 1) := by decide +kernel
theorem dL_law_350 : decode cL_law 350 = .ok (.iadd, 1) := by decide +kernel
theorem dL_law_351 : decode cL_law 351 = .ok (.iaload, 1) := by decide +kernel
theorem dL_law_352 : decode cL_law 352 = .ok (.invokevirtual 42, 3) := by decide +kernel
theorem dL_law_355 : decode cL_law 355 = .ok (.if_icmp .eq 882, 3) := by decide +kernel
theorem dL_law_358 : decode cL_law 358 = .ok (.iconst 0, 1) := by decide +kernel
theorem dL_law_359 : decode cL_law 359 = .ok (.ireturn, 1) := by decide +kernel
theorem dL_law_360 : decode cL_law 360 = .ok (.aload_n 1, 1) := by decide +kernel
theorem dL_law_361 : decode cL_law 361 = .ok (.aload_n 0, 1) := by decide +kernel
theorem dL_law_362 : decode cL_law 362 = .ok (.iload_n 3, 1) := by decide +kernel
theorem dL_law_363 : decode cL_law 363 = .ok (.iconst 1, 1) := by decide +kernel
theorem dL_law_364 : decode cL_law 364 = .ok (.iadd, 1) := by decide +kernel
theorem dL_law_365 : decode cL_law 365 = .ok (.iaload, 1) := by decide +kernel
theorem dL_law_366 : decode cL_law 366 = .ok (.aload_n 0, 1) := by decide +kernel
theorem dL_law_367 : decode cL_law 367 = .ok (.iload_n 3, 1) := by decide +kernel
theorem dL_law_368 : decode cL_law 368 = .ok (.iconst 2, 1) := by decide +kernel
theorem dL_law_369 : decode cL_law 369 = .ok (.iadd, 1) := by decide +kernel
theorem dL_law_370 : decode cL_law 370 = .ok (.iaload, 1) := by decide +kernel
theorem dL_law_371 : decode cL_law 371 = .ok (.aload_n 0, 1) := by decide +kernel
theorem dL_law_372 : decode cL_law 372 = .ok (.iload_n 3, 1) := by decide +kernel
theorem dL_law_373 : decode cL_law 373 = .ok (.iconst 3, 1) := by decide +kernel
theorem dL_law_374 : decode cL_law 374 = .ok (.iadd, 1) := by decide +kernel
theorem dL_law_375 : decode cL_law 375 = .ok (.iaload, 1) := by decide +kernel
theorem dL_law_376 : decode cL_law 376 = .ok (.invokevirtual 43, 3) := by decide +kernel
theorem dL_law_379 : decode cL_law 379 = .ok (.aload_n 2, 1) := by decide +kernel
theorem dL_law_380 : decode cL_law 380 = .ok (.aload_n 0, 1) := by decide +kernel
theorem dL_law_381 : decode cL_law 381 = .ok (.iload_n 3, 1) := by decide +kernel
theorem dL_law_382 : decode cL_law 382 = .ok (.iconst 1, 1) := by decide +kernel
theorem dL_law_383 : decode cL_law 383 = .ok (.iadd, 1) := by decide +kernel
theorem dL_law_384 : decode cL_law 384 = .ok (.iaload, 1) := by decide +kernel
theorem dL_law_385 : decode cL_law 385 = .ok (.aload_n 0, 1) := by decide +kernel
theorem dL_law_386 : decode cL_law 386 = .ok (.iload_n 3, 1) := by decide +kernel
theorem dL_law_387 : decode cL_law 387 = .ok (.iconst 2, 1) := by decide +kernel
theorem dL_law_388 : decode cL_law 388 = .ok (.iadd, 1) := by decide +kernel
theorem dL_law_389 : decode cL_law 389 = .ok (.iaload, 1) := by decide +kernel
theorem dL_law_390 : decode cL_law 390 = .ok (.aload_n 0, 1) := by decide +kernel
theorem dL_law_391 : decode cL_law 391 = .ok (.iload_n 3, 1) := by decide +kernel
theorem dL_law_392 : decode cL_law 392 = .ok (.iconst 3, 1) := by decide +kernel
theorem dL_law_393 : decode cL_law 393 = .ok (.iadd, 1) := by decide +kernel
theorem dL_law_394 : decode cL_law 394 = .ok (.iaload, 1) := by decide +kernel
theorem dL_law_395 : decode cL_law 395 = .ok (.invokevirtual 47, 3) := by decide +kernel
theorem dL_law_398 : decode cL_law 398 = .ok (.if_icmp .eq 839, 3) := by decide +kernel
theorem dL_law_401 : decode cL_law 401 = .ok (.iconst 0, 1) := by decide +kernel
theorem dL_law_402 : decode cL_law 402 = .ok (.ireturn, 1) := by decide +kernel
theorem dL_law_403 : decode cL_law 403 = .ok (.aload_n 1, 1) := by decide +kernel
theorem dL_law_404 : decode cL_law 404 = .ok (.aload_n 0, 1) := by decide +kernel
theorem dL_law_405 : decode cL_law 405 = .ok (.iload_n 3, 1) := by decide +kernel
theorem dL_law_406 : decode cL_law 406 = .ok (.iconst 1, 1) := by decide +kernel
theorem dL_law_407 : decode cL_law 407 = .ok (.iadd, 1) := by decide +kernel
theorem dL_law_408 : decode cL_law 408 = .ok (.iaload, 1) := by decide +kernel
theorem dL_law_409 : decode cL_law 409 = .ok (.aload_n 0, 1) := by decide +kernel
theorem dL_law_410 : decode cL_law 410 = .ok (.iload_n 3, 1) := by decide +kernel
theorem dL_law_411 : decode cL_law 411 = .ok (.iconst 2, 1) := by decide +kernel
theorem dL_law_412 : decode cL_law 412 = .ok (.iadd, 1) := by decide +kernel
theorem dL_law_413 : decode cL_law 413 = .ok (.iaload, 1) := by decide +kernel
theorem dL_law_414 : decode cL_law 414 = .ok (.aload_n 0, 1) := by decide +kernel
theorem dL_law_415 : decode cL_law 415 = .ok (.iload_n 3, 1) := by decide +kernel
theorem dL_law_416 : decode cL_law 416 = .ok (.iconst 3, 1) := by decide +kernel
theorem dL_law_417 : decode cL_law 417 = .ok (.iadd, 1) := by decide +kernel
theorem dL_law_418 : decode cL_law 418 = .ok (.iaload, 1) := by decide +kernel
theorem dL_law_419 : decode cL_law 419 = .ok (.invokevirtual 48, 3) := by decide +kernel
theorem dL_law_422 : decode cL_law 422 = .ok (.aload_n 2, 1) := by decide +kernel
theorem dL_law_423 : decode cL_law 423 = .ok (.aload_n 0, 1) := by decide +kernel
theorem dL_law_424 : decode cL_law 424 = .ok (.iload_n 3, 1) := by decide +kernel
theorem dL_law_425 : decode cL_law 425 = .ok (.iconst 1, 1) := by decide +kernel
theorem dL_law_426 : decode cL_law 426 = .ok (.iadd, 1) := by decide +kernel
theorem dL_law_427 : decode cL_law 427 = .ok (.iaload, 1) := by decide +kernel
theorem dL_law_428 : decode cL_law 428 = .ok (.aload_n 0, 1) := by decide +kernel
theorem dL_law_429 : decode cL_law 429 = .ok (.iload_n 3, 1) := by decide +kernel
theorem dL_law_430 : decode cL_law 430 = .ok (.iconst 2, 1) := by decide +kernel
theorem dL_law_431 : decode cL_law 431 = .ok (.iadd, 1) := by decide +kernel
theorem dL_law_432 : decode cL_law 432 = .ok (.iaload, 1) := by decide +kernel
theorem dL_law_433 : decode cL_law 433 = .ok (.aload_n 0, 1) := by decide +kernel
theorem dL_law_434 : decode cL_law 434 = .ok (.iload_n 3, 1) := by decide +kernel
theorem dL_law_435 : decode cL_law 435 = .ok (.iconst 3, 1) := by decide +kernel
theorem dL_law_436 : decode cL_law 436 = .ok (.iadd, 1) := by decide +kernel
theorem dL_law_437 : decode cL_law 437 = .ok (.iaload, 1) := by decide +kernel
theorem dL_law_438 : decode cL_law 438 = .ok (.invokevirtual 51, 3) := by decide +kernel
theorem dL_law_441 : decode cL_law 441 = .ok (.if_icmp .eq 796, 3) := by decide +kernel
theorem dL_law_444 : decode cL_law 444 = .ok (.iconst 0, 1) := by decide +kernel
theorem dL_law_445 : decode cL_law 445 = .ok (.ireturn, 1) := by decide +kernel
theorem dL_law_446 : decode cL_law 446 = .ok (.aload_n 1, 1) := by decide +kernel
theorem dL_law_447 : decode cL_law 447 = .ok (.aload_n 0, 1) := by decide +kernel
theorem dL_law_448 : decode cL_law 448 = .ok (.iload_n 3, 1) := by decide +kernel
theorem dL_law_449 : decode cL_law 449 = .ok (.iconst 1, 1) := by decide +kernel
theorem dL_law_450 : decode cL_law 450 = .ok (.iadd, 1) := by decide +kernel
theorem dL_law_451 : decode cL_law 451 = .ok (.iaload, 1) := by decide +kernel
theorem dL_law_452 : decode cL_law 452 = .ok (.aload_n 0, 1) := by decide +kernel
theorem dL_law_453 : decode cL_law 453 = .ok (.iload_n 3, 1) := by decide +kernel
theorem dL_law_454 : decode cL_law 454 = .ok (.iconst 2, 1) := by decide +kernel
theorem dL_law_455 : decode cL_law 455 = .ok (.iadd, 1) := by decide +kernel
theorem dL_law_456 : decode cL_law 456 = .ok (.iaload, 1) := by decide +kernel
theorem dL_law_457 : decode cL_law 457 = .ok (.invokevirtual 52, 3) := by decide +kernel
theorem dL_law_460 : decode cL_law 460 = .ok (.aload_n 2, 1) := by decide +kernel
theorem dL_law_461 : decode cL_law 461 = .ok (.aload_n 0, 1) := by decide +kernel
theorem dL_law_462 : decode cL_law 462 = .ok (.iload_n 3, 1) := by decide +kernel
theorem dL_law_463 : decode cL_law 463 = .ok (.iconst 1, 1) := by decide +kernel
theorem dL_law_464 : decode cL_law 464 = .ok (.iadd, 1) := by decide +kernel
theorem dL_law_465 : decode cL_law 465 = .ok (.iaload, 1) := by decide +kernel
theorem dL_law_466 : decode cL_law 466 = .ok (.aload_n 0, 1) := by decide +kernel
theorem dL_law_467 : decode cL_law 467 = .ok (.iload_n 3, 1) := by decide +kernel
theorem dL_law_468 : decode cL_law 468 = .ok (.iconst 2, 1) := by decide +kernel
theorem dL_law_469 : decode cL_law 469 = .ok (.iadd, 1) := by decide +kernel
theorem dL_law_470 : decode cL_law 470 = .ok (.iaload, 1) := by decide +kernel
theorem dL_law_471 : decode cL_law 471 = .ok (.invokevirtual 55, 3) := by decide +kernel
theorem dL_law_474 : decode cL_law 474 = .ok (.if_icmp .eq 763, 3) := by decide +kernel
theorem dL_law_477 : decode cL_law 477 = .ok (.iconst 0, 1) := by decide +kernel
theorem dL_law_478 : decode cL_law 478 = .ok (.ireturn, 1) := by decide +kernel
theorem dL_law_479 : decode cL_law 479 = .ok (.aload_n 1, 1) := by decide +kernel
theorem dL_law_480 : decode cL_law 480 = .ok (.aload_n 0, 1) := by decide +kernel
theorem dL_law_481 : decode cL_law 481 = .ok (.iload_n 3, 1) := by decide +kernel
theorem dL_law_482 : decode cL_law 482 = .ok (.iconst 1, 1) := by decide +kernel
theorem dL_law_483 : decode cL_law 483 = .ok (.iadd, 1) := by decide +kernel
theorem dL_law_484 : decode cL_law 484 = .ok (.iaload, 1) := by decide +kernel
theorem dL_law_485 : decode cL_law 485 = .ok (.aload_n 0, 1) := by decide +kernel
theorem dL_law_486 : decode cL_law 486 = .ok (.iload_n 3, 1) := by decide +kernel
theorem dL_law_487 : decode cL_law 487 = .ok (.iconst 2, 1) := by decide +kernel
theorem dL_law_488 : decode cL_law 488 = .ok (.iadd, 1) := by decide +kernel
theorem dL_law_489 : decode cL_law 489 = .ok (.iaload, 1) := by decide +kernel
theorem dL_law_490 : decode cL_law 490 = .ok (.aload_n 0, 1) := by decide +kernel
theorem dL_law_491 : decode cL_law 491 = .ok (.iload_n 3, 1) := by decide +kernel
theorem dL_law_492 : decode cL_law 492 = .ok (.iconst 3, 1) := by decide +kernel
theorem dL_law_493 : decode cL_law 493 = .ok (.iadd, 1) := by decide +kernel
theorem dL_law_494 : decode cL_law 494 = .ok (.iaload, 1) := by decide +kernel
theorem dL_law_495 : decode cL_law 495 = .ok (.aload_n 0, 1) := by decide +kernel
theorem dL_law_496 : decode cL_law 496 = .ok (.iload_n 3, 1) := by decide +kernel
theorem dL_law_497 : decode cL_law 497 = .ok (.iconst 4, 1) := by decide +kernel
theorem dL_law_498 : decode cL_law 498 = .ok (.iadd, 1) := by decide +kernel
theorem dL_law_499 : decode cL_law 499 = .ok (.iaload, 1) := by decide +kernel
theorem dL_law_500 : decode cL_law 500 = .ok (.aload_n 0, 1) := by decide +kernel
theorem dL_law_501 : decode cL_law 501 = .ok (.iload_n 3, 1) := by decide +kernel
theorem dL_law_502 : decode cL_law 502 = .ok (.iconst 5, 1) := by decide +kernel
theorem dL_law_503 : decode cL_law 503 = .ok (.iadd, 1) := by decide +kernel
theorem dL_law_504 : decode cL_law 504 = .ok (.iaload, 1) := by decide +kernel
theorem dL_law_505 : decode cL_law 505 = .ok (.invokevirtual 56, 3) := by decide +kernel
theorem dL_law_508 : decode cL_law 508 = .ok (.aload_n 2, 1) := by decide +kernel
theorem dL_law_509 : decode cL_law 509 = .ok (.aload_n 0, 1) := by decide +kernel
theorem dL_law_510 : decode cL_law 510 = .ok (.iload_n 3, 1) := by decide +kernel
theorem dL_law_511 : decode cL_law 511 = .ok (.iconst 1, 1) := by decide +kernel
theorem dL_law_512 : decode cL_law 512 = .ok (.iadd, 1) := by decide +kernel
theorem dL_law_513 : decode cL_law 513 = .ok (.iaload, 1) := by decide +kernel
theorem dL_law_514 : decode cL_law 514 = .ok (.aload_n 0, 1) := by decide +kernel
theorem dL_law_515 : decode cL_law 515 = .ok (.iload_n 3, 1) := by decide +kernel
theorem dL_law_516 : decode cL_law 516 = .ok (.iconst 2, 1) := by decide +kernel
theorem dL_law_517 : decode cL_law 517 = .ok (.iadd, 1) := by decide +kernel
theorem dL_law_518 : decode cL_law 518 = .ok (.iaload, 1) := by decide +kernel
theorem dL_law_519 : decode cL_law 519 = .ok (.aload_n 0, 1) := by decide +kernel
theorem dL_law_520 : decode cL_law 520 = .ok (.iload_n 3, 1) := by decide +kernel
theorem dL_law_521 : decode cL_law 521 = .ok (.iconst 3, 1) := by decide +kernel
theorem dL_law_522 : decode cL_law 522 = .ok (.iadd, 1) := by decide +kernel
theorem dL_law_523 : decode cL_law 523 = .ok (.iaload, 1) := by decide +kernel
theorem dL_law_524 : decode cL_law 524 = .ok (.aload_n 0, 1) := by decide +kernel
theorem dL_law_525 : decode cL_law 525 = .ok (.iload_n 3, 1) := by decide +kernel
theorem dL_law_526 : decode cL_law 526 = .ok (.iconst 4, 1) := by decide +kernel
theorem dL_law_527 : decode cL_law 527 = .ok (.iadd, 1) := by decide +kernel
theorem dL_law_528 : decode cL_law 528 = .ok (.iaload, 1) := by decide +kernel
theorem dL_law_529 : decode cL_law 529 = .ok (.aload_n 0, 1) := by decide +kernel
theorem dL_law_530 : decode cL_law 530 = .ok (.iload_n 3, 1) := by decide +kernel
theorem dL_law_531 : decode cL_law 531 = .ok (.iconst 5, 1) := by decide +kernel
theorem dL_law_532 : decode cL_law 532 = .ok (.iadd, 1) := by decide +kernel
theorem dL_law_533 : decode cL_law 533 = .ok (.iaload, 1) := by decide +kernel
theorem dL_law_534 : decode cL_law 534 = .ok (.invokevirtual 60, 3) := by decide +kernel
theorem dL_law_537 : decode cL_law 537 = .ok (.if_icmp .eq 700, 3) := by decide +kernel
theorem dL_law_540 : decode cL_law 540 = .ok (.iconst 0, 1) := by decide +kernel
theorem dL_law_541 : decode cL_law 541 = .ok (.ireturn, 1) := by decide +kernel
theorem dL_law_542 : decode cL_law 542 = .ok (.aload_n 1, 1) := by decide +kernel
theorem dL_law_543 : decode cL_law 543 = .ok (.invokevirtual 61, 3) := by decide +kernel
theorem dL_law_546 : decode cL_law 546 = .ok (.aload_n 2, 1) := by decide +kernel
theorem dL_law_547 : decode cL_law 547 = .ok (.invokevirtual 65, 3) := by decide +kernel
theorem dL_law_550 : decode cL_law 550 = .ok (.if_icmp .eq 687, 3) := by decide +kernel
theorem dL_law_553 : decode cL_law 553 = .ok (.iconst 0, 1) := by decide +kernel
theorem dL_law_554 : decode cL_law 554 = .ok (.ireturn, 1) := by decide +kernel
theorem dL_law_555 : decode cL_law 555 = .ok (.aload_n 1, 1) := by decide +kernel
theorem dL_law_556 : decode cL_law 556 = .ok (.aload_n 0, 1) := by decide +kernel
theorem dL_law_557 : decode cL_law 557 = .ok (.iload_n 3, 1) := by decide +kernel
theorem dL_law_558 : decode cL_law 558 = .ok (.iconst 1, 1) := by decide +kernel
theorem dL_law_559 : decode cL_law 559 = .ok (.iadd, 1) := by decide +kernel
theorem dL_law_560 : decode cL_law 560 = .ok (.iaload, 1) := by decide +kernel
theorem dL_law_561 : decode cL_law 561 = .ok (.aload_n 0, 1) := by decide +kernel
theorem dL_law_562 : decode cL_law 562 = .ok (.iload_n 3, 1) := by decide +kernel
theorem dL_law_563 : decode cL_law 563 = .ok (.iconst 2, 1) := by decide +kernel
theorem dL_law_564 : decode cL_law 564 = .ok (.iadd, 1) := by decide +kernel
theorem dL_law_565 : decode cL_law 565 = .ok (.iaload, 1) := by decide +kernel
theorem dL_law_566 : decode cL_law 566 = .ok (.aload_n 0, 1) := by decide +kernel
theorem dL_law_567 : decode cL_law 567 = .ok (.iload_n 3, 1) := by decide +kernel
theorem dL_law_568 : decode cL_law 568 = .ok (.iconst 3, 1) := by decide +kernel
theorem dL_law_569 : decode cL_law 569 = .ok (.iadd, 1) := by decide +kernel
theorem dL_law_570 : decode cL_law 570 = .ok (.iaload, 1) := by decide +kernel
theorem dL_law_571 : decode cL_law 571 = .ok (.invokevirtual 66, 3) := by decide +kernel
theorem dL_law_574 : decode cL_law 574 = .ok (.aload_n 2, 1) := by decide +kernel
theorem dL_law_575 : decode cL_law 575 = .ok (.aload_n 0, 1) := by decide +kernel
theorem dL_law_576 : decode cL_law 576 = .ok (.iload_n 3, 1) := by decide +kernel
theorem dL_law_577 : decode cL_law 577 = .ok (.iconst 1, 1) := by decide +kernel
theorem dL_law_578 : decode cL_law 578 = .ok (.iadd, 1) := by decide +kernel
theorem dL_law_579 : decode cL_law 579 = .ok (.iaload, 1) := by decide +kernel
theorem dL_law_580 : decode cL_law 580 = .ok (.aload_n 0, 1) := by decide +kernel
theorem dL_law_581 : decode cL_law 581 = .ok (.iload_n 3, 1) := by decide +kernel
theorem dL_law_582 : decode cL_law 582 = .ok (.iconst 2, 1) := by decide +kernel
theorem dL_law_583 : decode cL_law 583 = .ok (.iadd, 1) := by decide +kernel
theorem dL_law_584 : decode cL_law 584 = .ok (.iaload, 1) := by decide +kernel
theorem dL_law_585 : decode cL_law 585 = .ok (.aload_n 0, 1) := by decide +kernel
theorem dL_law_586 : decode cL_law 586 = .ok (.iload_n 3, 1) := by decide +kernel
theorem dL_law_587 : decode cL_law 587 = .ok (.iconst 3, 1) := by decide +kernel
theorem dL_law_588 : decode cL_law 588 = .ok (.iadd, 1) := by decide +kernel
theorem dL_law_589 : decode cL_law 589 = .ok (.iaload, 1) := by decide +kernel
theorem dL_law_590 : decode cL_law 590 = .ok (.invokevirtual 69, 3) := by decide +kernel
theorem dL_law_593 : decode cL_law 593 = .ok (.if_icmp .eq 644, 3) := by decide +kernel
theorem dL_law_596 : decode cL_law 596 = .ok (.iconst 0, 1) := by decide +kernel
theorem dL_law_597 : decode cL_law 597 = .ok (.ireturn, 1) := by decide +kernel
theorem dL_law_598 : decode cL_law 598 = .ok (.aload_n 1, 1) := by decide +kernel
theorem dL_law_599 : decode cL_law 599 = .ok (.aload_n 0, 1) := by decide +kernel
theorem dL_law_600 : decode cL_law 600 = .ok (.iload_n 3, 1) := by decide +kernel
theorem dL_law_601 : decode cL_law 601 = .ok (.iconst 1, 1) := by decide +kernel
theorem dL_law_602 : decode cL_law 602 = .ok (.iadd, 1) := by decide +kernel
theorem dL_law_603 : decode cL_law 603 = .ok (.iaload, 1) := by decide +kernel
theorem dL_law_604 : decode cL_law 604 = .ok (.aload_n 0, 1) := by decide +kernel
theorem dL_law_605 : decode cL_law 605 = .ok (.iload_n 3, 1) := by decide +kernel
theorem dL_law_606 : decode cL_law 606 = .ok (.iconst 2, 1) := by decide +kernel
theorem dL_law_607 : decode cL_law 607 = .ok (.iadd, 1) := by decide +kernel
theorem dL_law_608 : decode cL_law 608 = .ok (.iaload, 1) := by decide +kernel
theorem dL_law_609 : decode cL_law 609 = .ok (.aload_n 0, 1) := by decide +kernel
theorem dL_law_610 : decode cL_law 610 = .ok (.iload_n 3, 1) := by decide +kernel
theorem dL_law_611 : decode cL_law 611 = .ok (.iconst 3, 1) := by decide +kernel
theorem dL_law_612 : decode cL_law 612 = .ok (.iadd, 1) := by decide +kernel
theorem dL_law_613 : decode cL_law 613 = .ok (.iaload, 1) := by decide +kernel
theorem dL_law_614 : decode cL_law 614 = .ok (.invokevirtual 70, 3) := by decide +kernel
theorem dL_law_617 : decode cL_law 617 = .ok (.aload_n 2, 1) := by decide +kernel
theorem dL_law_618 : decode cL_law 618 = .ok (.aload_n 0, 1) := by decide +kernel
theorem dL_law_619 : decode cL_law 619 = .ok (.iload_n 3, 1) := by decide +kernel
theorem dL_law_620 : decode cL_law 620 = .ok (.iconst 1, 1) := by decide +kernel
theorem dL_law_621 : decode cL_law 621 = .ok (.iadd, 1) := by decide +kernel
theorem dL_law_622 : decode cL_law 622 = .ok (.iaload, 1) := by decide +kernel
theorem dL_law_623 : decode cL_law 623 = .ok (.aload_n 0, 1) := by decide +kernel
theorem dL_law_624 : decode cL_law 624 = .ok (.iload_n 3, 1) := by decide +kernel
theorem dL_law_625 : decode cL_law 625 = .ok (.iconst 2, 1) := by decide +kernel
theorem dL_law_626 : decode cL_law 626 = .ok (.iadd, 1) := by decide +kernel
theorem dL_law_627 : decode cL_law 627 = .ok (.iaload, 1) := by decide +kernel
theorem dL_law_628 : decode cL_law 628 = .ok (.aload_n 0, 1) := by decide +kernel
theorem dL_law_629 : decode cL_law 629 = .ok (.iload_n 3, 1) := by decide +kernel
theorem dL_law_630 : decode cL_law 630 = .ok (.iconst 3, 1) := by decide +kernel
theorem dL_law_631 : decode cL_law 631 = .ok (.iadd, 1) := by decide +kernel
theorem dL_law_632 : decode cL_law 632 = .ok (.iaload, 1) := by decide +kernel
theorem dL_law_633 : decode cL_law 633 = .ok (.invokevirtual 73, 3) := by decide +kernel
theorem dL_law_636 : decode cL_law 636 = .ok (.if_icmp .eq 601, 3) := by decide +kernel
theorem dL_law_639 : decode cL_law 639 = .ok (.iconst 0, 1) := by decide +kernel
theorem dL_law_640 : decode cL_law 640 = .ok (.ireturn, 1) := by decide +kernel
theorem dL_law_641 : decode cL_law 641 = .ok (.aload_n 1, 1) := by decide +kernel
theorem dL_law_642 : decode cL_law 642 = .ok (.aload_n 0, 1) := by decide +kernel
theorem dL_law_643 : decode cL_law 643 = .ok (.iload_n 3, 1) := by decide +kernel
theorem dL_law_644 : decode cL_law 644 = .ok (.iconst 1, 1) := by decide +kernel
theorem dL_law_645 : decode cL_law 645 = .ok (.iadd, 1) := by decide +kernel
theorem dL_law_646 : decode cL_law 646 = .ok (.iaload, 1) := by decide +kernel
theorem dL_law_647 : decode cL_law 647 = .ok (.aload_n 0, 1) := by decide +kernel
theorem dL_law_648 : decode cL_law 648 = .ok (.iload_n 3, 1) := by decide +kernel
theorem dL_law_649 : decode cL_law 649 = .ok (.iconst 2, 1) := by decide +kernel
theorem dL_law_650 : decode cL_law 650 = .ok (.iadd, 1) := by decide +kernel
theorem dL_law_651 : decode cL_law 651 = .ok (.iaload, 1) := by decide +kernel
theorem dL_law_652 : decode cL_law 652 = .ok (.aload_n 0, 1) := by decide +kernel
theorem dL_law_653 : decode cL_law 653 = .ok (.iload_n 3, 1) := by decide +kernel
theorem dL_law_654 : decode cL_law 654 = .ok (.iconst 3, 1) := by decide +kernel
theorem dL_law_655 : decode cL_law 655 = .ok (.iadd, 1) := by decide +kernel
theorem dL_law_656 : decode cL_law 656 = .ok (.iaload, 1) := by decide +kernel
theorem dL_law_657 : decode cL_law 657 = .ok (.invokevirtual 74, 3) := by decide +kernel
theorem dL_law_660 : decode cL_law 660 = .ok (.aload_n 2, 1) := by decide +kernel
theorem dL_law_661 : decode cL_law 661 = .ok (.aload_n 0, 1) := by decide +kernel
theorem dL_law_662 : decode cL_law 662 = .ok (.iload_n 3, 1) := by decide +kernel
theorem dL_law_663 : decode cL_law 663 = .ok (.iconst 1, 1) := by decide +kernel
theorem dL_law_664 : decode cL_law 664 = .ok (.iadd, 1) := by decide +kernel
theorem dL_law_665 : decode cL_law 665 = .ok (.iaload, 1) := by decide +kernel
theorem dL_law_666 : decode cL_law 666 = .ok (.aload_n 0, 1) := by decide +kernel
theorem dL_law_667 : decode cL_law 667 = .ok (.iload_n 3, 1) := by decide +kernel
theorem dL_law_668 : decode cL_law 668 = .ok (.iconst 2, 1) := by decide +kernel
theorem dL_law_669 : decode cL_law 669 = .ok (.iadd, 1) := by decide +kernel
theorem dL_law_670 : decode cL_law 670 = .ok (.iaload, 1) := by decide +kernel
theorem dL_law_671 : decode cL_law 671 = .ok (.aload_n 0, 1) := by decide +kernel
theorem dL_law_672 : decode cL_law 672 = .ok (.iload_n 3, 1) := by decide +kernel
theorem dL_law_673 : decode cL_law 673 = .ok (.iconst 3, 1) := by decide +kernel
theorem dL_law_674 : decode cL_law 674 = .ok (.iadd, 1) := by decide +kernel
theorem dL_law_675 : decode cL_law 675 = .ok (.iaload, 1) := by decide +kernel
theorem dL_law_676 : decode cL_law 676 = .ok (.invokevirtual 77, 3) := by decide +kernel
theorem dL_law_679 : decode cL_law 679 = .ok (.if_icmp .eq 558, 3) := by decide +kernel
theorem dL_law_682 : decode cL_law 682 = .ok (.iconst 0, 1) := by decide +kernel
theorem dL_law_683 : decode cL_law 683 = .ok (.ireturn, 1) := by decide +kernel
theorem dL_law_684 : decode cL_law 684 = .ok (.aload_n 1, 1) := by decide +kernel
theorem dL_law_685 : decode cL_law 685 = .ok (.aload_n 0, 1) := by decide +kernel
theorem dL_law_686 : decode cL_law 686 = .ok (.iload_n 3, 1) := by decide +kernel
theorem dL_law_687 : decode cL_law 687 = .ok (.iconst 1, 1) := by decide +kernel
theorem dL_law_688 : decode cL_law 688 = .ok (.iadd, 1) := by decide +kernel
theorem dL_law_689 : decode cL_law 689 = .ok (.iaload, 1) := by decide +kernel
theorem dL_law_690 : decode cL_law 690 = .ok (.aload_n 0, 1) := by decide +kernel
theorem dL_law_691 : decode cL_law 691 = .ok (.iload_n 3, 1) := by decide +kernel
theorem dL_law_692 : decode cL_law 692 = .ok (.iconst 2, 1) := by decide +kernel
theorem dL_law_693 : decode cL_law 693 = .ok (.iadd, 1) := by decide +kernel
theorem dL_law_694 : decode cL_law 694 = .ok (.iaload, 1) := by decide +kernel
theorem dL_law_695 : decode cL_law 695 = .ok (.invokevirtual 78, 3) := by decide +kernel
theorem dL_law_698 : decode cL_law 698 = .ok (.aload_n 2, 1) := by decide +kernel
theorem dL_law_699 : decode cL_law 699 = .ok (.aload_n 0, 1) := by decide +kernel
theorem dL_law_700 : decode cL_law 700 = .ok (.iload_n 3, 1) := by decide +kernel
theorem dL_law_701 : decode cL_law 701 = .ok (.iconst 1, 1) := by decide +kernel
theorem dL_law_702 : decode cL_law 702 = .ok (.iadd, 1) := by decide +kernel
theorem dL_law_703 : decode cL_law 703 = .ok (.iaload, 1) := by decide +kernel
theorem dL_law_704 : decode cL_law 704 = .ok (.aload_n 0, 1) := by decide +kernel
theorem dL_law_705 : decode cL_law 705 = .ok (.iload_n 3, 1) := by decide +kernel
theorem dL_law_706 : decode cL_law 706 = .ok (.iconst 2, 1) := by decide +kernel
theorem dL_law_707 : decode cL_law 707 = .ok (.iadd, 1) := by decide +kernel
theorem dL_law_708 : decode cL_law 708 = .ok (.iaload, 1) := by decide +kernel
theorem dL_law_709 : decode cL_law 709 = .ok (.invokevirtual 81, 3) := by decide +kernel
theorem dL_law_712 : decode cL_law 712 = .ok (.if_icmp .eq 525, 3) := by decide +kernel
theorem dL_law_715 : decode cL_law 715 = .ok (.iconst 0, 1) := by decide +kernel
theorem dL_law_716 : decode cL_law 716 = .ok (.ireturn, 1) := by decide +kernel
theorem dL_law_717 : decode cL_law 717 = .ok (.aload_n 1, 1) := by decide +kernel
theorem dL_law_718 : decode cL_law 718 = .ok (.aload_n 0, 1) := by decide +kernel
theorem dL_law_719 : decode cL_law 719 = .ok (.iload_n 3, 1) := by decide +kernel
theorem dL_law_720 : decode cL_law 720 = .ok (.iconst 1, 1) := by decide +kernel
theorem dL_law_721 : decode cL_law 721 = .ok (.iadd, 1) := by decide +kernel
theorem dL_law_722 : decode cL_law 722 = .ok (.iaload, 1) := by decide +kernel
theorem dL_law_723 : decode cL_law 723 = .ok (.aload_n 0, 1) := by decide +kernel
theorem dL_law_724 : decode cL_law 724 = .ok (.iload_n 3, 1) := by decide +kernel
theorem dL_law_725 : decode cL_law 725 = .ok (.iconst 2, 1) := by decide +kernel
theorem dL_law_726 : decode cL_law 726 = .ok (.iadd, 1) := by decide +kernel
theorem dL_law_727 : decode cL_law 727 = .ok (.iaload, 1) := by decide +kernel
theorem dL_law_728 : decode cL_law 728 = .ok (.aload_n 0, 1) := by decide +kernel
theorem dL_law_729 : decode cL_law 729 = .ok (.iload_n 3, 1) := by decide +kernel
theorem dL_law_730 : decode cL_law 730 = .ok (.iconst 3, 1) := by decide +kernel
theorem dL_law_731 : decode cL_law 731 = .ok (.iadd, 1) := by decide +kernel
theorem dL_law_732 : decode cL_law 732 = .ok (.iaload, 1) := by decide +kernel
theorem dL_law_733 : decode cL_law 733 = .ok (.aload_n 0, 1) := by decide +kernel
theorem dL_law_734 : decode cL_law 734 = .ok (.iload_n 3, 1) := by decide +kernel
theorem dL_law_735 : decode cL_law 735 = .ok (.iconst 4, 1) := by decide +kernel
theorem dL_law_736 : decode cL_law 736 = .ok (.iadd, 1) := by decide +kernel
theorem dL_law_737 : decode cL_law 737 = .ok (.iaload, 1) := by decide +kernel
theorem dL_law_738 : decode cL_law 738 = .ok (.invokevirtual 82, 3) := by decide +kernel
theorem dL_law_741 : decode cL_law 741 = .ok (.aload_n 2, 1) := by decide +kernel
theorem dL_law_742 : decode cL_law 742 = .ok (.aload_n 0, 1) := by decide +kernel
theorem dL_law_743 : decode cL_law 743 = .ok (.iload_n 3, 1) := by decide +kernel
theorem dL_law_744 : decode cL_law 744 = .ok (.iconst 1, 1) := by decide +kernel
theorem dL_law_745 : decode cL_law 745 = .ok (.iadd, 1) := by decide +kernel
theorem dL_law_746 : decode cL_law 746 = .ok (.iaload, 1) := by decide +kernel
theorem dL_law_747 : decode cL_law 747 = .ok (.aload_n 0, 1) := by decide +kernel
theorem dL_law_748 : decode cL_law 748 = .ok (.iload_n 3, 1) := by decide +kernel
theorem dL_law_749 : decode cL_law 749 = .ok (.iconst 2, 1) := by decide +kernel
theorem dL_law_750 : decode cL_law 750 = .ok (.iadd, 1) := by decide +kernel
theorem dL_law_751 : decode cL_law 751 = .ok (.iaload, 1) := by decide +kernel
theorem dL_law_752 : decode cL_law 752 = .ok (.aload_n 0, 1) := by decide +kernel
theorem dL_law_753 : decode cL_law 753 = .ok (.iload_n 3, 1) := by decide +kernel
theorem dL_law_754 : decode cL_law 754 = .ok (.iconst 3, 1) := by decide +kernel
theorem dL_law_755 : decode cL_law 755 = .ok (.iadd, 1) := by decide +kernel
theorem dL_law_756 : decode cL_law 756 = .ok (.iaload, 1) := by decide +kernel
theorem dL_law_757 : decode cL_law 757 = .ok (.aload_n 0, 1) := by decide +kernel
theorem dL_law_758 : decode cL_law 758 = .ok (.iload_n 3, 1) := by decide +kernel
theorem dL_law_759 : decode cL_law 759 = .ok (.iconst 4, 1) := by decide +kernel
theorem dL_law_760 : decode cL_law 760 = .ok (.iadd, 1) := by decide +kernel
theorem dL_law_761 : decode cL_law 761 = .ok (.iaload, 1) := by decide +kernel
theorem dL_law_762 : decode cL_law 762 = .ok (.invokevirtual 86, 3) := by decide +kernel
theorem dL_law_765 : decode cL_law 765 = .ok (.if_icmp .eq 472, 3) := by decide +kernel
theorem dL_law_768 : decode cL_law 768 = .ok (.iconst 0, 1) := by decide +kernel
theorem dL_law_769 : decode cL_law 769 = .ok (.ireturn, 1) := by decide +kernel
theorem dL_law_770 : decode cL_law 770 = .ok (.aload_n 1, 1) := by decide +kernel
theorem dL_law_771 : decode cL_law 771 = .ok (.aload_n 0, 1) := by decide +kernel
theorem dL_law_772 : decode cL_law 772 = .ok (.iload_n 3, 1) := by decide +kernel
theorem dL_law_773 : decode cL_law 773 = .ok (.iconst 1, 1) := by decide +kernel
theorem dL_law_774 : decode cL_law 774 = .ok (.iadd, 1) := by decide +kernel
theorem dL_law_775 : decode cL_law 775 = .ok (.iaload, 1) := by decide +kernel
theorem dL_law_776 : decode cL_law 776 = .ok (.aload_n 0, 1) := by decide +kernel
theorem dL_law_777 : decode cL_law 777 = .ok (.iload_n 3, 1) := by decide +kernel
theorem dL_law_778 : decode cL_law 778 = .ok (.iconst 2, 1) := by decide +kernel
theorem dL_law_779 : decode cL_law 779 = .ok (.iadd, 1) := by decide +kernel
theorem dL_law_780 : decode cL_law 780 = .ok (.iaload, 1) := by decide +kernel
theorem dL_law_781 : decode cL_law 781 = .ok (.aload_n 0, 1) := by decide +kernel
theorem dL_law_782 : decode cL_law 782 = .ok (.iload_n 3, 1) := by decide +kernel
theorem dL_law_783 : decode cL_law 783 = .ok (.iconst 3, 1) := by decide +kernel
theorem dL_law_784 : decode cL_law 784 = .ok (.iadd, 1) := by decide +kernel
theorem dL_law_785 : decode cL_law 785 = .ok (.iaload, 1) := by decide +kernel
theorem dL_law_786 : decode cL_law 786 = .ok (.aload_n 0, 1) := by decide +kernel
theorem dL_law_787 : decode cL_law 787 = .ok (.iload_n 3, 1) := by decide +kernel
theorem dL_law_788 : decode cL_law 788 = .ok (.iconst 4, 1) := by decide +kernel
theorem dL_law_789 : decode cL_law 789 = .ok (.iadd, 1) := by decide +kernel
theorem dL_law_790 : decode cL_law 790 = .ok (.iaload, 1) := by decide +kernel
theorem dL_law_791 : decode cL_law 791 = .ok (.invokevirtual 87, 3) := by decide +kernel
theorem dL_law_794 : decode cL_law 794 = .ok (.aload_n 2, 1) := by decide +kernel
theorem dL_law_795 : decode cL_law 795 = .ok (.aload_n 0, 1) := by decide +kernel
theorem dL_law_796 : decode cL_law 796 = .ok (.iload_n 3, 1) := by decide +kernel
theorem dL_law_797 : decode cL_law 797 = .ok (.iconst 1, 1) := by decide +kernel
theorem dL_law_798 : decode cL_law 798 = .ok (.iadd, 1) := by decide +kernel
theorem dL_law_799 : decode cL_law 799 = .ok (.iaload, 1) := by decide +kernel
theorem dL_law_800 : decode cL_law 800 = .ok (.aload_n 0, 1) := by decide +kernel
theorem dL_law_801 : decode cL_law 801 = .ok (.iload_n 3, 1) := by decide +kernel
theorem dL_law_802 : decode cL_law 802 = .ok (.iconst 2, 1) := by decide +kernel
theorem dL_law_803 : decode cL_law 803 = .ok (.iadd, 1) := by decide +kernel
theorem dL_law_804 : decode cL_law 804 = .ok (.iaload, 1) := by decide +kernel
theorem dL_law_805 : decode cL_law 805 = .ok (.aload_n 0, 1) := by decide +kernel
theorem dL_law_806 : decode cL_law 806 = .ok (.iload_n 3, 1) := by decide +kernel
theorem dL_law_807 : decode cL_law 807 = .ok (.iconst 3, 1) := by decide +kernel
theorem dL_law_808 : decode cL_law 808 = .ok (.iadd, 1) := by decide +kernel
theorem dL_law_809 : decode cL_law 809 = .ok (.iaload, 1) := by decide +kernel
theorem dL_law_810 : decode cL_law 810 = .ok (.aload_n 0, 1) := by decide +kernel
theorem dL_law_811 : decode cL_law 811 = .ok (.iload_n 3, 1) := by decide +kernel
theorem dL_law_812 : decode cL_law 812 = .ok (.iconst 4, 1) := by decide +kernel
theorem dL_law_813 : decode cL_law 813 = .ok (.iadd, 1) := by decide +kernel
theorem dL_law_814 : decode cL_law 814 = .ok (.iaload, 1) := by decide +kernel
theorem dL_law_815 : decode cL_law 815 = .ok (.invokevirtual 90, 3) := by decide +kernel
theorem dL_law_818 : decode cL_law 818 = .ok (.if_icmp .eq 419, 3) := by decide +kernel
theorem dL_law_821 : decode cL_law 821 = .ok (.iconst 0, 1) := by decide +kernel
theorem dL_law_822 : decode cL_law 822 = .ok (.ireturn, 1) := by decide +kernel
theorem dL_law_823 : decode cL_law 823 = .ok (.aload_n 1, 1) := by decide +kernel
theorem dL_law_824 : decode cL_law 824 = .ok (.aload_n 0, 1) := by decide +kernel
theorem dL_law_825 : decode cL_law 825 = .ok (.iload_n 3, 1) := by decide +kernel
theorem dL_law_826 : decode cL_law 826 = .ok (.iconst 1, 1) := by decide +kernel
theorem dL_law_827 : decode cL_law 827 = .ok (.iadd, 1) := by decide +kernel
theorem dL_law_828 : decode cL_law 828 = .ok (.iaload, 1) := by decide +kernel
theorem dL_law_829 : decode cL_law 829 = .ok (.aload_n 0, 1) := by decide +kernel
theorem dL_law_830 : decode cL_law 830 = .ok (.iload_n 3, 1) := by decide +kernel
theorem dL_law_831 : decode cL_law 831 = .ok (.iconst 2, 1) := by decide +kernel
theorem dL_law_832 : decode cL_law 832 = .ok (.iadd, 1) := by decide +kernel
theorem dL_law_833 : decode cL_law 833 = .ok (.iaload, 1) := by decide +kernel
theorem dL_law_834 : decode cL_law 834 = .ok (.aload_n 0, 1) := by decide +kernel
theorem dL_law_835 : decode cL_law 835 = .ok (.iload_n 3, 1) := by decide +kernel
theorem dL_law_836 : decode cL_law 836 = .ok (.iconst 3, 1) := by decide +kernel
theorem dL_law_837 : decode cL_law 837 = .ok (.iadd, 1) := by decide +kernel
theorem dL_law_838 : decode cL_law 838 = .ok (.iaload, 1) := by decide +kernel
theorem dL_law_839 : decode cL_law 839 = .ok (.invokevirtual 91, 3) := by decide +kernel
theorem dL_law_842 : decode cL_law 842 = .ok (.aload_n 2, 1) := by decide +kernel
theorem dL_law_843 : decode cL_law 843 = .ok (.aload_n 0, 1) := by decide +kernel
theorem dL_law_844 : decode cL_law 844 = .ok (.iload_n 3, 1) := by decide +kernel
theorem dL_law_845 : decode cL_law 845 = .ok (.iconst 1, 1) := by decide +kernel
theorem dL_law_846 : decode cL_law 846 = .ok (.iadd, 1) := by decide +kernel
theorem dL_law_847 : decode cL_law 847 = .ok (.iaload, 1) := by decide +kernel
theorem dL_law_848 : decode cL_law 848 = .ok (.aload_n 0, 1) := by decide +kernel
theorem dL_law_849 : decode cL_law 849 = .ok (.iload_n 3, 1) := by decide +kernel
theorem dL_law_850 : decode cL_law 850 = .ok (.iconst 2, 1) := by decide +kernel
theorem dL_law_851 : decode cL_law 851 = .ok (.iadd, 1) := by decide +kernel
theorem dL_law_852 : decode cL_law 852 = .ok (.iaload, 1) := by decide +kernel
theorem dL_law_853 : decode cL_law 853 = .ok (.aload_n 0, 1) := by decide +kernel
theorem dL_law_854 : decode cL_law 854 = .ok (.iload_n 3, 1) := by decide +kernel
theorem dL_law_855 : decode cL_law 855 = .ok (.iconst 3, 1) := by decide +kernel
theorem dL_law_856 : decode cL_law 856 = .ok (.iadd, 1) := by decide +kernel
theorem dL_law_857 : decode cL_law 857 = .ok (.iaload, 1) := by decide +kernel
theorem dL_law_858 : decode cL_law 858 = .ok (.invokevirtual 94, 3) := by decide +kernel
theorem dL_law_861 : decode cL_law 861 = .ok (.if_icmp .eq 376, 3) := by decide +kernel
theorem dL_law_864 : decode cL_law 864 = .ok (.iconst 0, 1) := by decide +kernel
theorem dL_law_865 : decode cL_law 865 = .ok (.ireturn, 1) := by decide +kernel
theorem dL_law_866 : decode cL_law 866 = .ok (.aload_n 1, 1) := by decide +kernel
theorem dL_law_867 : decode cL_law 867 = .ok (.aload_n 0, 1) := by decide +kernel
theorem dL_law_868 : decode cL_law 868 = .ok (.iload_n 3, 1) := by decide +kernel
theorem dL_law_869 : decode cL_law 869 = .ok (.iconst 1, 1) := by decide +kernel
theorem dL_law_870 : decode cL_law 870 = .ok (.iadd, 1) := by decide +kernel
theorem dL_law_871 : decode cL_law 871 = .ok (.iaload, 1) := by decide +kernel
theorem dL_law_872 : decode cL_law 872 = .ok (.invokevirtual 95, 3) := by decide +kernel
theorem dL_law_875 : decode cL_law 875 = .ok (.aload_n 2, 1) := by decide +kernel
theorem dL_law_876 : decode cL_law 876 = .ok (.aload_n 0, 1) := by decide +kernel
theorem dL_law_877 : decode cL_law 877 = .ok (.iload_n 3, 1) := by decide +kernel
theorem dL_law_878 : decode cL_law 878 = .ok (.iconst 1, 1) := by decide +kernel
theorem dL_law_879 : decode cL_law 879 = .ok (.iadd, 1) := by decide +kernel
theorem dL_law_880 : decode cL_law 880 = .ok (.iaload, 1) := by decide +kernel
theorem dL_law_881 : decode cL_law 881 = .ok (.invokevirtual 98, 3) := by decide +kernel
theorem dL_law_884 : decode cL_law 884 = .ok (.if_icmp .eq 353, 3) := by decide +kernel
theorem dL_law_887 : decode cL_law 887 = .ok (.iconst 0, 1) := by decide +kernel
theorem dL_law_888 : decode cL_law 888 = .ok (.ireturn, 1) := by decide +kernel
theorem dL_law_889 : decode cL_law 889 = .ok (.aload_n 1, 1) := by decide +kernel
theorem dL_law_890 : decode cL_law 890 = .ok (.aload_n 0, 1) := by decide +kernel
theorem dL_law_891 : decode cL_law 891 = .ok (.iload_n 3, 1) := by decide +kernel
theorem dL_law_892 : decode cL_law 892 = .ok (.iconst 1, 1) := by decide +kernel
theorem dL_law_893 : decode cL_law 893 = .ok (.iadd, 1) := by decide +kernel
theorem dL_law_894 : decode cL_law 894 = .ok (.iaload, 1) := by decide +kernel
theorem dL_law_895 : decode cL_law 895 = .ok (.aload_n 0, 1) := by decide +kernel
theorem dL_law_896 : decode cL_law 896 = .ok (.iload_n 3, 1) := by decide +kernel
theorem dL_law_897 : decode cL_law 897 = .ok (.iconst 2, 1) := by decide +kernel
theorem dL_law_898 : decode cL_law 898 = .ok (.iadd, 1) := by decide +kernel
theorem dL_law_899 : decode cL_law 899 = .ok (.iaload, 1) := by decide +kernel
theorem dL_law_900 : decode cL_law 900 = .ok (.aload_n 0, 1) := by decide +kernel
theorem dL_law_901 : decode cL_law 901 = .ok (.iload_n 3, 1) := by decide +kernel
theorem dL_law_902 : decode cL_law 902 = .ok (.iconst 3, 1) := by decide +kernel
theorem dL_law_903 : decode cL_law 903 = .ok (.iadd, 1) := by decide +kernel
theorem dL_law_904 : decode cL_law 904 = .ok (.iaload, 1) := by decide +kernel
theorem dL_law_905 : decode cL_law 905 = .ok (.invokevirtual 99, 3) := by decide +kernel
theorem dL_law_908 : decode cL_law 908 = .ok (.aload_n 2, 1) := by decide +kernel
theorem dL_law_909 : decode cL_law 909 = .ok (.aload_n 0, 1) := by decide +kernel
theorem dL_law_910 : decode cL_law 910 = .ok (.iload_n 3, 1) := by decide +kernel
theorem dL_law_911 : decode cL_law 911 = .ok (.iconst 1, 1) := by decide +kernel
theorem dL_law_912 : decode cL_law 912 = .ok (.iadd, 1) := by decide +kernel
theorem dL_law_913 : decode cL_law 913 = .ok (.iaload, 1) := by decide +kernel
theorem dL_law_914 : decode cL_law 914 = .ok (.aload_n 0, 1) := by decide +kernel
theorem dL_law_915 : decode cL_law 915 = .ok (.iload_n 3, 1) := by decide +kernel
theorem dL_law_916 : decode cL_law 916 = .ok (.iconst 2, 1) := by decide +kernel
theorem dL_law_917 : decode cL_law 917 = .ok (.iadd, 1) := by decide +kernel
theorem dL_law_918 : decode cL_law 918 = .ok (.iaload, 1) := by decide +kernel
theorem dL_law_919 : decode cL_law 919 = .ok (.aload_n 0, 1) := by decide +kernel
theorem dL_law_920 : decode cL_law 920 = .ok (.iload_n 3, 1) := by decide +kernel
theorem dL_law_921 : decode cL_law 921 = .ok (.iconst 3, 1) := by decide +kernel
theorem dL_law_922 : decode cL_law 922 = .ok (.iadd, 1) := by decide +kernel
theorem dL_law_923 : decode cL_law 923 = .ok (.iaload, 1) := by decide +kernel
theorem dL_law_924 : decode cL_law 924 = .ok (.invokevirtual 102, 3) := by decide +kernel
theorem dL_law_927 : decode cL_law 927 = .ok (.if_icmp .eq 310, 3) := by decide +kernel
theorem dL_law_930 : decode cL_law 930 = .ok (.iconst 0, 1) := by decide +kernel
theorem dL_law_931 : decode cL_law 931 = .ok (.ireturn, 1) := by decide +kernel
theorem dL_law_932 : decode cL_law 932 = .ok (.aload_n 1, 1) := by decide +kernel
theorem dL_law_933 : decode cL_law 933 = .ok (.aload_n 0, 1) := by decide +kernel
theorem dL_law_934 : decode cL_law 934 = .ok (.iload_n 3, 1) := by decide +kernel
theorem dL_law_935 : decode cL_law 935 = .ok (.iconst 1, 1) := by decide +kernel
theorem dL_law_936 : decode cL_law 936 = .ok (.iadd, 1) := by decide +kernel
theorem dL_law_937 : decode cL_law 937 = .ok (.iaload, 1) := by decide +kernel
theorem dL_law_938 : decode cL_law 938 = .ok (.aload_n 0, 1) := by decide +kernel
theorem dL_law_939 : decode cL_law 939 = .ok (.iload_n 3, 1) := by decide +kernel
theorem dL_law_940 : decode cL_law 940 = .ok (.iconst 2, 1) := by decide +kernel
theorem dL_law_941 : decode cL_law 941 = .ok (.iadd, 1) := by decide +kernel
theorem dL_law_942 : decode cL_law 942 = .ok (.iaload, 1) := by decide +kernel
theorem dL_law_943 : decode cL_law 943 = .ok (.aload_n 0, 1) := by decide +kernel
theorem dL_law_944 : decode cL_law 944 = .ok (.iload_n 3, 1) := by decide +kernel
theorem dL_law_945 : decode cL_law 945 = .ok (.iconst 3, 1) := by decide +kernel
theorem dL_law_946 : decode cL_law 946 = .ok (.iadd, 1) := by decide +kernel
theorem dL_law_947 : decode cL_law 947 = .ok (.iaload, 1) := by decide +kernel
theorem dL_law_948 : decode cL_law 948 = .ok (.invokevirtual 103, 3) := by decide +kernel
theorem dL_law_951 : decode cL_law 951 = .ok (.aload_n 2, 1) := by decide +kernel
theorem dL_law_952 : decode cL_law 952 = .ok (.aload_n 0, 1) := by decide +kernel
theorem dL_law_953 : decode cL_law 953 = .ok (.iload_n 3, 1) := by decide +kernel
theorem dL_law_954 : decode cL_law 954 = .ok (.iconst 1, 1) := by decide +kernel
theorem dL_law_955 : decode cL_law 955 = .ok (.iadd, 1) := by decide +kernel
theorem dL_law_956 : decode cL_law 956 = .ok (.iaload, 1) := by decide +kernel
theorem dL_law_957 : decode cL_law 957 = .ok (.aload_n 0, 1) := by decide +kernel
theorem dL_law_958 : decode cL_law 958 = .ok (.iload_n 3, 1) := by decide +kernel
theorem dL_law_959 : decode cL_law 959 = .ok (.iconst 2, 1) := by decide +kernel
theorem dL_law_960 : decode cL_law 960 = .ok (.iadd, 1) := by decide +kernel
theorem dL_law_961 : decode cL_law 961 = .ok (.iaload, 1) := by decide +kernel
theorem dL_law_962 : decode cL_law 962 = .ok (.aload_n 0, 1) := by decide +kernel
theorem dL_law_963 : decode cL_law 963 = .ok (.iload_n 3, 1) := by decide +kernel
theorem dL_law_964 : decode cL_law 964 = .ok (.iconst 3, 1) := by decide +kernel
theorem dL_law_965 : decode cL_law 965 = .ok (.iadd, 1) := by decide +kernel
theorem dL_law_966 : decode cL_law 966 = .ok (.iaload, 1) := by decide +kernel
theorem dL_law_967 : decode cL_law 967 = .ok (.invokevirtual 106, 3) := by decide +kernel
theorem dL_law_970 : decode cL_law 970 = .ok (.if_icmp .eq 267, 3) := by decide +kernel
theorem dL_law_973 : decode cL_law 973 = .ok (.iconst 0, 1) := by decide +kernel
theorem dL_law_974 : decode cL_law 974 = .ok (.ireturn, 1) := by decide +kernel
theorem dL_law_975 : decode cL_law 975 = .ok (.aload_n 1, 1) := by decide +kernel
theorem dL_law_976 : decode cL_law 976 = .ok (.aload_n 0, 1) := by decide +kernel
theorem dL_law_977 : decode cL_law 977 = .ok (.iload_n 3, 1) := by decide +kernel
theorem dL_law_978 : decode cL_law 978 = .ok (.iconst 1, 1) := by decide +kernel
theorem dL_law_979 : decode cL_law 979 = .ok (.iadd, 1) := by decide +kernel
theorem dL_law_980 : decode cL_law 980 = .ok (.iaload, 1) := by decide +kernel
theorem dL_law_981 : decode cL_law 981 = .ok (.aload_n 0, 1) := by decide +kernel
theorem dL_law_982 : decode cL_law 982 = .ok (.iload_n 3, 1) := by decide +kernel
theorem dL_law_983 : decode cL_law 983 = .ok (.iconst 2, 1) := by decide +kernel
theorem dL_law_984 : decode cL_law 984 = .ok (.iadd, 1) := by decide +kernel
theorem dL_law_985 : decode cL_law 985 = .ok (.iaload, 1) := by decide +kernel
theorem dL_law_986 : decode cL_law 986 = .ok (.aload_n 0, 1) := by decide +kernel
theorem dL_law_987 : decode cL_law 987 = .ok (.iload_n 3, 1) := by decide +kernel
theorem dL_law_988 : decode cL_law 988 = .ok (.iconst 3, 1) := by decide +kernel
theorem dL_law_989 : decode cL_law 989 = .ok (.iadd, 1) := by decide +kernel
theorem dL_law_990 : decode cL_law 990 = .ok (.iaload, 1) := by decide +kernel
theorem dL_law_991 : decode cL_law 991 = .ok (.aload_n 0, 1) := by decide +kernel
theorem dL_law_992 : decode cL_law 992 = .ok (.iload_n 3, 1) := by decide +kernel
theorem dL_law_993 : decode cL_law 993 = .ok (.iconst 4, 1) := by decide +kernel
theorem dL_law_994 : decode cL_law 994 = .ok (.iadd, 1) := by decide +kernel
theorem dL_law_995 : decode cL_law 995 = .ok (.iaload, 1) := by decide +kernel
theorem dL_law_996 : decode cL_law 996 = .ok (.invokevirtual 107, 3) := by decide +kernel
theorem dL_law_999 : decode cL_law 999 = .ok (.aload_n 2, 1) := by decide +kernel
theorem dL_law_1000 : decode cL_law 1000 = .ok (.aload_n 0, 1) := by decide +kernel
theorem dL_law_1001 : decode cL_law 1001 = .ok (.iload_n 3, 1) := by decide +kernel
theorem dL_law_1002 : decode cL_law 1002 = .ok (.iconst 1, 1) := by decide +kernel
theorem dL_law_1003 : decode cL_law 1003 = .ok (.iadd, 1) := by decide +kernel
theorem dL_law_1004 : decode cL_law 1004 = .ok (.iaload, 1) := by decide +kernel
theorem dL_law_1005 : decode cL_law 1005 = .ok (.aload_n 0, 1) := by decide +kernel
theorem dL_law_1006 : decode cL_law 1006 = .ok (.iload_n 3, 1) := by decide +kernel
theorem dL_law_1007 : decode cL_law 1007 = .ok (.iconst 2, 1) := by decide +kernel
theorem dL_law_1008 : decode cL_law 1008 = .ok (.iadd, 1) := by decide +kernel
theorem dL_law_1009 : decode cL_law 1009 = .ok (.iaload, 1) := by decide +kernel
theorem dL_law_1010 : decode cL_law 1010 = .ok (.aload_n 0, 1) := by decide +kernel
theorem dL_law_1011 : decode cL_law 1011 = .ok (.iload_n 3, 1) := by decide +kernel
theorem dL_law_1012 : decode cL_law 1012 = .ok (.iconst 3, 1) := by decide +kernel
theorem dL_law_1013 : decode cL_law 1013 = .ok (.iadd, 1) := by decide +kernel
theorem dL_law_1014 : decode cL_law 1014 = .ok (.iaload, 1) := by decide +kernel
theorem dL_law_1015 : decode cL_law 1015 = .ok (.aload_n 0, 1) := by decide +kernel
theorem dL_law_1016 : decode cL_law 1016 = .ok (.iload_n 3, 1) := by decide +kernel
theorem dL_law_1017 : decode cL_law 1017 = .ok (.iconst 4, 1) := by decide +kernel
theorem dL_law_1018 : decode cL_law 1018 = .ok (.iadd, 1) := by decide +kernel
theorem dL_law_1019 : decode cL_law 1019 = .ok (.iaload, 1) := by decide +kernel
theorem dL_law_1020 : decode cL_law 1020 = .ok (.invokevirtual 110, 3) := by decide +kernel
theorem dL_law_1023 : decode cL_law 1023 = .ok (.if_icmp .eq 214, 3) := by decide +kernel
theorem dL_law_1026 : decode cL_law 1026 = .ok (.iconst 0, 1) := by decide +kernel
theorem dL_law_1027 : decode cL_law 1027 = .ok (.ireturn, 1) := by decide +kernel
theorem dL_law_1028 : decode cL_law 1028 = .ok (.aload_n 1, 1) := by decide +kernel
theorem dL_law_1029 : decode cL_law 1029 = .ok (.aload_n 0, 1) := by decide +kernel
theorem dL_law_1030 : decode cL_law 1030 = .ok (.iload_n 3, 1) := by decide +kernel
theorem dL_law_1031 : decode cL_law 1031 = .ok (.iconst 1, 1) := by decide +kernel
theorem dL_law_1032 : decode cL_law 1032 = .ok (.iadd, 1) := by decide +kernel
theorem dL_law_1033 : decode cL_law 1033 = .ok (.iaload, 1) := by decide +kernel
theorem dL_law_1034 : decode cL_law 1034 = .ok (.aload_n 0, 1) := by decide +kernel
theorem dL_law_1035 : decode cL_law 1035 = .ok (.iload_n 3, 1) := by decide +kernel
theorem dL_law_1036 : decode cL_law 1036 = .ok (.iconst 2, 1) := by decide +kernel
theorem dL_law_1037 : decode cL_law 1037 = .ok (.iadd, 1) := by decide +kernel
theorem dL_law_1038 : decode cL_law 1038 = .ok (.iaload, 1) := by decide +kernel
theorem dL_law_1039 : decode cL_law 1039 = .ok (.aload_n 0, 1) := by decide +kernel
theorem dL_law_1040 : decode cL_law 1040 = .ok (.iload_n 3, 1) := by decide +kernel
theorem dL_law_1041 : decode cL_law 1041 = .ok (.iconst 3, 1) := by decide +kernel
theorem dL_law_1042 : decode cL_law 1042 = .ok (.iadd, 1) := by decide +kernel
theorem dL_law_1043 : decode cL_law 1043 = .ok (.iaload, 1) := by decide +kernel
theorem dL_law_1044 : decode cL_law 1044 = .ok (.invokevirtual 111, 3) := by decide +kernel
theorem dL_law_1047 : decode cL_law 1047 = .ok (.aload_n 2, 1) := by decide +kernel
theorem dL_law_1048 : decode cL_law 1048 = .ok (.aload_n 0, 1) := by decide +kernel
theorem dL_law_1049 : decode cL_law 1049 = .ok (.iload_n 3, 1) := by decide +kernel
theorem dL_law_1050 : decode cL_law 1050 = .ok (.iconst 1, 1) := by decide +kernel
theorem dL_law_1051 : decode cL_law 1051 = .ok (.iadd, 1) := by decide +kernel
theorem dL_law_1052 : decode cL_law 1052 = .ok (.iaload, 1) := by decide +kernel
theorem dL_law_1053 : decode cL_law 1053 = .ok (.aload_n 0, 1) := by decide +kernel
theorem dL_law_1054 : decode cL_law 1054 = .ok (.iload_n 3, 1) := by decide +kernel
theorem dL_law_1055 : decode cL_law 1055 = .ok (.iconst 2, 1) := by decide +kernel
theorem dL_law_1056 : decode cL_law 1056 = .ok (.iadd, 1) := by decide +kernel
theorem dL_law_1057 : decode cL_law 1057 = .ok (.iaload, 1) := by decide +kernel
theorem dL_law_1058 : decode cL_law 1058 = .ok (.aload_n 0, 1) := by decide +kernel
theorem dL_law_1059 : decode cL_law 1059 = .ok (.iload_n 3, 1) := by decide +kernel
theorem dL_law_1060 : decode cL_law 1060 = .ok (.iconst 3, 1) := by decide +kernel
theorem dL_law_1061 : decode cL_law 1061 = .ok (.iadd, 1) := by decide +kernel
theorem dL_law_1062 : decode cL_law 1062 = .ok (.iaload, 1) := by decide +kernel
theorem dL_law_1063 : decode cL_law 1063 = .ok (.invokevirtual 114, 3) := by decide +kernel
theorem dL_law_1066 : decode cL_law 1066 = .ok (.if_icmp .eq 171, 3) := by decide +kernel
theorem dL_law_1069 : decode cL_law 1069 = .ok (.iconst 0, 1) := by decide +kernel
theorem dL_law_1070 : decode cL_law 1070 = .ok (.ireturn, 1) := by decide +kernel
theorem dL_law_1071 : decode cL_law 1071 = .ok (.aload_n 1, 1) := by decide +kernel
theorem dL_law_1072 : decode cL_law 1072 = .ok (.invokevirtual 115, 3) := by decide +kernel
theorem dL_law_1075 : decode cL_law 1075 = .ok (.aload_n 2, 1) := by decide +kernel
theorem dL_law_1076 : decode cL_law 1076 = .ok (.invokevirtual 118, 3) := by decide +kernel
theorem dL_law_1079 : decode cL_law 1079 = .ok (.if_icmp .eq 158, 3) := by decide +kernel
theorem dL_law_1082 : decode cL_law 1082 = .ok (.iconst 0, 1) := by decide +kernel
theorem dL_law_1083 : decode cL_law 1083 = .ok (.ireturn, 1) := by decide +kernel
theorem dL_law_1084 : decode cL_law 1084 = .ok (.aload_n 1, 1) := by decide +kernel
theorem dL_law_1085 : decode cL_law 1085 = .ok (.aload_n 0, 1) := by decide +kernel
theorem dL_law_1086 : decode cL_law 1086 = .ok (.iload_n 3, 1) := by decide +kernel
theorem dL_law_1087 : decode cL_law 1087 = .ok (.iconst 1, 1) := by decide +kernel
theorem dL_law_1088 : decode cL_law 1088 = .ok (.iadd, 1) := by decide +kernel
theorem dL_law_1089 : decode cL_law 1089 = .ok (.iaload, 1) := by decide +kernel
theorem dL_law_1090 : decode cL_law 1090 = .ok (.aload_n 0, 1) := by decide +kernel
theorem dL_law_1091 : decode cL_law 1091 = .ok (.iload_n 3, 1) := by decide +kernel
theorem dL_law_1092 : decode cL_law 1092 = .ok (.iconst 2, 1) := by decide +kernel
theorem dL_law_1093 : decode cL_law 1093 = .ok (.iadd, 1) := by decide +kernel
theorem dL_law_1094 : decode cL_law 1094 = .ok (.iaload, 1) := by decide +kernel
theorem dL_law_1095 : decode cL_law 1095 = .ok (.aload_n 0, 1) := by decide +kernel
theorem dL_law_1096 : decode cL_law 1096 = .ok (.iload_n 3, 1) := by decide +kernel
theorem dL_law_1097 : decode cL_law 1097 = .ok (.iconst 3, 1) := by decide +kernel
theorem dL_law_1098 : decode cL_law 1098 = .ok (.iadd, 1) := by decide +kernel
theorem dL_law_1099 : decode cL_law 1099 = .ok (.iaload, 1) := by decide +kernel
theorem dL_law_1100 : decode cL_law 1100 = .ok (.invokevirtual 119, 3) := by decide +kernel
theorem dL_law_1103 : decode cL_law 1103 = .ok (.aload_n 2, 1) := by decide +kernel
theorem dL_law_1104 : decode cL_law 1104 = .ok (.aload_n 0, 1) := by decide +kernel
theorem dL_law_1105 : decode cL_law 1105 = .ok (.iload_n 3, 1) := by decide +kernel
theorem dL_law_1106 : decode cL_law 1106 = .ok (.iconst 1, 1) := by decide +kernel
theorem dL_law_1107 : decode cL_law 1107 = .ok (.iadd, 1) := by decide +kernel
theorem dL_law_1108 : decode cL_law 1108 = .ok (.iaload, 1) := by decide +kernel
theorem dL_law_1109 : decode cL_law 1109 = .ok (.aload_n 0, 1) := by decide +kernel
theorem dL_law_1110 : decode cL_law 1110 = .ok (.iload_n 3, 1) := by decide +kernel
theorem dL_law_1111 : decode cL_law 1111 = .ok (.iconst 2, 1) := by decide +kernel
theorem dL_law_1112 : decode cL_law 1112 = .ok (.iadd, 1) := by decide +kernel
theorem dL_law_1113 : decode cL_law 1113 = .ok (.iaload, 1) := by decide +kernel
theorem dL_law_1114 : decode cL_law 1114 = .ok (.aload_n 0, 1) := by decide +kernel
theorem dL_law_1115 : decode cL_law 1115 = .ok (.iload_n 3, 1) := by decide +kernel
theorem dL_law_1116 : decode cL_law 1116 = .ok (.iconst 3, 1) := by decide +kernel
theorem dL_law_1117 : decode cL_law 1117 = .ok (.iadd, 1) := by decide +kernel
theorem dL_law_1118 : decode cL_law 1118 = .ok (.iaload, 1) := by decide +kernel
theorem dL_law_1119 : decode cL_law 1119 = .ok (.invokevirtual 123, 3) := by decide +kernel
theorem dL_law_1122 : decode cL_law 1122 = .ok (.lcmp, 1) := by decide +kernel
theorem dL_law_1123 : decode cL_law 1123 = .ok (.ifCond .eq 114, 3) := by decide +kernel
theorem dL_law_1126 : decode cL_law 1126 = .ok (.iconst 0, 1) := by decide +kernel
theorem dL_law_1127 : decode cL_law 1127 = .ok (.ireturn, 1) := by decide +kernel
theorem dL_law_1128 : decode cL_law 1128 = .ok (.aload_n 1, 1) := by decide +kernel
theorem dL_law_1129 : decode cL_law 1129 = .ok (.aload_n 0, 1) := by decide +kernel
theorem dL_law_1130 : decode cL_law 1130 = .ok (.iload_n 3, 1) := by decide +kernel
theorem dL_law_1131 : decode cL_law 1131 = .ok (.iconst 1, 1) := by decide +kernel
theorem dL_law_1132 : decode cL_law 1132 = .ok (.iadd, 1) := by decide +kernel
theorem dL_law_1133 : decode cL_law 1133 = .ok (.iaload, 1) := by decide +kernel
theorem dL_law_1134 : decode cL_law 1134 = .ok (.aload_n 0, 1) := by decide +kernel
theorem dL_law_1135 : decode cL_law 1135 = .ok (.iload_n 3, 1) := by decide +kernel
theorem dL_law_1136 : decode cL_law 1136 = .ok (.iconst 2, 1) := by decide +kernel
theorem dL_law_1137 : decode cL_law 1137 = .ok (.iadd, 1) := by decide +kernel
theorem dL_law_1138 : decode cL_law 1138 = .ok (.iaload, 1) := by decide +kernel
theorem dL_law_1139 : decode cL_law 1139 = .ok (.aload_n 0, 1) := by decide +kernel
theorem dL_law_1140 : decode cL_law 1140 = .ok (.iload_n 3, 1) := by decide +kernel
theorem dL_law_1141 : decode cL_law 1141 = .ok (.iconst 3, 1) := by decide +kernel
theorem dL_law_1142 : decode cL_law 1142 = .ok (.iadd, 1) := by decide +kernel
theorem dL_law_1143 : decode cL_law 1143 = .ok (.iaload, 1) := by decide +kernel
theorem dL_law_1144 : decode cL_law 1144 = .ok (.aload_n 0, 1) := by decide +kernel
theorem dL_law_1145 : decode cL_law 1145 = .ok (.iload_n 3, 1) := by decide +kernel
theorem dL_law_1146 : decode cL_law 1146 = .ok (.iconst 4, 1) := by decide +kernel
theorem dL_law_1147 : decode cL_law 1147 = .ok (.iadd, 1) := by decide +kernel
theorem dL_law_1148 : decode cL_law 1148 = .ok (.iaload, 1) := by decide +kernel
theorem dL_law_1149 : decode cL_law 1149 = .ok (.invokevirtual 124, 3) := by decide +kernel
theorem dL_law_1152 : decode cL_law 1152 = .ok (.aload_n 2, 1) := by decide +kernel
theorem dL_law_1153 : decode cL_law 1153 = .ok (.aload_n 0, 1) := by decide +kernel
theorem dL_law_1154 : decode cL_law 1154 = .ok (.iload_n 3, 1) := by decide +kernel
theorem dL_law_1155 : decode cL_law 1155 = .ok (.iconst 1, 1) := by decide +kernel
theorem dL_law_1156 : decode cL_law 1156 = .ok (.iadd, 1) := by decide +kernel
theorem dL_law_1157 : decode cL_law 1157 = .ok (.iaload, 1) := by decide +kernel
theorem dL_law_1158 : decode cL_law 1158 = .ok (.aload_n 0, 1) := by decide +kernel
theorem dL_law_1159 : decode cL_law 1159 = .ok (.iload_n 3, 1) := by decide +kernel
theorem dL_law_1160 : decode cL_law 1160 = .ok (.iconst 2, 1) := by decide +kernel
theorem dL_law_1161 : decode cL_law 1161 = .ok (.iadd, 1) := by decide +kernel
theorem dL_law_1162 : decode cL_law 1162 = .ok (.iaload, 1) := by decide +kernel
theorem dL_law_1163 : decode cL_law 1163 = .ok (.aload_n 0, 1) := by decide +kernel
theorem dL_law_1164 : decode cL_law 1164 = .ok (.iload_n 3, 1) := by decide +kernel
theorem dL_law_1165 : decode cL_law 1165 = .ok (.iconst 3, 1) := by decide +kernel
theorem dL_law_1166 : decode cL_law 1166 = .ok (.iadd, 1) := by decide +kernel
theorem dL_law_1167 : decode cL_law 1167 = .ok (.iaload, 1) := by decide +kernel
theorem dL_law_1168 : decode cL_law 1168 = .ok (.aload_n 0, 1) := by decide +kernel
theorem dL_law_1169 : decode cL_law 1169 = .ok (.iload_n 3, 1) := by decide +kernel
theorem dL_law_1170 : decode cL_law 1170 = .ok (.iconst 4, 1) := by decide +kernel
theorem dL_law_1171 : decode cL_law 1171 = .ok (.iadd, 1) := by decide +kernel
theorem dL_law_1172 : decode cL_law 1172 = .ok (.iaload, 1) := by decide +kernel
theorem dL_law_1173 : decode cL_law 1173 = .ok (.invokevirtual 127, 3) := by decide +kernel
theorem dL_law_1176 : decode cL_law 1176 = .ok (.if_icmp .eq 61, 3) := by decide +kernel
theorem dL_law_1179 : decode cL_law 1179 = .ok (.iconst 0, 1) := by decide +kernel
theorem dL_law_1180 : decode cL_law 1180 = .ok (.ireturn, 1) := by decide +kernel
theorem dL_law_1181 : decode cL_law 1181 = .ok (.aload_n 1, 1) := by decide +kernel
theorem dL_law_1182 : decode cL_law 1182 = .ok (.aload_n 0, 1) := by decide +kernel
theorem dL_law_1183 : decode cL_law 1183 = .ok (.iload_n 3, 1) := by decide +kernel
theorem dL_law_1184 : decode cL_law 1184 = .ok (.iconst 1, 1) := by decide +kernel
theorem dL_law_1185 : decode cL_law 1185 = .ok (.iadd, 1) := by decide +kernel
theorem dL_law_1186 : decode cL_law 1186 = .ok (.iaload, 1) := by decide +kernel
theorem dL_law_1187 : decode cL_law 1187 = .ok (.invokevirtual 128, 3) := by decide +kernel
theorem dL_law_1190 : decode cL_law 1190 = .ok (.aload_n 2, 1) := by decide +kernel
theorem dL_law_1191 : decode cL_law 1191 = .ok (.aload_n 0, 1) := by decide +kernel
theorem dL_law_1192 : decode cL_law 1192 = .ok (.iload_n 3, 1) := by decide +kernel
theorem dL_law_1193 : decode cL_law 1193 = .ok (.iconst 1, 1) := by decide +kernel
theorem dL_law_1194 : decode cL_law 1194 = .ok (.iadd, 1) := by decide +kernel
theorem dL_law_1195 : decode cL_law 1195 = .ok (.iaload, 1) := by decide +kernel
theorem dL_law_1196 : decode cL_law 1196 = .ok (.invokevirtual 131, 3) := by decide +kernel
theorem dL_law_1199 : decode cL_law 1199 = .ok (.if_icmp .eq 38, 3) := by decide +kernel
theorem dL_law_1202 : decode cL_law 1202 = .ok (.iconst 0, 1) := by decide +kernel
theorem dL_law_1203 : decode cL_law 1203 = .ok (.ireturn, 1) := by decide +kernel
theorem dL_law_1204 : decode cL_law 1204 = .ok (.aload_n 1, 1) := by decide +kernel
theorem dL_law_1205 : decode cL_law 1205 = .ok (.aload_n 0, 1) := by decide +kernel
theorem dL_law_1206 : decode cL_law 1206 = .ok (.iload_n 3, 1) := by decide +kernel
theorem dL_law_1207 : decode cL_law 1207 = .ok (.iconst 1, 1) := by decide +kernel
theorem dL_law_1208 : decode cL_law 1208 = .ok (.iadd, 1) := by decide +kernel
theorem dL_law_1209 : decode cL_law 1209 = .ok (.iaload, 1) := by decide +kernel
theorem dL_law_1210 : decode cL_law 1210 = .ok (.aload_n 0, 1) := by decide +kernel
theorem dL_law_1211 : decode cL_law 1211 = .ok (.iload_n 3, 1) := by decide +kernel
theorem dL_law_1212 : decode cL_law 1212 = .ok (.iconst 2, 1) := by decide +kernel
theorem dL_law_1213 : decode cL_law 1213 = .ok (.iadd, 1) := by decide +kernel
theorem dL_law_1214 : decode cL_law 1214 = .ok (.iaload, 1) := by decide +kernel
theorem dL_law_1215 : decode cL_law 1215 = .ok (.invokevirtual 132, 3) := by decide +kernel
theorem dL_law_1218 : decode cL_law 1218 = .ok (.aload_n 2, 1) := by decide +kernel
theorem dL_law_1219 : decode cL_law 1219 = .ok (.aload_n 0, 1) := by decide +kernel
theorem dL_law_1220 : decode cL_law 1220 = .ok (.iload_n 3, 1) := by decide +kernel
theorem dL_law_1221 : decode cL_law 1221 = .ok (.iconst 1, 1) := by decide +kernel
theorem dL_law_1222 : decode cL_law 1222 = .ok (.iadd, 1) := by decide +kernel
theorem dL_law_1223 : decode cL_law 1223 = .ok (.iaload, 1) := by decide +kernel
theorem dL_law_1224 : decode cL_law 1224 = .ok (.aload_n 0, 1) := by decide +kernel
theorem dL_law_1225 : decode cL_law 1225 = .ok (.iload_n 3, 1) := by decide +kernel
theorem dL_law_1226 : decode cL_law 1226 = .ok (.iconst 2, 1) := by decide +kernel
theorem dL_law_1227 : decode cL_law 1227 = .ok (.iadd, 1) := by decide +kernel
theorem dL_law_1228 : decode cL_law 1228 = .ok (.iaload, 1) := by decide +kernel
theorem dL_law_1229 : decode cL_law 1229 = .ok (.invokevirtual 135, 3) := by decide +kernel
theorem dL_law_1232 : decode cL_law 1232 = .ok (.if_icmp .eq 5, 3) := by decide +kernel
theorem dL_law_1235 : decode cL_law 1235 = .ok (.iconst 0, 1) := by decide +kernel
theorem dL_law_1236 : decode cL_law 1236 = .ok (.ireturn, 1) := by decide +kernel
theorem dL_law_1237 : decode cL_law 1237 = .ok (.iinc 3 6, 3) := by decide +kernel
theorem dL_law_1240 : decode cL_law 1240 = .ok (.goto (-1222), 3) := by decide +kernel
theorem dL_law_1243 : decode cL_law 1243 = .ok (.iconst 1, 1) := by decide +kernel
theorem dL_law_1244 : decode cL_law 1244 = .ok (.ireturn, 1) := by decide +kernel
end
section
/-! a world by positions: what the ints, the longs and the changing references of each position are -/
abbrev Sg : Type := (Nat → Nat → Int32) × (Nat → Nat → Int64) × (Nat → Nat → Nat)
/-- a layout: how many positions, their kinds (0 .. 7 classes, 8 int[], 9 long[], 10 Maker[], 11 Tree[]), arrays' lengths, what arrays of references hold -/
abbrev Ly : Type := Nat × (Nat → Nat) × (Nat → Nat) × (Nat → Nat → Nat)
/-- addresses of the positions, the classes' numbers and slots, the array classes' numbers -/
abbrev Gx : Type := (Nat → Nat) × (Nat → ClassId) × (Nat → Nat → Nat) × (Nat → ClassId)
abbrev Kx : Type := Program × Launch × Env × Room × State × MethodId × Array Value × List Frame × Method × Code
abbrev kS (K : Kx) : State := K.2.2.2.2.1
abbrev kA (K : Kx) : Array Value := K.2.2.2.2.2.2.1
abbrev kB (K : Kx) : List Frame := K.2.2.2.2.2.2.2.1
abbrev kM (K : Kx) : MethodId := K.2.2.2.2.2.1
def wl (ad : Nat → Nat) (N : Nat) (cf : Nat → va_E) : va_W := (List.range N).map (fun i => (ad i, cf i))
theorem wl_get {ad : Nat → Nat} {N : Nat} {cf : Nat → va_E} {i : Nat} (h : i < N) : (wl ad N cf)[i]? = some (ad i, cf i) := by simp [wl, h]
theorem wl_set {ad : Nat → Nat} {N : Nat} {cf : Nat → va_E} {i : Nat} {e : va_E} (h : i < N) : (wl ad N cf).set i (ad i, e) = wl ad N (va_up cf i e) := by
  apply List.ext_getElem?
  intro j
  by_cases hj : j = i
  · subst hj
    rw [List.getElem?_set_self (by simp [wl, h]), wl_get h, va_up_self]
  · rw [List.getElem?_set_ne (Ne.symm hj)]
    by_cases hN : j < N
    · rw [wl_get hN, wl_get hN]
      simp [va_up, hj]
    · simp [wl, hN]
/-- one field's value by its code: 0 an int, 1 a changing reference, else the position so many (and 2) behind -/
def fv (G : Gx) (σ : Sg) (i k c : Nat) : Value := if c = 0 then .int (σ.1 i k) else if c = 1 then .ref (G.1 (σ.2.2 i k)) else .ref (G.1 (i + (c - 2)))
def fvs (G : Gx) (σ : Sg) (i : Nat) : List Nat → Nat → List Value
  | [], _ => []
  | c :: cs, k => fv G σ i k c :: fvs G σ i cs (k + 1)
theorem fvs_get (G : Gx) (σ : Sg) (i : Nat) : ∀ (cs : List Nat) (k j : Nat), (fvs G σ i cs k)[j]? = (cs[j]?).map (fv G σ i (k + j))
  | [], _, _ => by simp [fvs]
  | c :: cs, k, 0 => by simp [fvs]
  | c :: cs, k, j + 1 => by
    simp only [fvs, List.getElem?_cons_succ]
    rw [fvs_get G σ i cs (k + 1) j, show k + 1 + j = k + (j + 1) by omega]
theorem fvs_congr (G : Gx) (σ τ : Sg) (i : Nat) (h1 : τ.1 i = σ.1 i) (h2 : τ.2.2 i = σ.2.2 i) : ∀ (cs : List Nat) (k : Nat), fvs G τ i cs k = fvs G σ i cs k
  | [], _ => rfl
  | c :: cs, k => by
    simp only [fvs, fv, h1, h2]
    rw [fvs_congr G σ τ i h1 h2 cs (k + 1)]
theorem fvs_len (G : Gx) (σ : Sg) (i : Nat) : ∀ (cs : List Nat) (k : Nat), (fvs G σ i cs k).length = cs.length
  | [], _ => rfl
  | c :: cs, k => by simp [fvs, fvs_len G σ i cs (k + 1)]
/-- which fields an object of a class has -/
def tmF (c : Nat) : List Nat := match c with
  | 0 => [3, 4, 0, 0, 0, 0, 5, 6, 7, 8, 0, 0]
  | 1 => [3, 4, 5, 6, 7, 0, 8]
  | 2 => [3, 4, 0]
  | 3 => [3, 7, 0]
  | 4 => [3, 4, 5, 0]
  | 5 => [3, 4, 1, 1]
  | 6 => [3, 10, 16, 17, 18, 29, 36, 43, 47, 51, 0, 0]
  | 7 => [0, 0, 3, 4, 5, 6, 7, 8, 0, 0, 0, 0, 9, 10, 11, 12, 13, 0, 0, 14, 0, 15, 16, 17, 0, 18, 19, 0, 20, 21, 22, 0, 23, 24, 25, 0, 26, 27, 0]
  | _ => []
def cC (Y : Ly) (G : Gx) (σ : Sg) (i : Nat) : va_E :=
  if Y.2.1 i = 8 then .inl (G.2.2.2 8, Y.2.2.1 i, .inl (σ.1 i))
  else if Y.2.1 i = 9 then .inl (G.2.2.2 9, Y.2.2.1 i, .inr (.inl (σ.2.1 i)))
  else if Y.2.1 i = 10 then .inl (G.2.2.2 10, Y.2.2.1 i, .inr (.inr (.inr (.inr (fun j => some (G.1 (Y.2.2.2 i j)))))))
  else if Y.2.1 i = 11 then .inl (G.2.2.2 11, Y.2.2.1 i, .inr (.inr (.inr (.inr (fun j => some (G.1 (Y.2.2.2 i j)))))))
  else .inr (Y.2.1 i, fvs G σ i (tmF (Y.2.1 i)) 0)
/-- changed: the ints, the longs, one reference of a position -/
def sI (σ : Sg) (i : Nat) (f : Nat → Int32) : Sg := (va_up σ.1 i f, σ.2.1, σ.2.2)
def sJ (σ : Sg) (i : Nat) (f : Nat → Int64) : Sg := (σ.1, va_up σ.2.1 i f, σ.2.2)
def sN (σ : Sg) (i k v : Nat) : Sg := (σ.1, σ.2.1, va_up σ.2.2 i (va_up (σ.2.2 i) k v))
theorem cC_obj {Y : Ly} {G : Gx} {σ : Sg} {i ci : Nat} (h : Y.2.1 i = ci) (hc : ci < 8) : cC Y G σ i = .inr (ci, fvs G σ i (tmF ci) 0) := by
  unfold cC
  rw [h, if_neg (by omega), if_neg (by omega), if_neg (by omega), if_neg (by omega)]
theorem cC_i {Y : Ly} {G : Gx} {σ : Sg} {i : Nat} (h : Y.2.1 i = 8) : cC Y G σ i = .inl (G.2.2.2 8, Y.2.2.1 i, .inl (σ.1 i)) := by
  unfold cC
  rw [if_pos h]
theorem cC_j {Y : Ly} {G : Gx} {σ : Sg} {i : Nat} (h : Y.2.1 i = 9) : cC Y G σ i = .inl (G.2.2.2 9, Y.2.2.1 i, .inr (.inl (σ.2.1 i))) := by
  unfold cC
  rw [if_neg (by omega), if_pos h]
theorem cC_m {Y : Ly} {G : Gx} {σ : Sg} {i : Nat} (h : Y.2.1 i = 10) : cC Y G σ i = .inl (G.2.2.2 10, Y.2.2.1 i, .inr (.inr (.inr (.inr (fun j => some (G.1 (Y.2.2.2 i j))))))) := by
  unfold cC
  rw [if_neg (by omega), if_neg (by omega), if_pos h]
theorem cC_t {Y : Ly} {G : Gx} {σ : Sg} {i : Nat} (h : Y.2.1 i = 11) : cC Y G σ i = .inl (G.2.2.2 11, Y.2.2.1 i, .inr (.inr (.inr (.inr (fun j => some (G.1 (Y.2.2.2 i j))))))) := by
  unfold cC
  rw [if_neg (by omega), if_neg (by omega), if_neg (by omega), if_pos h]
theorem cC_congr {Y : Ly} {G : Gx} {σ τ : Sg} {j : Nat} (h1 : τ.1 j = σ.1 j) (h2 : τ.2.1 j = σ.2.1 j) (h3 : τ.2.2 j = σ.2.2 j) : cC Y G τ j = cC Y G σ j := by
  unfold cC
  rw [h1, h2, fvs_congr G σ τ j h1 h3]
theorem up_ne {α : Type} {f : Nat → α} {k j : Nat} {v : α} (h : j ≠ k) : va_up f k v j = f j := by simp [va_up, h]
theorem cC_sI {Y : Ly} {G : Gx} {σ : Sg} {i : Nat} {f : Nat → Int32} (h : Y.2.1 i = 8) : va_up (cC Y G σ) i (.inl (G.2.2.2 8, Y.2.2.1 i, .inl f)) = cC Y G (sI σ i f) := by
  funext j
  by_cases hj : j = i
  · subst hj
    rw [va_up_self, cC_i h]
    simp [sI, va_up]
  · rw [up_ne hj, cC_congr (σ := σ) (τ := sI σ i f)] <;> simp [sI, va_up, hj]
theorem cC_sJ {Y : Ly} {G : Gx} {σ : Sg} {i : Nat} {f : Nat → Int64} (h : Y.2.1 i = 9) : va_up (cC Y G σ) i (.inl (G.2.2.2 9, Y.2.2.1 i, .inr (.inl f))) = cC Y G (sJ σ i f) := by
  funext j
  by_cases hj : j = i
  · subst hj
    rw [va_up_self, cC_j h]
    simp [sJ, va_up]
  · rw [up_ne hj, cC_congr (σ := σ) (τ := sJ σ i f)] <;> simp [sJ, va_up, hj]
theorem cC_put {Y : Ly} {G : Gx} {σ : Sg} {i ci k : Nat} {v : Int32} (h : Y.2.1 i = ci) (hc : ci < 8) (hk : (tmF ci)[k]? = some 0) : va_up (cC Y G σ) i (.inr (ci, (fvs G σ i (tmF ci) 0).set k (.int v))) = cC Y G (sI σ i (upd (σ.1 i) k v)) := by
  funext j
  by_cases hj : j = i
  · subst hj
    rw [va_up_self, cC_obj h hc]
    have hl : k < (fvs G σ j (tmF ci) 0).length := by rw [fvs_len]; exact (List.getElem?_eq_some_iff.mp hk).1
    refine congrArg (fun l => Sum.inr (ci, l)) (List.ext_getElem? (fun n => ?_))
    by_cases hn : n = k
    · subst hn
      rw [List.getElem?_set_self hl, fvs_get, hk]
      simp [fv, sI, va_up, upd]
    · rw [List.getElem?_set_ne (Ne.symm hn), fvs_get, fvs_get]
      refine congrArg (fun f => Option.map f (tmF ci)[n]?) (funext fun c => ?_)
      simp [fv, sI, va_up, upd, hn]
  · rw [up_ne hj, cC_congr (σ := σ) (τ := sI σ i (upd (σ.1 i) k v))] <;> simp [sI, va_up, hj]
theorem cC_putN {Y : Ly} {G : Gx} {σ : Sg} {i ci k q : Nat} (h : Y.2.1 i = ci) (hc : ci < 8) (hk : (tmF ci)[k]? = some 1) : va_up (cC Y G σ) i (.inr (ci, (fvs G σ i (tmF ci) 0).set k (.ref (G.1 q)))) = cC Y G (sN σ i k q) := by
  funext j
  by_cases hj : j = i
  · subst hj
    rw [va_up_self, cC_obj h hc]
    have hl : k < (fvs G σ j (tmF ci) 0).length := by rw [fvs_len]; exact (List.getElem?_eq_some_iff.mp hk).1
    refine congrArg (fun l => Sum.inr (ci, l)) (List.ext_getElem? (fun n => ?_))
    by_cases hn : n = k
    · subst hn
      rw [List.getElem?_set_self hl, fvs_get, hk]
      simp [fv, sN, va_up]
    · rw [List.getElem?_set_ne (Ne.symm hn), fvs_get, fvs_get]
      refine congrArg (fun f => Option.map f (tmF ci)[n]?) (funext fun c => ?_)
      simp [fv, sN, va_up, hn]
  · rw [up_ne hj, cC_congr (σ := σ) (τ := sN σ i k q)] <;> simp [sN, va_up, hj]
/-- the good words of the tables; the words of nest mates' private members -/
def TB : List Cond := lw_tbl.filter goodWord
def isNw : Cond → Bool
  | .fieldLinkNest .. => true
  | .methodLinkNest .. => true
  | _ => false
def NW : List Cond := tables_1.filter isNw
def rmk (k : Nat) : Room := { frames := k, cells := 0, slots := 0, locals := 40 * k }
def adA (Y : Ly) (G : Gx) : Nat → Prop := fun q => ∃ i, i < Y.1 ∧ q = G.1 i
def Hw (Y : Ly) (G : Gx) (σ : Sg) (H : Heap) : Prop := va_P (G.2.1, G.2.2.1) vwCl (wl G.1 Y.1 (cC Y G σ)) H
def tyL (G : Gx) : List (ClassId × FieldType) := [(G.2.2.2 8, .int), (G.2.2.2 9, .long), (G.2.2.2 10, .object "MakersBench$Maker"), (G.2.2.2 11, .object "MakersBench$Tree")]
/-- the layout is whole, and addresses are apart -/
def Sok (Y : Ly) (G : Gx) : Prop := (∀ i, Y.2.1 i < 12 → i < Y.1) ∧ ∀ i j, i < Y.1 → j < Y.1 → G.1 i = G.1 j → i = j
/-- how many parts a kind has -/
def pPn (j : Nat) : Int32 := if j < 3 then 0 else if j = 3 then 1 else if j < 8 then 2 else 3
def Bs (Y : Ly) (G : Gx) (b : Nat) (U : State) : Prop :=
  va_K (G.2.1, G.2.2.1) vwCl (tyL G) U ∧ (∀ w ∈ NW, va_Nw w U) ∧ va_Z "MakersBench" "PARTS" "[I" (.ref b) (adA Y G) U U.heap ∧ va_X b 9 pPn U U.heap ∧ b < U.heap.size ∧ ¬ adA Y G b
theorem NW_warm {s U : State} (hW : s.WarmedH U.vm) (h : ∀ w ∈ NW, va_Nw w s) : ∀ w ∈ NW, va_Nw w U := by
  intro w hw
  have h1 := (List.mem_filter.mp hw).2
  have h2 := h w hw
  cases w <;> simp [isNw] at h1
  all_goals first | exact va_Nw.warmM hW h2 | exact va_Nw.warmF hW h2
theorem Bs.move {Y : Ly} {G : Gx} {b : Nat} {s U : State} {H : Heap} {locs : List Loc} (h : Bs Y G b s) (hS : va_S (adA Y G) s.heap H locs) (hU : U.heap = H) (hW : s.WarmedH U.vm) : Bs Y G b U := by
  obtain ⟨h1, h2, h3, h4, h5, h6⟩ := h
  subst hU
  refine ⟨va_K.moved hW.alike h1, NW_warm hW h2, va_Z.moved hW.alike (va_Z.kept h3 (fun a ha hn => hS.2.1 a ha hn)), va_X.moved hW.alike (h4.kept (hS.2.1 b h5 h6)), Nat.lt_of_lt_of_le h5 hS.1, h6⟩
theorem NW_ot {w : Cond} (hw : w ∈ NW) : w.onTables = true := by
  have h1 := (List.mem_filter.mp hw).2
  cases w <;> simp [isNw] at h1
  all_goals rfl
theorem Bs.call {Y : Ly} {G : Gx} {b : Nat} {U : State} {g : JFrame} {mk : MethodId} {a : Array Value} (h : Bs Y G b U) : Bs Y G b (U.calling g mk a) := by
  obtain ⟨h1, h2, h3, h4, h5, h6⟩ := h
  exact ⟨va_K.moved (u := U) (U := U.calling g mk a) (Vm.Alike.refl U.vm) h1, fun w hw => va_Nw.same (NW_ot hw) (u := U) (U := U.calling g mk a) rfl (h2 w hw), va_Z.moved (u := U) (U := U.calling g mk a) (Vm.Alike.refl U.vm) h3, va_X.moved (u := U) (U := U.calling g mk a) (Vm.Alike.refl U.vm) h4, h5, h6⟩
theorem vaD (Y : Ly) (G : Gx) (h : Sok Y G) (cf : Nat → va_E) : va_D (adA Y G) (wl G.1 Y.1 cf) := by
  have key : ∀ (k : Nat) (q : Nat × va_E), (wl G.1 Y.1 cf)[k]? = some q → k < Y.1 ∧ q.1 = G.1 k := by
    intro k q hk
    have hN : k < Y.1 := by
      rcases Nat.lt_or_ge k Y.1 with h | h
      · exact h
      · simp [wl, h] at hk
    rw [wl_get hN] at hk
    cases hk
    exact ⟨hN, rfl⟩
  refine ⟨fun i j p q hi hj hpq => ?_, fun k q hk => ?_⟩
  · obtain ⟨a1, a2⟩ := key i p hi
    obtain ⟨b1, b2⟩ := key j q hj
    exact h.2 i j a1 b1 (by rw [← a2, ← b2, hpq])
  · obtain ⟨a1, a2⟩ := key k q hk
    exact ⟨k, a1, a2⟩
/-- what a method's frame has: the machine, its code, its class, the tables' words, the room k -/
def Cx (Y : Ly) (G : Gx) (b : Nat) (K : Kx) (cc : ByteArray) (own : String) (nL : Nat) (ret : Option FieldType) (k : Nat) : Prop :=
  K.1.tables.exec = Jvm.exec ∧ K.2.2.2.2.2.2.2.2.2.code = cc ∧ K.2.2.2.2.2.2.2.2.2.maxLocals = nL ∧ K.2.2.2.2.2.2.2.2.1.sig.returnType = ret ∧ (kS K).vm.findClass own = some (kM K).cls ∧ (∀ w ∈ TB, w.before (kA K) (kS K) = true) ∧ Bs Y G b (kS K) ∧ K.2.2.2.2.2.2.2.2.1.locks = false ∧ Sok Y G ∧ K.2.2.2.1 = rmk k
/-- the machine, at pc with these locals and this stack, in the world σ, comes to Z -/
def V (Y : Ly) (G : Gx) (K : Kx) (Z : State → Prop) (nL : Nat) (σ : Sg) (pc : Nat) (lv : List (Nat × Value)) (st : List Value) : Prop :=
  ∀ (H : Heap) (locs : List Loc) (ls : Array Slot), Hw Y G σ H → va_S (adA Y G) (kS K).heap H locs → lv_has ls nL lv →
    W K.1 K.2.1 K.2.2.1 K.2.2.2.1 (kS K) (kM K) (kA K) (kB K) K.2.2.2.2.2.2.2.2.1 K.2.2.2.2.2.2.2.2.2 H locs 0 0 Z (F0 (kM K) pc ls st)
def Zi (Y : Ly) (G : Gx) (K : Kx) (Q : Int32 → Sg → Prop) : State → Prop := MQ (kB K) (va_Qi Q (fun σ t => Hw Y G σ t.heap) (adA Y G)) (kA K) (kS K) 0 0 (adA Y G)
def Zl (Y : Ly) (G : Gx) (K : Kx) (Q : Int64 → Sg → Prop) : State → Prop := MQ (kB K) (va_Ql Q (fun σ t => Hw Y G σ t.heap) (adA Y G)) (kA K) (kS K) 0 0 (adA Y G)
def Zv (Y : Ly) (G : Gx) (K : Kx) (Q : Sg → Prop) : State → Prop := MQ (kB K) (va_Qv Q (fun σ t => Hw Y G σ t.heap) (adA Y G)) (kA K) (kS K) 0 0 (adA Y G)
abbrev rv (G : Gx) (o : Option Nat) : Value := va_rf (o.map G.1)
def pQ (G : Gx) (Q : Option Nat → Sg → Prop) : Option Nat → Sg → Prop := fun r σ => ∃ o, r = o.map G.1 ∧ Q o σ
def Zq (Y : Ly) (G : Gx) (K : Kx) (Q : Option Nat → Sg → Prop) : State → Prop := MQ (kB K) (va_Qq (pQ G Q) (fun σ t => Hw Y G σ t.heap) (adA Y G)) (kA K) (kS K) 0 0 (adA Y G)
/-- contracts by what a method answers -/
def Pp (Y : Ly) (G : Gx) (b : Nat) (av : List Value) (σ : Sg) : Array Value → State → Prop := va_Pc av (fun U => Hw Y G σ U.heap ∧ Bs Y G b U)
def Mi (Y : Ly) (G : Gx) (b : Nat) (l : Launch) (y : MethodName) (cc : ByteArray) (nL : Nat) (ty : FieldType) (k : Nat) (av : List Value) (σ : Sg) (Q : Int32 → Sg → Prop) : Prop :=
  Met l y (.code y cc nL (some ty) :: TB) (rmk k) (Pp Y G b av σ) (va_Qi Q (fun σ t => Hw Y G σ t.heap) (adA Y G)) 0 0 (adA Y G)
def Ml (Y : Ly) (G : Gx) (b : Nat) (l : Launch) (y : MethodName) (cc : ByteArray) (nL : Nat) (k : Nat) (av : List Value) (σ : Sg) (Q : Int64 → Sg → Prop) : Prop :=
  Met l y (.code y cc nL (some .long) :: TB) (rmk k) (Pp Y G b av σ) (va_Ql Q (fun σ t => Hw Y G σ t.heap) (adA Y G)) 0 0 (adA Y G)
def Mv (Y : Ly) (G : Gx) (b : Nat) (l : Launch) (y : MethodName) (cc : ByteArray) (nL : Nat) (k : Nat) (av : List Value) (σ : Sg) (Q : Sg → Prop) : Prop :=
  Met l y (.code y cc nL none :: TB) (rmk k) (Pp Y G b av σ) (va_Qv Q (fun σ t => Hw Y G σ t.heap) (adA Y G)) 0 0 (adA Y G)
def Mq (Y : Ly) (G : Gx) (b : Nat) (l : Launch) (y : MethodName) (cc : ByteArray) (nL : Nat) (ty : FieldType) (k : Nat) (av : List Value) (σ : Sg) (Q : Option Nat → Sg → Prop) : Prop :=
  Met l y (.code y cc nL (some ty) :: TB) (rmk k) (Pp Y G b av σ) (va_Qq (pQ G Q) (fun σ t => Hw Y G σ t.heap) (adA Y G)) 0 0 (adA Y G)
theorem TB_of {w : Cond} (h : w ∈ lw_tbl) (hg : goodWord w = true) : w ∈ TB := List.mem_filter.mpr ⟨h, hg⟩
theorem TB_good {c0 : Cond} {y : MethodName} {cc : ByteArray} {nL : Nat} {ret : Option FieldType} (h : Cond.code y cc nL ret ∈ TB) : GoodIn TB (.code y cc nL ret :: TB) := by
  intro w hw
  rcases List.mem_cons.mp hw with rfl | hw
  · exact ⟨h, good_of_word (List.mem_filter.mp h).2⟩
  · exact ⟨hw, good_of_word (List.mem_filter.mp hw).2⟩
theorem Hw_get {Y : Ly} {G : Gx} {σ : Sg} (hk : Sok Y G) {i : Nat} (h : Y.2.1 i < 12) : (wl G.1 Y.1 (cC Y G σ))[i]? = some (G.1 i, cC Y G σ i) := wl_get (hk.1 i h)
theorem V.sub {Y : Ly} {G : Gx} {K : Kx} {Z : State → Prop} {nL : Nat} {σ : Sg} {pc : Nat} {lv lv' : List (Nat × Value)} {st : List Value} (ks : List Nat) (hk : lv_pick lv ks = lv') (h : V Y G K Z nL σ pc lv' st) : V Y G K Z nL σ pc lv st :=
  fun H locs ls h1 h2 h3 => h H locs ls h1 h2 (lv_sub h3 ks hk)
/-- a body's start -/
theorem enter {Y : Ly} {G : Gx} {b : Nat} {l : Launch} {y : MethodName} {cc : ByteArray} {nL : Nat} {ret : Option FieldType} {k : Nat} {av : List Value} {σ : Sg} {lv : List (Nat × Value)} {Qc : Array Value → State → Outcome → State → Prop}
    (hS : Sok Y G) (hy : plainName y.cls = true) (hn : (lg_sl av).length ≤ nL) (hlv : lv_args 0 av = lv)
    (h : ∀ K : Kx, K.2.1 = l → Cx Y G b K cc y.cls nL ret k → V Y G K (MQ (kB K) Qc (kA K) (kS K) 0 0 (adA Y G)) nL σ 0 lv []) :
    Met l y (.code y cc nL ret :: TB) (rmk k) (Pp Y G b av σ) Qc 0 0 (adA Y G) := by
  refine Met.ofW (cc := cc) (maxL := nL) (ret := ret) hy rfl ?_
  intro p e s m args below meth c s₁ B hml hv
  obtain ⟨rfl, hH, hB⟩ := hv
  have hts := atoms_spec (ws := .code y cc nL ret :: TB) B.pre
  have hl := lv_entry av (n := nL) hn
  rw [lg_entry_eq]
  generalize (lg_sl av ++ List.replicate (nL - (lg_sl av).length) Slot.unset).toArray = ls at hl ⊢
  rw [hlv] at hl
  exact h (p, l, e, rmk k, s, m, av.toArray, below, meth, c) rfl ⟨B.exec, B.bytes, hml, B.returns, findClass_of_methodNamed B.named, fun w hw => hts w (List.mem_cons_of_mem _ hw), hB, B.notSynchronized, hS, rfl⟩ s.heap [] ls hH va_S.rf hl

section RL
variable {Y : Ly} {G : Gx} {b : Nat} {K : Kx} {Z : State → Prop} {nL : Nat} {σ : Sg} {pc n : Nat} {lv lv2 : List (Nat × Value)} {rest : List Value} {cc : ByteArray} {own : String} {ret : Option FieldType} {k : Nat}
theorem r_iconst (hC : Cx Y G b K cc own nL ret k) {z : Int} {v : Int32} (d : decode cc pc = .ok (.iconst z, 1)) (hn : pc + 1 = n) (hv : Int32.ofInt z = v) (h : V Y G K Z nL σ n lv (.int v :: rest)) : V Y G K Z nL σ pc lv (rest) := by
  subst hn
  exact fun H locs ls h1 h2 h3 => lv_iconst hC.1 hC.2.1 d hv (h H locs ls h1 h2 h3)
theorem r_bipush (hC : Cx Y G b K cc own nL ret k) {z : Int} {v : Int32} (d : decode cc pc = .ok (.bipush z, 2)) (hn : pc + 2 = n) (hv : (Int8.ofInt z).toInt32 = v) (h : V Y G K Z nL σ n lv (.int v :: rest)) : V Y G K Z nL σ pc lv (rest) := by
  subst hn
  exact fun H locs ls h1 h2 h3 => lv_bipush hC.1 hC.2.1 d hv (h H locs ls h1 h2 h3)
theorem r_sipush (hC : Cx Y G b K cc own nL ret k) {z : Int} {v : Int32} (d : decode cc pc = .ok (.sipush z, 3)) (hn : pc + 3 = n) (hv : (Int16.ofInt z).toInt32 = v) (h : V Y G K Z nL σ n lv (.int v :: rest)) : V Y G K Z nL σ pc lv (rest) := by
  subst hn
  exact fun H locs ls h1 h2 h3 => lv_sipush hC.1 hC.2.1 d hv (h H locs ls h1 h2 h3)
theorem r_lconst (hC : Cx Y G b K cc own nL ret k) {z : Fin 2} {v : Int64} (d : decode cc pc = .ok (.lconst z, 1)) (hn : pc + 1 = n) (hv : Int64.ofNat (z : Nat) = v) (h : V Y G K Z nL σ n lv (.long v :: rest)) : V Y G K Z nL σ pc lv (rest) := by
  subst hn
  exact fun H locs ls h1 h2 h3 => lv_lconst hC.1 hC.2.1 d hv (h H locs ls h1 h2 h3)
theorem r_ldc (hC : Cx Y G b K cc own nL ret k) {z : Nat} {v : Int32} (d : decode cc pc = .ok (.ldc z, 2)) (hn : pc + 2 = n) (hw : Cond.constant own z v ∈ TB) (h : V Y G K Z nL σ n lv (.int v :: rest)) : V Y G K Z nL σ pc lv (rest) := by
  subst hn
  exact fun H locs ls h1 h2 h3 => lv_ldc hC.1 hC.2.1 hC.2.2.2.2.1 (hC.2.2.2.2.2.1 _ hw) d (h H locs ls h1 h2 h3)
theorem r_ldcw (hC : Cx Y G b K cc own nL ret k) {z : Nat} {v : Int32} (d : decode cc pc = .ok (.ldc_w z, 3)) (hn : pc + 3 = n) (hw : Cond.constant own z v ∈ TB) (h : V Y G K Z nL σ n lv (.int v :: rest)) : V Y G K Z nL σ pc lv (rest) := by
  subst hn
  exact fun H locs ls h1 h2 h3 => lv_ldcw hC.1 hC.2.1 hC.2.2.2.2.1 (hC.2.2.2.2.2.1 _ hw) d (h H locs ls h1 h2 h3)
theorem r_ldc2 (hC : Cx Y G b K cc own nL ret k) {z : Nat} {v : Int64} (d : decode cc pc = .ok (.ldc2_w z, 3)) (hn : pc + 3 = n) (hw : Cond.constantLong own z v ∈ TB) (h : V Y G K Z nL σ n lv (.long v :: rest)) : V Y G K Z nL σ pc lv (rest) := by
  subst hn
  exact fun H locs ls h1 h2 h3 => lv_ldc2 hC.1 hC.2.1 hC.2.2.2.2.1 (hC.2.2.2.2.2.1 _ hw) d (h H locs ls h1 h2 h3)
theorem r_null (hC : Cx Y G b K cc own nL ret k)  (d : decode cc pc = .ok (.aconst_null, 1)) (hn : pc + 1 = n)  (h : V Y G K Z nL σ n lv (rv G none :: rest)) : V Y G K Z nL σ pc lv (rest) := by
  subst hn
  exact fun H locs ls h1 h2 h3 => lv_null hC.1 hC.2.1 d (h H locs ls h1 h2 h3)
theorem r_iload_n (hC : Cx Y G b K cc own nL ret k) {q : Fin 4} (j : Nat) {i : Nat} {x : Int32} (d : decode cc pc = .ok (.iload_n q, 1)) (hn : pc + 1 = n) (hi : (q : Nat) = i) (hl : lv[j]? = some (i, .int x)) (h : V Y G K Z nL σ n lv (.int x :: rest)) : V Y G K Z nL σ pc lv (rest) := by
  subst hn
  exact fun H locs ls h1 h2 h3 => lv_iload_n hC.1 hC.2.1 d hi (lv_at h3 j hl) (h H locs ls h1 h2 h3)
theorem r_iload (hC : Cx Y G b K cc own nL ret k) (j : Nat) {i : Nat} {x : Int32} (d : decode cc pc = .ok (.iload i, 2)) (hn : pc + 2 = n) (hl : lv[j]? = some (i, .int x)) (h : V Y G K Z nL σ n lv (.int x :: rest)) : V Y G K Z nL σ pc lv (rest) := by
  subst hn
  exact fun H locs ls h1 h2 h3 => lv_iload hC.1 hC.2.1 d (lv_at h3 j hl) (h H locs ls h1 h2 h3)
theorem r_lload_n (hC : Cx Y G b K cc own nL ret k) {q : Fin 4} (j : Nat) {i : Nat} {x : Int64} (d : decode cc pc = .ok (.lload_n q, 1)) (hn : pc + 1 = n) (hi : (q : Nat) = i) (hl : lv[j]? = some (i, .long x)) (h : V Y G K Z nL σ n lv (.long x :: rest)) : V Y G K Z nL σ pc lv (rest) := by
  subst hn
  exact fun H locs ls h1 h2 h3 => lv_lload_n hC.1 hC.2.1 d hi (lv_at h3 j hl) (h H locs ls h1 h2 h3)
theorem r_lload (hC : Cx Y G b K cc own nL ret k) (j : Nat) {i : Nat} {x : Int64} (d : decode cc pc = .ok (.lload i, 2)) (hn : pc + 2 = n) (hl : lv[j]? = some (i, .long x)) (h : V Y G K Z nL σ n lv (.long x :: rest)) : V Y G K Z nL σ pc lv (rest) := by
  subst hn
  exact fun H locs ls h1 h2 h3 => lv_lload hC.1 hC.2.1 d (lv_at h3 j hl) (h H locs ls h1 h2 h3)
theorem r_aload_n (hC : Cx Y G b K cc own nL ret k) {q : Fin 4} (j : Nat) {i : Nat} {x : Nat} (d : decode cc pc = .ok (.aload_n q, 1)) (hn : pc + 1 = n) (hi : (q : Nat) = i) (hl : lv[j]? = some (i, .ref x)) (h : V Y G K Z nL σ n lv (.ref x :: rest)) : V Y G K Z nL σ pc lv (rest) := by
  subst hn
  exact fun H locs ls h1 h2 h3 => lv_aload_n hC.1 hC.2.1 d hi (lv_at h3 j hl) (h H locs ls h1 h2 h3)
theorem r_aload (hC : Cx Y G b K cc own nL ret k) (j : Nat) {i : Nat} {x : Nat} (d : decode cc pc = .ok (.aload i, 2)) (hn : pc + 2 = n) (hl : lv[j]? = some (i, .ref x)) (h : V Y G K Z nL σ n lv (.ref x :: rest)) : V Y G K Z nL σ pc lv (rest) := by
  subst hn
  exact fun H locs ls h1 h2 h3 => lv_aload hC.1 hC.2.1 d (lv_at h3 j hl) (h H locs ls h1 h2 h3)
theorem r_aload_nQ (hC : Cx Y G b K cc own nL ret k) {q : Fin 4} (j : Nat) {i : Nat} {x : Option Nat} (d : decode cc pc = .ok (.aload_n q, 1)) (hn : pc + 1 = n) (hi : (q : Nat) = i) (hl : lv[j]? = some (i, rv G x)) (h : V Y G K Z nL σ n lv (rv G x :: rest)) : V Y G K Z nL σ pc lv rest := by
  subst hn
  cases x with
  | none => exact fun H locs ls h1 h2 h3 => lv_aload_nN hC.1 hC.2.1 d hi (lv_at h3 j hl) (h H locs ls h1 h2 h3)
  | some x => exact fun H locs ls h1 h2 h3 => lv_aload_n hC.1 hC.2.1 d hi (lv_at h3 j hl) (h H locs ls h1 h2 h3)
theorem r_aloadQ (hC : Cx Y G b K cc own nL ret k) (j : Nat) {i : Nat} {x : Option Nat} (d : decode cc pc = .ok (.aload i, 2)) (hn : pc + 2 = n) (hl : lv[j]? = some (i, rv G x)) (h : V Y G K Z nL σ n lv (rv G x :: rest)) : V Y G K Z nL σ pc lv rest := by
  subst hn
  cases x with
  | none => exact fun H locs ls h1 h2 h3 => lv_aloadN hC.1 hC.2.1 d (lv_at h3 j hl) (h H locs ls h1 h2 h3)
  | some x => exact fun H locs ls h1 h2 h3 => lv_aload hC.1 hC.2.1 d (lv_at h3 j hl) (h H locs ls h1 h2 h3)
theorem r_istore_n (hC : Cx Y G b K cc own nL ret k) {q : Fin 4} {i : Nat} {x : Int32} (d : decode cc pc = .ok (.istore_n q, 1)) (hn : pc + 1 = n) (hi : (q : Nat) = i) (hl : i < nL) {x2 : Int32} (hx : x2 = x) (he : (i, Value.int x2) :: lv.filter (fun q => !(q.1 == i) && !(q.1 + 1 == i && q.2.category == 2)) = lv2) (h : V Y G K Z nL σ n lv2 rest) : V Y G K Z nL σ pc lv (.int x :: rest) := by
  subst hn; subst hx
  exact fun H locs ls h1 h2 h3 => lv_istore_n hC.1 hC.2.1 d hi h3 hl he (fun ls h3 => h H locs ls h1 h2 h3)
theorem r_istore (hC : Cx Y G b K cc own nL ret k) {i : Nat} {x : Int32} (d : decode cc pc = .ok (.istore i, 2)) (hn : pc + 2 = n)  (hl : i < nL) {x2 : Int32} (hx : x2 = x) (he : (i, Value.int x2) :: lv.filter (fun q => !(q.1 == i) && !(q.1 + 1 == i && q.2.category == 2)) = lv2) (h : V Y G K Z nL σ n lv2 rest) : V Y G K Z nL σ pc lv (.int x :: rest) := by
  subst hn; subst hx
  exact fun H locs ls h1 h2 h3 => lv_istore hC.1 hC.2.1 d h3 hl he (fun ls h3 => h H locs ls h1 h2 h3)
theorem r_lstore_n (hC : Cx Y G b K cc own nL ret k) {q : Fin 4} {i : Nat} {x : Int64} (d : decode cc pc = .ok (.lstore_n q, 1)) (hn : pc + 1 = n) (hi : (q : Nat) = i) (hl : i + 1 < nL) {x2 : Int64} (hx : x2 = x) (he : (i, Value.long x2) :: lv.filter (fun q => !(q.1 == i) && (!(q.1 == i + 1) && !(q.1 + 1 == i && q.2.category == 2))) = lv2) (h : V Y G K Z nL σ n lv2 rest) : V Y G K Z nL σ pc lv (.long x :: rest) := by
  subst hn; subst hx
  exact fun H locs ls h1 h2 h3 => lv_lstore_n hC.1 hC.2.1 d hi h3 hl he (fun ls h3 => h H locs ls h1 h2 h3)
theorem r_lstore (hC : Cx Y G b K cc own nL ret k) {i : Nat} {x : Int64} (d : decode cc pc = .ok (.lstore i, 2)) (hn : pc + 2 = n)  (hl : i + 1 < nL) {x2 : Int64} (hx : x2 = x) (he : (i, Value.long x2) :: lv.filter (fun q => !(q.1 == i) && (!(q.1 == i + 1) && !(q.1 + 1 == i && q.2.category == 2))) = lv2) (h : V Y G K Z nL σ n lv2 rest) : V Y G K Z nL σ pc lv (.long x :: rest) := by
  subst hn; subst hx
  exact fun H locs ls h1 h2 h3 => lv_lstore hC.1 hC.2.1 d h3 hl he (fun ls h3 => h H locs ls h1 h2 h3)
theorem r_astore_n (hC : Cx Y G b K cc own nL ret k) {q : Fin 4} {i : Nat} {x : Nat} (d : decode cc pc = .ok (.astore_n q, 1)) (hn : pc + 1 = n) (hi : (q : Nat) = i) (hl : i < nL) {x2 : Nat} (hx : x2 = x) (he : (i, Value.ref x2) :: lv.filter (fun q => !(q.1 == i) && !(q.1 + 1 == i && q.2.category == 2)) = lv2) (h : V Y G K Z nL σ n lv2 rest) : V Y G K Z nL σ pc lv (.ref x :: rest) := by
  subst hn; subst hx
  exact fun H locs ls h1 h2 h3 => lv_astore_n hC.1 hC.2.1 d hi h3 hl he (fun ls h3 => h H locs ls h1 h2 h3)
theorem r_astore (hC : Cx Y G b K cc own nL ret k) {i : Nat} {x : Nat} (d : decode cc pc = .ok (.astore i, 2)) (hn : pc + 2 = n)  (hl : i < nL) {x2 : Nat} (hx : x2 = x) (he : (i, Value.ref x2) :: lv.filter (fun q => !(q.1 == i) && !(q.1 + 1 == i && q.2.category == 2)) = lv2) (h : V Y G K Z nL σ n lv2 rest) : V Y G K Z nL σ pc lv (.ref x :: rest) := by
  subst hn; subst hx
  exact fun H locs ls h1 h2 h3 => lv_astore hC.1 hC.2.1 d h3 hl he (fun ls h3 => h H locs ls h1 h2 h3)
theorem r_astore_nQ (hC : Cx Y G b K cc own nL ret k) {q : Fin 4} {i : Nat} {x : Option Nat} (d : decode cc pc = .ok (.astore_n q, 1)) (hn : pc + 1 = n) (hi : (q : Nat) = i) (hl : i < nL) (he : (i, rv G x) :: lv.filter (fun q => !(q.1 == i) && !(q.1 + 1 == i && q.2.category == 2)) = lv2) (h : V Y G K Z nL σ n lv2 rest) : V Y G K Z nL σ pc lv (rv G x :: rest) := by
  subst hn
  cases x with
  | none => exact fun H locs ls h1 h2 h3 => lv_astore_nN hC.1 hC.2.1 d hi h3 hl he (fun ls h3 => h H locs ls h1 h2 h3)
  | some x => exact fun H locs ls h1 h2 h3 => lv_astore_n hC.1 hC.2.1 d hi h3 hl he (fun ls h3 => h H locs ls h1 h2 h3)
theorem r_astoreQ (hC : Cx Y G b K cc own nL ret k) {i : Nat} {x : Option Nat} (d : decode cc pc = .ok (.astore i, 2)) (hn : pc + 2 = n)  (hl : i < nL) (he : (i, rv G x) :: lv.filter (fun q => !(q.1 == i) && !(q.1 + 1 == i && q.2.category == 2)) = lv2) (h : V Y G K Z nL σ n lv2 rest) : V Y G K Z nL σ pc lv (rv G x :: rest) := by
  subst hn
  cases x with
  | none => exact fun H locs ls h1 h2 h3 => lv_astoreN hC.1 hC.2.1 d h3 hl he (fun ls h3 => h H locs ls h1 h2 h3)
  | some x => exact fun H locs ls h1 h2 h3 => lv_astore hC.1 hC.2.1 d h3 hl he (fun ls h3 => h H locs ls h1 h2 h3)
theorem r_iinc (hC : Cx Y G b K cc own nL ret k) {i j : Nat} {z : Int} {x v zz : Int32} (d : decode cc pc = .ok (.iinc i z, 3)) (hn : pc + 3 = n) (hj : lv[j]? = some (i, .int x)) (hz : Int32.ofInt z = zz) (hv : v = x + zz) (hl : i < nL) (he : (i, Value.int v) :: lv.filter (fun q => !(q.1 == i) && !(q.1 + 1 == i && q.2.category == 2)) = lv2) (h : V Y G K Z nL σ n lv2 rest) : V Y G K Z nL σ pc lv rest := by
  subst hn
  exact fun H locs ls h1 h2 h3 => lv_iinc hC.1 hC.2.1 d h3 hj (by rw [hz, hv]) hl he (fun ls h3 => h H locs ls h1 h2 h3)
theorem r_iadd (hC : Cx Y G b K cc own nL ret k) {x y : Int32} (d : decode cc pc = .ok (.iadd, 1)) (hn : pc + 1 = n)  (h : V Y G K Z nL σ n lv (.int (x + y) :: rest)) : V Y G K Z nL σ pc lv (.int y :: .int x :: rest) := by
  subst hn
  exact fun H locs ls h1 h2 h3 => lv_iadd hC.1 hC.2.1 d (h H locs ls h1 h2 h3)
theorem r_isub (hC : Cx Y G b K cc own nL ret k) {x y : Int32} (d : decode cc pc = .ok (.isub, 1)) (hn : pc + 1 = n)  (h : V Y G K Z nL σ n lv (.int (x - y) :: rest)) : V Y G K Z nL σ pc lv (.int y :: .int x :: rest) := by
  subst hn
  exact fun H locs ls h1 h2 h3 => lv_isub hC.1 hC.2.1 d (h H locs ls h1 h2 h3)
theorem r_imul (hC : Cx Y G b K cc own nL ret k) {x y : Int32} (d : decode cc pc = .ok (.imul, 1)) (hn : pc + 1 = n)  (h : V Y G K Z nL σ n lv (.int (x * y) :: rest)) : V Y G K Z nL σ pc lv (.int y :: .int x :: rest) := by
  subst hn
  exact fun H locs ls h1 h2 h3 => lv_imul hC.1 hC.2.1 d (h H locs ls h1 h2 h3)
theorem r_iand (hC : Cx Y G b K cc own nL ret k) {x y : Int32} (d : decode cc pc = .ok (.iand, 1)) (hn : pc + 1 = n)  (h : V Y G K Z nL σ n lv (.int (x &&& y) :: rest)) : V Y G K Z nL σ pc lv (.int y :: .int x :: rest) := by
  subst hn
  exact fun H locs ls h1 h2 h3 => lv_iand hC.1 hC.2.1 d (h H locs ls h1 h2 h3)
theorem r_ior (hC : Cx Y G b K cc own nL ret k) {x y : Int32} (d : decode cc pc = .ok (.ior, 1)) (hn : pc + 1 = n)  (h : V Y G K Z nL σ n lv (.int (x ||| y) :: rest)) : V Y G K Z nL σ pc lv (.int y :: .int x :: rest) := by
  subst hn
  exact fun H locs ls h1 h2 h3 => lv_ior hC.1 hC.2.1 d (h H locs ls h1 h2 h3)
theorem r_ixor (hC : Cx Y G b K cc own nL ret k) {x y : Int32} (d : decode cc pc = .ok (.ixor, 1)) (hn : pc + 1 = n)  (h : V Y G K Z nL σ n lv (.int (x ^^^ y) :: rest)) : V Y G K Z nL σ pc lv (.int y :: .int x :: rest) := by
  subst hn
  exact fun H locs ls h1 h2 h3 => lv_ixor hC.1 hC.2.1 d (h H locs ls h1 h2 h3)
theorem r_ishl (hC : Cx Y G b K cc own nL ret k) {x y : Int32} (d : decode cc pc = .ok (.ishl, 1)) (hn : pc + 1 = n)  (h : V Y G K Z nL σ n lv (.int (x <<< (y &&& 31)) :: rest)) : V Y G K Z nL σ pc lv (.int y :: .int x :: rest) := by
  subst hn
  exact fun H locs ls h1 h2 h3 => lv_ishl hC.1 hC.2.1 d (h H locs ls h1 h2 h3)
theorem r_ladd (hC : Cx Y G b K cc own nL ret k) {x y : Int64} (d : decode cc pc = .ok (.ladd, 1)) (hn : pc + 1 = n)  (h : V Y G K Z nL σ n lv (.long (x + y) :: rest)) : V Y G K Z nL σ pc lv (.long y :: .long x :: rest) := by
  subst hn
  exact fun H locs ls h1 h2 h3 => lv_ladd hC.1 hC.2.1 d (h H locs ls h1 h2 h3)
theorem r_lsub (hC : Cx Y G b K cc own nL ret k) {x y : Int64} (d : decode cc pc = .ok (.lsub, 1)) (hn : pc + 1 = n)  (h : V Y G K Z nL σ n lv (.long (x - y) :: rest)) : V Y G K Z nL σ pc lv (.long y :: .long x :: rest) := by
  subst hn
  exact fun H locs ls h1 h2 h3 => lv_lsub hC.1 hC.2.1 d (h H locs ls h1 h2 h3)
theorem r_lmul (hC : Cx Y G b K cc own nL ret k) {x y : Int64} (d : decode cc pc = .ok (.lmul, 1)) (hn : pc + 1 = n)  (h : V Y G K Z nL σ n lv (.long (x * y) :: rest)) : V Y G K Z nL σ pc lv (.long y :: .long x :: rest) := by
  subst hn
  exact fun H locs ls h1 h2 h3 => lv_lmul hC.1 hC.2.1 d (h H locs ls h1 h2 h3)
theorem r_land (hC : Cx Y G b K cc own nL ret k) {x y : Int64} (d : decode cc pc = .ok (.land, 1)) (hn : pc + 1 = n)  (h : V Y G K Z nL σ n lv (.long (x &&& y) :: rest)) : V Y G K Z nL σ pc lv (.long y :: .long x :: rest) := by
  subst hn
  exact fun H locs ls h1 h2 h3 => lv_land hC.1 hC.2.1 d (h H locs ls h1 h2 h3)
theorem r_lor (hC : Cx Y G b K cc own nL ret k) {x y : Int64} (d : decode cc pc = .ok (.lor, 1)) (hn : pc + 1 = n)  (h : V Y G K Z nL σ n lv (.long (x ||| y) :: rest)) : V Y G K Z nL σ pc lv (.long y :: .long x :: rest) := by
  subst hn
  exact fun H locs ls h1 h2 h3 => lv_lor hC.1 hC.2.1 d (h H locs ls h1 h2 h3)
theorem r_idiv (hC : Cx Y G b K cc own nL ret k) {x y : Int32} (d : decode cc pc = .ok (.idiv, 1)) (hn : pc + 1 = n) (hne : ¬ y = 0) (h : V Y G K Z nL σ n lv (.int (x / y) :: rest)) : V Y G K Z nL σ pc lv (.int y :: .int x :: rest) := by
  subst hn
  exact fun H locs ls h1 h2 h3 => lv_idiv hC.1 hC.2.1 d hne (h H locs ls h1 h2 h3)
theorem r_ldiv (hC : Cx Y G b K cc own nL ret k) {x y : Int64} (d : decode cc pc = .ok (.ldiv, 1)) (hn : pc + 1 = n) (hne : ¬ y = 0) (h : V Y G K Z nL σ n lv (.long (x / y) :: rest)) : V Y G K Z nL σ pc lv (.long y :: .long x :: rest) := by
  subst hn
  exact fun H locs ls h1 h2 h3 => lv_ldiv hC.1 hC.2.1 d hne (h H locs ls h1 h2 h3)
theorem r_lrem (hC : Cx Y G b K cc own nL ret k) {x y : Int64} (d : decode cc pc = .ok (.lrem, 1)) (hn : pc + 1 = n) (hne : ¬ y = 0) (h : V Y G K Z nL σ n lv (.long (x - x / y * y) :: rest)) : V Y G K Z nL σ pc lv (.long y :: .long x :: rest) := by
  subst hn
  exact fun H locs ls h1 h2 h3 => lv_lrem hC.1 hC.2.1 d hne (h H locs ls h1 h2 h3)
theorem r_ineg (hC : Cx Y G b K cc own nL ret k) {x : Int32} (d : decode cc pc = .ok (.ineg, 1)) (hn : pc + 1 = n)  (h : V Y G K Z nL σ n lv (.int (-x) :: rest)) : V Y G K Z nL σ pc lv (.int x :: rest) := by
  subst hn
  exact fun H locs ls h1 h2 h3 => lv_ineg hC.1 hC.2.1 d (h H locs ls h1 h2 h3)
theorem r_lshl (hC : Cx Y G b K cc own nL ret k) {x : Int64} {y : Int32} (d : decode cc pc = .ok (.lshl, 1)) (hn : pc + 1 = n)  (h : V Y G K Z nL σ n lv (.long (x <<< (y.toInt64 &&& 63)) :: rest)) : V Y G K Z nL σ pc lv (.int y :: .long x :: rest) := by
  subst hn
  exact fun H locs ls h1 h2 h3 => lv_lshl hC.1 hC.2.1 d rfl (h H locs ls h1 h2 h3)
theorem r_i2l (hC : Cx Y G b K cc own nL ret k) {x : Int32} (d : decode cc pc = .ok (.i2l, 1)) (hn : pc + 1 = n)  (h : V Y G K Z nL σ n lv (.long x.toInt64 :: rest)) : V Y G K Z nL σ pc lv (.int x :: rest) := by
  subst hn
  exact fun H locs ls h1 h2 h3 => lv_i2l hC.1 hC.2.1 d rfl (h H locs ls h1 h2 h3)
theorem r_l2i (hC : Cx Y G b K cc own nL ret k) {x : Int64} (d : decode cc pc = .ok (.l2i, 1)) (hn : pc + 1 = n)  (h : V Y G K Z nL σ n lv (.int x.toInt32 :: rest)) : V Y G K Z nL σ pc lv (.long x :: rest) := by
  subst hn
  exact fun H locs ls h1 h2 h3 => lv_l2i hC.1 hC.2.1 d rfl (h H locs ls h1 h2 h3)
theorem r_i2s (hC : Cx Y G b K cc own nL ret k) {x : Int32} (d : decode cc pc = .ok (.i2s, 1)) (hn : pc + 1 = n)  (h : V Y G K Z nL σ n lv (.int x.toInt16.toInt32 :: rest)) : V Y G K Z nL σ pc lv (.int x :: rest) := by
  subst hn
  exact fun H locs ls h1 h2 h3 => lv_i2s hC.1 hC.2.1 d rfl (h H locs ls h1 h2 h3)
theorem r_lcmp (hC : Cx Y G b K cc own nL ret k) {x y : Int64} (d : decode cc pc = .ok (.lcmp, 1)) (hn : pc + 1 = n)  (h : V Y G K Z nL σ n lv (.int (lg_cmp x y) :: rest)) : V Y G K Z nL σ pc lv (.long y :: .long x :: rest) := by
  subst hn
  exact fun H locs ls h1 h2 h3 => W.lcmp hC.1 hC.2.1 d (h H locs ls h1 h2 h3)
theorem r_dup (hC : Cx Y G b K cc own nL ret k) {x : Value} (d : decode cc pc = .ok (.dup, 1)) (hn : pc + 1 = n) (hc : x.category = 1) (h : V Y G K Z nL σ n lv (x :: x :: rest)) : V Y G K Z nL σ pc lv (x :: rest) := by
  subst hn
  exact fun H locs ls h1 h2 h3 => lv_dup hC.1 hC.2.1 d hc (h H locs ls h1 h2 h3)
theorem r_pop (hC : Cx Y G b K cc own nL ret k) {x : Value} (d : decode cc pc = .ok (.pop, 1)) (hn : pc + 1 = n) (hc : x.category = 1) (h : V Y G K Z nL σ n lv (rest)) : V Y G K Z nL σ pc lv (x :: rest) := by
  subst hn
  exact fun H locs ls h1 h2 h3 => lv_pop hC.1 hC.2.1 d hc (h H locs ls h1 h2 h3)
theorem r_dup2 (hC : Cx Y G b K cc own nL ret k) {x y : Value} (d : decode cc pc = .ok (.dup2, 1)) (hn : pc + 1 = n) (hc : x.category = 1) (hc2 : y.category = 1) (h : V Y G K Z nL σ n lv (x :: y :: x :: y :: rest)) : V Y G K Z nL σ pc lv (x :: y :: rest) := by
  subst hn
  exact fun H locs ls h1 h2 h3 => lv_dup2_11 hC.1 hC.2.1 d hc hc2 (h H locs ls h1 h2 h3)
theorem r_dup2L (hC : Cx Y G b K cc own nL ret k) {x : Value} (d : decode cc pc = .ok (.dup2, 1)) (hn : pc + 1 = n) (hc : x.category = 2) (h : V Y G K Z nL σ n lv (x :: x :: rest)) : V Y G K Z nL σ pc lv (x :: rest) := by
  subst hn
  exact fun H locs ls h1 h2 h3 => lv_dup2_2 hC.1 hC.2.1 d hc (h H locs ls h1 h2 h3)
theorem r_if_eq (hC : Cx Y G b K cc own nL ret k) {x : Int32} {off : Int} {tgt : Nat} (d : decode cc pc = .ok (.ifCond .eq off, 3)) (hn : pc + 3 = n) (ht : (pc : Int) + off = (tgt : Int)) (a : x = 0 → V Y G K Z nL σ tgt lv rest) (h : ¬ x = 0 → V Y G K Z nL σ n lv rest) : V Y G K Z nL σ pc lv (.int x :: rest) := by
  subst hn
  exact fun H locs ls h1 h2 h3 => lv_if_eq hC.1 hC.2.1 d ht (fun q => a q H locs ls h1 h2 h3) (fun q => h q H locs ls h1 h2 h3)
theorem r_if_ne (hC : Cx Y G b K cc own nL ret k) {x : Int32} {off : Int} {tgt : Nat} (d : decode cc pc = .ok (.ifCond .ne off, 3)) (hn : pc + 3 = n) (ht : (pc : Int) + off = (tgt : Int)) (a : ¬ x = 0 → V Y G K Z nL σ tgt lv rest) (h : x = 0 → V Y G K Z nL σ n lv rest) : V Y G K Z nL σ pc lv (.int x :: rest) := by
  subst hn
  exact fun H locs ls h1 h2 h3 => lv_if_ne hC.1 hC.2.1 d ht (fun q => a q H locs ls h1 h2 h3) (fun q => h q H locs ls h1 h2 h3)
theorem r_if_lt (hC : Cx Y G b K cc own nL ret k) {x : Int32} {off : Int} {tgt : Nat} (d : decode cc pc = .ok (.ifCond .lt off, 3)) (hn : pc + 3 = n) (ht : (pc : Int) + off = (tgt : Int)) (a : x < 0 → V Y G K Z nL σ tgt lv rest) (h : ¬ x < 0 → V Y G K Z nL σ n lv rest) : V Y G K Z nL σ pc lv (.int x :: rest) := by
  subst hn
  exact fun H locs ls h1 h2 h3 => lv_if_lt hC.1 hC.2.1 d ht (fun q => a q H locs ls h1 h2 h3) (fun q => h q H locs ls h1 h2 h3)
theorem r_if_ge (hC : Cx Y G b K cc own nL ret k) {x : Int32} {off : Int} {tgt : Nat} (d : decode cc pc = .ok (.ifCond .ge off, 3)) (hn : pc + 3 = n) (ht : (pc : Int) + off = (tgt : Int)) (a : 0 ≤ x → V Y G K Z nL σ tgt lv rest) (h : ¬ 0 ≤ x → V Y G K Z nL σ n lv rest) : V Y G K Z nL σ pc lv (.int x :: rest) := by
  subst hn
  exact fun H locs ls h1 h2 h3 => lv_if_ge hC.1 hC.2.1 d ht (fun q => a q H locs ls h1 h2 h3) (fun q => h q H locs ls h1 h2 h3)
theorem r_if_gt (hC : Cx Y G b K cc own nL ret k) {x : Int32} {off : Int} {tgt : Nat} (d : decode cc pc = .ok (.ifCond .gt off, 3)) (hn : pc + 3 = n) (ht : (pc : Int) + off = (tgt : Int)) (a : 0 < x → V Y G K Z nL σ tgt lv rest) (h : ¬ 0 < x → V Y G K Z nL σ n lv rest) : V Y G K Z nL σ pc lv (.int x :: rest) := by
  subst hn
  exact fun H locs ls h1 h2 h3 => lv_if_gt hC.1 hC.2.1 d ht (fun q => a q H locs ls h1 h2 h3) (fun q => h q H locs ls h1 h2 h3)
theorem r_if_le (hC : Cx Y G b K cc own nL ret k) {x : Int32} {off : Int} {tgt : Nat} (d : decode cc pc = .ok (.ifCond .le off, 3)) (hn : pc + 3 = n) (ht : (pc : Int) + off = (tgt : Int)) (a : x ≤ 0 → V Y G K Z nL σ tgt lv rest) (h : ¬ x ≤ 0 → V Y G K Z nL σ n lv rest) : V Y G K Z nL σ pc lv (.int x :: rest) := by
  subst hn
  exact fun H locs ls h1 h2 h3 => lv_if_le hC.1 hC.2.1 d ht (fun q => a q H locs ls h1 h2 h3) (fun q => h q H locs ls h1 h2 h3)
theorem r_icmp_eq (hC : Cx Y G b K cc own nL ret k) {x y : Int32} {off : Int} {tgt : Nat} (d : decode cc pc = .ok (.if_icmp .eq off, 3)) (hn : pc + 3 = n) (ht : (pc : Int) + off = (tgt : Int)) (a : x = y → V Y G K Z nL σ tgt lv rest) (h : ¬ x = y → V Y G K Z nL σ n lv rest) : V Y G K Z nL σ pc lv (.int y :: .int x :: rest) := by
  subst hn
  exact fun H locs ls h1 h2 h3 => lv_icmp_eq hC.1 hC.2.1 d ht (fun q => a q H locs ls h1 h2 h3) (fun q => h q H locs ls h1 h2 h3)
theorem r_icmp_ne (hC : Cx Y G b K cc own nL ret k) {x y : Int32} {off : Int} {tgt : Nat} (d : decode cc pc = .ok (.if_icmp .ne off, 3)) (hn : pc + 3 = n) (ht : (pc : Int) + off = (tgt : Int)) (a : ¬ x = y → V Y G K Z nL σ tgt lv rest) (h : x = y → V Y G K Z nL σ n lv rest) : V Y G K Z nL σ pc lv (.int y :: .int x :: rest) := by
  subst hn
  exact fun H locs ls h1 h2 h3 => lv_icmp_ne hC.1 hC.2.1 d ht (fun q => a q H locs ls h1 h2 h3) (fun q => h q H locs ls h1 h2 h3)
theorem r_icmp_lt (hC : Cx Y G b K cc own nL ret k) {x y : Int32} {off : Int} {tgt : Nat} (d : decode cc pc = .ok (.if_icmp .lt off, 3)) (hn : pc + 3 = n) (ht : (pc : Int) + off = (tgt : Int)) (a : x < y → V Y G K Z nL σ tgt lv rest) (h : ¬ x < y → V Y G K Z nL σ n lv rest) : V Y G K Z nL σ pc lv (.int y :: .int x :: rest) := by
  subst hn
  exact fun H locs ls h1 h2 h3 => lv_icmp_lt hC.1 hC.2.1 d ht (fun q => a q H locs ls h1 h2 h3) (fun q => h q H locs ls h1 h2 h3)
theorem r_icmp_ge (hC : Cx Y G b K cc own nL ret k) {x y : Int32} {off : Int} {tgt : Nat} (d : decode cc pc = .ok (.if_icmp .ge off, 3)) (hn : pc + 3 = n) (ht : (pc : Int) + off = (tgt : Int)) (a : y ≤ x → V Y G K Z nL σ tgt lv rest) (h : ¬ y ≤ x → V Y G K Z nL σ n lv rest) : V Y G K Z nL σ pc lv (.int y :: .int x :: rest) := by
  subst hn
  exact fun H locs ls h1 h2 h3 => lv_icmp_ge hC.1 hC.2.1 d ht (fun q => a q H locs ls h1 h2 h3) (fun q => h q H locs ls h1 h2 h3)
theorem r_icmp_gt (hC : Cx Y G b K cc own nL ret k) {x y : Int32} {off : Int} {tgt : Nat} (d : decode cc pc = .ok (.if_icmp .gt off, 3)) (hn : pc + 3 = n) (ht : (pc : Int) + off = (tgt : Int)) (a : y < x → V Y G K Z nL σ tgt lv rest) (h : ¬ y < x → V Y G K Z nL σ n lv rest) : V Y G K Z nL σ pc lv (.int y :: .int x :: rest) := by
  subst hn
  exact fun H locs ls h1 h2 h3 => lv_icmp_gt hC.1 hC.2.1 d ht (fun q => a q H locs ls h1 h2 h3) (fun q => h q H locs ls h1 h2 h3)
theorem r_icmp_le (hC : Cx Y G b K cc own nL ret k) {x y : Int32} {off : Int} {tgt : Nat} (d : decode cc pc = .ok (.if_icmp .le off, 3)) (hn : pc + 3 = n) (ht : (pc : Int) + off = (tgt : Int)) (a : x ≤ y → V Y G K Z nL σ tgt lv rest) (h : ¬ x ≤ y → V Y G K Z nL σ n lv rest) : V Y G K Z nL σ pc lv (.int y :: .int x :: rest) := by
  subst hn
  exact fun H locs ls h1 h2 h3 => lv_icmp_le hC.1 hC.2.1 d ht (fun q => a q H locs ls h1 h2 h3) (fun q => h q H locs ls h1 h2 h3)
theorem r_goto (hC : Cx Y G b K cc own nL ret k) {off : Int} {tgt : Nat} (d : decode cc pc = .ok (.goto off, 3)) (ht : (pc : Int) + off = (tgt : Int)) (h : V Y G K Z nL σ tgt lv rest) : V Y G K Z nL σ pc lv rest :=
  fun H locs ls h1 h2 h3 => lv_goto hC.1 hC.2.1 d ht (h H locs ls h1 h2 h3)
theorem r_ifnull (hC : Cx Y G b K cc own nL ret k) {x : Option Nat} {off : Int} {tgt : Nat} (d : decode cc pc = .ok (.ifnull off, 3)) (hn : pc + 3 = n) (ht : (pc : Int) + off = (tgt : Int)) (a : x = none → V Y G K Z nL σ tgt lv rest) (h : ∀ q, x = some q → V Y G K Z nL σ n lv rest) : V Y G K Z nL σ pc lv (rv G x :: rest) := by
  subst hn
  cases x with
  | none => exact fun H locs ls h1 h2 h3 => lv_ifnullN hC.1 hC.2.1 d ht (a rfl H locs ls h1 h2 h3)
  | some x => exact fun H locs ls h1 h2 h3 => lv_ifnull hC.1 hC.2.1 d (h x rfl H locs ls h1 h2 h3)
theorem r_ifnonnull (hC : Cx Y G b K cc own nL ret k) {x : Option Nat} {off : Int} {tgt : Nat} (d : decode cc pc = .ok (.ifnonnull off, 3)) (hn : pc + 3 = n) (ht : (pc : Int) + off = (tgt : Int)) (a : ∀ q, x = some q → V Y G K Z nL σ tgt lv rest) (h : x = none → V Y G K Z nL σ n lv rest) : V Y G K Z nL σ pc lv (rv G x :: rest) := by
  subst hn
  cases x with
  | none => exact fun H locs ls h1 h2 h3 => lv_ifnonnullN hC.1 hC.2.1 d (h rfl H locs ls h1 h2 h3)
  | some x => exact fun H locs ls h1 h2 h3 => lv_ifnonnull hC.1 hC.2.1 d ht (a x rfl H locs ls h1 h2 h3)
theorem r_swIn (hC : Cx Y G b K cc own nL ret k) {x : Int32} {dflt lo hi off : Int} {offs : Array Int} {len tgt : Nat} (d : decode cc pc = .ok (.tableswitch dflt lo hi offs, len)) (h1 : ¬ x.toInt < lo) (h2 : ¬ hi < x.toInt) (ho : offs[(x.toInt - lo).toNat]? = some off) (ht : (pc : Int) + off = (tgt : Int)) (h : V Y G K Z nL σ tgt lv rest) : V Y G K Z nL σ pc lv (.int x :: rest) :=
  fun H locs ls a1 a2 a3 => lv_tableIn hC.1 hC.2.1 d h1 h2 ho ht (h H locs ls a1 a2 a3)
theorem r_swOut (hC : Cx Y G b K cc own nL ret k) {x : Int32} {dflt lo hi : Int} {offs : Array Int} {len tgt : Nat} (d : decode cc pc = .ok (.tableswitch dflt lo hi offs, len)) (h1 : x.toInt < lo ∨ hi < x.toInt) (ht : (pc : Int) + dflt = (tgt : Int)) (h : V Y G K Z nL σ tgt lv rest) : V Y G K Z nL σ pc lv (.int x :: rest) :=
  fun H locs ls a1 a2 a3 => lv_tableOut hC.1 hC.2.1 d h1 ht (h H locs ls a1 a2 a3)
/-- a field's words: the class (number ci, of N fields), the field k, its row in the constant pool -/
def Fw (own : String) (idx ci : Nat) (C : String) (T : u_T) (N k c : Nat) : Prop := (∀ w ∈ u_ws C T N, w ∈ TB) ∧ vwCl[ci]? = some (C, T, N) ∧ k < N ∧ (Cond.fieldLink own idx C (T k).2.1 (T k).2.2.1 ∈ TB ∨ ∃ host, Cond.fieldLinkNest own idx C (T k).2.1 (T k).2.2.1 host ∈ NW) ∧ (T k).1 = C ∧ ci < 8 ∧ (tmF ci)[k]? = some c
theorem r_get (hC : Cx Y G b K cc own nL ret k) (i ci fk : Nat) {C : String} {T : u_T} {N c idx : Nat} (hF : Fw own idx ci C T N fk c) (hc : Y.2.1 i = ci) (d : decode cc pc = .ok (.getfield idx, 3)) (hn : pc + 3 = n) (h : V Y G K Z nL σ n lv (fv G σ i fk c :: rest)) : V Y G K Z nL σ pc lv (.ref (G.1 i) :: rest) := by
  subst hn
  obtain ⟨f1, f2, f3, f4, f5, f6, f7⟩ := hF
  obtain ⟨c1, c2, c3, c4, c5, c6, c7, c8, c9, c10⟩ := hC
  intro H locs ls h1 h2 h3
  have he := Hw_get (σ := σ) c9 (i := i) (by omega)
  rw [cC_obj hc f6] at he
  have hv : (fvs G σ i (tmF ci) 0)[fk]? = some (fv G σ i fk c) := by rw [fvs_get, f7]; simp
  rcases f4 with f4 | ⟨host, f4⟩
  · exact va_get c1 c2 c6 f1 c5 c7.1 h1 i he f2 fk f3 (c6 _ f4) (fun x q => by rw [f5] at q; exact q) hv d (h H locs ls h1 h2 h3)
  · exact va_getN c1 c2 c6 f1 c5 c7.1 h1 i he f2 fk f3 (va_Nw.use rfl (c7.2.1 _ f4)) (fun x q => by rw [f5] at q; exact q) hv d (h H locs ls h1 h2 h3)
theorem r_geti (hC : Cx Y G b K cc own nL ret k) (i ci fk : Nat) {C : String} {T : u_T} {N idx : Nat} (hF : Fw own idx ci C T N fk 0) (hc : Y.2.1 i = ci) (d : decode cc pc = .ok (.getfield idx, 3)) (hn : pc + 3 = n) (h : V Y G K Z nL σ n lv (.int (σ.1 i fk) :: rest)) : V Y G K Z nL σ pc lv (.ref (G.1 i) :: rest) := r_get hC i ci fk hF hc d hn h
theorem r_getd (hC : Cx Y G b K cc own nL ret k) (i ci fk : Nat) {C : String} {T : u_T} {N idx : Nat} (hF : Fw own idx ci C T N fk 1) (hc : Y.2.1 i = ci) (d : decode cc pc = .ok (.getfield idx, 3)) (hn : pc + 3 = n) (h : V Y G K Z nL σ n lv (.ref (G.1 (σ.2.2 i fk)) :: rest)) : V Y G K Z nL σ pc lv (.ref (G.1 i) :: rest) := r_get hC i ci fk hF hc d hn h
theorem r_getr (hC : Cx Y G b K cc own nL ret k) (i ci fk q : Nat) {C : String} {T : u_T} {N idx o : Nat} (hF : Fw own idx ci C T N fk (o + 2)) (hc : Y.2.1 i = ci) (hq : i + o = q) (d : decode cc pc = .ok (.getfield idx, 3)) (hn : pc + 3 = n) (h : V Y G K Z nL σ n lv (.ref (G.1 q) :: rest)) : V Y G K Z nL σ pc lv (.ref (G.1 i) :: rest) := by
  subst hq
  refine r_get hC i ci fk hF hc d hn ?_
  have e : fv G σ i fk (o + 2) = .ref (G.1 (i + o)) := by simp [fv]
  rw [e]
  exact h
theorem r_putG (hC : Cx Y G b K cc own nL ret k) (i ci fk : Nat) {C : String} {T : u_T} {N c idx : Nat} {v : Value} {ty : FieldType} {τ : Sg} (ty0 : Nat → FieldType) (hF : Fw own idx ci C T N fk c) (hc : Y.2.1 i = ci) (hty : ∀ k, k < N → parseFieldDescriptor (T k).2.2.1 = some (ty0 k)) (hnm : ∀ a, a < N → ∀ b, b < N → a ≠ b → (T a).2.1 ≠ (T b).2.1) (hfin : (T fk).2.2.2 = false) (hd : parseFieldDescriptor (T fk).2.2.1 = some ty) (hna : narrow ty v = v) (hfit : fits ty v = true)
    (hu : va_up (cC Y G σ) i (.inr (ci, (fvs G σ i (tmF ci) 0).set fk v)) = cC Y G τ) (d : decode cc pc = .ok (.putfield idx, 3)) (hn : pc + 3 = n) (h : V Y G K Z nL τ n lv rest) : V Y G K Z nL σ pc lv (v :: .ref (G.1 i) :: rest) := by
  subst hn
  obtain ⟨f1, f2, f3, f4, f5, f6, f7⟩ := hF
  obtain ⟨c1, c2, c3, c4, c5, c6, c7, c8, c9, c10⟩ := hC
  intro H locs ls h1 h2 h3
  have he := Hw_get (σ := σ) c9 (i := i) (by omega)
  rw [cC_obj hc f6] at he
  have hN : i < Y.1 := c9.1 i (by omega)
  have hl : fk < (fvs G σ i (tmF ci) 0).length := by rw [fvs_len]; exact (List.getElem?_eq_some_iff.mp f7).1
  have kk : ∀ (H1 : Heap) (locs1 : List Loc), va_P (G.2.1, G.2.2.1) vwCl ((wl G.1 Y.1 (cC Y G σ)).set i (G.1 i, .inr (ci, (fvs G σ i (tmF ci) 0).set fk v))) H1 → va_D (adA Y G) ((wl G.1 Y.1 (cC Y G σ)).set i (G.1 i, .inr (ci, (fvs G σ i (tmF ci) 0).set fk v))) → va_S (adA Y G) (kS K).heap H1 locs1 → W K.1 K.2.1 K.2.2.1 K.2.2.2.1 (kS K) (kM K) (kA K) (kB K) K.2.2.2.2.2.2.2.2.1 K.2.2.2.2.2.2.2.2.2 H1 locs1 0 0 Z (F0 (kM K) (pc + 3) ls rest) := by
    intro H1 locs1 q1 q2 q3
    rw [wl_set hN, hu] at q1
    exact h H1 locs1 ls q1 q3 h3
  rcases f4 with f4 | ⟨host, f4⟩
  · exact va_put c1 c2 c6 f1 ty0 hty hnm c5 c7.1 h1 (vaD Y G c9 _) h2 i he f2 fk f3 (c6 _ f4) (fun x q => by rw [f5] at q; exact q) hfin hd hna hfit hl d kk
  · exact va_putN c1 c2 c6 f1 ty0 hty hnm c5 c7.1 h1 (vaD Y G c9 _) h2 i he f2 fk f3 (va_Nw.use rfl (c7.2.1 _ f4)) (fun x q => by rw [f5] at q; exact q) hfin hd hna hfit hl d kk
/-- what a field that may be written needs -/
def Fp (ci fk : Nat) (C : String) (T : u_T) (N : Nat) (ty0 : Nat → FieldType) (ty : FieldType) : Prop := (∀ k, k < N → parseFieldDescriptor (T k).2.2.1 = some (ty0 k)) ∧ (∀ a, a < N → ∀ b, b < N → a ≠ b → (T a).2.1 ≠ (T b).2.1) ∧ (T fk).2.2.2 = false ∧ parseFieldDescriptor (T fk).2.2.1 = some ty
theorem r_puti (hC : Cx Y G b K cc own nL ret k) (i ci fk : Nat) {C : String} {T : u_T} {N idx : Nat} {v : Int32} {ty0 : Nat → FieldType} {τ : Sg} (hF : Fw own idx ci C T N fk 0) (hP : Fp ci fk C T N ty0 .int) (hc : Y.2.1 i = ci) (hτ : τ = sI σ i (upd (σ.1 i) fk v)) (d : decode cc pc = .ok (.putfield idx, 3)) (hn : pc + 3 = n) (h : V Y G K Z nL τ n lv rest) : V Y G K Z nL σ pc lv (.int v :: .ref (G.1 i) :: rest) := by
  subst hτ
  exact r_putG hC i ci fk ty0 hF hc hP.1 hP.2.1 hP.2.2.1 hP.2.2.2 rfl rfl (cC_put hc hF.2.2.2.2.2.1 hF.2.2.2.2.2.2) d hn h
theorem r_putz (hC : Cx Y G b K cc own nL ret k) (i ci fk : Nat) {C : String} {T : u_T} {N idx : Nat} {v : Int32} {ty0 : Nat → FieldType} {τ : Sg} (hF : Fw own idx ci C T N fk 0) (hP : Fp ci fk C T N ty0 .boolean) (hc : Y.2.1 i = ci) (hz : v = 0 ∨ v = 1) (hτ : τ = sI σ i (upd (σ.1 i) fk v)) (d : decode cc pc = .ok (.putfield idx, 3)) (hn : pc + 3 = n) (h : V Y G K Z nL τ n lv rest) : V Y G K Z nL σ pc lv (.int v :: .ref (G.1 i) :: rest) := by
  subst hτ
  exact r_putG hC i ci fk ty0 hF hc hP.1 hP.2.1 hP.2.2.1 hP.2.2.2 (by rcases hz with rfl | rfl <;> rfl) (by rcases hz with rfl | rfl <;> rfl) (cC_put hc hF.2.2.2.2.2.1 hF.2.2.2.2.2.2) d hn h
theorem r_putr (hC : Cx Y G b K cc own nL ret k) (i ci fk : Nat) {C D : String} {T : u_T} {N idx q : Nat} {ty0 : Nat → FieldType} {τ : Sg} (hF : Fw own idx ci C T N fk 1) (hP : Fp ci fk C T N ty0 (.object D)) (hc : Y.2.1 i = ci) (hτ : τ = sN σ i fk q) (d : decode cc pc = .ok (.putfield idx, 3)) (hn : pc + 3 = n) (h : V Y G K Z nL τ n lv rest) : V Y G K Z nL σ pc lv (.ref (G.1 q) :: .ref (G.1 i) :: rest) := by
  subst hτ
  exact r_putG hC i ci fk ty0 hF hc hP.1 hP.2.1 hP.2.2.1 hP.2.2.2 rfl rfl (cC_putN hc hF.2.2.2.2.2.1 hF.2.2.2.2.2.2) d hn h
theorem r_iald (hC : Cx Y G b K cc own nL ret k) (i : Nat) {x : Int32} (hc : Y.2.1 i = 8) (hin : vp_in x (Y.2.2.1 i)) (d : decode cc pc = .ok (.iaload, 1)) (hn : pc + 1 = n) (h : V Y G K Z nL σ n lv (.int (σ.1 i x.toNatClampNeg) :: rest)) : V Y G K Z nL σ pc lv (.int x :: .ref (G.1 i) :: rest) := by
  subst hn
  intro H locs ls h1 h2 h3
  have he := Hw_get (σ := σ) hC.2.2.2.2.2.2.2.2.1 (i := i) (by omega)
  rw [cC_i hc] at he
  exact va_iald hC.1 hC.2.1 hC.2.2.2.2.2.2.1.1 h1 i 0 he rfl hin d (h H locs ls h1 h2 h3)
theorem r_lald (hC : Cx Y G b K cc own nL ret k) (i : Nat) {x : Int32} (hc : Y.2.1 i = 9) (hin : vp_in x (Y.2.2.1 i)) (d : decode cc pc = .ok (.laload, 1)) (hn : pc + 1 = n) (h : V Y G K Z nL σ n lv (.long (σ.2.1 i x.toNatClampNeg) :: rest)) : V Y G K Z nL σ pc lv (.int x :: .ref (G.1 i) :: rest) := by
  subst hn
  intro H locs ls h1 h2 h3
  have he := Hw_get (σ := σ) hC.2.2.2.2.2.2.2.2.1 (i := i) (by omega)
  rw [cC_j hc] at he
  exact va_lald hC.1 hC.2.1 hC.2.2.2.2.2.2.1.1 h1 i 1 he rfl hin d (h H locs ls h1 h2 h3)
theorem r_aald (hC : Cx Y G b K cc own nL ret k) (i : Nat) {x : Int32} (hc : Y.2.1 i = 10 ∨ Y.2.1 i = 11) (hin : vp_in x (Y.2.2.1 i)) (d : decode cc pc = .ok (.aaload, 1)) (hn : pc + 1 = n) (h : V Y G K Z nL σ n lv (rv G (some (Y.2.2.2 i x.toNatClampNeg)) :: rest)) : V Y G K Z nL σ pc lv (.int x :: .ref (G.1 i) :: rest) := by
  subst hn
  intro H locs ls h1 h2 h3
  have he := Hw_get (σ := σ) hC.2.2.2.2.2.2.2.2.1 (i := i) (by omega)
  rcases hc with hc | hc
  · rw [cC_m hc] at he
    exact va_aldq hC.1 hC.2.1 hC.2.2.2.2.2.2.1.1 h1 i 2 he rfl hin d (h H locs ls h1 h2 h3)
  · rw [cC_t hc] at he
    exact va_aldq hC.1 hC.2.1 hC.2.2.2.2.2.2.1.1 h1 i 3 he rfl hin d (h H locs ls h1 h2 h3)
theorem r_iast (hC : Cx Y G b K cc own nL ret k) (i : Nat) {x v : Int32} {τ : Sg} (hc : Y.2.1 i = 8) (hin : vp_in x (Y.2.2.1 i)) (hτ : τ = sI σ i (upd (σ.1 i) x.toNatClampNeg v)) (d : decode cc pc = .ok (.iastore, 1)) (hn : pc + 1 = n) (h : V Y G K Z nL τ n lv rest) : V Y G K Z nL σ pc lv (.int v :: .int x :: .ref (G.1 i) :: rest) := by
  subst hn; subst hτ
  intro H locs ls h1 h2 h3
  have c9 := hC.2.2.2.2.2.2.2.2.1
  have he := Hw_get (σ := σ) c9 (i := i) (by omega)
  have hN : i < Y.1 := c9.1 i (by omega)
  rw [cC_i hc] at he
  refine va_iast hC.1 hC.2.1 hC.2.2.2.2.2.2.1.1 h1 (vaD Y G c9 _) h2 i 0 he rfl hin d (fun H1 locs1 q1 q2 q3 => ?_)
  rw [wl_set hN] at q1
  first
  | exact h H1 locs1 ls (by rw [← cC_sI hc]; exact q1) q3 h3
  | exact h H1 locs1 ls (by unfold Hw; rw [← cC_sI hc]; exact q1) q3 h3
theorem r_last (hC : Cx Y G b K cc own nL ret k) (i : Nat) {x : Int32} {v : Int64} {τ : Sg} (hc : Y.2.1 i = 9) (hin : vp_in x (Y.2.2.1 i)) (hτ : τ = sJ σ i (vp_updL (σ.2.1 i) x.toNatClampNeg v)) (d : decode cc pc = .ok (.lastore, 1)) (hn : pc + 1 = n) (h : V Y G K Z nL τ n lv rest) : V Y G K Z nL σ pc lv (.long v :: .int x :: .ref (G.1 i) :: rest) := by
  subst hn; subst hτ
  intro H locs ls h1 h2 h3
  have c9 := hC.2.2.2.2.2.2.2.2.1
  have he := Hw_get (σ := σ) c9 (i := i) (by omega)
  have hN : i < Y.1 := c9.1 i (by omega)
  rw [cC_j hc] at he
  refine va_last hC.1 hC.2.1 hC.2.2.2.2.2.2.1.1 h1 (vaD Y G c9 _) h2 i 1 he rfl hin d (fun H1 locs1 q1 q2 q3 => ?_)
  rw [wl_set hN] at q1
  exact h H1 locs1 ls (by unfold Hw; rw [← cC_sJ hc]; exact q1) q3 h3
/-- the static row of how many parts a kind has -/
theorem r_gets (hC : Cx Y G b K cc own nL ret k) {idx : Nat} (hw : Cond.fieldLink own idx "MakersBench" "PARTS" "[I" ∈ TB) (d : decode cc pc = .ok (.getstatic idx, 3)) (hn : pc + 3 = n) (h : V Y G K Z nL σ n lv (.ref b :: rest)) : V Y G K Z nL σ pc lv rest := by
  subst hn
  exact fun H locs ls h1 h2 h3 => va_gets hC.1 hC.2.1 hC.2.2.2.2.2.2.1.2.2.1 h2 hC.2.2.2.2.1 (hC.2.2.2.2.2.1 _ hw) (fun _ q => q) d (h H locs ls h1 h2 h3)
theorem r_sld (hC : Cx Y G b K cc own nL ret k) {x : Int32} (hin : vp_in x 9) (d : decode cc pc = .ok (.iaload, 1)) (hn : pc + 1 = n) (h : V Y G K Z nL σ n lv (.int (pPn x.toNatClampNeg) :: rest)) : V Y G K Z nL σ pc lv (.int x :: .ref b :: rest) := by
  subst hn
  have q := hC.2.2.2.2.2.2.1.2.2.2
  exact fun H locs ls h1 h2 h3 => va_sld hC.1 hC.2.1 q.1 q.2.1 q.2.2 h2 hin d (h H locs ls h1 h2 h3)
theorem r_slen (hC : Cx Y G b K cc own nL ret k) (d : decode cc pc = .ok (.arraylength, 1)) (hn : pc + 1 = n) (h : V Y G K Z nL σ n lv (.int 9 :: rest)) : V Y G K Z nL σ pc lv (.ref b :: rest) := by
  subst hn
  have q := hC.2.2.2.2.2.2.1.2.2.2
  exact fun H locs ls h1 h2 h3 => va_slen hC.1 hC.2.1 q.1 q.2.1 q.2.2 h2 d (h H locs ls h1 h2 h3)
/-- Math.min, Math.max, System.arraycopy -/
theorem r_mmin (hC : Cx Y G b K cc own nL ret k) {idx : Nat} {x y : Int32} (hw : Cond.methodLink own idx Lib.Math.min.name ∈ TB ∧ Cond.static Lib.Math.min.name ∈ TB ∧ Cond.initialized "java/lang/Math" ∈ TB ∧ Cond.code Lib.Math.min.name Lib.Math.min.code 2 (some .int) ∈ TB) (hk : 1 ≤ k) (hr : (rest.map fun v => v.category).sum ≤ 8) (d : decode cc pc = .ok (.invokestatic idx, 3)) (hn : pc + 3 = n) (h : V Y G K Z nL σ n lv (.int (if y < x then y else x) :: rest)) : V Y G K Z nL σ pc lv (.int y :: .int x :: rest) := by
  subst hn
  obtain ⟨c1, c2, c3, c4, c5, c6, c7, c8, c9, c10⟩ := hC
  exact fun H locs ls h1 h2 h3 => va_mmin c1 c2 (c3.trans h3.1.symm) c5 (c6 _ hw.1) (c6 _ hw.2.1) (c6 _ hw.2.2.1) (c6 _ hw.2.2.2) (by rw [c10]; exact hk) (by rw [c10]; show _ ≤ 40 * k; omega) (Nat.zero_le _) (Nat.zero_le _) d (h H locs ls h1 h2 h3)
theorem r_mmax (hC : Cx Y G b K cc own nL ret k) {idx : Nat} {x y : Int32} (hw : Cond.methodLink own idx Lib.Math.max.name ∈ TB ∧ Cond.static Lib.Math.max.name ∈ TB ∧ Cond.initialized "java/lang/Math" ∈ TB ∧ Cond.code Lib.Math.max.name Lib.Math.max.code 2 (some .int) ∈ TB) (hk : 1 ≤ k) (hr : (rest.map fun v => v.category).sum ≤ 8) (d : decode cc pc = .ok (.invokestatic idx, 3)) (hn : pc + 3 = n) (h : V Y G K Z nL σ n lv (.int (if x < y then y else x) :: rest)) : V Y G K Z nL σ pc lv (.int y :: .int x :: rest) := by
  subst hn
  obtain ⟨c1, c2, c3, c4, c5, c6, c7, c8, c9, c10⟩ := hC
  exact fun H locs ls h1 h2 h3 => va_mmax c1 c2 (c3.trans h3.1.symm) c5 (c6 _ hw.1) (c6 _ hw.2.1) (c6 _ hw.2.2.1) (c6 _ hw.2.2.2) (by rw [c10]; exact hk) (by rw [c10]; show _ ≤ 40 * k; omega) (Nat.zero_le _) (Nat.zero_le _) d (h H locs ls h1 h2 h3)
theorem r_copy (hC : Cx Y G b K cc own nL ret k) (i j : Nat) {idx : Nat} {sp dp m : Int32} {τ : Sg} (hw : Cond.methodLink own idx arraycopyName ∈ TB ∧ Cond.native arraycopyName ∈ TB ∧ Cond.static arraycopyName ∈ TB ∧ Cond.initialized "java/lang/System" ∈ TB) (hk : 1 ≤ k) (hr : (rest.map fun v => v.category).sum ≤ 8) (hi : Y.2.1 i = 8) (hj : Y.2.1 j = 8)
    (hb : (¬ sp < 0) ∧ (¬ dp < 0) ∧ (¬ m < 0) ∧ sp.toNatClampNeg + m.toNatClampNeg ≤ Y.2.2.1 i ∧ dp.toNatClampNeg + m.toNatClampNeg ≤ Y.2.2.1 j) (hτ : τ = sI σ j (va_cpy (σ.1 i) (σ.1 j) sp.toNatClampNeg dp.toNatClampNeg m.toNatClampNeg)) (d : decode cc pc = .ok (.invokestatic idx, 3)) (hn : pc + 3 = n) (h : V Y G K Z nL τ n lv rest) : V Y G K Z nL σ pc lv (.int m :: .int dp :: .ref (G.1 j) :: .int sp :: .ref (G.1 i) :: rest) := by
  subst hn; subst hτ
  obtain ⟨c1, c2, c3, c4, c5, c6, c7, c8, c9, c10⟩ := hC
  intro H locs ls h1 h2 h3
  have he := Hw_get (σ := σ) c9 (i := i) (by omega)
  have hf := Hw_get (σ := σ) c9 (i := j) (by omega)
  have hN : j < Y.1 := c9.1 j (by omega)
  rw [cC_i hi] at he
  rw [cC_i hj] at hf
  have hz : nativeFrameWords "java/lang/System" "arraycopy" 5 + 11 ≤ 30 := by decide +kernel
  have hfr : 1 ≤ (K.2.2.2.1).frames := by rw [c10]; exact hk
  have hlo : (rest.map fun v => v.category).sum + (nativeFrameWords "java/lang/System" "arraycopy" 5 + 11) ≤ (K.2.2.2.1).locals := by
    rw [c10]
    show _ ≤ 40 * k
    omega
  refine va_copyi c1 c2 (c3.trans h3.1.symm) c5 (c6 _ hw.1) (c6 _ hw.2.1) (c6 _ hw.2.2.1) (c6 _ hw.2.2.2) c7.1 h1 (vaD Y G c9 _) h2 i j 0 0 he hf rfl rfl rfl hb.1 hb.2.1 hb.2.2.1 hb.2.2.2.1 hb.2.2.2.2 (fun _ _ => rfl) hfr hlo d (fun H1 locs1 q1 q2 q3 => ?_)
  rw [wl_set hN] at q1
  exact h H1 locs1 ls (by unfold Hw; rw [← cC_sI hj]; exact q1) q3 h3
theorem r_iret (hC : Cx Y G b K cc own nL ret k) (hr : ret = some .int) {v : Int32} {Q : Int32 → Sg → Prop} (hq : Q v σ) (d : decode cc pc = .ok (.ireturn, 1)) : V Y G K (Zi Y G K Q) nL σ pc lv [.int v] := by
  intro H locs ls h1 h2 h3
  exact W.iret (v := v) hC.1 hC.2.1 (hC.2.2.2.1.trans hr) (fun t ht hW => ⟨⟨v, σ, rfl, hq, by show Hw Y G σ t.heap; rw [ht]; exact h1⟩, h2.F ht⟩) h2.2.2 d hC.2.2.2.2.2.2.2.1
theorem r_zret (hC : Cx Y G b K cc own nL ret k) (hr : ret = some .boolean) {v : Int32} {Q : Int32 → Sg → Prop} (hz : v = 0 ∨ v = 1) (hq : Q v σ) (d : decode cc pc = .ok (.ireturn, 1)) : V Y G K (Zi Y G K Q) nL σ pc lv [.int v] := by
  intro H locs ls h1 h2 h3
  exact W.zret (v := v) hC.1 hC.2.1 (hC.2.2.2.1.trans hr) (by rcases hz with rfl | rfl <;> rfl) (fun t ht hW => ⟨⟨v, σ, rfl, hq, by show Hw Y G σ t.heap; rw [ht]; exact h1⟩, h2.F ht⟩) h2.2.2 d hC.2.2.2.2.2.2.2.1
theorem r_lret (hC : Cx Y G b K cc own nL ret k) (hr : ret = some .long) {v : Int64} {Q : Int64 → Sg → Prop} (hq : Q v σ) (d : decode cc pc = .ok (.lreturn, 1)) : V Y G K (Zl Y G K Q) nL σ pc lv [.long v] := by
  intro H locs ls h1 h2 h3
  exact W.lret (v := v) hC.1 hC.2.1 (hC.2.2.2.1.trans hr) (fun t ht hW => ⟨⟨v, σ, rfl, hq, by show Hw Y G σ t.heap; rw [ht]; exact h1⟩, h2.F ht⟩) h2.2.2 d hC.2.2.2.2.2.2.2.1
theorem r_vret (hC : Cx Y G b K cc own nL ret k) (hr : ret = none) {Q : Sg → Prop} (hq : Q σ) (d : decode cc pc = .ok (.return_, 1)) : V Y G K (Zv Y G K Q) nL σ pc lv [] := by
  intro H locs ls h1 h2 h3
  exact W.vret hC.1 hC.2.1 (hC.2.2.2.1.trans hr) (fun t ht hW => ⟨⟨σ, rfl, hq, by show Hw Y G σ t.heap; rw [ht]; exact h1⟩, h2.F ht⟩) h2.2.2 d hC.2.2.2.2.2.2.2.1
theorem r_aret (hC : Cx Y G b K cc own nL ret k) {D : String} (hr : ret = some (.object D)) {o : Option Nat} {Q : Option Nat → Sg → Prop} (hq : Q o σ) (d : decode cc pc = .ok (.areturn, 1)) : V Y G K (Zq Y G K Q) nL σ pc lv [rv G o] := by
  intro H locs ls h1 h2 h3
  exact W.aret (v := rv G o) hC.1 hC.2.1 (hC.2.2.2.1.trans hr) (Or.inl ⟨_, rfl⟩) (by cases o with | none => exact Or.inl rfl | some a => exact Or.inr ⟨_, rfl⟩) (fun t ht hW => ⟨⟨o.map G.1, σ, rfl, ⟨o, rfl, hq⟩, by show Hw Y G σ t.heap; rw [ht]; exact h1⟩, h2.F ht⟩) h2.2.2 d hC.2.2.2.2.2.2.2.1
end RL
/-- the static words of a call: of a virtual one (receiver's class number ci), of a static one -/
def SiV (own : String) (idx : Nat) (y : MethodName) (cc : ByteArray) (mL : Nat) (rt : Option FieldType) (np ci : Nat) : Prop :=
  Cond.code y cc mL rt ∈ TB ∧ (Cond.methodLink own idx y ∈ TB ∨ ∃ host, Cond.methodLinkNest own idx y host ∈ NW) ∧ Cond.instanceMethod y ∈ TB ∧ Cond.selects y.cls y y ∈ TB ∧ Cond.initialized y.cls ∈ TB ∧ (y.cls ≠ "java/lang/invoke/MethodHandle" ∧ y.cls ≠ "java/lang/invoke/VarHandle" ∧ (parseMethodDescriptor y.desc).map (fun d => d.parameters.length) = some np) ∧ (∃ T N, vwCl[ci]? = some (y.cls, T, N)) ∧ ci < 8 ∧ mL ≤ 21
def SiS (own : String) (idx : Nat) (y : MethodName) (cc : ByteArray) (mL : Nat) (rt : Option FieldType) (np : Nat) : Prop :=
  Cond.code y cc mL rt ∈ TB ∧ (Cond.methodLink own idx y ∈ TB ∨ ∃ host, Cond.methodLinkNest own idx y host ∈ NW) ∧ Cond.static y ∈ TB ∧ Cond.initialized y.cls ∈ TB ∧ (y.cls ≠ "java/lang/invoke/MethodHandle" ∧ y.cls ≠ "java/lang/invoke/VarHandle" ∧ (parseMethodDescriptor y.desc).map (fun d => d.parameters.length) = some np) ∧ mL ≤ 21
section RC
variable {Y : Ly} {G : Gx} {b : Nat} {K : Kx} {Z : State → Prop} {nL : Nat} {σ : Sg} {pc n : Nat} {lv : List (Nat × Value)} {rest st : List Value} {cc : ByteArray} {own : String} {ret : Option FieldType} {k : Nat} {y : MethodName} {bc : ByteArray} {mL kc np ci idx : Nat} {rt : Option FieldType} {As : List Value} {Qc : Array Value → State → Outcome → State → Prop}
theorem run_V (hC : Cx Y G b K cc own nL ret k) (hS : SiV own idx y bc mL rt np ci) {i : Nat} (hc : Y.2.1 i = ci) (hk : kc + 1 ≤ k) (hM : Met K.2.1 y (.code y bc mL rt :: TB) (rmk kc) (Pp Y G b (.ref (G.1 i) :: As) σ) Qc 0 0 (adA Y G)) (hn : As.length = np) (hst : st = As.reverse ++ .ref (G.1 i) :: rest) (hr : (rest.map fun v => v.category).sum ≤ 8) (d : decode cc pc = .ok (.invokevirtual idx, 3))
    {H : Heap} {locs : List Loc} {ls : Array Slot} (h1 : Hw Y G σ H) (h2 : va_S (adA Y G) (kS K).heap H locs) (h3 : lv_has ls nL lv) :
    va_Run K.1 K.2.1 K.2.2.1 K.2.2.2.1 (kS K) (kM K) (kA K) (kB K) K.2.2.2.2.2.2.2.2.1 K.2.2.2.2.2.2.2.2.2 H locs 0 0 0 0 (F0 (kM K) pc ls st) rest (Qc (Value.ref (G.1 i) :: As).toArray) (adA Y G) := by
  subst hst
  obtain ⟨c1, c2, c3, c4, c5, c6, c7, c8, c9, c10⟩ := hC
  obtain ⟨s1, s2, s3, s4, s5, s6, ⟨T, N, s7⟩, s8, s9⟩ := hS
  have he := Hw_get (σ := σ) c9 (i := i) (by omega)
  rw [cC_obj hc s8] at he
  have hR : (rmk kc).frames + 1 ≤ (K.2.2.2.1).frames ∧ 8 + (mL + 11) + (rmk kc).locals ≤ (K.2.2.2.1).locals := by
    rw [c10]
    show kc + 1 ≤ k ∧ 8 + (mL + 11) + 40 * kc ≤ 40 * k
    omega
  have hp : PreV (kS K) H y.cls (G.1 i) (Pp Y G b (.ref (G.1 i) :: As) σ) As :=
    ⟨fun a U g mk q => ⟨q.1, q.2.1, q.2.2.call⟩, va_recv c7.1 h1 s7 he, fun U hU hW => ⟨rfl, by rw [hU]; exact h1, c7.move h2 hU hW⟩⟩
  rcases s2 with s2 | ⟨host, s2⟩
  · exact va_runV (g := F0 (kM K) pc ls (As.reverse ++ .ref (G.1 i) :: rest)) ⟨c1, c2, c3, c5, c6⟩ hM ⟨callB_of np c6 (TB_good (c0 := .tt) s1) rfl rfl rfl (c6 _ s5) (c6 _ s2) s6 hR, c6 _ s3, c6 _ s4⟩ hp rfl hn h3.1 rfl (lv_room hr) d ⟨Nat.zero_le _, Nat.zero_le _⟩
  · exact va_runVN (g := F0 (kM K) pc ls (As.reverse ++ .ref (G.1 i) :: rest)) ⟨c1, c2, c3, c5, c6⟩ hM ⟨va_cnB np c6 (TB_good (c0 := .tt) s1) rfl rfl rfl (c7.2.1 _ s2) (c6 _ s5) s6 hR, c6 _ s3, c6 _ s4⟩ hp rfl hn h3.1 rfl (lv_room hr) d ⟨Nat.zero_le _, Nat.zero_le _⟩
theorem run_S (hC : Cx Y G b K cc own nL ret k) (hS : SiS own idx y bc mL rt np) (hk : kc + 1 ≤ k) (hM : Met K.2.1 y (.code y bc mL rt :: TB) (rmk kc) (Pp Y G b As σ) Qc 0 0 (adA Y G)) (hn : As.length = np) (hst : st = As.reverse ++ rest) (hr : (rest.map fun v => v.category).sum ≤ 8) (d : decode cc pc = .ok (.invokestatic idx, 3))
    {H : Heap} {locs : List Loc} {ls : Array Slot} (h1 : Hw Y G σ H) (h2 : va_S (adA Y G) (kS K).heap H locs) (h3 : lv_has ls nL lv) :
    va_Run K.1 K.2.1 K.2.2.1 K.2.2.2.1 (kS K) (kM K) (kA K) (kB K) K.2.2.2.2.2.2.2.2.1 K.2.2.2.2.2.2.2.2.2 H locs 0 0 0 0 (F0 (kM K) pc ls st) rest (Qc As.toArray) (adA Y G) := by
  subst hst
  obtain ⟨c1, c2, c3, c4, c5, c6, c7, c8, c9, c10⟩ := hC
  obtain ⟨s1, s2, s3, s5, s6, s9⟩ := hS
  have hR : (rmk kc).frames + 1 ≤ (K.2.2.2.1).frames ∧ 8 + (mL + 11) + (rmk kc).locals ≤ (K.2.2.2.1).locals := by
    rw [c10]
    show kc + 1 ≤ k ∧ 8 + (mL + 11) + 40 * kc ≤ 40 * k
    omega
  have hp : PreS (kS K) H (Pp Y G b As σ) As :=
    ⟨fun a U g mk q => ⟨q.1, q.2.1, q.2.2.call⟩, fun U hU hW => ⟨rfl, by rw [hU]; exact h1, c7.move h2 hU hW⟩⟩
  rcases s2 with s2 | ⟨host, s2⟩
  · exact va_runS (g := F0 (kM K) pc ls (As.reverse ++ rest)) ⟨c1, c2, c3, c5, c6⟩ hM ⟨callB_of np c6 (TB_good (c0 := .tt) s1) rfl rfl rfl (c6 _ s5) (c6 _ s2) s6 hR, c6 _ s3⟩ hp rfl hn h3.1 rfl (lv_room hr) d ⟨Nat.zero_le _, Nat.zero_le _⟩
  · exact va_runSN (g := F0 (kM K) pc ls (As.reverse ++ rest)) ⟨c1, c2, c3, c5, c6⟩ hM ⟨va_cnB np c6 (TB_good (c0 := .tt) s1) rfl rfl rfl (c7.2.1 _ s2) (c6 _ s5) s6 hR, c6 _ s3, trivial⟩ hp rfl hn h3.1 rfl (lv_room hr) d ⟨Nat.zero_le _, Nat.zero_le _⟩
theorem r_callVi (hC : Cx Y G b K cc own nL ret k) {ty : FieldType} {Q : Int32 → Sg → Prop} {i : Nat} (hS : SiV own idx y bc mL (some ty) np ci) (hc : Y.2.1 i = ci) (hk : kc + 1 ≤ k) (hM : Mi Y G b K.2.1 y bc mL ty kc (.ref (G.1 i) :: As) σ Q) (hnp : As.length = np) (hst : st = As.reverse ++ .ref (G.1 i) :: rest) (hr : (rest.map fun v => v.category).sum ≤ 8) (d : decode cc pc = .ok (.invokevirtual idx, 3)) (hn : pc + 3 = n) (kk : ∀ (r : Int32) (u : Sg), Q r u → V Y G K Z nL u n lv (.int r :: rest)) : V Y G K Z nL σ pc lv st := by
  subst hn
  intro H locs ls h1 h2 h3
  exact va_calli (run_V hC hS hc hk hM hnp hst hr d h1 h2 h3) h2 (fun _ _ q => q) (fun _ q => q) (fun r u t H1 locs1 ht hvm hq hB hz hk1 hS1 => kk r u hq H1 locs1 ls (by rw [← ht]; exact hB) hS1 h3)
theorem r_callSi (hC : Cx Y G b K cc own nL ret k) {ty : FieldType} {Q : Int32 → Sg → Prop} (hS : SiS own idx y bc mL (some ty) np) (hk : kc + 1 ≤ k) (hM : Mi Y G b K.2.1 y bc mL ty kc As σ Q) (hnp : As.length = np) (hst : st = As.reverse ++ rest) (hr : (rest.map fun v => v.category).sum ≤ 8) (d : decode cc pc = .ok (.invokestatic idx, 3)) (hn : pc + 3 = n) (kk : ∀ (r : Int32) (u : Sg), Q r u → V Y G K Z nL u n lv (.int r :: rest)) : V Y G K Z nL σ pc lv st := by
  subst hn
  intro H locs ls h1 h2 h3
  exact va_calli (run_S hC hS hk hM hnp hst hr d h1 h2 h3) h2 (fun _ _ q => q) (fun _ q => q) (fun r u t H1 locs1 ht hvm hq hB hz hk1 hS1 => kk r u hq H1 locs1 ls (by rw [← ht]; exact hB) hS1 h3)
theorem r_callVl (hC : Cx Y G b K cc own nL ret k)  {Q : Int64 → Sg → Prop} {i : Nat} (hS : SiV own idx y bc mL (some .long) np ci) (hc : Y.2.1 i = ci) (hk : kc + 1 ≤ k) (hM : Ml Y G b K.2.1 y bc mL  kc (.ref (G.1 i) :: As) σ Q) (hnp : As.length = np) (hst : st = As.reverse ++ .ref (G.1 i) :: rest) (hr : (rest.map fun v => v.category).sum ≤ 8) (d : decode cc pc = .ok (.invokevirtual idx, 3)) (hn : pc + 3 = n) (kk : ∀ (r : Int64) (u : Sg), Q r u → V Y G K Z nL u n lv (.long r :: rest)) : V Y G K Z nL σ pc lv st := by
  subst hn
  intro H locs ls h1 h2 h3
  exact va_calll (run_V hC hS hc hk hM hnp hst hr d h1 h2 h3) h2 (fun _ _ q => q) (fun _ q => q) (fun r u t H1 locs1 ht hvm hq hB hz hk1 hS1 => kk r u hq H1 locs1 ls (by rw [← ht]; exact hB) hS1 h3)
theorem r_callSl (hC : Cx Y G b K cc own nL ret k)  {Q : Int64 → Sg → Prop} (hS : SiS own idx y bc mL (some .long) np) (hk : kc + 1 ≤ k) (hM : Ml Y G b K.2.1 y bc mL  kc As σ Q) (hnp : As.length = np) (hst : st = As.reverse ++ rest) (hr : (rest.map fun v => v.category).sum ≤ 8) (d : decode cc pc = .ok (.invokestatic idx, 3)) (hn : pc + 3 = n) (kk : ∀ (r : Int64) (u : Sg), Q r u → V Y G K Z nL u n lv (.long r :: rest)) : V Y G K Z nL σ pc lv st := by
  subst hn
  intro H locs ls h1 h2 h3
  exact va_calll (run_S hC hS hk hM hnp hst hr d h1 h2 h3) h2 (fun _ _ q => q) (fun _ q => q) (fun r u t H1 locs1 ht hvm hq hB hz hk1 hS1 => kk r u hq H1 locs1 ls (by rw [← ht]; exact hB) hS1 h3)
theorem r_callVv (hC : Cx Y G b K cc own nL ret k)  {Q : Sg → Prop} {i : Nat} (hS : SiV own idx y bc mL (none) np ci) (hc : Y.2.1 i = ci) (hk : kc + 1 ≤ k) (hM : Mv Y G b K.2.1 y bc mL  kc (.ref (G.1 i) :: As) σ Q) (hnp : As.length = np) (hst : st = As.reverse ++ .ref (G.1 i) :: rest) (hr : (rest.map fun v => v.category).sum ≤ 8) (d : decode cc pc = .ok (.invokevirtual idx, 3)) (hn : pc + 3 = n) (kk : ∀ (u : Sg), Q u → V Y G K Z nL u n lv (rest)) : V Y G K Z nL σ pc lv st := by
  subst hn
  intro H locs ls h1 h2 h3
  exact va_callv (run_V hC hS hc hk hM hnp hst hr d h1 h2 h3) h2 (fun _ _ q => q) (fun _ q => q) (fun u t H1 locs1 ht hvm hq hB hz hk1 hS1 => kk u hq H1 locs1 ls (by rw [← ht]; exact hB) hS1 h3)
theorem r_callSv (hC : Cx Y G b K cc own nL ret k)  {Q : Sg → Prop} (hS : SiS own idx y bc mL (none) np) (hk : kc + 1 ≤ k) (hM : Mv Y G b K.2.1 y bc mL  kc As σ Q) (hnp : As.length = np) (hst : st = As.reverse ++ rest) (hr : (rest.map fun v => v.category).sum ≤ 8) (d : decode cc pc = .ok (.invokestatic idx, 3)) (hn : pc + 3 = n) (kk : ∀ (u : Sg), Q u → V Y G K Z nL u n lv (rest)) : V Y G K Z nL σ pc lv st := by
  subst hn
  intro H locs ls h1 h2 h3
  exact va_callv (run_S hC hS hk hM hnp hst hr d h1 h2 h3) h2 (fun _ _ q => q) (fun _ q => q) (fun u t H1 locs1 ht hvm hq hB hz hk1 hS1 => kk u hq H1 locs1 ls (by rw [← ht]; exact hB) hS1 h3)
theorem r_callVq (hC : Cx Y G b K cc own nL ret k) {ty : FieldType} {Q : Option Nat → Sg → Prop} {i : Nat} (hS : SiV own idx y bc mL (some ty) np ci) (hc : Y.2.1 i = ci) (hk : kc + 1 ≤ k) (hM : Mq Y G b K.2.1 y bc mL ty kc (.ref (G.1 i) :: As) σ Q) (hnp : As.length = np) (hst : st = As.reverse ++ .ref (G.1 i) :: rest) (hr : (rest.map fun v => v.category).sum ≤ 8) (d : decode cc pc = .ok (.invokevirtual idx, 3)) (hn : pc + 3 = n) (kk : ∀ (r : Option Nat) (u : Sg), Q r u → V Y G K Z nL u n lv (rv G r :: rest)) : V Y G K Z nL σ pc lv st := by
  subst hn
  intro H locs ls h1 h2 h3
  exact va_callq (run_V hC hS hc hk hM hnp hst hr d h1 h2 h3) h2 (fun _ _ q => q) (fun _ q => q) (fun r u t H1 locs1 ht hvm hq hB hz hk1 hS1 => by
    obtain ⟨o, rfl, hq⟩ := hq
    exact kk o u hq H1 locs1 ls (by rw [← ht]; exact hB) hS1 h3)
theorem r_callSq (hC : Cx Y G b K cc own nL ret k) {ty : FieldType} {Q : Option Nat → Sg → Prop} (hS : SiS own idx y bc mL (some ty) np) (hk : kc + 1 ≤ k) (hM : Mq Y G b K.2.1 y bc mL ty kc As σ Q) (hnp : As.length = np) (hst : st = As.reverse ++ rest) (hr : (rest.map fun v => v.category).sum ≤ 8) (d : decode cc pc = .ok (.invokestatic idx, 3)) (hn : pc + 3 = n) (kk : ∀ (r : Option Nat) (u : Sg), Q r u → V Y G K Z nL u n lv (rv G r :: rest)) : V Y G K Z nL σ pc lv st := by
  subst hn
  intro H locs ls h1 h2 h3
  exact va_callq (run_S hC hS hk hM hnp hst hr d h1 h2 h3) h2 (fun _ _ q => q) (fun _ q => q) (fun r u t H1 locs1 ht hvm hq hB hz hk1 hS1 => by
    obtain ⟨o, rfl, hq⟩ := hq
    exact kk o u hq H1 locs1 ls (by rw [← ht]; exact hB) hS1 h3)
end RC
/-- a value that gets a name -/
def lt {α : Type} (a : α) (f : α → Prop) : Prop := f a
theorem lt_nm {α : Type} {a : α} {f : α → Prop} (h : lt a f) : ∃ x, x = a ∧ f x := ⟨a, rfl, h⟩
theorem sw_out {x : Int32} (lo hi : Nat) (hh : hi < 1000) (h : ∀ j : Nat, lo ≤ j → j ≤ hi → x ≠ nI j) : x.toInt < (lo : Int) ∨ (hi : Int) < x.toInt := by
  rcases Int.lt_or_le x.toInt (lo : Int) with q | q
  · exact Or.inl q
  rcases Int.lt_or_le (hi : Int) x.toInt with q2 | q2
  · exact Or.inr q2
  exfalso
  have hx : x = nI x.toInt.toNat := by
    rw [← Int32.toInt_inj, nI_toInt (by omega)]
    omega
  exact h x.toInt.toNat (by omega) (by omega) hx
theorem if_t {c A B : Prop} {i : Decidable c} (h : @ite Prop c i A B) (hc : c) : A := by rwa [if_pos hc] at h
theorem if_f {c A B : Prop} {i : Decidable c} (h : @ite Prop c i A B) (hc : ¬ c) : B := by rwa [if_neg hc] at h
theorem if_nt {c A B : Prop} {i : Decidable (¬ c)} (h : @ite Prop (¬ c) i A B) (hc : c) : B := by rwa [if_neg (fun q => q hc)] at h
end
