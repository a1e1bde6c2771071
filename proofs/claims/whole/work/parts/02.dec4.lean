theorem dX8_splice_80 : decode cX8_splice 80 = .ok (.istore 5, 2) := by decide +kernel
theorem dX8_splice_82 : decode cX8_splice 82 = .ok (.iload 5, 2) := by decide +kernel
theorem dX8_splice_84 : decode cX8_splice 84 = .ok (.iload_n 3, 1) := by decide +kernel
theorem dX8_splice_85 : decode cX8_splice 85 = .ok (.if_icmp .ge 41, 3) := by decide +kernel
theorem dX8_splice_88 : decode cX8_splice 88 = .ok (.aload_n 0, 1) := by decide +kernel
theorem dX8_splice_89 : decode cX8_splice 89 = .ok (.getfield 37, 3) := by decide +kernel
theorem dX8_splice_92 : decode cX8_splice 92 = .ok (.iload_n 1, 1) := by decide +kernel
theorem dX8_splice_93 : decode cX8_splice 93 = .ok (.iload 5, 2) := by decide +kernel
theorem dX8_splice_95 : decode cX8_splice 95 = .ok (.iadd, 1) := by decide +kernel
theorem dX8_splice_96 : decode cX8_splice 96 = .ok (.aload_n 0, 1) := by decide +kernel
theorem dX8_splice_97 : decode cX8_splice 97 = .ok (.getfield 56, 3) := by decide +kernel
theorem dX8_splice_100 : decode cX8_splice 100 = .ok (.iload 5, 2) := by decide +kernel
theorem dX8_splice_102 : decode cX8_splice 102 = .ok (.iaload, 1) := by decide +kernel
theorem dX8_splice_103 : decode cX8_splice 103 = .ok (.iastore, 1) := by decide +kernel
theorem dX8_splice_104 : decode cX8_splice 104 = .ok (.aload_n 0, 1) := by decide +kernel
theorem dX8_splice_105 : decode cX8_splice 105 = .ok (.getfield 40, 3) := by decide +kernel
theorem dX8_splice_108 : decode cX8_splice 108 = .ok (.iload_n 1, 1) := by decide +kernel
theorem dX8_splice_109 : decode cX8_splice 109 = .ok (.iload 5, 2) := by decide +kernel
theorem dX8_splice_111 : decode cX8_splice 111 = .ok (.iadd, 1) := by decide +kernel
theorem dX8_splice_112 : decode cX8_splice 112 = .ok (.aload_n 0, 1) := by decide +kernel
theorem dX8_splice_113 : decode cX8_splice 113 = .ok (.getfield 59, 3) := by decide +kernel
theorem dX8_splice_116 : decode cX8_splice 116 = .ok (.iload 5, 2) := by decide +kernel
theorem dX8_splice_118 : decode cX8_splice 118 = .ok (.iaload, 1) := by decide +kernel
theorem dX8_splice_119 : decode cX8_splice 119 = .ok (.iastore, 1) := by decide +kernel
theorem dX8_splice_120 : decode cX8_splice 120 = .ok (.iinc 5 1, 3) := by decide +kernel
theorem dX8_splice_123 : decode cX8_splice 123 = .ok (.goto (-41), 3) := by decide +kernel
theorem dX8_splice_126 : decode cX8_splice 126 = .ok (.aload_n 0, 1) := by decide +kernel
theorem dX8_splice_127 : decode cX8_splice 127 = .ok (.iload_n 1, 1) := by decide +kernel
theorem dX8_splice_128 : decode cX8_splice 128 = .ok (.iload_n 3, 1) := by decide +kernel
theorem dX8_splice_129 : decode cX8_splice 129 = .ok (.iadd, 1) := by decide +kernel
theorem dX8_splice_130 : decode cX8_splice 130 = .ok (.iload 4, 2) := by decide +kernel
theorem dX8_splice_132 : decode cX8_splice 132 = .ok (.iadd, 1) := by decide +kernel
theorem dX8_splice_133 : decode cX8_splice 133 = .ok (.putfield 185, 3) := by decide +kernel
theorem dX8_splice_136 : decode cX8_splice 136 = .ok (.return_, 1) := by decide +kernel
theorem dX8_shift_0 : decode cX8_shift 0 = .ok (.aload_n 0, 1) := by decide +kernel
theorem dX8_shift_1 : decode cX8_shift 1 = .ok (.getfield 37, 3) := by decide +kernel
theorem dX8_shift_4 : decode cX8_shift 4 = .ok (.iload_n 2, 1) := by decide +kernel
theorem dX8_shift_5 : decode cX8_shift 5 = .ok (.aload_n 0, 1) := by decide +kernel
theorem dX8_shift_6 : decode cX8_shift 6 = .ok (.getfield 37, 3) := by decide +kernel
theorem dX8_shift_9 : decode cX8_shift 9 = .ok (.iload_n 1, 1) := by decide +kernel
theorem dX8_shift_10 : decode cX8_shift 10 = .ok (.iaload, 1) := by decide +kernel
theorem dX8_shift_11 : decode cX8_shift 11 = .ok (.iastore, 1) := by decide +kernel
theorem dX8_shift_12 : decode cX8_shift 12 = .ok (.aload_n 0, 1) := by decide +kernel
theorem dX8_shift_13 : decode cX8_shift 13 = .ok (.getfield 40, 3) := by decide +kernel
theorem dX8_shift_16 : decode cX8_shift 16 = .ok (.iload_n 2, 1) := by decide +kernel
theorem dX8_shift_17 : decode cX8_shift 17 = .ok (.aload_n 0, 1) := by decide +kernel
theorem dX8_shift_18 : decode cX8_shift 18 = .ok (.getfield 40, 3) := by decide +kernel
theorem dX8_shift_21 : decode cX8_shift 21 = .ok (.iload_n 1, 1) := by decide +kernel
theorem dX8_shift_22 : decode cX8_shift 22 = .ok (.iaload, 1) := by decide +kernel
theorem dX8_shift_23 : decode cX8_shift 23 = .ok (.iastore, 1) := by decide +kernel
theorem dX8_shift_24 : decode cX8_shift 24 = .ok (.return_, 1) := by decide +kernel
theorem dX8_spare_0 : decode cX8_spare 0 = .ok (.iload_n 1, 1) := by decide +kernel
theorem dX8_spare_1 : decode cX8_spare 1 = .ok (.istore_n 3, 1) := by decide +kernel
theorem dX8_spare_2 : decode cX8_spare 2 = .ok (.iload_n 3, 1) := by decide +kernel
theorem dX8_spare_3 : decode cX8_spare 3 = .ok (.iload_n 2, 1) := by decide +kernel
theorem dX8_spare_4 : decode cX8_spare 4 = .ok (.if_icmp .ge 37, 3) := by decide +kernel
theorem dX8_spare_7 : decode cX8_spare 7 = .ok (.aload_n 0, 1) := by decide +kernel
theorem dX8_spare_8 : decode cX8_spare 8 = .ok (.getfield 56, 3) := by decide +kernel
theorem dX8_spare_11 : decode cX8_spare 11 = .ok (.iload_n 3, 1) := by decide +kernel
theorem dX8_spare_12 : decode cX8_spare 12 = .ok (.iload_n 1, 1) := by decide +kernel
theorem dX8_spare_13 : decode cX8_spare 13 = .ok (.isub, 1) := by decide +kernel
theorem dX8_spare_14 : decode cX8_spare 14 = .ok (.aload_n 0, 1) := by decide +kernel
theorem dX8_spare_15 : decode cX8_spare 15 = .ok (.getfield 37, 3) := by decide +kernel
theorem dX8_spare_18 : decode cX8_spare 18 = .ok (.iload_n 3, 1) := by decide +kernel
theorem dX8_spare_19 : decode cX8_spare 19 = .ok (.iaload, 1) := by decide +kernel
theorem dX8_spare_20 : decode cX8_spare 20 = .ok (.iastore, 1) := by decide +kernel
theorem dX8_spare_21 : decode cX8_spare 21 = .ok (.aload_n 0, 1) := by decide +kernel
theorem dX8_spare_22 : decode cX8_spare 22 = .ok (.getfield 59, 3) := by decide +kernel
theorem dX8_spare_25 : decode cX8_spare 25 = .ok (.iload_n 3, 1) := by decide +kernel
theorem dX8_spare_26 : decode cX8_spare 26 = .ok (.iload_n 1, 1) := by decide +kernel
theorem dX8_spare_27 : decode cX8_spare 27 = .ok (.isub, 1) := by decide +kernel
theorem dX8_spare_28 : decode cX8_spare 28 = .ok (.aload_n 0, 1) := by decide +kernel
theorem dX8_spare_29 : decode cX8_spare 29 = .ok (.getfield 40, 3) := by decide +kernel
theorem dX8_spare_32 : decode cX8_spare 32 = .ok (.iload_n 3, 1) := by decide +kernel
theorem dX8_spare_33 : decode cX8_spare 33 = .ok (.iaload, 1) := by decide +kernel
theorem dX8_spare_34 : decode cX8_spare 34 = .ok (.iastore, 1) := by decide +kernel
theorem dX8_spare_35 : decode cX8_spare 35 = .ok (.iinc 3 1, 3) := by decide +kernel
theorem dX8_spare_38 : decode cX8_spare 38 = .ok (.goto (-36), 3) := by decide +kernel
theorem dX8_spare_41 : decode cX8_spare 41 = .ok (.return_, 1) := by decide +kernel
theorem dX8_breed_0 : decode cX8_breed 0 = .ok (.iload_n 1, 1) := by decide +kernel
theorem dX8_breed_1 : decode cX8_breed 1 = .ok (.invokestatic 181, 3) := by decide +kernel
theorem dX8_breed_4 : decode cX8_breed 4 = .ok (.ifCond .eq 58, 3) := by decide +kernel
theorem dX8_breed_7 : decode cX8_breed 7 = .ok (.aload_n 0, 1) := by decide +kernel
theorem dX8_breed_8 : decode cX8_breed 8 = .ok (.iload_n 2, 1) := by decide +kernel
theorem dX8_breed_9 : decode cX8_breed 9 = .ok (.invokevirtual 246, 3) := by decide +kernel
theorem dX8_breed_12 : decode cX8_breed 12 = .ok (.ifCond .eq 50, 3) := by decide +kernel
theorem dX8_breed_15 : decode cX8_breed 15 = .ok (.aload_n 0, 1) := by decide +kernel
theorem dX8_breed_16 : decode cX8_breed 16 = .ok (.iload 4, 2) := by decide +kernel
theorem dX8_breed_18 : decode cX8_breed 18 = .ok (.invokevirtual 246, 3) := by decide +kernel
theorem dX8_breed_21 : decode cX8_breed 21 = .ok (.ifCond .eq 41, 3) := by decide +kernel
theorem dX8_breed_24 : decode cX8_breed 24 = .ok (.iload_n 3, 1) := by decide +kernel
theorem dX8_breed_25 : decode cX8_breed 25 = .ok (.i2l, 1) := by decide +kernel
theorem dX8_breed_26 : decode cX8_breed 26 = .ok (.lconst 0, 1) := by decide +kernel
theorem dX8_breed_27 : decode cX8_breed 27 = .ok (.aload_n 0, 1) := by decide +kernel
theorem dX8_breed_28 : decode cX8_breed 28 = .ok (.getfield 28, 3) := by decide +kernel
theorem dX8_breed_31 : decode cX8_breed 31 = .ok (.iload_n 2, 1) := by decide +kernel
theorem dX8_breed_32 : decode cX8_breed 32 = .ok (.iaload, 1) := by decide +kernel
theorem dX8_breed_33 : decode cX8_breed 33 = .ok (.iconst 1, 1) := by decide +kernel
theorem dX8_breed_34 : decode cX8_breed 34 = .ok (.isub, 1) := by decide +kernel
theorem dX8_breed_35 : decode cX8_breed 35 = .ok (.i2l, 1) := by decide +kernel
theorem dX8_breed_36 : decode cX8_breed 36 = .ok (.invokestatic 177, 3) := by decide +kernel
theorem dX8_breed_39 : decode cX8_breed 39 = .ok (.ifCond .eq 23, 3) := by decide +kernel
theorem dX8_breed_42 : decode cX8_breed 42 = .ok (.iload 5, 2) := by decide +kernel
theorem dX8_breed_44 : decode cX8_breed 44 = .ok (.i2l, 1) := by decide +kernel
theorem dX8_breed_45 : decode cX8_breed 45 = .ok (.lconst 0, 1) := by decide +kernel
theorem dX8_breed_46 : decode cX8_breed 46 = .ok (.aload_n 0, 1) := by decide +kernel
theorem dX8_breed_47 : decode cX8_breed 47 = .ok (.getfield 28, 3) := by decide +kernel
theorem dX8_breed_50 : decode cX8_breed 50 = .ok (.iload 4, 2) := by decide +kernel
theorem dX8_breed_52 : decode cX8_breed 52 = .ok (.iaload, 1) := by decide +kernel
theorem dX8_breed_53 : decode cX8_breed 53 = .ok (.iconst 1, 1) := by decide +kernel
theorem dX8_breed_54 : decode cX8_breed 54 = .ok (.isub, 1) := by decide +kernel
theorem dX8_breed_55 : decode cX8_breed 55 = .ok (.i2l, 1) := by decide +kernel
theorem dX8_breed_56 : decode cX8_breed 56 = .ok (.invokestatic 177, 3) := by decide +kernel
theorem dX8_breed_59 : decode cX8_breed 59 = .ok (.ifCond .ne 5, 3) := by decide +kernel
theorem dX8_breed_62 : decode cX8_breed 62 = .ok (.iconst (-1), 1) := by decide +kernel
theorem dX8_breed_63 : decode cX8_breed 63 = .ok (.ireturn, 1) := by decide +kernel
theorem dX8_breed_64 : decode cX8_breed 64 = .ok (.aload_n 0, 1) := by decide +kernel
theorem dX8_breed_65 : decode cX8_breed 65 = .ok (.iload 4, 2) := by decide +kernel
theorem dX8_breed_67 : decode cX8_breed 67 = .ok (.invokevirtual 198, 3) := by decide +kernel
theorem dX8_breed_70 : decode cX8_breed 70 = .ok (.aload_n 0, 1) := by decide +kernel
theorem dX8_breed_71 : decode cX8_breed 71 = .ok (.iload 5, 2) := by decide +kernel
theorem dX8_breed_73 : decode cX8_breed 73 = .ok (.invokevirtual 262, 3) := by decide +kernel
theorem dX8_breed_76 : decode cX8_breed 76 = .ok (.istore 6, 2) := by decide +kernel
theorem dX8_breed_78 : decode cX8_breed 78 = .ok (.aload_n 0, 1) := by decide +kernel
theorem dX8_breed_79 : decode cX8_breed 79 = .ok (.iload 5, 2) := by decide +kernel
theorem dX8_breed_81 : decode cX8_breed 81 = .ok (.iload 6, 2) := by decide +kernel
theorem dX8_breed_83 : decode cX8_breed 83 = .ok (.invokevirtual 276, 3) := by decide +kernel
theorem dX8_breed_86 : decode cX8_breed 86 = .ok (.aload_n 0, 1) := by decide +kernel
theorem dX8_breed_87 : decode cX8_breed 87 = .ok (.iload_n 2, 1) := by decide +kernel
theorem dX8_breed_88 : decode cX8_breed 88 = .ok (.invokevirtual 198, 3) := by decide +kernel
theorem dX8_breed_91 : decode cX8_breed 91 = .ok (.aload_n 0, 1) := by decide +kernel
theorem dX8_breed_92 : decode cX8_breed 92 = .ok (.getfield 185, 3) := by decide +kernel
theorem dX8_breed_95 : decode cX8_breed 95 = .ok (.aload_n 0, 1) := by decide +kernel
theorem dX8_breed_96 : decode cX8_breed 96 = .ok (.iload_n 3, 1) := by decide +kernel
theorem dX8_breed_97 : decode cX8_breed 97 = .ok (.invokevirtual 262, 3) := by decide +kernel
theorem dX8_breed_100 : decode cX8_breed 100 = .ok (.iload_n 3, 1) := by decide +kernel
theorem dX8_breed_101 : decode cX8_breed 101 = .ok (.isub, 1) := by decide +kernel
theorem dX8_breed_102 : decode cX8_breed 102 = .ok (.isub, 1) := by decide +kernel
theorem dX8_breed_103 : decode cX8_breed 103 = .ok (.iload 6, 2) := by decide +kernel
theorem dX8_breed_105 : decode cX8_breed 105 = .ok (.iadd, 1) := by decide +kernel
theorem dX8_breed_106 : decode cX8_breed 106 = .ok (.iload 5, 2) := by decide +kernel
theorem dX8_breed_108 : decode cX8_breed 108 = .ok (.isub, 1) := by decide +kernel
theorem dX8_breed_109 : decode cX8_breed 109 = .ok (.bipush 60, 2) := by decide +kernel
theorem dX8_breed_111 : decode cX8_breed 111 = .ok (.if_icmp .le 6, 3) := by decide +kernel
theorem dX8_breed_114 : decode cX8_breed 114 = .ok (.bipush (-3), 2) := by decide +kernel
theorem dX8_breed_116 : decode cX8_breed 116 = .ok (.ireturn, 1) := by decide +kernel
theorem dX8_breed_117 : decode cX8_breed 117 = .ok (.aload_n 0, 1) := by decide +kernel
theorem dX8_breed_118 : decode cX8_breed 118 = .ok (.iload_n 3, 1) := by decide +kernel
theorem dX8_breed_119 : decode cX8_breed 119 = .ok (.aload_n 0, 1) := by decide +kernel
theorem dX8_breed_120 : decode cX8_breed 120 = .ok (.iload_n 3, 1) := by decide +kernel
theorem dX8_breed_121 : decode cX8_breed 121 = .ok (.invokevirtual 262, 3) := by decide +kernel
theorem dX8_breed_124 : decode cX8_breed 124 = .ok (.iload 6, 2) := by decide +kernel
theorem dX8_breed_126 : decode cX8_breed 126 = .ok (.iload 5, 2) := by decide +kernel
theorem dX8_breed_128 : decode cX8_breed 128 = .ok (.isub, 1) := by decide +kernel
theorem dX8_breed_129 : decode cX8_breed 129 = .ok (.invokevirtual 279, 3) := by decide +kernel
theorem dX8_breed_132 : decode cX8_breed 132 = .ok (.aload_n 0, 1) := by decide +kernel
theorem dX8_breed_133 : decode cX8_breed 133 = .ok (.iload_n 1, 1) := by decide +kernel
theorem dX8_breed_134 : decode cX8_breed 134 = .ok (.invokevirtual 236, 3) := by decide +kernel
theorem dX8_breed_137 : decode cX8_breed 137 = .ok (.ireturn, 1) := by decide +kernel
theorem dX8_isMaker_0 : decode cX8_isMaker 0 = .ok (.iload_n 1, 1) := by decide +kernel
theorem dX8_isMaker_1 : decode cX8_isMaker 1 = .ok (.i2l, 1) := by decide +kernel
theorem dX8_isMaker_2 : decode cX8_isMaker 2 = .ok (.lconst 0, 1) := by decide +kernel
theorem dX8_isMaker_3 : decode cX8_isMaker 3 = .ok (.aload_n 0, 1) := by decide +kernel
theorem dX8_isMaker_4 : decode cX8_isMaker 4 = .ok (.getfield 283, 3) := by decide +kernel
theorem dX8_isMaker_7 : decode cX8_isMaker 7 = .ok (.iconst 1, 1) := by decide +kernel
theorem dX8_isMaker_8 : decode cX8_isMaker 8 = .ok (.isub, 1) := by decide +kernel
theorem dX8_isMaker_9 : decode cX8_isMaker 9 = .ok (.i2l, 1) := by decide +kernel
theorem dX8_isMaker_10 : decode cX8_isMaker 10 = .ok (.invokestatic 177, 3) := by decide +kernel
theorem dX8_isMaker_13 : decode cX8_isMaker 13 = .ok (.ireturn, 1) := by decide +kernel
theorem dX8_isTurn_0 : decode cX8_isTurn 0 = .ok (.aload_n 0, 1) := by decide +kernel
theorem dX8_isTurn_1 : decode cX8_isTurn 1 = .ok (.iload_n 1, 1) := by decide +kernel
theorem dX8_isTurn_2 : decode cX8_isTurn 2 = .ok (.invokevirtual 286, 3) := by decide +kernel
theorem dX8_isTurn_5 : decode cX8_isTurn 5 = .ok (.ifCond .eq 25, 3) := by decide +kernel
theorem dX8_isTurn_8 : decode cX8_isTurn 8 = .ok (.iload_n 2, 1) := by decide +kernel
theorem dX8_isTurn_9 : decode cX8_isTurn 9 = .ok (.i2l, 1) := by decide +kernel
theorem dX8_isTurn_10 : decode cX8_isTurn 10 = .ok (.lconst 0, 1) := by decide +kernel
theorem dX8_isTurn_11 : decode cX8_isTurn 11 = .ok (.aload_n 0, 1) := by decide +kernel
theorem dX8_isTurn_12 : decode cX8_isTurn 12 = .ok (.getfield 62, 3) := by decide +kernel
theorem dX8_isTurn_15 : decode cX8_isTurn 15 = .ok (.iload_n 1, 1) := by decide +kernel
theorem dX8_isTurn_16 : decode cX8_isTurn 16 = .ok (.iaload, 1) := by decide +kernel
theorem dX8_isTurn_17 : decode cX8_isTurn 17 = .ok (.iconst 1, 1) := by decide +kernel
theorem dX8_isTurn_18 : decode cX8_isTurn 18 = .ok (.isub, 1) := by decide +kernel
theorem dX8_isTurn_19 : decode cX8_isTurn 19 = .ok (.i2l, 1) := by decide +kernel
theorem dX8_isTurn_20 : decode cX8_isTurn 20 = .ok (.invokestatic 177, 3) := by decide +kernel
theorem dX8_isTurn_23 : decode cX8_isTurn 23 = .ok (.ifCond .eq 7, 3) := by decide +kernel
theorem dX8_isTurn_26 : decode cX8_isTurn 26 = .ok (.iconst 1, 1) := by decide +kernel
theorem dX8_isTurn_27 : decode cX8_isTurn 27 = .ok (.goto 4, 3) := by decide +kernel
theorem dX8_isTurn_30 : decode cX8_isTurn 30 = .ok (.iconst 0, 1) := by decide +kernel
theorem dX8_isTurn_31 : decode cX8_isTurn 31 = .ok (.ireturn, 1) := by decide +kernel
theorem dX8_maker_0 : decode cX8_maker 0 = .ok (.aload_n 0, 1) := by decide +kernel
theorem dX8_maker_1 : decode cX8_maker 1 = .ok (.getfield 283, 3) := by decide +kernel
theorem dX8_maker_4 : decode cX8_maker 4 = .ok (.bipush 8, 2) := by decide +kernel
theorem dX8_maker_6 : decode cX8_maker 6 = .ok (.if_icmp .ne 6, 3) := by decide +kernel
theorem dX8_maker_9 : decode cX8_maker 9 = .ok (.bipush (-3), 2) := by decide +kernel
theorem dX8_maker_11 : decode cX8_maker 11 = .ok (.ireturn, 1) := by decide +kernel
theorem dX8_maker_12 : decode cX8_maker 12 = .ok (.aload_n 0, 1) := by decide +kernel
theorem dX8_maker_13 : decode cX8_maker 13 = .ok (.dup, 1) := by decide +kernel
theorem dX8_maker_14 : decode cX8_maker 14 = .ok (.getfield 283, 3) := by decide +kernel
theorem dX8_maker_17 : decode cX8_maker 17 = .ok (.iconst 1, 1) := by decide +kernel
theorem dX8_maker_18 : decode cX8_maker 18 = .ok (.iadd, 1) := by decide +kernel
theorem dX8_maker_19 : decode cX8_maker 19 = .ok (.putfield 283, 3) := by decide +kernel
theorem dX8_maker_22 : decode cX8_maker 22 = .ok (.aload_n 0, 1) := by decide +kernel
theorem dX8_maker_23 : decode cX8_maker 23 = .ok (.getfield 283, 3) := by decide +kernel
theorem dX8_maker_26 : decode cX8_maker 26 = .ok (.iconst 1, 1) := by decide +kernel
theorem dX8_maker_27 : decode cX8_maker 27 = .ok (.isub, 1) := by decide +kernel
theorem dX8_maker_28 : decode cX8_maker 28 = .ok (.ireturn, 1) := by decide +kernel
theorem dX8_turn_0 : decode cX8_turn 0 = .ok (.aload_n 0, 1) := by decide +kernel
theorem dX8_turn_1 : decode cX8_turn 1 = .ok (.iload_n 1, 1) := by decide +kernel
theorem dX8_turn_2 : decode cX8_turn 2 = .ok (.invokevirtual 286, 3) := by decide +kernel
theorem dX8_turn_5 : decode cX8_turn 5 = .ok (.ifCond .eq 27, 3) := by decide +kernel
theorem dX8_turn_8 : decode cX8_turn 8 = .ok (.iload_n 2, 1) := by decide +kernel
theorem dX8_turn_9 : decode cX8_turn 9 = .ok (.i2l, 1) := by decide +kernel
theorem dX8_turn_10 : decode cX8_turn 10 = .ok (.lconst 0, 1) := by decide +kernel
theorem dX8_turn_11 : decode cX8_turn 11 = .ok (.ldc2_w 268, 3) := by decide +kernel
theorem dX8_turn_14 : decode cX8_turn 14 = .ok (.invokestatic 177, 3) := by decide +kernel
theorem dX8_turn_17 : decode cX8_turn 17 = .ok (.ifCond .eq 15, 3) := by decide +kernel
theorem dX8_turn_20 : decode cX8_turn 20 = .ok (.iload_n 3, 1) := by decide +kernel
theorem dX8_turn_21 : decode cX8_turn 21 = .ok (.i2l, 1) := by decide +kernel
theorem dX8_turn_22 : decode cX8_turn 22 = .ok (.lconst 0, 1) := by decide +kernel
theorem dX8_turn_23 : decode cX8_turn 23 = .ok (.ldc2_w 251, 3) := by decide +kernel
theorem dX8_turn_26 : decode cX8_turn 26 = .ok (.invokestatic 177, 3) := by decide +kernel
theorem dX8_turn_29 : decode cX8_turn 29 = .ok (.ifCond .ne 5, 3) := by decide +kernel
theorem dX8_turn_32 : decode cX8_turn 32 = .ok (.iconst (-1), 1) := by decide +kernel
theorem dX8_turn_33 : decode cX8_turn 33 = .ok (.ireturn, 1) := by decide +kernel
theorem dX8_turn_34 : decode cX8_turn 34 = .ok (.aload_n 0, 1) := by decide +kernel
theorem dX8_turn_35 : decode cX8_turn 35 = .ok (.getfield 62, 3) := by decide +kernel
theorem dX8_turn_38 : decode cX8_turn 38 = .ok (.iload_n 1, 1) := by decide +kernel
theorem dX8_turn_39 : decode cX8_turn 39 = .ok (.iaload, 1) := by decide +kernel
theorem dX8_turn_40 : decode cX8_turn 40 = .ok (.bipush 10, 2) := by decide +kernel
theorem dX8_turn_42 : decode cX8_turn 42 = .ok (.if_icmp .ne 6, 3) := by decide +kernel
theorem dX8_turn_45 : decode cX8_turn 45 = .ok (.bipush (-3), 2) := by decide +kernel
theorem dX8_turn_47 : decode cX8_turn 47 = .ok (.ireturn, 1) := by decide +kernel
theorem dX8_turn_48 : decode cX8_turn 48 = .ok (.aload_n 0, 1) := by decide +kernel
theorem dX8_turn_49 : decode cX8_turn 49 = .ok (.getfield 65, 3) := by decide +kernel
theorem dX8_turn_52 : decode cX8_turn 52 = .ok (.bipush 10, 2) := by decide +kernel
theorem dX8_turn_54 : decode cX8_turn 54 = .ok (.iload_n 1, 1) := by decide +kernel
theorem dX8_turn_55 : decode cX8_turn 55 = .ok (.imul, 1) := by decide +kernel
theorem dX8_turn_56 : decode cX8_turn 56 = .ok (.aload_n 0, 1) := by decide +kernel
theorem dX8_turn_57 : decode cX8_turn 57 = .ok (.getfield 62, 3) := by decide +kernel
theorem dX8_turn_60 : decode cX8_turn 60 = .ok (.iload_n 1, 1) := by decide +kernel
theorem dX8_turn_61 : decode cX8_turn 61 = .ok (.iaload, 1) := by decide +kernel
theorem dX8_turn_62 : decode cX8_turn 62 = .ok (.iadd, 1) := by decide +kernel
theorem dX8_turn_63 : decode cX8_turn 63 = .ok (.iload_n 2, 1) := by decide +kernel
theorem dX8_turn_64 : decode cX8_turn 64 = .ok (.iastore, 1) := by decide +kernel
theorem dX8_turn_65 : decode cX8_turn 65 = .ok (.aload_n 0, 1) := by decide +kernel
theorem dX8_turn_66 : decode cX8_turn 66 = .ok (.getfield 68, 3) := by decide +kernel
theorem dX8_turn_69 : decode cX8_turn 69 = .ok (.bipush 10, 2) := by decide +kernel
theorem dX8_turn_71 : decode cX8_turn 71 = .ok (.iload_n 1, 1) := by decide +kernel
theorem dX8_turn_72 : decode cX8_turn 72 = .ok (.imul, 1) := by decide +kernel
theorem dX8_turn_73 : decode cX8_turn 73 = .ok (.aload_n 0, 1) := by decide +kernel
theorem dX8_turn_74 : decode cX8_turn 74 = .ok (.getfield 62, 3) := by decide +kernel
theorem dX8_turn_77 : decode cX8_turn 77 = .ok (.iload_n 1, 1) := by decide +kernel
theorem dX8_turn_78 : decode cX8_turn 78 = .ok (.iaload, 1) := by decide +kernel
theorem dX8_turn_79 : decode cX8_turn 79 = .ok (.iadd, 1) := by decide +kernel
theorem dX8_turn_80 : decode cX8_turn 80 = .ok (.iload_n 3, 1) := by decide +kernel
theorem dX8_turn_81 : decode cX8_turn 81 = .ok (.iastore, 1) := by decide +kernel
theorem dX8_turn_82 : decode cX8_turn 82 = .ok (.aload_n 0, 1) := by decide +kernel
theorem dX8_turn_83 : decode cX8_turn 83 = .ok (.getfield 62, 3) := by decide +kernel
theorem dX8_turn_86 : decode cX8_turn 86 = .ok (.iload_n 1, 1) := by decide +kernel
theorem dX8_turn_87 : decode cX8_turn 87 = .ok (.dup2, 1) := by decide +kernel
theorem dX8_turn_88 : decode cX8_turn 88 = .ok (.iaload, 1) := by decide +kernel
theorem dX8_turn_89 : decode cX8_turn 89 = .ok (.iconst 1, 1) := by decide +kernel
theorem dX8_turn_90 : decode cX8_turn 90 = .ok (.iadd, 1) := by decide +kernel
theorem dX8_turn_91 : decode cX8_turn 91 = .ok (.iastore, 1) := by decide +kernel
theorem dX8_turn_92 : decode cX8_turn 92 = .ok (.aload_n 0, 1) := by decide +kernel
theorem dX8_turn_93 : decode cX8_turn 93 = .ok (.getfield 62, 3) := by decide +kernel
theorem dX8_turn_96 : decode cX8_turn 96 = .ok (.iload_n 1, 1) := by decide +kernel
theorem dX8_turn_97 : decode cX8_turn 97 = .ok (.iaload, 1) := by decide +kernel
theorem dX8_turn_98 : decode cX8_turn 98 = .ok (.ireturn, 1) := by decide +kernel
theorem dX8_plant_0 : decode cX8_plant 0 = .ok (.aload_n 0, 1) := by decide +kernel
theorem dX8_plant_1 : decode cX8_plant 1 = .ok (.iload_n 1, 1) := by decide +kernel
theorem dX8_plant_2 : decode cX8_plant 2 = .ok (.iload_n 2, 1) := by decide +kernel
theorem dX8_plant_3 : decode cX8_plant 3 = .ok (.invokevirtual 289, 3) := by decide +kernel
theorem dX8_plant_6 : decode cX8_plant 6 = .ok (.ifCond .eq 15, 3) := by decide +kernel
theorem dX8_plant_9 : decode cX8_plant 9 = .ok (.iload_n 3, 1) := by decide +kernel
theorem dX8_plant_10 : decode cX8_plant 10 = .ok (.i2l, 1) := by decide +kernel
theorem dX8_plant_11 : decode cX8_plant 11 = .ok (.lconst 0, 1) := by decide +kernel
theorem dX8_plant_12 : decode cX8_plant 12 = .ok (.ldc2_w 251, 3) := by decide +kernel
theorem dX8_plant_15 : decode cX8_plant 15 = .ok (.invokestatic 177, 3) := by decide +kernel
theorem dX8_plant_18 : decode cX8_plant 18 = .ok (.ifCond .ne 5, 3) := by decide +kernel
theorem dX8_plant_21 : decode cX8_plant 21 = .ok (.iconst (-1), 1) := by decide +kernel
theorem dX8_plant_22 : decode cX8_plant 22 = .ok (.ireturn, 1) := by decide +kernel
theorem dX8_plant_23 : decode cX8_plant 23 = .ok (.aload_n 0, 1) := by decide +kernel
theorem dX8_plant_24 : decode cX8_plant 24 = .ok (.getfield 68, 3) := by decide +kernel
theorem dX8_plant_27 : decode cX8_plant 27 = .ok (.bipush 10, 2) := by decide +kernel
theorem dX8_plant_29 : decode cX8_plant 29 = .ok (.iload_n 1, 1) := by decide +kernel
theorem dX8_plant_30 : decode cX8_plant 30 = .ok (.imul, 1) := by decide +kernel
theorem dX8_plant_31 : decode cX8_plant 31 = .ok (.iload_n 2, 1) := by decide +kernel
theorem dX8_plant_32 : decode cX8_plant 32 = .ok (.iadd, 1) := by decide +kernel
theorem dX8_plant_33 : decode cX8_plant 33 = .ok (.iaload, 1) := by decide +kernel
theorem dX8_plant_34 : decode cX8_plant 34 = .ok (.istore 4, 2) := by decide +kernel
theorem dX8_plant_36 : decode cX8_plant 36 = .ok (.aload_n 0, 1) := by decide +kernel
theorem dX8_plant_37 : decode cX8_plant 37 = .ok (.getfield 68, 3) := by decide +kernel
theorem dX8_plant_40 : decode cX8_plant 40 = .ok (.bipush 10, 2) := by decide +kernel
theorem dX8_plant_42 : decode cX8_plant 42 = .ok (.iload_n 1, 1) := by decide +kernel
theorem dX8_plant_43 : decode cX8_plant 43 = .ok (.imul, 1) := by decide +kernel
theorem dX8_plant_44 : decode cX8_plant 44 = .ok (.iload_n 2, 1) := by decide +kernel
theorem dX8_plant_45 : decode cX8_plant 45 = .ok (.iadd, 1) := by decide +kernel
theorem dX8_plant_46 : decode cX8_plant 46 = .ok (.iload_n 3, 1) := by decide +kernel
theorem dX8_plant_47 : decode cX8_plant 47 = .ok (.iastore, 1) := by decide +kernel
theorem dX8_plant_48 : decode cX8_plant 48 = .ok (.iload 4, 2) := by decide +kernel
theorem dX8_plant_50 : decode cX8_plant 50 = .ok (.ireturn, 1) := by decide +kernel
theorem dX8_made_0 : decode cX8_made 0 = .ok (.aload_n 0, 1) := by decide +kernel
theorem dX8_made_1 : decode cX8_made 1 = .ok (.iload_n 1, 1) := by decide +kernel
theorem dX8_made_2 : decode cX8_made 2 = .ok (.invokevirtual 286, 3) := by decide +kernel
theorem dX8_made_5 : decode cX8_made 5 = .ok (.ifCond .eq 27, 3) := by decide +kernel
theorem dX8_made_8 : decode cX8_made 8 = .ok (.aload_n 0, 1) := by decide +kernel
theorem dX8_made_9 : decode cX8_made 9 = .ok (.iload_n 2, 1) := by decide +kernel
theorem dX8_made_10 : decode cX8_made 10 = .ok (.invokevirtual 246, 3) := by decide +kernel
theorem dX8_made_13 : decode cX8_made 13 = .ok (.ifCond .eq 19, 3) := by decide +kernel
theorem dX8_made_16 : decode cX8_made 16 = .ok (.iload_n 3, 1) := by decide +kernel
theorem dX8_made_17 : decode cX8_made 17 = .ok (.i2l, 1) := by decide +kernel
theorem dX8_made_18 : decode cX8_made 18 = .ok (.lconst 0, 1) := by decide +kernel
theorem dX8_made_19 : decode cX8_made 19 = .ok (.aload_n 0, 1) := by decide +kernel
theorem dX8_made_20 : decode cX8_made 20 = .ok (.getfield 62, 3) := by decide +kernel
theorem dX8_made_23 : decode cX8_made 23 = .ok (.iload_n 1, 1) := by decide +kernel
theorem dX8_made_24 : decode cX8_made 24 = .ok (.iaload, 1) := by decide +kernel
theorem dX8_made_25 : decode cX8_made 25 = .ok (.i2l, 1) := by decide +kernel
theorem dX8_made_26 : decode cX8_made 26 = .ok (.invokestatic 177, 3) := by decide +kernel
theorem dX8_made_29 : decode cX8_made 29 = .ok (.ifCond .ne 5, 3) := by decide +kernel
theorem dX8_made_32 : decode cX8_made 32 = .ok (.iconst (-1), 1) := by decide +kernel
theorem dX8_made_33 : decode cX8_made 33 = .ok (.ireturn, 1) := by decide +kernel
theorem dX8_made_34 : decode cX8_made 34 = .ok (.aload_n 0, 1) := by decide +kernel
theorem dX8_made_35 : decode cX8_made 35 = .ok (.aload_n 0, 1) := by decide +kernel
theorem dX8_made_36 : decode cX8_made 36 = .ok (.iload_n 2, 1) := by decide +kernel
theorem dX8_made_37 : decode cX8_made 37 = .ok (.invokevirtual 265, 3) := by decide +kernel
theorem dX8_made_40 : decode cX8_made 40 = .ok (.iload_n 1, 1) := by decide +kernel
theorem dX8_made_41 : decode cX8_made 41 = .ok (.iload_n 3, 1) := by decide +kernel
theorem dX8_made_42 : decode cX8_made 42 = .ok (.invokevirtual 292, 3) := by decide +kernel
theorem dX8_made_45 : decode cX8_made 45 = .ok (.istore 4, 2) := by decide +kernel
theorem dX8_made_47 : decode cX8_made 47 = .ok (.aload_n 0, 1) := by decide +kernel
theorem dX8_made_48 : decode cX8_made 48 = .ok (.iconst 0, 1) := by decide +kernel
theorem dX8_made_49 : decode cX8_made 49 = .ok (.putfield 185, 3) := by decide +kernel
theorem dX8_made_52 : decode cX8_made 52 = .ok (.aload_n 0, 1) := by decide +kernel
theorem dX8_made_53 : decode cX8_made 53 = .ok (.iload 4, 2) := by decide +kernel
theorem dX8_made_55 : decode cX8_made 55 = .ok (.invokevirtual 205, 3) := by decide +kernel
theorem dX8_made_58 : decode cX8_made 58 = .ok (.aload_n 0, 1) := by decide +kernel
theorem dX8_made_59 : decode cX8_made 59 = .ok (.aload_n 0, 1) := by decide +kernel
theorem dX8_made_60 : decode cX8_made 60 = .ok (.getfield 185, 3) := by decide +kernel
theorem dX8_made_63 : decode cX8_made 63 = .ok (.putfield 295, 3) := by decide +kernel
theorem dX8_made_66 : decode cX8_made 66 = .ok (.iconst 0, 1) := by decide +kernel
theorem dX8_made_67 : decode cX8_made 67 = .ok (.istore 5, 2) := by decide +kernel
theorem dX8_made_69 : decode cX8_made 69 = .ok (.iload 5, 2) := by decide +kernel
theorem dX8_made_71 : decode cX8_made 71 = .ok (.aload_n 0, 1) := by decide +kernel
theorem dX8_made_72 : decode cX8_made 72 = .ok (.getfield 295, 3) := by decide +kernel
theorem dX8_made_75 : decode cX8_made 75 = .ok (.if_icmp .ge 53, 3) := by decide +kernel
theorem dX8_made_78 : decode cX8_made 78 = .ok (.aload_n 0, 1) := by decide +kernel
theorem dX8_made_79 : decode cX8_made 79 = .ok (.getfield 71, 3) := by decide +kernel
theorem dX8_made_82 : decode cX8_made 82 = .ok (.iload 5, 2) := by decide +kernel
theorem dX8_made_84 : decode cX8_made 84 = .ok (.aload_n 0, 1) := by decide +kernel
theorem dX8_made_85 : decode cX8_made 85 = .ok (.getfield 37, 3) := by decide +kernel
theorem dX8_made_88 : decode cX8_made 88 = .ok (.iload 5, 2) := by decide +kernel
theorem dX8_made_90 : decode cX8_made 90 = .ok (.iaload, 1) := by decide +kernel
theorem dX8_made_91 : decode cX8_made 91 = .ok (.iastore, 1) := by decide +kernel
theorem dX8_made_92 : decode cX8_made 92 = .ok (.aload_n 0, 1) := by decide +kernel
theorem dX8_made_93 : decode cX8_made 93 = .ok (.getfield 74, 3) := by decide +kernel
theorem dX8_made_96 : decode cX8_made 96 = .ok (.iload 5, 2) := by decide +kernel
theorem dX8_made_98 : decode cX8_made 98 = .ok (.aload_n 0, 1) := by decide +kernel
theorem dX8_made_99 : decode cX8_made 99 = .ok (.getfield 40, 3) := by decide +kernel
theorem dX8_made_102 : decode cX8_made 102 = .ok (.iload 5, 2) := by decide +kernel
theorem dX8_made_104 : decode cX8_made 104 = .ok (.iaload, 1) := by decide +kernel
theorem dX8_made_105 : decode cX8_made 105 = .ok (.iastore, 1) := by decide +kernel
theorem dX8_made_106 : decode cX8_made 106 = .ok (.aload_n 0, 1) := by decide +kernel
theorem dX8_made_107 : decode cX8_made 107 = .ok (.getfield 77, 3) := by decide +kernel
theorem dX8_made_110 : decode cX8_made 110 = .ok (.iload 5, 2) := by decide +kernel
theorem dX8_made_112 : decode cX8_made 112 = .ok (.aload_n 0, 1) := by decide +kernel
theorem dX8_made_113 : decode cX8_made 113 = .ok (.iload 5, 2) := by decide +kernel
theorem dX8_made_115 : decode cX8_made 115 = .ok (.invokevirtual 262, 3) := by decide +kernel
theorem dX8_made_118 : decode cX8_made 118 = .ok (.iload 5, 2) := by decide +kernel
theorem dX8_made_120 : decode cX8_made 120 = .ok (.isub, 1) := by decide +kernel
theorem dX8_made_121 : decode cX8_made 121 = .ok (.iastore, 1) := by decide +kernel
theorem dX8_made_122 : decode cX8_made 122 = .ok (.iinc 5 1, 3) := by decide +kernel
theorem dX8_made_125 : decode cX8_made 125 = .ok (.goto (-56), 3) := by decide +kernel
theorem dX8_made_128 : decode cX8_made 128 = .ok (.aload_n 0, 1) := by decide +kernel
theorem dX8_made_129 : decode cX8_made 129 = .ok (.getfield 295, 3) := by decide +kernel
theorem dX8_made_132 : decode cX8_made 132 = .ok (.ireturn, 1) := by decide +kernel
theorem dX8_part_0 : decode cX8_part 0 = .ok (.iload_n 1, 1) := by decide +kernel
theorem dX8_part_1 : decode cX8_part 1 = .ok (.i2l, 1) := by decide +kernel
theorem dX8_part_2 : decode cX8_part 2 = .ok (.lconst 0, 1) := by decide +kernel
theorem dX8_part_3 : decode cX8_part 3 = .ok (.aload_n 0, 1) := by decide +kernel
theorem dX8_part_4 : decode cX8_part 4 = .ok (.getfield 295, 3) := by decide +kernel
theorem dX8_part_7 : decode cX8_part 7 = .ok (.iconst 1, 1) := by decide +kernel
theorem dX8_part_8 : decode cX8_part 8 = .ok (.isub, 1) := by decide +kernel
theorem dX8_part_9 : decode cX8_part 9 = .ok (.i2l, 1) := by decide +kernel
theorem dX8_part_10 : decode cX8_part 10 = .ok (.invokestatic 177, 3) := by decide +kernel
theorem dX8_part_13 : decode cX8_part 13 = .ok (.ifCond .eq 15, 3) := by decide +kernel
theorem dX8_part_16 : decode cX8_part 16 = .ok (.iload_n 2, 1) := by decide +kernel
theorem dX8_part_17 : decode cX8_part 17 = .ok (.i2l, 1) := by decide +kernel
theorem dX8_part_18 : decode cX8_part 18 = .ok (.lconst 0, 1) := by decide +kernel
theorem dX8_part_19 : decode cX8_part 19 = .ok (.ldc2_w 251, 3) := by decide +kernel
theorem dX8_part_22 : decode cX8_part 22 = .ok (.invokestatic 177, 3) := by decide +kernel
theorem dX8_part_25 : decode cX8_part 25 = .ok (.ifCond .ne 7, 3) := by decide +kernel
theorem dX8_part_28 : decode cX8_part 28 = .ok (.ldc_w 261, 3) := by decide +kernel
theorem dX8_part_31 : decode cX8_part 31 = .ok (.ireturn, 1) := by decide +kernel
theorem dX8_part_32 : decode cX8_part 32 = .ok (.iload_n 2, 1) := by decide +kernel
theorem dX8_part_33 : decode cX8_part 33 = .ok (.ifCond .ne 12, 3) := by decide +kernel
theorem dX8_part_36 : decode cX8_part 36 = .ok (.aload_n 0, 1) := by decide +kernel
theorem dX8_part_37 : decode cX8_part 37 = .ok (.getfield 71, 3) := by decide +kernel
theorem dX8_part_40 : decode cX8_part 40 = .ok (.iload_n 1, 1) := by decide +kernel
theorem dX8_part_41 : decode cX8_part 41 = .ok (.iaload, 1) := by decide +kernel
theorem dX8_part_42 : decode cX8_part 42 = .ok (.goto 23, 3) := by decide +kernel
theorem dX8_part_45 : decode cX8_part 45 = .ok (.iload_n 2, 1) := by decide +kernel
theorem dX8_part_46 : decode cX8_part 46 = .ok (.iconst 1, 1) := by decide +kernel
theorem dX8_part_47 : decode cX8_part 47 = .ok (.if_icmp .ne 12, 3) := by decide +kernel
theorem dX8_part_50 : decode cX8_part 50 = .ok (.aload_n 0, 1) := by decide +kernel
theorem dX8_part_51 : decode cX8_part 51 = .ok (.getfield 74, 3) := by decide +kernel
theorem dX8_part_54 : decode cX8_part 54 = .ok (.iload_n 1, 1) := by decide +kernel
theorem dX8_part_55 : decode cX8_part 55 = .ok (.iaload, 1) := by decide +kernel
theorem dX8_part_56 : decode cX8_part 56 = .ok (.goto 9, 3) := by decide +kernel
theorem dX8_part_59 : decode cX8_part 59 = .ok (.aload_n 0, 1) := by decide +kernel
theorem dX8_part_60 : decode cX8_part 60 = .ok (.getfield 77, 3) := by decide +kernel
theorem dX8_part_63 : decode cX8_part 63 = .ok (.iload_n 1, 1) := by decide +kernel
theorem dX8_part_64 : decode cX8_part 64 = .ok (.iaload, 1) := by decide +kernel
theorem dX8_part_65 : decode cX8_part 65 = .ok (.ireturn, 1) := by decide +kernel
theorem dX8_answer_0 : decode cX8_answer 0 = .ok (.aload_n 0, 1) := by decide +kernel
theorem dX8_answer_1 : decode cX8_answer 1 = .ok (.iload_n 1, 1) := by decide +kernel
theorem dX8_answer_2 : decode cX8_answer 2 = .ok (.invokevirtual 286, 3) := by decide +kernel
theorem dX8_answer_5 : decode cX8_answer 5 = .ok (.ifCond .eq 11, 3) := by decide +kernel
theorem dX8_answer_8 : decode cX8_answer 8 = .ok (.aload_n 0, 1) := by decide +kernel
theorem dX8_answer_9 : decode cX8_answer 9 = .ok (.iload_n 2, 1) := by decide +kernel
theorem dX8_answer_10 : decode cX8_answer 10 = .ok (.invokevirtual 246, 3) := by decide +kernel
theorem dX8_answer_13 : decode cX8_answer 13 = .ok (.ifCond .ne 7, 3) := by decide +kernel
theorem dX8_answer_16 : decode cX8_answer 16 = .ok (.ldc_w 261, 3) := by decide +kernel
theorem dX8_answer_19 : decode cX8_answer 19 = .ok (.ireturn, 1) := by decide +kernel
theorem dX8_answer_20 : decode cX8_answer 20 = .ok (.aload_n 0, 1) := by decide +kernel
theorem dX8_answer_21 : decode cX8_answer 21 = .ok (.aload_n 0, 1) := by decide +kernel
theorem dX8_answer_22 : decode cX8_answer 22 = .ok (.aload_n 0, 1) := by decide +kernel
theorem dX8_answer_23 : decode cX8_answer 23 = .ok (.iload_n 2, 1) := by decide +kernel
theorem dX8_answer_24 : decode cX8_answer 24 = .ok (.invokevirtual 265, 3) := by decide +kernel
theorem dX8_answer_27 : decode cX8_answer 27 = .ok (.iload_n 1, 1) := by decide +kernel
theorem dX8_answer_28 : decode cX8_answer 28 = .ok (.aload_n 0, 1) := by decide +kernel
theorem dX8_answer_29 : decode cX8_answer 29 = .ok (.getfield 62, 3) := by decide +kernel
theorem dX8_answer_32 : decode cX8_answer 32 = .ok (.iload_n 1, 1) := by decide +kernel
theorem dX8_answer_33 : decode cX8_answer 33 = .ok (.iaload, 1) := by decide +kernel
theorem dX8_answer_34 : decode cX8_answer 34 = .ok (.invokevirtual 292, 3) := by decide +kernel
theorem dX8_answer_37 : decode cX8_answer 37 = .ok (.iload_n 3, 1) := by decide +kernel
theorem dX8_answer_38 : decode cX8_answer 38 = .ok (.iload 4, 2) := by decide +kernel
theorem dX8_answer_40 : decode cX8_answer 40 = .ok (.invokevirtual 118, 3) := by decide +kernel
theorem dX8_answer_43 : decode cX8_answer 43 = .ok (.istore 5, 2) := by decide +kernel
theorem dX8_answer_45 : decode cX8_answer 45 = .ok (.aload_n 0, 1) := by decide +kernel
theorem dX8_answer_46 : decode cX8_answer 46 = .ok (.getfield 104, 3) := by decide +kernel
theorem dX8_answer_49 : decode cX8_answer 49 = .ok (.ifCond .eq 9, 3) := by decide +kernel
theorem dX8_answer_52 : decode cX8_answer 52 = .ok (.ldc_w 261, 3) := by decide +kernel
theorem dX8_answer_55 : decode cX8_answer 55 = .ok (.goto 5, 3) := by decide +kernel
theorem dX8_answer_58 : decode cX8_answer 58 = .ok (.iload 5, 2) := by decide +kernel
theorem dX8_answer_60 : decode cX8_answer 60 = .ok (.ireturn, 1) := by decide +kernel
theorem dX8_cost_0 : decode cX8_cost 0 = .ok (.aload_n 0, 1) := by decide +kernel
theorem dX8_cost_1 : decode cX8_cost 1 = .ok (.iload_n 1, 1) := by decide +kernel
theorem dX8_cost_2 : decode cX8_cost 2 = .ok (.invokevirtual 286, 3) := by decide +kernel
theorem dX8_cost_5 : decode cX8_cost 5 = .ok (.ifCond .eq 11, 3) := by decide +kernel
theorem dX8_cost_8 : decode cX8_cost 8 = .ok (.aload_n 0, 1) := by decide +kernel
theorem dX8_cost_9 : decode cX8_cost 9 = .ok (.iload_n 2, 1) := by decide +kernel
theorem dX8_cost_10 : decode cX8_cost 10 = .ok (.invokevirtual 246, 3) := by decide +kernel
theorem dX8_cost_13 : decode cX8_cost 13 = .ok (.ifCond .ne 5, 3) := by decide +kernel
theorem dX8_cost_16 : decode cX8_cost 16 = .ok (.iconst (-1), 1) := by decide +kernel
theorem dX8_cost_17 : decode cX8_cost 17 = .ok (.ireturn, 1) := by decide +kernel
theorem dX8_cost_18 : decode cX8_cost 18 = .ok (.aload_n 0, 1) := by decide +kernel
theorem dX8_cost_19 : decode cX8_cost 19 = .ok (.aload_n 0, 1) := by decide +kernel
theorem dX8_cost_20 : decode cX8_cost 20 = .ok (.aload_n 0, 1) := by decide +kernel
theorem dX8_cost_21 : decode cX8_cost 21 = .ok (.iload_n 2, 1) := by decide +kernel
theorem dX8_cost_22 : decode cX8_cost 22 = .ok (.invokevirtual 265, 3) := by decide +kernel
theorem dX8_cost_25 : decode cX8_cost 25 = .ok (.iload_n 1, 1) := by decide +kernel
theorem dX8_cost_26 : decode cX8_cost 26 = .ok (.aload_n 0, 1) := by decide +kernel
theorem dX8_cost_27 : decode cX8_cost 27 = .ok (.getfield 62, 3) := by decide +kernel
theorem dX8_cost_30 : decode cX8_cost 30 = .ok (.iload_n 1, 1) := by decide +kernel
theorem dX8_cost_31 : decode cX8_cost 31 = .ok (.iaload, 1) := by decide +kernel
theorem dX8_cost_32 : decode cX8_cost 32 = .ok (.invokevirtual 292, 3) := by decide +kernel
theorem dX8_cost_35 : decode cX8_cost 35 = .ok (.iload_n 3, 1) := by decide +kernel
theorem dX8_cost_36 : decode cX8_cost 36 = .ok (.iload 4, 2) := by decide +kernel
theorem dX8_cost_38 : decode cX8_cost 38 = .ok (.invokevirtual 118, 3) := by decide +kernel
theorem dX8_cost_41 : decode cX8_cost 41 = .ok (.istore 5, 2) := by decide +kernel
theorem dX8_cost_43 : decode cX8_cost 43 = .ok (.aload_n 0, 1) := by decide +kernel
theorem dX8_cost_44 : decode cX8_cost 44 = .ok (.getfield 108, 3) := by decide +kernel
theorem dX8_cost_47 : decode cX8_cost 47 = .ok (.ireturn, 1) := by decide +kernel
theorem dX8_firesOf_0 : decode cX8_firesOf 0 = .ok (.aload_n 0, 1) := by decide +kernel
theorem dX8_firesOf_1 : decode cX8_firesOf 1 = .ok (.iload_n 1, 1) := by decide +kernel
theorem dX8_firesOf_2 : decode cX8_firesOf 2 = .ok (.iload_n 2, 1) := by decide +kernel
theorem dX8_firesOf_3 : decode cX8_firesOf 3 = .ok (.iload_n 3, 1) := by decide +kernel
theorem dX8_firesOf_4 : decode cX8_firesOf 4 = .ok (.invokevirtual 292, 3) := by decide +kernel
theorem dX8_firesOf_7 : decode cX8_firesOf 7 = .ok (.istore 4, 2) := by decide +kernel
theorem dX8_firesOf_9 : decode cX8_firesOf 9 = .ok (.aload_n 0, 1) := by decide +kernel
theorem dX8_firesOf_10 : decode cX8_firesOf 10 = .ok (.iload 4, 2) := by decide +kernel
theorem dX8_firesOf_12 : decode cX8_firesOf 12 = .ok (.iload_n 2, 1) := by decide +kernel
theorem dX8_firesOf_13 : decode cX8_firesOf 13 = .ok (.iload_n 3, 1) := by decide +kernel
theorem dX8_firesOf_14 : decode cX8_firesOf 14 = .ok (.invokevirtual 172, 3) := by decide +kernel
theorem dX8_firesOf_17 : decode cX8_firesOf 17 = .ok (.istore 4, 2) := by decide +kernel
theorem dX8_firesOf_19 : decode cX8_firesOf 19 = .ok (.aload_n 0, 1) := by decide +kernel
theorem dX8_firesOf_20 : decode cX8_firesOf 20 = .ok (.getfield 169, 3) := by decide +kernel
theorem dX8_firesOf_23 : decode cX8_firesOf 23 = .ok (.ireturn, 1) := by decide +kernel
theorem dX8_fires_0 : decode cX8_fires 0 = .ok (.aload_n 0, 1) := by decide +kernel
theorem dX8_fires_1 : decode cX8_fires 1 = .ok (.iload_n 1, 1) := by decide +kernel
theorem dX8_fires_2 : decode cX8_fires 2 = .ok (.iload_n 3, 1) := by decide +kernel
theorem dX8_fires_3 : decode cX8_fires 3 = .ok (.invokevirtual 289, 3) := by decide +kernel
theorem dX8_fires_6 : decode cX8_fires 6 = .ok (.ifCond .eq 25, 3) := by decide +kernel
theorem dX8_fires_9 : decode cX8_fires 9 = .ok (.aload_n 0, 1) := by decide +kernel
theorem dX8_fires_10 : decode cX8_fires 10 = .ok (.iload_n 2, 1) := by decide +kernel
theorem dX8_fires_11 : decode cX8_fires 11 = .ok (.invokevirtual 246, 3) := by decide +kernel
theorem dX8_fires_14 : decode cX8_fires 14 = .ok (.ifCond .eq 17, 3) := by decide +kernel
theorem dX8_fires_17 : decode cX8_fires 17 = .ok (.aload_n 0, 1) := by decide +kernel
theorem dX8_fires_18 : decode cX8_fires 18 = .ok (.aload_n 0, 1) := by decide +kernel
theorem dX8_fires_19 : decode cX8_fires 19 = .ok (.iload_n 2, 1) := by decide +kernel
theorem dX8_fires_20 : decode cX8_fires 20 = .ok (.invokevirtual 265, 3) := by decide +kernel
theorem dX8_fires_23 : decode cX8_fires 23 = .ok (.iload_n 1, 1) := by decide +kernel
theorem dX8_fires_24 : decode cX8_fires 24 = .ok (.iload_n 3, 1) := by decide +kernel
theorem dX8_fires_25 : decode cX8_fires 25 = .ok (.invokevirtual 298, 3) := by decide +kernel
theorem dX8_fires_28 : decode cX8_fires 28 = .ok (.goto 4, 3) := by decide +kernel
theorem dX8_fires_31 : decode cX8_fires 31 = .ok (.iconst (-1), 1) := by decide +kernel
theorem dX8_fires_32 : decode cX8_fires 32 = .ok (.ireturn, 1) := by decide +kernel
theorem dX8_never_0 : decode cX8_never 0 = .ok (.aload_n 0, 1) := by decide +kernel
theorem dX8_never_1 : decode cX8_never 1 = .ok (.iload_n 1, 1) := by decide +kernel
theorem dX8_never_2 : decode cX8_never 2 = .ok (.invokevirtual 286, 3) := by decide +kernel
theorem dX8_never_5 : decode cX8_never 5 = .ok (.ifCond .ne 5, 3) := by decide +kernel
theorem dX8_never_8 : decode cX8_never 8 = .ok (.iconst (-1), 1) := by decide +kernel
theorem dX8_never_9 : decode cX8_never 9 = .ok (.ireturn, 1) := by decide +kernel
theorem dX8_never_10 : decode cX8_never 10 = .ok (.iconst 0, 1) := by decide +kernel
theorem dX8_never_11 : decode cX8_never 11 = .ok (.istore_n 2, 1) := by decide +kernel
theorem dX8_never_12 : decode cX8_never 12 = .ok (.iconst 0, 1) := by decide +kernel
theorem dX8_never_13 : decode cX8_never 13 = .ok (.istore_n 3, 1) := by decide +kernel
theorem dX8_never_14 : decode cX8_never 14 = .ok (.iload_n 3, 1) := by decide +kernel
theorem dX8_never_15 : decode cX8_never 15 = .ok (.aload_n 0, 1) := by decide +kernel
theorem dX8_never_16 : decode cX8_never 16 = .ok (.getfield 62, 3) := by decide +kernel
theorem dX8_never_19 : decode cX8_never 19 = .ok (.iload_n 1, 1) := by decide +kernel
theorem dX8_never_20 : decode cX8_never 20 = .ok (.iaload, 1) := by decide +kernel
theorem dX8_never_21 : decode cX8_never 21 = .ok (.if_icmp .ge 79, 3) := by decide +kernel
theorem dX8_never_24 : decode cX8_never 24 = .ok (.iconst 0, 1) := by decide +kernel
theorem dX8_never_25 : decode cX8_never 25 = .ok (.istore 4, 2) := by decide +kernel
theorem dX8_never_27 : decode cX8_never 27 = .ok (.iconst 0, 1) := by decide +kernel
theorem dX8_never_28 : decode cX8_never 28 = .ok (.istore 5, 2) := by decide +kernel
theorem dX8_never_30 : decode cX8_never 30 = .ok (.iload 5, 2) := by decide +kernel
theorem dX8_never_32 : decode cX8_never 32 = .ok (.bipush 20, 2) := by decide +kernel
theorem dX8_never_34 : decode cX8_never 34 = .ok (.if_icmp .ge 45, 3) := by decide +kernel
theorem dX8_never_37 : decode cX8_never 37 = .ok (.iload 4, 2) := by decide +kernel
theorem dX8_never_39 : decode cX8_never 39 = .ok (.ifCond .ne 40, 3) := by decide +kernel
theorem dX8_never_42 : decode cX8_never 42 = .ok (.aload_n 0, 1) := by decide +kernel
theorem dX8_never_43 : decode cX8_never 43 = .ok (.iload 5, 2) := by decide +kernel
theorem dX8_never_45 : decode cX8_never 45 = .ok (.invokevirtual 246, 3) := by decide +kernel
theorem dX8_never_48 : decode cX8_never 48 = .ok (.ifCond .eq 22, 3) := by decide +kernel
theorem dX8_never_51 : decode cX8_never 51 = .ok (.aload_n 0, 1) := by decide +kernel
theorem dX8_never_52 : decode cX8_never 52 = .ok (.aload_n 0, 1) := by decide +kernel
theorem dX8_never_53 : decode cX8_never 53 = .ok (.iload 5, 2) := by decide +kernel
theorem dX8_never_55 : decode cX8_never 55 = .ok (.invokevirtual 265, 3) := by decide +kernel
theorem dX8_never_58 : decode cX8_never 58 = .ok (.iload_n 1, 1) := by decide +kernel
theorem dX8_never_59 : decode cX8_never 59 = .ok (.iload_n 3, 1) := by decide +kernel
theorem dX8_never_60 : decode cX8_never 60 = .ok (.invokevirtual 298, 3) := by decide +kernel
theorem dX8_never_63 : decode cX8_never 63 = .ok (.ifCond .le 7, 3) := by decide +kernel
theorem dX8_never_66 : decode cX8_never 66 = .ok (.iconst 1, 1) := by decide +kernel
theorem dX8_never_67 : decode cX8_never 67 = .ok (.goto 4, 3) := by decide +kernel
theorem dX8_never_70 : decode cX8_never 70 = .ok (.iconst 0, 1) := by decide +kernel
theorem dX8_never_71 : decode cX8_never 71 = .ok (.istore 4, 2) := by decide +kernel
theorem dX8_never_73 : decode cX8_never 73 = .ok (.iinc 5 1, 3) := by decide +kernel
theorem dX8_never_76 : decode cX8_never 76 = .ok (.goto (-46), 3) := by decide +kernel
theorem dX8_never_79 : decode cX8_never 79 = .ok (.iload_n 2, 1) := by decide +kernel
theorem dX8_never_80 : decode cX8_never 80 = .ok (.iload 4, 2) := by decide +kernel
theorem dX8_never_82 : decode cX8_never 82 = .ok (.ifCond .eq 7, 3) := by decide +kernel
theorem dX8_never_85 : decode cX8_never 85 = .ok (.iconst 0, 1) := by decide +kernel
theorem dX8_never_86 : decode cX8_never 86 = .ok (.goto 6, 3) := by decide +kernel
theorem dX8_never_89 : decode cX8_never 89 = .ok (.iconst 1, 1) := by decide +kernel
theorem dX8_never_90 : decode cX8_never 90 = .ok (.iload_n 3, 1) := by decide +kernel
theorem dX8_never_91 : decode cX8_never 91 = .ok (.ishl, 1) := by decide +kernel
theorem dX8_never_92 : decode cX8_never 92 = .ok (.ior, 1) := by decide +kernel
theorem dX8_never_93 : decode cX8_never 93 = .ok (.istore_n 2, 1) := by decide +kernel
theorem dX8_never_94 : decode cX8_never 94 = .ok (.iinc 3 1, 3) := by decide +kernel
theorem dX8_never_97 : decode cX8_never 97 = .ok (.goto (-83), 3) := by decide +kernel
theorem dX8_never_100 : decode cX8_never 100 = .ok (.iload_n 2, 1) := by decide +kernel
theorem dX8_never_101 : decode cX8_never 101 = .ok (.ireturn, 1) := by decide +kernel
theorem dX8_isOther_0 : decode cX8_isOther 0 = .ok (.aload_n 0, 1) := by decide +kernel
theorem dX8_isOther_1 : decode cX8_isOther 1 = .ok (.iload_n 1, 1) := by decide +kernel
theorem dX8_isOther_2 : decode cX8_isOther 2 = .ok (.iload_n 3, 1) := by decide +kernel
theorem dX8_isOther_3 : decode cX8_isOther 3 = .ok (.iload 4, 2) := by decide +kernel
theorem dX8_isOther_5 : decode cX8_isOther 5 = .ok (.invokevirtual 118, 3) := by decide +kernel
theorem dX8_isOther_8 : decode cX8_isOther 8 = .ok (.istore 5, 2) := by decide +kernel
theorem dX8_isOther_10 : decode cX8_isOther 10 = .ok (.aload_n 0, 1) := by decide +kernel
theorem dX8_isOther_11 : decode cX8_isOther 11 = .ok (.iload_n 2, 1) := by decide +kernel
theorem dX8_isOther_12 : decode cX8_isOther 12 = .ok (.iload_n 3, 1) := by decide +kernel
theorem dX8_isOther_13 : decode cX8_isOther 13 = .ok (.iload 4, 2) := by decide +kernel
theorem dX8_isOther_15 : decode cX8_isOther 15 = .ok (.invokevirtual 118, 3) := by decide +kernel
theorem dX8_isOther_18 : decode cX8_isOther 18 = .ok (.istore 6, 2) := by decide +kernel
theorem dX8_isOther_20 : decode cX8_isOther 20 = .ok (.aload_n 0, 1) := by decide +kernel
theorem dX8_isOther_21 : decode cX8_isOther 21 = .ok (.getfield 104, 3) := by decide +kernel
theorem dX8_isOther_24 : decode cX8_isOther 24 = .ok (.ifCond .ne 10, 3) := by decide +kernel
theorem dX8_isOther_27 : decode cX8_isOther 27 = .ok (.iload 5, 2) := by decide +kernel
theorem dX8_isOther_29 : decode cX8_isOther 29 = .ok (.iload 6, 2) := by decide +kernel
theorem dX8_isOther_31 : decode cX8_isOther 31 = .ok (.if_icmp .eq 7, 3) := by decide +kernel
theorem dX8_isOther_34 : decode cX8_isOther 34 = .ok (.iconst 1, 1) := by decide +kernel
theorem dX8_isOther_35 : decode cX8_isOther 35 = .ok (.goto 4, 3) := by decide +kernel
theorem dX8_isOther_38 : decode cX8_isOther 38 = .ok (.iconst 0, 1) := by decide +kernel
theorem dX8_isOther_39 : decode cX8_isOther 39 = .ok (.ireturn, 1) := by decide +kernel
theorem dX8_firstOf_0 : decode cX8_firstOf 0 = .ok (.aload_n 0, 1) := by decide +kernel
theorem dX8_firstOf_1 : decode cX8_firstOf 1 = .ok (.iload_n 1, 1) := by decide +kernel
theorem dX8_firstOf_2 : decode cX8_firstOf 2 = .ok (.iload_n 2, 1) := by decide +kernel
theorem dX8_firstOf_3 : decode cX8_firstOf 3 = .ok (.aload_n 0, 1) := by decide +kernel
theorem dX8_firstOf_4 : decode cX8_firstOf 4 = .ok (.getfield 62, 3) := by decide +kernel
theorem dX8_firstOf_7 : decode cX8_firstOf 7 = .ok (.iload_n 2, 1) := by decide +kernel
theorem dX8_firstOf_8 : decode cX8_firstOf 8 = .ok (.iaload, 1) := by decide +kernel
theorem dX8_firstOf_9 : decode cX8_firstOf 9 = .ok (.invokevirtual 292, 3) := by decide +kernel
theorem dX8_firstOf_12 : decode cX8_firstOf 12 = .ok (.istore 4, 2) := by decide +kernel
theorem dX8_firstOf_14 : decode cX8_firstOf 14 = .ok (.iload_n 3, 1) := by decide +kernel
theorem dX8_firstOf_15 : decode cX8_firstOf 15 = .ok (.ineg, 1) := by decide +kernel
theorem dX8_firstOf_16 : decode cX8_firstOf 16 = .ok (.istore 5, 2) := by decide +kernel
theorem dX8_firstOf_18 : decode cX8_firstOf 18 = .ok (.iload 5, 2) := by decide +kernel
theorem dX8_firstOf_20 : decode cX8_firstOf 20 = .ok (.iload_n 3, 1) := by decide +kernel
theorem dX8_firstOf_21 : decode cX8_firstOf 21 = .ok (.if_icmp .gt 54, 3) := by decide +kernel
theorem dX8_firstOf_24 : decode cX8_firstOf 24 = .ok (.iload_n 3, 1) := by decide +kernel
theorem dX8_firstOf_25 : decode cX8_firstOf 25 = .ok (.ineg, 1) := by decide +kernel
theorem dX8_firstOf_26 : decode cX8_firstOf 26 = .ok (.istore 6, 2) := by decide +kernel
theorem dX8_firstOf_28 : decode cX8_firstOf 28 = .ok (.iload 6, 2) := by decide +kernel
theorem dX8_firstOf_30 : decode cX8_firstOf 30 = .ok (.iload_n 3, 1) := by decide +kernel
theorem dX8_firstOf_31 : decode cX8_firstOf 31 = .ok (.if_icmp .gt 38, 3) := by decide +kernel
theorem dX8_firstOf_34 : decode cX8_firstOf 34 = .ok (.aload_n 0, 1) := by decide +kernel
theorem dX8_firstOf_35 : decode cX8_firstOf 35 = .ok (.iload_n 1, 1) := by decide +kernel
theorem dX8_firstOf_36 : decode cX8_firstOf 36 = .ok (.iload 4, 2) := by decide +kernel
theorem dX8_firstOf_38 : decode cX8_firstOf 38 = .ok (.iload 5, 2) := by decide +kernel
theorem dX8_firstOf_40 : decode cX8_firstOf 40 = .ok (.iload 6, 2) := by decide +kernel
theorem dX8_firstOf_42 : decode cX8_firstOf 42 = .ok (.invokevirtual 301, 3) := by decide +kernel
theorem dX8_firstOf_45 : decode cX8_firstOf 45 = .ok (.ifCond .eq 18, 3) := by decide +kernel
theorem dX8_firstOf_48 : decode cX8_firstOf 48 = .ok (.bipush 100, 2) := by decide +kernel
theorem dX8_firstOf_50 : decode cX8_firstOf 50 = .ok (.iload 5, 2) := by decide +kernel
theorem dX8_firstOf_52 : decode cX8_firstOf 52 = .ok (.bipush 6, 2) := by decide +kernel
theorem dX8_firstOf_54 : decode cX8_firstOf 54 = .ok (.iadd, 1) := by decide +kernel
theorem dX8_firstOf_55 : decode cX8_firstOf 55 = .ok (.imul, 1) := by decide +kernel
theorem dX8_firstOf_56 : decode cX8_firstOf 56 = .ok (.iload 6, 2) := by decide +kernel
theorem dX8_firstOf_58 : decode cX8_firstOf 58 = .ok (.iadd, 1) := by decide +kernel
theorem dX8_firstOf_59 : decode cX8_firstOf 59 = .ok (.bipush 6, 2) := by decide +kernel
theorem dX8_firstOf_61 : decode cX8_firstOf 61 = .ok (.iadd, 1) := by decide +kernel
theorem dX8_firstOf_62 : decode cX8_firstOf 62 = .ok (.ireturn, 1) := by decide +kernel
theorem dX8_firstOf_63 : decode cX8_firstOf 63 = .ok (.iinc 6 1, 3) := by decide +kernel
theorem dX8_firstOf_66 : decode cX8_firstOf 66 = .ok (.goto (-38), 3) := by decide +kernel
theorem dX8_firstOf_69 : decode cX8_firstOf 69 = .ok (.iinc 5 1, 3) := by decide +kernel
theorem dX8_firstOf_72 : decode cX8_firstOf 72 = .ok (.goto (-54), 3) := by decide +kernel
theorem dX8_firstOf_75 : decode cX8_firstOf 75 = .ok (.bipush (-5), 2) := by decide +kernel
theorem dX8_firstOf_77 : decode cX8_firstOf 77 = .ok (.ireturn, 1) := by decide +kernel
theorem dX8_differ_0 : decode cX8_differ 0 = .ok (.aload_n 0, 1) := by decide +kernel
theorem dX8_differ_1 : decode cX8_differ 1 = .ok (.iload_n 1, 1) := by decide +kernel
theorem dX8_differ_2 : decode cX8_differ 2 = .ok (.invokevirtual 286, 3) := by decide +kernel
theorem dX8_differ_5 : decode cX8_differ 5 = .ok (.ifCond .eq 23, 3) := by decide +kernel
theorem dX8_differ_8 : decode cX8_differ 8 = .ok (.aload_n 0, 1) := by decide +kernel
theorem dX8_differ_9 : decode cX8_differ 9 = .ok (.iload_n 2, 1) := by decide +kernel
theorem dX8_differ_10 : decode cX8_differ 10 = .ok (.invokevirtual 246, 3) := by decide +kernel
theorem dX8_differ_13 : decode cX8_differ 13 = .ok (.ifCond .eq 15, 3) := by decide +kernel
theorem dX8_differ_16 : decode cX8_differ 16 = .ok (.iload_n 3, 1) := by decide +kernel
theorem dX8_differ_17 : decode cX8_differ 17 = .ok (.i2l, 1) := by decide +kernel
theorem dX8_differ_18 : decode cX8_differ 18 = .ok (.lconst 0, 1) := by decide +kernel
theorem dX8_differ_19 : decode cX8_differ 19 = .ok (.ldc2_w 268, 3) := by decide +kernel
theorem dX8_differ_22 : decode cX8_differ 22 = .ok (.invokestatic 177, 3) := by decide +kernel
theorem dX8_differ_25 : decode cX8_differ 25 = .ok (.ifCond .ne 5, 3) := by decide +kernel
theorem dX8_differ_28 : decode cX8_differ 28 = .ok (.iconst (-1), 1) := by decide +kernel
theorem dX8_differ_29 : decode cX8_differ 29 = .ok (.ireturn, 1) := by decide +kernel
theorem dX8_differ_30 : decode cX8_differ 30 = .ok (.aload_n 0, 1) := by decide +kernel
theorem dX8_differ_31 : decode cX8_differ 31 = .ok (.iload_n 2, 1) := by decide +kernel
theorem dX8_differ_32 : decode cX8_differ 32 = .ok (.invokevirtual 265, 3) := by decide +kernel
theorem dX8_differ_35 : decode cX8_differ 35 = .ok (.istore 4, 2) := by decide +kernel
theorem dX8_differ_37 : decode cX8_differ 37 = .ok (.aload_n 0, 1) := by decide +kernel
theorem dX8_differ_38 : decode cX8_differ 38 = .ok (.iload 4, 2) := by decide +kernel
theorem dX8_differ_40 : decode cX8_differ 40 = .ok (.iload_n 3, 1) := by decide +kernel
theorem dX8_differ_41 : decode cX8_differ 41 = .ok (.invokevirtual 270, 3) := by decide +kernel
theorem dX8_differ_44 : decode cX8_differ 44 = .ok (.ifCond .ne 6, 3) := by decide +kernel
theorem dX8_differ_47 : decode cX8_differ 47 = .ok (.bipush (-2), 2) := by decide +kernel
theorem dX8_differ_49 : decode cX8_differ 49 = .ok (.ireturn, 1) := by decide +kernel
theorem dX8_differ_50 : decode cX8_differ 50 = .ok (.aload_n 0, 1) := by decide +kernel
theorem dX8_differ_51 : decode cX8_differ 51 = .ok (.iload 4, 2) := by decide +kernel
theorem dX8_differ_53 : decode cX8_differ 53 = .ok (.iload_n 1, 1) := by decide +kernel
theorem dX8_differ_54 : decode cX8_differ 54 = .ok (.aload_n 0, 1) := by decide +kernel
theorem dX8_differ_55 : decode cX8_differ 55 = .ok (.getfield 62, 3) := by decide +kernel
theorem dX8_differ_58 : decode cX8_differ 58 = .ok (.iload_n 1, 1) := by decide +kernel
theorem dX8_differ_59 : decode cX8_differ 59 = .ok (.iaload, 1) := by decide +kernel
theorem dX8_differ_60 : decode cX8_differ 60 = .ok (.invokevirtual 292, 3) := by decide +kernel
theorem dX8_differ_63 : decode cX8_differ 63 = .ok (.istore 5, 2) := by decide +kernel
theorem dX8_differ_65 : decode cX8_differ 65 = .ok (.iconst 0, 1) := by decide +kernel
theorem dX8_differ_66 : decode cX8_differ 66 = .ok (.istore 6, 2) := by decide +kernel
theorem dX8_differ_68 : decode cX8_differ 68 = .ok (.iload_n 3, 1) := by decide +kernel
theorem dX8_differ_69 : decode cX8_differ 69 = .ok (.ineg, 1) := by decide +kernel
theorem dX8_differ_70 : decode cX8_differ 70 = .ok (.istore 7, 2) := by decide +kernel
theorem dX8_differ_72 : decode cX8_differ 72 = .ok (.iload 7, 2) := by decide +kernel
theorem dX8_differ_74 : decode cX8_differ 74 = .ok (.iload_n 3, 1) := by decide +kernel
theorem dX8_differ_75 : decode cX8_differ 75 = .ok (.if_icmp .gt 50, 3) := by decide +kernel
theorem dX8_differ_78 : decode cX8_differ 78 = .ok (.iload_n 3, 1) := by decide +kernel
theorem dX8_differ_79 : decode cX8_differ 79 = .ok (.ineg, 1) := by decide +kernel
theorem dX8_differ_80 : decode cX8_differ 80 = .ok (.istore 8, 2) := by decide +kernel
theorem dX8_differ_82 : decode cX8_differ 82 = .ok (.iload 8, 2) := by decide +kernel
theorem dX8_differ_84 : decode cX8_differ 84 = .ok (.iload_n 3, 1) := by decide +kernel
theorem dX8_differ_85 : decode cX8_differ 85 = .ok (.if_icmp .gt 34, 3) := by decide +kernel
theorem dX8_differ_88 : decode cX8_differ 88 = .ok (.iload 6, 2) := by decide +kernel
theorem dX8_differ_90 : decode cX8_differ 90 = .ok (.aload_n 0, 1) := by decide +kernel
theorem dX8_differ_91 : decode cX8_differ 91 = .ok (.iload 4, 2) := by decide +kernel
theorem dX8_differ_93 : decode cX8_differ 93 = .ok (.iload 5, 2) := by decide +kernel
theorem dX8_differ_95 : decode cX8_differ 95 = .ok (.iload 7, 2) := by decide +kernel
theorem dX8_differ_97 : decode cX8_differ 97 = .ok (.iload 8, 2) := by decide +kernel
theorem dX8_differ_99 : decode cX8_differ 99 = .ok (.invokevirtual 301, 3) := by decide +kernel
theorem dX8_differ_102 : decode cX8_differ 102 = .ok (.ifCond .eq 7, 3) := by decide +kernel
theorem dX8_differ_105 : decode cX8_differ 105 = .ok (.iconst 1, 1) := by decide +kernel
theorem dX8_differ_106 : decode cX8_differ 106 = .ok (.goto 4, 3) := by decide +kernel
theorem dX8_differ_109 : decode cX8_differ 109 = .ok (.iconst 0, 1) := by decide +kernel
theorem dX8_differ_110 : decode cX8_differ 110 = .ok (.iadd, 1) := by decide +kernel
theorem dX8_differ_111 : decode cX8_differ 111 = .ok (.istore 6, 2) := by decide +kernel
theorem dX8_differ_113 : decode cX8_differ 113 = .ok (.iinc 8 1, 3) := by decide +kernel
theorem dX8_differ_116 : decode cX8_differ 116 = .ok (.goto (-34), 3) := by decide +kernel
theorem dX8_differ_119 : decode cX8_differ 119 = .ok (.iinc 7 1, 3) := by decide +kernel
theorem dX8_differ_122 : decode cX8_differ 122 = .ok (.goto (-50), 3) := by decide +kernel
theorem dX8_differ_125 : decode cX8_differ 125 = .ok (.iload 6, 2) := by decide +kernel
theorem dX8_differ_127 : decode cX8_differ 127 = .ok (.ireturn, 1) := by decide +kernel
theorem dX8_first_0 : decode cX8_first 0 = .ok (.aload_n 0, 1) := by decide +kernel
theorem dX8_first_1 : decode cX8_first 1 = .ok (.iload_n 1, 1) := by decide +kernel
theorem dX8_first_2 : decode cX8_first 2 = .ok (.invokevirtual 286, 3) := by decide +kernel
theorem dX8_first_5 : decode cX8_first 5 = .ok (.ifCond .eq 23, 3) := by decide +kernel
theorem dX8_first_8 : decode cX8_first 8 = .ok (.aload_n 0, 1) := by decide +kernel
theorem dX8_first_9 : decode cX8_first 9 = .ok (.iload_n 2, 1) := by decide +kernel
theorem dX8_first_10 : decode cX8_first 10 = .ok (.invokevirtual 246, 3) := by decide +kernel
theorem dX8_first_13 : decode cX8_first 13 = .ok (.ifCond .eq 15, 3) := by decide +kernel
theorem dX8_first_16 : decode cX8_first 16 = .ok (.iload_n 3, 1) := by decide +kernel
theorem dX8_first_17 : decode cX8_first 17 = .ok (.i2l, 1) := by decide +kernel
theorem dX8_first_18 : decode cX8_first 18 = .ok (.lconst 0, 1) := by decide +kernel
theorem dX8_first_19 : decode cX8_first 19 = .ok (.ldc2_w 268, 3) := by decide +kernel
theorem dX8_first_22 : decode cX8_first 22 = .ok (.invokestatic 177, 3) := by decide +kernel
theorem dX8_first_25 : decode cX8_first 25 = .ok (.ifCond .ne 5, 3) := by decide +kernel
theorem dX8_first_28 : decode cX8_first 28 = .ok (.iconst (-1), 1) := by decide +kernel
theorem dX8_first_29 : decode cX8_first 29 = .ok (.ireturn, 1) := by decide +kernel
theorem dX8_first_30 : decode cX8_first 30 = .ok (.aload_n 0, 1) := by decide +kernel
theorem dX8_first_31 : decode cX8_first 31 = .ok (.iload_n 2, 1) := by decide +kernel
theorem dX8_first_32 : decode cX8_first 32 = .ok (.invokevirtual 265, 3) := by decide +kernel
theorem dX8_first_35 : decode cX8_first 35 = .ok (.istore 4, 2) := by decide +kernel
theorem dX8_first_37 : decode cX8_first 37 = .ok (.aload_n 0, 1) := by decide +kernel
theorem dX8_first_38 : decode cX8_first 38 = .ok (.iload 4, 2) := by decide +kernel
theorem dX8_first_40 : decode cX8_first 40 = .ok (.iload_n 3, 1) := by decide +kernel
theorem dX8_first_41 : decode cX8_first 41 = .ok (.invokevirtual 270, 3) := by decide +kernel
theorem dX8_first_44 : decode cX8_first 44 = .ok (.ifCond .eq 14, 3) := by decide +kernel
theorem dX8_first_47 : decode cX8_first 47 = .ok (.aload_n 0, 1) := by decide +kernel
theorem dX8_first_48 : decode cX8_first 48 = .ok (.iload 4, 2) := by decide +kernel
theorem dX8_first_50 : decode cX8_first 50 = .ok (.iload_n 1, 1) := by decide +kernel
theorem dX8_first_51 : decode cX8_first 51 = .ok (.iload_n 3, 1) := by decide +kernel
theorem dX8_first_52 : decode cX8_first 52 = .ok (.invokevirtual 305, 3) := by decide +kernel
theorem dX8_first_55 : decode cX8_first 55 = .ok (.goto 5, 3) := by decide +kernel
theorem dX8_first_58 : decode cX8_first 58 = .ok (.bipush (-2), 2) := by decide +kernel
theorem dX8_first_60 : decode cX8_first 60 = .ok (.ireturn, 1) := by decide +kernel
theorem dX8_cause_0 : decode cX8_cause 0 = .ok (.aload_n 0, 1) := by decide +kernel
theorem dX8_cause_1 : decode cX8_cause 1 = .ok (.iload_n 1, 1) := by decide +kernel
theorem dX8_cause_2 : decode cX8_cause 2 = .ok (.invokevirtual 286, 3) := by decide +kernel
theorem dX8_cause_5 : decode cX8_cause 5 = .ok (.ifCond .eq 11, 3) := by decide +kernel
theorem dX8_cause_8 : decode cX8_cause 8 = .ok (.aload_n 0, 1) := by decide +kernel
theorem dX8_cause_9 : decode cX8_cause 9 = .ok (.iload_n 2, 1) := by decide +kernel
theorem dX8_cause_10 : decode cX8_cause 10 = .ok (.invokevirtual 246, 3) := by decide +kernel
theorem dX8_cause_13 : decode cX8_cause 13 = .ok (.ifCond .ne 5, 3) := by decide +kernel
theorem dX8_cause_16 : decode cX8_cause 16 = .ok (.iconst (-1), 1) := by decide +kernel
theorem dX8_cause_17 : decode cX8_cause 17 = .ok (.ireturn, 1) := by decide +kernel
theorem dX8_cause_18 : decode cX8_cause 18 = .ok (.aload_n 0, 1) := by decide +kernel
theorem dX8_cause_19 : decode cX8_cause 19 = .ok (.iload_n 2, 1) := by decide +kernel
theorem dX8_cause_20 : decode cX8_cause 20 = .ok (.invokevirtual 265, 3) := by decide +kernel
theorem dX8_cause_23 : decode cX8_cause 23 = .ok (.istore 5, 2) := by decide +kernel
theorem dX8_cause_25 : decode cX8_cause 25 = .ok (.aload_n 0, 1) := by decide +kernel
theorem dX8_cause_26 : decode cX8_cause 26 = .ok (.iload 5, 2) := by decide +kernel
theorem dX8_cause_28 : decode cX8_cause 28 = .ok (.iload_n 3, 1) := by decide +kernel
theorem dX8_cause_29 : decode cX8_cause 29 = .ok (.iload 4, 2) := by decide +kernel
theorem dX8_cause_31 : decode cX8_cause 31 = .ok (.invokevirtual 118, 3) := by decide +kernel
theorem dX8_cause_34 : decode cX8_cause 34 = .ok (.istore 6, 2) := by decide +kernel
theorem dX8_cause_36 : decode cX8_cause 36 = .ok (.aload_n 0, 1) := by decide +kernel
theorem dX8_cause_37 : decode cX8_cause 37 = .ok (.getfield 104, 3) := by decide +kernel
theorem dX8_cause_40 : decode cX8_cause 40 = .ok (.ifCond .eq 6, 3) := by decide +kernel
theorem dX8_cause_43 : decode cX8_cause 43 = .ok (.bipush (-2), 2) := by decide +kernel
theorem dX8_cause_45 : decode cX8_cause 45 = .ok (.ireturn, 1) := by decide +kernel
theorem dX8_cause_46 : decode cX8_cause 46 = .ok (.iconst 1, 1) := by decide +kernel
theorem dX8_cause_47 : decode cX8_cause 47 = .ok (.istore 7, 2) := by decide +kernel
theorem dX8_cause_49 : decode cX8_cause 49 = .ok (.iconst 0, 1) := by decide +kernel
theorem dX8_cause_50 : decode cX8_cause 50 = .ok (.istore 8, 2) := by decide +kernel
theorem dX8_cause_52 : decode cX8_cause 52 = .ok (.iload 8, 2) := by decide +kernel
theorem dX8_cause_54 : decode cX8_cause 54 = .ok (.aload_n 0, 1) := by decide +kernel
theorem dX8_cause_55 : decode cX8_cause 55 = .ok (.getfield 62, 3) := by decide +kernel
theorem dX8_cause_58 : decode cX8_cause 58 = .ok (.iload_n 1, 1) := by decide +kernel
theorem dX8_cause_59 : decode cX8_cause 59 = .ok (.iaload, 1) := by decide +kernel
theorem dX8_cause_60 : decode cX8_cause 60 = .ok (.if_icmp .ge 69, 3) := by decide +kernel
theorem dX8_cause_63 : decode cX8_cause 63 = .ok (.aload_n 0, 1) := by decide +kernel
theorem dX8_cause_64 : decode cX8_cause 64 = .ok (.iload 5, 2) := by decide +kernel
theorem dX8_cause_66 : decode cX8_cause 66 = .ok (.iload_n 1, 1) := by decide +kernel
theorem dX8_cause_67 : decode cX8_cause 67 = .ok (.iload 8, 2) := by decide +kernel
theorem dX8_cause_69 : decode cX8_cause 69 = .ok (.invokevirtual 172, 3) := by decide +kernel
theorem dX8_cause_72 : decode cX8_cause 72 = .ok (.istore 5, 2) := by decide +kernel
theorem dX8_cause_74 : decode cX8_cause 74 = .ok (.aload_n 0, 1) := by decide +kernel
theorem dX8_cause_75 : decode cX8_cause 75 = .ok (.iload 5, 2) := by decide +kernel
theorem dX8_cause_77 : decode cX8_cause 77 = .ok (.iload_n 3, 1) := by decide +kernel
theorem dX8_cause_78 : decode cX8_cause 78 = .ok (.iload 4, 2) := by decide +kernel
theorem dX8_cause_80 : decode cX8_cause 80 = .ok (.invokevirtual 118, 3) := by decide +kernel
theorem dX8_cause_83 : decode cX8_cause 83 = .ok (.istore 9, 2) := by decide +kernel
theorem dX8_cause_85 : decode cX8_cause 85 = .ok (.aload_n 0, 1) := by decide +kernel
theorem dX8_cause_86 : decode cX8_cause 86 = .ok (.getfield 104, 3) := by decide +kernel
theorem dX8_cause_89 : decode cX8_cause 89 = .ok (.ifCond .ne 14, 3) := by decide +kernel
theorem dX8_cause_92 : decode cX8_cause 92 = .ok (.iload 9, 2) := by decide +kernel
theorem dX8_cause_94 : decode cX8_cause 94 = .ok (.iload 6, 2) := by decide +kernel
theorem dX8_cause_96 : decode cX8_cause 96 = .ok (.if_icmp .ne 7, 3) := by decide +kernel
theorem dX8_cause_99 : decode cX8_cause 99 = .ok (.iconst 1, 1) := by decide +kernel
theorem dX8_cause_100 : decode cX8_cause 100 = .ok (.goto 4, 3) := by decide +kernel
theorem dX8_cause_103 : decode cX8_cause 103 = .ok (.iconst 0, 1) := by decide +kernel
theorem dX8_cause_104 : decode cX8_cause 104 = .ok (.istore 10, 2) := by decide +kernel
theorem dX8_cause_106 : decode cX8_cause 106 = .ok (.iload 7, 2) := by decide +kernel
theorem dX8_cause_108 : decode cX8_cause 108 = .ok (.ifCond .eq 11, 3) := by decide +kernel
theorem dX8_cause_111 : decode cX8_cause 111 = .ok (.iload 10, 2) := by decide +kernel
theorem dX8_cause_113 : decode cX8_cause 113 = .ok (.ifCond .ne 6, 3) := by decide +kernel
theorem dX8_cause_116 : decode cX8_cause 116 = .ok (.iload 8, 2) := by decide +kernel
theorem dX8_cause_118 : decode cX8_cause 118 = .ok (.ireturn, 1) := by decide +kernel
theorem dX8_cause_119 : decode cX8_cause 119 = .ok (.iload 10, 2) := by decide +kernel
theorem dX8_cause_121 : decode cX8_cause 121 = .ok (.istore 7, 2) := by decide +kernel
theorem dX8_cause_123 : decode cX8_cause 123 = .ok (.iinc 8 1, 3) := by decide +kernel
theorem dX8_cause_126 : decode cX8_cause 126 = .ok (.goto (-74), 3) := by decide +kernel
theorem dX8_cause_129 : decode cX8_cause 129 = .ok (.bipush (-2), 2) := by decide +kernel
theorem dX8_cause_131 : decode cX8_cause 131 = .ok (.ireturn, 1) := by decide +kernel
theorem dX8_remember_0 : decode cX8_remember 0 = .ok (.aload_n 0, 1) := by decide +kernel
theorem dX8_remember_1 : decode cX8_remember 1 = .ok (.aload_n 0, 1) := by decide +kernel
theorem dX8_remember_2 : decode cX8_remember 2 = .ok (.getfield 185, 3) := by decide +kernel
theorem dX8_remember_5 : decode cX8_remember 5 = .ok (.putfield 308, 3) := by decide +kernel
theorem dX8_remember_8 : decode cX8_remember 8 = .ok (.iconst 0, 1) := by decide +kernel
theorem dX8_remember_9 : decode cX8_remember 9 = .ok (.istore_n 1, 1) := by decide +kernel
theorem dX8_remember_10 : decode cX8_remember 10 = .ok (.iload_n 1, 1) := by decide +kernel
theorem dX8_remember_11 : decode cX8_remember 11 = .ok (.aload_n 0, 1) := by decide +kernel
theorem dX8_remember_12 : decode cX8_remember 12 = .ok (.getfield 185, 3) := by decide +kernel
theorem dX8_remember_15 : decode cX8_remember 15 = .ok (.if_icmp .ge 33, 3) := by decide +kernel
theorem dX8_remember_18 : decode cX8_remember 18 = .ok (.aload_n 0, 1) := by decide +kernel
theorem dX8_remember_19 : decode cX8_remember 19 = .ok (.getfield 84, 3) := by decide +kernel
theorem dX8_remember_22 : decode cX8_remember 22 = .ok (.iload_n 1, 1) := by decide +kernel
theorem dX8_remember_23 : decode cX8_remember 23 = .ok (.aload_n 0, 1) := by decide +kernel
theorem dX8_remember_24 : decode cX8_remember 24 = .ok (.getfield 37, 3) := by decide +kernel
theorem dX8_remember_27 : decode cX8_remember 27 = .ok (.iload_n 1, 1) := by decide +kernel
theorem dX8_remember_28 : decode cX8_remember 28 = .ok (.iaload, 1) := by decide +kernel
theorem dX8_remember_29 : decode cX8_remember 29 = .ok (.iastore, 1) := by decide +kernel
theorem dX8_remember_30 : decode cX8_remember 30 = .ok (.aload_n 0, 1) := by decide +kernel
theorem dX8_remember_31 : decode cX8_remember 31 = .ok (.getfield 87, 3) := by decide +kernel
theorem dX8_remember_34 : decode cX8_remember 34 = .ok (.iload_n 1, 1) := by decide +kernel
theorem dX8_remember_35 : decode cX8_remember 35 = .ok (.aload_n 0, 1) := by decide +kernel
theorem dX8_remember_36 : decode cX8_remember 36 = .ok (.getfield 40, 3) := by decide +kernel
theorem dX8_remember_39 : decode cX8_remember 39 = .ok (.iload_n 1, 1) := by decide +kernel
theorem dX8_remember_40 : decode cX8_remember 40 = .ok (.iaload, 1) := by decide +kernel
theorem dX8_remember_41 : decode cX8_remember 41 = .ok (.iastore, 1) := by decide +kernel
theorem dX8_remember_42 : decode cX8_remember 42 = .ok (.iinc 1 1, 3) := by decide +kernel
theorem dX8_remember_45 : decode cX8_remember 45 = .ok (.goto (-35), 3) := by decide +kernel
theorem dX8_remember_48 : decode cX8_remember 48 = .ok (.return_, 1) := by decide +kernel
theorem dX8_recall_0 : decode cX8_recall 0 = .ok (.aload_n 0, 1) := by decide +kernel
theorem dX8_recall_1 : decode cX8_recall 1 = .ok (.aload_n 0, 1) := by decide +kernel
theorem dX8_recall_2 : decode cX8_recall 2 = .ok (.getfield 308, 3) := by decide +kernel
theorem dX8_recall_5 : decode cX8_recall 5 = .ok (.putfield 185, 3) := by decide +kernel
theorem dX8_recall_8 : decode cX8_recall 8 = .ok (.iconst 0, 1) := by decide +kernel
theorem dX8_recall_9 : decode cX8_recall 9 = .ok (.istore_n 1, 1) := by decide +kernel
theorem dX8_recall_10 : decode cX8_recall 10 = .ok (.iload_n 1, 1) := by decide +kernel
theorem dX8_recall_11 : decode cX8_recall 11 = .ok (.aload_n 0, 1) := by decide +kernel
theorem dX8_recall_12 : decode cX8_recall 12 = .ok (.getfield 308, 3) := by decide +kernel
theorem dX8_recall_15 : decode cX8_recall 15 = .ok (.if_icmp .ge 33, 3) := by decide +kernel
theorem dX8_recall_18 : decode cX8_recall 18 = .ok (.aload_n 0, 1) := by decide +kernel
theorem dX8_recall_19 : decode cX8_recall 19 = .ok (.getfield 37, 3) := by decide +kernel
theorem dX8_recall_22 : decode cX8_recall 22 = .ok (.iload_n 1, 1) := by decide +kernel
theorem dX8_recall_23 : decode cX8_recall 23 = .ok (.aload_n 0, 1) := by decide +kernel
theorem dX8_recall_24 : decode cX8_recall 24 = .ok (.getfield 84, 3) := by decide +kernel
theorem dX8_recall_27 : decode cX8_recall 27 = .ok (.iload_n 1, 1) := by decide +kernel
theorem dX8_recall_28 : decode cX8_recall 28 = .ok (.iaload, 1) := by decide +kernel
theorem dX8_recall_29 : decode cX8_recall 29 = .ok (.iastore, 1) := by decide +kernel
theorem dX8_recall_30 : decode cX8_recall 30 = .ok (.aload_n 0, 1) := by decide +kernel
theorem dX8_recall_31 : decode cX8_recall 31 = .ok (.getfield 40, 3) := by decide +kernel
theorem dX8_recall_34 : decode cX8_recall 34 = .ok (.iload_n 1, 1) := by decide +kernel
theorem dX8_recall_35 : decode cX8_recall 35 = .ok (.aload_n 0, 1) := by decide +kernel
theorem dX8_recall_36 : decode cX8_recall 36 = .ok (.getfield 87, 3) := by decide +kernel
theorem dX8_recall_39 : decode cX8_recall 39 = .ok (.iload_n 1, 1) := by decide +kernel
theorem dX8_recall_40 : decode cX8_recall 40 = .ok (.iaload, 1) := by decide +kernel
theorem dX8_recall_41 : decode cX8_recall 41 = .ok (.iastore, 1) := by decide +kernel
theorem dX8_recall_42 : decode cX8_recall 42 = .ok (.iinc 1 1, 3) := by decide +kernel
theorem dX8_recall_45 : decode cX8_recall 45 = .ok (.goto (-35), 3) := by decide +kernel
theorem dX8_recall_48 : decode cX8_recall 48 = .ok (.return_, 1) := by decide +kernel
theorem dX8_isShown_0 : decode cX8_isShown 0 = .ok (.aload_n 0, 1) := by decide +kernel
theorem dX8_isShown_1 : decode cX8_isShown 1 = .ok (.invokevirtual 202, 3) := by decide +kernel
theorem dX8_isShown_4 : decode cX8_isShown 4 = .ok (.istore_n 3, 1) := by decide +kernel
theorem dX8_isShown_5 : decode cX8_isShown 5 = .ok (.aload_n 0, 1) := by decide +kernel
theorem dX8_isShown_6 : decode cX8_isShown 6 = .ok (.iload_n 3, 1) := by decide +kernel
theorem dX8_isShown_7 : decode cX8_isShown 7 = .ok (.iload_n 2, 1) := by decide +kernel
theorem dX8_isShown_8 : decode cX8_isShown 8 = .ok (.invokevirtual 270, 3) := by decide +kernel
theorem dX8_isShown_11 : decode cX8_isShown 11 = .ok (.ifCond .eq 19, 3) := by decide +kernel
theorem dX8_isShown_14 : decode cX8_isShown 14 = .ok (.aload_n 0, 1) := by decide +kernel
theorem dX8_isShown_15 : decode cX8_isShown 15 = .ok (.iload_n 3, 1) := by decide +kernel
theorem dX8_isShown_16 : decode cX8_isShown 16 = .ok (.iload_n 1, 1) := by decide +kernel
theorem dX8_isShown_17 : decode cX8_isShown 17 = .ok (.iload_n 2, 1) := by decide +kernel
theorem dX8_isShown_18 : decode cX8_isShown 18 = .ok (.invokevirtual 305, 3) := by decide +kernel
theorem dX8_isShown_21 : decode cX8_isShown 21 = .ok (.bipush (-5), 2) := by decide +kernel
theorem dX8_isShown_23 : decode cX8_isShown 23 = .ok (.if_icmp .eq 7, 3) := by decide +kernel
theorem dX8_isShown_26 : decode cX8_isShown 26 = .ok (.iconst 1, 1) := by decide +kernel
theorem dX8_isShown_27 : decode cX8_isShown 27 = .ok (.goto 4, 3) := by decide +kernel
theorem dX8_isShown_30 : decode cX8_isShown 30 = .ok (.iconst 0, 1) := by decide +kernel
theorem dX8_isShown_31 : decode cX8_isShown 31 = .ok (.ireturn, 1) := by decide +kernel
theorem dX8_step_0 : decode cX8_step 0 = .ok (.aload_n 0, 1) := by decide +kernel
theorem dX8_step_1 : decode cX8_step 1 = .ok (.iload_n 1, 1) := by decide +kernel
theorem dX8_step_2 : decode cX8_step 2 = .ok (.invokevirtual 262, 3) := by decide +kernel
theorem dX8_step_5 : decode cX8_step 5 = .ok (.istore_n 3, 1) := by decide +kernel
theorem dX8_step_6 : decode cX8_step 6 = .ok (.iload_n 2, 1) := by decide +kernel
theorem dX8_step_7 : decode cX8_step 7 = .ok (.iconst 3, 1) := by decide +kernel
theorem dX8_step_8 : decode cX8_step 8 = .ok (.if_icmp .ne 46, 3) := by decide +kernel
theorem dX8_step_11 : decode cX8_step 11 = .ok (.aload_n 0, 1) := by decide +kernel
theorem dX8_step_12 : decode cX8_step 12 = .ok (.getfield 37, 3) := by decide +kernel
theorem dX8_step_15 : decode cX8_step 15 = .ok (.iload_n 1, 1) := by decide +kernel
theorem dX8_step_16 : decode cX8_step 16 = .ok (.iaload, 1) := by decide +kernel
theorem dX8_step_17 : decode cX8_step 17 = .ok (.ifCond .ne 14, 3) := by decide +kernel
theorem dX8_step_20 : decode cX8_step 20 = .ok (.aload_n 0, 1) := by decide +kernel
theorem dX8_step_21 : decode cX8_step 21 = .ok (.getfield 40, 3) := by decide +kernel
theorem dX8_step_24 : decode cX8_step 24 = .ok (.iload_n 1, 1) := by decide +kernel
theorem dX8_step_25 : decode cX8_step 25 = .ok (.iaload, 1) := by decide +kernel
theorem dX8_step_26 : decode cX8_step 26 = .ok (.ifCond .ne 5, 3) := by decide +kernel
theorem dX8_step_29 : decode cX8_step 29 = .ok (.iconst 0, 1) := by decide +kernel
theorem dX8_step_30 : decode cX8_step 30 = .ok (.ireturn, 1) := by decide +kernel
theorem dX8_step_31 : decode cX8_step 31 = .ok (.aload_n 0, 1) := by decide +kernel
theorem dX8_step_32 : decode cX8_step 32 = .ok (.getfield 56, 3) := by decide +kernel
theorem dX8_step_35 : decode cX8_step 35 = .ok (.iconst 0, 1) := by decide +kernel
theorem dX8_step_36 : decode cX8_step 36 = .ok (.iconst 0, 1) := by decide +kernel
theorem dX8_step_37 : decode cX8_step 37 = .ok (.iastore, 1) := by decide +kernel
theorem dX8_step_38 : decode cX8_step 38 = .ok (.aload_n 0, 1) := by decide +kernel
theorem dX8_step_39 : decode cX8_step 39 = .ok (.getfield 59, 3) := by decide +kernel
theorem dX8_step_42 : decode cX8_step 42 = .ok (.iconst 0, 1) := by decide +kernel
theorem dX8_step_43 : decode cX8_step 43 = .ok (.iconst 0, 1) := by decide +kernel
theorem dX8_step_44 : decode cX8_step 44 = .ok (.iastore, 1) := by decide +kernel
theorem dX8_step_45 : decode cX8_step 45 = .ok (.aload_n 0, 1) := by decide +kernel
theorem dX8_step_46 : decode cX8_step 46 = .ok (.iload_n 1, 1) := by decide +kernel
theorem dX8_step_47 : decode cX8_step 47 = .ok (.iload_n 3, 1) := by decide +kernel
theorem dX8_step_48 : decode cX8_step 48 = .ok (.iconst 1, 1) := by decide +kernel
theorem dX8_step_49 : decode cX8_step 49 = .ok (.invokevirtual 279, 3) := by decide +kernel
theorem dX8_step_52 : decode cX8_step 52 = .ok (.iconst 1, 1) := by decide +kernel
theorem dX8_step_53 : decode cX8_step 53 = .ok (.ireturn, 1) := by decide +kernel
theorem dX8_step_54 : decode cX8_step 54 = .ok (.iload_n 2, 1) := by decide +kernel
theorem dX8_step_55 : decode cX8_step 55 = .ok (.aload_n 0, 1) := by decide +kernel
theorem dX8_step_56 : decode cX8_step 56 = .ok (.getfield 37, 3) := by decide +kernel
theorem dX8_step_59 : decode cX8_step 59 = .ok (.iload_n 1, 1) := by decide +kernel
theorem dX8_step_60 : decode cX8_step 60 = .ok (.iaload, 1) := by decide +kernel
theorem dX8_step_61 : decode cX8_step 61 = .ok (.invokestatic 191, 3) := by decide +kernel
theorem dX8_step_64 : decode cX8_step 64 = .ok (.if_icmp .lt 5, 3) := by decide +kernel
theorem dX8_step_67 : decode cX8_step 67 = .ok (.iconst 0, 1) := by decide +kernel
theorem dX8_step_68 : decode cX8_step 68 = .ok (.ireturn, 1) := by decide +kernel
theorem dX8_step_69 : decode cX8_step 69 = .ok (.iload_n 1, 1) := by decide +kernel
theorem dX8_step_70 : decode cX8_step 70 = .ok (.iconst 1, 1) := by decide +kernel
theorem dX8_step_71 : decode cX8_step 71 = .ok (.iadd, 1) := by decide +kernel
theorem dX8_step_72 : decode cX8_step 72 = .ok (.istore 4, 2) := by decide +kernel
theorem dX8_step_74 : decode cX8_step 74 = .ok (.iconst 0, 1) := by decide +kernel
theorem dX8_step_75 : decode cX8_step 75 = .ok (.istore 5, 2) := by decide +kernel
theorem dX8_step_77 : decode cX8_step 77 = .ok (.iload 5, 2) := by decide +kernel
theorem dX8_step_79 : decode cX8_step 79 = .ok (.iload_n 2, 1) := by decide +kernel
theorem dX8_step_80 : decode cX8_step 80 = .ok (.if_icmp .ge 17, 3) := by decide +kernel
theorem dX8_step_83 : decode cX8_step 83 = .ok (.aload_n 0, 1) := by decide +kernel
theorem dX8_step_84 : decode cX8_step 84 = .ok (.iload 4, 2) := by decide +kernel
theorem dX8_step_86 : decode cX8_step 86 = .ok (.invokevirtual 262, 3) := by decide +kernel
theorem dX8_step_89 : decode cX8_step 89 = .ok (.istore 4, 2) := by decide +kernel
theorem dX8_step_91 : decode cX8_step 91 = .ok (.iinc 5 1, 3) := by decide +kernel
theorem dX8_step_94 : decode cX8_step 94 = .ok (.goto (-17), 3) := by decide +kernel
theorem dX8_step_97 : decode cX8_step 97 = .ok (.aload_n 0, 1) := by decide +kernel
theorem dX8_step_98 : decode cX8_step 98 = .ok (.iload 4, 2) := by decide +kernel
theorem dX8_step_100 : decode cX8_step 100 = .ok (.invokevirtual 262, 3) := by decide +kernel
theorem dX8_step_103 : decode cX8_step 103 = .ok (.istore 5, 2) := by decide +kernel
theorem dX8_step_105 : decode cX8_step 105 = .ok (.aload_n 0, 1) := by decide +kernel
theorem dX8_step_106 : decode cX8_step 106 = .ok (.iload 4, 2) := by decide +kernel
theorem dX8_step_108 : decode cX8_step 108 = .ok (.iload 5, 2) := by decide +kernel
theorem dX8_step_110 : decode cX8_step 110 = .ok (.invokevirtual 276, 3) := by decide +kernel
theorem dX8_step_113 : decode cX8_step 113 = .ok (.aload_n 0, 1) := by decide +kernel
theorem dX8_step_114 : decode cX8_step 114 = .ok (.iload_n 1, 1) := by decide +kernel
theorem dX8_step_115 : decode cX8_step 115 = .ok (.iload_n 3, 1) := by decide +kernel
theorem dX8_step_116 : decode cX8_step 116 = .ok (.iload 5, 2) := by decide +kernel
theorem dX8_step_118 : decode cX8_step 118 = .ok (.iload 4, 2) := by decide +kernel
theorem dX8_step_120 : decode cX8_step 120 = .ok (.isub, 1) := by decide +kernel
theorem dX8_step_121 : decode cX8_step 121 = .ok (.invokevirtual 279, 3) := by decide +kernel
theorem dX8_step_124 : decode cX8_step 124 = .ok (.iconst 1, 1) := by decide +kernel
theorem dX8_step_125 : decode cX8_step 125 = .ok (.ireturn, 1) := by decide +kernel
theorem dX8_makeSmaller_0 : decode cX8_makeSmaller 0 = .ok (.aload_n 0, 1) := by decide +kernel
theorem dX8_makeSmaller_1 : decode cX8_makeSmaller 1 = .ok (.invokevirtual 311, 3) := by decide +kernel
theorem dX8_makeSmaller_4 : decode cX8_makeSmaller 4 = .ok (.iconst 0, 1) := by decide +kernel
theorem dX8_makeSmaller_5 : decode cX8_makeSmaller 5 = .ok (.istore_n 3, 1) := by decide +kernel
theorem dX8_makeSmaller_6 : decode cX8_makeSmaller 6 = .ok (.iload_n 3, 1) := by decide +kernel
theorem dX8_makeSmaller_7 : decode cX8_makeSmaller 7 = .ok (.aload_n 0, 1) := by decide +kernel
theorem dX8_makeSmaller_8 : decode cX8_makeSmaller 8 = .ok (.getfield 308, 3) := by decide +kernel
theorem dX8_makeSmaller_11 : decode cX8_makeSmaller 11 = .ok (.if_icmp .ge 49, 3) := by decide +kernel
theorem dX8_makeSmaller_14 : decode cX8_makeSmaller 14 = .ok (.iconst 0, 1) := by decide +kernel
theorem dX8_makeSmaller_15 : decode cX8_makeSmaller 15 = .ok (.istore 4, 2) := by decide +kernel
theorem dX8_makeSmaller_17 : decode cX8_makeSmaller 17 = .ok (.iload 4, 2) := by decide +kernel
theorem dX8_makeSmaller_19 : decode cX8_makeSmaller 19 = .ok (.iconst 4, 1) := by decide +kernel
theorem dX8_makeSmaller_20 : decode cX8_makeSmaller 20 = .ok (.if_icmp .ge 34, 3) := by decide +kernel
theorem dX8_makeSmaller_23 : decode cX8_makeSmaller 23 = .ok (.aload_n 0, 1) := by decide +kernel
theorem dX8_makeSmaller_24 : decode cX8_makeSmaller 24 = .ok (.iload_n 3, 1) := by decide +kernel
theorem dX8_makeSmaller_25 : decode cX8_makeSmaller 25 = .ok (.iload 4, 2) := by decide +kernel
theorem dX8_makeSmaller_27 : decode cX8_makeSmaller 27 = .ok (.invokevirtual 314, 3) := by decide +kernel
theorem dX8_makeSmaller_30 : decode cX8_makeSmaller 30 = .ok (.ifCond .eq 14, 3) := by decide +kernel
theorem dX8_makeSmaller_33 : decode cX8_makeSmaller 33 = .ok (.aload_n 0, 1) := by decide +kernel
theorem dX8_makeSmaller_34 : decode cX8_makeSmaller 34 = .ok (.iload_n 1, 1) := by decide +kernel
theorem dX8_makeSmaller_35 : decode cX8_makeSmaller 35 = .ok (.iload_n 2, 1) := by decide +kernel
theorem dX8_makeSmaller_36 : decode cX8_makeSmaller 36 = .ok (.invokevirtual 317, 3) := by decide +kernel
theorem dX8_makeSmaller_39 : decode cX8_makeSmaller 39 = .ok (.ifCond .eq 5, 3) := by decide +kernel
theorem dX8_makeSmaller_42 : decode cX8_makeSmaller 42 = .ok (.iconst 1, 1) := by decide +kernel
theorem dX8_makeSmaller_43 : decode cX8_makeSmaller 43 = .ok (.ireturn, 1) := by decide +kernel
theorem dX8_makeSmaller_44 : decode cX8_makeSmaller 44 = .ok (.aload_n 0, 1) := by decide +kernel
theorem dX8_makeSmaller_45 : decode cX8_makeSmaller 45 = .ok (.invokevirtual 320, 3) := by decide +kernel
theorem dX8_makeSmaller_48 : decode cX8_makeSmaller 48 = .ok (.iinc 4 1, 3) := by decide +kernel
theorem dX8_makeSmaller_51 : decode cX8_makeSmaller 51 = .ok (.goto (-34), 3) := by decide +kernel
theorem dX8_makeSmaller_54 : decode cX8_makeSmaller 54 = .ok (.iinc 3 1, 3) := by decide +kernel
theorem dX8_makeSmaller_57 : decode cX8_makeSmaller 57 = .ok (.goto (-51), 3) := by decide +kernel
theorem dX8_makeSmaller_60 : decode cX8_makeSmaller 60 = .ok (.iconst 0, 1) := by decide +kernel
theorem dX8_makeSmaller_61 : decode cX8_makeSmaller 61 = .ok (.ireturn, 1) := by decide +kernel
theorem dX8_small_0 : decode cX8_small 0 = .ok (.aload_n 0, 1) := by decide +kernel
theorem dX8_small_1 : decode cX8_small 1 = .ok (.iload_n 1, 1) := by decide +kernel
theorem dX8_small_2 : decode cX8_small 2 = .ok (.invokevirtual 286, 3) := by decide +kernel
theorem dX8_small_5 : decode cX8_small 5 = .ok (.ifCond .eq 23, 3) := by decide +kernel
theorem dX8_small_8 : decode cX8_small 8 = .ok (.aload_n 0, 1) := by decide +kernel
theorem dX8_small_9 : decode cX8_small 9 = .ok (.iload_n 2, 1) := by decide +kernel
theorem dX8_small_10 : decode cX8_small 10 = .ok (.invokevirtual 246, 3) := by decide +kernel
theorem dX8_small_13 : decode cX8_small 13 = .ok (.ifCond .eq 15, 3) := by decide +kernel
theorem dX8_small_16 : decode cX8_small 16 = .ok (.iload_n 3, 1) := by decide +kernel
theorem dX8_small_17 : decode cX8_small 17 = .ok (.i2l, 1) := by decide +kernel
theorem dX8_small_18 : decode cX8_small 18 = .ok (.lconst 0, 1) := by decide +kernel
theorem dX8_small_19 : decode cX8_small 19 = .ok (.ldc2_w 268, 3) := by decide +kernel
theorem dX8_small_22 : decode cX8_small 22 = .ok (.invokestatic 177, 3) := by decide +kernel
theorem dX8_small_25 : decode cX8_small 25 = .ok (.ifCond .ne 5, 3) := by decide +kernel
theorem dX8_small_28 : decode cX8_small 28 = .ok (.iconst (-1), 1) := by decide +kernel
theorem dX8_small_29 : decode cX8_small 29 = .ok (.ireturn, 1) := by decide +kernel
theorem dX8_small_30 : decode cX8_small 30 = .ok (.aload_n 0, 1) := by decide +kernel
theorem dX8_small_31 : decode cX8_small 31 = .ok (.iload_n 2, 1) := by decide +kernel
theorem dX8_small_32 : decode cX8_small 32 = .ok (.invokevirtual 198, 3) := by decide +kernel
theorem dX8_small_35 : decode cX8_small 35 = .ok (.aload_n 0, 1) := by decide +kernel
theorem dX8_small_36 : decode cX8_small 36 = .ok (.iload_n 1, 1) := by decide +kernel
theorem dX8_small_37 : decode cX8_small 37 = .ok (.iload_n 3, 1) := by decide +kernel
theorem dX8_small_38 : decode cX8_small 38 = .ok (.invokevirtual 317, 3) := by decide +kernel
theorem dX8_small_41 : decode cX8_small 41 = .ok (.ifCond .ne 6, 3) := by decide +kernel
theorem dX8_small_44 : decode cX8_small 44 = .ok (.bipush (-2), 2) := by decide +kernel
theorem dX8_small_46 : decode cX8_small 46 = .ok (.ireturn, 1) := by decide +kernel
theorem dX8_small_47 : decode cX8_small 47 = .ok (.aload_n 0, 1) := by decide +kernel
theorem dX8_small_48 : decode cX8_small 48 = .ok (.iconst 0, 1) := by decide +kernel
theorem dX8_small_49 : decode cX8_small 49 = .ok (.putfield 80, 3) := by decide +kernel
theorem dX8_small_52 : decode cX8_small 52 = .ok (.aload_n 0, 1) := by decide +kernel
theorem dX8_small_53 : decode cX8_small 53 = .ok (.iload_n 1, 1) := by decide +kernel
theorem dX8_small_54 : decode cX8_small 54 = .ok (.iload_n 3, 1) := by decide +kernel
theorem dX8_small_55 : decode cX8_small 55 = .ok (.invokevirtual 323, 3) := by decide +kernel
theorem dX8_small_58 : decode cX8_small 58 = .ok (.ifCond .eq 16, 3) := by decide +kernel
theorem dX8_small_61 : decode cX8_small 61 = .ok (.aload_n 0, 1) := by decide +kernel
theorem dX8_small_62 : decode cX8_small 62 = .ok (.dup, 1) := by decide +kernel
theorem dX8_small_63 : decode cX8_small 63 = .ok (.getfield 80, 3) := by decide +kernel
theorem dX8_small_66 : decode cX8_small 66 = .ok (.iconst 1, 1) := by decide +kernel
theorem dX8_small_67 : decode cX8_small 67 = .ok (.iadd, 1) := by decide +kernel
theorem dX8_small_68 : decode cX8_small 68 = .ok (.putfield 80, 3) := by decide +kernel
theorem dX8_small_71 : decode cX8_small 71 = .ok (.goto (-19), 3) := by decide +kernel
theorem dX8_small_74 : decode cX8_small 74 = .ok (.aload_n 0, 1) := by decide +kernel
theorem dX8_small_75 : decode cX8_small 75 = .ok (.iload_n 2, 1) := by decide +kernel
theorem dX8_small_76 : decode cX8_small 76 = .ok (.invokevirtual 236, 3) := by decide +kernel
theorem dX8_small_79 : decode cX8_small 79 = .ok (.ireturn, 1) := by decide +kernel
theorem dX8_steps_0 : decode cX8_steps 0 = .ok (.aload_n 0, 1) := by decide +kernel
theorem dX8_steps_1 : decode cX8_steps 1 = .ok (.getfield 80, 3) := by decide +kernel
theorem dX8_steps_4 : decode cX8_steps 4 = .ok (.ireturn, 1) := by decide +kernel
theorem dX8_nthTree_0 : decode cX8_nthTree 0 = .ok (.aload_n 0, 1) := by decide +kernel
theorem dX8_nthTree_1 : decode cX8_nthTree 1 = .ok (.iconst 0, 1) := by decide +kernel
theorem dX8_nthTree_2 : decode cX8_nthTree 2 = .ok (.putfield 185, 3) := by decide +kernel
theorem dX8_nthTree_5 : decode cX8_nthTree 5 = .ok (.aload_n 0, 1) := by decide +kernel
theorem dX8_nthTree_6 : decode cX8_nthTree 6 = .ok (.iload_n 1, 1) := by decide +kernel
theorem dX8_nthTree_7 : decode cX8_nthTree 7 = .ok (.lload_n 2, 1) := by decide +kernel
theorem dX8_nthTree_8 : decode cX8_nthTree 8 = .ok (.invokevirtual 223, 3) := by decide +kernel
theorem dX8_nthTree_11 : decode cX8_nthTree 11 = .ok (.aload_n 0, 1) := by decide +kernel
theorem dX8_nthTree_12 : decode cX8_nthTree 12 = .ok (.invokevirtual 202, 3) := by decide +kernel
theorem dX8_nthTree_15 : decode cX8_nthTree 15 = .ok (.ireturn, 1) := by decide +kernel
theorem dX8_least_0 : decode cX8_least 0 = .ok (.aload_n 0, 1) := by decide +kernel
theorem dX8_least_1 : decode cX8_least 1 = .ok (.iload_n 1, 1) := by decide +kernel
theorem dX8_least_2 : decode cX8_least 2 = .ok (.iload_n 2, 1) := by decide +kernel
theorem dX8_least_3 : decode cX8_least 3 = .ok (.invokevirtual 289, 3) := by decide +kernel
theorem dX8_least_6 : decode cX8_least 6 = .ok (.ifCond .eq 15, 3) := by decide +kernel
theorem dX8_least_9 : decode cX8_least 9 = .ok (.iload_n 3, 1) := by decide +kernel
theorem dX8_least_10 : decode cX8_least 10 = .ok (.i2l, 1) := by decide +kernel
theorem dX8_least_11 : decode cX8_least 11 = .ok (.lconst 1, 1) := by decide +kernel
theorem dX8_least_12 : decode cX8_least 12 = .ok (.ldc2_w 208, 3) := by decide +kernel
theorem dX8_least_15 : decode cX8_least 15 = .ok (.invokestatic 177, 3) := by decide +kernel
theorem dX8_least_18 : decode cX8_least 18 = .ok (.ifCond .ne 7, 3) := by decide +kernel
theorem dX8_least_21 : decode cX8_least 21 = .ok (.ldc2_w 218, 3) := by decide +kernel
theorem dX8_least_24 : decode cX8_least 24 = .ok (.lreturn, 1) := by decide +kernel
theorem dX8_least_25 : decode cX8_least 25 = .ok (.aload_n 0, 1) := by decide +kernel
theorem dX8_least_26 : decode cX8_least 26 = .ok (.invokevirtual 220, 3) := by decide +kernel
theorem dX8_least_29 : decode cX8_least 29 = .ok (.iconst 1, 1) := by decide +kernel
theorem dX8_least_30 : decode cX8_least 30 = .ok (.istore 4, 2) := by decide +kernel
theorem dX8_least_32 : decode cX8_least 32 = .ok (.iload 4, 2) := by decide +kernel
theorem dX8_least_34 : decode cX8_least 34 = .ok (.iload_n 3, 1) := by decide +kernel
theorem dX8_least_35 : decode cX8_least 35 = .ok (.if_icmp .gt 62, 3) := by decide +kernel
theorem dX8_least_38 : decode cX8_least 38 = .ok (.lconst 0, 1) := by decide +kernel
theorem dX8_least_39 : decode cX8_least 39 = .ok (.lstore 5, 2) := by decide +kernel
theorem dX8_least_41 : decode cX8_least 41 = .ok (.lload 5, 2) := by decide +kernel
theorem dX8_least_43 : decode cX8_least 43 = .ok (.aload_n 0, 1) := by decide +kernel
theorem dX8_least_44 : decode cX8_least 44 = .ok (.getfield 43, 3) := by decide +kernel
theorem dX8_least_47 : decode cX8_least 47 = .ok (.iload 4, 2) := by decide +kernel
theorem dX8_least_49 : decode cX8_least 49 = .ok (.laload, 1) := by decide +kernel
theorem dX8_least_50 : decode cX8_least 50 = .ok (.lcmp, 1) := by decide +kernel
theorem dX8_least_51 : decode cX8_least 51 = .ok (.ifCond .ge 40, 3) := by decide +kernel
theorem dX8_least_54 : decode cX8_least 54 = .ok (.aload_n 0, 1) := by decide +kernel
theorem dX8_least_55 : decode cX8_least 55 = .ok (.aload_n 0, 1) := by decide +kernel
theorem dX8_least_56 : decode cX8_least 56 = .ok (.iload 4, 2) := by decide +kernel
theorem dX8_least_58 : decode cX8_least 58 = .ok (.lload 5, 2) := by decide +kernel
theorem dX8_least_60 : decode cX8_least 60 = .ok (.invokevirtual 326, 3) := by decide +kernel
theorem dX8_least_63 : decode cX8_least 63 = .ok (.iload_n 1, 1) := by decide +kernel
theorem dX8_least_64 : decode cX8_least 64 = .ok (.iload_n 2, 1) := by decide +kernel
theorem dX8_least_65 : decode cX8_least 65 = .ok (.invokevirtual 298, 3) := by decide +kernel
theorem dX8_least_68 : decode cX8_least 68 = .ok (.ifCond .le 14, 3) := by decide +kernel
theorem dX8_least_71 : decode cX8_least 71 = .ok (.ldc2_w 330, 3) := by decide +kernel
theorem dX8_least_74 : decode cX8_least 74 = .ok (.lload 5, 2) := by decide +kernel
theorem dX8_least_76 : decode cX8_least 76 = .ok (.lmul, 1) := by decide +kernel
theorem dX8_least_77 : decode cX8_least 77 = .ok (.iload 4, 2) := by decide +kernel
theorem dX8_least_79 : decode cX8_least 79 = .ok (.i2l, 1) := by decide +kernel
theorem dX8_least_80 : decode cX8_least 80 = .ok (.ladd, 1) := by decide +kernel
theorem dX8_least_81 : decode cX8_least 81 = .ok (.lreturn, 1) := by decide +kernel
theorem dX8_least_82 : decode cX8_least 82 = .ok (.lload 5, 2) := by decide +kernel
theorem dX8_least_84 : decode cX8_least 84 = .ok (.lconst 1, 1) := by decide +kernel
theorem dX8_least_85 : decode cX8_least 85 = .ok (.ladd, 1) := by decide +kernel
theorem dX8_least_86 : decode cX8_least 86 = .ok (.lstore 5, 2) := by decide +kernel
theorem dX8_least_88 : decode cX8_least 88 = .ok (.goto (-47), 3) := by decide +kernel
theorem dX8_least_91 : decode cX8_least 91 = .ok (.iinc 4 1, 3) := by decide +kernel
theorem dX8_least_94 : decode cX8_least 94 = .ok (.goto (-62), 3) := by decide +kernel
theorem dX8_least_97 : decode cX8_least 97 = .ok (.ldc2_w 332, 3) := by decide +kernel
theorem dX8_least_100 : decode cX8_least 100 = .ok (.lreturn, 1) := by decide +kernel
theorem dX8_shown_0 : decode cX8_shown 0 = .ok (.aload_n 0, 1) := by decide +kernel
theorem dX8_shown_1 : decode cX8_shown 1 = .ok (.iload_n 1, 1) := by decide +kernel
theorem dX8_shown_2 : decode cX8_shown 2 = .ok (.invokevirtual 286, 3) := by decide +kernel
theorem dX8_shown_5 : decode cX8_shown 5 = .ok (.ifCond .eq 38, 3) := by decide +kernel
theorem dX8_shown_8 : decode cX8_shown 8 = .ok (.iload_n 2, 1) := by decide +kernel
theorem dX8_shown_9 : decode cX8_shown 9 = .ok (.i2l, 1) := by decide +kernel
theorem dX8_shown_10 : decode cX8_shown 10 = .ok (.lconst 1, 1) := by decide +kernel
theorem dX8_shown_11 : decode cX8_shown 11 = .ok (.ldc2_w 208, 3) := by decide +kernel
theorem dX8_shown_14 : decode cX8_shown 14 = .ok (.invokestatic 177, 3) := by decide +kernel
theorem dX8_shown_17 : decode cX8_shown 17 = .ok (.ifCond .eq 26, 3) := by decide +kernel
theorem dX8_shown_20 : decode cX8_shown 20 = .ok (.iload_n 3, 1) := by decide +kernel
theorem dX8_shown_21 : decode cX8_shown 21 = .ok (.i2l, 1) := by decide +kernel
theorem dX8_shown_22 : decode cX8_shown 22 = .ok (.lconst 0, 1) := by decide +kernel
theorem dX8_shown_23 : decode cX8_shown 23 = .ok (.ldc2_w 251, 3) := by decide +kernel
theorem dX8_shown_26 : decode cX8_shown 26 = .ok (.invokestatic 177, 3) := by decide +kernel
theorem dX8_shown_29 : decode cX8_shown 29 = .ok (.ifCond .eq 14, 3) := by decide +kernel
theorem dX8_shown_32 : decode cX8_shown 32 = .ok (.iload 4, 2) := by decide +kernel
theorem dX8_shown_34 : decode cX8_shown 34 = .ok (.i2l, 1) := by decide +kernel
theorem dX8_shown_35 : decode cX8_shown 35 = .ok (.lconst 0, 1) := by decide +kernel
theorem dX8_shown_36 : decode cX8_shown 36 = .ok (.lconst 1, 1) := by decide +kernel
theorem dX8_shown_37 : decode cX8_shown 37 = .ok (.invokestatic 177, 3) := by decide +kernel
theorem dX8_shown_40 : decode cX8_shown 40 = .ok (.ifCond .ne 5, 3) := by decide +kernel
theorem dX8_shown_43 : decode cX8_shown 43 = .ok (.iconst (-1), 1) := by decide +kernel
theorem dX8_shown_44 : decode cX8_shown 44 = .ok (.ireturn, 1) := by decide +kernel
theorem dX8_shown_45 : decode cX8_shown 45 = .ok (.aload_n 0, 1) := by decide +kernel
theorem dX8_shown_46 : decode cX8_shown 46 = .ok (.invokevirtual 220, 3) := by decide +kernel
theorem dX8_shown_49 : decode cX8_shown 49 = .ok (.iconst 0, 1) := by decide +kernel
theorem dX8_shown_50 : decode cX8_shown 50 = .ok (.istore 5, 2) := by decide +kernel
theorem dX8_shown_52 : decode cX8_shown 52 = .ok (.lconst 0, 1) := by decide +kernel
theorem dX8_shown_53 : decode cX8_shown 53 = .ok (.lstore 6, 2) := by decide +kernel
theorem dX8_shown_55 : decode cX8_shown 55 = .ok (.lload 6, 2) := by decide +kernel
theorem dX8_shown_57 : decode cX8_shown 57 = .ok (.aload_n 0, 1) := by decide +kernel
theorem dX8_shown_58 : decode cX8_shown 58 = .ok (.getfield 43, 3) := by decide +kernel
theorem dX8_shown_61 : decode cX8_shown 61 = .ok (.iload_n 2, 1) := by decide +kernel
theorem dX8_shown_62 : decode cX8_shown 62 = .ok (.laload, 1) := by decide +kernel
theorem dX8_shown_63 : decode cX8_shown 63 = .ok (.lcmp, 1) := by decide +kernel
theorem dX8_shown_64 : decode cX8_shown 64 = .ok (.ifCond .ge 62, 3) := by decide +kernel
theorem dX8_shown_67 : decode cX8_shown 67 = .ok (.aload_n 0, 1) := by decide +kernel
theorem dX8_shown_68 : decode cX8_shown 68 = .ok (.iload_n 2, 1) := by decide +kernel
theorem dX8_shown_69 : decode cX8_shown 69 = .ok (.lload 6, 2) := by decide +kernel
theorem dX8_shown_71 : decode cX8_shown 71 = .ok (.invokevirtual 326, 3) := by decide +kernel
theorem dX8_shown_74 : decode cX8_shown 74 = .ok (.istore 8, 2) := by decide +kernel
theorem dX8_shown_76 : decode cX8_shown 76 = .ok (.aload_n 0, 1) := by decide +kernel
theorem dX8_shown_77 : decode cX8_shown 77 = .ok (.iload 8, 2) := by decide +kernel
theorem dX8_shown_79 : decode cX8_shown 79 = .ok (.iload_n 3, 1) := by decide +kernel
theorem dX8_shown_80 : decode cX8_shown 80 = .ok (.invokevirtual 270, 3) := by decide +kernel
theorem dX8_shown_83 : decode cX8_shown 83 = .ok (.ifCond .ne 6, 3) := by decide +kernel
theorem dX8_shown_86 : decode cX8_shown 86 = .ok (.goto 31, 3) := by decide +kernel
theorem dX8_shown_89 : decode cX8_shown 89 = .ok (.iload 5, 2) := by decide +kernel
theorem dX8_shown_91 : decode cX8_shown 91 = .ok (.iload 4, 2) := by decide +kernel
theorem dX8_shown_93 : decode cX8_shown 93 = .ok (.ifCond .eq 16, 3) := by decide +kernel
theorem dX8_shown_96 : decode cX8_shown 96 = .ok (.aload_n 0, 1) := by decide +kernel
theorem dX8_shown_97 : decode cX8_shown 97 = .ok (.iload 8, 2) := by decide +kernel
theorem dX8_shown_99 : decode cX8_shown 99 = .ok (.iload_n 1, 1) := by decide +kernel
theorem dX8_shown_100 : decode cX8_shown 100 = .ok (.iload_n 3, 1) := by decide +kernel
theorem dX8_shown_101 : decode cX8_shown 101 = .ok (.invokevirtual 305, 3) := by decide +kernel
theorem dX8_shown_104 : decode cX8_shown 104 = .ok (.bipush (-5), 2) := by decide +kernel
theorem dX8_shown_106 : decode cX8_shown 106 = .ok (.if_icmp .eq 7, 3) := by decide +kernel
theorem dX8_shown_109 : decode cX8_shown 109 = .ok (.iconst 1, 1) := by decide +kernel
theorem dX8_shown_110 : decode cX8_shown 110 = .ok (.goto 4, 3) := by decide +kernel
theorem dX8_shown_113 : decode cX8_shown 113 = .ok (.iconst 0, 1) := by decide +kernel
theorem dX8_shown_114 : decode cX8_shown 114 = .ok (.iadd, 1) := by decide +kernel
theorem dX8_shown_115 : decode cX8_shown 115 = .ok (.istore 5, 2) := by decide +kernel
theorem dX8_shown_117 : decode cX8_shown 117 = .ok (.lload 6, 2) := by decide +kernel
theorem dX8_shown_119 : decode cX8_shown 119 = .ok (.lconst 1, 1) := by decide +kernel
theorem dX8_shown_120 : decode cX8_shown 120 = .ok (.ladd, 1) := by decide +kernel
theorem dX8_shown_121 : decode cX8_shown 121 = .ok (.lstore 6, 2) := by decide +kernel
theorem dX8_shown_123 : decode cX8_shown 123 = .ok (.goto (-68), 3) := by decide +kernel
theorem dX8_shown_126 : decode cX8_shown 126 = .ok (.iload 5, 2) := by decide +kernel
theorem dX8_shown_128 : decode cX8_shown 128 = .ok (.ireturn, 1) := by decide +kernel
theorem dX8_count_0 : decode cX8_count 0 = .ok (.iconst 0, 1) := by decide +kernel
theorem dX8_count_1 : decode cX8_count 1 = .ok (.istore_n 2, 1) := by decide +kernel
theorem dX8_count_2 : decode cX8_count 2 = .ok (.iload_n 1, 1) := by decide +kernel
theorem dX8_count_3 : decode cX8_count 3 = .ok (.tableswitch 106 0 4 #[33, 66, 71, 76, 81], 33) := by decide +kernel
theorem dX8_count_36 : decode cX8_count 36 = .ok (.iconst 0, 1) := by decide +kernel
theorem dX8_count_37 : decode cX8_count 37 = .ok (.istore_n 3, 1) := by decide +kernel
theorem dX8_count_38 : decode cX8_count 38 = .ok (.iload_n 3, 1) := by decide +kernel
theorem dX8_count_39 : decode cX8_count 39 = .ok (.bipush 20, 2) := by decide +kernel
theorem dX8_count_41 : decode cX8_count 41 = .ok (.if_icmp .ge 26, 3) := by decide +kernel
theorem dX8_count_44 : decode cX8_count 44 = .ok (.iload_n 2, 1) := by decide +kernel
theorem dX8_count_45 : decode cX8_count 45 = .ok (.aload_n 0, 1) := by decide +kernel
theorem dX8_count_46 : decode cX8_count 46 = .ok (.getfield 28, 3) := by decide +kernel
theorem dX8_count_49 : decode cX8_count 49 = .ok (.iload_n 3, 1) := by decide +kernel
theorem dX8_count_50 : decode cX8_count 50 = .ok (.iaload, 1) := by decide +kernel
theorem dX8_count_51 : decode cX8_count 51 = .ok (.ifCond .le 7, 3) := by decide +kernel
theorem dX8_count_54 : decode cX8_count 54 = .ok (.iconst 1, 1) := by decide +kernel
theorem dX8_count_55 : decode cX8_count 55 = .ok (.goto 4, 3) := by decide +kernel
theorem dX8_count_58 : decode cX8_count 58 = .ok (.iconst 0, 1) := by decide +kernel
theorem dX8_count_59 : decode cX8_count 59 = .ok (.iadd, 1) := by decide +kernel
theorem dX8_count_60 : decode cX8_count 60 = .ok (.istore_n 2, 1) := by decide +kernel
theorem dX8_count_61 : decode cX8_count 61 = .ok (.iinc 3 1, 3) := by decide +kernel
theorem dX8_count_64 : decode cX8_count 64 = .ok (.goto (-26), 3) := by decide +kernel
theorem dX8_count_67 : decode cX8_count 67 = .ok (.iload_n 2, 1) := by decide +kernel
theorem dX8_count_68 : decode cX8_count 68 = .ok (.ireturn, 1) := by decide +kernel
theorem dX8_count_69 : decode cX8_count 69 = .ok (.aload_n 0, 1) := by decide +kernel
theorem dX8_count_70 : decode cX8_count 70 = .ok (.getfield 283, 3) := by decide +kernel
theorem dX8_count_73 : decode cX8_count 73 = .ok (.ireturn, 1) := by decide +kernel
theorem dX8_count_74 : decode cX8_count 74 = .ok (.aload_n 0, 1) := by decide +kernel
theorem dX8_count_75 : decode cX8_count 75 = .ok (.getfield 255, 3) := by decide +kernel
theorem dX8_count_78 : decode cX8_count 78 = .ok (.ireturn, 1) := by decide +kernel
theorem dX8_count_79 : decode cX8_count 79 = .ok (.aload_n 0, 1) := by decide +kernel
theorem dX8_count_80 : decode cX8_count 80 = .ok (.getfield 258, 3) := by decide +kernel
theorem dX8_count_83 : decode cX8_count 83 = .ok (.ireturn, 1) := by decide +kernel
theorem dX8_count_84 : decode cX8_count 84 = .ok (.iconst 0, 1) := by decide +kernel
theorem dX8_count_85 : decode cX8_count 85 = .ok (.istore_n 3, 1) := by decide +kernel
theorem dX8_count_86 : decode cX8_count 86 = .ok (.iload_n 3, 1) := by decide +kernel
theorem dX8_count_87 : decode cX8_count 87 = .ok (.bipush 20, 2) := by decide +kernel
theorem dX8_count_89 : decode cX8_count 89 = .ok (.if_icmp .ge 18, 3) := by decide +kernel
theorem dX8_count_92 : decode cX8_count 92 = .ok (.iload_n 2, 1) := by decide +kernel
theorem dX8_count_93 : decode cX8_count 93 = .ok (.aload_n 0, 1) := by decide +kernel
theorem dX8_count_94 : decode cX8_count 94 = .ok (.getfield 28, 3) := by decide +kernel
theorem dX8_count_97 : decode cX8_count 97 = .ok (.iload_n 3, 1) := by decide +kernel
theorem dX8_count_98 : decode cX8_count 98 = .ok (.iaload, 1) := by decide +kernel
theorem dX8_count_99 : decode cX8_count 99 = .ok (.iadd, 1) := by decide +kernel
theorem dX8_count_100 : decode cX8_count 100 = .ok (.istore_n 2, 1) := by decide +kernel
theorem dX8_count_101 : decode cX8_count 101 = .ok (.iinc 3 1, 3) := by decide +kernel
theorem dX8_count_104 : decode cX8_count 104 = .ok (.goto (-18), 3) := by decide +kernel
theorem dX8_count_107 : decode cX8_count 107 = .ok (.iload_n 2, 1) := by decide +kernel
theorem dX8_count_108 : decode cX8_count 108 = .ok (.ireturn, 1) := by decide +kernel
theorem dX8_count_109 : decode cX8_count 109 = .ok (.iconst (-1), 1) := by decide +kernel
theorem dX8_count_110 : decode cX8_count 110 = .ok (.ireturn, 1) := by decide +kernel
theorem dX8_ofMaker_0 : decode cX8_ofMaker 0 = .ok (.aload_n 0, 1) := by decide +kernel
theorem dX8_ofMaker_1 : decode cX8_ofMaker 1 = .ok (.iload_n 1, 1) := by decide +kernel
theorem dX8_ofMaker_2 : decode cX8_ofMaker 2 = .ok (.invokevirtual 286, 3) := by decide +kernel
theorem dX8_ofMaker_5 : decode cX8_ofMaker 5 = .ok (.ifCond .eq 23, 3) := by decide +kernel
theorem dX8_ofMaker_8 : decode cX8_ofMaker 8 = .ok (.iload_n 2, 1) := by decide +kernel
theorem dX8_ofMaker_9 : decode cX8_ofMaker 9 = .ok (.i2l, 1) := by decide +kernel
theorem dX8_ofMaker_10 : decode cX8_ofMaker 10 = .ok (.ldc2_w 218, 3) := by decide +kernel
theorem dX8_ofMaker_13 : decode cX8_ofMaker 13 = .ok (.aload_n 0, 1) := by decide +kernel
theorem dX8_ofMaker_14 : decode cX8_ofMaker 14 = .ok (.getfield 62, 3) := by decide +kernel
theorem dX8_ofMaker_17 : decode cX8_ofMaker 17 = .ok (.iload_n 1, 1) := by decide +kernel
theorem dX8_ofMaker_18 : decode cX8_ofMaker 18 = .ok (.iaload, 1) := by decide +kernel
theorem dX8_ofMaker_19 : decode cX8_ofMaker 19 = .ok (.iconst 1, 1) := by decide +kernel
theorem dX8_ofMaker_20 : decode cX8_ofMaker 20 = .ok (.isub, 1) := by decide +kernel
theorem dX8_ofMaker_21 : decode cX8_ofMaker 21 = .ok (.i2l, 1) := by decide +kernel
theorem dX8_ofMaker_22 : decode cX8_ofMaker 22 = .ok (.invokestatic 177, 3) := by decide +kernel
theorem dX8_ofMaker_25 : decode cX8_ofMaker 25 = .ok (.ifCond .ne 5, 3) := by decide +kernel
theorem dX8_ofMaker_28 : decode cX8_ofMaker 28 = .ok (.iconst (-1), 1) := by decide +kernel
theorem dX8_ofMaker_29 : decode cX8_ofMaker 29 = .ok (.ireturn, 1) := by decide +kernel
theorem dX8_ofMaker_30 : decode cX8_ofMaker 30 = .ok (.iload_n 2, 1) := by decide +kernel
theorem dX8_ofMaker_31 : decode cX8_ofMaker 31 = .ok (.ifCond .ge 12, 3) := by decide +kernel
theorem dX8_ofMaker_34 : decode cX8_ofMaker 34 = .ok (.aload_n 0, 1) := by decide +kernel
theorem dX8_ofMaker_35 : decode cX8_ofMaker 35 = .ok (.getfield 62, 3) := by decide +kernel
theorem dX8_ofMaker_38 : decode cX8_ofMaker 38 = .ok (.iload_n 1, 1) := by decide +kernel
theorem dX8_ofMaker_39 : decode cX8_ofMaker 39 = .ok (.iaload, 1) := by decide +kernel
theorem dX8_ofMaker_40 : decode cX8_ofMaker 40 = .ok (.goto 29, 3) := by decide +kernel
theorem dX8_ofMaker_43 : decode cX8_ofMaker 43 = .ok (.bipush 10, 2) := by decide +kernel
theorem dX8_ofMaker_45 : decode cX8_ofMaker 45 = .ok (.aload_n 0, 1) := by decide +kernel
theorem dX8_ofMaker_46 : decode cX8_ofMaker 46 = .ok (.getfield 65, 3) := by decide +kernel
theorem dX8_ofMaker_49 : decode cX8_ofMaker 49 = .ok (.bipush 10, 2) := by decide +kernel
theorem dX8_ofMaker_51 : decode cX8_ofMaker 51 = .ok (.iload_n 1, 1) := by decide +kernel
theorem dX8_ofMaker_52 : decode cX8_ofMaker 52 = .ok (.imul, 1) := by decide +kernel
theorem dX8_ofMaker_53 : decode cX8_ofMaker 53 = .ok (.iload_n 2, 1) := by decide +kernel
theorem dX8_ofMaker_54 : decode cX8_ofMaker 54 = .ok (.iadd, 1) := by decide +kernel
theorem dX8_ofMaker_55 : decode cX8_ofMaker 55 = .ok (.iaload, 1) := by decide +kernel
theorem dX8_ofMaker_56 : decode cX8_ofMaker 56 = .ok (.imul, 1) := by decide +kernel
theorem dX8_ofMaker_57 : decode cX8_ofMaker 57 = .ok (.aload_n 0, 1) := by decide +kernel
theorem dX8_ofMaker_58 : decode cX8_ofMaker 58 = .ok (.getfield 68, 3) := by decide +kernel
theorem dX8_ofMaker_61 : decode cX8_ofMaker 61 = .ok (.bipush 10, 2) := by decide +kernel
theorem dX8_ofMaker_63 : decode cX8_ofMaker 63 = .ok (.iload_n 1, 1) := by decide +kernel
theorem dX8_ofMaker_64 : decode cX8_ofMaker 64 = .ok (.imul, 1) := by decide +kernel
theorem dX8_ofMaker_65 : decode cX8_ofMaker 65 = .ok (.iload_n 2, 1) := by decide +kernel
theorem dX8_ofMaker_66 : decode cX8_ofMaker 66 = .ok (.iadd, 1) := by decide +kernel
theorem dX8_ofMaker_67 : decode cX8_ofMaker 67 = .ok (.iaload, 1) := by decide +kernel
theorem dX8_ofMaker_68 : decode cX8_ofMaker 68 = .ok (.iadd, 1) := by decide +kernel
theorem dX8_ofMaker_69 : decode cX8_ofMaker 69 = .ok (.ireturn, 1) := by decide +kernel
theorem dL_law_0 : decode cL_law 0 = .ok (.new 7, 3) := by decide +kernel
theorem dL_law_3 : decode cL_law 3 = .ok (.dup, 1) := by decide +kernel
theorem dL_law_4 : decode cL_law 4 = .ok (.invokespecial 9, 3) := by decide +kernel
theorem dL_law_7 : decode cL_law 7 = .ok (.astore_n 1, 1) := by decide +kernel
theorem dL_law_8 : decode cL_law 8 = .ok (.new 10, 3) := by decide +kernel
theorem dL_law_11 : decode cL_law 11 = .ok (.dup, 1) := by decide +kernel
theorem dL_law_12 : decode cL_law 12 = .ok (.invokespecial 12, 3) := by decide +kernel
theorem dL_law_15 : decode cL_law 15 = .ok (.astore_n 2, 1) := by decide +kernel
theorem dL_law_16 : decode cL_law 16 = .ok (.iconst 0, 1) := by decide +kernel
theorem dL_law_17 : decode cL_law 17 = .ok (.istore_n 3, 1) := by decide +kernel
theorem dL_law_18 : decode cL_law 18 = .ok (.iload_n 3, 1) := by decide +kernel
theorem dL_law_19 : decode cL_law 19 = .ok (.aload_n 0, 1) := by decide +kernel
theorem dL_law_20 : decode cL_law 20 = .ok (.arraylength, 1) := by decide +kernel
theorem dL_law_21 : decode cL_law 21 = .ok (.bipush 6, 2) := by decide +kernel
theorem dL_law_23 : decode cL_law 23 = .ok (.isub, 1) := by decide +kernel
theorem dL_law_24 : decode cL_law 24 = .ok (.if_icmp .gt 1219, 3) := by decide +kernel
theorem dL_law_27 : decode cL_law 27 = .ok (.aload_n 0, 1) := by decide +kernel
theorem dL_law_28 : decode cL_law 28 = .ok (.iload_n 3, 1) := by decide +kernel
theorem dL_law_29 : decode cL_law 29 = .ok (.iaload, 1) := by decide +kernel
theorem dL_law_30 : decode cL_law 30 = .ok (.bipush 31, 2) := by decide +kernel
theorem dL_law_32 : decode cL_law 32 = .ok (.iand, 1) := by decide +kernel
theorem dL_law_33 : decode cL_law 33 = .ok (.tableswitch 1204 0 27 #[127, 151, 224, 248, 281, 304, 327, 370, 413, 446, 509, 522, 565, 608, 651, 684, 737, 790, 833, 856, 899, 942, 995, 1038, 1051, 1095, 1148, 1171], 127) := by decide +kernel
theorem dL_law_160 : decode cL_law 160 = .ok (.aload_n 1, 1) := by decide +kernel
theorem dL_law_161 : decode cL_law 161 = .ok (.aload_n 0, 1) := by decide +kernel
theorem dL_law_162 : decode cL_law 162 = .ok (.iload_n 3, 1) := by decide +kernel
theorem dL_law_163 : decode cL_law 163 = .ok (.iconst 1, 1) := by decide +kernel
theorem dL_law_164 : decode cL_law 164 = .ok (.iadd, 1) := by decide +kernel
theorem dL_law_165 : decode cL_law 165 = .ok (.iaload, 1) := by decide +kernel
theorem dL_law_166 : decode cL_law 166 = .ok (.invokevirtual 13, 3) := by decide +kernel
theorem dL_law_169 : decode cL_law 169 = .ok (.aload_n 2, 1) := by decide +kernel
theorem dL_law_170 : decode cL_law 170 = .ok (.aload_n 0, 1) := by decide +kernel
theorem dL_law_171 : decode cL_law 171 = .ok (.iload_n 3, 1) := by decide +kernel
theorem dL_law_172 : decode cL_law 172 = .ok (.iconst 1, 1) := by decide +kernel
theorem dL_law_173 : decode cL_law 173 = .ok (.iadd, 1) := by decide +kernel
theorem dL_law_174 : decode cL_law 174 = .ok (.iaload, 1) := by decide +kernel
theorem dL_law_175 : decode cL_law 175 = .ok (.invokevirtual 17, 3) := by decide +kernel
theorem dL_law_178 : decode cL_law 178 = .ok (.lcmp, 1) := by decide +kernel
theorem dL_law_179 : decode cL_law 179 = .ok (.ifCond .eq 1058, 3) := by decide +kernel
theorem dL_law_182 : decode cL_law 182 = .ok (.iconst 0, 1) := by decide +kernel
theorem dL_law_183 : decode cL_law 183 = .ok (.ireturn, 1) := by decide +kernel
theorem dL_law_184 : decode cL_law 184 = .ok (.aload_n 1, 1) := by decide +kernel
theorem dL_law_185 : decode cL_law 185 = .ok (.aload_n 0, 1) := by decide +kernel
theorem dL_law_186 : decode cL_law 186 = .ok (.iload_n 3, 1) := by decide +kernel
theorem dL_law_187 : decode cL_law 187 = .ok (.iconst 1, 1) := by decide +kernel
theorem dL_law_188 : decode cL_law 188 = .ok (.iadd, 1) := by decide +kernel
theorem dL_law_189 : decode cL_law 189 = .ok (.iaload, 1) := by decide +kernel
theorem dL_law_190 : decode cL_law 190 = .ok (.aload_n 0, 1) := by decide +kernel
theorem dL_law_191 : decode cL_law 191 = .ok (.iload_n 3, 1) := by decide +kernel
theorem dL_law_192 : decode cL_law 192 = .ok (.iconst 2, 1) := by decide +kernel
theorem dL_law_193 : decode cL_law 193 = .ok (.iadd, 1) := by decide +kernel
theorem dL_law_194 : decode cL_law 194 = .ok (.iaload, 1) := by decide +kernel
theorem dL_law_195 : decode cL_law 195 = .ok (.aload_n 0, 1) := by decide +kernel
theorem dL_law_196 : decode cL_law 196 = .ok (.iload_n 3, 1) := by decide +kernel
theorem dL_law_197 : decode cL_law 197 = .ok (.iconst 3, 1) := by decide +kernel
theorem dL_law_198 : decode cL_law 198 = .ok (.iadd, 1) := by decide +kernel
theorem dL_law_199 : decode cL_law 199 = .ok (.iaload, 1) := by decide +kernel
theorem dL_law_200 : decode cL_law 200 = .ok (.i2l, 1) := by decide +kernel
theorem dL_law_201 : decode cL_law 201 = .ok (.bipush 32, 2) := by decide +kernel
theorem dL_law_203 : decode cL_law 203 = .ok (.lshl, 1) := by decide +kernel
theorem dL_law_204 : decode cL_law 204 = .ok (.aload_n 0, 1) := by decide +kernel
theorem dL_law_205 : decode cL_law 205 = .ok (.iload_n 3, 1) := by decide +kernel
theorem dL_law_206 : decode cL_law 206 = .ok (.iconst 4, 1) := by decide +kernel
theorem dL_law_207 : decode cL_law 207 = .ok (.iadd, 1) := by decide +kernel
theorem dL_law_208 : decode cL_law 208 = .ok (.iaload, 1) := by decide +kernel
theorem dL_law_209 : decode cL_law 209 = .ok (.i2l, 1) := by decide +kernel
theorem dL_law_210 : decode cL_law 210 = .ok (.ldc2_w 18, 3) := by decide +kernel
theorem dL_law_213 : decode cL_law 213 = .ok (.land, 1) := by decide +kernel
theorem dL_law_214 : decode cL_law 214 = .ok (.lor, 1) := by decide +kernel
theorem dL_law_215 : decode cL_law 215 = .ok (.invokevirtual 20, 3) := by decide +kernel
theorem dL_law_218 : decode cL_law 218 = .ok (.aload_n 2, 1) := by decide +kernel
theorem dL_law_219 : decode cL_law 219 = .ok (.aload_n 0, 1) := by decide +kernel
theorem dL_law_220 : decode cL_law 220 = .ok (.iload_n 3, 1) := by decide +kernel
theorem dL_law_221 : decode cL_law 221 = .ok (.iconst 1, 1) := by decide +kernel
theorem dL_law_222 : decode cL_law 222 = .ok (.iadd, 1) := by decide +kernel
theorem dL_law_223 : decode cL_law 223 = .ok (.iaload, 1) := by decide +kernel
theorem dL_law_224 : decode cL_law 224 = .ok (.aload_n 0, 1) := by decide +kernel
theorem dL_law_225 : decode cL_law 225 = .ok (.iload_n 3, 1) := by decide +kernel
theorem dL_law_226 : decode cL_law 226 = .ok (.iconst 2, 1) := by decide +kernel
theorem dL_law_227 : decode cL_law 227 = .ok (.iadd, 1) := by decide +kernel
theorem dL_law_228 : decode cL_law 228 = .ok (.iaload, 1) := by decide +kernel
theorem dL_law_229 : decode cL_law 229 = .ok (.aload_n 0, 1) := by decide +kernel
theorem dL_law_230 : decode cL_law 230 = .ok (.iload_n 3, 1) := by decide +kernel
theorem dL_law_231 : decode cL_law 231 = .ok (.iconst 3, 1) := by decide +kernel
theorem dL_law_232 : decode cL_law 232 = .ok (.iadd, 1) := by decide +kernel
theorem dL_law_233 : decode cL_law 233 = .ok (.iaload, 1) := by decide +kernel
theorem dL_law_234 : decode cL_law 234 = .ok (.i2l, 1) := by decide +kernel
theorem dL_law_235 : decode cL_law 235 = .ok (.bipush 32, 2) := by decide +kernel
theorem dL_law_237 : decode cL_law 237 = .ok (.lshl, 1) := by decide +kernel
theorem dL_law_238 : decode cL_law 238 = .ok (.aload_n 0, 1) := by decide +kernel
theorem dL_law_239 : decode cL_law 239 = .ok (.iload_n 3, 1) := by decide +kernel
theorem dL_law_240 : decode cL_law 240 = .ok (.iconst 4, 1) := by decide +kernel
theorem dL_law_241 : decode cL_law 241 = .ok (.iadd, 1) := by decide +kernel
theorem dL_law_242 : decode cL_law 242 = .ok (.iaload, 1) := by decide +kernel
theorem dL_law_243 : decode cL_law 243 = .ok (.i2l, 1) := by decide +kernel
theorem dL_law_244 : decode cL_law 244 = .ok (.ldc2_w 18, 3) := by decide +kernel
theorem dL_law_247 : decode cL_law 247 = .ok (.land, 1) := by decide +kernel
theorem dL_law_248 : decode cL_law 248 = .ok (.lor, 1) := by decide +kernel
theorem dL_law_249 : decode cL_law 249 = .ok (.invokevirtual 24, 3) := by decide +kernel
theorem dL_law_252 : decode cL_law 252 = .ok (.if_icmp .eq 985, 3) := by decide +kernel
theorem dL_law_255 : decode cL_law 255 = .ok (.iconst 0, 1) := by decide +kernel
theorem dL_law_256 : decode cL_law 256 = .ok (.ireturn, 1) := by decide +kernel
theorem dL_law_257 : decode cL_law 257 = .ok (.aload_n 1, 1) := by decide +kernel
theorem dL_law_258 : decode cL_law 258 = .ok (.aload_n 0, 1) := by decide +kernel
theorem dL_law_259 : decode cL_law 259 = .ok (.iload_n 3, 1) := by decide +kernel
theorem dL_law_260 : decode cL_law 260 = .ok (.iconst 1, 1) := by decide +kernel
theorem dL_law_261 : decode cL_law 261 = .ok (.iadd, 1) := by decide +kernel
theorem dL_law_262 : decode cL_law 262 = .ok (.iaload, 1) := by decide +kernel
theorem dL_law_263 : decode cL_law 263 = .ok (.invokevirtual 25, 3) := by decide +kernel
theorem dL_law_266 : decode cL_law 266 = .ok (.aload_n 2, 1) := by decide +kernel
theorem dL_law_267 : decode cL_law 267 = .ok (.aload_n 0, 1) := by decide +kernel
theorem dL_law_268 : decode cL_law 268 = .ok (.iload_n 3, 1) := by decide +kernel
theorem dL_law_269 : decode cL_law 269 = .ok (.iconst 1, 1) := by decide +kernel
theorem dL_law_270 : decode cL_law 270 = .ok (.iadd, 1) := by decide +kernel
theorem dL_law_271 : decode cL_law 271 = .ok (.iaload, 1) := by decide +kernel
theorem dL_law_272 : decode cL_law 272 = .ok (.invokevirtual 28, 3) := by decide +kernel
theorem dL_law_275 : decode cL_law 275 = .ok (.lcmp, 1) := by decide +kernel
theorem dL_law_276 : decode cL_law 276 = .ok (.ifCond .eq 961, 3) := by decide +kernel
theorem dL_law_279 : decode cL_law 279 = .ok (.iconst 0, 1) := by decide +kernel
theorem dL_law_280 : decode cL_law 280 = .ok (.ireturn, 1) := by decide +kernel
theorem dL_law_281 : decode cL_law 281 = .ok (.aload_n 1, 1) := by decide +kernel
theorem dL_law_282 : decode cL_law 282 = .ok (.aload_n 0, 1) := by decide +kernel
theorem dL_law_283 : decode cL_law 283 = .ok (.iload_n 3, 1) := by decide +kernel
theorem dL_law_284 : decode cL_law 284 = .ok (.iconst 1, 1) := by decide +kernel
theorem dL_law_285 : decode cL_law 285 = .ok (.iadd, 1) := by decide +kernel
theorem dL_law_286 : decode cL_law 286 = .ok (.iaload, 1) := by decide +kernel
theorem dL_law_287 : decode cL_law 287 = .ok (.aload_n 0, 1) := by decide +kernel
theorem dL_law_288 : decode cL_law 288 = .ok (.iload_n 3, 1) := by decide +kernel
theorem dL_law_289 : decode cL_law 289 = .ok (.iconst 2, 1) := by decide +kernel
theorem dL_law_290 : decode cL_law 290 = .ok (.iadd, 1) := by decide +kernel
theorem dL_law_291 : decode cL_law 291 = .ok (.iaload, 1) := by decide +kernel
theorem dL_law_292 : decode cL_law 292 = .ok (.invokevirtual 29, 3) := by decide +kernel
theorem dL_law_295 : decode cL_law 295 = .ok (.aload_n 2, 1) := by decide +kernel
theorem dL_law_296 : decode cL_law 296 = .ok (.aload_n 0, 1) := by decide +kernel
theorem dL_law_297 : decode cL_law 297 = .ok (.iload_n 3, 1) := by decide +kernel
theorem dL_law_298 : decode cL_law 298 = .ok (.iconst 1, 1) := by decide +kernel
theorem dL_law_299 : decode cL_law 299 = .ok (.iadd, 1) := by decide +kernel
theorem dL_law_300 : decode cL_law 300 = .ok (.iaload, 1) := by decide +kernel
theorem dL_law_301 : decode cL_law 301 = .ok (.aload_n 0, 1) := by decide +kernel
theorem dL_law_302 : decode cL_law 302 = .ok (.iload_n 3, 1) := by decide +kernel
theorem dL_law_303 : decode cL_law 303 = .ok (.iconst 2, 1) := by decide +kernel
theorem dL_law_304 : decode cL_law 304 = .ok (.iadd, 1) := by decide +kernel
theorem dL_law_305 : decode cL_law 305 = .ok (.iaload, 1) := by decide +kernel
theorem dL_law_306 : decode cL_law 306 = .ok (.invokevirtual 33, 3) := by decide +kernel
theorem dL_law_309 : decode cL_law 309 = .ok (.if_icmp .eq 928, 3) := by decide +kernel
theorem dL_law_312 : decode cL_law 312 = .ok (.iconst 0, 1) := by decide +kernel
theorem dL_law_313 : decode cL_law 313 = .ok (.ireturn, 1) := by decide +kernel
theorem dL_law_314 : decode cL_law 314 = .ok (.aload_n 1, 1) := by decide +kernel
theorem dL_law_315 : decode cL_law 315 = .ok (.aload_n 0, 1) := by decide +kernel
theorem dL_law_316 : decode cL_law 316 = .ok (.iload_n 3, 1) := by decide +kernel
theorem dL_law_317 : decode cL_law 317 = .ok (.iconst 1, 1) := by decide +kernel
theorem dL_law_318 : decode cL_law 318 = .ok (.iadd, 1) := by decide +kernel
theorem dL_law_319 : decode cL_law 319 = .ok (.iaload, 1) := by decide +kernel
theorem dL_law_320 : decode cL_law 320 = .ok (.invokevirtual 34, 3) := by decide +kernel
theorem dL_law_323 : decode cL_law 323 = .ok (.aload_n 2, 1) := by decide +kernel
theorem dL_law_324 : decode cL_law 324 = .ok (.aload_n 0, 1) := by decide +kernel
theorem dL_law_325 : decode cL_law 325 = .ok (.iload_n 3, 1) := by decide +kernel
theorem dL_law_326 : decode cL_law 326 = .ok (.iconst 1, 1) := by decide +kernel
theorem dL_law_327 : decode cL_law 327 = .ok (.iadd, 1) := by decide +kernel
theorem dL_law_328 : decode cL_law 328 = .ok (.iaload, 1) := by decide +kernel
theorem dL_law_329 : decode cL_law 329 = .ok (.invokevirtual 38, 3) := by decide +kernel
theorem dL_law_332 : decode cL_law 332 = .ok (.if_icmp .eq 905, 3) := by decide +kernel
theorem dL_law_335 : decode cL_law 335 = .ok (.iconst 0, 1) := by decide +kernel
theorem dL_law_336 : decode cL_law 336 = .ok (.ireturn, 1) := by decide +kernel
theorem dL_law_337 : decode cL_law 337 = .ok (.aload_n 1, 1) := by decide +kernel
theorem dL_law_338 : decode cL_law 338 = .ok (.aload_n 0, 1) := by decide +kernel
theorem dL_law_339 : decode cL_law 339 = .ok (.iload_n 3, 1) := by decide +kernel
theorem dL_law_340 : decode cL_law 340 = .ok (.iconst 1, 1) := by decide +kernel
theorem dL_law_341 : decode cL_law 341 = .ok (.iadd, 1) := by decide +kernel
theorem dL_law_342 : decode cL_law 342 = .ok (.iaload, 1) := by decide +kernel
theorem dL_law_343 : decode cL_law 343 = .ok (.invokevirtual 39, 3) := by decide +kernel
theorem dL_law_346 : decode cL_law 346 = .ok (.aload_n 2, 1) := by decide +kernel
theorem dL_law_347 : decode cL_law 347 = .ok (.aload_n 0, 1) := by decide +kernel
theorem dL_law_348 : decode cL_law 348 = .ok (.iload_n 3, 1) := by decide +kernel
theorem dL_law_349 : decode cL_law 349 = .ok (.iconst 1, 1) := by decide +kernel
theorem dL_law_350 : decode cL_law 350 = .ok (.iadd, 1) := by decide +kernel
theorem dL_law_351 : decode cL_law 351 = .ok (.iaload, 1) := by decide +kernel
theorem dL_law_352 : decode cL_law 352 = .ok (.invokevirtual 42, 3) := by decide +kernel
theorem dL_law_355 : decode cL_law 355 = .ok (.if_icmp .eq 882, 3) := by decide +kernel
theorem dL_law_358 : decode cL_law 358 = .ok (.iconst 0, 1) := by decide +kernel
theorem dL_law_359 : decode cL_law 359 = .ok (.ireturn, 1) := by decide +kernel
theorem dL_law_360 : decode cL_law 360 = .ok (.aload_n 1, 1) := by decide +kernel
theorem dL_law_361 : decode cL_law 361 = .ok (.aload_n 0, 1) := by decide +kernel
theorem dL_law_362 : decode cL_law 362 = .ok (.iload_n 3, 1) := by decide +kernel
theorem dL_law_363 : decode cL_law 363 = .ok (.iconst 1, 1) := by decide +kernel
theorem dL_law_364 : decode cL_law 364 = .ok (.iadd, 1) := by decide +kernel
theorem dL_law_365 : decode cL_law 365 = .ok (.iaload, 1) := by decide +kernel
theorem dL_law_366 : decode cL_law 366 = .ok (.aload_n 0, 1) := by decide +kernel
theorem dL_law_367 : decode cL_law 367 = .ok (.iload_n 3, 1) := by decide +kernel
theorem dL_law_368 : decode cL_law 368 = .ok (.iconst 2, 1) := by decide +kernel
theorem dL_law_369 : decode cL_law 369 = .ok (.iadd, 1) := by decide +kernel
theorem dL_law_370 : decode cL_law 370 = .ok (.iaload, 1) := by decide +kernel
theorem dL_law_371 : decode cL_law 371 = .ok (.aload_n 0, 1) := by decide +kernel
theorem dL_law_372 : decode cL_law 372 = .ok (.iload_n 3, 1) := by decide +kernel
theorem dL_law_373 : decode cL_law 373 = .ok (.iconst 3, 1) := by decide +kernel
theorem dL_law_374 : decode cL_law 374 = .ok (.iadd, 1) := by decide +kernel
theorem dL_law_375 : decode cL_law 375 = .ok (.iaload, 1) := by decide +kernel
theorem dL_law_376 : decode cL_law 376 = .ok (.invokevirtual 43, 3) := by decide +kernel
theorem dL_law_379 : decode cL_law 379 = .ok (.aload_n 2, 1) := by decide +kernel
theorem dL_law_380 : decode cL_law 380 = .ok (.aload_n 0, 1) := by decide +kernel
theorem dL_law_381 : decode cL_law 381 = .ok (.iload_n 3, 1) := by decide +kernel
theorem dL_law_382 : decode cL_law 382 = .ok (.iconst 1, 1) := by decide +kernel
theorem dL_law_383 : decode cL_law 383 = .ok (.iadd, 1) := by decide +kernel
theorem dL_law_384 : decode cL_law 384 = .ok (.iaload, 1) := by decide +kernel
theorem dL_law_385 : decode cL_law 385 = .ok (.aload_n 0, 1) := by decide +kernel
theorem dL_law_386 : decode cL_law 386 = .ok (.iload_n 3, 1) := by decide +kernel
theorem dL_law_387 : decode cL_law 387 = .ok (.iconst 2, 1) := by decide +kernel
theorem dL_law_388 : decode cL_law 388 = .ok (.iadd, 1) := by decide +kernel
theorem dL_law_389 : decode cL_law 389 = .ok (.iaload, 1) := by decide +kernel
theorem dL_law_390 : decode cL_law 390 = .ok (.aload_n 0, 1) := by decide +kernel
theorem dL_law_391 : decode cL_law 391 = .ok (.iload_n 3, 1) := by decide +kernel
theorem dL_law_392 : decode cL_law 392 = .ok (.iconst 3, 1) := by decide +kernel
theorem dL_law_393 : decode cL_law 393 = .ok (.iadd, 1) := by decide +kernel
theorem dL_law_394 : decode cL_law 394 = .ok (.iaload, 1) := by decide +kernel
theorem dL_law_395 : decode cL_law 395 = .ok (.invokevirtual 47, 3) := by decide +kernel
theorem dL_law_398 : decode cL_law 398 = .ok (.if_icmp .eq 839, 3) := by decide +kernel
theorem dL_law_401 : decode cL_law 401 = .ok (.iconst 0, 1) := by decide +kernel
theorem dL_law_402 : decode cL_law 402 = .ok (.ireturn, 1) := by decide +kernel
theorem dL_law_403 : decode cL_law 403 = .ok (.aload_n 1, 1) := by decide +kernel
theorem dL_law_404 : decode cL_law 404 = .ok (.aload_n 0, 1) := by decide +kernel
theorem dL_law_405 : decode cL_law 405 = .ok (.iload_n 3, 1) := by decide +kernel
theorem dL_law_406 : decode cL_law 406 = .ok (.iconst 1, 1) := by decide +kernel
theorem dL_law_407 : decode cL_law 407 = .ok (.iadd, 1) := by decide +kernel
theorem dL_law_408 : decode cL_law 408 = .ok (.iaload, 1) := by decide +kernel
theorem dL_law_409 : decode cL_law 409 = .ok (.aload_n 0, 1) := by decide +kernel
theorem dL_law_410 : decode cL_law 410 = .ok (.iload_n 3, 1) := by decide +kernel
theorem dL_law_411 : decode cL_law 411 = .ok (.iconst 2, 1) := by decide +kernel
theorem dL_law_412 : decode cL_law 412 = .ok (.iadd, 1) := by decide +kernel
theorem dL_law_413 : decode cL_law 413 = .ok (.iaload, 1) := by decide +kernel
theorem dL_law_414 : decode cL_law 414 = .ok (.aload_n 0, 1) := by decide +kernel
theorem dL_law_415 : decode cL_law 415 = .ok (.iload_n 3, 1) := by decide +kernel
theorem dL_law_416 : decode cL_law 416 = .ok (.iconst 3, 1) := by decide +kernel
theorem dL_law_417 : decode cL_law 417 = .ok (.iadd, 1) := by decide +kernel
theorem dL_law_418 : decode cL_law 418 = .ok (.iaload, 1) := by decide +kernel
theorem dL_law_419 : decode cL_law 419 = .ok (.invokevirtual 48, 3) := by decide +kernel
theorem dL_law_422 : decode cL_law 422 = .ok (.aload_n 2, 1) := by decide +kernel
theorem dL_law_423 : decode cL_law 423 = .ok (.aload_n 0, 1) := by decide +kernel
theorem dL_law_424 : decode cL_law 424 = .ok (.iload_n 3, 1) := by decide +kernel
theorem dL_law_425 : decode cL_law 425 = .ok (.iconst 1, 1) := by decide +kernel
theorem dL_law_426 : decode cL_law 426 = .ok (.iadd, 1) := by decide +kernel
theorem dL_law_427 : decode cL_law 427 = .ok (.iaload, 1) := by decide +kernel
theorem dL_law_428 : decode cL_law 428 = .ok (.aload_n 0, 1) := by decide +kernel
theorem dL_law_429 : decode cL_law 429 = .ok (.iload_n 3, 1) := by decide +kernel
theorem dL_law_430 : decode cL_law 430 = .ok (.iconst 2, 1) := by decide +kernel
theorem dL_law_431 : decode cL_law 431 = .ok (.iadd, 1) := by decide +kernel
theorem dL_law_432 : decode cL_law 432 = .ok (.iaload, 1) := by decide +kernel
theorem dL_law_433 : decode cL_law 433 = .ok (.aload_n 0, 1) := by decide +kernel
theorem dL_law_434 : decode cL_law 434 = .ok (.iload_n 3, 1) := by decide +kernel
theorem dL_law_435 : decode cL_law 435 = .ok (.iconst 3, 1) := by decide +kernel
theorem dL_law_436 : decode cL_law 436 = .ok (.iadd, 1) := by decide +kernel
theorem dL_law_437 : decode cL_law 437 = .ok (.iaload, 1) := by decide +kernel
theorem dL_law_438 : decode cL_law 438 = .ok (.invokevirtual 51, 3) := by decide +kernel
theorem dL_law_441 : decode cL_law 441 = .ok (.if_icmp .eq 796, 3) := by decide +kernel
theorem dL_law_444 : decode cL_law 444 = .ok (.iconst 0, 1) := by decide +kernel
theorem dL_law_445 : decode cL_law 445 = .ok (.ireturn, 1) := by decide +kernel
theorem dL_law_446 : decode cL_law 446 = .ok (.aload_n 1, 1) := by decide +kernel
theorem dL_law_447 : decode cL_law 447 = .ok (.aload_n 0, 1) := by decide +kernel
theorem dL_law_448 : decode cL_law 448 = .ok (.iload_n 3, 1) := by decide +kernel
theorem dL_law_449 : decode cL_law 449 = .ok (.iconst 1, 1) := by decide +kernel
theorem dL_law_450 : decode cL_law 450 = .ok (.iadd, 1) := by decide +kernel
theorem dL_law_451 : decode cL_law 451 = .ok (.iaload, 1) := by decide +kernel
theorem dL_law_452 : decode cL_law 452 = .ok (.aload_n 0, 1) := by decide +kernel
theorem dL_law_453 : decode cL_law 453 = .ok (.iload_n 3, 1) := by decide +kernel
theorem dL_law_454 : decode cL_law 454 = .ok (.iconst 2, 1) := by decide +kernel
theorem dL_law_455 : decode cL_law 455 = .ok (.iadd, 1) := by decide +kernel
theorem dL_law_456 : decode cL_law 456 = .ok (.iaload, 1) := by decide +kernel
theorem dL_law_457 : decode cL_law 457 = .ok (.invokevirtual 52, 3) := by decide +kernel
theorem dL_law_460 : decode cL_law 460 = .ok (.aload_n 2, 1) := by decide +kernel
theorem dL_law_461 : decode cL_law 461 = .ok (.aload_n 0, 1) := by decide +kernel
theorem dL_law_462 : decode cL_law 462 = .ok (.iload_n 3, 1) := by decide +kernel
theorem dL_law_463 : decode cL_law 463 = .ok (.iconst 1, 1) := by decide +kernel
theorem dL_law_464 : decode cL_law 464 = .ok (.iadd, 1) := by decide +kernel
theorem dL_law_465 : decode cL_law 465 = .ok (.iaload, 1) := by decide +kernel
theorem dL_law_466 : decode cL_law 466 = .ok (.aload_n 0, 1) := by decide +kernel
theorem dL_law_467 : decode cL_law 467 = .ok (.iload_n 3, 1) := by decide +kernel
theorem dL_law_468 : decode cL_law 468 = .ok (.iconst 2, 1) := by decide +kernel
theorem dL_law_469 : decode cL_law 469 = .ok (.iadd, 1) := by decide +kernel
theorem dL_law_470 : decode cL_law 470 = .ok (.iaload, 1) := by decide +kernel
theorem dL_law_471 : decode cL_law 471 = .ok (.invokevirtual 55, 3) := by decide +kernel
theorem dL_law_474 : decode cL_law 474 = .ok (.if_icmp .eq 763, 3) := by decide +kernel
theorem dL_law_477 : decode cL_law 477 = .ok (.iconst 0, 1) := by decide +kernel
theorem dL_law_478 : decode cL_law 478 = .ok (.ireturn, 1) := by decide +kernel
theorem dL_law_479 : decode cL_law 479 = .ok (.aload_n 1, 1) := by decide +kernel
theorem dL_law_480 : decode cL_law 480 = .ok (.aload_n 0, 1) := by decide +kernel
theorem dL_law_481 : decode cL_law 481 = .ok (.iload_n 3, 1) := by decide +kernel
theorem dL_law_482 : decode cL_law 482 = .ok (.iconst 1, 1) := by decide +kernel
theorem dL_law_483 : decode cL_law 483 = .ok (.iadd, 1) := by decide +kernel
theorem dL_law_484 : decode cL_law 484 = .ok (.iaload, 1) := by decide +kernel
theorem dL_law_485 : decode cL_law 485 = .ok (.aload_n 0, 1) := by decide +kernel
theorem dL_law_486 : decode cL_law 486 = .ok (.iload_n 3, 1) := by decide +kernel
theorem dL_law_487 : decode cL_law 487 = .ok (.iconst 2, 1) := by decide +kernel
theorem dL_law_488 : decode cL_law 488 = .ok (.iadd, 1) := by decide +kernel
theorem dL_law_489 : decode cL_law 489 = .ok (.iaload, 1) := by decide +kernel
theorem dL_law_490 : decode cL_law 490 = .ok (.aload_n 0, 1) := by decide +kernel
theorem dL_law_491 : decode cL_law 491 = .ok (.iload_n 3, 1) := by decide +kernel
theorem dL_law_492 : decode cL_law 492 = .ok (.iconst 3, 1) := by decide +kernel
theorem dL_law_493 : decode cL_law 493 = .ok (.iadd, 1) := by decide +kernel
theorem dL_law_494 : decode cL_law 494 = .ok (.iaload, 1) := by decide +kernel
theorem dL_law_495 : decode cL_law 495 = .ok (.aload_n 0, 1) := by decide +kernel
theorem dL_law_496 : decode cL_law 496 = .ok (.iload_n 3, 1) := by decide +kernel
theorem dL_law_497 : decode cL_law 497 = .ok (.iconst 4, 1) := by decide +kernel
theorem dL_law_498 : decode cL_law 498 = .ok (.iadd, 1) := by decide +kernel
theorem dL_law_499 : decode cL_law 499 = .ok (.iaload, 1) := by decide +kernel
theorem dL_law_500 : decode cL_law 500 = .ok (.aload_n 0, 1) := by decide +kernel
theorem dL_law_501 : decode cL_law 501 = .ok (.iload_n 3, 1) := by decide +kernel
theorem dL_law_502 : decode cL_law 502 = .ok (.iconst 5, 1) := by decide +kernel
theorem dL_law_503 : decode cL_law 503 = .ok (.iadd, 1) := by decide +kernel
theorem dL_law_504 : decode cL_law 504 = .ok (.iaload, 1) := by decide +kernel
theorem dL_law_505 : decode cL_law 505 = .ok (.invokevirtual 56, 3) := by decide +kernel
theorem dL_law_508 : decode cL_law 508 = .ok (.aload_n 2, 1) := by decide +kernel
theorem dL_law_509 : decode cL_law 509 = .ok (.aload_n 0, 1) := by decide +kernel
theorem dL_law_510 : decode cL_law 510 = .ok (.iload_n 3, 1) := by decide +kernel
theorem dL_law_511 : decode cL_law 511 = .ok (.iconst 1, 1) := by decide +kernel
theorem dL_law_512 : decode cL_law 512 = .ok (.iadd, 1) := by decide +kernel
theorem dL_law_513 : decode cL_law 513 = .ok (.iaload, 1) := by decide +kernel
theorem dL_law_514 : decode cL_law 514 = .ok (.aload_n 0, 1) := by decide +kernel
theorem dL_law_515 : decode cL_law 515 = .ok (.iload_n 3, 1) := by decide +kernel
theorem dL_law_516 : decode cL_law 516 = .ok (.iconst 2, 1) := by decide +kernel
theorem dL_law_517 : decode cL_law 517 = .ok (.iadd, 1) := by decide +kernel
theorem dL_law_518 : decode cL_law 518 = .ok (.iaload, 1) := by decide +kernel
theorem dL_law_519 : decode cL_law 519 = .ok (.aload_n 0, 1) := by decide +kernel
theorem dL_law_520 : decode cL_law 520 = .ok (.iload_n 3, 1) := by decide +kernel
theorem dL_law_521 : decode cL_law 521 = .ok (.iconst 3, 1) := by decide +kernel
theorem dL_law_522 : decode cL_law 522 = .ok (.iadd, 1) := by decide +kernel
theorem dL_law_523 : decode cL_law 523 = .ok (.iaload, 1) := by decide +kernel
theorem dL_law_524 : decode cL_law 524 = .ok (.aload_n 0, 1) := by decide +kernel
theorem dL_law_525 : decode cL_law 525 = .ok (.iload_n 3, 1) := by decide +kernel
theorem dL_law_526 : decode cL_law 526 = .ok (.iconst 4, 1) := by decide +kernel
theorem dL_law_527 : decode cL_law 527 = .ok (.iadd, 1) := by decide +kernel
theorem dL_law_528 : decode cL_law 528 = .ok (.iaload, 1) := by decide +kernel
theorem dL_law_529 : decode cL_law 529 = .ok (.aload_n 0, 1) := by decide +kernel
theorem dL_law_530 : decode cL_law 530 = .ok (.iload_n 3, 1) := by decide +kernel
theorem dL_law_531 : decode cL_law 531 = .ok (.iconst 5, 1) := by decide +kernel
theorem dL_law_532 : decode cL_law 532 = .ok (.iadd, 1) := by decide +kernel
theorem dL_law_533 : decode cL_law 533 = .ok (.iaload, 1) := by decide +kernel
theorem dL_law_534 : decode cL_law 534 = .ok (.invokevirtual 60, 3) := by decide +kernel
theorem dL_law_537 : decode cL_law 537 = .ok (.if_icmp .eq 700, 3) := by decide +kernel
theorem dL_law_540 : decode cL_law 540 = .ok (.iconst 0, 1) := by decide +kernel
theorem dL_law_541 : decode cL_law 541 = .ok (.ireturn, 1) := by decide +kernel
theorem dL_law_542 : decode cL_law 542 = .ok (.aload_n 1, 1) := by decide +kernel
theorem dL_law_543 : decode cL_law 543 = .ok (.invokevirtual 61, 3) := by decide +kernel
theorem dL_law_546 : decode cL_law 546 = .ok (.aload_n 2, 1) := by decide +kernel
theorem dL_law_547 : decode cL_law 547 = .ok (.invokevirtual 65, 3) := by decide +kernel
theorem dL_law_550 : decode cL_law 550 = .ok (.if_icmp .eq 687, 3) := by decide +kernel
theorem dL_law_553 : decode cL_law 553 = .ok (.iconst 0, 1) := by decide +kernel
theorem dL_law_554 : decode cL_law 554 = .ok (.ireturn, 1) := by decide +kernel
theorem dL_law_555 : decode cL_law 555 = .ok (.aload_n 1, 1) := by decide +kernel
theorem dL_law_556 : decode cL_law 556 = .ok (.aload_n 0, 1) := by decide +kernel
theorem dL_law_557 : decode cL_law 557 = .ok (.iload_n 3, 1) := by decide +kernel
theorem dL_law_558 : decode cL_law 558 = .ok (.iconst 1, 1) := by decide +kernel
theorem dL_law_559 : decode cL_law 559 = .ok (.iadd, 1) := by decide +kernel
theorem dL_law_560 : decode cL_law 560 = .ok (.iaload, 1) := by decide +kernel
theorem dL_law_561 : decode cL_law 561 = .ok (.aload_n 0, 1) := by decide +kernel
theorem dL_law_562 : decode cL_law 562 = .ok (.iload_n 3, 1) := by decide +kernel
theorem dL_law_563 : decode cL_law 563 = .ok (.iconst 2, 1) := by decide +kernel
theorem dL_law_564 : decode cL_law 564 = .ok (.iadd, 1) := by decide +kernel
theorem dL_law_565 : decode cL_law 565 = .ok (.iaload, 1) := by decide +kernel
theorem dL_law_566 : decode cL_law 566 = .ok (.aload_n 0, 1) := by decide +kernel
theorem dL_law_567 : decode cL_law 567 = .ok (.iload_n 3, 1) := by decide +kernel
theorem dL_law_568 : decode cL_law 568 = .ok (.iconst 3, 1) := by decide +kernel
theorem dL_law_569 : decode cL_law 569 = .ok (.iadd, 1) := by decide +kernel
theorem dL_law_570 : decode cL_law 570 = .ok (.iaload, 1) := by decide +kernel
theorem dL_law_571 : decode cL_law 571 = .ok (.invokevirtual 66, 3) := by decide +kernel
theorem dL_law_574 : decode cL_law 574 = .ok (.aload_n 2, 1) := by decide +kernel
theorem dL_law_575 : decode cL_law 575 = .ok (.aload_n 0, 1) := by decide +kernel
theorem dL_law_576 : decode cL_law 576 = .ok (.iload_n 3, 1) := by decide +kernel
theorem dL_law_577 : decode cL_law 577 = .ok (.iconst 1, 1) := by decide +kernel
theorem dL_law_578 : decode cL_law 578 = .ok (.iadd, 1) := by decide +kernel
theorem dL_law_579 : decode cL_law 579 = .ok (.iaload, 1) := by decide +kernel
theorem dL_law_580 : decode cL_law 580 = .ok (.aload_n 0, 1) := by decide +kernel
theorem dL_law_581 : decode cL_law 581 = .ok (.iload_n 3, 1) := by decide +kernel
theorem dL_law_582 : decode cL_law 582 = .ok (.iconst 2, 1) := by decide +kernel
theorem dL_law_583 : decode cL_law 583 = .ok (.iadd, 1) := by decide +kernel
theorem dL_law_584 : decode cL_law 584 = .ok (.iaload, 1) := by decide +kernel
theorem dL_law_585 : decode cL_law 585 = .ok (.aload_n 0, 1) := by decide +kernel
theorem dL_law_586 : decode cL_law 586 = .ok (.iload_n 3, 1) := by decide +kernel
theorem dL_law_587 : decode cL_law 587 = .ok (.iconst 3, 1) := by decide +kernel
theorem dL_law_588 : decode cL_law 588 = .ok (.iadd, 1) := by decide +kernel
theorem dL_law_589 : decode cL_law 589 = .ok (.iaload, 1) := by decide +kernel
theorem dL_law_590 : decode cL_law 590 = .ok (.invokevirtual 69, 3) := by decide +kernel
theorem dL_law_593 : decode cL_law 593 = .ok (.if_icmp .eq 644, 3) := by decide +kernel
theorem dL_law_596 : decode cL_law 596 = .ok (.iconst 0, 1) := by decide +kernel
theorem dL_law_597 : decode cL_law 597 = .ok (.ireturn, 1) := by decide +kernel
theorem dL_law_598 : decode cL_law 598 = .ok (.aload_n 1, 1) := by decide +kernel
theorem dL_law_599 : decode cL_law 599 = .ok (.aload_n 0, 1) := by decide +kernel
theorem dL_law_600 : decode cL_law 600 = .ok (.iload_n 3, 1) := by decide +kernel
theorem dL_law_601 : decode cL_law 601 = .ok (.iconst 1, 1) := by decide +kernel
theorem dL_law_602 : decode cL_law 602 = .ok (.iadd, 1) := by decide +kernel
theorem dL_law_603 : decode cL_law 603 = .ok (.iaload, 1) := by decide +kernel
theorem dL_law_604 : decode cL_law 604 = .ok (.aload_n 0, 1) := by decide +kernel
theorem dL_law_605 : decode cL_law 605 = .ok (.iload_n 3, 1) := by decide +kernel
theorem dL_law_606 : decode cL_law 606 = .ok (.iconst 2, 1) := by decide +kernel
theorem dL_law_607 : decode cL_law 607 = .ok (.iadd, 1) := by decide +kernel
theorem dL_law_608 : decode cL_law 608 = .ok (.iaload, 1) := by decide +kernel
theorem dL_law_609 : decode cL_law 609 = .ok (.aload_n 0, 1) := by decide +kernel
theorem dL_law_610 : decode cL_law 610 = .ok (.iload_n 3, 1) := by decide +kernel
theorem dL_law_611 : decode cL_law 611 = .ok (.iconst 3, 1) := by decide +kernel
theorem dL_law_612 : decode cL_law 612 = .ok (.iadd, 1) := by decide +kernel
theorem dL_law_613 : decode cL_law 613 = .ok (.iaload, 1) := by decide +kernel
theorem dL_law_614 : decode cL_law 614 = .ok (.invokevirtual 70, 3) := by decide +kernel
theorem dL_law_617 : decode cL_law 617 = .ok (.aload_n 2, 1) := by decide +kernel
theorem dL_law_618 : decode cL_law 618 = .ok (.aload_n 0, 1) := by decide +kernel
theorem dL_law_619 : decode cL_law 619 = .ok (.iload_n 3, 1) := by decide +kernel
theorem dL_law_620 : decode cL_law 620 = .ok (.iconst 1, 1) := by decide +kernel
theorem dL_law_621 : decode cL_law 621 = .ok (.iadd, 1) := by decide +kernel
theorem dL_law_622 : decode cL_law 622 = .ok (.iaload, 1) := by decide +kernel
theorem dL_law_623 : decode cL_law 623 = .ok (.aload_n 0, 1) := by decide +kernel
theorem dL_law_624 : decode cL_law 624 = .ok (.iload_n 3, 1) := by decide +kernel
theorem dL_law_625 : decode cL_law 625 = .ok (.iconst 2, 1) := by decide +kernel
theorem dL_law_626 : decode cL_law 626 = .ok (.iadd, 1) := by decide +kernel
theorem dL_law_627 : decode cL_law 627 = .ok (.iaload, 1) := by decide +kernel
theorem dL_law_628 : decode cL_law 628 = .ok (.aload_n 0, 1) := by decide +kernel
theorem dL_law_629 : decode cL_law 629 = .ok (.iload_n 3, 1) := by decide +kernel
theorem dL_law_630 : decode cL_law 630 = .ok (.iconst 3, 1) := by decide +kernel
theorem dL_law_631 : decode cL_law 631 = .ok (.iadd, 1) := by decide +kernel
theorem dL_law_632 : decode cL_law 632 = .ok (.iaload, 1) := by decide +kernel
theorem dL_law_633 : decode cL_law 633 = .ok (.invokevirtual 73, 3) := by decide +kernel
theorem dL_law_636 : decode cL_law 636 = .ok (.if_icmp .eq 601, 3) := by decide +kernel
theorem dL_law_639 : decode cL_law 639 = .ok (.iconst 0, 1) := by decide +kernel
theorem dL_law_640 : decode cL_law 640 = .ok (.ireturn, 1) := by decide +kernel
theorem dL_law_641 : decode cL_law 641 = .ok (.aload_n 1, 1) := by decide +kernel
theorem dL_law_642 : decode cL_law 642 = .ok (.aload_n 0, 1) := by decide +kernel
theorem dL_law_643 : decode cL_law 643 = .ok (.iload_n 3, 1) := by decide +kernel
theorem dL_law_644 : decode cL_law 644 = .ok (.iconst 1, 1) := by decide +kernel
theorem dL_law_645 : decode cL_law 645 = .ok (.iadd, 1) := by decide +kernel
theorem dL_law_646 : decode cL_law 646 = .ok (.iaload, 1) := by decide +kernel
theorem dL_law_647 : decode cL_law 647 = .ok (.aload_n 0, 1) := by decide +kernel
theorem dL_law_648 : decode cL_law 648 = .ok (.iload_n 3, 1) := by decide +kernel
theorem dL_law_649 : decode cL_law 649 = .ok (.iconst 2, 1) := by decide +kernel
theorem dL_law_650 : decode cL_law 650 = .ok (.iadd, 1) := by decide +kernel
theorem dL_law_651 : decode cL_law 651 = .ok (.iaload, 1) := by decide +kernel
theorem dL_law_652 : decode cL_law 652 = .ok (.aload_n 0, 1) := by decide +kernel
theorem dL_law_653 : decode cL_law 653 = .ok (.iload_n 3, 1) := by decide +kernel
theorem dL_law_654 : decode cL_law 654 = .ok (.iconst 3, 1) := by decide +kernel
theorem dL_law_655 : decode cL_law 655 = .ok (.iadd, 1) := by decide +kernel
theorem dL_law_656 : decode cL_law 656 = .ok (.iaload, 1) := by decide +kernel
theorem dL_law_657 : decode cL_law 657 = .ok (.invokevirtual 74, 3) := by decide +kernel
theorem dL_law_660 : decode cL_law 660 = .ok (.aload_n 2, 1) := by decide +kernel
theorem dL_law_661 : decode cL_law 661 = .ok (.aload_n 0, 1) := by decide +kernel
theorem dL_law_662 : decode cL_law 662 = .ok (.iload_n 3, 1) := by decide +kernel
theorem dL_law_663 : decode cL_law 663 = .ok (.iconst 1, 1) := by decide +kernel
theorem dL_law_664 : decode cL_law 664 = .ok (.iadd, 1) := by decide +kernel
theorem dL_law_665 : decode cL_law 665 = .ok (.iaload, 1) := by decide +kernel
theorem dL_law_666 : decode cL_law 666 = .ok (.aload_n 0, 1) := by decide +kernel
theorem dL_law_667 : decode cL_law 667 = .ok (.iload_n 3, 1) := by decide +kernel
theorem dL_law_668 : decode cL_law 668 = .ok (.iconst 2, 1) := by decide +kernel
theorem dL_law_669 : decode cL_law 669 = .ok (.iadd, 1) := by decide +kernel
theorem dL_law_670 : decode cL_law 670 = .ok (.iaload, 1) := by decide +kernel
theorem dL_law_671 : decode cL_law 671 = .ok (.aload_n 0, 1) := by decide +kernel
theorem dL_law_672 : decode cL_law 672 = .ok (.iload_n 3, 1) := by decide +kernel
theorem dL_law_673 : decode cL_law 673 = .ok (.iconst 3, 1) := by decide +kernel
theorem dL_law_674 : decode cL_law 674 = .ok (.iadd, 1) := by decide +kernel
theorem dL_law_675 : decode cL_law 675 = .ok (.iaload, 1) := by decide +kernel
theorem dL_law_676 : decode cL_law 676 = .ok (.invokevirtual 77, 3) := by decide +kernel
theorem dL_law_679 : decode cL_law 679 = .ok (.if_icmp .eq 558, 3) := by decide +kernel
theorem dL_law_682 : decode cL_law 682 = .ok (.iconst 0, 1) := by decide +kernel
theorem dL_law_683 : decode cL_law 683 = .ok (.ireturn, 1) := by decide +kernel
theorem dL_law_684 : decode cL_law 684 = .ok (.aload_n 1, 1) := by decide +kernel
theorem dL_law_685 : decode cL_law 685 = .ok (.aload_n 0, 1) := by decide +kernel
theorem dL_law_686 : decode cL_law 686 = .ok (.iload_n 3, 1) := by decide +kernel
theorem dL_law_687 : decode cL_law 687 = .ok (.iconst 1, 1) := by decide +kernel
theorem dL_law_688 : decode cL_law 688 = .ok (.iadd, 1) := by decide +kernel
theorem dL_law_689 : decode cL_law 689 = .ok (.iaload, 1) := by decide +kernel
theorem dL_law_690 : decode cL_law 690 = .ok (.aload_n 0, 1) := by decide +kernel
theorem dL_law_691 : decode cL_law 691 = .ok (.iload_n 3, 1) := by decide +kernel
theorem dL_law_692 : decode cL_law 692 = .ok (.iconst 2, 1) := by decide +kernel
theorem dL_law_693 : decode cL_law 693 = .ok (.iadd, 1) := by decide +kernel
theorem dL_law_694 : decode cL_law 694 = .ok (.iaload, 1) := by decide +kernel
theorem dL_law_695 : decode cL_law 695 = .ok (.invokevirtual 78, 3) := by decide +kernel
theorem dL_law_698 : decode cL_law 698 = .ok (.aload_n 2, 1) := by decide +kernel
theorem dL_law_699 : decode cL_law 699 = .ok (.aload_n 0, 1) := by decide +kernel
theorem dL_law_700 : decode cL_law 700 = .ok (.iload_n 3, 1) := by decide +kernel
theorem dL_law_701 : decode cL_law 701 = .ok (.iconst 1, 1) := by decide +kernel
theorem dL_law_702 : decode cL_law 702 = .ok (.iadd, 1) := by decide +kernel
theorem dL_law_703 : decode cL_law 703 = .ok (.iaload, 1) := by decide +kernel
theorem dL_law_704 : decode cL_law 704 = .ok (.aload_n 0, 1) := by decide +kernel
theorem dL_law_705 : decode cL_law 705 = .ok (.iload_n 3, 1) := by decide +kernel
theorem dL_law_706 : decode cL_law 706 = .ok (.iconst 2, 1) := by decide +kernel
theorem dL_law_707 : decode cL_law 707 = .ok (.iadd, 1) := by decide +kernel
theorem dL_law_708 : decode cL_law 708 = .ok (.iaload, 1) := by decide +kernel
theorem dL_law_709 : decode cL_law 709 = .ok (.invokevirtual 81, 3) := by decide +kernel
theorem dL_law_712 : decode cL_law 712 = .ok (.if_icmp .eq 525, 3) := by decide +kernel
theorem dL_law_715 : decode cL_law 715 = .ok (.iconst 0, 1) := by decide +kernel
theorem dL_law_716 : decode cL_law 716 = .ok (.ireturn, 1) := by decide +kernel
theorem dL_law_717 : decode cL_law 717 = .ok (.aload_n 1, 1) := by decide +kernel
theorem dL_law_718 : decode cL_law 718 = .ok (.aload_n 0, 1) := by decide +kernel
theorem dL_law_719 : decode cL_law 719 = .ok (.iload_n 3, 1) := by decide +kernel
theorem dL_law_720 : decode cL_law 720 = .ok (.iconst 1, 1) := by decide +kernel
theorem dL_law_721 : decode cL_law 721 = .ok (.iadd, 1) := by decide +kernel
theorem dL_law_722 : decode cL_law 722 = .ok (.iaload, 1) := by decide +kernel
theorem dL_law_723 : decode cL_law 723 = .ok (.aload_n 0, 1) := by decide +kernel
theorem dL_law_724 : decode cL_law 724 = .ok (.iload_n 3, 1) := by decide +kernel
theorem dL_law_725 : decode cL_law 725 = .ok (.iconst 2, 1) := by decide +kernel
theorem dL_law_726 : decode cL_law 726 = .ok (.iadd, 1) := by decide +kernel
theorem dL_law_727 : decode cL_law 727 = .ok (.iaload, 1) := by decide +kernel
theorem dL_law_728 : decode cL_law 728 = .ok (.aload_n 0, 1) := by decide +kernel
theorem dL_law_729 : decode cL_law 729 = .ok (.iload_n 3, 1) := by decide +kernel
theorem dL_law_730 : decode cL_law 730 = .ok (.iconst 3, 1) := by decide +kernel
theorem dL_law_731 : decode cL_law 731 = .ok (.iadd, 1) := by decide +kernel
theorem dL_law_732 : decode cL_law 732 = .ok (.iaload, 1) := by decide +kernel
theorem dL_law_733 : decode cL_law 733 = .ok (.aload_n 0, 1) := by decide +kernel
theorem dL_law_734 : decode cL_law 734 = .ok (.iload_n 3, 1) := by decide +kernel
theorem dL_law_735 : decode cL_law 735 = .ok (.iconst 4, 1) := by decide +kernel
theorem dL_law_736 : decode cL_law 736 = .ok (.iadd, 1) := by decide +kernel
theorem dL_law_737 : decode cL_law 737 = .ok (.iaload, 1) := by decide +kernel
theorem dL_law_738 : decode cL_law 738 = .ok (.invokevirtual 82, 3) := by decide +kernel
theorem dL_law_741 : decode cL_law 741 = .ok (.aload_n 2, 1) := by decide +kernel
theorem dL_law_742 : decode cL_law 742 = .ok (.aload_n 0, 1) := by decide +kernel
theorem dL_law_743 : decode cL_law 743 = .ok (.iload_n 3, 1) := by decide +kernel
theorem dL_law_744 : decode cL_law 744 = .ok (.iconst 1, 1) := by decide +kernel
theorem dL_law_745 : decode cL_law 745 = .ok (.iadd, 1) := by decide +kernel
theorem dL_law_746 : decode cL_law 746 = .ok (.iaload, 1) := by decide +kernel
theorem dL_law_747 : decode cL_law 747 = .ok (.aload_n 0, 1) := by decide +kernel
theorem dL_law_748 : decode cL_law 748 = .ok (.iload_n 3, 1) := by decide +kernel
theorem dL_law_749 : decode cL_law 749 = .ok (.iconst 2, 1) := by decide +kernel
theorem dL_law_750 : decode cL_law 750 = .ok (.iadd, 1) := by decide +kernel
theorem dL_law_751 : decode cL_law 751 = .ok (.iaload, 1) := by decide +kernel
theorem dL_law_752 : decode cL_law 752 = .ok (.aload_n 0, 1) := by decide +kernel
theorem dL_law_753 : decode cL_law 753 = .ok (.iload_n 3, 1) := by decide +kernel
theorem dL_law_754 : decode cL_law 754 = .ok (.iconst 3, 1) := by decide +kernel
theorem dL_law_755 : decode cL_law 755 = .ok (.iadd, 1) := by decide +kernel
theorem dL_law_756 : decode cL_law 756 = .ok (.iaload, 1) := by decide +kernel
theorem dL_law_757 : decode cL_law 757 = .ok (.aload_n 0, 1) := by decide +kernel
theorem dL_law_758 : decode cL_law 758 = .ok (.iload_n 3, 1) := by decide +kernel
theorem dL_law_759 : decode cL_law 759 = .ok (.iconst 4, 1) := by decide +kernel
theorem dL_law_760 : decode cL_law 760 = .ok (.iadd, 1) := by decide +kernel
theorem dL_law_761 : decode cL_law 761 = .ok (.iaload, 1) := by decide +kernel
theorem dL_law_762 : decode cL_law 762 = .ok (.invokevirtual 86, 3) := by decide +kernel
theorem dL_law_765 : decode cL_law 765 = .ok (.if_icmp .eq 472, 3) := by decide +kernel
theorem dL_law_768 : decode cL_law 768 = .ok (.iconst 0, 1) := by decide +kernel
theorem dL_law_769 : decode cL_law 769 = .ok (.ireturn, 1) := by decide +kernel
theorem dL_law_770 : decode cL_law 770 = .ok (.aload_n 1, 1) := by decide +kernel
theorem dL_law_771 : decode cL_law 771 = .ok (.aload_n 0, 1) := by decide +kernel
theorem dL_law_772 : decode cL_law 772 = .ok (.iload_n 3, 1) := by decide +kernel
theorem dL_law_773 : decode cL_law 773 = .ok (.iconst 1, 1) := by decide +kernel
theorem dL_law_774 : decode cL_law 774 = .ok (.iadd, 1) := by decide +kernel
theorem dL_law_775 : decode cL_law 775 = .ok (.iaload, 1) := by decide +kernel
theorem dL_law_776 : decode cL_law 776 = .ok (.aload_n 0, 1) := by decide +kernel
theorem dL_law_777 : decode cL_law 777 = .ok (.iload_n 3, 1) := by decide +kernel
theorem dL_law_778 : decode cL_law 778 = .ok (.iconst 2, 1) := by decide +kernel
theorem dL_law_779 : decode cL_law 779 = .ok (.iadd, 1) := by decide +kernel
theorem dL_law_780 : decode cL_law 780 = .ok (.iaload, 1) := by decide +kernel
theorem dL_law_781 : decode cL_law 781 = .ok (.aload_n 0, 1) := by decide +kernel
theorem dL_law_782 : decode cL_law 782 = .ok (.iload_n 3, 1) := by decide +kernel
theorem dL_law_783 : decode cL_law 783 = .ok (.iconst 3, 1) := by decide +kernel
theorem dL_law_784 : decode cL_law 784 = .ok (.iadd, 1) := by decide +kernel
theorem dL_law_785 : decode cL_law 785 = .ok (.iaload, 1) := by decide +kernel
theorem dL_law_786 : decode cL_law 786 = .ok (.aload_n 0, 1) := by decide +kernel
theorem dL_law_787 : decode cL_law 787 = .ok (.iload_n 3, 1) := by decide +kernel
theorem dL_law_788 : decode cL_law 788 = .ok (.iconst 4, 1) := by decide +kernel
theorem dL_law_789 : decode cL_law 789 = .ok (.iadd, 1) := by decide +kernel
theorem dL_law_790 : decode cL_law 790 = .ok (.iaload, 1) := by decide +kernel
theorem dL_law_791 : decode cL_law 791 = .ok (.invokevirtual 87, 3) := by decide +kernel
theorem dL_law_794 : decode cL_law 794 = .ok (.aload_n 2, 1) := by decide +kernel
theorem dL_law_795 : decode cL_law 795 = .ok (.aload_n 0, 1) := by decide +kernel
theorem dL_law_796 : decode cL_law 796 = .ok (.iload_n 3, 1) := by decide +kernel
theorem dL_law_797 : decode cL_law 797 = .ok (.iconst 1, 1) := by decide +kernel
theorem dL_law_798 : decode cL_law 798 = .ok (.iadd, 1) := by decide +kernel
theorem dL_law_799 : decode cL_law 799 = .ok (.iaload, 1) := by decide +kernel
theorem dL_law_800 : decode cL_law 800 = .ok (.aload_n 0, 1) := by decide +kernel
theorem dL_law_801 : decode cL_law 801 = .ok (.iload_n 3, 1) := by decide +kernel
theorem dL_law_802 : decode cL_law 802 = .ok (.iconst 2, 1) := by decide +kernel
theorem dL_law_803 : decode cL_law 803 = .ok (.iadd, 1) := by decide +kernel
theorem dL_law_804 : decode cL_law 804 = .ok (.iaload, 1) := by decide +kernel
theorem dL_law_805 : decode cL_law 805 = .ok (.aload_n 0, 1) := by decide +kernel
theorem dL_law_806 : decode cL_law 806 = .ok (.iload_n 3, 1) := by decide +kernel
theorem dL_law_807 : decode cL_law 807 = .ok (.iconst 3, 1) := by decide +kernel
theorem dL_law_808 : decode cL_law 808 = .ok (.iadd, 1) := by decide +kernel
theorem dL_law_809 : decode cL_law 809 = .ok (.iaload, 1) := by decide +kernel
theorem dL_law_810 : decode cL_law 810 = .ok (.aload_n 0, 1) := by decide +kernel
theorem dL_law_811 : decode cL_law 811 = .ok (.iload_n 3, 1) := by decide +kernel
theorem dL_law_812 : decode cL_law 812 = .ok (.iconst 4, 1) := by decide +kernel
theorem dL_law_813 : decode cL_law 813 = .ok (.iadd, 1) := by decide +kernel
theorem dL_law_814 : decode cL_law 814 = .ok (.iaload, 1) := by decide +kernel
theorem dL_law_815 : decode cL_law 815 = .ok (.invokevirtual 90, 3) := by decide +kernel
theorem dL_law_818 : decode cL_law 818 = .ok (.if_icmp .eq 419, 3) := by decide +kernel
theorem dL_law_821 : decode cL_law 821 = .ok (.iconst 0, 1) := by decide +kernel
theorem dL_law_822 : decode cL_law 822 = .ok (.ireturn, 1) := by decide +kernel
theorem dL_law_823 : decode cL_law 823 = .ok (.aload_n 1, 1) := by decide +kernel
theorem dL_law_824 : decode cL_law 824 = .ok (.aload_n 0, 1) := by decide +kernel
theorem dL_law_825 : decode cL_law 825 = .ok (.iload_n 3, 1) := by decide +kernel
theorem dL_law_826 : decode cL_law 826 = .ok (.iconst 1, 1) := by decide +kernel
theorem dL_law_827 : decode cL_law 827 = .ok (.iadd, 1) := by decide +kernel
theorem dL_law_828 : decode cL_law 828 = .ok (.iaload, 1) := by decide +kernel
theorem dL_law_829 : decode cL_law 829 = .ok (.aload_n 0, 1) := by decide +kernel
theorem dL_law_830 : decode cL_law 830 = .ok (.iload_n 3, 1) := by decide +kernel
theorem dL_law_831 : decode cL_law 831 = .ok (.iconst 2, 1) := by decide +kernel
theorem dL_law_832 : decode cL_law 832 = .ok (.iadd, 1) := by decide +kernel
theorem dL_law_833 : decode cL_law 833 = .ok (.iaload, 1) := by decide +kernel
theorem dL_law_834 : decode cL_law 834 = .ok (.aload_n 0, 1) := by decide +kernel
theorem dL_law_835 : decode cL_law 835 = .ok (.iload_n 3, 1) := by decide +kernel
theorem dL_law_836 : decode cL_law 836 = .ok (.iconst 3, 1) := by decide +kernel
theorem dL_law_837 : decode cL_law 837 = .ok (.iadd, 1) := by decide +kernel
theorem dL_law_838 : decode cL_law 838 = .ok (.iaload, 1) := by decide +kernel
theorem dL_law_839 : decode cL_law 839 = .ok (.invokevirtual 91, 3) := by decide +kernel
theorem dL_law_842 : decode cL_law 842 = .ok (.aload_n 2, 1) := by decide +kernel
theorem dL_law_843 : decode cL_law 843 = .ok (.aload_n 0, 1) := by decide +kernel
theorem dL_law_844 : decode cL_law 844 = .ok (.iload_n 3, 1) := by decide +kernel
theorem dL_law_845 : decode cL_law 845 = .ok (.iconst 1, 1) := by decide +kernel
theorem dL_law_846 : decode cL_law 846 = .ok (.iadd, 1) := by decide +kernel
theorem dL_law_847 : decode cL_law 847 = .ok (.iaload, 1) := by decide +kernel
theorem dL_law_848 : decode cL_law 848 = .ok (.aload_n 0, 1) := by decide +kernel
theorem dL_law_849 : decode cL_law 849 = .ok (.iload_n 3, 1) := by decide +kernel
theorem dL_law_850 : decode cL_law 850 = .ok (.iconst 2, 1) := by decide +kernel
theorem dL_law_851 : decode cL_law 851 = .ok (.iadd, 1) := by decide +kernel
theorem dL_law_852 : decode cL_law 852 = .ok (.iaload, 1) := by decide +kernel
theorem dL_law_853 : decode cL_law 853 = .ok (.aload_n 0, 1) := by decide +kernel
theorem dL_law_854 : decode cL_law 854 = .ok (.iload_n 3, 1) := by decide +kernel
theorem dL_law_855 : decode cL_law 855 = .ok (.iconst 3, 1) := by decide +kernel
theorem dL_law_856 : decode cL_law 856 = .ok (.iadd, 1) := by decide +kernel
theorem dL_law_857 : decode cL_law 857 = .ok (.iaload, 1) := by decide +kernel
theorem dL_law_858 : decode cL_law 858 = .ok (.invokevirtual 94, 3) := by decide +kernel
theorem dL_law_861 : decode cL_law 861 = .ok (.if_icmp .eq 376, 3) := by decide +kernel
theorem dL_law_864 : decode cL_law 864 = .ok (.iconst 0, 1) := by decide +kernel
theorem dL_law_865 : decode cL_law 865 = .ok (.ireturn, 1) := by decide +kernel
theorem dL_law_866 : decode cL_law 866 = .ok (.aload_n 1, 1) := by decide +kernel
theorem dL_law_867 : decode cL_law 867 = .ok (.aload_n 0, 1) := by decide +kernel
theorem dL_law_868 : decode cL_law 868 = .ok (.iload_n 3, 1) := by decide +kernel
theorem dL_law_869 : decode cL_law 869 = .ok (.iconst 1, 1) := by decide +kernel
theorem dL_law_870 : decode cL_law 870 = .ok (.iadd, 1) := by decide +kernel
theorem dL_law_871 : decode cL_law 871 = .ok (.iaload, 1) := by decide +kernel
theorem dL_law_872 : decode cL_law 872 = .ok (.invokevirtual 95, 3) := by decide +kernel
theorem dL_law_875 : decode cL_law 875 = .ok (.aload_n 2, 1) := by decide +kernel
theorem dL_law_876 : decode cL_law 876 = .ok (.aload_n 0, 1) := by decide +kernel
theorem dL_law_877 : decode cL_law 877 = .ok (.iload_n 3, 1) := by decide +kernel
theorem dL_law_878 : decode cL_law 878 = .ok (.iconst 1, 1) := by decide +kernel
theorem dL_law_879 : decode cL_law 879 = .ok (.iadd, 1) := by decide +kernel
theorem dL_law_880 : decode cL_law 880 = .ok (.iaload, 1) := by decide +kernel
theorem dL_law_881 : decode cL_law 881 = .ok (.invokevirtual 98, 3) := by decide +kernel
theorem dL_law_884 : decode cL_law 884 = .ok (.if_icmp .eq 353, 3) := by decide +kernel
theorem dL_law_887 : decode cL_law 887 = .ok (.iconst 0, 1) := by decide +kernel
theorem dL_law_888 : decode cL_law 888 = .ok (.ireturn, 1) := by decide +kernel
theorem dL_law_889 : decode cL_law 889 = .ok (.aload_n 1, 1) := by decide +kernel
theorem dL_law_890 : decode cL_law 890 = .ok (.aload_n 0, 1) := by decide +kernel
theorem dL_law_891 : decode cL_law 891 = .ok (.iload_n 3, 1) := by decide +kernel
theorem dL_law_892 : decode cL_law 892 = .ok (.iconst 1, 1) := by decide +kernel
theorem dL_law_893 : decode cL_law 893 = .ok (.iadd, 1) := by decide +kernel
theorem dL_law_894 : decode cL_law 894 = .ok (.iaload, 1) := by decide +kernel
theorem dL_law_895 : decode cL_law 895 = .ok (.aload_n 0, 1) := by decide +kernel
theorem dL_law_896 : decode cL_law 896 = .ok (.iload_n 3, 1) := by decide +kernel
theorem dL_law_897 : decode cL_law 897 = .ok (.iconst 2, 1) := by decide +kernel
theorem dL_law_898 : decode cL_law 898 = .ok (.iadd, 1) := by decide +kernel
theorem dL_law_899 : decode cL_law 899 = .ok (.iaload, 1) := by decide +kernel
theorem dL_law_900 : decode cL_law 900 = .ok (.aload_n 0, 1) := by decide +kernel
theorem dL_law_901 : decode cL_law 901 = .ok (.iload_n 3, 1) := by decide +kernel
theorem dL_law_902 : decode cL_law 902 = .ok (.iconst 3, 1) := by decide +kernel
theorem dL_law_903 : decode cL_law 903 = .ok (.iadd, 1) := by decide +kernel
theorem dL_law_904 : decode cL_law 904 = .ok (.iaload, 1) := by decide +kernel
theorem dL_law_905 : decode cL_law 905 = .ok (.invokevirtual 99, 3) := by decide +kernel
theorem dL_law_908 : decode cL_law 908 = .ok (.aload_n 2, 1) := by decide +kernel
theorem dL_law_909 : decode cL_law 909 = .ok (.aload_n 0, 1) := by decide +kernel
theorem dL_law_910 : decode cL_law 910 = .ok (.iload_n 3, 1) := by decide +kernel
theorem dL_law_911 : decode cL_law 911 = .ok (.iconst 1, 1) := by decide +kernel
theorem dL_law_912 : decode cL_law 912 = .ok (.iadd, 1) := by decide +kernel
theorem dL_law_913 : decode cL_law 913 = .ok (.iaload, 1) := by decide +kernel
theorem dL_law_914 : decode cL_law 914 = .ok (.aload_n 0, 1) := by decide +kernel
theorem dL_law_915 : decode cL_law 915 = .ok (.iload_n 3, 1) := by decide +kernel
theorem dL_law_916 : decode cL_law 916 = .ok (.iconst 2, 1) := by decide +kernel
theorem dL_law_917 : decode cL_law 917 = .ok (.iadd, 1) := by decide +kernel
theorem dL_law_918 : decode cL_law 918 = .ok (.iaload, 1) := by decide +kernel
theorem dL_law_919 : decode cL_law 919 = .ok (.aload_n 0, 1) := by decide +kernel
theorem dL_law_920 : decode cL_law 920 = .ok (.iload_n 3, 1) := by decide +kernel
theorem dL_law_921 : decode cL_law 921 = .ok (.iconst 3, 1) := by decide +kernel
theorem dL_law_922 : decode cL_law 922 = .ok (.iadd, 1) := by decide +kernel
theorem dL_law_923 : decode cL_law 923 = .ok (.iaload, 1) := by decide +kernel
theorem dL_law_924 : decode cL_law 924 = .ok (.invokevirtual 102, 3) := by decide +kernel
theorem dL_law_927 : decode cL_law 927 = .ok (.if_icmp .eq 310, 3) := by decide +kernel
theorem dL_law_930 : decode cL_law 930 = .ok (.iconst 0, 1) := by decide +kernel
theorem dL_law_931 : decode cL_law 931 = .ok (.ireturn, 1) := by decide +kernel
theorem dL_law_932 : decode cL_law 932 = .ok (.aload_n 1, 1) := by decide +kernel
theorem dL_law_933 : decode cL_law 933 = .ok (.aload_n 0, 1) := by decide +kernel
theorem dL_law_934 : decode cL_law 934 = .ok (.iload_n 3, 1) := by decide +kernel
theorem dL_law_935 : decode cL_law 935 = .ok (.iconst 1, 1) := by decide +kernel
theorem dL_law_936 : decode cL_law 936 = .ok (.iadd, 1) := by decide +kernel
theorem dL_law_937 : decode cL_law 937 = .ok (.iaload, 1) := by decide +kernel
theorem dL_law_938 : decode cL_law 938 = .ok (.aload_n 0, 1) := by decide +kernel
theorem dL_law_939 : decode cL_law 939 = .ok (.iload_n 3, 1) := by decide +kernel
theorem dL_law_940 : decode cL_law 940 = .ok (.iconst 2, 1) := by decide +kernel
theorem dL_law_941 : decode cL_law 941 = .ok (.iadd, 1) := by decide +kernel
theorem dL_law_942 : decode cL_law 942 = .ok (.iaload, 1) := by decide +kernel
theorem dL_law_943 : decode cL_law 943 = .ok (.aload_n 0, 1) := by decide +kernel
theorem dL_law_944 : decode cL_law 944 = .ok (.iload_n 3, 1) := by decide +kernel
theorem dL_law_945 : decode cL_law 945 = .ok (.iconst 3, 1) := by decide +kernel
theorem dL_law_946 : decode cL_law 946 = .ok (.iadd, 1) := by decide +kernel
theorem dL_law_947 : decode cL_law 947 = .ok (.iaload, 1) := by decide +kernel
theorem dL_law_948 : decode cL_law 948 = .ok (.invokevirtual 103, 3) := by decide +kernel
theorem dL_law_951 : decode cL_law 951 = .ok (.aload_n 2, 1) := by decide +kernel
theorem dL_law_952 : decode cL_law 952 = .ok (.aload_n 0, 1) := by decide +kernel
theorem dL_law_953 : decode cL_law 953 = .ok (.iload_n 3, 1) := by decide +kernel
theorem dL_law_954 : decode cL_law 954 = .ok (.iconst 1, 1) := by decide +kernel
theorem dL_law_955 : decode cL_law 955 = .ok (.iadd, 1) := by decide +kernel
theorem dL_law_956 : decode cL_law 956 = .ok (.iaload, 1) := by decide +kernel
theorem dL_law_957 : decode cL_law 957 = .ok (.aload_n 0, 1) := by decide +kernel
theorem dL_law_958 : decode cL_law 958 = .ok (.iload_n 3, 1) := by decide +kernel
theorem dL_law_959 : decode cL_law 959 = .ok (.iconst 2, 1) := by decide +kernel
theorem dL_law_960 : decode cL_law 960 = .ok (.iadd, 1) := by decide +kernel
theorem dL_law_961 : decode cL_law 961 = .ok (.iaload, 1) := by decide +kernel
theorem dL_law_962 : decode cL_law 962 = .ok (.aload_n 0, 1) := by decide +kernel
theorem dL_law_963 : decode cL_law 963 = .ok (.iload_n 3, 1) := by decide +kernel
theorem dL_law_964 : decode cL_law 964 = .ok (.iconst 3, 1) := by decide +kernel
theorem dL_law_965 : decode cL_law 965 = .ok (.iadd, 1) := by decide +kernel
theorem dL_law_966 : decode cL_law 966 = .ok (.iaload, 1) := by decide +kernel
theorem dL_law_967 : decode cL_law 967 = .ok (.invokevirtual 106, 3) := by decide +kernel
theorem dL_law_970 : decode cL_law 970 = .ok (.if_icmp .eq 267, 3) := by decide +kernel
theorem dL_law_973 : decode cL_law 973 = .ok (.iconst 0, 1) := by decide +kernel
theorem dL_law_974 : decode cL_law 974 = .ok (.ireturn, 1) := by decide +kernel
theorem dL_law_975 : decode cL_law 975 = .ok (.aload_n 1, 1) := by decide +kernel
theorem dL_law_976 : decode cL_law 976 = .ok (.aload_n 0, 1) := by decide +kernel
theorem dL_law_977 : decode cL_law 977 = .ok (.iload_n 3, 1) := by decide +kernel
theorem dL_law_978 : decode cL_law 978 = .ok (.iconst 1, 1) := by decide +kernel
theorem dL_law_979 : decode cL_law 979 = .ok (.iadd, 1) := by decide +kernel
theorem dL_law_980 : decode cL_law 980 = .ok (.iaload, 1) := by decide +kernel
theorem dL_law_981 : decode cL_law 981 = .ok (.aload_n 0, 1) := by decide +kernel
theorem dL_law_982 : decode cL_law 982 = .ok (.iload_n 3, 1) := by decide +kernel
theorem dL_law_983 : decode cL_law 983 = .ok (.iconst 2, 1) := by decide +kernel
theorem dL_law_984 : decode cL_law 984 = .ok (.iadd, 1) := by decide +kernel
theorem dL_law_985 : decode cL_law 985 = .ok (.iaload, 1) := by decide +kernel
theorem dL_law_986 : decode cL_law 986 = .ok (.aload_n 0, 1) := by decide +kernel
theorem dL_law_987 : decode cL_law 987 = .ok (.iload_n 3, 1) := by decide +kernel
theorem dL_law_988 : decode cL_law 988 = .ok (.iconst 3, 1) := by decide +kernel
theorem dL_law_989 : decode cL_law 989 = .ok (.iadd, 1) := by decide +kernel
theorem dL_law_990 : decode cL_law 990 = .ok (.iaload, 1) := by decide +kernel
theorem dL_law_991 : decode cL_law 991 = .ok (.aload_n 0, 1) := by decide +kernel
theorem dL_law_992 : decode cL_law 992 = .ok (.iload_n 3, 1) := by decide +kernel
theorem dL_law_993 : decode cL_law 993 = .ok (.iconst 4, 1) := by decide +kernel
theorem dL_law_994 : decode cL_law 994 = .ok (.iadd, 1) := by decide +kernel
theorem dL_law_995 : decode cL_law 995 = .ok (.iaload, 1) := by decide +kernel
theorem dL_law_996 : decode cL_law 996 = .ok (.invokevirtual 107, 3) := by decide +kernel
theorem dL_law_999 : decode cL_law 999 = .ok (.aload_n 2, 1) := by decide +kernel
theorem dL_law_1000 : decode cL_law 1000 = .ok (.aload_n 0, 1) := by decide +kernel
theorem dL_law_1001 : decode cL_law 1001 = .ok (.iload_n 3, 1) := by decide +kernel
theorem dL_law_1002 : decode cL_law 1002 = .ok (.iconst 1, 1) := by decide +kernel
theorem dL_law_1003 : decode cL_law 1003 = .ok (.iadd, 1) := by decide +kernel
theorem dL_law_1004 : decode cL_law 1004 = .ok (.iaload, 1) := by decide +kernel
theorem dL_law_1005 : decode cL_law 1005 = .ok (.aload_n 0, 1) := by decide +kernel
theorem dL_law_1006 : decode cL_law 1006 = .ok (.iload_n 3, 1) := by decide +kernel
theorem dL_law_1007 : decode cL_law 1007 = .ok (.iconst 2, 1) := by decide +kernel
theorem dL_law_1008 : decode cL_law 1008 = .ok (.iadd, 1) := by decide +kernel
theorem dL_law_1009 : decode cL_law 1009 = .ok (.iaload, 1) := by decide +kernel
theorem dL_law_1010 : decode cL_law 1010 = .ok (.aload_n 0, 1) := by decide +kernel
theorem dL_law_1011 : decode cL_law 1011 = .ok (.iload_n 3, 1) := by decide +kernel
theorem dL_law_1012 : decode cL_law 1012 = .ok (.iconst 3, 1) := by decide +kernel
theorem dL_law_1013 : decode cL_law 1013 = .ok (.iadd, 1) := by decide +kernel
theorem dL_law_1014 : decode cL_law 1014 = .ok (.iaload, 1) := by decide +kernel
theorem dL_law_1015 : decode cL_law 1015 = .ok (.aload_n 0, 1) := by decide +kernel
theorem dL_law_1016 : decode cL_law 1016 = .ok (.iload_n 3, 1) := by decide +kernel
theorem dL_law_1017 : decode cL_law 1017 = .ok (.iconst 4, 1) := by decide +kernel
theorem dL_law_1018 : decode cL_law 1018 = .ok (.iadd, 1) := by decide +kernel
theorem dL_law_1019 : decode cL_law 1019 = .ok (.iaload, 1) := by decide +kernel
theorem dL_law_1020 : decode cL_law 1020 = .ok (.invokevirtual 110, 3) := by decide +kernel
theorem dL_law_1023 : decode cL_law 1023 = .ok (.if_icmp .eq 214, 3) := by decide +kernel
theorem dL_law_1026 : decode cL_law 1026 = .ok (.iconst 0, 1) := by decide +kernel
theorem dL_law_1027 : decode cL_law 1027 = .ok (.ireturn, 1) := by decide +kernel
theorem dL_law_1028 : decode cL_law 1028 = .ok (.aload_n 1, 1) := by decide +kernel
theorem dL_law_1029 : decode cL_law 1029 = .ok (.aload_n 0, 1) := by decide +kernel
theorem dL_law_1030 : decode cL_law 1030 = .ok (.iload_n 3, 1) := by decide +kernel
theorem dL_law_1031 : decode cL_law 1031 = .ok (.iconst 1, 1) := by decide +kernel
theorem dL_law_1032 : decode cL_law 1032 = .ok (.iadd, 1) := by decide +kernel
theorem dL_law_1033 : decode cL_law 1033 = .ok (.iaload, 1) := by decide +kernel
theorem dL_law_1034 : decode cL_law 1034 = .ok (.aload_n 0, 1) := by decide +kernel
theorem dL_law_1035 : decode cL_law 1035 = .ok (.iload_n 3, 1) := by decide +kernel
theorem dL_law_1036 : decode cL_law 1036 = .ok (.iconst 2, 1) := by decide +kernel
theorem dL_law_1037 : decode cL_law 1037 = .ok (.iadd, 1) := by decide +kernel
theorem dL_law_1038 : decode cL_law 1038 = .ok (.iaload, 1) := by decide +kernel
theorem dL_law_1039 : decode cL_law 1039 = .ok (.aload_n 0, 1) := by decide +kernel
theorem dL_law_1040 : decode cL_law 1040 = .ok (.iload_n 3, 1) := by decide +kernel
theorem dL_law_1041 : decode cL_law 1041 = .ok (.iconst 3, 1) := by decide +kernel
theorem dL_law_1042 : decode cL_law 1042 = .ok (.iadd, 1) := by decide +kernel
theorem dL_law_1043 : decode cL_law 1043 = .ok (.iaload, 1) := by decide +kernel
theorem dL_law_1044 : decode cL_law 1044 = .ok (.invokevirtual 111, 3) := by decide +kernel
theorem dL_law_1047 : decode cL_law 1047 = .ok (.aload_n 2, 1) := by decide +kernel
theorem dL_law_1048 : decode cL_law 1048 = .ok (.aload_n 0, 1) := by decide +kernel
theorem dL_law_1049 : decode cL_law 1049 = .ok (.iload_n 3, 1) := by decide +kernel
theorem dL_law_1050 : decode cL_law 1050 = .ok (.iconst 1, 1) := by decide +kernel
theorem dL_law_1051 : decode cL_law 1051 = .ok (.iadd, 1) := by decide +kernel
theorem dL_law_1052 : decode cL_law 1052 = .ok (.iaload, 1) := by decide +kernel
theorem dL_law_1053 : decode cL_law 1053 = .ok (.aload_n 0, 1) := by decide +kernel
theorem dL_law_1054 : decode cL_law 1054 = .ok (.iload_n 3, 1) := by decide +kernel
theorem dL_law_1055 : decode cL_law 1055 = .ok (.iconst 2, 1) := by decide +kernel
theorem dL_law_1056 : decode cL_law 1056 = .ok (.iadd, 1) := by decide +kernel
theorem dL_law_1057 : decode cL_law 1057 = .ok (.iaload, 1) := by decide +kernel
theorem dL_law_1058 : decode cL_law 1058 = .ok (.aload_n 0, 1) := by decide +kernel
theorem dL_law_1059 : decode cL_law 1059 = .ok (.iload_n 3, 1) := by decide +kernel
theorem dL_law_1060 : decode cL_law 1060 = .ok (.iconst 3, 1) := by decide +kernel
theorem dL_law_1061 : decode cL_law 1061 = .ok (.iadd, 1) := by decide +kernel
theorem dL_law_1062 : decode cL_law 1062 = .ok (.iaload, 1) := by decide +kernel
theorem dL_law_1063 : decode cL_law 1063 = .ok (.invokevirtual 114, 3) := by decide +kernel
theorem dL_law_1066 : decode cL_law 1066 = .ok (.if_icmp .eq 171, 3) := by decide +kernel
theorem dL_law_1069 : decode cL_law 1069 = .ok (.iconst 0, 1) := by decide +kernel
theorem dL_law_1070 : decode cL_law 1070 = .ok (.ireturn, 1) := by decide +kernel
theorem dL_law_1071 : decode cL_law 1071 = .ok (.aload_n 1, 1) := by decide +kernel
theorem dL_law_1072 : decode cL_law 1072 = .ok (.invokevirtual 115, 3) := by decide +kernel
theorem dL_law_1075 : decode cL_law 1075 = .ok (.aload_n 2, 1) := by decide +kernel
theorem dL_law_1076 : decode cL_law 1076 = .ok (.invokevirtual 118, 3) := by decide +kernel
theorem dL_law_1079 : decode cL_law 1079 = .ok (.if_icmp .eq 158, 3) := by decide +kernel
theorem dL_law_1082 : decode cL_law 1082 = .ok (.iconst 0, 1) := by decide +kernel
theorem dL_law_1083 : decode cL_law 1083 = .ok (.ireturn, 1) := by decide +kernel
theorem dL_law_1084 : decode cL_law 1084 = .ok (.aload_n 1, 1) := by decide +kernel
theorem dL_law_1085 : decode cL_law 1085 = .ok (.aload_n 0, 1) := by decide +kernel
theorem dL_law_1086 : decode cL_law 1086 = .ok (.iload_n 3, 1) := by decide +kernel
theorem dL_law_1087 : decode cL_law 1087 = .ok (.iconst 1, 1) := by decide +kernel
theorem dL_law_1088 : decode cL_law 1088 = .ok (.iadd, 1) := by decide +kernel
theorem dL_law_1089 : decode cL_law 1089 = .ok (.iaload, 1) := by decide +kernel
theorem dL_law_1090 : decode cL_law 1090 = .ok (.aload_n 0, 1) := by decide +kernel
theorem dL_law_1091 : decode cL_law 1091 = .ok (.iload_n 3, 1) := by decide +kernel
theorem dL_law_1092 : decode cL_law 1092 = .ok (.iconst 2, 1) := by decide +kernel
theorem dL_law_1093 : decode cL_law 1093 = .ok (.iadd, 1) := by decide +kernel
theorem dL_law_1094 : decode cL_law 1094 = .ok (.iaload, 1) := by decide +kernel
theorem dL_law_1095 : decode cL_law 1095 = .ok (.aload_n 0, 1) := by decide +kernel
theorem dL_law_1096 : decode cL_law 1096 = .ok (.iload_n 3, 1) := by decide +kernel
theorem dL_law_1097 : decode cL_law 1097 = .ok (.iconst 3, 1) := by decide +kernel
theorem dL_law_1098 : decode cL_law 1098 = .ok (.iadd, 1) := by decide +kernel
theorem dL_law_1099 : decode cL_law 1099 = .ok (.iaload, 1) := by decide +kernel
theorem dL_law_1100 : decode cL_law 1100 = .ok (.invokevirtual 119, 3) := by decide +kernel
theorem dL_law_1103 : decode cL_law 1103 = .ok (.aload_n 2, 1) := by decide +kernel
theorem dL_law_1104 : decode cL_law 1104 = .ok (.aload_n 0, 1) := by decide +kernel
theorem dL_law_1105 : decode cL_law 1105 = .ok (.iload_n 3, 1) := by decide +kernel
theorem dL_law_1106 : decode cL_law 1106 = .ok (.iconst 1, 1) := by decide +kernel
theorem dL_law_1107 : decode cL_law 1107 = .ok (.iadd, 1) := by decide +kernel
theorem dL_law_1108 : decode cL_law 1108 = .ok (.iaload, 1) := by decide +kernel
theorem dL_law_1109 : decode cL_law 1109 = .ok (.aload_n 0, 1) := by decide +kernel
theorem dL_law_1110 : decode cL_law 1110 = .ok (.iload_n 3, 1) := by decide +kernel
theorem dL_law_1111 : decode cL_law 1111 = .ok (.iconst 2, 1) := by decide +kernel
theorem dL_law_1112 : decode cL_law 1112 = .ok (.iadd, 1) := by decide +kernel
theorem dL_law_1113 : decode cL_law 1113 = .ok (.iaload, 1) := by decide +kernel
theorem dL_law_1114 : decode cL_law 1114 = .ok (.aload_n 0, 1) := by decide +kernel
theorem dL_law_1115 : decode cL_law 1115 = .ok (.iload_n 3, 1) := by decide +kernel
theorem dL_law_1116 : decode cL_law 1116 = .ok (.iconst 3, 1) := by decide +kernel
theorem dL_law_1117 : decode cL_law 1117 = .ok (.iadd, 1) := by decide +kernel
theorem dL_law_1118 : decode cL_law 1118 = .ok (.iaload, 1) := by decide +kernel
theorem dL_law_1119 : decode cL_law 1119 = .ok (.invokevirtual 123, 3) := by decide +kernel
theorem dL_law_1122 : decode cL_law 1122 = .ok (.lcmp, 1) := by decide +kernel
theorem dL_law_1123 : decode cL_law 1123 = .ok (.ifCond .eq 114, 3) := by decide +kernel
theorem dL_law_1126 : decode cL_law 1126 = .ok (.iconst 0, 1) := by decide +kernel
theorem dL_law_1127 : decode cL_law 1127 = .ok (.ireturn, 1) := by decide +kernel
theorem dL_law_1128 : decode cL_law 1128 = .ok (.aload_n 1, 1) := by decide +kernel
theorem dL_law_1129 : decode cL_law 1129 = .ok (.aload_n 0, 1) := by decide +kernel
theorem dL_law_1130 : decode cL_law 1130 = .ok (.iload_n 3, 1) := by decide +kernel
theorem dL_law_1131 : decode cL_law 1131 = .ok (.iconst 1, 1) := by decide +kernel
theorem dL_law_1132 : decode cL_law 1132 = .ok (.iadd, 1) := by decide +kernel
theorem dL_law_1133 : decode cL_law 1133 = .ok (.iaload, 1) := by decide +kernel
theorem dL_law_1134 : decode cL_law 1134 = .ok (.aload_n 0, 1) := by decide +kernel
theorem dL_law_1135 : decode cL_law 1135 = .ok (.iload_n 3, 1) := by decide +kernel
theorem dL_law_1136 : decode cL_law 1136 = .ok (.iconst 2, 1) := by decide +kernel
theorem dL_law_1137 : decode cL_law 1137 = .ok (.iadd, 1) := by decide +kernel
theorem dL_law_1138 : decode cL_law 1138 = .ok (.iaload, 1) := by decide +kernel
theorem dL_law_1139 : decode cL_law 1139 = .ok (.aload_n 0, 1) := by decide +kernel
theorem dL_law_1140 : decode cL_law 1140 = .ok (.iload_n 3, 1) := by decide +kernel
theorem dL_law_1141 : decode cL_law 1141 = .ok (.iconst 3, 1) := by decide +kernel
theorem dL_law_1142 : decode cL_law 1142 = .ok (.iadd, 1) := by decide +kernel
theorem dL_law_1143 : decode cL_law 1143 = .ok (.iaload, 1) := by decide +kernel
theorem dL_law_1144 : decode cL_law 1144 = .ok (.aload_n 0, 1) := by decide +kernel
theorem dL_law_1145 : decode cL_law 1145 = .ok (.iload_n 3, 1) := by decide +kernel
theorem dL_law_1146 : decode cL_law 1146 = .ok (.iconst 4, 1) := by decide +kernel
theorem dL_law_1147 : decode cL_law 1147 = .ok (.iadd, 1) := by decide +kernel
theorem dL_law_1148 : decode cL_law 1148 = .ok (.iaload, 1) := by decide +kernel
theorem dL_law_1149 : decode cL_law 1149 = .ok (.invokevirtual 124, 3) := by decide +kernel
theorem dL_law_1152 : decode cL_law 1152 = .ok (.aload_n 2, 1) := by decide +kernel
theorem dL_law_1153 : decode cL_law 1153 = .ok (.aload_n 0, 1) := by decide +kernel
theorem dL_law_1154 : decode cL_law 1154 = .ok (.iload_n 3, 1) := by decide +kernel
theorem dL_law_1155 : decode cL_law 1155 = .ok (.iconst 1, 1) := by decide +kernel
theorem dL_law_1156 : decode cL_law 1156 = .ok (.iadd, 1) := by decide +kernel
theorem dL_law_1157 : decode cL_law 1157 = .ok (.iaload, 1) := by decide +kernel
theorem dL_law_1158 : decode cL_law 1158 = .ok (.aload_n 0, 1) := by decide +kernel
theorem dL_law_1159 : decode cL_law 1159 = .ok (.iload_n 3, 1) := by decide +kernel
theorem dL_law_1160 : decode cL_law 1160 = .ok (.iconst 2, 1) := by decide +kernel
theorem dL_law_1161 : decode cL_law 1161 = .ok (.iadd, 1) := by decide +kernel
theorem dL_law_1162 : decode cL_law 1162 = .ok (.iaload, 1) := by decide +kernel
theorem dL_law_1163 : decode cL_law 1163 = .ok (.aload_n 0, 1) := by decide +kernel
theorem dL_law_1164 : decode cL_law 1164 = .ok (.iload_n 3, 1) := by decide +kernel
theorem dL_law_1165 : decode cL_law 1165 = .ok (.iconst 3, 1) := by decide +kernel
theorem dL_law_1166 : decode cL_law 1166 = .ok (.iadd, 1) := by decide +kernel
theorem dL_law_1167 : decode cL_law 1167 = .ok (.iaload, 1) := by decide +kernel
theorem dL_law_1168 : decode cL_law 1168 = .ok (.aload_n 0, 1) := by decide +kernel
theorem dL_law_1169 : decode cL_law 1169 = .ok (.iload_n 3, 1) := by decide +kernel
theorem dL_law_1170 : decode cL_law 1170 = .ok (.iconst 4, 1) := by decide +kernel
theorem dL_law_1171 : decode cL_law 1171 = .ok (.iadd, 1) := by decide +kernel
theorem dL_law_1172 : decode cL_law 1172 = .ok (.iaload, 1) := by decide +kernel
theorem dL_law_1173 : decode cL_law 1173 = .ok (.invokevirtual 127, 3) := by decide +kernel
theorem dL_law_1176 : decode cL_law 1176 = .ok (.if_icmp .eq 61, 3) := by decide +kernel
theorem dL_law_1179 : decode cL_law 1179 = .ok (.iconst 0, 1) := by decide +kernel
theorem dL_law_1180 : decode cL_law 1180 = .ok (.ireturn, 1) := by decide +kernel
theorem dL_law_1181 : decode cL_law 1181 = .ok (.aload_n 1, 1) := by decide +kernel
theorem dL_law_1182 : decode cL_law 1182 = .ok (.aload_n 0, 1) := by decide +kernel
theorem dL_law_1183 : decode cL_law 1183 = .ok (.iload_n 3, 1) := by decide +kernel
theorem dL_law_1184 : decode cL_law 1184 = .ok (.iconst 1, 1) := by decide +kernel
theorem dL_law_1185 : decode cL_law 1185 = .ok (.iadd, 1) := by decide +kernel
theorem dL_law_1186 : decode cL_law 1186 = .ok (.iaload, 1) := by decide +kernel
theorem dL_law_1187 : decode cL_law 1187 = .ok (.invokevirtual 128, 3) := by decide +kernel
theorem dL_law_1190 : decode cL_law 1190 = .ok (.aload_n 2, 1) := by decide +kernel
theorem dL_law_1191 : decode cL_law 1191 = .ok (.aload_n 0, 1) := by decide +kernel
theorem dL_law_1192 : decode cL_law 1192 = .ok (.iload_n 3, 1) := by decide +kernel
theorem dL_law_1193 : decode cL_law 1193 = .ok (.iconst 1, 1) := by decide +kernel
theorem dL_law_1194 : decode cL_law 1194 = .ok (.iadd, 1) := by decide +kernel
theorem dL_law_1195 : decode cL_law 1195 = .ok (.iaload, 1) := by decide +kernel
theorem dL_law_1196 : decode cL_law 1196 = .ok (.invokevirtual 131, 3) := by decide +kernel
theorem dL_law_1199 : decode cL_law 1199 = .ok (.if_icmp .eq 38, 3) := by decide +kernel
theorem dL_law_1202 : decode cL_law 1202 = .ok (.iconst 0, 1) := by decide +kernel
theorem dL_law_1203 : decode cL_law 1203 = .ok (.ireturn, 1) := by decide +kernel
theorem dL_law_1204 : decode cL_law 1204 = .ok (.aload_n 1, 1) := by decide +kernel
theorem dL_law_1205 : decode cL_law 1205 = .ok (.aload_n 0, 1) := by decide +kernel
theorem dL_law_1206 : decode cL_law 1206 = .ok (.iload_n 3, 1) := by decide +kernel
theorem dL_law_1207 : decode cL_law 1207 = .ok (.iconst 1, 1) := by decide +kernel
theorem dL_law_1208 : decode cL_law 1208 = .ok (.iadd, 1) := by decide +kernel
theorem dL_law_1209 : decode cL_law 1209 = .ok (.iaload, 1) := by decide +kernel
theorem dL_law_1210 : decode cL_law 1210 = .ok (.aload_n 0, 1) := by decide +kernel
theorem dL_law_1211 : decode cL_law 1211 = .ok (.iload_n 3, 1) := by decide +kernel
theorem dL_law_1212 : decode cL_law 1212 = .ok (.iconst 2, 1) := by decide +kernel
theorem dL_law_1213 : decode cL_law 1213 = .ok (.iadd, 1) := by decide +kernel
theorem dL_law_1214 : decode cL_law 1214 = .ok (.iaload, 1) := by decide +kernel
theorem dL_law_1215 : decode cL_law 1215 = .ok (.invokevirtual 132, 3) := by decide +kernel
theorem dL_law_1218 : decode cL_law 1218 = .ok (.aload_n 2, 1) := by decide +kernel
theorem dL_law_1219 : decode cL_law 1219 = .ok (.aload_n 0, 1) := by decide +kernel
theorem dL_law_1220 : decode cL_law 1220 = .ok (.iload_n 3, 1) := by decide +kernel
theorem dL_law_1221 : decode cL_law 1221 = .ok (.iconst 1, 1) := by decide +kernel
theorem dL_law_1222 : decode cL_law 1222 = .ok (.iadd, 1) := by decide +kernel
theorem dL_law_1223 : decode cL_law 1223 = .ok (.iaload, 1) := by decide +kernel
theorem dL_law_1224 : decode cL_law 1224 = .ok (.aload_n 0, 1) := by decide +kernel
theorem dL_law_1225 : decode cL_law 1225 = .ok (.iload_n 3, 1) := by decide +kernel
theorem dL_law_1226 : decode cL_law 1226 = .ok (.iconst 2, 1) := by decide +kernel
theorem dL_law_1227 : decode cL_law 1227 = .ok (.iadd, 1) := by decide +kernel
theorem dL_law_1228 : decode cL_law 1228 = .ok (.iaload, 1) := by decide +kernel
theorem dL_law_1229 : decode cL_law 1229 = .ok (.invokevirtual 135, 3) := by decide +kernel
theorem dL_law_1232 : decode cL_law 1232 = .ok (.if_icmp .eq 5, 3) := by decide +kernel
theorem dL_law_1235 : decode cL_law 1235 = .ok (.iconst 0, 1) := by decide +kernel
theorem dL_law_1236 : decode cL_law 1236 = .ok (.ireturn, 1) := by decide +kernel
theorem dL_law_1237 : decode cL_law 1237 = .ok (.iinc 3 6, 3) := by decide +kernel
theorem dL_law_1240 : decode cL_law 1240 = .ok (.goto (-1222), 3) := by decide +kernel
theorem dL_law_1243 : decode cL_law 1243 = .ok (.iconst 1, 1) := by decide +kernel
theorem dL_law_1244 : decode cL_law 1244 = .ok (.ireturn, 1) := by decide +kernel
