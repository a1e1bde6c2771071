theorem dX5_close_19 : decode cX5_close 19 = .ok (.iastore, 1) := by decide +kernel
theorem dX5_close_20 : decode cX5_close 20 = .ok (.return_, 1) := by decide +kernel
theorem dX5_rename_0 : decode cX5_rename 0 = .ok (.aload_n 0, 1) := by decide +kernel
theorem dX5_rename_1 : decode cX5_rename 1 = .ok (.iload_n 1, 1) := by decide +kernel
theorem dX5_rename_2 : decode cX5_rename 2 = .ok (.invokevirtual 54, 3) := by decide +kernel
theorem dX5_rename_5 : decode cX5_rename 5 = .ok (.ifCond .eq 29, 3) := by decide +kernel
theorem dX5_rename_8 : decode cX5_rename 8 = .ok (.aload_n 0, 1) := by decide +kernel
theorem dX5_rename_9 : decode cX5_rename 9 = .ok (.getfield 9, 3) := by decide +kernel
theorem dX5_rename_12 : decode cX5_rename 12 = .ok (.iload_n 1, 1) := by decide +kernel
theorem dX5_rename_13 : decode cX5_rename 13 = .ok (.iload_n 2, 1) := by decide +kernel
theorem dX5_rename_14 : decode cX5_rename 14 = .ok (.iastore, 1) := by decide +kernel
theorem dX5_rename_15 : decode cX5_rename 15 = .ok (.aload_n 0, 1) := by decide +kernel
theorem dX5_rename_16 : decode cX5_rename 16 = .ok (.getfield 15, 3) := by decide +kernel
theorem dX5_rename_19 : decode cX5_rename 19 = .ok (.iload_n 1, 1) := by decide +kernel
theorem dX5_rename_20 : decode cX5_rename 20 = .ok (.iconst 0, 1) := by decide +kernel
theorem dX5_rename_21 : decode cX5_rename 21 = .ok (.iastore, 1) := by decide +kernel
theorem dX5_rename_22 : decode cX5_rename 22 = .ok (.aload_n 0, 1) := by decide +kernel
theorem dX5_rename_23 : decode cX5_rename 23 = .ok (.getfield 18, 3) := by decide +kernel
theorem dX5_rename_26 : decode cX5_rename 26 = .ok (.iload_n 1, 1) := by decide +kernel
theorem dX5_rename_27 : decode cX5_rename 27 = .ok (.aload_n 0, 1) := by decide +kernel
theorem dX5_rename_28 : decode cX5_rename 28 = .ok (.getfield 21, 3) := by decide +kernel
theorem dX5_rename_31 : decode cX5_rename 31 = .ok (.iload_n 1, 1) := by decide +kernel
theorem dX5_rename_32 : decode cX5_rename 32 = .ok (.isub, 1) := by decide +kernel
theorem dX5_rename_33 : decode cX5_rename 33 = .ok (.iastore, 1) := by decide +kernel
theorem dX5_rename_34 : decode cX5_rename 34 = .ok (.return_, 1) := by decide +kernel
theorem dX5_insert_0 : decode cX5_insert 0 = .ok (.iload_n 1, 1) := by decide +kernel
theorem dX5_insert_1 : decode cX5_insert 1 = .ok (.ifCond .lt 21, 3) := by decide +kernel
theorem dX5_insert_4 : decode cX5_insert 4 = .ok (.iload_n 1, 1) := by decide +kernel
theorem dX5_insert_5 : decode cX5_insert 5 = .ok (.aload_n 0, 1) := by decide +kernel
theorem dX5_insert_6 : decode cX5_insert 6 = .ok (.getfield 21, 3) := by decide +kernel
theorem dX5_insert_9 : decode cX5_insert 9 = .ok (.if_icmp .gt 13, 3) := by decide +kernel
theorem dX5_insert_12 : decode cX5_insert 12 = .ok (.aload_n 0, 1) := by decide +kernel
theorem dX5_insert_13 : decode cX5_insert 13 = .ok (.getfield 21, 3) := by decide +kernel
theorem dX5_insert_16 : decode cX5_insert 16 = .ok (.sipush 200, 3) := by decide +kernel
theorem dX5_insert_19 : decode cX5_insert 19 = .ok (.if_icmp .lt 4, 3) := by decide +kernel
theorem dX5_insert_22 : decode cX5_insert 22 = .ok (.return_, 1) := by decide +kernel
theorem dX5_insert_23 : decode cX5_insert 23 = .ok (.aload_n 0, 1) := by decide +kernel
theorem dX5_insert_24 : decode cX5_insert 24 = .ok (.getfield 9, 3) := by decide +kernel
theorem dX5_insert_27 : decode cX5_insert 27 = .ok (.iload_n 1, 1) := by decide +kernel
theorem dX5_insert_28 : decode cX5_insert 28 = .ok (.aload_n 0, 1) := by decide +kernel
theorem dX5_insert_29 : decode cX5_insert 29 = .ok (.getfield 9, 3) := by decide +kernel
theorem dX5_insert_32 : decode cX5_insert 32 = .ok (.iload_n 1, 1) := by decide +kernel
theorem dX5_insert_33 : decode cX5_insert 33 = .ok (.iconst 1, 1) := by decide +kernel
theorem dX5_insert_34 : decode cX5_insert 34 = .ok (.iadd, 1) := by decide +kernel
theorem dX5_insert_35 : decode cX5_insert 35 = .ok (.aload_n 0, 1) := by decide +kernel
theorem dX5_insert_36 : decode cX5_insert 36 = .ok (.getfield 21, 3) := by decide +kernel
theorem dX5_insert_39 : decode cX5_insert 39 = .ok (.iload_n 1, 1) := by decide +kernel
theorem dX5_insert_40 : decode cX5_insert 40 = .ok (.isub, 1) := by decide +kernel
theorem dX5_insert_41 : decode cX5_insert 41 = .ok (.invokestatic 35, 3) := by decide +kernel
theorem dX5_insert_44 : decode cX5_insert 44 = .ok (.aload_n 0, 1) := by decide +kernel
theorem dX5_insert_45 : decode cX5_insert 45 = .ok (.getfield 15, 3) := by decide +kernel
theorem dX5_insert_48 : decode cX5_insert 48 = .ok (.iload_n 1, 1) := by decide +kernel
theorem dX5_insert_49 : decode cX5_insert 49 = .ok (.aload_n 0, 1) := by decide +kernel
theorem dX5_insert_50 : decode cX5_insert 50 = .ok (.getfield 15, 3) := by decide +kernel
theorem dX5_insert_53 : decode cX5_insert 53 = .ok (.iload_n 1, 1) := by decide +kernel
theorem dX5_insert_54 : decode cX5_insert 54 = .ok (.iconst 1, 1) := by decide +kernel
theorem dX5_insert_55 : decode cX5_insert 55 = .ok (.iadd, 1) := by decide +kernel
theorem dX5_insert_56 : decode cX5_insert 56 = .ok (.aload_n 0, 1) := by decide +kernel
theorem dX5_insert_57 : decode cX5_insert 57 = .ok (.getfield 21, 3) := by decide +kernel
theorem dX5_insert_60 : decode cX5_insert 60 = .ok (.iload_n 1, 1) := by decide +kernel
theorem dX5_insert_61 : decode cX5_insert 61 = .ok (.isub, 1) := by decide +kernel
theorem dX5_insert_62 : decode cX5_insert 62 = .ok (.invokestatic 35, 3) := by decide +kernel
theorem dX5_insert_65 : decode cX5_insert 65 = .ok (.aload_n 0, 1) := by decide +kernel
theorem dX5_insert_66 : decode cX5_insert 66 = .ok (.getfield 18, 3) := by decide +kernel
theorem dX5_insert_69 : decode cX5_insert 69 = .ok (.iload_n 1, 1) := by decide +kernel
theorem dX5_insert_70 : decode cX5_insert 70 = .ok (.aload_n 0, 1) := by decide +kernel
theorem dX5_insert_71 : decode cX5_insert 71 = .ok (.getfield 18, 3) := by decide +kernel
theorem dX5_insert_74 : decode cX5_insert 74 = .ok (.iload_n 1, 1) := by decide +kernel
theorem dX5_insert_75 : decode cX5_insert 75 = .ok (.iconst 1, 1) := by decide +kernel
theorem dX5_insert_76 : decode cX5_insert 76 = .ok (.iadd, 1) := by decide +kernel
theorem dX5_insert_77 : decode cX5_insert 77 = .ok (.aload_n 0, 1) := by decide +kernel
theorem dX5_insert_78 : decode cX5_insert 78 = .ok (.getfield 21, 3) := by decide +kernel
theorem dX5_insert_81 : decode cX5_insert 81 = .ok (.iload_n 1, 1) := by decide +kernel
theorem dX5_insert_82 : decode cX5_insert 82 = .ok (.isub, 1) := by decide +kernel
theorem dX5_insert_83 : decode cX5_insert 83 = .ok (.invokestatic 35, 3) := by decide +kernel
theorem dX5_insert_86 : decode cX5_insert 86 = .ok (.aload_n 0, 1) := by decide +kernel
theorem dX5_insert_87 : decode cX5_insert 87 = .ok (.dup, 1) := by decide +kernel
theorem dX5_insert_88 : decode cX5_insert 88 = .ok (.getfield 21, 3) := by decide +kernel
theorem dX5_insert_91 : decode cX5_insert 91 = .ok (.iconst 1, 1) := by decide +kernel
theorem dX5_insert_92 : decode cX5_insert 92 = .ok (.iadd, 1) := by decide +kernel
theorem dX5_insert_93 : decode cX5_insert 93 = .ok (.putfield 21, 3) := by decide +kernel
theorem dX5_insert_96 : decode cX5_insert 96 = .ok (.aload_n 0, 1) := by decide +kernel
theorem dX5_insert_97 : decode cX5_insert 97 = .ok (.getfield 9, 3) := by decide +kernel
theorem dX5_insert_100 : decode cX5_insert 100 = .ok (.iload_n 1, 1) := by decide +kernel
theorem dX5_insert_101 : decode cX5_insert 101 = .ok (.iload_n 2, 1) := by decide +kernel
theorem dX5_insert_102 : decode cX5_insert 102 = .ok (.iastore, 1) := by decide +kernel
theorem dX5_insert_103 : decode cX5_insert 103 = .ok (.aload_n 0, 1) := by decide +kernel
theorem dX5_insert_104 : decode cX5_insert 104 = .ok (.getfield 15, 3) := by decide +kernel
theorem dX5_insert_107 : decode cX5_insert 107 = .ok (.iload_n 1, 1) := by decide +kernel
theorem dX5_insert_108 : decode cX5_insert 108 = .ok (.iload_n 3, 1) := by decide +kernel
theorem dX5_insert_109 : decode cX5_insert 109 = .ok (.iastore, 1) := by decide +kernel
theorem dX5_insert_110 : decode cX5_insert 110 = .ok (.aload_n 0, 1) := by decide +kernel
theorem dX5_insert_111 : decode cX5_insert 111 = .ok (.getfield 18, 3) := by decide +kernel
theorem dX5_insert_114 : decode cX5_insert 114 = .ok (.iload_n 1, 1) := by decide +kernel
theorem dX5_insert_115 : decode cX5_insert 115 = .ok (.aload_n 0, 1) := by decide +kernel
theorem dX5_insert_116 : decode cX5_insert 116 = .ok (.getfield 21, 3) := by decide +kernel
theorem dX5_insert_119 : decode cX5_insert 119 = .ok (.iload_n 1, 1) := by decide +kernel
theorem dX5_insert_120 : decode cX5_insert 120 = .ok (.isub, 1) := by decide +kernel
theorem dX5_insert_121 : decode cX5_insert 121 = .ok (.iastore, 1) := by decide +kernel
theorem dX5_insert_122 : decode cX5_insert 122 = .ok (.return_, 1) := by decide +kernel
theorem dX5_cut_0 : decode cX5_cut 0 = .ok (.iload_n 1, 1) := by decide +kernel
theorem dX5_cut_1 : decode cX5_cut 1 = .ok (.ifCond .lt 17, 3) := by decide +kernel
theorem dX5_cut_4 : decode cX5_cut 4 = .ok (.iload_n 2, 1) := by decide +kernel
theorem dX5_cut_5 : decode cX5_cut 5 = .ok (.ifCond .lt 13, 3) := by decide +kernel
theorem dX5_cut_8 : decode cX5_cut 8 = .ok (.iload_n 1, 1) := by decide +kernel
theorem dX5_cut_9 : decode cX5_cut 9 = .ok (.aload_n 0, 1) := by decide +kernel
theorem dX5_cut_10 : decode cX5_cut 10 = .ok (.getfield 21, 3) := by decide +kernel
theorem dX5_cut_13 : decode cX5_cut 13 = .ok (.iload_n 2, 1) := by decide +kernel
theorem dX5_cut_14 : decode cX5_cut 14 = .ok (.isub, 1) := by decide +kernel
theorem dX5_cut_15 : decode cX5_cut 15 = .ok (.if_icmp .le 4, 3) := by decide +kernel
theorem dX5_cut_18 : decode cX5_cut 18 = .ok (.return_, 1) := by decide +kernel
theorem dX5_cut_19 : decode cX5_cut 19 = .ok (.iload_n 1, 1) := by decide +kernel
theorem dX5_cut_20 : decode cX5_cut 20 = .ok (.iload_n 2, 1) := by decide +kernel
theorem dX5_cut_21 : decode cX5_cut 21 = .ok (.iadd, 1) := by decide +kernel
theorem dX5_cut_22 : decode cX5_cut 22 = .ok (.istore_n 3, 1) := by decide +kernel
theorem dX5_cut_23 : decode cX5_cut 23 = .ok (.aload_n 0, 1) := by decide +kernel
theorem dX5_cut_24 : decode cX5_cut 24 = .ok (.getfield 9, 3) := by decide +kernel
theorem dX5_cut_27 : decode cX5_cut 27 = .ok (.iload_n 3, 1) := by decide +kernel
theorem dX5_cut_28 : decode cX5_cut 28 = .ok (.aload_n 0, 1) := by decide +kernel
theorem dX5_cut_29 : decode cX5_cut 29 = .ok (.getfield 9, 3) := by decide +kernel
theorem dX5_cut_32 : decode cX5_cut 32 = .ok (.iload_n 1, 1) := by decide +kernel
theorem dX5_cut_33 : decode cX5_cut 33 = .ok (.aload_n 0, 1) := by decide +kernel
theorem dX5_cut_34 : decode cX5_cut 34 = .ok (.getfield 21, 3) := by decide +kernel
theorem dX5_cut_37 : decode cX5_cut 37 = .ok (.iload_n 3, 1) := by decide +kernel
theorem dX5_cut_38 : decode cX5_cut 38 = .ok (.isub, 1) := by decide +kernel
theorem dX5_cut_39 : decode cX5_cut 39 = .ok (.invokestatic 35, 3) := by decide +kernel
theorem dX5_cut_42 : decode cX5_cut 42 = .ok (.aload_n 0, 1) := by decide +kernel
theorem dX5_cut_43 : decode cX5_cut 43 = .ok (.getfield 15, 3) := by decide +kernel
theorem dX5_cut_46 : decode cX5_cut 46 = .ok (.iload_n 3, 1) := by decide +kernel
theorem dX5_cut_47 : decode cX5_cut 47 = .ok (.aload_n 0, 1) := by decide +kernel
theorem dX5_cut_48 : decode cX5_cut 48 = .ok (.getfield 15, 3) := by decide +kernel
theorem dX5_cut_51 : decode cX5_cut 51 = .ok (.iload_n 1, 1) := by decide +kernel
theorem dX5_cut_52 : decode cX5_cut 52 = .ok (.aload_n 0, 1) := by decide +kernel
theorem dX5_cut_53 : decode cX5_cut 53 = .ok (.getfield 21, 3) := by decide +kernel
theorem dX5_cut_56 : decode cX5_cut 56 = .ok (.iload_n 3, 1) := by decide +kernel
theorem dX5_cut_57 : decode cX5_cut 57 = .ok (.isub, 1) := by decide +kernel
theorem dX5_cut_58 : decode cX5_cut 58 = .ok (.invokestatic 35, 3) := by decide +kernel
theorem dX5_cut_61 : decode cX5_cut 61 = .ok (.aload_n 0, 1) := by decide +kernel
theorem dX5_cut_62 : decode cX5_cut 62 = .ok (.getfield 18, 3) := by decide +kernel
theorem dX5_cut_65 : decode cX5_cut 65 = .ok (.iload_n 3, 1) := by decide +kernel
theorem dX5_cut_66 : decode cX5_cut 66 = .ok (.aload_n 0, 1) := by decide +kernel
theorem dX5_cut_67 : decode cX5_cut 67 = .ok (.getfield 18, 3) := by decide +kernel
theorem dX5_cut_70 : decode cX5_cut 70 = .ok (.iload_n 1, 1) := by decide +kernel
theorem dX5_cut_71 : decode cX5_cut 71 = .ok (.aload_n 0, 1) := by decide +kernel
theorem dX5_cut_72 : decode cX5_cut 72 = .ok (.getfield 21, 3) := by decide +kernel
theorem dX5_cut_75 : decode cX5_cut 75 = .ok (.iload_n 3, 1) := by decide +kernel
theorem dX5_cut_76 : decode cX5_cut 76 = .ok (.isub, 1) := by decide +kernel
theorem dX5_cut_77 : decode cX5_cut 77 = .ok (.invokestatic 35, 3) := by decide +kernel
theorem dX5_cut_80 : decode cX5_cut 80 = .ok (.aload_n 0, 1) := by decide +kernel
theorem dX5_cut_81 : decode cX5_cut 81 = .ok (.dup, 1) := by decide +kernel
theorem dX5_cut_82 : decode cX5_cut 82 = .ok (.getfield 21, 3) := by decide +kernel
theorem dX5_cut_85 : decode cX5_cut 85 = .ok (.iload_n 2, 1) := by decide +kernel
theorem dX5_cut_86 : decode cX5_cut 86 = .ok (.isub, 1) := by decide +kernel
theorem dX5_cut_87 : decode cX5_cut 87 = .ok (.putfield 21, 3) := by decide +kernel
theorem dX5_cut_90 : decode cX5_cut 90 = .ok (.return_, 1) := by decide +kernel
theorem dX5_endAsNumber_0 : decode cX5_endAsNumber 0 = .ok (.aload_n 0, 1) := by decide +kernel
theorem dX5_endAsNumber_1 : decode cX5_endAsNumber 1 = .ok (.iload_n 1, 1) := by decide +kernel
theorem dX5_endAsNumber_2 : decode cX5_endAsNumber 2 = .ok (.invokevirtual 54, 3) := by decide +kernel
theorem dX5_endAsNumber_5 : decode cX5_endAsNumber 5 = .ok (.ifCond .eq 14, 3) := by decide +kernel
theorem dX5_endAsNumber_8 : decode cX5_endAsNumber 8 = .ok (.aload_n 0, 1) := by decide +kernel
theorem dX5_endAsNumber_9 : decode cX5_endAsNumber 9 = .ok (.iload_n 1, 1) := by decide +kernel
theorem dX5_endAsNumber_10 : decode cX5_endAsNumber 10 = .ok (.putfield 21, 3) := by decide +kernel
theorem dX5_endAsNumber_13 : decode cX5_endAsNumber 13 = .ok (.aload_n 0, 1) := by decide +kernel
theorem dX5_endAsNumber_14 : decode cX5_endAsNumber 14 = .ok (.iconst 0, 1) := by decide +kernel
theorem dX5_endAsNumber_15 : decode cX5_endAsNumber 15 = .ok (.iload_n 2, 1) := by decide +kernel
theorem dX5_endAsNumber_16 : decode cX5_endAsNumber 16 = .ok (.invokevirtual 58, 3) := by decide +kernel
theorem dX5_endAsNumber_19 : decode cX5_endAsNumber 19 = .ok (.return_, 1) := by decide +kernel
theorem dX5_endAsPart_0 : decode cX5_endAsPart 0 = .ok (.iload_n 1, 1) := by decide +kernel
theorem dX5_endAsPart_1 : decode cX5_endAsPart 1 = .ok (.ifCond .lt 16, 3) := by decide +kernel
theorem dX5_endAsPart_4 : decode cX5_endAsPart 4 = .ok (.iload_n 2, 1) := by decide +kernel
theorem dX5_endAsPart_5 : decode cX5_endAsPart 5 = .ok (.iload_n 1, 1) := by decide +kernel
theorem dX5_endAsPart_6 : decode cX5_endAsPart 6 = .ok (.if_icmp .lt 11, 3) := by decide +kernel
theorem dX5_endAsPart_9 : decode cX5_endAsPart 9 = .ok (.iload_n 2, 1) := by decide +kernel
theorem dX5_endAsPart_10 : decode cX5_endAsPart 10 = .ok (.aload_n 0, 1) := by decide +kernel
theorem dX5_endAsPart_11 : decode cX5_endAsPart 11 = .ok (.getfield 21, 3) := by decide +kernel
theorem dX5_endAsPart_14 : decode cX5_endAsPart 14 = .ok (.if_icmp .lt 4, 3) := by decide +kernel
theorem dX5_endAsPart_17 : decode cX5_endAsPart 17 = .ok (.return_, 1) := by decide +kernel
theorem dX5_endAsPart_18 : decode cX5_endAsPart 18 = .ok (.aload_n 0, 1) := by decide +kernel
theorem dX5_endAsPart_19 : decode cX5_endAsPart 19 = .ok (.getfield 18, 3) := by decide +kernel
theorem dX5_endAsPart_22 : decode cX5_endAsPart 22 = .ok (.iload_n 2, 1) := by decide +kernel
theorem dX5_endAsPart_23 : decode cX5_endAsPart 23 = .ok (.iaload, 1) := by decide +kernel
theorem dX5_endAsPart_24 : decode cX5_endAsPart 24 = .ok (.aload_n 0, 1) := by decide +kernel
theorem dX5_endAsPart_25 : decode cX5_endAsPart 25 = .ok (.getfield 21, 3) := by decide +kernel
theorem dX5_endAsPart_28 : decode cX5_endAsPart 28 = .ok (.iload_n 2, 1) := by decide +kernel
theorem dX5_endAsPart_29 : decode cX5_endAsPart 29 = .ok (.isub, 1) := by decide +kernel
theorem dX5_endAsPart_30 : decode cX5_endAsPart 30 = .ok (.invokestatic 62, 3) := by decide +kernel
theorem dX5_endAsPart_33 : decode cX5_endAsPart 33 = .ok (.istore_n 3, 1) := by decide +kernel
theorem dX5_endAsPart_34 : decode cX5_endAsPart 34 = .ok (.aload_n 0, 1) := by decide +kernel
theorem dX5_endAsPart_35 : decode cX5_endAsPart 35 = .ok (.getfield 9, 3) := by decide +kernel
theorem dX5_endAsPart_38 : decode cX5_endAsPart 38 = .ok (.iload_n 2, 1) := by decide +kernel
theorem dX5_endAsPart_39 : decode cX5_endAsPart 39 = .ok (.aload_n 0, 1) := by decide +kernel
theorem dX5_endAsPart_40 : decode cX5_endAsPart 40 = .ok (.getfield 9, 3) := by decide +kernel
theorem dX5_endAsPart_43 : decode cX5_endAsPart 43 = .ok (.iload_n 1, 1) := by decide +kernel
theorem dX5_endAsPart_44 : decode cX5_endAsPart 44 = .ok (.iload_n 3, 1) := by decide +kernel
theorem dX5_endAsPart_45 : decode cX5_endAsPart 45 = .ok (.invokestatic 35, 3) := by decide +kernel
theorem dX5_endAsPart_48 : decode cX5_endAsPart 48 = .ok (.aload_n 0, 1) := by decide +kernel
theorem dX5_endAsPart_49 : decode cX5_endAsPart 49 = .ok (.getfield 15, 3) := by decide +kernel
theorem dX5_endAsPart_52 : decode cX5_endAsPart 52 = .ok (.iload_n 2, 1) := by decide +kernel
theorem dX5_endAsPart_53 : decode cX5_endAsPart 53 = .ok (.aload_n 0, 1) := by decide +kernel
theorem dX5_endAsPart_54 : decode cX5_endAsPart 54 = .ok (.getfield 15, 3) := by decide +kernel
theorem dX5_endAsPart_57 : decode cX5_endAsPart 57 = .ok (.iload_n 1, 1) := by decide +kernel
theorem dX5_endAsPart_58 : decode cX5_endAsPart 58 = .ok (.iload_n 3, 1) := by decide +kernel
theorem dX5_endAsPart_59 : decode cX5_endAsPart 59 = .ok (.invokestatic 35, 3) := by decide +kernel
theorem dX5_endAsPart_62 : decode cX5_endAsPart 62 = .ok (.aload_n 0, 1) := by decide +kernel
theorem dX5_endAsPart_63 : decode cX5_endAsPart 63 = .ok (.getfield 18, 3) := by decide +kernel
theorem dX5_endAsPart_66 : decode cX5_endAsPart 66 = .ok (.iload_n 2, 1) := by decide +kernel
theorem dX5_endAsPart_67 : decode cX5_endAsPart 67 = .ok (.aload_n 0, 1) := by decide +kernel
theorem dX5_endAsPart_68 : decode cX5_endAsPart 68 = .ok (.getfield 18, 3) := by decide +kernel
theorem dX5_endAsPart_71 : decode cX5_endAsPart 71 = .ok (.iload_n 1, 1) := by decide +kernel
theorem dX5_endAsPart_72 : decode cX5_endAsPart 72 = .ok (.iload_n 3, 1) := by decide +kernel
theorem dX5_endAsPart_73 : decode cX5_endAsPart 73 = .ok (.invokestatic 35, 3) := by decide +kernel
theorem dX5_endAsPart_76 : decode cX5_endAsPart 76 = .ok (.aload_n 0, 1) := by decide +kernel
theorem dX5_endAsPart_77 : decode cX5_endAsPart 77 = .ok (.iload_n 1, 1) := by decide +kernel
theorem dX5_endAsPart_78 : decode cX5_endAsPart 78 = .ok (.iload_n 3, 1) := by decide +kernel
theorem dX5_endAsPart_79 : decode cX5_endAsPart 79 = .ok (.iadd, 1) := by decide +kernel
theorem dX5_endAsPart_80 : decode cX5_endAsPart 80 = .ok (.putfield 21, 3) := by decide +kernel
theorem dX5_endAsPart_83 : decode cX5_endAsPart 83 = .ok (.return_, 1) := by decide +kernel
theorem dX6_init_0 : decode cX6_init 0 = .ok (.aload_n 0, 1) := by decide +kernel
theorem dX6_init_1 : decode cX6_init 1 = .ok (.invokespecial 3, 3) := by decide +kernel
theorem dX6_init_4 : decode cX6_init 4 = .ok (.aload_n 0, 1) := by decide +kernel
theorem dX6_init_5 : decode cX6_init 5 = .ok (.sipush 200, 3) := by decide +kernel
theorem dX6_init_8 : decode cX6_init 8 = .ok (.newarray .int, 2) := by decide +kernel
theorem dX6_init_10 : decode cX6_init 10 = .ok (.putfield 9, 3) := by decide +kernel
theorem dX6_init_13 : decode cX6_init 13 = .ok (.aload_n 0, 1) := by decide +kernel
theorem dX6_init_14 : decode cX6_init 14 = .ok (.sipush 200, 3) := by decide +kernel
theorem dX6_init_17 : decode cX6_init 17 = .ok (.newarray .int, 2) := by decide +kernel
theorem dX6_init_19 : decode cX6_init 19 = .ok (.putfield 15, 3) := by decide +kernel
theorem dX6_init_22 : decode cX6_init 22 = .ok (.aload_n 0, 1) := by decide +kernel
theorem dX6_init_23 : decode cX6_init 23 = .ok (.new 18, 3) := by decide +kernel
theorem dX6_init_26 : decode cX6_init 26 = .ok (.dup, 1) := by decide +kernel
theorem dX6_init_27 : decode cX6_init 27 = .ok (.invokespecial 20, 3) := by decide +kernel
theorem dX6_init_30 : decode cX6_init 30 = .ok (.putfield 21, 3) := by decide +kernel
theorem dX6_init_33 : decode cX6_init 33 = .ok (.aload_n 0, 1) := by decide +kernel
theorem dX6_init_34 : decode cX6_init 34 = .ok (.new 18, 3) := by decide +kernel
theorem dX6_init_37 : decode cX6_init 37 = .ok (.dup, 1) := by decide +kernel
theorem dX6_init_38 : decode cX6_init 38 = .ok (.invokespecial 20, 3) := by decide +kernel
theorem dX6_init_41 : decode cX6_init 41 = .ok (.putfield 25, 3) := by decide +kernel
theorem dX6_init_44 : decode cX6_init 44 = .ok (.return_, 1) := by decide +kernel
theorem dX6_make_0 : decode cX6_make 0 = .ok (.aload_n 0, 1) := by decide +kernel
theorem dX6_make_1 : decode cX6_make 1 = .ok (.getfield 21, 3) := by decide +kernel
theorem dX6_make_4 : decode cX6_make 4 = .ok (.aload_n 2, 1) := by decide +kernel
theorem dX6_make_5 : decode cX6_make 5 = .ok (.invokevirtual 28, 3) := by decide +kernel
theorem dX6_make_8 : decode cX6_make 8 = .ok (.iconst 0, 1) := by decide +kernel
theorem dX6_make_9 : decode cX6_make 9 = .ok (.istore 4, 2) := by decide +kernel
theorem dX6_make_11 : decode cX6_make 11 = .ok (.iconst 0, 1) := by decide +kernel
theorem dX6_make_12 : decode cX6_make 12 = .ok (.istore 5, 2) := by decide +kernel
theorem dX6_make_14 : decode cX6_make 14 = .ok (.iload 5, 2) := by decide +kernel
theorem dX6_make_16 : decode cX6_make 16 = .ok (.iload_n 3, 1) := by decide +kernel
theorem dX6_make_17 : decode cX6_make 17 = .ok (.if_icmp .ge 30, 3) := by decide +kernel
theorem dX6_make_20 : decode cX6_make 20 = .ok (.iload 4, 2) := by decide +kernel
theorem dX6_make_22 : decode cX6_make 22 = .ok (.aload_n 0, 1) := by decide +kernel
theorem dX6_make_23 : decode cX6_make 23 = .ok (.aload_n 1, 1) := by decide +kernel
theorem dX6_make_24 : decode cX6_make 24 = .ok (.iload 5, 2) := by decide +kernel
theorem dX6_make_26 : decode cX6_make 26 = .ok (.invokevirtual 32, 3) := by decide +kernel
theorem dX6_make_29 : decode cX6_make 29 = .ok (.aload_n 1, 1) := by decide +kernel
theorem dX6_make_30 : decode cX6_make 30 = .ok (.iload 5, 2) := by decide +kernel
theorem dX6_make_32 : decode cX6_make 32 = .ok (.invokevirtual 38, 3) := by decide +kernel
theorem dX6_make_35 : decode cX6_make 35 = .ok (.invokevirtual 41, 3) := by decide +kernel
theorem dX6_make_38 : decode cX6_make 38 = .ok (.iadd, 1) := by decide +kernel
theorem dX6_make_39 : decode cX6_make 39 = .ok (.istore 4, 2) := by decide +kernel
theorem dX6_make_41 : decode cX6_make 41 = .ok (.iinc 5 1, 3) := by decide +kernel
theorem dX6_make_44 : decode cX6_make 44 = .ok (.goto (-30), 3) := by decide +kernel
theorem dX6_make_47 : decode cX6_make 47 = .ok (.iload 4, 2) := by decide +kernel
theorem dX6_make_49 : decode cX6_make 49 = .ok (.ireturn, 1) := by decide +kernel
theorem dX6_firings_0 : decode cX6_firings 0 = .ok (.aload_n 0, 1) := by decide +kernel
theorem dX6_firings_1 : decode cX6_firings 1 = .ok (.aload_n 1, 1) := by decide +kernel
theorem dX6_firings_2 : decode cX6_firings 2 = .ok (.aload_n 2, 1) := by decide +kernel
theorem dX6_firings_3 : decode cX6_firings 3 = .ok (.iload_n 3, 1) := by decide +kernel
theorem dX6_firings_4 : decode cX6_firings 4 = .ok (.invokevirtual 45, 3) := by decide +kernel
theorem dX6_firings_7 : decode cX6_firings 7 = .ok (.pop, 1) := by decide +kernel
theorem dX6_firings_8 : decode cX6_firings 8 = .ok (.aload_n 0, 1) := by decide +kernel
theorem dX6_firings_9 : decode cX6_firings 9 = .ok (.aload_n 1, 1) := by decide +kernel
theorem dX6_firings_10 : decode cX6_firings 10 = .ok (.iload_n 3, 1) := by decide +kernel
theorem dX6_firings_11 : decode cX6_firings 11 = .ok (.invokevirtual 32, 3) := by decide +kernel
theorem dX6_firings_14 : decode cX6_firings 14 = .ok (.aload_n 1, 1) := by decide +kernel
theorem dX6_firings_15 : decode cX6_firings 15 = .ok (.iload_n 3, 1) := by decide +kernel
theorem dX6_firings_16 : decode cX6_firings 16 = .ok (.invokevirtual 38, 3) := by decide +kernel
theorem dX6_firings_19 : decode cX6_firings 19 = .ok (.invokevirtual 41, 3) := by decide +kernel
theorem dX6_firings_22 : decode cX6_firings 22 = .ok (.ireturn, 1) := by decide +kernel
theorem dX6_firingTurns_0 : decode cX6_firingTurns 0 = .ok (.aload_n 0, 1) := by decide +kernel
theorem dX6_firingTurns_1 : decode cX6_firingTurns 1 = .ok (.getfield 21, 3) := by decide +kernel
theorem dX6_firingTurns_4 : decode cX6_firingTurns 4 = .ok (.aload_n 2, 1) := by decide +kernel
theorem dX6_firingTurns_5 : decode cX6_firingTurns 5 = .ok (.invokevirtual 28, 3) := by decide +kernel
theorem dX6_firingTurns_8 : decode cX6_firingTurns 8 = .ok (.iconst 0, 1) := by decide +kernel
theorem dX6_firingTurns_9 : decode cX6_firingTurns 9 = .ok (.istore_n 3, 1) := by decide +kernel
theorem dX6_firingTurns_10 : decode cX6_firingTurns 10 = .ok (.iconst 0, 1) := by decide +kernel
theorem dX6_firingTurns_11 : decode cX6_firingTurns 11 = .ok (.istore 4, 2) := by decide +kernel
theorem dX6_firingTurns_13 : decode cX6_firingTurns 13 = .ok (.iload 4, 2) := by decide +kernel
theorem dX6_firingTurns_15 : decode cX6_firingTurns 15 = .ok (.aload_n 1, 1) := by decide +kernel
theorem dX6_firingTurns_16 : decode cX6_firingTurns 16 = .ok (.getfield 49, 3) := by decide +kernel
theorem dX6_firingTurns_19 : decode cX6_firingTurns 19 = .ok (.if_icmp .ge 35, 3) := by decide +kernel
theorem dX6_firingTurns_22 : decode cX6_firingTurns 22 = .ok (.aload_n 0, 1) := by decide +kernel
theorem dX6_firingTurns_23 : decode cX6_firingTurns 23 = .ok (.aload_n 1, 1) := by decide +kernel
theorem dX6_firingTurns_24 : decode cX6_firingTurns 24 = .ok (.iload 4, 2) := by decide +kernel
theorem dX6_firingTurns_26 : decode cX6_firingTurns 26 = .ok (.invokevirtual 32, 3) := by decide +kernel
theorem dX6_firingTurns_29 : decode cX6_firingTurns 29 = .ok (.aload_n 1, 1) := by decide +kernel
theorem dX6_firingTurns_30 : decode cX6_firingTurns 30 = .ok (.iload 4, 2) := by decide +kernel
theorem dX6_firingTurns_32 : decode cX6_firingTurns 32 = .ok (.invokevirtual 38, 3) := by decide +kernel
theorem dX6_firingTurns_35 : decode cX6_firingTurns 35 = .ok (.invokevirtual 41, 3) := by decide +kernel
theorem dX6_firingTurns_38 : decode cX6_firingTurns 38 = .ok (.ifCond .le 10, 3) := by decide +kernel
theorem dX6_firingTurns_41 : decode cX6_firingTurns 41 = .ok (.iload_n 3, 1) := by decide +kernel
theorem dX6_firingTurns_42 : decode cX6_firingTurns 42 = .ok (.iconst 1, 1) := by decide +kernel
theorem dX6_firingTurns_43 : decode cX6_firingTurns 43 = .ok (.iload 4, 2) := by decide +kernel
theorem dX6_firingTurns_45 : decode cX6_firingTurns 45 = .ok (.ishl, 1) := by decide +kernel
theorem dX6_firingTurns_46 : decode cX6_firingTurns 46 = .ok (.ior, 1) := by decide +kernel
theorem dX6_firingTurns_47 : decode cX6_firingTurns 47 = .ok (.istore_n 3, 1) := by decide +kernel
theorem dX6_firingTurns_48 : decode cX6_firingTurns 48 = .ok (.iinc 4 1, 3) := by decide +kernel
theorem dX6_firingTurns_51 : decode cX6_firingTurns 51 = .ok (.goto (-38), 3) := by decide +kernel
theorem dX6_firingTurns_54 : decode cX6_firingTurns 54 = .ok (.iload_n 3, 1) := by decide +kernel
theorem dX6_firingTurns_55 : decode cX6_firingTurns 55 = .ok (.ireturn, 1) := by decide +kernel
theorem dX6_apply_0 : decode cX6_apply 0 = .ok (.iconst 0, 1) := by decide +kernel
theorem dX6_apply_1 : decode cX6_apply 1 = .ok (.istore_n 3, 1) := by decide +kernel
theorem dX6_apply_2 : decode cX6_apply 2 = .ok (.iconst 0, 1) := by decide +kernel
theorem dX6_apply_3 : decode cX6_apply 3 = .ok (.istore 4, 2) := by decide +kernel
theorem dX6_apply_5 : decode cX6_apply 5 = .ok (.aload_n 0, 1) := by decide +kernel
theorem dX6_apply_6 : decode cX6_apply 6 = .ok (.getfield 25, 3) := by decide +kernel
theorem dX6_apply_9 : decode cX6_apply 9 = .ok (.invokevirtual 53, 3) := by decide +kernel
theorem dX6_apply_12 : decode cX6_apply 12 = .ok (.iconst 0, 1) := by decide +kernel
theorem dX6_apply_13 : decode cX6_apply 13 = .ok (.istore 5, 2) := by decide +kernel
theorem dX6_apply_15 : decode cX6_apply 15 = .ok (.iload 5, 2) := by decide +kernel
theorem dX6_apply_17 : decode cX6_apply 17 = .ok (.aload_n 0, 1) := by decide +kernel
theorem dX6_apply_18 : decode cX6_apply 18 = .ok (.getfield 21, 3) := by decide +kernel
theorem dX6_apply_21 : decode cX6_apply 21 = .ok (.getfield 56, 3) := by decide +kernel
theorem dX6_apply_24 : decode cX6_apply 24 = .ok (.if_icmp .ge 181, 3) := by decide +kernel
theorem dX6_apply_27 : decode cX6_apply 27 = .ok (.iload 4, 2) := by decide +kernel
theorem dX6_apply_29 : decode cX6_apply 29 = .ok (.sipush 200, 3) := by decide +kernel
theorem dX6_apply_32 : decode cX6_apply 32 = .ok (.if_icmp .ge 173, 3) := by decide +kernel
theorem dX6_apply_35 : decode cX6_apply 35 = .ok (.aload_n 0, 1) := by decide +kernel
theorem dX6_apply_36 : decode cX6_apply 36 = .ok (.getfield 21, 3) := by decide +kernel
theorem dX6_apply_39 : decode cX6_apply 39 = .ok (.iload 5, 2) := by decide +kernel
theorem dX6_apply_41 : decode cX6_apply 41 = .ok (.invokevirtual 59, 3) := by decide +kernel
theorem dX6_apply_44 : decode cX6_apply 44 = .ok (.istore 6, 2) := by decide +kernel
theorem dX6_apply_46 : decode cX6_apply 46 = .ok (.aload_n 0, 1) := by decide +kernel
theorem dX6_apply_47 : decode cX6_apply 47 = .ok (.getfield 25, 3) := by decide +kernel
theorem dX6_apply_50 : decode cX6_apply 50 = .ok (.iload 6, 2) := by decide +kernel
theorem dX6_apply_52 : decode cX6_apply 52 = .ok (.aload_n 0, 1) := by decide +kernel
theorem dX6_apply_53 : decode cX6_apply 53 = .ok (.getfield 21, 3) := by decide +kernel
theorem dX6_apply_56 : decode cX6_apply 56 = .ok (.iload 5, 2) := by decide +kernel
theorem dX6_apply_58 : decode cX6_apply 58 = .ok (.invokevirtual 62, 3) := by decide +kernel
theorem dX6_apply_61 : decode cX6_apply 61 = .ok (.invokevirtual 65, 3) := by decide +kernel
theorem dX6_apply_64 : decode cX6_apply 64 = .ok (.iload 6, 2) := by decide +kernel
theorem dX6_apply_66 : decode cX6_apply 66 = .ok (.invokestatic 69, 3) := by decide +kernel
theorem dX6_apply_69 : decode cX6_apply 69 = .ok (.ifCond .le 37, 3) := by decide +kernel
theorem dX6_apply_72 : decode cX6_apply 72 = .ok (.aload_n 0, 1) := by decide +kernel
theorem dX6_apply_73 : decode cX6_apply 73 = .ok (.getfield 9, 3) := by decide +kernel
theorem dX6_apply_76 : decode cX6_apply 76 = .ok (.iload 4, 2) := by decide +kernel
theorem dX6_apply_78 : decode cX6_apply 78 = .ok (.aload_n 0, 1) := by decide +kernel
theorem dX6_apply_79 : decode cX6_apply 79 = .ok (.getfield 25, 3) := by decide +kernel
theorem dX6_apply_82 : decode cX6_apply 82 = .ok (.getfield 56, 3) := by decide +kernel
theorem dX6_apply_85 : decode cX6_apply 85 = .ok (.iconst 1, 1) := by decide +kernel
theorem dX6_apply_86 : decode cX6_apply 86 = .ok (.isub, 1) := by decide +kernel
theorem dX6_apply_87 : decode cX6_apply 87 = .ok (.iastore, 1) := by decide +kernel
theorem dX6_apply_88 : decode cX6_apply 88 = .ok (.aload_n 0, 1) := by decide +kernel
theorem dX6_apply_89 : decode cX6_apply 89 = .ok (.getfield 15, 3) := by decide +kernel
theorem dX6_apply_92 : decode cX6_apply 92 = .ok (.iload 4, 2) := by decide +kernel
theorem dX6_apply_94 : decode cX6_apply 94 = .ok (.iload 6, 2) := by decide +kernel
theorem dX6_apply_96 : decode cX6_apply 96 = .ok (.invokestatic 69, 3) := by decide +kernel
theorem dX6_apply_99 : decode cX6_apply 99 = .ok (.iastore, 1) := by decide +kernel
theorem dX6_apply_100 : decode cX6_apply 100 = .ok (.iinc 4 1, 3) := by decide +kernel
theorem dX6_apply_103 : decode cX6_apply 103 = .ok (.goto 96, 3) := by decide +kernel
theorem dX6_apply_106 : decode cX6_apply 106 = .ok (.iload 4, 2) := by decide +kernel
theorem dX6_apply_108 : decode cX6_apply 108 = .ok (.iconst 1, 1) := by decide +kernel
theorem dX6_apply_109 : decode cX6_apply 109 = .ok (.isub, 1) := by decide +kernel
theorem dX6_apply_110 : decode cX6_apply 110 = .ok (.istore 7, 2) := by decide +kernel
theorem dX6_apply_112 : decode cX6_apply 112 = .ok (.iload 7, 2) := by decide +kernel
theorem dX6_apply_114 : decode cX6_apply 114 = .ok (.ifCond .lt 85, 3) := by decide +kernel
theorem dX6_apply_117 : decode cX6_apply 117 = .ok (.aload_n 0, 1) := by decide +kernel
theorem dX6_apply_118 : decode cX6_apply 118 = .ok (.getfield 15, 3) := by decide +kernel
theorem dX6_apply_121 : decode cX6_apply 121 = .ok (.iload 7, 2) := by decide +kernel
theorem dX6_apply_123 : decode cX6_apply 123 = .ok (.dup2, 1) := by decide +kernel
theorem dX6_apply_124 : decode cX6_apply 124 = .ok (.iaload, 1) := by decide +kernel
theorem dX6_apply_125 : decode cX6_apply 125 = .ok (.iconst 1, 1) := by decide +kernel
theorem dX6_apply_126 : decode cX6_apply 126 = .ok (.isub, 1) := by decide +kernel
theorem dX6_apply_127 : decode cX6_apply 127 = .ok (.iastore, 1) := by decide +kernel
theorem dX6_apply_128 : decode cX6_apply 128 = .ok (.aload_n 0, 1) := by decide +kernel
theorem dX6_apply_129 : decode cX6_apply 129 = .ok (.getfield 15, 3) := by decide +kernel
theorem dX6_apply_132 : decode cX6_apply 132 = .ok (.iload 7, 2) := by decide +kernel
theorem dX6_apply_134 : decode cX6_apply 134 = .ok (.iaload, 1) := by decide +kernel
theorem dX6_apply_135 : decode cX6_apply 135 = .ok (.ifCond .le 6, 3) := by decide +kernel
theorem dX6_apply_138 : decode cX6_apply 138 = .ok (.goto 61, 3) := by decide +kernel
theorem dX6_apply_141 : decode cX6_apply 141 = .ok (.iload 7, 2) := by decide +kernel
theorem dX6_apply_143 : decode cX6_apply 143 = .ok (.istore 4, 2) := by decide +kernel
theorem dX6_apply_145 : decode cX6_apply 145 = .ok (.aload_n 0, 1) := by decide +kernel
theorem dX6_apply_146 : decode cX6_apply 146 = .ok (.getfield 25, 3) := by decide +kernel
theorem dX6_apply_149 : decode cX6_apply 149 = .ok (.aload_n 0, 1) := by decide +kernel
theorem dX6_apply_150 : decode cX6_apply 150 = .ok (.getfield 9, 3) := by decide +kernel
theorem dX6_apply_153 : decode cX6_apply 153 = .ok (.iload 7, 2) := by decide +kernel
theorem dX6_apply_155 : decode cX6_apply 155 = .ok (.iaload, 1) := by decide +kernel
theorem dX6_apply_156 : decode cX6_apply 156 = .ok (.invokevirtual 72, 3) := by decide +kernel
theorem dX6_apply_159 : decode cX6_apply 159 = .ok (.aload_n 0, 1) := by decide +kernel
theorem dX6_apply_160 : decode cX6_apply 160 = .ok (.getfield 25, 3) := by decide +kernel
theorem dX6_apply_163 : decode cX6_apply 163 = .ok (.aload_n 0, 1) := by decide +kernel
theorem dX6_apply_164 : decode cX6_apply 164 = .ok (.getfield 9, 3) := by decide +kernel
theorem dX6_apply_167 : decode cX6_apply 167 = .ok (.iload 7, 2) := by decide +kernel
theorem dX6_apply_169 : decode cX6_apply 169 = .ok (.iaload, 1) := by decide +kernel
theorem dX6_apply_170 : decode cX6_apply 170 = .ok (.iload_n 1, 1) := by decide +kernel
theorem dX6_apply_171 : decode cX6_apply 171 = .ok (.iload_n 2, 1) := by decide +kernel
theorem dX6_apply_172 : decode cX6_apply 172 = .ok (.aload_n 0, 1) := by decide +kernel
theorem dX6_apply_173 : decode cX6_apply 173 = .ok (.getfield 21, 3) := by decide +kernel
theorem dX6_apply_176 : decode cX6_apply 176 = .ok (.getfield 56, 3) := by decide +kernel
theorem dX6_apply_179 : decode cX6_apply 179 = .ok (.iconst 1, 1) := by decide +kernel
theorem dX6_apply_180 : decode cX6_apply 180 = .ok (.isub, 1) := by decide +kernel
theorem dX6_apply_181 : decode cX6_apply 181 = .ok (.iload 5, 2) := by decide +kernel
theorem dX6_apply_183 : decode cX6_apply 183 = .ok (.isub, 1) := by decide +kernel
theorem dX6_apply_184 : decode cX6_apply 184 = .ok (.invokestatic 76, 3) := by decide +kernel
theorem dX6_apply_187 : decode cX6_apply 187 = .ok (.ifCond .eq 6, 3) := by decide +kernel
theorem dX6_apply_190 : decode cX6_apply 190 = .ok (.iinc 3 1, 3) := by decide +kernel
theorem dX6_apply_193 : decode cX6_apply 193 = .ok (.iinc 7 (-1), 3) := by decide +kernel
theorem dX6_apply_196 : decode cX6_apply 196 = .ok (.goto (-84), 3) := by decide +kernel
theorem dX6_apply_199 : decode cX6_apply 199 = .ok (.iinc 5 1, 3) := by decide +kernel
theorem dX6_apply_202 : decode cX6_apply 202 = .ok (.goto (-187), 3) := by decide +kernel
theorem dX6_apply_205 : decode cX6_apply 205 = .ok (.aload_n 0, 1) := by decide +kernel
theorem dX6_apply_206 : decode cX6_apply 206 = .ok (.getfield 21, 3) := by decide +kernel
theorem dX6_apply_209 : decode cX6_apply 209 = .ok (.astore 5, 2) := by decide +kernel
theorem dX6_apply_211 : decode cX6_apply 211 = .ok (.aload_n 0, 1) := by decide +kernel
theorem dX6_apply_212 : decode cX6_apply 212 = .ok (.aload_n 0, 1) := by decide +kernel
theorem dX6_apply_213 : decode cX6_apply 213 = .ok (.getfield 25, 3) := by decide +kernel
theorem dX6_apply_216 : decode cX6_apply 216 = .ok (.putfield 21, 3) := by decide +kernel
theorem dX6_apply_219 : decode cX6_apply 219 = .ok (.aload_n 0, 1) := by decide +kernel
theorem dX6_apply_220 : decode cX6_apply 220 = .ok (.aload 5, 2) := by decide +kernel
theorem dX6_apply_222 : decode cX6_apply 222 = .ok (.putfield 25, 3) := by decide +kernel
theorem dX6_apply_225 : decode cX6_apply 225 = .ok (.iload_n 3, 1) := by decide +kernel
theorem dX6_apply_226 : decode cX6_apply 226 = .ok (.ireturn, 1) := by decide +kernel
theorem dX7_init_0 : decode cX7_init 0 = .ok (.aload_n 0, 1) := by decide +kernel
theorem dX7_init_1 : decode cX7_init 1 = .ok (.invokespecial 1, 3) := by decide +kernel
theorem dX7_init_4 : decode cX7_init 4 = .ok (.aload_n 0, 1) := by decide +kernel
theorem dX7_init_5 : decode cX7_init 5 = .ok (.new 7, 3) := by decide +kernel
theorem dX7_init_8 : decode cX7_init 8 = .ok (.dup, 1) := by decide +kernel
theorem dX7_init_9 : decode cX7_init 9 = .ok (.invokespecial 9, 3) := by decide +kernel
theorem dX7_init_12 : decode cX7_init 12 = .ok (.putfield 10, 3) := by decide +kernel
theorem dX7_init_15 : decode cX7_init 15 = .ok (.aload_n 0, 1) := by decide +kernel
theorem dX7_init_16 : decode cX7_init 16 = .ok (.new 16, 3) := by decide +kernel
theorem dX7_init_19 : decode cX7_init 19 = .ok (.dup, 1) := by decide +kernel
theorem dX7_init_20 : decode cX7_init 20 = .ok (.invokespecial 18, 3) := by decide +kernel
theorem dX7_init_23 : decode cX7_init 23 = .ok (.putfield 19, 3) := by decide +kernel
theorem dX7_init_26 : decode cX7_init 26 = .ok (.aload_n 0, 1) := by decide +kernel
theorem dX7_init_27 : decode cX7_init 27 = .ok (.bipush 20, 2) := by decide +kernel
theorem dX7_init_29 : decode cX7_init 29 = .ok (.anewarray 23, 3) := by decide +kernel
theorem dX7_init_32 : decode cX7_init 32 = .ok (.putfield 25, 3) := by decide +kernel
theorem dX7_init_35 : decode cX7_init 35 = .ok (.aload_n 0, 1) := by decide +kernel
theorem dX7_init_36 : decode cX7_init 36 = .ok (.bipush 8, 2) := by decide +kernel
theorem dX7_init_38 : decode cX7_init 38 = .ok (.anewarray 29, 3) := by decide +kernel
theorem dX7_init_41 : decode cX7_init 41 = .ok (.putfield 31, 3) := by decide +kernel
theorem dX7_init_44 : decode cX7_init 44 = .ok (.aload_n 0, 1) := by decide +kernel
theorem dX7_init_45 : decode cX7_init 45 = .ok (.new 35, 3) := by decide +kernel
theorem dX7_init_48 : decode cX7_init 48 = .ok (.dup, 1) := by decide +kernel
theorem dX7_init_49 : decode cX7_init 49 = .ok (.invokespecial 37, 3) := by decide +kernel
theorem dX7_init_52 : decode cX7_init 52 = .ok (.putfield 38, 3) := by decide +kernel
theorem dX7_init_55 : decode cX7_init 55 = .ok (.aload_n 0, 1) := by decide +kernel
theorem dX7_init_56 : decode cX7_init 56 = .ok (.new 42, 3) := by decide +kernel
theorem dX7_init_59 : decode cX7_init 59 = .ok (.dup, 1) := by decide +kernel
theorem dX7_init_60 : decode cX7_init 60 = .ok (.invokespecial 44, 3) := by decide +kernel
theorem dX7_init_63 : decode cX7_init 63 = .ok (.putfield 45, 3) := by decide +kernel
theorem dX7_init_66 : decode cX7_init 66 = .ok (.aload_n 0, 1) := by decide +kernel
theorem dX7_init_67 : decode cX7_init 67 = .ok (.new 42, 3) := by decide +kernel
theorem dX7_init_70 : decode cX7_init 70 = .ok (.dup, 1) := by decide +kernel
theorem dX7_init_71 : decode cX7_init 71 = .ok (.invokespecial 44, 3) := by decide +kernel
theorem dX7_init_74 : decode cX7_init 74 = .ok (.putfield 49, 3) := by decide +kernel
theorem dX7_init_77 : decode cX7_init 77 = .ok (.aload_n 0, 1) := by decide +kernel
theorem dX7_init_78 : decode cX7_init 78 = .ok (.new 23, 3) := by decide +kernel
theorem dX7_init_81 : decode cX7_init 81 = .ok (.dup, 1) := by decide +kernel
theorem dX7_init_82 : decode cX7_init 82 = .ok (.invokespecial 52, 3) := by decide +kernel
theorem dX7_init_85 : decode cX7_init 85 = .ok (.putfield 53, 3) := by decide +kernel
theorem dX7_init_88 : decode cX7_init 88 = .ok (.aload_n 0, 1) := by decide +kernel
theorem dX7_init_89 : decode cX7_init 89 = .ok (.new 23, 3) := by decide +kernel
theorem dX7_init_92 : decode cX7_init 92 = .ok (.dup, 1) := by decide +kernel
theorem dX7_init_93 : decode cX7_init 93 = .ok (.invokespecial 52, 3) := by decide +kernel
theorem dX7_init_96 : decode cX7_init 96 = .ok (.putfield 57, 3) := by decide +kernel
theorem dX7_init_99 : decode cX7_init 99 = .ok (.aload_n 0, 1) := by decide +kernel
theorem dX7_init_100 : decode cX7_init 100 = .ok (.new 23, 3) := by decide +kernel
theorem dX7_init_103 : decode cX7_init 103 = .ok (.dup, 1) := by decide +kernel
theorem dX7_init_104 : decode cX7_init 104 = .ok (.invokespecial 52, 3) := by decide +kernel
theorem dX7_init_107 : decode cX7_init 107 = .ok (.putfield 60, 3) := by decide +kernel
theorem dX7_init_110 : decode cX7_init 110 = .ok (.aload_n 0, 1) := by decide +kernel
theorem dX7_init_111 : decode cX7_init 111 = .ok (.iconst 0, 1) := by decide +kernel
theorem dX7_init_112 : decode cX7_init 112 = .ok (.putfield 63, 3) := by decide +kernel
theorem dX7_init_115 : decode cX7_init 115 = .ok (.aload_n 0, 1) := by decide +kernel
theorem dX7_init_116 : decode cX7_init 116 = .ok (.iconst (-1), 1) := by decide +kernel
theorem dX7_init_117 : decode cX7_init 117 = .ok (.putfield 67, 3) := by decide +kernel
theorem dX7_init_120 : decode cX7_init 120 = .ok (.iconst 0, 1) := by decide +kernel
theorem dX7_init_121 : decode cX7_init 121 = .ok (.istore_n 1, 1) := by decide +kernel
theorem dX7_init_122 : decode cX7_init 122 = .ok (.iload_n 1, 1) := by decide +kernel
theorem dX7_init_123 : decode cX7_init 123 = .ok (.bipush 20, 2) := by decide +kernel
theorem dX7_init_125 : decode cX7_init 125 = .ok (.if_icmp .ge 22, 3) := by decide +kernel
theorem dX7_init_128 : decode cX7_init 128 = .ok (.aload_n 0, 1) := by decide +kernel
theorem dX7_init_129 : decode cX7_init 129 = .ok (.getfield 25, 3) := by decide +kernel
theorem dX7_init_132 : decode cX7_init 132 = .ok (.iload_n 1, 1) := by decide +kernel
theorem dX7_init_133 : decode cX7_init 133 = .ok (.new 23, 3) := by decide +kernel
theorem dX7_init_136 : decode cX7_init 136 = .ok (.dup, 1) := by decide +kernel
theorem dX7_init_137 : decode cX7_init 137 = .ok (.invokespecial 52, 3) := by decide +kernel
theorem dX7_init_140 : decode cX7_init 140 = .ok (.aastore, 1) := by decide +kernel
theorem dX7_init_141 : decode cX7_init 141 = .ok (.iinc 1 1, 3) := by decide +kernel
theorem dX7_init_144 : decode cX7_init 144 = .ok (.goto (-22), 3) := by decide +kernel
theorem dX7_init_147 : decode cX7_init 147 = .ok (.iconst 0, 1) := by decide +kernel
theorem dX7_init_148 : decode cX7_init 148 = .ok (.istore_n 1, 1) := by decide +kernel
theorem dX7_init_149 : decode cX7_init 149 = .ok (.iload_n 1, 1) := by decide +kernel
theorem dX7_init_150 : decode cX7_init 150 = .ok (.bipush 8, 2) := by decide +kernel
theorem dX7_init_152 : decode cX7_init 152 = .ok (.if_icmp .ge 22, 3) := by decide +kernel
theorem dX7_init_155 : decode cX7_init 155 = .ok (.aload_n 0, 1) := by decide +kernel
theorem dX7_init_156 : decode cX7_init 156 = .ok (.getfield 31, 3) := by decide +kernel
theorem dX7_init_159 : decode cX7_init 159 = .ok (.iload_n 1, 1) := by decide +kernel
theorem dX7_init_160 : decode cX7_init 160 = .ok (.new 29, 3) := by decide +kernel
theorem dX7_init_163 : decode cX7_init 163 = .ok (.dup, 1) := by decide +kernel
theorem dX7_init_164 : decode cX7_init 164 = .ok (.invokespecial 70, 3) := by decide +kernel
theorem dX7_init_167 : decode cX7_init 167 = .ok (.aastore, 1) := by decide +kernel
theorem dX7_init_168 : decode cX7_init 168 = .ok (.iinc 1 1, 3) := by decide +kernel
theorem dX7_init_171 : decode cX7_init 171 = .ok (.goto (-22), 3) := by decide +kernel
theorem dX7_init_174 : decode cX7_init 174 = .ok (.aload_n 0, 1) := by decide +kernel
theorem dX7_init_175 : decode cX7_init 175 = .ok (.getfield 60, 3) := by decide +kernel
theorem dX7_init_178 : decode cX7_init 178 = .ok (.iconst 0, 1) := by decide +kernel
theorem dX7_init_179 : decode cX7_init 179 = .ok (.iconst 0, 1) := by decide +kernel
theorem dX7_init_180 : decode cX7_init 180 = .ok (.invokevirtual 71, 3) := by decide +kernel
theorem dX7_init_183 : decode cX7_init 183 = .ok (.return_, 1) := by decide +kernel
theorem dX7_many_0 : decode cX7_many 0 = .ok (.iload_n 1, 1) := by decide +kernel
theorem dX7_many_1 : decode cX7_many 1 = .ok (.iconst 1, 1) := by decide +kernel
theorem dX7_many_2 : decode cX7_many 2 = .ok (.bipush 15, 2) := by decide +kernel
theorem dX7_many_4 : decode cX7_many 4 = .ok (.invokestatic 75, 3) := by decide +kernel
theorem dX7_many_7 : decode cX7_many 7 = .ok (.ifCond .eq 14, 3) := by decide +kernel
theorem dX7_many_10 : decode cX7_many 10 = .ok (.aload_n 0, 1) := by decide +kernel
theorem dX7_many_11 : decode cX7_many 11 = .ok (.getfield 10, 3) := by decide +kernel
theorem dX7_many_14 : decode cX7_many 14 = .ok (.iload_n 1, 1) := by decide +kernel
theorem dX7_many_15 : decode cX7_many 15 = .ok (.invokevirtual 79, 3) := by decide +kernel
theorem dX7_many_18 : decode cX7_many 18 = .ok (.goto 6, 3) := by decide +kernel
theorem dX7_many_21 : decode cX7_many 21 = .ok (.ldc2_w 83, 3) := by decide +kernel
theorem dX7_many_24 : decode cX7_many 24 = .ok (.lreturn, 1) := by decide +kernel
theorem dX7_nth_0 : decode cX7_nth 0 = .ok (.aload_n 0, 1) := by decide +kernel
theorem dX7_nth_1 : decode cX7_nth 1 = .ok (.iload_n 1, 1) := by decide +kernel
theorem dX7_nth_2 : decode cX7_nth 2 = .ok (.invokevirtual 85, 3) := by decide +kernel
theorem dX7_nth_5 : decode cX7_nth 5 = .ok (.astore 5, 2) := by decide +kernel
theorem dX7_nth_7 : decode cX7_nth 7 = .ok (.aload 5, 2) := by decide +kernel
theorem dX7_nth_9 : decode cX7_nth 9 = .ok (.ifnull 32, 3) := by decide +kernel
theorem dX7_nth_12 : decode cX7_nth 12 = .ok (.iload_n 2, 1) := by decide +kernel
theorem dX7_nth_13 : decode cX7_nth 13 = .ok (.iconst 1, 1) := by decide +kernel
theorem dX7_nth_14 : decode cX7_nth 14 = .ok (.bipush 15, 2) := by decide +kernel
theorem dX7_nth_16 : decode cX7_nth 16 = .ok (.invokestatic 75, 3) := by decide +kernel
theorem dX7_nth_19 : decode cX7_nth 19 = .ok (.ifCond .eq 22, 3) := by decide +kernel
theorem dX7_nth_22 : decode cX7_nth 22 = .ok (.lload_n 3, 1) := by decide +kernel
theorem dX7_nth_23 : decode cX7_nth 23 = .ok (.lconst 0, 1) := by decide +kernel
theorem dX7_nth_24 : decode cX7_nth 24 = .ok (.lcmp, 1) := by decide +kernel
theorem dX7_nth_25 : decode cX7_nth 25 = .ok (.ifCond .lt 16, 3) := by decide +kernel
theorem dX7_nth_28 : decode cX7_nth 28 = .ok (.lload_n 3, 1) := by decide +kernel
theorem dX7_nth_29 : decode cX7_nth 29 = .ok (.aload_n 0, 1) := by decide +kernel
theorem dX7_nth_30 : decode cX7_nth 30 = .ok (.getfield 10, 3) := by decide +kernel
theorem dX7_nth_33 : decode cX7_nth 33 = .ok (.iload_n 2, 1) := by decide +kernel
theorem dX7_nth_34 : decode cX7_nth 34 = .ok (.invokevirtual 79, 3) := by decide +kernel
theorem dX7_nth_37 : decode cX7_nth 37 = .ok (.lcmp, 1) := by decide +kernel
theorem dX7_nth_38 : decode cX7_nth 38 = .ok (.ifCond .lt 5, 3) := by decide +kernel
theorem dX7_nth_41 : decode cX7_nth 41 = .ok (.iconst (-1), 1) := by decide +kernel
theorem dX7_nth_42 : decode cX7_nth 42 = .ok (.ireturn, 1) := by decide +kernel
theorem dX7_nth_43 : decode cX7_nth 43 = .ok (.aload_n 0, 1) := by decide +kernel
theorem dX7_nth_44 : decode cX7_nth 44 = .ok (.getfield 10, 3) := by decide +kernel
theorem dX7_nth_47 : decode cX7_nth 47 = .ok (.aload 5, 2) := by decide +kernel
theorem dX7_nth_49 : decode cX7_nth 49 = .ok (.iload_n 2, 1) := by decide +kernel
theorem dX7_nth_50 : decode cX7_nth 50 = .ok (.lload_n 3, 1) := by decide +kernel
theorem dX7_nth_51 : decode cX7_nth 51 = .ok (.invokevirtual 89, 3) := by decide +kernel
theorem dX7_nth_54 : decode cX7_nth 54 = .ok (.aload 5, 2) := by decide +kernel
theorem dX7_nth_56 : decode cX7_nth 56 = .ok (.getfield 93, 3) := by decide +kernel
theorem dX7_nth_59 : decode cX7_nth 59 = .ok (.ireturn, 1) := by decide +kernel
theorem dX7_number_0 : decode cX7_number 0 = .ok (.aload_n 0, 1) := by decide +kernel
theorem dX7_number_1 : decode cX7_number 1 = .ok (.iload_n 1, 1) := by decide +kernel
theorem dX7_number_2 : decode cX7_number 2 = .ok (.invokevirtual 96, 3) := by decide +kernel
theorem dX7_number_5 : decode cX7_number 5 = .ok (.astore_n 2, 1) := by decide +kernel
theorem dX7_number_6 : decode cX7_number 6 = .ok (.aload_n 2, 1) := by decide +kernel
theorem dX7_number_7 : decode cX7_number 7 = .ok (.ifnonnull 7, 3) := by decide +kernel
theorem dX7_number_10 : decode cX7_number 10 = .ok (.ldc2_w 83, 3) := by decide +kernel
theorem dX7_number_13 : decode cX7_number 13 = .ok (.lreturn, 1) := by decide +kernel
theorem dX7_number_14 : decode cX7_number 14 = .ok (.aload_n 0, 1) := by decide +kernel
theorem dX7_number_15 : decode cX7_number 15 = .ok (.getfield 10, 3) := by decide +kernel
theorem dX7_number_18 : decode cX7_number 18 = .ok (.aload_n 2, 1) := by decide +kernel
theorem dX7_number_19 : decode cX7_number 19 = .ok (.invokevirtual 99, 3) := by decide +kernel
theorem dX7_number_22 : decode cX7_number 22 = .ok (.ifCond .eq 14, 3) := by decide +kernel
theorem dX7_number_25 : decode cX7_number 25 = .ok (.aload_n 0, 1) := by decide +kernel
theorem dX7_number_26 : decode cX7_number 26 = .ok (.getfield 10, 3) := by decide +kernel
theorem dX7_number_29 : decode cX7_number 29 = .ok (.aload_n 2, 1) := by decide +kernel
theorem dX7_number_30 : decode cX7_number 30 = .ok (.invokevirtual 103, 3) := by decide +kernel
theorem dX7_number_33 : decode cX7_number 33 = .ok (.goto 6, 3) := by decide +kernel
theorem dX7_number_36 : decode cX7_number 36 = .ok (.ldc2_w 107, 3) := by decide +kernel
theorem dX7_number_39 : decode cX7_number 39 = .ok (.lreturn, 1) := by decide +kernel
theorem dX7_node_0 : decode cX7_node 0 = .ok (.iload_n 1, 1) := by decide +kernel
theorem dX7_node_1 : decode cX7_node 1 = .ok (.iconst 0, 1) := by decide +kernel
theorem dX7_node_2 : decode cX7_node 2 = .ok (.bipush 8, 2) := by decide +kernel
theorem dX7_node_4 : decode cX7_node 4 = .ok (.invokestatic 75, 3) := by decide +kernel
theorem dX7_node_7 : decode cX7_node 7 = .ok (.ifCond .eq 11, 3) := by decide +kernel
theorem dX7_node_10 : decode cX7_node 10 = .ok (.iload_n 1, 1) := by decide +kernel
theorem dX7_node_11 : decode cX7_node 11 = .ok (.ifCond .eq 9, 3) := by decide +kernel
theorem dX7_node_14 : decode cX7_node 14 = .ok (.iload_n 2, 1) := by decide +kernel
theorem dX7_node_15 : decode cX7_node 15 = .ok (.ifCond .eq 5, 3) := by decide +kernel
theorem dX7_node_18 : decode cX7_node 18 = .ok (.iconst (-1), 1) := by decide +kernel
theorem dX7_node_19 : decode cX7_node 19 = .ok (.ireturn, 1) := by decide +kernel
theorem dX7_node_20 : decode cX7_node 20 = .ok (.aload_n 0, 1) := by decide +kernel
theorem dX7_node_21 : decode cX7_node 21 = .ok (.getfield 19, 3) := by decide +kernel
theorem dX7_node_24 : decode cX7_node 24 = .ok (.getfield 109, 3) := by decide +kernel
theorem dX7_node_27 : decode cX7_node 27 = .ok (.iload_n 1, 1) := by decide +kernel
theorem dX7_node_28 : decode cX7_node 28 = .ok (.invokestatic 112, 3) := by decide +kernel
theorem dX7_node_31 : decode cX7_node 31 = .ok (.if_icmp .ge 6, 3) := by decide +kernel
theorem dX7_node_34 : decode cX7_node 34 = .ok (.bipush (-2), 2) := by decide +kernel
theorem dX7_node_36 : decode cX7_node 36 = .ok (.ireturn, 1) := by decide +kernel
theorem dX7_node_37 : decode cX7_node 37 = .ok (.aload_n 0, 1) := by decide +kernel
theorem dX7_node_38 : decode cX7_node 38 = .ok (.getfield 19, 3) := by decide +kernel
theorem dX7_node_41 : decode cX7_node 41 = .ok (.getfield 116, 3) := by decide +kernel
theorem dX7_node_44 : decode cX7_node 44 = .ok (.getfield 93, 3) := by decide +kernel
theorem dX7_node_47 : decode cX7_node 47 = .ok (.bipush 60, 2) := by decide +kernel
theorem dX7_node_49 : decode cX7_node 49 = .ok (.if_icmp .lt 6, 3) := by decide +kernel
theorem dX7_node_52 : decode cX7_node 52 = .ok (.bipush (-3), 2) := by decide +kernel
theorem dX7_node_54 : decode cX7_node 54 = .ok (.ireturn, 1) := by decide +kernel
theorem dX7_node_55 : decode cX7_node 55 = .ok (.aload_n 0, 1) := by decide +kernel
theorem dX7_node_56 : decode cX7_node 56 = .ok (.getfield 19, 3) := by decide +kernel
theorem dX7_node_59 : decode cX7_node 59 = .ok (.iload_n 1, 1) := by decide +kernel
theorem dX7_node_60 : decode cX7_node 60 = .ok (.iload_n 2, 1) := by decide +kernel
theorem dX7_node_61 : decode cX7_node 61 = .ok (.invokevirtual 119, 3) := by decide +kernel
theorem dX7_node_64 : decode cX7_node 64 = .ok (.aload_n 0, 1) := by decide +kernel
theorem dX7_node_65 : decode cX7_node 65 = .ok (.getfield 19, 3) := by decide +kernel
theorem dX7_node_68 : decode cX7_node 68 = .ok (.getfield 109, 3) := by decide +kernel
theorem dX7_node_71 : decode cX7_node 71 = .ok (.ireturn, 1) := by decide +kernel
theorem dX7_keep_0 : decode cX7_keep 0 = .ok (.aload_n 0, 1) := by decide +kernel
theorem dX7_keep_1 : decode cX7_keep 1 = .ok (.iload_n 1, 1) := by decide +kernel
theorem dX7_keep_2 : decode cX7_keep 2 = .ok (.invokevirtual 85, 3) := by decide +kernel
theorem dX7_keep_5 : decode cX7_keep 5 = .ok (.astore_n 2, 1) := by decide +kernel
theorem dX7_keep_6 : decode cX7_keep 6 = .ok (.aload_n 2, 1) := by decide +kernel
theorem dX7_keep_7 : decode cX7_keep 7 = .ok (.ifnonnull 5, 3) := by decide +kernel
theorem dX7_keep_10 : decode cX7_keep 10 = .ok (.iconst (-1), 1) := by decide +kernel
theorem dX7_keep_11 : decode cX7_keep 11 = .ok (.ireturn, 1) := by decide +kernel
theorem dX7_keep_12 : decode cX7_keep 12 = .ok (.aload_n 0, 1) := by decide +kernel
theorem dX7_keep_13 : decode cX7_keep 13 = .ok (.getfield 19, 3) := by decide +kernel
theorem dX7_keep_16 : decode cX7_keep 16 = .ok (.getfield 109, 3) := by decide +kernel
theorem dX7_keep_19 : decode cX7_keep 19 = .ok (.iconst 1, 1) := by decide +kernel
theorem dX7_keep_20 : decode cX7_keep 20 = .ok (.if_icmp .eq 6, 3) := by decide +kernel
theorem dX7_keep_23 : decode cX7_keep 23 = .ok (.bipush (-2), 2) := by decide +kernel
theorem dX7_keep_25 : decode cX7_keep 25 = .ok (.ireturn, 1) := by decide +kernel
theorem dX7_keep_26 : decode cX7_keep 26 = .ok (.aload_n 2, 1) := by decide +kernel
theorem dX7_keep_27 : decode cX7_keep 27 = .ok (.aload_n 0, 1) := by decide +kernel
theorem dX7_keep_28 : decode cX7_keep 28 = .ok (.getfield 19, 3) := by decide +kernel
theorem dX7_keep_31 : decode cX7_keep 31 = .ok (.getfield 116, 3) := by decide +kernel
theorem dX7_keep_34 : decode cX7_keep 34 = .ok (.invokevirtual 122, 3) := by decide +kernel
theorem dX7_keep_37 : decode cX7_keep 37 = .ok (.aload_n 0, 1) := by decide +kernel
theorem dX7_keep_38 : decode cX7_keep 38 = .ok (.getfield 19, 3) := by decide +kernel
theorem dX7_keep_41 : decode cX7_keep 41 = .ok (.invokevirtual 126, 3) := by decide +kernel
theorem dX7_keep_44 : decode cX7_keep 44 = .ok (.aload_n 2, 1) := by decide +kernel
theorem dX7_keep_45 : decode cX7_keep 45 = .ok (.getfield 93, 3) := by decide +kernel
theorem dX7_keep_48 : decode cX7_keep 48 = .ok (.ireturn, 1) := by decide +kernel
theorem dX7_drop_0 : decode cX7_drop 0 = .ok (.aload_n 0, 1) := by decide +kernel
theorem dX7_drop_1 : decode cX7_drop 1 = .ok (.iload_n 1, 1) := by decide +kernel
theorem dX7_drop_2 : decode cX7_drop 2 = .ok (.invokevirtual 96, 3) := by decide +kernel
theorem dX7_drop_5 : decode cX7_drop 5 = .ok (.astore_n 2, 1) := by decide +kernel
theorem dX7_drop_6 : decode cX7_drop 6 = .ok (.aload_n 2, 1) := by decide +kernel
theorem dX7_drop_7 : decode cX7_drop 7 = .ok (.ifnonnull 5, 3) := by decide +kernel
theorem dX7_drop_10 : decode cX7_drop 10 = .ok (.iconst (-1), 1) := by decide +kernel
theorem dX7_drop_11 : decode cX7_drop 11 = .ok (.ireturn, 1) := by decide +kernel
theorem dX7_drop_12 : decode cX7_drop 12 = .ok (.aload_n 2, 1) := by decide +kernel
theorem dX7_drop_13 : decode cX7_drop 13 = .ok (.getfield 93, 3) := by decide +kernel
theorem dX7_drop_16 : decode cX7_drop 16 = .ok (.istore_n 3, 1) := by decide +kernel
theorem dX7_drop_17 : decode cX7_drop 17 = .ok (.aload_n 2, 1) := by decide +kernel
theorem dX7_drop_18 : decode cX7_drop 18 = .ok (.invokevirtual 129, 3) := by decide +kernel
theorem dX7_drop_21 : decode cX7_drop 21 = .ok (.iload_n 3, 1) := by decide +kernel
theorem dX7_drop_22 : decode cX7_drop 22 = .ok (.ireturn, 1) := by decide +kernel
theorem dX7_read_0 : decode cX7_read 0 = .ok (.aload_n 0, 1) := by decide +kernel
theorem dX7_read_1 : decode cX7_read 1 = .ok (.iload_n 1, 1) := by decide +kernel
theorem dX7_read_2 : decode cX7_read 2 = .ok (.invokevirtual 96, 3) := by decide +kernel
theorem dX7_read_5 : decode cX7_read 5 = .ok (.astore 4, 2) := by decide +kernel
theorem dX7_read_7 : decode cX7_read 7 = .ok (.aload 4, 2) := by decide +kernel
theorem dX7_read_9 : decode cX7_read 9 = .ok (.ifnonnull 8, 3) := by decide +kernel
theorem dX7_read_12 : decode cX7_read 12 = .ok (.ldc 130, 2) := by decide +kernel
theorem dX7_read_14 : decode cX7_read 14 = .ok (.goto 10, 3) := by decide +kernel
theorem dX7_read_17 : decode cX7_read 17 = .ok (.aload 4, 2) := by decide +kernel
theorem dX7_read_19 : decode cX7_read 19 = .ok (.iload_n 2, 1) := by decide +kernel
theorem dX7_read_20 : decode cX7_read 20 = .ok (.iload_n 3, 1) := by decide +kernel
theorem dX7_read_21 : decode cX7_read 21 = .ok (.invokestatic 131, 3) := by decide +kernel
theorem dX7_read_24 : decode cX7_read 24 = .ok (.ireturn, 1) := by decide +kernel
theorem dX7_value_0 : decode cX7_value 0 = .ok (.aload_n 0, 1) := by decide +kernel
theorem dX7_value_1 : decode cX7_value 1 = .ok (.iload_n 1, 1) := by decide +kernel
theorem dX7_value_2 : decode cX7_value 2 = .ok (.invokevirtual 96, 3) := by decide +kernel
theorem dX7_value_5 : decode cX7_value 5 = .ok (.astore 4, 2) := by decide +kernel
theorem dX7_value_7 : decode cX7_value 7 = .ok (.aload 4, 2) := by decide +kernel
theorem dX7_value_9 : decode cX7_value 9 = .ok (.ifnonnull 6, 3) := by decide +kernel
theorem dX7_value_12 : decode cX7_value 12 = .ok (.ldc 130, 2) := by decide +kernel
theorem dX7_value_14 : decode cX7_value 14 = .ok (.ireturn, 1) := by decide +kernel
theorem dX7_value_15 : decode cX7_value 15 = .ok (.aload_n 0, 1) := by decide +kernel
theorem dX7_value_16 : decode cX7_value 16 = .ok (.getfield 45, 3) := by decide +kernel
theorem dX7_value_19 : decode cX7_value 19 = .ok (.aload 4, 2) := by decide +kernel
theorem dX7_value_21 : decode cX7_value 21 = .ok (.invokevirtual 135, 3) := by decide +kernel
theorem dX7_value_24 : decode cX7_value 24 = .ok (.aload_n 0, 1) := by decide +kernel
theorem dX7_value_25 : decode cX7_value 25 = .ok (.getfield 45, 3) := by decide +kernel
theorem dX7_value_28 : decode cX7_value 28 = .ok (.iload_n 2, 1) := by decide +kernel
theorem dX7_value_29 : decode cX7_value 29 = .ok (.iload_n 3, 1) := by decide +kernel
theorem dX7_value_30 : decode cX7_value 30 = .ok (.invokevirtual 138, 3) := by decide +kernel
theorem dX7_value_33 : decode cX7_value 33 = .ok (.ifCond .eq 13, 3) := by decide +kernel
theorem dX7_value_36 : decode cX7_value 36 = .ok (.aload_n 0, 1) := by decide +kernel
theorem dX7_value_37 : decode cX7_value 37 = .ok (.getfield 45, 3) := by decide +kernel
theorem dX7_value_40 : decode cX7_value 40 = .ok (.getfield 142, 3) := by decide +kernel
theorem dX7_value_43 : decode cX7_value 43 = .ok (.goto 5, 3) := by decide +kernel
theorem dX7_value_46 : decode cX7_value 46 = .ok (.ldc 130, 2) := by decide +kernel
theorem dX7_value_48 : decode cX7_value 48 = .ok (.ireturn, 1) := by decide +kernel
theorem dX7_safe_0 : decode cX7_safe 0 = .ok (.aload_n 0, 1) := by decide +kernel
theorem dX7_safe_1 : decode cX7_safe 1 = .ok (.iload_n 1, 1) := by decide +kernel
theorem dX7_safe_2 : decode cX7_safe 2 = .ok (.invokevirtual 96, 3) := by decide +kernel
theorem dX7_safe_5 : decode cX7_safe 5 = .ok (.astore_n 3, 1) := by decide +kernel
theorem dX7_safe_6 : decode cX7_safe 6 = .ok (.aload_n 3, 1) := by decide +kernel
theorem dX7_safe_7 : decode cX7_safe 7 = .ok (.ifnull 13, 3) := by decide +kernel
theorem dX7_safe_10 : decode cX7_safe 10 = .ok (.iload_n 2, 1) := by decide +kernel
theorem dX7_safe_11 : decode cX7_safe 11 = .ok (.iconst 0, 1) := by decide +kernel
theorem dX7_safe_12 : decode cX7_safe 12 = .ok (.bipush 6, 2) := by decide +kernel
theorem dX7_safe_14 : decode cX7_safe 14 = .ok (.invokestatic 75, 3) := by decide +kernel
theorem dX7_safe_17 : decode cX7_safe 17 = .ok (.ifCond .ne 5, 3) := by decide +kernel
theorem dX7_safe_20 : decode cX7_safe 20 = .ok (.iconst (-1), 1) := by decide +kernel
theorem dX7_safe_21 : decode cX7_safe 21 = .ok (.ireturn, 1) := by decide +kernel
theorem dX7_safe_22 : decode cX7_safe 22 = .ok (.aload_n 0, 1) := by decide +kernel
theorem dX7_safe_23 : decode cX7_safe 23 = .ok (.aload_n 3, 1) := by decide +kernel
theorem dX7_safe_24 : decode cX7_safe 24 = .ok (.iload_n 2, 1) := by decide +kernel
theorem dX7_safe_25 : decode cX7_safe 25 = .ok (.invokevirtual 145, 3) := by decide +kernel
theorem dX7_safe_28 : decode cX7_safe 28 = .ok (.ifCond .eq 7, 3) := by decide +kernel
theorem dX7_safe_31 : decode cX7_safe 31 = .ok (.iconst 1, 1) := by decide +kernel
theorem dX7_safe_32 : decode cX7_safe 32 = .ok (.goto 4, 3) := by decide +kernel
theorem dX7_safe_35 : decode cX7_safe 35 = .ok (.iconst 0, 1) := by decide +kernel
theorem dX7_safe_36 : decode cX7_safe 36 = .ok (.ireturn, 1) := by decide +kernel
theorem dX7_breed_0 : decode cX7_breed 0 = .ok (.aload_n 0, 1) := by decide +kernel
theorem dX7_breed_1 : decode cX7_breed 1 = .ok (.iload_n 1, 1) := by decide +kernel
theorem dX7_breed_2 : decode cX7_breed 2 = .ok (.invokevirtual 85, 3) := by decide +kernel
theorem dX7_breed_5 : decode cX7_breed 5 = .ok (.astore 6, 2) := by decide +kernel
theorem dX7_breed_7 : decode cX7_breed 7 = .ok (.aload_n 0, 1) := by decide +kernel
theorem dX7_breed_8 : decode cX7_breed 8 = .ok (.iload_n 2, 1) := by decide +kernel
theorem dX7_breed_9 : decode cX7_breed 9 = .ok (.invokevirtual 96, 3) := by decide +kernel
theorem dX7_breed_12 : decode cX7_breed 12 = .ok (.astore 7, 2) := by decide +kernel
theorem dX7_breed_14 : decode cX7_breed 14 = .ok (.aload_n 0, 1) := by decide +kernel
theorem dX7_breed_15 : decode cX7_breed 15 = .ok (.iload 4, 2) := by decide +kernel
theorem dX7_breed_17 : decode cX7_breed 17 = .ok (.invokevirtual 96, 3) := by decide +kernel
theorem dX7_breed_20 : decode cX7_breed 20 = .ok (.astore 8, 2) := by decide +kernel
theorem dX7_breed_22 : decode cX7_breed 22 = .ok (.aload 6, 2) := by decide +kernel
theorem dX7_breed_24 : decode cX7_breed 24 = .ok (.ifnull 32, 3) := by decide +kernel
theorem dX7_breed_27 : decode cX7_breed 27 = .ok (.aload 7, 2) := by decide +kernel
theorem dX7_breed_29 : decode cX7_breed 29 = .ok (.ifnull 27, 3) := by decide +kernel
theorem dX7_breed_32 : decode cX7_breed 32 = .ok (.aload 8, 2) := by decide +kernel
theorem dX7_breed_34 : decode cX7_breed 34 = .ok (.ifnull 22, 3) := by decide +kernel
theorem dX7_breed_37 : decode cX7_breed 37 = .ok (.aload 7, 2) := by decide +kernel
theorem dX7_breed_39 : decode cX7_breed 39 = .ok (.iload_n 3, 1) := by decide +kernel
theorem dX7_breed_40 : decode cX7_breed 40 = .ok (.invokevirtual 149, 3) := by decide +kernel
theorem dX7_breed_43 : decode cX7_breed 43 = .ok (.ifCond .eq 13, 3) := by decide +kernel
theorem dX7_breed_46 : decode cX7_breed 46 = .ok (.aload 8, 2) := by decide +kernel
theorem dX7_breed_48 : decode cX7_breed 48 = .ok (.iload 5, 2) := by decide +kernel
theorem dX7_breed_50 : decode cX7_breed 50 = .ok (.invokevirtual 149, 3) := by decide +kernel
theorem dX7_breed_53 : decode cX7_breed 53 = .ok (.ifCond .ne 5, 3) := by decide +kernel
theorem dX7_breed_56 : decode cX7_breed 56 = .ok (.iconst (-1), 1) := by decide +kernel
theorem dX7_breed_57 : decode cX7_breed 57 = .ok (.ireturn, 1) := by decide +kernel
theorem dX7_breed_58 : decode cX7_breed 58 = .ok (.aload 7, 2) := by decide +kernel
theorem dX7_breed_60 : decode cX7_breed 60 = .ok (.getfield 93, 3) := by decide +kernel
theorem dX7_breed_63 : decode cX7_breed 63 = .ok (.aload 7, 2) := by decide +kernel
theorem dX7_breed_65 : decode cX7_breed 65 = .ok (.iload_n 3, 1) := by decide +kernel
theorem dX7_breed_66 : decode cX7_breed 66 = .ok (.invokevirtual 153, 3) := by decide +kernel
theorem dX7_breed_69 : decode cX7_breed 69 = .ok (.isub, 1) := by decide +kernel
theorem dX7_breed_70 : decode cX7_breed 70 = .ok (.aload 8, 2) := by decide +kernel
theorem dX7_breed_72 : decode cX7_breed 72 = .ok (.iload 5, 2) := by decide +kernel
theorem dX7_breed_74 : decode cX7_breed 74 = .ok (.invokevirtual 153, 3) := by decide +kernel
theorem dX7_breed_77 : decode cX7_breed 77 = .ok (.iadd, 1) := by decide +kernel
theorem dX7_breed_78 : decode cX7_breed 78 = .ok (.bipush 60, 2) := by decide +kernel
theorem dX7_breed_80 : decode cX7_breed 80 = .ok (.if_icmp .le 6, 3) := by decide +kernel
theorem dX7_breed_83 : decode cX7_breed 83 = .ok (.bipush (-3), 2) := by decide +kernel
theorem dX7_breed_85 : decode cX7_breed 85 = .ok (.ireturn, 1) := by decide +kernel
theorem dX7_breed_86 : decode cX7_breed 86 = .ok (.aload_n 0, 1) := by decide +kernel
theorem dX7_breed_87 : decode cX7_breed 87 = .ok (.getfield 57, 3) := by decide +kernel
theorem dX7_breed_90 : decode cX7_breed 90 = .ok (.aload 7, 2) := by decide +kernel
theorem dX7_breed_92 : decode cX7_breed 92 = .ok (.iload_n 3, 1) := by decide +kernel
theorem dX7_breed_93 : decode cX7_breed 93 = .ok (.aload 8, 2) := by decide +kernel
theorem dX7_breed_95 : decode cX7_breed 95 = .ok (.iload 5, 2) := by decide +kernel
theorem dX7_breed_97 : decode cX7_breed 97 = .ok (.invokevirtual 156, 3) := by decide +kernel
theorem dX7_breed_100 : decode cX7_breed 100 = .ok (.aload 6, 2) := by decide +kernel
theorem dX7_breed_102 : decode cX7_breed 102 = .ok (.aload_n 0, 1) := by decide +kernel
theorem dX7_breed_103 : decode cX7_breed 103 = .ok (.getfield 57, 3) := by decide +kernel
theorem dX7_breed_106 : decode cX7_breed 106 = .ok (.invokevirtual 122, 3) := by decide +kernel
theorem dX7_breed_109 : decode cX7_breed 109 = .ok (.aload 6, 2) := by decide +kernel
theorem dX7_breed_111 : decode cX7_breed 111 = .ok (.getfield 93, 3) := by decide +kernel
theorem dX7_breed_114 : decode cX7_breed 114 = .ok (.ireturn, 1) := by decide +kernel
theorem dX7_maker_0 : decode cX7_maker 0 = .ok (.aload_n 0, 1) := by decide +kernel
theorem dX7_maker_1 : decode cX7_maker 1 = .ok (.getfield 63, 3) := by decide +kernel
theorem dX7_maker_4 : decode cX7_maker 4 = .ok (.bipush 8, 2) := by decide +kernel
theorem dX7_maker_6 : decode cX7_maker 6 = .ok (.if_icmp .lt 6, 3) := by decide +kernel
theorem dX7_maker_9 : decode cX7_maker 9 = .ok (.bipush (-3), 2) := by decide +kernel
theorem dX7_maker_11 : decode cX7_maker 11 = .ok (.ireturn, 1) := by decide +kernel
theorem dX7_maker_12 : decode cX7_maker 12 = .ok (.aload_n 0, 1) := by decide +kernel
theorem dX7_maker_13 : decode cX7_maker 13 = .ok (.dup, 1) := by decide +kernel
theorem dX7_maker_14 : decode cX7_maker 14 = .ok (.getfield 63, 3) := by decide +kernel
theorem dX7_maker_17 : decode cX7_maker 17 = .ok (.iconst 1, 1) := by decide +kernel
theorem dX7_maker_18 : decode cX7_maker 18 = .ok (.iadd, 1) := by decide +kernel
theorem dX7_maker_19 : decode cX7_maker 19 = .ok (.putfield 63, 3) := by decide +kernel
theorem dX7_maker_22 : decode cX7_maker 22 = .ok (.aload_n 0, 1) := by decide +kernel
theorem dX7_maker_23 : decode cX7_maker 23 = .ok (.getfield 63, 3) := by decide +kernel
theorem dX7_maker_26 : decode cX7_maker 26 = .ok (.iconst 1, 1) := by decide +kernel
theorem dX7_maker_27 : decode cX7_maker 27 = .ok (.isub, 1) := by decide +kernel
theorem dX7_maker_28 : decode cX7_maker 28 = .ok (.ireturn, 1) := by decide +kernel
theorem dX7_turn_0 : decode cX7_turn 0 = .ok (.aload_n 0, 1) := by decide +kernel
theorem dX7_turn_1 : decode cX7_turn 1 = .ok (.iload_n 1, 1) := by decide +kernel
theorem dX7_turn_2 : decode cX7_turn 2 = .ok (.invokevirtual 160, 3) := by decide +kernel
theorem dX7_turn_5 : decode cX7_turn 5 = .ok (.astore 4, 2) := by decide +kernel
theorem dX7_turn_7 : decode cX7_turn 7 = .ok (.aload 4, 2) := by decide +kernel
theorem dX7_turn_9 : decode cX7_turn 9 = .ok (.ifnull 22, 3) := by decide +kernel
theorem dX7_turn_12 : decode cX7_turn 12 = .ok (.iload_n 2, 1) := by decide +kernel
theorem dX7_turn_13 : decode cX7_turn 13 = .ok (.iconst 0, 1) := by decide +kernel
theorem dX7_turn_14 : decode cX7_turn 14 = .ok (.bipush 6, 2) := by decide +kernel
theorem dX7_turn_16 : decode cX7_turn 16 = .ok (.invokestatic 75, 3) := by decide +kernel
theorem dX7_turn_19 : decode cX7_turn 19 = .ok (.ifCond .eq 12, 3) := by decide +kernel
theorem dX7_turn_22 : decode cX7_turn 22 = .ok (.iload_n 3, 1) := by decide +kernel
theorem dX7_turn_23 : decode cX7_turn 23 = .ok (.iconst 0, 1) := by decide +kernel
theorem dX7_turn_24 : decode cX7_turn 24 = .ok (.iconst 2, 1) := by decide +kernel
theorem dX7_turn_25 : decode cX7_turn 25 = .ok (.invokestatic 75, 3) := by decide +kernel
theorem dX7_turn_28 : decode cX7_turn 28 = .ok (.ifCond .ne 5, 3) := by decide +kernel
theorem dX7_turn_31 : decode cX7_turn 31 = .ok (.iconst (-1), 1) := by decide +kernel
theorem dX7_turn_32 : decode cX7_turn 32 = .ok (.ireturn, 1) := by decide +kernel
theorem dX7_turn_33 : decode cX7_turn 33 = .ok (.aload 4, 2) := by decide +kernel
theorem dX7_turn_35 : decode cX7_turn 35 = .ok (.getfield 164, 3) := by decide +kernel
theorem dX7_turn_38 : decode cX7_turn 38 = .ok (.bipush 10, 2) := by decide +kernel
theorem dX7_turn_40 : decode cX7_turn 40 = .ok (.if_icmp .lt 6, 3) := by decide +kernel
theorem dX7_turn_43 : decode cX7_turn 43 = .ok (.bipush (-3), 2) := by decide +kernel
theorem dX7_turn_45 : decode cX7_turn 45 = .ok (.ireturn, 1) := by decide +kernel
theorem dX7_turn_46 : decode cX7_turn 46 = .ok (.aload 4, 2) := by decide +kernel
theorem dX7_turn_48 : decode cX7_turn 48 = .ok (.iload_n 2, 1) := by decide +kernel
theorem dX7_turn_49 : decode cX7_turn 49 = .ok (.iload_n 3, 1) := by decide +kernel
theorem dX7_turn_50 : decode cX7_turn 50 = .ok (.invokevirtual 167, 3) := by decide +kernel
theorem dX7_turn_53 : decode cX7_turn 53 = .ok (.aload 4, 2) := by decide +kernel
theorem dX7_turn_55 : decode cX7_turn 55 = .ok (.getfield 164, 3) := by decide +kernel
theorem dX7_turn_58 : decode cX7_turn 58 = .ok (.ireturn, 1) := by decide +kernel
theorem dX7_plant_0 : decode cX7_plant 0 = .ok (.aload_n 0, 1) := by decide +kernel
theorem dX7_plant_1 : decode cX7_plant 1 = .ok (.iload_n 1, 1) := by decide +kernel
theorem dX7_plant_2 : decode cX7_plant 2 = .ok (.invokevirtual 160, 3) := by decide +kernel
theorem dX7_plant_5 : decode cX7_plant 5 = .ok (.astore 4, 2) := by decide +kernel
theorem dX7_plant_7 : decode cX7_plant 7 = .ok (.aload 4, 2) := by decide +kernel
theorem dX7_plant_9 : decode cX7_plant 9 = .ok (.ifnull 21, 3) := by decide +kernel
theorem dX7_plant_12 : decode cX7_plant 12 = .ok (.aload 4, 2) := by decide +kernel
theorem dX7_plant_14 : decode cX7_plant 14 = .ok (.iload_n 2, 1) := by decide +kernel
theorem dX7_plant_15 : decode cX7_plant 15 = .ok (.invokevirtual 170, 3) := by decide +kernel
theorem dX7_plant_18 : decode cX7_plant 18 = .ok (.ifCond .eq 12, 3) := by decide +kernel
theorem dX7_plant_21 : decode cX7_plant 21 = .ok (.iload_n 3, 1) := by decide +kernel
theorem dX7_plant_22 : decode cX7_plant 22 = .ok (.iconst 0, 1) := by decide +kernel
theorem dX7_plant_23 : decode cX7_plant 23 = .ok (.iconst 2, 1) := by decide +kernel
theorem dX7_plant_24 : decode cX7_plant 24 = .ok (.invokestatic 75, 3) := by decide +kernel
theorem dX7_plant_27 : decode cX7_plant 27 = .ok (.ifCond .ne 5, 3) := by decide +kernel
theorem dX7_plant_30 : decode cX7_plant 30 = .ok (.iconst (-1), 1) := by decide +kernel
theorem dX7_plant_31 : decode cX7_plant 31 = .ok (.ireturn, 1) := by decide +kernel
theorem dX7_plant_32 : decode cX7_plant 32 = .ok (.aload 4, 2) := by decide +kernel
theorem dX7_plant_34 : decode cX7_plant 34 = .ok (.iload_n 2, 1) := by decide +kernel
theorem dX7_plant_35 : decode cX7_plant 35 = .ok (.invokevirtual 171, 3) := by decide +kernel
theorem dX7_plant_38 : decode cX7_plant 38 = .ok (.istore 5, 2) := by decide +kernel
theorem dX7_plant_40 : decode cX7_plant 40 = .ok (.aload 4, 2) := by decide +kernel
theorem dX7_plant_42 : decode cX7_plant 42 = .ok (.iload_n 2, 1) := by decide +kernel
theorem dX7_plant_43 : decode cX7_plant 43 = .ok (.iload_n 3, 1) := by decide +kernel
theorem dX7_plant_44 : decode cX7_plant 44 = .ok (.invokevirtual 174, 3) := by decide +kernel
theorem dX7_plant_47 : decode cX7_plant 47 = .ok (.iload 5, 2) := by decide +kernel
theorem dX7_plant_49 : decode cX7_plant 49 = .ok (.ireturn, 1) := by decide +kernel
theorem dX7_made_0 : decode cX7_made 0 = .ok (.aload_n 0, 1) := by decide +kernel
theorem dX7_made_1 : decode cX7_made 1 = .ok (.iload_n 1, 1) := by decide +kernel
theorem dX7_made_2 : decode cX7_made 2 = .ok (.invokevirtual 160, 3) := by decide +kernel
theorem dX7_made_5 : decode cX7_made 5 = .ok (.astore 4, 2) := by decide +kernel
theorem dX7_made_7 : decode cX7_made 7 = .ok (.aload_n 0, 1) := by decide +kernel
theorem dX7_made_8 : decode cX7_made 8 = .ok (.iload_n 2, 1) := by decide +kernel
theorem dX7_made_9 : decode cX7_made 9 = .ok (.invokevirtual 96, 3) := by decide +kernel
theorem dX7_made_12 : decode cX7_made 12 = .ok (.astore 5, 2) := by decide +kernel
theorem dX7_made_14 : decode cX7_made 14 = .ok (.aload 4, 2) := by decide +kernel
theorem dX7_made_16 : decode cX7_made 16 = .ok (.ifnull 21, 3) := by decide +kernel
theorem dX7_made_19 : decode cX7_made 19 = .ok (.aload 5, 2) := by decide +kernel
theorem dX7_made_21 : decode cX7_made 21 = .ok (.ifnull 16, 3) := by decide +kernel
theorem dX7_made_24 : decode cX7_made 24 = .ok (.iload_n 3, 1) := by decide +kernel
theorem dX7_made_25 : decode cX7_made 25 = .ok (.iconst 0, 1) := by decide +kernel
theorem dX7_made_26 : decode cX7_made 26 = .ok (.aload 4, 2) := by decide +kernel
theorem dX7_made_28 : decode cX7_made 28 = .ok (.getfield 164, 3) := by decide +kernel
theorem dX7_made_31 : decode cX7_made 31 = .ok (.invokestatic 75, 3) := by decide +kernel
theorem dX7_made_34 : decode cX7_made 34 = .ok (.ifCond .ne 5, 3) := by decide +kernel
theorem dX7_made_37 : decode cX7_made 37 = .ok (.iconst (-1), 1) := by decide +kernel
theorem dX7_made_38 : decode cX7_made 38 = .ok (.ireturn, 1) := by decide +kernel
theorem dX7_made_39 : decode cX7_made 39 = .ok (.aload_n 0, 1) := by decide +kernel
theorem dX7_made_40 : decode cX7_made 40 = .ok (.getfield 38, 3) := by decide +kernel
theorem dX7_made_43 : decode cX7_made 43 = .ok (.aload 4, 2) := by decide +kernel
theorem dX7_made_45 : decode cX7_made 45 = .ok (.aload 5, 2) := by decide +kernel
theorem dX7_made_47 : decode cX7_made 47 = .ok (.iload_n 3, 1) := by decide +kernel
theorem dX7_made_48 : decode cX7_made 48 = .ok (.invokevirtual 177, 3) := by decide +kernel
theorem dX7_made_51 : decode cX7_made 51 = .ok (.pop, 1) := by decide +kernel
theorem dX7_made_52 : decode cX7_made 52 = .ok (.aload_n 0, 1) := by decide +kernel
theorem dX7_made_53 : decode cX7_made 53 = .ok (.getfield 53, 3) := by decide +kernel
theorem dX7_made_56 : decode cX7_made 56 = .ok (.aload_n 0, 1) := by decide +kernel
theorem dX7_made_57 : decode cX7_made 57 = .ok (.getfield 38, 3) := by decide +kernel
theorem dX7_made_60 : decode cX7_made 60 = .ok (.getfield 181, 3) := by decide +kernel
theorem dX7_made_63 : decode cX7_made 63 = .ok (.invokevirtual 122, 3) := by decide +kernel
theorem dX7_made_66 : decode cX7_made 66 = .ok (.aload_n 0, 1) := by decide +kernel
theorem dX7_made_67 : decode cX7_made 67 = .ok (.getfield 53, 3) := by decide +kernel
theorem dX7_made_70 : decode cX7_made 70 = .ok (.getfield 93, 3) := by decide +kernel
theorem dX7_made_73 : decode cX7_made 73 = .ok (.ireturn, 1) := by decide +kernel
theorem dX7_part_0 : decode cX7_part 0 = .ok (.aload_n 0, 1) := by decide +kernel
theorem dX7_part_1 : decode cX7_part 1 = .ok (.getfield 53, 3) := by decide +kernel
theorem dX7_part_4 : decode cX7_part 4 = .ok (.iload_n 1, 1) := by decide +kernel
theorem dX7_part_5 : decode cX7_part 5 = .ok (.iload_n 2, 1) := by decide +kernel
theorem dX7_part_6 : decode cX7_part 6 = .ok (.invokestatic 131, 3) := by decide +kernel
theorem dX7_part_9 : decode cX7_part 9 = .ok (.ireturn, 1) := by decide +kernel
theorem dX7_answer_0 : decode cX7_answer 0 = .ok (.aload_n 0, 1) := by decide +kernel
theorem dX7_answer_1 : decode cX7_answer 1 = .ok (.iload_n 1, 1) := by decide +kernel
theorem dX7_answer_2 : decode cX7_answer 2 = .ok (.iload_n 2, 1) := by decide +kernel
theorem dX7_answer_3 : decode cX7_answer 3 = .ok (.invokevirtual 184, 3) := by decide +kernel
theorem dX7_answer_6 : decode cX7_answer 6 = .ok (.ifCond .ne 6, 3) := by decide +kernel
theorem dX7_answer_9 : decode cX7_answer 9 = .ok (.ldc 130, 2) := by decide +kernel
theorem dX7_answer_11 : decode cX7_answer 11 = .ok (.ireturn, 1) := by decide +kernel
theorem dX7_answer_12 : decode cX7_answer 12 = .ok (.aload_n 0, 1) := by decide +kernel
theorem dX7_answer_13 : decode cX7_answer 13 = .ok (.getfield 49, 3) := by decide +kernel
theorem dX7_answer_16 : decode cX7_answer 16 = .ok (.iload_n 3, 1) := by decide +kernel
theorem dX7_answer_17 : decode cX7_answer 17 = .ok (.iload 4, 2) := by decide +kernel
theorem dX7_answer_19 : decode cX7_answer 19 = .ok (.invokevirtual 138, 3) := by decide +kernel
theorem dX7_answer_22 : decode cX7_answer 22 = .ok (.ifCond .eq 13, 3) := by decide +kernel
theorem dX7_answer_25 : decode cX7_answer 25 = .ok (.aload_n 0, 1) := by decide +kernel
theorem dX7_answer_26 : decode cX7_answer 26 = .ok (.getfield 49, 3) := by decide +kernel
theorem dX7_answer_29 : decode cX7_answer 29 = .ok (.getfield 142, 3) := by decide +kernel
theorem dX7_answer_32 : decode cX7_answer 32 = .ok (.goto 5, 3) := by decide +kernel
theorem dX7_answer_35 : decode cX7_answer 35 = .ok (.ldc 130, 2) := by decide +kernel
theorem dX7_answer_37 : decode cX7_answer 37 = .ok (.ireturn, 1) := by decide +kernel
theorem dX7_cost_0 : decode cX7_cost 0 = .ok (.aload_n 0, 1) := by decide +kernel
theorem dX7_cost_1 : decode cX7_cost 1 = .ok (.iload_n 1, 1) := by decide +kernel
theorem dX7_cost_2 : decode cX7_cost 2 = .ok (.iload_n 2, 1) := by decide +kernel
theorem dX7_cost_3 : decode cX7_cost 3 = .ok (.invokevirtual 184, 3) := by decide +kernel
theorem dX7_cost_6 : decode cX7_cost 6 = .ok (.ifCond .ne 5, 3) := by decide +kernel
theorem dX7_cost_9 : decode cX7_cost 9 = .ok (.iconst (-1), 1) := by decide +kernel
theorem dX7_cost_10 : decode cX7_cost 10 = .ok (.ireturn, 1) := by decide +kernel
theorem dX7_cost_11 : decode cX7_cost 11 = .ok (.aload_n 0, 1) := by decide +kernel
theorem dX7_cost_12 : decode cX7_cost 12 = .ok (.getfield 49, 3) := by decide +kernel
theorem dX7_cost_15 : decode cX7_cost 15 = .ok (.iload_n 3, 1) := by decide +kernel
theorem dX7_cost_16 : decode cX7_cost 16 = .ok (.iload 4, 2) := by decide +kernel
theorem dX7_cost_18 : decode cX7_cost 18 = .ok (.invokevirtual 138, 3) := by decide +kernel
theorem dX7_cost_21 : decode cX7_cost 21 = .ok (.pop, 1) := by decide +kernel
theorem dX7_cost_22 : decode cX7_cost 22 = .ok (.aload_n 0, 1) := by decide +kernel
theorem dX7_cost_23 : decode cX7_cost 23 = .ok (.getfield 49, 3) := by decide +kernel
theorem dX7_cost_26 : decode cX7_cost 26 = .ok (.getfield 186, 3) := by decide +kernel
theorem dX7_cost_29 : decode cX7_cost 29 = .ok (.ireturn, 1) := by decide +kernel
theorem dX7_fires_0 : decode cX7_fires 0 = .ok (.aload_n 0, 1) := by decide +kernel
theorem dX7_fires_1 : decode cX7_fires 1 = .ok (.iload_n 1, 1) := by decide +kernel
theorem dX7_fires_2 : decode cX7_fires 2 = .ok (.invokevirtual 160, 3) := by decide +kernel
theorem dX7_fires_5 : decode cX7_fires 5 = .ok (.astore 4, 2) := by decide +kernel
theorem dX7_fires_7 : decode cX7_fires 7 = .ok (.aload_n 0, 1) := by decide +kernel
theorem dX7_fires_8 : decode cX7_fires 8 = .ok (.iload_n 2, 1) := by decide +kernel
theorem dX7_fires_9 : decode cX7_fires 9 = .ok (.invokevirtual 96, 3) := by decide +kernel
theorem dX7_fires_12 : decode cX7_fires 12 = .ok (.astore 5, 2) := by decide +kernel
theorem dX7_fires_14 : decode cX7_fires 14 = .ok (.aload 4, 2) := by decide +kernel
theorem dX7_fires_16 : decode cX7_fires 16 = .ok (.ifnull 17, 3) := by decide +kernel
theorem dX7_fires_19 : decode cX7_fires 19 = .ok (.aload 5, 2) := by decide +kernel
theorem dX7_fires_21 : decode cX7_fires 21 = .ok (.ifnull 12, 3) := by decide +kernel
theorem dX7_fires_24 : decode cX7_fires 24 = .ok (.aload 4, 2) := by decide +kernel
theorem dX7_fires_26 : decode cX7_fires 26 = .ok (.iload_n 3, 1) := by decide +kernel
theorem dX7_fires_27 : decode cX7_fires 27 = .ok (.invokevirtual 170, 3) := by decide +kernel
theorem dX7_fires_30 : decode cX7_fires 30 = .ok (.ifCond .ne 5, 3) := by decide +kernel
theorem dX7_fires_33 : decode cX7_fires 33 = .ok (.iconst (-1), 1) := by decide +kernel
theorem dX7_fires_34 : decode cX7_fires 34 = .ok (.ireturn, 1) := by decide +kernel
theorem dX7_fires_35 : decode cX7_fires 35 = .ok (.aload_n 0, 1) := by decide +kernel
theorem dX7_fires_36 : decode cX7_fires 36 = .ok (.getfield 38, 3) := by decide +kernel
theorem dX7_fires_39 : decode cX7_fires 39 = .ok (.aload 4, 2) := by decide +kernel
theorem dX7_fires_41 : decode cX7_fires 41 = .ok (.aload 5, 2) := by decide +kernel
theorem dX7_fires_43 : decode cX7_fires 43 = .ok (.iload_n 3, 1) := by decide +kernel
theorem dX7_fires_44 : decode cX7_fires 44 = .ok (.invokevirtual 189, 3) := by decide +kernel
theorem dX7_fires_47 : decode cX7_fires 47 = .ok (.ireturn, 1) := by decide +kernel
theorem dX7_never_0 : decode cX7_never 0 = .ok (.aload_n 0, 1) := by decide +kernel
theorem dX7_never_1 : decode cX7_never 1 = .ok (.iload_n 1, 1) := by decide +kernel
theorem dX7_never_2 : decode cX7_never 2 = .ok (.invokevirtual 160, 3) := by decide +kernel
theorem dX7_never_5 : decode cX7_never 5 = .ok (.astore_n 2, 1) := by decide +kernel
theorem dX7_never_6 : decode cX7_never 6 = .ok (.aload_n 2, 1) := by decide +kernel
theorem dX7_never_7 : decode cX7_never 7 = .ok (.ifnonnull 5, 3) := by decide +kernel
theorem dX7_never_10 : decode cX7_never 10 = .ok (.iconst (-1), 1) := by decide +kernel
theorem dX7_never_11 : decode cX7_never 11 = .ok (.ireturn, 1) := by decide +kernel
theorem dX7_never_12 : decode cX7_never 12 = .ok (.iconst 1, 1) := by decide +kernel
theorem dX7_never_13 : decode cX7_never 13 = .ok (.aload_n 2, 1) := by decide +kernel
theorem dX7_never_14 : decode cX7_never 14 = .ok (.getfield 164, 3) := by decide +kernel
theorem dX7_never_17 : decode cX7_never 17 = .ok (.ishl, 1) := by decide +kernel
theorem dX7_never_18 : decode cX7_never 18 = .ok (.iconst 1, 1) := by decide +kernel
theorem dX7_never_19 : decode cX7_never 19 = .ok (.isub, 1) := by decide +kernel
theorem dX7_never_20 : decode cX7_never 20 = .ok (.istore_n 3, 1) := by decide +kernel
theorem dX7_never_21 : decode cX7_never 21 = .ok (.iconst 0, 1) := by decide +kernel
theorem dX7_never_22 : decode cX7_never 22 = .ok (.istore 4, 2) := by decide +kernel
theorem dX7_never_24 : decode cX7_never 24 = .ok (.iload 4, 2) := by decide +kernel
theorem dX7_never_26 : decode cX7_never 26 = .ok (.bipush 20, 2) := by decide +kernel
theorem dX7_never_28 : decode cX7_never 28 = .ok (.if_icmp .ge 37, 3) := by decide +kernel
theorem dX7_never_31 : decode cX7_never 31 = .ok (.aload_n 0, 1) := by decide +kernel
theorem dX7_never_32 : decode cX7_never 32 = .ok (.iload 4, 2) := by decide +kernel
theorem dX7_never_34 : decode cX7_never 34 = .ok (.invokevirtual 96, 3) := by decide +kernel
theorem dX7_never_37 : decode cX7_never 37 = .ok (.astore 5, 2) := by decide +kernel
theorem dX7_never_39 : decode cX7_never 39 = .ok (.aload 5, 2) := by decide +kernel
theorem dX7_never_41 : decode cX7_never 41 = .ok (.ifnull 18, 3) := by decide +kernel
theorem dX7_never_44 : decode cX7_never 44 = .ok (.iload_n 3, 1) := by decide +kernel
theorem dX7_never_45 : decode cX7_never 45 = .ok (.aload_n 0, 1) := by decide +kernel
theorem dX7_never_46 : decode cX7_never 46 = .ok (.getfield 38, 3) := by decide +kernel
theorem dX7_never_49 : decode cX7_never 49 = .ok (.aload_n 2, 1) := by decide +kernel
theorem dX7_never_50 : decode cX7_never 50 = .ok (.aload 5, 2) := by decide +kernel
theorem dX7_never_52 : decode cX7_never 52 = .ok (.invokevirtual 192, 3) := by decide +kernel
theorem dX7_never_55 : decode cX7_never 55 = .ok (.iconst (-1), 1) := by decide +kernel
theorem dX7_never_56 : decode cX7_never 56 = .ok (.ixor, 1) := by decide +kernel
theorem dX7_never_57 : decode cX7_never 57 = .ok (.iand, 1) := by decide +kernel
theorem dX7_never_58 : decode cX7_never 58 = .ok (.istore_n 3, 1) := by decide +kernel
theorem dX7_never_59 : decode cX7_never 59 = .ok (.iinc 4 1, 3) := by decide +kernel
theorem dX7_never_62 : decode cX7_never 62 = .ok (.goto (-38), 3) := by decide +kernel
theorem dX7_never_65 : decode cX7_never 65 = .ok (.iload_n 3, 1) := by decide +kernel
theorem dX7_never_66 : decode cX7_never 66 = .ok (.ireturn, 1) := by decide +kernel
theorem dX7_differ_0 : decode cX7_differ 0 = .ok (.iload_n 3, 1) := by decide +kernel
theorem dX7_differ_1 : decode cX7_differ 1 = .ok (.iconst 0, 1) := by decide +kernel
theorem dX7_differ_2 : decode cX7_differ 2 = .ok (.bipush 6, 2) := by decide +kernel
theorem dX7_differ_4 : decode cX7_differ 4 = .ok (.invokestatic 75, 3) := by decide +kernel
theorem dX7_differ_7 : decode cX7_differ 7 = .ok (.ifCond .eq 12, 3) := by decide +kernel
theorem dX7_differ_10 : decode cX7_differ 10 = .ok (.aload_n 0, 1) := by decide +kernel
theorem dX7_differ_11 : decode cX7_differ 11 = .ok (.iload_n 1, 1) := by decide +kernel
theorem dX7_differ_12 : decode cX7_differ 12 = .ok (.iload_n 2, 1) := by decide +kernel
theorem dX7_differ_13 : decode cX7_differ 13 = .ok (.invokevirtual 184, 3) := by decide +kernel
theorem dX7_differ_16 : decode cX7_differ 16 = .ok (.ifCond .ne 5, 3) := by decide +kernel
theorem dX7_differ_19 : decode cX7_differ 19 = .ok (.iconst (-1), 1) := by decide +kernel
theorem dX7_differ_20 : decode cX7_differ 20 = .ok (.ireturn, 1) := by decide +kernel
theorem dX7_differ_21 : decode cX7_differ 21 = .ok (.aload_n 0, 1) := by decide +kernel
theorem dX7_differ_22 : decode cX7_differ 22 = .ok (.getfield 45, 3) := by decide +kernel
theorem dX7_differ_25 : decode cX7_differ 25 = .ok (.iload_n 3, 1) := by decide +kernel
theorem dX7_differ_26 : decode cX7_differ 26 = .ok (.invokevirtual 196, 3) := by decide +kernel
theorem dX7_differ_29 : decode cX7_differ 29 = .ok (.ifCond .ne 6, 3) := by decide +kernel
theorem dX7_differ_32 : decode cX7_differ 32 = .ok (.bipush (-2), 2) := by decide +kernel
theorem dX7_differ_34 : decode cX7_differ 34 = .ok (.ireturn, 1) := by decide +kernel
theorem dX7_differ_35 : decode cX7_differ 35 = .ok (.iconst 0, 1) := by decide +kernel
theorem dX7_differ_36 : decode cX7_differ 36 = .ok (.istore 4, 2) := by decide +kernel
theorem dX7_differ_38 : decode cX7_differ 38 = .ok (.iload_n 3, 1) := by decide +kernel
theorem dX7_differ_39 : decode cX7_differ 39 = .ok (.ineg, 1) := by decide +kernel
theorem dX7_differ_40 : decode cX7_differ 40 = .ok (.istore 5, 2) := by decide +kernel
theorem dX7_differ_42 : decode cX7_differ 42 = .ok (.iload 5, 2) := by decide +kernel
theorem dX7_differ_44 : decode cX7_differ 44 = .ok (.iload_n 3, 1) := by decide +kernel
theorem dX7_differ_45 : decode cX7_differ 45 = .ok (.if_icmp .gt 39, 3) := by decide +kernel
theorem dX7_differ_48 : decode cX7_differ 48 = .ok (.iload_n 3, 1) := by decide +kernel
theorem dX7_differ_49 : decode cX7_differ 49 = .ok (.ineg, 1) := by decide +kernel
theorem dX7_differ_50 : decode cX7_differ 50 = .ok (.istore 6, 2) := by decide +kernel
theorem dX7_differ_52 : decode cX7_differ 52 = .ok (.iload 6, 2) := by decide +kernel
theorem dX7_differ_54 : decode cX7_differ 54 = .ok (.iload_n 3, 1) := by decide +kernel
theorem dX7_differ_55 : decode cX7_differ 55 = .ok (.if_icmp .gt 23, 3) := by decide +kernel
theorem dX7_differ_58 : decode cX7_differ 58 = .ok (.aload_n 0, 1) := by decide +kernel
theorem dX7_differ_59 : decode cX7_differ 59 = .ok (.iload 5, 2) := by decide +kernel
theorem dX7_differ_61 : decode cX7_differ 61 = .ok (.iload 6, 2) := by decide +kernel
theorem dX7_differ_63 : decode cX7_differ 63 = .ok (.invokevirtual 199, 3) := by decide +kernel
theorem dX7_differ_66 : decode cX7_differ 66 = .ok (.ifCond .eq 6, 3) := by decide +kernel
theorem dX7_differ_69 : decode cX7_differ 69 = .ok (.iinc 4 1, 3) := by decide +kernel
theorem dX7_differ_72 : decode cX7_differ 72 = .ok (.iinc 6 1, 3) := by decide +kernel
theorem dX7_differ_75 : decode cX7_differ 75 = .ok (.goto (-23), 3) := by decide +kernel
theorem dX7_differ_78 : decode cX7_differ 78 = .ok (.iinc 5 1, 3) := by decide +kernel
theorem dX7_differ_81 : decode cX7_differ 81 = .ok (.goto (-39), 3) := by decide +kernel
theorem dX7_differ_84 : decode cX7_differ 84 = .ok (.iload 4, 2) := by decide +kernel
theorem dX7_differ_86 : decode cX7_differ 86 = .ok (.ireturn, 1) := by decide +kernel
theorem dX7_first_0 : decode cX7_first 0 = .ok (.iload_n 3, 1) := by decide +kernel
theorem dX7_first_1 : decode cX7_first 1 = .ok (.iconst 0, 1) := by decide +kernel
theorem dX7_first_2 : decode cX7_first 2 = .ok (.bipush 6, 2) := by decide +kernel
theorem dX7_first_4 : decode cX7_first 4 = .ok (.invokestatic 75, 3) := by decide +kernel
theorem dX7_first_7 : decode cX7_first 7 = .ok (.ifCond .eq 12, 3) := by decide +kernel
theorem dX7_first_10 : decode cX7_first 10 = .ok (.aload_n 0, 1) := by decide +kernel
theorem dX7_first_11 : decode cX7_first 11 = .ok (.iload_n 1, 1) := by decide +kernel
theorem dX7_first_12 : decode cX7_first 12 = .ok (.iload_n 2, 1) := by decide +kernel
theorem dX7_first_13 : decode cX7_first 13 = .ok (.invokevirtual 184, 3) := by decide +kernel
theorem dX7_first_16 : decode cX7_first 16 = .ok (.ifCond .ne 5, 3) := by decide +kernel
theorem dX7_first_19 : decode cX7_first 19 = .ok (.iconst (-1), 1) := by decide +kernel
theorem dX7_first_20 : decode cX7_first 20 = .ok (.ireturn, 1) := by decide +kernel
theorem dX7_first_21 : decode cX7_first 21 = .ok (.aload_n 0, 1) := by decide +kernel
theorem dX7_first_22 : decode cX7_first 22 = .ok (.getfield 45, 3) := by decide +kernel
theorem dX7_first_25 : decode cX7_first 25 = .ok (.iload_n 3, 1) := by decide +kernel
theorem dX7_first_26 : decode cX7_first 26 = .ok (.invokevirtual 196, 3) := by decide +kernel
theorem dX7_first_29 : decode cX7_first 29 = .ok (.ifCond .ne 6, 3) := by decide +kernel
theorem dX7_first_32 : decode cX7_first 32 = .ok (.bipush (-2), 2) := by decide +kernel
theorem dX7_first_34 : decode cX7_first 34 = .ok (.ireturn, 1) := by decide +kernel
theorem dX7_first_35 : decode cX7_first 35 = .ok (.iload_n 3, 1) := by decide +kernel
theorem dX7_first_36 : decode cX7_first 36 = .ok (.ineg, 1) := by decide +kernel
theorem dX7_first_37 : decode cX7_first 37 = .ok (.istore 4, 2) := by decide +kernel
theorem dX7_first_39 : decode cX7_first 39 = .ok (.iload 4, 2) := by decide +kernel
theorem dX7_first_41 : decode cX7_first 41 = .ok (.iload_n 3, 1) := by decide +kernel
theorem dX7_first_42 : decode cX7_first 42 = .ok (.if_icmp .gt 51, 3) := by decide +kernel
theorem dX7_first_45 : decode cX7_first 45 = .ok (.iload_n 3, 1) := by decide +kernel
theorem dX7_first_46 : decode cX7_first 46 = .ok (.ineg, 1) := by decide +kernel
theorem dX7_first_47 : decode cX7_first 47 = .ok (.istore 5, 2) := by decide +kernel
theorem dX7_first_49 : decode cX7_first 49 = .ok (.iload 5, 2) := by decide +kernel
theorem dX7_first_51 : decode cX7_first 51 = .ok (.iload_n 3, 1) := by decide +kernel
theorem dX7_first_52 : decode cX7_first 52 = .ok (.if_icmp .gt 35, 3) := by decide +kernel
theorem dX7_first_55 : decode cX7_first 55 = .ok (.aload_n 0, 1) := by decide +kernel
theorem dX7_first_56 : decode cX7_first 56 = .ok (.iload 4, 2) := by decide +kernel
theorem dX7_first_58 : decode cX7_first 58 = .ok (.iload 5, 2) := by decide +kernel
theorem dX7_first_60 : decode cX7_first 60 = .ok (.invokevirtual 199, 3) := by decide +kernel
theorem dX7_first_63 : decode cX7_first 63 = .ok (.ifCond .eq 18, 3) := by decide +kernel
theorem dX7_first_66 : decode cX7_first 66 = .ok (.bipush 100, 2) := by decide +kernel
theorem dX7_first_68 : decode cX7_first 68 = .ok (.iload 4, 2) := by decide +kernel
theorem dX7_first_70 : decode cX7_first 70 = .ok (.bipush 6, 2) := by decide +kernel
theorem dX7_first_72 : decode cX7_first 72 = .ok (.iadd, 1) := by decide +kernel
theorem dX7_first_73 : decode cX7_first 73 = .ok (.imul, 1) := by decide +kernel
theorem dX7_first_74 : decode cX7_first 74 = .ok (.iload 5, 2) := by decide +kernel
theorem dX7_first_76 : decode cX7_first 76 = .ok (.iadd, 1) := by decide +kernel
theorem dX7_first_77 : decode cX7_first 77 = .ok (.bipush 6, 2) := by decide +kernel
theorem dX7_first_79 : decode cX7_first 79 = .ok (.iadd, 1) := by decide +kernel
theorem dX7_first_80 : decode cX7_first 80 = .ok (.ireturn, 1) := by decide +kernel
theorem dX7_first_81 : decode cX7_first 81 = .ok (.iinc 5 1, 3) := by decide +kernel
theorem dX7_first_84 : decode cX7_first 84 = .ok (.goto (-35), 3) := by decide +kernel
theorem dX7_first_87 : decode cX7_first 87 = .ok (.iinc 4 1, 3) := by decide +kernel
theorem dX7_first_90 : decode cX7_first 90 = .ok (.goto (-51), 3) := by decide +kernel
theorem dX7_first_93 : decode cX7_first 93 = .ok (.bipush (-5), 2) := by decide +kernel
theorem dX7_first_95 : decode cX7_first 95 = .ok (.ireturn, 1) := by decide +kernel
theorem dX7_cause_0 : decode cX7_cause 0 = .ok (.aload_n 0, 1) := by decide +kernel
theorem dX7_cause_1 : decode cX7_cause 1 = .ok (.iload_n 1, 1) := by decide +kernel
theorem dX7_cause_2 : decode cX7_cause 2 = .ok (.invokevirtual 160, 3) := by decide +kernel
theorem dX7_cause_5 : decode cX7_cause 5 = .ok (.astore 5, 2) := by decide +kernel
theorem dX7_cause_7 : decode cX7_cause 7 = .ok (.aload_n 0, 1) := by decide +kernel
theorem dX7_cause_8 : decode cX7_cause 8 = .ok (.iload_n 2, 1) := by decide +kernel
theorem dX7_cause_9 : decode cX7_cause 9 = .ok (.invokevirtual 96, 3) := by decide +kernel
theorem dX7_cause_12 : decode cX7_cause 12 = .ok (.astore 6, 2) := by decide +kernel
theorem dX7_cause_14 : decode cX7_cause 14 = .ok (.aload 5, 2) := by decide +kernel
theorem dX7_cause_16 : decode cX7_cause 16 = .ok (.ifnull 8, 3) := by decide +kernel
theorem dX7_cause_19 : decode cX7_cause 19 = .ok (.aload 6, 2) := by decide +kernel
theorem dX7_cause_21 : decode cX7_cause 21 = .ok (.ifnonnull 5, 3) := by decide +kernel
theorem dX7_cause_24 : decode cX7_cause 24 = .ok (.iconst (-1), 1) := by decide +kernel
theorem dX7_cause_25 : decode cX7_cause 25 = .ok (.ireturn, 1) := by decide +kernel
theorem dX7_cause_26 : decode cX7_cause 26 = .ok (.aload_n 0, 1) := by decide +kernel
theorem dX7_cause_27 : decode cX7_cause 27 = .ok (.getfield 45, 3) := by decide +kernel
theorem dX7_cause_30 : decode cX7_cause 30 = .ok (.aload 6, 2) := by decide +kernel
theorem dX7_cause_32 : decode cX7_cause 32 = .ok (.invokevirtual 135, 3) := by decide +kernel
theorem dX7_cause_35 : decode cX7_cause 35 = .ok (.aload_n 0, 1) := by decide +kernel
theorem dX7_cause_36 : decode cX7_cause 36 = .ok (.getfield 45, 3) := by decide +kernel
theorem dX7_cause_39 : decode cX7_cause 39 = .ok (.iload_n 3, 1) := by decide +kernel
theorem dX7_cause_40 : decode cX7_cause 40 = .ok (.iload 4, 2) := by decide +kernel
theorem dX7_cause_42 : decode cX7_cause 42 = .ok (.invokevirtual 138, 3) := by decide +kernel
theorem dX7_cause_45 : decode cX7_cause 45 = .ok (.ifCond .ne 6, 3) := by decide +kernel
theorem dX7_cause_48 : decode cX7_cause 48 = .ok (.bipush (-2), 2) := by decide +kernel
theorem dX7_cause_50 : decode cX7_cause 50 = .ok (.ireturn, 1) := by decide +kernel
theorem dX7_cause_51 : decode cX7_cause 51 = .ok (.aload_n 0, 1) := by decide +kernel
theorem dX7_cause_52 : decode cX7_cause 52 = .ok (.getfield 38, 3) := by decide +kernel
theorem dX7_cause_55 : decode cX7_cause 55 = .ok (.getfield 181, 3) := by decide +kernel
theorem dX7_cause_58 : decode cX7_cause 58 = .ok (.aload 6, 2) := by decide +kernel
theorem dX7_cause_60 : decode cX7_cause 60 = .ok (.invokevirtual 122, 3) := by decide +kernel
theorem dX7_cause_63 : decode cX7_cause 63 = .ok (.iconst 0, 1) := by decide +kernel
theorem dX7_cause_64 : decode cX7_cause 64 = .ok (.istore 7, 2) := by decide +kernel
theorem dX7_cause_66 : decode cX7_cause 66 = .ok (.iload 7, 2) := by decide +kernel
theorem dX7_cause_68 : decode cX7_cause 68 = .ok (.aload 5, 2) := by decide +kernel
theorem dX7_cause_70 : decode cX7_cause 70 = .ok (.getfield 164, 3) := by decide +kernel
theorem dX7_cause_73 : decode cX7_cause 73 = .ok (.if_icmp .ge 78, 3) := by decide +kernel
theorem dX7_cause_76 : decode cX7_cause 76 = .ok (.aload_n 0, 1) := by decide +kernel
theorem dX7_cause_77 : decode cX7_cause 77 = .ok (.getfield 38, 3) := by decide +kernel
theorem dX7_cause_80 : decode cX7_cause 80 = .ok (.aload 5, 2) := by decide +kernel
theorem dX7_cause_82 : decode cX7_cause 82 = .ok (.iload 7, 2) := by decide +kernel
theorem dX7_cause_84 : decode cX7_cause 84 = .ok (.invokevirtual 202, 3) := by decide +kernel
theorem dX7_cause_87 : decode cX7_cause 87 = .ok (.aload 5, 2) := by decide +kernel
theorem dX7_cause_89 : decode cX7_cause 89 = .ok (.iload 7, 2) := by decide +kernel
theorem dX7_cause_91 : decode cX7_cause 91 = .ok (.invokevirtual 171, 3) := by decide +kernel
theorem dX7_cause_94 : decode cX7_cause 94 = .ok (.invokevirtual 205, 3) := by decide +kernel
theorem dX7_cause_97 : decode cX7_cause 97 = .ok (.pop, 1) := by decide +kernel
theorem dX7_cause_98 : decode cX7_cause 98 = .ok (.aload_n 0, 1) := by decide +kernel
theorem dX7_cause_99 : decode cX7_cause 99 = .ok (.getfield 49, 3) := by decide +kernel
theorem dX7_cause_102 : decode cX7_cause 102 = .ok (.aload_n 0, 1) := by decide +kernel
theorem dX7_cause_103 : decode cX7_cause 103 = .ok (.getfield 38, 3) := by decide +kernel
theorem dX7_cause_106 : decode cX7_cause 106 = .ok (.getfield 181, 3) := by decide +kernel
theorem dX7_cause_109 : decode cX7_cause 109 = .ok (.invokevirtual 135, 3) := by decide +kernel
theorem dX7_cause_112 : decode cX7_cause 112 = .ok (.aload_n 0, 1) := by decide +kernel
theorem dX7_cause_113 : decode cX7_cause 113 = .ok (.getfield 49, 3) := by decide +kernel
theorem dX7_cause_116 : decode cX7_cause 116 = .ok (.iload_n 3, 1) := by decide +kernel
theorem dX7_cause_117 : decode cX7_cause 117 = .ok (.iload 4, 2) := by decide +kernel
theorem dX7_cause_119 : decode cX7_cause 119 = .ok (.invokevirtual 138, 3) := by decide +kernel
theorem dX7_cause_122 : decode cX7_cause 122 = .ok (.ifCond .eq 20, 3) := by decide +kernel
theorem dX7_cause_125 : decode cX7_cause 125 = .ok (.aload_n 0, 1) := by decide +kernel
theorem dX7_cause_126 : decode cX7_cause 126 = .ok (.getfield 49, 3) := by decide +kernel
theorem dX7_cause_129 : decode cX7_cause 129 = .ok (.getfield 142, 3) := by decide +kernel
theorem dX7_cause_132 : decode cX7_cause 132 = .ok (.aload_n 0, 1) := by decide +kernel
theorem dX7_cause_133 : decode cX7_cause 133 = .ok (.getfield 45, 3) := by decide +kernel
theorem dX7_cause_136 : decode cX7_cause 136 = .ok (.getfield 142, 3) := by decide +kernel
theorem dX7_cause_139 : decode cX7_cause 139 = .ok (.if_icmp .eq 6, 3) := by decide +kernel
theorem dX7_cause_142 : decode cX7_cause 142 = .ok (.iload 7, 2) := by decide +kernel
theorem dX7_cause_144 : decode cX7_cause 144 = .ok (.ireturn, 1) := by decide +kernel
theorem dX7_cause_145 : decode cX7_cause 145 = .ok (.iinc 7 1, 3) := by decide +kernel
theorem dX7_cause_148 : decode cX7_cause 148 = .ok (.goto (-82), 3) := by decide +kernel
theorem dX7_cause_151 : decode cX7_cause 151 = .ok (.bipush (-2), 2) := by decide +kernel
theorem dX7_cause_153 : decode cX7_cause 153 = .ok (.ireturn, 1) := by decide +kernel
theorem dX7_small_0 : decode cX7_small 0 = .ok (.aload_n 0, 1) := by decide +kernel
theorem dX7_small_1 : decode cX7_small 1 = .ok (.iload_n 1, 1) := by decide +kernel
theorem dX7_small_2 : decode cX7_small 2 = .ok (.invokevirtual 160, 3) := by decide +kernel
theorem dX7_small_5 : decode cX7_small 5 = .ok (.astore 4, 2) := by decide +kernel
theorem dX7_small_7 : decode cX7_small 7 = .ok (.aload_n 0, 1) := by decide +kernel
theorem dX7_small_8 : decode cX7_small 8 = .ok (.iload_n 2, 1) := by decide +kernel
theorem dX7_small_9 : decode cX7_small 9 = .ok (.invokevirtual 96, 3) := by decide +kernel
theorem dX7_small_12 : decode cX7_small 12 = .ok (.astore 5, 2) := by decide +kernel
theorem dX7_small_14 : decode cX7_small 14 = .ok (.aload 4, 2) := by decide +kernel
theorem dX7_small_16 : decode cX7_small 16 = .ok (.ifnull 18, 3) := by decide +kernel
theorem dX7_small_19 : decode cX7_small 19 = .ok (.aload 5, 2) := by decide +kernel
theorem dX7_small_21 : decode cX7_small 21 = .ok (.ifnull 13, 3) := by decide +kernel
theorem dX7_small_24 : decode cX7_small 24 = .ok (.iload_n 3, 1) := by decide +kernel
theorem dX7_small_25 : decode cX7_small 25 = .ok (.iconst 0, 1) := by decide +kernel
theorem dX7_small_26 : decode cX7_small 26 = .ok (.bipush 6, 2) := by decide +kernel
theorem dX7_small_28 : decode cX7_small 28 = .ok (.invokestatic 75, 3) := by decide +kernel
theorem dX7_small_31 : decode cX7_small 31 = .ok (.ifCond .ne 5, 3) := by decide +kernel
theorem dX7_small_34 : decode cX7_small 34 = .ok (.iconst (-1), 1) := by decide +kernel
theorem dX7_small_35 : decode cX7_small 35 = .ok (.ireturn, 1) := by decide +kernel
theorem dX7_small_36 : decode cX7_small 36 = .ok (.aload_n 0, 1) := by decide +kernel
theorem dX7_small_37 : decode cX7_small 37 = .ok (.aload 4, 2) := by decide +kernel
theorem dX7_small_39 : decode cX7_small 39 = .ok (.aload 5, 2) := by decide +kernel
theorem dX7_small_41 : decode cX7_small 41 = .ok (.iload_n 3, 1) := by decide +kernel
theorem dX7_small_42 : decode cX7_small 42 = .ok (.invokevirtual 209, 3) := by decide +kernel
theorem dX7_small_45 : decode cX7_small 45 = .ok (.ifCond .ne 6, 3) := by decide +kernel
theorem dX7_small_48 : decode cX7_small 48 = .ok (.bipush (-2), 2) := by decide +kernel
theorem dX7_small_50 : decode cX7_small 50 = .ok (.ireturn, 1) := by decide +kernel
theorem dX7_small_51 : decode cX7_small 51 = .ok (.iconst 0, 1) := by decide +kernel
theorem dX7_small_52 : decode cX7_small 52 = .ok (.istore 6, 2) := by decide +kernel
theorem dX7_small_54 : decode cX7_small 54 = .ok (.bipush 120, 2) := by decide +kernel
theorem dX7_small_56 : decode cX7_small 56 = .ok (.istore 7, 2) := by decide +kernel
theorem dX7_small_58 : decode cX7_small 58 = .ok (.iload 6, 2) := by decide +kernel
theorem dX7_small_60 : decode cX7_small 60 = .ok (.iload 7, 2) := by decide +kernel
theorem dX7_small_62 : decode cX7_small 62 = .ok (.if_icmp .ge 30, 3) := by decide +kernel
theorem dX7_small_65 : decode cX7_small 65 = .ok (.aload_n 0, 1) := by decide +kernel
theorem dX7_small_66 : decode cX7_small 66 = .ok (.aload 4, 2) := by decide +kernel
theorem dX7_small_68 : decode cX7_small 68 = .ok (.aload 5, 2) := by decide +kernel
theorem dX7_small_70 : decode cX7_small 70 = .ok (.iload_n 3, 1) := by decide +kernel
theorem dX7_small_71 : decode cX7_small 71 = .ok (.invokevirtual 213, 3) := by decide +kernel
theorem dX7_small_74 : decode cX7_small 74 = .ok (.ifCond .eq 18, 3) := by decide +kernel
theorem dX7_small_77 : decode cX7_small 77 = .ok (.aload 5, 2) := by decide +kernel
theorem dX7_small_79 : decode cX7_small 79 = .ok (.aload_n 0, 1) := by decide +kernel
theorem dX7_small_80 : decode cX7_small 80 = .ok (.getfield 57, 3) := by decide +kernel
theorem dX7_small_83 : decode cX7_small 83 = .ok (.invokevirtual 122, 3) := by decide +kernel
theorem dX7_small_86 : decode cX7_small 86 = .ok (.iinc 6 1, 3) := by decide +kernel
theorem dX7_small_89 : decode cX7_small 89 = .ok (.goto (-31), 3) := by decide +kernel
theorem dX7_small_92 : decode cX7_small 92 = .ok (.aload_n 0, 1) := by decide +kernel
theorem dX7_small_93 : decode cX7_small 93 = .ok (.iload 6, 2) := by decide +kernel
theorem dX7_small_95 : decode cX7_small 95 = .ok (.putfield 67, 3) := by decide +kernel
theorem dX7_small_98 : decode cX7_small 98 = .ok (.aload 5, 2) := by decide +kernel
theorem dX7_small_100 : decode cX7_small 100 = .ok (.getfield 93, 3) := by decide +kernel
theorem dX7_small_103 : decode cX7_small 103 = .ok (.ireturn, 1) := by decide +kernel
theorem dX7_steps_0 : decode cX7_steps 0 = .ok (.aload_n 0, 1) := by decide +kernel
theorem dX7_steps_1 : decode cX7_steps 1 = .ok (.getfield 67, 3) := by decide +kernel
theorem dX7_steps_4 : decode cX7_steps 4 = .ok (.ireturn, 1) := by decide +kernel
theorem dX7_least_0 : decode cX7_least 0 = .ok (.aload_n 0, 1) := by decide +kernel
theorem dX7_least_1 : decode cX7_least 1 = .ok (.iload_n 1, 1) := by decide +kernel
theorem dX7_least_2 : decode cX7_least 2 = .ok (.invokevirtual 160, 3) := by decide +kernel
theorem dX7_least_5 : decode cX7_least 5 = .ok (.astore 4, 2) := by decide +kernel
theorem dX7_least_7 : decode cX7_least 7 = .ok (.aload 4, 2) := by decide +kernel
theorem dX7_least_9 : decode cX7_least 9 = .ok (.ifnull 21, 3) := by decide +kernel
theorem dX7_least_12 : decode cX7_least 12 = .ok (.aload 4, 2) := by decide +kernel
theorem dX7_least_14 : decode cX7_least 14 = .ok (.iload_n 2, 1) := by decide +kernel
theorem dX7_least_15 : decode cX7_least 15 = .ok (.invokevirtual 170, 3) := by decide +kernel
theorem dX7_least_18 : decode cX7_least 18 = .ok (.ifCond .eq 12, 3) := by decide +kernel
theorem dX7_least_21 : decode cX7_least 21 = .ok (.iload_n 3, 1) := by decide +kernel
theorem dX7_least_22 : decode cX7_least 22 = .ok (.iconst 1, 1) := by decide +kernel
theorem dX7_least_23 : decode cX7_least 23 = .ok (.iconst 5, 1) := by decide +kernel
theorem dX7_least_24 : decode cX7_least 24 = .ok (.invokestatic 75, 3) := by decide +kernel
theorem dX7_least_27 : decode cX7_least 27 = .ok (.ifCond .ne 7, 3) := by decide +kernel
theorem dX7_least_30 : decode cX7_least 30 = .ok (.ldc2_w 83, 3) := by decide +kernel
theorem dX7_least_33 : decode cX7_least 33 = .ok (.lreturn, 1) := by decide +kernel
theorem dX7_least_34 : decode cX7_least 34 = .ok (.iconst 1, 1) := by decide +kernel
theorem dX7_least_35 : decode cX7_least 35 = .ok (.istore 5, 2) := by decide +kernel
theorem dX7_least_37 : decode cX7_least 37 = .ok (.iload 5, 2) := by decide +kernel
theorem dX7_least_39 : decode cX7_least 39 = .ok (.iload_n 3, 1) := by decide +kernel
theorem dX7_least_40 : decode cX7_least 40 = .ok (.if_icmp .gt 83, 3) := by decide +kernel
theorem dX7_least_43 : decode cX7_least 43 = .ok (.aload_n 0, 1) := by decide +kernel
theorem dX7_least_44 : decode cX7_least 44 = .ok (.getfield 10, 3) := by decide +kernel
theorem dX7_least_47 : decode cX7_least 47 = .ok (.iload 5, 2) := by decide +kernel
theorem dX7_least_49 : decode cX7_least 49 = .ok (.invokevirtual 79, 3) := by decide +kernel
theorem dX7_least_52 : decode cX7_least 52 = .ok (.lstore 6, 2) := by decide +kernel
theorem dX7_least_54 : decode cX7_least 54 = .ok (.lconst 0, 1) := by decide +kernel
theorem dX7_least_55 : decode cX7_least 55 = .ok (.lstore 8, 2) := by decide +kernel
theorem dX7_least_57 : decode cX7_least 57 = .ok (.lload 8, 2) := by decide +kernel
theorem dX7_least_59 : decode cX7_least 59 = .ok (.lload 6, 2) := by decide +kernel
theorem dX7_least_61 : decode cX7_least 61 = .ok (.lcmp, 1) := by decide +kernel
theorem dX7_least_62 : decode cX7_least 62 = .ok (.ifCond .ge 55, 3) := by decide +kernel
theorem dX7_least_65 : decode cX7_least 65 = .ok (.aload_n 0, 1) := by decide +kernel
theorem dX7_least_66 : decode cX7_least 66 = .ok (.getfield 10, 3) := by decide +kernel
theorem dX7_least_69 : decode cX7_least 69 = .ok (.aload_n 0, 1) := by decide +kernel
theorem dX7_least_70 : decode cX7_least 70 = .ok (.getfield 57, 3) := by decide +kernel
theorem dX7_least_73 : decode cX7_least 73 = .ok (.iload 5, 2) := by decide +kernel
theorem dX7_least_75 : decode cX7_least 75 = .ok (.lload 8, 2) := by decide +kernel
theorem dX7_least_77 : decode cX7_least 77 = .ok (.invokevirtual 89, 3) := by decide +kernel
theorem dX7_least_80 : decode cX7_least 80 = .ok (.aload_n 0, 1) := by decide +kernel
theorem dX7_least_81 : decode cX7_least 81 = .ok (.getfield 38, 3) := by decide +kernel
theorem dX7_least_84 : decode cX7_least 84 = .ok (.aload 4, 2) := by decide +kernel
theorem dX7_least_86 : decode cX7_least 86 = .ok (.aload_n 0, 1) := by decide +kernel
theorem dX7_least_87 : decode cX7_least 87 = .ok (.getfield 57, 3) := by decide +kernel
theorem dX7_least_90 : decode cX7_least 90 = .ok (.iload_n 2, 1) := by decide +kernel
theorem dX7_least_91 : decode cX7_least 91 = .ok (.invokevirtual 189, 3) := by decide +kernel
theorem dX7_least_94 : decode cX7_least 94 = .ok (.ifCond .le 14, 3) := by decide +kernel
theorem dX7_least_97 : decode cX7_least 97 = .ok (.ldc2_w 216, 3) := by decide +kernel
theorem dX7_least_100 : decode cX7_least 100 = .ok (.lload 8, 2) := by decide +kernel
theorem dX7_least_102 : decode cX7_least 102 = .ok (.lmul, 1) := by decide +kernel
theorem dX7_least_103 : decode cX7_least 103 = .ok (.iload 5, 2) := by decide +kernel
theorem dX7_least_105 : decode cX7_least 105 = .ok (.i2l, 1) := by decide +kernel
theorem dX7_least_106 : decode cX7_least 106 = .ok (.ladd, 1) := by decide +kernel
theorem dX7_least_107 : decode cX7_least 107 = .ok (.lreturn, 1) := by decide +kernel
theorem dX7_least_108 : decode cX7_least 108 = .ok (.lload 8, 2) := by decide +kernel
theorem dX7_least_110 : decode cX7_least 110 = .ok (.lconst 1, 1) := by decide +kernel
theorem dX7_least_111 : decode cX7_least 111 = .ok (.ladd, 1) := by decide +kernel
theorem dX7_least_112 : decode cX7_least 112 = .ok (.lstore 8, 2) := by decide +kernel
theorem dX7_least_114 : decode cX7_least 114 = .ok (.goto (-57), 3) := by decide +kernel
theorem dX7_least_117 : decode cX7_least 117 = .ok (.iinc 5 1, 3) := by decide +kernel
theorem dX7_least_120 : decode cX7_least 120 = .ok (.goto (-83), 3) := by decide +kernel
theorem dX7_least_123 : decode cX7_least 123 = .ok (.ldc2_w 218, 3) := by decide +kernel
theorem dX7_least_126 : decode cX7_least 126 = .ok (.lreturn, 1) := by decide +kernel
theorem dX7_shown_0 : decode cX7_shown 0 = .ok (.aload_n 0, 1) := by decide +kernel
theorem dX7_shown_1 : decode cX7_shown 1 = .ok (.iload_n 1, 1) := by decide +kernel
theorem dX7_shown_2 : decode cX7_shown 2 = .ok (.invokevirtual 160, 3) := by decide +kernel
theorem dX7_shown_5 : decode cX7_shown 5 = .ok (.astore 5, 2) := by decide +kernel
theorem dX7_shown_7 : decode cX7_shown 7 = .ok (.aload 5, 2) := by decide +kernel
theorem dX7_shown_9 : decode cX7_shown 9 = .ok (.ifnull 31, 3) := by decide +kernel
theorem dX7_shown_12 : decode cX7_shown 12 = .ok (.iload_n 2, 1) := by decide +kernel
theorem dX7_shown_13 : decode cX7_shown 13 = .ok (.iconst 1, 1) := by decide +kernel
theorem dX7_shown_14 : decode cX7_shown 14 = .ok (.iconst 5, 1) := by decide +kernel
theorem dX7_shown_15 : decode cX7_shown 15 = .ok (.invokestatic 75, 3) := by decide +kernel
theorem dX7_shown_18 : decode cX7_shown 18 = .ok (.ifCond .eq 22, 3) := by decide +kernel
theorem dX7_shown_21 : decode cX7_shown 21 = .ok (.iload_n 3, 1) := by decide +kernel
theorem dX7_shown_22 : decode cX7_shown 22 = .ok (.iconst 0, 1) := by decide +kernel
theorem dX7_shown_23 : decode cX7_shown 23 = .ok (.iconst 2, 1) := by decide +kernel
theorem dX7_shown_24 : decode cX7_shown 24 = .ok (.invokestatic 75, 3) := by decide +kernel
theorem dX7_shown_27 : decode cX7_shown 27 = .ok (.ifCond .eq 13, 3) := by decide +kernel
theorem dX7_shown_30 : decode cX7_shown 30 = .ok (.iload 4, 2) := by decide +kernel
theorem dX7_shown_32 : decode cX7_shown 32 = .ok (.iconst 0, 1) := by decide +kernel
theorem dX7_shown_33 : decode cX7_shown 33 = .ok (.iconst 1, 1) := by decide +kernel
theorem dX7_shown_34 : decode cX7_shown 34 = .ok (.invokestatic 75, 3) := by decide +kernel
theorem dX7_shown_37 : decode cX7_shown 37 = .ok (.ifCond .ne 5, 3) := by decide +kernel
theorem dX7_shown_40 : decode cX7_shown 40 = .ok (.iconst (-1), 1) := by decide +kernel
theorem dX7_shown_41 : decode cX7_shown 41 = .ok (.ireturn, 1) := by decide +kernel
theorem dX7_shown_42 : decode cX7_shown 42 = .ok (.iconst 0, 1) := by decide +kernel
theorem dX7_shown_43 : decode cX7_shown 43 = .ok (.istore 6, 2) := by decide +kernel
theorem dX7_shown_45 : decode cX7_shown 45 = .ok (.aload_n 0, 1) := by decide +kernel
theorem dX7_shown_46 : decode cX7_shown 46 = .ok (.getfield 10, 3) := by decide +kernel
theorem dX7_shown_49 : decode cX7_shown 49 = .ok (.iload_n 2, 1) := by decide +kernel
theorem dX7_shown_50 : decode cX7_shown 50 = .ok (.invokevirtual 79, 3) := by decide +kernel
theorem dX7_shown_53 : decode cX7_shown 53 = .ok (.lstore 7, 2) := by decide +kernel
theorem dX7_shown_55 : decode cX7_shown 55 = .ok (.lconst 0, 1) := by decide +kernel
theorem dX7_shown_56 : decode cX7_shown 56 = .ok (.lstore 9, 2) := by decide +kernel
theorem dX7_shown_58 : decode cX7_shown 58 = .ok (.lload 9, 2) := by decide +kernel
theorem dX7_shown_60 : decode cX7_shown 60 = .ok (.lload 7, 2) := by decide +kernel
theorem dX7_shown_62 : decode cX7_shown 62 = .ok (.lcmp, 1) := by decide +kernel
theorem dX7_shown_63 : decode cX7_shown 63 = .ok (.ifCond .ge 63, 3) := by decide +kernel
theorem dX7_shown_66 : decode cX7_shown 66 = .ok (.aload_n 0, 1) := by decide +kernel
theorem dX7_shown_67 : decode cX7_shown 67 = .ok (.getfield 10, 3) := by decide +kernel
theorem dX7_shown_70 : decode cX7_shown 70 = .ok (.aload_n 0, 1) := by decide +kernel
theorem dX7_shown_71 : decode cX7_shown 71 = .ok (.getfield 57, 3) := by decide +kernel
theorem dX7_shown_74 : decode cX7_shown 74 = .ok (.iload_n 2, 1) := by decide +kernel
theorem dX7_shown_75 : decode cX7_shown 75 = .ok (.lload 9, 2) := by decide +kernel
theorem dX7_shown_77 : decode cX7_shown 77 = .ok (.invokevirtual 89, 3) := by decide +kernel
theorem dX7_shown_80 : decode cX7_shown 80 = .ok (.iload 4, 2) := by decide +kernel
theorem dX7_shown_82 : decode cX7_shown 82 = .ok (.ifCond .ne 18, 3) := by decide +kernel
theorem dX7_shown_85 : decode cX7_shown 85 = .ok (.aload_n 0, 1) := by decide +kernel
theorem dX7_shown_86 : decode cX7_shown 86 = .ok (.aload_n 0, 1) := by decide +kernel
theorem dX7_shown_87 : decode cX7_shown 87 = .ok (.getfield 57, 3) := by decide +kernel
theorem dX7_shown_90 : decode cX7_shown 90 = .ok (.iload_n 3, 1) := by decide +kernel
theorem dX7_shown_91 : decode cX7_shown 91 = .ok (.invokevirtual 145, 3) := by decide +kernel
theorem dX7_shown_94 : decode cX7_shown 94 = .ok (.ifCond .eq 23, 3) := by decide +kernel
theorem dX7_shown_97 : decode cX7_shown 97 = .ok (.goto 17, 3) := by decide +kernel
theorem dX7_shown_100 : decode cX7_shown 100 = .ok (.aload_n 0, 1) := by decide +kernel
theorem dX7_shown_101 : decode cX7_shown 101 = .ok (.aload 5, 2) := by decide +kernel
theorem dX7_shown_103 : decode cX7_shown 103 = .ok (.aload_n 0, 1) := by decide +kernel
theorem dX7_shown_104 : decode cX7_shown 104 = .ok (.getfield 57, 3) := by decide +kernel
theorem dX7_shown_107 : decode cX7_shown 107 = .ok (.iload_n 3, 1) := by decide +kernel
theorem dX7_shown_108 : decode cX7_shown 108 = .ok (.invokevirtual 209, 3) := by decide +kernel
theorem dX7_shown_111 : decode cX7_shown 111 = .ok (.ifCond .eq 6, 3) := by decide +kernel
theorem dX7_shown_114 : decode cX7_shown 114 = .ok (.iinc 6 1, 3) := by decide +kernel
theorem dX7_shown_117 : decode cX7_shown 117 = .ok (.lload 9, 2) := by decide +kernel
theorem dX7_shown_119 : decode cX7_shown 119 = .ok (.lconst 1, 1) := by decide +kernel
theorem dX7_shown_120 : decode cX7_shown 120 = .ok (.ladd, 1) := by decide +kernel
theorem dX7_shown_121 : decode cX7_shown 121 = .ok (.lstore 9, 2) := by decide +kernel
theorem dX7_shown_123 : decode cX7_shown 123 = .ok (.goto (-65), 3) := by decide +kernel
theorem dX7_shown_126 : decode cX7_shown 126 = .ok (.iload 6, 2) := by decide +kernel
theorem dX7_shown_128 : decode cX7_shown 128 = .ok (.ireturn, 1) := by decide +kernel
theorem dX7_count_0 : decode cX7_count 0 = .ok (.iload_n 1, 1) := by decide +kernel
theorem dX7_count_1 : decode cX7_count 1 = .ok (.tableswitch 69 0 4 #[35, 40, 45, 53, 64], 35) := by decide +kernel
theorem dX7_count_36 : decode cX7_count 36 = .ok (.aload_n 0, 1) := by decide +kernel
theorem dX7_count_37 : decode cX7_count 37 = .ok (.invokevirtual 220, 3) := by decide +kernel
theorem dX7_count_40 : decode cX7_count 40 = .ok (.ireturn, 1) := by decide +kernel
theorem dX7_count_41 : decode cX7_count 41 = .ok (.aload_n 0, 1) := by decide +kernel
theorem dX7_count_42 : decode cX7_count 42 = .ok (.getfield 63, 3) := by decide +kernel
theorem dX7_count_45 : decode cX7_count 45 = .ok (.ireturn, 1) := by decide +kernel
theorem dX7_count_46 : decode cX7_count 46 = .ok (.aload_n 0, 1) := by decide +kernel
theorem dX7_count_47 : decode cX7_count 47 = .ok (.getfield 19, 3) := by decide +kernel
theorem dX7_count_50 : decode cX7_count 50 = .ok (.getfield 109, 3) := by decide +kernel
theorem dX7_count_53 : decode cX7_count 53 = .ok (.ireturn, 1) := by decide +kernel
theorem dX7_count_54 : decode cX7_count 54 = .ok (.aload_n 0, 1) := by decide +kernel
theorem dX7_count_55 : decode cX7_count 55 = .ok (.getfield 19, 3) := by decide +kernel
theorem dX7_count_58 : decode cX7_count 58 = .ok (.getfield 116, 3) := by decide +kernel
theorem dX7_count_61 : decode cX7_count 61 = .ok (.getfield 93, 3) := by decide +kernel
theorem dX7_count_64 : decode cX7_count 64 = .ok (.ireturn, 1) := by decide +kernel
theorem dX7_count_65 : decode cX7_count 65 = .ok (.aload_n 0, 1) := by decide +kernel
theorem dX7_count_66 : decode cX7_count 66 = .ok (.invokevirtual 224, 3) := by decide +kernel
theorem dX7_count_69 : decode cX7_count 69 = .ok (.ireturn, 1) := by decide +kernel
theorem dX7_count_70 : decode cX7_count 70 = .ok (.iconst (-1), 1) := by decide +kernel
theorem dX7_count_71 : decode cX7_count 71 = .ok (.ireturn, 1) := by decide +kernel
theorem dX7_ofMaker_0 : decode cX7_ofMaker 0 = .ok (.aload_n 0, 1) := by decide +kernel
theorem dX7_ofMaker_1 : decode cX7_ofMaker 1 = .ok (.iload_n 1, 1) := by decide +kernel
theorem dX7_ofMaker_2 : decode cX7_ofMaker 2 = .ok (.invokevirtual 160, 3) := by decide +kernel
theorem dX7_ofMaker_5 : decode cX7_ofMaker 5 = .ok (.astore_n 3, 1) := by decide +kernel
theorem dX7_ofMaker_6 : decode cX7_ofMaker 6 = .ok (.aload_n 3, 1) := by decide +kernel
theorem dX7_ofMaker_7 : decode cX7_ofMaker 7 = .ok (.ifnonnull 5, 3) := by decide +kernel
theorem dX7_ofMaker_10 : decode cX7_ofMaker 10 = .ok (.iconst (-1), 1) := by decide +kernel
theorem dX7_ofMaker_11 : decode cX7_ofMaker 11 = .ok (.ireturn, 1) := by decide +kernel
theorem dX7_ofMaker_12 : decode cX7_ofMaker 12 = .ok (.iload_n 2, 1) := by decide +kernel
theorem dX7_ofMaker_13 : decode cX7_ofMaker 13 = .ok (.iconst (-1), 1) := by decide +kernel
theorem dX7_ofMaker_14 : decode cX7_ofMaker 14 = .ok (.if_icmp .ne 8, 3) := by decide +kernel
theorem dX7_ofMaker_17 : decode cX7_ofMaker 17 = .ok (.aload_n 3, 1) := by decide +kernel
theorem dX7_ofMaker_18 : decode cX7_ofMaker 18 = .ok (.getfield 164, 3) := by decide +kernel
theorem dX7_ofMaker_21 : decode cX7_ofMaker 21 = .ok (.ireturn, 1) := by decide +kernel
theorem dX7_ofMaker_22 : decode cX7_ofMaker 22 = .ok (.aload_n 3, 1) := by decide +kernel
theorem dX7_ofMaker_23 : decode cX7_ofMaker 23 = .ok (.iload_n 2, 1) := by decide +kernel
theorem dX7_ofMaker_24 : decode cX7_ofMaker 24 = .ok (.invokevirtual 170, 3) := by decide +kernel
theorem dX7_ofMaker_27 : decode cX7_ofMaker 27 = .ok (.ifCond .eq 20, 3) := by decide +kernel
theorem dX7_ofMaker_30 : decode cX7_ofMaker 30 = .ok (.bipush 10, 2) := by decide +kernel
theorem dX7_ofMaker_32 : decode cX7_ofMaker 32 = .ok (.aload_n 3, 1) := by decide +kernel
theorem dX7_ofMaker_33 : decode cX7_ofMaker 33 = .ok (.iload_n 2, 1) := by decide +kernel
theorem dX7_ofMaker_34 : decode cX7_ofMaker 34 = .ok (.invokevirtual 202, 3) := by decide +kernel
theorem dX7_ofMaker_37 : decode cX7_ofMaker 37 = .ok (.imul, 1) := by decide +kernel
theorem dX7_ofMaker_38 : decode cX7_ofMaker 38 = .ok (.aload_n 3, 1) := by decide +kernel
theorem dX7_ofMaker_39 : decode cX7_ofMaker 39 = .ok (.iload_n 2, 1) := by decide +kernel
theorem dX7_ofMaker_40 : decode cX7_ofMaker 40 = .ok (.invokevirtual 171, 3) := by decide +kernel
theorem dX7_ofMaker_43 : decode cX7_ofMaker 43 = .ok (.iadd, 1) := by decide +kernel
theorem dX7_ofMaker_44 : decode cX7_ofMaker 44 = .ok (.goto 4, 3) := by decide +kernel
theorem dX7_ofMaker_47 : decode cX7_ofMaker 47 = .ok (.iconst (-1), 1) := by decide +kernel
theorem dX7_ofMaker_48 : decode cX7_ofMaker 48 = .ok (.ireturn, 1) := by decide +kernel
theorem dX7_within_0 : decode cX7_within 0 = .ok (.iload_n 0, 1) := by decide +kernel
theorem dX7_within_1 : decode cX7_within 1 = .ok (.iload_n 1, 1) := by decide +kernel
theorem dX7_within_2 : decode cX7_within 2 = .ok (.if_icmp .lt 12, 3) := by decide +kernel
theorem dX7_within_5 : decode cX7_within 5 = .ok (.iload_n 0, 1) := by decide +kernel
theorem dX7_within_6 : decode cX7_within 6 = .ok (.iload_n 2, 1) := by decide +kernel
theorem dX7_within_7 : decode cX7_within 7 = .ok (.if_icmp .gt 7, 3) := by decide +kernel
theorem dX7_within_10 : decode cX7_within 10 = .ok (.iconst 1, 1) := by decide +kernel
theorem dX7_within_11 : decode cX7_within 11 = .ok (.goto 4, 3) := by decide +kernel
theorem dX7_within_14 : decode cX7_within 14 = .ok (.iconst 0, 1) := by decide +kernel
theorem dX7_within_15 : decode cX7_within 15 = .ok (.ireturn, 1) := by decide +kernel
theorem dX7_partsOf_0 : decode cX7_partsOf 0 = .ok (.iload_n 0, 1) := by decide +kernel
theorem dX7_partsOf_1 : decode cX7_partsOf 1 = .ok (.ifCond .lt 19, 3) := by decide +kernel
theorem dX7_partsOf_4 : decode cX7_partsOf 4 = .ok (.iload_n 0, 1) := by decide +kernel
theorem dX7_partsOf_5 : decode cX7_partsOf 5 = .ok (.getstatic 227, 3) := by decide +kernel
theorem dX7_partsOf_8 : decode cX7_partsOf 8 = .ok (.arraylength, 1) := by decide +kernel
theorem dX7_partsOf_9 : decode cX7_partsOf 9 = .ok (.if_icmp .ge 11, 3) := by decide +kernel
theorem dX7_partsOf_12 : decode cX7_partsOf 12 = .ok (.getstatic 227, 3) := by decide +kernel
theorem dX7_partsOf_15 : decode cX7_partsOf 15 = .ok (.iload_n 0, 1) := by decide +kernel
theorem dX7_partsOf_16 : decode cX7_partsOf 16 = .ok (.iaload, 1) := by decide +kernel
theorem dX7_partsOf_17 : decode cX7_partsOf 17 = .ok (.goto 4, 3) := by decide +kernel
theorem dX7_partsOf_20 : decode cX7_partsOf 20 = .ok (.iconst 0, 1) := by decide +kernel
theorem dX7_partsOf_21 : decode cX7_partsOf 21 = .ok (.ireturn, 1) := by decide +kernel
theorem dX7_combine_0 : decode cX7_combine 0 = .ok (.iload_n 0, 1) := by decide +kernel
theorem dX7_combine_1 : decode cX7_combine 1 = .ok (.tableswitch 39 4 6 #[27, 31, 35], 27) := by decide +kernel
theorem dX7_combine_28 : decode cX7_combine 28 = .ok (.iload_n 1, 1) := by decide +kernel
theorem dX7_combine_29 : decode cX7_combine 29 = .ok (.iload_n 2, 1) := by decide +kernel
theorem dX7_combine_30 : decode cX7_combine 30 = .ok (.iadd, 1) := by decide +kernel
theorem dX7_combine_31 : decode cX7_combine 31 = .ok (.ireturn, 1) := by decide +kernel
theorem dX7_combine_32 : decode cX7_combine 32 = .ok (.iload_n 1, 1) := by decide +kernel
theorem dX7_combine_33 : decode cX7_combine 33 = .ok (.iload_n 2, 1) := by decide +kernel
theorem dX7_combine_34 : decode cX7_combine 34 = .ok (.isub, 1) := by decide +kernel
theorem dX7_combine_35 : decode cX7_combine 35 = .ok (.ireturn, 1) := by decide +kernel
theorem dX7_combine_36 : decode cX7_combine 36 = .ok (.iload_n 1, 1) := by decide +kernel
theorem dX7_combine_37 : decode cX7_combine 37 = .ok (.iload_n 2, 1) := by decide +kernel
theorem dX7_combine_38 : decode cX7_combine 38 = .ok (.imul, 1) := by decide +kernel
theorem dX7_combine_39 : decode cX7_combine 39 = .ok (.ireturn, 1) := by decide +kernel
theorem dX7_combine_40 : decode cX7_combine 40 = .ok (.iload_n 2, 1) := by decide +kernel
theorem dX7_combine_41 : decode cX7_combine 41 = .ok (.ifCond .ne 7, 3) := by decide +kernel
theorem dX7_combine_44 : decode cX7_combine 44 = .ok (.iconst 0, 1) := by decide +kernel
theorem dX7_combine_45 : decode cX7_combine 45 = .ok (.goto 6, 3) := by decide +kernel
theorem dX7_combine_48 : decode cX7_combine 48 = .ok (.iload_n 1, 1) := by decide +kernel
theorem dX7_combine_49 : decode cX7_combine 49 = .ok (.iload_n 2, 1) := by decide +kernel
theorem dX7_combine_50 : decode cX7_combine 50 = .ok (.idiv, 1) := by decide +kernel
theorem dX7_combine_51 : decode cX7_combine 51 = .ok (.ireturn, 1) := by decide +kernel
theorem dX7_tell_0 : decode cX7_tell 0 = .ok (.aload_n 0, 1) := by decide +kernel
theorem dX7_tell_1 : decode cX7_tell 1 = .ok (.iload_n 1, 1) := by decide +kernel
theorem dX7_tell_2 : decode cX7_tell 2 = .ok (.invokevirtual 149, 3) := by decide +kernel
theorem dX7_tell_5 : decode cX7_tell 5 = .ok (.ifCond .ne 6, 3) := by decide +kernel
theorem dX7_tell_8 : decode cX7_tell 8 = .ok (.ldc 130, 2) := by decide +kernel
theorem dX7_tell_10 : decode cX7_tell 10 = .ok (.ireturn, 1) := by decide +kernel
theorem dX7_tell_11 : decode cX7_tell 11 = .ok (.iload_n 2, 1) := by decide +kernel
theorem dX7_tell_12 : decode cX7_tell 12 = .ok (.tableswitch 46 0 2 #[28, 34, 40], 28) := by decide +kernel
theorem dX7_tell_40 : decode cX7_tell 40 = .ok (.aload_n 0, 1) := by decide +kernel
theorem dX7_tell_41 : decode cX7_tell 41 = .ok (.iload_n 1, 1) := by decide +kernel
theorem dX7_tell_42 : decode cX7_tell 42 = .ok (.invokevirtual 231, 3) := by decide +kernel
theorem dX7_tell_45 : decode cX7_tell 45 = .ok (.ireturn, 1) := by decide +kernel
theorem dX7_tell_46 : decode cX7_tell 46 = .ok (.aload_n 0, 1) := by decide +kernel
theorem dX7_tell_47 : decode cX7_tell 47 = .ok (.iload_n 1, 1) := by decide +kernel
theorem dX7_tell_48 : decode cX7_tell 48 = .ok (.invokevirtual 234, 3) := by decide +kernel
theorem dX7_tell_51 : decode cX7_tell 51 = .ok (.ireturn, 1) := by decide +kernel
theorem dX7_tell_52 : decode cX7_tell 52 = .ok (.aload_n 0, 1) := by decide +kernel
theorem dX7_tell_53 : decode cX7_tell 53 = .ok (.iload_n 1, 1) := by decide +kernel
theorem dX7_tell_54 : decode cX7_tell 54 = .ok (.invokevirtual 153, 3) := by decide +kernel
theorem dX7_tell_57 : decode cX7_tell 57 = .ok (.ireturn, 1) := by decide +kernel
theorem dX7_tell_58 : decode cX7_tell 58 = .ok (.ldc 130, 2) := by decide +kernel
theorem dX7_tell_60 : decode cX7_tell 60 = .ok (.ireturn, 1) := by decide +kernel
theorem dX7_placeAt_0 : decode cX7_placeAt 0 = .ok (.iload_n 1, 1) := by decide +kernel
theorem dX7_placeAt_1 : decode cX7_placeAt 1 = .ok (.iconst 0, 1) := by decide +kernel
theorem dX7_placeAt_2 : decode cX7_placeAt 2 = .ok (.bipush 19, 2) := by decide +kernel
theorem dX7_placeAt_4 : decode cX7_placeAt 4 = .ok (.invokestatic 75, 3) := by decide +kernel
theorem dX7_placeAt_7 : decode cX7_placeAt 7 = .ok (.ifCond .eq 12, 3) := by decide +kernel
theorem dX7_placeAt_10 : decode cX7_placeAt 10 = .ok (.aload_n 0, 1) := by decide +kernel
theorem dX7_placeAt_11 : decode cX7_placeAt 11 = .ok (.getfield 25, 3) := by decide +kernel
theorem dX7_placeAt_14 : decode cX7_placeAt 14 = .ok (.iload_n 1, 1) := by decide +kernel
theorem dX7_placeAt_15 : decode cX7_placeAt 15 = .ok (.aaload, 1) := by decide +kernel
theorem dX7_placeAt_16 : decode cX7_placeAt 16 = .ok (.goto 4, 3) := by decide +kernel
theorem dX7_placeAt_19 : decode cX7_placeAt 19 = .ok (.aconst_null, 1) := by decide +kernel
theorem dX7_placeAt_20 : decode cX7_placeAt 20 = .ok (.areturn, 1) := by decide +kernel
theorem dX7_programAt_0 : decode cX7_programAt 0 = .ok (.aload_n 0, 1) := by decide +kernel
theorem dX7_programAt_1 : decode cX7_programAt 1 = .ok (.iload_n 1, 1) := by decide +kernel
theorem dX7_programAt_2 : decode cX7_programAt 2 = .ok (.invokevirtual 85, 3) := by decide +kernel
theorem dX7_programAt_5 : decode cX7_programAt 5 = .ok (.astore_n 2, 1) := by decide +kernel
theorem dX7_programAt_6 : decode cX7_programAt 6 = .ok (.aload_n 2, 1) := by decide +kernel
theorem dX7_programAt_7 : decode cX7_programAt 7 = .ok (.ifnull 10, 3) := by decide +kernel
theorem dX7_programAt_10 : decode cX7_programAt 10 = .ok (.aload_n 2, 1) := by decide +kernel
theorem dX7_programAt_11 : decode cX7_programAt 11 = .ok (.getfield 93, 3) := by decide +kernel
theorem dX7_programAt_14 : decode cX7_programAt 14 = .ok (.ifCond .ne 7, 3) := by decide +kernel
theorem dX7_programAt_17 : decode cX7_programAt 17 = .ok (.aconst_null, 1) := by decide +kernel
theorem dX7_programAt_18 : decode cX7_programAt 18 = .ok (.goto 4, 3) := by decide +kernel
theorem dX7_programAt_21 : decode cX7_programAt 21 = .ok (.aload_n 2, 1) := by decide +kernel
theorem dX7_programAt_22 : decode cX7_programAt 22 = .ok (.areturn, 1) := by decide +kernel
theorem dX7_makerAt_0 : decode cX7_makerAt 0 = .ok (.iload_n 1, 1) := by decide +kernel
theorem dX7_makerAt_1 : decode cX7_makerAt 1 = .ok (.iconst 0, 1) := by decide +kernel
theorem dX7_makerAt_2 : decode cX7_makerAt 2 = .ok (.aload_n 0, 1) := by decide +kernel
theorem dX7_makerAt_3 : decode cX7_makerAt 3 = .ok (.getfield 63, 3) := by decide +kernel
theorem dX7_makerAt_6 : decode cX7_makerAt 6 = .ok (.iconst 1, 1) := by decide +kernel
theorem dX7_makerAt_7 : decode cX7_makerAt 7 = .ok (.isub, 1) := by decide +kernel
theorem dX7_makerAt_8 : decode cX7_makerAt 8 = .ok (.invokestatic 75, 3) := by decide +kernel
theorem dX7_makerAt_11 : decode cX7_makerAt 11 = .ok (.ifCond .eq 18, 3) := by decide +kernel
theorem dX7_makerAt_14 : decode cX7_makerAt 14 = .ok (.iload_n 1, 1) := by decide +kernel
theorem dX7_makerAt_15 : decode cX7_makerAt 15 = .ok (.bipush 8, 2) := by decide +kernel
theorem dX7_makerAt_17 : decode cX7_makerAt 17 = .ok (.if_icmp .ge 12, 3) := by decide +kernel
theorem dX7_makerAt_20 : decode cX7_makerAt 20 = .ok (.aload_n 0, 1) := by decide +kernel
theorem dX7_makerAt_21 : decode cX7_makerAt 21 = .ok (.getfield 31, 3) := by decide +kernel
theorem dX7_makerAt_24 : decode cX7_makerAt 24 = .ok (.iload_n 1, 1) := by decide +kernel
theorem dX7_makerAt_25 : decode cX7_makerAt 25 = .ok (.aaload, 1) := by decide +kernel
theorem dX7_makerAt_26 : decode cX7_makerAt 26 = .ok (.goto 4, 3) := by decide +kernel
theorem dX7_makerAt_29 : decode cX7_makerAt 29 = .ok (.aconst_null, 1) := by decide +kernel
theorem dX7_makerAt_30 : decode cX7_makerAt 30 = .ok (.areturn, 1) := by decide +kernel
theorem dX7_keptPrograms_0 : decode cX7_keptPrograms 0 = .ok (.iconst 0, 1) := by decide +kernel
theorem dX7_keptPrograms_1 : decode cX7_keptPrograms 1 = .ok (.istore_n 1, 1) := by decide +kernel
theorem dX7_keptPrograms_2 : decode cX7_keptPrograms 2 = .ok (.iconst 0, 1) := by decide +kernel
theorem dX7_keptPrograms_3 : decode cX7_keptPrograms 3 = .ok (.istore_n 2, 1) := by decide +kernel
theorem dX7_keptPrograms_4 : decode cX7_keptPrograms 4 = .ok (.iload_n 2, 1) := by decide +kernel
theorem dX7_keptPrograms_5 : decode cX7_keptPrograms 5 = .ok (.bipush 20, 2) := by decide +kernel
theorem dX7_keptPrograms_7 : decode cX7_keptPrograms 7 = .ok (.if_icmp .ge 20, 3) := by decide +kernel
theorem dX7_keptPrograms_10 : decode cX7_keptPrograms 10 = .ok (.aload_n 0, 1) := by decide +kernel
theorem dX7_keptPrograms_11 : decode cX7_keptPrograms 11 = .ok (.iload_n 2, 1) := by decide +kernel
theorem dX7_keptPrograms_12 : decode cX7_keptPrograms 12 = .ok (.invokevirtual 96, 3) := by decide +kernel
theorem dX7_keptPrograms_15 : decode cX7_keptPrograms 15 = .ok (.ifnull 6, 3) := by decide +kernel
theorem dX7_keptPrograms_18 : decode cX7_keptPrograms 18 = .ok (.iinc 1 1, 3) := by decide +kernel
theorem dX7_keptPrograms_21 : decode cX7_keptPrograms 21 = .ok (.iinc 2 1, 3) := by decide +kernel
theorem dX7_keptPrograms_24 : decode cX7_keptPrograms 24 = .ok (.goto (-20), 3) := by decide +kernel
theorem dX7_keptPrograms_27 : decode cX7_keptPrograms 27 = .ok (.iload_n 1, 1) := by decide +kernel
theorem dX7_keptPrograms_28 : decode cX7_keptPrograms 28 = .ok (.ireturn, 1) := by decide +kernel
theorem dX7_keptNodes_0 : decode cX7_keptNodes 0 = .ok (.iconst 0, 1) := by decide +kernel
theorem dX7_keptNodes_1 : decode cX7_keptNodes 1 = .ok (.istore_n 1, 1) := by decide +kernel
theorem dX7_keptNodes_2 : decode cX7_keptNodes 2 = .ok (.iconst 0, 1) := by decide +kernel
theorem dX7_keptNodes_3 : decode cX7_keptNodes 3 = .ok (.istore_n 2, 1) := by decide +kernel
theorem dX7_keptNodes_4 : decode cX7_keptNodes 4 = .ok (.iload_n 2, 1) := by decide +kernel
theorem dX7_keptNodes_5 : decode cX7_keptNodes 5 = .ok (.bipush 20, 2) := by decide +kernel
theorem dX7_keptNodes_7 : decode cX7_keptNodes 7 = .ok (.if_icmp .ge 26, 3) := by decide +kernel
theorem dX7_keptNodes_10 : decode cX7_keptNodes 10 = .ok (.aload_n 0, 1) := by decide +kernel
theorem dX7_keptNodes_11 : decode cX7_keptNodes 11 = .ok (.iload_n 2, 1) := by decide +kernel
theorem dX7_keptNodes_12 : decode cX7_keptNodes 12 = .ok (.invokevirtual 96, 3) := by decide +kernel
theorem dX7_keptNodes_15 : decode cX7_keptNodes 15 = .ok (.astore_n 3, 1) := by decide +kernel
theorem dX7_keptNodes_16 : decode cX7_keptNodes 16 = .ok (.aload_n 3, 1) := by decide +kernel
theorem dX7_keptNodes_17 : decode cX7_keptNodes 17 = .ok (.ifnull 10, 3) := by decide +kernel
theorem dX7_keptNodes_20 : decode cX7_keptNodes 20 = .ok (.iload_n 1, 1) := by decide +kernel
theorem dX7_keptNodes_21 : decode cX7_keptNodes 21 = .ok (.aload_n 3, 1) := by decide +kernel
theorem dX7_keptNodes_22 : decode cX7_keptNodes 22 = .ok (.getfield 93, 3) := by decide +kernel
theorem dX7_keptNodes_25 : decode cX7_keptNodes 25 = .ok (.iadd, 1) := by decide +kernel
theorem dX7_keptNodes_26 : decode cX7_keptNodes 26 = .ok (.istore_n 1, 1) := by decide +kernel
theorem dX7_keptNodes_27 : decode cX7_keptNodes 27 = .ok (.iinc 2 1, 3) := by decide +kernel
theorem dX7_keptNodes_30 : decode cX7_keptNodes 30 = .ok (.goto (-26), 3) := by decide +kernel
theorem dX7_keptNodes_33 : decode cX7_keptNodes 33 = .ok (.iload_n 1, 1) := by decide +kernel
theorem dX7_keptNodes_34 : decode cX7_keptNodes 34 = .ok (.ireturn, 1) := by decide +kernel
theorem dX7_write_0 : decode cX7_write 0 = .ok (.aload_n 0, 1) := by decide +kernel
theorem dX7_write_1 : decode cX7_write 1 = .ok (.iload_n 1, 1) := by decide +kernel
theorem dX7_write_2 : decode cX7_write 2 = .ok (.invokevirtual 160, 3) := by decide +kernel
theorem dX7_write_5 : decode cX7_write 5 = .ok (.astore_n 3, 1) := by decide +kernel
theorem dX7_write_6 : decode cX7_write 6 = .ok (.aload_n 0, 1) := by decide +kernel
theorem dX7_write_7 : decode cX7_write 7 = .ok (.iload_n 2, 1) := by decide +kernel
theorem dX7_write_8 : decode cX7_write 8 = .ok (.invokevirtual 96, 3) := by decide +kernel
theorem dX7_write_11 : decode cX7_write 11 = .ok (.astore 4, 2) := by decide +kernel
theorem dX7_write_13 : decode cX7_write 13 = .ok (.aload_n 3, 1) := by decide +kernel
theorem dX7_write_14 : decode cX7_write 14 = .ok (.ifnull 8, 3) := by decide +kernel
theorem dX7_write_17 : decode cX7_write 17 = .ok (.aload 4, 2) := by decide +kernel
theorem dX7_write_19 : decode cX7_write 19 = .ok (.ifnonnull 5, 3) := by decide +kernel
theorem dX7_write_22 : decode cX7_write 22 = .ok (.iconst 0, 1) := by decide +kernel
theorem dX7_write_23 : decode cX7_write 23 = .ok (.ireturn, 1) := by decide +kernel
theorem dX7_write_24 : decode cX7_write 24 = .ok (.aload_n 0, 1) := by decide +kernel
theorem dX7_write_25 : decode cX7_write 25 = .ok (.getfield 38, 3) := by decide +kernel
theorem dX7_write_28 : decode cX7_write 28 = .ok (.aload_n 3, 1) := by decide +kernel
theorem dX7_write_29 : decode cX7_write 29 = .ok (.aload 4, 2) := by decide +kernel
theorem dX7_write_31 : decode cX7_write 31 = .ok (.aload_n 3, 1) := by decide +kernel
theorem dX7_write_32 : decode cX7_write 32 = .ok (.getfield 164, 3) := by decide +kernel
theorem dX7_write_35 : decode cX7_write 35 = .ok (.invokevirtual 177, 3) := by decide +kernel
theorem dX7_write_38 : decode cX7_write 38 = .ok (.pop, 1) := by decide +kernel
theorem dX7_write_39 : decode cX7_write 39 = .ok (.aload_n 0, 1) := by decide +kernel
theorem dX7_write_40 : decode cX7_write 40 = .ok (.getfield 45, 3) := by decide +kernel
theorem dX7_write_43 : decode cX7_write 43 = .ok (.aload 4, 2) := by decide +kernel
theorem dX7_write_45 : decode cX7_write 45 = .ok (.invokevirtual 135, 3) := by decide +kernel
theorem dX7_write_48 : decode cX7_write 48 = .ok (.aload_n 0, 1) := by decide +kernel
theorem dX7_write_49 : decode cX7_write 49 = .ok (.getfield 49, 3) := by decide +kernel
theorem dX7_write_52 : decode cX7_write 52 = .ok (.aload_n 0, 1) := by decide +kernel
theorem dX7_write_53 : decode cX7_write 53 = .ok (.getfield 38, 3) := by decide +kernel
theorem dX7_write_56 : decode cX7_write 56 = .ok (.getfield 181, 3) := by decide +kernel
theorem dX7_write_59 : decode cX7_write 59 = .ok (.invokevirtual 135, 3) := by decide +kernel
theorem dX7_write_62 : decode cX7_write 62 = .ok (.iconst 1, 1) := by decide +kernel
theorem dX7_write_63 : decode cX7_write 63 = .ok (.ireturn, 1) := by decide +kernel
theorem dX7_isWrongAt_0 : decode cX7_isWrongAt 0 = .ok (.aload_n 0, 1) := by decide +kernel
theorem dX7_isWrongAt_1 : decode cX7_isWrongAt 1 = .ok (.getfield 45, 3) := by decide +kernel
theorem dX7_isWrongAt_4 : decode cX7_isWrongAt 4 = .ok (.iload_n 1, 1) := by decide +kernel
theorem dX7_isWrongAt_5 : decode cX7_isWrongAt 5 = .ok (.iload_n 2, 1) := by decide +kernel
theorem dX7_isWrongAt_6 : decode cX7_isWrongAt 6 = .ok (.invokevirtual 138, 3) := by decide +kernel
theorem dX7_isWrongAt_9 : decode cX7_isWrongAt 9 = .ok (.pop, 1) := by decide +kernel
theorem dX7_isWrongAt_10 : decode cX7_isWrongAt 10 = .ok (.aload_n 0, 1) := by decide +kernel
theorem dX7_isWrongAt_11 : decode cX7_isWrongAt 11 = .ok (.getfield 49, 3) := by decide +kernel
theorem dX7_isWrongAt_14 : decode cX7_isWrongAt 14 = .ok (.iload_n 1, 1) := by decide +kernel
theorem dX7_isWrongAt_15 : decode cX7_isWrongAt 15 = .ok (.iload_n 2, 1) := by decide +kernel
theorem dX7_isWrongAt_16 : decode cX7_isWrongAt 16 = .ok (.invokevirtual 138, 3) := by decide +kernel
theorem dX7_isWrongAt_19 : decode cX7_isWrongAt 19 = .ok (.ifCond .eq 20, 3) := by decide +kernel
theorem dX7_isWrongAt_22 : decode cX7_isWrongAt 22 = .ok (.aload_n 0, 1) := by decide +kernel
theorem dX7_isWrongAt_23 : decode cX7_isWrongAt 23 = .ok (.getfield 49, 3) := by decide +kernel
theorem dX7_isWrongAt_26 : decode cX7_isWrongAt 26 = .ok (.getfield 142, 3) := by decide +kernel
theorem dX7_isWrongAt_29 : decode cX7_isWrongAt 29 = .ok (.aload_n 0, 1) := by decide +kernel
theorem dX7_isWrongAt_30 : decode cX7_isWrongAt 30 = .ok (.getfield 45, 3) := by decide +kernel
theorem dX7_isWrongAt_33 : decode cX7_isWrongAt 33 = .ok (.getfield 142, 3) := by decide +kernel
theorem dX7_isWrongAt_36 : decode cX7_isWrongAt 36 = .ok (.if_icmp .eq 7, 3) := by decide +kernel
theorem dX7_isWrongAt_39 : decode cX7_isWrongAt 39 = .ok (.iconst 1, 1) := by decide +kernel
theorem dX7_isWrongAt_40 : decode cX7_isWrongAt 40 = .ok (.goto 4, 3) := by decide +kernel
theorem dX7_isWrongAt_43 : decode cX7_isWrongAt 43 = .ok (.iconst 0, 1) := by decide +kernel
theorem dX7_isWrongAt_44 : decode cX7_isWrongAt 44 = .ok (.ireturn, 1) := by decide +kernel
theorem dX7_isSafe_0 : decode cX7_isSafe 0 = .ok (.aload_n 0, 1) := by decide +kernel
theorem dX7_isSafe_1 : decode cX7_isSafe 1 = .ok (.getfield 45, 3) := by decide +kernel
theorem dX7_isSafe_4 : decode cX7_isSafe 4 = .ok (.aload_n 1, 1) := by decide +kernel
theorem dX7_isSafe_5 : decode cX7_isSafe 5 = .ok (.invokevirtual 135, 3) := by decide +kernel
theorem dX7_isSafe_8 : decode cX7_isSafe 8 = .ok (.aload_n 0, 1) := by decide +kernel
theorem dX7_isSafe_9 : decode cX7_isSafe 9 = .ok (.getfield 45, 3) := by decide +kernel
theorem dX7_isSafe_12 : decode cX7_isSafe 12 = .ok (.iload_n 2, 1) := by decide +kernel
theorem dX7_isSafe_13 : decode cX7_isSafe 13 = .ok (.invokevirtual 196, 3) := by decide +kernel
theorem dX7_isSafe_16 : decode cX7_isSafe 16 = .ok (.ireturn, 1) := by decide +kernel
theorem dX7_isFaulty_0 : decode cX7_isFaulty 0 = .ok (.aload_n 0, 1) := by decide +kernel
theorem dX7_isFaulty_1 : decode cX7_isFaulty 1 = .ok (.getfield 38, 3) := by decide +kernel
theorem dX7_isFaulty_4 : decode cX7_isFaulty 4 = .ok (.aload_n 1, 1) := by decide +kernel
theorem dX7_isFaulty_5 : decode cX7_isFaulty 5 = .ok (.aload_n 2, 1) := by decide +kernel
theorem dX7_isFaulty_6 : decode cX7_isFaulty 6 = .ok (.aload_n 1, 1) := by decide +kernel
theorem dX7_isFaulty_7 : decode cX7_isFaulty 7 = .ok (.getfield 164, 3) := by decide +kernel
theorem dX7_isFaulty_10 : decode cX7_isFaulty 10 = .ok (.invokevirtual 177, 3) := by decide +kernel
theorem dX7_isFaulty_13 : decode cX7_isFaulty 13 = .ok (.ifCond .le 16, 3) := by decide +kernel
theorem dX7_isFaulty_16 : decode cX7_isFaulty 16 = .ok (.aload_n 0, 1) := by decide +kernel
theorem dX7_isFaulty_17 : decode cX7_isFaulty 17 = .ok (.aload_n 2, 1) := by decide +kernel
theorem dX7_isFaulty_18 : decode cX7_isFaulty 18 = .ok (.iload_n 3, 1) := by decide +kernel
theorem dX7_isFaulty_19 : decode cX7_isFaulty 19 = .ok (.invokevirtual 237, 3) := by decide +kernel
theorem dX7_isFaulty_22 : decode cX7_isFaulty 22 = .ok (.ifCond .eq 7, 3) := by decide +kernel
theorem dX7_isFaulty_25 : decode cX7_isFaulty 25 = .ok (.iconst 1, 1) := by decide +kernel
theorem dX7_isFaulty_26 : decode cX7_isFaulty 26 = .ok (.goto 4, 3) := by decide +kernel
theorem dX7_isFaulty_29 : decode cX7_isFaulty 29 = .ok (.iconst 0, 1) := by decide +kernel
theorem dX7_isFaulty_30 : decode cX7_isFaulty 30 = .ok (.ireturn, 1) := by decide +kernel
theorem dX7_showsFault_0 : decode cX7_showsFault 0 = .ok (.aload_n 0, 1) := by decide +kernel
theorem dX7_showsFault_1 : decode cX7_showsFault 1 = .ok (.getfield 45, 3) := by decide +kernel
theorem dX7_showsFault_4 : decode cX7_showsFault 4 = .ok (.aload_n 1, 1) := by decide +kernel
theorem dX7_showsFault_5 : decode cX7_showsFault 5 = .ok (.invokevirtual 135, 3) := by decide +kernel
theorem dX7_showsFault_8 : decode cX7_showsFault 8 = .ok (.aload_n 0, 1) := by decide +kernel
theorem dX7_showsFault_9 : decode cX7_showsFault 9 = .ok (.getfield 49, 3) := by decide +kernel
theorem dX7_showsFault_12 : decode cX7_showsFault 12 = .ok (.aload_n 0, 1) := by decide +kernel
theorem dX7_showsFault_13 : decode cX7_showsFault 13 = .ok (.getfield 38, 3) := by decide +kernel
theorem dX7_showsFault_16 : decode cX7_showsFault 16 = .ok (.getfield 181, 3) := by decide +kernel
theorem dX7_showsFault_19 : decode cX7_showsFault 19 = .ok (.invokevirtual 135, 3) := by decide +kernel
theorem dX7_showsFault_22 : decode cX7_showsFault 22 = .ok (.aload_n 0, 1) := by decide +kernel
theorem dX7_showsFault_23 : decode cX7_showsFault 23 = .ok (.getfield 45, 3) := by decide +kernel
theorem dX7_showsFault_26 : decode cX7_showsFault 26 = .ok (.getfield 240, 3) := by decide +kernel
theorem dX7_showsFault_29 : decode cX7_showsFault 29 = .ok (.ifCond .eq 7, 3) := by decide +kernel
theorem dX7_showsFault_32 : decode cX7_showsFault 32 = .ok (.iload_n 2, 1) := by decide +kernel
theorem dX7_showsFault_33 : decode cX7_showsFault 33 = .ok (.goto 5, 3) := by decide +kernel
theorem dX7_showsFault_36 : decode cX7_showsFault 36 = .ok (.iload_n 2, 1) := by decide +kernel
theorem dX7_showsFault_37 : decode cX7_showsFault 37 = .ok (.ineg, 1) := by decide +kernel
theorem dX7_showsFault_38 : decode cX7_showsFault 38 = .ok (.istore_n 3, 1) := by decide +kernel
theorem dX7_showsFault_39 : decode cX7_showsFault 39 = .ok (.aload_n 0, 1) := by decide +kernel
theorem dX7_showsFault_40 : decode cX7_showsFault 40 = .ok (.getfield 45, 3) := by decide +kernel
theorem dX7_showsFault_43 : decode cX7_showsFault 43 = .ok (.getfield 244, 3) := by decide +kernel
theorem dX7_showsFault_46 : decode cX7_showsFault 46 = .ok (.ifCond .eq 7, 3) := by decide +kernel
theorem dX7_showsFault_49 : decode cX7_showsFault 49 = .ok (.iload_n 2, 1) := by decide +kernel
theorem dX7_showsFault_50 : decode cX7_showsFault 50 = .ok (.goto 5, 3) := by decide +kernel
theorem dX7_showsFault_53 : decode cX7_showsFault 53 = .ok (.iload_n 2, 1) := by decide +kernel
theorem dX7_showsFault_54 : decode cX7_showsFault 54 = .ok (.ineg, 1) := by decide +kernel
theorem dX7_showsFault_55 : decode cX7_showsFault 55 = .ok (.istore 4, 2) := by decide +kernel
theorem dX7_showsFault_57 : decode cX7_showsFault 57 = .ok (.iconst 0, 1) := by decide +kernel
theorem dX7_showsFault_58 : decode cX7_showsFault 58 = .ok (.istore 5, 2) := by decide +kernel
theorem dX7_showsFault_60 : decode cX7_showsFault 60 = .ok (.iload_n 2, 1) := by decide +kernel
theorem dX7_showsFault_61 : decode cX7_showsFault 61 = .ok (.ineg, 1) := by decide +kernel
theorem dX7_showsFault_62 : decode cX7_showsFault 62 = .ok (.istore 6, 2) := by decide +kernel
theorem dX7_showsFault_64 : decode cX7_showsFault 64 = .ok (.iload 6, 2) := by decide +kernel
theorem dX7_showsFault_66 : decode cX7_showsFault 66 = .ok (.iload_n 3, 1) := by decide +kernel
theorem dX7_showsFault_67 : decode cX7_showsFault 67 = .ok (.if_icmp .gt 102, 3) := by decide +kernel
theorem dX7_showsFault_70 : decode cX7_showsFault 70 = .ok (.iload_n 2, 1) := by decide +kernel
theorem dX7_showsFault_71 : decode cX7_showsFault 71 = .ok (.ineg, 1) := by decide +kernel
theorem dX7_showsFault_72 : decode cX7_showsFault 72 = .ok (.istore 7, 2) := by decide +kernel
theorem dX7_showsFault_74 : decode cX7_showsFault 74 = .ok (.iload 7, 2) := by decide +kernel
theorem dX7_showsFault_76 : decode cX7_showsFault 76 = .ok (.iload 4, 2) := by decide +kernel
theorem dX7_showsFault_78 : decode cX7_showsFault 78 = .ok (.if_icmp .gt 85, 3) := by decide +kernel
theorem dX7_showsFault_81 : decode cX7_showsFault 81 = .ok (.aload_n 0, 1) := by decide +kernel
theorem dX7_showsFault_82 : decode cX7_showsFault 82 = .ok (.getfield 45, 3) := by decide +kernel
theorem dX7_showsFault_85 : decode cX7_showsFault 85 = .ok (.iload 6, 2) := by decide +kernel
theorem dX7_showsFault_87 : decode cX7_showsFault 87 = .ok (.iload 7, 2) := by decide +kernel
theorem dX7_showsFault_89 : decode cX7_showsFault 89 = .ok (.invokevirtual 138, 3) := by decide +kernel
theorem dX7_showsFault_92 : decode cX7_showsFault 92 = .ok (.ifCond .ne 5, 3) := by decide +kernel
theorem dX7_showsFault_95 : decode cX7_showsFault 95 = .ok (.iconst 0, 1) := by decide +kernel
theorem dX7_showsFault_96 : decode cX7_showsFault 96 = .ok (.ireturn, 1) := by decide +kernel
theorem dX7_showsFault_97 : decode cX7_showsFault 97 = .ok (.iload 5, 2) := by decide +kernel
theorem dX7_showsFault_99 : decode cX7_showsFault 99 = .ok (.ifCond .ne 34, 3) := by decide +kernel
theorem dX7_showsFault_102 : decode cX7_showsFault 102 = .ok (.aload_n 0, 1) := by decide +kernel
theorem dX7_showsFault_103 : decode cX7_showsFault 103 = .ok (.getfield 49, 3) := by decide +kernel
theorem dX7_showsFault_106 : decode cX7_showsFault 106 = .ok (.iload 6, 2) := by decide +kernel
theorem dX7_showsFault_108 : decode cX7_showsFault 108 = .ok (.iload 7, 2) := by decide +kernel
theorem dX7_showsFault_110 : decode cX7_showsFault 110 = .ok (.invokevirtual 138, 3) := by decide +kernel
theorem dX7_showsFault_113 : decode cX7_showsFault 113 = .ok (.ifCond .eq 20, 3) := by decide +kernel
theorem dX7_showsFault_116 : decode cX7_showsFault 116 = .ok (.aload_n 0, 1) := by decide +kernel
theorem dX7_showsFault_117 : decode cX7_showsFault 117 = .ok (.getfield 49, 3) := by decide +kernel
theorem dX7_showsFault_120 : decode cX7_showsFault 120 = .ok (.getfield 142, 3) := by decide +kernel
theorem dX7_showsFault_123 : decode cX7_showsFault 123 = .ok (.aload_n 0, 1) := by decide +kernel
theorem dX7_showsFault_124 : decode cX7_showsFault 124 = .ok (.getfield 45, 3) := by decide +kernel
theorem dX7_showsFault_127 : decode cX7_showsFault 127 = .ok (.getfield 142, 3) := by decide +kernel
theorem dX7_showsFault_130 : decode cX7_showsFault 130 = .ok (.if_icmp .eq 7, 3) := by decide +kernel
theorem dX7_showsFault_133 : decode cX7_showsFault 133 = .ok (.iconst 1, 1) := by decide +kernel
theorem dX7_showsFault_134 : decode cX7_showsFault 134 = .ok (.goto 4, 3) := by decide +kernel
theorem dX7_showsFault_137 : decode cX7_showsFault 137 = .ok (.iconst 0, 1) := by decide +kernel
theorem dX7_showsFault_138 : decode cX7_showsFault 138 = .ok (.istore 5, 2) := by decide +kernel
theorem dX7_showsFault_140 : decode cX7_showsFault 140 = .ok (.iload 5, 2) := by decide +kernel
theorem dX7_showsFault_142 : decode cX7_showsFault 142 = .ok (.ifCond .eq 15, 3) := by decide +kernel
theorem dX7_showsFault_145 : decode cX7_showsFault 145 = .ok (.aload_n 0, 1) := by decide +kernel
theorem dX7_showsFault_146 : decode cX7_showsFault 146 = .ok (.getfield 45, 3) := by decide +kernel
theorem dX7_showsFault_149 : decode cX7_showsFault 149 = .ok (.getfield 247, 3) := by decide +kernel
theorem dX7_showsFault_152 : decode cX7_showsFault 152 = .ok (.ifCond .ne 5, 3) := by decide +kernel
theorem dX7_showsFault_155 : decode cX7_showsFault 155 = .ok (.iconst 1, 1) := by decide +kernel
theorem dX7_showsFault_156 : decode cX7_showsFault 156 = .ok (.ireturn, 1) := by decide +kernel
theorem dX7_showsFault_157 : decode cX7_showsFault 157 = .ok (.iinc 7 1, 3) := by decide +kernel
theorem dX7_showsFault_160 : decode cX7_showsFault 160 = .ok (.goto (-86), 3) := by decide +kernel
theorem dX7_showsFault_163 : decode cX7_showsFault 163 = .ok (.iinc 6 1, 3) := by decide +kernel
theorem dX7_showsFault_166 : decode cX7_showsFault 166 = .ok (.goto (-102), 3) := by decide +kernel
theorem dX7_showsFault_169 : decode cX7_showsFault 169 = .ok (.iload 5, 2) := by decide +kernel
theorem dX7_showsFault_171 : decode cX7_showsFault 171 = .ok (.ireturn, 1) := by decide +kernel
theorem dX7_shrink_0 : decode cX7_shrink 0 = .ok (.iconst 0, 1) := by decide +kernel
theorem dX7_shrink_1 : decode cX7_shrink 1 = .ok (.istore 4, 2) := by decide +kernel
theorem dX7_shrink_3 : decode cX7_shrink 3 = .ok (.iload 4, 2) := by decide +kernel
theorem dX7_shrink_5 : decode cX7_shrink 5 = .ok (.aload_n 2, 1) := by decide +kernel
theorem dX7_shrink_6 : decode cX7_shrink 6 = .ok (.getfield 93, 3) := by decide +kernel
theorem dX7_shrink_9 : decode cX7_shrink 9 = .ok (.if_icmp .ge 149, 3) := by decide +kernel
theorem dX7_shrink_12 : decode cX7_shrink 12 = .ok (.aload_n 2, 1) := by decide +kernel
theorem dX7_shrink_13 : decode cX7_shrink 13 = .ok (.iload 4, 2) := by decide +kernel
theorem dX7_shrink_15 : decode cX7_shrink 15 = .ok (.invokevirtual 231, 3) := by decide +kernel
theorem dX7_shrink_18 : decode cX7_shrink 18 = .ok (.invokestatic 112, 3) := by decide +kernel
theorem dX7_shrink_21 : decode cX7_shrink 21 = .ok (.istore 5, 2) := by decide +kernel
theorem dX7_shrink_23 : decode cX7_shrink 23 = .ok (.iload 4, 2) := by decide +kernel
theorem dX7_shrink_25 : decode cX7_shrink 25 = .ok (.iconst 1, 1) := by decide +kernel
theorem dX7_shrink_26 : decode cX7_shrink 26 = .ok (.iadd, 1) := by decide +kernel
theorem dX7_shrink_27 : decode cX7_shrink 27 = .ok (.istore 6, 2) := by decide +kernel
theorem dX7_shrink_29 : decode cX7_shrink 29 = .ok (.iconst 0, 1) := by decide +kernel
theorem dX7_shrink_30 : decode cX7_shrink 30 = .ok (.istore 7, 2) := by decide +kernel
theorem dX7_shrink_32 : decode cX7_shrink 32 = .ok (.iload 7, 2) := by decide +kernel
theorem dX7_shrink_34 : decode cX7_shrink 34 = .ok (.iload 5, 2) := by decide +kernel
theorem dX7_shrink_36 : decode cX7_shrink 36 = .ok (.if_icmp .gt 116, 3) := by decide +kernel
theorem dX7_shrink_39 : decode cX7_shrink 39 = .ok (.iload 7, 2) := by decide +kernel
theorem dX7_shrink_41 : decode cX7_shrink 41 = .ok (.iload 5, 2) := by decide +kernel
theorem dX7_shrink_43 : decode cX7_shrink 43 = .ok (.if_icmp .ne 7, 3) := by decide +kernel
theorem dX7_shrink_46 : decode cX7_shrink 46 = .ok (.iconst 1, 1) := by decide +kernel
theorem dX7_shrink_47 : decode cX7_shrink 47 = .ok (.goto 4, 3) := by decide +kernel
theorem dX7_shrink_50 : decode cX7_shrink 50 = .ok (.iconst 0, 1) := by decide +kernel
theorem dX7_shrink_51 : decode cX7_shrink 51 = .ok (.istore 8, 2) := by decide +kernel
theorem dX7_shrink_53 : decode cX7_shrink 53 = .ok (.iload 8, 2) := by decide +kernel
theorem dX7_shrink_55 : decode cX7_shrink 55 = .ok (.ifCond .eq 16, 3) := by decide +kernel
theorem dX7_shrink_58 : decode cX7_shrink 58 = .ok (.aload_n 2, 1) := by decide +kernel
theorem dX7_shrink_59 : decode cX7_shrink 59 = .ok (.iload 4, 2) := by decide +kernel
theorem dX7_shrink_61 : decode cX7_shrink 61 = .ok (.iconst 0, 1) := by decide +kernel
theorem dX7_shrink_62 : decode cX7_shrink 62 = .ok (.invokevirtual 250, 3) := by decide +kernel
theorem dX7_shrink_65 : decode cX7_shrink 65 = .ok (.ifCond .eq 6, 3) := by decide +kernel
theorem dX7_shrink_68 : decode cX7_shrink 68 = .ok (.goto 78, 3) := by decide +kernel
theorem dX7_shrink_71 : decode cX7_shrink 71 = .ok (.aload_n 0, 1) := by decide +kernel
theorem dX7_shrink_72 : decode cX7_shrink 72 = .ok (.getfield 57, 3) := by decide +kernel
theorem dX7_shrink_75 : decode cX7_shrink 75 = .ok (.aload_n 2, 1) := by decide +kernel
theorem dX7_shrink_76 : decode cX7_shrink 76 = .ok (.iload 4, 2) := by decide +kernel
theorem dX7_shrink_78 : decode cX7_shrink 78 = .ok (.iload 8, 2) := by decide +kernel
theorem dX7_shrink_80 : decode cX7_shrink 80 = .ok (.ifCond .eq 10, 3) := by decide +kernel
theorem dX7_shrink_83 : decode cX7_shrink 83 = .ok (.aload_n 0, 1) := by decide +kernel
theorem dX7_shrink_84 : decode cX7_shrink 84 = .ok (.getfield 60, 3) := by decide +kernel
theorem dX7_shrink_87 : decode cX7_shrink 87 = .ok (.goto 4, 3) := by decide +kernel
theorem dX7_shrink_90 : decode cX7_shrink 90 = .ok (.aload_n 2, 1) := by decide +kernel
theorem dX7_shrink_91 : decode cX7_shrink 91 = .ok (.iload 8, 2) := by decide +kernel
theorem dX7_shrink_93 : decode cX7_shrink 93 = .ok (.ifCond .eq 7, 3) := by decide +kernel
theorem dX7_shrink_96 : decode cX7_shrink 96 = .ok (.iconst 0, 1) := by decide +kernel
theorem dX7_shrink_97 : decode cX7_shrink 97 = .ok (.goto 5, 3) := by decide +kernel
theorem dX7_shrink_100 : decode cX7_shrink 100 = .ok (.iload 6, 2) := by decide +kernel
theorem dX7_shrink_102 : decode cX7_shrink 102 = .ok (.invokevirtual 156, 3) := by decide +kernel
theorem dX7_shrink_105 : decode cX7_shrink 105 = .ok (.aload_n 0, 1) := by decide +kernel
theorem dX7_shrink_106 : decode cX7_shrink 106 = .ok (.getfield 38, 3) := by decide +kernel
theorem dX7_shrink_109 : decode cX7_shrink 109 = .ok (.aload_n 1, 1) := by decide +kernel
theorem dX7_shrink_110 : decode cX7_shrink 110 = .ok (.aload_n 0, 1) := by decide +kernel
theorem dX7_shrink_111 : decode cX7_shrink 111 = .ok (.getfield 57, 3) := by decide +kernel
theorem dX7_shrink_114 : decode cX7_shrink 114 = .ok (.aload_n 1, 1) := by decide +kernel
theorem dX7_shrink_115 : decode cX7_shrink 115 = .ok (.getfield 164, 3) := by decide +kernel
theorem dX7_shrink_118 : decode cX7_shrink 118 = .ok (.invokevirtual 177, 3) := by decide +kernel
theorem dX7_shrink_121 : decode cX7_shrink 121 = .ok (.ifCond .le 17, 3) := by decide +kernel
theorem dX7_shrink_124 : decode cX7_shrink 124 = .ok (.aload_n 0, 1) := by decide +kernel
theorem dX7_shrink_125 : decode cX7_shrink 125 = .ok (.aload_n 0, 1) := by decide +kernel
theorem dX7_shrink_126 : decode cX7_shrink 126 = .ok (.getfield 57, 3) := by decide +kernel
theorem dX7_shrink_129 : decode cX7_shrink 129 = .ok (.iload_n 3, 1) := by decide +kernel
theorem dX7_shrink_130 : decode cX7_shrink 130 = .ok (.invokevirtual 237, 3) := by decide +kernel
theorem dX7_shrink_133 : decode cX7_shrink 133 = .ok (.ifCond .eq 5, 3) := by decide +kernel
theorem dX7_shrink_136 : decode cX7_shrink 136 = .ok (.iconst 1, 1) := by decide +kernel
theorem dX7_shrink_137 : decode cX7_shrink 137 = .ok (.ireturn, 1) := by decide +kernel
theorem dX7_shrink_138 : decode cX7_shrink 138 = .ok (.aload_n 2, 1) := by decide +kernel
theorem dX7_shrink_139 : decode cX7_shrink 139 = .ok (.iload 6, 2) := by decide +kernel
theorem dX7_shrink_141 : decode cX7_shrink 141 = .ok (.invokevirtual 253, 3) := by decide +kernel
theorem dX7_shrink_144 : decode cX7_shrink 144 = .ok (.istore 6, 2) := by decide +kernel
theorem dX7_shrink_146 : decode cX7_shrink 146 = .ok (.iinc 7 1, 3) := by decide +kernel
theorem dX7_shrink_149 : decode cX7_shrink 149 = .ok (.goto (-117), 3) := by decide +kernel
theorem dX7_shrink_152 : decode cX7_shrink 152 = .ok (.iinc 4 1, 3) := by decide +kernel
theorem dX7_shrink_155 : decode cX7_shrink 155 = .ok (.goto (-152), 3) := by decide +kernel
theorem dX7_shrink_158 : decode cX7_shrink 158 = .ok (.iconst 0, 1) := by decide +kernel
theorem dX7_shrink_159 : decode cX7_shrink 159 = .ok (.ireturn, 1) := by decide +kernel
theorem dX8_init_0 : decode cX8_init 0 = .ok (.aload_n 0, 1) := by decide +kernel
theorem dX8_init_1 : decode cX8_init 1 = .ok (.invokespecial 1, 3) := by decide +kernel
theorem dX8_init_4 : decode cX8_init 4 = .ok (.aload_n 0, 1) := by decide +kernel
theorem dX8_init_5 : decode cX8_init 5 = .ok (.sipush 9000, 3) := by decide +kernel
theorem dX8_init_8 : decode cX8_init 8 = .ok (.newarray .int, 2) := by decide +kernel
theorem dX8_init_10 : decode cX8_init 10 = .ok (.putfield 7, 3) := by decide +kernel
theorem dX8_init_13 : decode cX8_init 13 = .ok (.aload_n 0, 1) := by decide +kernel
theorem dX8_init_14 : decode cX8_init 14 = .ok (.sipush 9000, 3) := by decide +kernel
theorem dX8_init_17 : decode cX8_init 17 = .ok (.newarray .int, 2) := by decide +kernel
theorem dX8_init_19 : decode cX8_init 19 = .ok (.putfield 13, 3) := by decide +kernel
theorem dX8_init_22 : decode cX8_init 22 = .ok (.aload_n 0, 1) := by decide +kernel
theorem dX8_init_23 : decode cX8_init 23 = .ok (.sipush 9000, 3) := by decide +kernel
theorem dX8_init_26 : decode cX8_init 26 = .ok (.newarray .int, 2) := by decide +kernel
theorem dX8_init_28 : decode cX8_init 28 = .ok (.putfield 16, 3) := by decide +kernel
theorem dX8_init_31 : decode cX8_init 31 = .ok (.aload_n 0, 1) := by decide +kernel
theorem dX8_init_32 : decode cX8_init 32 = .ok (.sipush 9000, 3) := by decide +kernel
theorem dX8_init_35 : decode cX8_init 35 = .ok (.newarray .int, 2) := by decide +kernel
theorem dX8_init_37 : decode cX8_init 37 = .ok (.putfield 19, 3) := by decide +kernel
theorem dX8_init_40 : decode cX8_init 40 = .ok (.aload_n 0, 1) := by decide +kernel
theorem dX8_init_41 : decode cX8_init 41 = .ok (.sipush 9000, 3) := by decide +kernel
theorem dX8_init_44 : decode cX8_init 44 = .ok (.newarray .int, 2) := by decide +kernel
theorem dX8_init_46 : decode cX8_init 46 = .ok (.putfield 22, 3) := by decide +kernel
theorem dX8_init_49 : decode cX8_init 49 = .ok (.aload_n 0, 1) := by decide +kernel
theorem dX8_init_50 : decode cX8_init 50 = .ok (.sipush 9000, 3) := by decide +kernel
theorem dX8_init_53 : decode cX8_init 53 = .ok (.newarray .int, 2) := by decide +kernel
theorem dX8_init_55 : decode cX8_init 55 = .ok (.putfield 25, 3) := by decide +kernel
theorem dX8_init_58 : decode cX8_init 58 = .ok (.aload_n 0, 1) := by decide +kernel
theorem dX8_init_59 : decode cX8_init 59 = .ok (.bipush 20, 2) := by decide +kernel
theorem dX8_init_61 : decode cX8_init 61 = .ok (.newarray .int, 2) := by decide +kernel
theorem dX8_init_63 : decode cX8_init 63 = .ok (.putfield 28, 3) := by decide +kernel
theorem dX8_init_66 : decode cX8_init 66 = .ok (.aload_n 0, 1) := by decide +kernel
theorem dX8_init_67 : decode cX8_init 67 = .ok (.sipush 1200, 3) := by decide +kernel
theorem dX8_init_70 : decode cX8_init 70 = .ok (.newarray .int, 2) := by decide +kernel
theorem dX8_init_72 : decode cX8_init 72 = .ok (.putfield 31, 3) := by decide +kernel
theorem dX8_init_75 : decode cX8_init 75 = .ok (.aload_n 0, 1) := by decide +kernel
theorem dX8_init_76 : decode cX8_init 76 = .ok (.sipush 1200, 3) := by decide +kernel
theorem dX8_init_79 : decode cX8_init 79 = .ok (.newarray .int, 2) := by decide +kernel
theorem dX8_init_81 : decode cX8_init 81 = .ok (.putfield 34, 3) := by decide +kernel
theorem dX8_init_84 : decode cX8_init 84 = .ok (.aload_n 0, 1) := by decide +kernel
theorem dX8_init_85 : decode cX8_init 85 = .ok (.sipush 400, 3) := by decide +kernel
theorem dX8_init_88 : decode cX8_init 88 = .ok (.newarray .int, 2) := by decide +kernel
theorem dX8_init_90 : decode cX8_init 90 = .ok (.putfield 37, 3) := by decide +kernel
theorem dX8_init_93 : decode cX8_init 93 = .ok (.aload_n 0, 1) := by decide +kernel
theorem dX8_init_94 : decode cX8_init 94 = .ok (.sipush 400, 3) := by decide +kernel
theorem dX8_init_97 : decode cX8_init 97 = .ok (.newarray .int, 2) := by decide +kernel
theorem dX8_init_99 : decode cX8_init 99 = .ok (.putfield 40, 3) := by decide +kernel
theorem dX8_init_102 : decode cX8_init 102 = .ok (.aload_n 0, 1) := by decide +kernel
theorem dX8_init_103 : decode cX8_init 103 = .ok (.bipush 16, 2) := by decide +kernel
theorem dX8_init_105 : decode cX8_init 105 = .ok (.newarray .long, 2) := by decide +kernel
theorem dX8_init_107 : decode cX8_init 107 = .ok (.putfield 43, 3) := by decide +kernel
theorem dX8_init_110 : decode cX8_init 110 = .ok (.aload_n 0, 1) := by decide +kernel
theorem dX8_init_111 : decode cX8_init 111 = .ok (.bipush 61, 2) := by decide +kernel
theorem dX8_init_113 : decode cX8_init 113 = .ok (.newarray .int, 2) := by decide +kernel
theorem dX8_init_115 : decode cX8_init 115 = .ok (.putfield 47, 3) := by decide +kernel
theorem dX8_init_118 : decode cX8_init 118 = .ok (.aload_n 0, 1) := by decide +kernel
theorem dX8_init_119 : decode cX8_init 119 = .ok (.bipush 60, 2) := by decide +kernel
theorem dX8_init_121 : decode cX8_init 121 = .ok (.newarray .int, 2) := by decide +kernel
theorem dX8_init_123 : decode cX8_init 123 = .ok (.putfield 50, 3) := by decide +kernel
theorem dX8_init_126 : decode cX8_init 126 = .ok (.aload_n 0, 1) := by decide +kernel
theorem dX8_init_127 : decode cX8_init 127 = .ok (.bipush 60, 2) := by decide +kernel
theorem dX8_init_129 : decode cX8_init 129 = .ok (.newarray .int, 2) := by decide +kernel
theorem dX8_init_131 : decode cX8_init 131 = .ok (.putfield 53, 3) := by decide +kernel
theorem dX8_init_134 : decode cX8_init 134 = .ok (.aload_n 0, 1) := by decide +kernel
theorem dX8_init_135 : decode cX8_init 135 = .ok (.bipush 60, 2) := by decide +kernel
theorem dX8_init_137 : decode cX8_init 137 = .ok (.newarray .int, 2) := by decide +kernel
theorem dX8_init_139 : decode cX8_init 139 = .ok (.putfield 56, 3) := by decide +kernel
theorem dX8_init_142 : decode cX8_init 142 = .ok (.aload_n 0, 1) := by decide +kernel
theorem dX8_init_143 : decode cX8_init 143 = .ok (.bipush 60, 2) := by decide +kernel
theorem dX8_init_145 : decode cX8_init 145 = .ok (.newarray .int, 2) := by decide +kernel
theorem dX8_init_147 : decode cX8_init 147 = .ok (.putfield 59, 3) := by decide +kernel
theorem dX8_init_150 : decode cX8_init 150 = .ok (.aload_n 0, 1) := by decide +kernel
theorem dX8_init_151 : decode cX8_init 151 = .ok (.bipush 8, 2) := by decide +kernel
theorem dX8_init_153 : decode cX8_init 153 = .ok (.newarray .int, 2) := by decide +kernel
theorem dX8_init_155 : decode cX8_init 155 = .ok (.putfield 62, 3) := by decide +kernel
theorem dX8_init_158 : decode cX8_init 158 = .ok (.aload_n 0, 1) := by decide +kernel
theorem dX8_init_159 : decode cX8_init 159 = .ok (.bipush 80, 2) := by decide +kernel
theorem dX8_init_161 : decode cX8_init 161 = .ok (.newarray .int, 2) := by decide +kernel
theorem dX8_init_163 : decode cX8_init 163 = .ok (.putfield 65, 3) := by decide +kernel
theorem dX8_init_166 : decode cX8_init 166 = .ok (.aload_n 0, 1) := by decide +kernel
theorem dX8_init_167 : decode cX8_init 167 = .ok (.bipush 80, 2) := by decide +kernel
theorem dX8_init_169 : decode cX8_init 169 = .ok (.newarray .int, 2) := by decide +kernel
theorem dX8_init_171 : decode cX8_init 171 = .ok (.putfield 68, 3) := by decide +kernel
theorem dX8_init_174 : decode cX8_init 174 = .ok (.aload_n 0, 1) := by decide +kernel
theorem dX8_init_175 : decode cX8_init 175 = .ok (.sipush 400, 3) := by decide +kernel
theorem dX8_init_178 : decode cX8_init 178 = .ok (.newarray .int, 2) := by decide +kernel
theorem dX8_init_180 : decode cX8_init 180 = .ok (.putfield 71, 3) := by decide +kernel
theorem dX8_init_183 : decode cX8_init 183 = .ok (.aload_n 0, 1) := by decide +kernel
theorem dX8_init_184 : decode cX8_init 184 = .ok (.sipush 400, 3) := by decide +kernel
theorem dX8_init_187 : decode cX8_init 187 = .ok (.newarray .int, 2) := by decide +kernel
theorem dX8_init_189 : decode cX8_init 189 = .ok (.putfield 74, 3) := by decide +kernel
theorem dX8_init_192 : decode cX8_init 192 = .ok (.aload_n 0, 1) := by decide +kernel
theorem dX8_init_193 : decode cX8_init 193 = .ok (.sipush 400, 3) := by decide +kernel
theorem dX8_init_196 : decode cX8_init 196 = .ok (.newarray .int, 2) := by decide +kernel
theorem dX8_init_198 : decode cX8_init 198 = .ok (.putfield 77, 3) := by decide +kernel
theorem dX8_init_201 : decode cX8_init 201 = .ok (.aload_n 0, 1) := by decide +kernel
theorem dX8_init_202 : decode cX8_init 202 = .ok (.iconst (-1), 1) := by decide +kernel
theorem dX8_init_203 : decode cX8_init 203 = .ok (.putfield 80, 3) := by decide +kernel
theorem dX8_init_206 : decode cX8_init 206 = .ok (.aload_n 0, 1) := by decide +kernel
theorem dX8_init_207 : decode cX8_init 207 = .ok (.bipush 60, 2) := by decide +kernel
theorem dX8_init_209 : decode cX8_init 209 = .ok (.newarray .int, 2) := by decide +kernel
theorem dX8_init_211 : decode cX8_init 211 = .ok (.putfield 84, 3) := by decide +kernel
theorem dX8_init_214 : decode cX8_init 214 = .ok (.aload_n 0, 1) := by decide +kernel
theorem dX8_init_215 : decode cX8_init 215 = .ok (.bipush 60, 2) := by decide +kernel
theorem dX8_init_217 : decode cX8_init 217 = .ok (.newarray .int, 2) := by decide +kernel
theorem dX8_init_219 : decode cX8_init 219 = .ok (.putfield 87, 3) := by decide +kernel
theorem dX8_init_222 : decode cX8_init 222 = .ok (.return_, 1) := by decide +kernel
theorem dX8_in_0 : decode cX8_in 0 = .ok (.lload_n 0, 1) := by decide +kernel
theorem dX8_in_1 : decode cX8_in 1 = .ok (.lload_n 2, 1) := by decide +kernel
theorem dX8_in_2 : decode cX8_in 2 = .ok (.lcmp, 1) := by decide +kernel
theorem dX8_in_3 : decode cX8_in 3 = .ok (.ifCond .lt 14, 3) := by decide +kernel
theorem dX8_in_6 : decode cX8_in 6 = .ok (.lload_n 0, 1) := by decide +kernel
theorem dX8_in_7 : decode cX8_in 7 = .ok (.lload 4, 2) := by decide +kernel
theorem dX8_in_9 : decode cX8_in 9 = .ok (.lcmp, 1) := by decide +kernel
theorem dX8_in_10 : decode cX8_in 10 = .ok (.ifCond .gt 7, 3) := by decide +kernel
theorem dX8_in_13 : decode cX8_in 13 = .ok (.iconst 1, 1) := by decide +kernel
theorem dX8_in_14 : decode cX8_in 14 = .ok (.goto 4, 3) := by decide +kernel
theorem dX8_in_17 : decode cX8_in 17 = .ok (.iconst 0, 1) := by decide +kernel
theorem dX8_in_18 : decode cX8_in 18 = .ok (.ireturn, 1) := by decide +kernel
theorem dX8_parts_0 : decode cX8_parts 0 = .ok (.iload_n 0, 1) := by decide +kernel
theorem dX8_parts_1 : decode cX8_parts 1 = .ok (.iconst 3, 1) := by decide +kernel
theorem dX8_parts_2 : decode cX8_parts 2 = .ok (.if_icmp .ge 7, 3) := by decide +kernel
theorem dX8_parts_5 : decode cX8_parts 5 = .ok (.iconst 0, 1) := by decide +kernel
theorem dX8_parts_6 : decode cX8_parts 6 = .ok (.goto 23, 3) := by decide +kernel
theorem dX8_parts_9 : decode cX8_parts 9 = .ok (.iload_n 0, 1) := by decide +kernel
theorem dX8_parts_10 : decode cX8_parts 10 = .ok (.iconst 3, 1) := by decide +kernel
theorem dX8_parts_11 : decode cX8_parts 11 = .ok (.if_icmp .ne 7, 3) := by decide +kernel
theorem dX8_parts_14 : decode cX8_parts 14 = .ok (.iconst 1, 1) := by decide +kernel
theorem dX8_parts_15 : decode cX8_parts 15 = .ok (.goto 14, 3) := by decide +kernel
theorem dX8_parts_18 : decode cX8_parts 18 = .ok (.iload_n 0, 1) := by decide +kernel
theorem dX8_parts_19 : decode cX8_parts 19 = .ok (.bipush 8, 2) := by decide +kernel
theorem dX8_parts_21 : decode cX8_parts 21 = .ok (.if_icmp .ne 7, 3) := by decide +kernel
theorem dX8_parts_24 : decode cX8_parts 24 = .ok (.iconst 3, 1) := by decide +kernel
theorem dX8_parts_25 : decode cX8_parts 25 = .ok (.goto 4, 3) := by decide +kernel
theorem dX8_parts_28 : decode cX8_parts 28 = .ok (.iconst 2, 1) := by decide +kernel
theorem dX8_parts_29 : decode cX8_parts 29 = .ok (.ireturn, 1) := by decide +kernel
theorem dX8_make_0 : decode cX8_make 0 = .ok (.aload_n 0, 1) := by decide +kernel
theorem dX8_make_1 : decode cX8_make 1 = .ok (.getfield 7, 3) := by decide +kernel
theorem dX8_make_4 : decode cX8_make 4 = .ok (.aload_n 0, 1) := by decide +kernel
theorem dX8_make_5 : decode cX8_make 5 = .ok (.getfield 93, 3) := by decide +kernel
theorem dX8_make_8 : decode cX8_make 8 = .ok (.iload_n 1, 1) := by decide +kernel
theorem dX8_make_9 : decode cX8_make 9 = .ok (.iastore, 1) := by decide +kernel
theorem dX8_make_10 : decode cX8_make 10 = .ok (.aload_n 0, 1) := by decide +kernel
theorem dX8_make_11 : decode cX8_make 11 = .ok (.getfield 13, 3) := by decide +kernel
theorem dX8_make_14 : decode cX8_make 14 = .ok (.aload_n 0, 1) := by decide +kernel
theorem dX8_make_15 : decode cX8_make 15 = .ok (.getfield 93, 3) := by decide +kernel
theorem dX8_make_18 : decode cX8_make 18 = .ok (.iload_n 2, 1) := by decide +kernel
theorem dX8_make_19 : decode cX8_make 19 = .ok (.iastore, 1) := by decide +kernel
theorem dX8_make_20 : decode cX8_make 20 = .ok (.aload_n 0, 1) := by decide +kernel
theorem dX8_make_21 : decode cX8_make 21 = .ok (.getfield 16, 3) := by decide +kernel
theorem dX8_make_24 : decode cX8_make 24 = .ok (.aload_n 0, 1) := by decide +kernel
theorem dX8_make_25 : decode cX8_make 25 = .ok (.getfield 93, 3) := by decide +kernel
theorem dX8_make_28 : decode cX8_make 28 = .ok (.iload_n 3, 1) := by decide +kernel
theorem dX8_make_29 : decode cX8_make 29 = .ok (.iastore, 1) := by decide +kernel
theorem dX8_make_30 : decode cX8_make 30 = .ok (.aload_n 0, 1) := by decide +kernel
theorem dX8_make_31 : decode cX8_make 31 = .ok (.getfield 19, 3) := by decide +kernel
theorem dX8_make_34 : decode cX8_make 34 = .ok (.aload_n 0, 1) := by decide +kernel
theorem dX8_make_35 : decode cX8_make 35 = .ok (.getfield 93, 3) := by decide +kernel
theorem dX8_make_38 : decode cX8_make 38 = .ok (.iload 4, 2) := by decide +kernel
theorem dX8_make_40 : decode cX8_make 40 = .ok (.iastore, 1) := by decide +kernel
theorem dX8_make_41 : decode cX8_make 41 = .ok (.aload_n 0, 1) := by decide +kernel
theorem dX8_make_42 : decode cX8_make 42 = .ok (.getfield 22, 3) := by decide +kernel
theorem dX8_make_45 : decode cX8_make 45 = .ok (.aload_n 0, 1) := by decide +kernel
theorem dX8_make_46 : decode cX8_make 46 = .ok (.getfield 93, 3) := by decide +kernel
theorem dX8_make_49 : decode cX8_make 49 = .ok (.iload 5, 2) := by decide +kernel
theorem dX8_make_51 : decode cX8_make 51 = .ok (.iastore, 1) := by decide +kernel
theorem dX8_make_52 : decode cX8_make 52 = .ok (.aload_n 0, 1) := by decide +kernel
theorem dX8_make_53 : decode cX8_make 53 = .ok (.getfield 25, 3) := by decide +kernel
theorem dX8_make_56 : decode cX8_make 56 = .ok (.aload_n 0, 1) := by decide +kernel
theorem dX8_make_57 : decode cX8_make 57 = .ok (.getfield 93, 3) := by decide +kernel
theorem dX8_make_60 : decode cX8_make 60 = .ok (.iconst 1, 1) := by decide +kernel
theorem dX8_make_61 : decode cX8_make 61 = .ok (.iload_n 3, 1) := by decide +kernel
theorem dX8_make_62 : decode cX8_make 62 = .ok (.ifCond .ge 7, 3) := by decide +kernel
theorem dX8_make_65 : decode cX8_make 65 = .ok (.iconst 0, 1) := by decide +kernel
theorem dX8_make_66 : decode cX8_make 66 = .ok (.goto 9, 3) := by decide +kernel
theorem dX8_make_69 : decode cX8_make 69 = .ok (.aload_n 0, 1) := by decide +kernel
theorem dX8_make_70 : decode cX8_make 70 = .ok (.getfield 25, 3) := by decide +kernel
theorem dX8_make_73 : decode cX8_make 73 = .ok (.iload_n 3, 1) := by decide +kernel
theorem dX8_make_74 : decode cX8_make 74 = .ok (.iaload, 1) := by decide +kernel
theorem dX8_make_75 : decode cX8_make 75 = .ok (.iadd, 1) := by decide +kernel
theorem dX8_make_76 : decode cX8_make 76 = .ok (.iload 4, 2) := by decide +kernel
theorem dX8_make_78 : decode cX8_make 78 = .ok (.ifCond .ge 7, 3) := by decide +kernel
theorem dX8_make_81 : decode cX8_make 81 = .ok (.iconst 0, 1) := by decide +kernel
theorem dX8_make_82 : decode cX8_make 82 = .ok (.goto 10, 3) := by decide +kernel
theorem dX8_make_85 : decode cX8_make 85 = .ok (.aload_n 0, 1) := by decide +kernel
theorem dX8_make_86 : decode cX8_make 86 = .ok (.getfield 25, 3) := by decide +kernel
theorem dX8_make_89 : decode cX8_make 89 = .ok (.iload 4, 2) := by decide +kernel
theorem dX8_make_91 : decode cX8_make 91 = .ok (.iaload, 1) := by decide +kernel
theorem dX8_make_92 : decode cX8_make 92 = .ok (.iadd, 1) := by decide +kernel
theorem dX8_make_93 : decode cX8_make 93 = .ok (.iload 5, 2) := by decide +kernel
theorem dX8_make_95 : decode cX8_make 95 = .ok (.ifCond .ge 7, 3) := by decide +kernel
theorem dX8_make_98 : decode cX8_make 98 = .ok (.iconst 0, 1) := by decide +kernel
theorem dX8_make_99 : decode cX8_make 99 = .ok (.goto 10, 3) := by decide +kernel
theorem dX8_make_102 : decode cX8_make 102 = .ok (.aload_n 0, 1) := by decide +kernel
theorem dX8_make_103 : decode cX8_make 103 = .ok (.getfield 25, 3) := by decide +kernel
theorem dX8_make_106 : decode cX8_make 106 = .ok (.iload 5, 2) := by decide +kernel
theorem dX8_make_108 : decode cX8_make 108 = .ok (.iaload, 1) := by decide +kernel
theorem dX8_make_109 : decode cX8_make 109 = .ok (.iadd, 1) := by decide +kernel
theorem dX8_make_110 : decode cX8_make 110 = .ok (.iastore, 1) := by decide +kernel
theorem dX8_make_111 : decode cX8_make 111 = .ok (.aload_n 0, 1) := by decide +kernel
theorem dX8_make_112 : decode cX8_make 112 = .ok (.dup, 1) := by decide +kernel
theorem dX8_make_113 : decode cX8_make 113 = .ok (.getfield 93, 3) := by decide +kernel
theorem dX8_make_116 : decode cX8_make 116 = .ok (.iconst 1, 1) := by decide +kernel
theorem dX8_make_117 : decode cX8_make 117 = .ok (.iadd, 1) := by decide +kernel
theorem dX8_make_118 : decode cX8_make 118 = .ok (.putfield 93, 3) := by decide +kernel
theorem dX8_make_121 : decode cX8_make 121 = .ok (.aload_n 0, 1) := by decide +kernel
theorem dX8_make_122 : decode cX8_make 122 = .ok (.getfield 93, 3) := by decide +kernel
theorem dX8_make_125 : decode cX8_make 125 = .ok (.iconst 1, 1) := by decide +kernel
theorem dX8_make_126 : decode cX8_make 126 = .ok (.isub, 1) := by decide +kernel
theorem dX8_make_127 : decode cX8_make 127 = .ok (.ireturn, 1) := by decide +kernel
theorem dX8_numeral_0 : decode cX8_numeral 0 = .ok (.aload_n 0, 1) := by decide +kernel
theorem dX8_numeral_1 : decode cX8_numeral 1 = .ok (.iconst 0, 1) := by decide +kernel
theorem dX8_numeral_2 : decode cX8_numeral 2 = .ok (.iload_n 1, 1) := by decide +kernel
theorem dX8_numeral_3 : decode cX8_numeral 3 = .ok (.iconst (-1), 1) := by decide +kernel
theorem dX8_numeral_4 : decode cX8_numeral 4 = .ok (.iconst (-1), 1) := by decide +kernel
theorem dX8_numeral_5 : decode cX8_numeral 5 = .ok (.iconst (-1), 1) := by decide +kernel
theorem dX8_numeral_6 : decode cX8_numeral 6 = .ok (.invokevirtual 96, 3) := by decide +kernel
theorem dX8_numeral_9 : decode cX8_numeral 9 = .ok (.ireturn, 1) := by decide +kernel
theorem dX8_pair_0 : decode cX8_pair 0 = .ok (.aload_n 0, 1) := by decide +kernel
theorem dX8_pair_1 : decode cX8_pair 1 = .ok (.iload_n 1, 1) := by decide +kernel
theorem dX8_pair_2 : decode cX8_pair 2 = .ok (.iconst 0, 1) := by decide +kernel
theorem dX8_pair_3 : decode cX8_pair 3 = .ok (.iload_n 2, 1) := by decide +kernel
theorem dX8_pair_4 : decode cX8_pair 4 = .ok (.iload_n 3, 1) := by decide +kernel
theorem dX8_pair_5 : decode cX8_pair 5 = .ok (.iconst (-1), 1) := by decide +kernel
theorem dX8_pair_6 : decode cX8_pair 6 = .ok (.invokevirtual 96, 3) := by decide +kernel
theorem dX8_pair_9 : decode cX8_pair 9 = .ok (.ireturn, 1) := by decide +kernel
theorem dX8_isNumber_0 : decode cX8_isNumber 0 = .ok (.aload_n 0, 1) := by decide +kernel
theorem dX8_isNumber_1 : decode cX8_isNumber 1 = .ok (.getfield 7, 3) := by decide +kernel
theorem dX8_isNumber_4 : decode cX8_isNumber 4 = .ok (.iload_n 1, 1) := by decide +kernel
theorem dX8_isNumber_5 : decode cX8_isNumber 5 = .ok (.iaload, 1) := by decide +kernel
theorem dX8_isNumber_6 : decode cX8_isNumber 6 = .ok (.ifCond .ne 17, 3) := by decide +kernel
theorem dX8_isNumber_9 : decode cX8_isNumber 9 = .ok (.aload_n 0, 1) := by decide +kernel
theorem dX8_isNumber_10 : decode cX8_isNumber 10 = .ok (.getfield 13, 3) := by decide +kernel
theorem dX8_isNumber_13 : decode cX8_isNumber 13 = .ok (.iload_n 1, 1) := by decide +kernel
theorem dX8_isNumber_14 : decode cX8_isNumber 14 = .ok (.iaload, 1) := by decide +kernel
theorem dX8_isNumber_15 : decode cX8_isNumber 15 = .ok (.iload_n 2, 1) := by decide +kernel
theorem dX8_isNumber_16 : decode cX8_isNumber 16 = .ok (.if_icmp .ne 7, 3) := by decide +kernel
theorem dX8_isNumber_19 : decode cX8_isNumber 19 = .ok (.iconst 1, 1) := by decide +kernel
theorem dX8_isNumber_20 : decode cX8_isNumber 20 = .ok (.goto 4, 3) := by decide +kernel
theorem dX8_isNumber_23 : decode cX8_isNumber 23 = .ok (.iconst 0, 1) := by decide +kernel
theorem dX8_isNumber_24 : decode cX8_isNumber 24 = .ok (.ireturn, 1) := by decide +kernel
theorem dX8_areSame_0 : decode cX8_areSame 0 = .ok (.iload_n 1, 1) := by decide +kernel
theorem dX8_areSame_1 : decode cX8_areSame 1 = .ok (.iload_n 2, 1) := by decide +kernel
theorem dX8_areSame_2 : decode cX8_areSame 2 = .ok (.if_icmp .ne 5, 3) := by decide +kernel
theorem dX8_areSame_5 : decode cX8_areSame 5 = .ok (.iconst 1, 1) := by decide +kernel
theorem dX8_areSame_6 : decode cX8_areSame 6 = .ok (.ireturn, 1) := by decide +kernel
theorem dX8_areSame_7 : decode cX8_areSame 7 = .ok (.iload_n 1, 1) := by decide +kernel
theorem dX8_areSame_8 : decode cX8_areSame 8 = .ok (.ifCond .lt 52, 3) := by decide +kernel
theorem dX8_areSame_11 : decode cX8_areSame 11 = .ok (.iload_n 2, 1) := by decide +kernel
theorem dX8_areSame_12 : decode cX8_areSame 12 = .ok (.ifCond .lt 48, 3) := by decide +kernel
theorem dX8_areSame_15 : decode cX8_areSame 15 = .ok (.aload_n 0, 1) := by decide +kernel
theorem dX8_areSame_16 : decode cX8_areSame 16 = .ok (.getfield 7, 3) := by decide +kernel
theorem dX8_areSame_19 : decode cX8_areSame 19 = .ok (.iload_n 1, 1) := by decide +kernel
theorem dX8_areSame_20 : decode cX8_areSame 20 = .ok (.iaload, 1) := by decide +kernel
theorem dX8_areSame_21 : decode cX8_areSame 21 = .ok (.aload_n 0, 1) := by decide +kernel
theorem dX8_areSame_22 : decode cX8_areSame 22 = .ok (.getfield 7, 3) := by decide +kernel
theorem dX8_areSame_25 : decode cX8_areSame 25 = .ok (.iload_n 2, 1) := by decide +kernel
theorem dX8_areSame_26 : decode cX8_areSame 26 = .ok (.iaload, 1) := by decide +kernel
theorem dX8_areSame_27 : decode cX8_areSame 27 = .ok (.if_icmp .ne 33, 3) := by decide +kernel
theorem dX8_areSame_30 : decode cX8_areSame 30 = .ok (.aload_n 0, 1) := by decide +kernel
theorem dX8_areSame_31 : decode cX8_areSame 31 = .ok (.getfield 13, 3) := by decide +kernel
theorem dX8_areSame_34 : decode cX8_areSame 34 = .ok (.iload_n 1, 1) := by decide +kernel
theorem dX8_areSame_35 : decode cX8_areSame 35 = .ok (.iaload, 1) := by decide +kernel
theorem dX8_areSame_36 : decode cX8_areSame 36 = .ok (.aload_n 0, 1) := by decide +kernel
theorem dX8_areSame_37 : decode cX8_areSame 37 = .ok (.getfield 13, 3) := by decide +kernel
theorem dX8_areSame_40 : decode cX8_areSame 40 = .ok (.iload_n 2, 1) := by decide +kernel
theorem dX8_areSame_41 : decode cX8_areSame 41 = .ok (.iaload, 1) := by decide +kernel
theorem dX8_areSame_42 : decode cX8_areSame 42 = .ok (.if_icmp .ne 18, 3) := by decide +kernel
theorem dX8_areSame_45 : decode cX8_areSame 45 = .ok (.aload_n 0, 1) := by decide +kernel
theorem dX8_areSame_46 : decode cX8_areSame 46 = .ok (.getfield 25, 3) := by decide +kernel
theorem dX8_areSame_49 : decode cX8_areSame 49 = .ok (.iload_n 1, 1) := by decide +kernel
theorem dX8_areSame_50 : decode cX8_areSame 50 = .ok (.iaload, 1) := by decide +kernel
theorem dX8_areSame_51 : decode cX8_areSame 51 = .ok (.aload_n 0, 1) := by decide +kernel
theorem dX8_areSame_52 : decode cX8_areSame 52 = .ok (.getfield 25, 3) := by decide +kernel
theorem dX8_areSame_55 : decode cX8_areSame 55 = .ok (.iload_n 2, 1) := by decide +kernel
theorem dX8_areSame_56 : decode cX8_areSame 56 = .ok (.iaload, 1) := by decide +kernel
theorem dX8_areSame_57 : decode cX8_areSame 57 = .ok (.if_icmp .eq 5, 3) := by decide +kernel
theorem dX8_areSame_60 : decode cX8_areSame 60 = .ok (.iconst 0, 1) := by decide +kernel
theorem dX8_areSame_61 : decode cX8_areSame 61 = .ok (.ireturn, 1) := by decide +kernel
theorem dX8_areSame_62 : decode cX8_areSame 62 = .ok (.aload_n 0, 1) := by decide +kernel
theorem dX8_areSame_63 : decode cX8_areSame 63 = .ok (.aload_n 0, 1) := by decide +kernel
theorem dX8_areSame_64 : decode cX8_areSame 64 = .ok (.getfield 16, 3) := by decide +kernel
theorem dX8_areSame_67 : decode cX8_areSame 67 = .ok (.iload_n 1, 1) := by decide +kernel
theorem dX8_areSame_68 : decode cX8_areSame 68 = .ok (.iaload, 1) := by decide +kernel
theorem dX8_areSame_69 : decode cX8_areSame 69 = .ok (.aload_n 0, 1) := by decide +kernel
theorem dX8_areSame_70 : decode cX8_areSame 70 = .ok (.getfield 16, 3) := by decide +kernel
theorem dX8_areSame_73 : decode cX8_areSame 73 = .ok (.iload_n 2, 1) := by decide +kernel
theorem dX8_areSame_74 : decode cX8_areSame 74 = .ok (.iaload, 1) := by decide +kernel
theorem dX8_areSame_75 : decode cX8_areSame 75 = .ok (.invokevirtual 100, 3) := by decide +kernel
theorem dX8_areSame_78 : decode cX8_areSame 78 = .ok (.ifCond .eq 45, 3) := by decide +kernel
theorem dX8_areSame_81 : decode cX8_areSame 81 = .ok (.aload_n 0, 1) := by decide +kernel
theorem dX8_areSame_82 : decode cX8_areSame 82 = .ok (.aload_n 0, 1) := by decide +kernel
theorem dX8_areSame_83 : decode cX8_areSame 83 = .ok (.getfield 19, 3) := by decide +kernel
theorem dX8_areSame_86 : decode cX8_areSame 86 = .ok (.iload_n 1, 1) := by decide +kernel
theorem dX8_areSame_87 : decode cX8_areSame 87 = .ok (.iaload, 1) := by decide +kernel
theorem dX8_areSame_88 : decode cX8_areSame 88 = .ok (.aload_n 0, 1) := by decide +kernel
theorem dX8_areSame_89 : decode cX8_areSame 89 = .ok (.getfield 19, 3) := by decide +kernel
theorem dX8_areSame_92 : decode cX8_areSame 92 = .ok (.iload_n 2, 1) := by decide +kernel
theorem dX8_areSame_93 : decode cX8_areSame 93 = .ok (.iaload, 1) := by decide +kernel
theorem dX8_areSame_94 : decode cX8_areSame 94 = .ok (.invokevirtual 100, 3) := by decide +kernel
theorem dX8_areSame_97 : decode cX8_areSame 97 = .ok (.ifCond .eq 26, 3) := by decide +kernel
theorem dX8_areSame_100 : decode cX8_areSame 100 = .ok (.aload_n 0, 1) := by decide +kernel
theorem dX8_areSame_101 : decode cX8_areSame 101 = .ok (.aload_n 0, 1) := by decide +kernel
theorem dX8_areSame_102 : decode cX8_areSame 102 = .ok (.getfield 22, 3) := by decide +kernel
theorem dX8_areSame_105 : decode cX8_areSame 105 = .ok (.iload_n 1, 1) := by decide +kernel
theorem dX8_areSame_106 : decode cX8_areSame 106 = .ok (.iaload, 1) := by decide +kernel
theorem dX8_areSame_107 : decode cX8_areSame 107 = .ok (.aload_n 0, 1) := by decide +kernel
theorem dX8_areSame_108 : decode cX8_areSame 108 = .ok (.getfield 22, 3) := by decide +kernel
theorem dX8_areSame_111 : decode cX8_areSame 111 = .ok (.iload_n 2, 1) := by decide +kernel
theorem dX8_areSame_112 : decode cX8_areSame 112 = .ok (.iaload, 1) := by decide +kernel
theorem dX8_areSame_113 : decode cX8_areSame 113 = .ok (.invokevirtual 100, 3) := by decide +kernel
theorem dX8_areSame_116 : decode cX8_areSame 116 = .ok (.ifCond .eq 7, 3) := by decide +kernel
theorem dX8_areSame_119 : decode cX8_areSame 119 = .ok (.iconst 1, 1) := by decide +kernel
theorem dX8_areSame_120 : decode cX8_areSame 120 = .ok (.goto 4, 3) := by decide +kernel
theorem dX8_areSame_123 : decode cX8_areSame 123 = .ok (.iconst 0, 1) := by decide +kernel
theorem dX8_areSame_124 : decode cX8_areSame 124 = .ok (.ireturn, 1) := by decide +kernel
theorem dX8_both_0 : decode cX8_both 0 = .ok (.iload_n 0, 1) := by decide +kernel
theorem dX8_both_1 : decode cX8_both 1 = .ok (.iconst 4, 1) := by decide +kernel
theorem dX8_both_2 : decode cX8_both 2 = .ok (.if_icmp .ne 9, 3) := by decide +kernel
theorem dX8_both_5 : decode cX8_both 5 = .ok (.iload_n 1, 1) := by decide +kernel
theorem dX8_both_6 : decode cX8_both 6 = .ok (.iload_n 2, 1) := by decide +kernel
theorem dX8_both_7 : decode cX8_both 7 = .ok (.iadd, 1) := by decide +kernel
theorem dX8_both_8 : decode cX8_both 8 = .ok (.goto 39, 3) := by decide +kernel
theorem dX8_both_11 : decode cX8_both 11 = .ok (.iload_n 0, 1) := by decide +kernel
theorem dX8_both_12 : decode cX8_both 12 = .ok (.iconst 5, 1) := by decide +kernel
theorem dX8_both_13 : decode cX8_both 13 = .ok (.if_icmp .ne 9, 3) := by decide +kernel
theorem dX8_both_16 : decode cX8_both 16 = .ok (.iload_n 1, 1) := by decide +kernel
theorem dX8_both_17 : decode cX8_both 17 = .ok (.iload_n 2, 1) := by decide +kernel
theorem dX8_both_18 : decode cX8_both 18 = .ok (.isub, 1) := by decide +kernel
theorem dX8_both_19 : decode cX8_both 19 = .ok (.goto 28, 3) := by decide +kernel
theorem dX8_both_22 : decode cX8_both 22 = .ok (.iload_n 0, 1) := by decide +kernel
theorem dX8_both_23 : decode cX8_both 23 = .ok (.bipush 6, 2) := by decide +kernel
theorem dX8_both_25 : decode cX8_both 25 = .ok (.if_icmp .ne 9, 3) := by decide +kernel
theorem dX8_both_28 : decode cX8_both 28 = .ok (.iload_n 1, 1) := by decide +kernel
theorem dX8_both_29 : decode cX8_both 29 = .ok (.iload_n 2, 1) := by decide +kernel
theorem dX8_both_30 : decode cX8_both 30 = .ok (.imul, 1) := by decide +kernel
theorem dX8_both_31 : decode cX8_both 31 = .ok (.goto 16, 3) := by decide +kernel
theorem dX8_both_34 : decode cX8_both 34 = .ok (.iload_n 2, 1) := by decide +kernel
theorem dX8_both_35 : decode cX8_both 35 = .ok (.iconst (-1), 1) := by decide +kernel
theorem dX8_both_36 : decode cX8_both 36 = .ok (.if_icmp .ne 8, 3) := by decide +kernel
theorem dX8_both_39 : decode cX8_both 39 = .ok (.iload_n 1, 1) := by decide +kernel
theorem dX8_both_40 : decode cX8_both 40 = .ok (.ineg, 1) := by decide +kernel
theorem dX8_both_41 : decode cX8_both 41 = .ok (.goto 6, 3) := by decide +kernel
theorem dX8_both_44 : decode cX8_both 44 = .ok (.iload_n 1, 1) := by decide +kernel
theorem dX8_both_45 : decode cX8_both 45 = .ok (.iload_n 2, 1) := by decide +kernel
theorem dX8_both_46 : decode cX8_both 46 = .ok (.idiv, 1) := by decide +kernel
theorem dX8_both_47 : decode cX8_both 47 = .ok (.ireturn, 1) := by decide +kernel
theorem dX8_works_0 : decode cX8_works 0 = .ok (.aload_n 0, 1) := by decide +kernel
theorem dX8_works_1 : decode cX8_works 1 = .ok (.getfield 104, 3) := by decide +kernel
theorem dX8_works_4 : decode cX8_works 4 = .ok (.ifCond .eq 5, 3) := by decide +kernel
theorem dX8_works_7 : decode cX8_works 7 = .ok (.iconst 0, 1) := by decide +kernel
theorem dX8_works_8 : decode cX8_works 8 = .ok (.ireturn, 1) := by decide +kernel
theorem dX8_works_9 : decode cX8_works 9 = .ok (.aload_n 0, 1) := by decide +kernel
theorem dX8_works_10 : decode cX8_works 10 = .ok (.getfield 7, 3) := by decide +kernel
theorem dX8_works_13 : decode cX8_works 13 = .ok (.iload_n 1, 1) := by decide +kernel
theorem dX8_works_14 : decode cX8_works 14 = .ok (.iaload, 1) := by decide +kernel
theorem dX8_works_15 : decode cX8_works 15 = .ok (.iconst 3, 1) := by decide +kernel
theorem dX8_works_16 : decode cX8_works 16 = .ok (.if_icmp .ge 47, 3) := by decide +kernel
theorem dX8_works_19 : decode cX8_works 19 = .ok (.aload_n 0, 1) := by decide +kernel
theorem dX8_works_20 : decode cX8_works 20 = .ok (.dup, 1) := by decide +kernel
theorem dX8_works_21 : decode cX8_works 21 = .ok (.getfield 108, 3) := by decide +kernel
theorem dX8_works_24 : decode cX8_works 24 = .ok (.iconst 1, 1) := by decide +kernel
theorem dX8_works_25 : decode cX8_works 25 = .ok (.iadd, 1) := by decide +kernel
theorem dX8_works_26 : decode cX8_works 26 = .ok (.putfield 108, 3) := by decide +kernel
theorem dX8_works_29 : decode cX8_works 29 = .ok (.aload_n 0, 1) := by decide +kernel
theorem dX8_works_30 : decode cX8_works 30 = .ok (.getfield 7, 3) := by decide +kernel
theorem dX8_works_33 : decode cX8_works 33 = .ok (.iload_n 1, 1) := by decide +kernel
theorem dX8_works_34 : decode cX8_works 34 = .ok (.iaload, 1) := by decide +kernel
theorem dX8_works_35 : decode cX8_works 35 = .ok (.ifCond .ne 12, 3) := by decide +kernel
theorem dX8_works_38 : decode cX8_works 38 = .ok (.aload_n 0, 1) := by decide +kernel
theorem dX8_works_39 : decode cX8_works 39 = .ok (.getfield 13, 3) := by decide +kernel
theorem dX8_works_42 : decode cX8_works 42 = .ok (.iload_n 1, 1) := by decide +kernel
theorem dX8_works_43 : decode cX8_works 43 = .ok (.iaload, 1) := by decide +kernel
theorem dX8_works_44 : decode cX8_works 44 = .ok (.goto 18, 3) := by decide +kernel
theorem dX8_works_47 : decode cX8_works 47 = .ok (.aload_n 0, 1) := by decide +kernel
theorem dX8_works_48 : decode cX8_works 48 = .ok (.getfield 7, 3) := by decide +kernel
theorem dX8_works_51 : decode cX8_works 51 = .ok (.iload_n 1, 1) := by decide +kernel
theorem dX8_works_52 : decode cX8_works 52 = .ok (.iaload, 1) := by decide +kernel
theorem dX8_works_53 : decode cX8_works 53 = .ok (.iconst 1, 1) := by decide +kernel
theorem dX8_works_54 : decode cX8_works 54 = .ok (.if_icmp .ne 7, 3) := by decide +kernel
theorem dX8_works_57 : decode cX8_works 57 = .ok (.iload_n 2, 1) := by decide +kernel
theorem dX8_works_58 : decode cX8_works 58 = .ok (.goto 4, 3) := by decide +kernel
theorem dX8_works_61 : decode cX8_works 61 = .ok (.iload_n 3, 1) := by decide +kernel
theorem dX8_works_62 : decode cX8_works 62 = .ok (.ireturn, 1) := by decide +kernel
theorem dX8_works_63 : decode cX8_works 63 = .ok (.aload_n 0, 1) := by decide +kernel
theorem dX8_works_64 : decode cX8_works 64 = .ok (.aload_n 0, 1) := by decide +kernel
theorem dX8_works_65 : decode cX8_works 65 = .ok (.getfield 16, 3) := by decide +kernel
theorem dX8_works_68 : decode cX8_works 68 = .ok (.iload_n 1, 1) := by decide +kernel
theorem dX8_works_69 : decode cX8_works 69 = .ok (.iaload, 1) := by decide +kernel
theorem dX8_works_70 : decode cX8_works 70 = .ok (.iload_n 2, 1) := by decide +kernel
theorem dX8_works_71 : decode cX8_works 71 = .ok (.iload_n 3, 1) := by decide +kernel
theorem dX8_works_72 : decode cX8_works 72 = .ok (.invokevirtual 111, 3) := by decide +kernel
theorem dX8_works_75 : decode cX8_works 75 = .ok (.istore 4, 2) := by decide +kernel
theorem dX8_works_77 : decode cX8_works 77 = .ok (.aload_n 0, 1) := by decide +kernel
theorem dX8_works_78 : decode cX8_works 78 = .ok (.getfield 104, 3) := by decide +kernel
theorem dX8_works_81 : decode cX8_works 81 = .ok (.ifCond .eq 5, 3) := by decide +kernel
theorem dX8_works_84 : decode cX8_works 84 = .ok (.iconst 0, 1) := by decide +kernel
theorem dX8_works_85 : decode cX8_works 85 = .ok (.ireturn, 1) := by decide +kernel
theorem dX8_works_86 : decode cX8_works 86 = .ok (.aload_n 0, 1) := by decide +kernel
theorem dX8_works_87 : decode cX8_works 87 = .ok (.getfield 7, 3) := by decide +kernel
theorem dX8_works_90 : decode cX8_works 90 = .ok (.iload_n 1, 1) := by decide +kernel
theorem dX8_works_91 : decode cX8_works 91 = .ok (.iaload, 1) := by decide +kernel
theorem dX8_works_92 : decode cX8_works 92 = .ok (.iconst 3, 1) := by decide +kernel
theorem dX8_works_93 : decode cX8_works 93 = .ok (.if_icmp .ne 17, 3) := by decide +kernel
theorem dX8_works_96 : decode cX8_works 96 = .ok (.aload_n 0, 1) := by decide +kernel
theorem dX8_works_97 : decode cX8_works 97 = .ok (.dup, 1) := by decide +kernel
theorem dX8_works_98 : decode cX8_works 98 = .ok (.getfield 108, 3) := by decide +kernel
theorem dX8_works_101 : decode cX8_works 101 = .ok (.iconst 1, 1) := by decide +kernel
theorem dX8_works_102 : decode cX8_works 102 = .ok (.iadd, 1) := by decide +kernel
theorem dX8_works_103 : decode cX8_works 103 = .ok (.putfield 108, 3) := by decide +kernel
theorem dX8_works_106 : decode cX8_works 106 = .ok (.iload 4, 2) := by decide +kernel
theorem dX8_works_108 : decode cX8_works 108 = .ok (.ineg, 1) := by decide +kernel
