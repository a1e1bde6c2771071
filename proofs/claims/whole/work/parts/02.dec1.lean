theorem dX0_init_0 : decode cX0_init 0 = .ok (.aload_n 0, 1) := by decide +kernel
theorem dX0_init_1 : decode cX0_init 1 = .ok (.invokespecial 3, 3) := by decide +kernel
theorem dX0_init_4 : decode cX0_init 4 = .ok (.aload_n 0, 1) := by decide +kernel
theorem dX0_init_5 : decode cX0_init 5 = .ok (.sipush 400, 3) := by decide +kernel
theorem dX0_init_8 : decode cX0_init 8 = .ok (.newarray .int, 2) := by decide +kernel
theorem dX0_init_10 : decode cX0_init 10 = .ok (.putfield 11, 3) := by decide +kernel
theorem dX0_init_13 : decode cX0_init 13 = .ok (.aload_n 0, 1) := by decide +kernel
theorem dX0_init_14 : decode cX0_init 14 = .ok (.sipush 400, 3) := by decide +kernel
theorem dX0_init_17 : decode cX0_init 17 = .ok (.newarray .int, 2) := by decide +kernel
theorem dX0_init_19 : decode cX0_init 19 = .ok (.putfield 15, 3) := by decide +kernel
theorem dX0_init_22 : decode cX0_init 22 = .ok (.aload_n 0, 1) := by decide +kernel
theorem dX0_init_23 : decode cX0_init 23 = .ok (.iconst 0, 1) := by decide +kernel
theorem dX0_init_24 : decode cX0_init 24 = .ok (.putfield 18, 3) := by decide +kernel
theorem dX0_init_27 : decode cX0_init 27 = .ok (.aload_n 0, 1) := by decide +kernel
theorem dX0_init_28 : decode cX0_init 28 = .ok (.iconst 0, 1) := by decide +kernel
theorem dX0_init_29 : decode cX0_init 29 = .ok (.putfield 22, 3) := by decide +kernel
theorem dX0_init_32 : decode cX0_init 32 = .ok (.aload_n 0, 1) := by decide +kernel
theorem dX0_init_33 : decode cX0_init 33 = .ok (.iconst 0, 1) := by decide +kernel
theorem dX0_init_34 : decode cX0_init 34 = .ok (.putfield 26, 3) := by decide +kernel
theorem dX0_init_37 : decode cX0_init 37 = .ok (.aload_n 0, 1) := by decide +kernel
theorem dX0_init_38 : decode cX0_init 38 = .ok (.iconst 0, 1) := by decide +kernel
theorem dX0_init_39 : decode cX0_init 39 = .ok (.putfield 29, 3) := by decide +kernel
theorem dX0_init_42 : decode cX0_init 42 = .ok (.aload_n 0, 1) := by decide +kernel
theorem dX0_init_43 : decode cX0_init 43 = .ok (.sipush 200, 3) := by decide +kernel
theorem dX0_init_46 : decode cX0_init 46 = .ok (.newarray .int, 2) := by decide +kernel
theorem dX0_init_48 : decode cX0_init 48 = .ok (.putfield 32, 3) := by decide +kernel
theorem dX0_init_51 : decode cX0_init 51 = .ok (.aload_n 0, 1) := by decide +kernel
theorem dX0_init_52 : decode cX0_init 52 = .ok (.sipush 200, 3) := by decide +kernel
theorem dX0_init_55 : decode cX0_init 55 = .ok (.newarray .int, 2) := by decide +kernel
theorem dX0_init_57 : decode cX0_init 57 = .ok (.putfield 35, 3) := by decide +kernel
theorem dX0_init_60 : decode cX0_init 60 = .ok (.aload_n 0, 1) := by decide +kernel
theorem dX0_init_61 : decode cX0_init 61 = .ok (.sipush 200, 3) := by decide +kernel
theorem dX0_init_64 : decode cX0_init 64 = .ok (.newarray .int, 2) := by decide +kernel
theorem dX0_init_66 : decode cX0_init 66 = .ok (.putfield 38, 3) := by decide +kernel
theorem dX0_init_69 : decode cX0_init 69 = .ok (.aload_n 0, 1) := by decide +kernel
theorem dX0_init_70 : decode cX0_init 70 = .ok (.sipush 200, 3) := by decide +kernel
theorem dX0_init_73 : decode cX0_init 73 = .ok (.newarray .int, 2) := by decide +kernel
theorem dX0_init_75 : decode cX0_init 75 = .ok (.putfield 41, 3) := by decide +kernel
theorem dX0_init_78 : decode cX0_init 78 = .ok (.aload_n 0, 1) := by decide +kernel
theorem dX0_init_79 : decode cX0_init 79 = .ok (.iconst 0, 1) := by decide +kernel
theorem dX0_init_80 : decode cX0_init 80 = .ok (.putfield 44, 3) := by decide +kernel
theorem dX0_init_83 : decode cX0_init 83 = .ok (.aload_n 0, 1) := by decide +kernel
theorem dX0_init_84 : decode cX0_init 84 = .ok (.iconst 0, 1) := by decide +kernel
theorem dX0_init_85 : decode cX0_init 85 = .ok (.putfield 47, 3) := by decide +kernel
theorem dX0_init_88 : decode cX0_init 88 = .ok (.return_, 1) := by decide +kernel
theorem dX0_write_0 : decode cX0_write 0 = .ok (.aload_n 0, 1) := by decide +kernel
theorem dX0_write_1 : decode cX0_write 1 = .ok (.iconst 0, 1) := by decide +kernel
theorem dX0_write_2 : decode cX0_write 2 = .ok (.putfield 18, 3) := by decide +kernel
theorem dX0_write_5 : decode cX0_write 5 = .ok (.aload_n 0, 1) := by decide +kernel
theorem dX0_write_6 : decode cX0_write 6 = .ok (.iconst 0, 1) := by decide +kernel
theorem dX0_write_7 : decode cX0_write 7 = .ok (.putfield 22, 3) := by decide +kernel
theorem dX0_write_10 : decode cX0_write 10 = .ok (.aload_n 0, 1) := by decide +kernel
theorem dX0_write_11 : decode cX0_write 11 = .ok (.iconst 0, 1) := by decide +kernel
theorem dX0_write_12 : decode cX0_write 12 = .ok (.putfield 26, 3) := by decide +kernel
theorem dX0_write_15 : decode cX0_write 15 = .ok (.aload_n 0, 1) := by decide +kernel
theorem dX0_write_16 : decode cX0_write 16 = .ok (.iconst 0, 1) := by decide +kernel
theorem dX0_write_17 : decode cX0_write 17 = .ok (.putfield 29, 3) := by decide +kernel
theorem dX0_write_20 : decode cX0_write 20 = .ok (.iconst 0, 1) := by decide +kernel
theorem dX0_write_21 : decode cX0_write 21 = .ok (.istore_n 2, 1) := by decide +kernel
theorem dX0_write_22 : decode cX0_write 22 = .ok (.iconst 0, 1) := by decide +kernel
theorem dX0_write_23 : decode cX0_write 23 = .ok (.istore_n 3, 1) := by decide +kernel
theorem dX0_write_24 : decode cX0_write 24 = .ok (.iload_n 3, 1) := by decide +kernel
theorem dX0_write_25 : decode cX0_write 25 = .ok (.aload_n 1, 1) := by decide +kernel
theorem dX0_write_26 : decode cX0_write 26 = .ok (.getfield 50, 3) := by decide +kernel
theorem dX0_write_29 : decode cX0_write 29 = .ok (.if_icmp .ge 69, 3) := by decide +kernel
theorem dX0_write_32 : decode cX0_write 32 = .ok (.iload_n 2, 1) := by decide +kernel
theorem dX0_write_33 : decode cX0_write 33 = .ok (.sipush 200, 3) := by decide +kernel
theorem dX0_write_36 : decode cX0_write 36 = .ok (.if_icmp .ge 62, 3) := by decide +kernel
theorem dX0_write_39 : decode cX0_write 39 = .ok (.aload_n 1, 1) := by decide +kernel
theorem dX0_write_40 : decode cX0_write 40 = .ok (.iload_n 3, 1) := by decide +kernel
theorem dX0_write_41 : decode cX0_write 41 = .ok (.invokevirtual 53, 3) := by decide +kernel
theorem dX0_write_44 : decode cX0_write 44 = .ok (.istore 4, 2) := by decide +kernel
theorem dX0_write_46 : decode cX0_write 46 = .ok (.iload 4, 2) := by decide +kernel
theorem dX0_write_48 : decode cX0_write 48 = .ok (.invokestatic 57, 3) := by decide +kernel
theorem dX0_write_51 : decode cX0_write 51 = .ok (.ifCond .le 24, 3) := by decide +kernel
theorem dX0_write_54 : decode cX0_write 54 = .ok (.aload_n 0, 1) := by decide +kernel
theorem dX0_write_55 : decode cX0_write 55 = .ok (.getfield 32, 3) := by decide +kernel
theorem dX0_write_58 : decode cX0_write 58 = .ok (.iload_n 2, 1) := by decide +kernel
theorem dX0_write_59 : decode cX0_write 59 = .ok (.iload 4, 2) := by decide +kernel
theorem dX0_write_61 : decode cX0_write 61 = .ok (.iastore, 1) := by decide +kernel
theorem dX0_write_62 : decode cX0_write 62 = .ok (.aload_n 0, 1) := by decide +kernel
theorem dX0_write_63 : decode cX0_write 63 = .ok (.getfield 35, 3) := by decide +kernel
theorem dX0_write_66 : decode cX0_write 66 = .ok (.iload_n 2, 1) := by decide +kernel
theorem dX0_write_67 : decode cX0_write 67 = .ok (.iconst 0, 1) := by decide +kernel
theorem dX0_write_68 : decode cX0_write 68 = .ok (.iastore, 1) := by decide +kernel
theorem dX0_write_69 : decode cX0_write 69 = .ok (.iinc 2 1, 3) := by decide +kernel
theorem dX0_write_72 : decode cX0_write 72 = .ok (.goto 20, 3) := by decide +kernel
theorem dX0_write_75 : decode cX0_write 75 = .ok (.aload_n 0, 1) := by decide +kernel
theorem dX0_write_76 : decode cX0_write 76 = .ok (.iload 4, 2) := by decide +kernel
theorem dX0_write_78 : decode cX0_write 78 = .ok (.aload_n 1, 1) := by decide +kernel
theorem dX0_write_79 : decode cX0_write 79 = .ok (.iload_n 3, 1) := by decide +kernel
theorem dX0_write_80 : decode cX0_write 80 = .ok (.invokevirtual 60, 3) := by decide +kernel
theorem dX0_write_83 : decode cX0_write 83 = .ok (.invokevirtual 63, 3) := by decide +kernel
theorem dX0_write_86 : decode cX0_write 86 = .ok (.aload_n 0, 1) := by decide +kernel
theorem dX0_write_87 : decode cX0_write 87 = .ok (.iload_n 2, 1) := by decide +kernel
theorem dX0_write_88 : decode cX0_write 88 = .ok (.invokevirtual 67, 3) := by decide +kernel
theorem dX0_write_91 : decode cX0_write 91 = .ok (.istore_n 2, 1) := by decide +kernel
theorem dX0_write_92 : decode cX0_write 92 = .ok (.iinc 3 1, 3) := by decide +kernel
theorem dX0_write_95 : decode cX0_write 95 = .ok (.goto (-71), 3) := by decide +kernel
theorem dX0_write_98 : decode cX0_write 98 = .ok (.return_, 1) := by decide +kernel
theorem dX0_add_0 : decode cX0_add 0 = .ok (.aload_n 0, 1) := by decide +kernel
theorem dX0_add_1 : decode cX0_add 1 = .ok (.getfield 18, 3) := by decide +kernel
theorem dX0_add_4 : decode cX0_add 4 = .ok (.ifCond .lt 13, 3) := by decide +kernel
theorem dX0_add_7 : decode cX0_add 7 = .ok (.aload_n 0, 1) := by decide +kernel
theorem dX0_add_8 : decode cX0_add 8 = .ok (.getfield 18, 3) := by decide +kernel
theorem dX0_add_11 : decode cX0_add 11 = .ok (.sipush 400, 3) := by decide +kernel
theorem dX0_add_14 : decode cX0_add 14 = .ok (.if_icmp .lt 4, 3) := by decide +kernel
theorem dX0_add_17 : decode cX0_add 17 = .ok (.return_, 1) := by decide +kernel
theorem dX0_add_18 : decode cX0_add 18 = .ok (.aload_n 0, 1) := by decide +kernel
theorem dX0_add_19 : decode cX0_add 19 = .ok (.getfield 11, 3) := by decide +kernel
theorem dX0_add_22 : decode cX0_add 22 = .ok (.aload_n 0, 1) := by decide +kernel
theorem dX0_add_23 : decode cX0_add 23 = .ok (.getfield 18, 3) := by decide +kernel
theorem dX0_add_26 : decode cX0_add 26 = .ok (.iload_n 1, 1) := by decide +kernel
theorem dX0_add_27 : decode cX0_add 27 = .ok (.iastore, 1) := by decide +kernel
theorem dX0_add_28 : decode cX0_add 28 = .ok (.aload_n 0, 1) := by decide +kernel
theorem dX0_add_29 : decode cX0_add 29 = .ok (.getfield 15, 3) := by decide +kernel
theorem dX0_add_32 : decode cX0_add 32 = .ok (.aload_n 0, 1) := by decide +kernel
theorem dX0_add_33 : decode cX0_add 33 = .ok (.getfield 18, 3) := by decide +kernel
theorem dX0_add_36 : decode cX0_add 36 = .ok (.iload_n 2, 1) := by decide +kernel
theorem dX0_add_37 : decode cX0_add 37 = .ok (.iastore, 1) := by decide +kernel
theorem dX0_add_38 : decode cX0_add 38 = .ok (.aload_n 0, 1) := by decide +kernel
theorem dX0_add_39 : decode cX0_add 39 = .ok (.dup, 1) := by decide +kernel
theorem dX0_add_40 : decode cX0_add 40 = .ok (.getfield 18, 3) := by decide +kernel
theorem dX0_add_43 : decode cX0_add 43 = .ok (.iconst 1, 1) := by decide +kernel
theorem dX0_add_44 : decode cX0_add 44 = .ok (.iadd, 1) := by decide +kernel
theorem dX0_add_45 : decode cX0_add 45 = .ok (.putfield 18, 3) := by decide +kernel
theorem dX0_add_48 : decode cX0_add 48 = .ok (.aload_n 0, 1) := by decide +kernel
theorem dX0_add_49 : decode cX0_add 49 = .ok (.aload_n 0, 1) := by decide +kernel
theorem dX0_add_50 : decode cX0_add 50 = .ok (.getfield 22, 3) := by decide +kernel
theorem dX0_add_53 : decode cX0_add 53 = .ok (.ifCond .ne 8, 3) := by decide +kernel
theorem dX0_add_56 : decode cX0_add 56 = .ok (.iload_n 1, 1) := by decide +kernel
theorem dX0_add_57 : decode cX0_add 57 = .ok (.iconst 1, 1) := by decide +kernel
theorem dX0_add_58 : decode cX0_add 58 = .ok (.if_icmp .ne 7, 3) := by decide +kernel
theorem dX0_add_61 : decode cX0_add 61 = .ok (.iconst 1, 1) := by decide +kernel
theorem dX0_add_62 : decode cX0_add 62 = .ok (.goto 4, 3) := by decide +kernel
theorem dX0_add_65 : decode cX0_add 65 = .ok (.iconst 0, 1) := by decide +kernel
theorem dX0_add_66 : decode cX0_add 66 = .ok (.putfield 22, 3) := by decide +kernel
theorem dX0_add_69 : decode cX0_add 69 = .ok (.aload_n 0, 1) := by decide +kernel
theorem dX0_add_70 : decode cX0_add 70 = .ok (.aload_n 0, 1) := by decide +kernel
theorem dX0_add_71 : decode cX0_add 71 = .ok (.getfield 26, 3) := by decide +kernel
theorem dX0_add_74 : decode cX0_add 74 = .ok (.ifCond .ne 8, 3) := by decide +kernel
theorem dX0_add_77 : decode cX0_add 77 = .ok (.iload_n 1, 1) := by decide +kernel
theorem dX0_add_78 : decode cX0_add 78 = .ok (.iconst 2, 1) := by decide +kernel
theorem dX0_add_79 : decode cX0_add 79 = .ok (.if_icmp .ne 7, 3) := by decide +kernel
theorem dX0_add_82 : decode cX0_add 82 = .ok (.iconst 1, 1) := by decide +kernel
theorem dX0_add_83 : decode cX0_add 83 = .ok (.goto 4, 3) := by decide +kernel
theorem dX0_add_86 : decode cX0_add 86 = .ok (.iconst 0, 1) := by decide +kernel
theorem dX0_add_87 : decode cX0_add 87 = .ok (.putfield 26, 3) := by decide +kernel
theorem dX0_add_90 : decode cX0_add 90 = .ok (.aload_n 0, 1) := by decide +kernel
theorem dX0_add_91 : decode cX0_add 91 = .ok (.aload_n 0, 1) := by decide +kernel
theorem dX0_add_92 : decode cX0_add 92 = .ok (.getfield 29, 3) := by decide +kernel
theorem dX0_add_95 : decode cX0_add 95 = .ok (.ifCond .ne 9, 3) := by decide +kernel
theorem dX0_add_98 : decode cX0_add 98 = .ok (.iload_n 1, 1) := by decide +kernel
theorem dX0_add_99 : decode cX0_add 99 = .ok (.bipush 7, 2) := by decide +kernel
theorem dX0_add_101 : decode cX0_add 101 = .ok (.if_icmp .ne 7, 3) := by decide +kernel
theorem dX0_add_104 : decode cX0_add 104 = .ok (.iconst 1, 1) := by decide +kernel
theorem dX0_add_105 : decode cX0_add 105 = .ok (.goto 4, 3) := by decide +kernel
theorem dX0_add_108 : decode cX0_add 108 = .ok (.iconst 0, 1) := by decide +kernel
theorem dX0_add_109 : decode cX0_add 109 = .ok (.putfield 29, 3) := by decide +kernel
theorem dX0_add_112 : decode cX0_add 112 = .ok (.return_, 1) := by decide +kernel
theorem dX0_endParts_0 : decode cX0_endParts 0 = .ok (.iload_n 1, 1) := by decide +kernel
theorem dX0_endParts_1 : decode cX0_endParts 1 = .ok (.iconst 1, 1) := by decide +kernel
theorem dX0_endParts_2 : decode cX0_endParts 2 = .ok (.isub, 1) := by decide +kernel
theorem dX0_endParts_3 : decode cX0_endParts 3 = .ok (.istore_n 2, 1) := by decide +kernel
theorem dX0_endParts_4 : decode cX0_endParts 4 = .ok (.iload_n 2, 1) := by decide +kernel
theorem dX0_endParts_5 : decode cX0_endParts 5 = .ok (.ifCond .lt 86, 3) := by decide +kernel
theorem dX0_endParts_8 : decode cX0_endParts 8 = .ok (.iload_n 2, 1) := by decide +kernel
theorem dX0_endParts_9 : decode cX0_endParts 9 = .ok (.sipush 200, 3) := by decide +kernel
theorem dX0_endParts_12 : decode cX0_endParts 12 = .ok (.if_icmp .ge 79, 3) := by decide +kernel
theorem dX0_endParts_15 : decode cX0_endParts 15 = .ok (.aload_n 0, 1) := by decide +kernel
theorem dX0_endParts_16 : decode cX0_endParts 16 = .ok (.getfield 35, 3) := by decide +kernel
theorem dX0_endParts_19 : decode cX0_endParts 19 = .ok (.iload_n 2, 1) := by decide +kernel
theorem dX0_endParts_20 : decode cX0_endParts 20 = .ok (.dup2, 1) := by decide +kernel
theorem dX0_endParts_21 : decode cX0_endParts 21 = .ok (.iaload, 1) := by decide +kernel
theorem dX0_endParts_22 : decode cX0_endParts 22 = .ok (.iconst 1, 1) := by decide +kernel
theorem dX0_endParts_23 : decode cX0_endParts 23 = .ok (.iadd, 1) := by decide +kernel
theorem dX0_endParts_24 : decode cX0_endParts 24 = .ok (.iastore, 1) := by decide +kernel
theorem dX0_endParts_25 : decode cX0_endParts 25 = .ok (.aload_n 0, 1) := by decide +kernel
theorem dX0_endParts_26 : decode cX0_endParts 26 = .ok (.getfield 32, 3) := by decide +kernel
theorem dX0_endParts_29 : decode cX0_endParts 29 = .ok (.iload_n 2, 1) := by decide +kernel
theorem dX0_endParts_30 : decode cX0_endParts 30 = .ok (.iaload, 1) := by decide +kernel
theorem dX0_endParts_31 : decode cX0_endParts 31 = .ok (.bipush 8, 2) := by decide +kernel
theorem dX0_endParts_33 : decode cX0_endParts 33 = .ok (.if_icmp .ne 8, 3) := by decide +kernel
theorem dX0_endParts_36 : decode cX0_endParts 36 = .ok (.aload_n 0, 1) := by decide +kernel
theorem dX0_endParts_37 : decode cX0_endParts 37 = .ok (.iload_n 2, 1) := by decide +kernel
theorem dX0_endParts_38 : decode cX0_endParts 38 = .ok (.invokevirtual 70, 3) := by decide +kernel
theorem dX0_endParts_41 : decode cX0_endParts 41 = .ok (.aload_n 0, 1) := by decide +kernel
theorem dX0_endParts_42 : decode cX0_endParts 42 = .ok (.getfield 35, 3) := by decide +kernel
theorem dX0_endParts_45 : decode cX0_endParts 45 = .ok (.iload_n 2, 1) := by decide +kernel
theorem dX0_endParts_46 : decode cX0_endParts 46 = .ok (.iaload, 1) := by decide +kernel
theorem dX0_endParts_47 : decode cX0_endParts 47 = .ok (.aload_n 0, 1) := by decide +kernel
theorem dX0_endParts_48 : decode cX0_endParts 48 = .ok (.getfield 32, 3) := by decide +kernel
theorem dX0_endParts_51 : decode cX0_endParts 51 = .ok (.iload_n 2, 1) := by decide +kernel
theorem dX0_endParts_52 : decode cX0_endParts 52 = .ok (.iaload, 1) := by decide +kernel
theorem dX0_endParts_53 : decode cX0_endParts 53 = .ok (.invokestatic 57, 3) := by decide +kernel
theorem dX0_endParts_56 : decode cX0_endParts 56 = .ok (.if_icmp .ge 7, 3) := by decide +kernel
theorem dX0_endParts_59 : decode cX0_endParts 59 = .ok (.iload_n 2, 1) := by decide +kernel
theorem dX0_endParts_60 : decode cX0_endParts 60 = .ok (.iconst 1, 1) := by decide +kernel
theorem dX0_endParts_61 : decode cX0_endParts 61 = .ok (.iadd, 1) := by decide +kernel
theorem dX0_endParts_62 : decode cX0_endParts 62 = .ok (.ireturn, 1) := by decide +kernel
theorem dX0_endParts_63 : decode cX0_endParts 63 = .ok (.aload_n 0, 1) := by decide +kernel
theorem dX0_endParts_64 : decode cX0_endParts 64 = .ok (.getfield 32, 3) := by decide +kernel
theorem dX0_endParts_67 : decode cX0_endParts 67 = .ok (.iload_n 2, 1) := by decide +kernel
theorem dX0_endParts_68 : decode cX0_endParts 68 = .ok (.iaload, 1) := by decide +kernel
theorem dX0_endParts_69 : decode cX0_endParts 69 = .ok (.bipush 8, 2) := by decide +kernel
theorem dX0_endParts_71 : decode cX0_endParts 71 = .ok (.if_icmp .eq 14, 3) := by decide +kernel
theorem dX0_endParts_74 : decode cX0_endParts 74 = .ok (.aload_n 0, 1) := by decide +kernel
theorem dX0_endParts_75 : decode cX0_endParts 75 = .ok (.aload_n 0, 1) := by decide +kernel
theorem dX0_endParts_76 : decode cX0_endParts 76 = .ok (.getfield 32, 3) := by decide +kernel
theorem dX0_endParts_79 : decode cX0_endParts 79 = .ok (.iload_n 2, 1) := by decide +kernel
theorem dX0_endParts_80 : decode cX0_endParts 80 = .ok (.iaload, 1) := by decide +kernel
theorem dX0_endParts_81 : decode cX0_endParts 81 = .ok (.iconst 0, 1) := by decide +kernel
theorem dX0_endParts_82 : decode cX0_endParts 82 = .ok (.invokevirtual 63, 3) := by decide +kernel
theorem dX0_endParts_85 : decode cX0_endParts 85 = .ok (.iinc 2 (-1), 3) := by decide +kernel
theorem dX0_endParts_88 : decode cX0_endParts 88 = .ok (.goto (-84), 3) := by decide +kernel
theorem dX0_endParts_91 : decode cX0_endParts 91 = .ok (.iconst 0, 1) := by decide +kernel
theorem dX0_endParts_92 : decode cX0_endParts 92 = .ok (.ireturn, 1) := by decide +kernel
theorem dX0_jumpBehindPart_0 : decode cX0_jumpBehindPart 0 = .ok (.aload_n 0, 1) := by decide +kernel
theorem dX0_jumpBehindPart_1 : decode cX0_jumpBehindPart 1 = .ok (.getfield 35, 3) := by decide +kernel
theorem dX0_jumpBehindPart_4 : decode cX0_jumpBehindPart 4 = .ok (.iload_n 1, 1) := by decide +kernel
theorem dX0_jumpBehindPart_5 : decode cX0_jumpBehindPart 5 = .ok (.iaload, 1) := by decide +kernel
theorem dX0_jumpBehindPart_6 : decode cX0_jumpBehindPart 6 = .ok (.iconst 1, 1) := by decide +kernel
theorem dX0_jumpBehindPart_7 : decode cX0_jumpBehindPart 7 = .ok (.if_icmp .ne 23, 3) := by decide +kernel
theorem dX0_jumpBehindPart_10 : decode cX0_jumpBehindPart 10 = .ok (.aload_n 0, 1) := by decide +kernel
theorem dX0_jumpBehindPart_11 : decode cX0_jumpBehindPart 11 = .ok (.getfield 38, 3) := by decide +kernel
theorem dX0_jumpBehindPart_14 : decode cX0_jumpBehindPart 14 = .ok (.iload_n 1, 1) := by decide +kernel
theorem dX0_jumpBehindPart_15 : decode cX0_jumpBehindPart 15 = .ok (.aload_n 0, 1) := by decide +kernel
theorem dX0_jumpBehindPart_16 : decode cX0_jumpBehindPart 16 = .ok (.getfield 18, 3) := by decide +kernel
theorem dX0_jumpBehindPart_19 : decode cX0_jumpBehindPart 19 = .ok (.iastore, 1) := by decide +kernel
theorem dX0_jumpBehindPart_20 : decode cX0_jumpBehindPart 20 = .ok (.aload_n 0, 1) := by decide +kernel
theorem dX0_jumpBehindPart_21 : decode cX0_jumpBehindPart 21 = .ok (.bipush 9, 2) := by decide +kernel
theorem dX0_jumpBehindPart_23 : decode cX0_jumpBehindPart 23 = .ok (.iconst 0, 1) := by decide +kernel
theorem dX0_jumpBehindPart_24 : decode cX0_jumpBehindPart 24 = .ok (.invokevirtual 63, 3) := by decide +kernel
theorem dX0_jumpBehindPart_27 : decode cX0_jumpBehindPart 27 = .ok (.goto 63, 3) := by decide +kernel
theorem dX0_jumpBehindPart_30 : decode cX0_jumpBehindPart 30 = .ok (.aload_n 0, 1) := by decide +kernel
theorem dX0_jumpBehindPart_31 : decode cX0_jumpBehindPart 31 = .ok (.getfield 35, 3) := by decide +kernel
theorem dX0_jumpBehindPart_34 : decode cX0_jumpBehindPart 34 = .ok (.iload_n 1, 1) := by decide +kernel
theorem dX0_jumpBehindPart_35 : decode cX0_jumpBehindPart 35 = .ok (.iaload, 1) := by decide +kernel
theorem dX0_jumpBehindPart_36 : decode cX0_jumpBehindPart 36 = .ok (.iconst 2, 1) := by decide +kernel
theorem dX0_jumpBehindPart_37 : decode cX0_jumpBehindPart 37 = .ok (.if_icmp .ne 39, 3) := by decide +kernel
theorem dX0_jumpBehindPart_40 : decode cX0_jumpBehindPart 40 = .ok (.aload_n 0, 1) := by decide +kernel
theorem dX0_jumpBehindPart_41 : decode cX0_jumpBehindPart 41 = .ok (.aload_n 0, 1) := by decide +kernel
theorem dX0_jumpBehindPart_42 : decode cX0_jumpBehindPart 42 = .ok (.getfield 38, 3) := by decide +kernel
theorem dX0_jumpBehindPart_45 : decode cX0_jumpBehindPart 45 = .ok (.iload_n 1, 1) := by decide +kernel
theorem dX0_jumpBehindPart_46 : decode cX0_jumpBehindPart 46 = .ok (.iaload, 1) := by decide +kernel
theorem dX0_jumpBehindPart_47 : decode cX0_jumpBehindPart 47 = .ok (.aload_n 0, 1) := by decide +kernel
theorem dX0_jumpBehindPart_48 : decode cX0_jumpBehindPart 48 = .ok (.getfield 18, 3) := by decide +kernel
theorem dX0_jumpBehindPart_51 : decode cX0_jumpBehindPart 51 = .ok (.iconst 1, 1) := by decide +kernel
theorem dX0_jumpBehindPart_52 : decode cX0_jumpBehindPart 52 = .ok (.iadd, 1) := by decide +kernel
theorem dX0_jumpBehindPart_53 : decode cX0_jumpBehindPart 53 = .ok (.invokevirtual 74, 3) := by decide +kernel
theorem dX0_jumpBehindPart_56 : decode cX0_jumpBehindPart 56 = .ok (.aload_n 0, 1) := by decide +kernel
theorem dX0_jumpBehindPart_57 : decode cX0_jumpBehindPart 57 = .ok (.getfield 38, 3) := by decide +kernel
theorem dX0_jumpBehindPart_60 : decode cX0_jumpBehindPart 60 = .ok (.iload_n 1, 1) := by decide +kernel
theorem dX0_jumpBehindPart_61 : decode cX0_jumpBehindPart 61 = .ok (.aload_n 0, 1) := by decide +kernel
theorem dX0_jumpBehindPart_62 : decode cX0_jumpBehindPart 62 = .ok (.getfield 18, 3) := by decide +kernel
theorem dX0_jumpBehindPart_65 : decode cX0_jumpBehindPart 65 = .ok (.iastore, 1) := by decide +kernel
theorem dX0_jumpBehindPart_66 : decode cX0_jumpBehindPart 66 = .ok (.aload_n 0, 1) := by decide +kernel
theorem dX0_jumpBehindPart_67 : decode cX0_jumpBehindPart 67 = .ok (.bipush 10, 2) := by decide +kernel
theorem dX0_jumpBehindPart_69 : decode cX0_jumpBehindPart 69 = .ok (.iconst 0, 1) := by decide +kernel
theorem dX0_jumpBehindPart_70 : decode cX0_jumpBehindPart 70 = .ok (.invokevirtual 63, 3) := by decide +kernel
theorem dX0_jumpBehindPart_73 : decode cX0_jumpBehindPart 73 = .ok (.goto 17, 3) := by decide +kernel
theorem dX0_jumpBehindPart_76 : decode cX0_jumpBehindPart 76 = .ok (.aload_n 0, 1) := by decide +kernel
theorem dX0_jumpBehindPart_77 : decode cX0_jumpBehindPart 77 = .ok (.aload_n 0, 1) := by decide +kernel
theorem dX0_jumpBehindPart_78 : decode cX0_jumpBehindPart 78 = .ok (.getfield 38, 3) := by decide +kernel
theorem dX0_jumpBehindPart_81 : decode cX0_jumpBehindPart 81 = .ok (.iload_n 1, 1) := by decide +kernel
theorem dX0_jumpBehindPart_82 : decode cX0_jumpBehindPart 82 = .ok (.iaload, 1) := by decide +kernel
theorem dX0_jumpBehindPart_83 : decode cX0_jumpBehindPart 83 = .ok (.aload_n 0, 1) := by decide +kernel
theorem dX0_jumpBehindPart_84 : decode cX0_jumpBehindPart 84 = .ok (.getfield 18, 3) := by decide +kernel
theorem dX0_jumpBehindPart_87 : decode cX0_jumpBehindPart 87 = .ok (.invokevirtual 74, 3) := by decide +kernel
theorem dX0_jumpBehindPart_90 : decode cX0_jumpBehindPart 90 = .ok (.return_, 1) := by decide +kernel
theorem dX0_aim_0 : decode cX0_aim 0 = .ok (.iload_n 1, 1) := by decide +kernel
theorem dX0_aim_1 : decode cX0_aim 1 = .ok (.ifCond .lt 18, 3) := by decide +kernel
theorem dX0_aim_4 : decode cX0_aim 4 = .ok (.iload_n 1, 1) := by decide +kernel
theorem dX0_aim_5 : decode cX0_aim 5 = .ok (.aload_n 0, 1) := by decide +kernel
theorem dX0_aim_6 : decode cX0_aim 6 = .ok (.getfield 18, 3) := by decide +kernel
theorem dX0_aim_9 : decode cX0_aim 9 = .ok (.if_icmp .ge 10, 3) := by decide +kernel
theorem dX0_aim_12 : decode cX0_aim 12 = .ok (.aload_n 0, 1) := by decide +kernel
theorem dX0_aim_13 : decode cX0_aim 13 = .ok (.getfield 15, 3) := by decide +kernel
theorem dX0_aim_16 : decode cX0_aim 16 = .ok (.iload_n 1, 1) := by decide +kernel
theorem dX0_aim_17 : decode cX0_aim 17 = .ok (.iload_n 2, 1) := by decide +kernel
theorem dX0_aim_18 : decode cX0_aim 18 = .ok (.iastore, 1) := by decide +kernel
theorem dX0_aim_19 : decode cX0_aim 19 = .ok (.return_, 1) := by decide +kernel
theorem dX0_run_0 : decode cX0_run 0 = .ok (.iconst 0, 1) := by decide +kernel
theorem dX0_run_1 : decode cX0_run 1 = .ok (.istore_n 3, 1) := by decide +kernel
theorem dX0_run_2 : decode cX0_run 2 = .ok (.iconst 0, 1) := by decide +kernel
theorem dX0_run_3 : decode cX0_run 3 = .ok (.istore 4, 2) := by decide +kernel
theorem dX0_run_5 : decode cX0_run 5 = .ok (.iconst 1, 1) := by decide +kernel
theorem dX0_run_6 : decode cX0_run 6 = .ok (.istore 5, 2) := by decide +kernel
theorem dX0_run_8 : decode cX0_run 8 = .ok (.iload 5, 2) := by decide +kernel
theorem dX0_run_10 : decode cX0_run 10 = .ok (.aload_n 0, 1) := by decide +kernel
theorem dX0_run_11 : decode cX0_run 11 = .ok (.getfield 18, 3) := by decide +kernel
theorem dX0_run_14 : decode cX0_run 14 = .ok (.if_icmp .gt 236, 3) := by decide +kernel
theorem dX0_run_17 : decode cX0_run 17 = .ok (.iload 4, 2) := by decide +kernel
theorem dX0_run_19 : decode cX0_run 19 = .ok (.aload_n 0, 1) := by decide +kernel
theorem dX0_run_20 : decode cX0_run 20 = .ok (.getfield 18, 3) := by decide +kernel
theorem dX0_run_23 : decode cX0_run 23 = .ok (.if_icmp .ge 227, 3) := by decide +kernel
theorem dX0_run_26 : decode cX0_run 26 = .ok (.aload_n 0, 1) := by decide +kernel
theorem dX0_run_27 : decode cX0_run 27 = .ok (.iload 5, 2) := by decide +kernel
theorem dX0_run_29 : decode cX0_run 29 = .ok (.putfield 47, 3) := by decide +kernel
theorem dX0_run_32 : decode cX0_run 32 = .ok (.aload_n 0, 1) := by decide +kernel
theorem dX0_run_33 : decode cX0_run 33 = .ok (.getfield 11, 3) := by decide +kernel
theorem dX0_run_36 : decode cX0_run 36 = .ok (.iload 4, 2) := by decide +kernel
theorem dX0_run_38 : decode cX0_run 38 = .ok (.iaload, 1) := by decide +kernel
theorem dX0_run_39 : decode cX0_run 39 = .ok (.istore 6, 2) := by decide +kernel
theorem dX0_run_41 : decode cX0_run 41 = .ok (.aload_n 0, 1) := by decide +kernel
theorem dX0_run_42 : decode cX0_run 42 = .ok (.getfield 15, 3) := by decide +kernel
theorem dX0_run_45 : decode cX0_run 45 = .ok (.iload 4, 2) := by decide +kernel
theorem dX0_run_47 : decode cX0_run 47 = .ok (.iaload, 1) := by decide +kernel
theorem dX0_run_48 : decode cX0_run 48 = .ok (.istore 7, 2) := by decide +kernel
theorem dX0_run_50 : decode cX0_run 50 = .ok (.iinc 4 1, 3) := by decide +kernel
theorem dX0_run_53 : decode cX0_run 53 = .ok (.iload 6, 2) := by decide +kernel
theorem dX0_run_55 : decode cX0_run 55 = .ok (.iconst 2, 1) := by decide +kernel
theorem dX0_run_56 : decode cX0_run 56 = .ok (.if_icmp .gt 45, 3) := by decide +kernel
theorem dX0_run_59 : decode cX0_run 59 = .ok (.iload_n 3, 1) := by decide +kernel
theorem dX0_run_60 : decode cX0_run 60 = .ok (.sipush 200, 3) := by decide +kernel
theorem dX0_run_63 : decode cX0_run 63 = .ok (.if_icmp .lt 5, 3) := by decide +kernel
theorem dX0_run_66 : decode cX0_run 66 = .ok (.iconst 0, 1) := by decide +kernel
theorem dX0_run_67 : decode cX0_run 67 = .ok (.ireturn, 1) := by decide +kernel
theorem dX0_run_68 : decode cX0_run 68 = .ok (.aload_n 0, 1) := by decide +kernel
theorem dX0_run_69 : decode cX0_run 69 = .ok (.getfield 41, 3) := by decide +kernel
theorem dX0_run_72 : decode cX0_run 72 = .ok (.iload_n 3, 1) := by decide +kernel
theorem dX0_run_73 : decode cX0_run 73 = .ok (.iload 6, 2) := by decide +kernel
theorem dX0_run_75 : decode cX0_run 75 = .ok (.ifCond .ne 8, 3) := by decide +kernel
theorem dX0_run_78 : decode cX0_run 78 = .ok (.iload 7, 2) := by decide +kernel
theorem dX0_run_80 : decode cX0_run 80 = .ok (.goto 14, 3) := by decide +kernel
theorem dX0_run_83 : decode cX0_run 83 = .ok (.iload 6, 2) := by decide +kernel
theorem dX0_run_85 : decode cX0_run 85 = .ok (.iconst 1, 1) := by decide +kernel
theorem dX0_run_86 : decode cX0_run 86 = .ok (.if_icmp .ne 7, 3) := by decide +kernel
theorem dX0_run_89 : decode cX0_run 89 = .ok (.iload_n 1, 1) := by decide +kernel
theorem dX0_run_90 : decode cX0_run 90 = .ok (.goto 4, 3) := by decide +kernel
theorem dX0_run_93 : decode cX0_run 93 = .ok (.iload_n 2, 1) := by decide +kernel
theorem dX0_run_94 : decode cX0_run 94 = .ok (.iastore, 1) := by decide +kernel
theorem dX0_run_95 : decode cX0_run 95 = .ok (.iinc 3 1, 3) := by decide +kernel
theorem dX0_run_98 : decode cX0_run 98 = .ok (.goto 146, 3) := by decide +kernel
theorem dX0_run_101 : decode cX0_run 101 = .ok (.iload 6, 2) := by decide +kernel
theorem dX0_run_103 : decode cX0_run 103 = .ok (.bipush 10, 2) := by decide +kernel
theorem dX0_run_105 : decode cX0_run 105 = .ok (.if_icmp .ne 15, 3) := by decide +kernel
theorem dX0_run_108 : decode cX0_run 108 = .ok (.iload 4, 2) := by decide +kernel
theorem dX0_run_110 : decode cX0_run 110 = .ok (.iload 7, 2) := by decide +kernel
theorem dX0_run_112 : decode cX0_run 112 = .ok (.invokestatic 77, 3) := by decide +kernel
theorem dX0_run_115 : decode cX0_run 115 = .ok (.istore 4, 2) := by decide +kernel
theorem dX0_run_117 : decode cX0_run 117 = .ok (.goto 127, 3) := by decide +kernel
theorem dX0_run_120 : decode cX0_run 120 = .ok (.iload_n 3, 1) := by decide +kernel
theorem dX0_run_121 : decode cX0_run 121 = .ok (.iconst 1, 1) := by decide +kernel
theorem dX0_run_122 : decode cX0_run 122 = .ok (.if_icmp .ge 5, 3) := by decide +kernel
theorem dX0_run_125 : decode cX0_run 125 = .ok (.iconst 0, 1) := by decide +kernel
theorem dX0_run_126 : decode cX0_run 126 = .ok (.ireturn, 1) := by decide +kernel
theorem dX0_run_127 : decode cX0_run 127 = .ok (.iload 6, 2) := by decide +kernel
theorem dX0_run_129 : decode cX0_run 129 = .ok (.bipush 9, 2) := by decide +kernel
theorem dX0_run_131 : decode cX0_run 131 = .ok (.if_icmp .ne 32, 3) := by decide +kernel
theorem dX0_run_134 : decode cX0_run 134 = .ok (.iinc 3 (-1), 3) := by decide +kernel
theorem dX0_run_137 : decode cX0_run 137 = .ok (.aload_n 0, 1) := by decide +kernel
theorem dX0_run_138 : decode cX0_run 138 = .ok (.getfield 41, 3) := by decide +kernel
theorem dX0_run_141 : decode cX0_run 141 = .ok (.iload_n 3, 1) := by decide +kernel
theorem dX0_run_142 : decode cX0_run 142 = .ok (.iaload, 1) := by decide +kernel
theorem dX0_run_143 : decode cX0_run 143 = .ok (.ifCond .ne 13, 3) := by decide +kernel
theorem dX0_run_146 : decode cX0_run 146 = .ok (.iload 4, 2) := by decide +kernel
theorem dX0_run_148 : decode cX0_run 148 = .ok (.iload 7, 2) := by decide +kernel
theorem dX0_run_150 : decode cX0_run 150 = .ok (.invokestatic 77, 3) := by decide +kernel
theorem dX0_run_153 : decode cX0_run 153 = .ok (.goto 5, 3) := by decide +kernel
theorem dX0_run_156 : decode cX0_run 156 = .ok (.iload 4, 2) := by decide +kernel
theorem dX0_run_158 : decode cX0_run 158 = .ok (.istore 4, 2) := by decide +kernel
theorem dX0_run_160 : decode cX0_run 160 = .ok (.goto 84, 3) := by decide +kernel
theorem dX0_run_163 : decode cX0_run 163 = .ok (.iload 6, 2) := by decide +kernel
theorem dX0_run_165 : decode cX0_run 165 = .ok (.iconst 3, 1) := by decide +kernel
theorem dX0_run_166 : decode cX0_run 166 = .ok (.if_icmp .ne 23, 3) := by decide +kernel
theorem dX0_run_169 : decode cX0_run 169 = .ok (.aload_n 0, 1) := by decide +kernel
theorem dX0_run_170 : decode cX0_run 170 = .ok (.getfield 41, 3) := by decide +kernel
theorem dX0_run_173 : decode cX0_run 173 = .ok (.iload_n 3, 1) := by decide +kernel
theorem dX0_run_174 : decode cX0_run 174 = .ok (.iconst 1, 1) := by decide +kernel
theorem dX0_run_175 : decode cX0_run 175 = .ok (.isub, 1) := by decide +kernel
theorem dX0_run_176 : decode cX0_run 176 = .ok (.aload_n 0, 1) := by decide +kernel
theorem dX0_run_177 : decode cX0_run 177 = .ok (.getfield 41, 3) := by decide +kernel
theorem dX0_run_180 : decode cX0_run 180 = .ok (.iload_n 3, 1) := by decide +kernel
theorem dX0_run_181 : decode cX0_run 181 = .ok (.iconst 1, 1) := by decide +kernel
theorem dX0_run_182 : decode cX0_run 182 = .ok (.isub, 1) := by decide +kernel
theorem dX0_run_183 : decode cX0_run 183 = .ok (.iaload, 1) := by decide +kernel
theorem dX0_run_184 : decode cX0_run 184 = .ok (.ineg, 1) := by decide +kernel
theorem dX0_run_185 : decode cX0_run 185 = .ok (.iastore, 1) := by decide +kernel
theorem dX0_run_186 : decode cX0_run 186 = .ok (.goto 58, 3) := by decide +kernel
theorem dX0_run_189 : decode cX0_run 189 = .ok (.iload_n 3, 1) := by decide +kernel
theorem dX0_run_190 : decode cX0_run 190 = .ok (.iconst 2, 1) := by decide +kernel
theorem dX0_run_191 : decode cX0_run 191 = .ok (.if_icmp .lt 21, 3) := by decide +kernel
theorem dX0_run_194 : decode cX0_run 194 = .ok (.iload 6, 2) := by decide +kernel
theorem dX0_run_196 : decode cX0_run 196 = .ok (.bipush 7, 2) := by decide +kernel
theorem dX0_run_198 : decode cX0_run 198 = .ok (.if_icmp .ne 16, 3) := by decide +kernel
theorem dX0_run_201 : decode cX0_run 201 = .ok (.aload_n 0, 1) := by decide +kernel
theorem dX0_run_202 : decode cX0_run 202 = .ok (.getfield 41, 3) := by decide +kernel
theorem dX0_run_205 : decode cX0_run 205 = .ok (.iload_n 3, 1) := by decide +kernel
theorem dX0_run_206 : decode cX0_run 206 = .ok (.iconst 1, 1) := by decide +kernel
theorem dX0_run_207 : decode cX0_run 207 = .ok (.isub, 1) := by decide +kernel
theorem dX0_run_208 : decode cX0_run 208 = .ok (.iaload, 1) := by decide +kernel
theorem dX0_run_209 : decode cX0_run 209 = .ok (.ifCond .ne 5, 3) := by decide +kernel
theorem dX0_run_212 : decode cX0_run 212 = .ok (.iconst 0, 1) := by decide +kernel
theorem dX0_run_213 : decode cX0_run 213 = .ok (.ireturn, 1) := by decide +kernel
theorem dX0_run_214 : decode cX0_run 214 = .ok (.iinc 3 (-1), 3) := by decide +kernel
theorem dX0_run_217 : decode cX0_run 217 = .ok (.aload_n 0, 1) := by decide +kernel
theorem dX0_run_218 : decode cX0_run 218 = .ok (.getfield 41, 3) := by decide +kernel
theorem dX0_run_221 : decode cX0_run 221 = .ok (.iload_n 3, 1) := by decide +kernel
theorem dX0_run_222 : decode cX0_run 222 = .ok (.iconst 1, 1) := by decide +kernel
theorem dX0_run_223 : decode cX0_run 223 = .ok (.isub, 1) := by decide +kernel
theorem dX0_run_224 : decode cX0_run 224 = .ok (.iload 6, 2) := by decide +kernel
theorem dX0_run_226 : decode cX0_run 226 = .ok (.aload_n 0, 1) := by decide +kernel
theorem dX0_run_227 : decode cX0_run 227 = .ok (.getfield 41, 3) := by decide +kernel
theorem dX0_run_230 : decode cX0_run 230 = .ok (.iload_n 3, 1) := by decide +kernel
theorem dX0_run_231 : decode cX0_run 231 = .ok (.iconst 1, 1) := by decide +kernel
theorem dX0_run_232 : decode cX0_run 232 = .ok (.isub, 1) := by decide +kernel
theorem dX0_run_233 : decode cX0_run 233 = .ok (.iaload, 1) := by decide +kernel
theorem dX0_run_234 : decode cX0_run 234 = .ok (.aload_n 0, 1) := by decide +kernel
theorem dX0_run_235 : decode cX0_run 235 = .ok (.getfield 41, 3) := by decide +kernel
theorem dX0_run_238 : decode cX0_run 238 = .ok (.iload_n 3, 1) := by decide +kernel
theorem dX0_run_239 : decode cX0_run 239 = .ok (.iaload, 1) := by decide +kernel
theorem dX0_run_240 : decode cX0_run 240 = .ok (.invokestatic 83, 3) := by decide +kernel
theorem dX0_run_243 : decode cX0_run 243 = .ok (.iastore, 1) := by decide +kernel
theorem dX0_run_244 : decode cX0_run 244 = .ok (.iinc 5 1, 3) := by decide +kernel
theorem dX0_run_247 : decode cX0_run 247 = .ok (.goto (-239), 3) := by decide +kernel
theorem dX0_run_250 : decode cX0_run 250 = .ok (.aload_n 0, 1) := by decide +kernel
theorem dX0_run_251 : decode cX0_run 251 = .ok (.iload_n 3, 1) := by decide +kernel
theorem dX0_run_252 : decode cX0_run 252 = .ok (.ifCond .le 14, 3) := by decide +kernel
theorem dX0_run_255 : decode cX0_run 255 = .ok (.aload_n 0, 1) := by decide +kernel
theorem dX0_run_256 : decode cX0_run 256 = .ok (.getfield 41, 3) := by decide +kernel
theorem dX0_run_259 : decode cX0_run 259 = .ok (.iload_n 3, 1) := by decide +kernel
theorem dX0_run_260 : decode cX0_run 260 = .ok (.iconst 1, 1) := by decide +kernel
theorem dX0_run_261 : decode cX0_run 261 = .ok (.isub, 1) := by decide +kernel
theorem dX0_run_262 : decode cX0_run 262 = .ok (.iaload, 1) := by decide +kernel
theorem dX0_run_263 : decode cX0_run 263 = .ok (.goto 4, 3) := by decide +kernel
theorem dX0_run_266 : decode cX0_run 266 = .ok (.iconst 0, 1) := by decide +kernel
theorem dX0_run_267 : decode cX0_run 267 = .ok (.putfield 44, 3) := by decide +kernel
theorem dX0_run_270 : decode cX0_run 270 = .ok (.iconst 1, 1) := by decide +kernel
theorem dX0_run_271 : decode cX0_run 271 = .ok (.ireturn, 1) := by decide +kernel
theorem dX0_isNeverFree_0 : decode cX0_isNeverFree 0 = .ok (.aload_n 0, 1) := by decide +kernel
theorem dX0_isNeverFree_1 : decode cX0_isNeverFree 1 = .ok (.getfield 22, 3) := by decide +kernel
theorem dX0_isNeverFree_4 : decode cX0_isNeverFree 4 = .ok (.ifCond .eq 7, 3) := by decide +kernel
theorem dX0_isNeverFree_7 : decode cX0_isNeverFree 7 = .ok (.iload_n 1, 1) := by decide +kernel
theorem dX0_isNeverFree_8 : decode cX0_isNeverFree 8 = .ok (.goto 5, 3) := by decide +kernel
theorem dX0_isNeverFree_11 : decode cX0_isNeverFree 11 = .ok (.iload_n 1, 1) := by decide +kernel
theorem dX0_isNeverFree_12 : decode cX0_isNeverFree 12 = .ok (.ineg, 1) := by decide +kernel
theorem dX0_isNeverFree_13 : decode cX0_isNeverFree 13 = .ok (.istore_n 2, 1) := by decide +kernel
theorem dX0_isNeverFree_14 : decode cX0_isNeverFree 14 = .ok (.aload_n 0, 1) := by decide +kernel
theorem dX0_isNeverFree_15 : decode cX0_isNeverFree 15 = .ok (.getfield 26, 3) := by decide +kernel
theorem dX0_isNeverFree_18 : decode cX0_isNeverFree 18 = .ok (.ifCond .eq 7, 3) := by decide +kernel
theorem dX0_isNeverFree_21 : decode cX0_isNeverFree 21 = .ok (.iload_n 1, 1) := by decide +kernel
theorem dX0_isNeverFree_22 : decode cX0_isNeverFree 22 = .ok (.goto 5, 3) := by decide +kernel
theorem dX0_isNeverFree_25 : decode cX0_isNeverFree 25 = .ok (.iload_n 1, 1) := by decide +kernel
theorem dX0_isNeverFree_26 : decode cX0_isNeverFree 26 = .ok (.ineg, 1) := by decide +kernel
theorem dX0_isNeverFree_27 : decode cX0_isNeverFree 27 = .ok (.istore_n 3, 1) := by decide +kernel
theorem dX0_isNeverFree_28 : decode cX0_isNeverFree 28 = .ok (.iload_n 1, 1) := by decide +kernel
theorem dX0_isNeverFree_29 : decode cX0_isNeverFree 29 = .ok (.ineg, 1) := by decide +kernel
theorem dX0_isNeverFree_30 : decode cX0_isNeverFree 30 = .ok (.istore 4, 2) := by decide +kernel
theorem dX0_isNeverFree_32 : decode cX0_isNeverFree 32 = .ok (.aload_n 0, 1) := by decide +kernel
theorem dX0_isNeverFree_33 : decode cX0_isNeverFree 33 = .ok (.getfield 29, 3) := by decide +kernel
theorem dX0_isNeverFree_36 : decode cX0_isNeverFree 36 = .ok (.ifCond .eq 44, 3) := by decide +kernel
theorem dX0_isNeverFree_39 : decode cX0_isNeverFree 39 = .ok (.iload 4, 2) := by decide +kernel
theorem dX0_isNeverFree_41 : decode cX0_isNeverFree 41 = .ok (.iload_n 2, 1) := by decide +kernel
theorem dX0_isNeverFree_42 : decode cX0_isNeverFree 42 = .ok (.if_icmp .gt 38, 3) := by decide +kernel
theorem dX0_isNeverFree_45 : decode cX0_isNeverFree 45 = .ok (.iload_n 1, 1) := by decide +kernel
theorem dX0_isNeverFree_46 : decode cX0_isNeverFree 46 = .ok (.ineg, 1) := by decide +kernel
theorem dX0_isNeverFree_47 : decode cX0_isNeverFree 47 = .ok (.istore 5, 2) := by decide +kernel
theorem dX0_isNeverFree_49 : decode cX0_isNeverFree 49 = .ok (.iload 5, 2) := by decide +kernel
theorem dX0_isNeverFree_51 : decode cX0_isNeverFree 51 = .ok (.iload_n 3, 1) := by decide +kernel
theorem dX0_isNeverFree_52 : decode cX0_isNeverFree 52 = .ok (.if_icmp .gt 22, 3) := by decide +kernel
theorem dX0_isNeverFree_55 : decode cX0_isNeverFree 55 = .ok (.aload_n 0, 1) := by decide +kernel
theorem dX0_isNeverFree_56 : decode cX0_isNeverFree 56 = .ok (.iload 4, 2) := by decide +kernel
theorem dX0_isNeverFree_58 : decode cX0_isNeverFree 58 = .ok (.iload 5, 2) := by decide +kernel
theorem dX0_isNeverFree_60 : decode cX0_isNeverFree 60 = .ok (.invokevirtual 87, 3) := by decide +kernel
theorem dX0_isNeverFree_63 : decode cX0_isNeverFree 63 = .ok (.ifCond .ne 5, 3) := by decide +kernel
theorem dX0_isNeverFree_66 : decode cX0_isNeverFree 66 = .ok (.iconst 0, 1) := by decide +kernel
theorem dX0_isNeverFree_67 : decode cX0_isNeverFree 67 = .ok (.ireturn, 1) := by decide +kernel
theorem dX0_isNeverFree_68 : decode cX0_isNeverFree 68 = .ok (.iinc 5 1, 3) := by decide +kernel
theorem dX0_isNeverFree_71 : decode cX0_isNeverFree 71 = .ok (.goto (-22), 3) := by decide +kernel
theorem dX0_isNeverFree_74 : decode cX0_isNeverFree 74 = .ok (.iinc 4 1, 3) := by decide +kernel
theorem dX0_isNeverFree_77 : decode cX0_isNeverFree 77 = .ok (.goto (-45), 3) := by decide +kernel
theorem dX0_isNeverFree_80 : decode cX0_isNeverFree 80 = .ok (.iconst 1, 1) := by decide +kernel
theorem dX0_isNeverFree_81 : decode cX0_isNeverFree 81 = .ok (.ireturn, 1) := by decide +kernel
theorem dX1_init_0 : decode cX1_init 0 = .ok (.aload_n 0, 1) := by decide +kernel
theorem dX1_init_1 : decode cX1_init 1 = .ok (.invokespecial 3, 3) := by decide +kernel
theorem dX1_init_4 : decode cX1_init 4 = .ok (.aload_n 0, 1) := by decide +kernel
theorem dX1_init_5 : decode cX1_init 5 = .ok (.bipush 16, 2) := by decide +kernel
theorem dX1_init_7 : decode cX1_init 7 = .ok (.newarray .long, 2) := by decide +kernel
theorem dX1_init_9 : decode cX1_init 9 = .ok (.putfield 9, 3) := by decide +kernel
theorem dX1_init_12 : decode cX1_init 12 = .ok (.aload_n 0, 1) := by decide +kernel
theorem dX1_init_13 : decode cX1_init 13 = .ok (.bipush 16, 2) := by decide +kernel
theorem dX1_init_15 : decode cX1_init 15 = .ok (.newarray .long, 2) := by decide +kernel
theorem dX1_init_17 : decode cX1_init 17 = .ok (.putfield 15, 3) := by decide +kernel
theorem dX1_init_20 : decode cX1_init 20 = .ok (.aload_n 0, 1) := by decide +kernel
theorem dX1_init_21 : decode cX1_init 21 = .ok (.bipush 16, 2) := by decide +kernel
theorem dX1_init_23 : decode cX1_init 23 = .ok (.newarray .long, 2) := by decide +kernel
theorem dX1_init_25 : decode cX1_init 25 = .ok (.putfield 18, 3) := by decide +kernel
theorem dX1_init_28 : decode cX1_init 28 = .ok (.aload_n 0, 1) := by decide +kernel
theorem dX1_init_29 : decode cX1_init 29 = .ok (.bipush 16, 2) := by decide +kernel
theorem dX1_init_31 : decode cX1_init 31 = .ok (.newarray .int, 2) := by decide +kernel
theorem dX1_init_33 : decode cX1_init 33 = .ok (.putfield 21, 3) := by decide +kernel
theorem dX1_init_36 : decode cX1_init 36 = .ok (.aload_n 0, 1) := by decide +kernel
theorem dX1_init_37 : decode cX1_init 37 = .ok (.bipush 16, 2) := by decide +kernel
theorem dX1_init_39 : decode cX1_init 39 = .ok (.newarray .long, 2) := by decide +kernel
theorem dX1_init_41 : decode cX1_init 41 = .ok (.putfield 25, 3) := by decide +kernel
theorem dX1_init_44 : decode cX1_init 44 = .ok (.aload_n 0, 1) := by decide +kernel
theorem dX1_init_45 : decode cX1_init 45 = .ok (.iconst 0, 1) := by decide +kernel
theorem dX1_init_46 : decode cX1_init 46 = .ok (.putfield 28, 3) := by decide +kernel
theorem dX1_init_49 : decode cX1_init 49 = .ok (.aload_n 0, 1) := by decide +kernel
theorem dX1_init_50 : decode cX1_init 50 = .ok (.bipush 16, 2) := by decide +kernel
theorem dX1_init_52 : decode cX1_init 52 = .ok (.newarray .long, 2) := by decide +kernel
theorem dX1_init_54 : decode cX1_init 54 = .ok (.putfield 32, 3) := by decide +kernel
theorem dX1_init_57 : decode cX1_init 57 = .ok (.aload_n 0, 1) := by decide +kernel
theorem dX1_init_58 : decode cX1_init 58 = .ok (.getfield 9, 3) := by decide +kernel
theorem dX1_init_61 : decode cX1_init 61 = .ok (.iconst 1, 1) := by decide +kernel
theorem dX1_init_62 : decode cX1_init 62 = .ok (.ldc2_w 35, 3) := by decide +kernel
theorem dX1_init_65 : decode cX1_init 65 = .ok (.lastore, 1) := by decide +kernel
theorem dX1_init_66 : decode cX1_init 66 = .ok (.iconst 2, 1) := by decide +kernel
theorem dX1_init_67 : decode cX1_init 67 = .ok (.istore_n 1, 1) := by decide +kernel
theorem dX1_init_68 : decode cX1_init 68 = .ok (.iload_n 1, 1) := by decide +kernel
theorem dX1_init_69 : decode cX1_init 69 = .ok (.bipush 15, 2) := by decide +kernel
theorem dX1_init_71 : decode cX1_init 71 = .ok (.if_icmp .gt 106, 3) := by decide +kernel
theorem dX1_init_74 : decode cX1_init 74 = .ok (.aload_n 0, 1) := by decide +kernel
theorem dX1_init_75 : decode cX1_init 75 = .ok (.getfield 9, 3) := by decide +kernel
theorem dX1_init_78 : decode cX1_init 78 = .ok (.iload_n 1, 1) := by decide +kernel
theorem dX1_init_79 : decode cX1_init 79 = .ok (.aload_n 0, 1) := by decide +kernel
theorem dX1_init_80 : decode cX1_init 80 = .ok (.getfield 9, 3) := by decide +kernel
theorem dX1_init_83 : decode cX1_init 83 = .ok (.iload_n 1, 1) := by decide +kernel
theorem dX1_init_84 : decode cX1_init 84 = .ok (.iconst 1, 1) := by decide +kernel
theorem dX1_init_85 : decode cX1_init 85 = .ok (.isub, 1) := by decide +kernel
theorem dX1_init_86 : decode cX1_init 86 = .ok (.laload, 1) := by decide +kernel
theorem dX1_init_87 : decode cX1_init 87 = .ok (.ldc2_w 37, 3) := by decide +kernel
theorem dX1_init_90 : decode cX1_init 90 = .ok (.aload_n 0, 1) := by decide +kernel
theorem dX1_init_91 : decode cX1_init 91 = .ok (.getfield 15, 3) := by decide +kernel
theorem dX1_init_94 : decode cX1_init 94 = .ok (.iload_n 1, 1) := by decide +kernel
theorem dX1_init_95 : decode cX1_init 95 = .ok (.iconst 1, 1) := by decide +kernel
theorem dX1_init_96 : decode cX1_init 96 = .ok (.isub, 1) := by decide +kernel
theorem dX1_init_97 : decode cX1_init 97 = .ok (.laload, 1) := by decide +kernel
theorem dX1_init_98 : decode cX1_init 98 = .ok (.lmul, 1) := by decide +kernel
theorem dX1_init_99 : decode cX1_init 99 = .ok (.ladd, 1) := by decide +kernel
theorem dX1_init_100 : decode cX1_init 100 = .ok (.aload_n 0, 1) := by decide +kernel
theorem dX1_init_101 : decode cX1_init 101 = .ok (.getfield 18, 3) := by decide +kernel
theorem dX1_init_104 : decode cX1_init 104 = .ok (.iload_n 1, 1) := by decide +kernel
theorem dX1_init_105 : decode cX1_init 105 = .ok (.iconst 1, 1) := by decide +kernel
theorem dX1_init_106 : decode cX1_init 106 = .ok (.isub, 1) := by decide +kernel
theorem dX1_init_107 : decode cX1_init 107 = .ok (.laload, 1) := by decide +kernel
theorem dX1_init_108 : decode cX1_init 108 = .ok (.ladd, 1) := by decide +kernel
theorem dX1_init_109 : decode cX1_init 109 = .ok (.lastore, 1) := by decide +kernel
theorem dX1_init_110 : decode cX1_init 110 = .ok (.iconst 1, 1) := by decide +kernel
theorem dX1_init_111 : decode cX1_init 111 = .ok (.istore_n 2, 1) := by decide +kernel
theorem dX1_init_112 : decode cX1_init 112 = .ok (.iload_n 2, 1) := by decide +kernel
theorem dX1_init_113 : decode cX1_init 113 = .ok (.iload_n 1, 1) := by decide +kernel
theorem dX1_init_114 : decode cX1_init 114 = .ok (.if_icmp .ge 57, 3) := by decide +kernel
theorem dX1_init_117 : decode cX1_init 117 = .ok (.aload_n 0, 1) := by decide +kernel
theorem dX1_init_118 : decode cX1_init 118 = .ok (.getfield 15, 3) := by decide +kernel
theorem dX1_init_121 : decode cX1_init 121 = .ok (.iload_n 1, 1) := by decide +kernel
theorem dX1_init_122 : decode cX1_init 122 = .ok (.dup2, 1) := by decide +kernel
theorem dX1_init_123 : decode cX1_init 123 = .ok (.laload, 1) := by decide +kernel
theorem dX1_init_124 : decode cX1_init 124 = .ok (.aload_n 0, 1) := by decide +kernel
theorem dX1_init_125 : decode cX1_init 125 = .ok (.getfield 9, 3) := by decide +kernel
theorem dX1_init_128 : decode cX1_init 128 = .ok (.iload_n 2, 1) := by decide +kernel
theorem dX1_init_129 : decode cX1_init 129 = .ok (.laload, 1) := by decide +kernel
theorem dX1_init_130 : decode cX1_init 130 = .ok (.aload_n 0, 1) := by decide +kernel
theorem dX1_init_131 : decode cX1_init 131 = .ok (.getfield 9, 3) := by decide +kernel
theorem dX1_init_134 : decode cX1_init 134 = .ok (.iload_n 1, 1) := by decide +kernel
theorem dX1_init_135 : decode cX1_init 135 = .ok (.iload_n 2, 1) := by decide +kernel
theorem dX1_init_136 : decode cX1_init 136 = .ok (.isub, 1) := by decide +kernel
theorem dX1_init_137 : decode cX1_init 137 = .ok (.laload, 1) := by decide +kernel
theorem dX1_init_138 : decode cX1_init 138 = .ok (.lmul, 1) := by decide +kernel
theorem dX1_init_139 : decode cX1_init 139 = .ok (.ladd, 1) := by decide +kernel
theorem dX1_init_140 : decode cX1_init 140 = .ok (.lastore, 1) := by decide +kernel
theorem dX1_init_141 : decode cX1_init 141 = .ok (.aload_n 0, 1) := by decide +kernel
theorem dX1_init_142 : decode cX1_init 142 = .ok (.getfield 18, 3) := by decide +kernel
theorem dX1_init_145 : decode cX1_init 145 = .ok (.iload_n 1, 1) := by decide +kernel
theorem dX1_init_146 : decode cX1_init 146 = .ok (.dup2, 1) := by decide +kernel
theorem dX1_init_147 : decode cX1_init 147 = .ok (.laload, 1) := by decide +kernel
theorem dX1_init_148 : decode cX1_init 148 = .ok (.aload_n 0, 1) := by decide +kernel
theorem dX1_init_149 : decode cX1_init 149 = .ok (.getfield 9, 3) := by decide +kernel
theorem dX1_init_152 : decode cX1_init 152 = .ok (.iload_n 2, 1) := by decide +kernel
theorem dX1_init_153 : decode cX1_init 153 = .ok (.laload, 1) := by decide +kernel
theorem dX1_init_154 : decode cX1_init 154 = .ok (.aload_n 0, 1) := by decide +kernel
theorem dX1_init_155 : decode cX1_init 155 = .ok (.getfield 15, 3) := by decide +kernel
theorem dX1_init_158 : decode cX1_init 158 = .ok (.iload_n 1, 1) := by decide +kernel
theorem dX1_init_159 : decode cX1_init 159 = .ok (.iload_n 2, 1) := by decide +kernel
theorem dX1_init_160 : decode cX1_init 160 = .ok (.isub, 1) := by decide +kernel
theorem dX1_init_161 : decode cX1_init 161 = .ok (.laload, 1) := by decide +kernel
theorem dX1_init_162 : decode cX1_init 162 = .ok (.lmul, 1) := by decide +kernel
theorem dX1_init_163 : decode cX1_init 163 = .ok (.ladd, 1) := by decide +kernel
theorem dX1_init_164 : decode cX1_init 164 = .ok (.lastore, 1) := by decide +kernel
theorem dX1_init_165 : decode cX1_init 165 = .ok (.iinc 2 1, 3) := by decide +kernel
theorem dX1_init_168 : decode cX1_init 168 = .ok (.goto (-56), 3) := by decide +kernel
theorem dX1_init_171 : decode cX1_init 171 = .ok (.iinc 1 1, 3) := by decide +kernel
theorem dX1_init_174 : decode cX1_init 174 = .ok (.goto (-106), 3) := by decide +kernel
theorem dX1_init_177 : decode cX1_init 177 = .ok (.return_, 1) := by decide +kernel
theorem dX1_howMany_0 : decode cX1_howMany 0 = .ok (.iload_n 1, 1) := by decide +kernel
theorem dX1_howMany_1 : decode cX1_howMany 1 = .ok (.iconst 1, 1) := by decide +kernel
theorem dX1_howMany_2 : decode cX1_howMany 2 = .ok (.bipush 15, 2) := by decide +kernel
theorem dX1_howMany_4 : decode cX1_howMany 4 = .ok (.invokestatic 39, 3) := by decide +kernel
theorem dX1_howMany_7 : decode cX1_howMany 7 = .ok (.ifCond .eq 12, 3) := by decide +kernel
theorem dX1_howMany_10 : decode cX1_howMany 10 = .ok (.aload_n 0, 1) := by decide +kernel
theorem dX1_howMany_11 : decode cX1_howMany 11 = .ok (.getfield 9, 3) := by decide +kernel
theorem dX1_howMany_14 : decode cX1_howMany 14 = .ok (.iload_n 1, 1) := by decide +kernel
theorem dX1_howMany_15 : decode cX1_howMany 15 = .ok (.laload, 1) := by decide +kernel
theorem dX1_howMany_16 : decode cX1_howMany 16 = .ok (.goto 4, 3) := by decide +kernel
theorem dX1_howMany_19 : decode cX1_howMany 19 = .ok (.lconst 0, 1) := by decide +kernel
theorem dX1_howMany_20 : decode cX1_howMany 20 = .ok (.lreturn, 1) := by decide +kernel
theorem dX1_unfold_0 : decode cX1_unfold 0 = .ok (.aload_n 1, 1) := by decide +kernel
theorem dX1_unfold_1 : decode cX1_unfold 1 = .ok (.invokevirtual 43, 3) := by decide +kernel
theorem dX1_unfold_4 : decode cX1_unfold 4 = .ok (.aload_n 0, 1) := by decide +kernel
theorem dX1_unfold_5 : decode cX1_unfold 5 = .ok (.iconst 0, 1) := by decide +kernel
theorem dX1_unfold_6 : decode cX1_unfold 6 = .ok (.putfield 28, 3) := by decide +kernel
theorem dX1_unfold_9 : decode cX1_unfold 9 = .ok (.aload_n 0, 1) := by decide +kernel
theorem dX1_unfold_10 : decode cX1_unfold 10 = .ok (.iload_n 2, 1) := by decide +kernel
theorem dX1_unfold_11 : decode cX1_unfold 11 = .ok (.lload_n 3, 1) := by decide +kernel
theorem dX1_unfold_12 : decode cX1_unfold 12 = .ok (.invokevirtual 48, 3) := by decide +kernel
theorem dX1_unfold_15 : decode cX1_unfold 15 = .ok (.iconst 0, 1) := by decide +kernel
theorem dX1_unfold_16 : decode cX1_unfold 16 = .ok (.istore 5, 2) := by decide +kernel
theorem dX1_unfold_18 : decode cX1_unfold 18 = .ok (.iload 5, 2) := by decide +kernel
theorem dX1_unfold_20 : decode cX1_unfold 20 = .ok (.iload_n 2, 1) := by decide +kernel
theorem dX1_unfold_21 : decode cX1_unfold 21 = .ok (.if_icmp .ge 58, 3) := by decide +kernel
theorem dX1_unfold_24 : decode cX1_unfold 24 = .ok (.aload_n 0, 1) := by decide +kernel
theorem dX1_unfold_25 : decode cX1_unfold 25 = .ok (.getfield 28, 3) := by decide +kernel
theorem dX1_unfold_28 : decode cX1_unfold 28 = .ok (.ifCond .le 51, 3) := by decide +kernel
theorem dX1_unfold_31 : decode cX1_unfold 31 = .ok (.aload_n 0, 1) := by decide +kernel
theorem dX1_unfold_32 : decode cX1_unfold 32 = .ok (.getfield 28, 3) := by decide +kernel
theorem dX1_unfold_35 : decode cX1_unfold 35 = .ok (.bipush 15, 2) := by decide +kernel
theorem dX1_unfold_37 : decode cX1_unfold 37 = .ok (.if_icmp .gt 42, 3) := by decide +kernel
theorem dX1_unfold_40 : decode cX1_unfold 40 = .ok (.aload_n 0, 1) := by decide +kernel
theorem dX1_unfold_41 : decode cX1_unfold 41 = .ok (.dup, 1) := by decide +kernel
theorem dX1_unfold_42 : decode cX1_unfold 42 = .ok (.getfield 28, 3) := by decide +kernel
theorem dX1_unfold_45 : decode cX1_unfold 45 = .ok (.iconst 1, 1) := by decide +kernel
theorem dX1_unfold_46 : decode cX1_unfold 46 = .ok (.isub, 1) := by decide +kernel
theorem dX1_unfold_47 : decode cX1_unfold 47 = .ok (.putfield 28, 3) := by decide +kernel
theorem dX1_unfold_50 : decode cX1_unfold 50 = .ok (.aload_n 0, 1) := by decide +kernel
theorem dX1_unfold_51 : decode cX1_unfold 51 = .ok (.aload_n 1, 1) := by decide +kernel
theorem dX1_unfold_52 : decode cX1_unfold 52 = .ok (.aload_n 0, 1) := by decide +kernel
theorem dX1_unfold_53 : decode cX1_unfold 53 = .ok (.getfield 21, 3) := by decide +kernel
theorem dX1_unfold_56 : decode cX1_unfold 56 = .ok (.aload_n 0, 1) := by decide +kernel
theorem dX1_unfold_57 : decode cX1_unfold 57 = .ok (.getfield 28, 3) := by decide +kernel
theorem dX1_unfold_60 : decode cX1_unfold 60 = .ok (.iaload, 1) := by decide +kernel
theorem dX1_unfold_61 : decode cX1_unfold 61 = .ok (.aload_n 0, 1) := by decide +kernel
theorem dX1_unfold_62 : decode cX1_unfold 62 = .ok (.getfield 25, 3) := by decide +kernel
theorem dX1_unfold_65 : decode cX1_unfold 65 = .ok (.aload_n 0, 1) := by decide +kernel
theorem dX1_unfold_66 : decode cX1_unfold 66 = .ok (.getfield 28, 3) := by decide +kernel
theorem dX1_unfold_69 : decode cX1_unfold 69 = .ok (.laload, 1) := by decide +kernel
theorem dX1_unfold_70 : decode cX1_unfold 70 = .ok (.invokevirtual 52, 3) := by decide +kernel
theorem dX1_unfold_73 : decode cX1_unfold 73 = .ok (.iinc 5 1, 3) := by decide +kernel
theorem dX1_unfold_76 : decode cX1_unfold 76 = .ok (.goto (-58), 3) := by decide +kernel
theorem dX1_unfold_79 : decode cX1_unfold 79 = .ok (.aload_n 1, 1) := by decide +kernel
theorem dX1_unfold_80 : decode cX1_unfold 80 = .ok (.invokevirtual 56, 3) := by decide +kernel
theorem dX1_unfold_83 : decode cX1_unfold 83 = .ok (.return_, 1) := by decide +kernel
theorem dX1_unfoldNode_0 : decode cX1_unfoldNode 0 = .ok (.iload_n 2, 1) := by decide +kernel
theorem dX1_unfoldNode_1 : decode cX1_unfoldNode 1 = .ok (.iconst 2, 1) := by decide +kernel
theorem dX1_unfoldNode_2 : decode cX1_unfoldNode 2 = .ok (.if_icmp .ge 11, 3) := by decide +kernel
theorem dX1_unfoldNode_5 : decode cX1_unfoldNode 5 = .ok (.aload_n 0, 1) := by decide +kernel
theorem dX1_unfoldNode_6 : decode cX1_unfoldNode 6 = .ok (.aload_n 1, 1) := by decide +kernel
theorem dX1_unfoldNode_7 : decode cX1_unfoldNode 7 = .ok (.lload_n 3, 1) := by decide +kernel
theorem dX1_unfoldNode_8 : decode cX1_unfoldNode 8 = .ok (.l2i, 1) := by decide +kernel
theorem dX1_unfoldNode_9 : decode cX1_unfoldNode 9 = .ok (.invokevirtual 59, 3) := by decide +kernel
theorem dX1_unfoldNode_12 : decode cX1_unfoldNode 12 = .ok (.return_, 1) := by decide +kernel
theorem dX1_unfoldNode_13 : decode cX1_unfoldNode 13 = .ok (.iload_n 2, 1) := by decide +kernel
theorem dX1_unfoldNode_14 : decode cX1_unfoldNode 14 = .ok (.iconst 1, 1) := by decide +kernel
theorem dX1_unfoldNode_15 : decode cX1_unfoldNode 15 = .ok (.isub, 1) := by decide +kernel
theorem dX1_unfoldNode_16 : decode cX1_unfoldNode 16 = .ok (.istore 5, 2) := by decide +kernel
theorem dX1_unfoldNode_18 : decode cX1_unfoldNode 18 = .ok (.lload_n 3, 1) := by decide +kernel
theorem dX1_unfoldNode_19 : decode cX1_unfoldNode 19 = .ok (.aload_n 0, 1) := by decide +kernel
theorem dX1_unfoldNode_20 : decode cX1_unfoldNode 20 = .ok (.iload 5, 2) := by decide +kernel
theorem dX1_unfoldNode_22 : decode cX1_unfoldNode 22 = .ok (.invokevirtual 63, 3) := by decide +kernel
theorem dX1_unfoldNode_25 : decode cX1_unfoldNode 25 = .ok (.lsub, 1) := by decide +kernel
theorem dX1_unfoldNode_26 : decode cX1_unfoldNode 26 = .ok (.lstore 6, 2) := by decide +kernel
theorem dX1_unfoldNode_28 : decode cX1_unfoldNode 28 = .ok (.lload 6, 2) := by decide +kernel
theorem dX1_unfoldNode_30 : decode cX1_unfoldNode 30 = .ok (.lconst 0, 1) := by decide +kernel
theorem dX1_unfoldNode_31 : decode cX1_unfoldNode 31 = .ok (.lcmp, 1) := by decide +kernel
theorem dX1_unfoldNode_32 : decode cX1_unfoldNode 32 = .ok (.ifCond .ge 17, 3) := by decide +kernel
theorem dX1_unfoldNode_35 : decode cX1_unfoldNode 35 = .ok (.aload_n 1, 1) := by decide +kernel
theorem dX1_unfoldNode_36 : decode cX1_unfoldNode 36 = .ok (.iconst 3, 1) := by decide +kernel
theorem dX1_unfoldNode_37 : decode cX1_unfoldNode 37 = .ok (.iconst 0, 1) := by decide +kernel
theorem dX1_unfoldNode_38 : decode cX1_unfoldNode 38 = .ok (.invokevirtual 67, 3) := by decide +kernel
theorem dX1_unfoldNode_41 : decode cX1_unfoldNode 41 = .ok (.aload_n 0, 1) := by decide +kernel
theorem dX1_unfoldNode_42 : decode cX1_unfoldNode 42 = .ok (.iload 5, 2) := by decide +kernel
theorem dX1_unfoldNode_44 : decode cX1_unfoldNode 44 = .ok (.lload_n 3, 1) := by decide +kernel
theorem dX1_unfoldNode_45 : decode cX1_unfoldNode 45 = .ok (.invokevirtual 48, 3) := by decide +kernel
theorem dX1_unfoldNode_48 : decode cX1_unfoldNode 48 = .ok (.return_, 1) := by decide +kernel
theorem dX1_unfoldNode_49 : decode cX1_unfoldNode 49 = .ok (.iload 5, 2) := by decide +kernel
theorem dX1_unfoldNode_51 : decode cX1_unfoldNode 51 = .ok (.bipush 15, 2) := by decide +kernel
theorem dX1_unfoldNode_53 : decode cX1_unfoldNode 53 = .ok (.if_icmp .gt 13, 3) := by decide +kernel
theorem dX1_unfoldNode_56 : decode cX1_unfoldNode 56 = .ok (.aload_n 0, 1) := by decide +kernel
theorem dX1_unfoldNode_57 : decode cX1_unfoldNode 57 = .ok (.getfield 15, 3) := by decide +kernel
theorem dX1_unfoldNode_60 : decode cX1_unfoldNode 60 = .ok (.iload 5, 2) := by decide +kernel
theorem dX1_unfoldNode_62 : decode cX1_unfoldNode 62 = .ok (.laload, 1) := by decide +kernel
theorem dX1_unfoldNode_63 : decode cX1_unfoldNode 63 = .ok (.goto 4, 3) := by decide +kernel
theorem dX1_unfoldNode_66 : decode cX1_unfoldNode 66 = .ok (.lconst 0, 1) := by decide +kernel
theorem dX1_unfoldNode_67 : decode cX1_unfoldNode 67 = .ok (.lstore 8, 2) := by decide +kernel
theorem dX1_unfoldNode_69 : decode cX1_unfoldNode 69 = .ok (.lload 8, 2) := by decide +kernel
theorem dX1_unfoldNode_71 : decode cX1_unfoldNode 71 = .ok (.lconst 0, 1) := by decide +kernel
theorem dX1_unfoldNode_72 : decode cX1_unfoldNode 72 = .ok (.lcmp, 1) := by decide +kernel
theorem dX1_unfoldNode_73 : decode cX1_unfoldNode 73 = .ok (.ifCond .le 40, 3) := by decide +kernel
theorem dX1_unfoldNode_76 : decode cX1_unfoldNode 76 = .ok (.lload 6, 2) := by decide +kernel
theorem dX1_unfoldNode_78 : decode cX1_unfoldNode 78 = .ok (.ldc2_w 37, 3) := by decide +kernel
theorem dX1_unfoldNode_81 : decode cX1_unfoldNode 81 = .ok (.lload 8, 2) := by decide +kernel
theorem dX1_unfoldNode_83 : decode cX1_unfoldNode 83 = .ok (.lmul, 1) := by decide +kernel
theorem dX1_unfoldNode_84 : decode cX1_unfoldNode 84 = .ok (.lcmp, 1) := by decide +kernel
theorem dX1_unfoldNode_85 : decode cX1_unfoldNode 85 = .ok (.ifCond .ge 28, 3) := by decide +kernel
theorem dX1_unfoldNode_88 : decode cX1_unfoldNode 88 = .ok (.aload_n 1, 1) := by decide +kernel
theorem dX1_unfoldNode_89 : decode cX1_unfoldNode 89 = .ok (.iconst 4, 1) := by decide +kernel
theorem dX1_unfoldNode_90 : decode cX1_unfoldNode 90 = .ok (.lload 6, 2) := by decide +kernel
theorem dX1_unfoldNode_92 : decode cX1_unfoldNode 92 = .ok (.lload 8, 2) := by decide +kernel
theorem dX1_unfoldNode_94 : decode cX1_unfoldNode 94 = .ok (.ldiv, 1) := by decide +kernel
theorem dX1_unfoldNode_95 : decode cX1_unfoldNode 95 = .ok (.l2i, 1) := by decide +kernel
theorem dX1_unfoldNode_96 : decode cX1_unfoldNode 96 = .ok (.iadd, 1) := by decide +kernel
theorem dX1_unfoldNode_97 : decode cX1_unfoldNode 97 = .ok (.iconst 0, 1) := by decide +kernel
theorem dX1_unfoldNode_98 : decode cX1_unfoldNode 98 = .ok (.invokevirtual 67, 3) := by decide +kernel
theorem dX1_unfoldNode_101 : decode cX1_unfoldNode 101 = .ok (.aload_n 0, 1) := by decide +kernel
theorem dX1_unfoldNode_102 : decode cX1_unfoldNode 102 = .ok (.iload 5, 2) := by decide +kernel
theorem dX1_unfoldNode_104 : decode cX1_unfoldNode 104 = .ok (.lload 6, 2) := by decide +kernel
theorem dX1_unfoldNode_106 : decode cX1_unfoldNode 106 = .ok (.lload 8, 2) := by decide +kernel
theorem dX1_unfoldNode_108 : decode cX1_unfoldNode 108 = .ok (.lrem, 1) := by decide +kernel
theorem dX1_unfoldNode_109 : decode cX1_unfoldNode 109 = .ok (.invokevirtual 71, 3) := by decide +kernel
theorem dX1_unfoldNode_112 : decode cX1_unfoldNode 112 = .ok (.return_, 1) := by decide +kernel
theorem dX1_unfoldNode_113 : decode cX1_unfoldNode 113 = .ok (.aload_n 1, 1) := by decide +kernel
theorem dX1_unfoldNode_114 : decode cX1_unfoldNode 114 = .ok (.bipush 8, 2) := by decide +kernel
theorem dX1_unfoldNode_116 : decode cX1_unfoldNode 116 = .ok (.iconst 0, 1) := by decide +kernel
theorem dX1_unfoldNode_117 : decode cX1_unfoldNode 117 = .ok (.invokevirtual 67, 3) := by decide +kernel
theorem dX1_unfoldNode_120 : decode cX1_unfoldNode 120 = .ok (.aload_n 0, 1) := by decide +kernel
theorem dX1_unfoldNode_121 : decode cX1_unfoldNode 121 = .ok (.iload 5, 2) := by decide +kernel
theorem dX1_unfoldNode_123 : decode cX1_unfoldNode 123 = .ok (.lload 6, 2) := by decide +kernel
theorem dX1_unfoldNode_125 : decode cX1_unfoldNode 125 = .ok (.ldc2_w 37, 3) := by decide +kernel
theorem dX1_unfoldNode_128 : decode cX1_unfoldNode 128 = .ok (.lload 8, 2) := by decide +kernel
theorem dX1_unfoldNode_130 : decode cX1_unfoldNode 130 = .ok (.lmul, 1) := by decide +kernel
theorem dX1_unfoldNode_131 : decode cX1_unfoldNode 131 = .ok (.lsub, 1) := by decide +kernel
theorem dX1_unfoldNode_132 : decode cX1_unfoldNode 132 = .ok (.invokevirtual 74, 3) := by decide +kernel
theorem dX1_unfoldNode_135 : decode cX1_unfoldNode 135 = .ok (.return_, 1) := by decide +kernel
theorem dX1_unfoldLeaf_0 : decode cX1_unfoldLeaf 0 = .ok (.iload_n 2, 1) := by decide +kernel
theorem dX1_unfoldLeaf_1 : decode cX1_unfoldLeaf 1 = .ok (.iconst 3, 1) := by decide +kernel
theorem dX1_unfoldLeaf_2 : decode cX1_unfoldLeaf 2 = .ok (.if_icmp .ge 12, 3) := by decide +kernel
theorem dX1_unfoldLeaf_5 : decode cX1_unfoldLeaf 5 = .ok (.aload_n 1, 1) := by decide +kernel
theorem dX1_unfoldLeaf_6 : decode cX1_unfoldLeaf 6 = .ok (.iconst 0, 1) := by decide +kernel
theorem dX1_unfoldLeaf_7 : decode cX1_unfoldLeaf 7 = .ok (.iload_n 2, 1) := by decide +kernel
theorem dX1_unfoldLeaf_8 : decode cX1_unfoldLeaf 8 = .ok (.invokevirtual 67, 3) := by decide +kernel
theorem dX1_unfoldLeaf_11 : decode cX1_unfoldLeaf 11 = .ok (.goto 18, 3) := by decide +kernel
theorem dX1_unfoldLeaf_14 : decode cX1_unfoldLeaf 14 = .ok (.aload_n 1, 1) := by decide +kernel
theorem dX1_unfoldLeaf_15 : decode cX1_unfoldLeaf 15 = .ok (.iload_n 2, 1) := by decide +kernel
theorem dX1_unfoldLeaf_16 : decode cX1_unfoldLeaf 16 = .ok (.iconst 3, 1) := by decide +kernel
theorem dX1_unfoldLeaf_17 : decode cX1_unfoldLeaf 17 = .ok (.if_icmp .ne 7, 3) := by decide +kernel
theorem dX1_unfoldLeaf_20 : decode cX1_unfoldLeaf 20 = .ok (.iconst 1, 1) := by decide +kernel
theorem dX1_unfoldLeaf_21 : decode cX1_unfoldLeaf 21 = .ok (.goto 4, 3) := by decide +kernel
theorem dX1_unfoldLeaf_24 : decode cX1_unfoldLeaf 24 = .ok (.iconst 2, 1) := by decide +kernel
theorem dX1_unfoldLeaf_25 : decode cX1_unfoldLeaf 25 = .ok (.iconst 0, 1) := by decide +kernel
theorem dX1_unfoldLeaf_26 : decode cX1_unfoldLeaf 26 = .ok (.invokevirtual 67, 3) := by decide +kernel
theorem dX1_unfoldLeaf_29 : decode cX1_unfoldLeaf 29 = .ok (.return_, 1) := by decide +kernel
theorem dX1_defer_0 : decode cX1_defer 0 = .ok (.aload_n 0, 1) := by decide +kernel
theorem dX1_defer_1 : decode cX1_defer 1 = .ok (.getfield 28, 3) := by decide +kernel
theorem dX1_defer_4 : decode cX1_defer 4 = .ok (.ifCond .lt 42, 3) := by decide +kernel
theorem dX1_defer_7 : decode cX1_defer 7 = .ok (.aload_n 0, 1) := by decide +kernel
theorem dX1_defer_8 : decode cX1_defer 8 = .ok (.getfield 28, 3) := by decide +kernel
theorem dX1_defer_11 : decode cX1_defer 11 = .ok (.bipush 15, 2) := by decide +kernel
theorem dX1_defer_13 : decode cX1_defer 13 = .ok (.if_icmp .gt 33, 3) := by decide +kernel
theorem dX1_defer_16 : decode cX1_defer 16 = .ok (.aload_n 0, 1) := by decide +kernel
theorem dX1_defer_17 : decode cX1_defer 17 = .ok (.getfield 21, 3) := by decide +kernel
theorem dX1_defer_20 : decode cX1_defer 20 = .ok (.aload_n 0, 1) := by decide +kernel
theorem dX1_defer_21 : decode cX1_defer 21 = .ok (.getfield 28, 3) := by decide +kernel
theorem dX1_defer_24 : decode cX1_defer 24 = .ok (.iload_n 1, 1) := by decide +kernel
theorem dX1_defer_25 : decode cX1_defer 25 = .ok (.iastore, 1) := by decide +kernel
theorem dX1_defer_26 : decode cX1_defer 26 = .ok (.aload_n 0, 1) := by decide +kernel
theorem dX1_defer_27 : decode cX1_defer 27 = .ok (.getfield 25, 3) := by decide +kernel
theorem dX1_defer_30 : decode cX1_defer 30 = .ok (.aload_n 0, 1) := by decide +kernel
theorem dX1_defer_31 : decode cX1_defer 31 = .ok (.getfield 28, 3) := by decide +kernel
theorem dX1_defer_34 : decode cX1_defer 34 = .ok (.lload_n 2, 1) := by decide +kernel
theorem dX1_defer_35 : decode cX1_defer 35 = .ok (.lastore, 1) := by decide +kernel
theorem dX1_defer_36 : decode cX1_defer 36 = .ok (.aload_n 0, 1) := by decide +kernel
theorem dX1_defer_37 : decode cX1_defer 37 = .ok (.dup, 1) := by decide +kernel
theorem dX1_defer_38 : decode cX1_defer 38 = .ok (.getfield 28, 3) := by decide +kernel
theorem dX1_defer_41 : decode cX1_defer 41 = .ok (.iconst 1, 1) := by decide +kernel
theorem dX1_defer_42 : decode cX1_defer 42 = .ok (.iadd, 1) := by decide +kernel
theorem dX1_defer_43 : decode cX1_defer 43 = .ok (.putfield 28, 3) := by decide +kernel
theorem dX1_defer_46 : decode cX1_defer 46 = .ok (.return_, 1) := by decide +kernel
theorem dX1_deferTwo_0 : decode cX1_deferTwo 0 = .ok (.lload_n 2, 1) := by decide +kernel
theorem dX1_deferTwo_1 : decode cX1_deferTwo 1 = .ok (.lstore 4, 2) := by decide +kernel
theorem dX1_deferTwo_3 : decode cX1_deferTwo 3 = .ok (.iconst 1, 1) := by decide +kernel
theorem dX1_deferTwo_4 : decode cX1_deferTwo 4 = .ok (.istore 6, 2) := by decide +kernel
theorem dX1_deferTwo_6 : decode cX1_deferTwo 6 = .ok (.iload 6, 2) := by decide +kernel
theorem dX1_deferTwo_8 : decode cX1_deferTwo 8 = .ok (.iload_n 1, 1) := by decide +kernel
theorem dX1_deferTwo_9 : decode cX1_deferTwo 9 = .ok (.if_icmp .ge 77, 3) := by decide +kernel
theorem dX1_deferTwo_12 : decode cX1_deferTwo 12 = .ok (.aload_n 0, 1) := by decide +kernel
theorem dX1_deferTwo_13 : decode cX1_deferTwo 13 = .ok (.iload_n 1, 1) := by decide +kernel
theorem dX1_deferTwo_14 : decode cX1_deferTwo 14 = .ok (.iload 6, 2) := by decide +kernel
theorem dX1_deferTwo_16 : decode cX1_deferTwo 16 = .ok (.isub, 1) := by decide +kernel
theorem dX1_deferTwo_17 : decode cX1_deferTwo 17 = .ok (.invokevirtual 63, 3) := by decide +kernel
theorem dX1_deferTwo_20 : decode cX1_deferTwo 20 = .ok (.lstore 7, 2) := by decide +kernel
theorem dX1_deferTwo_22 : decode cX1_deferTwo 22 = .ok (.aload_n 0, 1) := by decide +kernel
theorem dX1_deferTwo_23 : decode cX1_deferTwo 23 = .ok (.iload 6, 2) := by decide +kernel
theorem dX1_deferTwo_25 : decode cX1_deferTwo 25 = .ok (.invokevirtual 63, 3) := by decide +kernel
theorem dX1_deferTwo_28 : decode cX1_deferTwo 28 = .ok (.lload 7, 2) := by decide +kernel
theorem dX1_deferTwo_30 : decode cX1_deferTwo 30 = .ok (.lmul, 1) := by decide +kernel
theorem dX1_deferTwo_31 : decode cX1_deferTwo 31 = .ok (.lstore 9, 2) := by decide +kernel
theorem dX1_deferTwo_33 : decode cX1_deferTwo 33 = .ok (.lload 7, 2) := by decide +kernel
theorem dX1_deferTwo_35 : decode cX1_deferTwo 35 = .ok (.lconst 0, 1) := by decide +kernel
theorem dX1_deferTwo_36 : decode cX1_deferTwo 36 = .ok (.lcmp, 1) := by decide +kernel
theorem dX1_deferTwo_37 : decode cX1_deferTwo 37 = .ok (.ifCond .le 36, 3) := by decide +kernel
theorem dX1_deferTwo_40 : decode cX1_deferTwo 40 = .ok (.lload 4, 2) := by decide +kernel
theorem dX1_deferTwo_42 : decode cX1_deferTwo 42 = .ok (.lload 9, 2) := by decide +kernel
theorem dX1_deferTwo_44 : decode cX1_deferTwo 44 = .ok (.lcmp, 1) := by decide +kernel
theorem dX1_deferTwo_45 : decode cX1_deferTwo 45 = .ok (.ifCond .ge 28, 3) := by decide +kernel
theorem dX1_deferTwo_48 : decode cX1_deferTwo 48 = .ok (.aload_n 0, 1) := by decide +kernel
theorem dX1_deferTwo_49 : decode cX1_deferTwo 49 = .ok (.iload_n 1, 1) := by decide +kernel
theorem dX1_deferTwo_50 : decode cX1_deferTwo 50 = .ok (.iload 6, 2) := by decide +kernel
theorem dX1_deferTwo_52 : decode cX1_deferTwo 52 = .ok (.isub, 1) := by decide +kernel
theorem dX1_deferTwo_53 : decode cX1_deferTwo 53 = .ok (.lload 4, 2) := by decide +kernel
theorem dX1_deferTwo_55 : decode cX1_deferTwo 55 = .ok (.lload 7, 2) := by decide +kernel
theorem dX1_deferTwo_57 : decode cX1_deferTwo 57 = .ok (.lrem, 1) := by decide +kernel
theorem dX1_deferTwo_58 : decode cX1_deferTwo 58 = .ok (.invokevirtual 48, 3) := by decide +kernel
theorem dX1_deferTwo_61 : decode cX1_deferTwo 61 = .ok (.aload_n 0, 1) := by decide +kernel
theorem dX1_deferTwo_62 : decode cX1_deferTwo 62 = .ok (.iload 6, 2) := by decide +kernel
theorem dX1_deferTwo_64 : decode cX1_deferTwo 64 = .ok (.lload 4, 2) := by decide +kernel
theorem dX1_deferTwo_66 : decode cX1_deferTwo 66 = .ok (.lload 7, 2) := by decide +kernel
theorem dX1_deferTwo_68 : decode cX1_deferTwo 68 = .ok (.ldiv, 1) := by decide +kernel
theorem dX1_deferTwo_69 : decode cX1_deferTwo 69 = .ok (.invokevirtual 48, 3) := by decide +kernel
theorem dX1_deferTwo_72 : decode cX1_deferTwo 72 = .ok (.return_, 1) := by decide +kernel
theorem dX1_deferTwo_73 : decode cX1_deferTwo 73 = .ok (.lload 4, 2) := by decide +kernel
theorem dX1_deferTwo_75 : decode cX1_deferTwo 75 = .ok (.lload 9, 2) := by decide +kernel
theorem dX1_deferTwo_77 : decode cX1_deferTwo 77 = .ok (.lsub, 1) := by decide +kernel
theorem dX1_deferTwo_78 : decode cX1_deferTwo 78 = .ok (.lstore 4, 2) := by decide +kernel
theorem dX1_deferTwo_80 : decode cX1_deferTwo 80 = .ok (.iinc 6 1, 3) := by decide +kernel
theorem dX1_deferTwo_83 : decode cX1_deferTwo 83 = .ok (.goto (-77), 3) := by decide +kernel
theorem dX1_deferTwo_86 : decode cX1_deferTwo 86 = .ok (.return_, 1) := by decide +kernel
theorem dX1_deferThree_0 : decode cX1_deferThree 0 = .ok (.lload_n 2, 1) := by decide +kernel
theorem dX1_deferThree_1 : decode cX1_deferThree 1 = .ok (.lstore 4, 2) := by decide +kernel
theorem dX1_deferThree_3 : decode cX1_deferThree 3 = .ok (.iconst 1, 1) := by decide +kernel
theorem dX1_deferThree_4 : decode cX1_deferThree 4 = .ok (.istore 6, 2) := by decide +kernel
theorem dX1_deferThree_6 : decode cX1_deferThree 6 = .ok (.iload 6, 2) := by decide +kernel
theorem dX1_deferThree_8 : decode cX1_deferThree 8 = .ok (.iload_n 1, 1) := by decide +kernel
theorem dX1_deferThree_9 : decode cX1_deferThree 9 = .ok (.if_icmp .ge 84, 3) := by decide +kernel
theorem dX1_deferThree_12 : decode cX1_deferThree 12 = .ok (.iload_n 1, 1) := by decide +kernel
theorem dX1_deferThree_13 : decode cX1_deferThree 13 = .ok (.bipush 15, 2) := by decide +kernel
theorem dX1_deferThree_15 : decode cX1_deferThree 15 = .ok (.if_icmp .gt 78, 3) := by decide +kernel
theorem dX1_deferThree_18 : decode cX1_deferThree 18 = .ok (.aload_n 0, 1) := by decide +kernel
theorem dX1_deferThree_19 : decode cX1_deferThree 19 = .ok (.getfield 15, 3) := by decide +kernel
theorem dX1_deferThree_22 : decode cX1_deferThree 22 = .ok (.iload_n 1, 1) := by decide +kernel
theorem dX1_deferThree_23 : decode cX1_deferThree 23 = .ok (.iload 6, 2) := by decide +kernel
theorem dX1_deferThree_25 : decode cX1_deferThree 25 = .ok (.isub, 1) := by decide +kernel
theorem dX1_deferThree_26 : decode cX1_deferThree 26 = .ok (.laload, 1) := by decide +kernel
theorem dX1_deferThree_27 : decode cX1_deferThree 27 = .ok (.lstore 7, 2) := by decide +kernel
theorem dX1_deferThree_29 : decode cX1_deferThree 29 = .ok (.aload_n 0, 1) := by decide +kernel
theorem dX1_deferThree_30 : decode cX1_deferThree 30 = .ok (.iload 6, 2) := by decide +kernel
theorem dX1_deferThree_32 : decode cX1_deferThree 32 = .ok (.invokevirtual 63, 3) := by decide +kernel
theorem dX1_deferThree_35 : decode cX1_deferThree 35 = .ok (.lload 7, 2) := by decide +kernel
theorem dX1_deferThree_37 : decode cX1_deferThree 37 = .ok (.lmul, 1) := by decide +kernel
theorem dX1_deferThree_38 : decode cX1_deferThree 38 = .ok (.lstore 9, 2) := by decide +kernel
theorem dX1_deferThree_40 : decode cX1_deferThree 40 = .ok (.lload 7, 2) := by decide +kernel
theorem dX1_deferThree_42 : decode cX1_deferThree 42 = .ok (.lconst 0, 1) := by decide +kernel
theorem dX1_deferThree_43 : decode cX1_deferThree 43 = .ok (.lcmp, 1) := by decide +kernel
theorem dX1_deferThree_44 : decode cX1_deferThree 44 = .ok (.ifCond .le 36, 3) := by decide +kernel
theorem dX1_deferThree_47 : decode cX1_deferThree 47 = .ok (.lload 4, 2) := by decide +kernel
theorem dX1_deferThree_49 : decode cX1_deferThree 49 = .ok (.lload 9, 2) := by decide +kernel
theorem dX1_deferThree_51 : decode cX1_deferThree 51 = .ok (.lcmp, 1) := by decide +kernel
theorem dX1_deferThree_52 : decode cX1_deferThree 52 = .ok (.ifCond .ge 28, 3) := by decide +kernel
theorem dX1_deferThree_55 : decode cX1_deferThree 55 = .ok (.aload_n 0, 1) := by decide +kernel
theorem dX1_deferThree_56 : decode cX1_deferThree 56 = .ok (.iload_n 1, 1) := by decide +kernel
theorem dX1_deferThree_57 : decode cX1_deferThree 57 = .ok (.iload 6, 2) := by decide +kernel
theorem dX1_deferThree_59 : decode cX1_deferThree 59 = .ok (.isub, 1) := by decide +kernel
theorem dX1_deferThree_60 : decode cX1_deferThree 60 = .ok (.lload 4, 2) := by decide +kernel
theorem dX1_deferThree_62 : decode cX1_deferThree 62 = .ok (.lload 7, 2) := by decide +kernel
theorem dX1_deferThree_64 : decode cX1_deferThree 64 = .ok (.lrem, 1) := by decide +kernel
theorem dX1_deferThree_65 : decode cX1_deferThree 65 = .ok (.invokevirtual 71, 3) := by decide +kernel
theorem dX1_deferThree_68 : decode cX1_deferThree 68 = .ok (.aload_n 0, 1) := by decide +kernel
theorem dX1_deferThree_69 : decode cX1_deferThree 69 = .ok (.iload 6, 2) := by decide +kernel
theorem dX1_deferThree_71 : decode cX1_deferThree 71 = .ok (.lload 4, 2) := by decide +kernel
theorem dX1_deferThree_73 : decode cX1_deferThree 73 = .ok (.lload 7, 2) := by decide +kernel
theorem dX1_deferThree_75 : decode cX1_deferThree 75 = .ok (.ldiv, 1) := by decide +kernel
theorem dX1_deferThree_76 : decode cX1_deferThree 76 = .ok (.invokevirtual 48, 3) := by decide +kernel
theorem dX1_deferThree_79 : decode cX1_deferThree 79 = .ok (.return_, 1) := by decide +kernel
theorem dX1_deferThree_80 : decode cX1_deferThree 80 = .ok (.lload 4, 2) := by decide +kernel
theorem dX1_deferThree_82 : decode cX1_deferThree 82 = .ok (.lload 9, 2) := by decide +kernel
theorem dX1_deferThree_84 : decode cX1_deferThree 84 = .ok (.lsub, 1) := by decide +kernel
theorem dX1_deferThree_85 : decode cX1_deferThree 85 = .ok (.lstore 4, 2) := by decide +kernel
theorem dX1_deferThree_87 : decode cX1_deferThree 87 = .ok (.iinc 6 1, 3) := by decide +kernel
theorem dX1_deferThree_90 : decode cX1_deferThree 90 = .ok (.goto (-84), 3) := by decide +kernel
theorem dX1_deferThree_93 : decode cX1_deferThree 93 = .ok (.return_, 1) := by decide +kernel
theorem dX1_isNumbered_0 : decode cX1_isNumbered 0 = .ok (.aload_n 1, 1) := by decide +kernel
theorem dX1_isNumbered_1 : decode cX1_isNumbered 1 = .ok (.getfield 77, 3) := by decide +kernel
theorem dX1_isNumbered_4 : decode cX1_isNumbered 4 = .ok (.bipush 15, 2) := by decide +kernel
theorem dX1_isNumbered_6 : decode cX1_isNumbered 6 = .ok (.if_icmp .le 5, 3) := by decide +kernel
theorem dX1_isNumbered_9 : decode cX1_isNumbered 9 = .ok (.iconst 0, 1) := by decide +kernel
theorem dX1_isNumbered_10 : decode cX1_isNumbered 10 = .ok (.ireturn, 1) := by decide +kernel
theorem dX1_isNumbered_11 : decode cX1_isNumbered 11 = .ok (.iconst 0, 1) := by decide +kernel
theorem dX1_isNumbered_12 : decode cX1_isNumbered 12 = .ok (.istore_n 2, 1) := by decide +kernel
theorem dX1_isNumbered_13 : decode cX1_isNumbered 13 = .ok (.iload_n 2, 1) := by decide +kernel
theorem dX1_isNumbered_14 : decode cX1_isNumbered 14 = .ok (.aload_n 1, 1) := by decide +kernel
theorem dX1_isNumbered_15 : decode cX1_isNumbered 15 = .ok (.getfield 77, 3) := by decide +kernel
theorem dX1_isNumbered_18 : decode cX1_isNumbered 18 = .ok (.if_icmp .ge 32, 3) := by decide +kernel
theorem dX1_isNumbered_21 : decode cX1_isNumbered 21 = .ok (.aload_n 1, 1) := by decide +kernel
theorem dX1_isNumbered_22 : decode cX1_isNumbered 22 = .ok (.iload_n 2, 1) := by decide +kernel
theorem dX1_isNumbered_23 : decode cX1_isNumbered 23 = .ok (.invokevirtual 80, 3) := by decide +kernel
theorem dX1_isNumbered_26 : decode cX1_isNumbered 26 = .ok (.ifCond .ne 18, 3) := by decide +kernel
theorem dX1_isNumbered_29 : decode cX1_isNumbered 29 = .ok (.aload_n 1, 1) := by decide +kernel
theorem dX1_isNumbered_30 : decode cX1_isNumbered 30 = .ok (.iload_n 2, 1) := by decide +kernel
theorem dX1_isNumbered_31 : decode cX1_isNumbered 31 = .ok (.invokevirtual 84, 3) := by decide +kernel
theorem dX1_isNumbered_34 : decode cX1_isNumbered 34 = .ok (.iconst 0, 1) := by decide +kernel
theorem dX1_isNumbered_35 : decode cX1_isNumbered 35 = .ok (.iconst 2, 1) := by decide +kernel
theorem dX1_isNumbered_36 : decode cX1_isNumbered 36 = .ok (.invokestatic 39, 3) := by decide +kernel
theorem dX1_isNumbered_39 : decode cX1_isNumbered 39 = .ok (.ifCond .ne 5, 3) := by decide +kernel
theorem dX1_isNumbered_42 : decode cX1_isNumbered 42 = .ok (.iconst 0, 1) := by decide +kernel
theorem dX1_isNumbered_43 : decode cX1_isNumbered 43 = .ok (.ireturn, 1) := by decide +kernel
theorem dX1_isNumbered_44 : decode cX1_isNumbered 44 = .ok (.iinc 2 1, 3) := by decide +kernel
theorem dX1_isNumbered_47 : decode cX1_isNumbered 47 = .ok (.goto (-34), 3) := by decide +kernel
theorem dX1_isNumbered_50 : decode cX1_isNumbered 50 = .ok (.iconst 1, 1) := by decide +kernel
theorem dX1_isNumbered_51 : decode cX1_isNumbered 51 = .ok (.ireturn, 1) := by decide +kernel
theorem dX1_rank_0 : decode cX1_rank 0 = .ok (.aload_n 1, 1) := by decide +kernel
theorem dX1_rank_1 : decode cX1_rank 1 = .ok (.getfield 77, 3) := by decide +kernel
theorem dX1_rank_4 : decode cX1_rank 4 = .ok (.bipush 15, 2) := by decide +kernel
theorem dX1_rank_6 : decode cX1_rank 6 = .ok (.invokestatic 87, 3) := by decide +kernel
theorem dX1_rank_9 : decode cX1_rank 9 = .ok (.iconst 1, 1) := by decide +kernel
theorem dX1_rank_10 : decode cX1_rank 10 = .ok (.isub, 1) := by decide +kernel
theorem dX1_rank_11 : decode cX1_rank 11 = .ok (.istore_n 2, 1) := by decide +kernel
theorem dX1_rank_12 : decode cX1_rank 12 = .ok (.iload_n 2, 1) := by decide +kernel
theorem dX1_rank_13 : decode cX1_rank 13 = .ok (.ifCond .lt 21, 3) := by decide +kernel
theorem dX1_rank_16 : decode cX1_rank 16 = .ok (.aload_n 0, 1) := by decide +kernel
theorem dX1_rank_17 : decode cX1_rank 17 = .ok (.getfield 32, 3) := by decide +kernel
theorem dX1_rank_20 : decode cX1_rank 20 = .ok (.iload_n 2, 1) := by decide +kernel
theorem dX1_rank_21 : decode cX1_rank 21 = .ok (.aload_n 0, 1) := by decide +kernel
theorem dX1_rank_22 : decode cX1_rank 22 = .ok (.aload_n 1, 1) := by decide +kernel
theorem dX1_rank_23 : decode cX1_rank 23 = .ok (.iload_n 2, 1) := by decide +kernel
theorem dX1_rank_24 : decode cX1_rank 24 = .ok (.invokevirtual 93, 3) := by decide +kernel
theorem dX1_rank_27 : decode cX1_rank 27 = .ok (.lastore, 1) := by decide +kernel
theorem dX1_rank_28 : decode cX1_rank 28 = .ok (.iinc 2 (-1), 3) := by decide +kernel
theorem dX1_rank_31 : decode cX1_rank 31 = .ok (.goto (-19), 3) := by decide +kernel
theorem dX1_rank_34 : decode cX1_rank 34 = .ok (.aload_n 0, 1) := by decide +kernel
theorem dX1_rank_35 : decode cX1_rank 35 = .ok (.getfield 32, 3) := by decide +kernel
theorem dX1_rank_38 : decode cX1_rank 38 = .ok (.iconst 0, 1) := by decide +kernel
theorem dX1_rank_39 : decode cX1_rank 39 = .ok (.laload, 1) := by decide +kernel
theorem dX1_rank_40 : decode cX1_rank 40 = .ok (.lreturn, 1) := by decide +kernel
theorem dX1_rankOfNode_0 : decode cX1_rankOfNode 0 = .ok (.aload_n 1, 1) := by decide +kernel
theorem dX1_rankOfNode_1 : decode cX1_rankOfNode 1 = .ok (.iload_n 2, 1) := by decide +kernel
theorem dX1_rankOfNode_2 : decode cX1_rankOfNode 2 = .ok (.invokevirtual 80, 3) := by decide +kernel
theorem dX1_rankOfNode_5 : decode cX1_rankOfNode 5 = .ok (.istore_n 3, 1) := by decide +kernel
theorem dX1_rankOfNode_6 : decode cX1_rankOfNode 6 = .ok (.aload_n 1, 1) := by decide +kernel
theorem dX1_rankOfNode_7 : decode cX1_rankOfNode 7 = .ok (.iload_n 2, 1) := by decide +kernel
theorem dX1_rankOfNode_8 : decode cX1_rankOfNode 8 = .ok (.invokevirtual 97, 3) := by decide +kernel
theorem dX1_rankOfNode_11 : decode cX1_rankOfNode 11 = .ok (.iconst 1, 1) := by decide +kernel
theorem dX1_rankOfNode_12 : decode cX1_rankOfNode 12 = .ok (.isub, 1) := by decide +kernel
theorem dX1_rankOfNode_13 : decode cX1_rankOfNode 13 = .ok (.istore 4, 2) := by decide +kernel
theorem dX1_rankOfNode_15 : decode cX1_rankOfNode 15 = .ok (.iload_n 3, 1) := by decide +kernel
theorem dX1_rankOfNode_16 : decode cX1_rankOfNode 16 = .ok (.ifCond .ne 10, 3) := by decide +kernel
theorem dX1_rankOfNode_19 : decode cX1_rankOfNode 19 = .ok (.aload_n 1, 1) := by decide +kernel
theorem dX1_rankOfNode_20 : decode cX1_rankOfNode 20 = .ok (.iload_n 2, 1) := by decide +kernel
theorem dX1_rankOfNode_21 : decode cX1_rankOfNode 21 = .ok (.invokevirtual 84, 3) := by decide +kernel
theorem dX1_rankOfNode_24 : decode cX1_rankOfNode 24 = .ok (.i2l, 1) := by decide +kernel
theorem dX1_rankOfNode_25 : decode cX1_rankOfNode 25 = .ok (.lreturn, 1) := by decide +kernel
theorem dX1_rankOfNode_26 : decode cX1_rankOfNode 26 = .ok (.iload_n 3, 1) := by decide +kernel
theorem dX1_rankOfNode_27 : decode cX1_rankOfNode 27 = .ok (.iconst 1, 1) := by decide +kernel
theorem dX1_rankOfNode_28 : decode cX1_rankOfNode 28 = .ok (.if_icmp .eq 8, 3) := by decide +kernel
theorem dX1_rankOfNode_31 : decode cX1_rankOfNode 31 = .ok (.iload_n 3, 1) := by decide +kernel
theorem dX1_rankOfNode_32 : decode cX1_rankOfNode 32 = .ok (.iconst 2, 1) := by decide +kernel
theorem dX1_rankOfNode_33 : decode cX1_rankOfNode 33 = .ok (.if_icmp .ne 10, 3) := by decide +kernel
theorem dX1_rankOfNode_36 : decode cX1_rankOfNode 36 = .ok (.iconst 3, 1) := by decide +kernel
theorem dX1_rankOfNode_37 : decode cX1_rankOfNode 37 = .ok (.iload_n 3, 1) := by decide +kernel
theorem dX1_rankOfNode_38 : decode cX1_rankOfNode 38 = .ok (.iadd, 1) := by decide +kernel
theorem dX1_rankOfNode_39 : decode cX1_rankOfNode 39 = .ok (.iconst 1, 1) := by decide +kernel
theorem dX1_rankOfNode_40 : decode cX1_rankOfNode 40 = .ok (.isub, 1) := by decide +kernel
theorem dX1_rankOfNode_41 : decode cX1_rankOfNode 41 = .ok (.i2l, 1) := by decide +kernel
theorem dX1_rankOfNode_42 : decode cX1_rankOfNode 42 = .ok (.lreturn, 1) := by decide +kernel
theorem dX1_rankOfNode_43 : decode cX1_rankOfNode 43 = .ok (.iload_n 3, 1) := by decide +kernel
theorem dX1_rankOfNode_44 : decode cX1_rankOfNode 44 = .ok (.iconst 3, 1) := by decide +kernel
theorem dX1_rankOfNode_45 : decode cX1_rankOfNode 45 = .ok (.if_icmp .ne 11, 3) := by decide +kernel
theorem dX1_rankOfNode_48 : decode cX1_rankOfNode 48 = .ok (.aload_n 0, 1) := by decide +kernel
theorem dX1_rankOfNode_49 : decode cX1_rankOfNode 49 = .ok (.iload_n 2, 1) := by decide +kernel
theorem dX1_rankOfNode_50 : decode cX1_rankOfNode 50 = .ok (.iconst 1, 1) := by decide +kernel
theorem dX1_rankOfNode_51 : decode cX1_rankOfNode 51 = .ok (.iadd, 1) := by decide +kernel
theorem dX1_rankOfNode_52 : decode cX1_rankOfNode 52 = .ok (.invokevirtual 100, 3) := by decide +kernel
theorem dX1_rankOfNode_55 : decode cX1_rankOfNode 55 = .ok (.lreturn, 1) := by decide +kernel
theorem dX1_rankOfNode_56 : decode cX1_rankOfNode 56 = .ok (.iload 4, 2) := by decide +kernel
theorem dX1_rankOfNode_58 : decode cX1_rankOfNode 58 = .ok (.iconst 0, 1) := by decide +kernel
theorem dX1_rankOfNode_59 : decode cX1_rankOfNode 59 = .ok (.bipush 15, 2) := by decide +kernel
theorem dX1_rankOfNode_61 : decode cX1_rankOfNode 61 = .ok (.invokestatic 39, 3) := by decide +kernel
theorem dX1_rankOfNode_64 : decode cX1_rankOfNode 64 = .ok (.ifCond .eq 13, 3) := by decide +kernel
theorem dX1_rankOfNode_67 : decode cX1_rankOfNode 67 = .ok (.aload_n 0, 1) := by decide +kernel
theorem dX1_rankOfNode_68 : decode cX1_rankOfNode 68 = .ok (.getfield 15, 3) := by decide +kernel
theorem dX1_rankOfNode_71 : decode cX1_rankOfNode 71 = .ok (.iload 4, 2) := by decide +kernel
theorem dX1_rankOfNode_73 : decode cX1_rankOfNode 73 = .ok (.laload, 1) := by decide +kernel
theorem dX1_rankOfNode_74 : decode cX1_rankOfNode 74 = .ok (.goto 4, 3) := by decide +kernel
theorem dX1_rankOfNode_77 : decode cX1_rankOfNode 77 = .ok (.lconst 0, 1) := by decide +kernel
theorem dX1_rankOfNode_78 : decode cX1_rankOfNode 78 = .ok (.lstore 5, 2) := by decide +kernel
theorem dX1_rankOfNode_80 : decode cX1_rankOfNode 80 = .ok (.iload_n 3, 1) := by decide +kernel
theorem dX1_rankOfNode_81 : decode cX1_rankOfNode 81 = .ok (.bipush 8, 2) := by decide +kernel
theorem dX1_rankOfNode_83 : decode cX1_rankOfNode 83 = .ok (.if_icmp .ne 28, 3) := by decide +kernel
theorem dX1_rankOfNode_86 : decode cX1_rankOfNode 86 = .ok (.aload_n 0, 1) := by decide +kernel
theorem dX1_rankOfNode_87 : decode cX1_rankOfNode 87 = .ok (.iload 4, 2) := by decide +kernel
theorem dX1_rankOfNode_89 : decode cX1_rankOfNode 89 = .ok (.invokevirtual 63, 3) := by decide +kernel
theorem dX1_rankOfNode_92 : decode cX1_rankOfNode 92 = .ok (.ldc2_w 37, 3) := by decide +kernel
theorem dX1_rankOfNode_95 : decode cX1_rankOfNode 95 = .ok (.lload 5, 2) := by decide +kernel
theorem dX1_rankOfNode_97 : decode cX1_rankOfNode 97 = .ok (.lmul, 1) := by decide +kernel
theorem dX1_rankOfNode_98 : decode cX1_rankOfNode 98 = .ok (.ladd, 1) := by decide +kernel
theorem dX1_rankOfNode_99 : decode cX1_rankOfNode 99 = .ok (.aload_n 0, 1) := by decide +kernel
theorem dX1_rankOfNode_100 : decode cX1_rankOfNode 100 = .ok (.aload_n 1, 1) := by decide +kernel
theorem dX1_rankOfNode_101 : decode cX1_rankOfNode 101 = .ok (.iload_n 2, 1) := by decide +kernel
theorem dX1_rankOfNode_102 : decode cX1_rankOfNode 102 = .ok (.iconst 1, 1) := by decide +kernel
theorem dX1_rankOfNode_103 : decode cX1_rankOfNode 103 = .ok (.iadd, 1) := by decide +kernel
theorem dX1_rankOfNode_104 : decode cX1_rankOfNode 104 = .ok (.iload 4, 2) := by decide +kernel
theorem dX1_rankOfNode_106 : decode cX1_rankOfNode 106 = .ok (.invokevirtual 103, 3) := by decide +kernel
theorem dX1_rankOfNode_109 : decode cX1_rankOfNode 109 = .ok (.ladd, 1) := by decide +kernel
theorem dX1_rankOfNode_110 : decode cX1_rankOfNode 110 = .ok (.lreturn, 1) := by decide +kernel
theorem dX1_rankOfNode_111 : decode cX1_rankOfNode 111 = .ok (.aload_n 0, 1) := by decide +kernel
theorem dX1_rankOfNode_112 : decode cX1_rankOfNode 112 = .ok (.iload 4, 2) := by decide +kernel
theorem dX1_rankOfNode_114 : decode cX1_rankOfNode 114 = .ok (.invokevirtual 63, 3) := by decide +kernel
theorem dX1_rankOfNode_117 : decode cX1_rankOfNode 117 = .ok (.iload_n 3, 1) := by decide +kernel
theorem dX1_rankOfNode_118 : decode cX1_rankOfNode 118 = .ok (.iconst 4, 1) := by decide +kernel
theorem dX1_rankOfNode_119 : decode cX1_rankOfNode 119 = .ok (.isub, 1) := by decide +kernel
theorem dX1_rankOfNode_120 : decode cX1_rankOfNode 120 = .ok (.i2l, 1) := by decide +kernel
theorem dX1_rankOfNode_121 : decode cX1_rankOfNode 121 = .ok (.lload 5, 2) := by decide +kernel
theorem dX1_rankOfNode_123 : decode cX1_rankOfNode 123 = .ok (.lmul, 1) := by decide +kernel
theorem dX1_rankOfNode_124 : decode cX1_rankOfNode 124 = .ok (.ladd, 1) := by decide +kernel
theorem dX1_rankOfNode_125 : decode cX1_rankOfNode 125 = .ok (.aload_n 0, 1) := by decide +kernel
theorem dX1_rankOfNode_126 : decode cX1_rankOfNode 126 = .ok (.aload_n 1, 1) := by decide +kernel
theorem dX1_rankOfNode_127 : decode cX1_rankOfNode 127 = .ok (.iload_n 2, 1) := by decide +kernel
theorem dX1_rankOfNode_128 : decode cX1_rankOfNode 128 = .ok (.iconst 1, 1) := by decide +kernel
theorem dX1_rankOfNode_129 : decode cX1_rankOfNode 129 = .ok (.iadd, 1) := by decide +kernel
theorem dX1_rankOfNode_130 : decode cX1_rankOfNode 130 = .ok (.invokevirtual 107, 3) := by decide +kernel
theorem dX1_rankOfNode_133 : decode cX1_rankOfNode 133 = .ok (.ladd, 1) := by decide +kernel
theorem dX1_rankOfNode_134 : decode cX1_rankOfNode 134 = .ok (.lreturn, 1) := by decide +kernel
theorem dX1_rankAt_0 : decode cX1_rankAt 0 = .ok (.iload_n 1, 1) := by decide +kernel
theorem dX1_rankAt_1 : decode cX1_rankAt 1 = .ok (.iconst 0, 1) := by decide +kernel
theorem dX1_rankAt_2 : decode cX1_rankAt 2 = .ok (.bipush 15, 2) := by decide +kernel
theorem dX1_rankAt_4 : decode cX1_rankAt 4 = .ok (.invokestatic 39, 3) := by decide +kernel
theorem dX1_rankAt_7 : decode cX1_rankAt 7 = .ok (.ifCond .eq 12, 3) := by decide +kernel
theorem dX1_rankAt_10 : decode cX1_rankAt 10 = .ok (.aload_n 0, 1) := by decide +kernel
theorem dX1_rankAt_11 : decode cX1_rankAt 11 = .ok (.getfield 32, 3) := by decide +kernel
theorem dX1_rankAt_14 : decode cX1_rankAt 14 = .ok (.iload_n 1, 1) := by decide +kernel
theorem dX1_rankAt_15 : decode cX1_rankAt 15 = .ok (.laload, 1) := by decide +kernel
theorem dX1_rankAt_16 : decode cX1_rankAt 16 = .ok (.goto 4, 3) := by decide +kernel
theorem dX1_rankAt_19 : decode cX1_rankAt 19 = .ok (.lconst 0, 1) := by decide +kernel
theorem dX1_rankAt_20 : decode cX1_rankAt 20 = .ok (.lreturn, 1) := by decide +kernel
theorem dX1_rankOfTwo_0 : decode cX1_rankOfTwo 0 = .ok (.aload_n 1, 1) := by decide +kernel
theorem dX1_rankOfTwo_1 : decode cX1_rankOfTwo 1 = .ok (.iload_n 2, 1) := by decide +kernel
theorem dX1_rankOfTwo_2 : decode cX1_rankOfTwo 2 = .ok (.invokevirtual 110, 3) := by decide +kernel
theorem dX1_rankOfTwo_5 : decode cX1_rankOfTwo 5 = .ok (.istore_n 3, 1) := by decide +kernel
theorem dX1_rankOfTwo_6 : decode cX1_rankOfTwo 6 = .ok (.aload_n 1, 1) := by decide +kernel
theorem dX1_rankOfTwo_7 : decode cX1_rankOfTwo 7 = .ok (.iload_n 2, 1) := by decide +kernel
theorem dX1_rankOfTwo_8 : decode cX1_rankOfTwo 8 = .ok (.invokevirtual 97, 3) := by decide +kernel
theorem dX1_rankOfTwo_11 : decode cX1_rankOfTwo 11 = .ok (.istore 4, 2) := by decide +kernel
theorem dX1_rankOfTwo_13 : decode cX1_rankOfTwo 13 = .ok (.iload 4, 2) := by decide +kernel
theorem dX1_rankOfTwo_15 : decode cX1_rankOfTwo 15 = .ok (.aload_n 1, 1) := by decide +kernel
theorem dX1_rankOfTwo_16 : decode cX1_rankOfTwo 16 = .ok (.iload_n 3, 1) := by decide +kernel
theorem dX1_rankOfTwo_17 : decode cX1_rankOfTwo 17 = .ok (.invokevirtual 97, 3) := by decide +kernel
theorem dX1_rankOfTwo_20 : decode cX1_rankOfTwo 20 = .ok (.iadd, 1) := by decide +kernel
theorem dX1_rankOfTwo_21 : decode cX1_rankOfTwo 21 = .ok (.istore 5, 2) := by decide +kernel
theorem dX1_rankOfTwo_23 : decode cX1_rankOfTwo 23 = .ok (.aload_n 0, 1) := by decide +kernel
theorem dX1_rankOfTwo_24 : decode cX1_rankOfTwo 24 = .ok (.iload_n 2, 1) := by decide +kernel
theorem dX1_rankOfTwo_25 : decode cX1_rankOfTwo 25 = .ok (.invokevirtual 100, 3) := by decide +kernel
theorem dX1_rankOfTwo_28 : decode cX1_rankOfTwo 28 = .ok (.aload_n 0, 1) := by decide +kernel
theorem dX1_rankOfTwo_29 : decode cX1_rankOfTwo 29 = .ok (.iload 5, 2) := by decide +kernel
theorem dX1_rankOfTwo_31 : decode cX1_rankOfTwo 31 = .ok (.iload 4, 2) := by decide +kernel
theorem dX1_rankOfTwo_33 : decode cX1_rankOfTwo 33 = .ok (.isub, 1) := by decide +kernel
theorem dX1_rankOfTwo_34 : decode cX1_rankOfTwo 34 = .ok (.invokevirtual 63, 3) := by decide +kernel
theorem dX1_rankOfTwo_37 : decode cX1_rankOfTwo 37 = .ok (.lmul, 1) := by decide +kernel
theorem dX1_rankOfTwo_38 : decode cX1_rankOfTwo 38 = .ok (.aload_n 0, 1) := by decide +kernel
theorem dX1_rankOfTwo_39 : decode cX1_rankOfTwo 39 = .ok (.iload_n 3, 1) := by decide +kernel
theorem dX1_rankOfTwo_40 : decode cX1_rankOfTwo 40 = .ok (.invokevirtual 100, 3) := by decide +kernel
theorem dX1_rankOfTwo_43 : decode cX1_rankOfTwo 43 = .ok (.ladd, 1) := by decide +kernel
theorem dX1_rankOfTwo_44 : decode cX1_rankOfTwo 44 = .ok (.lstore 6, 2) := by decide +kernel
theorem dX1_rankOfTwo_46 : decode cX1_rankOfTwo 46 = .ok (.iconst 1, 1) := by decide +kernel
theorem dX1_rankOfTwo_47 : decode cX1_rankOfTwo 47 = .ok (.istore 8, 2) := by decide +kernel
theorem dX1_rankOfTwo_49 : decode cX1_rankOfTwo 49 = .ok (.iload 8, 2) := by decide +kernel
theorem dX1_rankOfTwo_51 : decode cX1_rankOfTwo 51 = .ok (.iload 4, 2) := by decide +kernel
theorem dX1_rankOfTwo_53 : decode cX1_rankOfTwo 53 = .ok (.if_icmp .ge 30, 3) := by decide +kernel
theorem dX1_rankOfTwo_56 : decode cX1_rankOfTwo 56 = .ok (.lload 6, 2) := by decide +kernel
theorem dX1_rankOfTwo_58 : decode cX1_rankOfTwo 58 = .ok (.aload_n 0, 1) := by decide +kernel
theorem dX1_rankOfTwo_59 : decode cX1_rankOfTwo 59 = .ok (.iload 8, 2) := by decide +kernel
theorem dX1_rankOfTwo_61 : decode cX1_rankOfTwo 61 = .ok (.invokevirtual 63, 3) := by decide +kernel
theorem dX1_rankOfTwo_64 : decode cX1_rankOfTwo 64 = .ok (.aload_n 0, 1) := by decide +kernel
theorem dX1_rankOfTwo_65 : decode cX1_rankOfTwo 65 = .ok (.iload 5, 2) := by decide +kernel
theorem dX1_rankOfTwo_67 : decode cX1_rankOfTwo 67 = .ok (.iload 8, 2) := by decide +kernel
theorem dX1_rankOfTwo_69 : decode cX1_rankOfTwo 69 = .ok (.isub, 1) := by decide +kernel
theorem dX1_rankOfTwo_70 : decode cX1_rankOfTwo 70 = .ok (.invokevirtual 63, 3) := by decide +kernel
theorem dX1_rankOfTwo_73 : decode cX1_rankOfTwo 73 = .ok (.lmul, 1) := by decide +kernel
theorem dX1_rankOfTwo_74 : decode cX1_rankOfTwo 74 = .ok (.ladd, 1) := by decide +kernel
theorem dX1_rankOfTwo_75 : decode cX1_rankOfTwo 75 = .ok (.lstore 6, 2) := by decide +kernel
theorem dX1_rankOfTwo_77 : decode cX1_rankOfTwo 77 = .ok (.iinc 8 1, 3) := by decide +kernel
theorem dX1_rankOfTwo_80 : decode cX1_rankOfTwo 80 = .ok (.goto (-31), 3) := by decide +kernel
theorem dX1_rankOfTwo_83 : decode cX1_rankOfTwo 83 = .ok (.lload 6, 2) := by decide +kernel
theorem dX1_rankOfTwo_85 : decode cX1_rankOfTwo 85 = .ok (.lreturn, 1) := by decide +kernel
theorem dX1_rankOfThree_0 : decode cX1_rankOfThree 0 = .ok (.aload_n 1, 1) := by decide +kernel
theorem dX1_rankOfThree_1 : decode cX1_rankOfThree 1 = .ok (.iload_n 2, 1) := by decide +kernel
theorem dX1_rankOfThree_2 : decode cX1_rankOfThree 2 = .ok (.invokevirtual 97, 3) := by decide +kernel
theorem dX1_rankOfThree_5 : decode cX1_rankOfThree 5 = .ok (.istore 4, 2) := by decide +kernel
theorem dX1_rankOfThree_7 : decode cX1_rankOfThree 7 = .ok (.aload_n 0, 1) := by decide +kernel
theorem dX1_rankOfThree_8 : decode cX1_rankOfThree 8 = .ok (.aload_n 1, 1) := by decide +kernel
theorem dX1_rankOfThree_9 : decode cX1_rankOfThree 9 = .ok (.aload_n 1, 1) := by decide +kernel
theorem dX1_rankOfThree_10 : decode cX1_rankOfThree 10 = .ok (.iload_n 2, 1) := by decide +kernel
theorem dX1_rankOfThree_11 : decode cX1_rankOfThree 11 = .ok (.invokevirtual 110, 3) := by decide +kernel
theorem dX1_rankOfThree_14 : decode cX1_rankOfThree 14 = .ok (.invokevirtual 107, 3) := by decide +kernel
theorem dX1_rankOfThree_17 : decode cX1_rankOfThree 17 = .ok (.lstore 5, 2) := by decide +kernel
theorem dX1_rankOfThree_19 : decode cX1_rankOfThree 19 = .ok (.iconst 1, 1) := by decide +kernel
theorem dX1_rankOfThree_20 : decode cX1_rankOfThree 20 = .ok (.istore 7, 2) := by decide +kernel
theorem dX1_rankOfThree_22 : decode cX1_rankOfThree 22 = .ok (.iload 7, 2) := by decide +kernel
theorem dX1_rankOfThree_24 : decode cX1_rankOfThree 24 = .ok (.iload 4, 2) := by decide +kernel
theorem dX1_rankOfThree_26 : decode cX1_rankOfThree 26 = .ok (.if_icmp .gt 57, 3) := by decide +kernel
theorem dX1_rankOfThree_29 : decode cX1_rankOfThree 29 = .ok (.iload 7, 2) := by decide +kernel
theorem dX1_rankOfThree_31 : decode cX1_rankOfThree 31 = .ok (.iload_n 3, 1) := by decide +kernel
theorem dX1_rankOfThree_32 : decode cX1_rankOfThree 32 = .ok (.if_icmp .gt 51, 3) := by decide +kernel
theorem dX1_rankOfThree_35 : decode cX1_rankOfThree 35 = .ok (.iload_n 3, 1) := by decide +kernel
theorem dX1_rankOfThree_36 : decode cX1_rankOfThree 36 = .ok (.bipush 15, 2) := by decide +kernel
theorem dX1_rankOfThree_38 : decode cX1_rankOfThree 38 = .ok (.if_icmp .gt 45, 3) := by decide +kernel
theorem dX1_rankOfThree_41 : decode cX1_rankOfThree 41 = .ok (.lload 5, 2) := by decide +kernel
theorem dX1_rankOfThree_43 : decode cX1_rankOfThree 43 = .ok (.iload 7, 2) := by decide +kernel
theorem dX1_rankOfThree_45 : decode cX1_rankOfThree 45 = .ok (.iload 4, 2) := by decide +kernel
theorem dX1_rankOfThree_47 : decode cX1_rankOfThree 47 = .ok (.if_icmp .ge 12, 3) := by decide +kernel
theorem dX1_rankOfThree_50 : decode cX1_rankOfThree 50 = .ok (.aload_n 0, 1) := by decide +kernel
theorem dX1_rankOfThree_51 : decode cX1_rankOfThree 51 = .ok (.iload 7, 2) := by decide +kernel
theorem dX1_rankOfThree_53 : decode cX1_rankOfThree 53 = .ok (.invokevirtual 63, 3) := by decide +kernel
theorem dX1_rankOfThree_56 : decode cX1_rankOfThree 56 = .ok (.goto 8, 3) := by decide +kernel
theorem dX1_rankOfThree_59 : decode cX1_rankOfThree 59 = .ok (.aload_n 0, 1) := by decide +kernel
theorem dX1_rankOfThree_60 : decode cX1_rankOfThree 60 = .ok (.iload_n 2, 1) := by decide +kernel
theorem dX1_rankOfThree_61 : decode cX1_rankOfThree 61 = .ok (.invokevirtual 100, 3) := by decide +kernel
theorem dX1_rankOfThree_64 : decode cX1_rankOfThree 64 = .ok (.aload_n 0, 1) := by decide +kernel
theorem dX1_rankOfThree_65 : decode cX1_rankOfThree 65 = .ok (.getfield 15, 3) := by decide +kernel
theorem dX1_rankOfThree_68 : decode cX1_rankOfThree 68 = .ok (.iload_n 3, 1) := by decide +kernel
theorem dX1_rankOfThree_69 : decode cX1_rankOfThree 69 = .ok (.iload 7, 2) := by decide +kernel
theorem dX1_rankOfThree_71 : decode cX1_rankOfThree 71 = .ok (.isub, 1) := by decide +kernel
theorem dX1_rankOfThree_72 : decode cX1_rankOfThree 72 = .ok (.laload, 1) := by decide +kernel
theorem dX1_rankOfThree_73 : decode cX1_rankOfThree 73 = .ok (.lmul, 1) := by decide +kernel
theorem dX1_rankOfThree_74 : decode cX1_rankOfThree 74 = .ok (.ladd, 1) := by decide +kernel
theorem dX1_rankOfThree_75 : decode cX1_rankOfThree 75 = .ok (.lstore 5, 2) := by decide +kernel
theorem dX1_rankOfThree_77 : decode cX1_rankOfThree 77 = .ok (.iinc 7 1, 3) := by decide +kernel
theorem dX1_rankOfThree_80 : decode cX1_rankOfThree 80 = .ok (.goto (-58), 3) := by decide +kernel
theorem dX1_rankOfThree_83 : decode cX1_rankOfThree 83 = .ok (.lload 5, 2) := by decide +kernel
theorem dX1_rankOfThree_85 : decode cX1_rankOfThree 85 = .ok (.lreturn, 1) := by decide +kernel
theorem dX2_init_0 : decode cX2_init 0 = .ok (.aload_n 0, 1) := by decide +kernel
theorem dX2_init_1 : decode cX2_init 1 = .ok (.invokespecial 3, 3) := by decide +kernel
theorem dX2_init_4 : decode cX2_init 4 = .ok (.aload_n 0, 1) := by decide +kernel
theorem dX2_init_5 : decode cX2_init 5 = .ok (.bipush 10, 2) := by decide +kernel
theorem dX2_init_7 : decode cX2_init 7 = .ok (.newarray .int, 2) := by decide +kernel
theorem dX2_init_9 : decode cX2_init 9 = .ok (.putfield 9, 3) := by decide +kernel
theorem dX2_init_12 : decode cX2_init 12 = .ok (.aload_n 0, 1) := by decide +kernel
theorem dX2_init_13 : decode cX2_init 13 = .ok (.bipush 10, 2) := by decide +kernel
theorem dX2_init_15 : decode cX2_init 15 = .ok (.newarray .int, 2) := by decide +kernel
theorem dX2_init_17 : decode cX2_init 17 = .ok (.putfield 15, 3) := by decide +kernel
theorem dX2_init_20 : decode cX2_init 20 = .ok (.aload_n 0, 1) := by decide +kernel
theorem dX2_init_21 : decode cX2_init 21 = .ok (.iconst 0, 1) := by decide +kernel
theorem dX2_init_22 : decode cX2_init 22 = .ok (.putfield 18, 3) := by decide +kernel
theorem dX2_init_25 : decode cX2_init 25 = .ok (.return_, 1) := by decide +kernel
theorem dX2_has_0 : decode cX2_has 0 = .ok (.iload_n 1, 1) := by decide +kernel
theorem dX2_has_1 : decode cX2_has 1 = .ok (.ifCond .lt 15, 3) := by decide +kernel
theorem dX2_has_4 : decode cX2_has 4 = .ok (.iload_n 1, 1) := by decide +kernel
theorem dX2_has_5 : decode cX2_has 5 = .ok (.aload_n 0, 1) := by decide +kernel
theorem dX2_has_6 : decode cX2_has 6 = .ok (.getfield 18, 3) := by decide +kernel
theorem dX2_has_9 : decode cX2_has 9 = .ok (.if_icmp .ge 7, 3) := by decide +kernel
theorem dX2_has_12 : decode cX2_has 12 = .ok (.iconst 1, 1) := by decide +kernel
theorem dX2_has_13 : decode cX2_has 13 = .ok (.goto 4, 3) := by decide +kernel
theorem dX2_has_16 : decode cX2_has 16 = .ok (.iconst 0, 1) := by decide +kernel
theorem dX2_has_17 : decode cX2_has 17 = .ok (.ireturn, 1) := by decide +kernel
theorem dX2_sortOf_0 : decode cX2_sortOf 0 = .ok (.aload_n 0, 1) := by decide +kernel
theorem dX2_sortOf_1 : decode cX2_sortOf 1 = .ok (.iload_n 1, 1) := by decide +kernel
theorem dX2_sortOf_2 : decode cX2_sortOf 2 = .ok (.invokevirtual 22, 3) := by decide +kernel
theorem dX2_sortOf_5 : decode cX2_sortOf 5 = .ok (.ifCond .eq 12, 3) := by decide +kernel
theorem dX2_sortOf_8 : decode cX2_sortOf 8 = .ok (.aload_n 0, 1) := by decide +kernel
theorem dX2_sortOf_9 : decode cX2_sortOf 9 = .ok (.getfield 9, 3) := by decide +kernel
theorem dX2_sortOf_12 : decode cX2_sortOf 12 = .ok (.iload_n 1, 1) := by decide +kernel
theorem dX2_sortOf_13 : decode cX2_sortOf 13 = .ok (.iaload, 1) := by decide +kernel
theorem dX2_sortOf_14 : decode cX2_sortOf 14 = .ok (.goto 4, 3) := by decide +kernel
theorem dX2_sortOf_17 : decode cX2_sortOf 17 = .ok (.iconst 0, 1) := by decide +kernel
theorem dX2_sortOf_18 : decode cX2_sortOf 18 = .ok (.ireturn, 1) := by decide +kernel
theorem dX2_faultOf_0 : decode cX2_faultOf 0 = .ok (.aload_n 0, 1) := by decide +kernel
theorem dX2_faultOf_1 : decode cX2_faultOf 1 = .ok (.iload_n 1, 1) := by decide +kernel
theorem dX2_faultOf_2 : decode cX2_faultOf 2 = .ok (.invokevirtual 22, 3) := by decide +kernel
theorem dX2_faultOf_5 : decode cX2_faultOf 5 = .ok (.ifCond .eq 12, 3) := by decide +kernel
theorem dX2_faultOf_8 : decode cX2_faultOf 8 = .ok (.aload_n 0, 1) := by decide +kernel
theorem dX2_faultOf_9 : decode cX2_faultOf 9 = .ok (.getfield 15, 3) := by decide +kernel
theorem dX2_faultOf_12 : decode cX2_faultOf 12 = .ok (.iload_n 1, 1) := by decide +kernel
theorem dX2_faultOf_13 : decode cX2_faultOf 13 = .ok (.iaload, 1) := by decide +kernel
theorem dX2_faultOf_14 : decode cX2_faultOf 14 = .ok (.goto 4, 3) := by decide +kernel
theorem dX2_faultOf_17 : decode cX2_faultOf 17 = .ok (.iconst 0, 1) := by decide +kernel
theorem dX2_faultOf_18 : decode cX2_faultOf 18 = .ok (.ireturn, 1) := by decide +kernel
theorem dX2_setFault_0 : decode cX2_setFault 0 = .ok (.aload_n 0, 1) := by decide +kernel
theorem dX2_setFault_1 : decode cX2_setFault 1 = .ok (.iload_n 1, 1) := by decide +kernel
theorem dX2_setFault_2 : decode cX2_setFault 2 = .ok (.invokevirtual 22, 3) := by decide +kernel
theorem dX2_setFault_5 : decode cX2_setFault 5 = .ok (.ifCond .eq 10, 3) := by decide +kernel
theorem dX2_setFault_8 : decode cX2_setFault 8 = .ok (.aload_n 0, 1) := by decide +kernel
theorem dX2_setFault_9 : decode cX2_setFault 9 = .ok (.getfield 15, 3) := by decide +kernel
theorem dX2_setFault_12 : decode cX2_setFault 12 = .ok (.iload_n 1, 1) := by decide +kernel
theorem dX2_setFault_13 : decode cX2_setFault 13 = .ok (.iload_n 2, 1) := by decide +kernel
theorem dX2_setFault_14 : decode cX2_setFault 14 = .ok (.iastore, 1) := by decide +kernel
theorem dX2_setFault_15 : decode cX2_setFault 15 = .ok (.return_, 1) := by decide +kernel
theorem dX2_addTurn_0 : decode cX2_addTurn 0 = .ok (.aload_n 0, 1) := by decide +kernel
theorem dX2_addTurn_1 : decode cX2_addTurn 1 = .ok (.getfield 18, 3) := by decide +kernel
theorem dX2_addTurn_4 : decode cX2_addTurn 4 = .ok (.ifCond .lt 42, 3) := by decide +kernel
theorem dX2_addTurn_7 : decode cX2_addTurn 7 = .ok (.aload_n 0, 1) := by decide +kernel
theorem dX2_addTurn_8 : decode cX2_addTurn 8 = .ok (.getfield 18, 3) := by decide +kernel
theorem dX2_addTurn_11 : decode cX2_addTurn 11 = .ok (.bipush 10, 2) := by decide +kernel
theorem dX2_addTurn_13 : decode cX2_addTurn 13 = .ok (.if_icmp .ge 33, 3) := by decide +kernel
theorem dX2_addTurn_16 : decode cX2_addTurn 16 = .ok (.aload_n 0, 1) := by decide +kernel
theorem dX2_addTurn_17 : decode cX2_addTurn 17 = .ok (.getfield 9, 3) := by decide +kernel
theorem dX2_addTurn_20 : decode cX2_addTurn 20 = .ok (.aload_n 0, 1) := by decide +kernel
theorem dX2_addTurn_21 : decode cX2_addTurn 21 = .ok (.getfield 18, 3) := by decide +kernel
theorem dX2_addTurn_24 : decode cX2_addTurn 24 = .ok (.iload_n 1, 1) := by decide +kernel
theorem dX2_addTurn_25 : decode cX2_addTurn 25 = .ok (.iastore, 1) := by decide +kernel
theorem dX2_addTurn_26 : decode cX2_addTurn 26 = .ok (.aload_n 0, 1) := by decide +kernel
theorem dX2_addTurn_27 : decode cX2_addTurn 27 = .ok (.getfield 15, 3) := by decide +kernel
theorem dX2_addTurn_30 : decode cX2_addTurn 30 = .ok (.aload_n 0, 1) := by decide +kernel
theorem dX2_addTurn_31 : decode cX2_addTurn 31 = .ok (.getfield 18, 3) := by decide +kernel
theorem dX2_addTurn_34 : decode cX2_addTurn 34 = .ok (.iload_n 2, 1) := by decide +kernel
theorem dX2_addTurn_35 : decode cX2_addTurn 35 = .ok (.iastore, 1) := by decide +kernel
theorem dX2_addTurn_36 : decode cX2_addTurn 36 = .ok (.aload_n 0, 1) := by decide +kernel
theorem dX2_addTurn_37 : decode cX2_addTurn 37 = .ok (.dup, 1) := by decide +kernel
theorem dX2_addTurn_38 : decode cX2_addTurn 38 = .ok (.getfield 18, 3) := by decide +kernel
theorem dX2_addTurn_41 : decode cX2_addTurn 41 = .ok (.iconst 1, 1) := by decide +kernel
theorem dX2_addTurn_42 : decode cX2_addTurn 42 = .ok (.iadd, 1) := by decide +kernel
theorem dX2_addTurn_43 : decode cX2_addTurn 43 = .ok (.putfield 18, 3) := by decide +kernel
theorem dX2_addTurn_46 : decode cX2_addTurn 46 = .ok (.return_, 1) := by decide +kernel
theorem dX3_init_0 : decode cX3_init 0 = .ok (.aload_n 0, 1) := by decide +kernel
theorem dX3_init_1 : decode cX3_init 1 = .ok (.invokespecial 3, 3) := by decide +kernel
theorem dX3_init_4 : decode cX3_init 4 = .ok (.aload_n 0, 1) := by decide +kernel
theorem dX3_init_5 : decode cX3_init 5 = .ok (.new 9, 3) := by decide +kernel
theorem dX3_init_8 : decode cX3_init 8 = .ok (.dup, 1) := by decide +kernel
theorem dX3_init_9 : decode cX3_init 9 = .ok (.invokespecial 11, 3) := by decide +kernel
theorem dX3_init_12 : decode cX3_init 12 = .ok (.putfield 12, 3) := by decide +kernel
theorem dX3_init_15 : decode cX3_init 15 = .ok (.aload_n 0, 1) := by decide +kernel
theorem dX3_init_16 : decode cX3_init 16 = .ok (.bipush 60, 2) := by decide +kernel
theorem dX3_init_18 : decode cX3_init 18 = .ok (.newarray .int, 2) := by decide +kernel
theorem dX3_init_20 : decode cX3_init 20 = .ok (.putfield 18, 3) := by decide +kernel
theorem dX3_init_23 : decode cX3_init 23 = .ok (.aload_n 0, 1) := by decide +kernel
theorem dX3_init_24 : decode cX3_init 24 = .ok (.iconst 0, 1) := by decide +kernel
theorem dX3_init_25 : decode cX3_init 25 = .ok (.putfield 22, 3) := by decide +kernel
theorem dX3_init_28 : decode cX3_init 28 = .ok (.return_, 1) := by decide +kernel
theorem dX3_clear_0 : decode cX3_clear 0 = .ok (.aload_n 0, 1) := by decide +kernel
theorem dX3_clear_1 : decode cX3_clear 1 = .ok (.getfield 12, 3) := by decide +kernel
theorem dX3_clear_4 : decode cX3_clear 4 = .ok (.invokevirtual 26, 3) := by decide +kernel
theorem dX3_clear_7 : decode cX3_clear 7 = .ok (.aload_n 0, 1) := by decide +kernel
theorem dX3_clear_8 : decode cX3_clear 8 = .ok (.iconst 0, 1) := by decide +kernel
theorem dX3_clear_9 : decode cX3_clear 9 = .ok (.putfield 22, 3) := by decide +kernel
theorem dX3_clear_12 : decode cX3_clear 12 = .ok (.return_, 1) := by decide +kernel
theorem dX3_put_0 : decode cX3_put 0 = .ok (.aload_n 0, 1) := by decide +kernel
theorem dX3_put_1 : decode cX3_put 1 = .ok (.getfield 22, 3) := by decide +kernel
theorem dX3_put_4 : decode cX3_put 4 = .ok (.iload_n 1, 1) := by decide +kernel
theorem dX3_put_5 : decode cX3_put 5 = .ok (.invokestatic 29, 3) := by decide +kernel
theorem dX3_put_8 : decode cX3_put 8 = .ok (.isub, 1) := by decide +kernel
theorem dX3_put_9 : decode cX3_put 9 = .ok (.istore_n 3, 1) := by decide +kernel
theorem dX3_put_10 : decode cX3_put 10 = .ok (.iload_n 3, 1) := by decide +kernel
theorem dX3_put_11 : decode cX3_put 11 = .ok (.ifCond .lt 9, 3) := by decide +kernel
theorem dX3_put_14 : decode cX3_put 14 = .ok (.iload_n 3, 1) := by decide +kernel
theorem dX3_put_15 : decode cX3_put 15 = .ok (.bipush 60, 2) := by decide +kernel
theorem dX3_put_17 : decode cX3_put 17 = .ok (.if_icmp .lt 4, 3) := by decide +kernel
theorem dX3_put_20 : decode cX3_put 20 = .ok (.return_, 1) := by decide +kernel
theorem dX3_put_21 : decode cX3_put 21 = .ok (.iload_n 3, 1) := by decide +kernel
theorem dX3_put_22 : decode cX3_put 22 = .ok (.aload_n 0, 1) := by decide +kernel
theorem dX3_put_23 : decode cX3_put 23 = .ok (.getfield 22, 3) := by decide +kernel
theorem dX3_put_26 : decode cX3_put 26 = .ok (.if_icmp .ge 12, 3) := by decide +kernel
theorem dX3_put_29 : decode cX3_put 29 = .ok (.aload_n 0, 1) := by decide +kernel
theorem dX3_put_30 : decode cX3_put 30 = .ok (.getfield 18, 3) := by decide +kernel
theorem dX3_put_33 : decode cX3_put 33 = .ok (.iload_n 3, 1) := by decide +kernel
theorem dX3_put_34 : decode cX3_put 34 = .ok (.iaload, 1) := by decide +kernel
theorem dX3_put_35 : decode cX3_put 35 = .ok (.goto 10, 3) := by decide +kernel
theorem dX3_put_38 : decode cX3_put 38 = .ok (.aload_n 0, 1) := by decide +kernel
theorem dX3_put_39 : decode cX3_put 39 = .ok (.getfield 12, 3) := by decide +kernel
theorem dX3_put_42 : decode cX3_put 42 = .ok (.getfield 33, 3) := by decide +kernel
theorem dX3_put_45 : decode cX3_put 45 = .ok (.istore 4, 2) := by decide +kernel
theorem dX3_put_47 : decode cX3_put 47 = .ok (.aload_n 0, 1) := by decide +kernel
theorem dX3_put_48 : decode cX3_put 48 = .ok (.getfield 12, 3) := by decide +kernel
theorem dX3_put_51 : decode cX3_put 51 = .ok (.iload 4, 2) := by decide +kernel
theorem dX3_put_53 : decode cX3_put 53 = .ok (.iload_n 1, 1) := by decide +kernel
theorem dX3_put_54 : decode cX3_put 54 = .ok (.iload_n 2, 1) := by decide +kernel
theorem dX3_put_55 : decode cX3_put 55 = .ok (.invokevirtual 36, 3) := by decide +kernel
theorem dX3_put_58 : decode cX3_put 58 = .ok (.aload_n 0, 1) := by decide +kernel
theorem dX3_put_59 : decode cX3_put 59 = .ok (.getfield 18, 3) := by decide +kernel
theorem dX3_put_62 : decode cX3_put 62 = .ok (.iload_n 3, 1) := by decide +kernel
theorem dX3_put_63 : decode cX3_put 63 = .ok (.iload 4, 2) := by decide +kernel
theorem dX3_put_65 : decode cX3_put 65 = .ok (.iastore, 1) := by decide +kernel
theorem dX3_put_66 : decode cX3_put 66 = .ok (.aload_n 0, 1) := by decide +kernel
theorem dX3_put_67 : decode cX3_put 67 = .ok (.iload_n 3, 1) := by decide +kernel
theorem dX3_put_68 : decode cX3_put 68 = .ok (.iconst 1, 1) := by decide +kernel
theorem dX3_put_69 : decode cX3_put 69 = .ok (.iadd, 1) := by decide +kernel
theorem dX3_put_70 : decode cX3_put 70 = .ok (.putfield 22, 3) := by decide +kernel
theorem dX3_put_73 : decode cX3_put 73 = .ok (.return_, 1) := by decide +kernel
theorem dX4_fire_0 : decode cX4_fire 0 = .ok (.iload_n 2, 1) := by decide +kernel
theorem dX4_fire_1 : decode cX4_fire 1 = .ok (.tableswitch 94 0 6 #[43, 50, 57, 64, 71, 78, 87], 43) := by decide +kernel
theorem dX4_fire_44 : decode cX4_fire 44 = .ok (.aload_n 0, 1) := by decide +kernel
theorem dX4_fire_45 : decode cX4_fire 45 = .ok (.iload_n 1, 1) := by decide +kernel
theorem dX4_fire_46 : decode cX4_fire 46 = .ok (.iload_n 3, 1) := by decide +kernel
theorem dX4_fire_47 : decode cX4_fire 47 = .ok (.invokestatic 9, 3) := by decide +kernel
theorem dX4_fire_50 : decode cX4_fire 50 = .ok (.ireturn, 1) := by decide +kernel
theorem dX4_fire_51 : decode cX4_fire 51 = .ok (.aload_n 0, 1) := by decide +kernel
theorem dX4_fire_52 : decode cX4_fire 52 = .ok (.iload_n 1, 1) := by decide +kernel
theorem dX4_fire_53 : decode cX4_fire 53 = .ok (.iload_n 3, 1) := by decide +kernel
theorem dX4_fire_54 : decode cX4_fire 54 = .ok (.invokestatic 15, 3) := by decide +kernel
theorem dX4_fire_57 : decode cX4_fire 57 = .ok (.ireturn, 1) := by decide +kernel
theorem dX4_fire_58 : decode cX4_fire 58 = .ok (.aload_n 0, 1) := by decide +kernel
theorem dX4_fire_59 : decode cX4_fire 59 = .ok (.iload_n 1, 1) := by decide +kernel
theorem dX4_fire_60 : decode cX4_fire 60 = .ok (.iload_n 3, 1) := by decide +kernel
theorem dX4_fire_61 : decode cX4_fire 61 = .ok (.invokestatic 18, 3) := by decide +kernel
theorem dX4_fire_64 : decode cX4_fire 64 = .ok (.ireturn, 1) := by decide +kernel
theorem dX4_fire_65 : decode cX4_fire 65 = .ok (.aload_n 0, 1) := by decide +kernel
theorem dX4_fire_66 : decode cX4_fire 66 = .ok (.iload_n 1, 1) := by decide +kernel
theorem dX4_fire_67 : decode cX4_fire 67 = .ok (.iload_n 3, 1) := by decide +kernel
theorem dX4_fire_68 : decode cX4_fire 68 = .ok (.invokestatic 21, 3) := by decide +kernel
theorem dX4_fire_71 : decode cX4_fire 71 = .ok (.ireturn, 1) := by decide +kernel
theorem dX4_fire_72 : decode cX4_fire 72 = .ok (.aload_n 0, 1) := by decide +kernel
theorem dX4_fire_73 : decode cX4_fire 73 = .ok (.iload_n 1, 1) := by decide +kernel
theorem dX4_fire_74 : decode cX4_fire 74 = .ok (.iload_n 3, 1) := by decide +kernel
theorem dX4_fire_75 : decode cX4_fire 75 = .ok (.invokestatic 24, 3) := by decide +kernel
theorem dX4_fire_78 : decode cX4_fire 78 = .ok (.ireturn, 1) := by decide +kernel
theorem dX4_fire_79 : decode cX4_fire 79 = .ok (.aload_n 0, 1) := by decide +kernel
theorem dX4_fire_80 : decode cX4_fire 80 = .ok (.iload_n 1, 1) := by decide +kernel
theorem dX4_fire_81 : decode cX4_fire 81 = .ok (.iload_n 3, 1) := by decide +kernel
theorem dX4_fire_82 : decode cX4_fire 82 = .ok (.iload 4, 2) := by decide +kernel
theorem dX4_fire_84 : decode cX4_fire 84 = .ok (.invokestatic 27, 3) := by decide +kernel
theorem dX4_fire_87 : decode cX4_fire 87 = .ok (.ireturn, 1) := by decide +kernel
theorem dX4_fire_88 : decode cX4_fire 88 = .ok (.aload_n 0, 1) := by decide +kernel
theorem dX4_fire_89 : decode cX4_fire 89 = .ok (.iload_n 1, 1) := by decide +kernel
theorem dX4_fire_90 : decode cX4_fire 90 = .ok (.iload_n 3, 1) := by decide +kernel
theorem dX4_fire_91 : decode cX4_fire 91 = .ok (.invokestatic 31, 3) := by decide +kernel
theorem dX4_fire_94 : decode cX4_fire 94 = .ok (.ireturn, 1) := by decide +kernel
theorem dX4_fire_95 : decode cX4_fire 95 = .ok (.iconst 0, 1) := by decide +kernel
theorem dX4_fire_96 : decode cX4_fire 96 = .ok (.ireturn, 1) := by decide +kernel
theorem dX4_fold_0 : decode cX4_fold 0 = .ok (.aload_n 0, 1) := by decide +kernel
theorem dX4_fold_1 : decode cX4_fold 1 = .ok (.iload_n 1, 1) := by decide +kernel
theorem dX4_fold_2 : decode cX4_fold 2 = .ok (.invokevirtual 34, 3) := by decide +kernel
theorem dX4_fold_5 : decode cX4_fold 5 = .ok (.istore_n 3, 1) := by decide +kernel
theorem dX4_fold_6 : decode cX4_fold 6 = .ok (.iload_n 1, 1) := by decide +kernel
theorem dX4_fold_7 : decode cX4_fold 7 = .ok (.iconst 1, 1) := by decide +kernel
theorem dX4_fold_8 : decode cX4_fold 8 = .ok (.iadd, 1) := by decide +kernel
theorem dX4_fold_9 : decode cX4_fold 9 = .ok (.istore 4, 2) := by decide +kernel
theorem dX4_fold_11 : decode cX4_fold 11 = .ok (.iload_n 3, 1) := by decide +kernel
theorem dX4_fold_12 : decode cX4_fold 12 = .ok (.iconst 3, 1) := by decide +kernel
theorem dX4_fold_13 : decode cX4_fold 13 = .ok (.if_icmp .lt 18, 3) := by decide +kernel
theorem dX4_fold_16 : decode cX4_fold 16 = .ok (.iload_n 3, 1) := by decide +kernel
theorem dX4_fold_17 : decode cX4_fold 17 = .ok (.bipush 7, 2) := by decide +kernel
theorem dX4_fold_19 : decode cX4_fold 19 = .ok (.if_icmp .gt 12, 3) := by decide +kernel
theorem dX4_fold_22 : decode cX4_fold 22 = .ok (.aload_n 0, 1) := by decide +kernel
theorem dX4_fold_23 : decode cX4_fold 23 = .ok (.iload 4, 2) := by decide +kernel
theorem dX4_fold_25 : decode cX4_fold 25 = .ok (.invokevirtual 34, 3) := by decide +kernel
theorem dX4_fold_28 : decode cX4_fold 28 = .ok (.ifCond .eq 5, 3) := by decide +kernel
theorem dX4_fold_31 : decode cX4_fold 31 = .ok (.iconst 0, 1) := by decide +kernel
theorem dX4_fold_32 : decode cX4_fold 32 = .ok (.ireturn, 1) := by decide +kernel
theorem dX4_fold_33 : decode cX4_fold 33 = .ok (.iload_n 3, 1) := by decide +kernel
theorem dX4_fold_34 : decode cX4_fold 34 = .ok (.iconst 3, 1) := by decide +kernel
theorem dX4_fold_35 : decode cX4_fold 35 = .ok (.if_icmp .ne 17, 3) := by decide +kernel
theorem dX4_fold_38 : decode cX4_fold 38 = .ok (.aload_n 0, 1) := by decide +kernel
theorem dX4_fold_39 : decode cX4_fold 39 = .ok (.iload_n 1, 1) := by decide +kernel
theorem dX4_fold_40 : decode cX4_fold 40 = .ok (.aload_n 0, 1) := by decide +kernel
theorem dX4_fold_41 : decode cX4_fold 41 = .ok (.iload 4, 2) := by decide +kernel
theorem dX4_fold_43 : decode cX4_fold 43 = .ok (.invokevirtual 40, 3) := by decide +kernel
theorem dX4_fold_46 : decode cX4_fold 46 = .ok (.ineg, 1) := by decide +kernel
theorem dX4_fold_47 : decode cX4_fold 47 = .ok (.invokevirtual 43, 3) := by decide +kernel
theorem dX4_fold_50 : decode cX4_fold 50 = .ok (.iconst 1, 1) := by decide +kernel
theorem dX4_fold_51 : decode cX4_fold 51 = .ok (.ireturn, 1) := by decide +kernel
theorem dX4_fold_52 : decode cX4_fold 52 = .ok (.aload_n 0, 1) := by decide +kernel
theorem dX4_fold_53 : decode cX4_fold 53 = .ok (.iload 4, 2) := by decide +kernel
theorem dX4_fold_55 : decode cX4_fold 55 = .ok (.invokevirtual 47, 3) := by decide +kernel
theorem dX4_fold_58 : decode cX4_fold 58 = .ok (.istore 5, 2) := by decide +kernel
theorem dX4_fold_60 : decode cX4_fold 60 = .ok (.aload_n 0, 1) := by decide +kernel
theorem dX4_fold_61 : decode cX4_fold 61 = .ok (.iload 5, 2) := by decide +kernel
theorem dX4_fold_63 : decode cX4_fold 63 = .ok (.invokevirtual 34, 3) := by decide +kernel
theorem dX4_fold_66 : decode cX4_fold 66 = .ok (.ifCond .ne 18, 3) := by decide +kernel
theorem dX4_fold_69 : decode cX4_fold 69 = .ok (.iload_n 3, 1) := by decide +kernel
theorem dX4_fold_70 : decode cX4_fold 70 = .ok (.bipush 7, 2) := by decide +kernel
theorem dX4_fold_72 : decode cX4_fold 72 = .ok (.if_icmp .ne 14, 3) := by decide +kernel
theorem dX4_fold_75 : decode cX4_fold 75 = .ok (.aload_n 0, 1) := by decide +kernel
theorem dX4_fold_76 : decode cX4_fold 76 = .ok (.iload 5, 2) := by decide +kernel
theorem dX4_fold_78 : decode cX4_fold 78 = .ok (.invokevirtual 40, 3) := by decide +kernel
theorem dX4_fold_81 : decode cX4_fold 81 = .ok (.ifCond .ne 5, 3) := by decide +kernel
theorem dX4_fold_84 : decode cX4_fold 84 = .ok (.iconst 0, 1) := by decide +kernel
theorem dX4_fold_85 : decode cX4_fold 85 = .ok (.ireturn, 1) := by decide +kernel
theorem dX4_fold_86 : decode cX4_fold 86 = .ok (.iload_n 3, 1) := by decide +kernel
theorem dX4_fold_87 : decode cX4_fold 87 = .ok (.aload_n 0, 1) := by decide +kernel
theorem dX4_fold_88 : decode cX4_fold 88 = .ok (.iload 4, 2) := by decide +kernel
theorem dX4_fold_90 : decode cX4_fold 90 = .ok (.invokevirtual 40, 3) := by decide +kernel
theorem dX4_fold_93 : decode cX4_fold 93 = .ok (.aload_n 0, 1) := by decide +kernel
theorem dX4_fold_94 : decode cX4_fold 94 = .ok (.iload 5, 2) := by decide +kernel
theorem dX4_fold_96 : decode cX4_fold 96 = .ok (.invokevirtual 40, 3) := by decide +kernel
theorem dX4_fold_99 : decode cX4_fold 99 = .ok (.invokestatic 50, 3) := by decide +kernel
theorem dX4_fold_102 : decode cX4_fold 102 = .ok (.istore 6, 2) := by decide +kernel
theorem dX4_fold_104 : decode cX4_fold 104 = .ok (.iload_n 3, 1) := by decide +kernel
theorem dX4_fold_105 : decode cX4_fold 105 = .ok (.iconst 5, 1) := by decide +kernel
theorem dX4_fold_106 : decode cX4_fold 106 = .ok (.if_icmp .ne 26, 3) := by decide +kernel
theorem dX4_fold_109 : decode cX4_fold 109 = .ok (.iload_n 2, 1) := by decide +kernel
theorem dX4_fold_110 : decode cX4_fold 110 = .ok (.iconst 1, 1) := by decide +kernel
theorem dX4_fold_111 : decode cX4_fold 111 = .ok (.if_icmp .ne 21, 3) := by decide +kernel
theorem dX4_fold_114 : decode cX4_fold 114 = .ok (.aload_n 0, 1) := by decide +kernel
theorem dX4_fold_115 : decode cX4_fold 115 = .ok (.iload 5, 2) := by decide +kernel
theorem dX4_fold_117 : decode cX4_fold 117 = .ok (.invokevirtual 40, 3) := by decide +kernel
theorem dX4_fold_120 : decode cX4_fold 120 = .ok (.aload_n 0, 1) := by decide +kernel
theorem dX4_fold_121 : decode cX4_fold 121 = .ok (.iload 4, 2) := by decide +kernel
theorem dX4_fold_123 : decode cX4_fold 123 = .ok (.invokevirtual 40, 3) := by decide +kernel
theorem dX4_fold_126 : decode cX4_fold 126 = .ok (.isub, 1) := by decide +kernel
theorem dX4_fold_127 : decode cX4_fold 127 = .ok (.istore 6, 2) := by decide +kernel
theorem dX4_fold_129 : decode cX4_fold 129 = .ok (.goto 19, 3) := by decide +kernel
theorem dX4_fold_132 : decode cX4_fold 132 = .ok (.iload_n 3, 1) := by decide +kernel
theorem dX4_fold_133 : decode cX4_fold 133 = .ok (.bipush 6, 2) := by decide +kernel
theorem dX4_fold_135 : decode cX4_fold 135 = .ok (.if_icmp .ne 13, 3) := by decide +kernel
theorem dX4_fold_138 : decode cX4_fold 138 = .ok (.iload_n 2, 1) := by decide +kernel
theorem dX4_fold_139 : decode cX4_fold 139 = .ok (.iconst 2, 1) := by decide +kernel
theorem dX4_fold_140 : decode cX4_fold 140 = .ok (.if_icmp .ne 8, 3) := by decide +kernel
theorem dX4_fold_143 : decode cX4_fold 143 = .ok (.iload 6, 2) := by decide +kernel
theorem dX4_fold_145 : decode cX4_fold 145 = .ok (.i2s, 1) := by decide +kernel
theorem dX4_fold_146 : decode cX4_fold 146 = .ok (.istore 6, 2) := by decide +kernel
theorem dX4_fold_148 : decode cX4_fold 148 = .ok (.aload_n 0, 1) := by decide +kernel
theorem dX4_fold_149 : decode cX4_fold 149 = .ok (.iload_n 1, 1) := by decide +kernel
theorem dX4_fold_150 : decode cX4_fold 150 = .ok (.iload 6, 2) := by decide +kernel
theorem dX4_fold_152 : decode cX4_fold 152 = .ok (.invokevirtual 43, 3) := by decide +kernel
theorem dX4_fold_155 : decode cX4_fold 155 = .ok (.iconst 1, 1) := by decide +kernel
theorem dX4_fold_156 : decode cX4_fold 156 = .ok (.ireturn, 1) := by decide +kernel
theorem dX4_zero_0 : decode cX4_zero 0 = .ok (.iload_n 1, 1) := by decide +kernel
theorem dX4_zero_1 : decode cX4_zero 1 = .ok (.iconst 1, 1) := by decide +kernel
theorem dX4_zero_2 : decode cX4_zero 2 = .ok (.iadd, 1) := by decide +kernel
theorem dX4_zero_3 : decode cX4_zero 3 = .ok (.istore_n 3, 1) := by decide +kernel
theorem dX4_zero_4 : decode cX4_zero 4 = .ok (.aload_n 0, 1) := by decide +kernel
theorem dX4_zero_5 : decode cX4_zero 5 = .ok (.iload_n 3, 1) := by decide +kernel
theorem dX4_zero_6 : decode cX4_zero 6 = .ok (.invokevirtual 47, 3) := by decide +kernel
theorem dX4_zero_9 : decode cX4_zero 9 = .ok (.istore 4, 2) := by decide +kernel
theorem dX4_zero_11 : decode cX4_zero 11 = .ok (.iconst (-1), 1) := by decide +kernel
theorem dX4_zero_12 : decode cX4_zero 12 = .ok (.istore 5, 2) := by decide +kernel
theorem dX4_zero_14 : decode cX4_zero 14 = .ok (.aload_n 0, 1) := by decide +kernel
theorem dX4_zero_15 : decode cX4_zero 15 = .ok (.iload_n 1, 1) := by decide +kernel
theorem dX4_zero_16 : decode cX4_zero 16 = .ok (.invokevirtual 34, 3) := by decide +kernel
theorem dX4_zero_19 : decode cX4_zero 19 = .ok (.tableswitch 135 4 7 #[29, 63, 102, 115], 29) := by decide +kernel
theorem dX4_zero_48 : decode cX4_zero 48 = .ok (.aload_n 0, 1) := by decide +kernel
theorem dX4_zero_49 : decode cX4_zero 49 = .ok (.iload 4, 2) := by decide +kernel
theorem dX4_zero_51 : decode cX4_zero 51 = .ok (.iconst 0, 1) := by decide +kernel
theorem dX4_zero_52 : decode cX4_zero 52 = .ok (.invokevirtual 54, 3) := by decide +kernel
theorem dX4_zero_55 : decode cX4_zero 55 = .ok (.ifCond .eq 7, 3) := by decide +kernel
theorem dX4_zero_58 : decode cX4_zero 58 = .ok (.iload_n 3, 1) := by decide +kernel
theorem dX4_zero_59 : decode cX4_zero 59 = .ok (.goto 18, 3) := by decide +kernel
theorem dX4_zero_62 : decode cX4_zero 62 = .ok (.aload_n 0, 1) := by decide +kernel
theorem dX4_zero_63 : decode cX4_zero 63 = .ok (.iload_n 3, 1) := by decide +kernel
theorem dX4_zero_64 : decode cX4_zero 64 = .ok (.iconst 0, 1) := by decide +kernel
theorem dX4_zero_65 : decode cX4_zero 65 = .ok (.invokevirtual 54, 3) := by decide +kernel
theorem dX4_zero_68 : decode cX4_zero 68 = .ok (.ifCond .eq 8, 3) := by decide +kernel
theorem dX4_zero_71 : decode cX4_zero 71 = .ok (.iload 4, 2) := by decide +kernel
theorem dX4_zero_73 : decode cX4_zero 73 = .ok (.goto 4, 3) := by decide +kernel
theorem dX4_zero_76 : decode cX4_zero 76 = .ok (.iconst (-1), 1) := by decide +kernel
theorem dX4_zero_77 : decode cX4_zero 77 = .ok (.istore 5, 2) := by decide +kernel
theorem dX4_zero_79 : decode cX4_zero 79 = .ok (.goto 75, 3) := by decide +kernel
theorem dX4_zero_82 : decode cX4_zero 82 = .ok (.aload_n 0, 1) := by decide +kernel
theorem dX4_zero_83 : decode cX4_zero 83 = .ok (.iload 4, 2) := by decide +kernel
theorem dX4_zero_85 : decode cX4_zero 85 = .ok (.iconst 0, 1) := by decide +kernel
theorem dX4_zero_86 : decode cX4_zero 86 = .ok (.invokevirtual 54, 3) := by decide +kernel
theorem dX4_zero_89 : decode cX4_zero 89 = .ok (.ifCond .eq 7, 3) := by decide +kernel
theorem dX4_zero_92 : decode cX4_zero 92 = .ok (.iload_n 3, 1) := by decide +kernel
theorem dX4_zero_93 : decode cX4_zero 93 = .ok (.goto 23, 3) := by decide +kernel
theorem dX4_zero_96 : decode cX4_zero 96 = .ok (.iload_n 2, 1) := by decide +kernel
theorem dX4_zero_97 : decode cX4_zero 97 = .ok (.iconst 1, 1) := by decide +kernel
theorem dX4_zero_98 : decode cX4_zero 98 = .ok (.if_icmp .ne 17, 3) := by decide +kernel
theorem dX4_zero_101 : decode cX4_zero 101 = .ok (.aload_n 0, 1) := by decide +kernel
theorem dX4_zero_102 : decode cX4_zero 102 = .ok (.iload_n 3, 1) := by decide +kernel
theorem dX4_zero_103 : decode cX4_zero 103 = .ok (.iconst 0, 1) := by decide +kernel
theorem dX4_zero_104 : decode cX4_zero 104 = .ok (.invokevirtual 54, 3) := by decide +kernel
theorem dX4_zero_107 : decode cX4_zero 107 = .ok (.ifCond .eq 8, 3) := by decide +kernel
theorem dX4_zero_110 : decode cX4_zero 110 = .ok (.iload 4, 2) := by decide +kernel
theorem dX4_zero_112 : decode cX4_zero 112 = .ok (.goto 4, 3) := by decide +kernel
theorem dX4_zero_115 : decode cX4_zero 115 = .ok (.iconst (-1), 1) := by decide +kernel
theorem dX4_zero_116 : decode cX4_zero 116 = .ok (.istore 5, 2) := by decide +kernel
theorem dX4_zero_118 : decode cX4_zero 118 = .ok (.goto 36, 3) := by decide +kernel
theorem dX4_zero_121 : decode cX4_zero 121 = .ok (.aload_n 0, 1) := by decide +kernel
theorem dX4_zero_122 : decode cX4_zero 122 = .ok (.iload_n 3, 1) := by decide +kernel
theorem dX4_zero_123 : decode cX4_zero 123 = .ok (.iload 4, 2) := by decide +kernel
theorem dX4_zero_125 : decode cX4_zero 125 = .ok (.iload_n 2, 1) := by decide +kernel
theorem dX4_zero_126 : decode cX4_zero 126 = .ok (.invokestatic 58, 3) := by decide +kernel
theorem dX4_zero_129 : decode cX4_zero 129 = .ok (.istore 5, 2) := by decide +kernel
theorem dX4_zero_131 : decode cX4_zero 131 = .ok (.goto 23, 3) := by decide +kernel
theorem dX4_zero_134 : decode cX4_zero 134 = .ok (.aload_n 0, 1) := by decide +kernel
theorem dX4_zero_135 : decode cX4_zero 135 = .ok (.iload 4, 2) := by decide +kernel
theorem dX4_zero_137 : decode cX4_zero 137 = .ok (.iconst 1, 1) := by decide +kernel
theorem dX4_zero_138 : decode cX4_zero 138 = .ok (.invokevirtual 54, 3) := by decide +kernel
theorem dX4_zero_141 : decode cX4_zero 141 = .ok (.ifCond .eq 7, 3) := by decide +kernel
theorem dX4_zero_144 : decode cX4_zero 144 = .ok (.iload_n 3, 1) := by decide +kernel
theorem dX4_zero_145 : decode cX4_zero 145 = .ok (.goto 4, 3) := by decide +kernel
theorem dX4_zero_148 : decode cX4_zero 148 = .ok (.iconst (-1), 1) := by decide +kernel
theorem dX4_zero_149 : decode cX4_zero 149 = .ok (.istore 5, 2) := by decide +kernel
theorem dX4_zero_151 : decode cX4_zero 151 = .ok (.goto 3, 3) := by decide +kernel
theorem dX4_zero_154 : decode cX4_zero 154 = .ok (.iload 5, 2) := by decide +kernel
theorem dX4_zero_156 : decode cX4_zero 156 = .ok (.ifCond .ge 5, 3) := by decide +kernel
theorem dX4_zero_159 : decode cX4_zero 159 = .ok (.iconst 0, 1) := by decide +kernel
theorem dX4_zero_160 : decode cX4_zero 160 = .ok (.ireturn, 1) := by decide +kernel
theorem dX4_zero_161 : decode cX4_zero 161 = .ok (.aload_n 0, 1) := by decide +kernel
theorem dX4_zero_162 : decode cX4_zero 162 = .ok (.iload_n 1, 1) := by decide +kernel
theorem dX4_zero_163 : decode cX4_zero 163 = .ok (.iload 5, 2) := by decide +kernel
theorem dX4_zero_165 : decode cX4_zero 165 = .ok (.invokevirtual 62, 3) := by decide +kernel
theorem dX4_zero_168 : decode cX4_zero 168 = .ok (.iconst 1, 1) := by decide +kernel
theorem dX4_zero_169 : decode cX4_zero 169 = .ok (.ireturn, 1) := by decide +kernel
theorem dX4_staysOfTimes_0 : decode cX4_staysOfTimes 0 = .ok (.aload_n 0, 1) := by decide +kernel
theorem dX4_staysOfTimes_1 : decode cX4_staysOfTimes 1 = .ok (.iload_n 2, 1) := by decide +kernel
theorem dX4_staysOfTimes_2 : decode cX4_staysOfTimes 2 = .ok (.iconst 1, 1) := by decide +kernel
theorem dX4_staysOfTimes_3 : decode cX4_staysOfTimes 3 = .ok (.invokevirtual 54, 3) := by decide +kernel
theorem dX4_staysOfTimes_6 : decode cX4_staysOfTimes 6 = .ok (.ifCond .eq 5, 3) := by decide +kernel
theorem dX4_staysOfTimes_9 : decode cX4_staysOfTimes 9 = .ok (.iload_n 1, 1) := by decide +kernel
theorem dX4_staysOfTimes_10 : decode cX4_staysOfTimes 10 = .ok (.ireturn, 1) := by decide +kernel
theorem dX4_staysOfTimes_11 : decode cX4_staysOfTimes 11 = .ok (.aload_n 0, 1) := by decide +kernel
theorem dX4_staysOfTimes_12 : decode cX4_staysOfTimes 12 = .ok (.iload_n 1, 1) := by decide +kernel
theorem dX4_staysOfTimes_13 : decode cX4_staysOfTimes 13 = .ok (.iconst 1, 1) := by decide +kernel
theorem dX4_staysOfTimes_14 : decode cX4_staysOfTimes 14 = .ok (.invokevirtual 54, 3) := by decide +kernel
theorem dX4_staysOfTimes_17 : decode cX4_staysOfTimes 17 = .ok (.ifCond .eq 5, 3) := by decide +kernel
theorem dX4_staysOfTimes_20 : decode cX4_staysOfTimes 20 = .ok (.iload_n 2, 1) := by decide +kernel
theorem dX4_staysOfTimes_21 : decode cX4_staysOfTimes 21 = .ok (.ireturn, 1) := by decide +kernel
theorem dX4_staysOfTimes_22 : decode cX4_staysOfTimes 22 = .ok (.aload_n 0, 1) := by decide +kernel
theorem dX4_staysOfTimes_23 : decode cX4_staysOfTimes 23 = .ok (.iload_n 2, 1) := by decide +kernel
theorem dX4_staysOfTimes_24 : decode cX4_staysOfTimes 24 = .ok (.iconst 0, 1) := by decide +kernel
theorem dX4_staysOfTimes_25 : decode cX4_staysOfTimes 25 = .ok (.invokevirtual 54, 3) := by decide +kernel
theorem dX4_staysOfTimes_28 : decode cX4_staysOfTimes 28 = .ok (.ifCond .eq 14, 3) := by decide +kernel
theorem dX4_staysOfTimes_31 : decode cX4_staysOfTimes 31 = .ok (.iload_n 3, 1) := by decide +kernel
theorem dX4_staysOfTimes_32 : decode cX4_staysOfTimes 32 = .ok (.iconst 2, 1) := by decide +kernel
theorem dX4_staysOfTimes_33 : decode cX4_staysOfTimes 33 = .ok (.if_icmp .ne 7, 3) := by decide +kernel
theorem dX4_staysOfTimes_36 : decode cX4_staysOfTimes 36 = .ok (.iload_n 1, 1) := by decide +kernel
theorem dX4_staysOfTimes_37 : decode cX4_staysOfTimes 37 = .ok (.goto 4, 3) := by decide +kernel
theorem dX4_staysOfTimes_40 : decode cX4_staysOfTimes 40 = .ok (.iload_n 2, 1) := by decide +kernel
theorem dX4_staysOfTimes_41 : decode cX4_staysOfTimes 41 = .ok (.ireturn, 1) := by decide +kernel
theorem dX4_staysOfTimes_42 : decode cX4_staysOfTimes 42 = .ok (.aload_n 0, 1) := by decide +kernel
theorem dX4_staysOfTimes_43 : decode cX4_staysOfTimes 43 = .ok (.iload_n 1, 1) := by decide +kernel
theorem dX4_staysOfTimes_44 : decode cX4_staysOfTimes 44 = .ok (.iconst 0, 1) := by decide +kernel
theorem dX4_staysOfTimes_45 : decode cX4_staysOfTimes 45 = .ok (.invokevirtual 54, 3) := by decide +kernel
theorem dX4_staysOfTimes_48 : decode cX4_staysOfTimes 48 = .ok (.ifCond .eq 14, 3) := by decide +kernel
theorem dX4_staysOfTimes_51 : decode cX4_staysOfTimes 51 = .ok (.iload_n 3, 1) := by decide +kernel
theorem dX4_staysOfTimes_52 : decode cX4_staysOfTimes 52 = .ok (.iconst 2, 1) := by decide +kernel
theorem dX4_staysOfTimes_53 : decode cX4_staysOfTimes 53 = .ok (.if_icmp .ne 7, 3) := by decide +kernel
theorem dX4_staysOfTimes_56 : decode cX4_staysOfTimes 56 = .ok (.iload_n 2, 1) := by decide +kernel
theorem dX4_staysOfTimes_57 : decode cX4_staysOfTimes 57 = .ok (.goto 4, 3) := by decide +kernel
theorem dX4_staysOfTimes_60 : decode cX4_staysOfTimes 60 = .ok (.iload_n 1, 1) := by decide +kernel
theorem dX4_staysOfTimes_61 : decode cX4_staysOfTimes 61 = .ok (.ireturn, 1) := by decide +kernel
theorem dX4_staysOfTimes_62 : decode cX4_staysOfTimes 62 = .ok (.iconst (-1), 1) := by decide +kernel
theorem dX4_staysOfTimes_63 : decode cX4_staysOfTimes 63 = .ok (.ireturn, 1) := by decide +kernel
theorem dX4_same_0 : decode cX4_same 0 = .ok (.aload_n 0, 1) := by decide +kernel
theorem dX4_same_1 : decode cX4_same 1 = .ok (.iload_n 1, 1) := by decide +kernel
theorem dX4_same_2 : decode cX4_same 2 = .ok (.invokevirtual 34, 3) := by decide +kernel
theorem dX4_same_5 : decode cX4_same 5 = .ok (.istore_n 3, 1) := by decide +kernel
theorem dX4_same_6 : decode cX4_same 6 = .ok (.iload_n 3, 1) := by decide +kernel
theorem dX4_same_7 : decode cX4_same 7 = .ok (.iconst 5, 1) := by decide +kernel
theorem dX4_same_8 : decode cX4_same 8 = .ok (.if_icmp .eq 15, 3) := by decide +kernel
theorem dX4_same_11 : decode cX4_same 11 = .ok (.iload_n 3, 1) := by decide +kernel
theorem dX4_same_12 : decode cX4_same 12 = .ok (.iconst 4, 1) := by decide +kernel
theorem dX4_same_13 : decode cX4_same 13 = .ok (.if_icmp .ne 8, 3) := by decide +kernel
theorem dX4_same_16 : decode cX4_same 16 = .ok (.iload_n 2, 1) := by decide +kernel
theorem dX4_same_17 : decode cX4_same 17 = .ok (.iconst 1, 1) := by decide +kernel
theorem dX4_same_18 : decode cX4_same 18 = .ok (.if_icmp .eq 5, 3) := by decide +kernel
theorem dX4_same_21 : decode cX4_same 21 = .ok (.iconst 0, 1) := by decide +kernel
theorem dX4_same_22 : decode cX4_same 22 = .ok (.ireturn, 1) := by decide +kernel
theorem dX4_same_23 : decode cX4_same 23 = .ok (.iload_n 1, 1) := by decide +kernel
theorem dX4_same_24 : decode cX4_same 24 = .ok (.iconst 1, 1) := by decide +kernel
theorem dX4_same_25 : decode cX4_same 25 = .ok (.iadd, 1) := by decide +kernel
theorem dX4_same_26 : decode cX4_same 26 = .ok (.istore 4, 2) := by decide +kernel
theorem dX4_same_28 : decode cX4_same 28 = .ok (.aload_n 0, 1) := by decide +kernel
theorem dX4_same_29 : decode cX4_same 29 = .ok (.iload 4, 2) := by decide +kernel
theorem dX4_same_31 : decode cX4_same 31 = .ok (.invokevirtual 47, 3) := by decide +kernel
theorem dX4_same_34 : decode cX4_same 34 = .ok (.istore 5, 2) := by decide +kernel
theorem dX4_same_36 : decode cX4_same 36 = .ok (.iload_n 2, 1) := by decide +kernel
theorem dX4_same_37 : decode cX4_same 37 = .ok (.iconst 2, 1) := by decide +kernel
theorem dX4_same_38 : decode cX4_same 38 = .ok (.if_icmp .ne 17, 3) := by decide +kernel
theorem dX4_same_41 : decode cX4_same 41 = .ok (.aload_n 0, 1) := by decide +kernel
theorem dX4_same_42 : decode cX4_same 42 = .ok (.iload 4, 2) := by decide +kernel
theorem dX4_same_44 : decode cX4_same 44 = .ok (.iload 5, 2) := by decide +kernel
theorem dX4_same_46 : decode cX4_same 46 = .ok (.invokestatic 65, 3) := by decide +kernel
theorem dX4_same_49 : decode cX4_same 49 = .ok (.ifCond .eq 17, 3) := by decide +kernel
theorem dX4_same_52 : decode cX4_same 52 = .ok (.goto 16, 3) := by decide +kernel
theorem dX4_same_55 : decode cX4_same 55 = .ok (.aload_n 0, 1) := by decide +kernel
theorem dX4_same_56 : decode cX4_same 56 = .ok (.iload 4, 2) := by decide +kernel
theorem dX4_same_58 : decode cX4_same 58 = .ok (.iload 5, 2) := by decide +kernel
theorem dX4_same_60 : decode cX4_same 60 = .ok (.invokevirtual 68, 3) := by decide +kernel
theorem dX4_same_63 : decode cX4_same 63 = .ok (.ifCond .ne 5, 3) := by decide +kernel
theorem dX4_same_66 : decode cX4_same 66 = .ok (.iconst 0, 1) := by decide +kernel
theorem dX4_same_67 : decode cX4_same 67 = .ok (.ireturn, 1) := by decide +kernel
theorem dX4_same_68 : decode cX4_same 68 = .ok (.aload_n 0, 1) := by decide +kernel
theorem dX4_same_69 : decode cX4_same 69 = .ok (.iload_n 1, 1) := by decide +kernel
theorem dX4_same_70 : decode cX4_same 70 = .ok (.iconst 0, 1) := by decide +kernel
theorem dX4_same_71 : decode cX4_same 71 = .ok (.invokevirtual 43, 3) := by decide +kernel
theorem dX4_same_74 : decode cX4_same 74 = .ok (.iconst 1, 1) := by decide +kernel
theorem dX4_same_75 : decode cX4_same 75 = .ok (.ireturn, 1) := by decide +kernel
theorem dX4_isAlike_0 : decode cX4_isAlike 0 = .ok (.aload_n 0, 1) := by decide +kernel
theorem dX4_isAlike_1 : decode cX4_isAlike 1 = .ok (.iload_n 1, 1) := by decide +kernel
theorem dX4_isAlike_2 : decode cX4_isAlike 2 = .ok (.invokevirtual 34, 3) := by decide +kernel
theorem dX4_isAlike_5 : decode cX4_isAlike 5 = .ok (.aload_n 0, 1) := by decide +kernel
theorem dX4_isAlike_6 : decode cX4_isAlike 6 = .ok (.iload_n 2, 1) := by decide +kernel
theorem dX4_isAlike_7 : decode cX4_isAlike 7 = .ok (.invokevirtual 34, 3) := by decide +kernel
theorem dX4_isAlike_10 : decode cX4_isAlike 10 = .ok (.if_icmp .ne 33, 3) := by decide +kernel
theorem dX4_isAlike_13 : decode cX4_isAlike 13 = .ok (.aload_n 0, 1) := by decide +kernel
theorem dX4_isAlike_14 : decode cX4_isAlike 14 = .ok (.iload_n 1, 1) := by decide +kernel
theorem dX4_isAlike_15 : decode cX4_isAlike 15 = .ok (.invokevirtual 40, 3) := by decide +kernel
theorem dX4_isAlike_18 : decode cX4_isAlike 18 = .ok (.aload_n 0, 1) := by decide +kernel
theorem dX4_isAlike_19 : decode cX4_isAlike 19 = .ok (.iload_n 2, 1) := by decide +kernel
theorem dX4_isAlike_20 : decode cX4_isAlike 20 = .ok (.invokevirtual 40, 3) := by decide +kernel
theorem dX4_isAlike_23 : decode cX4_isAlike 23 = .ok (.if_icmp .ne 20, 3) := by decide +kernel
theorem dX4_isAlike_26 : decode cX4_isAlike 26 = .ok (.aload_n 0, 1) := by decide +kernel
theorem dX4_isAlike_27 : decode cX4_isAlike 27 = .ok (.iload_n 1, 1) := by decide +kernel
theorem dX4_isAlike_28 : decode cX4_isAlike 28 = .ok (.invokevirtual 71, 3) := by decide +kernel
theorem dX4_isAlike_31 : decode cX4_isAlike 31 = .ok (.aload_n 0, 1) := by decide +kernel
theorem dX4_isAlike_32 : decode cX4_isAlike 32 = .ok (.iload_n 2, 1) := by decide +kernel
theorem dX4_isAlike_33 : decode cX4_isAlike 33 = .ok (.invokevirtual 71, 3) := by decide +kernel
theorem dX4_isAlike_36 : decode cX4_isAlike 36 = .ok (.if_icmp .ne 7, 3) := by decide +kernel
theorem dX4_isAlike_39 : decode cX4_isAlike 39 = .ok (.iconst 1, 1) := by decide +kernel
theorem dX4_isAlike_40 : decode cX4_isAlike 40 = .ok (.goto 4, 3) := by decide +kernel
theorem dX4_isAlike_43 : decode cX4_isAlike 43 = .ok (.iconst 0, 1) := by decide +kernel
theorem dX4_isAlike_44 : decode cX4_isAlike 44 = .ok (.ireturn, 1) := by decide +kernel
theorem dX4_pick_0 : decode cX4_pick 0 = .ok (.iload_n 1, 1) := by decide +kernel
theorem dX4_pick_1 : decode cX4_pick 1 = .ok (.iconst 1, 1) := by decide +kernel
theorem dX4_pick_2 : decode cX4_pick 2 = .ok (.iadd, 1) := by decide +kernel
theorem dX4_pick_3 : decode cX4_pick 3 = .ok (.istore_n 3, 1) := by decide +kernel
theorem dX4_pick_4 : decode cX4_pick 4 = .ok (.aload_n 0, 1) := by decide +kernel
theorem dX4_pick_5 : decode cX4_pick 5 = .ok (.iload_n 1, 1) := by decide +kernel
theorem dX4_pick_6 : decode cX4_pick 6 = .ok (.invokevirtual 34, 3) := by decide +kernel
theorem dX4_pick_9 : decode cX4_pick 9 = .ok (.bipush 8, 2) := by decide +kernel
theorem dX4_pick_11 : decode cX4_pick 11 = .ok (.if_icmp .ne 11, 3) := by decide +kernel
theorem dX4_pick_14 : decode cX4_pick 14 = .ok (.aload_n 0, 1) := by decide +kernel
theorem dX4_pick_15 : decode cX4_pick 15 = .ok (.iload_n 3, 1) := by decide +kernel
theorem dX4_pick_16 : decode cX4_pick 16 = .ok (.invokevirtual 34, 3) := by decide +kernel
theorem dX4_pick_19 : decode cX4_pick 19 = .ok (.ifCond .eq 5, 3) := by decide +kernel
theorem dX4_pick_22 : decode cX4_pick 22 = .ok (.iconst 0, 1) := by decide +kernel
theorem dX4_pick_23 : decode cX4_pick 23 = .ok (.ireturn, 1) := by decide +kernel
theorem dX4_pick_24 : decode cX4_pick 24 = .ok (.aload_n 0, 1) := by decide +kernel
theorem dX4_pick_25 : decode cX4_pick 25 = .ok (.iload_n 3, 1) := by decide +kernel
theorem dX4_pick_26 : decode cX4_pick 26 = .ok (.invokevirtual 47, 3) := by decide +kernel
theorem dX4_pick_29 : decode cX4_pick 29 = .ok (.istore 4, 2) := by decide +kernel
theorem dX4_pick_31 : decode cX4_pick 31 = .ok (.aload_n 0, 1) := by decide +kernel
theorem dX4_pick_32 : decode cX4_pick 32 = .ok (.iload_n 3, 1) := by decide +kernel
theorem dX4_pick_33 : decode cX4_pick 33 = .ok (.invokevirtual 40, 3) := by decide +kernel
theorem dX4_pick_36 : decode cX4_pick 36 = .ok (.istore 5, 2) := by decide +kernel
theorem dX4_pick_38 : decode cX4_pick 38 = .ok (.iload_n 2, 1) := by decide +kernel
theorem dX4_pick_39 : decode cX4_pick 39 = .ok (.iconst 2, 1) := by decide +kernel
theorem dX4_pick_40 : decode cX4_pick 40 = .ok (.if_icmp .eq 21, 3) := by decide +kernel
theorem dX4_pick_43 : decode cX4_pick 43 = .ok (.iload_n 2, 1) := by decide +kernel
theorem dX4_pick_44 : decode cX4_pick 44 = .ok (.iconst 1, 1) := by decide +kernel
theorem dX4_pick_45 : decode cX4_pick 45 = .ok (.if_icmp .ne 11, 3) := by decide +kernel
theorem dX4_pick_48 : decode cX4_pick 48 = .ok (.iload 5, 2) := by decide +kernel
theorem dX4_pick_50 : decode cX4_pick 50 = .ok (.ifCond .le 15, 3) := by decide +kernel
theorem dX4_pick_53 : decode cX4_pick 53 = .ok (.goto 8, 3) := by decide +kernel
theorem dX4_pick_56 : decode cX4_pick 56 = .ok (.iload 5, 2) := by decide +kernel
theorem dX4_pick_58 : decode cX4_pick 58 = .ok (.ifCond .eq 7, 3) := by decide +kernel
theorem dX4_pick_61 : decode cX4_pick 61 = .ok (.iconst 1, 1) := by decide +kernel
theorem dX4_pick_62 : decode cX4_pick 62 = .ok (.goto 4, 3) := by decide +kernel
theorem dX4_pick_65 : decode cX4_pick 65 = .ok (.iconst 0, 1) := by decide +kernel
theorem dX4_pick_66 : decode cX4_pick 66 = .ok (.istore 6, 2) := by decide +kernel
theorem dX4_pick_68 : decode cX4_pick 68 = .ok (.aload_n 0, 1) := by decide +kernel
theorem dX4_pick_69 : decode cX4_pick 69 = .ok (.iload_n 1, 1) := by decide +kernel
theorem dX4_pick_70 : decode cX4_pick 70 = .ok (.iload 6, 2) := by decide +kernel
theorem dX4_pick_72 : decode cX4_pick 72 = .ok (.ifCond .eq 8, 3) := by decide +kernel
theorem dX4_pick_75 : decode cX4_pick 75 = .ok (.iload 4, 2) := by decide +kernel
theorem dX4_pick_77 : decode cX4_pick 77 = .ok (.goto 9, 3) := by decide +kernel
theorem dX4_pick_80 : decode cX4_pick 80 = .ok (.aload_n 0, 1) := by decide +kernel
theorem dX4_pick_81 : decode cX4_pick 81 = .ok (.iload 4, 2) := by decide +kernel
theorem dX4_pick_83 : decode cX4_pick 83 = .ok (.invokevirtual 47, 3) := by decide +kernel
theorem dX4_pick_86 : decode cX4_pick 86 = .ok (.invokevirtual 62, 3) := by decide +kernel
theorem dX4_pick_89 : decode cX4_pick 89 = .ok (.iconst 1, 1) := by decide +kernel
theorem dX4_pick_90 : decode cX4_pick 90 = .ok (.ireturn, 1) := by decide +kernel
theorem dX4_melt_0 : decode cX4_melt 0 = .ok (.aload_n 0, 1) := by decide +kernel
theorem dX4_melt_1 : decode cX4_melt 1 = .ok (.iload_n 1, 1) := by decide +kernel
theorem dX4_melt_2 : decode cX4_melt 2 = .ok (.invokevirtual 34, 3) := by decide +kernel
theorem dX4_melt_5 : decode cX4_melt 5 = .ok (.bipush 8, 2) := by decide +kernel
theorem dX4_melt_7 : decode cX4_melt 7 = .ok (.if_icmp .eq 5, 3) := by decide +kernel
theorem dX4_melt_10 : decode cX4_melt 10 = .ok (.iconst 0, 1) := by decide +kernel
theorem dX4_melt_11 : decode cX4_melt 11 = .ok (.ireturn, 1) := by decide +kernel
theorem dX4_melt_12 : decode cX4_melt 12 = .ok (.iload_n 1, 1) := by decide +kernel
theorem dX4_melt_13 : decode cX4_melt 13 = .ok (.iconst 1, 1) := by decide +kernel
theorem dX4_melt_14 : decode cX4_melt 14 = .ok (.iadd, 1) := by decide +kernel
theorem dX4_melt_15 : decode cX4_melt 15 = .ok (.istore_n 3, 1) := by decide +kernel
theorem dX4_melt_16 : decode cX4_melt 16 = .ok (.aload_n 0, 1) := by decide +kernel
theorem dX4_melt_17 : decode cX4_melt 17 = .ok (.iload_n 3, 1) := by decide +kernel
theorem dX4_melt_18 : decode cX4_melt 18 = .ok (.invokevirtual 47, 3) := by decide +kernel
theorem dX4_melt_21 : decode cX4_melt 21 = .ok (.istore 4, 2) := by decide +kernel
theorem dX4_melt_23 : decode cX4_melt 23 = .ok (.aload_n 0, 1) := by decide +kernel
theorem dX4_melt_24 : decode cX4_melt 24 = .ok (.iload 4, 2) := by decide +kernel
theorem dX4_melt_26 : decode cX4_melt 26 = .ok (.invokevirtual 47, 3) := by decide +kernel
theorem dX4_melt_29 : decode cX4_melt 29 = .ok (.istore 5, 2) := by decide +kernel
theorem dX4_melt_31 : decode cX4_melt 31 = .ok (.iload_n 2, 1) := by decide +kernel
theorem dX4_melt_32 : decode cX4_melt 32 = .ok (.iconst 1, 1) := by decide +kernel
theorem dX4_melt_33 : decode cX4_melt 33 = .ok (.if_icmp .ne 26, 3) := by decide +kernel
theorem dX4_melt_36 : decode cX4_melt 36 = .ok (.aload_n 0, 1) := by decide +kernel
theorem dX4_melt_37 : decode cX4_melt 37 = .ok (.iload 4, 2) := by decide +kernel
theorem dX4_melt_39 : decode cX4_melt 39 = .ok (.invokevirtual 71, 3) := by decide +kernel
theorem dX4_melt_42 : decode cX4_melt 42 = .ok (.aload_n 0, 1) := by decide +kernel
theorem dX4_melt_43 : decode cX4_melt 43 = .ok (.iload 5, 2) := by decide +kernel
theorem dX4_melt_45 : decode cX4_melt 45 = .ok (.invokevirtual 71, 3) := by decide +kernel
theorem dX4_melt_48 : decode cX4_melt 48 = .ok (.if_icmp .ne 7, 3) := by decide +kernel
theorem dX4_melt_51 : decode cX4_melt 51 = .ok (.iconst 1, 1) := by decide +kernel
theorem dX4_melt_52 : decode cX4_melt 52 = .ok (.goto 15, 3) := by decide +kernel
theorem dX4_melt_55 : decode cX4_melt 55 = .ok (.iconst 0, 1) := by decide +kernel
theorem dX4_melt_56 : decode cX4_melt 56 = .ok (.goto 11, 3) := by decide +kernel
theorem dX4_melt_59 : decode cX4_melt 59 = .ok (.aload_n 0, 1) := by decide +kernel
theorem dX4_melt_60 : decode cX4_melt 60 = .ok (.iload 4, 2) := by decide +kernel
theorem dX4_melt_62 : decode cX4_melt 62 = .ok (.iload 5, 2) := by decide +kernel
theorem dX4_melt_64 : decode cX4_melt 64 = .ok (.invokevirtual 68, 3) := by decide +kernel
theorem dX4_melt_67 : decode cX4_melt 67 = .ok (.istore 6, 2) := by decide +kernel
theorem dX4_melt_69 : decode cX4_melt 69 = .ok (.iload 6, 2) := by decide +kernel
theorem dX4_melt_71 : decode cX4_melt 71 = .ok (.ifCond .ne 20, 3) := by decide +kernel
theorem dX4_melt_74 : decode cX4_melt 74 = .ok (.iload_n 2, 1) := by decide +kernel
theorem dX4_melt_75 : decode cX4_melt 75 = .ok (.iconst 2, 1) := by decide +kernel
theorem dX4_melt_76 : decode cX4_melt 76 = .ok (.if_icmp .ne 13, 3) := by decide +kernel
theorem dX4_melt_79 : decode cX4_melt 79 = .ok (.aload_n 0, 1) := by decide +kernel
theorem dX4_melt_80 : decode cX4_melt 80 = .ok (.iload_n 3, 1) := by decide +kernel
theorem dX4_melt_81 : decode cX4_melt 81 = .ok (.iload 4, 2) := by decide +kernel
theorem dX4_melt_83 : decode cX4_melt 83 = .ok (.invokevirtual 68, 3) := by decide +kernel
theorem dX4_melt_86 : decode cX4_melt 86 = .ok (.ifCond .ne 5, 3) := by decide +kernel
theorem dX4_melt_89 : decode cX4_melt 89 = .ok (.iconst 0, 1) := by decide +kernel
theorem dX4_melt_90 : decode cX4_melt 90 = .ok (.ireturn, 1) := by decide +kernel
theorem dX4_melt_91 : decode cX4_melt 91 = .ok (.aload_n 0, 1) := by decide +kernel
theorem dX4_melt_92 : decode cX4_melt 92 = .ok (.iload_n 1, 1) := by decide +kernel
theorem dX4_melt_93 : decode cX4_melt 93 = .ok (.iload 4, 2) := by decide +kernel
theorem dX4_melt_95 : decode cX4_melt 95 = .ok (.invokevirtual 62, 3) := by decide +kernel
theorem dX4_melt_98 : decode cX4_melt 98 = .ok (.iconst 1, 1) := by decide +kernel
theorem dX4_melt_99 : decode cX4_melt 99 = .ok (.ireturn, 1) := by decide +kernel
theorem dX4_twice_0 : decode cX4_twice 0 = .ok (.iload_n 1, 1) := by decide +kernel
theorem dX4_twice_1 : decode cX4_twice 1 = .ok (.iconst 1, 1) := by decide +kernel
theorem dX4_twice_2 : decode cX4_twice 2 = .ok (.iadd, 1) := by decide +kernel
theorem dX4_twice_3 : decode cX4_twice 3 = .ok (.istore 4, 2) := by decide +kernel
theorem dX4_twice_5 : decode cX4_twice 5 = .ok (.aload_n 0, 1) := by decide +kernel
theorem dX4_twice_6 : decode cX4_twice 6 = .ok (.iload 4, 2) := by decide +kernel
theorem dX4_twice_8 : decode cX4_twice 8 = .ok (.invokevirtual 47, 3) := by decide +kernel
theorem dX4_twice_11 : decode cX4_twice 11 = .ok (.istore 5, 2) := by decide +kernel
theorem dX4_twice_13 : decode cX4_twice 13 = .ok (.aload_n 0, 1) := by decide +kernel
theorem dX4_twice_14 : decode cX4_twice 14 = .ok (.iload_n 1, 1) := by decide +kernel
theorem dX4_twice_15 : decode cX4_twice 15 = .ok (.invokevirtual 34, 3) := by decide +kernel
theorem dX4_twice_18 : decode cX4_twice 18 = .ok (.istore 6, 2) := by decide +kernel
theorem dX4_twice_20 : decode cX4_twice 20 = .ok (.iconst (-1), 1) := by decide +kernel
theorem dX4_twice_21 : decode cX4_twice 21 = .ok (.istore 7, 2) := by decide +kernel
theorem dX4_twice_23 : decode cX4_twice 23 = .ok (.iload 6, 2) := by decide +kernel
theorem dX4_twice_25 : decode cX4_twice 25 = .ok (.bipush 6, 2) := by decide +kernel
theorem dX4_twice_27 : decode cX4_twice 27 = .ok (.if_icmp .ne 38, 3) := by decide +kernel
theorem dX4_twice_30 : decode cX4_twice 30 = .ok (.aload_n 0, 1) := by decide +kernel
theorem dX4_twice_31 : decode cX4_twice 31 = .ok (.iload 4, 2) := by decide +kernel
theorem dX4_twice_33 : decode cX4_twice 33 = .ok (.iload 5, 2) := by decide +kernel
theorem dX4_twice_35 : decode cX4_twice 35 = .ok (.iconst 2, 1) := by decide +kernel
theorem dX4_twice_36 : decode cX4_twice 36 = .ok (.invokestatic 74, 3) := by decide +kernel
theorem dX4_twice_39 : decode cX4_twice 39 = .ok (.istore 7, 2) := by decide +kernel
theorem dX4_twice_41 : decode cX4_twice 41 = .ok (.iload 7, 2) := by decide +kernel
theorem dX4_twice_43 : decode cX4_twice 43 = .ok (.ifCond .ge 48, 3) := by decide +kernel
theorem dX4_twice_46 : decode cX4_twice 46 = .ok (.iload_n 2, 1) := by decide +kernel
theorem dX4_twice_47 : decode cX4_twice 47 = .ok (.iconst 1, 1) := by decide +kernel
theorem dX4_twice_48 : decode cX4_twice 48 = .ok (.if_icmp .ne 43, 3) := by decide +kernel
theorem dX4_twice_51 : decode cX4_twice 51 = .ok (.aload_n 0, 1) := by decide +kernel
theorem dX4_twice_52 : decode cX4_twice 52 = .ok (.iload 4, 2) := by decide +kernel
theorem dX4_twice_54 : decode cX4_twice 54 = .ok (.iload 5, 2) := by decide +kernel
theorem dX4_twice_56 : decode cX4_twice 56 = .ok (.iconst 3, 1) := by decide +kernel
theorem dX4_twice_57 : decode cX4_twice 57 = .ok (.invokestatic 74, 3) := by decide +kernel
theorem dX4_twice_60 : decode cX4_twice 60 = .ok (.istore 7, 2) := by decide +kernel
theorem dX4_twice_62 : decode cX4_twice 62 = .ok (.goto 29, 3) := by decide +kernel
theorem dX4_twice_65 : decode cX4_twice 65 = .ok (.iload 6, 2) := by decide +kernel
theorem dX4_twice_67 : decode cX4_twice 67 = .ok (.bipush 7, 2) := by decide +kernel
theorem dX4_twice_69 : decode cX4_twice 69 = .ok (.if_icmp .ne 22, 3) := by decide +kernel
theorem dX4_twice_72 : decode cX4_twice 72 = .ok (.iload_n 2, 1) := by decide +kernel
theorem dX4_twice_73 : decode cX4_twice 73 = .ok (.iconst 2, 1) := by decide +kernel
theorem dX4_twice_74 : decode cX4_twice 74 = .ok (.if_icmp .ne 17, 3) := by decide +kernel
theorem dX4_twice_77 : decode cX4_twice 77 = .ok (.aload_n 0, 1) := by decide +kernel
theorem dX4_twice_78 : decode cX4_twice 78 = .ok (.iload 5, 2) := by decide +kernel
theorem dX4_twice_80 : decode cX4_twice 80 = .ok (.iconst 2, 1) := by decide +kernel
theorem dX4_twice_81 : decode cX4_twice 81 = .ok (.invokevirtual 54, 3) := by decide +kernel
theorem dX4_twice_84 : decode cX4_twice 84 = .ok (.ifCond .eq 7, 3) := by decide +kernel
theorem dX4_twice_87 : decode cX4_twice 87 = .ok (.iload 4, 2) := by decide +kernel
theorem dX4_twice_89 : decode cX4_twice 89 = .ok (.istore 7, 2) := by decide +kernel
theorem dX4_twice_91 : decode cX4_twice 91 = .ok (.iload 7, 2) := by decide +kernel
theorem dX4_twice_93 : decode cX4_twice 93 = .ok (.ifCond .lt 24, 3) := by decide +kernel
theorem dX4_twice_96 : decode cX4_twice 96 = .ok (.aload_n 0, 1) := by decide +kernel
theorem dX4_twice_97 : decode cX4_twice 97 = .ok (.getfield 77, 3) := by decide +kernel
theorem dX4_twice_100 : decode cX4_twice 100 = .ok (.iload_n 3, 1) := by decide +kernel
theorem dX4_twice_101 : decode cX4_twice 101 = .ok (.iadd, 1) := by decide +kernel
theorem dX4_twice_102 : decode cX4_twice 102 = .ok (.aload_n 0, 1) := by decide +kernel
theorem dX4_twice_103 : decode cX4_twice 103 = .ok (.iload 7, 2) := by decide +kernel
theorem dX4_twice_105 : decode cX4_twice 105 = .ok (.invokevirtual 71, 3) := by decide +kernel
theorem dX4_twice_108 : decode cX4_twice 108 = .ok (.iadd, 1) := by decide +kernel
theorem dX4_twice_109 : decode cX4_twice 109 = .ok (.iconst 1, 1) := by decide +kernel
theorem dX4_twice_110 : decode cX4_twice 110 = .ok (.isub, 1) := by decide +kernel
theorem dX4_twice_111 : decode cX4_twice 111 = .ok (.sipush 200, 3) := by decide +kernel
theorem dX4_twice_114 : decode cX4_twice 114 = .ok (.if_icmp .le 5, 3) := by decide +kernel
theorem dX4_twice_117 : decode cX4_twice 117 = .ok (.iconst 0, 1) := by decide +kernel
theorem dX4_twice_118 : decode cX4_twice 118 = .ok (.ireturn, 1) := by decide +kernel
theorem dX4_twice_119 : decode cX4_twice 119 = .ok (.aload_n 0, 1) := by decide +kernel
theorem dX4_twice_120 : decode cX4_twice 120 = .ok (.iload_n 1, 1) := by decide +kernel
theorem dX4_twice_121 : decode cX4_twice 121 = .ok (.iload 7, 2) := by decide +kernel
theorem dX4_twice_123 : decode cX4_twice 123 = .ok (.invokevirtual 62, 3) := by decide +kernel
theorem dX4_twice_126 : decode cX4_twice 126 = .ok (.aload_n 0, 1) := by decide +kernel
theorem dX4_twice_127 : decode cX4_twice 127 = .ok (.iload_n 1, 1) := by decide +kernel
theorem dX4_twice_128 : decode cX4_twice 128 = .ok (.invokevirtual 71, 3) := by decide +kernel
theorem dX4_twice_131 : decode cX4_twice 131 = .ok (.istore 8, 2) := by decide +kernel
theorem dX4_twice_133 : decode cX4_twice 133 = .ok (.aload_n 0, 1) := by decide +kernel
theorem dX4_twice_134 : decode cX4_twice 134 = .ok (.iload_n 1, 1) := by decide +kernel
theorem dX4_twice_135 : decode cX4_twice 135 = .ok (.iload 6, 2) := by decide +kernel
theorem dX4_twice_137 : decode cX4_twice 137 = .ok (.bipush 6, 2) := by decide +kernel
theorem dX4_twice_139 : decode cX4_twice 139 = .ok (.if_icmp .ne 7, 3) := by decide +kernel
theorem dX4_twice_142 : decode cX4_twice 142 = .ok (.iconst 4, 1) := by decide +kernel
theorem dX4_twice_143 : decode cX4_twice 143 = .ok (.goto 4, 3) := by decide +kernel
theorem dX4_twice_146 : decode cX4_twice 146 = .ok (.iconst 5, 1) := by decide +kernel
theorem dX4_twice_147 : decode cX4_twice 147 = .ok (.iconst 0, 1) := by decide +kernel
theorem dX4_twice_148 : decode cX4_twice 148 = .ok (.invokevirtual 81, 3) := by decide +kernel
theorem dX4_twice_151 : decode cX4_twice 151 = .ok (.aload_n 0, 1) := by decide +kernel
theorem dX4_twice_152 : decode cX4_twice 152 = .ok (.aload_n 0, 1) := by decide +kernel
theorem dX4_twice_153 : decode cX4_twice 153 = .ok (.iload_n 1, 1) := by decide +kernel
theorem dX4_twice_154 : decode cX4_twice 154 = .ok (.iconst 1, 1) := by decide +kernel
theorem dX4_twice_155 : decode cX4_twice 155 = .ok (.iadd, 1) := by decide +kernel
theorem dX4_twice_156 : decode cX4_twice 156 = .ok (.iload 8, 2) := by decide +kernel
theorem dX4_twice_158 : decode cX4_twice 158 = .ok (.invokevirtual 85, 3) := by decide +kernel
theorem dX4_twice_161 : decode cX4_twice 161 = .ok (.aload_n 0, 1) := by decide +kernel
theorem dX4_twice_162 : decode cX4_twice 162 = .ok (.iload_n 1, 1) := by decide +kernel
theorem dX4_twice_163 : decode cX4_twice 163 = .ok (.invokevirtual 89, 3) := by decide +kernel
theorem dX4_twice_166 : decode cX4_twice 166 = .ok (.iconst 1, 1) := by decide +kernel
theorem dX4_twice_167 : decode cX4_twice 167 = .ok (.ireturn, 1) := by decide +kernel
theorem dX4_otherThan_0 : decode cX4_otherThan 0 = .ok (.aload_n 0, 1) := by decide +kernel
theorem dX4_otherThan_1 : decode cX4_otherThan 1 = .ok (.iload_n 2, 1) := by decide +kernel
theorem dX4_otherThan_2 : decode cX4_otherThan 2 = .ok (.iload_n 3, 1) := by decide +kernel
theorem dX4_otherThan_3 : decode cX4_otherThan 3 = .ok (.invokevirtual 54, 3) := by decide +kernel
theorem dX4_otherThan_6 : decode cX4_otherThan 6 = .ok (.ifCond .eq 7, 3) := by decide +kernel
theorem dX4_otherThan_9 : decode cX4_otherThan 9 = .ok (.iload_n 1, 1) := by decide +kernel
theorem dX4_otherThan_10 : decode cX4_otherThan 10 = .ok (.goto 17, 3) := by decide +kernel
theorem dX4_otherThan_13 : decode cX4_otherThan 13 = .ok (.aload_n 0, 1) := by decide +kernel
theorem dX4_otherThan_14 : decode cX4_otherThan 14 = .ok (.iload_n 1, 1) := by decide +kernel
theorem dX4_otherThan_15 : decode cX4_otherThan 15 = .ok (.iload_n 3, 1) := by decide +kernel
theorem dX4_otherThan_16 : decode cX4_otherThan 16 = .ok (.invokevirtual 54, 3) := by decide +kernel
theorem dX4_otherThan_19 : decode cX4_otherThan 19 = .ok (.ifCond .eq 7, 3) := by decide +kernel
theorem dX4_otherThan_22 : decode cX4_otherThan 22 = .ok (.iload_n 2, 1) := by decide +kernel
theorem dX4_otherThan_23 : decode cX4_otherThan 23 = .ok (.goto 4, 3) := by decide +kernel
theorem dX4_otherThan_26 : decode cX4_otherThan 26 = .ok (.iconst (-1), 1) := by decide +kernel
theorem dX4_otherThan_27 : decode cX4_otherThan 27 = .ok (.ireturn, 1) := by decide +kernel
theorem dX4_sink_0 : decode cX4_sink 0 = .ok (.aload_n 0, 1) := by decide +kernel
theorem dX4_sink_1 : decode cX4_sink 1 = .ok (.iload_n 1, 1) := by decide +kernel
theorem dX4_sink_2 : decode cX4_sink 2 = .ok (.invokevirtual 34, 3) := by decide +kernel
theorem dX4_sink_5 : decode cX4_sink 5 = .ok (.istore_n 3, 1) := by decide +kernel
theorem dX4_sink_6 : decode cX4_sink 6 = .ok (.iload_n 1, 1) := by decide +kernel
theorem dX4_sink_7 : decode cX4_sink 7 = .ok (.iconst 1, 1) := by decide +kernel
theorem dX4_sink_8 : decode cX4_sink 8 = .ok (.iadd, 1) := by decide +kernel
theorem dX4_sink_9 : decode cX4_sink 9 = .ok (.istore 4, 2) := by decide +kernel
theorem dX4_sink_11 : decode cX4_sink 11 = .ok (.iload_n 3, 1) := by decide +kernel
theorem dX4_sink_12 : decode cX4_sink 12 = .ok (.iconst 3, 1) := by decide +kernel
theorem dX4_sink_13 : decode cX4_sink 13 = .ok (.if_icmp .ne 24, 3) := by decide +kernel
theorem dX4_sink_16 : decode cX4_sink 16 = .ok (.aload_n 0, 1) := by decide +kernel
theorem dX4_sink_17 : decode cX4_sink 17 = .ok (.iload 4, 2) := by decide +kernel
theorem dX4_sink_19 : decode cX4_sink 19 = .ok (.invokevirtual 34, 3) := by decide +kernel
theorem dX4_sink_22 : decode cX4_sink 22 = .ok (.iconst 3, 1) := by decide +kernel
theorem dX4_sink_23 : decode cX4_sink 23 = .ok (.if_icmp .ne 14, 3) := by decide +kernel
theorem dX4_sink_26 : decode cX4_sink 26 = .ok (.aload_n 0, 1) := by decide +kernel
theorem dX4_sink_27 : decode cX4_sink 27 = .ok (.iload_n 1, 1) := by decide +kernel
theorem dX4_sink_28 : decode cX4_sink 28 = .ok (.iload 4, 2) := by decide +kernel
theorem dX4_sink_30 : decode cX4_sink 30 = .ok (.iconst 1, 1) := by decide +kernel
theorem dX4_sink_31 : decode cX4_sink 31 = .ok (.iadd, 1) := by decide +kernel
theorem dX4_sink_32 : decode cX4_sink 32 = .ok (.invokevirtual 62, 3) := by decide +kernel
theorem dX4_sink_35 : decode cX4_sink 35 = .ok (.iconst 1, 1) := by decide +kernel
theorem dX4_sink_36 : decode cX4_sink 36 = .ok (.ireturn, 1) := by decide +kernel
theorem dX4_sink_37 : decode cX4_sink 37 = .ok (.iload_n 3, 1) := by decide +kernel
theorem dX4_sink_38 : decode cX4_sink 38 = .ok (.iconst 4, 1) := by decide +kernel
theorem dX4_sink_39 : decode cX4_sink 39 = .ok (.if_icmp .eq 10, 3) := by decide +kernel
theorem dX4_sink_42 : decode cX4_sink 42 = .ok (.iload_n 3, 1) := by decide +kernel
theorem dX4_sink_43 : decode cX4_sink 43 = .ok (.iconst 5, 1) := by decide +kernel
theorem dX4_sink_44 : decode cX4_sink 44 = .ok (.if_icmp .eq 5, 3) := by decide +kernel
theorem dX4_sink_47 : decode cX4_sink 47 = .ok (.iconst 0, 1) := by decide +kernel
theorem dX4_sink_48 : decode cX4_sink 48 = .ok (.ireturn, 1) := by decide +kernel
theorem dX4_sink_49 : decode cX4_sink 49 = .ok (.aload_n 0, 1) := by decide +kernel
theorem dX4_sink_50 : decode cX4_sink 50 = .ok (.iload 4, 2) := by decide +kernel
theorem dX4_sink_52 : decode cX4_sink 52 = .ok (.invokevirtual 47, 3) := by decide +kernel
theorem dX4_sink_55 : decode cX4_sink 55 = .ok (.istore 5, 2) := by decide +kernel
theorem dX4_sink_57 : decode cX4_sink 57 = .ok (.aload_n 0, 1) := by decide +kernel
theorem dX4_sink_58 : decode cX4_sink 58 = .ok (.iload 5, 2) := by decide +kernel
theorem dX4_sink_60 : decode cX4_sink 60 = .ok (.invokevirtual 34, 3) := by decide +kernel
theorem dX4_sink_63 : decode cX4_sink 63 = .ok (.iconst 3, 1) := by decide +kernel
theorem dX4_sink_64 : decode cX4_sink 64 = .ok (.if_icmp .ne 32, 3) := by decide +kernel
theorem dX4_sink_67 : decode cX4_sink 67 = .ok (.aload_n 0, 1) := by decide +kernel
theorem dX4_sink_68 : decode cX4_sink 68 = .ok (.iload 5, 2) := by decide +kernel
theorem dX4_sink_70 : decode cX4_sink 70 = .ok (.iconst 1, 1) := by decide +kernel
theorem dX4_sink_71 : decode cX4_sink 71 = .ok (.invokevirtual 93, 3) := by decide +kernel
theorem dX4_sink_74 : decode cX4_sink 74 = .ok (.aload_n 0, 1) := by decide +kernel
theorem dX4_sink_75 : decode cX4_sink 75 = .ok (.iload_n 1, 1) := by decide +kernel
theorem dX4_sink_76 : decode cX4_sink 76 = .ok (.iload_n 3, 1) := by decide +kernel
theorem dX4_sink_77 : decode cX4_sink 77 = .ok (.iconst 4, 1) := by decide +kernel
theorem dX4_sink_78 : decode cX4_sink 78 = .ok (.if_icmp .eq 8, 3) := by decide +kernel
theorem dX4_sink_81 : decode cX4_sink 81 = .ok (.iload_n 2, 1) := by decide +kernel
theorem dX4_sink_82 : decode cX4_sink 82 = .ok (.iconst 2, 1) := by decide +kernel
theorem dX4_sink_83 : decode cX4_sink 83 = .ok (.if_icmp .ne 7, 3) := by decide +kernel
theorem dX4_sink_86 : decode cX4_sink 86 = .ok (.iconst 5, 1) := by decide +kernel
theorem dX4_sink_87 : decode cX4_sink 87 = .ok (.goto 4, 3) := by decide +kernel
theorem dX4_sink_90 : decode cX4_sink 90 = .ok (.iconst 4, 1) := by decide +kernel
theorem dX4_sink_91 : decode cX4_sink 91 = .ok (.invokevirtual 96, 3) := by decide +kernel
theorem dX4_sink_94 : decode cX4_sink 94 = .ok (.iconst 1, 1) := by decide +kernel
theorem dX4_sink_95 : decode cX4_sink 95 = .ok (.ireturn, 1) := by decide +kernel
theorem dX4_sink_96 : decode cX4_sink 96 = .ok (.iload_n 3, 1) := by decide +kernel
theorem dX4_sink_97 : decode cX4_sink 97 = .ok (.iconst 4, 1) := by decide +kernel
theorem dX4_sink_98 : decode cX4_sink 98 = .ok (.if_icmp .ne 33, 3) := by decide +kernel
theorem dX4_sink_101 : decode cX4_sink 101 = .ok (.iload_n 2, 1) := by decide +kernel
theorem dX4_sink_102 : decode cX4_sink 102 = .ok (.iconst 1, 1) := by decide +kernel
theorem dX4_sink_103 : decode cX4_sink 103 = .ok (.if_icmp .ne 28, 3) := by decide +kernel
theorem dX4_sink_106 : decode cX4_sink 106 = .ok (.aload_n 0, 1) := by decide +kernel
theorem dX4_sink_107 : decode cX4_sink 107 = .ok (.iload 4, 2) := by decide +kernel
theorem dX4_sink_109 : decode cX4_sink 109 = .ok (.invokevirtual 34, 3) := by decide +kernel
theorem dX4_sink_112 : decode cX4_sink 112 = .ok (.iconst 3, 1) := by decide +kernel
theorem dX4_sink_113 : decode cX4_sink 113 = .ok (.if_icmp .ne 18, 3) := by decide +kernel
theorem dX4_sink_116 : decode cX4_sink 116 = .ok (.aload_n 0, 1) := by decide +kernel
theorem dX4_sink_117 : decode cX4_sink 117 = .ok (.iload 4, 2) := by decide +kernel
theorem dX4_sink_119 : decode cX4_sink 119 = .ok (.iconst 1, 1) := by decide +kernel
theorem dX4_sink_120 : decode cX4_sink 120 = .ok (.invokevirtual 93, 3) := by decide +kernel
theorem dX4_sink_123 : decode cX4_sink 123 = .ok (.aload_n 0, 1) := by decide +kernel
theorem dX4_sink_124 : decode cX4_sink 124 = .ok (.iload_n 1, 1) := by decide +kernel
theorem dX4_sink_125 : decode cX4_sink 125 = .ok (.iconst 5, 1) := by decide +kernel
theorem dX4_sink_126 : decode cX4_sink 126 = .ok (.invokevirtual 96, 3) := by decide +kernel
theorem dX4_sink_129 : decode cX4_sink 129 = .ok (.iconst 1, 1) := by decide +kernel
theorem dX4_sink_130 : decode cX4_sink 130 = .ok (.ireturn, 1) := by decide +kernel
theorem dX4_sink_131 : decode cX4_sink 131 = .ok (.iconst 0, 1) := by decide +kernel
theorem dX4_sink_132 : decode cX4_sink 132 = .ok (.ireturn, 1) := by decide +kernel
theorem dX5_init_0 : decode cX5_init 0 = .ok (.aload_n 0, 1) := by decide +kernel
theorem dX5_init_1 : decode cX5_init 1 = .ok (.invokespecial 3, 3) := by decide +kernel
theorem dX5_init_4 : decode cX5_init 4 = .ok (.aload_n 0, 1) := by decide +kernel
theorem dX5_init_5 : decode cX5_init 5 = .ok (.sipush 200, 3) := by decide +kernel
theorem dX5_init_8 : decode cX5_init 8 = .ok (.newarray .int, 2) := by decide +kernel
theorem dX5_init_10 : decode cX5_init 10 = .ok (.putfield 9, 3) := by decide +kernel
theorem dX5_init_13 : decode cX5_init 13 = .ok (.aload_n 0, 1) := by decide +kernel
theorem dX5_init_14 : decode cX5_init 14 = .ok (.sipush 200, 3) := by decide +kernel
theorem dX5_init_17 : decode cX5_init 17 = .ok (.newarray .int, 2) := by decide +kernel
theorem dX5_init_19 : decode cX5_init 19 = .ok (.putfield 15, 3) := by decide +kernel
theorem dX5_init_22 : decode cX5_init 22 = .ok (.aload_n 0, 1) := by decide +kernel
theorem dX5_init_23 : decode cX5_init 23 = .ok (.sipush 200, 3) := by decide +kernel
theorem dX5_init_26 : decode cX5_init 26 = .ok (.newarray .int, 2) := by decide +kernel
theorem dX5_init_28 : decode cX5_init 28 = .ok (.putfield 18, 3) := by decide +kernel
theorem dX5_init_31 : decode cX5_init 31 = .ok (.aload_n 0, 1) := by decide +kernel
theorem dX5_init_32 : decode cX5_init 32 = .ok (.iconst 0, 1) := by decide +kernel
theorem dX5_init_33 : decode cX5_init 33 = .ok (.putfield 21, 3) := by decide +kernel
theorem dX5_init_36 : decode cX5_init 36 = .ok (.return_, 1) := by decide +kernel
theorem dX5_has_0 : decode cX5_has 0 = .ok (.iload_n 1, 1) := by decide +kernel
theorem dX5_has_1 : decode cX5_has 1 = .ok (.ifCond .lt 15, 3) := by decide +kernel
theorem dX5_has_4 : decode cX5_has 4 = .ok (.iload_n 1, 1) := by decide +kernel
theorem dX5_has_5 : decode cX5_has 5 = .ok (.aload_n 0, 1) := by decide +kernel
theorem dX5_has_6 : decode cX5_has 6 = .ok (.getfield 21, 3) := by decide +kernel
theorem dX5_has_9 : decode cX5_has 9 = .ok (.if_icmp .ge 7, 3) := by decide +kernel
theorem dX5_has_12 : decode cX5_has 12 = .ok (.iconst 1, 1) := by decide +kernel
theorem dX5_has_13 : decode cX5_has 13 = .ok (.goto 4, 3) := by decide +kernel
theorem dX5_has_16 : decode cX5_has 16 = .ok (.iconst 0, 1) := by decide +kernel
theorem dX5_has_17 : decode cX5_has 17 = .ok (.ireturn, 1) := by decide +kernel
theorem dX5_kindOf_0 : decode cX5_kindOf 0 = .ok (.iload_n 1, 1) := by decide +kernel
theorem dX5_kindOf_1 : decode cX5_kindOf 1 = .ok (.ifCond .lt 20, 3) := by decide +kernel
theorem dX5_kindOf_4 : decode cX5_kindOf 4 = .ok (.iload_n 1, 1) := by decide +kernel
theorem dX5_kindOf_5 : decode cX5_kindOf 5 = .ok (.aload_n 0, 1) := by decide +kernel
theorem dX5_kindOf_6 : decode cX5_kindOf 6 = .ok (.getfield 21, 3) := by decide +kernel
theorem dX5_kindOf_9 : decode cX5_kindOf 9 = .ok (.if_icmp .ge 12, 3) := by decide +kernel
theorem dX5_kindOf_12 : decode cX5_kindOf 12 = .ok (.aload_n 0, 1) := by decide +kernel
theorem dX5_kindOf_13 : decode cX5_kindOf 13 = .ok (.getfield 9, 3) := by decide +kernel
theorem dX5_kindOf_16 : decode cX5_kindOf 16 = .ok (.iload_n 1, 1) := by decide +kernel
theorem dX5_kindOf_17 : decode cX5_kindOf 17 = .ok (.iaload, 1) := by decide +kernel
theorem dX5_kindOf_18 : decode cX5_kindOf 18 = .ok (.goto 4, 3) := by decide +kernel
theorem dX5_kindOf_21 : decode cX5_kindOf 21 = .ok (.iconst 0, 1) := by decide +kernel
theorem dX5_kindOf_22 : decode cX5_kindOf 22 = .ok (.ireturn, 1) := by decide +kernel
theorem dX5_numberOf_0 : decode cX5_numberOf 0 = .ok (.iload_n 1, 1) := by decide +kernel
theorem dX5_numberOf_1 : decode cX5_numberOf 1 = .ok (.ifCond .lt 20, 3) := by decide +kernel
theorem dX5_numberOf_4 : decode cX5_numberOf 4 = .ok (.iload_n 1, 1) := by decide +kernel
theorem dX5_numberOf_5 : decode cX5_numberOf 5 = .ok (.aload_n 0, 1) := by decide +kernel
theorem dX5_numberOf_6 : decode cX5_numberOf 6 = .ok (.getfield 21, 3) := by decide +kernel
theorem dX5_numberOf_9 : decode cX5_numberOf 9 = .ok (.if_icmp .ge 12, 3) := by decide +kernel
theorem dX5_numberOf_12 : decode cX5_numberOf 12 = .ok (.aload_n 0, 1) := by decide +kernel
theorem dX5_numberOf_13 : decode cX5_numberOf 13 = .ok (.getfield 15, 3) := by decide +kernel
theorem dX5_numberOf_16 : decode cX5_numberOf 16 = .ok (.iload_n 1, 1) := by decide +kernel
theorem dX5_numberOf_17 : decode cX5_numberOf 17 = .ok (.iaload, 1) := by decide +kernel
theorem dX5_numberOf_18 : decode cX5_numberOf 18 = .ok (.goto 4, 3) := by decide +kernel
theorem dX5_numberOf_21 : decode cX5_numberOf 21 = .ok (.iconst 0, 1) := by decide +kernel
theorem dX5_numberOf_22 : decode cX5_numberOf 22 = .ok (.ireturn, 1) := by decide +kernel
theorem dX5_sizeOf_0 : decode cX5_sizeOf 0 = .ok (.iload_n 1, 1) := by decide +kernel
theorem dX5_sizeOf_1 : decode cX5_sizeOf 1 = .ok (.ifCond .lt 20, 3) := by decide +kernel
theorem dX5_sizeOf_4 : decode cX5_sizeOf 4 = .ok (.iload_n 1, 1) := by decide +kernel
theorem dX5_sizeOf_5 : decode cX5_sizeOf 5 = .ok (.aload_n 0, 1) := by decide +kernel
theorem dX5_sizeOf_6 : decode cX5_sizeOf 6 = .ok (.getfield 21, 3) := by decide +kernel
theorem dX5_sizeOf_9 : decode cX5_sizeOf 9 = .ok (.if_icmp .ge 12, 3) := by decide +kernel
theorem dX5_sizeOf_12 : decode cX5_sizeOf 12 = .ok (.aload_n 0, 1) := by decide +kernel
theorem dX5_sizeOf_13 : decode cX5_sizeOf 13 = .ok (.getfield 18, 3) := by decide +kernel
theorem dX5_sizeOf_16 : decode cX5_sizeOf 16 = .ok (.iload_n 1, 1) := by decide +kernel
theorem dX5_sizeOf_17 : decode cX5_sizeOf 17 = .ok (.iaload, 1) := by decide +kernel
theorem dX5_sizeOf_18 : decode cX5_sizeOf 18 = .ok (.goto 4, 3) := by decide +kernel
theorem dX5_sizeOf_21 : decode cX5_sizeOf 21 = .ok (.iconst 0, 1) := by decide +kernel
theorem dX5_sizeOf_22 : decode cX5_sizeOf 22 = .ok (.ireturn, 1) := by decide +kernel
theorem dX5_behind_0 : decode cX5_behind 0 = .ok (.iload_n 1, 1) := by decide +kernel
theorem dX5_behind_1 : decode cX5_behind 1 = .ok (.ifCond .lt 22, 3) := by decide +kernel
theorem dX5_behind_4 : decode cX5_behind 4 = .ok (.iload_n 1, 1) := by decide +kernel
theorem dX5_behind_5 : decode cX5_behind 5 = .ok (.aload_n 0, 1) := by decide +kernel
theorem dX5_behind_6 : decode cX5_behind 6 = .ok (.getfield 21, 3) := by decide +kernel
theorem dX5_behind_9 : decode cX5_behind 9 = .ok (.if_icmp .ge 14, 3) := by decide +kernel
theorem dX5_behind_12 : decode cX5_behind 12 = .ok (.iload_n 1, 1) := by decide +kernel
theorem dX5_behind_13 : decode cX5_behind 13 = .ok (.aload_n 0, 1) := by decide +kernel
theorem dX5_behind_14 : decode cX5_behind 14 = .ok (.getfield 18, 3) := by decide +kernel
theorem dX5_behind_17 : decode cX5_behind 17 = .ok (.iload_n 1, 1) := by decide +kernel
theorem dX5_behind_18 : decode cX5_behind 18 = .ok (.iaload, 1) := by decide +kernel
theorem dX5_behind_19 : decode cX5_behind 19 = .ok (.iadd, 1) := by decide +kernel
theorem dX5_behind_20 : decode cX5_behind 20 = .ok (.goto 7, 3) := by decide +kernel
theorem dX5_behind_23 : decode cX5_behind 23 = .ok (.aload_n 0, 1) := by decide +kernel
theorem dX5_behind_24 : decode cX5_behind 24 = .ok (.getfield 21, 3) := by decide +kernel
theorem dX5_behind_27 : decode cX5_behind 27 = .ok (.ireturn, 1) := by decide +kernel
theorem dX5_isNumber_0 : decode cX5_isNumber 0 = .ok (.iload_n 1, 1) := by decide +kernel
theorem dX5_isNumber_1 : decode cX5_isNumber 1 = .ok (.ifCond .lt 34, 3) := by decide +kernel
theorem dX5_isNumber_4 : decode cX5_isNumber 4 = .ok (.iload_n 1, 1) := by decide +kernel
theorem dX5_isNumber_5 : decode cX5_isNumber 5 = .ok (.aload_n 0, 1) := by decide +kernel
theorem dX5_isNumber_6 : decode cX5_isNumber 6 = .ok (.getfield 21, 3) := by decide +kernel
theorem dX5_isNumber_9 : decode cX5_isNumber 9 = .ok (.if_icmp .ge 26, 3) := by decide +kernel
theorem dX5_isNumber_12 : decode cX5_isNumber 12 = .ok (.aload_n 0, 1) := by decide +kernel
theorem dX5_isNumber_13 : decode cX5_isNumber 13 = .ok (.getfield 9, 3) := by decide +kernel
theorem dX5_isNumber_16 : decode cX5_isNumber 16 = .ok (.iload_n 1, 1) := by decide +kernel
theorem dX5_isNumber_17 : decode cX5_isNumber 17 = .ok (.iaload, 1) := by decide +kernel
theorem dX5_isNumber_18 : decode cX5_isNumber 18 = .ok (.ifCond .ne 17, 3) := by decide +kernel
theorem dX5_isNumber_21 : decode cX5_isNumber 21 = .ok (.aload_n 0, 1) := by decide +kernel
theorem dX5_isNumber_22 : decode cX5_isNumber 22 = .ok (.getfield 15, 3) := by decide +kernel
theorem dX5_isNumber_25 : decode cX5_isNumber 25 = .ok (.iload_n 1, 1) := by decide +kernel
theorem dX5_isNumber_26 : decode cX5_isNumber 26 = .ok (.iaload, 1) := by decide +kernel
theorem dX5_isNumber_27 : decode cX5_isNumber 27 = .ok (.iload_n 2, 1) := by decide +kernel
theorem dX5_isNumber_28 : decode cX5_isNumber 28 = .ok (.if_icmp .ne 7, 3) := by decide +kernel
theorem dX5_isNumber_31 : decode cX5_isNumber 31 = .ok (.iconst 1, 1) := by decide +kernel
theorem dX5_isNumber_32 : decode cX5_isNumber 32 = .ok (.goto 4, 3) := by decide +kernel
theorem dX5_isNumber_35 : decode cX5_isNumber 35 = .ok (.iconst 0, 1) := by decide +kernel
theorem dX5_isNumber_36 : decode cX5_isNumber 36 = .ok (.ireturn, 1) := by decide +kernel
theorem dX5_isSame_0 : decode cX5_isSame 0 = .ok (.aload_n 0, 1) := by decide +kernel
theorem dX5_isSame_1 : decode cX5_isSame 1 = .ok (.iload_n 1, 1) := by decide +kernel
theorem dX5_isSame_2 : decode cX5_isSame 2 = .ok (.invokevirtual 25, 3) := by decide +kernel
theorem dX5_isSame_5 : decode cX5_isSame 5 = .ok (.istore_n 3, 1) := by decide +kernel
theorem dX5_isSame_6 : decode cX5_isSame 6 = .ok (.iload_n 3, 1) := by decide +kernel
theorem dX5_isSame_7 : decode cX5_isSame 7 = .ok (.aload_n 0, 1) := by decide +kernel
theorem dX5_isSame_8 : decode cX5_isSame 8 = .ok (.iload_n 2, 1) := by decide +kernel
theorem dX5_isSame_9 : decode cX5_isSame 9 = .ok (.invokevirtual 25, 3) := by decide +kernel
theorem dX5_isSame_12 : decode cX5_isSame 12 = .ok (.if_icmp .eq 5, 3) := by decide +kernel
theorem dX5_isSame_15 : decode cX5_isSame 15 = .ok (.iconst 0, 1) := by decide +kernel
theorem dX5_isSame_16 : decode cX5_isSame 16 = .ok (.ireturn, 1) := by decide +kernel
theorem dX5_isSame_17 : decode cX5_isSame 17 = .ok (.iconst 0, 1) := by decide +kernel
theorem dX5_isSame_18 : decode cX5_isSame 18 = .ok (.istore 4, 2) := by decide +kernel
theorem dX5_isSame_20 : decode cX5_isSame 20 = .ok (.iload 4, 2) := by decide +kernel
theorem dX5_isSame_22 : decode cX5_isSame 22 = .ok (.iload_n 3, 1) := by decide +kernel
theorem dX5_isSame_23 : decode cX5_isSame 23 = .ok (.if_icmp .ge 49, 3) := by decide +kernel
theorem dX5_isSame_26 : decode cX5_isSame 26 = .ok (.aload_n 0, 1) := by decide +kernel
theorem dX5_isSame_27 : decode cX5_isSame 27 = .ok (.iload_n 1, 1) := by decide +kernel
theorem dX5_isSame_28 : decode cX5_isSame 28 = .ok (.iload 4, 2) := by decide +kernel
theorem dX5_isSame_30 : decode cX5_isSame 30 = .ok (.iadd, 1) := by decide +kernel
theorem dX5_isSame_31 : decode cX5_isSame 31 = .ok (.invokevirtual 29, 3) := by decide +kernel
theorem dX5_isSame_34 : decode cX5_isSame 34 = .ok (.aload_n 0, 1) := by decide +kernel
theorem dX5_isSame_35 : decode cX5_isSame 35 = .ok (.iload_n 2, 1) := by decide +kernel
theorem dX5_isSame_36 : decode cX5_isSame 36 = .ok (.iload 4, 2) := by decide +kernel
theorem dX5_isSame_38 : decode cX5_isSame 38 = .ok (.iadd, 1) := by decide +kernel
theorem dX5_isSame_39 : decode cX5_isSame 39 = .ok (.invokevirtual 29, 3) := by decide +kernel
theorem dX5_isSame_42 : decode cX5_isSame 42 = .ok (.if_icmp .ne 22, 3) := by decide +kernel
theorem dX5_isSame_45 : decode cX5_isSame 45 = .ok (.aload_n 0, 1) := by decide +kernel
theorem dX5_isSame_46 : decode cX5_isSame 46 = .ok (.iload_n 1, 1) := by decide +kernel
theorem dX5_isSame_47 : decode cX5_isSame 47 = .ok (.iload 4, 2) := by decide +kernel
theorem dX5_isSame_49 : decode cX5_isSame 49 = .ok (.iadd, 1) := by decide +kernel
theorem dX5_isSame_50 : decode cX5_isSame 50 = .ok (.invokevirtual 32, 3) := by decide +kernel
theorem dX5_isSame_53 : decode cX5_isSame 53 = .ok (.aload_n 0, 1) := by decide +kernel
theorem dX5_isSame_54 : decode cX5_isSame 54 = .ok (.iload_n 2, 1) := by decide +kernel
theorem dX5_isSame_55 : decode cX5_isSame 55 = .ok (.iload 4, 2) := by decide +kernel
theorem dX5_isSame_57 : decode cX5_isSame 57 = .ok (.iadd, 1) := by decide +kernel
theorem dX5_isSame_58 : decode cX5_isSame 58 = .ok (.invokevirtual 32, 3) := by decide +kernel
theorem dX5_isSame_61 : decode cX5_isSame 61 = .ok (.if_icmp .eq 5, 3) := by decide +kernel
theorem dX5_isSame_64 : decode cX5_isSame 64 = .ok (.iconst 0, 1) := by decide +kernel
theorem dX5_isSame_65 : decode cX5_isSame 65 = .ok (.ireturn, 1) := by decide +kernel
theorem dX5_isSame_66 : decode cX5_isSame 66 = .ok (.iinc 4 1, 3) := by decide +kernel
theorem dX5_isSame_69 : decode cX5_isSame 69 = .ok (.goto (-49), 3) := by decide +kernel
theorem dX5_isSame_72 : decode cX5_isSame 72 = .ok (.iconst 1, 1) := by decide +kernel
theorem dX5_isSame_73 : decode cX5_isSame 73 = .ok (.ireturn, 1) := by decide +kernel
theorem dX5_clear_0 : decode cX5_clear 0 = .ok (.aload_n 0, 1) := by decide +kernel
theorem dX5_clear_1 : decode cX5_clear 1 = .ok (.iconst 0, 1) := by decide +kernel
theorem dX5_clear_2 : decode cX5_clear 2 = .ok (.putfield 21, 3) := by decide +kernel
theorem dX5_clear_5 : decode cX5_clear 5 = .ok (.return_, 1) := by decide +kernel
theorem dX5_append_0 : decode cX5_append 0 = .ok (.aload_n 0, 1) := by decide +kernel
theorem dX5_append_1 : decode cX5_append 1 = .ok (.getfield 21, 3) := by decide +kernel
theorem dX5_append_4 : decode cX5_append 4 = .ok (.ifCond .lt 53, 3) := by decide +kernel
theorem dX5_append_7 : decode cX5_append 7 = .ok (.aload_n 0, 1) := by decide +kernel
theorem dX5_append_8 : decode cX5_append 8 = .ok (.getfield 21, 3) := by decide +kernel
theorem dX5_append_11 : decode cX5_append 11 = .ok (.sipush 200, 3) := by decide +kernel
theorem dX5_append_14 : decode cX5_append 14 = .ok (.if_icmp .ge 43, 3) := by decide +kernel
theorem dX5_append_17 : decode cX5_append 17 = .ok (.aload_n 0, 1) := by decide +kernel
theorem dX5_append_18 : decode cX5_append 18 = .ok (.getfield 9, 3) := by decide +kernel
theorem dX5_append_21 : decode cX5_append 21 = .ok (.aload_n 0, 1) := by decide +kernel
theorem dX5_append_22 : decode cX5_append 22 = .ok (.getfield 21, 3) := by decide +kernel
theorem dX5_append_25 : decode cX5_append 25 = .ok (.iload_n 1, 1) := by decide +kernel
theorem dX5_append_26 : decode cX5_append 26 = .ok (.iastore, 1) := by decide +kernel
theorem dX5_append_27 : decode cX5_append 27 = .ok (.aload_n 0, 1) := by decide +kernel
theorem dX5_append_28 : decode cX5_append 28 = .ok (.getfield 15, 3) := by decide +kernel
theorem dX5_append_31 : decode cX5_append 31 = .ok (.aload_n 0, 1) := by decide +kernel
theorem dX5_append_32 : decode cX5_append 32 = .ok (.getfield 21, 3) := by decide +kernel
theorem dX5_append_35 : decode cX5_append 35 = .ok (.iload_n 2, 1) := by decide +kernel
theorem dX5_append_36 : decode cX5_append 36 = .ok (.iastore, 1) := by decide +kernel
theorem dX5_append_37 : decode cX5_append 37 = .ok (.aload_n 0, 1) := by decide +kernel
theorem dX5_append_38 : decode cX5_append 38 = .ok (.getfield 18, 3) := by decide +kernel
theorem dX5_append_41 : decode cX5_append 41 = .ok (.aload_n 0, 1) := by decide +kernel
theorem dX5_append_42 : decode cX5_append 42 = .ok (.getfield 21, 3) := by decide +kernel
theorem dX5_append_45 : decode cX5_append 45 = .ok (.iconst 1, 1) := by decide +kernel
theorem dX5_append_46 : decode cX5_append 46 = .ok (.iastore, 1) := by decide +kernel
theorem dX5_append_47 : decode cX5_append 47 = .ok (.aload_n 0, 1) := by decide +kernel
theorem dX5_append_48 : decode cX5_append 48 = .ok (.dup, 1) := by decide +kernel
theorem dX5_append_49 : decode cX5_append 49 = .ok (.getfield 21, 3) := by decide +kernel
theorem dX5_append_52 : decode cX5_append 52 = .ok (.iconst 1, 1) := by decide +kernel
theorem dX5_append_53 : decode cX5_append 53 = .ok (.iadd, 1) := by decide +kernel
theorem dX5_append_54 : decode cX5_append 54 = .ok (.putfield 21, 3) := by decide +kernel
theorem dX5_append_57 : decode cX5_append 57 = .ok (.return_, 1) := by decide +kernel
theorem dX5_appendRun_0 : decode cX5_appendRun 0 = .ok (.iload_n 2, 1) := by decide +kernel
theorem dX5_appendRun_1 : decode cX5_appendRun 1 = .ok (.ifCond .lt 29, 3) := by decide +kernel
theorem dX5_appendRun_4 : decode cX5_appendRun 4 = .ok (.iload_n 3, 1) := by decide +kernel
theorem dX5_appendRun_5 : decode cX5_appendRun 5 = .ok (.ifCond .lt 25, 3) := by decide +kernel
theorem dX5_appendRun_8 : decode cX5_appendRun 8 = .ok (.iload_n 2, 1) := by decide +kernel
theorem dX5_appendRun_9 : decode cX5_appendRun 9 = .ok (.aload_n 1, 1) := by decide +kernel
theorem dX5_appendRun_10 : decode cX5_appendRun 10 = .ok (.getfield 21, 3) := by decide +kernel
theorem dX5_appendRun_13 : decode cX5_appendRun 13 = .ok (.iload_n 3, 1) := by decide +kernel
theorem dX5_appendRun_14 : decode cX5_appendRun 14 = .ok (.isub, 1) := by decide +kernel
theorem dX5_appendRun_15 : decode cX5_appendRun 15 = .ok (.if_icmp .gt 15, 3) := by decide +kernel
theorem dX5_appendRun_18 : decode cX5_appendRun 18 = .ok (.aload_n 0, 1) := by decide +kernel
theorem dX5_appendRun_19 : decode cX5_appendRun 19 = .ok (.getfield 21, 3) := by decide +kernel
theorem dX5_appendRun_22 : decode cX5_appendRun 22 = .ok (.sipush 200, 3) := by decide +kernel
theorem dX5_appendRun_25 : decode cX5_appendRun 25 = .ok (.iload_n 3, 1) := by decide +kernel
theorem dX5_appendRun_26 : decode cX5_appendRun 26 = .ok (.isub, 1) := by decide +kernel
theorem dX5_appendRun_27 : decode cX5_appendRun 27 = .ok (.if_icmp .le 4, 3) := by decide +kernel
theorem dX5_appendRun_30 : decode cX5_appendRun 30 = .ok (.return_, 1) := by decide +kernel
theorem dX5_appendRun_31 : decode cX5_appendRun 31 = .ok (.aload_n 1, 1) := by decide +kernel
theorem dX5_appendRun_32 : decode cX5_appendRun 32 = .ok (.getfield 9, 3) := by decide +kernel
theorem dX5_appendRun_35 : decode cX5_appendRun 35 = .ok (.iload_n 2, 1) := by decide +kernel
theorem dX5_appendRun_36 : decode cX5_appendRun 36 = .ok (.aload_n 0, 1) := by decide +kernel
theorem dX5_appendRun_37 : decode cX5_appendRun 37 = .ok (.getfield 9, 3) := by decide +kernel
theorem dX5_appendRun_40 : decode cX5_appendRun 40 = .ok (.aload_n 0, 1) := by decide +kernel
theorem dX5_appendRun_41 : decode cX5_appendRun 41 = .ok (.getfield 21, 3) := by decide +kernel
theorem dX5_appendRun_44 : decode cX5_appendRun 44 = .ok (.iload_n 3, 1) := by decide +kernel
theorem dX5_appendRun_45 : decode cX5_appendRun 45 = .ok (.invokestatic 35, 3) := by decide +kernel
theorem dX5_appendRun_48 : decode cX5_appendRun 48 = .ok (.aload_n 1, 1) := by decide +kernel
theorem dX5_appendRun_49 : decode cX5_appendRun 49 = .ok (.getfield 15, 3) := by decide +kernel
theorem dX5_appendRun_52 : decode cX5_appendRun 52 = .ok (.iload_n 2, 1) := by decide +kernel
theorem dX5_appendRun_53 : decode cX5_appendRun 53 = .ok (.aload_n 0, 1) := by decide +kernel
theorem dX5_appendRun_54 : decode cX5_appendRun 54 = .ok (.getfield 15, 3) := by decide +kernel
theorem dX5_appendRun_57 : decode cX5_appendRun 57 = .ok (.aload_n 0, 1) := by decide +kernel
theorem dX5_appendRun_58 : decode cX5_appendRun 58 = .ok (.getfield 21, 3) := by decide +kernel
theorem dX5_appendRun_61 : decode cX5_appendRun 61 = .ok (.iload_n 3, 1) := by decide +kernel
theorem dX5_appendRun_62 : decode cX5_appendRun 62 = .ok (.invokestatic 35, 3) := by decide +kernel
theorem dX5_appendRun_65 : decode cX5_appendRun 65 = .ok (.aload_n 1, 1) := by decide +kernel
theorem dX5_appendRun_66 : decode cX5_appendRun 66 = .ok (.getfield 18, 3) := by decide +kernel
theorem dX5_appendRun_69 : decode cX5_appendRun 69 = .ok (.iload_n 2, 1) := by decide +kernel
theorem dX5_appendRun_70 : decode cX5_appendRun 70 = .ok (.aload_n 0, 1) := by decide +kernel
theorem dX5_appendRun_71 : decode cX5_appendRun 71 = .ok (.getfield 18, 3) := by decide +kernel
theorem dX5_appendRun_74 : decode cX5_appendRun 74 = .ok (.aload_n 0, 1) := by decide +kernel
theorem dX5_appendRun_75 : decode cX5_appendRun 75 = .ok (.getfield 21, 3) := by decide +kernel
theorem dX5_appendRun_78 : decode cX5_appendRun 78 = .ok (.iload_n 3, 1) := by decide +kernel
theorem dX5_appendRun_79 : decode cX5_appendRun 79 = .ok (.invokestatic 35, 3) := by decide +kernel
theorem dX5_appendRun_82 : decode cX5_appendRun 82 = .ok (.aload_n 0, 1) := by decide +kernel
theorem dX5_appendRun_83 : decode cX5_appendRun 83 = .ok (.dup, 1) := by decide +kernel
theorem dX5_appendRun_84 : decode cX5_appendRun 84 = .ok (.getfield 21, 3) := by decide +kernel
theorem dX5_appendRun_87 : decode cX5_appendRun 87 = .ok (.iload_n 3, 1) := by decide +kernel
theorem dX5_appendRun_88 : decode cX5_appendRun 88 = .ok (.iadd, 1) := by decide +kernel
theorem dX5_appendRun_89 : decode cX5_appendRun 89 = .ok (.putfield 21, 3) := by decide +kernel
theorem dX5_appendRun_92 : decode cX5_appendRun 92 = .ok (.return_, 1) := by decide +kernel
theorem dX5_become_0 : decode cX5_become 0 = .ok (.aload_n 0, 1) := by decide +kernel
theorem dX5_become_1 : decode cX5_become 1 = .ok (.iconst 0, 1) := by decide +kernel
theorem dX5_become_2 : decode cX5_become 2 = .ok (.putfield 21, 3) := by decide +kernel
theorem dX5_become_5 : decode cX5_become 5 = .ok (.aload_n 0, 1) := by decide +kernel
theorem dX5_become_6 : decode cX5_become 6 = .ok (.aload_n 1, 1) := by decide +kernel
theorem dX5_become_7 : decode cX5_become 7 = .ok (.iconst 0, 1) := by decide +kernel
theorem dX5_become_8 : decode cX5_become 8 = .ok (.aload_n 1, 1) := by decide +kernel
theorem dX5_become_9 : decode cX5_become 9 = .ok (.getfield 21, 3) := by decide +kernel
theorem dX5_become_12 : decode cX5_become 12 = .ok (.invokevirtual 41, 3) := by decide +kernel
theorem dX5_become_15 : decode cX5_become 15 = .ok (.return_, 1) := by decide +kernel
theorem dX5_join_0 : decode cX5_join 0 = .ok (.aload_n 0, 1) := by decide +kernel
theorem dX5_join_1 : decode cX5_join 1 = .ok (.iconst 0, 1) := by decide +kernel
theorem dX5_join_2 : decode cX5_join 2 = .ok (.putfield 21, 3) := by decide +kernel
theorem dX5_join_5 : decode cX5_join 5 = .ok (.aload_n 0, 1) := by decide +kernel
theorem dX5_join_6 : decode cX5_join 6 = .ok (.aload_n 1, 1) := by decide +kernel
theorem dX5_join_7 : decode cX5_join 7 = .ok (.iconst 0, 1) := by decide +kernel
theorem dX5_join_8 : decode cX5_join 8 = .ok (.iload_n 2, 1) := by decide +kernel
theorem dX5_join_9 : decode cX5_join 9 = .ok (.invokevirtual 41, 3) := by decide +kernel
theorem dX5_join_12 : decode cX5_join 12 = .ok (.aload_n 0, 1) := by decide +kernel
theorem dX5_join_13 : decode cX5_join 13 = .ok (.aload_n 3, 1) := by decide +kernel
theorem dX5_join_14 : decode cX5_join 14 = .ok (.iload 4, 2) := by decide +kernel
theorem dX5_join_16 : decode cX5_join 16 = .ok (.aload_n 3, 1) := by decide +kernel
theorem dX5_join_17 : decode cX5_join 17 = .ok (.iload 4, 2) := by decide +kernel
theorem dX5_join_19 : decode cX5_join 19 = .ok (.invokevirtual 25, 3) := by decide +kernel
theorem dX5_join_22 : decode cX5_join 22 = .ok (.invokevirtual 41, 3) := by decide +kernel
theorem dX5_join_25 : decode cX5_join 25 = .ok (.aload_n 0, 1) := by decide +kernel
theorem dX5_join_26 : decode cX5_join 26 = .ok (.aload_n 1, 1) := by decide +kernel
theorem dX5_join_27 : decode cX5_join 27 = .ok (.aload_n 1, 1) := by decide +kernel
theorem dX5_join_28 : decode cX5_join 28 = .ok (.iload_n 2, 1) := by decide +kernel
theorem dX5_join_29 : decode cX5_join 29 = .ok (.invokevirtual 45, 3) := by decide +kernel
theorem dX5_join_32 : decode cX5_join 32 = .ok (.aload_n 1, 1) := by decide +kernel
theorem dX5_join_33 : decode cX5_join 33 = .ok (.getfield 21, 3) := by decide +kernel
theorem dX5_join_36 : decode cX5_join 36 = .ok (.aload_n 1, 1) := by decide +kernel
theorem dX5_join_37 : decode cX5_join 37 = .ok (.iload_n 2, 1) := by decide +kernel
theorem dX5_join_38 : decode cX5_join 38 = .ok (.invokevirtual 45, 3) := by decide +kernel
theorem dX5_join_41 : decode cX5_join 41 = .ok (.isub, 1) := by decide +kernel
theorem dX5_join_42 : decode cX5_join 42 = .ok (.invokevirtual 41, 3) := by decide +kernel
theorem dX5_join_45 : decode cX5_join 45 = .ok (.aload_n 0, 1) := by decide +kernel
theorem dX5_join_46 : decode cX5_join 46 = .ok (.invokevirtual 48, 3) := by decide +kernel
theorem dX5_join_49 : decode cX5_join 49 = .ok (.return_, 1) := by decide +kernel
theorem dX5_measure_0 : decode cX5_measure 0 = .ok (.aload_n 0, 1) := by decide +kernel
theorem dX5_measure_1 : decode cX5_measure 1 = .ok (.getfield 21, 3) := by decide +kernel
theorem dX5_measure_4 : decode cX5_measure 4 = .ok (.iconst 1, 1) := by decide +kernel
theorem dX5_measure_5 : decode cX5_measure 5 = .ok (.isub, 1) := by decide +kernel
theorem dX5_measure_6 : decode cX5_measure 6 = .ok (.istore_n 1, 1) := by decide +kernel
theorem dX5_measure_7 : decode cX5_measure 7 = .ok (.iload_n 1, 1) := by decide +kernel
theorem dX5_measure_8 : decode cX5_measure 8 = .ok (.ifCond .lt 48, 3) := by decide +kernel
theorem dX5_measure_11 : decode cX5_measure 11 = .ok (.iload_n 1, 1) := by decide +kernel
theorem dX5_measure_12 : decode cX5_measure 12 = .ok (.iconst 1, 1) := by decide +kernel
theorem dX5_measure_13 : decode cX5_measure 13 = .ok (.iadd, 1) := by decide +kernel
theorem dX5_measure_14 : decode cX5_measure 14 = .ok (.istore_n 2, 1) := by decide +kernel
theorem dX5_measure_15 : decode cX5_measure 15 = .ok (.aload_n 0, 1) := by decide +kernel
theorem dX5_measure_16 : decode cX5_measure 16 = .ok (.getfield 9, 3) := by decide +kernel
theorem dX5_measure_19 : decode cX5_measure 19 = .ok (.iload_n 1, 1) := by decide +kernel
theorem dX5_measure_20 : decode cX5_measure 20 = .ok (.iaload, 1) := by decide +kernel
theorem dX5_measure_21 : decode cX5_measure 21 = .ok (.invokestatic 51, 3) := by decide +kernel
theorem dX5_measure_24 : decode cX5_measure 24 = .ok (.istore_n 3, 1) := by decide +kernel
theorem dX5_measure_25 : decode cX5_measure 25 = .ok (.iload_n 3, 1) := by decide +kernel
theorem dX5_measure_26 : decode cX5_measure 26 = .ok (.ifCond .le 15, 3) := by decide +kernel
theorem dX5_measure_29 : decode cX5_measure 29 = .ok (.aload_n 0, 1) := by decide +kernel
theorem dX5_measure_30 : decode cX5_measure 30 = .ok (.iload_n 2, 1) := by decide +kernel
theorem dX5_measure_31 : decode cX5_measure 31 = .ok (.invokevirtual 45, 3) := by decide +kernel
theorem dX5_measure_34 : decode cX5_measure 34 = .ok (.istore_n 2, 1) := by decide +kernel
theorem dX5_measure_35 : decode cX5_measure 35 = .ok (.iinc 3 (-1), 3) := by decide +kernel
theorem dX5_measure_38 : decode cX5_measure 38 = .ok (.goto (-13), 3) := by decide +kernel
theorem dX5_measure_41 : decode cX5_measure 41 = .ok (.aload_n 0, 1) := by decide +kernel
theorem dX5_measure_42 : decode cX5_measure 42 = .ok (.getfield 18, 3) := by decide +kernel
theorem dX5_measure_45 : decode cX5_measure 45 = .ok (.iload_n 1, 1) := by decide +kernel
theorem dX5_measure_46 : decode cX5_measure 46 = .ok (.iload_n 2, 1) := by decide +kernel
theorem dX5_measure_47 : decode cX5_measure 47 = .ok (.iload_n 1, 1) := by decide +kernel
theorem dX5_measure_48 : decode cX5_measure 48 = .ok (.isub, 1) := by decide +kernel
theorem dX5_measure_49 : decode cX5_measure 49 = .ok (.iastore, 1) := by decide +kernel
theorem dX5_measure_50 : decode cX5_measure 50 = .ok (.iinc 1 (-1), 3) := by decide +kernel
theorem dX5_measure_53 : decode cX5_measure 53 = .ok (.goto (-46), 3) := by decide +kernel
theorem dX5_measure_56 : decode cX5_measure 56 = .ok (.return_, 1) := by decide +kernel
theorem dX5_close_0 : decode cX5_close 0 = .ok (.aload_n 0, 1) := by decide +kernel
theorem dX5_close_1 : decode cX5_close 1 = .ok (.iload_n 1, 1) := by decide +kernel
theorem dX5_close_2 : decode cX5_close 2 = .ok (.invokevirtual 54, 3) := by decide +kernel
theorem dX5_close_5 : decode cX5_close 5 = .ok (.ifCond .eq 15, 3) := by decide +kernel
theorem dX5_close_8 : decode cX5_close 8 = .ok (.aload_n 0, 1) := by decide +kernel
theorem dX5_close_9 : decode cX5_close 9 = .ok (.getfield 18, 3) := by decide +kernel
theorem dX5_close_12 : decode cX5_close 12 = .ok (.iload_n 1, 1) := by decide +kernel
theorem dX5_close_13 : decode cX5_close 13 = .ok (.aload_n 0, 1) := by decide +kernel
theorem dX5_close_14 : decode cX5_close 14 = .ok (.getfield 21, 3) := by decide +kernel
theorem dX5_close_17 : decode cX5_close 17 = .ok (.iload_n 1, 1) := by decide +kernel
theorem dX5_close_18 : decode cX5_close 18 = .ok (.isub, 1) := by decide +kernel
