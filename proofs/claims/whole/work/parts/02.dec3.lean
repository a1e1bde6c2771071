theorem dX8_works_109 : decode cX8_works 109 = .ok (.ireturn, 1) := by decide +kernel
theorem dX8_works_110 : decode cX8_works 110 = .ok (.aload_n 0, 1) := by decide +kernel
theorem dX8_works_111 : decode cX8_works 111 = .ok (.getfield 7, 3) := by decide +kernel
theorem dX8_works_114 : decode cX8_works 114 = .ok (.iload_n 1, 1) := by decide +kernel
theorem dX8_works_115 : decode cX8_works 115 = .ok (.iaload, 1) := by decide +kernel
theorem dX8_works_116 : decode cX8_works 116 = .ok (.bipush 8, 2) := by decide +kernel
theorem dX8_works_118 : decode cX8_works 118 = .ok (.if_icmp .ne 69, 3) := by decide +kernel
theorem dX8_works_121 : decode cX8_works 121 = .ok (.aload_n 0, 1) := by decide +kernel
theorem dX8_works_122 : decode cX8_works 122 = .ok (.dup, 1) := by decide +kernel
theorem dX8_works_123 : decode cX8_works 123 = .ok (.getfield 108, 3) := by decide +kernel
theorem dX8_works_126 : decode cX8_works 126 = .ok (.iconst 1, 1) := by decide +kernel
theorem dX8_works_127 : decode cX8_works 127 = .ok (.iadd, 1) := by decide +kernel
theorem dX8_works_128 : decode cX8_works 128 = .ok (.putfield 108, 3) := by decide +kernel
theorem dX8_works_131 : decode cX8_works 131 = .ok (.iload 4, 2) := by decide +kernel
theorem dX8_works_133 : decode cX8_works 133 = .ok (.ifCond .ne 16, 3) := by decide +kernel
theorem dX8_works_136 : decode cX8_works 136 = .ok (.aload_n 0, 1) := by decide +kernel
theorem dX8_works_137 : decode cX8_works 137 = .ok (.aload_n 0, 1) := by decide +kernel
theorem dX8_works_138 : decode cX8_works 138 = .ok (.getfield 22, 3) := by decide +kernel
theorem dX8_works_141 : decode cX8_works 141 = .ok (.iload_n 1, 1) := by decide +kernel
theorem dX8_works_142 : decode cX8_works 142 = .ok (.iaload, 1) := by decide +kernel
theorem dX8_works_143 : decode cX8_works 143 = .ok (.iload_n 2, 1) := by decide +kernel
theorem dX8_works_144 : decode cX8_works 144 = .ok (.iload_n 3, 1) := by decide +kernel
theorem dX8_works_145 : decode cX8_works 145 = .ok (.invokevirtual 111, 3) := by decide +kernel
theorem dX8_works_148 : decode cX8_works 148 = .ok (.ireturn, 1) := by decide +kernel
theorem dX8_works_149 : decode cX8_works 149 = .ok (.aload_n 0, 1) := by decide +kernel
theorem dX8_works_150 : decode cX8_works 150 = .ok (.aload_n 0, 1) := by decide +kernel
theorem dX8_works_151 : decode cX8_works 151 = .ok (.getfield 19, 3) := by decide +kernel
theorem dX8_works_154 : decode cX8_works 154 = .ok (.iload_n 1, 1) := by decide +kernel
theorem dX8_works_155 : decode cX8_works 155 = .ok (.iaload, 1) := by decide +kernel
theorem dX8_works_156 : decode cX8_works 156 = .ok (.iload_n 2, 1) := by decide +kernel
theorem dX8_works_157 : decode cX8_works 157 = .ok (.iload_n 3, 1) := by decide +kernel
theorem dX8_works_158 : decode cX8_works 158 = .ok (.invokevirtual 111, 3) := by decide +kernel
theorem dX8_works_161 : decode cX8_works 161 = .ok (.istore 5, 2) := by decide +kernel
theorem dX8_works_163 : decode cX8_works 163 = .ok (.aload_n 0, 1) := by decide +kernel
theorem dX8_works_164 : decode cX8_works 164 = .ok (.dup, 1) := by decide +kernel
theorem dX8_works_165 : decode cX8_works 165 = .ok (.getfield 108, 3) := by decide +kernel
theorem dX8_works_168 : decode cX8_works 168 = .ok (.aload_n 0, 1) := by decide +kernel
theorem dX8_works_169 : decode cX8_works 169 = .ok (.getfield 104, 3) := by decide +kernel
theorem dX8_works_172 : decode cX8_works 172 = .ok (.ifCond .eq 7, 3) := by decide +kernel
theorem dX8_works_175 : decode cX8_works 175 = .ok (.iconst 0, 1) := by decide +kernel
theorem dX8_works_176 : decode cX8_works 176 = .ok (.goto 4, 3) := by decide +kernel
theorem dX8_works_179 : decode cX8_works 179 = .ok (.iconst 1, 1) := by decide +kernel
theorem dX8_works_180 : decode cX8_works 180 = .ok (.iadd, 1) := by decide +kernel
theorem dX8_works_181 : decode cX8_works 181 = .ok (.putfield 108, 3) := by decide +kernel
theorem dX8_works_184 : decode cX8_works 184 = .ok (.iload 5, 2) := by decide +kernel
theorem dX8_works_186 : decode cX8_works 186 = .ok (.ireturn, 1) := by decide +kernel
theorem dX8_works_187 : decode cX8_works 187 = .ok (.aload_n 0, 1) := by decide +kernel
theorem dX8_works_188 : decode cX8_works 188 = .ok (.aload_n 0, 1) := by decide +kernel
theorem dX8_works_189 : decode cX8_works 189 = .ok (.getfield 19, 3) := by decide +kernel
theorem dX8_works_192 : decode cX8_works 192 = .ok (.iload_n 1, 1) := by decide +kernel
theorem dX8_works_193 : decode cX8_works 193 = .ok (.iaload, 1) := by decide +kernel
theorem dX8_works_194 : decode cX8_works 194 = .ok (.iload_n 2, 1) := by decide +kernel
theorem dX8_works_195 : decode cX8_works 195 = .ok (.iload_n 3, 1) := by decide +kernel
theorem dX8_works_196 : decode cX8_works 196 = .ok (.invokevirtual 111, 3) := by decide +kernel
theorem dX8_works_199 : decode cX8_works 199 = .ok (.istore 5, 2) := by decide +kernel
theorem dX8_works_201 : decode cX8_works 201 = .ok (.aload_n 0, 1) := by decide +kernel
theorem dX8_works_202 : decode cX8_works 202 = .ok (.getfield 104, 3) := by decide +kernel
theorem dX8_works_205 : decode cX8_works 205 = .ok (.ifCond .eq 5, 3) := by decide +kernel
theorem dX8_works_208 : decode cX8_works 208 = .ok (.iconst 0, 1) := by decide +kernel
theorem dX8_works_209 : decode cX8_works 209 = .ok (.ireturn, 1) := by decide +kernel
theorem dX8_works_210 : decode cX8_works 210 = .ok (.aload_n 0, 1) := by decide +kernel
theorem dX8_works_211 : decode cX8_works 211 = .ok (.dup, 1) := by decide +kernel
theorem dX8_works_212 : decode cX8_works 212 = .ok (.getfield 108, 3) := by decide +kernel
theorem dX8_works_215 : decode cX8_works 215 = .ok (.iconst 1, 1) := by decide +kernel
theorem dX8_works_216 : decode cX8_works 216 = .ok (.iadd, 1) := by decide +kernel
theorem dX8_works_217 : decode cX8_works 217 = .ok (.putfield 108, 3) := by decide +kernel
theorem dX8_works_220 : decode cX8_works 220 = .ok (.aload_n 0, 1) := by decide +kernel
theorem dX8_works_221 : decode cX8_works 221 = .ok (.aload_n 0, 1) := by decide +kernel
theorem dX8_works_222 : decode cX8_works 222 = .ok (.getfield 7, 3) := by decide +kernel
theorem dX8_works_225 : decode cX8_works 225 = .ok (.iload_n 1, 1) := by decide +kernel
theorem dX8_works_226 : decode cX8_works 226 = .ok (.iaload, 1) := by decide +kernel
theorem dX8_works_227 : decode cX8_works 227 = .ok (.bipush 7, 2) := by decide +kernel
theorem dX8_works_229 : decode cX8_works 229 = .ok (.if_icmp .ne 12, 3) := by decide +kernel
theorem dX8_works_232 : decode cX8_works 232 = .ok (.iload 5, 2) := by decide +kernel
theorem dX8_works_234 : decode cX8_works 234 = .ok (.ifCond .ne 7, 3) := by decide +kernel
theorem dX8_works_237 : decode cX8_works 237 = .ok (.iconst 1, 1) := by decide +kernel
theorem dX8_works_238 : decode cX8_works 238 = .ok (.goto 4, 3) := by decide +kernel
theorem dX8_works_241 : decode cX8_works 241 = .ok (.iconst 0, 1) := by decide +kernel
theorem dX8_works_242 : decode cX8_works 242 = .ok (.putfield 104, 3) := by decide +kernel
theorem dX8_works_245 : decode cX8_works 245 = .ok (.aload_n 0, 1) := by decide +kernel
theorem dX8_works_246 : decode cX8_works 246 = .ok (.getfield 104, 3) := by decide +kernel
theorem dX8_works_249 : decode cX8_works 249 = .ok (.ifCond .eq 7, 3) := by decide +kernel
theorem dX8_works_252 : decode cX8_works 252 = .ok (.iconst 0, 1) := by decide +kernel
theorem dX8_works_253 : decode cX8_works 253 = .ok (.goto 16, 3) := by decide +kernel
theorem dX8_works_256 : decode cX8_works 256 = .ok (.aload_n 0, 1) := by decide +kernel
theorem dX8_works_257 : decode cX8_works 257 = .ok (.getfield 7, 3) := by decide +kernel
theorem dX8_works_260 : decode cX8_works 260 = .ok (.iload_n 1, 1) := by decide +kernel
theorem dX8_works_261 : decode cX8_works 261 = .ok (.iaload, 1) := by decide +kernel
theorem dX8_works_262 : decode cX8_works 262 = .ok (.iload 4, 2) := by decide +kernel
theorem dX8_works_264 : decode cX8_works 264 = .ok (.iload 5, 2) := by decide +kernel
theorem dX8_works_266 : decode cX8_works 266 = .ok (.invokestatic 115, 3) := by decide +kernel
theorem dX8_works_269 : decode cX8_works 269 = .ok (.ireturn, 1) := by decide +kernel
theorem dX8_valueOf_0 : decode cX8_valueOf 0 = .ok (.aload_n 0, 1) := by decide +kernel
theorem dX8_valueOf_1 : decode cX8_valueOf 1 = .ok (.iconst 0, 1) := by decide +kernel
theorem dX8_valueOf_2 : decode cX8_valueOf 2 = .ok (.putfield 104, 3) := by decide +kernel
theorem dX8_valueOf_5 : decode cX8_valueOf 5 = .ok (.aload_n 0, 1) := by decide +kernel
theorem dX8_valueOf_6 : decode cX8_valueOf 6 = .ok (.iconst 0, 1) := by decide +kernel
theorem dX8_valueOf_7 : decode cX8_valueOf 7 = .ok (.putfield 108, 3) := by decide +kernel
theorem dX8_valueOf_10 : decode cX8_valueOf 10 = .ok (.aload_n 0, 1) := by decide +kernel
theorem dX8_valueOf_11 : decode cX8_valueOf 11 = .ok (.iload_n 1, 1) := by decide +kernel
theorem dX8_valueOf_12 : decode cX8_valueOf 12 = .ok (.iload_n 2, 1) := by decide +kernel
theorem dX8_valueOf_13 : decode cX8_valueOf 13 = .ok (.iload_n 3, 1) := by decide +kernel
theorem dX8_valueOf_14 : decode cX8_valueOf 14 = .ok (.invokevirtual 111, 3) := by decide +kernel
theorem dX8_valueOf_17 : decode cX8_valueOf 17 = .ok (.ireturn, 1) := by decide +kernel
theorem dX8_isSafe_0 : decode cX8_isSafe 0 = .ok (.iload_n 2, 1) := by decide +kernel
theorem dX8_isSafe_1 : decode cX8_isSafe 1 = .ok (.ineg, 1) := by decide +kernel
theorem dX8_isSafe_2 : decode cX8_isSafe 2 = .ok (.istore_n 3, 1) := by decide +kernel
theorem dX8_isSafe_3 : decode cX8_isSafe 3 = .ok (.iload_n 3, 1) := by decide +kernel
theorem dX8_isSafe_4 : decode cX8_isSafe 4 = .ok (.iload_n 2, 1) := by decide +kernel
theorem dX8_isSafe_5 : decode cX8_isSafe 5 = .ok (.if_icmp .gt 44, 3) := by decide +kernel
theorem dX8_isSafe_8 : decode cX8_isSafe 8 = .ok (.iload_n 2, 1) := by decide +kernel
theorem dX8_isSafe_9 : decode cX8_isSafe 9 = .ok (.ineg, 1) := by decide +kernel
theorem dX8_isSafe_10 : decode cX8_isSafe 10 = .ok (.istore 4, 2) := by decide +kernel
theorem dX8_isSafe_12 : decode cX8_isSafe 12 = .ok (.iload 4, 2) := by decide +kernel
theorem dX8_isSafe_14 : decode cX8_isSafe 14 = .ok (.iload_n 2, 1) := by decide +kernel
theorem dX8_isSafe_15 : decode cX8_isSafe 15 = .ok (.if_icmp .gt 28, 3) := by decide +kernel
theorem dX8_isSafe_18 : decode cX8_isSafe 18 = .ok (.aload_n 0, 1) := by decide +kernel
theorem dX8_isSafe_19 : decode cX8_isSafe 19 = .ok (.iload_n 1, 1) := by decide +kernel
theorem dX8_isSafe_20 : decode cX8_isSafe 20 = .ok (.iload_n 3, 1) := by decide +kernel
theorem dX8_isSafe_21 : decode cX8_isSafe 21 = .ok (.iload 4, 2) := by decide +kernel
theorem dX8_isSafe_23 : decode cX8_isSafe 23 = .ok (.invokevirtual 118, 3) := by decide +kernel
theorem dX8_isSafe_26 : decode cX8_isSafe 26 = .ok (.istore 5, 2) := by decide +kernel
theorem dX8_isSafe_28 : decode cX8_isSafe 28 = .ok (.aload_n 0, 1) := by decide +kernel
theorem dX8_isSafe_29 : decode cX8_isSafe 29 = .ok (.getfield 104, 3) := by decide +kernel
theorem dX8_isSafe_32 : decode cX8_isSafe 32 = .ok (.ifCond .eq 5, 3) := by decide +kernel
theorem dX8_isSafe_35 : decode cX8_isSafe 35 = .ok (.iconst 0, 1) := by decide +kernel
theorem dX8_isSafe_36 : decode cX8_isSafe 36 = .ok (.ireturn, 1) := by decide +kernel
theorem dX8_isSafe_37 : decode cX8_isSafe 37 = .ok (.iinc 4 1, 3) := by decide +kernel
theorem dX8_isSafe_40 : decode cX8_isSafe 40 = .ok (.goto (-28), 3) := by decide +kernel
theorem dX8_isSafe_43 : decode cX8_isSafe 43 = .ok (.iinc 3 1, 3) := by decide +kernel
theorem dX8_isSafe_46 : decode cX8_isSafe 46 = .ok (.goto (-43), 3) := by decide +kernel
theorem dX8_isSafe_49 : decode cX8_isSafe 49 = .ok (.iconst 1, 1) := by decide +kernel
theorem dX8_isSafe_50 : decode cX8_isSafe 50 = .ok (.ireturn, 1) := by decide +kernel
theorem dX8_becomes_0 : decode cX8_becomes 0 = .ok (.iload_n 2, 1) := by decide +kernel
theorem dX8_becomes_1 : decode cX8_becomes 1 = .ok (.tableswitch 81 0 5 #[39, 46, 53, 60, 67, 74], 39) := by decide +kernel
theorem dX8_becomes_40 : decode cX8_becomes 40 = .ok (.aload_n 0, 1) := by decide +kernel
theorem dX8_becomes_41 : decode cX8_becomes 41 = .ok (.iload_n 1, 1) := by decide +kernel
theorem dX8_becomes_42 : decode cX8_becomes 42 = .ok (.iload_n 3, 1) := by decide +kernel
theorem dX8_becomes_43 : decode cX8_becomes 43 = .ok (.invokevirtual 121, 3) := by decide +kernel
theorem dX8_becomes_46 : decode cX8_becomes 46 = .ok (.ireturn, 1) := by decide +kernel
theorem dX8_becomes_47 : decode cX8_becomes 47 = .ok (.aload_n 0, 1) := by decide +kernel
theorem dX8_becomes_48 : decode cX8_becomes 48 = .ok (.iload_n 1, 1) := by decide +kernel
theorem dX8_becomes_49 : decode cX8_becomes 49 = .ok (.iload_n 3, 1) := by decide +kernel
theorem dX8_becomes_50 : decode cX8_becomes 50 = .ok (.invokevirtual 125, 3) := by decide +kernel
theorem dX8_becomes_53 : decode cX8_becomes 53 = .ok (.ireturn, 1) := by decide +kernel
theorem dX8_becomes_54 : decode cX8_becomes 54 = .ok (.aload_n 0, 1) := by decide +kernel
theorem dX8_becomes_55 : decode cX8_becomes 55 = .ok (.iload_n 1, 1) := by decide +kernel
theorem dX8_becomes_56 : decode cX8_becomes 56 = .ok (.iload_n 3, 1) := by decide +kernel
theorem dX8_becomes_57 : decode cX8_becomes 57 = .ok (.invokevirtual 128, 3) := by decide +kernel
theorem dX8_becomes_60 : decode cX8_becomes 60 = .ok (.ireturn, 1) := by decide +kernel
theorem dX8_becomes_61 : decode cX8_becomes 61 = .ok (.aload_n 0, 1) := by decide +kernel
theorem dX8_becomes_62 : decode cX8_becomes 62 = .ok (.iload_n 1, 1) := by decide +kernel
theorem dX8_becomes_63 : decode cX8_becomes 63 = .ok (.iload_n 3, 1) := by decide +kernel
theorem dX8_becomes_64 : decode cX8_becomes 64 = .ok (.invokevirtual 131, 3) := by decide +kernel
theorem dX8_becomes_67 : decode cX8_becomes 67 = .ok (.ireturn, 1) := by decide +kernel
theorem dX8_becomes_68 : decode cX8_becomes 68 = .ok (.aload_n 0, 1) := by decide +kernel
theorem dX8_becomes_69 : decode cX8_becomes 69 = .ok (.iload_n 1, 1) := by decide +kernel
theorem dX8_becomes_70 : decode cX8_becomes 70 = .ok (.iload_n 3, 1) := by decide +kernel
theorem dX8_becomes_71 : decode cX8_becomes 71 = .ok (.invokevirtual 134, 3) := by decide +kernel
theorem dX8_becomes_74 : decode cX8_becomes 74 = .ok (.ireturn, 1) := by decide +kernel
theorem dX8_becomes_75 : decode cX8_becomes 75 = .ok (.aload_n 0, 1) := by decide +kernel
theorem dX8_becomes_76 : decode cX8_becomes 76 = .ok (.iload_n 1, 1) := by decide +kernel
theorem dX8_becomes_77 : decode cX8_becomes 77 = .ok (.iload_n 3, 1) := by decide +kernel
theorem dX8_becomes_78 : decode cX8_becomes 78 = .ok (.invokevirtual 137, 3) := by decide +kernel
theorem dX8_becomes_81 : decode cX8_becomes 81 = .ok (.ireturn, 1) := by decide +kernel
theorem dX8_becomes_82 : decode cX8_becomes 82 = .ok (.aload_n 0, 1) := by decide +kernel
theorem dX8_becomes_83 : decode cX8_becomes 83 = .ok (.iload_n 1, 1) := by decide +kernel
theorem dX8_becomes_84 : decode cX8_becomes 84 = .ok (.iload_n 3, 1) := by decide +kernel
theorem dX8_becomes_85 : decode cX8_becomes 85 = .ok (.invokevirtual 140, 3) := by decide +kernel
theorem dX8_becomes_88 : decode cX8_becomes 88 = .ok (.ireturn, 1) := by decide +kernel
theorem dX8_folded_0 : decode cX8_folded 0 = .ok (.aload_n 0, 1) := by decide +kernel
theorem dX8_folded_1 : decode cX8_folded 1 = .ok (.getfield 7, 3) := by decide +kernel
theorem dX8_folded_4 : decode cX8_folded 4 = .ok (.iload_n 1, 1) := by decide +kernel
theorem dX8_folded_5 : decode cX8_folded 5 = .ok (.iaload, 1) := by decide +kernel
theorem dX8_folded_6 : decode cX8_folded 6 = .ok (.istore_n 3, 1) := by decide +kernel
theorem dX8_folded_7 : decode cX8_folded 7 = .ok (.iload_n 3, 1) := by decide +kernel
theorem dX8_folded_8 : decode cX8_folded 8 = .ok (.iconst 3, 1) := by decide +kernel
theorem dX8_folded_9 : decode cX8_folded 9 = .ok (.if_icmp .lt 23, 3) := by decide +kernel
theorem dX8_folded_12 : decode cX8_folded 12 = .ok (.iload_n 3, 1) := by decide +kernel
theorem dX8_folded_13 : decode cX8_folded 13 = .ok (.bipush 8, 2) := by decide +kernel
theorem dX8_folded_15 : decode cX8_folded 15 = .ok (.if_icmp .eq 17, 3) := by decide +kernel
theorem dX8_folded_18 : decode cX8_folded 18 = .ok (.aload_n 0, 1) := by decide +kernel
theorem dX8_folded_19 : decode cX8_folded 19 = .ok (.getfield 7, 3) := by decide +kernel
theorem dX8_folded_22 : decode cX8_folded 22 = .ok (.aload_n 0, 1) := by decide +kernel
theorem dX8_folded_23 : decode cX8_folded 23 = .ok (.getfield 16, 3) := by decide +kernel
theorem dX8_folded_26 : decode cX8_folded 26 = .ok (.iload_n 1, 1) := by decide +kernel
theorem dX8_folded_27 : decode cX8_folded 27 = .ok (.iaload, 1) := by decide +kernel
theorem dX8_folded_28 : decode cX8_folded 28 = .ok (.iaload, 1) := by decide +kernel
theorem dX8_folded_29 : decode cX8_folded 29 = .ok (.ifCond .eq 5, 3) := by decide +kernel
theorem dX8_folded_32 : decode cX8_folded 32 = .ok (.iload_n 1, 1) := by decide +kernel
theorem dX8_folded_33 : decode cX8_folded 33 = .ok (.ireturn, 1) := by decide +kernel
theorem dX8_folded_34 : decode cX8_folded 34 = .ok (.aload_n 0, 1) := by decide +kernel
theorem dX8_folded_35 : decode cX8_folded 35 = .ok (.getfield 13, 3) := by decide +kernel
theorem dX8_folded_38 : decode cX8_folded 38 = .ok (.aload_n 0, 1) := by decide +kernel
theorem dX8_folded_39 : decode cX8_folded 39 = .ok (.getfield 16, 3) := by decide +kernel
theorem dX8_folded_42 : decode cX8_folded 42 = .ok (.iload_n 1, 1) := by decide +kernel
theorem dX8_folded_43 : decode cX8_folded 43 = .ok (.iaload, 1) := by decide +kernel
theorem dX8_folded_44 : decode cX8_folded 44 = .ok (.iaload, 1) := by decide +kernel
theorem dX8_folded_45 : decode cX8_folded 45 = .ok (.istore 4, 2) := by decide +kernel
theorem dX8_folded_47 : decode cX8_folded 47 = .ok (.iload_n 3, 1) := by decide +kernel
theorem dX8_folded_48 : decode cX8_folded 48 = .ok (.iconst 3, 1) := by decide +kernel
theorem dX8_folded_49 : decode cX8_folded 49 = .ok (.if_icmp .ne 11, 3) := by decide +kernel
theorem dX8_folded_52 : decode cX8_folded 52 = .ok (.aload_n 0, 1) := by decide +kernel
theorem dX8_folded_53 : decode cX8_folded 53 = .ok (.iload 4, 2) := by decide +kernel
theorem dX8_folded_55 : decode cX8_folded 55 = .ok (.ineg, 1) := by decide +kernel
theorem dX8_folded_56 : decode cX8_folded 56 = .ok (.invokevirtual 143, 3) := by decide +kernel
theorem dX8_folded_59 : decode cX8_folded 59 = .ok (.ireturn, 1) := by decide +kernel
theorem dX8_folded_60 : decode cX8_folded 60 = .ok (.aload_n 0, 1) := by decide +kernel
theorem dX8_folded_61 : decode cX8_folded 61 = .ok (.getfield 7, 3) := by decide +kernel
theorem dX8_folded_64 : decode cX8_folded 64 = .ok (.aload_n 0, 1) := by decide +kernel
theorem dX8_folded_65 : decode cX8_folded 65 = .ok (.getfield 19, 3) := by decide +kernel
theorem dX8_folded_68 : decode cX8_folded 68 = .ok (.iload_n 1, 1) := by decide +kernel
theorem dX8_folded_69 : decode cX8_folded 69 = .ok (.iaload, 1) := by decide +kernel
theorem dX8_folded_70 : decode cX8_folded 70 = .ok (.iaload, 1) := by decide +kernel
theorem dX8_folded_71 : decode cX8_folded 71 = .ok (.ifCond .eq 5, 3) := by decide +kernel
theorem dX8_folded_74 : decode cX8_folded 74 = .ok (.iload_n 1, 1) := by decide +kernel
theorem dX8_folded_75 : decode cX8_folded 75 = .ok (.ireturn, 1) := by decide +kernel
theorem dX8_folded_76 : decode cX8_folded 76 = .ok (.aload_n 0, 1) := by decide +kernel
theorem dX8_folded_77 : decode cX8_folded 77 = .ok (.getfield 13, 3) := by decide +kernel
theorem dX8_folded_80 : decode cX8_folded 80 = .ok (.aload_n 0, 1) := by decide +kernel
theorem dX8_folded_81 : decode cX8_folded 81 = .ok (.getfield 19, 3) := by decide +kernel
theorem dX8_folded_84 : decode cX8_folded 84 = .ok (.iload_n 1, 1) := by decide +kernel
theorem dX8_folded_85 : decode cX8_folded 85 = .ok (.iaload, 1) := by decide +kernel
theorem dX8_folded_86 : decode cX8_folded 86 = .ok (.iaload, 1) := by decide +kernel
theorem dX8_folded_87 : decode cX8_folded 87 = .ok (.istore 5, 2) := by decide +kernel
theorem dX8_folded_89 : decode cX8_folded 89 = .ok (.iload_n 3, 1) := by decide +kernel
theorem dX8_folded_90 : decode cX8_folded 90 = .ok (.bipush 7, 2) := by decide +kernel
theorem dX8_folded_92 : decode cX8_folded 92 = .ok (.if_icmp .ne 10, 3) := by decide +kernel
theorem dX8_folded_95 : decode cX8_folded 95 = .ok (.iload 5, 2) := by decide +kernel
theorem dX8_folded_97 : decode cX8_folded 97 = .ok (.ifCond .ne 5, 3) := by decide +kernel
theorem dX8_folded_100 : decode cX8_folded 100 = .ok (.iload_n 1, 1) := by decide +kernel
theorem dX8_folded_101 : decode cX8_folded 101 = .ok (.ireturn, 1) := by decide +kernel
theorem dX8_folded_102 : decode cX8_folded 102 = .ok (.iload_n 3, 1) := by decide +kernel
theorem dX8_folded_103 : decode cX8_folded 103 = .ok (.iconst 5, 1) := by decide +kernel
theorem dX8_folded_104 : decode cX8_folded 104 = .ok (.if_icmp .ne 18, 3) := by decide +kernel
theorem dX8_folded_107 : decode cX8_folded 107 = .ok (.iload_n 2, 1) := by decide +kernel
theorem dX8_folded_108 : decode cX8_folded 108 = .ok (.iconst 1, 1) := by decide +kernel
theorem dX8_folded_109 : decode cX8_folded 109 = .ok (.if_icmp .ne 13, 3) := by decide +kernel
theorem dX8_folded_112 : decode cX8_folded 112 = .ok (.aload_n 0, 1) := by decide +kernel
theorem dX8_folded_113 : decode cX8_folded 113 = .ok (.iload 5, 2) := by decide +kernel
theorem dX8_folded_115 : decode cX8_folded 115 = .ok (.iload 4, 2) := by decide +kernel
theorem dX8_folded_117 : decode cX8_folded 117 = .ok (.isub, 1) := by decide +kernel
theorem dX8_folded_118 : decode cX8_folded 118 = .ok (.invokevirtual 143, 3) := by decide +kernel
theorem dX8_folded_121 : decode cX8_folded 121 = .ok (.ireturn, 1) := by decide +kernel
theorem dX8_folded_122 : decode cX8_folded 122 = .ok (.aload_n 0, 1) := by decide +kernel
theorem dX8_folded_123 : decode cX8_folded 123 = .ok (.iload_n 3, 1) := by decide +kernel
theorem dX8_folded_124 : decode cX8_folded 124 = .ok (.bipush 6, 2) := by decide +kernel
theorem dX8_folded_126 : decode cX8_folded 126 = .ok (.if_icmp .ne 17, 3) := by decide +kernel
theorem dX8_folded_129 : decode cX8_folded 129 = .ok (.iload_n 2, 1) := by decide +kernel
theorem dX8_folded_130 : decode cX8_folded 130 = .ok (.iconst 2, 1) := by decide +kernel
theorem dX8_folded_131 : decode cX8_folded 131 = .ok (.if_icmp .ne 12, 3) := by decide +kernel
theorem dX8_folded_134 : decode cX8_folded 134 = .ok (.iload 4, 2) := by decide +kernel
theorem dX8_folded_136 : decode cX8_folded 136 = .ok (.iload 5, 2) := by decide +kernel
theorem dX8_folded_138 : decode cX8_folded 138 = .ok (.imul, 1) := by decide +kernel
theorem dX8_folded_139 : decode cX8_folded 139 = .ok (.i2s, 1) := by decide +kernel
theorem dX8_folded_140 : decode cX8_folded 140 = .ok (.goto 11, 3) := by decide +kernel
theorem dX8_folded_143 : decode cX8_folded 143 = .ok (.iload_n 3, 1) := by decide +kernel
theorem dX8_folded_144 : decode cX8_folded 144 = .ok (.iload 4, 2) := by decide +kernel
theorem dX8_folded_146 : decode cX8_folded 146 = .ok (.iload 5, 2) := by decide +kernel
theorem dX8_folded_148 : decode cX8_folded 148 = .ok (.invokestatic 115, 3) := by decide +kernel
theorem dX8_folded_151 : decode cX8_folded 151 = .ok (.invokevirtual 143, 3) := by decide +kernel
theorem dX8_folded_154 : decode cX8_folded 154 = .ok (.ireturn, 1) := by decide +kernel
theorem dX8_zeroed_0 : decode cX8_zeroed 0 = .ok (.aload_n 0, 1) := by decide +kernel
theorem dX8_zeroed_1 : decode cX8_zeroed 1 = .ok (.getfield 7, 3) := by decide +kernel
theorem dX8_zeroed_4 : decode cX8_zeroed 4 = .ok (.iload_n 1, 1) := by decide +kernel
theorem dX8_zeroed_5 : decode cX8_zeroed 5 = .ok (.iaload, 1) := by decide +kernel
theorem dX8_zeroed_6 : decode cX8_zeroed 6 = .ok (.istore_n 3, 1) := by decide +kernel
theorem dX8_zeroed_7 : decode cX8_zeroed 7 = .ok (.iload_n 3, 1) := by decide +kernel
theorem dX8_zeroed_8 : decode cX8_zeroed 8 = .ok (.iconst 4, 1) := by decide +kernel
theorem dX8_zeroed_9 : decode cX8_zeroed 9 = .ok (.if_icmp .lt 9, 3) := by decide +kernel
theorem dX8_zeroed_12 : decode cX8_zeroed 12 = .ok (.iload_n 3, 1) := by decide +kernel
theorem dX8_zeroed_13 : decode cX8_zeroed 13 = .ok (.bipush 8, 2) := by decide +kernel
theorem dX8_zeroed_15 : decode cX8_zeroed 15 = .ok (.if_icmp .ne 5, 3) := by decide +kernel
theorem dX8_zeroed_18 : decode cX8_zeroed 18 = .ok (.iload_n 1, 1) := by decide +kernel
theorem dX8_zeroed_19 : decode cX8_zeroed 19 = .ok (.ireturn, 1) := by decide +kernel
theorem dX8_zeroed_20 : decode cX8_zeroed 20 = .ok (.aload_n 0, 1) := by decide +kernel
theorem dX8_zeroed_21 : decode cX8_zeroed 21 = .ok (.getfield 16, 3) := by decide +kernel
theorem dX8_zeroed_24 : decode cX8_zeroed 24 = .ok (.iload_n 1, 1) := by decide +kernel
theorem dX8_zeroed_25 : decode cX8_zeroed 25 = .ok (.iaload, 1) := by decide +kernel
theorem dX8_zeroed_26 : decode cX8_zeroed 26 = .ok (.istore 4, 2) := by decide +kernel
theorem dX8_zeroed_28 : decode cX8_zeroed 28 = .ok (.aload_n 0, 1) := by decide +kernel
theorem dX8_zeroed_29 : decode cX8_zeroed 29 = .ok (.getfield 19, 3) := by decide +kernel
theorem dX8_zeroed_32 : decode cX8_zeroed 32 = .ok (.iload_n 1, 1) := by decide +kernel
theorem dX8_zeroed_33 : decode cX8_zeroed 33 = .ok (.iaload, 1) := by decide +kernel
theorem dX8_zeroed_34 : decode cX8_zeroed 34 = .ok (.istore 5, 2) := by decide +kernel
theorem dX8_zeroed_36 : decode cX8_zeroed 36 = .ok (.iload_n 3, 1) := by decide +kernel
theorem dX8_zeroed_37 : decode cX8_zeroed 37 = .ok (.iconst 4, 1) := by decide +kernel
theorem dX8_zeroed_38 : decode cX8_zeroed 38 = .ok (.if_icmp .ne 35, 3) := by decide +kernel
theorem dX8_zeroed_41 : decode cX8_zeroed 41 = .ok (.aload_n 0, 1) := by decide +kernel
theorem dX8_zeroed_42 : decode cX8_zeroed 42 = .ok (.iload 5, 2) := by decide +kernel
theorem dX8_zeroed_44 : decode cX8_zeroed 44 = .ok (.iconst 0, 1) := by decide +kernel
theorem dX8_zeroed_45 : decode cX8_zeroed 45 = .ok (.invokevirtual 147, 3) := by decide +kernel
theorem dX8_zeroed_48 : decode cX8_zeroed 48 = .ok (.ifCond .eq 8, 3) := by decide +kernel
theorem dX8_zeroed_51 : decode cX8_zeroed 51 = .ok (.iload 4, 2) := by decide +kernel
theorem dX8_zeroed_53 : decode cX8_zeroed 53 = .ok (.goto 19, 3) := by decide +kernel
theorem dX8_zeroed_56 : decode cX8_zeroed 56 = .ok (.aload_n 0, 1) := by decide +kernel
theorem dX8_zeroed_57 : decode cX8_zeroed 57 = .ok (.iload 4, 2) := by decide +kernel
theorem dX8_zeroed_59 : decode cX8_zeroed 59 = .ok (.iconst 0, 1) := by decide +kernel
theorem dX8_zeroed_60 : decode cX8_zeroed 60 = .ok (.invokevirtual 147, 3) := by decide +kernel
theorem dX8_zeroed_63 : decode cX8_zeroed 63 = .ok (.ifCond .eq 8, 3) := by decide +kernel
theorem dX8_zeroed_66 : decode cX8_zeroed 66 = .ok (.iload 5, 2) := by decide +kernel
theorem dX8_zeroed_68 : decode cX8_zeroed 68 = .ok (.goto 4, 3) := by decide +kernel
theorem dX8_zeroed_71 : decode cX8_zeroed 71 = .ok (.iload_n 1, 1) := by decide +kernel
theorem dX8_zeroed_72 : decode cX8_zeroed 72 = .ok (.ireturn, 1) := by decide +kernel
theorem dX8_zeroed_73 : decode cX8_zeroed 73 = .ok (.iload_n 3, 1) := by decide +kernel
theorem dX8_zeroed_74 : decode cX8_zeroed 74 = .ok (.iconst 5, 1) := by decide +kernel
theorem dX8_zeroed_75 : decode cX8_zeroed 75 = .ok (.if_icmp .ne 40, 3) := by decide +kernel
theorem dX8_zeroed_78 : decode cX8_zeroed 78 = .ok (.aload_n 0, 1) := by decide +kernel
theorem dX8_zeroed_79 : decode cX8_zeroed 79 = .ok (.iload 5, 2) := by decide +kernel
theorem dX8_zeroed_81 : decode cX8_zeroed 81 = .ok (.iconst 0, 1) := by decide +kernel
theorem dX8_zeroed_82 : decode cX8_zeroed 82 = .ok (.invokevirtual 147, 3) := by decide +kernel
theorem dX8_zeroed_85 : decode cX8_zeroed 85 = .ok (.ifCond .eq 8, 3) := by decide +kernel
theorem dX8_zeroed_88 : decode cX8_zeroed 88 = .ok (.iload 4, 2) := by decide +kernel
theorem dX8_zeroed_90 : decode cX8_zeroed 90 = .ok (.goto 24, 3) := by decide +kernel
theorem dX8_zeroed_93 : decode cX8_zeroed 93 = .ok (.iload_n 2, 1) := by decide +kernel
theorem dX8_zeroed_94 : decode cX8_zeroed 94 = .ok (.iconst 1, 1) := by decide +kernel
theorem dX8_zeroed_95 : decode cX8_zeroed 95 = .ok (.if_icmp .ne 18, 3) := by decide +kernel
theorem dX8_zeroed_98 : decode cX8_zeroed 98 = .ok (.aload_n 0, 1) := by decide +kernel
theorem dX8_zeroed_99 : decode cX8_zeroed 99 = .ok (.iload 4, 2) := by decide +kernel
theorem dX8_zeroed_101 : decode cX8_zeroed 101 = .ok (.iconst 0, 1) := by decide +kernel
theorem dX8_zeroed_102 : decode cX8_zeroed 102 = .ok (.invokevirtual 147, 3) := by decide +kernel
theorem dX8_zeroed_105 : decode cX8_zeroed 105 = .ok (.ifCond .eq 8, 3) := by decide +kernel
theorem dX8_zeroed_108 : decode cX8_zeroed 108 = .ok (.iload 5, 2) := by decide +kernel
theorem dX8_zeroed_110 : decode cX8_zeroed 110 = .ok (.goto 4, 3) := by decide +kernel
theorem dX8_zeroed_113 : decode cX8_zeroed 113 = .ok (.iload_n 1, 1) := by decide +kernel
theorem dX8_zeroed_114 : decode cX8_zeroed 114 = .ok (.ireturn, 1) := by decide +kernel
theorem dX8_zeroed_115 : decode cX8_zeroed 115 = .ok (.iload_n 3, 1) := by decide +kernel
theorem dX8_zeroed_116 : decode cX8_zeroed 116 = .ok (.bipush 7, 2) := by decide +kernel
theorem dX8_zeroed_118 : decode cX8_zeroed 118 = .ok (.if_icmp .ne 20, 3) := by decide +kernel
theorem dX8_zeroed_121 : decode cX8_zeroed 121 = .ok (.aload_n 0, 1) := by decide +kernel
theorem dX8_zeroed_122 : decode cX8_zeroed 122 = .ok (.iload 5, 2) := by decide +kernel
theorem dX8_zeroed_124 : decode cX8_zeroed 124 = .ok (.iconst 1, 1) := by decide +kernel
theorem dX8_zeroed_125 : decode cX8_zeroed 125 = .ok (.invokevirtual 147, 3) := by decide +kernel
theorem dX8_zeroed_128 : decode cX8_zeroed 128 = .ok (.ifCond .eq 8, 3) := by decide +kernel
theorem dX8_zeroed_131 : decode cX8_zeroed 131 = .ok (.iload 4, 2) := by decide +kernel
theorem dX8_zeroed_133 : decode cX8_zeroed 133 = .ok (.goto 4, 3) := by decide +kernel
theorem dX8_zeroed_136 : decode cX8_zeroed 136 = .ok (.iload_n 1, 1) := by decide +kernel
theorem dX8_zeroed_137 : decode cX8_zeroed 137 = .ok (.ireturn, 1) := by decide +kernel
theorem dX8_zeroed_138 : decode cX8_zeroed 138 = .ok (.aload_n 0, 1) := by decide +kernel
theorem dX8_zeroed_139 : decode cX8_zeroed 139 = .ok (.iload 5, 2) := by decide +kernel
theorem dX8_zeroed_141 : decode cX8_zeroed 141 = .ok (.iconst 1, 1) := by decide +kernel
theorem dX8_zeroed_142 : decode cX8_zeroed 142 = .ok (.invokevirtual 147, 3) := by decide +kernel
theorem dX8_zeroed_145 : decode cX8_zeroed 145 = .ok (.ifCond .eq 6, 3) := by decide +kernel
theorem dX8_zeroed_148 : decode cX8_zeroed 148 = .ok (.iload 4, 2) := by decide +kernel
theorem dX8_zeroed_150 : decode cX8_zeroed 150 = .ok (.ireturn, 1) := by decide +kernel
theorem dX8_zeroed_151 : decode cX8_zeroed 151 = .ok (.aload_n 0, 1) := by decide +kernel
theorem dX8_zeroed_152 : decode cX8_zeroed 152 = .ok (.iload 4, 2) := by decide +kernel
theorem dX8_zeroed_154 : decode cX8_zeroed 154 = .ok (.iconst 1, 1) := by decide +kernel
theorem dX8_zeroed_155 : decode cX8_zeroed 155 = .ok (.invokevirtual 147, 3) := by decide +kernel
theorem dX8_zeroed_158 : decode cX8_zeroed 158 = .ok (.ifCond .eq 6, 3) := by decide +kernel
theorem dX8_zeroed_161 : decode cX8_zeroed 161 = .ok (.iload 5, 2) := by decide +kernel
theorem dX8_zeroed_163 : decode cX8_zeroed 163 = .ok (.ireturn, 1) := by decide +kernel
theorem dX8_zeroed_164 : decode cX8_zeroed 164 = .ok (.aload_n 0, 1) := by decide +kernel
theorem dX8_zeroed_165 : decode cX8_zeroed 165 = .ok (.iload 5, 2) := by decide +kernel
theorem dX8_zeroed_167 : decode cX8_zeroed 167 = .ok (.iconst 0, 1) := by decide +kernel
theorem dX8_zeroed_168 : decode cX8_zeroed 168 = .ok (.invokevirtual 147, 3) := by decide +kernel
theorem dX8_zeroed_171 : decode cX8_zeroed 171 = .ok (.ifCond .eq 19, 3) := by decide +kernel
theorem dX8_zeroed_174 : decode cX8_zeroed 174 = .ok (.iload_n 2, 1) := by decide +kernel
theorem dX8_zeroed_175 : decode cX8_zeroed 175 = .ok (.iconst 2, 1) := by decide +kernel
theorem dX8_zeroed_176 : decode cX8_zeroed 176 = .ok (.if_icmp .ne 8, 3) := by decide +kernel
theorem dX8_zeroed_179 : decode cX8_zeroed 179 = .ok (.iload 4, 2) := by decide +kernel
theorem dX8_zeroed_181 : decode cX8_zeroed 181 = .ok (.goto 8, 3) := by decide +kernel
theorem dX8_zeroed_184 : decode cX8_zeroed 184 = .ok (.aload_n 0, 1) := by decide +kernel
theorem dX8_zeroed_185 : decode cX8_zeroed 185 = .ok (.iconst 0, 1) := by decide +kernel
theorem dX8_zeroed_186 : decode cX8_zeroed 186 = .ok (.invokevirtual 143, 3) := by decide +kernel
theorem dX8_zeroed_189 : decode cX8_zeroed 189 = .ok (.ireturn, 1) := by decide +kernel
theorem dX8_zeroed_190 : decode cX8_zeroed 190 = .ok (.aload_n 0, 1) := by decide +kernel
theorem dX8_zeroed_191 : decode cX8_zeroed 191 = .ok (.iload 4, 2) := by decide +kernel
theorem dX8_zeroed_193 : decode cX8_zeroed 193 = .ok (.iconst 0, 1) := by decide +kernel
theorem dX8_zeroed_194 : decode cX8_zeroed 194 = .ok (.invokevirtual 147, 3) := by decide +kernel
theorem dX8_zeroed_197 : decode cX8_zeroed 197 = .ok (.ifCond .ne 7, 3) := by decide +kernel
theorem dX8_zeroed_200 : decode cX8_zeroed 200 = .ok (.iload_n 1, 1) := by decide +kernel
theorem dX8_zeroed_201 : decode cX8_zeroed 201 = .ok (.goto 18, 3) := by decide +kernel
theorem dX8_zeroed_204 : decode cX8_zeroed 204 = .ok (.iload_n 2, 1) := by decide +kernel
theorem dX8_zeroed_205 : decode cX8_zeroed 205 = .ok (.iconst 2, 1) := by decide +kernel
theorem dX8_zeroed_206 : decode cX8_zeroed 206 = .ok (.if_icmp .ne 8, 3) := by decide +kernel
theorem dX8_zeroed_209 : decode cX8_zeroed 209 = .ok (.iload 5, 2) := by decide +kernel
theorem dX8_zeroed_211 : decode cX8_zeroed 211 = .ok (.goto 8, 3) := by decide +kernel
theorem dX8_zeroed_214 : decode cX8_zeroed 214 = .ok (.aload_n 0, 1) := by decide +kernel
theorem dX8_zeroed_215 : decode cX8_zeroed 215 = .ok (.iconst 0, 1) := by decide +kernel
theorem dX8_zeroed_216 : decode cX8_zeroed 216 = .ok (.invokevirtual 143, 3) := by decide +kernel
theorem dX8_zeroed_219 : decode cX8_zeroed 219 = .ok (.ireturn, 1) := by decide +kernel
theorem dX8_lookSame_0 : decode cX8_lookSame 0 = .ok (.iload_n 3, 1) := by decide +kernel
theorem dX8_lookSame_1 : decode cX8_lookSame 1 = .ok (.iconst 2, 1) := by decide +kernel
theorem dX8_lookSame_2 : decode cX8_lookSame 2 = .ok (.if_icmp .ne 65, 3) := by decide +kernel
theorem dX8_lookSame_5 : decode cX8_lookSame 5 = .ok (.aload_n 0, 1) := by decide +kernel
theorem dX8_lookSame_6 : decode cX8_lookSame 6 = .ok (.getfield 7, 3) := by decide +kernel
theorem dX8_lookSame_9 : decode cX8_lookSame 9 = .ok (.iload_n 1, 1) := by decide +kernel
theorem dX8_lookSame_10 : decode cX8_lookSame 10 = .ok (.iaload, 1) := by decide +kernel
theorem dX8_lookSame_11 : decode cX8_lookSame 11 = .ok (.aload_n 0, 1) := by decide +kernel
theorem dX8_lookSame_12 : decode cX8_lookSame 12 = .ok (.getfield 7, 3) := by decide +kernel
theorem dX8_lookSame_15 : decode cX8_lookSame 15 = .ok (.iload_n 2, 1) := by decide +kernel
theorem dX8_lookSame_16 : decode cX8_lookSame 16 = .ok (.iaload, 1) := by decide +kernel
theorem dX8_lookSame_17 : decode cX8_lookSame 17 = .ok (.if_icmp .ne 46, 3) := by decide +kernel
theorem dX8_lookSame_20 : decode cX8_lookSame 20 = .ok (.aload_n 0, 1) := by decide +kernel
theorem dX8_lookSame_21 : decode cX8_lookSame 21 = .ok (.getfield 25, 3) := by decide +kernel
theorem dX8_lookSame_24 : decode cX8_lookSame 24 = .ok (.iload_n 1, 1) := by decide +kernel
theorem dX8_lookSame_25 : decode cX8_lookSame 25 = .ok (.iaload, 1) := by decide +kernel
theorem dX8_lookSame_26 : decode cX8_lookSame 26 = .ok (.aload_n 0, 1) := by decide +kernel
theorem dX8_lookSame_27 : decode cX8_lookSame 27 = .ok (.getfield 25, 3) := by decide +kernel
theorem dX8_lookSame_30 : decode cX8_lookSame 30 = .ok (.iload_n 2, 1) := by decide +kernel
theorem dX8_lookSame_31 : decode cX8_lookSame 31 = .ok (.iaload, 1) := by decide +kernel
theorem dX8_lookSame_32 : decode cX8_lookSame 32 = .ok (.if_icmp .ne 31, 3) := by decide +kernel
theorem dX8_lookSame_35 : decode cX8_lookSame 35 = .ok (.aload_n 0, 1) := by decide +kernel
theorem dX8_lookSame_36 : decode cX8_lookSame 36 = .ok (.getfield 7, 3) := by decide +kernel
theorem dX8_lookSame_39 : decode cX8_lookSame 39 = .ok (.iload_n 1, 1) := by decide +kernel
theorem dX8_lookSame_40 : decode cX8_lookSame 40 = .ok (.iaload, 1) := by decide +kernel
theorem dX8_lookSame_41 : decode cX8_lookSame 41 = .ok (.ifCond .ne 18, 3) := by decide +kernel
theorem dX8_lookSame_44 : decode cX8_lookSame 44 = .ok (.aload_n 0, 1) := by decide +kernel
theorem dX8_lookSame_45 : decode cX8_lookSame 45 = .ok (.getfield 13, 3) := by decide +kernel
theorem dX8_lookSame_48 : decode cX8_lookSame 48 = .ok (.iload_n 1, 1) := by decide +kernel
theorem dX8_lookSame_49 : decode cX8_lookSame 49 = .ok (.iaload, 1) := by decide +kernel
theorem dX8_lookSame_50 : decode cX8_lookSame 50 = .ok (.aload_n 0, 1) := by decide +kernel
theorem dX8_lookSame_51 : decode cX8_lookSame 51 = .ok (.getfield 13, 3) := by decide +kernel
theorem dX8_lookSame_54 : decode cX8_lookSame 54 = .ok (.iload_n 2, 1) := by decide +kernel
theorem dX8_lookSame_55 : decode cX8_lookSame 55 = .ok (.iaload, 1) := by decide +kernel
theorem dX8_lookSame_56 : decode cX8_lookSame 56 = .ok (.if_icmp .ne 7, 3) := by decide +kernel
theorem dX8_lookSame_59 : decode cX8_lookSame 59 = .ok (.iconst 1, 1) := by decide +kernel
theorem dX8_lookSame_60 : decode cX8_lookSame 60 = .ok (.goto 13, 3) := by decide +kernel
theorem dX8_lookSame_63 : decode cX8_lookSame 63 = .ok (.iconst 0, 1) := by decide +kernel
theorem dX8_lookSame_64 : decode cX8_lookSame 64 = .ok (.goto 9, 3) := by decide +kernel
theorem dX8_lookSame_67 : decode cX8_lookSame 67 = .ok (.aload_n 0, 1) := by decide +kernel
theorem dX8_lookSame_68 : decode cX8_lookSame 68 = .ok (.iload_n 1, 1) := by decide +kernel
theorem dX8_lookSame_69 : decode cX8_lookSame 69 = .ok (.iload_n 2, 1) := by decide +kernel
theorem dX8_lookSame_70 : decode cX8_lookSame 70 = .ok (.invokevirtual 100, 3) := by decide +kernel
theorem dX8_lookSame_73 : decode cX8_lookSame 73 = .ok (.ireturn, 1) := by decide +kernel
theorem dX8_samed_0 : decode cX8_samed 0 = .ok (.aload_n 0, 1) := by decide +kernel
theorem dX8_samed_1 : decode cX8_samed 1 = .ok (.getfield 7, 3) := by decide +kernel
theorem dX8_samed_4 : decode cX8_samed 4 = .ok (.iload_n 1, 1) := by decide +kernel
theorem dX8_samed_5 : decode cX8_samed 5 = .ok (.iaload, 1) := by decide +kernel
theorem dX8_samed_6 : decode cX8_samed 6 = .ok (.iconst 5, 1) := by decide +kernel
theorem dX8_samed_7 : decode cX8_samed 7 = .ok (.if_icmp .ne 29, 3) := by decide +kernel
theorem dX8_samed_10 : decode cX8_samed 10 = .ok (.aload_n 0, 1) := by decide +kernel
theorem dX8_samed_11 : decode cX8_samed 11 = .ok (.aload_n 0, 1) := by decide +kernel
theorem dX8_samed_12 : decode cX8_samed 12 = .ok (.getfield 16, 3) := by decide +kernel
theorem dX8_samed_15 : decode cX8_samed 15 = .ok (.iload_n 1, 1) := by decide +kernel
theorem dX8_samed_16 : decode cX8_samed 16 = .ok (.iaload, 1) := by decide +kernel
theorem dX8_samed_17 : decode cX8_samed 17 = .ok (.aload_n 0, 1) := by decide +kernel
theorem dX8_samed_18 : decode cX8_samed 18 = .ok (.getfield 19, 3) := by decide +kernel
theorem dX8_samed_21 : decode cX8_samed 21 = .ok (.iload_n 1, 1) := by decide +kernel
theorem dX8_samed_22 : decode cX8_samed 22 = .ok (.iaload, 1) := by decide +kernel
theorem dX8_samed_23 : decode cX8_samed 23 = .ok (.iload_n 2, 1) := by decide +kernel
theorem dX8_samed_24 : decode cX8_samed 24 = .ok (.invokevirtual 150, 3) := by decide +kernel
theorem dX8_samed_27 : decode cX8_samed 27 = .ok (.ifCond .eq 9, 3) := by decide +kernel
theorem dX8_samed_30 : decode cX8_samed 30 = .ok (.aload_n 0, 1) := by decide +kernel
theorem dX8_samed_31 : decode cX8_samed 31 = .ok (.iconst 0, 1) := by decide +kernel
theorem dX8_samed_32 : decode cX8_samed 32 = .ok (.invokevirtual 143, 3) := by decide +kernel
theorem dX8_samed_35 : decode cX8_samed 35 = .ok (.ireturn, 1) := by decide +kernel
theorem dX8_samed_36 : decode cX8_samed 36 = .ok (.aload_n 0, 1) := by decide +kernel
theorem dX8_samed_37 : decode cX8_samed 37 = .ok (.getfield 7, 3) := by decide +kernel
theorem dX8_samed_40 : decode cX8_samed 40 = .ok (.iload_n 1, 1) := by decide +kernel
theorem dX8_samed_41 : decode cX8_samed 41 = .ok (.iaload, 1) := by decide +kernel
theorem dX8_samed_42 : decode cX8_samed 42 = .ok (.iconst 4, 1) := by decide +kernel
theorem dX8_samed_43 : decode cX8_samed 43 = .ok (.if_icmp .ne 35, 3) := by decide +kernel
theorem dX8_samed_46 : decode cX8_samed 46 = .ok (.iload_n 2, 1) := by decide +kernel
theorem dX8_samed_47 : decode cX8_samed 47 = .ok (.iconst 1, 1) := by decide +kernel
theorem dX8_samed_48 : decode cX8_samed 48 = .ok (.if_icmp .ne 30, 3) := by decide +kernel
theorem dX8_samed_51 : decode cX8_samed 51 = .ok (.aload_n 0, 1) := by decide +kernel
theorem dX8_samed_52 : decode cX8_samed 52 = .ok (.aload_n 0, 1) := by decide +kernel
theorem dX8_samed_53 : decode cX8_samed 53 = .ok (.getfield 16, 3) := by decide +kernel
theorem dX8_samed_56 : decode cX8_samed 56 = .ok (.iload_n 1, 1) := by decide +kernel
theorem dX8_samed_57 : decode cX8_samed 57 = .ok (.iaload, 1) := by decide +kernel
theorem dX8_samed_58 : decode cX8_samed 58 = .ok (.aload_n 0, 1) := by decide +kernel
theorem dX8_samed_59 : decode cX8_samed 59 = .ok (.getfield 19, 3) := by decide +kernel
theorem dX8_samed_62 : decode cX8_samed 62 = .ok (.iload_n 1, 1) := by decide +kernel
theorem dX8_samed_63 : decode cX8_samed 63 = .ok (.iaload, 1) := by decide +kernel
theorem dX8_samed_64 : decode cX8_samed 64 = .ok (.invokevirtual 100, 3) := by decide +kernel
theorem dX8_samed_67 : decode cX8_samed 67 = .ok (.ifCond .eq 11, 3) := by decide +kernel
theorem dX8_samed_70 : decode cX8_samed 70 = .ok (.aload_n 0, 1) := by decide +kernel
theorem dX8_samed_71 : decode cX8_samed 71 = .ok (.iconst 0, 1) := by decide +kernel
theorem dX8_samed_72 : decode cX8_samed 72 = .ok (.invokevirtual 143, 3) := by decide +kernel
theorem dX8_samed_75 : decode cX8_samed 75 = .ok (.goto 4, 3) := by decide +kernel
theorem dX8_samed_78 : decode cX8_samed 78 = .ok (.iload_n 1, 1) := by decide +kernel
theorem dX8_samed_79 : decode cX8_samed 79 = .ok (.ireturn, 1) := by decide +kernel
theorem dX8_picked_0 : decode cX8_picked 0 = .ok (.aload_n 0, 1) := by decide +kernel
theorem dX8_picked_1 : decode cX8_picked 1 = .ok (.getfield 7, 3) := by decide +kernel
theorem dX8_picked_4 : decode cX8_picked 4 = .ok (.iload_n 1, 1) := by decide +kernel
theorem dX8_picked_5 : decode cX8_picked 5 = .ok (.iaload, 1) := by decide +kernel
theorem dX8_picked_6 : decode cX8_picked 6 = .ok (.bipush 8, 2) := by decide +kernel
theorem dX8_picked_8 : decode cX8_picked 8 = .ok (.if_icmp .ne 17, 3) := by decide +kernel
theorem dX8_picked_11 : decode cX8_picked 11 = .ok (.aload_n 0, 1) := by decide +kernel
theorem dX8_picked_12 : decode cX8_picked 12 = .ok (.getfield 7, 3) := by decide +kernel
theorem dX8_picked_15 : decode cX8_picked 15 = .ok (.aload_n 0, 1) := by decide +kernel
theorem dX8_picked_16 : decode cX8_picked 16 = .ok (.getfield 16, 3) := by decide +kernel
theorem dX8_picked_19 : decode cX8_picked 19 = .ok (.iload_n 1, 1) := by decide +kernel
theorem dX8_picked_20 : decode cX8_picked 20 = .ok (.iaload, 1) := by decide +kernel
theorem dX8_picked_21 : decode cX8_picked 21 = .ok (.iaload, 1) := by decide +kernel
theorem dX8_picked_22 : decode cX8_picked 22 = .ok (.ifCond .eq 5, 3) := by decide +kernel
theorem dX8_picked_25 : decode cX8_picked 25 = .ok (.iload_n 1, 1) := by decide +kernel
theorem dX8_picked_26 : decode cX8_picked 26 = .ok (.ireturn, 1) := by decide +kernel
theorem dX8_picked_27 : decode cX8_picked 27 = .ok (.aload_n 0, 1) := by decide +kernel
theorem dX8_picked_28 : decode cX8_picked 28 = .ok (.getfield 13, 3) := by decide +kernel
theorem dX8_picked_31 : decode cX8_picked 31 = .ok (.aload_n 0, 1) := by decide +kernel
theorem dX8_picked_32 : decode cX8_picked 32 = .ok (.getfield 16, 3) := by decide +kernel
theorem dX8_picked_35 : decode cX8_picked 35 = .ok (.iload_n 1, 1) := by decide +kernel
theorem dX8_picked_36 : decode cX8_picked 36 = .ok (.iaload, 1) := by decide +kernel
theorem dX8_picked_37 : decode cX8_picked 37 = .ok (.iaload, 1) := by decide +kernel
theorem dX8_picked_38 : decode cX8_picked 38 = .ok (.istore_n 3, 1) := by decide +kernel
theorem dX8_picked_39 : decode cX8_picked 39 = .ok (.iload_n 2, 1) := by decide +kernel
theorem dX8_picked_40 : decode cX8_picked 40 = .ok (.iconst 2, 1) := by decide +kernel
theorem dX8_picked_41 : decode cX8_picked 41 = .ok (.if_icmp .ne 10, 3) := by decide +kernel
theorem dX8_picked_44 : decode cX8_picked 44 = .ok (.aload_n 0, 1) := by decide +kernel
theorem dX8_picked_45 : decode cX8_picked 45 = .ok (.getfield 19, 3) := by decide +kernel
theorem dX8_picked_48 : decode cX8_picked 48 = .ok (.iload_n 1, 1) := by decide +kernel
theorem dX8_picked_49 : decode cX8_picked 49 = .ok (.iaload, 1) := by decide +kernel
theorem dX8_picked_50 : decode cX8_picked 50 = .ok (.ireturn, 1) := by decide +kernel
theorem dX8_picked_51 : decode cX8_picked 51 = .ok (.iload_n 3, 1) := by decide +kernel
theorem dX8_picked_52 : decode cX8_picked 52 = .ok (.ifCond .eq 12, 3) := by decide +kernel
theorem dX8_picked_55 : decode cX8_picked 55 = .ok (.iload_n 2, 1) := by decide +kernel
theorem dX8_picked_56 : decode cX8_picked 56 = .ok (.iconst 1, 1) := by decide +kernel
theorem dX8_picked_57 : decode cX8_picked 57 = .ok (.if_icmp .ne 16, 3) := by decide +kernel
theorem dX8_picked_60 : decode cX8_picked 60 = .ok (.iload_n 3, 1) := by decide +kernel
theorem dX8_picked_61 : decode cX8_picked 61 = .ok (.ifCond .ge 12, 3) := by decide +kernel
theorem dX8_picked_64 : decode cX8_picked 64 = .ok (.aload_n 0, 1) := by decide +kernel
theorem dX8_picked_65 : decode cX8_picked 65 = .ok (.getfield 22, 3) := by decide +kernel
theorem dX8_picked_68 : decode cX8_picked 68 = .ok (.iload_n 1, 1) := by decide +kernel
theorem dX8_picked_69 : decode cX8_picked 69 = .ok (.iaload, 1) := by decide +kernel
theorem dX8_picked_70 : decode cX8_picked 70 = .ok (.goto 9, 3) := by decide +kernel
theorem dX8_picked_73 : decode cX8_picked 73 = .ok (.aload_n 0, 1) := by decide +kernel
theorem dX8_picked_74 : decode cX8_picked 74 = .ok (.getfield 19, 3) := by decide +kernel
theorem dX8_picked_77 : decode cX8_picked 77 = .ok (.iload_n 1, 1) := by decide +kernel
theorem dX8_picked_78 : decode cX8_picked 78 = .ok (.iaload, 1) := by decide +kernel
theorem dX8_picked_79 : decode cX8_picked 79 = .ok (.ireturn, 1) := by decide +kernel
theorem dX8_melted_0 : decode cX8_melted 0 = .ok (.aload_n 0, 1) := by decide +kernel
theorem dX8_melted_1 : decode cX8_melted 1 = .ok (.getfield 7, 3) := by decide +kernel
theorem dX8_melted_4 : decode cX8_melted 4 = .ok (.iload_n 1, 1) := by decide +kernel
theorem dX8_melted_5 : decode cX8_melted 5 = .ok (.iaload, 1) := by decide +kernel
theorem dX8_melted_6 : decode cX8_melted 6 = .ok (.bipush 8, 2) := by decide +kernel
theorem dX8_melted_8 : decode cX8_melted 8 = .ok (.if_icmp .eq 5, 3) := by decide +kernel
theorem dX8_melted_11 : decode cX8_melted 11 = .ok (.iload_n 1, 1) := by decide +kernel
theorem dX8_melted_12 : decode cX8_melted 12 = .ok (.ireturn, 1) := by decide +kernel
theorem dX8_melted_13 : decode cX8_melted 13 = .ok (.iload_n 2, 1) := by decide +kernel
theorem dX8_melted_14 : decode cX8_melted 14 = .ok (.iconst 1, 1) := by decide +kernel
theorem dX8_melted_15 : decode cX8_melted 15 = .ok (.if_icmp .ne 36, 3) := by decide +kernel
theorem dX8_melted_18 : decode cX8_melted 18 = .ok (.aload_n 0, 1) := by decide +kernel
theorem dX8_melted_19 : decode cX8_melted 19 = .ok (.getfield 25, 3) := by decide +kernel
theorem dX8_melted_22 : decode cX8_melted 22 = .ok (.aload_n 0, 1) := by decide +kernel
theorem dX8_melted_23 : decode cX8_melted 23 = .ok (.getfield 19, 3) := by decide +kernel
theorem dX8_melted_26 : decode cX8_melted 26 = .ok (.iload_n 1, 1) := by decide +kernel
theorem dX8_melted_27 : decode cX8_melted 27 = .ok (.iaload, 1) := by decide +kernel
theorem dX8_melted_28 : decode cX8_melted 28 = .ok (.iaload, 1) := by decide +kernel
theorem dX8_melted_29 : decode cX8_melted 29 = .ok (.aload_n 0, 1) := by decide +kernel
theorem dX8_melted_30 : decode cX8_melted 30 = .ok (.getfield 25, 3) := by decide +kernel
theorem dX8_melted_33 : decode cX8_melted 33 = .ok (.aload_n 0, 1) := by decide +kernel
theorem dX8_melted_34 : decode cX8_melted 34 = .ok (.getfield 22, 3) := by decide +kernel
theorem dX8_melted_37 : decode cX8_melted 37 = .ok (.iload_n 1, 1) := by decide +kernel
theorem dX8_melted_38 : decode cX8_melted 38 = .ok (.iaload, 1) := by decide +kernel
theorem dX8_melted_39 : decode cX8_melted 39 = .ok (.iaload, 1) := by decide +kernel
theorem dX8_melted_40 : decode cX8_melted 40 = .ok (.if_icmp .ne 7, 3) := by decide +kernel
theorem dX8_melted_43 : decode cX8_melted 43 = .ok (.iconst 1, 1) := by decide +kernel
theorem dX8_melted_44 : decode cX8_melted 44 = .ok (.goto 23, 3) := by decide +kernel
theorem dX8_melted_47 : decode cX8_melted 47 = .ok (.iconst 0, 1) := by decide +kernel
theorem dX8_melted_48 : decode cX8_melted 48 = .ok (.goto 19, 3) := by decide +kernel
theorem dX8_melted_51 : decode cX8_melted 51 = .ok (.aload_n 0, 1) := by decide +kernel
theorem dX8_melted_52 : decode cX8_melted 52 = .ok (.aload_n 0, 1) := by decide +kernel
theorem dX8_melted_53 : decode cX8_melted 53 = .ok (.getfield 19, 3) := by decide +kernel
theorem dX8_melted_56 : decode cX8_melted 56 = .ok (.iload_n 1, 1) := by decide +kernel
theorem dX8_melted_57 : decode cX8_melted 57 = .ok (.iaload, 1) := by decide +kernel
theorem dX8_melted_58 : decode cX8_melted 58 = .ok (.aload_n 0, 1) := by decide +kernel
theorem dX8_melted_59 : decode cX8_melted 59 = .ok (.getfield 22, 3) := by decide +kernel
theorem dX8_melted_62 : decode cX8_melted 62 = .ok (.iload_n 1, 1) := by decide +kernel
theorem dX8_melted_63 : decode cX8_melted 63 = .ok (.iaload, 1) := by decide +kernel
theorem dX8_melted_64 : decode cX8_melted 64 = .ok (.invokevirtual 100, 3) := by decide +kernel
theorem dX8_melted_67 : decode cX8_melted 67 = .ok (.istore_n 3, 1) := by decide +kernel
theorem dX8_melted_68 : decode cX8_melted 68 = .ok (.iload_n 3, 1) := by decide +kernel
theorem dX8_melted_69 : decode cX8_melted 69 = .ok (.ifCond .eq 10, 3) := by decide +kernel
theorem dX8_melted_72 : decode cX8_melted 72 = .ok (.aload_n 0, 1) := by decide +kernel
theorem dX8_melted_73 : decode cX8_melted 73 = .ok (.getfield 19, 3) := by decide +kernel
theorem dX8_melted_76 : decode cX8_melted 76 = .ok (.iload_n 1, 1) := by decide +kernel
theorem dX8_melted_77 : decode cX8_melted 77 = .ok (.iaload, 1) := by decide +kernel
theorem dX8_melted_78 : decode cX8_melted 78 = .ok (.ireturn, 1) := by decide +kernel
theorem dX8_melted_79 : decode cX8_melted 79 = .ok (.iload_n 2, 1) := by decide +kernel
theorem dX8_melted_80 : decode cX8_melted 80 = .ok (.iconst 2, 1) := by decide +kernel
theorem dX8_melted_81 : decode cX8_melted 81 = .ok (.if_icmp .ne 31, 3) := by decide +kernel
theorem dX8_melted_84 : decode cX8_melted 84 = .ok (.aload_n 0, 1) := by decide +kernel
theorem dX8_melted_85 : decode cX8_melted 85 = .ok (.aload_n 0, 1) := by decide +kernel
theorem dX8_melted_86 : decode cX8_melted 86 = .ok (.getfield 16, 3) := by decide +kernel
theorem dX8_melted_89 : decode cX8_melted 89 = .ok (.iload_n 1, 1) := by decide +kernel
theorem dX8_melted_90 : decode cX8_melted 90 = .ok (.iaload, 1) := by decide +kernel
theorem dX8_melted_91 : decode cX8_melted 91 = .ok (.aload_n 0, 1) := by decide +kernel
theorem dX8_melted_92 : decode cX8_melted 92 = .ok (.getfield 19, 3) := by decide +kernel
theorem dX8_melted_95 : decode cX8_melted 95 = .ok (.iload_n 1, 1) := by decide +kernel
theorem dX8_melted_96 : decode cX8_melted 96 = .ok (.iaload, 1) := by decide +kernel
theorem dX8_melted_97 : decode cX8_melted 97 = .ok (.invokevirtual 100, 3) := by decide +kernel
theorem dX8_melted_100 : decode cX8_melted 100 = .ok (.ifCond .eq 12, 3) := by decide +kernel
theorem dX8_melted_103 : decode cX8_melted 103 = .ok (.aload_n 0, 1) := by decide +kernel
theorem dX8_melted_104 : decode cX8_melted 104 = .ok (.getfield 16, 3) := by decide +kernel
theorem dX8_melted_107 : decode cX8_melted 107 = .ok (.iload_n 1, 1) := by decide +kernel
theorem dX8_melted_108 : decode cX8_melted 108 = .ok (.iaload, 1) := by decide +kernel
theorem dX8_melted_109 : decode cX8_melted 109 = .ok (.goto 4, 3) := by decide +kernel
theorem dX8_melted_112 : decode cX8_melted 112 = .ok (.iload_n 1, 1) := by decide +kernel
theorem dX8_melted_113 : decode cX8_melted 113 = .ok (.ireturn, 1) := by decide +kernel
theorem dX8_twice_0 : decode cX8_twice 0 = .ok (.aload_n 0, 1) := by decide +kernel
theorem dX8_twice_1 : decode cX8_twice 1 = .ok (.getfield 154, 3) := by decide +kernel
theorem dX8_twice_4 : decode cX8_twice 4 = .ok (.aload_n 0, 1) := by decide +kernel
theorem dX8_twice_5 : decode cX8_twice 5 = .ok (.getfield 25, 3) := by decide +kernel
theorem dX8_twice_8 : decode cX8_twice 8 = .ok (.iload_n 1, 1) := by decide +kernel
theorem dX8_twice_9 : decode cX8_twice 9 = .ok (.iaload, 1) := by decide +kernel
theorem dX8_twice_10 : decode cX8_twice 10 = .ok (.isub, 1) := by decide +kernel
theorem dX8_twice_11 : decode cX8_twice 11 = .ok (.iconst 1, 1) := by decide +kernel
theorem dX8_twice_12 : decode cX8_twice 12 = .ok (.iadd, 1) := by decide +kernel
theorem dX8_twice_13 : decode cX8_twice 13 = .ok (.iconst 2, 1) := by decide +kernel
theorem dX8_twice_14 : decode cX8_twice 14 = .ok (.aload_n 0, 1) := by decide +kernel
theorem dX8_twice_15 : decode cX8_twice 15 = .ok (.getfield 25, 3) := by decide +kernel
theorem dX8_twice_18 : decode cX8_twice 18 = .ok (.iload_n 3, 1) := by decide +kernel
theorem dX8_twice_19 : decode cX8_twice 19 = .ok (.iaload, 1) := by decide +kernel
theorem dX8_twice_20 : decode cX8_twice 20 = .ok (.imul, 1) := by decide +kernel
theorem dX8_twice_21 : decode cX8_twice 21 = .ok (.iadd, 1) := by decide +kernel
theorem dX8_twice_22 : decode cX8_twice 22 = .ok (.sipush 200, 3) := by decide +kernel
theorem dX8_twice_25 : decode cX8_twice 25 = .ok (.if_icmp .le 7, 3) := by decide +kernel
theorem dX8_twice_28 : decode cX8_twice 28 = .ok (.iload_n 1, 1) := by decide +kernel
theorem dX8_twice_29 : decode cX8_twice 29 = .ok (.goto 10, 3) := by decide +kernel
theorem dX8_twice_32 : decode cX8_twice 32 = .ok (.aload_n 0, 1) := by decide +kernel
theorem dX8_twice_33 : decode cX8_twice 33 = .ok (.iload_n 2, 1) := by decide +kernel
theorem dX8_twice_34 : decode cX8_twice 34 = .ok (.iload_n 3, 1) := by decide +kernel
theorem dX8_twice_35 : decode cX8_twice 35 = .ok (.iload_n 3, 1) := by decide +kernel
theorem dX8_twice_36 : decode cX8_twice 36 = .ok (.invokevirtual 157, 3) := by decide +kernel
theorem dX8_twice_39 : decode cX8_twice 39 = .ok (.ireturn, 1) := by decide +kernel
theorem dX8_twiced_0 : decode cX8_twiced 0 = .ok (.aload_n 0, 1) := by decide +kernel
theorem dX8_twiced_1 : decode cX8_twiced 1 = .ok (.getfield 7, 3) := by decide +kernel
theorem dX8_twiced_4 : decode cX8_twiced 4 = .ok (.iload_n 1, 1) := by decide +kernel
theorem dX8_twiced_5 : decode cX8_twiced 5 = .ok (.iaload, 1) := by decide +kernel
theorem dX8_twiced_6 : decode cX8_twiced 6 = .ok (.bipush 6, 2) := by decide +kernel
theorem dX8_twiced_8 : decode cX8_twiced 8 = .ok (.if_icmp .ne 121, 3) := by decide +kernel
theorem dX8_twiced_11 : decode cX8_twiced 11 = .ok (.aload_n 0, 1) := by decide +kernel
theorem dX8_twiced_12 : decode cX8_twiced 12 = .ok (.aload_n 0, 1) := by decide +kernel
theorem dX8_twiced_13 : decode cX8_twiced 13 = .ok (.getfield 19, 3) := by decide +kernel
theorem dX8_twiced_16 : decode cX8_twiced 16 = .ok (.iload_n 1, 1) := by decide +kernel
theorem dX8_twiced_17 : decode cX8_twiced 17 = .ok (.iaload, 1) := by decide +kernel
theorem dX8_twiced_18 : decode cX8_twiced 18 = .ok (.iconst 2, 1) := by decide +kernel
theorem dX8_twiced_19 : decode cX8_twiced 19 = .ok (.invokevirtual 147, 3) := by decide +kernel
theorem dX8_twiced_22 : decode cX8_twiced 22 = .ok (.ifCond .eq 16, 3) := by decide +kernel
theorem dX8_twiced_25 : decode cX8_twiced 25 = .ok (.aload_n 0, 1) := by decide +kernel
theorem dX8_twiced_26 : decode cX8_twiced 26 = .ok (.iload_n 1, 1) := by decide +kernel
theorem dX8_twiced_27 : decode cX8_twiced 27 = .ok (.iconst 4, 1) := by decide +kernel
theorem dX8_twiced_28 : decode cX8_twiced 28 = .ok (.aload_n 0, 1) := by decide +kernel
theorem dX8_twiced_29 : decode cX8_twiced 29 = .ok (.getfield 16, 3) := by decide +kernel
theorem dX8_twiced_32 : decode cX8_twiced 32 = .ok (.iload_n 1, 1) := by decide +kernel
theorem dX8_twiced_33 : decode cX8_twiced 33 = .ok (.iaload, 1) := by decide +kernel
theorem dX8_twiced_34 : decode cX8_twiced 34 = .ok (.invokevirtual 160, 3) := by decide +kernel
theorem dX8_twiced_37 : decode cX8_twiced 37 = .ok (.ireturn, 1) := by decide +kernel
theorem dX8_twiced_38 : decode cX8_twiced 38 = .ok (.aload_n 0, 1) := by decide +kernel
theorem dX8_twiced_39 : decode cX8_twiced 39 = .ok (.aload_n 0, 1) := by decide +kernel
theorem dX8_twiced_40 : decode cX8_twiced 40 = .ok (.getfield 16, 3) := by decide +kernel
theorem dX8_twiced_43 : decode cX8_twiced 43 = .ok (.iload_n 1, 1) := by decide +kernel
theorem dX8_twiced_44 : decode cX8_twiced 44 = .ok (.iaload, 1) := by decide +kernel
theorem dX8_twiced_45 : decode cX8_twiced 45 = .ok (.iconst 2, 1) := by decide +kernel
theorem dX8_twiced_46 : decode cX8_twiced 46 = .ok (.invokevirtual 147, 3) := by decide +kernel
theorem dX8_twiced_49 : decode cX8_twiced 49 = .ok (.ifCond .eq 16, 3) := by decide +kernel
theorem dX8_twiced_52 : decode cX8_twiced 52 = .ok (.aload_n 0, 1) := by decide +kernel
theorem dX8_twiced_53 : decode cX8_twiced 53 = .ok (.iload_n 1, 1) := by decide +kernel
theorem dX8_twiced_54 : decode cX8_twiced 54 = .ok (.iconst 4, 1) := by decide +kernel
theorem dX8_twiced_55 : decode cX8_twiced 55 = .ok (.aload_n 0, 1) := by decide +kernel
theorem dX8_twiced_56 : decode cX8_twiced 56 = .ok (.getfield 19, 3) := by decide +kernel
theorem dX8_twiced_59 : decode cX8_twiced 59 = .ok (.iload_n 1, 1) := by decide +kernel
theorem dX8_twiced_60 : decode cX8_twiced 60 = .ok (.iaload, 1) := by decide +kernel
theorem dX8_twiced_61 : decode cX8_twiced 61 = .ok (.invokevirtual 160, 3) := by decide +kernel
theorem dX8_twiced_64 : decode cX8_twiced 64 = .ok (.ireturn, 1) := by decide +kernel
theorem dX8_twiced_65 : decode cX8_twiced 65 = .ok (.iload_n 2, 1) := by decide +kernel
theorem dX8_twiced_66 : decode cX8_twiced 66 = .ok (.iconst 1, 1) := by decide +kernel
theorem dX8_twiced_67 : decode cX8_twiced 67 = .ok (.if_icmp .ne 30, 3) := by decide +kernel
theorem dX8_twiced_70 : decode cX8_twiced 70 = .ok (.aload_n 0, 1) := by decide +kernel
theorem dX8_twiced_71 : decode cX8_twiced 71 = .ok (.aload_n 0, 1) := by decide +kernel
theorem dX8_twiced_72 : decode cX8_twiced 72 = .ok (.getfield 19, 3) := by decide +kernel
theorem dX8_twiced_75 : decode cX8_twiced 75 = .ok (.iload_n 1, 1) := by decide +kernel
theorem dX8_twiced_76 : decode cX8_twiced 76 = .ok (.iaload, 1) := by decide +kernel
theorem dX8_twiced_77 : decode cX8_twiced 77 = .ok (.iconst 3, 1) := by decide +kernel
theorem dX8_twiced_78 : decode cX8_twiced 78 = .ok (.invokevirtual 147, 3) := by decide +kernel
theorem dX8_twiced_81 : decode cX8_twiced 81 = .ok (.ifCond .eq 16, 3) := by decide +kernel
theorem dX8_twiced_84 : decode cX8_twiced 84 = .ok (.aload_n 0, 1) := by decide +kernel
theorem dX8_twiced_85 : decode cX8_twiced 85 = .ok (.iload_n 1, 1) := by decide +kernel
theorem dX8_twiced_86 : decode cX8_twiced 86 = .ok (.iconst 4, 1) := by decide +kernel
theorem dX8_twiced_87 : decode cX8_twiced 87 = .ok (.aload_n 0, 1) := by decide +kernel
theorem dX8_twiced_88 : decode cX8_twiced 88 = .ok (.getfield 16, 3) := by decide +kernel
theorem dX8_twiced_91 : decode cX8_twiced 91 = .ok (.iload_n 1, 1) := by decide +kernel
theorem dX8_twiced_92 : decode cX8_twiced 92 = .ok (.iaload, 1) := by decide +kernel
theorem dX8_twiced_93 : decode cX8_twiced 93 = .ok (.invokevirtual 160, 3) := by decide +kernel
theorem dX8_twiced_96 : decode cX8_twiced 96 = .ok (.ireturn, 1) := by decide +kernel
theorem dX8_twiced_97 : decode cX8_twiced 97 = .ok (.iload_n 2, 1) := by decide +kernel
theorem dX8_twiced_98 : decode cX8_twiced 98 = .ok (.iconst 1, 1) := by decide +kernel
theorem dX8_twiced_99 : decode cX8_twiced 99 = .ok (.if_icmp .ne 30, 3) := by decide +kernel
theorem dX8_twiced_102 : decode cX8_twiced 102 = .ok (.aload_n 0, 1) := by decide +kernel
theorem dX8_twiced_103 : decode cX8_twiced 103 = .ok (.aload_n 0, 1) := by decide +kernel
theorem dX8_twiced_104 : decode cX8_twiced 104 = .ok (.getfield 16, 3) := by decide +kernel
theorem dX8_twiced_107 : decode cX8_twiced 107 = .ok (.iload_n 1, 1) := by decide +kernel
theorem dX8_twiced_108 : decode cX8_twiced 108 = .ok (.iaload, 1) := by decide +kernel
theorem dX8_twiced_109 : decode cX8_twiced 109 = .ok (.iconst 3, 1) := by decide +kernel
theorem dX8_twiced_110 : decode cX8_twiced 110 = .ok (.invokevirtual 147, 3) := by decide +kernel
theorem dX8_twiced_113 : decode cX8_twiced 113 = .ok (.ifCond .eq 16, 3) := by decide +kernel
theorem dX8_twiced_116 : decode cX8_twiced 116 = .ok (.aload_n 0, 1) := by decide +kernel
theorem dX8_twiced_117 : decode cX8_twiced 117 = .ok (.iload_n 1, 1) := by decide +kernel
theorem dX8_twiced_118 : decode cX8_twiced 118 = .ok (.iconst 4, 1) := by decide +kernel
theorem dX8_twiced_119 : decode cX8_twiced 119 = .ok (.aload_n 0, 1) := by decide +kernel
theorem dX8_twiced_120 : decode cX8_twiced 120 = .ok (.getfield 19, 3) := by decide +kernel
theorem dX8_twiced_123 : decode cX8_twiced 123 = .ok (.iload_n 1, 1) := by decide +kernel
theorem dX8_twiced_124 : decode cX8_twiced 124 = .ok (.iaload, 1) := by decide +kernel
theorem dX8_twiced_125 : decode cX8_twiced 125 = .ok (.invokevirtual 160, 3) := by decide +kernel
theorem dX8_twiced_128 : decode cX8_twiced 128 = .ok (.ireturn, 1) := by decide +kernel
theorem dX8_twiced_129 : decode cX8_twiced 129 = .ok (.aload_n 0, 1) := by decide +kernel
theorem dX8_twiced_130 : decode cX8_twiced 130 = .ok (.getfield 7, 3) := by decide +kernel
theorem dX8_twiced_133 : decode cX8_twiced 133 = .ok (.iload_n 1, 1) := by decide +kernel
theorem dX8_twiced_134 : decode cX8_twiced 134 = .ok (.iaload, 1) := by decide +kernel
theorem dX8_twiced_135 : decode cX8_twiced 135 = .ok (.bipush 7, 2) := by decide +kernel
theorem dX8_twiced_137 : decode cX8_twiced 137 = .ok (.if_icmp .ne 37, 3) := by decide +kernel
theorem dX8_twiced_140 : decode cX8_twiced 140 = .ok (.iload_n 2, 1) := by decide +kernel
theorem dX8_twiced_141 : decode cX8_twiced 141 = .ok (.iconst 2, 1) := by decide +kernel
theorem dX8_twiced_142 : decode cX8_twiced 142 = .ok (.if_icmp .ne 32, 3) := by decide +kernel
theorem dX8_twiced_145 : decode cX8_twiced 145 = .ok (.aload_n 0, 1) := by decide +kernel
theorem dX8_twiced_146 : decode cX8_twiced 146 = .ok (.aload_n 0, 1) := by decide +kernel
theorem dX8_twiced_147 : decode cX8_twiced 147 = .ok (.getfield 19, 3) := by decide +kernel
theorem dX8_twiced_150 : decode cX8_twiced 150 = .ok (.iload_n 1, 1) := by decide +kernel
theorem dX8_twiced_151 : decode cX8_twiced 151 = .ok (.iaload, 1) := by decide +kernel
theorem dX8_twiced_152 : decode cX8_twiced 152 = .ok (.iconst 2, 1) := by decide +kernel
theorem dX8_twiced_153 : decode cX8_twiced 153 = .ok (.invokevirtual 147, 3) := by decide +kernel
theorem dX8_twiced_156 : decode cX8_twiced 156 = .ok (.ifCond .eq 18, 3) := by decide +kernel
theorem dX8_twiced_159 : decode cX8_twiced 159 = .ok (.aload_n 0, 1) := by decide +kernel
theorem dX8_twiced_160 : decode cX8_twiced 160 = .ok (.iload_n 1, 1) := by decide +kernel
theorem dX8_twiced_161 : decode cX8_twiced 161 = .ok (.iconst 5, 1) := by decide +kernel
theorem dX8_twiced_162 : decode cX8_twiced 162 = .ok (.aload_n 0, 1) := by decide +kernel
theorem dX8_twiced_163 : decode cX8_twiced 163 = .ok (.getfield 16, 3) := by decide +kernel
theorem dX8_twiced_166 : decode cX8_twiced 166 = .ok (.iload_n 1, 1) := by decide +kernel
theorem dX8_twiced_167 : decode cX8_twiced 167 = .ok (.iaload, 1) := by decide +kernel
theorem dX8_twiced_168 : decode cX8_twiced 168 = .ok (.invokevirtual 160, 3) := by decide +kernel
theorem dX8_twiced_171 : decode cX8_twiced 171 = .ok (.goto 4, 3) := by decide +kernel
theorem dX8_twiced_174 : decode cX8_twiced 174 = .ok (.iload_n 1, 1) := by decide +kernel
theorem dX8_twiced_175 : decode cX8_twiced 175 = .ok (.ireturn, 1) := by decide +kernel
theorem dX8_sunk_0 : decode cX8_sunk 0 = .ok (.aload_n 0, 1) := by decide +kernel
theorem dX8_sunk_1 : decode cX8_sunk 1 = .ok (.getfield 7, 3) := by decide +kernel
theorem dX8_sunk_4 : decode cX8_sunk 4 = .ok (.iload_n 1, 1) := by decide +kernel
theorem dX8_sunk_5 : decode cX8_sunk 5 = .ok (.iaload, 1) := by decide +kernel
theorem dX8_sunk_6 : decode cX8_sunk 6 = .ok (.iconst 3, 1) := by decide +kernel
theorem dX8_sunk_7 : decode cX8_sunk 7 = .ok (.if_icmp .ne 34, 3) := by decide +kernel
theorem dX8_sunk_10 : decode cX8_sunk 10 = .ok (.aload_n 0, 1) := by decide +kernel
theorem dX8_sunk_11 : decode cX8_sunk 11 = .ok (.getfield 7, 3) := by decide +kernel
theorem dX8_sunk_14 : decode cX8_sunk 14 = .ok (.aload_n 0, 1) := by decide +kernel
theorem dX8_sunk_15 : decode cX8_sunk 15 = .ok (.getfield 16, 3) := by decide +kernel
theorem dX8_sunk_18 : decode cX8_sunk 18 = .ok (.iload_n 1, 1) := by decide +kernel
theorem dX8_sunk_19 : decode cX8_sunk 19 = .ok (.iaload, 1) := by decide +kernel
theorem dX8_sunk_20 : decode cX8_sunk 20 = .ok (.iaload, 1) := by decide +kernel
theorem dX8_sunk_21 : decode cX8_sunk 21 = .ok (.iconst 3, 1) := by decide +kernel
theorem dX8_sunk_22 : decode cX8_sunk 22 = .ok (.if_icmp .ne 17, 3) := by decide +kernel
theorem dX8_sunk_25 : decode cX8_sunk 25 = .ok (.aload_n 0, 1) := by decide +kernel
theorem dX8_sunk_26 : decode cX8_sunk 26 = .ok (.getfield 16, 3) := by decide +kernel
theorem dX8_sunk_29 : decode cX8_sunk 29 = .ok (.aload_n 0, 1) := by decide +kernel
theorem dX8_sunk_30 : decode cX8_sunk 30 = .ok (.getfield 16, 3) := by decide +kernel
theorem dX8_sunk_33 : decode cX8_sunk 33 = .ok (.iload_n 1, 1) := by decide +kernel
theorem dX8_sunk_34 : decode cX8_sunk 34 = .ok (.iaload, 1) := by decide +kernel
theorem dX8_sunk_35 : decode cX8_sunk 35 = .ok (.iaload, 1) := by decide +kernel
theorem dX8_sunk_36 : decode cX8_sunk 36 = .ok (.goto 4, 3) := by decide +kernel
theorem dX8_sunk_39 : decode cX8_sunk 39 = .ok (.iload_n 1, 1) := by decide +kernel
theorem dX8_sunk_40 : decode cX8_sunk 40 = .ok (.ireturn, 1) := by decide +kernel
theorem dX8_sunk_41 : decode cX8_sunk 41 = .ok (.aload_n 0, 1) := by decide +kernel
theorem dX8_sunk_42 : decode cX8_sunk 42 = .ok (.getfield 7, 3) := by decide +kernel
theorem dX8_sunk_45 : decode cX8_sunk 45 = .ok (.iload_n 1, 1) := by decide +kernel
theorem dX8_sunk_46 : decode cX8_sunk 46 = .ok (.iaload, 1) := by decide +kernel
theorem dX8_sunk_47 : decode cX8_sunk 47 = .ok (.iconst 4, 1) := by decide +kernel
theorem dX8_sunk_48 : decode cX8_sunk 48 = .ok (.if_icmp .ne 88, 3) := by decide +kernel
theorem dX8_sunk_51 : decode cX8_sunk 51 = .ok (.aload_n 0, 1) := by decide +kernel
theorem dX8_sunk_52 : decode cX8_sunk 52 = .ok (.getfield 7, 3) := by decide +kernel
theorem dX8_sunk_55 : decode cX8_sunk 55 = .ok (.aload_n 0, 1) := by decide +kernel
theorem dX8_sunk_56 : decode cX8_sunk 56 = .ok (.getfield 19, 3) := by decide +kernel
theorem dX8_sunk_59 : decode cX8_sunk 59 = .ok (.iload_n 1, 1) := by decide +kernel
theorem dX8_sunk_60 : decode cX8_sunk 60 = .ok (.iaload, 1) := by decide +kernel
theorem dX8_sunk_61 : decode cX8_sunk 61 = .ok (.iaload, 1) := by decide +kernel
theorem dX8_sunk_62 : decode cX8_sunk 62 = .ok (.iconst 3, 1) := by decide +kernel
theorem dX8_sunk_63 : decode cX8_sunk 63 = .ok (.if_icmp .ne 26, 3) := by decide +kernel
theorem dX8_sunk_66 : decode cX8_sunk 66 = .ok (.aload_n 0, 1) := by decide +kernel
theorem dX8_sunk_67 : decode cX8_sunk 67 = .ok (.iconst 5, 1) := by decide +kernel
theorem dX8_sunk_68 : decode cX8_sunk 68 = .ok (.aload_n 0, 1) := by decide +kernel
theorem dX8_sunk_69 : decode cX8_sunk 69 = .ok (.getfield 16, 3) := by decide +kernel
theorem dX8_sunk_72 : decode cX8_sunk 72 = .ok (.iload_n 1, 1) := by decide +kernel
theorem dX8_sunk_73 : decode cX8_sunk 73 = .ok (.iaload, 1) := by decide +kernel
theorem dX8_sunk_74 : decode cX8_sunk 74 = .ok (.aload_n 0, 1) := by decide +kernel
theorem dX8_sunk_75 : decode cX8_sunk 75 = .ok (.getfield 16, 3) := by decide +kernel
theorem dX8_sunk_78 : decode cX8_sunk 78 = .ok (.aload_n 0, 1) := by decide +kernel
theorem dX8_sunk_79 : decode cX8_sunk 79 = .ok (.getfield 19, 3) := by decide +kernel
theorem dX8_sunk_82 : decode cX8_sunk 82 = .ok (.iload_n 1, 1) := by decide +kernel
theorem dX8_sunk_83 : decode cX8_sunk 83 = .ok (.iaload, 1) := by decide +kernel
theorem dX8_sunk_84 : decode cX8_sunk 84 = .ok (.iaload, 1) := by decide +kernel
theorem dX8_sunk_85 : decode cX8_sunk 85 = .ok (.invokevirtual 157, 3) := by decide +kernel
theorem dX8_sunk_88 : decode cX8_sunk 88 = .ok (.ireturn, 1) := by decide +kernel
theorem dX8_sunk_89 : decode cX8_sunk 89 = .ok (.iload_n 2, 1) := by decide +kernel
theorem dX8_sunk_90 : decode cX8_sunk 90 = .ok (.iconst 1, 1) := by decide +kernel
theorem dX8_sunk_91 : decode cX8_sunk 91 = .ok (.if_icmp .ne 43, 3) := by decide +kernel
theorem dX8_sunk_94 : decode cX8_sunk 94 = .ok (.aload_n 0, 1) := by decide +kernel
theorem dX8_sunk_95 : decode cX8_sunk 95 = .ok (.getfield 7, 3) := by decide +kernel
theorem dX8_sunk_98 : decode cX8_sunk 98 = .ok (.aload_n 0, 1) := by decide +kernel
theorem dX8_sunk_99 : decode cX8_sunk 99 = .ok (.getfield 16, 3) := by decide +kernel
theorem dX8_sunk_102 : decode cX8_sunk 102 = .ok (.iload_n 1, 1) := by decide +kernel
theorem dX8_sunk_103 : decode cX8_sunk 103 = .ok (.iaload, 1) := by decide +kernel
theorem dX8_sunk_104 : decode cX8_sunk 104 = .ok (.iaload, 1) := by decide +kernel
theorem dX8_sunk_105 : decode cX8_sunk 105 = .ok (.iconst 3, 1) := by decide +kernel
theorem dX8_sunk_106 : decode cX8_sunk 106 = .ok (.if_icmp .ne 28, 3) := by decide +kernel
theorem dX8_sunk_109 : decode cX8_sunk 109 = .ok (.aload_n 0, 1) := by decide +kernel
theorem dX8_sunk_110 : decode cX8_sunk 110 = .ok (.iconst 5, 1) := by decide +kernel
theorem dX8_sunk_111 : decode cX8_sunk 111 = .ok (.aload_n 0, 1) := by decide +kernel
theorem dX8_sunk_112 : decode cX8_sunk 112 = .ok (.getfield 16, 3) := by decide +kernel
theorem dX8_sunk_115 : decode cX8_sunk 115 = .ok (.aload_n 0, 1) := by decide +kernel
theorem dX8_sunk_116 : decode cX8_sunk 116 = .ok (.getfield 16, 3) := by decide +kernel
theorem dX8_sunk_119 : decode cX8_sunk 119 = .ok (.iload_n 1, 1) := by decide +kernel
theorem dX8_sunk_120 : decode cX8_sunk 120 = .ok (.iaload, 1) := by decide +kernel
theorem dX8_sunk_121 : decode cX8_sunk 121 = .ok (.iaload, 1) := by decide +kernel
theorem dX8_sunk_122 : decode cX8_sunk 122 = .ok (.aload_n 0, 1) := by decide +kernel
theorem dX8_sunk_123 : decode cX8_sunk 123 = .ok (.getfield 19, 3) := by decide +kernel
theorem dX8_sunk_126 : decode cX8_sunk 126 = .ok (.iload_n 1, 1) := by decide +kernel
theorem dX8_sunk_127 : decode cX8_sunk 127 = .ok (.iaload, 1) := by decide +kernel
theorem dX8_sunk_128 : decode cX8_sunk 128 = .ok (.invokevirtual 157, 3) := by decide +kernel
theorem dX8_sunk_131 : decode cX8_sunk 131 = .ok (.goto 4, 3) := by decide +kernel
theorem dX8_sunk_134 : decode cX8_sunk 134 = .ok (.iload_n 1, 1) := by decide +kernel
theorem dX8_sunk_135 : decode cX8_sunk 135 = .ok (.ireturn, 1) := by decide +kernel
theorem dX8_sunk_136 : decode cX8_sunk 136 = .ok (.aload_n 0, 1) := by decide +kernel
theorem dX8_sunk_137 : decode cX8_sunk 137 = .ok (.getfield 7, 3) := by decide +kernel
theorem dX8_sunk_140 : decode cX8_sunk 140 = .ok (.iload_n 1, 1) := by decide +kernel
theorem dX8_sunk_141 : decode cX8_sunk 141 = .ok (.iaload, 1) := by decide +kernel
theorem dX8_sunk_142 : decode cX8_sunk 142 = .ok (.iconst 5, 1) := by decide +kernel
theorem dX8_sunk_143 : decode cX8_sunk 143 = .ok (.if_icmp .ne 52, 3) := by decide +kernel
theorem dX8_sunk_146 : decode cX8_sunk 146 = .ok (.aload_n 0, 1) := by decide +kernel
theorem dX8_sunk_147 : decode cX8_sunk 147 = .ok (.getfield 7, 3) := by decide +kernel
theorem dX8_sunk_150 : decode cX8_sunk 150 = .ok (.aload_n 0, 1) := by decide +kernel
theorem dX8_sunk_151 : decode cX8_sunk 151 = .ok (.getfield 19, 3) := by decide +kernel
theorem dX8_sunk_154 : decode cX8_sunk 154 = .ok (.iload_n 1, 1) := by decide +kernel
theorem dX8_sunk_155 : decode cX8_sunk 155 = .ok (.iaload, 1) := by decide +kernel
theorem dX8_sunk_156 : decode cX8_sunk 156 = .ok (.iaload, 1) := by decide +kernel
theorem dX8_sunk_157 : decode cX8_sunk 157 = .ok (.iconst 3, 1) := by decide +kernel
theorem dX8_sunk_158 : decode cX8_sunk 158 = .ok (.if_icmp .ne 37, 3) := by decide +kernel
theorem dX8_sunk_161 : decode cX8_sunk 161 = .ok (.aload_n 0, 1) := by decide +kernel
theorem dX8_sunk_162 : decode cX8_sunk 162 = .ok (.iload_n 2, 1) := by decide +kernel
theorem dX8_sunk_163 : decode cX8_sunk 163 = .ok (.iconst 2, 1) := by decide +kernel
theorem dX8_sunk_164 : decode cX8_sunk 164 = .ok (.if_icmp .ne 7, 3) := by decide +kernel
theorem dX8_sunk_167 : decode cX8_sunk 167 = .ok (.iconst 5, 1) := by decide +kernel
theorem dX8_sunk_168 : decode cX8_sunk 168 = .ok (.goto 4, 3) := by decide +kernel
theorem dX8_sunk_171 : decode cX8_sunk 171 = .ok (.iconst 4, 1) := by decide +kernel
theorem dX8_sunk_172 : decode cX8_sunk 172 = .ok (.aload_n 0, 1) := by decide +kernel
theorem dX8_sunk_173 : decode cX8_sunk 173 = .ok (.getfield 16, 3) := by decide +kernel
theorem dX8_sunk_176 : decode cX8_sunk 176 = .ok (.iload_n 1, 1) := by decide +kernel
theorem dX8_sunk_177 : decode cX8_sunk 177 = .ok (.iaload, 1) := by decide +kernel
theorem dX8_sunk_178 : decode cX8_sunk 178 = .ok (.aload_n 0, 1) := by decide +kernel
theorem dX8_sunk_179 : decode cX8_sunk 179 = .ok (.getfield 16, 3) := by decide +kernel
theorem dX8_sunk_182 : decode cX8_sunk 182 = .ok (.aload_n 0, 1) := by decide +kernel
theorem dX8_sunk_183 : decode cX8_sunk 183 = .ok (.getfield 19, 3) := by decide +kernel
theorem dX8_sunk_186 : decode cX8_sunk 186 = .ok (.iload_n 1, 1) := by decide +kernel
theorem dX8_sunk_187 : decode cX8_sunk 187 = .ok (.iaload, 1) := by decide +kernel
theorem dX8_sunk_188 : decode cX8_sunk 188 = .ok (.iaload, 1) := by decide +kernel
theorem dX8_sunk_189 : decode cX8_sunk 189 = .ok (.invokevirtual 157, 3) := by decide +kernel
theorem dX8_sunk_192 : decode cX8_sunk 192 = .ok (.goto 4, 3) := by decide +kernel
theorem dX8_sunk_195 : decode cX8_sunk 195 = .ok (.iload_n 1, 1) := by decide +kernel
theorem dX8_sunk_196 : decode cX8_sunk 196 = .ok (.ireturn, 1) := by decide +kernel
theorem dX8_turned_0 : decode cX8_turned 0 = .ok (.aload_n 0, 1) := by decide +kernel
theorem dX8_turned_1 : decode cX8_turned 1 = .ok (.getfield 16, 3) := by decide +kernel
theorem dX8_turned_4 : decode cX8_turned 4 = .ok (.iload_n 1, 1) := by decide +kernel
theorem dX8_turned_5 : decode cX8_turned 5 = .ok (.iaload, 1) := by decide +kernel
theorem dX8_turned_6 : decode cX8_turned 6 = .ok (.ifCond .ge 7, 3) := by decide +kernel
theorem dX8_turned_9 : decode cX8_turned 9 = .ok (.iconst (-1), 1) := by decide +kernel
theorem dX8_turned_10 : decode cX8_turned 10 = .ok (.goto 15, 3) := by decide +kernel
theorem dX8_turned_13 : decode cX8_turned 13 = .ok (.aload_n 0, 1) := by decide +kernel
theorem dX8_turned_14 : decode cX8_turned 14 = .ok (.aload_n 0, 1) := by decide +kernel
theorem dX8_turned_15 : decode cX8_turned 15 = .ok (.getfield 16, 3) := by decide +kernel
theorem dX8_turned_18 : decode cX8_turned 18 = .ok (.iload_n 1, 1) := by decide +kernel
theorem dX8_turned_19 : decode cX8_turned 19 = .ok (.iaload, 1) := by decide +kernel
theorem dX8_turned_20 : decode cX8_turned 20 = .ok (.iload_n 2, 1) := by decide +kernel
theorem dX8_turned_21 : decode cX8_turned 21 = .ok (.iload_n 3, 1) := by decide +kernel
theorem dX8_turned_22 : decode cX8_turned 22 = .ok (.invokevirtual 163, 3) := by decide +kernel
theorem dX8_turned_25 : decode cX8_turned 25 = .ok (.istore 4, 2) := by decide +kernel
theorem dX8_turned_27 : decode cX8_turned 27 = .ok (.aload_n 0, 1) := by decide +kernel
theorem dX8_turned_28 : decode cX8_turned 28 = .ok (.getfield 19, 3) := by decide +kernel
theorem dX8_turned_31 : decode cX8_turned 31 = .ok (.iload_n 1, 1) := by decide +kernel
theorem dX8_turned_32 : decode cX8_turned 32 = .ok (.iaload, 1) := by decide +kernel
theorem dX8_turned_33 : decode cX8_turned 33 = .ok (.ifCond .ge 7, 3) := by decide +kernel
theorem dX8_turned_36 : decode cX8_turned 36 = .ok (.iconst (-1), 1) := by decide +kernel
theorem dX8_turned_37 : decode cX8_turned 37 = .ok (.goto 15, 3) := by decide +kernel
theorem dX8_turned_40 : decode cX8_turned 40 = .ok (.aload_n 0, 1) := by decide +kernel
theorem dX8_turned_41 : decode cX8_turned 41 = .ok (.aload_n 0, 1) := by decide +kernel
theorem dX8_turned_42 : decode cX8_turned 42 = .ok (.getfield 19, 3) := by decide +kernel
theorem dX8_turned_45 : decode cX8_turned 45 = .ok (.iload_n 1, 1) := by decide +kernel
theorem dX8_turned_46 : decode cX8_turned 46 = .ok (.iaload, 1) := by decide +kernel
theorem dX8_turned_47 : decode cX8_turned 47 = .ok (.iload_n 2, 1) := by decide +kernel
theorem dX8_turned_48 : decode cX8_turned 48 = .ok (.iload_n 3, 1) := by decide +kernel
theorem dX8_turned_49 : decode cX8_turned 49 = .ok (.invokevirtual 163, 3) := by decide +kernel
theorem dX8_turned_52 : decode cX8_turned 52 = .ok (.istore 5, 2) := by decide +kernel
theorem dX8_turned_54 : decode cX8_turned 54 = .ok (.aload_n 0, 1) := by decide +kernel
theorem dX8_turned_55 : decode cX8_turned 55 = .ok (.getfield 22, 3) := by decide +kernel
theorem dX8_turned_58 : decode cX8_turned 58 = .ok (.iload_n 1, 1) := by decide +kernel
theorem dX8_turned_59 : decode cX8_turned 59 = .ok (.iaload, 1) := by decide +kernel
theorem dX8_turned_60 : decode cX8_turned 60 = .ok (.ifCond .ge 7, 3) := by decide +kernel
theorem dX8_turned_63 : decode cX8_turned 63 = .ok (.iconst (-1), 1) := by decide +kernel
theorem dX8_turned_64 : decode cX8_turned 64 = .ok (.goto 15, 3) := by decide +kernel
theorem dX8_turned_67 : decode cX8_turned 67 = .ok (.aload_n 0, 1) := by decide +kernel
theorem dX8_turned_68 : decode cX8_turned 68 = .ok (.aload_n 0, 1) := by decide +kernel
theorem dX8_turned_69 : decode cX8_turned 69 = .ok (.getfield 22, 3) := by decide +kernel
theorem dX8_turned_72 : decode cX8_turned 72 = .ok (.iload_n 1, 1) := by decide +kernel
theorem dX8_turned_73 : decode cX8_turned 73 = .ok (.iaload, 1) := by decide +kernel
theorem dX8_turned_74 : decode cX8_turned 74 = .ok (.iload_n 2, 1) := by decide +kernel
theorem dX8_turned_75 : decode cX8_turned 75 = .ok (.iload_n 3, 1) := by decide +kernel
theorem dX8_turned_76 : decode cX8_turned 76 = .ok (.invokevirtual 163, 3) := by decide +kernel
theorem dX8_turned_79 : decode cX8_turned 79 = .ok (.istore 6, 2) := by decide +kernel
theorem dX8_turned_81 : decode cX8_turned 81 = .ok (.iload 4, 2) := by decide +kernel
theorem dX8_turned_83 : decode cX8_turned 83 = .ok (.aload_n 0, 1) := by decide +kernel
theorem dX8_turned_84 : decode cX8_turned 84 = .ok (.getfield 16, 3) := by decide +kernel
theorem dX8_turned_87 : decode cX8_turned 87 = .ok (.iload_n 1, 1) := by decide +kernel
theorem dX8_turned_88 : decode cX8_turned 88 = .ok (.iaload, 1) := by decide +kernel
theorem dX8_turned_89 : decode cX8_turned 89 = .ok (.if_icmp .ne 29, 3) := by decide +kernel
theorem dX8_turned_92 : decode cX8_turned 92 = .ok (.iload 5, 2) := by decide +kernel
theorem dX8_turned_94 : decode cX8_turned 94 = .ok (.aload_n 0, 1) := by decide +kernel
theorem dX8_turned_95 : decode cX8_turned 95 = .ok (.getfield 19, 3) := by decide +kernel
theorem dX8_turned_98 : decode cX8_turned 98 = .ok (.iload_n 1, 1) := by decide +kernel
theorem dX8_turned_99 : decode cX8_turned 99 = .ok (.iaload, 1) := by decide +kernel
theorem dX8_turned_100 : decode cX8_turned 100 = .ok (.if_icmp .ne 18, 3) := by decide +kernel
theorem dX8_turned_103 : decode cX8_turned 103 = .ok (.iload 6, 2) := by decide +kernel
theorem dX8_turned_105 : decode cX8_turned 105 = .ok (.aload_n 0, 1) := by decide +kernel
theorem dX8_turned_106 : decode cX8_turned 106 = .ok (.getfield 22, 3) := by decide +kernel
theorem dX8_turned_109 : decode cX8_turned 109 = .ok (.iload_n 1, 1) := by decide +kernel
theorem dX8_turned_110 : decode cX8_turned 110 = .ok (.iaload, 1) := by decide +kernel
theorem dX8_turned_111 : decode cX8_turned 111 = .ok (.if_icmp .ne 7, 3) := by decide +kernel
theorem dX8_turned_114 : decode cX8_turned 114 = .ok (.iload_n 1, 1) := by decide +kernel
theorem dX8_turned_115 : decode cX8_turned 115 = .ok (.goto 25, 3) := by decide +kernel
theorem dX8_turned_118 : decode cX8_turned 118 = .ok (.aload_n 0, 1) := by decide +kernel
theorem dX8_turned_119 : decode cX8_turned 119 = .ok (.aload_n 0, 1) := by decide +kernel
theorem dX8_turned_120 : decode cX8_turned 120 = .ok (.getfield 7, 3) := by decide +kernel
theorem dX8_turned_123 : decode cX8_turned 123 = .ok (.iload_n 1, 1) := by decide +kernel
theorem dX8_turned_124 : decode cX8_turned 124 = .ok (.iaload, 1) := by decide +kernel
theorem dX8_turned_125 : decode cX8_turned 125 = .ok (.aload_n 0, 1) := by decide +kernel
theorem dX8_turned_126 : decode cX8_turned 126 = .ok (.getfield 13, 3) := by decide +kernel
theorem dX8_turned_129 : decode cX8_turned 129 = .ok (.iload_n 1, 1) := by decide +kernel
theorem dX8_turned_130 : decode cX8_turned 130 = .ok (.iaload, 1) := by decide +kernel
theorem dX8_turned_131 : decode cX8_turned 131 = .ok (.iload 4, 2) := by decide +kernel
theorem dX8_turned_133 : decode cX8_turned 133 = .ok (.iload 5, 2) := by decide +kernel
theorem dX8_turned_135 : decode cX8_turned 135 = .ok (.iload 6, 2) := by decide +kernel
theorem dX8_turned_137 : decode cX8_turned 137 = .ok (.invokevirtual 96, 3) := by decide +kernel
theorem dX8_turned_140 : decode cX8_turned 140 = .ok (.istore 7, 2) := by decide +kernel
theorem dX8_turned_142 : decode cX8_turned 142 = .ok (.aload_n 0, 1) := by decide +kernel
theorem dX8_turned_143 : decode cX8_turned 143 = .ok (.iload 7, 2) := by decide +kernel
theorem dX8_turned_145 : decode cX8_turned 145 = .ok (.iload_n 2, 1) := by decide +kernel
theorem dX8_turned_146 : decode cX8_turned 146 = .ok (.iload_n 3, 1) := by decide +kernel
theorem dX8_turned_147 : decode cX8_turned 147 = .ok (.invokevirtual 166, 3) := by decide +kernel
theorem dX8_turned_150 : decode cX8_turned 150 = .ok (.istore 8, 2) := by decide +kernel
theorem dX8_turned_152 : decode cX8_turned 152 = .ok (.iload 8, 2) := by decide +kernel
theorem dX8_turned_154 : decode cX8_turned 154 = .ok (.iload 7, 2) := by decide +kernel
theorem dX8_turned_156 : decode cX8_turned 156 = .ok (.if_icmp .eq 37, 3) := by decide +kernel
theorem dX8_turned_159 : decode cX8_turned 159 = .ok (.aload_n 0, 1) := by decide +kernel
theorem dX8_turned_160 : decode cX8_turned 160 = .ok (.dup, 1) := by decide +kernel
theorem dX8_turned_161 : decode cX8_turned 161 = .ok (.getfield 169, 3) := by decide +kernel
theorem dX8_turned_164 : decode cX8_turned 164 = .ok (.iconst 1, 1) := by decide +kernel
theorem dX8_turned_165 : decode cX8_turned 165 = .ok (.iadd, 1) := by decide +kernel
theorem dX8_turned_166 : decode cX8_turned 166 = .ok (.putfield 169, 3) := by decide +kernel
theorem dX8_turned_169 : decode cX8_turned 169 = .ok (.aload_n 0, 1) := by decide +kernel
theorem dX8_turned_170 : decode cX8_turned 170 = .ok (.dup, 1) := by decide +kernel
theorem dX8_turned_171 : decode cX8_turned 171 = .ok (.getfield 154, 3) := by decide +kernel
theorem dX8_turned_174 : decode cX8_turned 174 = .ok (.aload_n 0, 1) := by decide +kernel
theorem dX8_turned_175 : decode cX8_turned 175 = .ok (.getfield 25, 3) := by decide +kernel
theorem dX8_turned_178 : decode cX8_turned 178 = .ok (.iload 8, 2) := by decide +kernel
theorem dX8_turned_180 : decode cX8_turned 180 = .ok (.iaload, 1) := by decide +kernel
theorem dX8_turned_181 : decode cX8_turned 181 = .ok (.aload_n 0, 1) := by decide +kernel
theorem dX8_turned_182 : decode cX8_turned 182 = .ok (.getfield 25, 3) := by decide +kernel
theorem dX8_turned_185 : decode cX8_turned 185 = .ok (.iload 7, 2) := by decide +kernel
theorem dX8_turned_187 : decode cX8_turned 187 = .ok (.iaload, 1) := by decide +kernel
theorem dX8_turned_188 : decode cX8_turned 188 = .ok (.isub, 1) := by decide +kernel
theorem dX8_turned_189 : decode cX8_turned 189 = .ok (.iadd, 1) := by decide +kernel
theorem dX8_turned_190 : decode cX8_turned 190 = .ok (.putfield 154, 3) := by decide +kernel
theorem dX8_turned_193 : decode cX8_turned 193 = .ok (.iload 8, 2) := by decide +kernel
theorem dX8_turned_195 : decode cX8_turned 195 = .ok (.ireturn, 1) := by decide +kernel
theorem dX8_goOver_0 : decode cX8_goOver 0 = .ok (.aload_n 0, 1) := by decide +kernel
theorem dX8_goOver_1 : decode cX8_goOver 1 = .ok (.iconst 0, 1) := by decide +kernel
theorem dX8_goOver_2 : decode cX8_goOver 2 = .ok (.putfield 169, 3) := by decide +kernel
theorem dX8_goOver_5 : decode cX8_goOver 5 = .ok (.aload_n 0, 1) := by decide +kernel
theorem dX8_goOver_6 : decode cX8_goOver 6 = .ok (.aload_n 0, 1) := by decide +kernel
theorem dX8_goOver_7 : decode cX8_goOver 7 = .ok (.getfield 25, 3) := by decide +kernel
theorem dX8_goOver_10 : decode cX8_goOver 10 = .ok (.iload_n 1, 1) := by decide +kernel
theorem dX8_goOver_11 : decode cX8_goOver 11 = .ok (.iaload, 1) := by decide +kernel
theorem dX8_goOver_12 : decode cX8_goOver 12 = .ok (.putfield 154, 3) := by decide +kernel
theorem dX8_goOver_15 : decode cX8_goOver 15 = .ok (.aload_n 0, 1) := by decide +kernel
theorem dX8_goOver_16 : decode cX8_goOver 16 = .ok (.iload_n 1, 1) := by decide +kernel
theorem dX8_goOver_17 : decode cX8_goOver 17 = .ok (.aload_n 0, 1) := by decide +kernel
theorem dX8_goOver_18 : decode cX8_goOver 18 = .ok (.getfield 65, 3) := by decide +kernel
theorem dX8_goOver_21 : decode cX8_goOver 21 = .ok (.bipush 10, 2) := by decide +kernel
theorem dX8_goOver_23 : decode cX8_goOver 23 = .ok (.iload_n 2, 1) := by decide +kernel
theorem dX8_goOver_24 : decode cX8_goOver 24 = .ok (.imul, 1) := by decide +kernel
theorem dX8_goOver_25 : decode cX8_goOver 25 = .ok (.iload_n 3, 1) := by decide +kernel
theorem dX8_goOver_26 : decode cX8_goOver 26 = .ok (.iadd, 1) := by decide +kernel
theorem dX8_goOver_27 : decode cX8_goOver 27 = .ok (.iaload, 1) := by decide +kernel
theorem dX8_goOver_28 : decode cX8_goOver 28 = .ok (.aload_n 0, 1) := by decide +kernel
theorem dX8_goOver_29 : decode cX8_goOver 29 = .ok (.getfield 68, 3) := by decide +kernel
theorem dX8_goOver_32 : decode cX8_goOver 32 = .ok (.bipush 10, 2) := by decide +kernel
theorem dX8_goOver_34 : decode cX8_goOver 34 = .ok (.iload_n 2, 1) := by decide +kernel
theorem dX8_goOver_35 : decode cX8_goOver 35 = .ok (.imul, 1) := by decide +kernel
theorem dX8_goOver_36 : decode cX8_goOver 36 = .ok (.iload_n 3, 1) := by decide +kernel
theorem dX8_goOver_37 : decode cX8_goOver 37 = .ok (.iadd, 1) := by decide +kernel
theorem dX8_goOver_38 : decode cX8_goOver 38 = .ok (.iaload, 1) := by decide +kernel
theorem dX8_goOver_39 : decode cX8_goOver 39 = .ok (.invokevirtual 163, 3) := by decide +kernel
theorem dX8_goOver_42 : decode cX8_goOver 42 = .ok (.ireturn, 1) := by decide +kernel
theorem dX8_madeBy_0 : decode cX8_madeBy 0 = .ok (.iload_n 1, 1) := by decide +kernel
theorem dX8_madeBy_1 : decode cX8_madeBy 1 = .ok (.istore 4, 2) := by decide +kernel
theorem dX8_madeBy_3 : decode cX8_madeBy 3 = .ok (.iconst 0, 1) := by decide +kernel
theorem dX8_madeBy_4 : decode cX8_madeBy 4 = .ok (.istore 5, 2) := by decide +kernel
theorem dX8_madeBy_6 : decode cX8_madeBy 6 = .ok (.iload 5, 2) := by decide +kernel
theorem dX8_madeBy_8 : decode cX8_madeBy 8 = .ok (.iload_n 3, 1) := by decide +kernel
theorem dX8_madeBy_9 : decode cX8_madeBy 9 = .ok (.if_icmp .ge 20, 3) := by decide +kernel
theorem dX8_madeBy_12 : decode cX8_madeBy 12 = .ok (.aload_n 0, 1) := by decide +kernel
theorem dX8_madeBy_13 : decode cX8_madeBy 13 = .ok (.iload 4, 2) := by decide +kernel
theorem dX8_madeBy_15 : decode cX8_madeBy 15 = .ok (.iload_n 2, 1) := by decide +kernel
theorem dX8_madeBy_16 : decode cX8_madeBy 16 = .ok (.iload 5, 2) := by decide +kernel
theorem dX8_madeBy_18 : decode cX8_madeBy 18 = .ok (.invokevirtual 172, 3) := by decide +kernel
theorem dX8_madeBy_21 : decode cX8_madeBy 21 = .ok (.istore 4, 2) := by decide +kernel
theorem dX8_madeBy_23 : decode cX8_madeBy 23 = .ok (.iinc 5 1, 3) := by decide +kernel
theorem dX8_madeBy_26 : decode cX8_madeBy 26 = .ok (.goto (-20), 3) := by decide +kernel
theorem dX8_madeBy_29 : decode cX8_madeBy 29 = .ok (.iload 4, 2) := by decide +kernel
theorem dX8_madeBy_31 : decode cX8_madeBy 31 = .ok (.ireturn, 1) := by decide +kernel
theorem dX8_isPlace_0 : decode cX8_isPlace 0 = .ok (.iload_n 0, 1) := by decide +kernel
theorem dX8_isPlace_1 : decode cX8_isPlace 1 = .ok (.i2l, 1) := by decide +kernel
theorem dX8_isPlace_2 : decode cX8_isPlace 2 = .ok (.lconst 0, 1) := by decide +kernel
theorem dX8_isPlace_3 : decode cX8_isPlace 3 = .ok (.ldc2_w 175, 3) := by decide +kernel
theorem dX8_isPlace_6 : decode cX8_isPlace 6 = .ok (.invokestatic 177, 3) := by decide +kernel
theorem dX8_isPlace_9 : decode cX8_isPlace 9 = .ok (.ireturn, 1) := by decide +kernel
theorem dX8_has_0 : decode cX8_has 0 = .ok (.iload_n 1, 1) := by decide +kernel
theorem dX8_has_1 : decode cX8_has 1 = .ok (.invokestatic 181, 3) := by decide +kernel
theorem dX8_has_4 : decode cX8_has 4 = .ok (.ifCond .eq 16, 3) := by decide +kernel
theorem dX8_has_7 : decode cX8_has 7 = .ok (.aload_n 0, 1) := by decide +kernel
theorem dX8_has_8 : decode cX8_has 8 = .ok (.getfield 28, 3) := by decide +kernel
theorem dX8_has_11 : decode cX8_has 11 = .ok (.iload_n 1, 1) := by decide +kernel
theorem dX8_has_12 : decode cX8_has 12 = .ok (.iaload, 1) := by decide +kernel
theorem dX8_has_13 : decode cX8_has 13 = .ok (.ifCond .le 7, 3) := by decide +kernel
theorem dX8_has_16 : decode cX8_has 16 = .ok (.iconst 1, 1) := by decide +kernel
theorem dX8_has_17 : decode cX8_has 17 = .ok (.goto 4, 3) := by decide +kernel
theorem dX8_has_20 : decode cX8_has 20 = .ok (.iconst 0, 1) := by decide +kernel
theorem dX8_has_21 : decode cX8_has 21 = .ok (.ireturn, 1) := by decide +kernel
theorem dX8_take_0 : decode cX8_take 0 = .ok (.aload_n 0, 1) := by decide +kernel
theorem dX8_take_1 : decode cX8_take 1 = .ok (.aload_n 0, 1) := by decide +kernel
theorem dX8_take_2 : decode cX8_take 2 = .ok (.getfield 28, 3) := by decide +kernel
theorem dX8_take_5 : decode cX8_take 5 = .ok (.iload_n 1, 1) := by decide +kernel
theorem dX8_take_6 : decode cX8_take 6 = .ok (.iaload, 1) := by decide +kernel
theorem dX8_take_7 : decode cX8_take 7 = .ok (.putfield 185, 3) := by decide +kernel
theorem dX8_take_10 : decode cX8_take 10 = .ok (.iconst 0, 1) := by decide +kernel
theorem dX8_take_11 : decode cX8_take 11 = .ok (.istore_n 2, 1) := by decide +kernel
theorem dX8_take_12 : decode cX8_take 12 = .ok (.iload_n 2, 1) := by decide +kernel
theorem dX8_take_13 : decode cX8_take 13 = .ok (.aload_n 0, 1) := by decide +kernel
theorem dX8_take_14 : decode cX8_take 14 = .ok (.getfield 185, 3) := by decide +kernel
theorem dX8_take_17 : decode cX8_take 17 = .ok (.if_icmp .ge 43, 3) := by decide +kernel
theorem dX8_take_20 : decode cX8_take 20 = .ok (.aload_n 0, 1) := by decide +kernel
theorem dX8_take_21 : decode cX8_take 21 = .ok (.getfield 37, 3) := by decide +kernel
theorem dX8_take_24 : decode cX8_take 24 = .ok (.iload_n 2, 1) := by decide +kernel
theorem dX8_take_25 : decode cX8_take 25 = .ok (.aload_n 0, 1) := by decide +kernel
theorem dX8_take_26 : decode cX8_take 26 = .ok (.getfield 31, 3) := by decide +kernel
theorem dX8_take_29 : decode cX8_take 29 = .ok (.bipush 60, 2) := by decide +kernel
theorem dX8_take_31 : decode cX8_take 31 = .ok (.iload_n 1, 1) := by decide +kernel
theorem dX8_take_32 : decode cX8_take 32 = .ok (.imul, 1) := by decide +kernel
theorem dX8_take_33 : decode cX8_take 33 = .ok (.iload_n 2, 1) := by decide +kernel
theorem dX8_take_34 : decode cX8_take 34 = .ok (.iadd, 1) := by decide +kernel
theorem dX8_take_35 : decode cX8_take 35 = .ok (.iaload, 1) := by decide +kernel
theorem dX8_take_36 : decode cX8_take 36 = .ok (.iastore, 1) := by decide +kernel
theorem dX8_take_37 : decode cX8_take 37 = .ok (.aload_n 0, 1) := by decide +kernel
theorem dX8_take_38 : decode cX8_take 38 = .ok (.getfield 40, 3) := by decide +kernel
theorem dX8_take_41 : decode cX8_take 41 = .ok (.iload_n 2, 1) := by decide +kernel
theorem dX8_take_42 : decode cX8_take 42 = .ok (.aload_n 0, 1) := by decide +kernel
theorem dX8_take_43 : decode cX8_take 43 = .ok (.getfield 34, 3) := by decide +kernel
theorem dX8_take_46 : decode cX8_take 46 = .ok (.bipush 60, 2) := by decide +kernel
theorem dX8_take_48 : decode cX8_take 48 = .ok (.iload_n 1, 1) := by decide +kernel
theorem dX8_take_49 : decode cX8_take 49 = .ok (.imul, 1) := by decide +kernel
theorem dX8_take_50 : decode cX8_take 50 = .ok (.iload_n 2, 1) := by decide +kernel
theorem dX8_take_51 : decode cX8_take 51 = .ok (.iadd, 1) := by decide +kernel
theorem dX8_take_52 : decode cX8_take 52 = .ok (.iaload, 1) := by decide +kernel
theorem dX8_take_53 : decode cX8_take 53 = .ok (.iastore, 1) := by decide +kernel
theorem dX8_take_54 : decode cX8_take 54 = .ok (.iinc 2 1, 3) := by decide +kernel
theorem dX8_take_57 : decode cX8_take 57 = .ok (.goto (-45), 3) := by decide +kernel
theorem dX8_take_60 : decode cX8_take 60 = .ok (.return_, 1) := by decide +kernel
theorem dX8_put_0 : decode cX8_put 0 = .ok (.aload_n 0, 1) := by decide +kernel
theorem dX8_put_1 : decode cX8_put 1 = .ok (.getfield 28, 3) := by decide +kernel
theorem dX8_put_4 : decode cX8_put 4 = .ok (.iload_n 1, 1) := by decide +kernel
theorem dX8_put_5 : decode cX8_put 5 = .ok (.aload_n 0, 1) := by decide +kernel
theorem dX8_put_6 : decode cX8_put 6 = .ok (.getfield 185, 3) := by decide +kernel
theorem dX8_put_9 : decode cX8_put 9 = .ok (.iastore, 1) := by decide +kernel
theorem dX8_put_10 : decode cX8_put 10 = .ok (.iconst 0, 1) := by decide +kernel
theorem dX8_put_11 : decode cX8_put 11 = .ok (.istore_n 2, 1) := by decide +kernel
theorem dX8_put_12 : decode cX8_put 12 = .ok (.iload_n 2, 1) := by decide +kernel
theorem dX8_put_13 : decode cX8_put 13 = .ok (.aload_n 0, 1) := by decide +kernel
theorem dX8_put_14 : decode cX8_put 14 = .ok (.getfield 185, 3) := by decide +kernel
theorem dX8_put_17 : decode cX8_put 17 = .ok (.if_icmp .ge 43, 3) := by decide +kernel
theorem dX8_put_20 : decode cX8_put 20 = .ok (.aload_n 0, 1) := by decide +kernel
theorem dX8_put_21 : decode cX8_put 21 = .ok (.getfield 31, 3) := by decide +kernel
theorem dX8_put_24 : decode cX8_put 24 = .ok (.bipush 60, 2) := by decide +kernel
theorem dX8_put_26 : decode cX8_put 26 = .ok (.iload_n 1, 1) := by decide +kernel
theorem dX8_put_27 : decode cX8_put 27 = .ok (.imul, 1) := by decide +kernel
theorem dX8_put_28 : decode cX8_put 28 = .ok (.iload_n 2, 1) := by decide +kernel
theorem dX8_put_29 : decode cX8_put 29 = .ok (.iadd, 1) := by decide +kernel
theorem dX8_put_30 : decode cX8_put 30 = .ok (.aload_n 0, 1) := by decide +kernel
theorem dX8_put_31 : decode cX8_put 31 = .ok (.getfield 37, 3) := by decide +kernel
theorem dX8_put_34 : decode cX8_put 34 = .ok (.iload_n 2, 1) := by decide +kernel
theorem dX8_put_35 : decode cX8_put 35 = .ok (.iaload, 1) := by decide +kernel
theorem dX8_put_36 : decode cX8_put 36 = .ok (.iastore, 1) := by decide +kernel
theorem dX8_put_37 : decode cX8_put 37 = .ok (.aload_n 0, 1) := by decide +kernel
theorem dX8_put_38 : decode cX8_put 38 = .ok (.getfield 34, 3) := by decide +kernel
theorem dX8_put_41 : decode cX8_put 41 = .ok (.bipush 60, 2) := by decide +kernel
theorem dX8_put_43 : decode cX8_put 43 = .ok (.iload_n 1, 1) := by decide +kernel
theorem dX8_put_44 : decode cX8_put 44 = .ok (.imul, 1) := by decide +kernel
theorem dX8_put_45 : decode cX8_put 45 = .ok (.iload_n 2, 1) := by decide +kernel
theorem dX8_put_46 : decode cX8_put 46 = .ok (.iadd, 1) := by decide +kernel
theorem dX8_put_47 : decode cX8_put 47 = .ok (.aload_n 0, 1) := by decide +kernel
theorem dX8_put_48 : decode cX8_put 48 = .ok (.getfield 40, 3) := by decide +kernel
theorem dX8_put_51 : decode cX8_put 51 = .ok (.iload_n 2, 1) := by decide +kernel
theorem dX8_put_52 : decode cX8_put 52 = .ok (.iaload, 1) := by decide +kernel
theorem dX8_put_53 : decode cX8_put 53 = .ok (.iastore, 1) := by decide +kernel
theorem dX8_put_54 : decode cX8_put 54 = .ok (.iinc 2 1, 3) := by decide +kernel
theorem dX8_put_57 : decode cX8_put 57 = .ok (.goto (-45), 3) := by decide +kernel
theorem dX8_put_60 : decode cX8_put 60 = .ok (.aload_n 0, 1) := by decide +kernel
theorem dX8_put_61 : decode cX8_put 61 = .ok (.getfield 185, 3) := by decide +kernel
theorem dX8_put_64 : decode cX8_put 64 = .ok (.ireturn, 1) := by decide +kernel
theorem dX8_grow_0 : decode cX8_grow 0 = .ok (.aload_n 0, 1) := by decide +kernel
theorem dX8_grow_1 : decode cX8_grow 1 = .ok (.getfield 37, 3) := by decide +kernel
theorem dX8_grow_4 : decode cX8_grow 4 = .ok (.aload_n 0, 1) := by decide +kernel
theorem dX8_grow_5 : decode cX8_grow 5 = .ok (.getfield 188, 3) := by decide +kernel
theorem dX8_grow_8 : decode cX8_grow 8 = .ok (.iaload, 1) := by decide +kernel
theorem dX8_grow_9 : decode cX8_grow 9 = .ok (.istore_n 1, 1) := by decide +kernel
theorem dX8_grow_10 : decode cX8_grow 10 = .ok (.aload_n 0, 1) := by decide +kernel
theorem dX8_grow_11 : decode cX8_grow 11 = .ok (.getfield 40, 3) := by decide +kernel
theorem dX8_grow_14 : decode cX8_grow 14 = .ok (.aload_n 0, 1) := by decide +kernel
theorem dX8_grow_15 : decode cX8_grow 15 = .ok (.getfield 188, 3) := by decide +kernel
theorem dX8_grow_18 : decode cX8_grow 18 = .ok (.iaload, 1) := by decide +kernel
theorem dX8_grow_19 : decode cX8_grow 19 = .ok (.istore_n 2, 1) := by decide +kernel
theorem dX8_grow_20 : decode cX8_grow 20 = .ok (.aload_n 0, 1) := by decide +kernel
theorem dX8_grow_21 : decode cX8_grow 21 = .ok (.dup, 1) := by decide +kernel
theorem dX8_grow_22 : decode cX8_grow 22 = .ok (.getfield 188, 3) := by decide +kernel
theorem dX8_grow_25 : decode cX8_grow 25 = .ok (.iconst 1, 1) := by decide +kernel
theorem dX8_grow_26 : decode cX8_grow 26 = .ok (.iadd, 1) := by decide +kernel
theorem dX8_grow_27 : decode cX8_grow 27 = .ok (.putfield 188, 3) := by decide +kernel
theorem dX8_grow_30 : decode cX8_grow 30 = .ok (.iload_n 1, 1) := by decide +kernel
theorem dX8_grow_31 : decode cX8_grow 31 = .ok (.invokestatic 191, 3) := by decide +kernel
theorem dX8_grow_34 : decode cX8_grow 34 = .ok (.ifCond .le 10, 3) := by decide +kernel
theorem dX8_grow_37 : decode cX8_grow 37 = .ok (.aload_n 0, 1) := by decide +kernel
theorem dX8_grow_38 : decode cX8_grow 38 = .ok (.invokevirtual 194, 3) := by decide +kernel
theorem dX8_grow_41 : decode cX8_grow 41 = .ok (.goto 4, 3) := by decide +kernel
theorem dX8_grow_44 : decode cX8_grow 44 = .ok (.iconst (-1), 1) := by decide +kernel
theorem dX8_grow_45 : decode cX8_grow 45 = .ok (.istore_n 3, 1) := by decide +kernel
theorem dX8_grow_46 : decode cX8_grow 46 = .ok (.iload_n 1, 1) := by decide +kernel
theorem dX8_grow_47 : decode cX8_grow 47 = .ok (.invokestatic 191, 3) := by decide +kernel
theorem dX8_grow_50 : decode cX8_grow 50 = .ok (.iconst 1, 1) := by decide +kernel
theorem dX8_grow_51 : decode cX8_grow 51 = .ok (.if_icmp .le 10, 3) := by decide +kernel
theorem dX8_grow_54 : decode cX8_grow 54 = .ok (.aload_n 0, 1) := by decide +kernel
theorem dX8_grow_55 : decode cX8_grow 55 = .ok (.invokevirtual 194, 3) := by decide +kernel
theorem dX8_grow_58 : decode cX8_grow 58 = .ok (.goto 4, 3) := by decide +kernel
theorem dX8_grow_61 : decode cX8_grow 61 = .ok (.iconst (-1), 1) := by decide +kernel
theorem dX8_grow_62 : decode cX8_grow 62 = .ok (.istore 4, 2) := by decide +kernel
theorem dX8_grow_64 : decode cX8_grow 64 = .ok (.iload_n 1, 1) := by decide +kernel
theorem dX8_grow_65 : decode cX8_grow 65 = .ok (.invokestatic 191, 3) := by decide +kernel
theorem dX8_grow_68 : decode cX8_grow 68 = .ok (.iconst 2, 1) := by decide +kernel
theorem dX8_grow_69 : decode cX8_grow 69 = .ok (.if_icmp .le 10, 3) := by decide +kernel
theorem dX8_grow_72 : decode cX8_grow 72 = .ok (.aload_n 0, 1) := by decide +kernel
theorem dX8_grow_73 : decode cX8_grow 73 = .ok (.invokevirtual 194, 3) := by decide +kernel
theorem dX8_grow_76 : decode cX8_grow 76 = .ok (.goto 4, 3) := by decide +kernel
theorem dX8_grow_79 : decode cX8_grow 79 = .ok (.iconst (-1), 1) := by decide +kernel
theorem dX8_grow_80 : decode cX8_grow 80 = .ok (.istore 5, 2) := by decide +kernel
theorem dX8_grow_82 : decode cX8_grow 82 = .ok (.aload_n 0, 1) := by decide +kernel
theorem dX8_grow_83 : decode cX8_grow 83 = .ok (.iload_n 1, 1) := by decide +kernel
theorem dX8_grow_84 : decode cX8_grow 84 = .ok (.iload_n 2, 1) := by decide +kernel
theorem dX8_grow_85 : decode cX8_grow 85 = .ok (.iload_n 3, 1) := by decide +kernel
theorem dX8_grow_86 : decode cX8_grow 86 = .ok (.iload 4, 2) := by decide +kernel
theorem dX8_grow_88 : decode cX8_grow 88 = .ok (.iload 5, 2) := by decide +kernel
theorem dX8_grow_90 : decode cX8_grow 90 = .ok (.invokevirtual 96, 3) := by decide +kernel
theorem dX8_grow_93 : decode cX8_grow 93 = .ok (.ireturn, 1) := by decide +kernel
theorem dX8_tree_0 : decode cX8_tree 0 = .ok (.aload_n 0, 1) := by decide +kernel
theorem dX8_tree_1 : decode cX8_tree 1 = .ok (.iconst 0, 1) := by decide +kernel
theorem dX8_tree_2 : decode cX8_tree 2 = .ok (.putfield 93, 3) := by decide +kernel
theorem dX8_tree_5 : decode cX8_tree 5 = .ok (.aload_n 0, 1) := by decide +kernel
theorem dX8_tree_6 : decode cX8_tree 6 = .ok (.iconst 0, 1) := by decide +kernel
theorem dX8_tree_7 : decode cX8_tree 7 = .ok (.putfield 188, 3) := by decide +kernel
theorem dX8_tree_10 : decode cX8_tree 10 = .ok (.aload_n 0, 1) := by decide +kernel
theorem dX8_tree_11 : decode cX8_tree 11 = .ok (.invokevirtual 194, 3) := by decide +kernel
theorem dX8_tree_14 : decode cX8_tree 14 = .ok (.ireturn, 1) := by decide +kernel
theorem dX8_treeOf_0 : decode cX8_treeOf 0 = .ok (.aload_n 0, 1) := by decide +kernel
theorem dX8_treeOf_1 : decode cX8_treeOf 1 = .ok (.iload_n 1, 1) := by decide +kernel
theorem dX8_treeOf_2 : decode cX8_treeOf 2 = .ok (.invokevirtual 198, 3) := by decide +kernel
theorem dX8_treeOf_5 : decode cX8_treeOf 5 = .ok (.aload_n 0, 1) := by decide +kernel
theorem dX8_treeOf_6 : decode cX8_treeOf 6 = .ok (.invokevirtual 202, 3) := by decide +kernel
theorem dX8_treeOf_9 : decode cX8_treeOf 9 = .ok (.ireturn, 1) := by decide +kernel
theorem dX8_flatten_0 : decode cX8_flatten 0 = .ok (.aload_n 0, 1) := by decide +kernel
theorem dX8_flatten_1 : decode cX8_flatten 1 = .ok (.getfield 37, 3) := by decide +kernel
theorem dX8_flatten_4 : decode cX8_flatten 4 = .ok (.aload_n 0, 1) := by decide +kernel
theorem dX8_flatten_5 : decode cX8_flatten 5 = .ok (.getfield 185, 3) := by decide +kernel
theorem dX8_flatten_8 : decode cX8_flatten 8 = .ok (.aload_n 0, 1) := by decide +kernel
theorem dX8_flatten_9 : decode cX8_flatten 9 = .ok (.getfield 7, 3) := by decide +kernel
theorem dX8_flatten_12 : decode cX8_flatten 12 = .ok (.iload_n 1, 1) := by decide +kernel
theorem dX8_flatten_13 : decode cX8_flatten 13 = .ok (.iaload, 1) := by decide +kernel
theorem dX8_flatten_14 : decode cX8_flatten 14 = .ok (.iastore, 1) := by decide +kernel
theorem dX8_flatten_15 : decode cX8_flatten 15 = .ok (.aload_n 0, 1) := by decide +kernel
theorem dX8_flatten_16 : decode cX8_flatten 16 = .ok (.getfield 40, 3) := by decide +kernel
theorem dX8_flatten_19 : decode cX8_flatten 19 = .ok (.aload_n 0, 1) := by decide +kernel
theorem dX8_flatten_20 : decode cX8_flatten 20 = .ok (.getfield 185, 3) := by decide +kernel
theorem dX8_flatten_23 : decode cX8_flatten 23 = .ok (.aload_n 0, 1) := by decide +kernel
theorem dX8_flatten_24 : decode cX8_flatten 24 = .ok (.getfield 13, 3) := by decide +kernel
theorem dX8_flatten_27 : decode cX8_flatten 27 = .ok (.iload_n 1, 1) := by decide +kernel
theorem dX8_flatten_28 : decode cX8_flatten 28 = .ok (.iaload, 1) := by decide +kernel
theorem dX8_flatten_29 : decode cX8_flatten 29 = .ok (.iastore, 1) := by decide +kernel
theorem dX8_flatten_30 : decode cX8_flatten 30 = .ok (.aload_n 0, 1) := by decide +kernel
theorem dX8_flatten_31 : decode cX8_flatten 31 = .ok (.dup, 1) := by decide +kernel
theorem dX8_flatten_32 : decode cX8_flatten 32 = .ok (.getfield 185, 3) := by decide +kernel
theorem dX8_flatten_35 : decode cX8_flatten 35 = .ok (.iconst 1, 1) := by decide +kernel
theorem dX8_flatten_36 : decode cX8_flatten 36 = .ok (.iadd, 1) := by decide +kernel
theorem dX8_flatten_37 : decode cX8_flatten 37 = .ok (.putfield 185, 3) := by decide +kernel
theorem dX8_flatten_40 : decode cX8_flatten 40 = .ok (.aload_n 0, 1) := by decide +kernel
theorem dX8_flatten_41 : decode cX8_flatten 41 = .ok (.getfield 16, 3) := by decide +kernel
theorem dX8_flatten_44 : decode cX8_flatten 44 = .ok (.iload_n 1, 1) := by decide +kernel
theorem dX8_flatten_45 : decode cX8_flatten 45 = .ok (.iaload, 1) := by decide +kernel
theorem dX8_flatten_46 : decode cX8_flatten 46 = .ok (.ifCond .lt 13, 3) := by decide +kernel
theorem dX8_flatten_49 : decode cX8_flatten 49 = .ok (.aload_n 0, 1) := by decide +kernel
theorem dX8_flatten_50 : decode cX8_flatten 50 = .ok (.aload_n 0, 1) := by decide +kernel
theorem dX8_flatten_51 : decode cX8_flatten 51 = .ok (.getfield 16, 3) := by decide +kernel
theorem dX8_flatten_54 : decode cX8_flatten 54 = .ok (.iload_n 1, 1) := by decide +kernel
theorem dX8_flatten_55 : decode cX8_flatten 55 = .ok (.iaload, 1) := by decide +kernel
theorem dX8_flatten_56 : decode cX8_flatten 56 = .ok (.invokevirtual 205, 3) := by decide +kernel
theorem dX8_flatten_59 : decode cX8_flatten 59 = .ok (.aload_n 0, 1) := by decide +kernel
theorem dX8_flatten_60 : decode cX8_flatten 60 = .ok (.getfield 19, 3) := by decide +kernel
theorem dX8_flatten_63 : decode cX8_flatten 63 = .ok (.iload_n 1, 1) := by decide +kernel
theorem dX8_flatten_64 : decode cX8_flatten 64 = .ok (.iaload, 1) := by decide +kernel
theorem dX8_flatten_65 : decode cX8_flatten 65 = .ok (.ifCond .lt 13, 3) := by decide +kernel
theorem dX8_flatten_68 : decode cX8_flatten 68 = .ok (.aload_n 0, 1) := by decide +kernel
theorem dX8_flatten_69 : decode cX8_flatten 69 = .ok (.aload_n 0, 1) := by decide +kernel
theorem dX8_flatten_70 : decode cX8_flatten 70 = .ok (.getfield 19, 3) := by decide +kernel
theorem dX8_flatten_73 : decode cX8_flatten 73 = .ok (.iload_n 1, 1) := by decide +kernel
theorem dX8_flatten_74 : decode cX8_flatten 74 = .ok (.iaload, 1) := by decide +kernel
theorem dX8_flatten_75 : decode cX8_flatten 75 = .ok (.invokevirtual 205, 3) := by decide +kernel
theorem dX8_flatten_78 : decode cX8_flatten 78 = .ok (.aload_n 0, 1) := by decide +kernel
theorem dX8_flatten_79 : decode cX8_flatten 79 = .ok (.getfield 22, 3) := by decide +kernel
theorem dX8_flatten_82 : decode cX8_flatten 82 = .ok (.iload_n 1, 1) := by decide +kernel
theorem dX8_flatten_83 : decode cX8_flatten 83 = .ok (.iaload, 1) := by decide +kernel
theorem dX8_flatten_84 : decode cX8_flatten 84 = .ok (.ifCond .lt 13, 3) := by decide +kernel
theorem dX8_flatten_87 : decode cX8_flatten 87 = .ok (.aload_n 0, 1) := by decide +kernel
theorem dX8_flatten_88 : decode cX8_flatten 88 = .ok (.aload_n 0, 1) := by decide +kernel
theorem dX8_flatten_89 : decode cX8_flatten 89 = .ok (.getfield 22, 3) := by decide +kernel
theorem dX8_flatten_92 : decode cX8_flatten 92 = .ok (.iload_n 1, 1) := by decide +kernel
theorem dX8_flatten_93 : decode cX8_flatten 93 = .ok (.iaload, 1) := by decide +kernel
theorem dX8_flatten_94 : decode cX8_flatten 94 = .ok (.invokevirtual 205, 3) := by decide +kernel
theorem dX8_flatten_97 : decode cX8_flatten 97 = .ok (.return_, 1) := by decide +kernel
theorem dX8_endOf_0 : decode cX8_endOf 0 = .ok (.iconst 1, 1) := by decide +kernel
theorem dX8_endOf_1 : decode cX8_endOf 1 = .ok (.istore_n 2, 1) := by decide +kernel
theorem dX8_endOf_2 : decode cX8_endOf 2 = .ok (.iload_n 1, 1) := by decide +kernel
theorem dX8_endOf_3 : decode cX8_endOf 3 = .ok (.istore_n 3, 1) := by decide +kernel
theorem dX8_endOf_4 : decode cX8_endOf 4 = .ok (.iload_n 2, 1) := by decide +kernel
theorem dX8_endOf_5 : decode cX8_endOf 5 = .ok (.ifCond .le 23, 3) := by decide +kernel
theorem dX8_endOf_8 : decode cX8_endOf 8 = .ok (.iload_n 2, 1) := by decide +kernel
theorem dX8_endOf_9 : decode cX8_endOf 9 = .ok (.aload_n 0, 1) := by decide +kernel
theorem dX8_endOf_10 : decode cX8_endOf 10 = .ok (.getfield 37, 3) := by decide +kernel
theorem dX8_endOf_13 : decode cX8_endOf 13 = .ok (.iload_n 3, 1) := by decide +kernel
theorem dX8_endOf_14 : decode cX8_endOf 14 = .ok (.iaload, 1) := by decide +kernel
theorem dX8_endOf_15 : decode cX8_endOf 15 = .ok (.invokestatic 191, 3) := by decide +kernel
theorem dX8_endOf_18 : decode cX8_endOf 18 = .ok (.iconst 1, 1) := by decide +kernel
theorem dX8_endOf_19 : decode cX8_endOf 19 = .ok (.isub, 1) := by decide +kernel
theorem dX8_endOf_20 : decode cX8_endOf 20 = .ok (.iadd, 1) := by decide +kernel
theorem dX8_endOf_21 : decode cX8_endOf 21 = .ok (.istore_n 2, 1) := by decide +kernel
theorem dX8_endOf_22 : decode cX8_endOf 22 = .ok (.iinc 3 1, 3) := by decide +kernel
theorem dX8_endOf_25 : decode cX8_endOf 25 = .ok (.goto (-21), 3) := by decide +kernel
theorem dX8_endOf_28 : decode cX8_endOf 28 = .ok (.iload_n 3, 1) := by decide +kernel
theorem dX8_endOf_29 : decode cX8_endOf 29 = .ok (.ireturn, 1) := by decide +kernel
theorem dX8_count0_0 : decode cX8_count0 0 = .ok (.aload_n 0, 1) := by decide +kernel
theorem dX8_count0_1 : decode cX8_count0 1 = .ok (.getfield 43, 3) := by decide +kernel
theorem dX8_count0_4 : decode cX8_count0 4 = .ok (.iconst 1, 1) := by decide +kernel
theorem dX8_count0_5 : decode cX8_count0 5 = .ok (.laload, 1) := by decide +kernel
theorem dX8_count0_6 : decode cX8_count0 6 = .ok (.lconst 0, 1) := by decide +kernel
theorem dX8_count0_7 : decode cX8_count0 7 = .ok (.lcmp, 1) := by decide +kernel
theorem dX8_count0_8 : decode cX8_count0 8 = .ok (.ifCond .le 4, 3) := by decide +kernel
theorem dX8_count0_11 : decode cX8_count0 11 = .ok (.return_, 1) := by decide +kernel
theorem dX8_count0_12 : decode cX8_count0 12 = .ok (.aload_n 0, 1) := by decide +kernel
theorem dX8_count0_13 : decode cX8_count0 13 = .ok (.getfield 43, 3) := by decide +kernel
theorem dX8_count0_16 : decode cX8_count0 16 = .ok (.iconst 1, 1) := by decide +kernel
theorem dX8_count0_17 : decode cX8_count0 17 = .ok (.ldc2_w 208, 3) := by decide +kernel
theorem dX8_count0_20 : decode cX8_count0 20 = .ok (.lastore, 1) := by decide +kernel
theorem dX8_count0_21 : decode cX8_count0 21 = .ok (.iconst 2, 1) := by decide +kernel
theorem dX8_count0_22 : decode cX8_count0 22 = .ok (.istore_n 1, 1) := by decide +kernel
theorem dX8_count0_23 : decode cX8_count0 23 = .ok (.iload_n 1, 1) := by decide +kernel
theorem dX8_count0_24 : decode cX8_count0 24 = .ok (.bipush 15, 2) := by decide +kernel
theorem dX8_count0_26 : decode cX8_count0 26 = .ok (.if_icmp .gt 106, 3) := by decide +kernel
theorem dX8_count0_29 : decode cX8_count0 29 = .ok (.aload_n 0, 1) := by decide +kernel
theorem dX8_count0_30 : decode cX8_count0 30 = .ok (.getfield 43, 3) := by decide +kernel
theorem dX8_count0_33 : decode cX8_count0 33 = .ok (.iload_n 1, 1) := by decide +kernel
theorem dX8_count0_34 : decode cX8_count0 34 = .ok (.iconst 1, 1) := by decide +kernel
theorem dX8_count0_35 : decode cX8_count0 35 = .ok (.isub, 1) := by decide +kernel
theorem dX8_count0_36 : decode cX8_count0 36 = .ok (.laload, 1) := by decide +kernel
theorem dX8_count0_37 : decode cX8_count0 37 = .ok (.lstore_n 2, 1) := by decide +kernel
theorem dX8_count0_38 : decode cX8_count0 38 = .ok (.iconst 1, 1) := by decide +kernel
theorem dX8_count0_39 : decode cX8_count0 39 = .ok (.istore 4, 2) := by decide +kernel
theorem dX8_count0_41 : decode cX8_count0 41 = .ok (.iload 4, 2) := by decide +kernel
theorem dX8_count0_43 : decode cX8_count0 43 = .ok (.iload_n 1, 1) := by decide +kernel
theorem dX8_count0_44 : decode cX8_count0 44 = .ok (.iconst 1, 1) := by decide +kernel
theorem dX8_count0_45 : decode cX8_count0 45 = .ok (.isub, 1) := by decide +kernel
theorem dX8_count0_46 : decode cX8_count0 46 = .ok (.if_icmp .ge 35, 3) := by decide +kernel
theorem dX8_count0_49 : decode cX8_count0 49 = .ok (.lload_n 2, 1) := by decide +kernel
theorem dX8_count0_50 : decode cX8_count0 50 = .ok (.ldc2_w 210, 3) := by decide +kernel
theorem dX8_count0_53 : decode cX8_count0 53 = .ok (.aload_n 0, 1) := by decide +kernel
theorem dX8_count0_54 : decode cX8_count0 54 = .ok (.getfield 43, 3) := by decide +kernel
theorem dX8_count0_57 : decode cX8_count0 57 = .ok (.iload 4, 2) := by decide +kernel
theorem dX8_count0_59 : decode cX8_count0 59 = .ok (.laload, 1) := by decide +kernel
theorem dX8_count0_60 : decode cX8_count0 60 = .ok (.lmul, 1) := by decide +kernel
theorem dX8_count0_61 : decode cX8_count0 61 = .ok (.aload_n 0, 1) := by decide +kernel
theorem dX8_count0_62 : decode cX8_count0 62 = .ok (.getfield 43, 3) := by decide +kernel
theorem dX8_count0_65 : decode cX8_count0 65 = .ok (.iload_n 1, 1) := by decide +kernel
theorem dX8_count0_66 : decode cX8_count0 66 = .ok (.iconst 1, 1) := by decide +kernel
theorem dX8_count0_67 : decode cX8_count0 67 = .ok (.isub, 1) := by decide +kernel
theorem dX8_count0_68 : decode cX8_count0 68 = .ok (.iload 4, 2) := by decide +kernel
theorem dX8_count0_70 : decode cX8_count0 70 = .ok (.isub, 1) := by decide +kernel
theorem dX8_count0_71 : decode cX8_count0 71 = .ok (.laload, 1) := by decide +kernel
theorem dX8_count0_72 : decode cX8_count0 72 = .ok (.lmul, 1) := by decide +kernel
theorem dX8_count0_73 : decode cX8_count0 73 = .ok (.ladd, 1) := by decide +kernel
theorem dX8_count0_74 : decode cX8_count0 74 = .ok (.lstore_n 2, 1) := by decide +kernel
theorem dX8_count0_75 : decode cX8_count0 75 = .ok (.iinc 4 1, 3) := by decide +kernel
theorem dX8_count0_78 : decode cX8_count0 78 = .ok (.goto (-37), 3) := by decide +kernel
theorem dX8_count0_81 : decode cX8_count0 81 = .ok (.iconst 1, 1) := by decide +kernel
theorem dX8_count0_82 : decode cX8_count0 82 = .ok (.istore 4, 2) := by decide +kernel
theorem dX8_count0_84 : decode cX8_count0 84 = .ok (.iload 4, 2) := by decide +kernel
theorem dX8_count0_86 : decode cX8_count0 86 = .ok (.iload_n 1, 1) := by decide +kernel
theorem dX8_count0_87 : decode cX8_count0 87 = .ok (.iconst 2, 1) := by decide +kernel
theorem dX8_count0_88 : decode cX8_count0 88 = .ok (.isub, 1) := by decide +kernel
theorem dX8_count0_89 : decode cX8_count0 89 = .ok (.if_icmp .ge 30, 3) := by decide +kernel
theorem dX8_count0_92 : decode cX8_count0 92 = .ok (.lload_n 2, 1) := by decide +kernel
theorem dX8_count0_93 : decode cX8_count0 93 = .ok (.aload_n 0, 1) := by decide +kernel
theorem dX8_count0_94 : decode cX8_count0 94 = .ok (.getfield 43, 3) := by decide +kernel
theorem dX8_count0_97 : decode cX8_count0 97 = .ok (.iload 4, 2) := by decide +kernel
theorem dX8_count0_99 : decode cX8_count0 99 = .ok (.laload, 1) := by decide +kernel
theorem dX8_count0_100 : decode cX8_count0 100 = .ok (.aload_n 0, 1) := by decide +kernel
theorem dX8_count0_101 : decode cX8_count0 101 = .ok (.iload_n 1, 1) := by decide +kernel
theorem dX8_count0_102 : decode cX8_count0 102 = .ok (.iconst 1, 1) := by decide +kernel
theorem dX8_count0_103 : decode cX8_count0 103 = .ok (.isub, 1) := by decide +kernel
theorem dX8_count0_104 : decode cX8_count0 104 = .ok (.iload 4, 2) := by decide +kernel
theorem dX8_count0_106 : decode cX8_count0 106 = .ok (.isub, 1) := by decide +kernel
theorem dX8_count0_107 : decode cX8_count0 107 = .ok (.invokevirtual 212, 3) := by decide +kernel
theorem dX8_count0_110 : decode cX8_count0 110 = .ok (.lmul, 1) := by decide +kernel
theorem dX8_count0_111 : decode cX8_count0 111 = .ok (.ladd, 1) := by decide +kernel
theorem dX8_count0_112 : decode cX8_count0 112 = .ok (.lstore_n 2, 1) := by decide +kernel
theorem dX8_count0_113 : decode cX8_count0 113 = .ok (.iinc 4 1, 3) := by decide +kernel
theorem dX8_count0_116 : decode cX8_count0 116 = .ok (.goto (-32), 3) := by decide +kernel
theorem dX8_count0_119 : decode cX8_count0 119 = .ok (.aload_n 0, 1) := by decide +kernel
theorem dX8_count0_120 : decode cX8_count0 120 = .ok (.getfield 43, 3) := by decide +kernel
theorem dX8_count0_123 : decode cX8_count0 123 = .ok (.iload_n 1, 1) := by decide +kernel
theorem dX8_count0_124 : decode cX8_count0 124 = .ok (.lload_n 2, 1) := by decide +kernel
theorem dX8_count0_125 : decode cX8_count0 125 = .ok (.lastore, 1) := by decide +kernel
theorem dX8_count0_126 : decode cX8_count0 126 = .ok (.iinc 1 1, 3) := by decide +kernel
theorem dX8_count0_129 : decode cX8_count0 129 = .ok (.goto (-106), 3) := by decide +kernel
theorem dX8_count0_132 : decode cX8_count0 132 = .ok (.return_, 1) := by decide +kernel
theorem dX8_pairs_0 : decode cX8_pairs 0 = .ok (.lconst 0, 1) := by decide +kernel
theorem dX8_pairs_1 : decode cX8_pairs 1 = .ok (.lstore_n 2, 1) := by decide +kernel
theorem dX8_pairs_2 : decode cX8_pairs 2 = .ok (.iconst 1, 1) := by decide +kernel
theorem dX8_pairs_3 : decode cX8_pairs 3 = .ok (.istore 4, 2) := by decide +kernel
theorem dX8_pairs_5 : decode cX8_pairs 5 = .ok (.iload 4, 2) := by decide +kernel
theorem dX8_pairs_7 : decode cX8_pairs 7 = .ok (.iload_n 1, 1) := by decide +kernel
theorem dX8_pairs_8 : decode cX8_pairs 8 = .ok (.if_icmp .ge 29, 3) := by decide +kernel
theorem dX8_pairs_11 : decode cX8_pairs 11 = .ok (.lload_n 2, 1) := by decide +kernel
theorem dX8_pairs_12 : decode cX8_pairs 12 = .ok (.aload_n 0, 1) := by decide +kernel
theorem dX8_pairs_13 : decode cX8_pairs 13 = .ok (.getfield 43, 3) := by decide +kernel
theorem dX8_pairs_16 : decode cX8_pairs 16 = .ok (.iload 4, 2) := by decide +kernel
theorem dX8_pairs_18 : decode cX8_pairs 18 = .ok (.laload, 1) := by decide +kernel
theorem dX8_pairs_19 : decode cX8_pairs 19 = .ok (.aload_n 0, 1) := by decide +kernel
theorem dX8_pairs_20 : decode cX8_pairs 20 = .ok (.getfield 43, 3) := by decide +kernel
theorem dX8_pairs_23 : decode cX8_pairs 23 = .ok (.iload_n 1, 1) := by decide +kernel
theorem dX8_pairs_24 : decode cX8_pairs 24 = .ok (.iload 4, 2) := by decide +kernel
theorem dX8_pairs_26 : decode cX8_pairs 26 = .ok (.isub, 1) := by decide +kernel
theorem dX8_pairs_27 : decode cX8_pairs 27 = .ok (.laload, 1) := by decide +kernel
theorem dX8_pairs_28 : decode cX8_pairs 28 = .ok (.lmul, 1) := by decide +kernel
theorem dX8_pairs_29 : decode cX8_pairs 29 = .ok (.ladd, 1) := by decide +kernel
theorem dX8_pairs_30 : decode cX8_pairs 30 = .ok (.lstore_n 2, 1) := by decide +kernel
theorem dX8_pairs_31 : decode cX8_pairs 31 = .ok (.iinc 4 1, 3) := by decide +kernel
theorem dX8_pairs_34 : decode cX8_pairs 34 = .ok (.goto (-29), 3) := by decide +kernel
theorem dX8_pairs_37 : decode cX8_pairs 37 = .ok (.lload_n 2, 1) := by decide +kernel
theorem dX8_pairs_38 : decode cX8_pairs 38 = .ok (.lreturn, 1) := by decide +kernel
theorem dX8_many_0 : decode cX8_many 0 = .ok (.iload_n 1, 1) := by decide +kernel
theorem dX8_many_1 : decode cX8_many 1 = .ok (.i2l, 1) := by decide +kernel
theorem dX8_many_2 : decode cX8_many 2 = .ok (.lconst 1, 1) := by decide +kernel
theorem dX8_many_3 : decode cX8_many 3 = .ok (.ldc2_w 216, 3) := by decide +kernel
theorem dX8_many_6 : decode cX8_many 6 = .ok (.invokestatic 177, 3) := by decide +kernel
theorem dX8_many_9 : decode cX8_many 9 = .ok (.ifCond .ne 7, 3) := by decide +kernel
theorem dX8_many_12 : decode cX8_many 12 = .ok (.ldc2_w 218, 3) := by decide +kernel
theorem dX8_many_15 : decode cX8_many 15 = .ok (.lreturn, 1) := by decide +kernel
theorem dX8_many_16 : decode cX8_many 16 = .ok (.aload_n 0, 1) := by decide +kernel
theorem dX8_many_17 : decode cX8_many 17 = .ok (.invokevirtual 220, 3) := by decide +kernel
theorem dX8_many_20 : decode cX8_many 20 = .ok (.aload_n 0, 1) := by decide +kernel
theorem dX8_many_21 : decode cX8_many 21 = .ok (.getfield 43, 3) := by decide +kernel
theorem dX8_many_24 : decode cX8_many 24 = .ok (.iload_n 1, 1) := by decide +kernel
theorem dX8_many_25 : decode cX8_many 25 = .ok (.laload, 1) := by decide +kernel
theorem dX8_many_26 : decode cX8_many 26 = .ok (.lreturn, 1) := by decide +kernel
theorem dX8_hand_0 : decode cX8_hand 0 = .ok (.aload_n 0, 1) := by decide +kernel
theorem dX8_hand_1 : decode cX8_hand 1 = .ok (.getfield 37, 3) := by decide +kernel
theorem dX8_hand_4 : decode cX8_hand 4 = .ok (.aload_n 0, 1) := by decide +kernel
theorem dX8_hand_5 : decode cX8_hand 5 = .ok (.getfield 185, 3) := by decide +kernel
theorem dX8_hand_8 : decode cX8_hand 8 = .ok (.iload_n 1, 1) := by decide +kernel
theorem dX8_hand_9 : decode cX8_hand 9 = .ok (.iastore, 1) := by decide +kernel
theorem dX8_hand_10 : decode cX8_hand 10 = .ok (.aload_n 0, 1) := by decide +kernel
theorem dX8_hand_11 : decode cX8_hand 11 = .ok (.getfield 40, 3) := by decide +kernel
theorem dX8_hand_14 : decode cX8_hand 14 = .ok (.aload_n 0, 1) := by decide +kernel
theorem dX8_hand_15 : decode cX8_hand 15 = .ok (.getfield 185, 3) := by decide +kernel
theorem dX8_hand_18 : decode cX8_hand 18 = .ok (.iload_n 2, 1) := by decide +kernel
theorem dX8_hand_19 : decode cX8_hand 19 = .ok (.iastore, 1) := by decide +kernel
theorem dX8_hand_20 : decode cX8_hand 20 = .ok (.aload_n 0, 1) := by decide +kernel
theorem dX8_hand_21 : decode cX8_hand 21 = .ok (.dup, 1) := by decide +kernel
theorem dX8_hand_22 : decode cX8_hand 22 = .ok (.getfield 185, 3) := by decide +kernel
theorem dX8_hand_25 : decode cX8_hand 25 = .ok (.iconst 1, 1) := by decide +kernel
theorem dX8_hand_26 : decode cX8_hand 26 = .ok (.iadd, 1) := by decide +kernel
theorem dX8_hand_27 : decode cX8_hand 27 = .ok (.putfield 185, 3) := by decide +kernel
theorem dX8_hand_30 : decode cX8_hand 30 = .ok (.return_, 1) := by decide +kernel
theorem dX8_nthPair_0 : decode cX8_nthPair 0 = .ok (.lload_n 2, 1) := by decide +kernel
theorem dX8_nthPair_1 : decode cX8_nthPair 1 = .ok (.lstore 4, 2) := by decide +kernel
theorem dX8_nthPair_3 : decode cX8_nthPair 3 = .ok (.iconst 1, 1) := by decide +kernel
theorem dX8_nthPair_4 : decode cX8_nthPair 4 = .ok (.istore 6, 2) := by decide +kernel
theorem dX8_nthPair_6 : decode cX8_nthPair 6 = .ok (.lload 4, 2) := by decide +kernel
theorem dX8_nthPair_8 : decode cX8_nthPair 8 = .ok (.aload_n 0, 1) := by decide +kernel
theorem dX8_nthPair_9 : decode cX8_nthPair 9 = .ok (.getfield 43, 3) := by decide +kernel
theorem dX8_nthPair_12 : decode cX8_nthPair 12 = .ok (.iload 6, 2) := by decide +kernel
theorem dX8_nthPair_14 : decode cX8_nthPair 14 = .ok (.laload, 1) := by decide +kernel
theorem dX8_nthPair_15 : decode cX8_nthPair 15 = .ok (.aload_n 0, 1) := by decide +kernel
theorem dX8_nthPair_16 : decode cX8_nthPair 16 = .ok (.getfield 43, 3) := by decide +kernel
theorem dX8_nthPair_19 : decode cX8_nthPair 19 = .ok (.iload_n 1, 1) := by decide +kernel
theorem dX8_nthPair_20 : decode cX8_nthPair 20 = .ok (.iload 6, 2) := by decide +kernel
theorem dX8_nthPair_22 : decode cX8_nthPair 22 = .ok (.isub, 1) := by decide +kernel
theorem dX8_nthPair_23 : decode cX8_nthPair 23 = .ok (.laload, 1) := by decide +kernel
theorem dX8_nthPair_24 : decode cX8_nthPair 24 = .ok (.lmul, 1) := by decide +kernel
theorem dX8_nthPair_25 : decode cX8_nthPair 25 = .ok (.lcmp, 1) := by decide +kernel
theorem dX8_nthPair_26 : decode cX8_nthPair 26 = .ok (.ifCond .lt 31, 3) := by decide +kernel
theorem dX8_nthPair_29 : decode cX8_nthPair 29 = .ok (.lload 4, 2) := by decide +kernel
theorem dX8_nthPair_31 : decode cX8_nthPair 31 = .ok (.aload_n 0, 1) := by decide +kernel
theorem dX8_nthPair_32 : decode cX8_nthPair 32 = .ok (.getfield 43, 3) := by decide +kernel
theorem dX8_nthPair_35 : decode cX8_nthPair 35 = .ok (.iload 6, 2) := by decide +kernel
theorem dX8_nthPair_37 : decode cX8_nthPair 37 = .ok (.laload, 1) := by decide +kernel
theorem dX8_nthPair_38 : decode cX8_nthPair 38 = .ok (.aload_n 0, 1) := by decide +kernel
theorem dX8_nthPair_39 : decode cX8_nthPair 39 = .ok (.getfield 43, 3) := by decide +kernel
theorem dX8_nthPair_42 : decode cX8_nthPair 42 = .ok (.iload_n 1, 1) := by decide +kernel
theorem dX8_nthPair_43 : decode cX8_nthPair 43 = .ok (.iload 6, 2) := by decide +kernel
theorem dX8_nthPair_45 : decode cX8_nthPair 45 = .ok (.isub, 1) := by decide +kernel
theorem dX8_nthPair_46 : decode cX8_nthPair 46 = .ok (.laload, 1) := by decide +kernel
theorem dX8_nthPair_47 : decode cX8_nthPair 47 = .ok (.lmul, 1) := by decide +kernel
theorem dX8_nthPair_48 : decode cX8_nthPair 48 = .ok (.lsub, 1) := by decide +kernel
theorem dX8_nthPair_49 : decode cX8_nthPair 49 = .ok (.lstore 4, 2) := by decide +kernel
theorem dX8_nthPair_51 : decode cX8_nthPair 51 = .ok (.iinc 6 1, 3) := by decide +kernel
theorem dX8_nthPair_54 : decode cX8_nthPair 54 = .ok (.goto (-48), 3) := by decide +kernel
theorem dX8_nthPair_57 : decode cX8_nthPair 57 = .ok (.aload_n 0, 1) := by decide +kernel
theorem dX8_nthPair_58 : decode cX8_nthPair 58 = .ok (.iload 6, 2) := by decide +kernel
theorem dX8_nthPair_60 : decode cX8_nthPair 60 = .ok (.lload 4, 2) := by decide +kernel
theorem dX8_nthPair_62 : decode cX8_nthPair 62 = .ok (.aload_n 0, 1) := by decide +kernel
theorem dX8_nthPair_63 : decode cX8_nthPair 63 = .ok (.getfield 43, 3) := by decide +kernel
theorem dX8_nthPair_66 : decode cX8_nthPair 66 = .ok (.iload_n 1, 1) := by decide +kernel
theorem dX8_nthPair_67 : decode cX8_nthPair 67 = .ok (.iload 6, 2) := by decide +kernel
theorem dX8_nthPair_69 : decode cX8_nthPair 69 = .ok (.isub, 1) := by decide +kernel
theorem dX8_nthPair_70 : decode cX8_nthPair 70 = .ok (.laload, 1) := by decide +kernel
theorem dX8_nthPair_71 : decode cX8_nthPair 71 = .ok (.ldiv, 1) := by decide +kernel
theorem dX8_nthPair_72 : decode cX8_nthPair 72 = .ok (.invokevirtual 223, 3) := by decide +kernel
theorem dX8_nthPair_75 : decode cX8_nthPair 75 = .ok (.aload_n 0, 1) := by decide +kernel
theorem dX8_nthPair_76 : decode cX8_nthPair 76 = .ok (.iload_n 1, 1) := by decide +kernel
theorem dX8_nthPair_77 : decode cX8_nthPair 77 = .ok (.iload 6, 2) := by decide +kernel
theorem dX8_nthPair_79 : decode cX8_nthPair 79 = .ok (.isub, 1) := by decide +kernel
theorem dX8_nthPair_80 : decode cX8_nthPair 80 = .ok (.lload 4, 2) := by decide +kernel
theorem dX8_nthPair_82 : decode cX8_nthPair 82 = .ok (.aload_n 0, 1) := by decide +kernel
theorem dX8_nthPair_83 : decode cX8_nthPair 83 = .ok (.getfield 43, 3) := by decide +kernel
theorem dX8_nthPair_86 : decode cX8_nthPair 86 = .ok (.iload_n 1, 1) := by decide +kernel
theorem dX8_nthPair_87 : decode cX8_nthPair 87 = .ok (.iload 6, 2) := by decide +kernel
theorem dX8_nthPair_89 : decode cX8_nthPair 89 = .ok (.isub, 1) := by decide +kernel
theorem dX8_nthPair_90 : decode cX8_nthPair 90 = .ok (.laload, 1) := by decide +kernel
theorem dX8_nthPair_91 : decode cX8_nthPair 91 = .ok (.lrem, 1) := by decide +kernel
theorem dX8_nthPair_92 : decode cX8_nthPair 92 = .ok (.invokevirtual 223, 3) := by decide +kernel
theorem dX8_nthPair_95 : decode cX8_nthPair 95 = .ok (.return_, 1) := by decide +kernel
theorem dX8_nth0_0 : decode cX8_nth0 0 = .ok (.iload_n 1, 1) := by decide +kernel
theorem dX8_nth0_1 : decode cX8_nth0 1 = .ok (.iconst 1, 1) := by decide +kernel
theorem dX8_nth0_2 : decode cX8_nth0 2 = .ok (.if_icmp .ne 38, 3) := by decide +kernel
theorem dX8_nth0_5 : decode cX8_nth0 5 = .ok (.aload_n 0, 1) := by decide +kernel
theorem dX8_nth0_6 : decode cX8_nth0 6 = .ok (.lload_n 2, 1) := by decide +kernel
theorem dX8_nth0_7 : decode cX8_nth0 7 = .ok (.ldc2_w 227, 3) := by decide +kernel
theorem dX8_nth0_10 : decode cX8_nth0 10 = .ok (.lcmp, 1) := by decide +kernel
theorem dX8_nth0_11 : decode cX8_nth0 11 = .ok (.ifCond .ge 7, 3) := by decide +kernel
theorem dX8_nth0_14 : decode cX8_nth0 14 = .ok (.iconst 0, 1) := by decide +kernel
theorem dX8_nth0_15 : decode cX8_nth0 15 = .ok (.goto 7, 3) := by decide +kernel
theorem dX8_nth0_18 : decode cX8_nth0 18 = .ok (.lload_n 2, 1) := by decide +kernel
theorem dX8_nth0_19 : decode cX8_nth0 19 = .ok (.l2i, 1) := by decide +kernel
theorem dX8_nth0_20 : decode cX8_nth0 20 = .ok (.iconst 2, 1) := by decide +kernel
theorem dX8_nth0_21 : decode cX8_nth0 21 = .ok (.isub, 1) := by decide +kernel
theorem dX8_nth0_22 : decode cX8_nth0 22 = .ok (.lload_n 2, 1) := by decide +kernel
theorem dX8_nth0_23 : decode cX8_nth0 23 = .ok (.ldc2_w 227, 3) := by decide +kernel
theorem dX8_nth0_26 : decode cX8_nth0 26 = .ok (.lcmp, 1) := by decide +kernel
theorem dX8_nth0_27 : decode cX8_nth0 27 = .ok (.ifCond .ge 8, 3) := by decide +kernel
theorem dX8_nth0_30 : decode cX8_nth0 30 = .ok (.lload_n 2, 1) := by decide +kernel
theorem dX8_nth0_31 : decode cX8_nth0 31 = .ok (.l2i, 1) := by decide +kernel
theorem dX8_nth0_32 : decode cX8_nth0 32 = .ok (.goto 4, 3) := by decide +kernel
theorem dX8_nth0_35 : decode cX8_nth0 35 = .ok (.iconst 0, 1) := by decide +kernel
theorem dX8_nth0_36 : decode cX8_nth0 36 = .ok (.invokevirtual 229, 3) := by decide +kernel
theorem dX8_nth0_39 : decode cX8_nth0 39 = .ok (.return_, 1) := by decide +kernel
theorem dX8_nth0_40 : decode cX8_nth0 40 = .ok (.lload_n 2, 1) := by decide +kernel
theorem dX8_nth0_41 : decode cX8_nth0 41 = .ok (.lstore 4, 2) := by decide +kernel
theorem dX8_nth0_43 : decode cX8_nth0 43 = .ok (.lload 4, 2) := by decide +kernel
theorem dX8_nth0_45 : decode cX8_nth0 45 = .ok (.aload_n 0, 1) := by decide +kernel
theorem dX8_nth0_46 : decode cX8_nth0 46 = .ok (.getfield 43, 3) := by decide +kernel
theorem dX8_nth0_49 : decode cX8_nth0 49 = .ok (.iload_n 1, 1) := by decide +kernel
theorem dX8_nth0_50 : decode cX8_nth0 50 = .ok (.iconst 1, 1) := by decide +kernel
theorem dX8_nth0_51 : decode cX8_nth0 51 = .ok (.isub, 1) := by decide +kernel
theorem dX8_nth0_52 : decode cX8_nth0 52 = .ok (.laload, 1) := by decide +kernel
theorem dX8_nth0_53 : decode cX8_nth0 53 = .ok (.lcmp, 1) := by decide +kernel
theorem dX8_nth0_54 : decode cX8_nth0 54 = .ok (.ifCond .ge 19, 3) := by decide +kernel
theorem dX8_nth0_57 : decode cX8_nth0 57 = .ok (.aload_n 0, 1) := by decide +kernel
theorem dX8_nth0_58 : decode cX8_nth0 58 = .ok (.iconst 3, 1) := by decide +kernel
theorem dX8_nth0_59 : decode cX8_nth0 59 = .ok (.iconst 0, 1) := by decide +kernel
theorem dX8_nth0_60 : decode cX8_nth0 60 = .ok (.invokevirtual 229, 3) := by decide +kernel
theorem dX8_nth0_63 : decode cX8_nth0 63 = .ok (.aload_n 0, 1) := by decide +kernel
theorem dX8_nth0_64 : decode cX8_nth0 64 = .ok (.iload_n 1, 1) := by decide +kernel
theorem dX8_nth0_65 : decode cX8_nth0 65 = .ok (.iconst 1, 1) := by decide +kernel
theorem dX8_nth0_66 : decode cX8_nth0 66 = .ok (.isub, 1) := by decide +kernel
theorem dX8_nth0_67 : decode cX8_nth0 67 = .ok (.lload 4, 2) := by decide +kernel
theorem dX8_nth0_69 : decode cX8_nth0 69 = .ok (.invokevirtual 223, 3) := by decide +kernel
theorem dX8_nth0_72 : decode cX8_nth0 72 = .ok (.return_, 1) := by decide +kernel
theorem dX8_nth0_73 : decode cX8_nth0 73 = .ok (.lload 4, 2) := by decide +kernel
theorem dX8_nth0_75 : decode cX8_nth0 75 = .ok (.aload_n 0, 1) := by decide +kernel
theorem dX8_nth0_76 : decode cX8_nth0 76 = .ok (.getfield 43, 3) := by decide +kernel
theorem dX8_nth0_79 : decode cX8_nth0 79 = .ok (.iload_n 1, 1) := by decide +kernel
theorem dX8_nth0_80 : decode cX8_nth0 80 = .ok (.iconst 1, 1) := by decide +kernel
theorem dX8_nth0_81 : decode cX8_nth0 81 = .ok (.isub, 1) := by decide +kernel
theorem dX8_nth0_82 : decode cX8_nth0 82 = .ok (.laload, 1) := by decide +kernel
theorem dX8_nth0_83 : decode cX8_nth0 83 = .ok (.lsub, 1) := by decide +kernel
theorem dX8_nth0_84 : decode cX8_nth0 84 = .ok (.lstore 4, 2) := by decide +kernel
theorem dX8_nth0_86 : decode cX8_nth0 86 = .ok (.aload_n 0, 1) := by decide +kernel
theorem dX8_nth0_87 : decode cX8_nth0 87 = .ok (.iload_n 1, 1) := by decide +kernel
theorem dX8_nth0_88 : decode cX8_nth0 88 = .ok (.iconst 1, 1) := by decide +kernel
theorem dX8_nth0_89 : decode cX8_nth0 89 = .ok (.isub, 1) := by decide +kernel
theorem dX8_nth0_90 : decode cX8_nth0 90 = .ok (.invokevirtual 212, 3) := by decide +kernel
theorem dX8_nth0_93 : decode cX8_nth0 93 = .ok (.lstore 6, 2) := by decide +kernel
theorem dX8_nth0_95 : decode cX8_nth0 95 = .ok (.iconst 4, 1) := by decide +kernel
theorem dX8_nth0_96 : decode cX8_nth0 96 = .ok (.istore 8, 2) := by decide +kernel
theorem dX8_nth0_98 : decode cX8_nth0 98 = .ok (.iload 8, 2) := by decide +kernel
theorem dX8_nth0_100 : decode cX8_nth0 100 = .ok (.bipush 7, 2) := by decide +kernel
theorem dX8_nth0_102 : decode cX8_nth0 102 = .ok (.if_icmp .gt 41, 3) := by decide +kernel
theorem dX8_nth0_105 : decode cX8_nth0 105 = .ok (.lload 4, 2) := by decide +kernel
theorem dX8_nth0_107 : decode cX8_nth0 107 = .ok (.lload 6, 2) := by decide +kernel
theorem dX8_nth0_109 : decode cX8_nth0 109 = .ok (.lcmp, 1) := by decide +kernel
theorem dX8_nth0_110 : decode cX8_nth0 110 = .ok (.ifCond .ge 20, 3) := by decide +kernel
theorem dX8_nth0_113 : decode cX8_nth0 113 = .ok (.aload_n 0, 1) := by decide +kernel
theorem dX8_nth0_114 : decode cX8_nth0 114 = .ok (.iload 8, 2) := by decide +kernel
theorem dX8_nth0_116 : decode cX8_nth0 116 = .ok (.iconst 0, 1) := by decide +kernel
theorem dX8_nth0_117 : decode cX8_nth0 117 = .ok (.invokevirtual 229, 3) := by decide +kernel
theorem dX8_nth0_120 : decode cX8_nth0 120 = .ok (.aload_n 0, 1) := by decide +kernel
theorem dX8_nth0_121 : decode cX8_nth0 121 = .ok (.iload_n 1, 1) := by decide +kernel
theorem dX8_nth0_122 : decode cX8_nth0 122 = .ok (.iconst 1, 1) := by decide +kernel
theorem dX8_nth0_123 : decode cX8_nth0 123 = .ok (.isub, 1) := by decide +kernel
theorem dX8_nth0_124 : decode cX8_nth0 124 = .ok (.lload 4, 2) := by decide +kernel
theorem dX8_nth0_126 : decode cX8_nth0 126 = .ok (.invokevirtual 233, 3) := by decide +kernel
theorem dX8_nth0_129 : decode cX8_nth0 129 = .ok (.return_, 1) := by decide +kernel
theorem dX8_nth0_130 : decode cX8_nth0 130 = .ok (.lload 4, 2) := by decide +kernel
theorem dX8_nth0_132 : decode cX8_nth0 132 = .ok (.lload 6, 2) := by decide +kernel
theorem dX8_nth0_134 : decode cX8_nth0 134 = .ok (.lsub, 1) := by decide +kernel
theorem dX8_nth0_135 : decode cX8_nth0 135 = .ok (.lstore 4, 2) := by decide +kernel
theorem dX8_nth0_137 : decode cX8_nth0 137 = .ok (.iinc 8 1, 3) := by decide +kernel
theorem dX8_nth0_140 : decode cX8_nth0 140 = .ok (.goto (-42), 3) := by decide +kernel
theorem dX8_nth0_143 : decode cX8_nth0 143 = .ok (.aload_n 0, 1) := by decide +kernel
theorem dX8_nth0_144 : decode cX8_nth0 144 = .ok (.bipush 8, 2) := by decide +kernel
theorem dX8_nth0_146 : decode cX8_nth0 146 = .ok (.iconst 0, 1) := by decide +kernel
theorem dX8_nth0_147 : decode cX8_nth0 147 = .ok (.invokevirtual 229, 3) := by decide +kernel
theorem dX8_nth0_150 : decode cX8_nth0 150 = .ok (.iconst 1, 1) := by decide +kernel
theorem dX8_nth0_151 : decode cX8_nth0 151 = .ok (.istore 8, 2) := by decide +kernel
theorem dX8_nth0_153 : decode cX8_nth0 153 = .ok (.lload 4, 2) := by decide +kernel
theorem dX8_nth0_155 : decode cX8_nth0 155 = .ok (.aload_n 0, 1) := by decide +kernel
theorem dX8_nth0_156 : decode cX8_nth0 156 = .ok (.getfield 43, 3) := by decide +kernel
theorem dX8_nth0_159 : decode cX8_nth0 159 = .ok (.iload 8, 2) := by decide +kernel
theorem dX8_nth0_161 : decode cX8_nth0 161 = .ok (.laload, 1) := by decide +kernel
theorem dX8_nth0_162 : decode cX8_nth0 162 = .ok (.aload_n 0, 1) := by decide +kernel
theorem dX8_nth0_163 : decode cX8_nth0 163 = .ok (.iload_n 1, 1) := by decide +kernel
theorem dX8_nth0_164 : decode cX8_nth0 164 = .ok (.iconst 1, 1) := by decide +kernel
theorem dX8_nth0_165 : decode cX8_nth0 165 = .ok (.isub, 1) := by decide +kernel
theorem dX8_nth0_166 : decode cX8_nth0 166 = .ok (.iload 8, 2) := by decide +kernel
theorem dX8_nth0_168 : decode cX8_nth0 168 = .ok (.isub, 1) := by decide +kernel
theorem dX8_nth0_169 : decode cX8_nth0 169 = .ok (.invokevirtual 212, 3) := by decide +kernel
theorem dX8_nth0_172 : decode cX8_nth0 172 = .ok (.lmul, 1) := by decide +kernel
theorem dX8_nth0_173 : decode cX8_nth0 173 = .ok (.lcmp, 1) := by decide +kernel
theorem dX8_nth0_174 : decode cX8_nth0 174 = .ok (.ifCond .lt 32, 3) := by decide +kernel
theorem dX8_nth0_177 : decode cX8_nth0 177 = .ok (.lload 4, 2) := by decide +kernel
theorem dX8_nth0_179 : decode cX8_nth0 179 = .ok (.aload_n 0, 1) := by decide +kernel
theorem dX8_nth0_180 : decode cX8_nth0 180 = .ok (.getfield 43, 3) := by decide +kernel
theorem dX8_nth0_183 : decode cX8_nth0 183 = .ok (.iload 8, 2) := by decide +kernel
theorem dX8_nth0_185 : decode cX8_nth0 185 = .ok (.laload, 1) := by decide +kernel
theorem dX8_nth0_186 : decode cX8_nth0 186 = .ok (.aload_n 0, 1) := by decide +kernel
theorem dX8_nth0_187 : decode cX8_nth0 187 = .ok (.iload_n 1, 1) := by decide +kernel
theorem dX8_nth0_188 : decode cX8_nth0 188 = .ok (.iconst 1, 1) := by decide +kernel
theorem dX8_nth0_189 : decode cX8_nth0 189 = .ok (.isub, 1) := by decide +kernel
theorem dX8_nth0_190 : decode cX8_nth0 190 = .ok (.iload 8, 2) := by decide +kernel
theorem dX8_nth0_192 : decode cX8_nth0 192 = .ok (.isub, 1) := by decide +kernel
theorem dX8_nth0_193 : decode cX8_nth0 193 = .ok (.invokevirtual 212, 3) := by decide +kernel
theorem dX8_nth0_196 : decode cX8_nth0 196 = .ok (.lmul, 1) := by decide +kernel
theorem dX8_nth0_197 : decode cX8_nth0 197 = .ok (.lsub, 1) := by decide +kernel
theorem dX8_nth0_198 : decode cX8_nth0 198 = .ok (.lstore 4, 2) := by decide +kernel
theorem dX8_nth0_200 : decode cX8_nth0 200 = .ok (.iinc 8 1, 3) := by decide +kernel
theorem dX8_nth0_203 : decode cX8_nth0 203 = .ok (.goto (-50), 3) := by decide +kernel
theorem dX8_nth0_206 : decode cX8_nth0 206 = .ok (.aload_n 0, 1) := by decide +kernel
theorem dX8_nth0_207 : decode cX8_nth0 207 = .ok (.iload_n 1, 1) := by decide +kernel
theorem dX8_nth0_208 : decode cX8_nth0 208 = .ok (.iconst 1, 1) := by decide +kernel
theorem dX8_nth0_209 : decode cX8_nth0 209 = .ok (.isub, 1) := by decide +kernel
theorem dX8_nth0_210 : decode cX8_nth0 210 = .ok (.iload 8, 2) := by decide +kernel
theorem dX8_nth0_212 : decode cX8_nth0 212 = .ok (.isub, 1) := by decide +kernel
theorem dX8_nth0_213 : decode cX8_nth0 213 = .ok (.invokevirtual 212, 3) := by decide +kernel
theorem dX8_nth0_216 : decode cX8_nth0 216 = .ok (.lstore 9, 2) := by decide +kernel
theorem dX8_nth0_218 : decode cX8_nth0 218 = .ok (.aload_n 0, 1) := by decide +kernel
theorem dX8_nth0_219 : decode cX8_nth0 219 = .ok (.iload 8, 2) := by decide +kernel
theorem dX8_nth0_221 : decode cX8_nth0 221 = .ok (.lload 4, 2) := by decide +kernel
theorem dX8_nth0_223 : decode cX8_nth0 223 = .ok (.lload 9, 2) := by decide +kernel
theorem dX8_nth0_225 : decode cX8_nth0 225 = .ok (.ldiv, 1) := by decide +kernel
theorem dX8_nth0_226 : decode cX8_nth0 226 = .ok (.invokevirtual 223, 3) := by decide +kernel
theorem dX8_nth0_229 : decode cX8_nth0 229 = .ok (.aload_n 0, 1) := by decide +kernel
theorem dX8_nth0_230 : decode cX8_nth0 230 = .ok (.iload_n 1, 1) := by decide +kernel
theorem dX8_nth0_231 : decode cX8_nth0 231 = .ok (.iconst 1, 1) := by decide +kernel
theorem dX8_nth0_232 : decode cX8_nth0 232 = .ok (.isub, 1) := by decide +kernel
theorem dX8_nth0_233 : decode cX8_nth0 233 = .ok (.iload 8, 2) := by decide +kernel
theorem dX8_nth0_235 : decode cX8_nth0 235 = .ok (.isub, 1) := by decide +kernel
theorem dX8_nth0_236 : decode cX8_nth0 236 = .ok (.lload 4, 2) := by decide +kernel
theorem dX8_nth0_238 : decode cX8_nth0 238 = .ok (.lload 9, 2) := by decide +kernel
theorem dX8_nth0_240 : decode cX8_nth0 240 = .ok (.lrem, 1) := by decide +kernel
theorem dX8_nth0_241 : decode cX8_nth0 241 = .ok (.invokevirtual 233, 3) := by decide +kernel
theorem dX8_nth0_244 : decode cX8_nth0 244 = .ok (.return_, 1) := by decide +kernel
theorem dX8_nth_0 : decode cX8_nth 0 = .ok (.iload_n 1, 1) := by decide +kernel
theorem dX8_nth_1 : decode cX8_nth 1 = .ok (.invokestatic 181, 3) := by decide +kernel
theorem dX8_nth_4 : decode cX8_nth 4 = .ok (.ifCond .eq 15, 3) := by decide +kernel
theorem dX8_nth_7 : decode cX8_nth 7 = .ok (.iload_n 2, 1) := by decide +kernel
theorem dX8_nth_8 : decode cX8_nth 8 = .ok (.i2l, 1) := by decide +kernel
theorem dX8_nth_9 : decode cX8_nth 9 = .ok (.lconst 1, 1) := by decide +kernel
theorem dX8_nth_10 : decode cX8_nth 10 = .ok (.ldc2_w 216, 3) := by decide +kernel
theorem dX8_nth_13 : decode cX8_nth 13 = .ok (.invokestatic 177, 3) := by decide +kernel
theorem dX8_nth_16 : decode cX8_nth 16 = .ok (.ifCond .ne 5, 3) := by decide +kernel
theorem dX8_nth_19 : decode cX8_nth 19 = .ok (.iconst (-1), 1) := by decide +kernel
theorem dX8_nth_20 : decode cX8_nth 20 = .ok (.ireturn, 1) := by decide +kernel
theorem dX8_nth_21 : decode cX8_nth 21 = .ok (.aload_n 0, 1) := by decide +kernel
theorem dX8_nth_22 : decode cX8_nth 22 = .ok (.invokevirtual 220, 3) := by decide +kernel
theorem dX8_nth_25 : decode cX8_nth 25 = .ok (.lload_n 3, 1) := by decide +kernel
theorem dX8_nth_26 : decode cX8_nth 26 = .ok (.lconst 0, 1) := by decide +kernel
theorem dX8_nth_27 : decode cX8_nth 27 = .ok (.aload_n 0, 1) := by decide +kernel
theorem dX8_nth_28 : decode cX8_nth 28 = .ok (.getfield 43, 3) := by decide +kernel
theorem dX8_nth_31 : decode cX8_nth 31 = .ok (.iload_n 2, 1) := by decide +kernel
theorem dX8_nth_32 : decode cX8_nth 32 = .ok (.laload, 1) := by decide +kernel
theorem dX8_nth_33 : decode cX8_nth 33 = .ok (.lconst 1, 1) := by decide +kernel
theorem dX8_nth_34 : decode cX8_nth 34 = .ok (.lsub, 1) := by decide +kernel
theorem dX8_nth_35 : decode cX8_nth 35 = .ok (.invokestatic 177, 3) := by decide +kernel
theorem dX8_nth_38 : decode cX8_nth 38 = .ok (.ifCond .ne 5, 3) := by decide +kernel
theorem dX8_nth_41 : decode cX8_nth 41 = .ok (.iconst (-1), 1) := by decide +kernel
theorem dX8_nth_42 : decode cX8_nth 42 = .ok (.ireturn, 1) := by decide +kernel
theorem dX8_nth_43 : decode cX8_nth 43 = .ok (.aload_n 0, 1) := by decide +kernel
theorem dX8_nth_44 : decode cX8_nth 44 = .ok (.iconst 0, 1) := by decide +kernel
theorem dX8_nth_45 : decode cX8_nth 45 = .ok (.putfield 185, 3) := by decide +kernel
theorem dX8_nth_48 : decode cX8_nth 48 = .ok (.aload_n 0, 1) := by decide +kernel
theorem dX8_nth_49 : decode cX8_nth 49 = .ok (.iload_n 2, 1) := by decide +kernel
theorem dX8_nth_50 : decode cX8_nth 50 = .ok (.lload_n 3, 1) := by decide +kernel
theorem dX8_nth_51 : decode cX8_nth 51 = .ok (.invokevirtual 223, 3) := by decide +kernel
theorem dX8_nth_54 : decode cX8_nth 54 = .ok (.aload_n 0, 1) := by decide +kernel
theorem dX8_nth_55 : decode cX8_nth 55 = .ok (.iload_n 1, 1) := by decide +kernel
theorem dX8_nth_56 : decode cX8_nth 56 = .ok (.invokevirtual 236, 3) := by decide +kernel
theorem dX8_nth_59 : decode cX8_nth 59 = .ok (.ireturn, 1) := by decide +kernel
theorem dX8_pairRank_0 : decode cX8_pairRank 0 = .ok (.aload_n 0, 1) := by decide +kernel
theorem dX8_pairRank_1 : decode cX8_pairRank 1 = .ok (.getfield 25, 3) := by decide +kernel
theorem dX8_pairRank_4 : decode cX8_pairRank 4 = .ok (.iload_n 1, 1) := by decide +kernel
theorem dX8_pairRank_5 : decode cX8_pairRank 5 = .ok (.iaload, 1) := by decide +kernel
theorem dX8_pairRank_6 : decode cX8_pairRank 6 = .ok (.aload_n 0, 1) := by decide +kernel
theorem dX8_pairRank_7 : decode cX8_pairRank 7 = .ok (.getfield 25, 3) := by decide +kernel
theorem dX8_pairRank_10 : decode cX8_pairRank 10 = .ok (.iload_n 2, 1) := by decide +kernel
theorem dX8_pairRank_11 : decode cX8_pairRank 11 = .ok (.iaload, 1) := by decide +kernel
theorem dX8_pairRank_12 : decode cX8_pairRank 12 = .ok (.iadd, 1) := by decide +kernel
theorem dX8_pairRank_13 : decode cX8_pairRank 13 = .ok (.istore_n 3, 1) := by decide +kernel
theorem dX8_pairRank_14 : decode cX8_pairRank 14 = .ok (.lconst 0, 1) := by decide +kernel
theorem dX8_pairRank_15 : decode cX8_pairRank 15 = .ok (.lstore 4, 2) := by decide +kernel
theorem dX8_pairRank_17 : decode cX8_pairRank 17 = .ok (.iconst 1, 1) := by decide +kernel
theorem dX8_pairRank_18 : decode cX8_pairRank 18 = .ok (.istore 6, 2) := by decide +kernel
theorem dX8_pairRank_20 : decode cX8_pairRank 20 = .ok (.iload 6, 2) := by decide +kernel
theorem dX8_pairRank_22 : decode cX8_pairRank 22 = .ok (.aload_n 0, 1) := by decide +kernel
theorem dX8_pairRank_23 : decode cX8_pairRank 23 = .ok (.getfield 25, 3) := by decide +kernel
theorem dX8_pairRank_26 : decode cX8_pairRank 26 = .ok (.iload_n 1, 1) := by decide +kernel
theorem dX8_pairRank_27 : decode cX8_pairRank 27 = .ok (.iaload, 1) := by decide +kernel
theorem dX8_pairRank_28 : decode cX8_pairRank 28 = .ok (.if_icmp .ge 31, 3) := by decide +kernel
theorem dX8_pairRank_31 : decode cX8_pairRank 31 = .ok (.lload 4, 2) := by decide +kernel
theorem dX8_pairRank_33 : decode cX8_pairRank 33 = .ok (.aload_n 0, 1) := by decide +kernel
theorem dX8_pairRank_34 : decode cX8_pairRank 34 = .ok (.getfield 43, 3) := by decide +kernel
theorem dX8_pairRank_37 : decode cX8_pairRank 37 = .ok (.iload 6, 2) := by decide +kernel
theorem dX8_pairRank_39 : decode cX8_pairRank 39 = .ok (.laload, 1) := by decide +kernel
theorem dX8_pairRank_40 : decode cX8_pairRank 40 = .ok (.aload_n 0, 1) := by decide +kernel
theorem dX8_pairRank_41 : decode cX8_pairRank 41 = .ok (.getfield 43, 3) := by decide +kernel
theorem dX8_pairRank_44 : decode cX8_pairRank 44 = .ok (.iload_n 3, 1) := by decide +kernel
theorem dX8_pairRank_45 : decode cX8_pairRank 45 = .ok (.iload 6, 2) := by decide +kernel
theorem dX8_pairRank_47 : decode cX8_pairRank 47 = .ok (.isub, 1) := by decide +kernel
theorem dX8_pairRank_48 : decode cX8_pairRank 48 = .ok (.laload, 1) := by decide +kernel
theorem dX8_pairRank_49 : decode cX8_pairRank 49 = .ok (.lmul, 1) := by decide +kernel
theorem dX8_pairRank_50 : decode cX8_pairRank 50 = .ok (.ladd, 1) := by decide +kernel
theorem dX8_pairRank_51 : decode cX8_pairRank 51 = .ok (.lstore 4, 2) := by decide +kernel
theorem dX8_pairRank_53 : decode cX8_pairRank 53 = .ok (.iinc 6 1, 3) := by decide +kernel
theorem dX8_pairRank_56 : decode cX8_pairRank 56 = .ok (.goto (-36), 3) := by decide +kernel
theorem dX8_pairRank_59 : decode cX8_pairRank 59 = .ok (.lload 4, 2) := by decide +kernel
theorem dX8_pairRank_61 : decode cX8_pairRank 61 = .ok (.aload_n 0, 1) := by decide +kernel
theorem dX8_pairRank_62 : decode cX8_pairRank 62 = .ok (.iload_n 1, 1) := by decide +kernel
theorem dX8_pairRank_63 : decode cX8_pairRank 63 = .ok (.invokevirtual 239, 3) := by decide +kernel
theorem dX8_pairRank_66 : decode cX8_pairRank 66 = .ok (.aload_n 0, 1) := by decide +kernel
theorem dX8_pairRank_67 : decode cX8_pairRank 67 = .ok (.getfield 43, 3) := by decide +kernel
theorem dX8_pairRank_70 : decode cX8_pairRank 70 = .ok (.aload_n 0, 1) := by decide +kernel
theorem dX8_pairRank_71 : decode cX8_pairRank 71 = .ok (.getfield 25, 3) := by decide +kernel
theorem dX8_pairRank_74 : decode cX8_pairRank 74 = .ok (.iload_n 2, 1) := by decide +kernel
theorem dX8_pairRank_75 : decode cX8_pairRank 75 = .ok (.iaload, 1) := by decide +kernel
theorem dX8_pairRank_76 : decode cX8_pairRank 76 = .ok (.laload, 1) := by decide +kernel
theorem dX8_pairRank_77 : decode cX8_pairRank 77 = .ok (.lmul, 1) := by decide +kernel
theorem dX8_pairRank_78 : decode cX8_pairRank 78 = .ok (.ladd, 1) := by decide +kernel
theorem dX8_pairRank_79 : decode cX8_pairRank 79 = .ok (.aload_n 0, 1) := by decide +kernel
theorem dX8_pairRank_80 : decode cX8_pairRank 80 = .ok (.iload_n 2, 1) := by decide +kernel
theorem dX8_pairRank_81 : decode cX8_pairRank 81 = .ok (.invokevirtual 239, 3) := by decide +kernel
theorem dX8_pairRank_84 : decode cX8_pairRank 84 = .ok (.ladd, 1) := by decide +kernel
theorem dX8_pairRank_85 : decode cX8_pairRank 85 = .ok (.lreturn, 1) := by decide +kernel
theorem dX8_rank_0 : decode cX8_rank 0 = .ok (.aload_n 0, 1) := by decide +kernel
theorem dX8_rank_1 : decode cX8_rank 1 = .ok (.getfield 25, 3) := by decide +kernel
theorem dX8_rank_4 : decode cX8_rank 4 = .ok (.iload_n 1, 1) := by decide +kernel
theorem dX8_rank_5 : decode cX8_rank 5 = .ok (.iaload, 1) := by decide +kernel
theorem dX8_rank_6 : decode cX8_rank 6 = .ok (.istore_n 2, 1) := by decide +kernel
theorem dX8_rank_7 : decode cX8_rank 7 = .ok (.iload_n 2, 1) := by decide +kernel
theorem dX8_rank_8 : decode cX8_rank 8 = .ok (.iconst 1, 1) := by decide +kernel
theorem dX8_rank_9 : decode cX8_rank 9 = .ok (.if_icmp .ne 32, 3) := by decide +kernel
theorem dX8_rank_12 : decode cX8_rank 12 = .ok (.aload_n 0, 1) := by decide +kernel
theorem dX8_rank_13 : decode cX8_rank 13 = .ok (.getfield 7, 3) := by decide +kernel
theorem dX8_rank_16 : decode cX8_rank 16 = .ok (.iload_n 1, 1) := by decide +kernel
theorem dX8_rank_17 : decode cX8_rank 17 = .ok (.iaload, 1) := by decide +kernel
theorem dX8_rank_18 : decode cX8_rank 18 = .ok (.ifCond .ne 13, 3) := by decide +kernel
theorem dX8_rank_21 : decode cX8_rank 21 = .ok (.aload_n 0, 1) := by decide +kernel
theorem dX8_rank_22 : decode cX8_rank 22 = .ok (.getfield 13, 3) := by decide +kernel
theorem dX8_rank_25 : decode cX8_rank 25 = .ok (.iload_n 1, 1) := by decide +kernel
theorem dX8_rank_26 : decode cX8_rank 26 = .ok (.iaload, 1) := by decide +kernel
theorem dX8_rank_27 : decode cX8_rank 27 = .ok (.i2l, 1) := by decide +kernel
theorem dX8_rank_28 : decode cX8_rank 28 = .ok (.goto 12, 3) := by decide +kernel
theorem dX8_rank_31 : decode cX8_rank 31 = .ok (.aload_n 0, 1) := by decide +kernel
theorem dX8_rank_32 : decode cX8_rank 32 = .ok (.getfield 7, 3) := by decide +kernel
theorem dX8_rank_35 : decode cX8_rank 35 = .ok (.iload_n 1, 1) := by decide +kernel
theorem dX8_rank_36 : decode cX8_rank 36 = .ok (.iaload, 1) := by decide +kernel
theorem dX8_rank_37 : decode cX8_rank 37 = .ok (.iconst 2, 1) := by decide +kernel
theorem dX8_rank_38 : decode cX8_rank 38 = .ok (.iadd, 1) := by decide +kernel
theorem dX8_rank_39 : decode cX8_rank 39 = .ok (.i2l, 1) := by decide +kernel
theorem dX8_rank_40 : decode cX8_rank 40 = .ok (.lreturn, 1) := by decide +kernel
theorem dX8_rank_41 : decode cX8_rank 41 = .ok (.aload_n 0, 1) := by decide +kernel
theorem dX8_rank_42 : decode cX8_rank 42 = .ok (.getfield 7, 3) := by decide +kernel
theorem dX8_rank_45 : decode cX8_rank 45 = .ok (.iload_n 1, 1) := by decide +kernel
theorem dX8_rank_46 : decode cX8_rank 46 = .ok (.iaload, 1) := by decide +kernel
theorem dX8_rank_47 : decode cX8_rank 47 = .ok (.iconst 3, 1) := by decide +kernel
theorem dX8_rank_48 : decode cX8_rank 48 = .ok (.if_icmp .ne 14, 3) := by decide +kernel
theorem dX8_rank_51 : decode cX8_rank 51 = .ok (.aload_n 0, 1) := by decide +kernel
theorem dX8_rank_52 : decode cX8_rank 52 = .ok (.aload_n 0, 1) := by decide +kernel
theorem dX8_rank_53 : decode cX8_rank 53 = .ok (.getfield 16, 3) := by decide +kernel
theorem dX8_rank_56 : decode cX8_rank 56 = .ok (.iload_n 1, 1) := by decide +kernel
theorem dX8_rank_57 : decode cX8_rank 57 = .ok (.iaload, 1) := by decide +kernel
theorem dX8_rank_58 : decode cX8_rank 58 = .ok (.invokevirtual 239, 3) := by decide +kernel
theorem dX8_rank_61 : decode cX8_rank 61 = .ok (.lreturn, 1) := by decide +kernel
theorem dX8_rank_62 : decode cX8_rank 62 = .ok (.aload_n 0, 1) := by decide +kernel
theorem dX8_rank_63 : decode cX8_rank 63 = .ok (.getfield 43, 3) := by decide +kernel
theorem dX8_rank_66 : decode cX8_rank 66 = .ok (.iload_n 2, 1) := by decide +kernel
theorem dX8_rank_67 : decode cX8_rank 67 = .ok (.iconst 1, 1) := by decide +kernel
theorem dX8_rank_68 : decode cX8_rank 68 = .ok (.isub, 1) := by decide +kernel
theorem dX8_rank_69 : decode cX8_rank 69 = .ok (.laload, 1) := by decide +kernel
theorem dX8_rank_70 : decode cX8_rank 70 = .ok (.lstore_n 3, 1) := by decide +kernel
theorem dX8_rank_71 : decode cX8_rank 71 = .ok (.aload_n 0, 1) := by decide +kernel
theorem dX8_rank_72 : decode cX8_rank 72 = .ok (.getfield 7, 3) := by decide +kernel
theorem dX8_rank_75 : decode cX8_rank 75 = .ok (.iload_n 1, 1) := by decide +kernel
theorem dX8_rank_76 : decode cX8_rank 76 = .ok (.iaload, 1) := by decide +kernel
theorem dX8_rank_77 : decode cX8_rank 77 = .ok (.bipush 8, 2) := by decide +kernel
theorem dX8_rank_79 : decode cX8_rank 79 = .ok (.if_icmp .eq 40, 3) := by decide +kernel
theorem dX8_rank_82 : decode cX8_rank 82 = .ok (.lload_n 3, 1) := by decide +kernel
theorem dX8_rank_83 : decode cX8_rank 83 = .ok (.aload_n 0, 1) := by decide +kernel
theorem dX8_rank_84 : decode cX8_rank 84 = .ok (.getfield 7, 3) := by decide +kernel
theorem dX8_rank_87 : decode cX8_rank 87 = .ok (.iload_n 1, 1) := by decide +kernel
theorem dX8_rank_88 : decode cX8_rank 88 = .ok (.iaload, 1) := by decide +kernel
theorem dX8_rank_89 : decode cX8_rank 89 = .ok (.iconst 4, 1) := by decide +kernel
theorem dX8_rank_90 : decode cX8_rank 90 = .ok (.isub, 1) := by decide +kernel
theorem dX8_rank_91 : decode cX8_rank 91 = .ok (.i2l, 1) := by decide +kernel
theorem dX8_rank_92 : decode cX8_rank 92 = .ok (.aload_n 0, 1) := by decide +kernel
theorem dX8_rank_93 : decode cX8_rank 93 = .ok (.iload_n 2, 1) := by decide +kernel
theorem dX8_rank_94 : decode cX8_rank 94 = .ok (.iconst 1, 1) := by decide +kernel
theorem dX8_rank_95 : decode cX8_rank 95 = .ok (.isub, 1) := by decide +kernel
theorem dX8_rank_96 : decode cX8_rank 96 = .ok (.invokevirtual 212, 3) := by decide +kernel
theorem dX8_rank_99 : decode cX8_rank 99 = .ok (.lmul, 1) := by decide +kernel
theorem dX8_rank_100 : decode cX8_rank 100 = .ok (.ladd, 1) := by decide +kernel
theorem dX8_rank_101 : decode cX8_rank 101 = .ok (.aload_n 0, 1) := by decide +kernel
theorem dX8_rank_102 : decode cX8_rank 102 = .ok (.aload_n 0, 1) := by decide +kernel
theorem dX8_rank_103 : decode cX8_rank 103 = .ok (.getfield 16, 3) := by decide +kernel
theorem dX8_rank_106 : decode cX8_rank 106 = .ok (.iload_n 1, 1) := by decide +kernel
theorem dX8_rank_107 : decode cX8_rank 107 = .ok (.iaload, 1) := by decide +kernel
theorem dX8_rank_108 : decode cX8_rank 108 = .ok (.aload_n 0, 1) := by decide +kernel
theorem dX8_rank_109 : decode cX8_rank 109 = .ok (.getfield 19, 3) := by decide +kernel
theorem dX8_rank_112 : decode cX8_rank 112 = .ok (.iload_n 1, 1) := by decide +kernel
theorem dX8_rank_113 : decode cX8_rank 113 = .ok (.iaload, 1) := by decide +kernel
theorem dX8_rank_114 : decode cX8_rank 114 = .ok (.invokevirtual 242, 3) := by decide +kernel
theorem dX8_rank_117 : decode cX8_rank 117 = .ok (.ladd, 1) := by decide +kernel
theorem dX8_rank_118 : decode cX8_rank 118 = .ok (.lreturn, 1) := by decide +kernel
theorem dX8_rank_119 : decode cX8_rank 119 = .ok (.lload_n 3, 1) := by decide +kernel
theorem dX8_rank_120 : decode cX8_rank 120 = .ok (.ldc2_w 210, 3) := by decide +kernel
theorem dX8_rank_123 : decode cX8_rank 123 = .ok (.aload_n 0, 1) := by decide +kernel
theorem dX8_rank_124 : decode cX8_rank 124 = .ok (.iload_n 2, 1) := by decide +kernel
theorem dX8_rank_125 : decode cX8_rank 125 = .ok (.iconst 1, 1) := by decide +kernel
theorem dX8_rank_126 : decode cX8_rank 126 = .ok (.isub, 1) := by decide +kernel
theorem dX8_rank_127 : decode cX8_rank 127 = .ok (.invokevirtual 212, 3) := by decide +kernel
theorem dX8_rank_130 : decode cX8_rank 130 = .ok (.lmul, 1) := by decide +kernel
theorem dX8_rank_131 : decode cX8_rank 131 = .ok (.ladd, 1) := by decide +kernel
theorem dX8_rank_132 : decode cX8_rank 132 = .ok (.lstore_n 3, 1) := by decide +kernel
theorem dX8_rank_133 : decode cX8_rank 133 = .ok (.iconst 1, 1) := by decide +kernel
theorem dX8_rank_134 : decode cX8_rank 134 = .ok (.istore 5, 2) := by decide +kernel
theorem dX8_rank_136 : decode cX8_rank 136 = .ok (.iload 5, 2) := by decide +kernel
theorem dX8_rank_138 : decode cX8_rank 138 = .ok (.aload_n 0, 1) := by decide +kernel
theorem dX8_rank_139 : decode cX8_rank 139 = .ok (.getfield 25, 3) := by decide +kernel
theorem dX8_rank_142 : decode cX8_rank 142 = .ok (.aload_n 0, 1) := by decide +kernel
theorem dX8_rank_143 : decode cX8_rank 143 = .ok (.getfield 16, 3) := by decide +kernel
theorem dX8_rank_146 : decode cX8_rank 146 = .ok (.iload_n 1, 1) := by decide +kernel
theorem dX8_rank_147 : decode cX8_rank 147 = .ok (.iaload, 1) := by decide +kernel
theorem dX8_rank_148 : decode cX8_rank 148 = .ok (.iaload, 1) := by decide +kernel
theorem dX8_rank_149 : decode cX8_rank 149 = .ok (.if_icmp .ge 30, 3) := by decide +kernel
theorem dX8_rank_152 : decode cX8_rank 152 = .ok (.lload_n 3, 1) := by decide +kernel
theorem dX8_rank_153 : decode cX8_rank 153 = .ok (.aload_n 0, 1) := by decide +kernel
theorem dX8_rank_154 : decode cX8_rank 154 = .ok (.getfield 43, 3) := by decide +kernel
theorem dX8_rank_157 : decode cX8_rank 157 = .ok (.iload 5, 2) := by decide +kernel
theorem dX8_rank_159 : decode cX8_rank 159 = .ok (.laload, 1) := by decide +kernel
theorem dX8_rank_160 : decode cX8_rank 160 = .ok (.aload_n 0, 1) := by decide +kernel
theorem dX8_rank_161 : decode cX8_rank 161 = .ok (.iload_n 2, 1) := by decide +kernel
theorem dX8_rank_162 : decode cX8_rank 162 = .ok (.iconst 1, 1) := by decide +kernel
theorem dX8_rank_163 : decode cX8_rank 163 = .ok (.isub, 1) := by decide +kernel
theorem dX8_rank_164 : decode cX8_rank 164 = .ok (.iload 5, 2) := by decide +kernel
theorem dX8_rank_166 : decode cX8_rank 166 = .ok (.isub, 1) := by decide +kernel
theorem dX8_rank_167 : decode cX8_rank 167 = .ok (.invokevirtual 212, 3) := by decide +kernel
theorem dX8_rank_170 : decode cX8_rank 170 = .ok (.lmul, 1) := by decide +kernel
theorem dX8_rank_171 : decode cX8_rank 171 = .ok (.ladd, 1) := by decide +kernel
theorem dX8_rank_172 : decode cX8_rank 172 = .ok (.lstore_n 3, 1) := by decide +kernel
theorem dX8_rank_173 : decode cX8_rank 173 = .ok (.iinc 5 1, 3) := by decide +kernel
theorem dX8_rank_176 : decode cX8_rank 176 = .ok (.goto (-40), 3) := by decide +kernel
theorem dX8_rank_179 : decode cX8_rank 179 = .ok (.lload_n 3, 1) := by decide +kernel
theorem dX8_rank_180 : decode cX8_rank 180 = .ok (.aload_n 0, 1) := by decide +kernel
theorem dX8_rank_181 : decode cX8_rank 181 = .ok (.aload_n 0, 1) := by decide +kernel
theorem dX8_rank_182 : decode cX8_rank 182 = .ok (.getfield 16, 3) := by decide +kernel
theorem dX8_rank_185 : decode cX8_rank 185 = .ok (.iload_n 1, 1) := by decide +kernel
theorem dX8_rank_186 : decode cX8_rank 186 = .ok (.iaload, 1) := by decide +kernel
theorem dX8_rank_187 : decode cX8_rank 187 = .ok (.invokevirtual 239, 3) := by decide +kernel
theorem dX8_rank_190 : decode cX8_rank 190 = .ok (.aload_n 0, 1) := by decide +kernel
theorem dX8_rank_191 : decode cX8_rank 191 = .ok (.iload_n 2, 1) := by decide +kernel
theorem dX8_rank_192 : decode cX8_rank 192 = .ok (.iconst 1, 1) := by decide +kernel
theorem dX8_rank_193 : decode cX8_rank 193 = .ok (.isub, 1) := by decide +kernel
theorem dX8_rank_194 : decode cX8_rank 194 = .ok (.aload_n 0, 1) := by decide +kernel
theorem dX8_rank_195 : decode cX8_rank 195 = .ok (.getfield 25, 3) := by decide +kernel
theorem dX8_rank_198 : decode cX8_rank 198 = .ok (.aload_n 0, 1) := by decide +kernel
theorem dX8_rank_199 : decode cX8_rank 199 = .ok (.getfield 16, 3) := by decide +kernel
theorem dX8_rank_202 : decode cX8_rank 202 = .ok (.iload_n 1, 1) := by decide +kernel
theorem dX8_rank_203 : decode cX8_rank 203 = .ok (.iaload, 1) := by decide +kernel
theorem dX8_rank_204 : decode cX8_rank 204 = .ok (.iaload, 1) := by decide +kernel
theorem dX8_rank_205 : decode cX8_rank 205 = .ok (.isub, 1) := by decide +kernel
theorem dX8_rank_206 : decode cX8_rank 206 = .ok (.invokevirtual 212, 3) := by decide +kernel
theorem dX8_rank_209 : decode cX8_rank 209 = .ok (.lmul, 1) := by decide +kernel
theorem dX8_rank_210 : decode cX8_rank 210 = .ok (.ladd, 1) := by decide +kernel
theorem dX8_rank_211 : decode cX8_rank 211 = .ok (.aload_n 0, 1) := by decide +kernel
theorem dX8_rank_212 : decode cX8_rank 212 = .ok (.aload_n 0, 1) := by decide +kernel
theorem dX8_rank_213 : decode cX8_rank 213 = .ok (.getfield 19, 3) := by decide +kernel
theorem dX8_rank_216 : decode cX8_rank 216 = .ok (.iload_n 1, 1) := by decide +kernel
theorem dX8_rank_217 : decode cX8_rank 217 = .ok (.iaload, 1) := by decide +kernel
theorem dX8_rank_218 : decode cX8_rank 218 = .ok (.aload_n 0, 1) := by decide +kernel
theorem dX8_rank_219 : decode cX8_rank 219 = .ok (.getfield 22, 3) := by decide +kernel
theorem dX8_rank_222 : decode cX8_rank 222 = .ok (.iload_n 1, 1) := by decide +kernel
theorem dX8_rank_223 : decode cX8_rank 223 = .ok (.iaload, 1) := by decide +kernel
theorem dX8_rank_224 : decode cX8_rank 224 = .ok (.invokevirtual 242, 3) := by decide +kernel
theorem dX8_rank_227 : decode cX8_rank 227 = .ok (.ladd, 1) := by decide +kernel
theorem dX8_rank_228 : decode cX8_rank 228 = .ok (.lreturn, 1) := by decide +kernel
theorem dX8_number_0 : decode cX8_number 0 = .ok (.aload_n 0, 1) := by decide +kernel
theorem dX8_number_1 : decode cX8_number 1 = .ok (.iload_n 1, 1) := by decide +kernel
theorem dX8_number_2 : decode cX8_number 2 = .ok (.invokevirtual 246, 3) := by decide +kernel
theorem dX8_number_5 : decode cX8_number 5 = .ok (.ifCond .ne 7, 3) := by decide +kernel
theorem dX8_number_8 : decode cX8_number 8 = .ok (.ldc2_w 218, 3) := by decide +kernel
theorem dX8_number_11 : decode cX8_number 11 = .ok (.lreturn, 1) := by decide +kernel
theorem dX8_number_12 : decode cX8_number 12 = .ok (.aload_n 0, 1) := by decide +kernel
theorem dX8_number_13 : decode cX8_number 13 = .ok (.iload_n 1, 1) := by decide +kernel
theorem dX8_number_14 : decode cX8_number 14 = .ok (.invokevirtual 198, 3) := by decide +kernel
theorem dX8_number_17 : decode cX8_number 17 = .ok (.aload_n 0, 1) := by decide +kernel
theorem dX8_number_18 : decode cX8_number 18 = .ok (.getfield 185, 3) := by decide +kernel
theorem dX8_number_21 : decode cX8_number 21 = .ok (.bipush 15, 2) := by decide +kernel
theorem dX8_number_23 : decode cX8_number 23 = .ok (.if_icmp .le 7, 3) := by decide +kernel
theorem dX8_number_26 : decode cX8_number 26 = .ok (.ldc2_w 249, 3) := by decide +kernel
theorem dX8_number_29 : decode cX8_number 29 = .ok (.lreturn, 1) := by decide +kernel
theorem dX8_number_30 : decode cX8_number 30 = .ok (.iconst 0, 1) := by decide +kernel
theorem dX8_number_31 : decode cX8_number 31 = .ok (.istore_n 2, 1) := by decide +kernel
theorem dX8_number_32 : decode cX8_number 32 = .ok (.iload_n 2, 1) := by decide +kernel
theorem dX8_number_33 : decode cX8_number 33 = .ok (.aload_n 0, 1) := by decide +kernel
theorem dX8_number_34 : decode cX8_number 34 = .ok (.getfield 185, 3) := by decide +kernel
theorem dX8_number_37 : decode cX8_number 37 = .ok (.if_icmp .ge 39, 3) := by decide +kernel
theorem dX8_number_40 : decode cX8_number 40 = .ok (.aload_n 0, 1) := by decide +kernel
theorem dX8_number_41 : decode cX8_number 41 = .ok (.getfield 37, 3) := by decide +kernel
theorem dX8_number_44 : decode cX8_number 44 = .ok (.iload_n 2, 1) := by decide +kernel
theorem dX8_number_45 : decode cX8_number 45 = .ok (.iaload, 1) := by decide +kernel
theorem dX8_number_46 : decode cX8_number 46 = .ok (.ifCond .ne 24, 3) := by decide +kernel
theorem dX8_number_49 : decode cX8_number 49 = .ok (.aload_n 0, 1) := by decide +kernel
theorem dX8_number_50 : decode cX8_number 50 = .ok (.getfield 40, 3) := by decide +kernel
theorem dX8_number_53 : decode cX8_number 53 = .ok (.iload_n 2, 1) := by decide +kernel
theorem dX8_number_54 : decode cX8_number 54 = .ok (.iaload, 1) := by decide +kernel
theorem dX8_number_55 : decode cX8_number 55 = .ok (.i2l, 1) := by decide +kernel
theorem dX8_number_56 : decode cX8_number 56 = .ok (.lconst 0, 1) := by decide +kernel
theorem dX8_number_57 : decode cX8_number 57 = .ok (.ldc2_w 251, 3) := by decide +kernel
theorem dX8_number_60 : decode cX8_number 60 = .ok (.invokestatic 177, 3) := by decide +kernel
theorem dX8_number_63 : decode cX8_number 63 = .ok (.ifCond .ne 7, 3) := by decide +kernel
theorem dX8_number_66 : decode cX8_number 66 = .ok (.ldc2_w 249, 3) := by decide +kernel
theorem dX8_number_69 : decode cX8_number 69 = .ok (.lreturn, 1) := by decide +kernel
theorem dX8_number_70 : decode cX8_number 70 = .ok (.iinc 2 1, 3) := by decide +kernel
theorem dX8_number_73 : decode cX8_number 73 = .ok (.goto (-41), 3) := by decide +kernel
theorem dX8_number_76 : decode cX8_number 76 = .ok (.aload_n 0, 1) := by decide +kernel
theorem dX8_number_77 : decode cX8_number 77 = .ok (.invokevirtual 220, 3) := by decide +kernel
theorem dX8_number_80 : decode cX8_number 80 = .ok (.aload_n 0, 1) := by decide +kernel
theorem dX8_number_81 : decode cX8_number 81 = .ok (.aload_n 0, 1) := by decide +kernel
theorem dX8_number_82 : decode cX8_number 82 = .ok (.invokevirtual 202, 3) := by decide +kernel
theorem dX8_number_85 : decode cX8_number 85 = .ok (.invokevirtual 239, 3) := by decide +kernel
theorem dX8_number_88 : decode cX8_number 88 = .ok (.lreturn, 1) := by decide +kernel
theorem dX8_node_0 : decode cX8_node 0 = .ok (.iload_n 1, 1) := by decide +kernel
theorem dX8_node_1 : decode cX8_node 1 = .ok (.i2l, 1) := by decide +kernel
theorem dX8_node_2 : decode cX8_node 2 = .ok (.lconst 0, 1) := by decide +kernel
theorem dX8_node_3 : decode cX8_node 3 = .ok (.ldc2_w 253, 3) := by decide +kernel
theorem dX8_node_6 : decode cX8_node 6 = .ok (.invokestatic 177, 3) := by decide +kernel
theorem dX8_node_9 : decode cX8_node 9 = .ok (.ifCond .eq 11, 3) := by decide +kernel
theorem dX8_node_12 : decode cX8_node 12 = .ok (.iload_n 1, 1) := by decide +kernel
theorem dX8_node_13 : decode cX8_node 13 = .ok (.ifCond .eq 9, 3) := by decide +kernel
theorem dX8_node_16 : decode cX8_node 16 = .ok (.iload_n 2, 1) := by decide +kernel
theorem dX8_node_17 : decode cX8_node 17 = .ok (.ifCond .eq 5, 3) := by decide +kernel
theorem dX8_node_20 : decode cX8_node 20 = .ok (.iconst (-1), 1) := by decide +kernel
theorem dX8_node_21 : decode cX8_node 21 = .ok (.ireturn, 1) := by decide +kernel
theorem dX8_node_22 : decode cX8_node 22 = .ok (.aload_n 0, 1) := by decide +kernel
theorem dX8_node_23 : decode cX8_node 23 = .ok (.getfield 255, 3) := by decide +kernel
theorem dX8_node_26 : decode cX8_node 26 = .ok (.iload_n 1, 1) := by decide +kernel
theorem dX8_node_27 : decode cX8_node 27 = .ok (.invokestatic 191, 3) := by decide +kernel
theorem dX8_node_30 : decode cX8_node 30 = .ok (.if_icmp .ge 6, 3) := by decide +kernel
theorem dX8_node_33 : decode cX8_node 33 = .ok (.bipush (-2), 2) := by decide +kernel
theorem dX8_node_35 : decode cX8_node 35 = .ok (.ireturn, 1) := by decide +kernel
theorem dX8_node_36 : decode cX8_node 36 = .ok (.aload_n 0, 1) := by decide +kernel
theorem dX8_node_37 : decode cX8_node 37 = .ok (.getfield 258, 3) := by decide +kernel
theorem dX8_node_40 : decode cX8_node 40 = .ok (.bipush 60, 2) := by decide +kernel
theorem dX8_node_42 : decode cX8_node 42 = .ok (.if_icmp .ne 6, 3) := by decide +kernel
theorem dX8_node_45 : decode cX8_node 45 = .ok (.bipush (-3), 2) := by decide +kernel
theorem dX8_node_47 : decode cX8_node 47 = .ok (.ireturn, 1) := by decide +kernel
theorem dX8_node_48 : decode cX8_node 48 = .ok (.aload_n 0, 1) := by decide +kernel
theorem dX8_node_49 : decode cX8_node 49 = .ok (.dup, 1) := by decide +kernel
theorem dX8_node_50 : decode cX8_node 50 = .ok (.getfield 255, 3) := by decide +kernel
theorem dX8_node_53 : decode cX8_node 53 = .ok (.iload_n 1, 1) := by decide +kernel
theorem dX8_node_54 : decode cX8_node 54 = .ok (.invokestatic 191, 3) := by decide +kernel
theorem dX8_node_57 : decode cX8_node 57 = .ok (.isub, 1) := by decide +kernel
theorem dX8_node_58 : decode cX8_node 58 = .ok (.putfield 255, 3) := by decide +kernel
theorem dX8_node_61 : decode cX8_node 61 = .ok (.iload_n 1, 1) := by decide +kernel
theorem dX8_node_62 : decode cX8_node 62 = .ok (.invokestatic 191, 3) := by decide +kernel
theorem dX8_node_65 : decode cX8_node 65 = .ok (.ifCond .ne 10, 3) := by decide +kernel
theorem dX8_node_68 : decode cX8_node 68 = .ok (.aload_n 0, 1) := by decide +kernel
theorem dX8_node_69 : decode cX8_node 69 = .ok (.getfield 258, 3) := by decide +kernel
theorem dX8_node_72 : decode cX8_node 72 = .ok (.goto 12, 3) := by decide +kernel
theorem dX8_node_75 : decode cX8_node 75 = .ok (.aload_n 0, 1) := by decide +kernel
theorem dX8_node_76 : decode cX8_node 76 = .ok (.getfield 47, 3) := by decide +kernel
theorem dX8_node_79 : decode cX8_node 79 = .ok (.aload_n 0, 1) := by decide +kernel
theorem dX8_node_80 : decode cX8_node 80 = .ok (.getfield 255, 3) := by decide +kernel
theorem dX8_node_83 : decode cX8_node 83 = .ok (.iaload, 1) := by decide +kernel
theorem dX8_node_84 : decode cX8_node 84 = .ok (.istore_n 3, 1) := by decide +kernel
theorem dX8_node_85 : decode cX8_node 85 = .ok (.aload_n 0, 1) := by decide +kernel
theorem dX8_node_86 : decode cX8_node 86 = .ok (.getfield 258, 3) := by decide +kernel
theorem dX8_node_89 : decode cX8_node 89 = .ok (.istore 4, 2) := by decide +kernel
theorem dX8_node_91 : decode cX8_node 91 = .ok (.iload 4, 2) := by decide +kernel
theorem dX8_node_93 : decode cX8_node 93 = .ok (.iload_n 3, 1) := by decide +kernel
theorem dX8_node_94 : decode cX8_node 94 = .ok (.if_icmp .le 41, 3) := by decide +kernel
theorem dX8_node_97 : decode cX8_node 97 = .ok (.aload_n 0, 1) := by decide +kernel
theorem dX8_node_98 : decode cX8_node 98 = .ok (.getfield 50, 3) := by decide +kernel
theorem dX8_node_101 : decode cX8_node 101 = .ok (.iload 4, 2) := by decide +kernel
theorem dX8_node_103 : decode cX8_node 103 = .ok (.aload_n 0, 1) := by decide +kernel
theorem dX8_node_104 : decode cX8_node 104 = .ok (.getfield 50, 3) := by decide +kernel
theorem dX8_node_107 : decode cX8_node 107 = .ok (.iload 4, 2) := by decide +kernel
theorem dX8_node_109 : decode cX8_node 109 = .ok (.iconst 1, 1) := by decide +kernel
theorem dX8_node_110 : decode cX8_node 110 = .ok (.isub, 1) := by decide +kernel
theorem dX8_node_111 : decode cX8_node 111 = .ok (.iaload, 1) := by decide +kernel
theorem dX8_node_112 : decode cX8_node 112 = .ok (.iastore, 1) := by decide +kernel
theorem dX8_node_113 : decode cX8_node 113 = .ok (.aload_n 0, 1) := by decide +kernel
theorem dX8_node_114 : decode cX8_node 114 = .ok (.getfield 53, 3) := by decide +kernel
theorem dX8_node_117 : decode cX8_node 117 = .ok (.iload 4, 2) := by decide +kernel
theorem dX8_node_119 : decode cX8_node 119 = .ok (.aload_n 0, 1) := by decide +kernel
theorem dX8_node_120 : decode cX8_node 120 = .ok (.getfield 53, 3) := by decide +kernel
theorem dX8_node_123 : decode cX8_node 123 = .ok (.iload 4, 2) := by decide +kernel
theorem dX8_node_125 : decode cX8_node 125 = .ok (.iconst 1, 1) := by decide +kernel
theorem dX8_node_126 : decode cX8_node 126 = .ok (.isub, 1) := by decide +kernel
theorem dX8_node_127 : decode cX8_node 127 = .ok (.iaload, 1) := by decide +kernel
theorem dX8_node_128 : decode cX8_node 128 = .ok (.iastore, 1) := by decide +kernel
theorem dX8_node_129 : decode cX8_node 129 = .ok (.iinc 4 (-1), 3) := by decide +kernel
theorem dX8_node_132 : decode cX8_node 132 = .ok (.goto (-41), 3) := by decide +kernel
theorem dX8_node_135 : decode cX8_node 135 = .ok (.aload_n 0, 1) := by decide +kernel
theorem dX8_node_136 : decode cX8_node 136 = .ok (.getfield 50, 3) := by decide +kernel
theorem dX8_node_139 : decode cX8_node 139 = .ok (.iload_n 3, 1) := by decide +kernel
theorem dX8_node_140 : decode cX8_node 140 = .ok (.iload_n 1, 1) := by decide +kernel
theorem dX8_node_141 : decode cX8_node 141 = .ok (.iastore, 1) := by decide +kernel
theorem dX8_node_142 : decode cX8_node 142 = .ok (.aload_n 0, 1) := by decide +kernel
theorem dX8_node_143 : decode cX8_node 143 = .ok (.getfield 53, 3) := by decide +kernel
theorem dX8_node_146 : decode cX8_node 146 = .ok (.iload_n 3, 1) := by decide +kernel
theorem dX8_node_147 : decode cX8_node 147 = .ok (.iload_n 2, 1) := by decide +kernel
theorem dX8_node_148 : decode cX8_node 148 = .ok (.iastore, 1) := by decide +kernel
theorem dX8_node_149 : decode cX8_node 149 = .ok (.aload_n 0, 1) := by decide +kernel
theorem dX8_node_150 : decode cX8_node 150 = .ok (.dup, 1) := by decide +kernel
theorem dX8_node_151 : decode cX8_node 151 = .ok (.getfield 258, 3) := by decide +kernel
theorem dX8_node_154 : decode cX8_node 154 = .ok (.iconst 1, 1) := by decide +kernel
theorem dX8_node_155 : decode cX8_node 155 = .ok (.iadd, 1) := by decide +kernel
theorem dX8_node_156 : decode cX8_node 156 = .ok (.putfield 258, 3) := by decide +kernel
theorem dX8_node_159 : decode cX8_node 159 = .ok (.aload_n 0, 1) := by decide +kernel
theorem dX8_node_160 : decode cX8_node 160 = .ok (.getfield 47, 3) := by decide +kernel
theorem dX8_node_163 : decode cX8_node 163 = .ok (.aload_n 0, 1) := by decide +kernel
theorem dX8_node_164 : decode cX8_node 164 = .ok (.getfield 255, 3) := by decide +kernel
theorem dX8_node_167 : decode cX8_node 167 = .ok (.iload_n 3, 1) := by decide +kernel
theorem dX8_node_168 : decode cX8_node 168 = .ok (.iastore, 1) := by decide +kernel
theorem dX8_node_169 : decode cX8_node 169 = .ok (.aload_n 0, 1) := by decide +kernel
theorem dX8_node_170 : decode cX8_node 170 = .ok (.dup, 1) := by decide +kernel
theorem dX8_node_171 : decode cX8_node 171 = .ok (.getfield 255, 3) := by decide +kernel
theorem dX8_node_174 : decode cX8_node 174 = .ok (.iconst 1, 1) := by decide +kernel
theorem dX8_node_175 : decode cX8_node 175 = .ok (.iadd, 1) := by decide +kernel
theorem dX8_node_176 : decode cX8_node 176 = .ok (.putfield 255, 3) := by decide +kernel
theorem dX8_node_179 : decode cX8_node 179 = .ok (.aload_n 0, 1) := by decide +kernel
theorem dX8_node_180 : decode cX8_node 180 = .ok (.getfield 255, 3) := by decide +kernel
theorem dX8_node_183 : decode cX8_node 183 = .ok (.ireturn, 1) := by decide +kernel
theorem dX8_keep_0 : decode cX8_keep 0 = .ok (.iload_n 1, 1) := by decide +kernel
theorem dX8_keep_1 : decode cX8_keep 1 = .ok (.invokestatic 181, 3) := by decide +kernel
theorem dX8_keep_4 : decode cX8_keep 4 = .ok (.ifCond .ne 5, 3) := by decide +kernel
theorem dX8_keep_7 : decode cX8_keep 7 = .ok (.iconst (-1), 1) := by decide +kernel
theorem dX8_keep_8 : decode cX8_keep 8 = .ok (.ireturn, 1) := by decide +kernel
theorem dX8_keep_9 : decode cX8_keep 9 = .ok (.aload_n 0, 1) := by decide +kernel
theorem dX8_keep_10 : decode cX8_keep 10 = .ok (.getfield 255, 3) := by decide +kernel
theorem dX8_keep_13 : decode cX8_keep 13 = .ok (.iconst 1, 1) := by decide +kernel
theorem dX8_keep_14 : decode cX8_keep 14 = .ok (.if_icmp .eq 6, 3) := by decide +kernel
theorem dX8_keep_17 : decode cX8_keep 17 = .ok (.bipush (-2), 2) := by decide +kernel
theorem dX8_keep_19 : decode cX8_keep 19 = .ok (.ireturn, 1) := by decide +kernel
theorem dX8_keep_20 : decode cX8_keep 20 = .ok (.aload_n 0, 1) := by decide +kernel
theorem dX8_keep_21 : decode cX8_keep 21 = .ok (.aload_n 0, 1) := by decide +kernel
theorem dX8_keep_22 : decode cX8_keep 22 = .ok (.getfield 258, 3) := by decide +kernel
theorem dX8_keep_25 : decode cX8_keep 25 = .ok (.putfield 185, 3) := by decide +kernel
theorem dX8_keep_28 : decode cX8_keep 28 = .ok (.iconst 0, 1) := by decide +kernel
theorem dX8_keep_29 : decode cX8_keep 29 = .ok (.istore_n 2, 1) := by decide +kernel
theorem dX8_keep_30 : decode cX8_keep 30 = .ok (.iload_n 2, 1) := by decide +kernel
theorem dX8_keep_31 : decode cX8_keep 31 = .ok (.aload_n 0, 1) := by decide +kernel
theorem dX8_keep_32 : decode cX8_keep 32 = .ok (.getfield 258, 3) := by decide +kernel
theorem dX8_keep_35 : decode cX8_keep 35 = .ok (.if_icmp .ge 33, 3) := by decide +kernel
theorem dX8_keep_38 : decode cX8_keep 38 = .ok (.aload_n 0, 1) := by decide +kernel
theorem dX8_keep_39 : decode cX8_keep 39 = .ok (.getfield 37, 3) := by decide +kernel
theorem dX8_keep_42 : decode cX8_keep 42 = .ok (.iload_n 2, 1) := by decide +kernel
theorem dX8_keep_43 : decode cX8_keep 43 = .ok (.aload_n 0, 1) := by decide +kernel
theorem dX8_keep_44 : decode cX8_keep 44 = .ok (.getfield 50, 3) := by decide +kernel
theorem dX8_keep_47 : decode cX8_keep 47 = .ok (.iload_n 2, 1) := by decide +kernel
theorem dX8_keep_48 : decode cX8_keep 48 = .ok (.iaload, 1) := by decide +kernel
theorem dX8_keep_49 : decode cX8_keep 49 = .ok (.iastore, 1) := by decide +kernel
theorem dX8_keep_50 : decode cX8_keep 50 = .ok (.aload_n 0, 1) := by decide +kernel
theorem dX8_keep_51 : decode cX8_keep 51 = .ok (.getfield 40, 3) := by decide +kernel
theorem dX8_keep_54 : decode cX8_keep 54 = .ok (.iload_n 2, 1) := by decide +kernel
theorem dX8_keep_55 : decode cX8_keep 55 = .ok (.aload_n 0, 1) := by decide +kernel
theorem dX8_keep_56 : decode cX8_keep 56 = .ok (.getfield 53, 3) := by decide +kernel
theorem dX8_keep_59 : decode cX8_keep 59 = .ok (.iload_n 2, 1) := by decide +kernel
theorem dX8_keep_60 : decode cX8_keep 60 = .ok (.iaload, 1) := by decide +kernel
theorem dX8_keep_61 : decode cX8_keep 61 = .ok (.iastore, 1) := by decide +kernel
theorem dX8_keep_62 : decode cX8_keep 62 = .ok (.iinc 2 1, 3) := by decide +kernel
theorem dX8_keep_65 : decode cX8_keep 65 = .ok (.goto (-35), 3) := by decide +kernel
theorem dX8_keep_68 : decode cX8_keep 68 = .ok (.aload_n 0, 1) := by decide +kernel
theorem dX8_keep_69 : decode cX8_keep 69 = .ok (.iconst 0, 1) := by decide +kernel
theorem dX8_keep_70 : decode cX8_keep 70 = .ok (.putfield 255, 3) := by decide +kernel
theorem dX8_keep_73 : decode cX8_keep 73 = .ok (.aload_n 0, 1) := by decide +kernel
theorem dX8_keep_74 : decode cX8_keep 74 = .ok (.iconst 0, 1) := by decide +kernel
theorem dX8_keep_75 : decode cX8_keep 75 = .ok (.putfield 258, 3) := by decide +kernel
theorem dX8_keep_78 : decode cX8_keep 78 = .ok (.aload_n 0, 1) := by decide +kernel
theorem dX8_keep_79 : decode cX8_keep 79 = .ok (.iload_n 1, 1) := by decide +kernel
theorem dX8_keep_80 : decode cX8_keep 80 = .ok (.invokevirtual 236, 3) := by decide +kernel
theorem dX8_keep_83 : decode cX8_keep 83 = .ok (.ireturn, 1) := by decide +kernel
theorem dX8_drop_0 : decode cX8_drop 0 = .ok (.aload_n 0, 1) := by decide +kernel
theorem dX8_drop_1 : decode cX8_drop 1 = .ok (.iload_n 1, 1) := by decide +kernel
theorem dX8_drop_2 : decode cX8_drop 2 = .ok (.invokevirtual 246, 3) := by decide +kernel
theorem dX8_drop_5 : decode cX8_drop 5 = .ok (.ifCond .ne 5, 3) := by decide +kernel
theorem dX8_drop_8 : decode cX8_drop 8 = .ok (.iconst (-1), 1) := by decide +kernel
theorem dX8_drop_9 : decode cX8_drop 9 = .ok (.ireturn, 1) := by decide +kernel
theorem dX8_drop_10 : decode cX8_drop 10 = .ok (.aload_n 0, 1) := by decide +kernel
theorem dX8_drop_11 : decode cX8_drop 11 = .ok (.getfield 28, 3) := by decide +kernel
theorem dX8_drop_14 : decode cX8_drop 14 = .ok (.iload_n 1, 1) := by decide +kernel
theorem dX8_drop_15 : decode cX8_drop 15 = .ok (.iaload, 1) := by decide +kernel
theorem dX8_drop_16 : decode cX8_drop 16 = .ok (.istore_n 2, 1) := by decide +kernel
theorem dX8_drop_17 : decode cX8_drop 17 = .ok (.aload_n 0, 1) := by decide +kernel
theorem dX8_drop_18 : decode cX8_drop 18 = .ok (.getfield 28, 3) := by decide +kernel
theorem dX8_drop_21 : decode cX8_drop 21 = .ok (.iload_n 1, 1) := by decide +kernel
theorem dX8_drop_22 : decode cX8_drop 22 = .ok (.iconst 0, 1) := by decide +kernel
theorem dX8_drop_23 : decode cX8_drop 23 = .ok (.iastore, 1) := by decide +kernel
theorem dX8_drop_24 : decode cX8_drop 24 = .ok (.iload_n 2, 1) := by decide +kernel
theorem dX8_drop_25 : decode cX8_drop 25 = .ok (.ireturn, 1) := by decide +kernel
theorem dX8_read_0 : decode cX8_read 0 = .ok (.aload_n 0, 1) := by decide +kernel
theorem dX8_read_1 : decode cX8_read 1 = .ok (.iload_n 1, 1) := by decide +kernel
theorem dX8_read_2 : decode cX8_read 2 = .ok (.invokevirtual 246, 3) := by decide +kernel
theorem dX8_read_5 : decode cX8_read 5 = .ok (.ifCond .eq 33, 3) := by decide +kernel
theorem dX8_read_8 : decode cX8_read 8 = .ok (.iload_n 2, 1) := by decide +kernel
theorem dX8_read_9 : decode cX8_read 9 = .ok (.i2l, 1) := by decide +kernel
theorem dX8_read_10 : decode cX8_read 10 = .ok (.lconst 0, 1) := by decide +kernel
theorem dX8_read_11 : decode cX8_read 11 = .ok (.aload_n 0, 1) := by decide +kernel
theorem dX8_read_12 : decode cX8_read 12 = .ok (.getfield 28, 3) := by decide +kernel
theorem dX8_read_15 : decode cX8_read 15 = .ok (.iload_n 1, 1) := by decide +kernel
theorem dX8_read_16 : decode cX8_read 16 = .ok (.iaload, 1) := by decide +kernel
theorem dX8_read_17 : decode cX8_read 17 = .ok (.iconst 1, 1) := by decide +kernel
theorem dX8_read_18 : decode cX8_read 18 = .ok (.isub, 1) := by decide +kernel
theorem dX8_read_19 : decode cX8_read 19 = .ok (.i2l, 1) := by decide +kernel
theorem dX8_read_20 : decode cX8_read 20 = .ok (.invokestatic 177, 3) := by decide +kernel
theorem dX8_read_23 : decode cX8_read 23 = .ok (.ifCond .eq 15, 3) := by decide +kernel
theorem dX8_read_26 : decode cX8_read 26 = .ok (.iload_n 3, 1) := by decide +kernel
theorem dX8_read_27 : decode cX8_read 27 = .ok (.i2l, 1) := by decide +kernel
theorem dX8_read_28 : decode cX8_read 28 = .ok (.lconst 0, 1) := by decide +kernel
theorem dX8_read_29 : decode cX8_read 29 = .ok (.ldc2_w 251, 3) := by decide +kernel
theorem dX8_read_32 : decode cX8_read 32 = .ok (.invokestatic 177, 3) := by decide +kernel
theorem dX8_read_35 : decode cX8_read 35 = .ok (.ifCond .ne 7, 3) := by decide +kernel
theorem dX8_read_38 : decode cX8_read 38 = .ok (.ldc_w 261, 3) := by decide +kernel
theorem dX8_read_41 : decode cX8_read 41 = .ok (.ireturn, 1) := by decide +kernel
theorem dX8_read_42 : decode cX8_read 42 = .ok (.aload_n 0, 1) := by decide +kernel
theorem dX8_read_43 : decode cX8_read 43 = .ok (.iload_n 1, 1) := by decide +kernel
theorem dX8_read_44 : decode cX8_read 44 = .ok (.invokevirtual 198, 3) := by decide +kernel
theorem dX8_read_47 : decode cX8_read 47 = .ok (.iload_n 3, 1) := by decide +kernel
theorem dX8_read_48 : decode cX8_read 48 = .ok (.ifCond .ne 12, 3) := by decide +kernel
theorem dX8_read_51 : decode cX8_read 51 = .ok (.aload_n 0, 1) := by decide +kernel
theorem dX8_read_52 : decode cX8_read 52 = .ok (.getfield 37, 3) := by decide +kernel
theorem dX8_read_55 : decode cX8_read 55 = .ok (.iload_n 2, 1) := by decide +kernel
theorem dX8_read_56 : decode cX8_read 56 = .ok (.iaload, 1) := by decide +kernel
theorem dX8_read_57 : decode cX8_read 57 = .ok (.goto 24, 3) := by decide +kernel
theorem dX8_read_60 : decode cX8_read 60 = .ok (.iload_n 3, 1) := by decide +kernel
theorem dX8_read_61 : decode cX8_read 61 = .ok (.iconst 1, 1) := by decide +kernel
theorem dX8_read_62 : decode cX8_read 62 = .ok (.if_icmp .ne 12, 3) := by decide +kernel
theorem dX8_read_65 : decode cX8_read 65 = .ok (.aload_n 0, 1) := by decide +kernel
theorem dX8_read_66 : decode cX8_read 66 = .ok (.getfield 40, 3) := by decide +kernel
theorem dX8_read_69 : decode cX8_read 69 = .ok (.iload_n 2, 1) := by decide +kernel
theorem dX8_read_70 : decode cX8_read 70 = .ok (.iaload, 1) := by decide +kernel
theorem dX8_read_71 : decode cX8_read 71 = .ok (.goto 10, 3) := by decide +kernel
theorem dX8_read_74 : decode cX8_read 74 = .ok (.aload_n 0, 1) := by decide +kernel
theorem dX8_read_75 : decode cX8_read 75 = .ok (.iload_n 2, 1) := by decide +kernel
theorem dX8_read_76 : decode cX8_read 76 = .ok (.invokevirtual 262, 3) := by decide +kernel
theorem dX8_read_79 : decode cX8_read 79 = .ok (.iload_n 2, 1) := by decide +kernel
theorem dX8_read_80 : decode cX8_read 80 = .ok (.isub, 1) := by decide +kernel
theorem dX8_read_81 : decode cX8_read 81 = .ok (.ireturn, 1) := by decide +kernel
theorem dX8_value_0 : decode cX8_value 0 = .ok (.aload_n 0, 1) := by decide +kernel
theorem dX8_value_1 : decode cX8_value 1 = .ok (.iload_n 1, 1) := by decide +kernel
theorem dX8_value_2 : decode cX8_value 2 = .ok (.invokevirtual 246, 3) := by decide +kernel
theorem dX8_value_5 : decode cX8_value 5 = .ok (.ifCond .ne 7, 3) := by decide +kernel
theorem dX8_value_8 : decode cX8_value 8 = .ok (.ldc_w 261, 3) := by decide +kernel
theorem dX8_value_11 : decode cX8_value 11 = .ok (.ireturn, 1) := by decide +kernel
theorem dX8_value_12 : decode cX8_value 12 = .ok (.aload_n 0, 1) := by decide +kernel
theorem dX8_value_13 : decode cX8_value 13 = .ok (.aload_n 0, 1) := by decide +kernel
theorem dX8_value_14 : decode cX8_value 14 = .ok (.iload_n 1, 1) := by decide +kernel
theorem dX8_value_15 : decode cX8_value 15 = .ok (.invokevirtual 265, 3) := by decide +kernel
theorem dX8_value_18 : decode cX8_value 18 = .ok (.iload_n 2, 1) := by decide +kernel
theorem dX8_value_19 : decode cX8_value 19 = .ok (.iload_n 3, 1) := by decide +kernel
theorem dX8_value_20 : decode cX8_value 20 = .ok (.invokevirtual 118, 3) := by decide +kernel
theorem dX8_value_23 : decode cX8_value 23 = .ok (.istore 4, 2) := by decide +kernel
theorem dX8_value_25 : decode cX8_value 25 = .ok (.aload_n 0, 1) := by decide +kernel
theorem dX8_value_26 : decode cX8_value 26 = .ok (.getfield 104, 3) := by decide +kernel
theorem dX8_value_29 : decode cX8_value 29 = .ok (.ifCond .eq 9, 3) := by decide +kernel
theorem dX8_value_32 : decode cX8_value 32 = .ok (.ldc_w 261, 3) := by decide +kernel
theorem dX8_value_35 : decode cX8_value 35 = .ok (.goto 5, 3) := by decide +kernel
theorem dX8_value_38 : decode cX8_value 38 = .ok (.iload 4, 2) := by decide +kernel
theorem dX8_value_40 : decode cX8_value 40 = .ok (.ireturn, 1) := by decide +kernel
theorem dX8_safe_0 : decode cX8_safe 0 = .ok (.aload_n 0, 1) := by decide +kernel
theorem dX8_safe_1 : decode cX8_safe 1 = .ok (.iload_n 1, 1) := by decide +kernel
theorem dX8_safe_2 : decode cX8_safe 2 = .ok (.invokevirtual 246, 3) := by decide +kernel
theorem dX8_safe_5 : decode cX8_safe 5 = .ok (.ifCond .eq 15, 3) := by decide +kernel
theorem dX8_safe_8 : decode cX8_safe 8 = .ok (.iload_n 2, 1) := by decide +kernel
theorem dX8_safe_9 : decode cX8_safe 9 = .ok (.i2l, 1) := by decide +kernel
theorem dX8_safe_10 : decode cX8_safe 10 = .ok (.lconst 0, 1) := by decide +kernel
theorem dX8_safe_11 : decode cX8_safe 11 = .ok (.ldc2_w 268, 3) := by decide +kernel
theorem dX8_safe_14 : decode cX8_safe 14 = .ok (.invokestatic 177, 3) := by decide +kernel
theorem dX8_safe_17 : decode cX8_safe 17 = .ok (.ifCond .ne 7, 3) := by decide +kernel
theorem dX8_safe_20 : decode cX8_safe 20 = .ok (.iconst (-1), 1) := by decide +kernel
theorem dX8_safe_21 : decode cX8_safe 21 = .ok (.goto 21, 3) := by decide +kernel
theorem dX8_safe_24 : decode cX8_safe 24 = .ok (.aload_n 0, 1) := by decide +kernel
theorem dX8_safe_25 : decode cX8_safe 25 = .ok (.aload_n 0, 1) := by decide +kernel
theorem dX8_safe_26 : decode cX8_safe 26 = .ok (.iload_n 1, 1) := by decide +kernel
theorem dX8_safe_27 : decode cX8_safe 27 = .ok (.invokevirtual 265, 3) := by decide +kernel
theorem dX8_safe_30 : decode cX8_safe 30 = .ok (.iload_n 2, 1) := by decide +kernel
theorem dX8_safe_31 : decode cX8_safe 31 = .ok (.invokevirtual 270, 3) := by decide +kernel
theorem dX8_safe_34 : decode cX8_safe 34 = .ok (.ifCond .eq 7, 3) := by decide +kernel
theorem dX8_safe_37 : decode cX8_safe 37 = .ok (.iconst 1, 1) := by decide +kernel
theorem dX8_safe_38 : decode cX8_safe 38 = .ok (.goto 4, 3) := by decide +kernel
theorem dX8_safe_41 : decode cX8_safe 41 = .ok (.iconst 0, 1) := by decide +kernel
theorem dX8_safe_42 : decode cX8_safe 42 = .ok (.ireturn, 1) := by decide +kernel
theorem dX8_splice_0 : decode cX8_splice 0 = .ok (.aload_n 0, 1) := by decide +kernel
theorem dX8_splice_1 : decode cX8_splice 1 = .ok (.getfield 185, 3) := by decide +kernel
theorem dX8_splice_4 : decode cX8_splice 4 = .ok (.iload_n 2, 1) := by decide +kernel
theorem dX8_splice_5 : decode cX8_splice 5 = .ok (.isub, 1) := by decide +kernel
theorem dX8_splice_6 : decode cX8_splice 6 = .ok (.istore 4, 2) := by decide +kernel
theorem dX8_splice_8 : decode cX8_splice 8 = .ok (.iload_n 3, 1) := by decide +kernel
theorem dX8_splice_9 : decode cX8_splice 9 = .ok (.iload_n 2, 1) := by decide +kernel
theorem dX8_splice_10 : decode cX8_splice 10 = .ok (.iload_n 1, 1) := by decide +kernel
theorem dX8_splice_11 : decode cX8_splice 11 = .ok (.isub, 1) := by decide +kernel
theorem dX8_splice_12 : decode cX8_splice 12 = .ok (.if_icmp .le 37, 3) := by decide +kernel
theorem dX8_splice_15 : decode cX8_splice 15 = .ok (.iload 4, 2) := by decide +kernel
theorem dX8_splice_17 : decode cX8_splice 17 = .ok (.iconst 1, 1) := by decide +kernel
theorem dX8_splice_18 : decode cX8_splice 18 = .ok (.isub, 1) := by decide +kernel
theorem dX8_splice_19 : decode cX8_splice 19 = .ok (.istore 5, 2) := by decide +kernel
theorem dX8_splice_21 : decode cX8_splice 21 = .ok (.iload 5, 2) := by decide +kernel
theorem dX8_splice_23 : decode cX8_splice 23 = .ok (.ifCond .lt 23, 3) := by decide +kernel
theorem dX8_splice_26 : decode cX8_splice 26 = .ok (.aload_n 0, 1) := by decide +kernel
theorem dX8_splice_27 : decode cX8_splice 27 = .ok (.iload_n 2, 1) := by decide +kernel
theorem dX8_splice_28 : decode cX8_splice 28 = .ok (.iload 5, 2) := by decide +kernel
theorem dX8_splice_30 : decode cX8_splice 30 = .ok (.iadd, 1) := by decide +kernel
theorem dX8_splice_31 : decode cX8_splice 31 = .ok (.iload_n 1, 1) := by decide +kernel
theorem dX8_splice_32 : decode cX8_splice 32 = .ok (.iload_n 3, 1) := by decide +kernel
theorem dX8_splice_33 : decode cX8_splice 33 = .ok (.iadd, 1) := by decide +kernel
theorem dX8_splice_34 : decode cX8_splice 34 = .ok (.iload 5, 2) := by decide +kernel
theorem dX8_splice_36 : decode cX8_splice 36 = .ok (.iadd, 1) := by decide +kernel
theorem dX8_splice_37 : decode cX8_splice 37 = .ok (.invokevirtual 273, 3) := by decide +kernel
theorem dX8_splice_40 : decode cX8_splice 40 = .ok (.iinc 5 (-1), 3) := by decide +kernel
theorem dX8_splice_43 : decode cX8_splice 43 = .ok (.goto (-22), 3) := by decide +kernel
theorem dX8_splice_46 : decode cX8_splice 46 = .ok (.goto 33, 3) := by decide +kernel
theorem dX8_splice_49 : decode cX8_splice 49 = .ok (.iconst 0, 1) := by decide +kernel
theorem dX8_splice_50 : decode cX8_splice 50 = .ok (.istore 5, 2) := by decide +kernel
theorem dX8_splice_52 : decode cX8_splice 52 = .ok (.iload 5, 2) := by decide +kernel
theorem dX8_splice_54 : decode cX8_splice 54 = .ok (.iload 4, 2) := by decide +kernel
theorem dX8_splice_56 : decode cX8_splice 56 = .ok (.if_icmp .ge 23, 3) := by decide +kernel
theorem dX8_splice_59 : decode cX8_splice 59 = .ok (.aload_n 0, 1) := by decide +kernel
theorem dX8_splice_60 : decode cX8_splice 60 = .ok (.iload_n 2, 1) := by decide +kernel
theorem dX8_splice_61 : decode cX8_splice 61 = .ok (.iload 5, 2) := by decide +kernel
theorem dX8_splice_63 : decode cX8_splice 63 = .ok (.iadd, 1) := by decide +kernel
theorem dX8_splice_64 : decode cX8_splice 64 = .ok (.iload_n 1, 1) := by decide +kernel
theorem dX8_splice_65 : decode cX8_splice 65 = .ok (.iload_n 3, 1) := by decide +kernel
theorem dX8_splice_66 : decode cX8_splice 66 = .ok (.iadd, 1) := by decide +kernel
theorem dX8_splice_67 : decode cX8_splice 67 = .ok (.iload 5, 2) := by decide +kernel
theorem dX8_splice_69 : decode cX8_splice 69 = .ok (.iadd, 1) := by decide +kernel
theorem dX8_splice_70 : decode cX8_splice 70 = .ok (.invokevirtual 273, 3) := by decide +kernel
theorem dX8_splice_73 : decode cX8_splice 73 = .ok (.iinc 5 1, 3) := by decide +kernel
theorem dX8_splice_76 : decode cX8_splice 76 = .ok (.goto (-24), 3) := by decide +kernel
theorem dX8_splice_79 : decode cX8_splice 79 = .ok (.iconst 0, 1) := by decide +kernel
