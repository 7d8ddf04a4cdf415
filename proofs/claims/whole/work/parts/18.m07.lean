/-! laid by program from the bytecode: R_giveNames, R_copyPool, R_copyMember, R_copyKept, R_shake, R_count -/
theorem d_R_giveNames_0 : decode prog_9_method_25_code 0 = .ok (.iconst 0, 1) := by decide +kernel
theorem d_R_giveNames_1 : decode prog_9_method_25_code 1 = .ok (.istore_n 1, 1) := by decide +kernel
theorem d_R_giveNames_2 : decode prog_9_method_25_code 2 = .ok (.iload_n 1, 1) := by decide +kernel
theorem d_R_giveNames_3 : decode prog_9_method_25_code 3 = .ok (.bipush 100, 2) := by decide +kernel
theorem d_R_giveNames_5 : decode prog_9_method_25_code 5 = .ok (.if_icmp .ge 23, 3) := by decide +kernel
theorem d_R_giveNames_8 : decode prog_9_method_25_code 8 = .ok (.aload_n 0, 1) := by decide +kernel
theorem d_R_giveNames_9 : decode prog_9_method_25_code 9 = .ok (.getfield 68, 3) := by decide +kernel
theorem d_R_giveNames_12 : decode prog_9_method_25_code 12 = .ok (.iload_n 1, 1) := by decide +kernel
theorem d_R_giveNames_13 : decode prog_9_method_25_code 13 = .ok (.iconst 0, 1) := by decide +kernel
theorem d_R_giveNames_14 : decode prog_9_method_25_code 14 = .ok (.bastore, 1) := by decide +kernel
theorem d_R_giveNames_15 : decode prog_9_method_25_code 15 = .ok (.aload_n 0, 1) := by decide +kernel
theorem d_R_giveNames_16 : decode prog_9_method_25_code 16 = .ok (.getfield 65, 3) := by decide +kernel
theorem d_R_giveNames_19 : decode prog_9_method_25_code 19 = .ok (.iload_n 1, 1) := by decide +kernel
theorem d_R_giveNames_20 : decode prog_9_method_25_code 20 = .ok (.iload_n 1, 1) := by decide +kernel
theorem d_R_giveNames_21 : decode prog_9_method_25_code 21 = .ok (.iastore, 1) := by decide +kernel
theorem d_R_giveNames_22 : decode prog_9_method_25_code 22 = .ok (.iinc 1 1, 3) := by decide +kernel
theorem d_R_giveNames_25 : decode prog_9_method_25_code 25 = .ok (.goto (-23), 3) := by decide +kernel
theorem d_R_giveNames_28 : decode prog_9_method_25_code 28 = .ok (.iconst 0, 1) := by decide +kernel
theorem d_R_giveNames_29 : decode prog_9_method_25_code 29 = .ok (.istore_n 1, 1) := by decide +kernel
theorem d_R_giveNames_30 : decode prog_9_method_25_code 30 = .ok (.iload_n 1, 1) := by decide +kernel
theorem d_R_giveNames_31 : decode prog_9_method_25_code 31 = .ok (.aload_n 0, 1) := by decide +kernel
theorem d_R_giveNames_32 : decode prog_9_method_25_code 32 = .ok (.getfield 13, 3) := by decide +kernel
theorem d_R_giveNames_35 : decode prog_9_method_25_code 35 = .ok (.iconst 0, 1) := by decide +kernel
theorem d_R_giveNames_36 : decode prog_9_method_25_code 36 = .ok (.iaload, 1) := by decide +kernel
theorem d_R_giveNames_37 : decode prog_9_method_25_code 37 = .ok (.if_icmp .ge 30, 3) := by decide +kernel
theorem d_R_giveNames_40 : decode prog_9_method_25_code 40 = .ok (.aload_n 0, 1) := by decide +kernel
theorem d_R_giveNames_41 : decode prog_9_method_25_code 41 = .ok (.getfield 40, 3) := by decide +kernel
theorem d_R_giveNames_44 : decode prog_9_method_25_code 44 = .ok (.iload_n 1, 1) := by decide +kernel
theorem d_R_giveNames_45 : decode prog_9_method_25_code 45 = .ok (.baload, 1) := by decide +kernel
theorem d_R_giveNames_46 : decode prog_9_method_25_code 46 = .ok (.ifCond .eq 15, 3) := by decide +kernel
theorem d_R_giveNames_49 : decode prog_9_method_25_code 49 = .ok (.aload_n 0, 1) := by decide +kernel
theorem d_R_giveNames_50 : decode prog_9_method_25_code 50 = .ok (.getfield 68, 3) := by decide +kernel
theorem d_R_giveNames_53 : decode prog_9_method_25_code 53 = .ok (.aload_n 0, 1) := by decide +kernel
theorem d_R_giveNames_54 : decode prog_9_method_25_code 54 = .ok (.iconst 0, 1) := by decide +kernel
theorem d_R_giveNames_55 : decode prog_9_method_25_code 55 = .ok (.iload_n 1, 1) := by decide +kernel
theorem d_R_giveNames_56 : decode prog_9_method_25_code 56 = .ok (.invokevirtual 111, 3) := by decide +kernel
theorem d_R_giveNames_59 : decode prog_9_method_25_code 59 = .ok (.iconst 1, 1) := by decide +kernel
theorem d_R_giveNames_60 : decode prog_9_method_25_code 60 = .ok (.bastore, 1) := by decide +kernel
theorem d_R_giveNames_61 : decode prog_9_method_25_code 61 = .ok (.iinc 1 1, 3) := by decide +kernel
theorem d_R_giveNames_64 : decode prog_9_method_25_code 64 = .ok (.goto (-34), 3) := by decide +kernel
theorem d_R_giveNames_67 : decode prog_9_method_25_code 67 = .ok (.iconst 0, 1) := by decide +kernel
theorem d_R_giveNames_68 : decode prog_9_method_25_code 68 = .ok (.istore_n 1, 1) := by decide +kernel
theorem d_R_giveNames_69 : decode prog_9_method_25_code 69 = .ok (.iconst 0, 1) := by decide +kernel
theorem d_R_giveNames_70 : decode prog_9_method_25_code 70 = .ok (.istore_n 2, 1) := by decide +kernel
theorem d_R_giveNames_71 : decode prog_9_method_25_code 71 = .ok (.iload_n 2, 1) := by decide +kernel
theorem d_R_giveNames_72 : decode prog_9_method_25_code 72 = .ok (.bipush 100, 2) := by decide +kernel
theorem d_R_giveNames_74 : decode prog_9_method_25_code 74 = .ok (.if_icmp .ge 200, 3) := by decide +kernel
theorem d_R_giveNames_77 : decode prog_9_method_25_code 77 = .ok (.iconst 0, 1) := by decide +kernel
theorem d_R_giveNames_78 : decode prog_9_method_25_code 78 = .ok (.istore_n 3, 1) := by decide +kernel
theorem d_R_giveNames_79 : decode prog_9_method_25_code 79 = .ok (.iconst 0, 1) := by decide +kernel
theorem d_R_giveNames_80 : decode prog_9_method_25_code 80 = .ok (.istore 4, 2) := by decide +kernel
theorem d_R_giveNames_82 : decode prog_9_method_25_code 82 = .ok (.iload 4, 2) := by decide +kernel
theorem d_R_giveNames_84 : decode prog_9_method_25_code 84 = .ok (.aload_n 0, 1) := by decide +kernel
theorem d_R_giveNames_85 : decode prog_9_method_25_code 85 = .ok (.getfield 13, 3) := by decide +kernel
theorem d_R_giveNames_88 : decode prog_9_method_25_code 88 = .ok (.iconst 0, 1) := by decide +kernel
theorem d_R_giveNames_89 : decode prog_9_method_25_code 89 = .ok (.iaload, 1) := by decide +kernel
theorem d_R_giveNames_90 : decode prog_9_method_25_code 90 = .ok (.if_icmp .ge 40, 3) := by decide +kernel
theorem d_R_giveNames_93 : decode prog_9_method_25_code 93 = .ok (.iload_n 3, 1) := by decide +kernel
theorem d_R_giveNames_94 : decode prog_9_method_25_code 94 = .ok (.ifCond .ne 24, 3) := by decide +kernel
theorem d_R_giveNames_97 : decode prog_9_method_25_code 97 = .ok (.aload_n 0, 1) := by decide +kernel
theorem d_R_giveNames_98 : decode prog_9_method_25_code 98 = .ok (.getfield 40, 3) := by decide +kernel
theorem d_R_giveNames_101 : decode prog_9_method_25_code 101 = .ok (.iload 4, 2) := by decide +kernel
theorem d_R_giveNames_103 : decode prog_9_method_25_code 103 = .ok (.baload, 1) := by decide +kernel
theorem d_R_giveNames_104 : decode prog_9_method_25_code 104 = .ok (.ifCond .eq 18, 3) := by decide +kernel
theorem d_R_giveNames_107 : decode prog_9_method_25_code 107 = .ok (.aload_n 0, 1) := by decide +kernel
theorem d_R_giveNames_108 : decode prog_9_method_25_code 108 = .ok (.iconst 0, 1) := by decide +kernel
theorem d_R_giveNames_109 : decode prog_9_method_25_code 109 = .ok (.iload 4, 2) := by decide +kernel
theorem d_R_giveNames_111 : decode prog_9_method_25_code 111 = .ok (.invokevirtual 111, 3) := by decide +kernel
theorem d_R_giveNames_114 : decode prog_9_method_25_code 114 = .ok (.iload_n 2, 1) := by decide +kernel
theorem d_R_giveNames_115 : decode prog_9_method_25_code 115 = .ok (.if_icmp .ne 7, 3) := by decide +kernel
theorem d_R_giveNames_118 : decode prog_9_method_25_code 118 = .ok (.iconst 1, 1) := by decide +kernel
theorem d_R_giveNames_119 : decode prog_9_method_25_code 119 = .ok (.goto 4, 3) := by decide +kernel
theorem d_R_giveNames_122 : decode prog_9_method_25_code 122 = .ok (.iconst 0, 1) := by decide +kernel
theorem d_R_giveNames_123 : decode prog_9_method_25_code 123 = .ok (.istore_n 3, 1) := by decide +kernel
theorem d_R_giveNames_124 : decode prog_9_method_25_code 124 = .ok (.iinc 4 1, 3) := by decide +kernel
theorem d_R_giveNames_127 : decode prog_9_method_25_code 127 = .ok (.goto (-45), 3) := by decide +kernel
theorem d_R_giveNames_130 : decode prog_9_method_25_code 130 = .ok (.iconst 0, 1) := by decide +kernel
theorem d_R_giveNames_131 : decode prog_9_method_25_code 131 = .ok (.istore 4, 2) := by decide +kernel
theorem d_R_giveNames_133 : decode prog_9_method_25_code 133 = .ok (.iconst 0, 1) := by decide +kernel
theorem d_R_giveNames_134 : decode prog_9_method_25_code 134 = .ok (.istore 5, 2) := by decide +kernel
theorem d_R_giveNames_136 : decode prog_9_method_25_code 136 = .ok (.iload 5, 2) := by decide +kernel
theorem d_R_giveNames_138 : decode prog_9_method_25_code 138 = .ok (.aload_n 0, 1) := by decide +kernel
theorem d_R_giveNames_139 : decode prog_9_method_25_code 139 = .ok (.getfield 7, 3) := by decide +kernel
theorem d_R_giveNames_142 : decode prog_9_method_25_code 142 = .ok (.iconst 0, 1) := by decide +kernel
theorem d_R_giveNames_143 : decode prog_9_method_25_code 143 = .ok (.iaload, 1) := by decide +kernel
theorem d_R_giveNames_144 : decode prog_9_method_25_code 144 = .ok (.if_icmp .ge 86, 3) := by decide +kernel
theorem d_R_giveNames_147 : decode prog_9_method_25_code 147 = .ok (.iconst 0, 1) := by decide +kernel
theorem d_R_giveNames_148 : decode prog_9_method_25_code 148 = .ok (.iload 5, 2) := by decide +kernel
theorem d_R_giveNames_150 : decode prog_9_method_25_code 150 = .ok (.invokestatic 100, 3) := by decide +kernel
theorem d_R_giveNames_153 : decode prog_9_method_25_code 153 = .ok (.istore 6, 2) := by decide +kernel
theorem d_R_giveNames_155 : decode prog_9_method_25_code 155 = .ok (.iload 6, 2) := by decide +kernel
theorem d_R_giveNames_157 : decode prog_9_method_25_code 157 = .ok (.iconst 0, 1) := by decide +kernel
theorem d_R_giveNames_158 : decode prog_9_method_25_code 158 = .ok (.iload 5, 2) := by decide +kernel
theorem d_R_giveNames_160 : decode prog_9_method_25_code 160 = .ok (.invokestatic 100, 3) := by decide +kernel
theorem d_R_giveNames_163 : decode prog_9_method_25_code 163 = .ok (.aload_n 0, 1) := by decide +kernel
theorem d_R_giveNames_164 : decode prog_9_method_25_code 164 = .ok (.getfield 16, 3) := by decide +kernel
theorem d_R_giveNames_167 : decode prog_9_method_25_code 167 = .ok (.iload 5, 2) := by decide +kernel
theorem d_R_giveNames_169 : decode prog_9_method_25_code 169 = .ok (.iaload, 1) := by decide +kernel
theorem d_R_giveNames_170 : decode prog_9_method_25_code 170 = .ok (.iadd, 1) := by decide +kernel
theorem d_R_giveNames_171 : decode prog_9_method_25_code 171 = .ok (.if_icmp .ge 53, 3) := by decide +kernel
theorem d_R_giveNames_174 : decode prog_9_method_25_code 174 = .ok (.iload 4, 2) := by decide +kernel
theorem d_R_giveNames_176 : decode prog_9_method_25_code 176 = .ok (.ifCond .ne 35, 3) := by decide +kernel
theorem d_R_giveNames_179 : decode prog_9_method_25_code 179 = .ok (.aload_n 0, 1) := by decide +kernel
theorem d_R_giveNames_180 : decode prog_9_method_25_code 180 = .ok (.getfield 59, 3) := by decide +kernel
theorem d_R_giveNames_183 : decode prog_9_method_25_code 183 = .ok (.iload 6, 2) := by decide +kernel
theorem d_R_giveNames_185 : decode prog_9_method_25_code 185 = .ok (.baload, 1) := by decide +kernel
theorem d_R_giveNames_186 : decode prog_9_method_25_code 186 = .ok (.ifCond .eq 29, 3) := by decide +kernel
theorem d_R_giveNames_189 : decode prog_9_method_25_code 189 = .ok (.aload_n 0, 1) := by decide +kernel
theorem d_R_giveNames_190 : decode prog_9_method_25_code 190 = .ok (.getfield 19, 3) := by decide +kernel
theorem d_R_giveNames_193 : decode prog_9_method_25_code 193 = .ok (.iload 6, 2) := by decide +kernel
theorem d_R_giveNames_195 : decode prog_9_method_25_code 195 = .ok (.iaload, 1) := by decide +kernel
theorem d_R_giveNames_196 : decode prog_9_method_25_code 196 = .ok (.iconst 1, 1) := by decide +kernel
theorem d_R_giveNames_197 : decode prog_9_method_25_code 197 = .ok (.if_icmp .ne 18, 3) := by decide +kernel
theorem d_R_giveNames_200 : decode prog_9_method_25_code 200 = .ok (.aload_n 0, 1) := by decide +kernel
theorem d_R_giveNames_201 : decode prog_9_method_25_code 201 = .ok (.getfield 22, 3) := by decide +kernel
theorem d_R_giveNames_204 : decode prog_9_method_25_code 204 = .ok (.iload 6, 2) := by decide +kernel
theorem d_R_giveNames_206 : decode prog_9_method_25_code 206 = .ok (.iaload, 1) := by decide +kernel
theorem d_R_giveNames_207 : decode prog_9_method_25_code 207 = .ok (.iload_n 2, 1) := by decide +kernel
theorem d_R_giveNames_208 : decode prog_9_method_25_code 208 = .ok (.if_icmp .ne 7, 3) := by decide +kernel
theorem d_R_giveNames_211 : decode prog_9_method_25_code 211 = .ok (.iconst 1, 1) := by decide +kernel
theorem d_R_giveNames_212 : decode prog_9_method_25_code 212 = .ok (.goto 4, 3) := by decide +kernel
theorem d_R_giveNames_215 : decode prog_9_method_25_code 215 = .ok (.iconst 0, 1) := by decide +kernel
theorem d_R_giveNames_216 : decode prog_9_method_25_code 216 = .ok (.istore 4, 2) := by decide +kernel
theorem d_R_giveNames_218 : decode prog_9_method_25_code 218 = .ok (.iinc 6 1, 3) := by decide +kernel
theorem d_R_giveNames_221 : decode prog_9_method_25_code 221 = .ok (.goto (-66), 3) := by decide +kernel
theorem d_R_giveNames_224 : decode prog_9_method_25_code 224 = .ok (.iinc 5 1, 3) := by decide +kernel
theorem d_R_giveNames_227 : decode prog_9_method_25_code 227 = .ok (.goto (-91), 3) := by decide +kernel
theorem d_R_giveNames_230 : decode prog_9_method_25_code 230 = .ok (.iload 4, 2) := by decide +kernel
theorem d_R_giveNames_232 : decode prog_9_method_25_code 232 = .ok (.ifCond .eq 36, 3) := by decide +kernel
theorem d_R_giveNames_235 : decode prog_9_method_25_code 235 = .ok (.iload_n 3, 1) := by decide +kernel
theorem d_R_giveNames_236 : decode prog_9_method_25_code 236 = .ok (.ifCond .ne 32, 3) := by decide +kernel
theorem d_R_giveNames_239 : decode prog_9_method_25_code 239 = .ok (.aload_n 0, 1) := by decide +kernel
theorem d_R_giveNames_240 : decode prog_9_method_25_code 240 = .ok (.getfield 68, 3) := by decide +kernel
theorem d_R_giveNames_243 : decode prog_9_method_25_code 243 = .ok (.iload_n 1, 1) := by decide +kernel
theorem d_R_giveNames_244 : decode prog_9_method_25_code 244 = .ok (.baload, 1) := by decide +kernel
theorem d_R_giveNames_245 : decode prog_9_method_25_code 245 = .ok (.ifCond .eq 9, 3) := by decide +kernel
theorem d_R_giveNames_248 : decode prog_9_method_25_code 248 = .ok (.iinc 1 1, 3) := by decide +kernel
theorem d_R_giveNames_251 : decode prog_9_method_25_code 251 = .ok (.goto (-12), 3) := by decide +kernel
theorem d_R_giveNames_254 : decode prog_9_method_25_code 254 = .ok (.aload_n 0, 1) := by decide +kernel
theorem d_R_giveNames_255 : decode prog_9_method_25_code 255 = .ok (.getfield 68, 3) := by decide +kernel
theorem d_R_giveNames_258 : decode prog_9_method_25_code 258 = .ok (.iload_n 1, 1) := by decide +kernel
theorem d_R_giveNames_259 : decode prog_9_method_25_code 259 = .ok (.iconst 1, 1) := by decide +kernel
theorem d_R_giveNames_260 : decode prog_9_method_25_code 260 = .ok (.bastore, 1) := by decide +kernel
theorem d_R_giveNames_261 : decode prog_9_method_25_code 261 = .ok (.aload_n 0, 1) := by decide +kernel
theorem d_R_giveNames_262 : decode prog_9_method_25_code 262 = .ok (.getfield 65, 3) := by decide +kernel
theorem d_R_giveNames_265 : decode prog_9_method_25_code 265 = .ok (.iload_n 2, 1) := by decide +kernel
theorem d_R_giveNames_266 : decode prog_9_method_25_code 266 = .ok (.iload_n 1, 1) := by decide +kernel
theorem d_R_giveNames_267 : decode prog_9_method_25_code 267 = .ok (.iastore, 1) := by decide +kernel
theorem d_R_giveNames_268 : decode prog_9_method_25_code 268 = .ok (.iinc 2 1, 3) := by decide +kernel
theorem d_R_giveNames_271 : decode prog_9_method_25_code 271 = .ok (.goto (-200), 3) := by decide +kernel
theorem d_R_giveNames_274 : decode prog_9_method_25_code 274 = .ok (.return_, 1) := by decide +kernel
theorem d_R_copyPool_0 : decode prog_9_method_27_code 0 = .ok (.bipush 6, 2) := by decide +kernel
theorem d_R_copyPool_2 : decode prog_9_method_27_code 2 = .ok (.aload_n 0, 1) := by decide +kernel
theorem d_R_copyPool_3 : decode prog_9_method_27_code 3 = .ok (.getfield 7, 3) := by decide +kernel
theorem d_R_copyPool_6 : decode prog_9_method_27_code 6 = .ok (.iconst 1, 1) := by decide +kernel
theorem d_R_copyPool_7 : decode prog_9_method_27_code 7 = .ok (.iaload, 1) := by decide +kernel
theorem d_R_copyPool_8 : decode prog_9_method_27_code 8 = .ok (.iadd, 1) := by decide +kernel
theorem d_R_copyPool_9 : decode prog_9_method_27_code 9 = .ok (.istore_n 2, 1) := by decide +kernel
theorem d_R_copyPool_10 : decode prog_9_method_27_code 10 = .ok (.aload_n 0, 1) := by decide +kernel
theorem d_R_copyPool_11 : decode prog_9_method_27_code 11 = .ok (.getfield 16, 3) := by decide +kernel
theorem d_R_copyPool_14 : decode prog_9_method_27_code 14 = .ok (.iload_n 2, 1) := by decide +kernel
theorem d_R_copyPool_15 : decode prog_9_method_27_code 15 = .ok (.iconst 0, 1) := by decide +kernel
theorem d_R_copyPool_16 : decode prog_9_method_27_code 16 = .ok (.iastore, 1) := by decide +kernel
theorem d_R_copyPool_17 : decode prog_9_method_27_code 17 = .ok (.iconst 0, 1) := by decide +kernel
theorem d_R_copyPool_18 : decode prog_9_method_27_code 18 = .ok (.iload_n 1, 1) := by decide +kernel
theorem d_R_copyPool_19 : decode prog_9_method_27_code 19 = .ok (.invokestatic 100, 3) := by decide +kernel
theorem d_R_copyPool_22 : decode prog_9_method_27_code 22 = .ok (.istore_n 3, 1) := by decide +kernel
theorem d_R_copyPool_23 : decode prog_9_method_27_code 23 = .ok (.iload_n 3, 1) := by decide +kernel
theorem d_R_copyPool_24 : decode prog_9_method_27_code 24 = .ok (.iconst 0, 1) := by decide +kernel
theorem d_R_copyPool_25 : decode prog_9_method_27_code 25 = .ok (.iload_n 1, 1) := by decide +kernel
theorem d_R_copyPool_26 : decode prog_9_method_27_code 26 = .ok (.invokestatic 100, 3) := by decide +kernel
theorem d_R_copyPool_29 : decode prog_9_method_27_code 29 = .ok (.aload_n 0, 1) := by decide +kernel
theorem d_R_copyPool_30 : decode prog_9_method_27_code 30 = .ok (.getfield 16, 3) := by decide +kernel
theorem d_R_copyPool_33 : decode prog_9_method_27_code 33 = .ok (.iload_n 1, 1) := by decide +kernel
theorem d_R_copyPool_34 : decode prog_9_method_27_code 34 = .ok (.iaload, 1) := by decide +kernel
theorem d_R_copyPool_35 : decode prog_9_method_27_code 35 = .ok (.iadd, 1) := by decide +kernel
theorem d_R_copyPool_36 : decode prog_9_method_27_code 36 = .ok (.if_icmp .ge 189, 3) := by decide +kernel
theorem d_R_copyPool_39 : decode prog_9_method_27_code 39 = .ok (.aload_n 0, 1) := by decide +kernel
theorem d_R_copyPool_40 : decode prog_9_method_27_code 40 = .ok (.getfield 59, 3) := by decide +kernel
theorem d_R_copyPool_43 : decode prog_9_method_27_code 43 = .ok (.iload_n 3, 1) := by decide +kernel
theorem d_R_copyPool_44 : decode prog_9_method_27_code 44 = .ok (.baload, 1) := by decide +kernel
theorem d_R_copyPool_45 : decode prog_9_method_27_code 45 = .ok (.ifCond .eq 174, 3) := by decide +kernel
theorem d_R_copyPool_48 : decode prog_9_method_27_code 48 = .ok (.iconst 1, 1) := by decide +kernel
theorem d_R_copyPool_49 : decode prog_9_method_27_code 49 = .ok (.aload_n 0, 1) := by decide +kernel
theorem d_R_copyPool_50 : decode prog_9_method_27_code 50 = .ok (.getfield 7, 3) := by decide +kernel
theorem d_R_copyPool_53 : decode prog_9_method_27_code 53 = .ok (.iconst 1, 1) := by decide +kernel
theorem d_R_copyPool_54 : decode prog_9_method_27_code 54 = .ok (.iaload, 1) := by decide +kernel
theorem d_R_copyPool_55 : decode prog_9_method_27_code 55 = .ok (.invokestatic 100, 3) := by decide +kernel
theorem d_R_copyPool_58 : decode prog_9_method_27_code 58 = .ok (.aload_n 0, 1) := by decide +kernel
theorem d_R_copyPool_59 : decode prog_9_method_27_code 59 = .ok (.getfield 16, 3) := by decide +kernel
theorem d_R_copyPool_62 : decode prog_9_method_27_code 62 = .ok (.iload_n 2, 1) := by decide +kernel
theorem d_R_copyPool_63 : decode prog_9_method_27_code 63 = .ok (.iaload, 1) := by decide +kernel
theorem d_R_copyPool_64 : decode prog_9_method_27_code 64 = .ok (.iadd, 1) := by decide +kernel
theorem d_R_copyPool_65 : decode prog_9_method_27_code 65 = .ok (.istore 4, 2) := by decide +kernel
theorem d_R_copyPool_67 : decode prog_9_method_27_code 67 = .ok (.aload_n 0, 1) := by decide +kernel
theorem d_R_copyPool_68 : decode prog_9_method_27_code 68 = .ok (.getfield 19, 3) := by decide +kernel
theorem d_R_copyPool_71 : decode prog_9_method_27_code 71 = .ok (.iload 4, 2) := by decide +kernel
theorem d_R_copyPool_73 : decode prog_9_method_27_code 73 = .ok (.aload_n 0, 1) := by decide +kernel
theorem d_R_copyPool_74 : decode prog_9_method_27_code 74 = .ok (.getfield 19, 3) := by decide +kernel
theorem d_R_copyPool_77 : decode prog_9_method_27_code 77 = .ok (.iload_n 3, 1) := by decide +kernel
theorem d_R_copyPool_78 : decode prog_9_method_27_code 78 = .ok (.iaload, 1) := by decide +kernel
theorem d_R_copyPool_79 : decode prog_9_method_27_code 79 = .ok (.iastore, 1) := by decide +kernel
theorem d_R_copyPool_80 : decode prog_9_method_27_code 80 = .ok (.aload_n 0, 1) := by decide +kernel
theorem d_R_copyPool_81 : decode prog_9_method_27_code 81 = .ok (.getfield 22, 3) := by decide +kernel
theorem d_R_copyPool_84 : decode prog_9_method_27_code 84 = .ok (.iload 4, 2) := by decide +kernel
theorem d_R_copyPool_86 : decode prog_9_method_27_code 86 = .ok (.aload_n 0, 1) := by decide +kernel
theorem d_R_copyPool_87 : decode prog_9_method_27_code 87 = .ok (.getfield 19, 3) := by decide +kernel
theorem d_R_copyPool_90 : decode prog_9_method_27_code 90 = .ok (.iload_n 3, 1) := by decide +kernel
theorem d_R_copyPool_91 : decode prog_9_method_27_code 91 = .ok (.iaload, 1) := by decide +kernel
theorem d_R_copyPool_92 : decode prog_9_method_27_code 92 = .ok (.iconst 1, 1) := by decide +kernel
theorem d_R_copyPool_93 : decode prog_9_method_27_code 93 = .ok (.if_icmp .ne 17, 3) := by decide +kernel
theorem d_R_copyPool_96 : decode prog_9_method_27_code 96 = .ok (.aload_n 0, 1) := by decide +kernel
theorem d_R_copyPool_97 : decode prog_9_method_27_code 97 = .ok (.getfield 65, 3) := by decide +kernel
theorem d_R_copyPool_100 : decode prog_9_method_27_code 100 = .ok (.aload_n 0, 1) := by decide +kernel
theorem d_R_copyPool_101 : decode prog_9_method_27_code 101 = .ok (.getfield 22, 3) := by decide +kernel
theorem d_R_copyPool_104 : decode prog_9_method_27_code 104 = .ok (.iload_n 3, 1) := by decide +kernel
theorem d_R_copyPool_105 : decode prog_9_method_27_code 105 = .ok (.iaload, 1) := by decide +kernel
theorem d_R_copyPool_106 : decode prog_9_method_27_code 106 = .ok (.iaload, 1) := by decide +kernel
theorem d_R_copyPool_107 : decode prog_9_method_27_code 107 = .ok (.goto 63, 3) := by decide +kernel
theorem d_R_copyPool_110 : decode prog_9_method_27_code 110 = .ok (.aload_n 0, 1) := by decide +kernel
theorem d_R_copyPool_111 : decode prog_9_method_27_code 111 = .ok (.getfield 19, 3) := by decide +kernel
theorem d_R_copyPool_114 : decode prog_9_method_27_code 114 = .ok (.iload_n 3, 1) := by decide +kernel
theorem d_R_copyPool_115 : decode prog_9_method_27_code 115 = .ok (.iaload, 1) := by decide +kernel
theorem d_R_copyPool_116 : decode prog_9_method_27_code 116 = .ok (.iconst 2, 1) := by decide +kernel
theorem d_R_copyPool_117 : decode prog_9_method_27_code 117 = .ok (.if_icmp .ne 17, 3) := by decide +kernel
theorem d_R_copyPool_120 : decode prog_9_method_27_code 120 = .ok (.aload_n 0, 1) := by decide +kernel
theorem d_R_copyPool_121 : decode prog_9_method_27_code 121 = .ok (.getfield 56, 3) := by decide +kernel
theorem d_R_copyPool_124 : decode prog_9_method_27_code 124 = .ok (.aload_n 0, 1) := by decide +kernel
theorem d_R_copyPool_125 : decode prog_9_method_27_code 125 = .ok (.getfield 22, 3) := by decide +kernel
theorem d_R_copyPool_128 : decode prog_9_method_27_code 128 = .ok (.iload_n 3, 1) := by decide +kernel
theorem d_R_copyPool_129 : decode prog_9_method_27_code 129 = .ok (.iaload, 1) := by decide +kernel
theorem d_R_copyPool_130 : decode prog_9_method_27_code 130 = .ok (.iaload, 1) := by decide +kernel
theorem d_R_copyPool_131 : decode prog_9_method_27_code 131 = .ok (.goto 39, 3) := by decide +kernel
theorem d_R_copyPool_134 : decode prog_9_method_27_code 134 = .ok (.aload_n 0, 1) := by decide +kernel
theorem d_R_copyPool_135 : decode prog_9_method_27_code 135 = .ok (.getfield 19, 3) := by decide +kernel
theorem d_R_copyPool_138 : decode prog_9_method_27_code 138 = .ok (.iload_n 3, 1) := by decide +kernel
theorem d_R_copyPool_139 : decode prog_9_method_27_code 139 = .ok (.iaload, 1) := by decide +kernel
theorem d_R_copyPool_140 : decode prog_9_method_27_code 140 = .ok (.iconst 3, 1) := by decide +kernel
theorem d_R_copyPool_141 : decode prog_9_method_27_code 141 = .ok (.if_icmp .lt 23, 3) := by decide +kernel
theorem d_R_copyPool_144 : decode prog_9_method_27_code 144 = .ok (.aload_n 0, 1) := by decide +kernel
theorem d_R_copyPool_145 : decode prog_9_method_27_code 145 = .ok (.getfield 62, 3) := by decide +kernel
theorem d_R_copyPool_148 : decode prog_9_method_27_code 148 = .ok (.iconst 0, 1) := by decide +kernel
theorem d_R_copyPool_149 : decode prog_9_method_27_code 149 = .ok (.iload_n 1, 1) := by decide +kernel
theorem d_R_copyPool_150 : decode prog_9_method_27_code 150 = .ok (.invokestatic 100, 3) := by decide +kernel
theorem d_R_copyPool_153 : decode prog_9_method_27_code 153 = .ok (.aload_n 0, 1) := by decide +kernel
theorem d_R_copyPool_154 : decode prog_9_method_27_code 154 = .ok (.getfield 22, 3) := by decide +kernel
theorem d_R_copyPool_157 : decode prog_9_method_27_code 157 = .ok (.iload_n 3, 1) := by decide +kernel
theorem d_R_copyPool_158 : decode prog_9_method_27_code 158 = .ok (.iaload, 1) := by decide +kernel
theorem d_R_copyPool_159 : decode prog_9_method_27_code 159 = .ok (.iadd, 1) := by decide +kernel
theorem d_R_copyPool_160 : decode prog_9_method_27_code 160 = .ok (.iaload, 1) := by decide +kernel
theorem d_R_copyPool_161 : decode prog_9_method_27_code 161 = .ok (.goto 9, 3) := by decide +kernel
theorem d_R_copyPool_164 : decode prog_9_method_27_code 164 = .ok (.aload_n 0, 1) := by decide +kernel
theorem d_R_copyPool_165 : decode prog_9_method_27_code 165 = .ok (.getfield 22, 3) := by decide +kernel
theorem d_R_copyPool_168 : decode prog_9_method_27_code 168 = .ok (.iload_n 3, 1) := by decide +kernel
theorem d_R_copyPool_169 : decode prog_9_method_27_code 169 = .ok (.iaload, 1) := by decide +kernel
theorem d_R_copyPool_170 : decode prog_9_method_27_code 170 = .ok (.iastore, 1) := by decide +kernel
theorem d_R_copyPool_171 : decode prog_9_method_27_code 171 = .ok (.aload_n 0, 1) := by decide +kernel
theorem d_R_copyPool_172 : decode prog_9_method_27_code 172 = .ok (.getfield 25, 3) := by decide +kernel
theorem d_R_copyPool_175 : decode prog_9_method_27_code 175 = .ok (.iload 4, 2) := by decide +kernel
theorem d_R_copyPool_177 : decode prog_9_method_27_code 177 = .ok (.aload_n 0, 1) := by decide +kernel
theorem d_R_copyPool_178 : decode prog_9_method_27_code 178 = .ok (.getfield 19, 3) := by decide +kernel
theorem d_R_copyPool_181 : decode prog_9_method_27_code 181 = .ok (.iload_n 3, 1) := by decide +kernel
theorem d_R_copyPool_182 : decode prog_9_method_27_code 182 = .ok (.iaload, 1) := by decide +kernel
theorem d_R_copyPool_183 : decode prog_9_method_27_code 183 = .ok (.iconst 3, 1) := by decide +kernel
theorem d_R_copyPool_184 : decode prog_9_method_27_code 184 = .ok (.if_icmp .lt 23, 3) := by decide +kernel
theorem d_R_copyPool_187 : decode prog_9_method_27_code 187 = .ok (.aload_n 0, 1) := by decide +kernel
theorem d_R_copyPool_188 : decode prog_9_method_27_code 188 = .ok (.getfield 62, 3) := by decide +kernel
theorem d_R_copyPool_191 : decode prog_9_method_27_code 191 = .ok (.iconst 0, 1) := by decide +kernel
theorem d_R_copyPool_192 : decode prog_9_method_27_code 192 = .ok (.iload_n 1, 1) := by decide +kernel
theorem d_R_copyPool_193 : decode prog_9_method_27_code 193 = .ok (.invokestatic 100, 3) := by decide +kernel
theorem d_R_copyPool_196 : decode prog_9_method_27_code 196 = .ok (.aload_n 0, 1) := by decide +kernel
theorem d_R_copyPool_197 : decode prog_9_method_27_code 197 = .ok (.getfield 25, 3) := by decide +kernel
theorem d_R_copyPool_200 : decode prog_9_method_27_code 200 = .ok (.iload_n 3, 1) := by decide +kernel
theorem d_R_copyPool_201 : decode prog_9_method_27_code 201 = .ok (.iaload, 1) := by decide +kernel
theorem d_R_copyPool_202 : decode prog_9_method_27_code 202 = .ok (.iadd, 1) := by decide +kernel
theorem d_R_copyPool_203 : decode prog_9_method_27_code 203 = .ok (.iaload, 1) := by decide +kernel
theorem d_R_copyPool_204 : decode prog_9_method_27_code 204 = .ok (.goto 4, 3) := by decide +kernel
theorem d_R_copyPool_207 : decode prog_9_method_27_code 207 = .ok (.iconst 0, 1) := by decide +kernel
theorem d_R_copyPool_208 : decode prog_9_method_27_code 208 = .ok (.iastore, 1) := by decide +kernel
theorem d_R_copyPool_209 : decode prog_9_method_27_code 209 = .ok (.aload_n 0, 1) := by decide +kernel
theorem d_R_copyPool_210 : decode prog_9_method_27_code 210 = .ok (.getfield 16, 3) := by decide +kernel
theorem d_R_copyPool_213 : decode prog_9_method_27_code 213 = .ok (.iload_n 2, 1) := by decide +kernel
theorem d_R_copyPool_214 : decode prog_9_method_27_code 214 = .ok (.dup2, 1) := by decide +kernel
theorem d_R_copyPool_215 : decode prog_9_method_27_code 215 = .ok (.iaload, 1) := by decide +kernel
theorem d_R_copyPool_216 : decode prog_9_method_27_code 216 = .ok (.iconst 1, 1) := by decide +kernel
theorem d_R_copyPool_217 : decode prog_9_method_27_code 217 = .ok (.iadd, 1) := by decide +kernel
theorem d_R_copyPool_218 : decode prog_9_method_27_code 218 = .ok (.iastore, 1) := by decide +kernel
theorem d_R_copyPool_219 : decode prog_9_method_27_code 219 = .ok (.iinc 3 1, 3) := by decide +kernel
theorem d_R_copyPool_222 : decode prog_9_method_27_code 222 = .ok (.goto (-199), 3) := by decide +kernel
theorem d_R_copyPool_225 : decode prog_9_method_27_code 225 = .ok (.aload_n 0, 1) := by decide +kernel
theorem d_R_copyPool_226 : decode prog_9_method_27_code 226 = .ok (.getfield 7, 3) := by decide +kernel
theorem d_R_copyPool_229 : decode prog_9_method_27_code 229 = .ok (.iconst 1, 1) := by decide +kernel
theorem d_R_copyPool_230 : decode prog_9_method_27_code 230 = .ok (.dup2, 1) := by decide +kernel
theorem d_R_copyPool_231 : decode prog_9_method_27_code 231 = .ok (.iaload, 1) := by decide +kernel
theorem d_R_copyPool_232 : decode prog_9_method_27_code 232 = .ok (.iconst 1, 1) := by decide +kernel
theorem d_R_copyPool_233 : decode prog_9_method_27_code 233 = .ok (.iadd, 1) := by decide +kernel
theorem d_R_copyPool_234 : decode prog_9_method_27_code 234 = .ok (.iastore, 1) := by decide +kernel
theorem d_R_copyPool_235 : decode prog_9_method_27_code 235 = .ok (.return_, 1) := by decide +kernel
theorem d_R_copyMember_0 : decode prog_9_method_28_code 0 = .ok (.bipush 30, 2) := by decide +kernel
theorem d_R_copyMember_2 : decode prog_9_method_28_code 2 = .ok (.aload_n 0, 1) := by decide +kernel
theorem d_R_copyMember_3 : decode prog_9_method_28_code 3 = .ok (.getfield 13, 3) := by decide +kernel
theorem d_R_copyMember_6 : decode prog_9_method_28_code 6 = .ok (.iconst 1, 1) := by decide +kernel
theorem d_R_copyMember_7 : decode prog_9_method_28_code 7 = .ok (.iaload, 1) := by decide +kernel
theorem d_R_copyMember_8 : decode prog_9_method_28_code 8 = .ok (.iadd, 1) := by decide +kernel
theorem d_R_copyMember_9 : decode prog_9_method_28_code 9 = .ok (.istore_n 2, 1) := by decide +kernel
theorem d_R_copyMember_10 : decode prog_9_method_28_code 10 = .ok (.aload_n 0, 1) := by decide +kernel
theorem d_R_copyMember_11 : decode prog_9_method_28_code 11 = .ok (.getfield 28, 3) := by decide +kernel
theorem d_R_copyMember_14 : decode prog_9_method_28_code 14 = .ok (.iload_n 2, 1) := by decide +kernel
theorem d_R_copyMember_15 : decode prog_9_method_28_code 15 = .ok (.aload_n 0, 1) := by decide +kernel
theorem d_R_copyMember_16 : decode prog_9_method_28_code 16 = .ok (.getfield 56, 3) := by decide +kernel
theorem d_R_copyMember_19 : decode prog_9_method_28_code 19 = .ok (.aload_n 0, 1) := by decide +kernel
theorem d_R_copyMember_20 : decode prog_9_method_28_code 20 = .ok (.getfield 28, 3) := by decide +kernel
theorem d_R_copyMember_23 : decode prog_9_method_28_code 23 = .ok (.iload_n 1, 1) := by decide +kernel
theorem d_R_copyMember_24 : decode prog_9_method_28_code 24 = .ok (.iaload, 1) := by decide +kernel
theorem d_R_copyMember_25 : decode prog_9_method_28_code 25 = .ok (.iaload, 1) := by decide +kernel
theorem d_R_copyMember_26 : decode prog_9_method_28_code 26 = .ok (.iastore, 1) := by decide +kernel
theorem d_R_copyMember_27 : decode prog_9_method_28_code 27 = .ok (.aload_n 0, 1) := by decide +kernel
theorem d_R_copyMember_28 : decode prog_9_method_28_code 28 = .ok (.getfield 31, 3) := by decide +kernel
theorem d_R_copyMember_31 : decode prog_9_method_28_code 31 = .ok (.iload_n 2, 1) := by decide +kernel
theorem d_R_copyMember_32 : decode prog_9_method_28_code 32 = .ok (.aload_n 0, 1) := by decide +kernel
theorem d_R_copyMember_33 : decode prog_9_method_28_code 33 = .ok (.getfield 62, 3) := by decide +kernel
theorem d_R_copyMember_36 : decode prog_9_method_28_code 36 = .ok (.iconst 0, 1) := by decide +kernel
theorem d_R_copyMember_37 : decode prog_9_method_28_code 37 = .ok (.aload_n 0, 1) := by decide +kernel
theorem d_R_copyMember_38 : decode prog_9_method_28_code 38 = .ok (.getfield 28, 3) := by decide +kernel
theorem d_R_copyMember_41 : decode prog_9_method_28_code 41 = .ok (.iload_n 1, 1) := by decide +kernel
theorem d_R_copyMember_42 : decode prog_9_method_28_code 42 = .ok (.iaload, 1) := by decide +kernel
theorem d_R_copyMember_43 : decode prog_9_method_28_code 43 = .ok (.invokestatic 100, 3) := by decide +kernel
theorem d_R_copyMember_46 : decode prog_9_method_28_code 46 = .ok (.aload_n 0, 1) := by decide +kernel
theorem d_R_copyMember_47 : decode prog_9_method_28_code 47 = .ok (.getfield 31, 3) := by decide +kernel
theorem d_R_copyMember_50 : decode prog_9_method_28_code 50 = .ok (.iload_n 1, 1) := by decide +kernel
theorem d_R_copyMember_51 : decode prog_9_method_28_code 51 = .ok (.iaload, 1) := by decide +kernel
theorem d_R_copyMember_52 : decode prog_9_method_28_code 52 = .ok (.iadd, 1) := by decide +kernel
theorem d_R_copyMember_53 : decode prog_9_method_28_code 53 = .ok (.iaload, 1) := by decide +kernel
theorem d_R_copyMember_54 : decode prog_9_method_28_code 54 = .ok (.iastore, 1) := by decide +kernel
theorem d_R_copyMember_55 : decode prog_9_method_28_code 55 = .ok (.aload_n 0, 1) := by decide +kernel
theorem d_R_copyMember_56 : decode prog_9_method_28_code 56 = .ok (.getfield 34, 3) := by decide +kernel
theorem d_R_copyMember_59 : decode prog_9_method_28_code 59 = .ok (.iload_n 2, 1) := by decide +kernel
theorem d_R_copyMember_60 : decode prog_9_method_28_code 60 = .ok (.aload_n 0, 1) := by decide +kernel
theorem d_R_copyMember_61 : decode prog_9_method_28_code 61 = .ok (.getfield 34, 3) := by decide +kernel
theorem d_R_copyMember_64 : decode prog_9_method_28_code 64 = .ok (.iload_n 1, 1) := by decide +kernel
theorem d_R_copyMember_65 : decode prog_9_method_28_code 65 = .ok (.iaload, 1) := by decide +kernel
theorem d_R_copyMember_66 : decode prog_9_method_28_code 66 = .ok (.iastore, 1) := by decide +kernel
theorem d_R_copyMember_67 : decode prog_9_method_28_code 67 = .ok (.aload_n 0, 1) := by decide +kernel
theorem d_R_copyMember_68 : decode prog_9_method_28_code 68 = .ok (.getfield 37, 3) := by decide +kernel
theorem d_R_copyMember_71 : decode prog_9_method_28_code 71 = .ok (.iload_n 2, 1) := by decide +kernel
theorem d_R_copyMember_72 : decode prog_9_method_28_code 72 = .ok (.aload_n 0, 1) := by decide +kernel
theorem d_R_copyMember_73 : decode prog_9_method_28_code 73 = .ok (.getfield 37, 3) := by decide +kernel
theorem d_R_copyMember_76 : decode prog_9_method_28_code 76 = .ok (.iload_n 1, 1) := by decide +kernel
theorem d_R_copyMember_77 : decode prog_9_method_28_code 77 = .ok (.iaload, 1) := by decide +kernel
theorem d_R_copyMember_78 : decode prog_9_method_28_code 78 = .ok (.iastore, 1) := by decide +kernel
theorem d_R_copyMember_79 : decode prog_9_method_28_code 79 = .ok (.aload_n 0, 1) := by decide +kernel
theorem d_R_copyMember_80 : decode prog_9_method_28_code 80 = .ok (.getfield 40, 3) := by decide +kernel
theorem d_R_copyMember_83 : decode prog_9_method_28_code 83 = .ok (.iload_n 2, 1) := by decide +kernel
theorem d_R_copyMember_84 : decode prog_9_method_28_code 84 = .ok (.aload_n 0, 1) := by decide +kernel
theorem d_R_copyMember_85 : decode prog_9_method_28_code 85 = .ok (.getfield 40, 3) := by decide +kernel
theorem d_R_copyMember_88 : decode prog_9_method_28_code 88 = .ok (.iload_n 1, 1) := by decide +kernel
theorem d_R_copyMember_89 : decode prog_9_method_28_code 89 = .ok (.baload, 1) := by decide +kernel
theorem d_R_copyMember_90 : decode prog_9_method_28_code 90 = .ok (.bastore, 1) := by decide +kernel
theorem d_R_copyMember_91 : decode prog_9_method_28_code 91 = .ok (.iconst 0, 1) := by decide +kernel
theorem d_R_copyMember_92 : decode prog_9_method_28_code 92 = .ok (.istore_n 3, 1) := by decide +kernel
theorem d_R_copyMember_93 : decode prog_9_method_28_code 93 = .ok (.iload_n 3, 1) := by decide +kernel
theorem d_R_copyMember_94 : decode prog_9_method_28_code 94 = .ok (.aload_n 0, 1) := by decide +kernel
theorem d_R_copyMember_95 : decode prog_9_method_28_code 95 = .ok (.getfield 37, 3) := by decide +kernel
theorem d_R_copyMember_98 : decode prog_9_method_28_code 98 = .ok (.iload_n 1, 1) := by decide +kernel
theorem d_R_copyMember_99 : decode prog_9_method_28_code 99 = .ok (.iaload, 1) := by decide +kernel
theorem d_R_copyMember_100 : decode prog_9_method_28_code 100 = .ok (.if_icmp .ge 90, 3) := by decide +kernel
theorem d_R_copyMember_103 : decode prog_9_method_28_code 103 = .ok (.aload_n 0, 1) := by decide +kernel
theorem d_R_copyMember_104 : decode prog_9_method_28_code 104 = .ok (.getfield 44, 3) := by decide +kernel
theorem d_R_copyMember_107 : decode prog_9_method_28_code 107 = .ok (.bipush 20, 2) := by decide +kernel
theorem d_R_copyMember_109 : decode prog_9_method_28_code 109 = .ok (.iload_n 1, 1) := by decide +kernel
theorem d_R_copyMember_110 : decode prog_9_method_28_code 110 = .ok (.imul, 1) := by decide +kernel
theorem d_R_copyMember_111 : decode prog_9_method_28_code 111 = .ok (.iload_n 3, 1) := by decide +kernel
theorem d_R_copyMember_112 : decode prog_9_method_28_code 112 = .ok (.iadd, 1) := by decide +kernel
theorem d_R_copyMember_113 : decode prog_9_method_28_code 113 = .ok (.iaload, 1) := by decide +kernel
theorem d_R_copyMember_114 : decode prog_9_method_28_code 114 = .ok (.istore 4, 2) := by decide +kernel
theorem d_R_copyMember_116 : decode prog_9_method_28_code 116 = .ok (.aload_n 0, 1) := by decide +kernel
theorem d_R_copyMember_117 : decode prog_9_method_28_code 117 = .ok (.getfield 47, 3) := by decide +kernel
theorem d_R_copyMember_120 : decode prog_9_method_28_code 120 = .ok (.bipush 20, 2) := by decide +kernel
theorem d_R_copyMember_122 : decode prog_9_method_28_code 122 = .ok (.iload_n 1, 1) := by decide +kernel
theorem d_R_copyMember_123 : decode prog_9_method_28_code 123 = .ok (.imul, 1) := by decide +kernel
theorem d_R_copyMember_124 : decode prog_9_method_28_code 124 = .ok (.iload_n 3, 1) := by decide +kernel
theorem d_R_copyMember_125 : decode prog_9_method_28_code 125 = .ok (.iadd, 1) := by decide +kernel
theorem d_R_copyMember_126 : decode prog_9_method_28_code 126 = .ok (.iaload, 1) := by decide +kernel
theorem d_R_copyMember_127 : decode prog_9_method_28_code 127 = .ok (.istore 5, 2) := by decide +kernel
theorem d_R_copyMember_129 : decode prog_9_method_28_code 129 = .ok (.aload_n 0, 1) := by decide +kernel
theorem d_R_copyMember_130 : decode prog_9_method_28_code 130 = .ok (.getfield 44, 3) := by decide +kernel
theorem d_R_copyMember_133 : decode prog_9_method_28_code 133 = .ok (.bipush 20, 2) := by decide +kernel
theorem d_R_copyMember_135 : decode prog_9_method_28_code 135 = .ok (.iload_n 2, 1) := by decide +kernel
theorem d_R_copyMember_136 : decode prog_9_method_28_code 136 = .ok (.imul, 1) := by decide +kernel
theorem d_R_copyMember_137 : decode prog_9_method_28_code 137 = .ok (.iload_n 3, 1) := by decide +kernel
theorem d_R_copyMember_138 : decode prog_9_method_28_code 138 = .ok (.iadd, 1) := by decide +kernel
theorem d_R_copyMember_139 : decode prog_9_method_28_code 139 = .ok (.iload 4, 2) := by decide +kernel
theorem d_R_copyMember_141 : decode prog_9_method_28_code 141 = .ok (.iastore, 1) := by decide +kernel
theorem d_R_copyMember_142 : decode prog_9_method_28_code 142 = .ok (.aload_n 0, 1) := by decide +kernel
theorem d_R_copyMember_143 : decode prog_9_method_28_code 143 = .ok (.getfield 47, 3) := by decide +kernel
theorem d_R_copyMember_146 : decode prog_9_method_28_code 146 = .ok (.bipush 20, 2) := by decide +kernel
theorem d_R_copyMember_148 : decode prog_9_method_28_code 148 = .ok (.iload_n 2, 1) := by decide +kernel
theorem d_R_copyMember_149 : decode prog_9_method_28_code 149 = .ok (.imul, 1) := by decide +kernel
theorem d_R_copyMember_150 : decode prog_9_method_28_code 150 = .ok (.iload_n 3, 1) := by decide +kernel
theorem d_R_copyMember_151 : decode prog_9_method_28_code 151 = .ok (.iadd, 1) := by decide +kernel
theorem d_R_copyMember_152 : decode prog_9_method_28_code 152 = .ok (.iload 4, 2) := by decide +kernel
theorem d_R_copyMember_154 : decode prog_9_method_28_code 154 = .ok (.invokestatic 133, 3) := by decide +kernel
theorem d_R_copyMember_157 : decode prog_9_method_28_code 157 = .ok (.ifCond .eq 24, 3) := by decide +kernel
theorem d_R_copyMember_160 : decode prog_9_method_28_code 160 = .ok (.aload_n 0, 1) := by decide +kernel
theorem d_R_copyMember_161 : decode prog_9_method_28_code 161 = .ok (.getfield 62, 3) := by decide +kernel
theorem d_R_copyMember_164 : decode prog_9_method_28_code 164 = .ok (.iconst 0, 1) := by decide +kernel
theorem d_R_copyMember_165 : decode prog_9_method_28_code 165 = .ok (.aload_n 0, 1) := by decide +kernel
theorem d_R_copyMember_166 : decode prog_9_method_28_code 166 = .ok (.getfield 28, 3) := by decide +kernel
theorem d_R_copyMember_169 : decode prog_9_method_28_code 169 = .ok (.iload_n 1, 1) := by decide +kernel
theorem d_R_copyMember_170 : decode prog_9_method_28_code 170 = .ok (.iaload, 1) := by decide +kernel
theorem d_R_copyMember_171 : decode prog_9_method_28_code 171 = .ok (.invokestatic 100, 3) := by decide +kernel
theorem d_R_copyMember_174 : decode prog_9_method_28_code 174 = .ok (.iload 5, 2) := by decide +kernel
theorem d_R_copyMember_176 : decode prog_9_method_28_code 176 = .ok (.iadd, 1) := by decide +kernel
theorem d_R_copyMember_177 : decode prog_9_method_28_code 177 = .ok (.iaload, 1) := by decide +kernel
theorem d_R_copyMember_178 : decode prog_9_method_28_code 178 = .ok (.goto 5, 3) := by decide +kernel
theorem d_R_copyMember_181 : decode prog_9_method_28_code 181 = .ok (.iload 5, 2) := by decide +kernel
theorem d_R_copyMember_183 : decode prog_9_method_28_code 183 = .ok (.iastore, 1) := by decide +kernel
theorem d_R_copyMember_184 : decode prog_9_method_28_code 184 = .ok (.iinc 3 1, 3) := by decide +kernel
theorem d_R_copyMember_187 : decode prog_9_method_28_code 187 = .ok (.goto (-94), 3) := by decide +kernel
theorem d_R_copyMember_190 : decode prog_9_method_28_code 190 = .ok (.aload_n 0, 1) := by decide +kernel
theorem d_R_copyMember_191 : decode prog_9_method_28_code 191 = .ok (.getfield 13, 3) := by decide +kernel
theorem d_R_copyMember_194 : decode prog_9_method_28_code 194 = .ok (.iconst 1, 1) := by decide +kernel
theorem d_R_copyMember_195 : decode prog_9_method_28_code 195 = .ok (.dup2, 1) := by decide +kernel
theorem d_R_copyMember_196 : decode prog_9_method_28_code 196 = .ok (.iaload, 1) := by decide +kernel
theorem d_R_copyMember_197 : decode prog_9_method_28_code 197 = .ok (.iconst 1, 1) := by decide +kernel
theorem d_R_copyMember_198 : decode prog_9_method_28_code 198 = .ok (.iadd, 1) := by decide +kernel
theorem d_R_copyMember_199 : decode prog_9_method_28_code 199 = .ok (.iastore, 1) := by decide +kernel
theorem d_R_copyMember_200 : decode prog_9_method_28_code 200 = .ok (.return_, 1) := by decide +kernel
theorem d_R_copyKept_0 : decode prog_9_method_26_code 0 = .ok (.aload_n 0, 1) := by decide +kernel
theorem d_R_copyKept_1 : decode prog_9_method_26_code 1 = .ok (.getfield 7, 3) := by decide +kernel
theorem d_R_copyKept_4 : decode prog_9_method_26_code 4 = .ok (.iconst 1, 1) := by decide +kernel
theorem d_R_copyKept_5 : decode prog_9_method_26_code 5 = .ok (.iconst 0, 1) := by decide +kernel
theorem d_R_copyKept_6 : decode prog_9_method_26_code 6 = .ok (.iastore, 1) := by decide +kernel
theorem d_R_copyKept_7 : decode prog_9_method_26_code 7 = .ok (.aload_n 0, 1) := by decide +kernel
theorem d_R_copyKept_8 : decode prog_9_method_26_code 8 = .ok (.getfield 13, 3) := by decide +kernel
theorem d_R_copyKept_11 : decode prog_9_method_26_code 11 = .ok (.iconst 1, 1) := by decide +kernel
theorem d_R_copyKept_12 : decode prog_9_method_26_code 12 = .ok (.iconst 0, 1) := by decide +kernel
theorem d_R_copyKept_13 : decode prog_9_method_26_code 13 = .ok (.iastore, 1) := by decide +kernel
theorem d_R_copyKept_14 : decode prog_9_method_26_code 14 = .ok (.iconst 0, 1) := by decide +kernel
theorem d_R_copyKept_15 : decode prog_9_method_26_code 15 = .ok (.istore_n 1, 1) := by decide +kernel
theorem d_R_copyKept_16 : decode prog_9_method_26_code 16 = .ok (.iload_n 1, 1) := by decide +kernel
theorem d_R_copyKept_17 : decode prog_9_method_26_code 17 = .ok (.aload_n 0, 1) := by decide +kernel
theorem d_R_copyKept_18 : decode prog_9_method_26_code 18 = .ok (.getfield 7, 3) := by decide +kernel
theorem d_R_copyKept_21 : decode prog_9_method_26_code 21 = .ok (.iconst 0, 1) := by decide +kernel
theorem d_R_copyKept_22 : decode prog_9_method_26_code 22 = .ok (.iaload, 1) := by decide +kernel
theorem d_R_copyKept_23 : decode prog_9_method_26_code 23 = .ok (.if_icmp .ge 23, 3) := by decide +kernel
theorem d_R_copyKept_26 : decode prog_9_method_26_code 26 = .ok (.aload_n 0, 1) := by decide +kernel
theorem d_R_copyKept_27 : decode prog_9_method_26_code 27 = .ok (.getfield 56, 3) := by decide +kernel
theorem d_R_copyKept_30 : decode prog_9_method_26_code 30 = .ok (.iload_n 1, 1) := by decide +kernel
theorem d_R_copyKept_31 : decode prog_9_method_26_code 31 = .ok (.iaload, 1) := by decide +kernel
theorem d_R_copyKept_32 : decode prog_9_method_26_code 32 = .ok (.ifCond .lt 8, 3) := by decide +kernel
theorem d_R_copyKept_35 : decode prog_9_method_26_code 35 = .ok (.aload_n 0, 1) := by decide +kernel
theorem d_R_copyKept_36 : decode prog_9_method_26_code 36 = .ok (.iload_n 1, 1) := by decide +kernel
theorem d_R_copyKept_37 : decode prog_9_method_26_code 37 = .ok (.invokevirtual 137, 3) := by decide +kernel
theorem d_R_copyKept_40 : decode prog_9_method_26_code 40 = .ok (.iinc 1 1, 3) := by decide +kernel
theorem d_R_copyKept_43 : decode prog_9_method_26_code 43 = .ok (.goto (-27), 3) := by decide +kernel
theorem d_R_copyKept_46 : decode prog_9_method_26_code 46 = .ok (.iconst 0, 1) := by decide +kernel
theorem d_R_copyKept_47 : decode prog_9_method_26_code 47 = .ok (.istore_n 1, 1) := by decide +kernel
theorem d_R_copyKept_48 : decode prog_9_method_26_code 48 = .ok (.iload_n 1, 1) := by decide +kernel
theorem d_R_copyKept_49 : decode prog_9_method_26_code 49 = .ok (.aload_n 0, 1) := by decide +kernel
theorem d_R_copyKept_50 : decode prog_9_method_26_code 50 = .ok (.getfield 13, 3) := by decide +kernel
theorem d_R_copyKept_53 : decode prog_9_method_26_code 53 = .ok (.iconst 0, 1) := by decide +kernel
theorem d_R_copyKept_54 : decode prog_9_method_26_code 54 = .ok (.iaload, 1) := by decide +kernel
theorem d_R_copyKept_55 : decode prog_9_method_26_code 55 = .ok (.if_icmp .ge 23, 3) := by decide +kernel
theorem d_R_copyKept_58 : decode prog_9_method_26_code 58 = .ok (.aload_n 0, 1) := by decide +kernel
theorem d_R_copyKept_59 : decode prog_9_method_26_code 59 = .ok (.getfield 53, 3) := by decide +kernel
theorem d_R_copyKept_62 : decode prog_9_method_26_code 62 = .ok (.iload_n 1, 1) := by decide +kernel
theorem d_R_copyKept_63 : decode prog_9_method_26_code 63 = .ok (.baload, 1) := by decide +kernel
theorem d_R_copyKept_64 : decode prog_9_method_26_code 64 = .ok (.ifCond .eq 8, 3) := by decide +kernel
theorem d_R_copyKept_67 : decode prog_9_method_26_code 67 = .ok (.aload_n 0, 1) := by decide +kernel
theorem d_R_copyKept_68 : decode prog_9_method_26_code 68 = .ok (.iload_n 1, 1) := by decide +kernel
theorem d_R_copyKept_69 : decode prog_9_method_26_code 69 = .ok (.invokevirtual 141, 3) := by decide +kernel
theorem d_R_copyKept_72 : decode prog_9_method_26_code 72 = .ok (.iinc 1 1, 3) := by decide +kernel
theorem d_R_copyKept_75 : decode prog_9_method_26_code 75 = .ok (.goto (-27), 3) := by decide +kernel
theorem d_R_copyKept_78 : decode prog_9_method_26_code 78 = .ok (.return_, 1) := by decide +kernel
theorem d_R_shake_0 : decode prog_9_method_29_code 0 = .ok (.aload_n 0, 1) := by decide +kernel
theorem d_R_shake_1 : decode prog_9_method_29_code 1 = .ok (.aload_n 0, 1) := by decide +kernel
theorem d_R_shake_2 : decode prog_9_method_29_code 2 = .ok (.invokevirtual 129, 3) := by decide +kernel
theorem d_R_shake_5 : decode prog_9_method_29_code 5 = .ok (.ifCond .ge 11, 3) := by decide +kernel
theorem d_R_shake_8 : decode prog_9_method_29_code 8 = .ok (.aload_n 0, 1) := by decide +kernel
theorem d_R_shake_9 : decode prog_9_method_29_code 9 = .ok (.iconst 0, 1) := by decide +kernel
theorem d_R_shake_10 : decode prog_9_method_29_code 10 = .ok (.invokevirtual 144, 3) := by decide +kernel
theorem d_R_shake_13 : decode prog_9_method_29_code 13 = .ok (.ifCond .ne 7, 3) := by decide +kernel
theorem d_R_shake_16 : decode prog_9_method_29_code 16 = .ok (.iconst 1, 1) := by decide +kernel
theorem d_R_shake_17 : decode prog_9_method_29_code 17 = .ok (.goto 4, 3) := by decide +kernel
theorem d_R_shake_20 : decode prog_9_method_29_code 20 = .ok (.iconst 0, 1) := by decide +kernel
theorem d_R_shake_21 : decode prog_9_method_29_code 21 = .ok (.putfield 92, 3) := by decide +kernel
theorem d_R_shake_24 : decode prog_9_method_29_code 24 = .ok (.aload_n 0, 1) := by decide +kernel
theorem d_R_shake_25 : decode prog_9_method_29_code 25 = .ok (.getfield 92, 3) := by decide +kernel
theorem d_R_shake_28 : decode prog_9_method_29_code 28 = .ok (.ifCond .le 5, 3) := by decide +kernel
theorem d_R_shake_31 : decode prog_9_method_29_code 31 = .ok (.iconst 0, 1) := by decide +kernel
theorem d_R_shake_32 : decode prog_9_method_29_code 32 = .ok (.ireturn, 1) := by decide +kernel
theorem d_R_shake_33 : decode prog_9_method_29_code 33 = .ok (.aload_n 0, 1) := by decide +kernel
theorem d_R_shake_34 : decode prog_9_method_29_code 34 = .ok (.invokevirtual 148, 3) := by decide +kernel
theorem d_R_shake_37 : decode prog_9_method_29_code 37 = .ok (.aload_n 0, 1) := by decide +kernel
theorem d_R_shake_38 : decode prog_9_method_29_code 38 = .ok (.invokevirtual 151, 3) := by decide +kernel
theorem d_R_shake_41 : decode prog_9_method_29_code 41 = .ok (.aload_n 0, 1) := by decide +kernel
theorem d_R_shake_42 : decode prog_9_method_29_code 42 = .ok (.invokevirtual 154, 3) := by decide +kernel
theorem d_R_shake_45 : decode prog_9_method_29_code 45 = .ok (.aload_n 0, 1) := by decide +kernel
theorem d_R_shake_46 : decode prog_9_method_29_code 46 = .ok (.invokevirtual 157, 3) := by decide +kernel
theorem d_R_shake_49 : decode prog_9_method_29_code 49 = .ok (.aload_n 0, 1) := by decide +kernel
theorem d_R_shake_50 : decode prog_9_method_29_code 50 = .ok (.invokevirtual 160, 3) := by decide +kernel
theorem d_R_shake_53 : decode prog_9_method_29_code 53 = .ok (.aload_n 0, 1) := by decide +kernel
theorem d_R_shake_54 : decode prog_9_method_29_code 54 = .ok (.getfield 13, 3) := by decide +kernel
theorem d_R_shake_57 : decode prog_9_method_29_code 57 = .ok (.iconst 1, 1) := by decide +kernel
theorem d_R_shake_58 : decode prog_9_method_29_code 58 = .ok (.iaload, 1) := by decide +kernel
theorem d_R_shake_59 : decode prog_9_method_29_code 59 = .ok (.ireturn, 1) := by decide +kernel
theorem d_R_count_0 : decode prog_9_method_30_code 0 = .ok (.aload_n 0, 1) := by decide +kernel
theorem d_R_count_1 : decode prog_9_method_30_code 1 = .ok (.iload_n 2, 1) := by decide +kernel
theorem d_R_count_2 : decode prog_9_method_30_code 2 = .ok (.ifCond .lt 8, 3) := by decide +kernel
theorem d_R_count_5 : decode prog_9_method_30_code 5 = .ok (.iload_n 2, 1) := by decide +kernel
theorem d_R_count_6 : decode prog_9_method_30_code 6 = .ok (.iconst 2, 1) := by decide +kernel
theorem d_R_count_7 : decode prog_9_method_30_code 7 = .ok (.if_icmp .le 7, 3) := by decide +kernel
theorem d_R_count_10 : decode prog_9_method_30_code 10 = .ok (.iconst 1, 1) := by decide +kernel
theorem d_R_count_11 : decode prog_9_method_30_code 11 = .ok (.goto 4, 3) := by decide +kernel
theorem d_R_count_14 : decode prog_9_method_30_code 14 = .ok (.iconst 0, 1) := by decide +kernel
theorem d_R_count_15 : decode prog_9_method_30_code 15 = .ok (.putfield 92, 3) := by decide +kernel
theorem d_R_count_18 : decode prog_9_method_30_code 18 = .ok (.iload_n 1, 1) := by decide +kernel
theorem d_R_count_19 : decode prog_9_method_30_code 19 = .ok (.ifCond .eq 7, 3) := by decide +kernel
theorem d_R_count_22 : decode prog_9_method_30_code 22 = .ok (.iconst 1, 1) := by decide +kernel
theorem d_R_count_23 : decode prog_9_method_30_code 23 = .ok (.goto 4, 3) := by decide +kernel
theorem d_R_count_26 : decode prog_9_method_30_code 26 = .ok (.iconst 0, 1) := by decide +kernel
theorem d_R_count_27 : decode prog_9_method_30_code 27 = .ok (.istore_n 3, 1) := by decide +kernel
theorem d_R_count_28 : decode prog_9_method_30_code 28 = .ok (.aload_n 0, 1) := by decide +kernel
theorem d_R_count_29 : decode prog_9_method_30_code 29 = .ok (.getfield 92, 3) := by decide +kernel
theorem d_R_count_32 : decode prog_9_method_30_code 32 = .ok (.ifCond .le 7, 3) := by decide +kernel
theorem d_R_count_35 : decode prog_9_method_30_code 35 = .ok (.iconst 0, 1) := by decide +kernel
theorem d_R_count_36 : decode prog_9_method_30_code 36 = .ok (.goto 35, 3) := by decide +kernel
theorem d_R_count_39 : decode prog_9_method_30_code 39 = .ok (.iload_n 2, 1) := by decide +kernel
theorem d_R_count_40 : decode prog_9_method_30_code 40 = .ok (.ifCond .ne 12, 3) := by decide +kernel
theorem d_R_count_43 : decode prog_9_method_30_code 43 = .ok (.aload_n 0, 1) := by decide +kernel
theorem d_R_count_44 : decode prog_9_method_30_code 44 = .ok (.getfield 7, 3) := by decide +kernel
theorem d_R_count_47 : decode prog_9_method_30_code 47 = .ok (.iload_n 3, 1) := by decide +kernel
theorem d_R_count_48 : decode prog_9_method_30_code 48 = .ok (.iaload, 1) := by decide +kernel
theorem d_R_count_49 : decode prog_9_method_30_code 49 = .ok (.goto 22, 3) := by decide +kernel
theorem d_R_count_52 : decode prog_9_method_30_code 52 = .ok (.iload_n 2, 1) := by decide +kernel
theorem d_R_count_53 : decode prog_9_method_30_code 53 = .ok (.iconst 1, 1) := by decide +kernel
theorem d_R_count_54 : decode prog_9_method_30_code 54 = .ok (.if_icmp .ne 12, 3) := by decide +kernel
theorem d_R_count_57 : decode prog_9_method_30_code 57 = .ok (.aload_n 0, 1) := by decide +kernel
theorem d_R_count_58 : decode prog_9_method_30_code 58 = .ok (.getfield 13, 3) := by decide +kernel
theorem d_R_count_61 : decode prog_9_method_30_code 61 = .ok (.iload_n 3, 1) := by decide +kernel
theorem d_R_count_62 : decode prog_9_method_30_code 62 = .ok (.iaload, 1) := by decide +kernel
theorem d_R_count_63 : decode prog_9_method_30_code 63 = .ok (.goto 8, 3) := by decide +kernel
theorem d_R_count_66 : decode prog_9_method_30_code 66 = .ok (.aload_n 0, 1) := by decide +kernel
theorem d_R_count_67 : decode prog_9_method_30_code 67 = .ok (.iload_n 3, 1) := by decide +kernel
theorem d_R_count_68 : decode prog_9_method_30_code 68 = .ok (.invokevirtual 144, 3) := by decide +kernel
theorem d_R_count_71 : decode prog_9_method_30_code 71 = .ok (.ireturn, 1) := by decide +kernel
def g_R_giveNames_239 (r71 : Nat → Int32 → Int32 → XM → XP) : Nat → Nat → Int32 → Int32 → XM → XP
  | 0, _, _, _, _ => none
  | n + 1, v0, v1, v2, M =>
    gR M 27 v0 20 fun t1 =>
    aZ M t1 v1 fun t2 =>
    if t2 = 0 then
    (gR M 27 v0 20 fun t3 =>
    sZ M t3 v1 1 fun M4 =>
    gR M4 27 v0 19 fun t5 =>
    sI M4 t5 v2 v1 fun M6 =>
    r71 v0 v1 ((v2 + 1)) M6)
    else
    g_R_giveNames_239 r71 n v0 ((v1 + 1)) v2 M
def g_R_giveNames_155 (r71 : Nat → Int32 → Int32 → XM → XP) (r136 : Nat → Int32 → Int32 → Int32 → Int32 → Int32 → XM → XP) : Nat → Nat → Int32 → Int32 → Int32 → Int32 → Int32 → Int32 → XM → XP
  | 0, _, _, _, _, _, _, _, _ => none
  | n + 1, v0, v1, v2, v3, v4, v5, v6, M =>
    cI (g_R_base 0 v5 M) fun t2 M1 =>
    gR M1 27 v0 3 fun t3 =>
    aI M1 t3 v5 fun t4 =>
    if (t2 + t4) ≤ v6 then
    (r136 v0 v1 v2 v3 v4 ((v5 + 1)) M1)
    else
    if ¬ v4 = 0 then
    (g_R_giveNames_155 r71 r136 n v0 v1 v2 v3 1 v5 ((v6 + 1)) M1)
    else
    gR M1 27 v0 17 fun t5 =>
    aZ M1 t5 v6 fun t6 =>
    if t6 = 0 then
    (g_R_giveNames_155 r71 r136 n v0 v1 v2 v3 0 v5 ((v6 + 1)) M1)
    else
    gR M1 27 v0 4 fun t7 =>
    aI M1 t7 v6 fun t8 =>
    if ¬ t8 = 1 then
    (g_R_giveNames_155 r71 r136 n v0 v1 v2 v3 0 v5 ((v6 + 1)) M1)
    else
    gR M1 27 v0 5 fun t9 =>
    aI M1 t9 v6 fun t10 =>
    if ¬ t10 = v2 then
    (g_R_giveNames_155 r71 r136 n v0 v1 v2 v3 0 v5 ((v6 + 1)) M1)
    else
    g_R_giveNames_155 r71 r136 n v0 v1 v2 v3 1 v5 ((v6 + 1)) M1
def g_R_giveNames_136 (r71 : Nat → Int32 → Int32 → XM → XP) : Nat → Nat → Int32 → Int32 → Int32 → Int32 → Int32 → XM → XP
  | 0, _, _, _, _, _, _, _ => none
  | n + 1, v0, v1, v2, v3, v4, v5, M =>
    gR M 27 v0 1 fun t1 =>
    aI M t1 0 fun t2 =>
    if t2 ≤ v5 then
    (if v4 = 0 then
    (r71 v0 v1 ((v2 + 1)) M)
    else
    if ¬ v3 = 0 then
    (r71 v0 v1 ((v2 + 1)) M)
    else
    g_R_giveNames_239 r71 FU v0 v1 v2 M)
    else
    cI (g_R_base 0 v5 M) fun t4 M3 =>
    g_R_giveNames_155 r71 (g_R_giveNames_136 r71 n) FU v0 v1 v2 v3 v4 v5 t4 M3
def g_R_giveNames_82 (r71 : Nat → Int32 → Int32 → XM → XP) : Nat → Nat → Int32 → Int32 → Int32 → Int32 → XM → XP
  | 0, _, _, _, _, _, _ => none
  | n + 1, v0, v1, v2, v3, v4, M =>
    gR M 27 v0 2 fun t1 =>
    aI M t1 0 fun t2 =>
    if t2 ≤ v4 then
    (g_R_giveNames_136 r71 FU v0 v1 v2 v3 0 0 M)
    else
    if ¬ v3 = 0 then
    (g_R_giveNames_82 r71 n v0 v1 v2 1 ((v4 + 1)) M)
    else
    gR M 27 v0 11 fun t3 =>
    aZ M t3 v4 fun t4 =>
    if t4 = 0 then
    (g_R_giveNames_82 r71 n v0 v1 v2 0 ((v4 + 1)) M)
    else
    rv M 27 v0 <|
    cI (g_R_nameOf v0 0 v4 M) fun t7 M6 =>
    if ¬ t7 = v2 then
    (g_R_giveNames_82 r71 n v0 v1 v2 0 ((v4 + 1)) M6)
    else
    g_R_giveNames_82 r71 n v0 v1 v2 1 ((v4 + 1)) M6
def g_R_giveNames_71 : Nat → Nat → Int32 → Int32 → XM → XP
  | 0, _, _, _, _ => none
  | n + 1, v0, v1, v2, M =>
    if 100 ≤ v2 then
    (some (.inl none, M))
    else
    g_R_giveNames_82 (g_R_giveNames_71 n) FU v0 v1 v2 0 0 M
def g_R_giveNames_30 : Nat → Nat → Int32 → XM → XP
  | 0, _, _, _ => none
  | n + 1, v0, v1, M =>
    gR M 27 v0 2 fun t1 =>
    aI M t1 0 fun t2 =>
    if t2 ≤ v1 then
    (g_R_giveNames_71 FU v0 0 0 M)
    else
    gR M 27 v0 11 fun t3 =>
    aZ M t3 v1 fun t4 =>
    if t4 = 0 then
    (g_R_giveNames_30 n v0 ((v1 + 1)) M)
    else
    gR M 27 v0 20 fun t5 =>
    rv M 27 v0 <|
    cI (g_R_nameOf v0 0 v1 M) fun t8 M7 =>
    sZ M7 t5 t8 1 fun M9 =>
    g_R_giveNames_30 n v0 ((v1 + 1)) M9
def g_R_giveNames_2 : Nat → Nat → Int32 → XM → XP
  | 0, _, _, _ => none
  | n + 1, v0, v1, M =>
    if 100 ≤ v1 then
    (g_R_giveNames_30 FU v0 0 M)
    else
    gR M 27 v0 20 fun t1 =>
    sZ M t1 v1 0 fun M2 =>
    gR M2 27 v0 19 fun t3 =>
    sI M2 t3 v1 v1 fun M4 =>
    g_R_giveNames_2 n v0 ((v1 + 1)) M4
def g_R_giveNames (v0 : Nat) (M : XM) : XP :=
    g_R_giveNames_2 FU v0 0 M
def g_R_copyPool_208 (r23 : Nat → Int32 → Int32 → Int32 → XM → XP) (v0 : Nat) (v1 : Int32) (v2 : Int32) (v3 : Int32) (s0 : Nat) (s1 : Int32) (s2 : Int32) (M : XM) : XP :=
    sI M s0 s1 s2 fun M1 =>
    gR M1 27 v0 3 fun t2 =>
    aI M1 t2 v2 fun t3 =>
    sI M1 t2 v2 (t3 + 1) fun M4 =>
    r23 v0 v1 v2 ((v3 + 1)) M4
def g_R_copyPool_170 (r23 : Nat → Int32 → Int32 → Int32 → XM → XP) (v0 : Nat) (v1 : Int32) (v2 : Int32) (v3 : Int32) (v4 : Int32) (s0 : Nat) (s1 : Int32) (s2 : Int32) (M : XM) : XP :=
    sI M s0 s1 s2 fun M1 =>
    gR M1 27 v0 6 fun t2 =>
    gR M1 27 v0 4 fun t3 =>
    aI M1 t3 v3 fun t4 =>
    if t4 < 3 then
    (g_R_copyPool_208 r23 v0 v1 v2 v3 t2 v4 0 M1)
    else
    gR M1 27 v0 18 fun t5 =>
    cI (g_R_base 0 v1 M1) fun t7 M6 =>
    gR M6 27 v0 6 fun t8 =>
    aI M6 t8 v3 fun t9 =>
    aI M6 t5 (t7 + t9) fun t10 =>
    g_R_copyPool_208 r23 v0 v1 v2 v3 t2 v4 t10 M6
def g_R_copyPool_23 : Nat → Nat → Int32 → Int32 → Int32 → XM → XP
  | 0, _, _, _, _, _ => none
  | n + 1, v0, v1, v2, v3, M =>
    cI (g_R_base 0 v1 M) fun t2 M1 =>
    gR M1 27 v0 3 fun t3 =>
    aI M1 t3 v1 fun t4 =>
    if (t2 + t4) ≤ v3 then
    (gR M1 27 v0 1 fun t5 =>
    aI M1 t5 1 fun t6 =>
    sI M1 t5 1 (t6 + 1) fun M7 =>
    some (.inl none, M7))
    else
    gR M1 27 v0 17 fun t8 =>
    aZ M1 t8 v3 fun t9 =>
    if t9 = 0 then
    (g_R_copyPool_23 n v0 v1 v2 ((v3 + 1)) M1)
    else
    gR M1 27 v0 1 fun t10 =>
    aI M1 t10 1 fun t11 =>
    cI (g_R_base 1 t11 M1) fun t13 M12 =>
    gR M12 27 v0 3 fun t14 =>
    aI M12 t14 v2 fun t15 =>
    gR M12 27 v0 4 fun t16 =>
    gR M12 27 v0 4 fun t17 =>
    aI M12 t17 v3 fun t18 =>
    sI M12 t16 (t13 + t15) t18 fun M19 =>
    gR M19 27 v0 5 fun t20 =>
    gR M19 27 v0 4 fun t21 =>
    aI M19 t21 v3 fun t22 =>
    if ¬ t22 = 1 then
    (gR M19 27 v0 4 fun t23 =>
    aI M19 t23 v3 fun t24 =>
    if ¬ t24 = 2 then
    (gR M19 27 v0 4 fun t25 =>
    aI M19 t25 v3 fun t26 =>
    if t26 < 3 then
    (gR M19 27 v0 5 fun t27 =>
    aI M19 t27 v3 fun t28 =>
    g_R_copyPool_170 (g_R_copyPool_23 n) v0 v1 v2 v3 ((t13 + t15)) t20 ((t13 + t15)) t28 M19)
    else
    gR M19 27 v0 18 fun t29 =>
    cI (g_R_base 0 v1 M19) fun t31 M30 =>
    gR M30 27 v0 5 fun t32 =>
    aI M30 t32 v3 fun t33 =>
    aI M30 t29 (t31 + t33) fun t34 =>
    g_R_copyPool_170 (g_R_copyPool_23 n) v0 v1 v2 v3 ((t13 + t15)) t20 ((t13 + t15)) t34 M30)
    else
    gR M19 27 v0 16 fun t35 =>
    gR M19 27 v0 5 fun t36 =>
    aI M19 t36 v3 fun t37 =>
    aI M19 t35 t37 fun t38 =>
    g_R_copyPool_170 (g_R_copyPool_23 n) v0 v1 v2 v3 ((t13 + t15)) t20 ((t13 + t15)) t38 M19)
    else
    gR M19 27 v0 19 fun t39 =>
    gR M19 27 v0 5 fun t40 =>
    aI M19 t40 v3 fun t41 =>
    aI M19 t39 t41 fun t42 =>
    g_R_copyPool_170 (g_R_copyPool_23 n) v0 v1 v2 v3 ((t13 + t15)) t20 ((t13 + t15)) t42 M19
def g_R_copyPool (v0 : Nat) (v1 : Int32) (M : XM) : XP :=
    gR M 27 v0 1 fun t1 =>
    aI M t1 1 fun t2 =>
    gR M 27 v0 3 fun t3 =>
    sI M t3 (6 + t2) 0 fun M4 =>
    cI (g_R_base 0 v1 M4) fun t6 M5 =>
    g_R_copyPool_23 FU v0 v1 ((6 + t2)) t6 M5
def g_R_copyMember_93 : Nat → Nat → Int32 → Int32 → Int32 → XM → XP
  | 0, _, _, _, _, _ => none
  | n + 1, v0, v1, v2, v3, M =>
    gR M 27 v0 10 fun t1 =>
    aI M t1 v1 fun t2 =>
    if t2 ≤ v3 then
    (gR M 27 v0 2 fun t3 =>
    aI M t3 1 fun t4 =>
    sI M t3 1 (t4 + 1) fun M5 =>
    some (.inl none, M5))
    else
    gR M 27 v0 12 fun t6 =>
    aI M t6 ((20 * v1) + v3) fun t7 =>
    gR M 27 v0 13 fun t8 =>
    aI M t8 ((20 * v1) + v3) fun t9 =>
    gR M 27 v0 12 fun t10 =>
    sI M t10 ((20 * v2) + v3) t7 fun M11 =>
    gR M11 27 v0 13 fun t12 =>
    cI (g_R_usesPool t7 M11) fun t14 M13 =>
    if t14 = 0 then
    (sI M13 t12 ((20 * v2) + v3) t9 fun M15 =>
    g_R_copyMember_93 n v0 v1 v2 ((v3 + 1)) M15)
    else
    gR M13 27 v0 18 fun t16 =>
    gR M13 27 v0 7 fun t17 =>
    aI M13 t17 v1 fun t18 =>
    cI (g_R_base 0 t18 M13) fun t20 M19 =>
    aI M19 t16 (t20 + t9) fun t21 =>
    sI M19 t12 ((20 * v2) + v3) t21 fun M22 =>
    g_R_copyMember_93 n v0 v1 v2 ((v3 + 1)) M22
def g_R_copyMember (v0 : Nat) (v1 : Int32) (M : XM) : XP :=
    gR M 27 v0 2 fun t1 =>
    aI M t1 1 fun t2 =>
    gR M 27 v0 7 fun t3 =>
    gR M 27 v0 16 fun t4 =>
    gR M 27 v0 7 fun t5 =>
    aI M t5 v1 fun t6 =>
    aI M t4 t6 fun t7 =>
    sI M t3 (30 + t2) t7 fun M8 =>
    gR M8 27 v0 8 fun t9 =>
    gR M8 27 v0 18 fun t10 =>
    gR M8 27 v0 7 fun t11 =>
    aI M8 t11 v1 fun t12 =>
    cI (g_R_base 0 t12 M8) fun t14 M13 =>
    gR M13 27 v0 8 fun t15 =>
    aI M13 t15 v1 fun t16 =>
    aI M13 t10 (t14 + t16) fun t17 =>
    sI M13 t9 (30 + t2) t17 fun M18 =>
    gR M18 27 v0 9 fun t19 =>
    gR M18 27 v0 9 fun t20 =>
    aI M18 t20 v1 fun t21 =>
    sI M18 t19 (30 + t2) t21 fun M22 =>
    gR M22 27 v0 10 fun t23 =>
    gR M22 27 v0 10 fun t24 =>
    aI M22 t24 v1 fun t25 =>
    sI M22 t23 (30 + t2) t25 fun M26 =>
    gR M26 27 v0 11 fun t27 =>
    gR M26 27 v0 11 fun t28 =>
    aZ M26 t28 v1 fun t29 =>
    sZ M26 t27 (30 + t2) t29 fun M30 =>
    g_R_copyMember_93 FU v0 v1 ((30 + t2)) 0 M30
def g_R_copyKept_48 : Nat → Nat → Int32 → XM → XP
  | 0, _, _, _ => none
  | n + 1, v0, v1, M =>
    gR M 27 v0 2 fun t1 =>
    aI M t1 0 fun t2 =>
    if t2 ≤ v1 then
    (some (.inl none, M))
    else
    gR M 27 v0 15 fun t3 =>
    aZ M t3 v1 fun t4 =>
    if t4 = 0 then
    (g_R_copyKept_48 n v0 ((v1 + 1)) M)
    else
    rv M 27 v0 <|
    cV (g_R_copyMember v0 v1 M) fun M6 =>
    g_R_copyKept_48 n v0 ((v1 + 1)) M6
def g_R_copyKept_16 : Nat → Nat → Int32 → XM → XP
  | 0, _, _, _ => none
  | n + 1, v0, v1, M =>
    gR M 27 v0 1 fun t1 =>
    aI M t1 0 fun t2 =>
    if t2 ≤ v1 then
    (g_R_copyKept_48 FU v0 0 M)
    else
    gR M 27 v0 16 fun t3 =>
    aI M t3 v1 fun t4 =>
    if t4 < 0 then
    (g_R_copyKept_16 n v0 ((v1 + 1)) M)
    else
    rv M 27 v0 <|
    cV (g_R_copyPool v0 v1 M) fun M6 =>
    g_R_copyKept_16 n v0 ((v1 + 1)) M6
def g_R_copyKept (v0 : Nat) (M : XM) : XP :=
    gR M 27 v0 1 fun t1 =>
    sI M t1 1 0 fun M2 =>
    gR M2 27 v0 2 fun t3 =>
    sI M2 t3 1 0 fun M4 =>
    g_R_copyKept_16 FU v0 0 M4
def g_R_shake_21 (v0 : Nat) (s0 : Nat) (s1 : Int32) (M : XM) : XP :=
    uI M 27 s0 0 s1 fun M1 =>
    gI M1 27 v0 0 fun t2 =>
    if t2 ≤ 0 then
    (rv M1 27 v0 <|
    cV (g_R_reach v0  M1) fun M4 =>
    rv M4 27 v0 <|
    cV (g_R_markConstants v0  M4) fun M6 =>
    rv M6 27 v0 <|
    cV (g_R_numberAll v0  M6) fun M8 =>
    rv M8 27 v0 <|
    cV (g_R_giveNames v0  M8) fun M10 =>
    rv M10 27 v0 <|
    cV (g_R_copyKept v0  M10) fun M12 =>
    gR M12 27 v0 2 fun t13 =>
    aI M12 t13 1 fun t14 =>
    some (.inl (some (.int t14)), M12))
    else
    some (.inl (some (.int 0)), M1)
def g_R_shake_16 (v0 : Nat) (s0 : Nat) (M : XM) : XP :=
    g_R_shake_21 v0 s0 1 M
def g_R_shake (v0 : Nat) (M : XM) : XP :=
    rv M 27 v0 <|
    cI (g_R_firstFault v0  M) fun t3 M2 =>
    if 0 ≤ t3 then
    (g_R_shake_16 v0 v0 M2)
    else
    rv M2 27 v0 <|
    cI (g_R_countEntries v0 0 M2) fun t6 M5 =>
    if ¬ t6 = 0 then
    (g_R_shake_21 v0 v0 0 M5)
    else
    g_R_shake_16 v0 v0 M5
def g_R_count_27 (v0 : Nat) (v2 : Int32) (s0 : Int32) (M : XM) : XP :=
    gI M 27 v0 0 fun t1 =>
    if t1 ≤ 0 then
    (if ¬ v2 = 0 then
    (if ¬ v2 = 1 then
    (rv M 27 v0 <|
    cI (g_R_countEntries v0 s0 M) fun t4 M3 =>
    some (.inl (some (.int t4)), M3))
    else
    gR M 27 v0 2 fun t5 =>
    aI M t5 s0 fun t6 =>
    some (.inl (some (.int t6)), M))
    else
    gR M 27 v0 1 fun t7 =>
    aI M t7 s0 fun t8 =>
    some (.inl (some (.int t8)), M))
    else
    some (.inl (some (.int 0)), M)
def g_R_count_15 (v0 : Nat) (v1 : Int32) (v2 : Int32) (s0 : Nat) (s1 : Int32) (M : XM) : XP :=
    uI M 27 s0 0 s1 fun M1 =>
    if v1 = 0 then
    (g_R_count_27 v0 v2 0 M1)
    else
    g_R_count_27 v0 v2 1 M1
def g_R_count_10 (v0 : Nat) (v1 : Int32) (v2 : Int32) (s0 : Nat) (M : XM) : XP :=
    g_R_count_15 v0 v1 v2 s0 1 M
def g_R_count (v0 : Nat) (v1 : Int32) (v2 : Int32) (M : XM) : XP :=
    if v2 < 0 then
    (g_R_count_10 v0 v1 v2 v0 M)
    else
    if v2 ≤ 2 then
    (g_R_count_15 v0 v1 v2 v0 0 M)
    else
    g_R_count_10 v0 v1 v2 v0 M
section XG
variable {K : XK} {o : XO} {N : XM}
theorem p_R_giveNames_239 (G : xG K) {r71 : Nat → Int32 → Int32 → XM → XP} (hr71 : ∀ w0 w1 w2 Q, r71 w0 w1 w2 Q = some (o, N) → cA K y_R_giveNames 71 [(0, .ref w0), (1, .int w1), (2, .int w2)] [] Q o N) : ∀ (n : Nat) (v0 : Nat) (v1 : Int32) (v2 : Int32) (M : XM), g_R_giveNames_239 r71 n v0 v1 v2 M = some (o, N) → cA K y_R_giveNames 239 [(0, .ref v0), (1, .int v1), (2, .int v2)] [] M o N := by
  intro n
  induction n with
  | zero =>
    intro v0 v1 v2 M h
    rw [g_R_giveNames_239] at h
    cases h
  | succ n ih =>
    intro v0 v1 v2 M h
    rw [g_R_giveNames_239] at h
    refine x_aload_n (pc := 239) d_R_giveNames_239 rfl 0 rfl ?_
    refine h_getR G (pc := 240) (ci := 7) (j := 20) d_R_giveNames_240 rfl rfl rfl lf_R_68 h fun t1 h => ?_
    refine x_iload_n (pc := 243) d_R_giveNames_243 rfl 1 rfl ?_
    refine h_baload (pc := 244) d_R_giveNames_244 h fun t2 h => ?_
    refine h_if_eq (pc := 245) 254 d_R_giveNames_245 (by decide) h (fun _ h => ?_) (fun _ h => ?_)
    · refine x_aload_n (pc := 254) d_R_giveNames_254 rfl 0 rfl ?_
      refine h_getR G (pc := 255) (ci := 7) (j := 20) d_R_giveNames_255 rfl rfl rfl lf_R_68 h fun t3 h => ?_
      refine x_iload_n (pc := 258) d_R_giveNames_258 rfl 1 rfl ?_
      refine x_iconst (pc := 259) d_R_giveNames_259 rfl ?_
      refine h_bastore G (pc := 260) d_R_giveNames_260 h fun M4 h => ?_
      refine x_aload_n (pc := 261) d_R_giveNames_261 rfl 0 rfl ?_
      refine h_getR G (pc := 262) (ci := 7) (j := 19) d_R_giveNames_262 rfl rfl rfl lf_R_65 h fun t5 h => ?_
      refine x_iload_n (pc := 265) d_R_giveNames_265 rfl 2 rfl ?_
      refine x_iload_n (pc := 266) d_R_giveNames_266 rfl 1 rfl ?_
      refine h_iastore G (pc := 267) d_R_giveNames_267 h fun M6 h => ?_
      refine x_iinc (pc := 268) (n := 2) (L' := [(0, .ref v0), (1, .int v1), (2, .int (v2 + 1))]) d_R_giveNames_268 (by decide) rfl rfl ?_
      refine x_goto (pc := 271) 71 d_R_giveNames_271 (by decide) ?_
      refine x_weak [0, 1, 2] rfl ?_
      exact hr71 _ _ _ _ h
    · refine x_iinc (pc := 248) (n := 1) (L' := [(0, .ref v0), (1, .int (v1 + 1)), (2, .int v2)]) d_R_giveNames_248 (by decide) rfl rfl ?_
      refine x_goto (pc := 251) 239 d_R_giveNames_251 (by decide) ?_
      refine x_weak [0, 1, 2] rfl ?_
      exact ih _ _ _ _ h
theorem p_R_giveNames_155 (G : xG K) {r71 : Nat → Int32 → Int32 → XM → XP} (hr71 : ∀ w0 w1 w2 Q, r71 w0 w1 w2 Q = some (o, N) → cA K y_R_giveNames 71 [(0, .ref w0), (1, .int w1), (2, .int w2)] [] Q o N) {r136 : Nat → Int32 → Int32 → Int32 → Int32 → Int32 → XM → XP} (hr136 : ∀ w0 w1 w2 w3 w4 w5 Q, r136 w0 w1 w2 w3 w4 w5 Q = some (o, N) → cA K y_R_giveNames 136 [(0, .ref w0), (1, .int w1), (2, .int w2), (3, .int w3), (4, .int w4), (5, .int w5)] [] Q o N) : ∀ (n : Nat) (v0 : Nat) (v1 : Int32) (v2 : Int32) (v3 : Int32) (v4 : Int32) (v5 : Int32) (v6 : Int32) (M : XM), g_R_giveNames_155 r71 r136 n v0 v1 v2 v3 v4 v5 v6 M = some (o, N) → cA K y_R_giveNames 155 [(0, .ref v0), (1, .int v1), (2, .int v2), (3, .int v3), (4, .int v4), (5, .int v5), (6, .int v6)] [] M o N := by
  intro n
  induction n with
  | zero =>
    intro v0 v1 v2 v3 v4 v5 v6 M h
    rw [g_R_giveNames_155] at h
    cases h
  | succ n ih =>
    intro v0 v1 v2 v3 v4 v5 v6 M h
    rw [g_R_giveNames_155] at h
    refine x_iload (pc := 155) d_R_giveNames_155 6 rfl ?_
    refine x_iconst (pc := 157) d_R_giveNames_157 rfl ?_
    refine x_iload (pc := 158) d_R_giveNames_158 5 rfl ?_
    refine h_callI G (x_siteS G (pc := 160) (y2 := y_R_base) (As := [.int 0, .int v5]) (S := [.int v6]) d_R_giveNames_160 lm_R_100 mi_R_base mw_R_base.2 mw_R_base.1 mx_R_base.1 mx_R_base.2 rfl) mw_R_base ⟨Nat.le_of_ble_eq_true rfl, Nat.le_of_ble_eq_true rfl⟩ rfl (fun _ _ e => p_R_base G _ _ _ e) h fun t2 M1 h => ?_
    refine x_aload_n (pc := 163) d_R_giveNames_163 rfl 0 rfl ?_
    refine h_getR G (pc := 164) (ci := 7) (j := 3) d_R_giveNames_164 rfl rfl rfl lf_R_16 h fun t3 h => ?_
    refine x_iload (pc := 167) d_R_giveNames_167 5 rfl ?_
    refine h_iaload (pc := 169) d_R_giveNames_169 h fun t4 h => ?_
    refine x_iadd (pc := 170) d_R_giveNames_170 ?_
    refine h_icmp_ge (pc := 171) 224 d_R_giveNames_171 (by decide) h (fun _ h => ?_) (fun _ h => ?_)
    · refine x_iinc (pc := 224) (n := 5) (L' := [(0, .ref v0), (1, .int v1), (2, .int v2), (3, .int v3), (4, .int v4), (5, .int (v5 + 1)), (6, .int v6)]) d_R_giveNames_224 (by decide) rfl rfl ?_
      refine x_goto (pc := 227) 136 d_R_giveNames_227 (by decide) ?_
      refine x_weak [0, 1, 2, 3, 4, 5] rfl ?_
      exact hr136 _ _ _ _ _ _ _ h
    · refine x_iload (pc := 174) d_R_giveNames_174 4 rfl ?_
      refine h_if_ne (pc := 176) 211 d_R_giveNames_176 (by decide) h (fun _ h => ?_) (fun _ h => ?_)
      · refine x_iconst (pc := 211) d_R_giveNames_211 rfl ?_
        refine x_goto (pc := 212) 216 d_R_giveNames_212 (by decide) ?_
        refine x_istore (pc := 216) (L' := [(0, .ref v0), (1, .int v1), (2, .int v2), (3, .int v3), (4, .int 1), (5, .int v5), (6, .int v6)]) d_R_giveNames_216 (by decide) rfl ?_
        refine x_iinc (pc := 218) (n := 6) (L' := [(0, .ref v0), (1, .int v1), (2, .int v2), (3, .int v3), (4, .int 1), (5, .int v5), (6, .int (v6 + 1))]) d_R_giveNames_218 (by decide) rfl rfl ?_
        refine x_goto (pc := 221) 155 d_R_giveNames_221 (by decide) ?_
        refine x_weak [0, 1, 2, 3, 4, 5, 6] rfl ?_
        exact ih _ _ _ _ _ _ _ _ h
      · refine x_aload_n (pc := 179) d_R_giveNames_179 rfl 0 rfl ?_
        refine h_getR G (pc := 180) (ci := 7) (j := 17) d_R_giveNames_180 rfl rfl rfl lf_R_59 h fun t5 h => ?_
        refine x_iload (pc := 183) d_R_giveNames_183 6 rfl ?_
        refine h_baload (pc := 185) d_R_giveNames_185 h fun t6 h => ?_
        refine h_if_eq (pc := 186) 215 d_R_giveNames_186 (by decide) h (fun _ h => ?_) (fun _ h => ?_)
        · refine x_iconst (pc := 215) d_R_giveNames_215 rfl ?_
          refine x_istore (pc := 216) (L' := [(0, .ref v0), (1, .int v1), (2, .int v2), (3, .int v3), (4, .int 0), (5, .int v5), (6, .int v6)]) d_R_giveNames_216 (by decide) rfl ?_
          refine x_iinc (pc := 218) (n := 6) (L' := [(0, .ref v0), (1, .int v1), (2, .int v2), (3, .int v3), (4, .int 0), (5, .int v5), (6, .int (v6 + 1))]) d_R_giveNames_218 (by decide) rfl rfl ?_
          refine x_goto (pc := 221) 155 d_R_giveNames_221 (by decide) ?_
          refine x_weak [0, 1, 2, 3, 4, 5, 6] rfl ?_
          exact ih _ _ _ _ _ _ _ _ h
        · refine x_aload_n (pc := 189) d_R_giveNames_189 rfl 0 rfl ?_
          refine h_getR G (pc := 190) (ci := 7) (j := 4) d_R_giveNames_190 rfl rfl rfl lf_R_19 h fun t7 h => ?_
          refine x_iload (pc := 193) d_R_giveNames_193 6 rfl ?_
          refine h_iaload (pc := 195) d_R_giveNames_195 h fun t8 h => ?_
          refine x_iconst (pc := 196) d_R_giveNames_196 rfl ?_
          refine h_icmp_ne (pc := 197) 215 d_R_giveNames_197 (by decide) h (fun _ h => ?_) (fun _ h => ?_)
          · refine x_iconst (pc := 215) d_R_giveNames_215 rfl ?_
            refine x_istore (pc := 216) (L' := [(0, .ref v0), (1, .int v1), (2, .int v2), (3, .int v3), (4, .int 0), (5, .int v5), (6, .int v6)]) d_R_giveNames_216 (by decide) rfl ?_
            refine x_iinc (pc := 218) (n := 6) (L' := [(0, .ref v0), (1, .int v1), (2, .int v2), (3, .int v3), (4, .int 0), (5, .int v5), (6, .int (v6 + 1))]) d_R_giveNames_218 (by decide) rfl rfl ?_
            refine x_goto (pc := 221) 155 d_R_giveNames_221 (by decide) ?_
            refine x_weak [0, 1, 2, 3, 4, 5, 6] rfl ?_
            exact ih _ _ _ _ _ _ _ _ h
          · refine x_aload_n (pc := 200) d_R_giveNames_200 rfl 0 rfl ?_
            refine h_getR G (pc := 201) (ci := 7) (j := 5) d_R_giveNames_201 rfl rfl rfl lf_R_22 h fun t9 h => ?_
            refine x_iload (pc := 204) d_R_giveNames_204 6 rfl ?_
            refine h_iaload (pc := 206) d_R_giveNames_206 h fun t10 h => ?_
            refine x_iload_n (pc := 207) d_R_giveNames_207 rfl 2 rfl ?_
            refine h_icmp_ne (pc := 208) 215 d_R_giveNames_208 (by decide) h (fun _ h => ?_) (fun _ h => ?_)
            · refine x_iconst (pc := 215) d_R_giveNames_215 rfl ?_
              refine x_istore (pc := 216) (L' := [(0, .ref v0), (1, .int v1), (2, .int v2), (3, .int v3), (4, .int 0), (5, .int v5), (6, .int v6)]) d_R_giveNames_216 (by decide) rfl ?_
              refine x_iinc (pc := 218) (n := 6) (L' := [(0, .ref v0), (1, .int v1), (2, .int v2), (3, .int v3), (4, .int 0), (5, .int v5), (6, .int (v6 + 1))]) d_R_giveNames_218 (by decide) rfl rfl ?_
              refine x_goto (pc := 221) 155 d_R_giveNames_221 (by decide) ?_
              refine x_weak [0, 1, 2, 3, 4, 5, 6] rfl ?_
              exact ih _ _ _ _ _ _ _ _ h
            · refine x_iconst (pc := 211) d_R_giveNames_211 rfl ?_
              refine x_goto (pc := 212) 216 d_R_giveNames_212 (by decide) ?_
              refine x_istore (pc := 216) (L' := [(0, .ref v0), (1, .int v1), (2, .int v2), (3, .int v3), (4, .int 1), (5, .int v5), (6, .int v6)]) d_R_giveNames_216 (by decide) rfl ?_
              refine x_iinc (pc := 218) (n := 6) (L' := [(0, .ref v0), (1, .int v1), (2, .int v2), (3, .int v3), (4, .int 1), (5, .int v5), (6, .int (v6 + 1))]) d_R_giveNames_218 (by decide) rfl rfl ?_
              refine x_goto (pc := 221) 155 d_R_giveNames_221 (by decide) ?_
              refine x_weak [0, 1, 2, 3, 4, 5, 6] rfl ?_
              exact ih _ _ _ _ _ _ _ _ h
theorem p_R_giveNames_136 (G : xG K) {r71 : Nat → Int32 → Int32 → XM → XP} (hr71 : ∀ w0 w1 w2 Q, r71 w0 w1 w2 Q = some (o, N) → cA K y_R_giveNames 71 [(0, .ref w0), (1, .int w1), (2, .int w2)] [] Q o N) : ∀ (n : Nat) (v0 : Nat) (v1 : Int32) (v2 : Int32) (v3 : Int32) (v4 : Int32) (v5 : Int32) (M : XM), g_R_giveNames_136 r71 n v0 v1 v2 v3 v4 v5 M = some (o, N) → cA K y_R_giveNames 136 [(0, .ref v0), (1, .int v1), (2, .int v2), (3, .int v3), (4, .int v4), (5, .int v5)] [] M o N := by
  intro n
  induction n with
  | zero =>
    intro v0 v1 v2 v3 v4 v5 M h
    rw [g_R_giveNames_136] at h
    cases h
  | succ n ih =>
    intro v0 v1 v2 v3 v4 v5 M h
    rw [g_R_giveNames_136] at h
    refine x_iload (pc := 136) d_R_giveNames_136 5 rfl ?_
    refine x_aload_n (pc := 138) d_R_giveNames_138 rfl 0 rfl ?_
    refine h_getR G (pc := 139) (ci := 7) (j := 1) d_R_giveNames_139 rfl rfl rfl lf_R_7 h fun t1 h => ?_
    refine x_iconst (pc := 142) d_R_giveNames_142 rfl ?_
    refine h_iaload (pc := 143) d_R_giveNames_143 h fun t2 h => ?_
    refine h_icmp_ge (pc := 144) 230 d_R_giveNames_144 (by decide) h (fun _ h => ?_) (fun _ h => ?_)
    · refine x_iload (pc := 230) d_R_giveNames_230 4 rfl ?_
      refine h_if_eq (pc := 232) 268 d_R_giveNames_232 (by decide) h (fun _ h => ?_) (fun _ h => ?_)
      · refine x_iinc (pc := 268) (n := 2) (L' := [(0, .ref v0), (1, .int v1), (2, .int (v2 + 1)), (3, .int v3), (4, .int v4), (5, .int v5)]) d_R_giveNames_268 (by decide) rfl rfl ?_
        refine x_goto (pc := 271) 71 d_R_giveNames_271 (by decide) ?_
        refine x_weak [0, 1, 2] rfl ?_
        exact hr71 _ _ _ _ h
      · refine x_iload_n (pc := 235) d_R_giveNames_235 rfl 3 rfl ?_
        refine h_if_ne (pc := 236) 268 d_R_giveNames_236 (by decide) h (fun _ h => ?_) (fun _ h => ?_)
        · refine x_iinc (pc := 268) (n := 2) (L' := [(0, .ref v0), (1, .int v1), (2, .int (v2 + 1)), (3, .int v3), (4, .int v4), (5, .int v5)]) d_R_giveNames_268 (by decide) rfl rfl ?_
          refine x_goto (pc := 271) 71 d_R_giveNames_271 (by decide) ?_
          refine x_weak [0, 1, 2] rfl ?_
          exact hr71 _ _ _ _ h
        · refine x_weak [0, 1, 2] rfl ?_
          exact p_R_giveNames_239 G hr71 FU _ _ _ _ h
    · refine x_iconst (pc := 147) d_R_giveNames_147 rfl ?_
      refine x_iload (pc := 148) d_R_giveNames_148 5 rfl ?_
      refine h_callI G (x_siteS G (pc := 150) (y2 := y_R_base) (As := [.int 0, .int v5]) (S := []) d_R_giveNames_150 lm_R_100 mi_R_base mw_R_base.2 mw_R_base.1 mx_R_base.1 mx_R_base.2 rfl) mw_R_base ⟨Nat.le_of_ble_eq_true rfl, Nat.le_of_ble_eq_true rfl⟩ rfl (fun _ _ e => p_R_base G _ _ _ e) h fun t4 M3 h => ?_
      refine x_istore (pc := 153) (L' := [(0, .ref v0), (1, .int v1), (2, .int v2), (3, .int v3), (4, .int v4), (5, .int v5), (6, .int t4)]) d_R_giveNames_153 (by decide) rfl ?_
      refine x_weak [0, 1, 2, 3, 4, 5, 6] rfl ?_
      exact p_R_giveNames_155 G hr71 ih FU _ _ _ _ _ _ _ _ h
theorem p_R_giveNames_82 (G : xG K) {r71 : Nat → Int32 → Int32 → XM → XP} (hr71 : ∀ w0 w1 w2 Q, r71 w0 w1 w2 Q = some (o, N) → cA K y_R_giveNames 71 [(0, .ref w0), (1, .int w1), (2, .int w2)] [] Q o N) : ∀ (n : Nat) (v0 : Nat) (v1 : Int32) (v2 : Int32) (v3 : Int32) (v4 : Int32) (M : XM), g_R_giveNames_82 r71 n v0 v1 v2 v3 v4 M = some (o, N) → cA K y_R_giveNames 82 [(0, .ref v0), (1, .int v1), (2, .int v2), (3, .int v3), (4, .int v4)] [] M o N := by
  intro n
  induction n with
  | zero =>
    intro v0 v1 v2 v3 v4 M h
    rw [g_R_giveNames_82] at h
    cases h
  | succ n ih =>
    intro v0 v1 v2 v3 v4 M h
    rw [g_R_giveNames_82] at h
    refine x_iload (pc := 82) d_R_giveNames_82 4 rfl ?_
    refine x_aload_n (pc := 84) d_R_giveNames_84 rfl 0 rfl ?_
    refine h_getR G (pc := 85) (ci := 7) (j := 2) d_R_giveNames_85 rfl rfl rfl lf_R_13 h fun t1 h => ?_
    refine x_iconst (pc := 88) d_R_giveNames_88 rfl ?_
    refine h_iaload (pc := 89) d_R_giveNames_89 h fun t2 h => ?_
    refine h_icmp_ge (pc := 90) 130 d_R_giveNames_90 (by decide) h (fun _ h => ?_) (fun _ h => ?_)
    · refine x_iconst (pc := 130) d_R_giveNames_130 rfl ?_
      refine x_istore (pc := 131) (L' := [(0, .ref v0), (1, .int v1), (2, .int v2), (3, .int v3), (4, .int 0)]) d_R_giveNames_131 (by decide) rfl ?_
      refine x_iconst (pc := 133) d_R_giveNames_133 rfl ?_
      refine x_istore (pc := 134) (L' := [(0, .ref v0), (1, .int v1), (2, .int v2), (3, .int v3), (4, .int 0), (5, .int 0)]) d_R_giveNames_134 (by decide) rfl ?_
      refine x_weak [0, 1, 2, 3, 4, 5] rfl ?_
      exact p_R_giveNames_136 G hr71 FU _ _ _ _ _ _ _ h
    · refine x_iload_n (pc := 93) d_R_giveNames_93 rfl 3 rfl ?_
      refine h_if_ne (pc := 94) 118 d_R_giveNames_94 (by decide) h (fun _ h => ?_) (fun _ h => ?_)
      · refine x_iconst (pc := 118) d_R_giveNames_118 rfl ?_
        refine x_goto (pc := 119) 123 d_R_giveNames_119 (by decide) ?_
        refine x_istore_n (pc := 123) (L' := [(0, .ref v0), (1, .int v1), (2, .int v2), (3, .int 1), (4, .int v4)]) d_R_giveNames_123 rfl (by decide) rfl ?_
        refine x_iinc (pc := 124) (n := 4) (L' := [(0, .ref v0), (1, .int v1), (2, .int v2), (3, .int 1), (4, .int (v4 + 1))]) d_R_giveNames_124 (by decide) rfl rfl ?_
        refine x_goto (pc := 127) 82 d_R_giveNames_127 (by decide) ?_
        refine x_weak [0, 1, 2, 3, 4] rfl ?_
        exact ih _ _ _ _ _ _ h
      · refine x_aload_n (pc := 97) d_R_giveNames_97 rfl 0 rfl ?_
        refine h_getR G (pc := 98) (ci := 7) (j := 11) d_R_giveNames_98 rfl rfl rfl lf_R_40 h fun t3 h => ?_
        refine x_iload (pc := 101) d_R_giveNames_101 4 rfl ?_
        refine h_baload (pc := 103) d_R_giveNames_103 h fun t4 h => ?_
        refine h_if_eq (pc := 104) 122 d_R_giveNames_104 (by decide) h (fun _ h => ?_) (fun _ h => ?_)
        · refine x_iconst (pc := 122) d_R_giveNames_122 rfl ?_
          refine x_istore_n (pc := 123) (L' := [(0, .ref v0), (1, .int v1), (2, .int v2), (3, .int 0), (4, .int v4)]) d_R_giveNames_123 rfl (by decide) rfl ?_
          refine x_iinc (pc := 124) (n := 4) (L' := [(0, .ref v0), (1, .int v1), (2, .int v2), (3, .int 0), (4, .int (v4 + 1))]) d_R_giveNames_124 (by decide) rfl rfl ?_
          refine x_goto (pc := 127) 82 d_R_giveNames_127 (by decide) ?_
          refine x_weak [0, 1, 2, 3, 4] rfl ?_
          exact ih _ _ _ _ _ _ h
        · refine x_aload_n (pc := 107) d_R_giveNames_107 rfl 0 rfl ?_
          refine x_iconst (pc := 108) d_R_giveNames_108 rfl ?_
          refine x_iload (pc := 109) d_R_giveNames_109 4 rfl ?_
          obtain ⟨⟨ra5, ra5t⟩, h⟩ := h_ok h
          refine h_callI G (x_siteV G (pc := 111) (y2 := y_R_nameOf) (As := [.int 0, .int v4]) (S := []) (ci := 7) d_R_giveNames_111 rfl lm_R_111 mi_R_nameOf ms_R_nameOf mw_R_nameOf.1 mx_R_nameOf.1 mx_R_nameOf.2 rfl ra5 ra5t) mw_R_nameOf ⟨Nat.le_of_ble_eq_true rfl, Nat.le_of_ble_eq_true rfl⟩ rfl (fun _ _ e => p_R_nameOf G _ _ _ _ e) h fun t7 M6 h => ?_
          refine x_iload_n (pc := 114) d_R_giveNames_114 rfl 2 rfl ?_
          refine h_icmp_ne (pc := 115) 122 d_R_giveNames_115 (by decide) h (fun _ h => ?_) (fun _ h => ?_)
          · refine x_iconst (pc := 122) d_R_giveNames_122 rfl ?_
            refine x_istore_n (pc := 123) (L' := [(0, .ref v0), (1, .int v1), (2, .int v2), (3, .int 0), (4, .int v4)]) d_R_giveNames_123 rfl (by decide) rfl ?_
            refine x_iinc (pc := 124) (n := 4) (L' := [(0, .ref v0), (1, .int v1), (2, .int v2), (3, .int 0), (4, .int (v4 + 1))]) d_R_giveNames_124 (by decide) rfl rfl ?_
            refine x_goto (pc := 127) 82 d_R_giveNames_127 (by decide) ?_
            refine x_weak [0, 1, 2, 3, 4] rfl ?_
            exact ih _ _ _ _ _ _ h
          · refine x_iconst (pc := 118) d_R_giveNames_118 rfl ?_
            refine x_goto (pc := 119) 123 d_R_giveNames_119 (by decide) ?_
            refine x_istore_n (pc := 123) (L' := [(0, .ref v0), (1, .int v1), (2, .int v2), (3, .int 1), (4, .int v4)]) d_R_giveNames_123 rfl (by decide) rfl ?_
            refine x_iinc (pc := 124) (n := 4) (L' := [(0, .ref v0), (1, .int v1), (2, .int v2), (3, .int 1), (4, .int (v4 + 1))]) d_R_giveNames_124 (by decide) rfl rfl ?_
            refine x_goto (pc := 127) 82 d_R_giveNames_127 (by decide) ?_
            refine x_weak [0, 1, 2, 3, 4] rfl ?_
            exact ih _ _ _ _ _ _ h
theorem p_R_giveNames_71 (G : xG K) : ∀ (n : Nat) (v0 : Nat) (v1 : Int32) (v2 : Int32) (M : XM), g_R_giveNames_71 n v0 v1 v2 M = some (o, N) → cA K y_R_giveNames 71 [(0, .ref v0), (1, .int v1), (2, .int v2)] [] M o N := by
  intro n
  induction n with
  | zero =>
    intro v0 v1 v2 M h
    rw [g_R_giveNames_71] at h
    cases h
  | succ n ih =>
    intro v0 v1 v2 M h
    rw [g_R_giveNames_71] at h
    refine x_iload_n (pc := 71) d_R_giveNames_71 rfl 2 rfl ?_
    refine x_bipush (pc := 72) (v := 100) d_R_giveNames_72 (by decide) ?_
    refine h_icmp_ge (pc := 74) 274 d_R_giveNames_74 (by decide) h (fun _ h => ?_) (fun _ h => ?_)
    · exact h_return (pc := 274) d_R_giveNames_274 rfl h
    · refine x_iconst (pc := 77) d_R_giveNames_77 rfl ?_
      refine x_istore_n (pc := 78) (L' := [(0, .ref v0), (1, .int v1), (2, .int v2), (3, .int 0)]) d_R_giveNames_78 rfl (by decide) rfl ?_
      refine x_iconst (pc := 79) d_R_giveNames_79 rfl ?_
      refine x_istore (pc := 80) (L' := [(0, .ref v0), (1, .int v1), (2, .int v2), (3, .int 0), (4, .int 0)]) d_R_giveNames_80 (by decide) rfl ?_
      refine x_weak [0, 1, 2, 3, 4] rfl ?_
      exact p_R_giveNames_82 G ih FU _ _ _ _ _ _ h
theorem p_R_giveNames_30 (G : xG K) : ∀ (n : Nat) (v0 : Nat) (v1 : Int32) (M : XM), g_R_giveNames_30 n v0 v1 M = some (o, N) → cA K y_R_giveNames 30 [(0, .ref v0), (1, .int v1)] [] M o N := by
  intro n
  induction n with
  | zero =>
    intro v0 v1 M h
    rw [g_R_giveNames_30] at h
    cases h
  | succ n ih =>
    intro v0 v1 M h
    rw [g_R_giveNames_30] at h
    refine x_iload_n (pc := 30) d_R_giveNames_30 rfl 1 rfl ?_
    refine x_aload_n (pc := 31) d_R_giveNames_31 rfl 0 rfl ?_
    refine h_getR G (pc := 32) (ci := 7) (j := 2) d_R_giveNames_32 rfl rfl rfl lf_R_13 h fun t1 h => ?_
    refine x_iconst (pc := 35) d_R_giveNames_35 rfl ?_
    refine h_iaload (pc := 36) d_R_giveNames_36 h fun t2 h => ?_
    refine h_icmp_ge (pc := 37) 67 d_R_giveNames_37 (by decide) h (fun _ h => ?_) (fun _ h => ?_)
    · refine x_iconst (pc := 67) d_R_giveNames_67 rfl ?_
      refine x_istore_n (pc := 68) (L' := [(0, .ref v0), (1, .int 0)]) d_R_giveNames_68 rfl (by decide) rfl ?_
      refine x_iconst (pc := 69) d_R_giveNames_69 rfl ?_
      refine x_istore_n (pc := 70) (L' := [(0, .ref v0), (1, .int 0), (2, .int 0)]) d_R_giveNames_70 rfl (by decide) rfl ?_
      refine x_weak [0, 1, 2] rfl ?_
      exact p_R_giveNames_71 G FU _ _ _ _ h
    · refine x_aload_n (pc := 40) d_R_giveNames_40 rfl 0 rfl ?_
      refine h_getR G (pc := 41) (ci := 7) (j := 11) d_R_giveNames_41 rfl rfl rfl lf_R_40 h fun t3 h => ?_
      refine x_iload_n (pc := 44) d_R_giveNames_44 rfl 1 rfl ?_
      refine h_baload (pc := 45) d_R_giveNames_45 h fun t4 h => ?_
      refine h_if_eq (pc := 46) 61 d_R_giveNames_46 (by decide) h (fun _ h => ?_) (fun _ h => ?_)
      · refine x_iinc (pc := 61) (n := 1) (L' := [(0, .ref v0), (1, .int (v1 + 1))]) d_R_giveNames_61 (by decide) rfl rfl ?_
        refine x_goto (pc := 64) 30 d_R_giveNames_64 (by decide) ?_
        refine x_weak [0, 1] rfl ?_
        exact ih _ _ _ h
      · refine x_aload_n (pc := 49) d_R_giveNames_49 rfl 0 rfl ?_
        refine h_getR G (pc := 50) (ci := 7) (j := 20) d_R_giveNames_50 rfl rfl rfl lf_R_68 h fun t5 h => ?_
        refine x_aload_n (pc := 53) d_R_giveNames_53 rfl 0 rfl ?_
        refine x_iconst (pc := 54) d_R_giveNames_54 rfl ?_
        refine x_iload_n (pc := 55) d_R_giveNames_55 rfl 1 rfl ?_
        obtain ⟨⟨ra6, ra6t⟩, h⟩ := h_ok h
        refine h_callI G (x_siteV G (pc := 56) (y2 := y_R_nameOf) (As := [.int 0, .int v1]) (S := [.ref t5]) (ci := 7) d_R_giveNames_56 rfl lm_R_111 mi_R_nameOf ms_R_nameOf mw_R_nameOf.1 mx_R_nameOf.1 mx_R_nameOf.2 rfl ra6 ra6t) mw_R_nameOf ⟨Nat.le_of_ble_eq_true rfl, Nat.le_of_ble_eq_true rfl⟩ rfl (fun _ _ e => p_R_nameOf G _ _ _ _ e) h fun t8 M7 h => ?_
        refine x_iconst (pc := 59) d_R_giveNames_59 rfl ?_
        refine h_bastore G (pc := 60) d_R_giveNames_60 h fun M9 h => ?_
        refine x_iinc (pc := 61) (n := 1) (L' := [(0, .ref v0), (1, .int (v1 + 1))]) d_R_giveNames_61 (by decide) rfl rfl ?_
        refine x_goto (pc := 64) 30 d_R_giveNames_64 (by decide) ?_
        refine x_weak [0, 1] rfl ?_
        exact ih _ _ _ h
theorem p_R_giveNames_2 (G : xG K) : ∀ (n : Nat) (v0 : Nat) (v1 : Int32) (M : XM), g_R_giveNames_2 n v0 v1 M = some (o, N) → cA K y_R_giveNames 2 [(0, .ref v0), (1, .int v1)] [] M o N := by
  intro n
  induction n with
  | zero =>
    intro v0 v1 M h
    rw [g_R_giveNames_2] at h
    cases h
  | succ n ih =>
    intro v0 v1 M h
    rw [g_R_giveNames_2] at h
    refine x_iload_n (pc := 2) d_R_giveNames_2 rfl 1 rfl ?_
    refine x_bipush (pc := 3) (v := 100) d_R_giveNames_3 (by decide) ?_
    refine h_icmp_ge (pc := 5) 28 d_R_giveNames_5 (by decide) h (fun _ h => ?_) (fun _ h => ?_)
    · refine x_iconst (pc := 28) d_R_giveNames_28 rfl ?_
      refine x_istore_n (pc := 29) (L' := [(0, .ref v0), (1, .int 0)]) d_R_giveNames_29 rfl (by decide) rfl ?_
      refine x_weak [0, 1] rfl ?_
      exact p_R_giveNames_30 G FU _ _ _ h
    · refine x_aload_n (pc := 8) d_R_giveNames_8 rfl 0 rfl ?_
      refine h_getR G (pc := 9) (ci := 7) (j := 20) d_R_giveNames_9 rfl rfl rfl lf_R_68 h fun t1 h => ?_
      refine x_iload_n (pc := 12) d_R_giveNames_12 rfl 1 rfl ?_
      refine x_iconst (pc := 13) d_R_giveNames_13 rfl ?_
      refine h_bastore G (pc := 14) d_R_giveNames_14 h fun M2 h => ?_
      refine x_aload_n (pc := 15) d_R_giveNames_15 rfl 0 rfl ?_
      refine h_getR G (pc := 16) (ci := 7) (j := 19) d_R_giveNames_16 rfl rfl rfl lf_R_65 h fun t3 h => ?_
      refine x_iload_n (pc := 19) d_R_giveNames_19 rfl 1 rfl ?_
      refine x_iload_n (pc := 20) d_R_giveNames_20 rfl 1 rfl ?_
      refine h_iastore G (pc := 21) d_R_giveNames_21 h fun M4 h => ?_
      refine x_iinc (pc := 22) (n := 1) (L' := [(0, .ref v0), (1, .int (v1 + 1))]) d_R_giveNames_22 (by decide) rfl rfl ?_
      refine x_goto (pc := 25) 2 d_R_giveNames_25 (by decide) ?_
      refine x_weak [0, 1] rfl ?_
      exact ih _ _ _ h
theorem p_R_giveNames (G : xG K) (v0 : Nat) (M : XM) (h : g_R_giveNames v0 M = some (o, N)) : Ct K y_R_giveNames [.ref v0] M o N := by
  refine ct_of (by decide) (List.forall_mem_cons.mpr ⟨rfl, fun _ q => absurd q List.not_mem_nil⟩) (Nat.le_of_ble_eq_true rfl) ?_
  show cA K y_R_giveNames 0 [(0, .ref v0)] [] M o N
  unfold g_R_giveNames at h
  refine x_iconst (pc := 0) d_R_giveNames_0 rfl ?_
  refine x_istore_n (pc := 1) (L' := [(0, .ref v0), (1, .int 0)]) d_R_giveNames_1 rfl (by decide) rfl ?_
  refine x_weak [0, 1] rfl ?_
  exact p_R_giveNames_2 G FU _ _ _ h
theorem p_R_copyPool_208 (G : xG K) {r23 : Nat → Int32 → Int32 → Int32 → XM → XP} (hr23 : ∀ w0 w1 w2 w3 Q, r23 w0 w1 w2 w3 Q = some (o, N) → cA K y_R_copyPool 23 [(0, .ref w0), (1, .int w1), (2, .int w2), (3, .int w3)] [] Q o N) (v0 : Nat) (v1 : Int32) (v2 : Int32) (v3 : Int32) (s0 : Nat) (s1 : Int32) (s2 : Int32) (M : XM) (h : g_R_copyPool_208 r23 v0 v1 v2 v3 s0 s1 s2 M = some (o, N)) : cA K y_R_copyPool 208 [(0, .ref v0), (1, .int v1), (2, .int v2), (3, .int v3)] [.int s2, .int s1, .ref s0] M o N := by
  unfold g_R_copyPool_208 at h
  refine h_iastore G (pc := 208) d_R_copyPool_208 h fun M1 h => ?_
  refine x_aload_n (pc := 209) d_R_copyPool_209 rfl 0 rfl ?_
  refine h_getR G (pc := 210) (ci := 7) (j := 3) d_R_copyPool_210 rfl rfl rfl lf_R_16 h fun t2 h => ?_
  refine x_iload_n (pc := 213) d_R_copyPool_213 rfl 2 rfl ?_
  refine x_dup2 (pc := 214) d_R_copyPool_214 rfl rfl ?_
  refine h_iaload (pc := 215) d_R_copyPool_215 h fun t3 h => ?_
  refine x_iconst (pc := 216) d_R_copyPool_216 rfl ?_
  refine x_iadd (pc := 217) d_R_copyPool_217 ?_
  refine h_iastore G (pc := 218) d_R_copyPool_218 h fun M4 h => ?_
  refine x_iinc (pc := 219) (n := 3) (L' := [(0, .ref v0), (1, .int v1), (2, .int v2), (3, .int (v3 + 1))]) d_R_copyPool_219 (by decide) rfl rfl ?_
  refine x_goto (pc := 222) 23 d_R_copyPool_222 (by decide) ?_
  refine x_weak [0, 1, 2, 3] rfl ?_
  exact hr23 _ _ _ _ _ h
theorem p_R_copyPool_170 (G : xG K) {r23 : Nat → Int32 → Int32 → Int32 → XM → XP} (hr23 : ∀ w0 w1 w2 w3 Q, r23 w0 w1 w2 w3 Q = some (o, N) → cA K y_R_copyPool 23 [(0, .ref w0), (1, .int w1), (2, .int w2), (3, .int w3)] [] Q o N) (v0 : Nat) (v1 : Int32) (v2 : Int32) (v3 : Int32) (v4 : Int32) (s0 : Nat) (s1 : Int32) (s2 : Int32) (M : XM) (h : g_R_copyPool_170 r23 v0 v1 v2 v3 v4 s0 s1 s2 M = some (o, N)) : cA K y_R_copyPool 170 [(0, .ref v0), (1, .int v1), (2, .int v2), (3, .int v3), (4, .int v4)] [.int s2, .int s1, .ref s0] M o N := by
  unfold g_R_copyPool_170 at h
  refine h_iastore G (pc := 170) d_R_copyPool_170 h fun M1 h => ?_
  refine x_aload_n (pc := 171) d_R_copyPool_171 rfl 0 rfl ?_
  refine h_getR G (pc := 172) (ci := 7) (j := 6) d_R_copyPool_172 rfl rfl rfl lf_R_25 h fun t2 h => ?_
  refine x_iload (pc := 175) d_R_copyPool_175 4 rfl ?_
  refine x_aload_n (pc := 177) d_R_copyPool_177 rfl 0 rfl ?_
  refine h_getR G (pc := 178) (ci := 7) (j := 4) d_R_copyPool_178 rfl rfl rfl lf_R_19 h fun t3 h => ?_
  refine x_iload_n (pc := 181) d_R_copyPool_181 rfl 3 rfl ?_
  refine h_iaload (pc := 182) d_R_copyPool_182 h fun t4 h => ?_
  refine x_iconst (pc := 183) d_R_copyPool_183 rfl ?_
  refine h_icmp_lt (pc := 184) 207 d_R_copyPool_184 (by decide) h (fun _ h => ?_) (fun _ h => ?_)
  · refine x_iconst (pc := 207) d_R_copyPool_207 rfl ?_
    refine x_weak [0, 1, 2, 3] rfl ?_
    exact p_R_copyPool_208 G hr23 _ _ _ _ _ _ _ _ h
  · refine x_aload_n (pc := 187) d_R_copyPool_187 rfl 0 rfl ?_
    refine h_getR G (pc := 188) (ci := 7) (j := 18) d_R_copyPool_188 rfl rfl rfl lf_R_62 h fun t5 h => ?_
    refine x_iconst (pc := 191) d_R_copyPool_191 rfl ?_
    refine x_iload_n (pc := 192) d_R_copyPool_192 rfl 1 rfl ?_
    refine h_callI G (x_siteS G (pc := 193) (y2 := y_R_base) (As := [.int 0, .int v1]) (S := [.ref t5, .int v4, .ref t2]) d_R_copyPool_193 lm_R_100 mi_R_base mw_R_base.2 mw_R_base.1 mx_R_base.1 mx_R_base.2 rfl) mw_R_base ⟨Nat.le_of_ble_eq_true rfl, Nat.le_of_ble_eq_true rfl⟩ rfl (fun _ _ e => p_R_base G _ _ _ e) h fun t7 M6 h => ?_
    refine x_aload_n (pc := 196) d_R_copyPool_196 rfl 0 rfl ?_
    refine h_getR G (pc := 197) (ci := 7) (j := 6) d_R_copyPool_197 rfl rfl rfl lf_R_25 h fun t8 h => ?_
    refine x_iload_n (pc := 200) d_R_copyPool_200 rfl 3 rfl ?_
    refine h_iaload (pc := 201) d_R_copyPool_201 h fun t9 h => ?_
    refine x_iadd (pc := 202) d_R_copyPool_202 ?_
    refine h_iaload (pc := 203) d_R_copyPool_203 h fun t10 h => ?_
    refine x_goto (pc := 204) 208 d_R_copyPool_204 (by decide) ?_
    refine x_weak [0, 1, 2, 3] rfl ?_
    exact p_R_copyPool_208 G hr23 _ _ _ _ _ _ _ _ h
theorem p_R_copyPool_23 (G : xG K) : ∀ (n : Nat) (v0 : Nat) (v1 : Int32) (v2 : Int32) (v3 : Int32) (M : XM), g_R_copyPool_23 n v0 v1 v2 v3 M = some (o, N) → cA K y_R_copyPool 23 [(0, .ref v0), (1, .int v1), (2, .int v2), (3, .int v3)] [] M o N := by
  intro n
  induction n with
  | zero =>
    intro v0 v1 v2 v3 M h
    rw [g_R_copyPool_23] at h
    cases h
  | succ n ih =>
    intro v0 v1 v2 v3 M h
    rw [g_R_copyPool_23] at h
    refine x_iload_n (pc := 23) d_R_copyPool_23 rfl 3 rfl ?_
    refine x_iconst (pc := 24) d_R_copyPool_24 rfl ?_
    refine x_iload_n (pc := 25) d_R_copyPool_25 rfl 1 rfl ?_
    refine h_callI G (x_siteS G (pc := 26) (y2 := y_R_base) (As := [.int 0, .int v1]) (S := [.int v3]) d_R_copyPool_26 lm_R_100 mi_R_base mw_R_base.2 mw_R_base.1 mx_R_base.1 mx_R_base.2 rfl) mw_R_base ⟨Nat.le_of_ble_eq_true rfl, Nat.le_of_ble_eq_true rfl⟩ rfl (fun _ _ e => p_R_base G _ _ _ e) h fun t2 M1 h => ?_
    refine x_aload_n (pc := 29) d_R_copyPool_29 rfl 0 rfl ?_
    refine h_getR G (pc := 30) (ci := 7) (j := 3) d_R_copyPool_30 rfl rfl rfl lf_R_16 h fun t3 h => ?_
    refine x_iload_n (pc := 33) d_R_copyPool_33 rfl 1 rfl ?_
    refine h_iaload (pc := 34) d_R_copyPool_34 h fun t4 h => ?_
    refine x_iadd (pc := 35) d_R_copyPool_35 ?_
    refine h_icmp_ge (pc := 36) 225 d_R_copyPool_36 (by decide) h (fun _ h => ?_) (fun _ h => ?_)
    · refine x_aload_n (pc := 225) d_R_copyPool_225 rfl 0 rfl ?_
      refine h_getR G (pc := 226) (ci := 7) (j := 1) d_R_copyPool_226 rfl rfl rfl lf_R_7 h fun t5 h => ?_
      refine x_iconst (pc := 229) d_R_copyPool_229 rfl ?_
      refine x_dup2 (pc := 230) d_R_copyPool_230 rfl rfl ?_
      refine h_iaload (pc := 231) d_R_copyPool_231 h fun t6 h => ?_
      refine x_iconst (pc := 232) d_R_copyPool_232 rfl ?_
      refine x_iadd (pc := 233) d_R_copyPool_233 ?_
      refine h_iastore G (pc := 234) d_R_copyPool_234 h fun M7 h => ?_
      exact h_return (pc := 235) d_R_copyPool_235 rfl h
    · refine x_aload_n (pc := 39) d_R_copyPool_39 rfl 0 rfl ?_
      refine h_getR G (pc := 40) (ci := 7) (j := 17) d_R_copyPool_40 rfl rfl rfl lf_R_59 h fun t8 h => ?_
      refine x_iload_n (pc := 43) d_R_copyPool_43 rfl 3 rfl ?_
      refine h_baload (pc := 44) d_R_copyPool_44 h fun t9 h => ?_
      refine h_if_eq (pc := 45) 219 d_R_copyPool_45 (by decide) h (fun _ h => ?_) (fun _ h => ?_)
      · refine x_iinc (pc := 219) (n := 3) (L' := [(0, .ref v0), (1, .int v1), (2, .int v2), (3, .int (v3 + 1))]) d_R_copyPool_219 (by decide) rfl rfl ?_
        refine x_goto (pc := 222) 23 d_R_copyPool_222 (by decide) ?_
        refine x_weak [0, 1, 2, 3] rfl ?_
        exact ih _ _ _ _ _ h
      · refine x_iconst (pc := 48) d_R_copyPool_48 rfl ?_
        refine x_aload_n (pc := 49) d_R_copyPool_49 rfl 0 rfl ?_
        refine h_getR G (pc := 50) (ci := 7) (j := 1) d_R_copyPool_50 rfl rfl rfl lf_R_7 h fun t10 h => ?_
        refine x_iconst (pc := 53) d_R_copyPool_53 rfl ?_
        refine h_iaload (pc := 54) d_R_copyPool_54 h fun t11 h => ?_
        refine h_callI G (x_siteS G (pc := 55) (y2 := y_R_base) (As := [.int 1, .int t11]) (S := []) d_R_copyPool_55 lm_R_100 mi_R_base mw_R_base.2 mw_R_base.1 mx_R_base.1 mx_R_base.2 rfl) mw_R_base ⟨Nat.le_of_ble_eq_true rfl, Nat.le_of_ble_eq_true rfl⟩ rfl (fun _ _ e => p_R_base G _ _ _ e) h fun t13 M12 h => ?_
        refine x_aload_n (pc := 58) d_R_copyPool_58 rfl 0 rfl ?_
        refine h_getR G (pc := 59) (ci := 7) (j := 3) d_R_copyPool_59 rfl rfl rfl lf_R_16 h fun t14 h => ?_
        refine x_iload_n (pc := 62) d_R_copyPool_62 rfl 2 rfl ?_
        refine h_iaload (pc := 63) d_R_copyPool_63 h fun t15 h => ?_
        refine x_iadd (pc := 64) d_R_copyPool_64 ?_
        refine x_istore (pc := 65) (L' := [(0, .ref v0), (1, .int v1), (2, .int v2), (3, .int v3), (4, .int (t13 + t15))]) d_R_copyPool_65 (by decide) rfl ?_
        refine x_aload_n (pc := 67) d_R_copyPool_67 rfl 0 rfl ?_
        refine h_getR G (pc := 68) (ci := 7) (j := 4) d_R_copyPool_68 rfl rfl rfl lf_R_19 h fun t16 h => ?_
        refine x_iload (pc := 71) d_R_copyPool_71 4 rfl ?_
        refine x_aload_n (pc := 73) d_R_copyPool_73 rfl 0 rfl ?_
        refine h_getR G (pc := 74) (ci := 7) (j := 4) d_R_copyPool_74 rfl rfl rfl lf_R_19 h fun t17 h => ?_
        refine x_iload_n (pc := 77) d_R_copyPool_77 rfl 3 rfl ?_
        refine h_iaload (pc := 78) d_R_copyPool_78 h fun t18 h => ?_
        refine h_iastore G (pc := 79) d_R_copyPool_79 h fun M19 h => ?_
        refine x_aload_n (pc := 80) d_R_copyPool_80 rfl 0 rfl ?_
        refine h_getR G (pc := 81) (ci := 7) (j := 5) d_R_copyPool_81 rfl rfl rfl lf_R_22 h fun t20 h => ?_
        refine x_iload (pc := 84) d_R_copyPool_84 4 rfl ?_
        refine x_aload_n (pc := 86) d_R_copyPool_86 rfl 0 rfl ?_
        refine h_getR G (pc := 87) (ci := 7) (j := 4) d_R_copyPool_87 rfl rfl rfl lf_R_19 h fun t21 h => ?_
        refine x_iload_n (pc := 90) d_R_copyPool_90 rfl 3 rfl ?_
        refine h_iaload (pc := 91) d_R_copyPool_91 h fun t22 h => ?_
        refine x_iconst (pc := 92) d_R_copyPool_92 rfl ?_
        refine h_icmp_ne (pc := 93) 110 d_R_copyPool_93 (by decide) h (fun _ h => ?_) (fun _ h => ?_)
        · refine x_aload_n (pc := 110) d_R_copyPool_110 rfl 0 rfl ?_
          refine h_getR G (pc := 111) (ci := 7) (j := 4) d_R_copyPool_111 rfl rfl rfl lf_R_19 h fun t23 h => ?_
          refine x_iload_n (pc := 114) d_R_copyPool_114 rfl 3 rfl ?_
          refine h_iaload (pc := 115) d_R_copyPool_115 h fun t24 h => ?_
          refine x_iconst (pc := 116) d_R_copyPool_116 rfl ?_
          refine h_icmp_ne (pc := 117) 134 d_R_copyPool_117 (by decide) h (fun _ h => ?_) (fun _ h => ?_)
          · refine x_aload_n (pc := 134) d_R_copyPool_134 rfl 0 rfl ?_
            refine h_getR G (pc := 135) (ci := 7) (j := 4) d_R_copyPool_135 rfl rfl rfl lf_R_19 h fun t25 h => ?_
            refine x_iload_n (pc := 138) d_R_copyPool_138 rfl 3 rfl ?_
            refine h_iaload (pc := 139) d_R_copyPool_139 h fun t26 h => ?_
            refine x_iconst (pc := 140) d_R_copyPool_140 rfl ?_
            refine h_icmp_lt (pc := 141) 164 d_R_copyPool_141 (by decide) h (fun _ h => ?_) (fun _ h => ?_)
            · refine x_aload_n (pc := 164) d_R_copyPool_164 rfl 0 rfl ?_
              refine h_getR G (pc := 165) (ci := 7) (j := 5) d_R_copyPool_165 rfl rfl rfl lf_R_22 h fun t27 h => ?_
              refine x_iload_n (pc := 168) d_R_copyPool_168 rfl 3 rfl ?_
              refine h_iaload (pc := 169) d_R_copyPool_169 h fun t28 h => ?_
              refine x_weak [0, 1, 2, 3, 4] rfl ?_
              exact p_R_copyPool_170 G ih _ _ _ _ _ _ _ _ _ h
            · refine x_aload_n (pc := 144) d_R_copyPool_144 rfl 0 rfl ?_
              refine h_getR G (pc := 145) (ci := 7) (j := 18) d_R_copyPool_145 rfl rfl rfl lf_R_62 h fun t29 h => ?_
              refine x_iconst (pc := 148) d_R_copyPool_148 rfl ?_
              refine x_iload_n (pc := 149) d_R_copyPool_149 rfl 1 rfl ?_
              refine h_callI G (x_siteS G (pc := 150) (y2 := y_R_base) (As := [.int 0, .int v1]) (S := [.ref t29, .int (t13 + t15), .ref t20]) d_R_copyPool_150 lm_R_100 mi_R_base mw_R_base.2 mw_R_base.1 mx_R_base.1 mx_R_base.2 rfl) mw_R_base ⟨Nat.le_of_ble_eq_true rfl, Nat.le_of_ble_eq_true rfl⟩ rfl (fun _ _ e => p_R_base G _ _ _ e) h fun t31 M30 h => ?_
              refine x_aload_n (pc := 153) d_R_copyPool_153 rfl 0 rfl ?_
              refine h_getR G (pc := 154) (ci := 7) (j := 5) d_R_copyPool_154 rfl rfl rfl lf_R_22 h fun t32 h => ?_
              refine x_iload_n (pc := 157) d_R_copyPool_157 rfl 3 rfl ?_
              refine h_iaload (pc := 158) d_R_copyPool_158 h fun t33 h => ?_
              refine x_iadd (pc := 159) d_R_copyPool_159 ?_
              refine h_iaload (pc := 160) d_R_copyPool_160 h fun t34 h => ?_
              refine x_goto (pc := 161) 170 d_R_copyPool_161 (by decide) ?_
              refine x_weak [0, 1, 2, 3, 4] rfl ?_
              exact p_R_copyPool_170 G ih _ _ _ _ _ _ _ _ _ h
          · refine x_aload_n (pc := 120) d_R_copyPool_120 rfl 0 rfl ?_
            refine h_getR G (pc := 121) (ci := 7) (j := 16) d_R_copyPool_121 rfl rfl rfl lf_R_56 h fun t35 h => ?_
            refine x_aload_n (pc := 124) d_R_copyPool_124 rfl 0 rfl ?_
            refine h_getR G (pc := 125) (ci := 7) (j := 5) d_R_copyPool_125 rfl rfl rfl lf_R_22 h fun t36 h => ?_
            refine x_iload_n (pc := 128) d_R_copyPool_128 rfl 3 rfl ?_
            refine h_iaload (pc := 129) d_R_copyPool_129 h fun t37 h => ?_
            refine h_iaload (pc := 130) d_R_copyPool_130 h fun t38 h => ?_
            refine x_goto (pc := 131) 170 d_R_copyPool_131 (by decide) ?_
            refine x_weak [0, 1, 2, 3, 4] rfl ?_
            exact p_R_copyPool_170 G ih _ _ _ _ _ _ _ _ _ h
        · refine x_aload_n (pc := 96) d_R_copyPool_96 rfl 0 rfl ?_
          refine h_getR G (pc := 97) (ci := 7) (j := 19) d_R_copyPool_97 rfl rfl rfl lf_R_65 h fun t39 h => ?_
          refine x_aload_n (pc := 100) d_R_copyPool_100 rfl 0 rfl ?_
          refine h_getR G (pc := 101) (ci := 7) (j := 5) d_R_copyPool_101 rfl rfl rfl lf_R_22 h fun t40 h => ?_
          refine x_iload_n (pc := 104) d_R_copyPool_104 rfl 3 rfl ?_
          refine h_iaload (pc := 105) d_R_copyPool_105 h fun t41 h => ?_
          refine h_iaload (pc := 106) d_R_copyPool_106 h fun t42 h => ?_
          refine x_goto (pc := 107) 170 d_R_copyPool_107 (by decide) ?_
          refine x_weak [0, 1, 2, 3, 4] rfl ?_
          exact p_R_copyPool_170 G ih _ _ _ _ _ _ _ _ _ h
theorem p_R_copyPool (G : xG K) (v0 : Nat) (v1 : Int32) (M : XM) (h : g_R_copyPool v0 v1 M = some (o, N)) : Ct K y_R_copyPool [.ref v0, .int v1] M o N := by
  refine ct_of (by decide) (List.forall_mem_cons.mpr ⟨rfl, List.forall_mem_cons.mpr ⟨rfl, fun _ q => absurd q List.not_mem_nil⟩⟩) (Nat.le_of_ble_eq_true rfl) ?_
  show cA K y_R_copyPool 0 [(0, .ref v0), (1, .int v1)] [] M o N
  unfold g_R_copyPool at h
  refine x_bipush (pc := 0) (v := 6) d_R_copyPool_0 (by decide) ?_
  refine x_aload_n (pc := 2) d_R_copyPool_2 rfl 0 rfl ?_
  refine h_getR G (pc := 3) (ci := 7) (j := 1) d_R_copyPool_3 rfl rfl rfl lf_R_7 h fun t1 h => ?_
  refine x_iconst (pc := 6) d_R_copyPool_6 rfl ?_
  refine h_iaload (pc := 7) d_R_copyPool_7 h fun t2 h => ?_
  refine x_iadd (pc := 8) d_R_copyPool_8 ?_
  refine x_istore_n (pc := 9) (L' := [(0, .ref v0), (1, .int v1), (2, .int (6 + t2))]) d_R_copyPool_9 rfl (by decide) rfl ?_
  refine x_aload_n (pc := 10) d_R_copyPool_10 rfl 0 rfl ?_
  refine h_getR G (pc := 11) (ci := 7) (j := 3) d_R_copyPool_11 rfl rfl rfl lf_R_16 h fun t3 h => ?_
  refine x_iload_n (pc := 14) d_R_copyPool_14 rfl 2 rfl ?_
  refine x_iconst (pc := 15) d_R_copyPool_15 rfl ?_
  refine h_iastore G (pc := 16) d_R_copyPool_16 h fun M4 h => ?_
  refine x_iconst (pc := 17) d_R_copyPool_17 rfl ?_
  refine x_iload_n (pc := 18) d_R_copyPool_18 rfl 1 rfl ?_
  refine h_callI G (x_siteS G (pc := 19) (y2 := y_R_base) (As := [.int 0, .int v1]) (S := []) d_R_copyPool_19 lm_R_100 mi_R_base mw_R_base.2 mw_R_base.1 mx_R_base.1 mx_R_base.2 rfl) mw_R_base ⟨Nat.le_of_ble_eq_true rfl, Nat.le_of_ble_eq_true rfl⟩ rfl (fun _ _ e => p_R_base G _ _ _ e) h fun t6 M5 h => ?_
  refine x_istore_n (pc := 22) (L' := [(0, .ref v0), (1, .int v1), (2, .int (6 + t2)), (3, .int t6)]) d_R_copyPool_22 rfl (by decide) rfl ?_
  refine x_weak [0, 1, 2, 3] rfl ?_
  exact p_R_copyPool_23 G FU _ _ _ _ _ h
theorem p_R_copyMember_93 (G : xG K) : ∀ (n : Nat) (v0 : Nat) (v1 : Int32) (v2 : Int32) (v3 : Int32) (M : XM), g_R_copyMember_93 n v0 v1 v2 v3 M = some (o, N) → cA K y_R_copyMember 93 [(0, .ref v0), (1, .int v1), (2, .int v2), (3, .int v3)] [] M o N := by
  intro n
  induction n with
  | zero =>
    intro v0 v1 v2 v3 M h
    rw [g_R_copyMember_93] at h
    cases h
  | succ n ih =>
    intro v0 v1 v2 v3 M h
    rw [g_R_copyMember_93] at h
    refine x_iload_n (pc := 93) d_R_copyMember_93 rfl 3 rfl ?_
    refine x_aload_n (pc := 94) d_R_copyMember_94 rfl 0 rfl ?_
    refine h_getR G (pc := 95) (ci := 7) (j := 10) d_R_copyMember_95 rfl rfl rfl lf_R_37 h fun t1 h => ?_
    refine x_iload_n (pc := 98) d_R_copyMember_98 rfl 1 rfl ?_
    refine h_iaload (pc := 99) d_R_copyMember_99 h fun t2 h => ?_
    refine h_icmp_ge (pc := 100) 190 d_R_copyMember_100 (by decide) h (fun _ h => ?_) (fun _ h => ?_)
    · refine x_aload_n (pc := 190) d_R_copyMember_190 rfl 0 rfl ?_
      refine h_getR G (pc := 191) (ci := 7) (j := 2) d_R_copyMember_191 rfl rfl rfl lf_R_13 h fun t3 h => ?_
      refine x_iconst (pc := 194) d_R_copyMember_194 rfl ?_
      refine x_dup2 (pc := 195) d_R_copyMember_195 rfl rfl ?_
      refine h_iaload (pc := 196) d_R_copyMember_196 h fun t4 h => ?_
      refine x_iconst (pc := 197) d_R_copyMember_197 rfl ?_
      refine x_iadd (pc := 198) d_R_copyMember_198 ?_
      refine h_iastore G (pc := 199) d_R_copyMember_199 h fun M5 h => ?_
      exact h_return (pc := 200) d_R_copyMember_200 rfl h
    · refine x_aload_n (pc := 103) d_R_copyMember_103 rfl 0 rfl ?_
      refine h_getR G (pc := 104) (ci := 7) (j := 12) d_R_copyMember_104 rfl rfl rfl lf_R_44 h fun t6 h => ?_
      refine x_bipush (pc := 107) (v := 20) d_R_copyMember_107 (by decide) ?_
      refine x_iload_n (pc := 109) d_R_copyMember_109 rfl 1 rfl ?_
      refine x_imul (pc := 110) d_R_copyMember_110 ?_
      refine x_iload_n (pc := 111) d_R_copyMember_111 rfl 3 rfl ?_
      refine x_iadd (pc := 112) d_R_copyMember_112 ?_
      refine h_iaload (pc := 113) d_R_copyMember_113 h fun t7 h => ?_
      refine x_istore (pc := 114) (L' := [(0, .ref v0), (1, .int v1), (2, .int v2), (3, .int v3), (4, .int t7)]) d_R_copyMember_114 (by decide) rfl ?_
      refine x_aload_n (pc := 116) d_R_copyMember_116 rfl 0 rfl ?_
      refine h_getR G (pc := 117) (ci := 7) (j := 13) d_R_copyMember_117 rfl rfl rfl lf_R_47 h fun t8 h => ?_
      refine x_bipush (pc := 120) (v := 20) d_R_copyMember_120 (by decide) ?_
      refine x_iload_n (pc := 122) d_R_copyMember_122 rfl 1 rfl ?_
      refine x_imul (pc := 123) d_R_copyMember_123 ?_
      refine x_iload_n (pc := 124) d_R_copyMember_124 rfl 3 rfl ?_
      refine x_iadd (pc := 125) d_R_copyMember_125 ?_
      refine h_iaload (pc := 126) d_R_copyMember_126 h fun t9 h => ?_
      refine x_istore (pc := 127) (L' := [(0, .ref v0), (1, .int v1), (2, .int v2), (3, .int v3), (4, .int t7), (5, .int t9)]) d_R_copyMember_127 (by decide) rfl ?_
      refine x_aload_n (pc := 129) d_R_copyMember_129 rfl 0 rfl ?_
      refine h_getR G (pc := 130) (ci := 7) (j := 12) d_R_copyMember_130 rfl rfl rfl lf_R_44 h fun t10 h => ?_
      refine x_bipush (pc := 133) (v := 20) d_R_copyMember_133 (by decide) ?_
      refine x_iload_n (pc := 135) d_R_copyMember_135 rfl 2 rfl ?_
      refine x_imul (pc := 136) d_R_copyMember_136 ?_
      refine x_iload_n (pc := 137) d_R_copyMember_137 rfl 3 rfl ?_
      refine x_iadd (pc := 138) d_R_copyMember_138 ?_
      refine x_iload (pc := 139) d_R_copyMember_139 4 rfl ?_
      refine h_iastore G (pc := 141) d_R_copyMember_141 h fun M11 h => ?_
      refine x_aload_n (pc := 142) d_R_copyMember_142 rfl 0 rfl ?_
      refine h_getR G (pc := 143) (ci := 7) (j := 13) d_R_copyMember_143 rfl rfl rfl lf_R_47 h fun t12 h => ?_
      refine x_bipush (pc := 146) (v := 20) d_R_copyMember_146 (by decide) ?_
      refine x_iload_n (pc := 148) d_R_copyMember_148 rfl 2 rfl ?_
      refine x_imul (pc := 149) d_R_copyMember_149 ?_
      refine x_iload_n (pc := 150) d_R_copyMember_150 rfl 3 rfl ?_
      refine x_iadd (pc := 151) d_R_copyMember_151 ?_
      refine x_iload (pc := 152) d_R_copyMember_152 4 rfl ?_
      refine h_callI G (x_siteS G (pc := 154) (y2 := y_R_usesPool) (As := [.int t7]) (S := [.int ((20 * v2) + v3), .ref t12]) d_R_copyMember_154 lm_R_133 mi_R_usesPool mw_R_usesPool.2 mw_R_usesPool.1 mx_R_usesPool.1 mx_R_usesPool.2 rfl) mw_R_usesPool ⟨Nat.le_of_ble_eq_true rfl, Nat.le_of_ble_eq_true rfl⟩ rfl (fun _ _ e => p_R_usesPool G _ _ e) h fun t14 M13 h => ?_
      refine h_if_eq (pc := 157) 181 d_R_copyMember_157 (by decide) h (fun _ h => ?_) (fun _ h => ?_)
      · refine x_iload (pc := 181) d_R_copyMember_181 5 rfl ?_
        refine h_iastore G (pc := 183) d_R_copyMember_183 h fun M15 h => ?_
        refine x_iinc (pc := 184) (n := 3) (L' := [(0, .ref v0), (1, .int v1), (2, .int v2), (3, .int (v3 + 1)), (4, .int t7), (5, .int t9)]) d_R_copyMember_184 (by decide) rfl rfl ?_
        refine x_goto (pc := 187) 93 d_R_copyMember_187 (by decide) ?_
        refine x_weak [0, 1, 2, 3] rfl ?_
        exact ih _ _ _ _ _ h
      · refine x_aload_n (pc := 160) d_R_copyMember_160 rfl 0 rfl ?_
        refine h_getR G (pc := 161) (ci := 7) (j := 18) d_R_copyMember_161 rfl rfl rfl lf_R_62 h fun t16 h => ?_
        refine x_iconst (pc := 164) d_R_copyMember_164 rfl ?_
        refine x_aload_n (pc := 165) d_R_copyMember_165 rfl 0 rfl ?_
        refine h_getR G (pc := 166) (ci := 7) (j := 7) d_R_copyMember_166 rfl rfl rfl lf_R_28 h fun t17 h => ?_
        refine x_iload_n (pc := 169) d_R_copyMember_169 rfl 1 rfl ?_
        refine h_iaload (pc := 170) d_R_copyMember_170 h fun t18 h => ?_
        refine h_callI G (x_siteS G (pc := 171) (y2 := y_R_base) (As := [.int 0, .int t18]) (S := [.ref t16, .int ((20 * v2) + v3), .ref t12]) d_R_copyMember_171 lm_R_100 mi_R_base mw_R_base.2 mw_R_base.1 mx_R_base.1 mx_R_base.2 rfl) mw_R_base ⟨Nat.le_of_ble_eq_true rfl, Nat.le_of_ble_eq_true rfl⟩ rfl (fun _ _ e => p_R_base G _ _ _ e) h fun t20 M19 h => ?_
        refine x_iload (pc := 174) d_R_copyMember_174 5 rfl ?_
        refine x_iadd (pc := 176) d_R_copyMember_176 ?_
        refine h_iaload (pc := 177) d_R_copyMember_177 h fun t21 h => ?_
        refine x_goto (pc := 178) 183 d_R_copyMember_178 (by decide) ?_
        refine h_iastore G (pc := 183) d_R_copyMember_183 h fun M22 h => ?_
        refine x_iinc (pc := 184) (n := 3) (L' := [(0, .ref v0), (1, .int v1), (2, .int v2), (3, .int (v3 + 1)), (4, .int t7), (5, .int t9)]) d_R_copyMember_184 (by decide) rfl rfl ?_
        refine x_goto (pc := 187) 93 d_R_copyMember_187 (by decide) ?_
        refine x_weak [0, 1, 2, 3] rfl ?_
        exact ih _ _ _ _ _ h
theorem p_R_copyMember (G : xG K) (v0 : Nat) (v1 : Int32) (M : XM) (h : g_R_copyMember v0 v1 M = some (o, N)) : Ct K y_R_copyMember [.ref v0, .int v1] M o N := by
  refine ct_of (by decide) (List.forall_mem_cons.mpr ⟨rfl, List.forall_mem_cons.mpr ⟨rfl, fun _ q => absurd q List.not_mem_nil⟩⟩) (Nat.le_of_ble_eq_true rfl) ?_
  show cA K y_R_copyMember 0 [(0, .ref v0), (1, .int v1)] [] M o N
  unfold g_R_copyMember at h
  refine x_bipush (pc := 0) (v := 30) d_R_copyMember_0 (by decide) ?_
  refine x_aload_n (pc := 2) d_R_copyMember_2 rfl 0 rfl ?_
  refine h_getR G (pc := 3) (ci := 7) (j := 2) d_R_copyMember_3 rfl rfl rfl lf_R_13 h fun t1 h => ?_
  refine x_iconst (pc := 6) d_R_copyMember_6 rfl ?_
  refine h_iaload (pc := 7) d_R_copyMember_7 h fun t2 h => ?_
  refine x_iadd (pc := 8) d_R_copyMember_8 ?_
  refine x_istore_n (pc := 9) (L' := [(0, .ref v0), (1, .int v1), (2, .int (30 + t2))]) d_R_copyMember_9 rfl (by decide) rfl ?_
  refine x_aload_n (pc := 10) d_R_copyMember_10 rfl 0 rfl ?_
  refine h_getR G (pc := 11) (ci := 7) (j := 7) d_R_copyMember_11 rfl rfl rfl lf_R_28 h fun t3 h => ?_
  refine x_iload_n (pc := 14) d_R_copyMember_14 rfl 2 rfl ?_
  refine x_aload_n (pc := 15) d_R_copyMember_15 rfl 0 rfl ?_
  refine h_getR G (pc := 16) (ci := 7) (j := 16) d_R_copyMember_16 rfl rfl rfl lf_R_56 h fun t4 h => ?_
  refine x_aload_n (pc := 19) d_R_copyMember_19 rfl 0 rfl ?_
  refine h_getR G (pc := 20) (ci := 7) (j := 7) d_R_copyMember_20 rfl rfl rfl lf_R_28 h fun t5 h => ?_
  refine x_iload_n (pc := 23) d_R_copyMember_23 rfl 1 rfl ?_
  refine h_iaload (pc := 24) d_R_copyMember_24 h fun t6 h => ?_
  refine h_iaload (pc := 25) d_R_copyMember_25 h fun t7 h => ?_
  refine h_iastore G (pc := 26) d_R_copyMember_26 h fun M8 h => ?_
  refine x_aload_n (pc := 27) d_R_copyMember_27 rfl 0 rfl ?_
  refine h_getR G (pc := 28) (ci := 7) (j := 8) d_R_copyMember_28 rfl rfl rfl lf_R_31 h fun t9 h => ?_
  refine x_iload_n (pc := 31) d_R_copyMember_31 rfl 2 rfl ?_
  refine x_aload_n (pc := 32) d_R_copyMember_32 rfl 0 rfl ?_
  refine h_getR G (pc := 33) (ci := 7) (j := 18) d_R_copyMember_33 rfl rfl rfl lf_R_62 h fun t10 h => ?_
  refine x_iconst (pc := 36) d_R_copyMember_36 rfl ?_
  refine x_aload_n (pc := 37) d_R_copyMember_37 rfl 0 rfl ?_
  refine h_getR G (pc := 38) (ci := 7) (j := 7) d_R_copyMember_38 rfl rfl rfl lf_R_28 h fun t11 h => ?_
  refine x_iload_n (pc := 41) d_R_copyMember_41 rfl 1 rfl ?_
  refine h_iaload (pc := 42) d_R_copyMember_42 h fun t12 h => ?_
  refine h_callI G (x_siteS G (pc := 43) (y2 := y_R_base) (As := [.int 0, .int t12]) (S := [.ref t10, .int (30 + t2), .ref t9]) d_R_copyMember_43 lm_R_100 mi_R_base mw_R_base.2 mw_R_base.1 mx_R_base.1 mx_R_base.2 rfl) mw_R_base ⟨Nat.le_of_ble_eq_true rfl, Nat.le_of_ble_eq_true rfl⟩ rfl (fun _ _ e => p_R_base G _ _ _ e) h fun t14 M13 h => ?_
  refine x_aload_n (pc := 46) d_R_copyMember_46 rfl 0 rfl ?_
  refine h_getR G (pc := 47) (ci := 7) (j := 8) d_R_copyMember_47 rfl rfl rfl lf_R_31 h fun t15 h => ?_
  refine x_iload_n (pc := 50) d_R_copyMember_50 rfl 1 rfl ?_
  refine h_iaload (pc := 51) d_R_copyMember_51 h fun t16 h => ?_
  refine x_iadd (pc := 52) d_R_copyMember_52 ?_
  refine h_iaload (pc := 53) d_R_copyMember_53 h fun t17 h => ?_
  refine h_iastore G (pc := 54) d_R_copyMember_54 h fun M18 h => ?_
  refine x_aload_n (pc := 55) d_R_copyMember_55 rfl 0 rfl ?_
  refine h_getR G (pc := 56) (ci := 7) (j := 9) d_R_copyMember_56 rfl rfl rfl lf_R_34 h fun t19 h => ?_
  refine x_iload_n (pc := 59) d_R_copyMember_59 rfl 2 rfl ?_
  refine x_aload_n (pc := 60) d_R_copyMember_60 rfl 0 rfl ?_
  refine h_getR G (pc := 61) (ci := 7) (j := 9) d_R_copyMember_61 rfl rfl rfl lf_R_34 h fun t20 h => ?_
  refine x_iload_n (pc := 64) d_R_copyMember_64 rfl 1 rfl ?_
  refine h_iaload (pc := 65) d_R_copyMember_65 h fun t21 h => ?_
  refine h_iastore G (pc := 66) d_R_copyMember_66 h fun M22 h => ?_
  refine x_aload_n (pc := 67) d_R_copyMember_67 rfl 0 rfl ?_
  refine h_getR G (pc := 68) (ci := 7) (j := 10) d_R_copyMember_68 rfl rfl rfl lf_R_37 h fun t23 h => ?_
  refine x_iload_n (pc := 71) d_R_copyMember_71 rfl 2 rfl ?_
  refine x_aload_n (pc := 72) d_R_copyMember_72 rfl 0 rfl ?_
  refine h_getR G (pc := 73) (ci := 7) (j := 10) d_R_copyMember_73 rfl rfl rfl lf_R_37 h fun t24 h => ?_
  refine x_iload_n (pc := 76) d_R_copyMember_76 rfl 1 rfl ?_
  refine h_iaload (pc := 77) d_R_copyMember_77 h fun t25 h => ?_
  refine h_iastore G (pc := 78) d_R_copyMember_78 h fun M26 h => ?_
  refine x_aload_n (pc := 79) d_R_copyMember_79 rfl 0 rfl ?_
  refine h_getR G (pc := 80) (ci := 7) (j := 11) d_R_copyMember_80 rfl rfl rfl lf_R_40 h fun t27 h => ?_
  refine x_iload_n (pc := 83) d_R_copyMember_83 rfl 2 rfl ?_
  refine x_aload_n (pc := 84) d_R_copyMember_84 rfl 0 rfl ?_
  refine h_getR G (pc := 85) (ci := 7) (j := 11) d_R_copyMember_85 rfl rfl rfl lf_R_40 h fun t28 h => ?_
  refine x_iload_n (pc := 88) d_R_copyMember_88 rfl 1 rfl ?_
  refine h_baload (pc := 89) d_R_copyMember_89 h fun t29 h => ?_
  refine h_bastore G (pc := 90) d_R_copyMember_90 h fun M30 h => ?_
  refine x_iconst (pc := 91) d_R_copyMember_91 rfl ?_
  refine x_istore_n (pc := 92) (L' := [(0, .ref v0), (1, .int v1), (2, .int (30 + t2)), (3, .int 0)]) d_R_copyMember_92 rfl (by decide) rfl ?_
  refine x_weak [0, 1, 2, 3] rfl ?_
  exact p_R_copyMember_93 G FU _ _ _ _ _ h
theorem p_R_copyKept_48 (G : xG K) : ∀ (n : Nat) (v0 : Nat) (v1 : Int32) (M : XM), g_R_copyKept_48 n v0 v1 M = some (o, N) → cA K y_R_copyKept 48 [(0, .ref v0), (1, .int v1)] [] M o N := by
  intro n
  induction n with
  | zero =>
    intro v0 v1 M h
    rw [g_R_copyKept_48] at h
    cases h
  | succ n ih =>
    intro v0 v1 M h
    rw [g_R_copyKept_48] at h
    refine x_iload_n (pc := 48) d_R_copyKept_48 rfl 1 rfl ?_
    refine x_aload_n (pc := 49) d_R_copyKept_49 rfl 0 rfl ?_
    refine h_getR G (pc := 50) (ci := 7) (j := 2) d_R_copyKept_50 rfl rfl rfl lf_R_13 h fun t1 h => ?_
    refine x_iconst (pc := 53) d_R_copyKept_53 rfl ?_
    refine h_iaload (pc := 54) d_R_copyKept_54 h fun t2 h => ?_
    refine h_icmp_ge (pc := 55) 78 d_R_copyKept_55 (by decide) h (fun _ h => ?_) (fun _ h => ?_)
    · exact h_return (pc := 78) d_R_copyKept_78 rfl h
    · refine x_aload_n (pc := 58) d_R_copyKept_58 rfl 0 rfl ?_
      refine h_getR G (pc := 59) (ci := 7) (j := 15) d_R_copyKept_59 rfl rfl rfl lf_R_53 h fun t3 h => ?_
      refine x_iload_n (pc := 62) d_R_copyKept_62 rfl 1 rfl ?_
      refine h_baload (pc := 63) d_R_copyKept_63 h fun t4 h => ?_
      refine h_if_eq (pc := 64) 72 d_R_copyKept_64 (by decide) h (fun _ h => ?_) (fun _ h => ?_)
      · refine x_iinc (pc := 72) (n := 1) (L' := [(0, .ref v0), (1, .int (v1 + 1))]) d_R_copyKept_72 (by decide) rfl rfl ?_
        refine x_goto (pc := 75) 48 d_R_copyKept_75 (by decide) ?_
        refine x_weak [0, 1] rfl ?_
        exact ih _ _ _ h
      · refine x_aload_n (pc := 67) d_R_copyKept_67 rfl 0 rfl ?_
        refine x_iload_n (pc := 68) d_R_copyKept_68 rfl 1 rfl ?_
        obtain ⟨⟨ra5, ra5t⟩, h⟩ := h_ok h
        refine h_callV G (x_siteV G (pc := 69) (y2 := y_R_copyMember) (As := [.int v1]) (S := []) (ci := 7) d_R_copyKept_69 rfl lm_R_141 mi_R_copyMember ms_R_copyMember mw_R_copyMember.1 mx_R_copyMember.1 mx_R_copyMember.2 rfl ra5 ra5t) mw_R_copyMember ⟨Nat.le_of_ble_eq_true rfl, Nat.le_of_ble_eq_true rfl⟩ rfl (fun _ _ e => p_R_copyMember G _ _ _ e) h fun M6 h => ?_
        refine x_iinc (pc := 72) (n := 1) (L' := [(0, .ref v0), (1, .int (v1 + 1))]) d_R_copyKept_72 (by decide) rfl rfl ?_
        refine x_goto (pc := 75) 48 d_R_copyKept_75 (by decide) ?_
        refine x_weak [0, 1] rfl ?_
        exact ih _ _ _ h
theorem p_R_copyKept_16 (G : xG K) : ∀ (n : Nat) (v0 : Nat) (v1 : Int32) (M : XM), g_R_copyKept_16 n v0 v1 M = some (o, N) → cA K y_R_copyKept 16 [(0, .ref v0), (1, .int v1)] [] M o N := by
  intro n
  induction n with
  | zero =>
    intro v0 v1 M h
    rw [g_R_copyKept_16] at h
    cases h
  | succ n ih =>
    intro v0 v1 M h
    rw [g_R_copyKept_16] at h
    refine x_iload_n (pc := 16) d_R_copyKept_16 rfl 1 rfl ?_
    refine x_aload_n (pc := 17) d_R_copyKept_17 rfl 0 rfl ?_
    refine h_getR G (pc := 18) (ci := 7) (j := 1) d_R_copyKept_18 rfl rfl rfl lf_R_7 h fun t1 h => ?_
    refine x_iconst (pc := 21) d_R_copyKept_21 rfl ?_
    refine h_iaload (pc := 22) d_R_copyKept_22 h fun t2 h => ?_
    refine h_icmp_ge (pc := 23) 46 d_R_copyKept_23 (by decide) h (fun _ h => ?_) (fun _ h => ?_)
    · refine x_iconst (pc := 46) d_R_copyKept_46 rfl ?_
      refine x_istore_n (pc := 47) (L' := [(0, .ref v0), (1, .int 0)]) d_R_copyKept_47 rfl (by decide) rfl ?_
      refine x_weak [0, 1] rfl ?_
      exact p_R_copyKept_48 G FU _ _ _ h
    · refine x_aload_n (pc := 26) d_R_copyKept_26 rfl 0 rfl ?_
      refine h_getR G (pc := 27) (ci := 7) (j := 16) d_R_copyKept_27 rfl rfl rfl lf_R_56 h fun t3 h => ?_
      refine x_iload_n (pc := 30) d_R_copyKept_30 rfl 1 rfl ?_
      refine h_iaload (pc := 31) d_R_copyKept_31 h fun t4 h => ?_
      refine h_if_lt (pc := 32) 40 d_R_copyKept_32 (by decide) h (fun _ h => ?_) (fun _ h => ?_)
      · refine x_iinc (pc := 40) (n := 1) (L' := [(0, .ref v0), (1, .int (v1 + 1))]) d_R_copyKept_40 (by decide) rfl rfl ?_
        refine x_goto (pc := 43) 16 d_R_copyKept_43 (by decide) ?_
        refine x_weak [0, 1] rfl ?_
        exact ih _ _ _ h
      · refine x_aload_n (pc := 35) d_R_copyKept_35 rfl 0 rfl ?_
        refine x_iload_n (pc := 36) d_R_copyKept_36 rfl 1 rfl ?_
        obtain ⟨⟨ra5, ra5t⟩, h⟩ := h_ok h
        refine h_callV G (x_siteV G (pc := 37) (y2 := y_R_copyPool) (As := [.int v1]) (S := []) (ci := 7) d_R_copyKept_37 rfl lm_R_137 mi_R_copyPool ms_R_copyPool mw_R_copyPool.1 mx_R_copyPool.1 mx_R_copyPool.2 rfl ra5 ra5t) mw_R_copyPool ⟨Nat.le_of_ble_eq_true rfl, Nat.le_of_ble_eq_true rfl⟩ rfl (fun _ _ e => p_R_copyPool G _ _ _ e) h fun M6 h => ?_
        refine x_iinc (pc := 40) (n := 1) (L' := [(0, .ref v0), (1, .int (v1 + 1))]) d_R_copyKept_40 (by decide) rfl rfl ?_
        refine x_goto (pc := 43) 16 d_R_copyKept_43 (by decide) ?_
        refine x_weak [0, 1] rfl ?_
        exact ih _ _ _ h
theorem p_R_copyKept (G : xG K) (v0 : Nat) (M : XM) (h : g_R_copyKept v0 M = some (o, N)) : Ct K y_R_copyKept [.ref v0] M o N := by
  refine ct_of (by decide) (List.forall_mem_cons.mpr ⟨rfl, fun _ q => absurd q List.not_mem_nil⟩) (Nat.le_of_ble_eq_true rfl) ?_
  show cA K y_R_copyKept 0 [(0, .ref v0)] [] M o N
  unfold g_R_copyKept at h
  refine x_aload_n (pc := 0) d_R_copyKept_0 rfl 0 rfl ?_
  refine h_getR G (pc := 1) (ci := 7) (j := 1) d_R_copyKept_1 rfl rfl rfl lf_R_7 h fun t1 h => ?_
  refine x_iconst (pc := 4) d_R_copyKept_4 rfl ?_
  refine x_iconst (pc := 5) d_R_copyKept_5 rfl ?_
  refine h_iastore G (pc := 6) d_R_copyKept_6 h fun M2 h => ?_
  refine x_aload_n (pc := 7) d_R_copyKept_7 rfl 0 rfl ?_
  refine h_getR G (pc := 8) (ci := 7) (j := 2) d_R_copyKept_8 rfl rfl rfl lf_R_13 h fun t3 h => ?_
  refine x_iconst (pc := 11) d_R_copyKept_11 rfl ?_
  refine x_iconst (pc := 12) d_R_copyKept_12 rfl ?_
  refine h_iastore G (pc := 13) d_R_copyKept_13 h fun M4 h => ?_
  refine x_iconst (pc := 14) d_R_copyKept_14 rfl ?_
  refine x_istore_n (pc := 15) (L' := [(0, .ref v0), (1, .int 0)]) d_R_copyKept_15 rfl (by decide) rfl ?_
  refine x_weak [0, 1] rfl ?_
  exact p_R_copyKept_16 G FU _ _ _ h
theorem p_R_shake_21 (G : xG K) (v0 : Nat) (s0 : Nat) (s1 : Int32) (M : XM) (h : g_R_shake_21 v0 s0 s1 M = some (o, N)) : cA K y_R_shake 21 [(0, .ref v0)] [.int s1, .ref s0] M o N := by
  unfold g_R_shake_21 at h
  refine h_putI G (pc := 21) (ci := 7) (j := 0) d_R_shake_21 rfl rfl rfl lf_R_92 h fun M1 h => ?_
  refine x_aload_n (pc := 24) d_R_shake_24 rfl 0 rfl ?_
  refine h_getI G (pc := 25) (ci := 7) (j := 0) d_R_shake_25 rfl rfl rfl lf_R_92 h fun t2 h => ?_
  refine h_if_le (pc := 28) 33 d_R_shake_28 (by decide) h (fun _ h => ?_) (fun _ h => ?_)
  · refine x_aload_n (pc := 33) d_R_shake_33 rfl 0 rfl ?_
    obtain ⟨⟨ra3, ra3t⟩, h⟩ := h_ok h
    refine h_callV G (x_siteV G (pc := 34) (y2 := y_R_reach) (As := []) (S := []) (ci := 7) d_R_shake_34 rfl lm_R_148 mi_R_reach ms_R_reach mw_R_reach.1 mx_R_reach.1 mx_R_reach.2 rfl ra3 ra3t) mw_R_reach ⟨Nat.le_of_ble_eq_true rfl, Nat.le_of_ble_eq_true rfl⟩ rfl (fun _ _ e => p_R_reach G _ _ e) h fun M4 h => ?_
    refine x_aload_n (pc := 37) d_R_shake_37 rfl 0 rfl ?_
    obtain ⟨⟨ra5, ra5t⟩, h⟩ := h_ok h
    refine h_callV G (x_siteV G (pc := 38) (y2 := y_R_markConstants) (As := []) (S := []) (ci := 7) d_R_shake_38 rfl lm_R_151 mi_R_markConstants ms_R_markConstants mw_R_markConstants.1 mx_R_markConstants.1 mx_R_markConstants.2 rfl ra5 ra5t) mw_R_markConstants ⟨Nat.le_of_ble_eq_true rfl, Nat.le_of_ble_eq_true rfl⟩ rfl (fun _ _ e => p_R_markConstants G _ _ e) h fun M6 h => ?_
    refine x_aload_n (pc := 41) d_R_shake_41 rfl 0 rfl ?_
    obtain ⟨⟨ra7, ra7t⟩, h⟩ := h_ok h
    refine h_callV G (x_siteV G (pc := 42) (y2 := y_R_numberAll) (As := []) (S := []) (ci := 7) d_R_shake_42 rfl lm_R_154 mi_R_numberAll ms_R_numberAll mw_R_numberAll.1 mx_R_numberAll.1 mx_R_numberAll.2 rfl ra7 ra7t) mw_R_numberAll ⟨Nat.le_of_ble_eq_true rfl, Nat.le_of_ble_eq_true rfl⟩ rfl (fun _ _ e => p_R_numberAll G _ _ e) h fun M8 h => ?_
    refine x_aload_n (pc := 45) d_R_shake_45 rfl 0 rfl ?_
    obtain ⟨⟨ra9, ra9t⟩, h⟩ := h_ok h
    refine h_callV G (x_siteV G (pc := 46) (y2 := y_R_giveNames) (As := []) (S := []) (ci := 7) d_R_shake_46 rfl lm_R_157 mi_R_giveNames ms_R_giveNames mw_R_giveNames.1 mx_R_giveNames.1 mx_R_giveNames.2 rfl ra9 ra9t) mw_R_giveNames ⟨Nat.le_of_ble_eq_true rfl, Nat.le_of_ble_eq_true rfl⟩ rfl (fun _ _ e => p_R_giveNames G _ _ e) h fun M10 h => ?_
    refine x_aload_n (pc := 49) d_R_shake_49 rfl 0 rfl ?_
    obtain ⟨⟨ra11, ra11t⟩, h⟩ := h_ok h
    refine h_callV G (x_siteV G (pc := 50) (y2 := y_R_copyKept) (As := []) (S := []) (ci := 7) d_R_shake_50 rfl lm_R_160 mi_R_copyKept ms_R_copyKept mw_R_copyKept.1 mx_R_copyKept.1 mx_R_copyKept.2 rfl ra11 ra11t) mw_R_copyKept ⟨Nat.le_of_ble_eq_true rfl, Nat.le_of_ble_eq_true rfl⟩ rfl (fun _ _ e => p_R_copyKept G _ _ e) h fun M12 h => ?_
    refine x_aload_n (pc := 53) d_R_shake_53 rfl 0 rfl ?_
    refine h_getR G (pc := 54) (ci := 7) (j := 2) d_R_shake_54 rfl rfl rfl lf_R_13 h fun t13 h => ?_
    refine x_iconst (pc := 57) d_R_shake_57 rfl ?_
    refine h_iaload (pc := 58) d_R_shake_58 h fun t14 h => ?_
    exact h_ireturn (pc := 59) d_R_shake_59 rfl h
  · refine x_iconst (pc := 31) d_R_shake_31 rfl ?_
    exact h_ireturn (pc := 32) d_R_shake_32 rfl h
theorem p_R_shake_16 (G : xG K) (v0 : Nat) (s0 : Nat) (M : XM) (h : g_R_shake_16 v0 s0 M = some (o, N)) : cA K y_R_shake 16 [(0, .ref v0)] [.ref s0] M o N := by
  unfold g_R_shake_16 at h
  refine x_iconst (pc := 16) d_R_shake_16 rfl ?_
  refine x_goto (pc := 17) 21 d_R_shake_17 (by decide) ?_
  refine x_weak [0] rfl ?_
  exact p_R_shake_21 G _ _ _ _ h
theorem p_R_shake (G : xG K) (v0 : Nat) (M : XM) (h : g_R_shake v0 M = some (o, N)) : Ct K y_R_shake [.ref v0] M o N := by
  refine ct_of (by decide) (List.forall_mem_cons.mpr ⟨rfl, fun _ q => absurd q List.not_mem_nil⟩) (Nat.le_of_ble_eq_true rfl) ?_
  show cA K y_R_shake 0 [(0, .ref v0)] [] M o N
  unfold g_R_shake at h
  refine x_aload_n (pc := 0) d_R_shake_0 rfl 0 rfl ?_
  refine x_aload_n (pc := 1) d_R_shake_1 rfl 0 rfl ?_
  obtain ⟨⟨ra1, ra1t⟩, h⟩ := h_ok h
  refine h_callI G (x_siteV G (pc := 2) (y2 := y_R_firstFault) (As := []) (S := [.ref v0]) (ci := 7) d_R_shake_2 rfl lm_R_129 mi_R_firstFault ms_R_firstFault mw_R_firstFault.1 mx_R_firstFault.1 mx_R_firstFault.2 rfl ra1 ra1t) mw_R_firstFault ⟨Nat.le_of_ble_eq_true rfl, Nat.le_of_ble_eq_true rfl⟩ rfl (fun _ _ e => p_R_firstFault G _ _ e) h fun t3 M2 h => ?_
  refine h_if_ge (pc := 5) 16 d_R_shake_5 (by decide) h (fun _ h => ?_) (fun _ h => ?_)
  · refine x_weak [0] rfl ?_
    exact p_R_shake_16 G _ _ _ h
  · refine x_aload_n (pc := 8) d_R_shake_8 rfl 0 rfl ?_
    refine x_iconst (pc := 9) d_R_shake_9 rfl ?_
    obtain ⟨⟨ra4, ra4t⟩, h⟩ := h_ok h
    refine h_callI G (x_siteV G (pc := 10) (y2 := y_R_countEntries) (As := [.int 0]) (S := [.ref v0]) (ci := 7) d_R_shake_10 rfl lm_R_144 mi_R_countEntries ms_R_countEntries mw_R_countEntries.1 mx_R_countEntries.1 mx_R_countEntries.2 rfl ra4 ra4t) mw_R_countEntries ⟨Nat.le_of_ble_eq_true rfl, Nat.le_of_ble_eq_true rfl⟩ rfl (fun _ _ e => p_R_countEntries G _ _ _ e) h fun t6 M5 h => ?_
    refine h_if_ne (pc := 13) 20 d_R_shake_13 (by decide) h (fun _ h => ?_) (fun _ h => ?_)
    · refine x_iconst (pc := 20) d_R_shake_20 rfl ?_
      refine x_weak [0] rfl ?_
      exact p_R_shake_21 G _ _ _ _ h
    · refine x_weak [0] rfl ?_
      exact p_R_shake_16 G _ _ _ h
theorem p_R_count_27 (G : xG K) (v0 : Nat) (v2 : Int32) (s0 : Int32) (M : XM) (h : g_R_count_27 v0 v2 s0 M = some (o, N)) : cA K y_R_count 27 [(0, .ref v0), (2, .int v2)] [.int s0] M o N := by
  unfold g_R_count_27 at h
  refine x_istore_n (pc := 27) (L' := [(0, .ref v0), (2, .int v2), (3, .int s0)]) d_R_count_27 rfl (by decide) rfl ?_
  refine x_aload_n (pc := 28) d_R_count_28 rfl 0 rfl ?_
  refine h_getI G (pc := 29) (ci := 7) (j := 0) d_R_count_29 rfl rfl rfl lf_R_92 h fun t1 h => ?_
  refine h_if_le (pc := 32) 39 d_R_count_32 (by decide) h (fun _ h => ?_) (fun _ h => ?_)
  · refine x_iload_n (pc := 39) d_R_count_39 rfl 1 rfl ?_
    refine h_if_ne (pc := 40) 52 d_R_count_40 (by decide) h (fun _ h => ?_) (fun _ h => ?_)
    · refine x_iload_n (pc := 52) d_R_count_52 rfl 1 rfl ?_
      refine x_iconst (pc := 53) d_R_count_53 rfl ?_
      refine h_icmp_ne (pc := 54) 66 d_R_count_54 (by decide) h (fun _ h => ?_) (fun _ h => ?_)
      · refine x_aload_n (pc := 66) d_R_count_66 rfl 0 rfl ?_
        refine x_iload_n (pc := 67) d_R_count_67 rfl 2 rfl ?_
        obtain ⟨⟨ra2, ra2t⟩, h⟩ := h_ok h
        refine h_callI G (x_siteV G (pc := 68) (y2 := y_R_countEntries) (As := [.int s0]) (S := []) (ci := 7) d_R_count_68 rfl lm_R_144 mi_R_countEntries ms_R_countEntries mw_R_countEntries.1 mx_R_countEntries.1 mx_R_countEntries.2 rfl ra2 ra2t) mw_R_countEntries ⟨Nat.le_of_ble_eq_true rfl, Nat.le_of_ble_eq_true rfl⟩ rfl (fun _ _ e => p_R_countEntries G _ _ _ e) h fun t4 M3 h => ?_
        exact h_ireturn (pc := 71) d_R_count_71 rfl h
      · refine x_aload_n (pc := 57) d_R_count_57 rfl 0 rfl ?_
        refine h_getR G (pc := 58) (ci := 7) (j := 2) d_R_count_58 rfl rfl rfl lf_R_13 h fun t5 h => ?_
        refine x_iload_n (pc := 61) d_R_count_61 rfl 2 rfl ?_
        refine h_iaload (pc := 62) d_R_count_62 h fun t6 h => ?_
        refine x_goto (pc := 63) 71 d_R_count_63 (by decide) ?_
        exact h_ireturn (pc := 71) d_R_count_71 rfl h
    · refine x_aload_n (pc := 43) d_R_count_43 rfl 0 rfl ?_
      refine h_getR G (pc := 44) (ci := 7) (j := 1) d_R_count_44 rfl rfl rfl lf_R_7 h fun t7 h => ?_
      refine x_iload_n (pc := 47) d_R_count_47 rfl 2 rfl ?_
      refine h_iaload (pc := 48) d_R_count_48 h fun t8 h => ?_
      refine x_goto (pc := 49) 71 d_R_count_49 (by decide) ?_
      exact h_ireturn (pc := 71) d_R_count_71 rfl h
  · refine x_iconst (pc := 35) d_R_count_35 rfl ?_
    refine x_goto (pc := 36) 71 d_R_count_36 (by decide) ?_
    exact h_ireturn (pc := 71) d_R_count_71 rfl h
theorem p_R_count_15 (G : xG K) (v0 : Nat) (v1 : Int32) (v2 : Int32) (s0 : Nat) (s1 : Int32) (M : XM) (h : g_R_count_15 v0 v1 v2 s0 s1 M = some (o, N)) : cA K y_R_count 15 [(0, .ref v0), (1, .int v1), (2, .int v2)] [.int s1, .ref s0] M o N := by
  unfold g_R_count_15 at h
  refine h_putI G (pc := 15) (ci := 7) (j := 0) d_R_count_15 rfl rfl rfl lf_R_92 h fun M1 h => ?_
  refine x_iload_n (pc := 18) d_R_count_18 rfl 1 rfl ?_
  refine h_if_eq (pc := 19) 26 d_R_count_19 (by decide) h (fun _ h => ?_) (fun _ h => ?_)
  · refine x_iconst (pc := 26) d_R_count_26 rfl ?_
    refine x_weak [0, 2] rfl ?_
    exact p_R_count_27 G _ _ _ _ h
  · refine x_iconst (pc := 22) d_R_count_22 rfl ?_
    refine x_goto (pc := 23) 27 d_R_count_23 (by decide) ?_
    refine x_weak [0, 2] rfl ?_
    exact p_R_count_27 G _ _ _ _ h
theorem p_R_count_10 (G : xG K) (v0 : Nat) (v1 : Int32) (v2 : Int32) (s0 : Nat) (M : XM) (h : g_R_count_10 v0 v1 v2 s0 M = some (o, N)) : cA K y_R_count 10 [(0, .ref v0), (1, .int v1), (2, .int v2)] [.ref s0] M o N := by
  unfold g_R_count_10 at h
  refine x_iconst (pc := 10) d_R_count_10 rfl ?_
  refine x_goto (pc := 11) 15 d_R_count_11 (by decide) ?_
  refine x_weak [0, 1, 2] rfl ?_
  exact p_R_count_15 G _ _ _ _ _ _ h
theorem p_R_count (G : xG K) (v0 : Nat) (v1 : Int32) (v2 : Int32) (M : XM) (h : g_R_count v0 v1 v2 M = some (o, N)) : Ct K y_R_count [.ref v0, .int v1, .int v2] M o N := by
  refine ct_of (by decide) (List.forall_mem_cons.mpr ⟨rfl, List.forall_mem_cons.mpr ⟨rfl, List.forall_mem_cons.mpr ⟨rfl, fun _ q => absurd q List.not_mem_nil⟩⟩⟩) (Nat.le_of_ble_eq_true rfl) ?_
  show cA K y_R_count 0 [(0, .ref v0), (1, .int v1), (2, .int v2)] [] M o N
  unfold g_R_count at h
  refine x_aload_n (pc := 0) d_R_count_0 rfl 0 rfl ?_
  refine x_iload_n (pc := 1) d_R_count_1 rfl 2 rfl ?_
  refine h_if_lt (pc := 2) 10 d_R_count_2 (by decide) h (fun _ h => ?_) (fun _ h => ?_)
  · refine x_weak [0, 1, 2] rfl ?_
    exact p_R_count_10 G _ _ _ _ _ h
  · refine x_iload_n (pc := 5) d_R_count_5 rfl 2 rfl ?_
    refine x_iconst (pc := 6) d_R_count_6 rfl ?_
    refine h_icmp_le (pc := 7) 14 d_R_count_7 (by decide) h (fun _ h => ?_) (fun _ h => ?_)
    · refine x_iconst (pc := 14) d_R_count_14 rfl ?_
      refine x_weak [0, 1, 2] rfl ?_
      exact p_R_count_15 G _ _ _ _ _ _ h
    · refine x_weak [0, 1, 2] rfl ?_
      exact p_R_count_10 G _ _ _ _ _ h
end XG
