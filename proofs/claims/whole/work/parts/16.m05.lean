/-! laid by program from the bytecode: R_constant, R_nameOf, R_find, R_member, R_noMember, R_noMethod, R_code, R_entry, R_clear, R_meant, R_isClosed -/
theorem d_R_constant_0 : decode prog_9_method_9_code 0 = .ok (.aload_n 0, 1) := by decide +kernel
theorem d_R_constant_1 : decode prog_9_method_9_code 1 = .ok (.aload_n 0, 1) := by decide +kernel
theorem d_R_constant_2 : decode prog_9_method_9_code 2 = .ok (.iconst 0, 1) := by decide +kernel
theorem d_R_constant_3 : decode prog_9_method_9_code 3 = .ok (.iload_n 1, 1) := by decide +kernel
theorem d_R_constant_4 : decode prog_9_method_9_code 4 = .ok (.invokevirtual 104, 3) := by decide +kernel
theorem d_R_constant_7 : decode prog_9_method_9_code 7 = .ok (.ifCond .eq 7, 3) := by decide +kernel
theorem d_R_constant_10 : decode prog_9_method_9_code 10 = .ok (.iconst 1, 1) := by decide +kernel
theorem d_R_constant_11 : decode prog_9_method_9_code 11 = .ok (.goto 4, 3) := by decide +kernel
theorem d_R_constant_14 : decode prog_9_method_9_code 14 = .ok (.iconst 0, 1) := by decide +kernel
theorem d_R_constant_15 : decode prog_9_method_9_code 15 = .ok (.putfield 92, 3) := by decide +kernel
theorem d_R_constant_18 : decode prog_9_method_9_code 18 = .ok (.aload_n 0, 1) := by decide +kernel
theorem d_R_constant_19 : decode prog_9_method_9_code 19 = .ok (.getfield 92, 3) := by decide +kernel
theorem d_R_constant_22 : decode prog_9_method_9_code 22 = .ok (.ifCond .le 5, 3) := by decide +kernel
theorem d_R_constant_25 : decode prog_9_method_9_code 25 = .ok (.iconst 0, 1) := by decide +kernel
theorem d_R_constant_26 : decode prog_9_method_9_code 26 = .ok (.ireturn, 1) := by decide +kernel
theorem d_R_constant_27 : decode prog_9_method_9_code 27 = .ok (.iload_n 2, 1) := by decide +kernel
theorem d_R_constant_28 : decode prog_9_method_9_code 28 = .ok (.ifCond .eq 65, 3) := by decide +kernel
theorem d_R_constant_31 : decode prog_9_method_9_code 31 = .ok (.iload_n 2, 1) := by decide +kernel
theorem d_R_constant_32 : decode prog_9_method_9_code 32 = .ok (.iconst 1, 1) := by decide +kernel
theorem d_R_constant_33 : decode prog_9_method_9_code 33 = .ok (.if_icmp .ne 13, 3) := by decide +kernel
theorem d_R_constant_36 : decode prog_9_method_9_code 36 = .ok (.iload_n 3, 1) := by decide +kernel
theorem d_R_constant_37 : decode prog_9_method_9_code 37 = .ok (.ifCond .lt 9, 3) := by decide +kernel
theorem d_R_constant_40 : decode prog_9_method_9_code 40 = .ok (.iload_n 3, 1) := by decide +kernel
theorem d_R_constant_41 : decode prog_9_method_9_code 41 = .ok (.bipush 99, 2) := by decide +kernel
theorem d_R_constant_43 : decode prog_9_method_9_code 43 = .ok (.if_icmp .le 50, 3) := by decide +kernel
theorem d_R_constant_46 : decode prog_9_method_9_code 46 = .ok (.iload_n 2, 1) := by decide +kernel
theorem d_R_constant_47 : decode prog_9_method_9_code 47 = .ok (.iconst 2, 1) := by decide +kernel
theorem d_R_constant_48 : decode prog_9_method_9_code 48 = .ok (.if_icmp .ne 12, 3) := by decide +kernel
theorem d_R_constant_51 : decode prog_9_method_9_code 51 = .ok (.aload_n 0, 1) := by decide +kernel
theorem d_R_constant_52 : decode prog_9_method_9_code 52 = .ok (.iconst 0, 1) := by decide +kernel
theorem d_R_constant_53 : decode prog_9_method_9_code 53 = .ok (.iload_n 3, 1) := by decide +kernel
theorem d_R_constant_54 : decode prog_9_method_9_code 54 = .ok (.invokevirtual 104, 3) := by decide +kernel
theorem d_R_constant_57 : decode prog_9_method_9_code 57 = .ok (.ifCond .eq 36, 3) := by decide +kernel
theorem d_R_constant_60 : decode prog_9_method_9_code 60 = .ok (.iload_n 2, 1) := by decide +kernel
theorem d_R_constant_61 : decode prog_9_method_9_code 61 = .ok (.iconst 3, 1) := by decide +kernel
theorem d_R_constant_62 : decode prog_9_method_9_code 62 = .ok (.if_icmp .eq 8, 3) := by decide +kernel
theorem d_R_constant_65 : decode prog_9_method_9_code 65 = .ok (.iload_n 2, 1) := by decide +kernel
theorem d_R_constant_66 : decode prog_9_method_9_code 66 = .ok (.iconst 4, 1) := by decide +kernel
theorem d_R_constant_67 : decode prog_9_method_9_code 67 = .ok (.if_icmp .ne 30, 3) := by decide +kernel
theorem d_R_constant_70 : decode prog_9_method_9_code 70 = .ok (.aload_n 0, 1) := by decide +kernel
theorem d_R_constant_71 : decode prog_9_method_9_code 71 = .ok (.iconst 0, 1) := by decide +kernel
theorem d_R_constant_72 : decode prog_9_method_9_code 72 = .ok (.iload_n 1, 1) := by decide +kernel
theorem d_R_constant_73 : decode prog_9_method_9_code 73 = .ok (.iload_n 3, 1) := by decide +kernel
theorem d_R_constant_74 : decode prog_9_method_9_code 74 = .ok (.iconst 2, 1) := by decide +kernel
theorem d_R_constant_75 : decode prog_9_method_9_code 75 = .ok (.invokevirtual 107, 3) := by decide +kernel
theorem d_R_constant_78 : decode prog_9_method_9_code 78 = .ok (.ifCond .eq 19, 3) := by decide +kernel
theorem d_R_constant_81 : decode prog_9_method_9_code 81 = .ok (.aload_n 0, 1) := by decide +kernel
theorem d_R_constant_82 : decode prog_9_method_9_code 82 = .ok (.iconst 0, 1) := by decide +kernel
theorem d_R_constant_83 : decode prog_9_method_9_code 83 = .ok (.iload_n 1, 1) := by decide +kernel
theorem d_R_constant_84 : decode prog_9_method_9_code 84 = .ok (.iload 4, 2) := by decide +kernel
theorem d_R_constant_86 : decode prog_9_method_9_code 86 = .ok (.iconst 1, 1) := by decide +kernel
theorem d_R_constant_87 : decode prog_9_method_9_code 87 = .ok (.invokevirtual 107, 3) := by decide +kernel
theorem d_R_constant_90 : decode prog_9_method_9_code 90 = .ok (.ifCond .eq 7, 3) := by decide +kernel
theorem d_R_constant_93 : decode prog_9_method_9_code 93 = .ok (.iconst 1, 1) := by decide +kernel
theorem d_R_constant_94 : decode prog_9_method_9_code 94 = .ok (.goto 4, 3) := by decide +kernel
theorem d_R_constant_97 : decode prog_9_method_9_code 97 = .ok (.iconst 0, 1) := by decide +kernel
theorem d_R_constant_98 : decode prog_9_method_9_code 98 = .ok (.istore 5, 2) := by decide +kernel
theorem d_R_constant_100 : decode prog_9_method_9_code 100 = .ok (.aload_n 0, 1) := by decide +kernel
theorem d_R_constant_101 : decode prog_9_method_9_code 101 = .ok (.iload 5, 2) := by decide +kernel
theorem d_R_constant_103 : decode prog_9_method_9_code 103 = .ok (.ifCond .ne 7, 3) := by decide +kernel
theorem d_R_constant_106 : decode prog_9_method_9_code 106 = .ok (.iconst 2, 1) := by decide +kernel
theorem d_R_constant_107 : decode prog_9_method_9_code 107 = .ok (.goto 19, 3) := by decide +kernel
theorem d_R_constant_110 : decode prog_9_method_9_code 110 = .ok (.aload_n 0, 1) := by decide +kernel
theorem d_R_constant_111 : decode prog_9_method_9_code 111 = .ok (.getfield 16, 3) := by decide +kernel
theorem d_R_constant_114 : decode prog_9_method_9_code 114 = .ok (.iload_n 1, 1) := by decide +kernel
theorem d_R_constant_115 : decode prog_9_method_9_code 115 = .ok (.iaload, 1) := by decide +kernel
theorem d_R_constant_116 : decode prog_9_method_9_code 116 = .ok (.bipush 20, 2) := by decide +kernel
theorem d_R_constant_118 : decode prog_9_method_9_code 118 = .ok (.if_icmp .ne 7, 3) := by decide +kernel
theorem d_R_constant_121 : decode prog_9_method_9_code 121 = .ok (.iconst 3, 1) := by decide +kernel
theorem d_R_constant_122 : decode prog_9_method_9_code 122 = .ok (.goto 4, 3) := by decide +kernel
theorem d_R_constant_125 : decode prog_9_method_9_code 125 = .ok (.iconst 0, 1) := by decide +kernel
theorem d_R_constant_126 : decode prog_9_method_9_code 126 = .ok (.putfield 92, 3) := by decide +kernel
theorem d_R_constant_129 : decode prog_9_method_9_code 129 = .ok (.aload_n 0, 1) := by decide +kernel
theorem d_R_constant_130 : decode prog_9_method_9_code 130 = .ok (.getfield 92, 3) := by decide +kernel
theorem d_R_constant_133 : decode prog_9_method_9_code 133 = .ok (.ifCond .le 5, 3) := by decide +kernel
theorem d_R_constant_136 : decode prog_9_method_9_code 136 = .ok (.iconst 0, 1) := by decide +kernel
theorem d_R_constant_137 : decode prog_9_method_9_code 137 = .ok (.ireturn, 1) := by decide +kernel
theorem d_R_constant_138 : decode prog_9_method_9_code 138 = .ok (.iconst 0, 1) := by decide +kernel
theorem d_R_constant_139 : decode prog_9_method_9_code 139 = .ok (.iload_n 1, 1) := by decide +kernel
theorem d_R_constant_140 : decode prog_9_method_9_code 140 = .ok (.invokestatic 100, 3) := by decide +kernel
theorem d_R_constant_143 : decode prog_9_method_9_code 143 = .ok (.aload_n 0, 1) := by decide +kernel
theorem d_R_constant_144 : decode prog_9_method_9_code 144 = .ok (.getfield 16, 3) := by decide +kernel
theorem d_R_constant_147 : decode prog_9_method_9_code 147 = .ok (.iload_n 1, 1) := by decide +kernel
theorem d_R_constant_148 : decode prog_9_method_9_code 148 = .ok (.iaload, 1) := by decide +kernel
theorem d_R_constant_149 : decode prog_9_method_9_code 149 = .ok (.iadd, 1) := by decide +kernel
theorem d_R_constant_150 : decode prog_9_method_9_code 150 = .ok (.istore 6, 2) := by decide +kernel
theorem d_R_constant_152 : decode prog_9_method_9_code 152 = .ok (.aload_n 0, 1) := by decide +kernel
theorem d_R_constant_153 : decode prog_9_method_9_code 153 = .ok (.getfield 19, 3) := by decide +kernel
theorem d_R_constant_156 : decode prog_9_method_9_code 156 = .ok (.iload 6, 2) := by decide +kernel
theorem d_R_constant_158 : decode prog_9_method_9_code 158 = .ok (.iload_n 2, 1) := by decide +kernel
theorem d_R_constant_159 : decode prog_9_method_9_code 159 = .ok (.iastore, 1) := by decide +kernel
theorem d_R_constant_160 : decode prog_9_method_9_code 160 = .ok (.aload_n 0, 1) := by decide +kernel
theorem d_R_constant_161 : decode prog_9_method_9_code 161 = .ok (.getfield 22, 3) := by decide +kernel
theorem d_R_constant_164 : decode prog_9_method_9_code 164 = .ok (.iload 6, 2) := by decide +kernel
theorem d_R_constant_166 : decode prog_9_method_9_code 166 = .ok (.iload_n 3, 1) := by decide +kernel
theorem d_R_constant_167 : decode prog_9_method_9_code 167 = .ok (.iastore, 1) := by decide +kernel
theorem d_R_constant_168 : decode prog_9_method_9_code 168 = .ok (.aload_n 0, 1) := by decide +kernel
theorem d_R_constant_169 : decode prog_9_method_9_code 169 = .ok (.getfield 25, 3) := by decide +kernel
theorem d_R_constant_172 : decode prog_9_method_9_code 172 = .ok (.iload 6, 2) := by decide +kernel
theorem d_R_constant_174 : decode prog_9_method_9_code 174 = .ok (.iload_n 2, 1) := by decide +kernel
theorem d_R_constant_175 : decode prog_9_method_9_code 175 = .ok (.iconst 3, 1) := by decide +kernel
theorem d_R_constant_176 : decode prog_9_method_9_code 176 = .ok (.if_icmp .lt 8, 3) := by decide +kernel
theorem d_R_constant_179 : decode prog_9_method_9_code 179 = .ok (.iload 4, 2) := by decide +kernel
theorem d_R_constant_181 : decode prog_9_method_9_code 181 = .ok (.goto 4, 3) := by decide +kernel
theorem d_R_constant_184 : decode prog_9_method_9_code 184 = .ok (.iconst 0, 1) := by decide +kernel
theorem d_R_constant_185 : decode prog_9_method_9_code 185 = .ok (.iastore, 1) := by decide +kernel
theorem d_R_constant_186 : decode prog_9_method_9_code 186 = .ok (.aload_n 0, 1) := by decide +kernel
theorem d_R_constant_187 : decode prog_9_method_9_code 187 = .ok (.getfield 16, 3) := by decide +kernel
theorem d_R_constant_190 : decode prog_9_method_9_code 190 = .ok (.iload_n 1, 1) := by decide +kernel
theorem d_R_constant_191 : decode prog_9_method_9_code 191 = .ok (.dup2, 1) := by decide +kernel
theorem d_R_constant_192 : decode prog_9_method_9_code 192 = .ok (.iaload, 1) := by decide +kernel
theorem d_R_constant_193 : decode prog_9_method_9_code 193 = .ok (.iconst 1, 1) := by decide +kernel
theorem d_R_constant_194 : decode prog_9_method_9_code 194 = .ok (.iadd, 1) := by decide +kernel
theorem d_R_constant_195 : decode prog_9_method_9_code 195 = .ok (.iastore, 1) := by decide +kernel
theorem d_R_constant_196 : decode prog_9_method_9_code 196 = .ok (.aload_n 0, 1) := by decide +kernel
theorem d_R_constant_197 : decode prog_9_method_9_code 197 = .ok (.getfield 16, 3) := by decide +kernel
theorem d_R_constant_200 : decode prog_9_method_9_code 200 = .ok (.iload_n 1, 1) := by decide +kernel
theorem d_R_constant_201 : decode prog_9_method_9_code 201 = .ok (.iaload, 1) := by decide +kernel
theorem d_R_constant_202 : decode prog_9_method_9_code 202 = .ok (.iconst 1, 1) := by decide +kernel
theorem d_R_constant_203 : decode prog_9_method_9_code 203 = .ok (.isub, 1) := by decide +kernel
theorem d_R_constant_204 : decode prog_9_method_9_code 204 = .ok (.ireturn, 1) := by decide +kernel
theorem d_R_nameOf_0 : decode prog_9_method_10_code 0 = .ok (.aload_n 0, 1) := by decide +kernel
theorem d_R_nameOf_1 : decode prog_9_method_10_code 1 = .ok (.getfield 22, 3) := by decide +kernel
theorem d_R_nameOf_4 : decode prog_9_method_10_code 4 = .ok (.iload_n 1, 1) := by decide +kernel
theorem d_R_nameOf_5 : decode prog_9_method_10_code 5 = .ok (.aload_n 0, 1) := by decide +kernel
theorem d_R_nameOf_6 : decode prog_9_method_10_code 6 = .ok (.getfield 28, 3) := by decide +kernel
theorem d_R_nameOf_9 : decode prog_9_method_10_code 9 = .ok (.bipush 30, 2) := by decide +kernel
theorem d_R_nameOf_11 : decode prog_9_method_10_code 11 = .ok (.iload_n 1, 1) := by decide +kernel
theorem d_R_nameOf_12 : decode prog_9_method_10_code 12 = .ok (.imul, 1) := by decide +kernel
theorem d_R_nameOf_13 : decode prog_9_method_10_code 13 = .ok (.iload_n 2, 1) := by decide +kernel
theorem d_R_nameOf_14 : decode prog_9_method_10_code 14 = .ok (.iadd, 1) := by decide +kernel
theorem d_R_nameOf_15 : decode prog_9_method_10_code 15 = .ok (.iaload, 1) := by decide +kernel
theorem d_R_nameOf_16 : decode prog_9_method_10_code 16 = .ok (.invokestatic 100, 3) := by decide +kernel
theorem d_R_nameOf_19 : decode prog_9_method_10_code 19 = .ok (.aload_n 0, 1) := by decide +kernel
theorem d_R_nameOf_20 : decode prog_9_method_10_code 20 = .ok (.getfield 31, 3) := by decide +kernel
theorem d_R_nameOf_23 : decode prog_9_method_10_code 23 = .ok (.bipush 30, 2) := by decide +kernel
theorem d_R_nameOf_25 : decode prog_9_method_10_code 25 = .ok (.iload_n 1, 1) := by decide +kernel
theorem d_R_nameOf_26 : decode prog_9_method_10_code 26 = .ok (.imul, 1) := by decide +kernel
theorem d_R_nameOf_27 : decode prog_9_method_10_code 27 = .ok (.iload_n 2, 1) := by decide +kernel
theorem d_R_nameOf_28 : decode prog_9_method_10_code 28 = .ok (.iadd, 1) := by decide +kernel
theorem d_R_nameOf_29 : decode prog_9_method_10_code 29 = .ok (.iaload, 1) := by decide +kernel
theorem d_R_nameOf_30 : decode prog_9_method_10_code 30 = .ok (.iadd, 1) := by decide +kernel
theorem d_R_nameOf_31 : decode prog_9_method_10_code 31 = .ok (.iaload, 1) := by decide +kernel
theorem d_R_nameOf_32 : decode prog_9_method_10_code 32 = .ok (.ireturn, 1) := by decide +kernel
theorem d_R_find_0 : decode prog_9_method_11_code 0 = .ok (.iconst 0, 1) := by decide +kernel
theorem d_R_find_1 : decode prog_9_method_11_code 1 = .ok (.istore 5, 2) := by decide +kernel
theorem d_R_find_3 : decode prog_9_method_11_code 3 = .ok (.iload 5, 2) := by decide +kernel
theorem d_R_find_5 : decode prog_9_method_11_code 5 = .ok (.aload_n 0, 1) := by decide +kernel
theorem d_R_find_6 : decode prog_9_method_11_code 6 = .ok (.getfield 13, 3) := by decide +kernel
theorem d_R_find_9 : decode prog_9_method_11_code 9 = .ok (.iload_n 1, 1) := by decide +kernel
theorem d_R_find_10 : decode prog_9_method_11_code 10 = .ok (.iaload, 1) := by decide +kernel
theorem d_R_find_11 : decode prog_9_method_11_code 11 = .ok (.if_icmp .ge 64, 3) := by decide +kernel
theorem d_R_find_14 : decode prog_9_method_11_code 14 = .ok (.aload_n 0, 1) := by decide +kernel
theorem d_R_find_15 : decode prog_9_method_11_code 15 = .ok (.getfield 28, 3) := by decide +kernel
theorem d_R_find_18 : decode prog_9_method_11_code 18 = .ok (.bipush 30, 2) := by decide +kernel
theorem d_R_find_20 : decode prog_9_method_11_code 20 = .ok (.iload_n 1, 1) := by decide +kernel
theorem d_R_find_21 : decode prog_9_method_11_code 21 = .ok (.imul, 1) := by decide +kernel
theorem d_R_find_22 : decode prog_9_method_11_code 22 = .ok (.iload 5, 2) := by decide +kernel
theorem d_R_find_24 : decode prog_9_method_11_code 24 = .ok (.iadd, 1) := by decide +kernel
theorem d_R_find_25 : decode prog_9_method_11_code 25 = .ok (.iaload, 1) := by decide +kernel
theorem d_R_find_26 : decode prog_9_method_11_code 26 = .ok (.iload_n 2, 1) := by decide +kernel
theorem d_R_find_27 : decode prog_9_method_11_code 27 = .ok (.if_icmp .ne 42, 3) := by decide +kernel
theorem d_R_find_30 : decode prog_9_method_11_code 30 = .ok (.aload_n 0, 1) := by decide +kernel
theorem d_R_find_31 : decode prog_9_method_11_code 31 = .ok (.getfield 34, 3) := by decide +kernel
theorem d_R_find_34 : decode prog_9_method_11_code 34 = .ok (.bipush 30, 2) := by decide +kernel
theorem d_R_find_36 : decode prog_9_method_11_code 36 = .ok (.iload_n 1, 1) := by decide +kernel
theorem d_R_find_37 : decode prog_9_method_11_code 37 = .ok (.imul, 1) := by decide +kernel
theorem d_R_find_38 : decode prog_9_method_11_code 38 = .ok (.iload 5, 2) := by decide +kernel
theorem d_R_find_40 : decode prog_9_method_11_code 40 = .ok (.iadd, 1) := by decide +kernel
theorem d_R_find_41 : decode prog_9_method_11_code 41 = .ok (.iaload, 1) := by decide +kernel
theorem d_R_find_42 : decode prog_9_method_11_code 42 = .ok (.ifCond .ge 7, 3) := by decide +kernel
theorem d_R_find_45 : decode prog_9_method_11_code 45 = .ok (.iconst 1, 1) := by decide +kernel
theorem d_R_find_46 : decode prog_9_method_11_code 46 = .ok (.goto 4, 3) := by decide +kernel
theorem d_R_find_49 : decode prog_9_method_11_code 49 = .ok (.iconst 0, 1) := by decide +kernel
theorem d_R_find_50 : decode prog_9_method_11_code 50 = .ok (.iload_n 3, 1) := by decide +kernel
theorem d_R_find_51 : decode prog_9_method_11_code 51 = .ok (.if_icmp .ne 18, 3) := by decide +kernel
theorem d_R_find_54 : decode prog_9_method_11_code 54 = .ok (.aload_n 0, 1) := by decide +kernel
theorem d_R_find_55 : decode prog_9_method_11_code 55 = .ok (.iload_n 1, 1) := by decide +kernel
theorem d_R_find_56 : decode prog_9_method_11_code 56 = .ok (.iload 5, 2) := by decide +kernel
theorem d_R_find_58 : decode prog_9_method_11_code 58 = .ok (.invokevirtual 111, 3) := by decide +kernel
theorem d_R_find_61 : decode prog_9_method_11_code 61 = .ok (.iload 4, 2) := by decide +kernel
theorem d_R_find_63 : decode prog_9_method_11_code 63 = .ok (.if_icmp .ne 6, 3) := by decide +kernel
theorem d_R_find_66 : decode prog_9_method_11_code 66 = .ok (.iload 5, 2) := by decide +kernel
theorem d_R_find_68 : decode prog_9_method_11_code 68 = .ok (.ireturn, 1) := by decide +kernel
theorem d_R_find_69 : decode prog_9_method_11_code 69 = .ok (.iinc 5 1, 3) := by decide +kernel
theorem d_R_find_72 : decode prog_9_method_11_code 72 = .ok (.goto (-69), 3) := by decide +kernel
theorem d_R_find_75 : decode prog_9_method_11_code 75 = .ok (.iconst (-1), 1) := by decide +kernel
theorem d_R_find_76 : decode prog_9_method_11_code 76 = .ok (.ireturn, 1) := by decide +kernel
theorem d_R_member_0 : decode prog_9_method_12_code 0 = .ok (.aload_n 0, 1) := by decide +kernel
theorem d_R_member_1 : decode prog_9_method_12_code 1 = .ok (.aload_n 0, 1) := by decide +kernel
theorem d_R_member_2 : decode prog_9_method_12_code 2 = .ok (.iconst 0, 1) := by decide +kernel
theorem d_R_member_3 : decode prog_9_method_12_code 3 = .ok (.iload_n 1, 1) := by decide +kernel
theorem d_R_member_4 : decode prog_9_method_12_code 4 = .ok (.invokevirtual 104, 3) := by decide +kernel
theorem d_R_member_7 : decode prog_9_method_12_code 7 = .ok (.ifCond .eq 7, 3) := by decide +kernel
theorem d_R_member_10 : decode prog_9_method_12_code 10 = .ok (.iconst 1, 1) := by decide +kernel
theorem d_R_member_11 : decode prog_9_method_12_code 11 = .ok (.goto 4, 3) := by decide +kernel
theorem d_R_member_14 : decode prog_9_method_12_code 14 = .ok (.iconst 0, 1) := by decide +kernel
theorem d_R_member_15 : decode prog_9_method_12_code 15 = .ok (.putfield 92, 3) := by decide +kernel
theorem d_R_member_18 : decode prog_9_method_12_code 18 = .ok (.aload_n 0, 1) := by decide +kernel
theorem d_R_member_19 : decode prog_9_method_12_code 19 = .ok (.getfield 92, 3) := by decide +kernel
theorem d_R_member_22 : decode prog_9_method_12_code 22 = .ok (.ifCond .le 5, 3) := by decide +kernel
theorem d_R_member_25 : decode prog_9_method_12_code 25 = .ok (.iconst 0, 1) := by decide +kernel
theorem d_R_member_26 : decode prog_9_method_12_code 26 = .ok (.ireturn, 1) := by decide +kernel
theorem d_R_member_27 : decode prog_9_method_12_code 27 = .ok (.aload_n 0, 1) := by decide +kernel
theorem d_R_member_28 : decode prog_9_method_12_code 28 = .ok (.iconst 0, 1) := by decide +kernel
theorem d_R_member_29 : decode prog_9_method_12_code 29 = .ok (.iload_n 1, 1) := by decide +kernel
theorem d_R_member_30 : decode prog_9_method_12_code 30 = .ok (.iload_n 2, 1) := by decide +kernel
theorem d_R_member_31 : decode prog_9_method_12_code 31 = .ok (.iconst 1, 1) := by decide +kernel
theorem d_R_member_32 : decode prog_9_method_12_code 32 = .ok (.invokevirtual 107, 3) := by decide +kernel
theorem d_R_member_35 : decode prog_9_method_12_code 35 = .ok (.ifCond .eq 43, 3) := by decide +kernel
theorem d_R_member_38 : decode prog_9_method_12_code 38 = .ok (.iload_n 3, 1) := by decide +kernel
theorem d_R_member_39 : decode prog_9_method_12_code 39 = .ok (.iconst (-1), 1) := by decide +kernel
theorem d_R_member_40 : decode prog_9_method_12_code 40 = .ok (.if_icmp .lt 38, 3) := by decide +kernel
theorem d_R_member_43 : decode prog_9_method_12_code 43 = .ok (.iload_n 3, 1) := by decide +kernel
theorem d_R_member_44 : decode prog_9_method_12_code 44 = .ok (.iconst 2, 1) := by decide +kernel
theorem d_R_member_45 : decode prog_9_method_12_code 45 = .ok (.if_icmp .gt 33, 3) := by decide +kernel
theorem d_R_member_48 : decode prog_9_method_12_code 48 = .ok (.aload_n 0, 1) := by decide +kernel
theorem d_R_member_49 : decode prog_9_method_12_code 49 = .ok (.iconst 0, 1) := by decide +kernel
theorem d_R_member_50 : decode prog_9_method_12_code 50 = .ok (.iload_n 1, 1) := by decide +kernel
theorem d_R_member_51 : decode prog_9_method_12_code 51 = .ok (.iload_n 3, 1) := by decide +kernel
theorem d_R_member_52 : decode prog_9_method_12_code 52 = .ok (.ifCond .ge 7, 3) := by decide +kernel
theorem d_R_member_55 : decode prog_9_method_12_code 55 = .ok (.iconst 1, 1) := by decide +kernel
theorem d_R_member_56 : decode prog_9_method_12_code 56 = .ok (.goto 4, 3) := by decide +kernel
theorem d_R_member_59 : decode prog_9_method_12_code 59 = .ok (.iconst 0, 1) := by decide +kernel
theorem d_R_member_60 : decode prog_9_method_12_code 60 = .ok (.aload_n 0, 1) := by decide +kernel
theorem d_R_member_61 : decode prog_9_method_12_code 61 = .ok (.getfield 22, 3) := by decide +kernel
theorem d_R_member_64 : decode prog_9_method_12_code 64 = .ok (.iconst 0, 1) := by decide +kernel
theorem d_R_member_65 : decode prog_9_method_12_code 65 = .ok (.iload_n 1, 1) := by decide +kernel
theorem d_R_member_66 : decode prog_9_method_12_code 66 = .ok (.invokestatic 100, 3) := by decide +kernel
theorem d_R_member_69 : decode prog_9_method_12_code 69 = .ok (.iload_n 2, 1) := by decide +kernel
theorem d_R_member_70 : decode prog_9_method_12_code 70 = .ok (.iadd, 1) := by decide +kernel
theorem d_R_member_71 : decode prog_9_method_12_code 71 = .ok (.iaload, 1) := by decide +kernel
theorem d_R_member_72 : decode prog_9_method_12_code 72 = .ok (.invokevirtual 114, 3) := by decide +kernel
theorem d_R_member_75 : decode prog_9_method_12_code 75 = .ok (.ifCond .lt 10, 3) := by decide +kernel
theorem d_R_member_78 : decode prog_9_method_12_code 78 = .ok (.aload_n 0, 1) := by decide +kernel
theorem d_R_member_79 : decode prog_9_method_12_code 79 = .ok (.iconst 2, 1) := by decide +kernel
theorem d_R_member_80 : decode prog_9_method_12_code 80 = .ok (.putfield 92, 3) := by decide +kernel
theorem d_R_member_83 : decode prog_9_method_12_code 83 = .ok (.iconst 0, 1) := by decide +kernel
theorem d_R_member_84 : decode prog_9_method_12_code 84 = .ok (.ireturn, 1) := by decide +kernel
theorem d_R_member_85 : decode prog_9_method_12_code 85 = .ok (.aload_n 0, 1) := by decide +kernel
theorem d_R_member_86 : decode prog_9_method_12_code 86 = .ok (.aload_n 0, 1) := by decide +kernel
theorem d_R_member_87 : decode prog_9_method_12_code 87 = .ok (.getfield 13, 3) := by decide +kernel
theorem d_R_member_90 : decode prog_9_method_12_code 90 = .ok (.iconst 0, 1) := by decide +kernel
theorem d_R_member_91 : decode prog_9_method_12_code 91 = .ok (.iaload, 1) := by decide +kernel
theorem d_R_member_92 : decode prog_9_method_12_code 92 = .ok (.bipush 30, 2) := by decide +kernel
theorem d_R_member_94 : decode prog_9_method_12_code 94 = .ok (.if_icmp .ne 7, 3) := by decide +kernel
theorem d_R_member_97 : decode prog_9_method_12_code 97 = .ok (.iconst 3, 1) := by decide +kernel
theorem d_R_member_98 : decode prog_9_method_12_code 98 = .ok (.goto 4, 3) := by decide +kernel
theorem d_R_member_101 : decode prog_9_method_12_code 101 = .ok (.iconst 0, 1) := by decide +kernel
theorem d_R_member_102 : decode prog_9_method_12_code 102 = .ok (.putfield 92, 3) := by decide +kernel
theorem d_R_member_105 : decode prog_9_method_12_code 105 = .ok (.aload_n 0, 1) := by decide +kernel
theorem d_R_member_106 : decode prog_9_method_12_code 106 = .ok (.getfield 92, 3) := by decide +kernel
theorem d_R_member_109 : decode prog_9_method_12_code 109 = .ok (.ifCond .le 5, 3) := by decide +kernel
theorem d_R_member_112 : decode prog_9_method_12_code 112 = .ok (.iconst 0, 1) := by decide +kernel
theorem d_R_member_113 : decode prog_9_method_12_code 113 = .ok (.ireturn, 1) := by decide +kernel
theorem d_R_member_114 : decode prog_9_method_12_code 114 = .ok (.aload_n 0, 1) := by decide +kernel
theorem d_R_member_115 : decode prog_9_method_12_code 115 = .ok (.getfield 13, 3) := by decide +kernel
theorem d_R_member_118 : decode prog_9_method_12_code 118 = .ok (.iconst 0, 1) := by decide +kernel
theorem d_R_member_119 : decode prog_9_method_12_code 119 = .ok (.iaload, 1) := by decide +kernel
theorem d_R_member_120 : decode prog_9_method_12_code 120 = .ok (.istore 4, 2) := by decide +kernel
theorem d_R_member_122 : decode prog_9_method_12_code 122 = .ok (.aload_n 0, 1) := by decide +kernel
theorem d_R_member_123 : decode prog_9_method_12_code 123 = .ok (.getfield 28, 3) := by decide +kernel
theorem d_R_member_126 : decode prog_9_method_12_code 126 = .ok (.iload 4, 2) := by decide +kernel
theorem d_R_member_128 : decode prog_9_method_12_code 128 = .ok (.iload_n 1, 1) := by decide +kernel
theorem d_R_member_129 : decode prog_9_method_12_code 129 = .ok (.iastore, 1) := by decide +kernel
theorem d_R_member_130 : decode prog_9_method_12_code 130 = .ok (.aload_n 0, 1) := by decide +kernel
theorem d_R_member_131 : decode prog_9_method_12_code 131 = .ok (.getfield 31, 3) := by decide +kernel
theorem d_R_member_134 : decode prog_9_method_12_code 134 = .ok (.iload 4, 2) := by decide +kernel
theorem d_R_member_136 : decode prog_9_method_12_code 136 = .ok (.iload_n 2, 1) := by decide +kernel
theorem d_R_member_137 : decode prog_9_method_12_code 137 = .ok (.iastore, 1) := by decide +kernel
theorem d_R_member_138 : decode prog_9_method_12_code 138 = .ok (.aload_n 0, 1) := by decide +kernel
theorem d_R_member_139 : decode prog_9_method_12_code 139 = .ok (.getfield 34, 3) := by decide +kernel
theorem d_R_member_142 : decode prog_9_method_12_code 142 = .ok (.iload 4, 2) := by decide +kernel
theorem d_R_member_144 : decode prog_9_method_12_code 144 = .ok (.iload_n 3, 1) := by decide +kernel
theorem d_R_member_145 : decode prog_9_method_12_code 145 = .ok (.iastore, 1) := by decide +kernel
theorem d_R_member_146 : decode prog_9_method_12_code 146 = .ok (.aload_n 0, 1) := by decide +kernel
theorem d_R_member_147 : decode prog_9_method_12_code 147 = .ok (.getfield 37, 3) := by decide +kernel
theorem d_R_member_150 : decode prog_9_method_12_code 150 = .ok (.iload 4, 2) := by decide +kernel
theorem d_R_member_152 : decode prog_9_method_12_code 152 = .ok (.iconst 0, 1) := by decide +kernel
theorem d_R_member_153 : decode prog_9_method_12_code 153 = .ok (.iastore, 1) := by decide +kernel
theorem d_R_member_154 : decode prog_9_method_12_code 154 = .ok (.aload_n 0, 1) := by decide +kernel
theorem d_R_member_155 : decode prog_9_method_12_code 155 = .ok (.getfield 40, 3) := by decide +kernel
theorem d_R_member_158 : decode prog_9_method_12_code 158 = .ok (.iload 4, 2) := by decide +kernel
theorem d_R_member_160 : decode prog_9_method_12_code 160 = .ok (.iconst 0, 1) := by decide +kernel
theorem d_R_member_161 : decode prog_9_method_12_code 161 = .ok (.bastore, 1) := by decide +kernel
theorem d_R_member_162 : decode prog_9_method_12_code 162 = .ok (.aload_n 0, 1) := by decide +kernel
theorem d_R_member_163 : decode prog_9_method_12_code 163 = .ok (.getfield 13, 3) := by decide +kernel
theorem d_R_member_166 : decode prog_9_method_12_code 166 = .ok (.iconst 0, 1) := by decide +kernel
theorem d_R_member_167 : decode prog_9_method_12_code 167 = .ok (.dup2, 1) := by decide +kernel
theorem d_R_member_168 : decode prog_9_method_12_code 168 = .ok (.iaload, 1) := by decide +kernel
theorem d_R_member_169 : decode prog_9_method_12_code 169 = .ok (.iconst 1, 1) := by decide +kernel
theorem d_R_member_170 : decode prog_9_method_12_code 170 = .ok (.iadd, 1) := by decide +kernel
theorem d_R_member_171 : decode prog_9_method_12_code 171 = .ok (.iastore, 1) := by decide +kernel
theorem d_R_member_172 : decode prog_9_method_12_code 172 = .ok (.iload 4, 2) := by decide +kernel
theorem d_R_member_174 : decode prog_9_method_12_code 174 = .ok (.ireturn, 1) := by decide +kernel
theorem d_R_noMember_0 : decode prog_9_method_4_code 0 = .ok (.iload_n 2, 1) := by decide +kernel
theorem d_R_noMember_1 : decode prog_9_method_4_code 1 = .ok (.ifCond .lt 13, 3) := by decide +kernel
theorem d_R_noMember_4 : decode prog_9_method_4_code 4 = .ok (.iload_n 2, 1) := by decide +kernel
theorem d_R_noMember_5 : decode prog_9_method_4_code 5 = .ok (.aload_n 0, 1) := by decide +kernel
theorem d_R_noMember_6 : decode prog_9_method_4_code 6 = .ok (.getfield 13, 3) := by decide +kernel
theorem d_R_noMember_9 : decode prog_9_method_4_code 9 = .ok (.iload_n 1, 1) := by decide +kernel
theorem d_R_noMember_10 : decode prog_9_method_4_code 10 = .ok (.iaload, 1) := by decide +kernel
theorem d_R_noMember_11 : decode prog_9_method_4_code 11 = .ok (.if_icmp .lt 7, 3) := by decide +kernel
theorem d_R_noMember_14 : decode prog_9_method_4_code 14 = .ok (.iconst 1, 1) := by decide +kernel
theorem d_R_noMember_15 : decode prog_9_method_4_code 15 = .ok (.goto 4, 3) := by decide +kernel
theorem d_R_noMember_18 : decode prog_9_method_4_code 18 = .ok (.iconst 0, 1) := by decide +kernel
theorem d_R_noMember_19 : decode prog_9_method_4_code 19 = .ok (.ireturn, 1) := by decide +kernel
theorem d_R_noMethod_0 : decode prog_9_method_5_code 0 = .ok (.aload_n 0, 1) := by decide +kernel
theorem d_R_noMethod_1 : decode prog_9_method_5_code 1 = .ok (.iload_n 1, 1) := by decide +kernel
theorem d_R_noMethod_2 : decode prog_9_method_5_code 2 = .ok (.iload_n 2, 1) := by decide +kernel
theorem d_R_noMethod_3 : decode prog_9_method_5_code 3 = .ok (.invokevirtual 96, 3) := by decide +kernel
theorem d_R_noMethod_6 : decode prog_9_method_5_code 6 = .ok (.ifCond .ne 17, 3) := by decide +kernel
theorem d_R_noMethod_9 : decode prog_9_method_5_code 9 = .ok (.aload_n 0, 1) := by decide +kernel
theorem d_R_noMethod_10 : decode prog_9_method_5_code 10 = .ok (.getfield 34, 3) := by decide +kernel
theorem d_R_noMethod_13 : decode prog_9_method_5_code 13 = .ok (.bipush 30, 2) := by decide +kernel
theorem d_R_noMethod_15 : decode prog_9_method_5_code 15 = .ok (.iload_n 1, 1) := by decide +kernel
theorem d_R_noMethod_16 : decode prog_9_method_5_code 16 = .ok (.imul, 1) := by decide +kernel
theorem d_R_noMethod_17 : decode prog_9_method_5_code 17 = .ok (.iload_n 2, 1) := by decide +kernel
theorem d_R_noMethod_18 : decode prog_9_method_5_code 18 = .ok (.iadd, 1) := by decide +kernel
theorem d_R_noMethod_19 : decode prog_9_method_5_code 19 = .ok (.iaload, 1) := by decide +kernel
theorem d_R_noMethod_20 : decode prog_9_method_5_code 20 = .ok (.ifCond .ge 7, 3) := by decide +kernel
theorem d_R_noMethod_23 : decode prog_9_method_5_code 23 = .ok (.iconst 1, 1) := by decide +kernel
theorem d_R_noMethod_24 : decode prog_9_method_5_code 24 = .ok (.goto 4, 3) := by decide +kernel
theorem d_R_noMethod_27 : decode prog_9_method_5_code 27 = .ok (.iconst 0, 1) := by decide +kernel
theorem d_R_noMethod_28 : decode prog_9_method_5_code 28 = .ok (.ireturn, 1) := by decide +kernel
theorem d_R_code_0 : decode prog_9_method_13_code 0 = .ok (.aload_n 0, 1) := by decide +kernel
theorem d_R_code_1 : decode prog_9_method_13_code 1 = .ok (.aload_n 0, 1) := by decide +kernel
theorem d_R_code_2 : decode prog_9_method_13_code 2 = .ok (.iconst 0, 1) := by decide +kernel
theorem d_R_code_3 : decode prog_9_method_13_code 3 = .ok (.iload_n 1, 1) := by decide +kernel
theorem d_R_code_4 : decode prog_9_method_13_code 4 = .ok (.invokevirtual 118, 3) := by decide +kernel
theorem d_R_code_7 : decode prog_9_method_13_code 7 = .ok (.ifCond .eq 7, 3) := by decide +kernel
theorem d_R_code_10 : decode prog_9_method_13_code 10 = .ok (.iconst 1, 1) := by decide +kernel
theorem d_R_code_11 : decode prog_9_method_13_code 11 = .ok (.goto 33, 3) := by decide +kernel
theorem d_R_code_14 : decode prog_9_method_13_code 14 = .ok (.iload_n 2, 1) := by decide +kernel
theorem d_R_code_15 : decode prog_9_method_13_code 15 = .ok (.ifCond .lt 9, 3) := by decide +kernel
theorem d_R_code_18 : decode prog_9_method_13_code 18 = .ok (.iload_n 2, 1) := by decide +kernel
theorem d_R_code_19 : decode prog_9_method_13_code 19 = .ok (.bipush 12, 2) := by decide +kernel
theorem d_R_code_21 : decode prog_9_method_13_code 21 = .ok (.if_icmp .le 7, 3) := by decide +kernel
theorem d_R_code_24 : decode prog_9_method_13_code 24 = .ok (.iconst 2, 1) := by decide +kernel
theorem d_R_code_25 : decode prog_9_method_13_code 25 = .ok (.goto 19, 3) := by decide +kernel
theorem d_R_code_28 : decode prog_9_method_13_code 28 = .ok (.aload_n 0, 1) := by decide +kernel
theorem d_R_code_29 : decode prog_9_method_13_code 29 = .ok (.getfield 37, 3) := by decide +kernel
theorem d_R_code_32 : decode prog_9_method_13_code 32 = .ok (.iload_n 1, 1) := by decide +kernel
theorem d_R_code_33 : decode prog_9_method_13_code 33 = .ok (.iaload, 1) := by decide +kernel
theorem d_R_code_34 : decode prog_9_method_13_code 34 = .ok (.bipush 20, 2) := by decide +kernel
theorem d_R_code_36 : decode prog_9_method_13_code 36 = .ok (.if_icmp .ne 7, 3) := by decide +kernel
theorem d_R_code_39 : decode prog_9_method_13_code 39 = .ok (.iconst 3, 1) := by decide +kernel
theorem d_R_code_40 : decode prog_9_method_13_code 40 = .ok (.goto 4, 3) := by decide +kernel
theorem d_R_code_43 : decode prog_9_method_13_code 43 = .ok (.iconst 0, 1) := by decide +kernel
theorem d_R_code_44 : decode prog_9_method_13_code 44 = .ok (.putfield 92, 3) := by decide +kernel
theorem d_R_code_47 : decode prog_9_method_13_code 47 = .ok (.aload_n 0, 1) := by decide +kernel
theorem d_R_code_48 : decode prog_9_method_13_code 48 = .ok (.getfield 92, 3) := by decide +kernel
theorem d_R_code_51 : decode prog_9_method_13_code 51 = .ok (.ifCond .le 5, 3) := by decide +kernel
theorem d_R_code_54 : decode prog_9_method_13_code 54 = .ok (.iconst 0, 1) := by decide +kernel
theorem d_R_code_55 : decode prog_9_method_13_code 55 = .ok (.ireturn, 1) := by decide +kernel
theorem d_R_code_56 : decode prog_9_method_13_code 56 = .ok (.aload_n 0, 1) := by decide +kernel
theorem d_R_code_57 : decode prog_9_method_13_code 57 = .ok (.getfield 44, 3) := by decide +kernel
theorem d_R_code_60 : decode prog_9_method_13_code 60 = .ok (.bipush 20, 2) := by decide +kernel
theorem d_R_code_62 : decode prog_9_method_13_code 62 = .ok (.iload_n 1, 1) := by decide +kernel
theorem d_R_code_63 : decode prog_9_method_13_code 63 = .ok (.imul, 1) := by decide +kernel
theorem d_R_code_64 : decode prog_9_method_13_code 64 = .ok (.aload_n 0, 1) := by decide +kernel
theorem d_R_code_65 : decode prog_9_method_13_code 65 = .ok (.getfield 37, 3) := by decide +kernel
theorem d_R_code_68 : decode prog_9_method_13_code 68 = .ok (.iload_n 1, 1) := by decide +kernel
theorem d_R_code_69 : decode prog_9_method_13_code 69 = .ok (.iaload, 1) := by decide +kernel
theorem d_R_code_70 : decode prog_9_method_13_code 70 = .ok (.iadd, 1) := by decide +kernel
theorem d_R_code_71 : decode prog_9_method_13_code 71 = .ok (.iload_n 2, 1) := by decide +kernel
theorem d_R_code_72 : decode prog_9_method_13_code 72 = .ok (.iastore, 1) := by decide +kernel
theorem d_R_code_73 : decode prog_9_method_13_code 73 = .ok (.aload_n 0, 1) := by decide +kernel
theorem d_R_code_74 : decode prog_9_method_13_code 74 = .ok (.getfield 47, 3) := by decide +kernel
theorem d_R_code_77 : decode prog_9_method_13_code 77 = .ok (.bipush 20, 2) := by decide +kernel
theorem d_R_code_79 : decode prog_9_method_13_code 79 = .ok (.iload_n 1, 1) := by decide +kernel
theorem d_R_code_80 : decode prog_9_method_13_code 80 = .ok (.imul, 1) := by decide +kernel
theorem d_R_code_81 : decode prog_9_method_13_code 81 = .ok (.aload_n 0, 1) := by decide +kernel
theorem d_R_code_82 : decode prog_9_method_13_code 82 = .ok (.getfield 37, 3) := by decide +kernel
theorem d_R_code_85 : decode prog_9_method_13_code 85 = .ok (.iload_n 1, 1) := by decide +kernel
theorem d_R_code_86 : decode prog_9_method_13_code 86 = .ok (.iaload, 1) := by decide +kernel
theorem d_R_code_87 : decode prog_9_method_13_code 87 = .ok (.iadd, 1) := by decide +kernel
theorem d_R_code_88 : decode prog_9_method_13_code 88 = .ok (.iload_n 3, 1) := by decide +kernel
theorem d_R_code_89 : decode prog_9_method_13_code 89 = .ok (.iastore, 1) := by decide +kernel
theorem d_R_code_90 : decode prog_9_method_13_code 90 = .ok (.aload_n 0, 1) := by decide +kernel
theorem d_R_code_91 : decode prog_9_method_13_code 91 = .ok (.getfield 37, 3) := by decide +kernel
theorem d_R_code_94 : decode prog_9_method_13_code 94 = .ok (.iload_n 1, 1) := by decide +kernel
theorem d_R_code_95 : decode prog_9_method_13_code 95 = .ok (.dup2, 1) := by decide +kernel
theorem d_R_code_96 : decode prog_9_method_13_code 96 = .ok (.iaload, 1) := by decide +kernel
theorem d_R_code_97 : decode prog_9_method_13_code 97 = .ok (.iconst 1, 1) := by decide +kernel
theorem d_R_code_98 : decode prog_9_method_13_code 98 = .ok (.iadd, 1) := by decide +kernel
theorem d_R_code_99 : decode prog_9_method_13_code 99 = .ok (.iastore, 1) := by decide +kernel
theorem d_R_code_100 : decode prog_9_method_13_code 100 = .ok (.aload_n 0, 1) := by decide +kernel
theorem d_R_code_101 : decode prog_9_method_13_code 101 = .ok (.getfield 37, 3) := by decide +kernel
theorem d_R_code_104 : decode prog_9_method_13_code 104 = .ok (.iload_n 1, 1) := by decide +kernel
theorem d_R_code_105 : decode prog_9_method_13_code 105 = .ok (.iaload, 1) := by decide +kernel
theorem d_R_code_106 : decode prog_9_method_13_code 106 = .ok (.iconst 1, 1) := by decide +kernel
theorem d_R_code_107 : decode prog_9_method_13_code 107 = .ok (.isub, 1) := by decide +kernel
theorem d_R_code_108 : decode prog_9_method_13_code 108 = .ok (.ireturn, 1) := by decide +kernel
theorem d_R_entry_0 : decode prog_9_method_14_code 0 = .ok (.aload_n 0, 1) := by decide +kernel
theorem d_R_entry_1 : decode prog_9_method_14_code 1 = .ok (.aload_n 0, 1) := by decide +kernel
theorem d_R_entry_2 : decode prog_9_method_14_code 2 = .ok (.iconst 0, 1) := by decide +kernel
theorem d_R_entry_3 : decode prog_9_method_14_code 3 = .ok (.iload_n 1, 1) := by decide +kernel
theorem d_R_entry_4 : decode prog_9_method_14_code 4 = .ok (.invokevirtual 118, 3) := by decide +kernel
theorem d_R_entry_7 : decode prog_9_method_14_code 7 = .ok (.ifCond .eq 7, 3) := by decide +kernel
theorem d_R_entry_10 : decode prog_9_method_14_code 10 = .ok (.iconst 1, 1) := by decide +kernel
theorem d_R_entry_11 : decode prog_9_method_14_code 11 = .ok (.goto 4, 3) := by decide +kernel
theorem d_R_entry_14 : decode prog_9_method_14_code 14 = .ok (.iconst 0, 1) := by decide +kernel
theorem d_R_entry_15 : decode prog_9_method_14_code 15 = .ok (.putfield 92, 3) := by decide +kernel
theorem d_R_entry_18 : decode prog_9_method_14_code 18 = .ok (.aload_n 0, 1) := by decide +kernel
theorem d_R_entry_19 : decode prog_9_method_14_code 19 = .ok (.getfield 92, 3) := by decide +kernel
theorem d_R_entry_22 : decode prog_9_method_14_code 22 = .ok (.ifCond .ne 10, 3) := by decide +kernel
theorem d_R_entry_25 : decode prog_9_method_14_code 25 = .ok (.aload_n 0, 1) := by decide +kernel
theorem d_R_entry_26 : decode prog_9_method_14_code 26 = .ok (.getfield 40, 3) := by decide +kernel
theorem d_R_entry_29 : decode prog_9_method_14_code 29 = .ok (.iload_n 1, 1) := by decide +kernel
theorem d_R_entry_30 : decode prog_9_method_14_code 30 = .ok (.iload_n 2, 1) := by decide +kernel
theorem d_R_entry_31 : decode prog_9_method_14_code 31 = .ok (.bastore, 1) := by decide +kernel
theorem d_R_entry_32 : decode prog_9_method_14_code 32 = .ok (.return_, 1) := by decide +kernel
theorem d_R_clear_0 : decode prog_9_method_15_code 0 = .ok (.aload_n 0, 1) := by decide +kernel
theorem d_R_clear_1 : decode prog_9_method_15_code 1 = .ok (.iconst 0, 1) := by decide +kernel
theorem d_R_clear_2 : decode prog_9_method_15_code 2 = .ok (.putfield 92, 3) := by decide +kernel
theorem d_R_clear_5 : decode prog_9_method_15_code 5 = .ok (.aload_n 0, 1) := by decide +kernel
theorem d_R_clear_6 : decode prog_9_method_15_code 6 = .ok (.getfield 7, 3) := by decide +kernel
theorem d_R_clear_9 : decode prog_9_method_15_code 9 = .ok (.iconst 0, 1) := by decide +kernel
theorem d_R_clear_10 : decode prog_9_method_15_code 10 = .ok (.iconst 0, 1) := by decide +kernel
theorem d_R_clear_11 : decode prog_9_method_15_code 11 = .ok (.iastore, 1) := by decide +kernel
theorem d_R_clear_12 : decode prog_9_method_15_code 12 = .ok (.aload_n 0, 1) := by decide +kernel
theorem d_R_clear_13 : decode prog_9_method_15_code 13 = .ok (.getfield 13, 3) := by decide +kernel
theorem d_R_clear_16 : decode prog_9_method_15_code 16 = .ok (.iconst 0, 1) := by decide +kernel
theorem d_R_clear_17 : decode prog_9_method_15_code 17 = .ok (.iconst 0, 1) := by decide +kernel
theorem d_R_clear_18 : decode prog_9_method_15_code 18 = .ok (.iastore, 1) := by decide +kernel
theorem d_R_clear_19 : decode prog_9_method_15_code 19 = .ok (.return_, 1) := by decide +kernel
theorem d_R_meant_0 : decode prog_9_method_16_code 0 = .ok (.aload_n 0, 1) := by decide +kernel
theorem d_R_meant_1 : decode prog_9_method_16_code 1 = .ok (.iload_n 1, 1) := by decide +kernel
theorem d_R_meant_2 : decode prog_9_method_16_code 2 = .ok (.iload_n 2, 1) := by decide +kernel
theorem d_R_meant_3 : decode prog_9_method_16_code 3 = .ok (.iload_n 3, 1) := by decide +kernel
theorem d_R_meant_4 : decode prog_9_method_16_code 4 = .ok (.iload 4, 2) := by decide +kernel
theorem d_R_meant_6 : decode prog_9_method_16_code 6 = .ok (.invokevirtual 107, 3) := by decide +kernel
theorem d_R_meant_9 : decode prog_9_method_16_code 9 = .ok (.ifCond .ne 5, 3) := by decide +kernel
theorem d_R_meant_12 : decode prog_9_method_16_code 12 = .ok (.iconst (-1), 1) := by decide +kernel
theorem d_R_meant_13 : decode prog_9_method_16_code 13 = .ok (.ireturn, 1) := by decide +kernel
theorem d_R_meant_14 : decode prog_9_method_16_code 14 = .ok (.iload_n 1, 1) := by decide +kernel
theorem d_R_meant_15 : decode prog_9_method_16_code 15 = .ok (.iload_n 2, 1) := by decide +kernel
theorem d_R_meant_16 : decode prog_9_method_16_code 16 = .ok (.invokestatic 100, 3) := by decide +kernel
theorem d_R_meant_19 : decode prog_9_method_16_code 19 = .ok (.iload_n 3, 1) := by decide +kernel
theorem d_R_meant_20 : decode prog_9_method_16_code 20 = .ok (.iadd, 1) := by decide +kernel
theorem d_R_meant_21 : decode prog_9_method_16_code 21 = .ok (.istore 5, 2) := by decide +kernel
theorem d_R_meant_23 : decode prog_9_method_16_code 23 = .ok (.aload_n 0, 1) := by decide +kernel
theorem d_R_meant_24 : decode prog_9_method_16_code 24 = .ok (.getfield 22, 3) := by decide +kernel
theorem d_R_meant_27 : decode prog_9_method_16_code 27 = .ok (.iload_n 1, 1) := by decide +kernel
theorem d_R_meant_28 : decode prog_9_method_16_code 28 = .ok (.iload_n 2, 1) := by decide +kernel
theorem d_R_meant_29 : decode prog_9_method_16_code 29 = .ok (.invokestatic 100, 3) := by decide +kernel
theorem d_R_meant_32 : decode prog_9_method_16_code 32 = .ok (.aload_n 0, 1) := by decide +kernel
theorem d_R_meant_33 : decode prog_9_method_16_code 33 = .ok (.getfield 22, 3) := by decide +kernel
theorem d_R_meant_36 : decode prog_9_method_16_code 36 = .ok (.iload 5, 2) := by decide +kernel
theorem d_R_meant_38 : decode prog_9_method_16_code 38 = .ok (.iaload, 1) := by decide +kernel
theorem d_R_meant_39 : decode prog_9_method_16_code 39 = .ok (.iadd, 1) := by decide +kernel
theorem d_R_meant_40 : decode prog_9_method_16_code 40 = .ok (.iaload, 1) := by decide +kernel
theorem d_R_meant_41 : decode prog_9_method_16_code 41 = .ok (.istore 6, 2) := by decide +kernel
theorem d_R_meant_43 : decode prog_9_method_16_code 43 = .ok (.aload_n 0, 1) := by decide +kernel
theorem d_R_meant_44 : decode prog_9_method_16_code 44 = .ok (.getfield 22, 3) := by decide +kernel
theorem d_R_meant_47 : decode prog_9_method_16_code 47 = .ok (.iload_n 1, 1) := by decide +kernel
theorem d_R_meant_48 : decode prog_9_method_16_code 48 = .ok (.iload_n 2, 1) := by decide +kernel
theorem d_R_meant_49 : decode prog_9_method_16_code 49 = .ok (.invokestatic 100, 3) := by decide +kernel
theorem d_R_meant_52 : decode prog_9_method_16_code 52 = .ok (.aload_n 0, 1) := by decide +kernel
theorem d_R_meant_53 : decode prog_9_method_16_code 53 = .ok (.getfield 25, 3) := by decide +kernel
theorem d_R_meant_56 : decode prog_9_method_16_code 56 = .ok (.iload 5, 2) := by decide +kernel
theorem d_R_meant_58 : decode prog_9_method_16_code 58 = .ok (.iaload, 1) := by decide +kernel
theorem d_R_meant_59 : decode prog_9_method_16_code 59 = .ok (.iadd, 1) := by decide +kernel
theorem d_R_meant_60 : decode prog_9_method_16_code 60 = .ok (.iaload, 1) := by decide +kernel
theorem d_R_meant_61 : decode prog_9_method_16_code 61 = .ok (.istore 7, 2) := by decide +kernel
theorem d_R_meant_63 : decode prog_9_method_16_code 63 = .ok (.aload_n 0, 1) := by decide +kernel
theorem d_R_meant_64 : decode prog_9_method_16_code 64 = .ok (.iload_n 1, 1) := by decide +kernel
theorem d_R_meant_65 : decode prog_9_method_16_code 65 = .ok (.iload 6, 2) := by decide +kernel
theorem d_R_meant_67 : decode prog_9_method_16_code 67 = .ok (.iload 4, 2) := by decide +kernel
theorem d_R_meant_69 : decode prog_9_method_16_code 69 = .ok (.iconst 3, 1) := by decide +kernel
theorem d_R_meant_70 : decode prog_9_method_16_code 70 = .ok (.if_icmp .ne 7, 3) := by decide +kernel
theorem d_R_meant_73 : decode prog_9_method_16_code 73 = .ok (.iconst 1, 1) := by decide +kernel
theorem d_R_meant_74 : decode prog_9_method_16_code 74 = .ok (.goto 4, 3) := by decide +kernel
theorem d_R_meant_77 : decode prog_9_method_16_code 77 = .ok (.iconst 0, 1) := by decide +kernel
theorem d_R_meant_78 : decode prog_9_method_16_code 78 = .ok (.iload 7, 2) := by decide +kernel
theorem d_R_meant_80 : decode prog_9_method_16_code 80 = .ok (.invokevirtual 114, 3) := by decide +kernel
theorem d_R_meant_83 : decode prog_9_method_16_code 83 = .ok (.ireturn, 1) := by decide +kernel
theorem d_R_isClosed_0 : decode prog_9_method_17_code 0 = .ok (.aload_n 0, 1) := by decide +kernel
theorem d_R_isClosed_1 : decode prog_9_method_17_code 1 = .ok (.getfield 44, 3) := by decide +kernel
theorem d_R_isClosed_4 : decode prog_9_method_17_code 4 = .ok (.sipush 600, 3) := by decide +kernel
theorem d_R_isClosed_7 : decode prog_9_method_17_code 7 = .ok (.iload_n 1, 1) := by decide +kernel
theorem d_R_isClosed_8 : decode prog_9_method_17_code 8 = .ok (.imul, 1) := by decide +kernel
theorem d_R_isClosed_9 : decode prog_9_method_17_code 9 = .ok (.bipush 20, 2) := by decide +kernel
theorem d_R_isClosed_11 : decode prog_9_method_17_code 11 = .ok (.iload_n 2, 1) := by decide +kernel
theorem d_R_isClosed_12 : decode prog_9_method_17_code 12 = .ok (.imul, 1) := by decide +kernel
theorem d_R_isClosed_13 : decode prog_9_method_17_code 13 = .ok (.iadd, 1) := by decide +kernel
theorem d_R_isClosed_14 : decode prog_9_method_17_code 14 = .ok (.iload_n 3, 1) := by decide +kernel
theorem d_R_isClosed_15 : decode prog_9_method_17_code 15 = .ok (.iadd, 1) := by decide +kernel
theorem d_R_isClosed_16 : decode prog_9_method_17_code 16 = .ok (.iaload, 1) := by decide +kernel
theorem d_R_isClosed_17 : decode prog_9_method_17_code 17 = .ok (.istore 4, 2) := by decide +kernel
theorem d_R_isClosed_19 : decode prog_9_method_17_code 19 = .ok (.aload_n 0, 1) := by decide +kernel
theorem d_R_isClosed_20 : decode prog_9_method_17_code 20 = .ok (.getfield 47, 3) := by decide +kernel
theorem d_R_isClosed_23 : decode prog_9_method_17_code 23 = .ok (.sipush 600, 3) := by decide +kernel
theorem d_R_isClosed_26 : decode prog_9_method_17_code 26 = .ok (.iload_n 1, 1) := by decide +kernel
theorem d_R_isClosed_27 : decode prog_9_method_17_code 27 = .ok (.imul, 1) := by decide +kernel
theorem d_R_isClosed_28 : decode prog_9_method_17_code 28 = .ok (.bipush 20, 2) := by decide +kernel
theorem d_R_isClosed_30 : decode prog_9_method_17_code 30 = .ok (.iload_n 2, 1) := by decide +kernel
theorem d_R_isClosed_31 : decode prog_9_method_17_code 31 = .ok (.imul, 1) := by decide +kernel
theorem d_R_isClosed_32 : decode prog_9_method_17_code 32 = .ok (.iadd, 1) := by decide +kernel
theorem d_R_isClosed_33 : decode prog_9_method_17_code 33 = .ok (.iload_n 3, 1) := by decide +kernel
theorem d_R_isClosed_34 : decode prog_9_method_17_code 34 = .ok (.iadd, 1) := by decide +kernel
theorem d_R_isClosed_35 : decode prog_9_method_17_code 35 = .ok (.iaload, 1) := by decide +kernel
theorem d_R_isClosed_36 : decode prog_9_method_17_code 36 = .ok (.istore 5, 2) := by decide +kernel
theorem d_R_isClosed_38 : decode prog_9_method_17_code 38 = .ok (.aload_n 0, 1) := by decide +kernel
theorem d_R_isClosed_39 : decode prog_9_method_17_code 39 = .ok (.getfield 28, 3) := by decide +kernel
theorem d_R_isClosed_42 : decode prog_9_method_17_code 42 = .ok (.bipush 30, 2) := by decide +kernel
theorem d_R_isClosed_44 : decode prog_9_method_17_code 44 = .ok (.iload_n 1, 1) := by decide +kernel
theorem d_R_isClosed_45 : decode prog_9_method_17_code 45 = .ok (.imul, 1) := by decide +kernel
theorem d_R_isClosed_46 : decode prog_9_method_17_code 46 = .ok (.iload_n 2, 1) := by decide +kernel
theorem d_R_isClosed_47 : decode prog_9_method_17_code 47 = .ok (.iadd, 1) := by decide +kernel
theorem d_R_isClosed_48 : decode prog_9_method_17_code 48 = .ok (.iaload, 1) := by decide +kernel
theorem d_R_isClosed_49 : decode prog_9_method_17_code 49 = .ok (.istore 6, 2) := by decide +kernel
theorem d_R_isClosed_51 : decode prog_9_method_17_code 51 = .ok (.iload 4, 2) := by decide +kernel
theorem d_R_isClosed_53 : decode prog_9_method_17_code 53 = .ok (.tableswitch 162 0 10 #[59, 70, 70, 89, 108, 162, 162, 162, 162, 135, 135], 59) := by decide +kernel
theorem d_R_isClosed_112 : decode prog_9_method_17_code 112 = .ok (.aload_n 0, 1) := by decide +kernel
theorem d_R_isClosed_113 : decode prog_9_method_17_code 113 = .ok (.iload_n 1, 1) := by decide +kernel
theorem d_R_isClosed_114 : decode prog_9_method_17_code 114 = .ok (.iload 6, 2) := by decide +kernel
theorem d_R_isClosed_116 : decode prog_9_method_17_code 116 = .ok (.iload 5, 2) := by decide +kernel
theorem d_R_isClosed_118 : decode prog_9_method_17_code 118 = .ok (.iconst 0, 1) := by decide +kernel
theorem d_R_isClosed_119 : decode prog_9_method_17_code 119 = .ok (.invokevirtual 107, 3) := by decide +kernel
theorem d_R_isClosed_122 : decode prog_9_method_17_code 122 = .ok (.ireturn, 1) := by decide +kernel
theorem d_R_isClosed_123 : decode prog_9_method_17_code 123 = .ok (.aload_n 0, 1) := by decide +kernel
theorem d_R_isClosed_124 : decode prog_9_method_17_code 124 = .ok (.iload_n 1, 1) := by decide +kernel
theorem d_R_isClosed_125 : decode prog_9_method_17_code 125 = .ok (.iload 6, 2) := by decide +kernel
theorem d_R_isClosed_127 : decode prog_9_method_17_code 127 = .ok (.iload 5, 2) := by decide +kernel
theorem d_R_isClosed_129 : decode prog_9_method_17_code 129 = .ok (.iconst 3, 1) := by decide +kernel
theorem d_R_isClosed_130 : decode prog_9_method_17_code 130 = .ok (.invokevirtual 121, 3) := by decide +kernel
theorem d_R_isClosed_133 : decode prog_9_method_17_code 133 = .ok (.ifCond .lt 7, 3) := by decide +kernel
theorem d_R_isClosed_136 : decode prog_9_method_17_code 136 = .ok (.iconst 1, 1) := by decide +kernel
theorem d_R_isClosed_137 : decode prog_9_method_17_code 137 = .ok (.goto 4, 3) := by decide +kernel
theorem d_R_isClosed_140 : decode prog_9_method_17_code 140 = .ok (.iconst 0, 1) := by decide +kernel
theorem d_R_isClosed_141 : decode prog_9_method_17_code 141 = .ok (.ireturn, 1) := by decide +kernel
theorem d_R_isClosed_142 : decode prog_9_method_17_code 142 = .ok (.aload_n 0, 1) := by decide +kernel
theorem d_R_isClosed_143 : decode prog_9_method_17_code 143 = .ok (.iload_n 1, 1) := by decide +kernel
theorem d_R_isClosed_144 : decode prog_9_method_17_code 144 = .ok (.iload 6, 2) := by decide +kernel
theorem d_R_isClosed_146 : decode prog_9_method_17_code 146 = .ok (.iload 5, 2) := by decide +kernel
theorem d_R_isClosed_148 : decode prog_9_method_17_code 148 = .ok (.iconst 4, 1) := by decide +kernel
theorem d_R_isClosed_149 : decode prog_9_method_17_code 149 = .ok (.invokevirtual 121, 3) := by decide +kernel
theorem d_R_isClosed_152 : decode prog_9_method_17_code 152 = .ok (.ifCond .lt 7, 3) := by decide +kernel
theorem d_R_isClosed_155 : decode prog_9_method_17_code 155 = .ok (.iconst 1, 1) := by decide +kernel
theorem d_R_isClosed_156 : decode prog_9_method_17_code 156 = .ok (.goto 4, 3) := by decide +kernel
theorem d_R_isClosed_159 : decode prog_9_method_17_code 159 = .ok (.iconst 0, 1) := by decide +kernel
theorem d_R_isClosed_160 : decode prog_9_method_17_code 160 = .ok (.ireturn, 1) := by decide +kernel
theorem d_R_isClosed_161 : decode prog_9_method_17_code 161 = .ok (.iload 5, 2) := by decide +kernel
theorem d_R_isClosed_163 : decode prog_9_method_17_code 163 = .ok (.ifCond .lt 23, 3) := by decide +kernel
theorem d_R_isClosed_166 : decode prog_9_method_17_code 166 = .ok (.iload 5, 2) := by decide +kernel
theorem d_R_isClosed_168 : decode prog_9_method_17_code 168 = .ok (.aload_n 0, 1) := by decide +kernel
theorem d_R_isClosed_169 : decode prog_9_method_17_code 169 = .ok (.getfield 34, 3) := by decide +kernel
theorem d_R_isClosed_172 : decode prog_9_method_17_code 172 = .ok (.bipush 30, 2) := by decide +kernel
theorem d_R_isClosed_174 : decode prog_9_method_17_code 174 = .ok (.iload_n 1, 1) := by decide +kernel
theorem d_R_isClosed_175 : decode prog_9_method_17_code 175 = .ok (.imul, 1) := by decide +kernel
theorem d_R_isClosed_176 : decode prog_9_method_17_code 176 = .ok (.iload_n 2, 1) := by decide +kernel
theorem d_R_isClosed_177 : decode prog_9_method_17_code 177 = .ok (.iadd, 1) := by decide +kernel
theorem d_R_isClosed_178 : decode prog_9_method_17_code 178 = .ok (.iaload, 1) := by decide +kernel
theorem d_R_isClosed_179 : decode prog_9_method_17_code 179 = .ok (.if_icmp .ge 7, 3) := by decide +kernel
theorem d_R_isClosed_182 : decode prog_9_method_17_code 182 = .ok (.iconst 1, 1) := by decide +kernel
theorem d_R_isClosed_183 : decode prog_9_method_17_code 183 = .ok (.goto 4, 3) := by decide +kernel
theorem d_R_isClosed_186 : decode prog_9_method_17_code 186 = .ok (.iconst 0, 1) := by decide +kernel
theorem d_R_isClosed_187 : decode prog_9_method_17_code 187 = .ok (.ireturn, 1) := by decide +kernel
theorem d_R_isClosed_188 : decode prog_9_method_17_code 188 = .ok (.iload 5, 2) := by decide +kernel
theorem d_R_isClosed_190 : decode prog_9_method_17_code 190 = .ok (.ifCond .lt 23, 3) := by decide +kernel
theorem d_R_isClosed_193 : decode prog_9_method_17_code 193 = .ok (.iload 5, 2) := by decide +kernel
theorem d_R_isClosed_195 : decode prog_9_method_17_code 195 = .ok (.aload_n 0, 1) := by decide +kernel
theorem d_R_isClosed_196 : decode prog_9_method_17_code 196 = .ok (.getfield 37, 3) := by decide +kernel
theorem d_R_isClosed_199 : decode prog_9_method_17_code 199 = .ok (.bipush 30, 2) := by decide +kernel
theorem d_R_isClosed_201 : decode prog_9_method_17_code 201 = .ok (.iload_n 1, 1) := by decide +kernel
theorem d_R_isClosed_202 : decode prog_9_method_17_code 202 = .ok (.imul, 1) := by decide +kernel
theorem d_R_isClosed_203 : decode prog_9_method_17_code 203 = .ok (.iload_n 2, 1) := by decide +kernel
theorem d_R_isClosed_204 : decode prog_9_method_17_code 204 = .ok (.iadd, 1) := by decide +kernel
theorem d_R_isClosed_205 : decode prog_9_method_17_code 205 = .ok (.iaload, 1) := by decide +kernel
theorem d_R_isClosed_206 : decode prog_9_method_17_code 206 = .ok (.if_icmp .ge 7, 3) := by decide +kernel
theorem d_R_isClosed_209 : decode prog_9_method_17_code 209 = .ok (.iconst 1, 1) := by decide +kernel
theorem d_R_isClosed_210 : decode prog_9_method_17_code 210 = .ok (.goto 4, 3) := by decide +kernel
theorem d_R_isClosed_213 : decode prog_9_method_17_code 213 = .ok (.iconst 0, 1) := by decide +kernel
theorem d_R_isClosed_214 : decode prog_9_method_17_code 214 = .ok (.ireturn, 1) := by decide +kernel
theorem d_R_isClosed_215 : decode prog_9_method_17_code 215 = .ok (.iconst 1, 1) := by decide +kernel
theorem d_R_isClosed_216 : decode prog_9_method_17_code 216 = .ok (.ireturn, 1) := by decide +kernel
def g_R_constant_185 (v0 : Nat) (v1 : Int32) (s0 : Nat) (s1 : Int32) (s2 : Int32) (M : XM) : XP :=
    sI M s0 s1 s2 fun M1 =>
    gR M1 27 v0 3 fun t2 =>
    aI M1 t2 v1 fun t3 =>
    sI M1 t2 v1 (t3 + 1) fun M4 =>
    gR M4 27 v0 3 fun t5 =>
    aI M4 t5 v1 fun t6 =>
    some (.inl (some (.int (t6 - 1))), M4)
def g_R_constant_126 (v0 : Nat) (v1 : Int32) (v2 : Int32) (v3 : Int32) (v4 : Int32) (s0 : Nat) (s1 : Int32) (M : XM) : XP :=
    uI M 27 s0 0 s1 fun M1 =>
    gI M1 27 v0 0 fun t2 =>
    if t2 ≤ 0 then
    (cI (g_R_base 0 v1 M1) fun t4 M3 =>
    gR M3 27 v0 3 fun t5 =>
    aI M3 t5 v1 fun t6 =>
    gR M3 27 v0 4 fun t7 =>
    sI M3 t7 (t4 + t6) v2 fun M8 =>
    gR M8 27 v0 5 fun t9 =>
    sI M8 t9 (t4 + t6) v3 fun M10 =>
    gR M10 27 v0 6 fun t11 =>
    if v2 < 3 then
    (g_R_constant_185 v0 v1 t11 ((t4 + t6)) 0 M10)
    else
    g_R_constant_185 v0 v1 t11 ((t4 + t6)) v4 M10)
    else
    some (.inl (some (.int 0)), M1)
def g_R_constant_98 (v0 : Nat) (v1 : Int32) (v2 : Int32) (v3 : Int32) (v4 : Int32) (s0 : Int32) (M : XM) : XP :=
    if ¬ s0 = 0 then
    (gR M 27 v0 3 fun t1 =>
    aI M t1 v1 fun t2 =>
    if ¬ t2 = 20 then
    (g_R_constant_126 v0 v1 v2 v3 v4 v0 0 M)
    else
    g_R_constant_126 v0 v1 v2 v3 v4 v0 3 M)
    else
    g_R_constant_126 v0 v1 v2 v3 v4 v0 2 M
def g_R_constant_93 (v0 : Nat) (v1 : Int32) (v2 : Int32) (v3 : Int32) (v4 : Int32) (M : XM) : XP :=
    g_R_constant_98 v0 v1 v2 v3 v4 1 M
def g_R_constant_97 (v0 : Nat) (v1 : Int32) (v2 : Int32) (v3 : Int32) (v4 : Int32) (M : XM) : XP :=
    g_R_constant_98 v0 v1 v2 v3 v4 0 M
def g_R_constant_70 (v0 : Nat) (v1 : Int32) (v2 : Int32) (v3 : Int32) (v4 : Int32) (M : XM) : XP :=
    rv M 27 v0 <|
    cI (g_R_has v0 0 v1 v3 2 M) fun t3 M2 =>
    if t3 = 0 then
    (g_R_constant_97 v0 v1 v2 v3 v4 M2)
    else
    rv M2 27 v0 <|
    cI (g_R_has v0 0 v1 v4 1 M2) fun t6 M5 =>
    if t6 = 0 then
    (g_R_constant_97 v0 v1 v2 v3 v4 M5)
    else
    g_R_constant_93 v0 v1 v2 v3 v4 M5
def g_R_constant_60 (v0 : Nat) (v1 : Int32) (v2 : Int32) (v3 : Int32) (v4 : Int32) (M : XM) : XP :=
    if v2 = 3 then
    (g_R_constant_70 v0 v1 v2 v3 v4 M)
    else
    if ¬ v2 = 4 then
    (g_R_constant_97 v0 v1 v2 v3 v4 M)
    else
    g_R_constant_70 v0 v1 v2 v3 v4 M
def g_R_constant_46 (v0 : Nat) (v1 : Int32) (v2 : Int32) (v3 : Int32) (v4 : Int32) (M : XM) : XP :=
    if ¬ v2 = 2 then
    (g_R_constant_60 v0 v1 v2 v3 v4 M)
    else
    rv M 27 v0 <|
    cI (g_R_noClass v0 0 v3 M) fun t3 M2 =>
    if t3 = 0 then
    (g_R_constant_93 v0 v1 v2 v3 v4 M2)
    else
    g_R_constant_60 v0 v1 v2 v3 v4 M2
def g_R_constant_15 (v0 : Nat) (v1 : Int32) (v2 : Int32) (v3 : Int32) (v4 : Int32) (s0 : Nat) (s1 : Int32) (M : XM) : XP :=
    uI M 27 s0 0 s1 fun M1 =>
    gI M1 27 v0 0 fun t2 =>
    if t2 ≤ 0 then
    (if v2 = 0 then
    (g_R_constant_93 v0 v1 v2 v3 v4 M1)
    else
    if ¬ v2 = 1 then
    (g_R_constant_46 v0 v1 v2 v3 v4 M1)
    else
    if v3 < 0 then
    (g_R_constant_46 v0 v1 v2 v3 v4 M1)
    else
    if v3 ≤ 99 then
    (g_R_constant_93 v0 v1 v2 v3 v4 M1)
    else
    g_R_constant_46 v0 v1 v2 v3 v4 M1)
    else
    some (.inl (some (.int 0)), M1)
def g_R_constant (v0 : Nat) (v1 : Int32) (v2 : Int32) (v3 : Int32) (v4 : Int32) (M : XM) : XP :=
    rv M 27 v0 <|
    cI (g_R_noClass v0 0 v1 M) fun t3 M2 =>
    if t3 = 0 then
    (g_R_constant_15 v0 v1 v2 v3 v4 v0 0 M2)
    else
    g_R_constant_15 v0 v1 v2 v3 v4 v0 1 M2
def g_R_nameOf (v0 : Nat) (v1 : Int32) (v2 : Int32) (M : XM) : XP :=
    gR M 27 v0 5 fun t1 =>
    gR M 27 v0 7 fun t2 =>
    aI M t2 ((30 * v1) + v2) fun t3 =>
    cI (g_R_base v1 t3 M) fun t5 M4 =>
    gR M4 27 v0 8 fun t6 =>
    aI M4 t6 ((30 * v1) + v2) fun t7 =>
    aI M4 t1 (t5 + t7) fun t8 =>
    some (.inl (some (.int t8)), M4)
def g_R_find_50 (r3 : Nat → Int32 → Int32 → Int32 → Int32 → Int32 → XM → XP) (v0 : Nat) (v1 : Int32) (v2 : Int32) (v3 : Int32) (v4 : Int32) (v5 : Int32) (s0 : Int32) (M : XM) : XP :=
    if ¬ s0 = v3 then
    (r3 v0 v1 v2 v3 v4 ((v5 + 1)) M)
    else
    rv M 27 v0 <|
    cI (g_R_nameOf v0 v1 v5 M) fun t3 M2 =>
    if ¬ t3 = v4 then
    (r3 v0 v1 v2 v3 v4 ((v5 + 1)) M2)
    else
    some (.inl (some (.int v5)), M2)
def g_R_find_3 : Nat → Nat → Int32 → Int32 → Int32 → Int32 → Int32 → XM → XP
  | 0, _, _, _, _, _, _, _ => none
  | n + 1, v0, v1, v2, v3, v4, v5, M =>
    gR M 27 v0 2 fun t1 =>
    aI M t1 v1 fun t2 =>
    if t2 ≤ v5 then
    (some (.inl (some (.int (-1))), M))
    else
    gR M 27 v0 7 fun t3 =>
    aI M t3 ((30 * v1) + v5) fun t4 =>
    if ¬ t4 = v2 then
    (g_R_find_3 n v0 v1 v2 v3 v4 ((v5 + 1)) M)
    else
    gR M 27 v0 9 fun t5 =>
    aI M t5 ((30 * v1) + v5) fun t6 =>
    if 0 ≤ t6 then
    (g_R_find_50 (g_R_find_3 n) v0 v1 v2 v3 v4 v5 0 M)
    else
    g_R_find_50 (g_R_find_3 n) v0 v1 v2 v3 v4 v5 1 M
def g_R_find (v0 : Nat) (v1 : Int32) (v2 : Int32) (v3 : Int32) (v4 : Int32) (M : XM) : XP :=
    g_R_find_3 FU v0 v1 v2 v3 v4 0 M
def g_R_member_102 (v0 : Nat) (v1 : Int32) (v2 : Int32) (v3 : Int32) (s0 : Nat) (s1 : Int32) (M : XM) : XP :=
    uI M 27 s0 0 s1 fun M1 =>
    gI M1 27 v0 0 fun t2 =>
    if t2 ≤ 0 then
    (gR M1 27 v0 2 fun t3 =>
    aI M1 t3 0 fun t4 =>
    gR M1 27 v0 7 fun t5 =>
    sI M1 t5 t4 v1 fun M6 =>
    gR M6 27 v0 8 fun t7 =>
    sI M6 t7 t4 v2 fun M8 =>
    gR M8 27 v0 9 fun t9 =>
    sI M8 t9 t4 v3 fun M10 =>
    gR M10 27 v0 10 fun t11 =>
    sI M10 t11 t4 0 fun M12 =>
    gR M12 27 v0 11 fun t13 =>
    sZ M12 t13 t4 0 fun M14 =>
    gR M14 27 v0 2 fun t15 =>
    aI M14 t15 0 fun t16 =>
    sI M14 t15 0 (t16 + 1) fun M17 =>
    some (.inl (some (.int t4)), M17))
    else
    some (.inl (some (.int 0)), M1)
def g_R_member_60 (v0 : Nat) (v1 : Int32) (v2 : Int32) (v3 : Int32) (s0 : Nat) (s1 : Int32) (s2 : Int32) (s3 : Int32) (M : XM) : XP :=
    gR M 27 v0 5 fun t1 =>
    cI (g_R_base 0 v1 M) fun t3 M2 =>
    aI M2 t1 (t3 + v2) fun t4 =>
    rv M2 27 s0 <|
    cI (g_R_find s0 s1 s2 s3 t4 M2) fun t7 M6 =>
    if t7 < 0 then
    (gR M6 27 v0 2 fun t8 =>
    aI M6 t8 0 fun t9 =>
    if ¬ t9 = 30 then
    (g_R_member_102 v0 v1 v2 v3 v0 0 M6)
    else
    g_R_member_102 v0 v1 v2 v3 v0 3 M6)
    else
    uI M6 27 v0 0 2 fun M10 =>
    some (.inl (some (.int 0)), M10)
def g_R_member_15 (v0 : Nat) (v1 : Int32) (v2 : Int32) (v3 : Int32) (s0 : Nat) (s1 : Int32) (M : XM) : XP :=
    uI M 27 s0 0 s1 fun M1 =>
    gI M1 27 v0 0 fun t2 =>
    if t2 ≤ 0 then
    (rv M1 27 v0 <|
    cI (g_R_has v0 0 v1 v2 1 M1) fun t5 M4 =>
    if t5 = 0 then
    (uI M4 27 v0 0 2 fun M6 =>
    some (.inl (some (.int 0)), M6))
    else
    if v3 < (-1) then
    (uI M4 27 v0 0 2 fun M7 =>
    some (.inl (some (.int 0)), M7))
    else
    if 2 < v3 then
    (uI M4 27 v0 0 2 fun M8 =>
    some (.inl (some (.int 0)), M8))
    else
    if 0 ≤ v3 then
    (g_R_member_60 v0 v1 v2 v3 v0 0 v1 0 M4)
    else
    g_R_member_60 v0 v1 v2 v3 v0 0 v1 1 M4)
    else
    some (.inl (some (.int 0)), M1)
def g_R_member (v0 : Nat) (v1 : Int32) (v2 : Int32) (v3 : Int32) (M : XM) : XP :=
    rv M 27 v0 <|
    cI (g_R_noClass v0 0 v1 M) fun t3 M2 =>
    if t3 = 0 then
    (g_R_member_15 v0 v1 v2 v3 v0 0 M2)
    else
    g_R_member_15 v0 v1 v2 v3 v0 1 M2
def g_R_noMember (v0 : Nat) (v1 : Int32) (v2 : Int32) (M : XM) : XP :=
    if v2 < 0 then
    (z01 1 (some (.inl (some (.int 1)), M)))
    else
    gR M 27 v0 2 fun t1 =>
    aI M t1 v1 fun t2 =>
    if v2 < t2 then
    (z01 0 (some (.inl (some (.int 0)), M)))
    else
    z01 1 (some (.inl (some (.int 1)), M))
def g_R_noMethod (v0 : Nat) (v1 : Int32) (v2 : Int32) (M : XM) : XP :=
    rv M 27 v0 <|
    cI (g_R_noMember v0 v1 v2 M) fun t3 M2 =>
    if ¬ t3 = 0 then
    (z01 1 (some (.inl (some (.int 1)), M2)))
    else
    gR M2 27 v0 9 fun t4 =>
    aI M2 t4 ((30 * v1) + v2) fun t5 =>
    if 0 ≤ t5 then
    (z01 0 (some (.inl (some (.int 0)), M2)))
    else
    z01 1 (some (.inl (some (.int 1)), M2))
def g_R_code_44 (v0 : Nat) (v1 : Int32) (v2 : Int32) (v3 : Int32) (s0 : Nat) (s1 : Int32) (M : XM) : XP :=
    uI M 27 s0 0 s1 fun M1 =>
    gI M1 27 v0 0 fun t2 =>
    if t2 ≤ 0 then
    (gR M1 27 v0 12 fun t3 =>
    gR M1 27 v0 10 fun t4 =>
    aI M1 t4 v1 fun t5 =>
    sI M1 t3 ((20 * v1) + t5) v2 fun M6 =>
    gR M6 27 v0 13 fun t7 =>
    gR M6 27 v0 10 fun t8 =>
    aI M6 t8 v1 fun t9 =>
    sI M6 t7 ((20 * v1) + t9) v3 fun M10 =>
    gR M10 27 v0 10 fun t11 =>
    aI M10 t11 v1 fun t12 =>
    sI M10 t11 v1 (t12 + 1) fun M13 =>
    gR M13 27 v0 10 fun t14 =>
    aI M13 t14 v1 fun t15 =>
    some (.inl (some (.int (t15 - 1))), M13))
    else
    some (.inl (some (.int 0)), M1)
def g_R_code_24 (v0 : Nat) (v1 : Int32) (v2 : Int32) (v3 : Int32) (s0 : Nat) (M : XM) : XP :=
    g_R_code_44 v0 v1 v2 v3 s0 2 M
def g_R_code (v0 : Nat) (v1 : Int32) (v2 : Int32) (v3 : Int32) (M : XM) : XP :=
    rv M 27 v0 <|
    cI (g_R_noMethod v0 0 v1 M) fun t3 M2 =>
    if t3 = 0 then
    (if v2 < 0 then
    (g_R_code_24 v0 v1 v2 v3 v0 M2)
    else
    if v2 ≤ 12 then
    (gR M2 27 v0 10 fun t4 =>
    aI M2 t4 v1 fun t5 =>
    if ¬ t5 = 20 then
    (g_R_code_44 v0 v1 v2 v3 v0 0 M2)
    else
    g_R_code_44 v0 v1 v2 v3 v0 3 M2)
    else
    g_R_code_24 v0 v1 v2 v3 v0 M2)
    else
    g_R_code_44 v0 v1 v2 v3 v0 1 M2
def g_R_entry_15 (v0 : Nat) (v1 : Int32) (v2 : Int32) (s0 : Nat) (s1 : Int32) (M : XM) : XP :=
    uI M 27 s0 0 s1 fun M1 =>
    gI M1 27 v0 0 fun t2 =>
    if ¬ t2 = 0 then
    (some (.inl none, M1))
    else
    gR M1 27 v0 11 fun t3 =>
    sZ M1 t3 v1 v2 fun M4 =>
    some (.inl none, M4)
def g_R_entry (v0 : Nat) (v1 : Int32) (v2 : Int32) (M : XM) : XP :=
    rv M 27 v0 <|
    cI (g_R_noMethod v0 0 v1 M) fun t3 M2 =>
    if t3 = 0 then
    (g_R_entry_15 v0 v1 v2 v0 0 M2)
    else
    g_R_entry_15 v0 v1 v2 v0 1 M2
def g_R_clear (v0 : Nat) (M : XM) : XP :=
    uI M 27 v0 0 0 fun M1 =>
    gR M1 27 v0 1 fun t2 =>
    sI M1 t2 0 0 fun M3 =>
    gR M3 27 v0 2 fun t4 =>
    sI M3 t4 0 0 fun M5 =>
    some (.inl none, M5)
def g_R_meant (v0 : Nat) (v1 : Int32) (v2 : Int32) (v3 : Int32) (v4 : Int32) (M : XM) : XP :=
    rv M 27 v0 <|
    cI (g_R_has v0 v1 v2 v3 v4 M) fun t3 M2 =>
    if ¬ t3 = 0 then
    (cI (g_R_base v1 v2 M2) fun t5 M4 =>
    gR M4 27 v0 5 fun t6 =>
    cI (g_R_base v1 v2 M4) fun t8 M7 =>
    gR M7 27 v0 5 fun t9 =>
    aI M7 t9 (t5 + v3) fun t10 =>
    aI M7 t6 (t8 + t10) fun t11 =>
    gR M7 27 v0 5 fun t12 =>
    cI (g_R_base v1 v2 M7) fun t14 M13 =>
    gR M13 27 v0 6 fun t15 =>
    aI M13 t15 (t5 + v3) fun t16 =>
    aI M13 t12 (t14 + t16) fun t17 =>
    if ¬ v4 = 3 then
    (rv M13 27 v0 <|
    cI (g_R_find v0 v1 t11 0 t17 M13) fun t20 M19 =>
    some (.inl (some (.int t20)), M19))
    else
    rv M13 27 v0 <|
    cI (g_R_find v0 v1 t11 1 t17 M13) fun t23 M22 =>
    some (.inl (some (.int t23)), M22))
    else
    some (.inl (some (.int (-1))), M2)
def g_R_isClosed_188 (v0 : Nat) (v1 : Int32) (v2 : Int32) (v5 : Int32) (M : XM) : XP :=
    if v5 < 0 then
    (z01 0 (some (.inl (some (.int 0)), M)))
    else
    gR M 27 v0 10 fun t1 =>
    aI M t1 ((30 * v1) + v2) fun t2 =>
    if t2 ≤ v5 then
    (z01 0 (some (.inl (some (.int 0)), M)))
    else
    z01 1 (some (.inl (some (.int 1)), M))
def g_R_isClosed_123 (v0 : Nat) (v1 : Int32) (v5 : Int32) (v6 : Int32) (M : XM) : XP :=
    rv M 27 v0 <|
    cI (g_R_meant v0 v1 v6 v5 3 M) fun t3 M2 =>
    if t3 < 0 then
    (z01 0 (some (.inl (some (.int 0)), M2)))
    else
    z01 1 (some (.inl (some (.int 1)), M2))
def g_R_isClosed (v0 : Nat) (v1 : Int32) (v2 : Int32) (v3 : Int32) (M : XM) : XP :=
    gR M 27 v0 12 fun t1 =>
    aI M t1 (((600 * v1) + (20 * v2)) + v3) fun t2 =>
    gR M 27 v0 13 fun t3 =>
    aI M t3 (((600 * v1) + (20 * v2)) + v3) fun t4 =>
    gR M 27 v0 7 fun t5 =>
    aI M t5 ((30 * v1) + v2) fun t6 =>
    if t2 = 0 then
    (rv M 27 v0 <|
    cI (g_R_has v0 v1 t6 t4 0 M) fun t14 M13 =>
    z01 t14 (some (.inl (some (.int t14)), M13)))
    else
    if t2 = 1 then
    (g_R_isClosed_123 v0 v1 t4 t6 M)
    else
    if t2 = 2 then
    (g_R_isClosed_123 v0 v1 t4 t6 M)
    else
    if t2 = 3 then
    (rv M 27 v0 <|
    cI (g_R_meant v0 v1 t6 t4 4 M) fun t11 M10 =>
    if t11 < 0 then
    (z01 0 (some (.inl (some (.int 0)), M10)))
    else
    z01 1 (some (.inl (some (.int 1)), M10)))
    else
    if t2 = 4 then
    (if t4 < 0 then
    (z01 0 (some (.inl (some (.int 0)), M)))
    else
    gR M 27 v0 9 fun t7 =>
    aI M t7 ((30 * v1) + v2) fun t8 =>
    if t8 ≤ t4 then
    (z01 0 (some (.inl (some (.int 0)), M)))
    else
    z01 1 (some (.inl (some (.int 1)), M)))
    else
    if t2 = 5 then
    (z01 1 (some (.inl (some (.int 1)), M)))
    else
    if t2 = 6 then
    (z01 1 (some (.inl (some (.int 1)), M)))
    else
    if t2 = 7 then
    (z01 1 (some (.inl (some (.int 1)), M)))
    else
    if t2 = 8 then
    (z01 1 (some (.inl (some (.int 1)), M)))
    else
    if t2 = 9 then
    (g_R_isClosed_188 v0 v1 v2 t4 M)
    else
    if t2 = 10 then
    (g_R_isClosed_188 v0 v1 v2 t4 M)
    else
    z01 1 (some (.inl (some (.int 1)), M))
section XG
variable {K : XK} {o : XO} {N : XM}
theorem p_R_constant_185 (G : xG K) (v0 : Nat) (v1 : Int32) (s0 : Nat) (s1 : Int32) (s2 : Int32) (M : XM) (h : g_R_constant_185 v0 v1 s0 s1 s2 M = some (o, N)) : cA K y_R_constant 185 [(0, .ref v0), (1, .int v1)] [.int s2, .int s1, .ref s0] M o N := by
  unfold g_R_constant_185 at h
  refine h_iastore G (pc := 185) d_R_constant_185 h fun M1 h => ?_
  refine x_aload_n (pc := 186) d_R_constant_186 rfl 0 rfl ?_
  refine h_getR G (pc := 187) (ci := 7) (j := 3) d_R_constant_187 rfl rfl rfl lf_R_16 h fun t2 h => ?_
  refine x_iload_n (pc := 190) d_R_constant_190 rfl 1 rfl ?_
  refine x_dup2 (pc := 191) d_R_constant_191 rfl rfl ?_
  refine h_iaload (pc := 192) d_R_constant_192 h fun t3 h => ?_
  refine x_iconst (pc := 193) d_R_constant_193 rfl ?_
  refine x_iadd (pc := 194) d_R_constant_194 ?_
  refine h_iastore G (pc := 195) d_R_constant_195 h fun M4 h => ?_
  refine x_aload_n (pc := 196) d_R_constant_196 rfl 0 rfl ?_
  refine h_getR G (pc := 197) (ci := 7) (j := 3) d_R_constant_197 rfl rfl rfl lf_R_16 h fun t5 h => ?_
  refine x_iload_n (pc := 200) d_R_constant_200 rfl 1 rfl ?_
  refine h_iaload (pc := 201) d_R_constant_201 h fun t6 h => ?_
  refine x_iconst (pc := 202) d_R_constant_202 rfl ?_
  refine x_isub (pc := 203) d_R_constant_203 ?_
  exact h_ireturn (pc := 204) d_R_constant_204 rfl h
theorem p_R_constant_126 (G : xG K) (v0 : Nat) (v1 : Int32) (v2 : Int32) (v3 : Int32) (v4 : Int32) (s0 : Nat) (s1 : Int32) (M : XM) (h : g_R_constant_126 v0 v1 v2 v3 v4 s0 s1 M = some (o, N)) : cA K y_R_constant 126 [(0, .ref v0), (1, .int v1), (2, .int v2), (3, .int v3), (4, .int v4)] [.int s1, .ref s0] M o N := by
  unfold g_R_constant_126 at h
  refine h_putI G (pc := 126) (ci := 7) (j := 0) d_R_constant_126 rfl rfl rfl lf_R_92 h fun M1 h => ?_
  refine x_aload_n (pc := 129) d_R_constant_129 rfl 0 rfl ?_
  refine h_getI G (pc := 130) (ci := 7) (j := 0) d_R_constant_130 rfl rfl rfl lf_R_92 h fun t2 h => ?_
  refine h_if_le (pc := 133) 138 d_R_constant_133 (by decide) h (fun _ h => ?_) (fun _ h => ?_)
  · refine x_iconst (pc := 138) d_R_constant_138 rfl ?_
    refine x_iload_n (pc := 139) d_R_constant_139 rfl 1 rfl ?_
    refine h_callI G (x_siteS G (pc := 140) (y2 := y_R_base) (As := [.int 0, .int v1]) (S := []) d_R_constant_140 lm_R_100 mi_R_base mw_R_base.2 mw_R_base.1 mx_R_base.1 mx_R_base.2 rfl) mw_R_base ⟨Nat.le_of_ble_eq_true rfl, Nat.le_of_ble_eq_true rfl⟩ rfl (fun _ _ e => p_R_base G _ _ _ e) h fun t4 M3 h => ?_
    refine x_aload_n (pc := 143) d_R_constant_143 rfl 0 rfl ?_
    refine h_getR G (pc := 144) (ci := 7) (j := 3) d_R_constant_144 rfl rfl rfl lf_R_16 h fun t5 h => ?_
    refine x_iload_n (pc := 147) d_R_constant_147 rfl 1 rfl ?_
    refine h_iaload (pc := 148) d_R_constant_148 h fun t6 h => ?_
    refine x_iadd (pc := 149) d_R_constant_149 ?_
    refine x_istore (pc := 150) (L' := [(0, .ref v0), (1, .int v1), (2, .int v2), (3, .int v3), (4, .int v4), (6, .int (t4 + t6))]) d_R_constant_150 (by decide) rfl ?_
    refine x_aload_n (pc := 152) d_R_constant_152 rfl 0 rfl ?_
    refine h_getR G (pc := 153) (ci := 7) (j := 4) d_R_constant_153 rfl rfl rfl lf_R_19 h fun t7 h => ?_
    refine x_iload (pc := 156) d_R_constant_156 5 rfl ?_
    refine x_iload_n (pc := 158) d_R_constant_158 rfl 2 rfl ?_
    refine h_iastore G (pc := 159) d_R_constant_159 h fun M8 h => ?_
    refine x_aload_n (pc := 160) d_R_constant_160 rfl 0 rfl ?_
    refine h_getR G (pc := 161) (ci := 7) (j := 5) d_R_constant_161 rfl rfl rfl lf_R_22 h fun t9 h => ?_
    refine x_iload (pc := 164) d_R_constant_164 5 rfl ?_
    refine x_iload_n (pc := 166) d_R_constant_166 rfl 3 rfl ?_
    refine h_iastore G (pc := 167) d_R_constant_167 h fun M10 h => ?_
    refine x_aload_n (pc := 168) d_R_constant_168 rfl 0 rfl ?_
    refine h_getR G (pc := 169) (ci := 7) (j := 6) d_R_constant_169 rfl rfl rfl lf_R_25 h fun t11 h => ?_
    refine x_iload (pc := 172) d_R_constant_172 5 rfl ?_
    refine x_iload_n (pc := 174) d_R_constant_174 rfl 2 rfl ?_
    refine x_iconst (pc := 175) d_R_constant_175 rfl ?_
    refine h_icmp_lt (pc := 176) 184 d_R_constant_176 (by decide) h (fun _ h => ?_) (fun _ h => ?_)
    · refine x_iconst (pc := 184) d_R_constant_184 rfl ?_
      refine x_weak [0, 1] rfl ?_
      exact p_R_constant_185 G _ _ _ _ _ _ h
    · refine x_iload (pc := 179) d_R_constant_179 4 rfl ?_
      refine x_goto (pc := 181) 185 d_R_constant_181 (by decide) ?_
      refine x_weak [0, 1] rfl ?_
      exact p_R_constant_185 G _ _ _ _ _ _ h
  · refine x_iconst (pc := 136) d_R_constant_136 rfl ?_
    exact h_ireturn (pc := 137) d_R_constant_137 rfl h
theorem p_R_constant_98 (G : xG K) (v0 : Nat) (v1 : Int32) (v2 : Int32) (v3 : Int32) (v4 : Int32) (s0 : Int32) (M : XM) (h : g_R_constant_98 v0 v1 v2 v3 v4 s0 M = some (o, N)) : cA K y_R_constant 98 [(0, .ref v0), (1, .int v1), (2, .int v2), (3, .int v3), (4, .int v4)] [.int s0] M o N := by
  unfold g_R_constant_98 at h
  refine x_istore (pc := 98) (L' := [(0, .ref v0), (1, .int v1), (2, .int v2), (3, .int v3), (4, .int v4), (5, .int s0)]) d_R_constant_98 (by decide) rfl ?_
  refine x_aload_n (pc := 100) d_R_constant_100 rfl 0 rfl ?_
  refine x_iload (pc := 101) d_R_constant_101 5 rfl ?_
  refine h_if_ne (pc := 103) 110 d_R_constant_103 (by decide) h (fun _ h => ?_) (fun _ h => ?_)
  · refine x_aload_n (pc := 110) d_R_constant_110 rfl 0 rfl ?_
    refine h_getR G (pc := 111) (ci := 7) (j := 3) d_R_constant_111 rfl rfl rfl lf_R_16 h fun t1 h => ?_
    refine x_iload_n (pc := 114) d_R_constant_114 rfl 1 rfl ?_
    refine h_iaload (pc := 115) d_R_constant_115 h fun t2 h => ?_
    refine x_bipush (pc := 116) (v := 20) d_R_constant_116 (by decide) ?_
    refine h_icmp_ne (pc := 118) 125 d_R_constant_118 (by decide) h (fun _ h => ?_) (fun _ h => ?_)
    · refine x_iconst (pc := 125) d_R_constant_125 rfl ?_
      refine x_weak [0, 1, 2, 3, 4] rfl ?_
      exact p_R_constant_126 G _ _ _ _ _ _ _ _ h
    · refine x_iconst (pc := 121) d_R_constant_121 rfl ?_
      refine x_goto (pc := 122) 126 d_R_constant_122 (by decide) ?_
      refine x_weak [0, 1, 2, 3, 4] rfl ?_
      exact p_R_constant_126 G _ _ _ _ _ _ _ _ h
  · refine x_iconst (pc := 106) d_R_constant_106 rfl ?_
    refine x_goto (pc := 107) 126 d_R_constant_107 (by decide) ?_
    refine x_weak [0, 1, 2, 3, 4] rfl ?_
    exact p_R_constant_126 G _ _ _ _ _ _ _ _ h
theorem p_R_constant_93 (G : xG K) (v0 : Nat) (v1 : Int32) (v2 : Int32) (v3 : Int32) (v4 : Int32) (M : XM) (h : g_R_constant_93 v0 v1 v2 v3 v4 M = some (o, N)) : cA K y_R_constant 93 [(0, .ref v0), (1, .int v1), (2, .int v2), (3, .int v3), (4, .int v4)] [] M o N := by
  unfold g_R_constant_93 at h
  refine x_iconst (pc := 93) d_R_constant_93 rfl ?_
  refine x_goto (pc := 94) 98 d_R_constant_94 (by decide) ?_
  refine x_weak [0, 1, 2, 3, 4] rfl ?_
  exact p_R_constant_98 G _ _ _ _ _ _ _ h
theorem p_R_constant_97 (G : xG K) (v0 : Nat) (v1 : Int32) (v2 : Int32) (v3 : Int32) (v4 : Int32) (M : XM) (h : g_R_constant_97 v0 v1 v2 v3 v4 M = some (o, N)) : cA K y_R_constant 97 [(0, .ref v0), (1, .int v1), (2, .int v2), (3, .int v3), (4, .int v4)] [] M o N := by
  unfold g_R_constant_97 at h
  refine x_iconst (pc := 97) d_R_constant_97 rfl ?_
  refine x_weak [0, 1, 2, 3, 4] rfl ?_
  exact p_R_constant_98 G _ _ _ _ _ _ _ h
theorem p_R_constant_70 (G : xG K) (v0 : Nat) (v1 : Int32) (v2 : Int32) (v3 : Int32) (v4 : Int32) (M : XM) (h : g_R_constant_70 v0 v1 v2 v3 v4 M = some (o, N)) : cA K y_R_constant 70 [(0, .ref v0), (1, .int v1), (2, .int v2), (3, .int v3), (4, .int v4)] [] M o N := by
  unfold g_R_constant_70 at h
  refine x_aload_n (pc := 70) d_R_constant_70 rfl 0 rfl ?_
  refine x_iconst (pc := 71) d_R_constant_71 rfl ?_
  refine x_iload_n (pc := 72) d_R_constant_72 rfl 1 rfl ?_
  refine x_iload_n (pc := 73) d_R_constant_73 rfl 3 rfl ?_
  refine x_iconst (pc := 74) d_R_constant_74 rfl ?_
  obtain ⟨⟨ra1, ra1t⟩, h⟩ := h_ok h
  refine h_callI G (x_siteV G (pc := 75) (y2 := y_R_has) (As := [.int 0, .int v1, .int v3, .int 2]) (S := []) (ci := 7) d_R_constant_75 rfl lm_R_107 mi_R_has ms_R_has mw_R_has.1 mx_R_has.1 mx_R_has.2 rfl ra1 ra1t) mw_R_has ⟨Nat.le_of_ble_eq_true rfl, Nat.le_of_ble_eq_true rfl⟩ rfl (fun _ _ e => p_R_has G _ _ _ _ _ _ e) h fun t3 M2 h => ?_
  refine h_if_eq (pc := 78) 97 d_R_constant_78 (by decide) h (fun _ h => ?_) (fun _ h => ?_)
  · refine x_weak [0, 1, 2, 3, 4] rfl ?_
    exact p_R_constant_97 G _ _ _ _ _ _ h
  · refine x_aload_n (pc := 81) d_R_constant_81 rfl 0 rfl ?_
    refine x_iconst (pc := 82) d_R_constant_82 rfl ?_
    refine x_iload_n (pc := 83) d_R_constant_83 rfl 1 rfl ?_
    refine x_iload (pc := 84) d_R_constant_84 4 rfl ?_
    refine x_iconst (pc := 86) d_R_constant_86 rfl ?_
    obtain ⟨⟨ra4, ra4t⟩, h⟩ := h_ok h
    refine h_callI G (x_siteV G (pc := 87) (y2 := y_R_has) (As := [.int 0, .int v1, .int v4, .int 1]) (S := []) (ci := 7) d_R_constant_87 rfl lm_R_107 mi_R_has ms_R_has mw_R_has.1 mx_R_has.1 mx_R_has.2 rfl ra4 ra4t) mw_R_has ⟨Nat.le_of_ble_eq_true rfl, Nat.le_of_ble_eq_true rfl⟩ rfl (fun _ _ e => p_R_has G _ _ _ _ _ _ e) h fun t6 M5 h => ?_
    refine h_if_eq (pc := 90) 97 d_R_constant_90 (by decide) h (fun _ h => ?_) (fun _ h => ?_)
    · refine x_weak [0, 1, 2, 3, 4] rfl ?_
      exact p_R_constant_97 G _ _ _ _ _ _ h
    · refine x_weak [0, 1, 2, 3, 4] rfl ?_
      exact p_R_constant_93 G _ _ _ _ _ _ h
theorem p_R_constant_60 (G : xG K) (v0 : Nat) (v1 : Int32) (v2 : Int32) (v3 : Int32) (v4 : Int32) (M : XM) (h : g_R_constant_60 v0 v1 v2 v3 v4 M = some (o, N)) : cA K y_R_constant 60 [(0, .ref v0), (1, .int v1), (2, .int v2), (3, .int v3), (4, .int v4)] [] M o N := by
  unfold g_R_constant_60 at h
  refine x_iload_n (pc := 60) d_R_constant_60 rfl 2 rfl ?_
  refine x_iconst (pc := 61) d_R_constant_61 rfl ?_
  refine h_icmp_eq (pc := 62) 70 d_R_constant_62 (by decide) h (fun _ h => ?_) (fun _ h => ?_)
  · refine x_weak [0, 1, 2, 3, 4] rfl ?_
    exact p_R_constant_70 G _ _ _ _ _ _ h
  · refine x_iload_n (pc := 65) d_R_constant_65 rfl 2 rfl ?_
    refine x_iconst (pc := 66) d_R_constant_66 rfl ?_
    refine h_icmp_ne (pc := 67) 97 d_R_constant_67 (by decide) h (fun _ h => ?_) (fun _ h => ?_)
    · refine x_weak [0, 1, 2, 3, 4] rfl ?_
      exact p_R_constant_97 G _ _ _ _ _ _ h
    · refine x_weak [0, 1, 2, 3, 4] rfl ?_
      exact p_R_constant_70 G _ _ _ _ _ _ h
theorem p_R_constant_46 (G : xG K) (v0 : Nat) (v1 : Int32) (v2 : Int32) (v3 : Int32) (v4 : Int32) (M : XM) (h : g_R_constant_46 v0 v1 v2 v3 v4 M = some (o, N)) : cA K y_R_constant 46 [(0, .ref v0), (1, .int v1), (2, .int v2), (3, .int v3), (4, .int v4)] [] M o N := by
  unfold g_R_constant_46 at h
  refine x_iload_n (pc := 46) d_R_constant_46 rfl 2 rfl ?_
  refine x_iconst (pc := 47) d_R_constant_47 rfl ?_
  refine h_icmp_ne (pc := 48) 60 d_R_constant_48 (by decide) h (fun _ h => ?_) (fun _ h => ?_)
  · refine x_weak [0, 1, 2, 3, 4] rfl ?_
    exact p_R_constant_60 G _ _ _ _ _ _ h
  · refine x_aload_n (pc := 51) d_R_constant_51 rfl 0 rfl ?_
    refine x_iconst (pc := 52) d_R_constant_52 rfl ?_
    refine x_iload_n (pc := 53) d_R_constant_53 rfl 3 rfl ?_
    obtain ⟨⟨ra1, ra1t⟩, h⟩ := h_ok h
    refine h_callI G (x_siteV G (pc := 54) (y2 := y_R_noClass) (As := [.int 0, .int v3]) (S := []) (ci := 7) d_R_constant_54 rfl lm_R_104 mi_R_noClass ms_R_noClass mw_R_noClass.1 mx_R_noClass.1 mx_R_noClass.2 rfl ra1 ra1t) mw_R_noClass ⟨Nat.le_of_ble_eq_true rfl, Nat.le_of_ble_eq_true rfl⟩ rfl (fun _ _ e => p_R_noClass G _ _ _ _ e) h fun t3 M2 h => ?_
    refine h_if_eq (pc := 57) 93 d_R_constant_57 (by decide) h (fun _ h => ?_) (fun _ h => ?_)
    · refine x_weak [0, 1, 2, 3, 4] rfl ?_
      exact p_R_constant_93 G _ _ _ _ _ _ h
    · refine x_weak [0, 1, 2, 3, 4] rfl ?_
      exact p_R_constant_60 G _ _ _ _ _ _ h
theorem p_R_constant_15 (G : xG K) (v0 : Nat) (v1 : Int32) (v2 : Int32) (v3 : Int32) (v4 : Int32) (s0 : Nat) (s1 : Int32) (M : XM) (h : g_R_constant_15 v0 v1 v2 v3 v4 s0 s1 M = some (o, N)) : cA K y_R_constant 15 [(0, .ref v0), (1, .int v1), (2, .int v2), (3, .int v3), (4, .int v4)] [.int s1, .ref s0] M o N := by
  unfold g_R_constant_15 at h
  refine h_putI G (pc := 15) (ci := 7) (j := 0) d_R_constant_15 rfl rfl rfl lf_R_92 h fun M1 h => ?_
  refine x_aload_n (pc := 18) d_R_constant_18 rfl 0 rfl ?_
  refine h_getI G (pc := 19) (ci := 7) (j := 0) d_R_constant_19 rfl rfl rfl lf_R_92 h fun t2 h => ?_
  refine h_if_le (pc := 22) 27 d_R_constant_22 (by decide) h (fun _ h => ?_) (fun _ h => ?_)
  · refine x_iload_n (pc := 27) d_R_constant_27 rfl 2 rfl ?_
    refine h_if_eq (pc := 28) 93 d_R_constant_28 (by decide) h (fun _ h => ?_) (fun _ h => ?_)
    · refine x_weak [0, 1, 2, 3, 4] rfl ?_
      exact p_R_constant_93 G _ _ _ _ _ _ h
    · refine x_iload_n (pc := 31) d_R_constant_31 rfl 2 rfl ?_
      refine x_iconst (pc := 32) d_R_constant_32 rfl ?_
      refine h_icmp_ne (pc := 33) 46 d_R_constant_33 (by decide) h (fun _ h => ?_) (fun _ h => ?_)
      · refine x_weak [0, 1, 2, 3, 4] rfl ?_
        exact p_R_constant_46 G _ _ _ _ _ _ h
      · refine x_iload_n (pc := 36) d_R_constant_36 rfl 3 rfl ?_
        refine h_if_lt (pc := 37) 46 d_R_constant_37 (by decide) h (fun _ h => ?_) (fun _ h => ?_)
        · refine x_weak [0, 1, 2, 3, 4] rfl ?_
          exact p_R_constant_46 G _ _ _ _ _ _ h
        · refine x_iload_n (pc := 40) d_R_constant_40 rfl 3 rfl ?_
          refine x_bipush (pc := 41) (v := 99) d_R_constant_41 (by decide) ?_
          refine h_icmp_le (pc := 43) 93 d_R_constant_43 (by decide) h (fun _ h => ?_) (fun _ h => ?_)
          · refine x_weak [0, 1, 2, 3, 4] rfl ?_
            exact p_R_constant_93 G _ _ _ _ _ _ h
          · refine x_weak [0, 1, 2, 3, 4] rfl ?_
            exact p_R_constant_46 G _ _ _ _ _ _ h
  · refine x_iconst (pc := 25) d_R_constant_25 rfl ?_
    exact h_ireturn (pc := 26) d_R_constant_26 rfl h
theorem p_R_constant (G : xG K) (v0 : Nat) (v1 : Int32) (v2 : Int32) (v3 : Int32) (v4 : Int32) (M : XM) (h : g_R_constant v0 v1 v2 v3 v4 M = some (o, N)) : Ct K y_R_constant [.ref v0, .int v1, .int v2, .int v3, .int v4] M o N := by
  refine ct_of (by decide) (List.forall_mem_cons.mpr ⟨rfl, List.forall_mem_cons.mpr ⟨rfl, List.forall_mem_cons.mpr ⟨rfl, List.forall_mem_cons.mpr ⟨rfl, List.forall_mem_cons.mpr ⟨rfl, fun _ q => absurd q List.not_mem_nil⟩⟩⟩⟩⟩) (Nat.le_of_ble_eq_true rfl) ?_
  show cA K y_R_constant 0 [(0, .ref v0), (1, .int v1), (2, .int v2), (3, .int v3), (4, .int v4)] [] M o N
  unfold g_R_constant at h
  refine x_aload_n (pc := 0) d_R_constant_0 rfl 0 rfl ?_
  refine x_aload_n (pc := 1) d_R_constant_1 rfl 0 rfl ?_
  refine x_iconst (pc := 2) d_R_constant_2 rfl ?_
  refine x_iload_n (pc := 3) d_R_constant_3 rfl 1 rfl ?_
  obtain ⟨⟨ra1, ra1t⟩, h⟩ := h_ok h
  refine h_callI G (x_siteV G (pc := 4) (y2 := y_R_noClass) (As := [.int 0, .int v1]) (S := [.ref v0]) (ci := 7) d_R_constant_4 rfl lm_R_104 mi_R_noClass ms_R_noClass mw_R_noClass.1 mx_R_noClass.1 mx_R_noClass.2 rfl ra1 ra1t) mw_R_noClass ⟨Nat.le_of_ble_eq_true rfl, Nat.le_of_ble_eq_true rfl⟩ rfl (fun _ _ e => p_R_noClass G _ _ _ _ e) h fun t3 M2 h => ?_
  refine h_if_eq (pc := 7) 14 d_R_constant_7 (by decide) h (fun _ h => ?_) (fun _ h => ?_)
  · refine x_iconst (pc := 14) d_R_constant_14 rfl ?_
    refine x_weak [0, 1, 2, 3, 4] rfl ?_
    exact p_R_constant_15 G _ _ _ _ _ _ _ _ h
  · refine x_iconst (pc := 10) d_R_constant_10 rfl ?_
    refine x_goto (pc := 11) 15 d_R_constant_11 (by decide) ?_
    refine x_weak [0, 1, 2, 3, 4] rfl ?_
    exact p_R_constant_15 G _ _ _ _ _ _ _ _ h
theorem p_R_nameOf (G : xG K) (v0 : Nat) (v1 : Int32) (v2 : Int32) (M : XM) (h : g_R_nameOf v0 v1 v2 M = some (o, N)) : Ct K y_R_nameOf [.ref v0, .int v1, .int v2] M o N := by
  refine ct_of (by decide) (List.forall_mem_cons.mpr ⟨rfl, List.forall_mem_cons.mpr ⟨rfl, List.forall_mem_cons.mpr ⟨rfl, fun _ q => absurd q List.not_mem_nil⟩⟩⟩) (Nat.le_of_ble_eq_true rfl) ?_
  show cA K y_R_nameOf 0 [(0, .ref v0), (1, .int v1), (2, .int v2)] [] M o N
  unfold g_R_nameOf at h
  refine x_aload_n (pc := 0) d_R_nameOf_0 rfl 0 rfl ?_
  refine h_getR G (pc := 1) (ci := 7) (j := 5) d_R_nameOf_1 rfl rfl rfl lf_R_22 h fun t1 h => ?_
  refine x_iload_n (pc := 4) d_R_nameOf_4 rfl 1 rfl ?_
  refine x_aload_n (pc := 5) d_R_nameOf_5 rfl 0 rfl ?_
  refine h_getR G (pc := 6) (ci := 7) (j := 7) d_R_nameOf_6 rfl rfl rfl lf_R_28 h fun t2 h => ?_
  refine x_bipush (pc := 9) (v := 30) d_R_nameOf_9 (by decide) ?_
  refine x_iload_n (pc := 11) d_R_nameOf_11 rfl 1 rfl ?_
  refine x_imul (pc := 12) d_R_nameOf_12 ?_
  refine x_iload_n (pc := 13) d_R_nameOf_13 rfl 2 rfl ?_
  refine x_iadd (pc := 14) d_R_nameOf_14 ?_
  refine h_iaload (pc := 15) d_R_nameOf_15 h fun t3 h => ?_
  refine h_callI G (x_siteS G (pc := 16) (y2 := y_R_base) (As := [.int v1, .int t3]) (S := [.ref t1]) d_R_nameOf_16 lm_R_100 mi_R_base mw_R_base.2 mw_R_base.1 mx_R_base.1 mx_R_base.2 rfl) mw_R_base ⟨Nat.le_of_ble_eq_true rfl, Nat.le_of_ble_eq_true rfl⟩ rfl (fun _ _ e => p_R_base G _ _ _ e) h fun t5 M4 h => ?_
  refine x_aload_n (pc := 19) d_R_nameOf_19 rfl 0 rfl ?_
  refine h_getR G (pc := 20) (ci := 7) (j := 8) d_R_nameOf_20 rfl rfl rfl lf_R_31 h fun t6 h => ?_
  refine x_bipush (pc := 23) (v := 30) d_R_nameOf_23 (by decide) ?_
  refine x_iload_n (pc := 25) d_R_nameOf_25 rfl 1 rfl ?_
  refine x_imul (pc := 26) d_R_nameOf_26 ?_
  refine x_iload_n (pc := 27) d_R_nameOf_27 rfl 2 rfl ?_
  refine x_iadd (pc := 28) d_R_nameOf_28 ?_
  refine h_iaload (pc := 29) d_R_nameOf_29 h fun t7 h => ?_
  refine x_iadd (pc := 30) d_R_nameOf_30 ?_
  refine h_iaload (pc := 31) d_R_nameOf_31 h fun t8 h => ?_
  exact h_ireturn (pc := 32) d_R_nameOf_32 rfl h
theorem p_R_find_50 (G : xG K) {r3 : Nat → Int32 → Int32 → Int32 → Int32 → Int32 → XM → XP} (hr3 : ∀ w0 w1 w2 w3 w4 w5 Q, r3 w0 w1 w2 w3 w4 w5 Q = some (o, N) → cA K y_R_find 3 [(0, .ref w0), (1, .int w1), (2, .int w2), (3, .int w3), (4, .int w4), (5, .int w5)] [] Q o N) (v0 : Nat) (v1 : Int32) (v2 : Int32) (v3 : Int32) (v4 : Int32) (v5 : Int32) (s0 : Int32) (M : XM) (h : g_R_find_50 r3 v0 v1 v2 v3 v4 v5 s0 M = some (o, N)) : cA K y_R_find 50 [(0, .ref v0), (1, .int v1), (2, .int v2), (3, .int v3), (4, .int v4), (5, .int v5)] [.int s0] M o N := by
  unfold g_R_find_50 at h
  refine x_iload_n (pc := 50) d_R_find_50 rfl 3 rfl ?_
  refine h_icmp_ne (pc := 51) 69 d_R_find_51 (by decide) h (fun _ h => ?_) (fun _ h => ?_)
  · refine x_iinc (pc := 69) (n := 5) (L' := [(0, .ref v0), (1, .int v1), (2, .int v2), (3, .int v3), (4, .int v4), (5, .int (v5 + 1))]) d_R_find_69 (by decide) rfl rfl ?_
    refine x_goto (pc := 72) 3 d_R_find_72 (by decide) ?_
    refine x_weak [0, 1, 2, 3, 4, 5] rfl ?_
    exact hr3 _ _ _ _ _ _ _ h
  · refine x_aload_n (pc := 54) d_R_find_54 rfl 0 rfl ?_
    refine x_iload_n (pc := 55) d_R_find_55 rfl 1 rfl ?_
    refine x_iload (pc := 56) d_R_find_56 5 rfl ?_
    obtain ⟨⟨ra1, ra1t⟩, h⟩ := h_ok h
    refine h_callI G (x_siteV G (pc := 58) (y2 := y_R_nameOf) (As := [.int v1, .int v5]) (S := []) (ci := 7) d_R_find_58 rfl lm_R_111 mi_R_nameOf ms_R_nameOf mw_R_nameOf.1 mx_R_nameOf.1 mx_R_nameOf.2 rfl ra1 ra1t) mw_R_nameOf ⟨Nat.le_of_ble_eq_true rfl, Nat.le_of_ble_eq_true rfl⟩ rfl (fun _ _ e => p_R_nameOf G _ _ _ _ e) h fun t3 M2 h => ?_
    refine x_iload (pc := 61) d_R_find_61 4 rfl ?_
    refine h_icmp_ne (pc := 63) 69 d_R_find_63 (by decide) h (fun _ h => ?_) (fun _ h => ?_)
    · refine x_iinc (pc := 69) (n := 5) (L' := [(0, .ref v0), (1, .int v1), (2, .int v2), (3, .int v3), (4, .int v4), (5, .int (v5 + 1))]) d_R_find_69 (by decide) rfl rfl ?_
      refine x_goto (pc := 72) 3 d_R_find_72 (by decide) ?_
      refine x_weak [0, 1, 2, 3, 4, 5] rfl ?_
      exact hr3 _ _ _ _ _ _ _ h
    · refine x_iload (pc := 66) d_R_find_66 5 rfl ?_
      exact h_ireturn (pc := 68) d_R_find_68 rfl h
theorem p_R_find_3 (G : xG K) : ∀ (n : Nat) (v0 : Nat) (v1 : Int32) (v2 : Int32) (v3 : Int32) (v4 : Int32) (v5 : Int32) (M : XM), g_R_find_3 n v0 v1 v2 v3 v4 v5 M = some (o, N) → cA K y_R_find 3 [(0, .ref v0), (1, .int v1), (2, .int v2), (3, .int v3), (4, .int v4), (5, .int v5)] [] M o N := by
  intro n
  induction n with
  | zero =>
    intro v0 v1 v2 v3 v4 v5 M h
    rw [g_R_find_3] at h
    cases h
  | succ n ih =>
    intro v0 v1 v2 v3 v4 v5 M h
    rw [g_R_find_3] at h
    refine x_iload (pc := 3) d_R_find_3 5 rfl ?_
    refine x_aload_n (pc := 5) d_R_find_5 rfl 0 rfl ?_
    refine h_getR G (pc := 6) (ci := 7) (j := 2) d_R_find_6 rfl rfl rfl lf_R_13 h fun t1 h => ?_
    refine x_iload_n (pc := 9) d_R_find_9 rfl 1 rfl ?_
    refine h_iaload (pc := 10) d_R_find_10 h fun t2 h => ?_
    refine h_icmp_ge (pc := 11) 75 d_R_find_11 (by decide) h (fun _ h => ?_) (fun _ h => ?_)
    · refine x_iconst (pc := 75) d_R_find_75 rfl ?_
      exact h_ireturn (pc := 76) d_R_find_76 rfl h
    · refine x_aload_n (pc := 14) d_R_find_14 rfl 0 rfl ?_
      refine h_getR G (pc := 15) (ci := 7) (j := 7) d_R_find_15 rfl rfl rfl lf_R_28 h fun t3 h => ?_
      refine x_bipush (pc := 18) (v := 30) d_R_find_18 (by decide) ?_
      refine x_iload_n (pc := 20) d_R_find_20 rfl 1 rfl ?_
      refine x_imul (pc := 21) d_R_find_21 ?_
      refine x_iload (pc := 22) d_R_find_22 5 rfl ?_
      refine x_iadd (pc := 24) d_R_find_24 ?_
      refine h_iaload (pc := 25) d_R_find_25 h fun t4 h => ?_
      refine x_iload_n (pc := 26) d_R_find_26 rfl 2 rfl ?_
      refine h_icmp_ne (pc := 27) 69 d_R_find_27 (by decide) h (fun _ h => ?_) (fun _ h => ?_)
      · refine x_iinc (pc := 69) (n := 5) (L' := [(0, .ref v0), (1, .int v1), (2, .int v2), (3, .int v3), (4, .int v4), (5, .int (v5 + 1))]) d_R_find_69 (by decide) rfl rfl ?_
        refine x_goto (pc := 72) 3 d_R_find_72 (by decide) ?_
        refine x_weak [0, 1, 2, 3, 4, 5] rfl ?_
        exact ih _ _ _ _ _ _ _ h
      · refine x_aload_n (pc := 30) d_R_find_30 rfl 0 rfl ?_
        refine h_getR G (pc := 31) (ci := 7) (j := 9) d_R_find_31 rfl rfl rfl lf_R_34 h fun t5 h => ?_
        refine x_bipush (pc := 34) (v := 30) d_R_find_34 (by decide) ?_
        refine x_iload_n (pc := 36) d_R_find_36 rfl 1 rfl ?_
        refine x_imul (pc := 37) d_R_find_37 ?_
        refine x_iload (pc := 38) d_R_find_38 5 rfl ?_
        refine x_iadd (pc := 40) d_R_find_40 ?_
        refine h_iaload (pc := 41) d_R_find_41 h fun t6 h => ?_
        refine h_if_ge (pc := 42) 49 d_R_find_42 (by decide) h (fun _ h => ?_) (fun _ h => ?_)
        · refine x_iconst (pc := 49) d_R_find_49 rfl ?_
          refine x_weak [0, 1, 2, 3, 4, 5] rfl ?_
          exact p_R_find_50 G ih _ _ _ _ _ _ _ _ h
        · refine x_iconst (pc := 45) d_R_find_45 rfl ?_
          refine x_goto (pc := 46) 50 d_R_find_46 (by decide) ?_
          refine x_weak [0, 1, 2, 3, 4, 5] rfl ?_
          exact p_R_find_50 G ih _ _ _ _ _ _ _ _ h
theorem p_R_find (G : xG K) (v0 : Nat) (v1 : Int32) (v2 : Int32) (v3 : Int32) (v4 : Int32) (M : XM) (h : g_R_find v0 v1 v2 v3 v4 M = some (o, N)) : Ct K y_R_find [.ref v0, .int v1, .int v2, .int v3, .int v4] M o N := by
  refine ct_of (by decide) (List.forall_mem_cons.mpr ⟨rfl, List.forall_mem_cons.mpr ⟨rfl, List.forall_mem_cons.mpr ⟨rfl, List.forall_mem_cons.mpr ⟨rfl, List.forall_mem_cons.mpr ⟨rfl, fun _ q => absurd q List.not_mem_nil⟩⟩⟩⟩⟩) (Nat.le_of_ble_eq_true rfl) ?_
  show cA K y_R_find 0 [(0, .ref v0), (1, .int v1), (2, .int v2), (3, .int v3), (4, .int v4)] [] M o N
  unfold g_R_find at h
  refine x_iconst (pc := 0) d_R_find_0 rfl ?_
  refine x_istore (pc := 1) (L' := [(0, .ref v0), (1, .int v1), (2, .int v2), (3, .int v3), (4, .int v4), (5, .int 0)]) d_R_find_1 (by decide) rfl ?_
  refine x_weak [0, 1, 2, 3, 4, 5] rfl ?_
  exact p_R_find_3 G FU _ _ _ _ _ _ _ h
theorem p_R_member_102 (G : xG K) (v0 : Nat) (v1 : Int32) (v2 : Int32) (v3 : Int32) (s0 : Nat) (s1 : Int32) (M : XM) (h : g_R_member_102 v0 v1 v2 v3 s0 s1 M = some (o, N)) : cA K y_R_member 102 [(0, .ref v0), (1, .int v1), (2, .int v2), (3, .int v3)] [.int s1, .ref s0] M o N := by
  unfold g_R_member_102 at h
  refine h_putI G (pc := 102) (ci := 7) (j := 0) d_R_member_102 rfl rfl rfl lf_R_92 h fun M1 h => ?_
  refine x_aload_n (pc := 105) d_R_member_105 rfl 0 rfl ?_
  refine h_getI G (pc := 106) (ci := 7) (j := 0) d_R_member_106 rfl rfl rfl lf_R_92 h fun t2 h => ?_
  refine h_if_le (pc := 109) 114 d_R_member_109 (by decide) h (fun _ h => ?_) (fun _ h => ?_)
  · refine x_aload_n (pc := 114) d_R_member_114 rfl 0 rfl ?_
    refine h_getR G (pc := 115) (ci := 7) (j := 2) d_R_member_115 rfl rfl rfl lf_R_13 h fun t3 h => ?_
    refine x_iconst (pc := 118) d_R_member_118 rfl ?_
    refine h_iaload (pc := 119) d_R_member_119 h fun t4 h => ?_
    refine x_istore (pc := 120) (L' := [(0, .ref v0), (1, .int v1), (2, .int v2), (3, .int v3), (4, .int t4)]) d_R_member_120 (by decide) rfl ?_
    refine x_aload_n (pc := 122) d_R_member_122 rfl 0 rfl ?_
    refine h_getR G (pc := 123) (ci := 7) (j := 7) d_R_member_123 rfl rfl rfl lf_R_28 h fun t5 h => ?_
    refine x_iload (pc := 126) d_R_member_126 4 rfl ?_
    refine x_iload_n (pc := 128) d_R_member_128 rfl 1 rfl ?_
    refine h_iastore G (pc := 129) d_R_member_129 h fun M6 h => ?_
    refine x_aload_n (pc := 130) d_R_member_130 rfl 0 rfl ?_
    refine h_getR G (pc := 131) (ci := 7) (j := 8) d_R_member_131 rfl rfl rfl lf_R_31 h fun t7 h => ?_
    refine x_iload (pc := 134) d_R_member_134 4 rfl ?_
    refine x_iload_n (pc := 136) d_R_member_136 rfl 2 rfl ?_
    refine h_iastore G (pc := 137) d_R_member_137 h fun M8 h => ?_
    refine x_aload_n (pc := 138) d_R_member_138 rfl 0 rfl ?_
    refine h_getR G (pc := 139) (ci := 7) (j := 9) d_R_member_139 rfl rfl rfl lf_R_34 h fun t9 h => ?_
    refine x_iload (pc := 142) d_R_member_142 4 rfl ?_
    refine x_iload_n (pc := 144) d_R_member_144 rfl 3 rfl ?_
    refine h_iastore G (pc := 145) d_R_member_145 h fun M10 h => ?_
    refine x_aload_n (pc := 146) d_R_member_146 rfl 0 rfl ?_
    refine h_getR G (pc := 147) (ci := 7) (j := 10) d_R_member_147 rfl rfl rfl lf_R_37 h fun t11 h => ?_
    refine x_iload (pc := 150) d_R_member_150 4 rfl ?_
    refine x_iconst (pc := 152) d_R_member_152 rfl ?_
    refine h_iastore G (pc := 153) d_R_member_153 h fun M12 h => ?_
    refine x_aload_n (pc := 154) d_R_member_154 rfl 0 rfl ?_
    refine h_getR G (pc := 155) (ci := 7) (j := 11) d_R_member_155 rfl rfl rfl lf_R_40 h fun t13 h => ?_
    refine x_iload (pc := 158) d_R_member_158 4 rfl ?_
    refine x_iconst (pc := 160) d_R_member_160 rfl ?_
    refine h_bastore G (pc := 161) d_R_member_161 h fun M14 h => ?_
    refine x_aload_n (pc := 162) d_R_member_162 rfl 0 rfl ?_
    refine h_getR G (pc := 163) (ci := 7) (j := 2) d_R_member_163 rfl rfl rfl lf_R_13 h fun t15 h => ?_
    refine x_iconst (pc := 166) d_R_member_166 rfl ?_
    refine x_dup2 (pc := 167) d_R_member_167 rfl rfl ?_
    refine h_iaload (pc := 168) d_R_member_168 h fun t16 h => ?_
    refine x_iconst (pc := 169) d_R_member_169 rfl ?_
    refine x_iadd (pc := 170) d_R_member_170 ?_
    refine h_iastore G (pc := 171) d_R_member_171 h fun M17 h => ?_
    refine x_iload (pc := 172) d_R_member_172 4 rfl ?_
    exact h_ireturn (pc := 174) d_R_member_174 rfl h
  · refine x_iconst (pc := 112) d_R_member_112 rfl ?_
    exact h_ireturn (pc := 113) d_R_member_113 rfl h
theorem p_R_member_60 (G : xG K) (v0 : Nat) (v1 : Int32) (v2 : Int32) (v3 : Int32) (s0 : Nat) (s1 : Int32) (s2 : Int32) (s3 : Int32) (M : XM) (h : g_R_member_60 v0 v1 v2 v3 s0 s1 s2 s3 M = some (o, N)) : cA K y_R_member 60 [(0, .ref v0), (1, .int v1), (2, .int v2), (3, .int v3)] [.int s3, .int s2, .int s1, .ref s0] M o N := by
  unfold g_R_member_60 at h
  refine x_aload_n (pc := 60) d_R_member_60 rfl 0 rfl ?_
  refine h_getR G (pc := 61) (ci := 7) (j := 5) d_R_member_61 rfl rfl rfl lf_R_22 h fun t1 h => ?_
  refine x_iconst (pc := 64) d_R_member_64 rfl ?_
  refine x_iload_n (pc := 65) d_R_member_65 rfl 1 rfl ?_
  refine h_callI G (x_siteS G (pc := 66) (y2 := y_R_base) (As := [.int 0, .int v1]) (S := [.ref t1, .int s3, .int s2, .int s1, .ref s0]) d_R_member_66 lm_R_100 mi_R_base mw_R_base.2 mw_R_base.1 mx_R_base.1 mx_R_base.2 rfl) mw_R_base ⟨Nat.le_of_ble_eq_true rfl, Nat.le_of_ble_eq_true rfl⟩ rfl (fun _ _ e => p_R_base G _ _ _ e) h fun t3 M2 h => ?_
  refine x_iload_n (pc := 69) d_R_member_69 rfl 2 rfl ?_
  refine x_iadd (pc := 70) d_R_member_70 ?_
  refine h_iaload (pc := 71) d_R_member_71 h fun t4 h => ?_
  obtain ⟨⟨ra5, ra5t⟩, h⟩ := h_ok h
  refine h_callI G (x_siteV G (pc := 72) (y2 := y_R_find) (As := [.int s1, .int s2, .int s3, .int t4]) (S := []) (ci := 7) d_R_member_72 rfl lm_R_114 mi_R_find ms_R_find mw_R_find.1 mx_R_find.1 mx_R_find.2 rfl ra5 ra5t) mw_R_find ⟨Nat.le_of_ble_eq_true rfl, Nat.le_of_ble_eq_true rfl⟩ rfl (fun _ _ e => p_R_find G _ _ _ _ _ _ e) h fun t7 M6 h => ?_
  refine h_if_lt (pc := 75) 85 d_R_member_75 (by decide) h (fun _ h => ?_) (fun _ h => ?_)
  · refine x_aload_n (pc := 85) d_R_member_85 rfl 0 rfl ?_
    refine x_aload_n (pc := 86) d_R_member_86 rfl 0 rfl ?_
    refine h_getR G (pc := 87) (ci := 7) (j := 2) d_R_member_87 rfl rfl rfl lf_R_13 h fun t8 h => ?_
    refine x_iconst (pc := 90) d_R_member_90 rfl ?_
    refine h_iaload (pc := 91) d_R_member_91 h fun t9 h => ?_
    refine x_bipush (pc := 92) (v := 30) d_R_member_92 (by decide) ?_
    refine h_icmp_ne (pc := 94) 101 d_R_member_94 (by decide) h (fun _ h => ?_) (fun _ h => ?_)
    · refine x_iconst (pc := 101) d_R_member_101 rfl ?_
      refine x_weak [0, 1, 2, 3] rfl ?_
      exact p_R_member_102 G _ _ _ _ _ _ _ h
    · refine x_iconst (pc := 97) d_R_member_97 rfl ?_
      refine x_goto (pc := 98) 102 d_R_member_98 (by decide) ?_
      refine x_weak [0, 1, 2, 3] rfl ?_
      exact p_R_member_102 G _ _ _ _ _ _ _ h
  · refine x_aload_n (pc := 78) d_R_member_78 rfl 0 rfl ?_
    refine x_iconst (pc := 79) d_R_member_79 rfl ?_
    refine h_putI G (pc := 80) (ci := 7) (j := 0) d_R_member_80 rfl rfl rfl lf_R_92 h fun M10 h => ?_
    refine x_iconst (pc := 83) d_R_member_83 rfl ?_
    exact h_ireturn (pc := 84) d_R_member_84 rfl h
theorem p_R_member_15 (G : xG K) (v0 : Nat) (v1 : Int32) (v2 : Int32) (v3 : Int32) (s0 : Nat) (s1 : Int32) (M : XM) (h : g_R_member_15 v0 v1 v2 v3 s0 s1 M = some (o, N)) : cA K y_R_member 15 [(0, .ref v0), (1, .int v1), (2, .int v2), (3, .int v3)] [.int s1, .ref s0] M o N := by
  unfold g_R_member_15 at h
  refine h_putI G (pc := 15) (ci := 7) (j := 0) d_R_member_15 rfl rfl rfl lf_R_92 h fun M1 h => ?_
  refine x_aload_n (pc := 18) d_R_member_18 rfl 0 rfl ?_
  refine h_getI G (pc := 19) (ci := 7) (j := 0) d_R_member_19 rfl rfl rfl lf_R_92 h fun t2 h => ?_
  refine h_if_le (pc := 22) 27 d_R_member_22 (by decide) h (fun _ h => ?_) (fun _ h => ?_)
  · refine x_aload_n (pc := 27) d_R_member_27 rfl 0 rfl ?_
    refine x_iconst (pc := 28) d_R_member_28 rfl ?_
    refine x_iload_n (pc := 29) d_R_member_29 rfl 1 rfl ?_
    refine x_iload_n (pc := 30) d_R_member_30 rfl 2 rfl ?_
    refine x_iconst (pc := 31) d_R_member_31 rfl ?_
    obtain ⟨⟨ra3, ra3t⟩, h⟩ := h_ok h
    refine h_callI G (x_siteV G (pc := 32) (y2 := y_R_has) (As := [.int 0, .int v1, .int v2, .int 1]) (S := []) (ci := 7) d_R_member_32 rfl lm_R_107 mi_R_has ms_R_has mw_R_has.1 mx_R_has.1 mx_R_has.2 rfl ra3 ra3t) mw_R_has ⟨Nat.le_of_ble_eq_true rfl, Nat.le_of_ble_eq_true rfl⟩ rfl (fun _ _ e => p_R_has G _ _ _ _ _ _ e) h fun t5 M4 h => ?_
    refine h_if_eq (pc := 35) 78 d_R_member_35 (by decide) h (fun _ h => ?_) (fun _ h => ?_)
    · refine x_aload_n (pc := 78) d_R_member_78 rfl 0 rfl ?_
      refine x_iconst (pc := 79) d_R_member_79 rfl ?_
      refine h_putI G (pc := 80) (ci := 7) (j := 0) d_R_member_80 rfl rfl rfl lf_R_92 h fun M6 h => ?_
      refine x_iconst (pc := 83) d_R_member_83 rfl ?_
      exact h_ireturn (pc := 84) d_R_member_84 rfl h
    · refine x_iload_n (pc := 38) d_R_member_38 rfl 3 rfl ?_
      refine x_iconst (pc := 39) d_R_member_39 rfl ?_
      refine h_icmp_lt (pc := 40) 78 d_R_member_40 (by decide) h (fun _ h => ?_) (fun _ h => ?_)
      · refine x_aload_n (pc := 78) d_R_member_78 rfl 0 rfl ?_
        refine x_iconst (pc := 79) d_R_member_79 rfl ?_
        refine h_putI G (pc := 80) (ci := 7) (j := 0) d_R_member_80 rfl rfl rfl lf_R_92 h fun M7 h => ?_
        refine x_iconst (pc := 83) d_R_member_83 rfl ?_
        exact h_ireturn (pc := 84) d_R_member_84 rfl h
      · refine x_iload_n (pc := 43) d_R_member_43 rfl 3 rfl ?_
        refine x_iconst (pc := 44) d_R_member_44 rfl ?_
        refine h_icmp_gt (pc := 45) 78 d_R_member_45 (by decide) h (fun _ h => ?_) (fun _ h => ?_)
        · refine x_aload_n (pc := 78) d_R_member_78 rfl 0 rfl ?_
          refine x_iconst (pc := 79) d_R_member_79 rfl ?_
          refine h_putI G (pc := 80) (ci := 7) (j := 0) d_R_member_80 rfl rfl rfl lf_R_92 h fun M8 h => ?_
          refine x_iconst (pc := 83) d_R_member_83 rfl ?_
          exact h_ireturn (pc := 84) d_R_member_84 rfl h
        · refine x_aload_n (pc := 48) d_R_member_48 rfl 0 rfl ?_
          refine x_iconst (pc := 49) d_R_member_49 rfl ?_
          refine x_iload_n (pc := 50) d_R_member_50 rfl 1 rfl ?_
          refine x_iload_n (pc := 51) d_R_member_51 rfl 3 rfl ?_
          refine h_if_ge (pc := 52) 59 d_R_member_52 (by decide) h (fun _ h => ?_) (fun _ h => ?_)
          · refine x_iconst (pc := 59) d_R_member_59 rfl ?_
            refine x_weak [0, 1, 2, 3] rfl ?_
            exact p_R_member_60 G _ _ _ _ _ _ _ _ _ h
          · refine x_iconst (pc := 55) d_R_member_55 rfl ?_
            refine x_goto (pc := 56) 60 d_R_member_56 (by decide) ?_
            refine x_weak [0, 1, 2, 3] rfl ?_
            exact p_R_member_60 G _ _ _ _ _ _ _ _ _ h
  · refine x_iconst (pc := 25) d_R_member_25 rfl ?_
    exact h_ireturn (pc := 26) d_R_member_26 rfl h
theorem p_R_member (G : xG K) (v0 : Nat) (v1 : Int32) (v2 : Int32) (v3 : Int32) (M : XM) (h : g_R_member v0 v1 v2 v3 M = some (o, N)) : Ct K y_R_member [.ref v0, .int v1, .int v2, .int v3] M o N := by
  refine ct_of (by decide) (List.forall_mem_cons.mpr ⟨rfl, List.forall_mem_cons.mpr ⟨rfl, List.forall_mem_cons.mpr ⟨rfl, List.forall_mem_cons.mpr ⟨rfl, fun _ q => absurd q List.not_mem_nil⟩⟩⟩⟩) (Nat.le_of_ble_eq_true rfl) ?_
  show cA K y_R_member 0 [(0, .ref v0), (1, .int v1), (2, .int v2), (3, .int v3)] [] M o N
  unfold g_R_member at h
  refine x_aload_n (pc := 0) d_R_member_0 rfl 0 rfl ?_
  refine x_aload_n (pc := 1) d_R_member_1 rfl 0 rfl ?_
  refine x_iconst (pc := 2) d_R_member_2 rfl ?_
  refine x_iload_n (pc := 3) d_R_member_3 rfl 1 rfl ?_
  obtain ⟨⟨ra1, ra1t⟩, h⟩ := h_ok h
  refine h_callI G (x_siteV G (pc := 4) (y2 := y_R_noClass) (As := [.int 0, .int v1]) (S := [.ref v0]) (ci := 7) d_R_member_4 rfl lm_R_104 mi_R_noClass ms_R_noClass mw_R_noClass.1 mx_R_noClass.1 mx_R_noClass.2 rfl ra1 ra1t) mw_R_noClass ⟨Nat.le_of_ble_eq_true rfl, Nat.le_of_ble_eq_true rfl⟩ rfl (fun _ _ e => p_R_noClass G _ _ _ _ e) h fun t3 M2 h => ?_
  refine h_if_eq (pc := 7) 14 d_R_member_7 (by decide) h (fun _ h => ?_) (fun _ h => ?_)
  · refine x_iconst (pc := 14) d_R_member_14 rfl ?_
    refine x_weak [0, 1, 2, 3] rfl ?_
    exact p_R_member_15 G _ _ _ _ _ _ _ h
  · refine x_iconst (pc := 10) d_R_member_10 rfl ?_
    refine x_goto (pc := 11) 15 d_R_member_11 (by decide) ?_
    refine x_weak [0, 1, 2, 3] rfl ?_
    exact p_R_member_15 G _ _ _ _ _ _ _ h
theorem p_R_noMember (G : xG K) (v0 : Nat) (v1 : Int32) (v2 : Int32) (M : XM) (h : g_R_noMember v0 v1 v2 M = some (o, N)) : Ct K y_R_noMember [.ref v0, .int v1, .int v2] M o N := by
  refine ct_of (by decide) (List.forall_mem_cons.mpr ⟨rfl, List.forall_mem_cons.mpr ⟨rfl, List.forall_mem_cons.mpr ⟨rfl, fun _ q => absurd q List.not_mem_nil⟩⟩⟩) (Nat.le_of_ble_eq_true rfl) ?_
  show cA K y_R_noMember 0 [(0, .ref v0), (1, .int v1), (2, .int v2)] [] M o N
  unfold g_R_noMember at h
  refine x_iload_n (pc := 0) d_R_noMember_0 rfl 2 rfl ?_
  refine h_if_lt (pc := 1) 14 d_R_noMember_1 (by decide) h (fun _ h => ?_) (fun _ h => ?_)
  · refine x_iconst (pc := 14) d_R_noMember_14 rfl ?_
    refine x_goto (pc := 15) 19 d_R_noMember_15 (by decide) ?_
    exact h_zreturn (pc := 19) d_R_noMember_19 rfl h
  · refine x_iload_n (pc := 4) d_R_noMember_4 rfl 2 rfl ?_
    refine x_aload_n (pc := 5) d_R_noMember_5 rfl 0 rfl ?_
    refine h_getR G (pc := 6) (ci := 7) (j := 2) d_R_noMember_6 rfl rfl rfl lf_R_13 h fun t1 h => ?_
    refine x_iload_n (pc := 9) d_R_noMember_9 rfl 1 rfl ?_
    refine h_iaload (pc := 10) d_R_noMember_10 h fun t2 h => ?_
    refine h_icmp_lt (pc := 11) 18 d_R_noMember_11 (by decide) h (fun _ h => ?_) (fun _ h => ?_)
    · refine x_iconst (pc := 18) d_R_noMember_18 rfl ?_
      exact h_zreturn (pc := 19) d_R_noMember_19 rfl h
    · refine x_iconst (pc := 14) d_R_noMember_14 rfl ?_
      refine x_goto (pc := 15) 19 d_R_noMember_15 (by decide) ?_
      exact h_zreturn (pc := 19) d_R_noMember_19 rfl h
theorem p_R_noMethod (G : xG K) (v0 : Nat) (v1 : Int32) (v2 : Int32) (M : XM) (h : g_R_noMethod v0 v1 v2 M = some (o, N)) : Ct K y_R_noMethod [.ref v0, .int v1, .int v2] M o N := by
  refine ct_of (by decide) (List.forall_mem_cons.mpr ⟨rfl, List.forall_mem_cons.mpr ⟨rfl, List.forall_mem_cons.mpr ⟨rfl, fun _ q => absurd q List.not_mem_nil⟩⟩⟩) (Nat.le_of_ble_eq_true rfl) ?_
  show cA K y_R_noMethod 0 [(0, .ref v0), (1, .int v1), (2, .int v2)] [] M o N
  unfold g_R_noMethod at h
  refine x_aload_n (pc := 0) d_R_noMethod_0 rfl 0 rfl ?_
  refine x_iload_n (pc := 1) d_R_noMethod_1 rfl 1 rfl ?_
  refine x_iload_n (pc := 2) d_R_noMethod_2 rfl 2 rfl ?_
  obtain ⟨⟨ra1, ra1t⟩, h⟩ := h_ok h
  refine h_callI G (x_siteV G (pc := 3) (y2 := y_R_noMember) (As := [.int v1, .int v2]) (S := []) (ci := 7) d_R_noMethod_3 rfl lm_R_96 mi_R_noMember ms_R_noMember mw_R_noMember.1 mx_R_noMember.1 mx_R_noMember.2 rfl ra1 ra1t) mw_R_noMember ⟨Nat.le_of_ble_eq_true rfl, Nat.le_of_ble_eq_true rfl⟩ rfl (fun _ _ e => p_R_noMember G _ _ _ _ e) h fun t3 M2 h => ?_
  refine h_if_ne (pc := 6) 23 d_R_noMethod_6 (by decide) h (fun _ h => ?_) (fun _ h => ?_)
  · refine x_iconst (pc := 23) d_R_noMethod_23 rfl ?_
    refine x_goto (pc := 24) 28 d_R_noMethod_24 (by decide) ?_
    exact h_zreturn (pc := 28) d_R_noMethod_28 rfl h
  · refine x_aload_n (pc := 9) d_R_noMethod_9 rfl 0 rfl ?_
    refine h_getR G (pc := 10) (ci := 7) (j := 9) d_R_noMethod_10 rfl rfl rfl lf_R_34 h fun t4 h => ?_
    refine x_bipush (pc := 13) (v := 30) d_R_noMethod_13 (by decide) ?_
    refine x_iload_n (pc := 15) d_R_noMethod_15 rfl 1 rfl ?_
    refine x_imul (pc := 16) d_R_noMethod_16 ?_
    refine x_iload_n (pc := 17) d_R_noMethod_17 rfl 2 rfl ?_
    refine x_iadd (pc := 18) d_R_noMethod_18 ?_
    refine h_iaload (pc := 19) d_R_noMethod_19 h fun t5 h => ?_
    refine h_if_ge (pc := 20) 27 d_R_noMethod_20 (by decide) h (fun _ h => ?_) (fun _ h => ?_)
    · refine x_iconst (pc := 27) d_R_noMethod_27 rfl ?_
      exact h_zreturn (pc := 28) d_R_noMethod_28 rfl h
    · refine x_iconst (pc := 23) d_R_noMethod_23 rfl ?_
      refine x_goto (pc := 24) 28 d_R_noMethod_24 (by decide) ?_
      exact h_zreturn (pc := 28) d_R_noMethod_28 rfl h
theorem p_R_code_44 (G : xG K) (v0 : Nat) (v1 : Int32) (v2 : Int32) (v3 : Int32) (s0 : Nat) (s1 : Int32) (M : XM) (h : g_R_code_44 v0 v1 v2 v3 s0 s1 M = some (o, N)) : cA K y_R_code 44 [(0, .ref v0), (1, .int v1), (2, .int v2), (3, .int v3)] [.int s1, .ref s0] M o N := by
  unfold g_R_code_44 at h
  refine h_putI G (pc := 44) (ci := 7) (j := 0) d_R_code_44 rfl rfl rfl lf_R_92 h fun M1 h => ?_
  refine x_aload_n (pc := 47) d_R_code_47 rfl 0 rfl ?_
  refine h_getI G (pc := 48) (ci := 7) (j := 0) d_R_code_48 rfl rfl rfl lf_R_92 h fun t2 h => ?_
  refine h_if_le (pc := 51) 56 d_R_code_51 (by decide) h (fun _ h => ?_) (fun _ h => ?_)
  · refine x_aload_n (pc := 56) d_R_code_56 rfl 0 rfl ?_
    refine h_getR G (pc := 57) (ci := 7) (j := 12) d_R_code_57 rfl rfl rfl lf_R_44 h fun t3 h => ?_
    refine x_bipush (pc := 60) (v := 20) d_R_code_60 (by decide) ?_
    refine x_iload_n (pc := 62) d_R_code_62 rfl 1 rfl ?_
    refine x_imul (pc := 63) d_R_code_63 ?_
    refine x_aload_n (pc := 64) d_R_code_64 rfl 0 rfl ?_
    refine h_getR G (pc := 65) (ci := 7) (j := 10) d_R_code_65 rfl rfl rfl lf_R_37 h fun t4 h => ?_
    refine x_iload_n (pc := 68) d_R_code_68 rfl 1 rfl ?_
    refine h_iaload (pc := 69) d_R_code_69 h fun t5 h => ?_
    refine x_iadd (pc := 70) d_R_code_70 ?_
    refine x_iload_n (pc := 71) d_R_code_71 rfl 2 rfl ?_
    refine h_iastore G (pc := 72) d_R_code_72 h fun M6 h => ?_
    refine x_aload_n (pc := 73) d_R_code_73 rfl 0 rfl ?_
    refine h_getR G (pc := 74) (ci := 7) (j := 13) d_R_code_74 rfl rfl rfl lf_R_47 h fun t7 h => ?_
    refine x_bipush (pc := 77) (v := 20) d_R_code_77 (by decide) ?_
    refine x_iload_n (pc := 79) d_R_code_79 rfl 1 rfl ?_
    refine x_imul (pc := 80) d_R_code_80 ?_
    refine x_aload_n (pc := 81) d_R_code_81 rfl 0 rfl ?_
    refine h_getR G (pc := 82) (ci := 7) (j := 10) d_R_code_82 rfl rfl rfl lf_R_37 h fun t8 h => ?_
    refine x_iload_n (pc := 85) d_R_code_85 rfl 1 rfl ?_
    refine h_iaload (pc := 86) d_R_code_86 h fun t9 h => ?_
    refine x_iadd (pc := 87) d_R_code_87 ?_
    refine x_iload_n (pc := 88) d_R_code_88 rfl 3 rfl ?_
    refine h_iastore G (pc := 89) d_R_code_89 h fun M10 h => ?_
    refine x_aload_n (pc := 90) d_R_code_90 rfl 0 rfl ?_
    refine h_getR G (pc := 91) (ci := 7) (j := 10) d_R_code_91 rfl rfl rfl lf_R_37 h fun t11 h => ?_
    refine x_iload_n (pc := 94) d_R_code_94 rfl 1 rfl ?_
    refine x_dup2 (pc := 95) d_R_code_95 rfl rfl ?_
    refine h_iaload (pc := 96) d_R_code_96 h fun t12 h => ?_
    refine x_iconst (pc := 97) d_R_code_97 rfl ?_
    refine x_iadd (pc := 98) d_R_code_98 ?_
    refine h_iastore G (pc := 99) d_R_code_99 h fun M13 h => ?_
    refine x_aload_n (pc := 100) d_R_code_100 rfl 0 rfl ?_
    refine h_getR G (pc := 101) (ci := 7) (j := 10) d_R_code_101 rfl rfl rfl lf_R_37 h fun t14 h => ?_
    refine x_iload_n (pc := 104) d_R_code_104 rfl 1 rfl ?_
    refine h_iaload (pc := 105) d_R_code_105 h fun t15 h => ?_
    refine x_iconst (pc := 106) d_R_code_106 rfl ?_
    refine x_isub (pc := 107) d_R_code_107 ?_
    exact h_ireturn (pc := 108) d_R_code_108 rfl h
  · refine x_iconst (pc := 54) d_R_code_54 rfl ?_
    exact h_ireturn (pc := 55) d_R_code_55 rfl h
theorem p_R_code_24 (G : xG K) (v0 : Nat) (v1 : Int32) (v2 : Int32) (v3 : Int32) (s0 : Nat) (M : XM) (h : g_R_code_24 v0 v1 v2 v3 s0 M = some (o, N)) : cA K y_R_code 24 [(0, .ref v0), (1, .int v1), (2, .int v2), (3, .int v3)] [.ref s0] M o N := by
  unfold g_R_code_24 at h
  refine x_iconst (pc := 24) d_R_code_24 rfl ?_
  refine x_goto (pc := 25) 44 d_R_code_25 (by decide) ?_
  refine x_weak [0, 1, 2, 3] rfl ?_
  exact p_R_code_44 G _ _ _ _ _ _ _ h
theorem p_R_code (G : xG K) (v0 : Nat) (v1 : Int32) (v2 : Int32) (v3 : Int32) (M : XM) (h : g_R_code v0 v1 v2 v3 M = some (o, N)) : Ct K y_R_code [.ref v0, .int v1, .int v2, .int v3] M o N := by
  refine ct_of (by decide) (List.forall_mem_cons.mpr ⟨rfl, List.forall_mem_cons.mpr ⟨rfl, List.forall_mem_cons.mpr ⟨rfl, List.forall_mem_cons.mpr ⟨rfl, fun _ q => absurd q List.not_mem_nil⟩⟩⟩⟩) (Nat.le_of_ble_eq_true rfl) ?_
  show cA K y_R_code 0 [(0, .ref v0), (1, .int v1), (2, .int v2), (3, .int v3)] [] M o N
  unfold g_R_code at h
  refine x_aload_n (pc := 0) d_R_code_0 rfl 0 rfl ?_
  refine x_aload_n (pc := 1) d_R_code_1 rfl 0 rfl ?_
  refine x_iconst (pc := 2) d_R_code_2 rfl ?_
  refine x_iload_n (pc := 3) d_R_code_3 rfl 1 rfl ?_
  obtain ⟨⟨ra1, ra1t⟩, h⟩ := h_ok h
  refine h_callI G (x_siteV G (pc := 4) (y2 := y_R_noMethod) (As := [.int 0, .int v1]) (S := [.ref v0]) (ci := 7) d_R_code_4 rfl lm_R_118 mi_R_noMethod ms_R_noMethod mw_R_noMethod.1 mx_R_noMethod.1 mx_R_noMethod.2 rfl ra1 ra1t) mw_R_noMethod ⟨Nat.le_of_ble_eq_true rfl, Nat.le_of_ble_eq_true rfl⟩ rfl (fun _ _ e => p_R_noMethod G _ _ _ _ e) h fun t3 M2 h => ?_
  refine h_if_eq (pc := 7) 14 d_R_code_7 (by decide) h (fun _ h => ?_) (fun _ h => ?_)
  · refine x_iload_n (pc := 14) d_R_code_14 rfl 2 rfl ?_
    refine h_if_lt (pc := 15) 24 d_R_code_15 (by decide) h (fun _ h => ?_) (fun _ h => ?_)
    · refine x_weak [0, 1, 2, 3] rfl ?_
      exact p_R_code_24 G _ _ _ _ _ _ h
    · refine x_iload_n (pc := 18) d_R_code_18 rfl 2 rfl ?_
      refine x_bipush (pc := 19) (v := 12) d_R_code_19 (by decide) ?_
      refine h_icmp_le (pc := 21) 28 d_R_code_21 (by decide) h (fun _ h => ?_) (fun _ h => ?_)
      · refine x_aload_n (pc := 28) d_R_code_28 rfl 0 rfl ?_
        refine h_getR G (pc := 29) (ci := 7) (j := 10) d_R_code_29 rfl rfl rfl lf_R_37 h fun t4 h => ?_
        refine x_iload_n (pc := 32) d_R_code_32 rfl 1 rfl ?_
        refine h_iaload (pc := 33) d_R_code_33 h fun t5 h => ?_
        refine x_bipush (pc := 34) (v := 20) d_R_code_34 (by decide) ?_
        refine h_icmp_ne (pc := 36) 43 d_R_code_36 (by decide) h (fun _ h => ?_) (fun _ h => ?_)
        · refine x_iconst (pc := 43) d_R_code_43 rfl ?_
          refine x_weak [0, 1, 2, 3] rfl ?_
          exact p_R_code_44 G _ _ _ _ _ _ _ h
        · refine x_iconst (pc := 39) d_R_code_39 rfl ?_
          refine x_goto (pc := 40) 44 d_R_code_40 (by decide) ?_
          refine x_weak [0, 1, 2, 3] rfl ?_
          exact p_R_code_44 G _ _ _ _ _ _ _ h
      · refine x_weak [0, 1, 2, 3] rfl ?_
        exact p_R_code_24 G _ _ _ _ _ _ h
  · refine x_iconst (pc := 10) d_R_code_10 rfl ?_
    refine x_goto (pc := 11) 44 d_R_code_11 (by decide) ?_
    refine x_weak [0, 1, 2, 3] rfl ?_
    exact p_R_code_44 G _ _ _ _ _ _ _ h
theorem p_R_entry_15 (G : xG K) (v0 : Nat) (v1 : Int32) (v2 : Int32) (s0 : Nat) (s1 : Int32) (M : XM) (h : g_R_entry_15 v0 v1 v2 s0 s1 M = some (o, N)) : cA K y_R_entry 15 [(0, .ref v0), (1, .int v1), (2, .int v2)] [.int s1, .ref s0] M o N := by
  unfold g_R_entry_15 at h
  refine h_putI G (pc := 15) (ci := 7) (j := 0) d_R_entry_15 rfl rfl rfl lf_R_92 h fun M1 h => ?_
  refine x_aload_n (pc := 18) d_R_entry_18 rfl 0 rfl ?_
  refine h_getI G (pc := 19) (ci := 7) (j := 0) d_R_entry_19 rfl rfl rfl lf_R_92 h fun t2 h => ?_
  refine h_if_ne (pc := 22) 32 d_R_entry_22 (by decide) h (fun _ h => ?_) (fun _ h => ?_)
  · exact h_return (pc := 32) d_R_entry_32 rfl h
  · refine x_aload_n (pc := 25) d_R_entry_25 rfl 0 rfl ?_
    refine h_getR G (pc := 26) (ci := 7) (j := 11) d_R_entry_26 rfl rfl rfl lf_R_40 h fun t3 h => ?_
    refine x_iload_n (pc := 29) d_R_entry_29 rfl 1 rfl ?_
    refine x_iload_n (pc := 30) d_R_entry_30 rfl 2 rfl ?_
    refine h_bastore G (pc := 31) d_R_entry_31 h fun M4 h => ?_
    exact h_return (pc := 32) d_R_entry_32 rfl h
theorem p_R_entry (G : xG K) (v0 : Nat) (v1 : Int32) (v2 : Int32) (M : XM) (h : g_R_entry v0 v1 v2 M = some (o, N)) : Ct K y_R_entry [.ref v0, .int v1, .int v2] M o N := by
  refine ct_of (by decide) (List.forall_mem_cons.mpr ⟨rfl, List.forall_mem_cons.mpr ⟨rfl, List.forall_mem_cons.mpr ⟨rfl, fun _ q => absurd q List.not_mem_nil⟩⟩⟩) (Nat.le_of_ble_eq_true rfl) ?_
  show cA K y_R_entry 0 [(0, .ref v0), (1, .int v1), (2, .int v2)] [] M o N
  unfold g_R_entry at h
  refine x_aload_n (pc := 0) d_R_entry_0 rfl 0 rfl ?_
  refine x_aload_n (pc := 1) d_R_entry_1 rfl 0 rfl ?_
  refine x_iconst (pc := 2) d_R_entry_2 rfl ?_
  refine x_iload_n (pc := 3) d_R_entry_3 rfl 1 rfl ?_
  obtain ⟨⟨ra1, ra1t⟩, h⟩ := h_ok h
  refine h_callI G (x_siteV G (pc := 4) (y2 := y_R_noMethod) (As := [.int 0, .int v1]) (S := [.ref v0]) (ci := 7) d_R_entry_4 rfl lm_R_118 mi_R_noMethod ms_R_noMethod mw_R_noMethod.1 mx_R_noMethod.1 mx_R_noMethod.2 rfl ra1 ra1t) mw_R_noMethod ⟨Nat.le_of_ble_eq_true rfl, Nat.le_of_ble_eq_true rfl⟩ rfl (fun _ _ e => p_R_noMethod G _ _ _ _ e) h fun t3 M2 h => ?_
  refine h_if_eq (pc := 7) 14 d_R_entry_7 (by decide) h (fun _ h => ?_) (fun _ h => ?_)
  · refine x_iconst (pc := 14) d_R_entry_14 rfl ?_
    refine x_weak [0, 1, 2] rfl ?_
    exact p_R_entry_15 G _ _ _ _ _ _ h
  · refine x_iconst (pc := 10) d_R_entry_10 rfl ?_
    refine x_goto (pc := 11) 15 d_R_entry_11 (by decide) ?_
    refine x_weak [0, 1, 2] rfl ?_
    exact p_R_entry_15 G _ _ _ _ _ _ h
theorem p_R_clear (G : xG K) (v0 : Nat) (M : XM) (h : g_R_clear v0 M = some (o, N)) : Ct K y_R_clear [.ref v0] M o N := by
  refine ct_of (by decide) (List.forall_mem_cons.mpr ⟨rfl, fun _ q => absurd q List.not_mem_nil⟩) (Nat.le_of_ble_eq_true rfl) ?_
  show cA K y_R_clear 0 [(0, .ref v0)] [] M o N
  unfold g_R_clear at h
  refine x_aload_n (pc := 0) d_R_clear_0 rfl 0 rfl ?_
  refine x_iconst (pc := 1) d_R_clear_1 rfl ?_
  refine h_putI G (pc := 2) (ci := 7) (j := 0) d_R_clear_2 rfl rfl rfl lf_R_92 h fun M1 h => ?_
  refine x_aload_n (pc := 5) d_R_clear_5 rfl 0 rfl ?_
  refine h_getR G (pc := 6) (ci := 7) (j := 1) d_R_clear_6 rfl rfl rfl lf_R_7 h fun t2 h => ?_
  refine x_iconst (pc := 9) d_R_clear_9 rfl ?_
  refine x_iconst (pc := 10) d_R_clear_10 rfl ?_
  refine h_iastore G (pc := 11) d_R_clear_11 h fun M3 h => ?_
  refine x_aload_n (pc := 12) d_R_clear_12 rfl 0 rfl ?_
  refine h_getR G (pc := 13) (ci := 7) (j := 2) d_R_clear_13 rfl rfl rfl lf_R_13 h fun t4 h => ?_
  refine x_iconst (pc := 16) d_R_clear_16 rfl ?_
  refine x_iconst (pc := 17) d_R_clear_17 rfl ?_
  refine h_iastore G (pc := 18) d_R_clear_18 h fun M5 h => ?_
  exact h_return (pc := 19) d_R_clear_19 rfl h
theorem p_R_meant (G : xG K) (v0 : Nat) (v1 : Int32) (v2 : Int32) (v3 : Int32) (v4 : Int32) (M : XM) (h : g_R_meant v0 v1 v2 v3 v4 M = some (o, N)) : Ct K y_R_meant [.ref v0, .int v1, .int v2, .int v3, .int v4] M o N := by
  refine ct_of (by decide) (List.forall_mem_cons.mpr ⟨rfl, List.forall_mem_cons.mpr ⟨rfl, List.forall_mem_cons.mpr ⟨rfl, List.forall_mem_cons.mpr ⟨rfl, List.forall_mem_cons.mpr ⟨rfl, fun _ q => absurd q List.not_mem_nil⟩⟩⟩⟩⟩) (Nat.le_of_ble_eq_true rfl) ?_
  show cA K y_R_meant 0 [(0, .ref v0), (1, .int v1), (2, .int v2), (3, .int v3), (4, .int v4)] [] M o N
  unfold g_R_meant at h
  refine x_aload_n (pc := 0) d_R_meant_0 rfl 0 rfl ?_
  refine x_iload_n (pc := 1) d_R_meant_1 rfl 1 rfl ?_
  refine x_iload_n (pc := 2) d_R_meant_2 rfl 2 rfl ?_
  refine x_iload_n (pc := 3) d_R_meant_3 rfl 3 rfl ?_
  refine x_iload (pc := 4) d_R_meant_4 4 rfl ?_
  obtain ⟨⟨ra1, ra1t⟩, h⟩ := h_ok h
  refine h_callI G (x_siteV G (pc := 6) (y2 := y_R_has) (As := [.int v1, .int v2, .int v3, .int v4]) (S := []) (ci := 7) d_R_meant_6 rfl lm_R_107 mi_R_has ms_R_has mw_R_has.1 mx_R_has.1 mx_R_has.2 rfl ra1 ra1t) mw_R_has ⟨Nat.le_of_ble_eq_true rfl, Nat.le_of_ble_eq_true rfl⟩ rfl (fun _ _ e => p_R_has G _ _ _ _ _ _ e) h fun t3 M2 h => ?_
  refine h_if_ne (pc := 9) 14 d_R_meant_9 (by decide) h (fun _ h => ?_) (fun _ h => ?_)
  · refine x_iload_n (pc := 14) d_R_meant_14 rfl 1 rfl ?_
    refine x_iload_n (pc := 15) d_R_meant_15 rfl 2 rfl ?_
    refine h_callI G (x_siteS G (pc := 16) (y2 := y_R_base) (As := [.int v1, .int v2]) (S := []) d_R_meant_16 lm_R_100 mi_R_base mw_R_base.2 mw_R_base.1 mx_R_base.1 mx_R_base.2 rfl) mw_R_base ⟨Nat.le_of_ble_eq_true rfl, Nat.le_of_ble_eq_true rfl⟩ rfl (fun _ _ e => p_R_base G _ _ _ e) h fun t5 M4 h => ?_
    refine x_iload_n (pc := 19) d_R_meant_19 rfl 3 rfl ?_
    refine x_iadd (pc := 20) d_R_meant_20 ?_
    refine x_istore (pc := 21) (L' := [(0, .ref v0), (1, .int v1), (2, .int v2), (3, .int v3), (4, .int v4), (5, .int (t5 + v3))]) d_R_meant_21 (by decide) rfl ?_
    refine x_aload_n (pc := 23) d_R_meant_23 rfl 0 rfl ?_
    refine h_getR G (pc := 24) (ci := 7) (j := 5) d_R_meant_24 rfl rfl rfl lf_R_22 h fun t6 h => ?_
    refine x_iload_n (pc := 27) d_R_meant_27 rfl 1 rfl ?_
    refine x_iload_n (pc := 28) d_R_meant_28 rfl 2 rfl ?_
    refine h_callI G (x_siteS G (pc := 29) (y2 := y_R_base) (As := [.int v1, .int v2]) (S := [.ref t6]) d_R_meant_29 lm_R_100 mi_R_base mw_R_base.2 mw_R_base.1 mx_R_base.1 mx_R_base.2 rfl) mw_R_base ⟨Nat.le_of_ble_eq_true rfl, Nat.le_of_ble_eq_true rfl⟩ rfl (fun _ _ e => p_R_base G _ _ _ e) h fun t8 M7 h => ?_
    refine x_aload_n (pc := 32) d_R_meant_32 rfl 0 rfl ?_
    refine h_getR G (pc := 33) (ci := 7) (j := 5) d_R_meant_33 rfl rfl rfl lf_R_22 h fun t9 h => ?_
    refine x_iload (pc := 36) d_R_meant_36 5 rfl ?_
    refine h_iaload (pc := 38) d_R_meant_38 h fun t10 h => ?_
    refine x_iadd (pc := 39) d_R_meant_39 ?_
    refine h_iaload (pc := 40) d_R_meant_40 h fun t11 h => ?_
    refine x_istore (pc := 41) (L' := [(0, .ref v0), (1, .int v1), (2, .int v2), (3, .int v3), (4, .int v4), (5, .int (t5 + v3)), (6, .int t11)]) d_R_meant_41 (by decide) rfl ?_
    refine x_aload_n (pc := 43) d_R_meant_43 rfl 0 rfl ?_
    refine h_getR G (pc := 44) (ci := 7) (j := 5) d_R_meant_44 rfl rfl rfl lf_R_22 h fun t12 h => ?_
    refine x_iload_n (pc := 47) d_R_meant_47 rfl 1 rfl ?_
    refine x_iload_n (pc := 48) d_R_meant_48 rfl 2 rfl ?_
    refine h_callI G (x_siteS G (pc := 49) (y2 := y_R_base) (As := [.int v1, .int v2]) (S := [.ref t12]) d_R_meant_49 lm_R_100 mi_R_base mw_R_base.2 mw_R_base.1 mx_R_base.1 mx_R_base.2 rfl) mw_R_base ⟨Nat.le_of_ble_eq_true rfl, Nat.le_of_ble_eq_true rfl⟩ rfl (fun _ _ e => p_R_base G _ _ _ e) h fun t14 M13 h => ?_
    refine x_aload_n (pc := 52) d_R_meant_52 rfl 0 rfl ?_
    refine h_getR G (pc := 53) (ci := 7) (j := 6) d_R_meant_53 rfl rfl rfl lf_R_25 h fun t15 h => ?_
    refine x_iload (pc := 56) d_R_meant_56 5 rfl ?_
    refine h_iaload (pc := 58) d_R_meant_58 h fun t16 h => ?_
    refine x_iadd (pc := 59) d_R_meant_59 ?_
    refine h_iaload (pc := 60) d_R_meant_60 h fun t17 h => ?_
    refine x_istore (pc := 61) (L' := [(0, .ref v0), (1, .int v1), (2, .int v2), (3, .int v3), (4, .int v4), (5, .int (t5 + v3)), (6, .int t11), (7, .int t17)]) d_R_meant_61 (by decide) rfl ?_
    refine x_aload_n (pc := 63) d_R_meant_63 rfl 0 rfl ?_
    refine x_iload_n (pc := 64) d_R_meant_64 rfl 1 rfl ?_
    refine x_iload (pc := 65) d_R_meant_65 6 rfl ?_
    refine x_iload (pc := 67) d_R_meant_67 4 rfl ?_
    refine x_iconst (pc := 69) d_R_meant_69 rfl ?_
    refine h_icmp_ne (pc := 70) 77 d_R_meant_70 (by decide) h (fun _ h => ?_) (fun _ h => ?_)
    · refine x_iconst (pc := 77) d_R_meant_77 rfl ?_
      refine x_iload (pc := 78) d_R_meant_78 7 rfl ?_
      obtain ⟨⟨ra18, ra18t⟩, h⟩ := h_ok h
      refine h_callI G (x_siteV G (pc := 80) (y2 := y_R_find) (As := [.int v1, .int t11, .int 0, .int t17]) (S := []) (ci := 7) d_R_meant_80 rfl lm_R_114 mi_R_find ms_R_find mw_R_find.1 mx_R_find.1 mx_R_find.2 rfl ra18 ra18t) mw_R_find ⟨Nat.le_of_ble_eq_true rfl, Nat.le_of_ble_eq_true rfl⟩ rfl (fun _ _ e => p_R_find G _ _ _ _ _ _ e) h fun t20 M19 h => ?_
      exact h_ireturn (pc := 83) d_R_meant_83 rfl h
    · refine x_iconst (pc := 73) d_R_meant_73 rfl ?_
      refine x_goto (pc := 74) 78 d_R_meant_74 (by decide) ?_
      refine x_iload (pc := 78) d_R_meant_78 7 rfl ?_
      obtain ⟨⟨ra21, ra21t⟩, h⟩ := h_ok h
      refine h_callI G (x_siteV G (pc := 80) (y2 := y_R_find) (As := [.int v1, .int t11, .int 1, .int t17]) (S := []) (ci := 7) d_R_meant_80 rfl lm_R_114 mi_R_find ms_R_find mw_R_find.1 mx_R_find.1 mx_R_find.2 rfl ra21 ra21t) mw_R_find ⟨Nat.le_of_ble_eq_true rfl, Nat.le_of_ble_eq_true rfl⟩ rfl (fun _ _ e => p_R_find G _ _ _ _ _ _ e) h fun t23 M22 h => ?_
      exact h_ireturn (pc := 83) d_R_meant_83 rfl h
  · refine x_iconst (pc := 12) d_R_meant_12 rfl ?_
    exact h_ireturn (pc := 13) d_R_meant_13 rfl h
theorem p_R_isClosed_188 (G : xG K) (v0 : Nat) (v1 : Int32) (v2 : Int32) (v5 : Int32) (M : XM) (h : g_R_isClosed_188 v0 v1 v2 v5 M = some (o, N)) : cA K y_R_isClosed 188 [(0, .ref v0), (1, .int v1), (2, .int v2), (5, .int v5)] [] M o N := by
  unfold g_R_isClosed_188 at h
  refine x_iload (pc := 188) d_R_isClosed_188 3 rfl ?_
  refine h_if_lt (pc := 190) 213 d_R_isClosed_190 (by decide) h (fun _ h => ?_) (fun _ h => ?_)
  · refine x_iconst (pc := 213) d_R_isClosed_213 rfl ?_
    exact h_zreturn (pc := 214) d_R_isClosed_214 rfl h
  · refine x_iload (pc := 193) d_R_isClosed_193 3 rfl ?_
    refine x_aload_n (pc := 195) d_R_isClosed_195 rfl 0 rfl ?_
    refine h_getR G (pc := 196) (ci := 7) (j := 10) d_R_isClosed_196 rfl rfl rfl lf_R_37 h fun t1 h => ?_
    refine x_bipush (pc := 199) (v := 30) d_R_isClosed_199 (by decide) ?_
    refine x_iload_n (pc := 201) d_R_isClosed_201 rfl 1 rfl ?_
    refine x_imul (pc := 202) d_R_isClosed_202 ?_
    refine x_iload_n (pc := 203) d_R_isClosed_203 rfl 2 rfl ?_
    refine x_iadd (pc := 204) d_R_isClosed_204 ?_
    refine h_iaload (pc := 205) d_R_isClosed_205 h fun t2 h => ?_
    refine h_icmp_ge (pc := 206) 213 d_R_isClosed_206 (by decide) h (fun _ h => ?_) (fun _ h => ?_)
    · refine x_iconst (pc := 213) d_R_isClosed_213 rfl ?_
      exact h_zreturn (pc := 214) d_R_isClosed_214 rfl h
    · refine x_iconst (pc := 209) d_R_isClosed_209 rfl ?_
      refine x_goto (pc := 210) 214 d_R_isClosed_210 (by decide) ?_
      exact h_zreturn (pc := 214) d_R_isClosed_214 rfl h
theorem p_R_isClosed_123 (G : xG K) (v0 : Nat) (v1 : Int32) (v5 : Int32) (v6 : Int32) (M : XM) (h : g_R_isClosed_123 v0 v1 v5 v6 M = some (o, N)) : cA K y_R_isClosed 123 [(0, .ref v0), (1, .int v1), (5, .int v5), (6, .int v6)] [] M o N := by
  unfold g_R_isClosed_123 at h
  refine x_aload_n (pc := 123) d_R_isClosed_123 rfl 0 rfl ?_
  refine x_iload_n (pc := 124) d_R_isClosed_124 rfl 1 rfl ?_
  refine x_iload (pc := 125) d_R_isClosed_125 3 rfl ?_
  refine x_iload (pc := 127) d_R_isClosed_127 2 rfl ?_
  refine x_iconst (pc := 129) d_R_isClosed_129 rfl ?_
  obtain ⟨⟨ra1, ra1t⟩, h⟩ := h_ok h
  refine h_callI G (x_siteV G (pc := 130) (y2 := y_R_meant) (As := [.int v1, .int v6, .int v5, .int 3]) (S := []) (ci := 7) d_R_isClosed_130 rfl lm_R_121 mi_R_meant ms_R_meant mw_R_meant.1 mx_R_meant.1 mx_R_meant.2 rfl ra1 ra1t) mw_R_meant ⟨Nat.le_of_ble_eq_true rfl, Nat.le_of_ble_eq_true rfl⟩ rfl (fun _ _ e => p_R_meant G _ _ _ _ _ _ e) h fun t3 M2 h => ?_
  refine h_if_lt (pc := 133) 140 d_R_isClosed_133 (by decide) h (fun _ h => ?_) (fun _ h => ?_)
  · refine x_iconst (pc := 140) d_R_isClosed_140 rfl ?_
    exact h_zreturn (pc := 141) d_R_isClosed_141 rfl h
  · refine x_iconst (pc := 136) d_R_isClosed_136 rfl ?_
    refine x_goto (pc := 137) 141 d_R_isClosed_137 (by decide) ?_
    exact h_zreturn (pc := 141) d_R_isClosed_141 rfl h
theorem p_R_isClosed (G : xG K) (v0 : Nat) (v1 : Int32) (v2 : Int32) (v3 : Int32) (M : XM) (h : g_R_isClosed v0 v1 v2 v3 M = some (o, N)) : Ct K y_R_isClosed [.ref v0, .int v1, .int v2, .int v3] M o N := by
  refine ct_of (by decide) (List.forall_mem_cons.mpr ⟨rfl, List.forall_mem_cons.mpr ⟨rfl, List.forall_mem_cons.mpr ⟨rfl, List.forall_mem_cons.mpr ⟨rfl, fun _ q => absurd q List.not_mem_nil⟩⟩⟩⟩) (Nat.le_of_ble_eq_true rfl) ?_
  show cA K y_R_isClosed 0 [(0, .ref v0), (1, .int v1), (2, .int v2), (3, .int v3)] [] M o N
  unfold g_R_isClosed at h
  refine x_aload_n (pc := 0) d_R_isClosed_0 rfl 0 rfl ?_
  refine h_getR G (pc := 1) (ci := 7) (j := 12) d_R_isClosed_1 rfl rfl rfl lf_R_44 h fun t1 h => ?_
  refine x_sipush (pc := 4) (v := 600) d_R_isClosed_4 (by decide) ?_
  refine x_iload_n (pc := 7) d_R_isClosed_7 rfl 1 rfl ?_
  refine x_imul (pc := 8) d_R_isClosed_8 ?_
  refine x_bipush (pc := 9) (v := 20) d_R_isClosed_9 (by decide) ?_
  refine x_iload_n (pc := 11) d_R_isClosed_11 rfl 2 rfl ?_
  refine x_imul (pc := 12) d_R_isClosed_12 ?_
  refine x_iadd (pc := 13) d_R_isClosed_13 ?_
  refine x_iload_n (pc := 14) d_R_isClosed_14 rfl 3 rfl ?_
  refine x_iadd (pc := 15) d_R_isClosed_15 ?_
  refine h_iaload (pc := 16) d_R_isClosed_16 h fun t2 h => ?_
  refine x_istore (pc := 17) (L' := [(0, .ref v0), (1, .int v1), (2, .int v2), (3, .int v3), (4, .int t2)]) d_R_isClosed_17 (by decide) rfl ?_
  refine x_aload_n (pc := 19) d_R_isClosed_19 rfl 0 rfl ?_
  refine h_getR G (pc := 20) (ci := 7) (j := 13) d_R_isClosed_20 rfl rfl rfl lf_R_47 h fun t3 h => ?_
  refine x_sipush (pc := 23) (v := 600) d_R_isClosed_23 (by decide) ?_
  refine x_iload_n (pc := 26) d_R_isClosed_26 rfl 1 rfl ?_
  refine x_imul (pc := 27) d_R_isClosed_27 ?_
  refine x_bipush (pc := 28) (v := 20) d_R_isClosed_28 (by decide) ?_
  refine x_iload_n (pc := 30) d_R_isClosed_30 rfl 2 rfl ?_
  refine x_imul (pc := 31) d_R_isClosed_31 ?_
  refine x_iadd (pc := 32) d_R_isClosed_32 ?_
  refine x_iload_n (pc := 33) d_R_isClosed_33 rfl 3 rfl ?_
  refine x_iadd (pc := 34) d_R_isClosed_34 ?_
  refine h_iaload (pc := 35) d_R_isClosed_35 h fun t4 h => ?_
  refine x_istore (pc := 36) (L' := [(0, .ref v0), (1, .int v1), (2, .int v2), (3, .int v3), (4, .int t2), (5, .int t4)]) d_R_isClosed_36 (by decide) rfl ?_
  refine x_aload_n (pc := 38) d_R_isClosed_38 rfl 0 rfl ?_
  refine h_getR G (pc := 39) (ci := 7) (j := 7) d_R_isClosed_39 rfl rfl rfl lf_R_28 h fun t5 h => ?_
  refine x_bipush (pc := 42) (v := 30) d_R_isClosed_42 (by decide) ?_
  refine x_iload_n (pc := 44) d_R_isClosed_44 rfl 1 rfl ?_
  refine x_imul (pc := 45) d_R_isClosed_45 ?_
  refine x_iload_n (pc := 46) d_R_isClosed_46 rfl 2 rfl ?_
  refine x_iadd (pc := 47) d_R_isClosed_47 ?_
  refine h_iaload (pc := 48) d_R_isClosed_48 h fun t6 h => ?_
  refine x_istore (pc := 49) (L' := [(0, .ref v0), (1, .int v1), (2, .int v2), (3, .int v3), (4, .int t2), (5, .int t4), (6, .int t6)]) d_R_isClosed_49 (by decide) rfl ?_
  refine x_iload (pc := 51) d_R_isClosed_51 4 rfl ?_
  refine h_case h (fun c0 h => ?_) (fun c0 h => ?_)
  · refine x_tableIn (pc := 53) 112 d_R_isClosed_53 (by rw [c0]; decide) (by rw [c0]; decide) (off := 59) (by rw [c0]; rfl) (by decide) ?_
    refine x_aload_n (pc := 112) d_R_isClosed_112 rfl 0 rfl ?_
    refine x_iload_n (pc := 113) d_R_isClosed_113 rfl 1 rfl ?_
    refine x_iload (pc := 114) d_R_isClosed_114 6 rfl ?_
    refine x_iload (pc := 116) d_R_isClosed_116 5 rfl ?_
    refine x_iconst (pc := 118) d_R_isClosed_118 rfl ?_
    obtain ⟨⟨ra12, ra12t⟩, h⟩ := h_ok h
    refine h_callI G (x_siteV G (pc := 119) (y2 := y_R_has) (As := [.int v1, .int t6, .int t4, .int 0]) (S := []) (ci := 7) d_R_isClosed_119 rfl lm_R_107 mi_R_has ms_R_has mw_R_has.1 mx_R_has.1 mx_R_has.2 rfl ra12 ra12t) mw_R_has ⟨Nat.le_of_ble_eq_true rfl, Nat.le_of_ble_eq_true rfl⟩ rfl (fun _ _ e => p_R_has G _ _ _ _ _ _ e) h fun t14 M13 h => ?_
    exact h_zreturn (pc := 122) d_R_isClosed_122 rfl h
  · refine h_case h (fun c1 h => ?_) (fun c1 h => ?_)
    · refine x_tableIn (pc := 53) 123 d_R_isClosed_53 (by rw [c1]; decide) (by rw [c1]; decide) (off := 70) (by rw [c1]; rfl) (by decide) ?_
      refine x_weak [0, 1, 5, 6] rfl ?_
      exact p_R_isClosed_123 G _ _ _ _ _ h
    · refine h_case h (fun c2 h => ?_) (fun c2 h => ?_)
      · refine x_tableIn (pc := 53) 123 d_R_isClosed_53 (by rw [c2]; decide) (by rw [c2]; decide) (off := 70) (by rw [c2]; rfl) (by decide) ?_
        refine x_weak [0, 1, 5, 6] rfl ?_
        exact p_R_isClosed_123 G _ _ _ _ _ h
      · refine h_case h (fun c3 h => ?_) (fun c3 h => ?_)
        · refine x_tableIn (pc := 53) 142 d_R_isClosed_53 (by rw [c3]; decide) (by rw [c3]; decide) (off := 89) (by rw [c3]; rfl) (by decide) ?_
          refine x_aload_n (pc := 142) d_R_isClosed_142 rfl 0 rfl ?_
          refine x_iload_n (pc := 143) d_R_isClosed_143 rfl 1 rfl ?_
          refine x_iload (pc := 144) d_R_isClosed_144 6 rfl ?_
          refine x_iload (pc := 146) d_R_isClosed_146 5 rfl ?_
          refine x_iconst (pc := 148) d_R_isClosed_148 rfl ?_
          obtain ⟨⟨ra9, ra9t⟩, h⟩ := h_ok h
          refine h_callI G (x_siteV G (pc := 149) (y2 := y_R_meant) (As := [.int v1, .int t6, .int t4, .int 4]) (S := []) (ci := 7) d_R_isClosed_149 rfl lm_R_121 mi_R_meant ms_R_meant mw_R_meant.1 mx_R_meant.1 mx_R_meant.2 rfl ra9 ra9t) mw_R_meant ⟨Nat.le_of_ble_eq_true rfl, Nat.le_of_ble_eq_true rfl⟩ rfl (fun _ _ e => p_R_meant G _ _ _ _ _ _ e) h fun t11 M10 h => ?_
          refine h_if_lt (pc := 152) 159 d_R_isClosed_152 (by decide) h (fun _ h => ?_) (fun _ h => ?_)
          · refine x_iconst (pc := 159) d_R_isClosed_159 rfl ?_
            exact h_zreturn (pc := 160) d_R_isClosed_160 rfl h
          · refine x_iconst (pc := 155) d_R_isClosed_155 rfl ?_
            refine x_goto (pc := 156) 160 d_R_isClosed_156 (by decide) ?_
            exact h_zreturn (pc := 160) d_R_isClosed_160 rfl h
        · refine h_case h (fun c4 h => ?_) (fun c4 h => ?_)
          · refine x_tableIn (pc := 53) 161 d_R_isClosed_53 (by rw [c4]; decide) (by rw [c4]; decide) (off := 108) (by rw [c4]; rfl) (by decide) ?_
            refine x_iload (pc := 161) d_R_isClosed_161 5 rfl ?_
            refine h_if_lt (pc := 163) 186 d_R_isClosed_163 (by decide) h (fun _ h => ?_) (fun _ h => ?_)
            · refine x_iconst (pc := 186) d_R_isClosed_186 rfl ?_
              exact h_zreturn (pc := 187) d_R_isClosed_187 rfl h
            · refine x_iload (pc := 166) d_R_isClosed_166 5 rfl ?_
              refine x_aload_n (pc := 168) d_R_isClosed_168 rfl 0 rfl ?_
              refine h_getR G (pc := 169) (ci := 7) (j := 9) d_R_isClosed_169 rfl rfl rfl lf_R_34 h fun t7 h => ?_
              refine x_bipush (pc := 172) (v := 30) d_R_isClosed_172 (by decide) ?_
              refine x_iload_n (pc := 174) d_R_isClosed_174 rfl 1 rfl ?_
              refine x_imul (pc := 175) d_R_isClosed_175 ?_
              refine x_iload_n (pc := 176) d_R_isClosed_176 rfl 2 rfl ?_
              refine x_iadd (pc := 177) d_R_isClosed_177 ?_
              refine h_iaload (pc := 178) d_R_isClosed_178 h fun t8 h => ?_
              refine h_icmp_ge (pc := 179) 186 d_R_isClosed_179 (by decide) h (fun _ h => ?_) (fun _ h => ?_)
              · refine x_iconst (pc := 186) d_R_isClosed_186 rfl ?_
                exact h_zreturn (pc := 187) d_R_isClosed_187 rfl h
              · refine x_iconst (pc := 182) d_R_isClosed_182 rfl ?_
                refine x_goto (pc := 183) 187 d_R_isClosed_183 (by decide) ?_
                exact h_zreturn (pc := 187) d_R_isClosed_187 rfl h
          · refine h_case h (fun c5 h => ?_) (fun c5 h => ?_)
            · refine x_tableIn (pc := 53) 215 d_R_isClosed_53 (by rw [c5]; decide) (by rw [c5]; decide) (off := 162) (by rw [c5]; rfl) (by decide) ?_
              refine x_iconst (pc := 215) d_R_isClosed_215 rfl ?_
              exact h_zreturn (pc := 216) d_R_isClosed_216 rfl h
            · refine h_case h (fun c6 h => ?_) (fun c6 h => ?_)
              · refine x_tableIn (pc := 53) 215 d_R_isClosed_53 (by rw [c6]; decide) (by rw [c6]; decide) (off := 162) (by rw [c6]; rfl) (by decide) ?_
                refine x_iconst (pc := 215) d_R_isClosed_215 rfl ?_
                exact h_zreturn (pc := 216) d_R_isClosed_216 rfl h
              · refine h_case h (fun c7 h => ?_) (fun c7 h => ?_)
                · refine x_tableIn (pc := 53) 215 d_R_isClosed_53 (by rw [c7]; decide) (by rw [c7]; decide) (off := 162) (by rw [c7]; rfl) (by decide) ?_
                  refine x_iconst (pc := 215) d_R_isClosed_215 rfl ?_
                  exact h_zreturn (pc := 216) d_R_isClosed_216 rfl h
                · refine h_case h (fun c8 h => ?_) (fun c8 h => ?_)
                  · refine x_tableIn (pc := 53) 215 d_R_isClosed_53 (by rw [c8]; decide) (by rw [c8]; decide) (off := 162) (by rw [c8]; rfl) (by decide) ?_
                    refine x_iconst (pc := 215) d_R_isClosed_215 rfl ?_
                    exact h_zreturn (pc := 216) d_R_isClosed_216 rfl h
                  · refine h_case h (fun c9 h => ?_) (fun c9 h => ?_)
                    · refine x_tableIn (pc := 53) 188 d_R_isClosed_53 (by rw [c9]; decide) (by rw [c9]; decide) (off := 135) (by rw [c9]; rfl) (by decide) ?_
                      refine x_weak [0, 1, 2, 5] rfl ?_
                      exact p_R_isClosed_188 G _ _ _ _ _ h
                    · refine h_case h (fun c10 h => ?_) (fun c10 h => ?_)
                      · refine x_tableIn (pc := 53) 188 d_R_isClosed_53 (by rw [c10]; decide) (by rw [c10]; decide) (off := 135) (by rw [c10]; rfl) (by decide) ?_
                        refine x_weak [0, 1, 2, 5] rfl ?_
                        exact p_R_isClosed_188 G _ _ _ _ _ h
                      · refine x_tableOut (pc := 53) 215 d_R_isClosed_53 (by have q0 := lv_neT (a := 0) c0 (by decide); have q1 := lv_neT (a := 1) c1 (by decide); have q2 := lv_neT (a := 2) c2 (by decide); have q3 := lv_neT (a := 3) c3 (by decide); have q4 := lv_neT (a := 4) c4 (by decide); have q5 := lv_neT (a := 5) c5 (by decide); have q6 := lv_neT (a := 6) c6 (by decide); have q7 := lv_neT (a := 7) c7 (by decide); have q8 := lv_neT (a := 8) c8 (by decide); have q9 := lv_neT (a := 9) c9 (by decide); have q10 := lv_neT (a := 10) c10 (by decide); omega) (by decide) ?_
                        refine x_iconst (pc := 215) d_R_isClosed_215 rfl ?_
                        exact h_zreturn (pc := 216) d_R_isClosed_216 rfl h
end XG
