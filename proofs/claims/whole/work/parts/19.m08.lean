/-! laid by program from the bytecode: R_pool, R_constantAt, R_memberAt, R_codeAt, R_moved, R_begin, R_push, R_pop, R_call, R_arithmetic -/
theorem d_R_pool_0 : decode prog_9_method_31_code 0 = .ok (.iload_n 1, 1) := by decide +kernel
theorem d_R_pool_1 : decode prog_9_method_31_code 1 = .ok (.ifCond .eq 7, 3) := by decide +kernel
theorem d_R_pool_4 : decode prog_9_method_31_code 4 = .ok (.iconst 1, 1) := by decide +kernel
theorem d_R_pool_5 : decode prog_9_method_31_code 5 = .ok (.goto 4, 3) := by decide +kernel
theorem d_R_pool_8 : decode prog_9_method_31_code 8 = .ok (.iconst 0, 1) := by decide +kernel
theorem d_R_pool_9 : decode prog_9_method_31_code 9 = .ok (.istore_n 3, 1) := by decide +kernel
theorem d_R_pool_10 : decode prog_9_method_31_code 10 = .ok (.aload_n 0, 1) := by decide +kernel
theorem d_R_pool_11 : decode prog_9_method_31_code 11 = .ok (.aload_n 0, 1) := by decide +kernel
theorem d_R_pool_12 : decode prog_9_method_31_code 12 = .ok (.iload_n 3, 1) := by decide +kernel
theorem d_R_pool_13 : decode prog_9_method_31_code 13 = .ok (.iload_n 2, 1) := by decide +kernel
theorem d_R_pool_14 : decode prog_9_method_31_code 14 = .ok (.invokevirtual 104, 3) := by decide +kernel
theorem d_R_pool_17 : decode prog_9_method_31_code 17 = .ok (.ifCond .eq 7, 3) := by decide +kernel
theorem d_R_pool_20 : decode prog_9_method_31_code 20 = .ok (.iconst 1, 1) := by decide +kernel
theorem d_R_pool_21 : decode prog_9_method_31_code 21 = .ok (.goto 4, 3) := by decide +kernel
theorem d_R_pool_24 : decode prog_9_method_31_code 24 = .ok (.iconst 0, 1) := by decide +kernel
theorem d_R_pool_25 : decode prog_9_method_31_code 25 = .ok (.putfield 92, 3) := by decide +kernel
theorem d_R_pool_28 : decode prog_9_method_31_code 28 = .ok (.aload_n 0, 1) := by decide +kernel
theorem d_R_pool_29 : decode prog_9_method_31_code 29 = .ok (.getfield 92, 3) := by decide +kernel
theorem d_R_pool_32 : decode prog_9_method_31_code 32 = .ok (.ifCond .le 7, 3) := by decide +kernel
theorem d_R_pool_35 : decode prog_9_method_31_code 35 = .ok (.iconst 0, 1) := by decide +kernel
theorem d_R_pool_36 : decode prog_9_method_31_code 36 = .ok (.goto 14, 3) := by decide +kernel
theorem d_R_pool_39 : decode prog_9_method_31_code 39 = .ok (.aload_n 0, 1) := by decide +kernel
theorem d_R_pool_40 : decode prog_9_method_31_code 40 = .ok (.getfield 16, 3) := by decide +kernel
theorem d_R_pool_43 : decode prog_9_method_31_code 43 = .ok (.bipush 6, 2) := by decide +kernel
theorem d_R_pool_45 : decode prog_9_method_31_code 45 = .ok (.iload_n 3, 1) := by decide +kernel
theorem d_R_pool_46 : decode prog_9_method_31_code 46 = .ok (.imul, 1) := by decide +kernel
theorem d_R_pool_47 : decode prog_9_method_31_code 47 = .ok (.iload_n 2, 1) := by decide +kernel
theorem d_R_pool_48 : decode prog_9_method_31_code 48 = .ok (.iadd, 1) := by decide +kernel
theorem d_R_pool_49 : decode prog_9_method_31_code 49 = .ok (.iaload, 1) := by decide +kernel
theorem d_R_pool_50 : decode prog_9_method_31_code 50 = .ok (.ireturn, 1) := by decide +kernel
theorem d_R_constantAt_0 : decode prog_9_method_32_code 0 = .ok (.iload_n 1, 1) := by decide +kernel
theorem d_R_constantAt_1 : decode prog_9_method_32_code 1 = .ok (.ifCond .eq 7, 3) := by decide +kernel
theorem d_R_constantAt_4 : decode prog_9_method_32_code 4 = .ok (.iconst 1, 1) := by decide +kernel
theorem d_R_constantAt_5 : decode prog_9_method_32_code 5 = .ok (.goto 4, 3) := by decide +kernel
theorem d_R_constantAt_8 : decode prog_9_method_32_code 8 = .ok (.iconst 0, 1) := by decide +kernel
theorem d_R_constantAt_9 : decode prog_9_method_32_code 9 = .ok (.istore 5, 2) := by decide +kernel
theorem d_R_constantAt_11 : decode prog_9_method_32_code 11 = .ok (.aload_n 0, 1) := by decide +kernel
theorem d_R_constantAt_12 : decode prog_9_method_32_code 12 = .ok (.aload_n 0, 1) := by decide +kernel
theorem d_R_constantAt_13 : decode prog_9_method_32_code 13 = .ok (.iload 5, 2) := by decide +kernel
theorem d_R_constantAt_15 : decode prog_9_method_32_code 15 = .ok (.iload_n 2, 1) := by decide +kernel
theorem d_R_constantAt_16 : decode prog_9_method_32_code 16 = .ok (.invokevirtual 104, 3) := by decide +kernel
theorem d_R_constantAt_19 : decode prog_9_method_32_code 19 = .ok (.ifCond .ne 23, 3) := by decide +kernel
theorem d_R_constantAt_22 : decode prog_9_method_32_code 22 = .ok (.iload_n 3, 1) := by decide +kernel
theorem d_R_constantAt_23 : decode prog_9_method_32_code 23 = .ok (.ifCond .lt 19, 3) := by decide +kernel
theorem d_R_constantAt_26 : decode prog_9_method_32_code 26 = .ok (.iload_n 3, 1) := by decide +kernel
theorem d_R_constantAt_27 : decode prog_9_method_32_code 27 = .ok (.aload_n 0, 1) := by decide +kernel
theorem d_R_constantAt_28 : decode prog_9_method_32_code 28 = .ok (.getfield 16, 3) := by decide +kernel
theorem d_R_constantAt_31 : decode prog_9_method_32_code 31 = .ok (.bipush 6, 2) := by decide +kernel
theorem d_R_constantAt_33 : decode prog_9_method_32_code 33 = .ok (.iload 5, 2) := by decide +kernel
theorem d_R_constantAt_35 : decode prog_9_method_32_code 35 = .ok (.imul, 1) := by decide +kernel
theorem d_R_constantAt_36 : decode prog_9_method_32_code 36 = .ok (.iload_n 2, 1) := by decide +kernel
theorem d_R_constantAt_37 : decode prog_9_method_32_code 37 = .ok (.iadd, 1) := by decide +kernel
theorem d_R_constantAt_38 : decode prog_9_method_32_code 38 = .ok (.iaload, 1) := by decide +kernel
theorem d_R_constantAt_39 : decode prog_9_method_32_code 39 = .ok (.if_icmp .lt 7, 3) := by decide +kernel
theorem d_R_constantAt_42 : decode prog_9_method_32_code 42 = .ok (.iconst 1, 1) := by decide +kernel
theorem d_R_constantAt_43 : decode prog_9_method_32_code 43 = .ok (.goto 19, 3) := by decide +kernel
theorem d_R_constantAt_46 : decode prog_9_method_32_code 46 = .ok (.iload 4, 2) := by decide +kernel
theorem d_R_constantAt_48 : decode prog_9_method_32_code 48 = .ok (.ifCond .lt 9, 3) := by decide +kernel
theorem d_R_constantAt_51 : decode prog_9_method_32_code 51 = .ok (.iload 4, 2) := by decide +kernel
theorem d_R_constantAt_53 : decode prog_9_method_32_code 53 = .ok (.iconst 2, 1) := by decide +kernel
theorem d_R_constantAt_54 : decode prog_9_method_32_code 54 = .ok (.if_icmp .le 7, 3) := by decide +kernel
theorem d_R_constantAt_57 : decode prog_9_method_32_code 57 = .ok (.iconst 2, 1) := by decide +kernel
theorem d_R_constantAt_58 : decode prog_9_method_32_code 58 = .ok (.goto 4, 3) := by decide +kernel
theorem d_R_constantAt_61 : decode prog_9_method_32_code 61 = .ok (.iconst 0, 1) := by decide +kernel
theorem d_R_constantAt_62 : decode prog_9_method_32_code 62 = .ok (.putfield 92, 3) := by decide +kernel
theorem d_R_constantAt_65 : decode prog_9_method_32_code 65 = .ok (.aload_n 0, 1) := by decide +kernel
theorem d_R_constantAt_66 : decode prog_9_method_32_code 66 = .ok (.getfield 92, 3) := by decide +kernel
theorem d_R_constantAt_69 : decode prog_9_method_32_code 69 = .ok (.ifCond .le 5, 3) := by decide +kernel
theorem d_R_constantAt_72 : decode prog_9_method_32_code 72 = .ok (.iconst 0, 1) := by decide +kernel
theorem d_R_constantAt_73 : decode prog_9_method_32_code 73 = .ok (.ireturn, 1) := by decide +kernel
theorem d_R_constantAt_74 : decode prog_9_method_32_code 74 = .ok (.iload 5, 2) := by decide +kernel
theorem d_R_constantAt_76 : decode prog_9_method_32_code 76 = .ok (.iload_n 2, 1) := by decide +kernel
theorem d_R_constantAt_77 : decode prog_9_method_32_code 77 = .ok (.invokestatic 100, 3) := by decide +kernel
theorem d_R_constantAt_80 : decode prog_9_method_32_code 80 = .ok (.iload_n 3, 1) := by decide +kernel
theorem d_R_constantAt_81 : decode prog_9_method_32_code 81 = .ok (.iadd, 1) := by decide +kernel
theorem d_R_constantAt_82 : decode prog_9_method_32_code 82 = .ok (.istore 6, 2) := by decide +kernel
theorem d_R_constantAt_84 : decode prog_9_method_32_code 84 = .ok (.iload 4, 2) := by decide +kernel
theorem d_R_constantAt_86 : decode prog_9_method_32_code 86 = .ok (.ifCond .ne 13, 3) := by decide +kernel
theorem d_R_constantAt_89 : decode prog_9_method_32_code 89 = .ok (.aload_n 0, 1) := by decide +kernel
theorem d_R_constantAt_90 : decode prog_9_method_32_code 90 = .ok (.getfield 19, 3) := by decide +kernel
theorem d_R_constantAt_93 : decode prog_9_method_32_code 93 = .ok (.iload 6, 2) := by decide +kernel
theorem d_R_constantAt_95 : decode prog_9_method_32_code 95 = .ok (.iaload, 1) := by decide +kernel
theorem d_R_constantAt_96 : decode prog_9_method_32_code 96 = .ok (.goto 26, 3) := by decide +kernel
theorem d_R_constantAt_99 : decode prog_9_method_32_code 99 = .ok (.iload 4, 2) := by decide +kernel
theorem d_R_constantAt_101 : decode prog_9_method_32_code 101 = .ok (.iconst 1, 1) := by decide +kernel
theorem d_R_constantAt_102 : decode prog_9_method_32_code 102 = .ok (.if_icmp .ne 13, 3) := by decide +kernel
theorem d_R_constantAt_105 : decode prog_9_method_32_code 105 = .ok (.aload_n 0, 1) := by decide +kernel
theorem d_R_constantAt_106 : decode prog_9_method_32_code 106 = .ok (.getfield 22, 3) := by decide +kernel
theorem d_R_constantAt_109 : decode prog_9_method_32_code 109 = .ok (.iload 6, 2) := by decide +kernel
theorem d_R_constantAt_111 : decode prog_9_method_32_code 111 = .ok (.iaload, 1) := by decide +kernel
theorem d_R_constantAt_112 : decode prog_9_method_32_code 112 = .ok (.goto 10, 3) := by decide +kernel
theorem d_R_constantAt_115 : decode prog_9_method_32_code 115 = .ok (.aload_n 0, 1) := by decide +kernel
theorem d_R_constantAt_116 : decode prog_9_method_32_code 116 = .ok (.getfield 25, 3) := by decide +kernel
theorem d_R_constantAt_119 : decode prog_9_method_32_code 119 = .ok (.iload 6, 2) := by decide +kernel
theorem d_R_constantAt_121 : decode prog_9_method_32_code 121 = .ok (.iaload, 1) := by decide +kernel
theorem d_R_constantAt_122 : decode prog_9_method_32_code 122 = .ok (.ireturn, 1) := by decide +kernel
theorem d_R_memberAt_0 : decode prog_9_method_33_code 0 = .ok (.iload_n 1, 1) := by decide +kernel
theorem d_R_memberAt_1 : decode prog_9_method_33_code 1 = .ok (.ifCond .eq 7, 3) := by decide +kernel
theorem d_R_memberAt_4 : decode prog_9_method_33_code 4 = .ok (.iconst 1, 1) := by decide +kernel
theorem d_R_memberAt_5 : decode prog_9_method_33_code 5 = .ok (.goto 4, 3) := by decide +kernel
theorem d_R_memberAt_8 : decode prog_9_method_33_code 8 = .ok (.iconst 0, 1) := by decide +kernel
theorem d_R_memberAt_9 : decode prog_9_method_33_code 9 = .ok (.istore 4, 2) := by decide +kernel
theorem d_R_memberAt_11 : decode prog_9_method_33_code 11 = .ok (.aload_n 0, 1) := by decide +kernel
theorem d_R_memberAt_12 : decode prog_9_method_33_code 12 = .ok (.aload_n 0, 1) := by decide +kernel
theorem d_R_memberAt_13 : decode prog_9_method_33_code 13 = .ok (.iload 4, 2) := by decide +kernel
theorem d_R_memberAt_15 : decode prog_9_method_33_code 15 = .ok (.iload_n 2, 1) := by decide +kernel
theorem d_R_memberAt_16 : decode prog_9_method_33_code 16 = .ok (.invokevirtual 96, 3) := by decide +kernel
theorem d_R_memberAt_19 : decode prog_9_method_33_code 19 = .ok (.ifCond .eq 7, 3) := by decide +kernel
theorem d_R_memberAt_22 : decode prog_9_method_33_code 22 = .ok (.iconst 1, 1) := by decide +kernel
theorem d_R_memberAt_23 : decode prog_9_method_33_code 23 = .ok (.goto 17, 3) := by decide +kernel
theorem d_R_memberAt_26 : decode prog_9_method_33_code 26 = .ok (.iload_n 3, 1) := by decide +kernel
theorem d_R_memberAt_27 : decode prog_9_method_33_code 27 = .ok (.ifCond .lt 8, 3) := by decide +kernel
theorem d_R_memberAt_30 : decode prog_9_method_33_code 30 = .ok (.iload_n 3, 1) := by decide +kernel
theorem d_R_memberAt_31 : decode prog_9_method_33_code 31 = .ok (.iconst 5, 1) := by decide +kernel
theorem d_R_memberAt_32 : decode prog_9_method_33_code 32 = .ok (.if_icmp .le 7, 3) := by decide +kernel
theorem d_R_memberAt_35 : decode prog_9_method_33_code 35 = .ok (.iconst 2, 1) := by decide +kernel
theorem d_R_memberAt_36 : decode prog_9_method_33_code 36 = .ok (.goto 4, 3) := by decide +kernel
theorem d_R_memberAt_39 : decode prog_9_method_33_code 39 = .ok (.iconst 0, 1) := by decide +kernel
theorem d_R_memberAt_40 : decode prog_9_method_33_code 40 = .ok (.putfield 92, 3) := by decide +kernel
theorem d_R_memberAt_43 : decode prog_9_method_33_code 43 = .ok (.aload_n 0, 1) := by decide +kernel
theorem d_R_memberAt_44 : decode prog_9_method_33_code 44 = .ok (.getfield 92, 3) := by decide +kernel
theorem d_R_memberAt_47 : decode prog_9_method_33_code 47 = .ok (.ifCond .le 5, 3) := by decide +kernel
theorem d_R_memberAt_50 : decode prog_9_method_33_code 50 = .ok (.iconst 0, 1) := by decide +kernel
theorem d_R_memberAt_51 : decode prog_9_method_33_code 51 = .ok (.ireturn, 1) := by decide +kernel
theorem d_R_memberAt_52 : decode prog_9_method_33_code 52 = .ok (.bipush 30, 2) := by decide +kernel
theorem d_R_memberAt_54 : decode prog_9_method_33_code 54 = .ok (.iload 4, 2) := by decide +kernel
theorem d_R_memberAt_56 : decode prog_9_method_33_code 56 = .ok (.imul, 1) := by decide +kernel
theorem d_R_memberAt_57 : decode prog_9_method_33_code 57 = .ok (.iload_n 2, 1) := by decide +kernel
theorem d_R_memberAt_58 : decode prog_9_method_33_code 58 = .ok (.iadd, 1) := by decide +kernel
theorem d_R_memberAt_59 : decode prog_9_method_33_code 59 = .ok (.istore 5, 2) := by decide +kernel
theorem d_R_memberAt_61 : decode prog_9_method_33_code 61 = .ok (.iload_n 3, 1) := by decide +kernel
theorem d_R_memberAt_62 : decode prog_9_method_33_code 62 = .ok (.tableswitch 82 0 4 #[34, 42, 50, 58, 66], 34) := by decide +kernel
theorem d_R_memberAt_96 : decode prog_9_method_33_code 96 = .ok (.aload_n 0, 1) := by decide +kernel
theorem d_R_memberAt_97 : decode prog_9_method_33_code 97 = .ok (.getfield 28, 3) := by decide +kernel
theorem d_R_memberAt_100 : decode prog_9_method_33_code 100 = .ok (.iload 5, 2) := by decide +kernel
theorem d_R_memberAt_102 : decode prog_9_method_33_code 102 = .ok (.iaload, 1) := by decide +kernel
theorem d_R_memberAt_103 : decode prog_9_method_33_code 103 = .ok (.ireturn, 1) := by decide +kernel
theorem d_R_memberAt_104 : decode prog_9_method_33_code 104 = .ok (.aload_n 0, 1) := by decide +kernel
theorem d_R_memberAt_105 : decode prog_9_method_33_code 105 = .ok (.getfield 31, 3) := by decide +kernel
theorem d_R_memberAt_108 : decode prog_9_method_33_code 108 = .ok (.iload 5, 2) := by decide +kernel
theorem d_R_memberAt_110 : decode prog_9_method_33_code 110 = .ok (.iaload, 1) := by decide +kernel
theorem d_R_memberAt_111 : decode prog_9_method_33_code 111 = .ok (.ireturn, 1) := by decide +kernel
theorem d_R_memberAt_112 : decode prog_9_method_33_code 112 = .ok (.aload_n 0, 1) := by decide +kernel
theorem d_R_memberAt_113 : decode prog_9_method_33_code 113 = .ok (.getfield 34, 3) := by decide +kernel
theorem d_R_memberAt_116 : decode prog_9_method_33_code 116 = .ok (.iload 5, 2) := by decide +kernel
theorem d_R_memberAt_118 : decode prog_9_method_33_code 118 = .ok (.iaload, 1) := by decide +kernel
theorem d_R_memberAt_119 : decode prog_9_method_33_code 119 = .ok (.ireturn, 1) := by decide +kernel
theorem d_R_memberAt_120 : decode prog_9_method_33_code 120 = .ok (.aload_n 0, 1) := by decide +kernel
theorem d_R_memberAt_121 : decode prog_9_method_33_code 121 = .ok (.getfield 37, 3) := by decide +kernel
theorem d_R_memberAt_124 : decode prog_9_method_33_code 124 = .ok (.iload 5, 2) := by decide +kernel
theorem d_R_memberAt_126 : decode prog_9_method_33_code 126 = .ok (.iaload, 1) := by decide +kernel
theorem d_R_memberAt_127 : decode prog_9_method_33_code 127 = .ok (.ireturn, 1) := by decide +kernel
theorem d_R_memberAt_128 : decode prog_9_method_33_code 128 = .ok (.aload_n 0, 1) := by decide +kernel
theorem d_R_memberAt_129 : decode prog_9_method_33_code 129 = .ok (.getfield 40, 3) := by decide +kernel
theorem d_R_memberAt_132 : decode prog_9_method_33_code 132 = .ok (.iload 5, 2) := by decide +kernel
theorem d_R_memberAt_134 : decode prog_9_method_33_code 134 = .ok (.baload, 1) := by decide +kernel
theorem d_R_memberAt_135 : decode prog_9_method_33_code 135 = .ok (.ifCond .eq 7, 3) := by decide +kernel
theorem d_R_memberAt_138 : decode prog_9_method_33_code 138 = .ok (.iconst 1, 1) := by decide +kernel
theorem d_R_memberAt_139 : decode prog_9_method_33_code 139 = .ok (.goto 4, 3) := by decide +kernel
theorem d_R_memberAt_142 : decode prog_9_method_33_code 142 = .ok (.iconst 0, 1) := by decide +kernel
theorem d_R_memberAt_143 : decode prog_9_method_33_code 143 = .ok (.ireturn, 1) := by decide +kernel
theorem d_R_memberAt_144 : decode prog_9_method_33_code 144 = .ok (.aload_n 0, 1) := by decide +kernel
theorem d_R_memberAt_145 : decode prog_9_method_33_code 145 = .ok (.iload 4, 2) := by decide +kernel
theorem d_R_memberAt_147 : decode prog_9_method_33_code 147 = .ok (.iload_n 2, 1) := by decide +kernel
theorem d_R_memberAt_148 : decode prog_9_method_33_code 148 = .ok (.invokevirtual 111, 3) := by decide +kernel
theorem d_R_memberAt_151 : decode prog_9_method_33_code 151 = .ok (.ireturn, 1) := by decide +kernel
theorem d_R_codeAt_0 : decode prog_9_method_34_code 0 = .ok (.iload_n 1, 1) := by decide +kernel
theorem d_R_codeAt_1 : decode prog_9_method_34_code 1 = .ok (.ifCond .eq 7, 3) := by decide +kernel
theorem d_R_codeAt_4 : decode prog_9_method_34_code 4 = .ok (.iconst 1, 1) := by decide +kernel
theorem d_R_codeAt_5 : decode prog_9_method_34_code 5 = .ok (.goto 4, 3) := by decide +kernel
theorem d_R_codeAt_8 : decode prog_9_method_34_code 8 = .ok (.iconst 0, 1) := by decide +kernel
theorem d_R_codeAt_9 : decode prog_9_method_34_code 9 = .ok (.istore 4, 2) := by decide +kernel
theorem d_R_codeAt_11 : decode prog_9_method_34_code 11 = .ok (.aload_n 0, 1) := by decide +kernel
theorem d_R_codeAt_12 : decode prog_9_method_34_code 12 = .ok (.aload_n 0, 1) := by decide +kernel
theorem d_R_codeAt_13 : decode prog_9_method_34_code 13 = .ok (.iload 4, 2) := by decide +kernel
theorem d_R_codeAt_15 : decode prog_9_method_34_code 15 = .ok (.iload_n 2, 1) := by decide +kernel
theorem d_R_codeAt_16 : decode prog_9_method_34_code 16 = .ok (.invokevirtual 118, 3) := by decide +kernel
theorem d_R_codeAt_19 : decode prog_9_method_34_code 19 = .ok (.ifCond .ne 23, 3) := by decide +kernel
theorem d_R_codeAt_22 : decode prog_9_method_34_code 22 = .ok (.iload_n 3, 1) := by decide +kernel
theorem d_R_codeAt_23 : decode prog_9_method_34_code 23 = .ok (.ifCond .lt 19, 3) := by decide +kernel
theorem d_R_codeAt_26 : decode prog_9_method_34_code 26 = .ok (.iload_n 3, 1) := by decide +kernel
theorem d_R_codeAt_27 : decode prog_9_method_34_code 27 = .ok (.aload_n 0, 1) := by decide +kernel
theorem d_R_codeAt_28 : decode prog_9_method_34_code 28 = .ok (.getfield 37, 3) := by decide +kernel
theorem d_R_codeAt_31 : decode prog_9_method_34_code 31 = .ok (.bipush 30, 2) := by decide +kernel
theorem d_R_codeAt_33 : decode prog_9_method_34_code 33 = .ok (.iload 4, 2) := by decide +kernel
theorem d_R_codeAt_35 : decode prog_9_method_34_code 35 = .ok (.imul, 1) := by decide +kernel
theorem d_R_codeAt_36 : decode prog_9_method_34_code 36 = .ok (.iload_n 2, 1) := by decide +kernel
theorem d_R_codeAt_37 : decode prog_9_method_34_code 37 = .ok (.iadd, 1) := by decide +kernel
theorem d_R_codeAt_38 : decode prog_9_method_34_code 38 = .ok (.iaload, 1) := by decide +kernel
theorem d_R_codeAt_39 : decode prog_9_method_34_code 39 = .ok (.if_icmp .lt 7, 3) := by decide +kernel
theorem d_R_codeAt_42 : decode prog_9_method_34_code 42 = .ok (.iconst 1, 1) := by decide +kernel
theorem d_R_codeAt_43 : decode prog_9_method_34_code 43 = .ok (.goto 4, 3) := by decide +kernel
theorem d_R_codeAt_46 : decode prog_9_method_34_code 46 = .ok (.iconst 0, 1) := by decide +kernel
theorem d_R_codeAt_47 : decode prog_9_method_34_code 47 = .ok (.putfield 92, 3) := by decide +kernel
theorem d_R_codeAt_50 : decode prog_9_method_34_code 50 = .ok (.aload_n 0, 1) := by decide +kernel
theorem d_R_codeAt_51 : decode prog_9_method_34_code 51 = .ok (.getfield 92, 3) := by decide +kernel
theorem d_R_codeAt_54 : decode prog_9_method_34_code 54 = .ok (.ifCond .le 7, 3) := by decide +kernel
theorem d_R_codeAt_57 : decode prog_9_method_34_code 57 = .ok (.iconst 0, 1) := by decide +kernel
theorem d_R_codeAt_58 : decode prog_9_method_34_code 58 = .ok (.goto 44, 3) := by decide +kernel
theorem d_R_codeAt_61 : decode prog_9_method_34_code 61 = .ok (.sipush 1000, 3) := by decide +kernel
theorem d_R_codeAt_64 : decode prog_9_method_34_code 64 = .ok (.aload_n 0, 1) := by decide +kernel
theorem d_R_codeAt_65 : decode prog_9_method_34_code 65 = .ok (.getfield 44, 3) := by decide +kernel
theorem d_R_codeAt_68 : decode prog_9_method_34_code 68 = .ok (.sipush 600, 3) := by decide +kernel
theorem d_R_codeAt_71 : decode prog_9_method_34_code 71 = .ok (.iload 4, 2) := by decide +kernel
theorem d_R_codeAt_73 : decode prog_9_method_34_code 73 = .ok (.imul, 1) := by decide +kernel
theorem d_R_codeAt_74 : decode prog_9_method_34_code 74 = .ok (.bipush 20, 2) := by decide +kernel
theorem d_R_codeAt_76 : decode prog_9_method_34_code 76 = .ok (.iload_n 2, 1) := by decide +kernel
theorem d_R_codeAt_77 : decode prog_9_method_34_code 77 = .ok (.imul, 1) := by decide +kernel
theorem d_R_codeAt_78 : decode prog_9_method_34_code 78 = .ok (.iadd, 1) := by decide +kernel
theorem d_R_codeAt_79 : decode prog_9_method_34_code 79 = .ok (.iload_n 3, 1) := by decide +kernel
theorem d_R_codeAt_80 : decode prog_9_method_34_code 80 = .ok (.iadd, 1) := by decide +kernel
theorem d_R_codeAt_81 : decode prog_9_method_34_code 81 = .ok (.iaload, 1) := by decide +kernel
theorem d_R_codeAt_82 : decode prog_9_method_34_code 82 = .ok (.imul, 1) := by decide +kernel
theorem d_R_codeAt_83 : decode prog_9_method_34_code 83 = .ok (.aload_n 0, 1) := by decide +kernel
theorem d_R_codeAt_84 : decode prog_9_method_34_code 84 = .ok (.getfield 47, 3) := by decide +kernel
theorem d_R_codeAt_87 : decode prog_9_method_34_code 87 = .ok (.sipush 600, 3) := by decide +kernel
theorem d_R_codeAt_90 : decode prog_9_method_34_code 90 = .ok (.iload 4, 2) := by decide +kernel
theorem d_R_codeAt_92 : decode prog_9_method_34_code 92 = .ok (.imul, 1) := by decide +kernel
theorem d_R_codeAt_93 : decode prog_9_method_34_code 93 = .ok (.bipush 20, 2) := by decide +kernel
theorem d_R_codeAt_95 : decode prog_9_method_34_code 95 = .ok (.iload_n 2, 1) := by decide +kernel
theorem d_R_codeAt_96 : decode prog_9_method_34_code 96 = .ok (.imul, 1) := by decide +kernel
theorem d_R_codeAt_97 : decode prog_9_method_34_code 97 = .ok (.iadd, 1) := by decide +kernel
theorem d_R_codeAt_98 : decode prog_9_method_34_code 98 = .ok (.iload_n 3, 1) := by decide +kernel
theorem d_R_codeAt_99 : decode prog_9_method_34_code 99 = .ok (.iadd, 1) := by decide +kernel
theorem d_R_codeAt_100 : decode prog_9_method_34_code 100 = .ok (.iaload, 1) := by decide +kernel
theorem d_R_codeAt_101 : decode prog_9_method_34_code 101 = .ok (.iadd, 1) := by decide +kernel
theorem d_R_codeAt_102 : decode prog_9_method_34_code 102 = .ok (.ireturn, 1) := by decide +kernel
theorem d_R_moved_0 : decode prog_9_method_35_code 0 = .ok (.aload_n 0, 1) := by decide +kernel
theorem d_R_moved_1 : decode prog_9_method_35_code 1 = .ok (.iconst 0, 1) := by decide +kernel
theorem d_R_moved_2 : decode prog_9_method_35_code 2 = .ok (.putfield 92, 3) := by decide +kernel
theorem d_R_moved_5 : decode prog_9_method_35_code 5 = .ok (.iload_n 1, 1) := by decide +kernel
theorem d_R_moved_6 : decode prog_9_method_35_code 6 = .ok (.ifCond .lt 9, 3) := by decide +kernel
theorem d_R_moved_9 : decode prog_9_method_35_code 9 = .ok (.iload_n 1, 1) := by decide +kernel
theorem d_R_moved_10 : decode prog_9_method_35_code 10 = .ok (.bipush 29, 2) := by decide +kernel
theorem d_R_moved_12 : decode prog_9_method_35_code 12 = .ok (.if_icmp .le 7, 3) := by decide +kernel
theorem d_R_moved_15 : decode prog_9_method_35_code 15 = .ok (.iconst (-1), 1) := by decide +kernel
theorem d_R_moved_16 : decode prog_9_method_35_code 16 = .ok (.goto 9, 3) := by decide +kernel
theorem d_R_moved_19 : decode prog_9_method_35_code 19 = .ok (.aload_n 0, 1) := by decide +kernel
theorem d_R_moved_20 : decode prog_9_method_35_code 20 = .ok (.getfield 50, 3) := by decide +kernel
theorem d_R_moved_23 : decode prog_9_method_35_code 23 = .ok (.iload_n 1, 1) := by decide +kernel
theorem d_R_moved_24 : decode prog_9_method_35_code 24 = .ok (.iaload, 1) := by decide +kernel
theorem d_R_moved_25 : decode prog_9_method_35_code 25 = .ok (.ireturn, 1) := by decide +kernel
theorem d_R_begin_0 : decode prog_9_method_36_code 0 = .ok (.aload_n 0, 1) := by decide +kernel
theorem d_R_begin_1 : decode prog_9_method_36_code 1 = .ok (.getfield 163, 3) := by decide +kernel
theorem d_R_begin_4 : decode prog_9_method_36_code 4 = .ok (.bipush 8, 2) := by decide +kernel
theorem d_R_begin_6 : decode prog_9_method_36_code 6 = .ok (.if_icmp .ne 9, 3) := by decide +kernel
theorem d_R_begin_9 : decode prog_9_method_36_code 9 = .ok (.aload_n 0, 1) := by decide +kernel
theorem d_R_begin_10 : decode prog_9_method_36_code 10 = .ok (.iconst 5, 1) := by decide +kernel
theorem d_R_begin_11 : decode prog_9_method_36_code 11 = .ok (.putfield 92, 3) := by decide +kernel
theorem d_R_begin_14 : decode prog_9_method_36_code 14 = .ok (.return_, 1) := by decide +kernel
theorem d_R_begin_15 : decode prog_9_method_36_code 15 = .ok (.aload_n 0, 1) := by decide +kernel
theorem d_R_begin_16 : decode prog_9_method_36_code 16 = .ok (.getfield 74, 3) := by decide +kernel
theorem d_R_begin_19 : decode prog_9_method_36_code 19 = .ok (.aload_n 0, 1) := by decide +kernel
theorem d_R_begin_20 : decode prog_9_method_36_code 20 = .ok (.getfield 163, 3) := by decide +kernel
theorem d_R_begin_23 : decode prog_9_method_36_code 23 = .ok (.iload_n 1, 1) := by decide +kernel
theorem d_R_begin_24 : decode prog_9_method_36_code 24 = .ok (.iastore, 1) := by decide +kernel
theorem d_R_begin_25 : decode prog_9_method_36_code 25 = .ok (.aload_n 0, 1) := by decide +kernel
theorem d_R_begin_26 : decode prog_9_method_36_code 26 = .ok (.getfield 77, 3) := by decide +kernel
theorem d_R_begin_29 : decode prog_9_method_36_code 29 = .ok (.aload_n 0, 1) := by decide +kernel
theorem d_R_begin_30 : decode prog_9_method_36_code 30 = .ok (.getfield 163, 3) := by decide +kernel
theorem d_R_begin_33 : decode prog_9_method_36_code 33 = .ok (.iconst 0, 1) := by decide +kernel
theorem d_R_begin_34 : decode prog_9_method_36_code 34 = .ok (.iastore, 1) := by decide +kernel
theorem d_R_begin_35 : decode prog_9_method_36_code 35 = .ok (.aload_n 0, 1) := by decide +kernel
theorem d_R_begin_36 : decode prog_9_method_36_code 36 = .ok (.getfield 80, 3) := by decide +kernel
theorem d_R_begin_39 : decode prog_9_method_36_code 39 = .ok (.aload_n 0, 1) := by decide +kernel
theorem d_R_begin_40 : decode prog_9_method_36_code 40 = .ok (.getfield 163, 3) := by decide +kernel
theorem d_R_begin_43 : decode prog_9_method_36_code 43 = .ok (.iload_n 2, 1) := by decide +kernel
theorem d_R_begin_44 : decode prog_9_method_36_code 44 = .ok (.iastore, 1) := by decide +kernel
theorem d_R_begin_45 : decode prog_9_method_36_code 45 = .ok (.aload_n 0, 1) := by decide +kernel
theorem d_R_begin_46 : decode prog_9_method_36_code 46 = .ok (.getfield 83, 3) := by decide +kernel
theorem d_R_begin_49 : decode prog_9_method_36_code 49 = .ok (.aload_n 0, 1) := by decide +kernel
theorem d_R_begin_50 : decode prog_9_method_36_code 50 = .ok (.getfield 163, 3) := by decide +kernel
theorem d_R_begin_53 : decode prog_9_method_36_code 53 = .ok (.iload_n 3, 1) := by decide +kernel
theorem d_R_begin_54 : decode prog_9_method_36_code 54 = .ok (.iastore, 1) := by decide +kernel
theorem d_R_begin_55 : decode prog_9_method_36_code 55 = .ok (.aload_n 0, 1) := by decide +kernel
theorem d_R_begin_56 : decode prog_9_method_36_code 56 = .ok (.getfield 86, 3) := by decide +kernel
theorem d_R_begin_59 : decode prog_9_method_36_code 59 = .ok (.aload_n 0, 1) := by decide +kernel
theorem d_R_begin_60 : decode prog_9_method_36_code 60 = .ok (.getfield 163, 3) := by decide +kernel
theorem d_R_begin_63 : decode prog_9_method_36_code 63 = .ok (.iconst 0, 1) := by decide +kernel
theorem d_R_begin_64 : decode prog_9_method_36_code 64 = .ok (.iastore, 1) := by decide +kernel
theorem d_R_begin_65 : decode prog_9_method_36_code 65 = .ok (.aload_n 0, 1) := by decide +kernel
theorem d_R_begin_66 : decode prog_9_method_36_code 66 = .ok (.dup, 1) := by decide +kernel
theorem d_R_begin_67 : decode prog_9_method_36_code 67 = .ok (.getfield 163, 3) := by decide +kernel
theorem d_R_begin_70 : decode prog_9_method_36_code 70 = .ok (.iconst 1, 1) := by decide +kernel
theorem d_R_begin_71 : decode prog_9_method_36_code 71 = .ok (.iadd, 1) := by decide +kernel
theorem d_R_begin_72 : decode prog_9_method_36_code 72 = .ok (.putfield 163, 3) := by decide +kernel
theorem d_R_begin_75 : decode prog_9_method_36_code 75 = .ok (.return_, 1) := by decide +kernel
theorem d_R_push_0 : decode prog_9_method_37_code 0 = .ok (.aload_n 0, 1) := by decide +kernel
theorem d_R_push_1 : decode prog_9_method_37_code 1 = .ok (.getfield 163, 3) := by decide +kernel
theorem d_R_push_4 : decode prog_9_method_37_code 4 = .ok (.iconst 1, 1) := by decide +kernel
theorem d_R_push_5 : decode prog_9_method_37_code 5 = .ok (.isub, 1) := by decide +kernel
theorem d_R_push_6 : decode prog_9_method_37_code 6 = .ok (.istore_n 2, 1) := by decide +kernel
theorem d_R_push_7 : decode prog_9_method_37_code 7 = .ok (.aload_n 0, 1) := by decide +kernel
theorem d_R_push_8 : decode prog_9_method_37_code 8 = .ok (.getfield 86, 3) := by decide +kernel
theorem d_R_push_11 : decode prog_9_method_37_code 11 = .ok (.iload_n 2, 1) := by decide +kernel
theorem d_R_push_12 : decode prog_9_method_37_code 12 = .ok (.iaload, 1) := by decide +kernel
theorem d_R_push_13 : decode prog_9_method_37_code 13 = .ok (.bipush 8, 2) := by decide +kernel
theorem d_R_push_15 : decode prog_9_method_37_code 15 = .ok (.if_icmp .ne 9, 3) := by decide +kernel
theorem d_R_push_18 : decode prog_9_method_37_code 18 = .ok (.aload_n 0, 1) := by decide +kernel
theorem d_R_push_19 : decode prog_9_method_37_code 19 = .ok (.iconst 5, 1) := by decide +kernel
theorem d_R_push_20 : decode prog_9_method_37_code 20 = .ok (.putfield 92, 3) := by decide +kernel
theorem d_R_push_23 : decode prog_9_method_37_code 23 = .ok (.return_, 1) := by decide +kernel
theorem d_R_push_24 : decode prog_9_method_37_code 24 = .ok (.aload_n 0, 1) := by decide +kernel
theorem d_R_push_25 : decode prog_9_method_37_code 25 = .ok (.getfield 89, 3) := by decide +kernel
theorem d_R_push_28 : decode prog_9_method_37_code 28 = .ok (.bipush 8, 2) := by decide +kernel
theorem d_R_push_30 : decode prog_9_method_37_code 30 = .ok (.iload_n 2, 1) := by decide +kernel
theorem d_R_push_31 : decode prog_9_method_37_code 31 = .ok (.imul, 1) := by decide +kernel
theorem d_R_push_32 : decode prog_9_method_37_code 32 = .ok (.aload_n 0, 1) := by decide +kernel
theorem d_R_push_33 : decode prog_9_method_37_code 33 = .ok (.getfield 86, 3) := by decide +kernel
theorem d_R_push_36 : decode prog_9_method_37_code 36 = .ok (.iload_n 2, 1) := by decide +kernel
theorem d_R_push_37 : decode prog_9_method_37_code 37 = .ok (.iaload, 1) := by decide +kernel
theorem d_R_push_38 : decode prog_9_method_37_code 38 = .ok (.iadd, 1) := by decide +kernel
theorem d_R_push_39 : decode prog_9_method_37_code 39 = .ok (.iload_n 1, 1) := by decide +kernel
theorem d_R_push_40 : decode prog_9_method_37_code 40 = .ok (.iastore, 1) := by decide +kernel
theorem d_R_push_41 : decode prog_9_method_37_code 41 = .ok (.aload_n 0, 1) := by decide +kernel
theorem d_R_push_42 : decode prog_9_method_37_code 42 = .ok (.getfield 86, 3) := by decide +kernel
theorem d_R_push_45 : decode prog_9_method_37_code 45 = .ok (.iload_n 2, 1) := by decide +kernel
theorem d_R_push_46 : decode prog_9_method_37_code 46 = .ok (.dup2, 1) := by decide +kernel
theorem d_R_push_47 : decode prog_9_method_37_code 47 = .ok (.iaload, 1) := by decide +kernel
theorem d_R_push_48 : decode prog_9_method_37_code 48 = .ok (.iconst 1, 1) := by decide +kernel
theorem d_R_push_49 : decode prog_9_method_37_code 49 = .ok (.iadd, 1) := by decide +kernel
theorem d_R_push_50 : decode prog_9_method_37_code 50 = .ok (.iastore, 1) := by decide +kernel
theorem d_R_push_51 : decode prog_9_method_37_code 51 = .ok (.return_, 1) := by decide +kernel
theorem d_R_pop_0 : decode prog_9_method_38_code 0 = .ok (.aload_n 0, 1) := by decide +kernel
theorem d_R_pop_1 : decode prog_9_method_38_code 1 = .ok (.getfield 163, 3) := by decide +kernel
theorem d_R_pop_4 : decode prog_9_method_38_code 4 = .ok (.iconst 1, 1) := by decide +kernel
theorem d_R_pop_5 : decode prog_9_method_38_code 5 = .ok (.isub, 1) := by decide +kernel
theorem d_R_pop_6 : decode prog_9_method_38_code 6 = .ok (.istore_n 1, 1) := by decide +kernel
theorem d_R_pop_7 : decode prog_9_method_38_code 7 = .ok (.aload_n 0, 1) := by decide +kernel
theorem d_R_pop_8 : decode prog_9_method_38_code 8 = .ok (.getfield 92, 3) := by decide +kernel
theorem d_R_pop_11 : decode prog_9_method_38_code 11 = .ok (.ifCond .gt 12, 3) := by decide +kernel
theorem d_R_pop_14 : decode prog_9_method_38_code 14 = .ok (.aload_n 0, 1) := by decide +kernel
theorem d_R_pop_15 : decode prog_9_method_38_code 15 = .ok (.getfield 86, 3) := by decide +kernel
theorem d_R_pop_18 : decode prog_9_method_38_code 18 = .ok (.iload_n 1, 1) := by decide +kernel
theorem d_R_pop_19 : decode prog_9_method_38_code 19 = .ok (.iaload, 1) := by decide +kernel
theorem d_R_pop_20 : decode prog_9_method_38_code 20 = .ok (.ifCond .ne 24, 3) := by decide +kernel
theorem d_R_pop_23 : decode prog_9_method_38_code 23 = .ok (.aload_n 0, 1) := by decide +kernel
theorem d_R_pop_24 : decode prog_9_method_38_code 24 = .ok (.aload_n 0, 1) := by decide +kernel
theorem d_R_pop_25 : decode prog_9_method_38_code 25 = .ok (.getfield 92, 3) := by decide +kernel
theorem d_R_pop_28 : decode prog_9_method_38_code 28 = .ok (.ifCond .le 10, 3) := by decide +kernel
theorem d_R_pop_31 : decode prog_9_method_38_code 31 = .ok (.aload_n 0, 1) := by decide +kernel
theorem d_R_pop_32 : decode prog_9_method_38_code 32 = .ok (.getfield 92, 3) := by decide +kernel
theorem d_R_pop_35 : decode prog_9_method_38_code 35 = .ok (.goto 4, 3) := by decide +kernel
theorem d_R_pop_38 : decode prog_9_method_38_code 38 = .ok (.iconst 5, 1) := by decide +kernel
theorem d_R_pop_39 : decode prog_9_method_38_code 39 = .ok (.putfield 92, 3) := by decide +kernel
theorem d_R_pop_42 : decode prog_9_method_38_code 42 = .ok (.iconst 0, 1) := by decide +kernel
theorem d_R_pop_43 : decode prog_9_method_38_code 43 = .ok (.ireturn, 1) := by decide +kernel
theorem d_R_pop_44 : decode prog_9_method_38_code 44 = .ok (.aload_n 0, 1) := by decide +kernel
theorem d_R_pop_45 : decode prog_9_method_38_code 45 = .ok (.getfield 86, 3) := by decide +kernel
theorem d_R_pop_48 : decode prog_9_method_38_code 48 = .ok (.iload_n 1, 1) := by decide +kernel
theorem d_R_pop_49 : decode prog_9_method_38_code 49 = .ok (.dup2, 1) := by decide +kernel
theorem d_R_pop_50 : decode prog_9_method_38_code 50 = .ok (.iaload, 1) := by decide +kernel
theorem d_R_pop_51 : decode prog_9_method_38_code 51 = .ok (.iconst 1, 1) := by decide +kernel
theorem d_R_pop_52 : decode prog_9_method_38_code 52 = .ok (.isub, 1) := by decide +kernel
theorem d_R_pop_53 : decode prog_9_method_38_code 53 = .ok (.iastore, 1) := by decide +kernel
theorem d_R_pop_54 : decode prog_9_method_38_code 54 = .ok (.aload_n 0, 1) := by decide +kernel
theorem d_R_pop_55 : decode prog_9_method_38_code 55 = .ok (.getfield 89, 3) := by decide +kernel
theorem d_R_pop_58 : decode prog_9_method_38_code 58 = .ok (.bipush 8, 2) := by decide +kernel
theorem d_R_pop_60 : decode prog_9_method_38_code 60 = .ok (.iload_n 1, 1) := by decide +kernel
theorem d_R_pop_61 : decode prog_9_method_38_code 61 = .ok (.imul, 1) := by decide +kernel
theorem d_R_pop_62 : decode prog_9_method_38_code 62 = .ok (.aload_n 0, 1) := by decide +kernel
theorem d_R_pop_63 : decode prog_9_method_38_code 63 = .ok (.getfield 86, 3) := by decide +kernel
theorem d_R_pop_66 : decode prog_9_method_38_code 66 = .ok (.iload_n 1, 1) := by decide +kernel
theorem d_R_pop_67 : decode prog_9_method_38_code 67 = .ok (.iaload, 1) := by decide +kernel
theorem d_R_pop_68 : decode prog_9_method_38_code 68 = .ok (.iadd, 1) := by decide +kernel
theorem d_R_pop_69 : decode prog_9_method_38_code 69 = .ok (.iaload, 1) := by decide +kernel
theorem d_R_pop_70 : decode prog_9_method_38_code 70 = .ok (.ireturn, 1) := by decide +kernel
theorem d_R_call_0 : decode prog_9_method_40_code 0 = .ok (.aload_n 0, 1) := by decide +kernel
theorem d_R_call_1 : decode prog_9_method_40_code 1 = .ok (.getfield 34, 3) := by decide +kernel
theorem d_R_call_4 : decode prog_9_method_40_code 4 = .ok (.bipush 30, 2) := by decide +kernel
theorem d_R_call_6 : decode prog_9_method_40_code 6 = .ok (.iload_n 1, 1) := by decide +kernel
theorem d_R_call_7 : decode prog_9_method_40_code 7 = .ok (.imul, 1) := by decide +kernel
theorem d_R_call_8 : decode prog_9_method_40_code 8 = .ok (.iload_n 2, 1) := by decide +kernel
theorem d_R_call_9 : decode prog_9_method_40_code 9 = .ok (.iadd, 1) := by decide +kernel
theorem d_R_call_10 : decode prog_9_method_40_code 10 = .ok (.iaload, 1) := by decide +kernel
theorem d_R_call_11 : decode prog_9_method_40_code 11 = .ok (.istore_n 3, 1) := by decide +kernel
theorem d_R_call_12 : decode prog_9_method_40_code 12 = .ok (.iload_n 3, 1) := by decide +kernel
theorem d_R_call_13 : decode prog_9_method_40_code 13 = .ok (.iconst 2, 1) := by decide +kernel
theorem d_R_call_14 : decode prog_9_method_40_code 14 = .ok (.if_icmp .ne 10, 3) := by decide +kernel
theorem d_R_call_17 : decode prog_9_method_40_code 17 = .ok (.aload_n 0, 1) := by decide +kernel
theorem d_R_call_18 : decode prog_9_method_40_code 18 = .ok (.invokevirtual 166, 3) := by decide +kernel
theorem d_R_call_21 : decode prog_9_method_40_code 21 = .ok (.goto 4, 3) := by decide +kernel
theorem d_R_call_24 : decode prog_9_method_40_code 24 = .ok (.iconst 0, 1) := by decide +kernel
theorem d_R_call_25 : decode prog_9_method_40_code 25 = .ok (.istore 4, 2) := by decide +kernel
theorem d_R_call_27 : decode prog_9_method_40_code 27 = .ok (.iload_n 3, 1) := by decide +kernel
theorem d_R_call_28 : decode prog_9_method_40_code 28 = .ok (.ifCond .le 10, 3) := by decide +kernel
theorem d_R_call_31 : decode prog_9_method_40_code 31 = .ok (.aload_n 0, 1) := by decide +kernel
theorem d_R_call_32 : decode prog_9_method_40_code 32 = .ok (.invokevirtual 166, 3) := by decide +kernel
theorem d_R_call_35 : decode prog_9_method_40_code 35 = .ok (.goto 4, 3) := by decide +kernel
theorem d_R_call_38 : decode prog_9_method_40_code 38 = .ok (.iconst 0, 1) := by decide +kernel
theorem d_R_call_39 : decode prog_9_method_40_code 39 = .ok (.istore 5, 2) := by decide +kernel
theorem d_R_call_41 : decode prog_9_method_40_code 41 = .ok (.aload_n 0, 1) := by decide +kernel
theorem d_R_call_42 : decode prog_9_method_40_code 42 = .ok (.getfield 92, 3) := by decide +kernel
theorem d_R_call_45 : decode prog_9_method_40_code 45 = .ok (.ifCond .ne 12, 3) := by decide +kernel
theorem d_R_call_48 : decode prog_9_method_40_code 48 = .ok (.aload_n 0, 1) := by decide +kernel
theorem d_R_call_49 : decode prog_9_method_40_code 49 = .ok (.iload_n 2, 1) := by decide +kernel
theorem d_R_call_50 : decode prog_9_method_40_code 50 = .ok (.iload 5, 2) := by decide +kernel
theorem d_R_call_52 : decode prog_9_method_40_code 52 = .ok (.iload 4, 2) := by decide +kernel
theorem d_R_call_54 : decode prog_9_method_40_code 54 = .ok (.invokevirtual 172, 3) := by decide +kernel
theorem d_R_call_57 : decode prog_9_method_40_code 57 = .ok (.return_, 1) := by decide +kernel
theorem d_R_arithmetic_0 : decode prog_9_method_39_code 0 = .ok (.aload_n 0, 1) := by decide +kernel
theorem d_R_arithmetic_1 : decode prog_9_method_39_code 1 = .ok (.invokevirtual 166, 3) := by decide +kernel
theorem d_R_arithmetic_4 : decode prog_9_method_39_code 4 = .ok (.istore_n 2, 1) := by decide +kernel
theorem d_R_arithmetic_5 : decode prog_9_method_39_code 5 = .ok (.aload_n 0, 1) := by decide +kernel
theorem d_R_arithmetic_6 : decode prog_9_method_39_code 6 = .ok (.invokevirtual 166, 3) := by decide +kernel
theorem d_R_arithmetic_9 : decode prog_9_method_39_code 9 = .ok (.istore_n 3, 1) := by decide +kernel
theorem d_R_arithmetic_10 : decode prog_9_method_39_code 10 = .ok (.aload_n 0, 1) := by decide +kernel
theorem d_R_arithmetic_11 : decode prog_9_method_39_code 11 = .ok (.getfield 92, 3) := by decide +kernel
theorem d_R_arithmetic_14 : decode prog_9_method_39_code 14 = .ok (.ifCond .le 4, 3) := by decide +kernel
theorem d_R_arithmetic_17 : decode prog_9_method_39_code 17 = .ok (.return_, 1) := by decide +kernel
theorem d_R_arithmetic_18 : decode prog_9_method_39_code 18 = .ok (.iload_n 1, 1) := by decide +kernel
theorem d_R_arithmetic_19 : decode prog_9_method_39_code 19 = .ok (.bipush 8, 2) := by decide +kernel
theorem d_R_arithmetic_21 : decode prog_9_method_39_code 21 = .ok (.if_icmp .ne 13, 3) := by decide +kernel
theorem d_R_arithmetic_24 : decode prog_9_method_39_code 24 = .ok (.iload_n 2, 1) := by decide +kernel
theorem d_R_arithmetic_25 : decode prog_9_method_39_code 25 = .ok (.ifCond .ne 9, 3) := by decide +kernel
theorem d_R_arithmetic_28 : decode prog_9_method_39_code 28 = .ok (.aload_n 0, 1) := by decide +kernel
theorem d_R_arithmetic_29 : decode prog_9_method_39_code 29 = .ok (.iconst 3, 1) := by decide +kernel
theorem d_R_arithmetic_30 : decode prog_9_method_39_code 30 = .ok (.putfield 92, 3) := by decide +kernel
theorem d_R_arithmetic_33 : decode prog_9_method_39_code 33 = .ok (.return_, 1) := by decide +kernel
theorem d_R_arithmetic_34 : decode prog_9_method_39_code 34 = .ok (.aload_n 0, 1) := by decide +kernel
theorem d_R_arithmetic_35 : decode prog_9_method_39_code 35 = .ok (.iload_n 1, 1) := by decide +kernel
theorem d_R_arithmetic_36 : decode prog_9_method_39_code 36 = .ok (.iconst 5, 1) := by decide +kernel
theorem d_R_arithmetic_37 : decode prog_9_method_39_code 37 = .ok (.if_icmp .ne 9, 3) := by decide +kernel
theorem d_R_arithmetic_40 : decode prog_9_method_39_code 40 = .ok (.iload_n 3, 1) := by decide +kernel
theorem d_R_arithmetic_41 : decode prog_9_method_39_code 41 = .ok (.iload_n 2, 1) := by decide +kernel
theorem d_R_arithmetic_42 : decode prog_9_method_39_code 42 = .ok (.iadd, 1) := by decide +kernel
theorem d_R_arithmetic_43 : decode prog_9_method_39_code 43 = .ok (.goto 41, 3) := by decide +kernel
theorem d_R_arithmetic_46 : decode prog_9_method_39_code 46 = .ok (.iload_n 1, 1) := by decide +kernel
theorem d_R_arithmetic_47 : decode prog_9_method_39_code 47 = .ok (.bipush 6, 2) := by decide +kernel
theorem d_R_arithmetic_49 : decode prog_9_method_39_code 49 = .ok (.if_icmp .ne 9, 3) := by decide +kernel
theorem d_R_arithmetic_52 : decode prog_9_method_39_code 52 = .ok (.iload_n 3, 1) := by decide +kernel
theorem d_R_arithmetic_53 : decode prog_9_method_39_code 53 = .ok (.iload_n 2, 1) := by decide +kernel
theorem d_R_arithmetic_54 : decode prog_9_method_39_code 54 = .ok (.isub, 1) := by decide +kernel
theorem d_R_arithmetic_55 : decode prog_9_method_39_code 55 = .ok (.goto 29, 3) := by decide +kernel
theorem d_R_arithmetic_58 : decode prog_9_method_39_code 58 = .ok (.iload_n 1, 1) := by decide +kernel
theorem d_R_arithmetic_59 : decode prog_9_method_39_code 59 = .ok (.bipush 7, 2) := by decide +kernel
theorem d_R_arithmetic_61 : decode prog_9_method_39_code 61 = .ok (.if_icmp .ne 9, 3) := by decide +kernel
theorem d_R_arithmetic_64 : decode prog_9_method_39_code 64 = .ok (.iload_n 3, 1) := by decide +kernel
theorem d_R_arithmetic_65 : decode prog_9_method_39_code 65 = .ok (.iload_n 2, 1) := by decide +kernel
theorem d_R_arithmetic_66 : decode prog_9_method_39_code 66 = .ok (.imul, 1) := by decide +kernel
theorem d_R_arithmetic_67 : decode prog_9_method_39_code 67 = .ok (.goto 17, 3) := by decide +kernel
theorem d_R_arithmetic_70 : decode prog_9_method_39_code 70 = .ok (.iload_n 2, 1) := by decide +kernel
theorem d_R_arithmetic_71 : decode prog_9_method_39_code 71 = .ok (.iconst (-1), 1) := by decide +kernel
theorem d_R_arithmetic_72 : decode prog_9_method_39_code 72 = .ok (.if_icmp .ne 9, 3) := by decide +kernel
theorem d_R_arithmetic_75 : decode prog_9_method_39_code 75 = .ok (.iconst 0, 1) := by decide +kernel
theorem d_R_arithmetic_76 : decode prog_9_method_39_code 76 = .ok (.iload_n 3, 1) := by decide +kernel
theorem d_R_arithmetic_77 : decode prog_9_method_39_code 77 = .ok (.isub, 1) := by decide +kernel
theorem d_R_arithmetic_78 : decode prog_9_method_39_code 78 = .ok (.goto 6, 3) := by decide +kernel
theorem d_R_arithmetic_81 : decode prog_9_method_39_code 81 = .ok (.iload_n 3, 1) := by decide +kernel
theorem d_R_arithmetic_82 : decode prog_9_method_39_code 82 = .ok (.iload_n 2, 1) := by decide +kernel
theorem d_R_arithmetic_83 : decode prog_9_method_39_code 83 = .ok (.idiv, 1) := by decide +kernel
theorem d_R_arithmetic_84 : decode prog_9_method_39_code 84 = .ok (.invokevirtual 169, 3) := by decide +kernel
theorem d_R_arithmetic_87 : decode prog_9_method_39_code 87 = .ok (.return_, 1) := by decide +kernel
def g_R_pool_25 (v0 : Nat) (v2 : Int32) (v3 : Int32) (s0 : Nat) (s1 : Int32) (M : XM) : XP :=
    uI M 27 s0 0 s1 fun M1 =>
    gI M1 27 v0 0 fun t2 =>
    if t2 ≤ 0 then
    (gR M1 27 v0 3 fun t3 =>
    aI M1 t3 ((6 * v3) + v2) fun t4 =>
    some (.inl (some (.int t4)), M1))
    else
    some (.inl (some (.int 0)), M1)
def g_R_pool_9 (v0 : Nat) (v2 : Int32) (s0 : Int32) (M : XM) : XP :=
    rv M 27 v0 <|
    cI (g_R_noClass v0 s0 v2 M) fun t3 M2 =>
    if t3 = 0 then
    (g_R_pool_25 v0 v2 s0 v0 0 M2)
    else
    g_R_pool_25 v0 v2 s0 v0 1 M2
def g_R_pool (v0 : Nat) (v1 : Int32) (v2 : Int32) (M : XM) : XP :=
    if v1 = 0 then
    (g_R_pool_9 v0 v2 0 M)
    else
    g_R_pool_9 v0 v2 1 M
def g_R_constantAt_62 (v0 : Nat) (v2 : Int32) (v3 : Int32) (v4 : Int32) (v5 : Int32) (s0 : Nat) (s1 : Int32) (M : XM) : XP :=
    uI M 27 s0 0 s1 fun M1 =>
    gI M1 27 v0 0 fun t2 =>
    if t2 ≤ 0 then
    (cI (g_R_base v5 v2 M1) fun t4 M3 =>
    if ¬ v4 = 0 then
    (if ¬ v4 = 1 then
    (gR M3 27 v0 6 fun t5 =>
    aI M3 t5 (t4 + v3) fun t6 =>
    some (.inl (some (.int t6)), M3))
    else
    gR M3 27 v0 5 fun t7 =>
    aI M3 t7 (t4 + v3) fun t8 =>
    some (.inl (some (.int t8)), M3))
    else
    gR M3 27 v0 4 fun t9 =>
    aI M3 t9 (t4 + v3) fun t10 =>
    some (.inl (some (.int t10)), M3))
    else
    some (.inl (some (.int 0)), M1)
def g_R_constantAt_42 (v0 : Nat) (v2 : Int32) (v3 : Int32) (v4 : Int32) (v5 : Int32) (s0 : Nat) (M : XM) : XP :=
    g_R_constantAt_62 v0 v2 v3 v4 v5 s0 1 M
def g_R_constantAt_57 (v0 : Nat) (v2 : Int32) (v3 : Int32) (v4 : Int32) (v5 : Int32) (s0 : Nat) (M : XM) : XP :=
    g_R_constantAt_62 v0 v2 v3 v4 v5 s0 2 M
def g_R_constantAt_9 (v0 : Nat) (v2 : Int32) (v3 : Int32) (v4 : Int32) (s0 : Int32) (M : XM) : XP :=
    rv M 27 v0 <|
    cI (g_R_noClass v0 s0 v2 M) fun t3 M2 =>
    if ¬ t3 = 0 then
    (g_R_constantAt_42 v0 v2 v3 v4 s0 v0 M2)
    else
    if v3 < 0 then
    (g_R_constantAt_42 v0 v2 v3 v4 s0 v0 M2)
    else
    gR M2 27 v0 3 fun t4 =>
    aI M2 t4 ((6 * s0) + v2) fun t5 =>
    if v3 < t5 then
    (if v4 < 0 then
    (g_R_constantAt_57 v0 v2 v3 v4 s0 v0 M2)
    else
    if v4 ≤ 2 then
    (g_R_constantAt_62 v0 v2 v3 v4 s0 v0 0 M2)
    else
    g_R_constantAt_57 v0 v2 v3 v4 s0 v0 M2)
    else
    g_R_constantAt_42 v0 v2 v3 v4 s0 v0 M2
def g_R_constantAt (v0 : Nat) (v1 : Int32) (v2 : Int32) (v3 : Int32) (v4 : Int32) (M : XM) : XP :=
    if v1 = 0 then
    (g_R_constantAt_9 v0 v2 v3 v4 0 M)
    else
    g_R_constantAt_9 v0 v2 v3 v4 1 M
def g_R_memberAt_40 (v0 : Nat) (v2 : Int32) (v3 : Int32) (v4 : Int32) (s0 : Nat) (s1 : Int32) (M : XM) : XP :=
    uI M 27 s0 0 s1 fun M1 =>
    gI M1 27 v0 0 fun t2 =>
    if t2 ≤ 0 then
    (if v3 = 0 then
    (gR M1 27 v0 7 fun t14 =>
    aI M1 t14 ((30 * v4) + v2) fun t15 =>
    some (.inl (some (.int t15)), M1))
    else
    if v3 = 1 then
    (gR M1 27 v0 8 fun t12 =>
    aI M1 t12 ((30 * v4) + v2) fun t13 =>
    some (.inl (some (.int t13)), M1))
    else
    if v3 = 2 then
    (gR M1 27 v0 9 fun t10 =>
    aI M1 t10 ((30 * v4) + v2) fun t11 =>
    some (.inl (some (.int t11)), M1))
    else
    if v3 = 3 then
    (gR M1 27 v0 10 fun t8 =>
    aI M1 t8 ((30 * v4) + v2) fun t9 =>
    some (.inl (some (.int t9)), M1))
    else
    if v3 = 4 then
    (gR M1 27 v0 11 fun t6 =>
    aZ M1 t6 ((30 * v4) + v2) fun t7 =>
    if t7 = 0 then
    (some (.inl (some (.int 0)), M1))
    else
    some (.inl (some (.int 1)), M1))
    else
    rv M1 27 v0 <|
    cI (g_R_nameOf v0 v4 v2 M1) fun t5 M4 =>
    some (.inl (some (.int t5)), M4))
    else
    some (.inl (some (.int 0)), M1)
def g_R_memberAt_35 (v0 : Nat) (v2 : Int32) (v3 : Int32) (v4 : Int32) (s0 : Nat) (M : XM) : XP :=
    g_R_memberAt_40 v0 v2 v3 v4 s0 2 M
def g_R_memberAt_9 (v0 : Nat) (v2 : Int32) (v3 : Int32) (s0 : Int32) (M : XM) : XP :=
    rv M 27 v0 <|
    cI (g_R_noMember v0 s0 v2 M) fun t3 M2 =>
    if t3 = 0 then
    (if v3 < 0 then
    (g_R_memberAt_35 v0 v2 v3 s0 v0 M2)
    else
    if v3 ≤ 5 then
    (g_R_memberAt_40 v0 v2 v3 s0 v0 0 M2)
    else
    g_R_memberAt_35 v0 v2 v3 s0 v0 M2)
    else
    g_R_memberAt_40 v0 v2 v3 s0 v0 1 M2
def g_R_memberAt (v0 : Nat) (v1 : Int32) (v2 : Int32) (v3 : Int32) (M : XM) : XP :=
    if v1 = 0 then
    (g_R_memberAt_9 v0 v2 v3 0 M)
    else
    g_R_memberAt_9 v0 v2 v3 1 M
def g_R_codeAt_47 (v0 : Nat) (v2 : Int32) (v3 : Int32) (v4 : Int32) (s0 : Nat) (s1 : Int32) (M : XM) : XP :=
    uI M 27 s0 0 s1 fun M1 =>
    gI M1 27 v0 0 fun t2 =>
    if t2 ≤ 0 then
    (gR M1 27 v0 12 fun t3 =>
    aI M1 t3 (((600 * v4) + (20 * v2)) + v3) fun t4 =>
    gR M1 27 v0 13 fun t5 =>
    aI M1 t5 (((600 * v4) + (20 * v2)) + v3) fun t6 =>
    some (.inl (some (.int ((1000 * t4) + t6))), M1))
    else
    some (.inl (some (.int 0)), M1)
def g_R_codeAt_42 (v0 : Nat) (v2 : Int32) (v3 : Int32) (v4 : Int32) (s0 : Nat) (M : XM) : XP :=
    g_R_codeAt_47 v0 v2 v3 v4 s0 1 M
def g_R_codeAt_9 (v0 : Nat) (v2 : Int32) (v3 : Int32) (s0 : Int32) (M : XM) : XP :=
    rv M 27 v0 <|
    cI (g_R_noMethod v0 s0 v2 M) fun t3 M2 =>
    if ¬ t3 = 0 then
    (g_R_codeAt_42 v0 v2 v3 s0 v0 M2)
    else
    if v3 < 0 then
    (g_R_codeAt_42 v0 v2 v3 s0 v0 M2)
    else
    gR M2 27 v0 10 fun t4 =>
    aI M2 t4 ((30 * s0) + v2) fun t5 =>
    if v3 < t5 then
    (g_R_codeAt_47 v0 v2 v3 s0 v0 0 M2)
    else
    g_R_codeAt_42 v0 v2 v3 s0 v0 M2
def g_R_codeAt (v0 : Nat) (v1 : Int32) (v2 : Int32) (v3 : Int32) (M : XM) : XP :=
    if v1 = 0 then
    (g_R_codeAt_9 v0 v2 v3 0 M)
    else
    g_R_codeAt_9 v0 v2 v3 1 M
def g_R_moved (v0 : Nat) (v1 : Int32) (M : XM) : XP :=
    uI M 27 v0 0 0 fun M1 =>
    if v1 < 0 then
    (some (.inl (some (.int (-1))), M1))
    else
    if v1 ≤ 29 then
    (gR M1 27 v0 14 fun t2 =>
    aI M1 t2 v1 fun t3 =>
    some (.inl (some (.int t3)), M1))
    else
    some (.inl (some (.int (-1))), M1)
def g_R_begin (v0 : Nat) (v1 : Int32) (v2 : Int32) (v3 : Int32) (M : XM) : XP :=
    gI M 27 v0 22 fun t1 =>
    if ¬ t1 = 8 then
    (gR M 27 v0 23 fun t2 =>
    gI M 27 v0 22 fun t3 =>
    sI M t2 t3 v1 fun M4 =>
    gR M4 27 v0 24 fun t5 =>
    gI M4 27 v0 22 fun t6 =>
    sI M4 t5 t6 0 fun M7 =>
    gR M7 27 v0 25 fun t8 =>
    gI M7 27 v0 22 fun t9 =>
    sI M7 t8 t9 v2 fun M10 =>
    gR M10 27 v0 26 fun t11 =>
    gI M10 27 v0 22 fun t12 =>
    sI M10 t11 t12 v3 fun M13 =>
    gR M13 27 v0 27 fun t14 =>
    gI M13 27 v0 22 fun t15 =>
    sI M13 t14 t15 0 fun M16 =>
    gI M16 27 v0 22 fun t17 =>
    uI M16 27 v0 22 (t17 + 1) fun M18 =>
    some (.inl none, M18))
    else
    uI M 27 v0 0 5 fun M19 =>
    some (.inl none, M19)
def g_R_push (v0 : Nat) (v1 : Int32) (M : XM) : XP :=
    gI M 27 v0 22 fun t1 =>
    gR M 27 v0 27 fun t2 =>
    aI M t2 (t1 - 1) fun t3 =>
    if ¬ t3 = 8 then
    (gR M 27 v0 28 fun t4 =>
    gR M 27 v0 27 fun t5 =>
    aI M t5 (t1 - 1) fun t6 =>
    sI M t4 ((8 * (t1 - 1)) + t6) v1 fun M7 =>
    gR M7 27 v0 27 fun t8 =>
    aI M7 t8 (t1 - 1) fun t9 =>
    sI M7 t8 (t1 - 1) (t9 + 1) fun M10 =>
    some (.inl none, M10))
    else
    uI M 27 v0 0 5 fun M11 =>
    some (.inl none, M11)
def g_R_pop_23 (v0 : Nat) (M : XM) : XP :=
    gI M 27 v0 0 fun t1 =>
    if t1 ≤ 0 then
    (uI M 27 v0 0 5 fun M2 =>
    some (.inl (some (.int 0)), M2))
    else
    gI M 27 v0 0 fun t3 =>
    uI M 27 v0 0 t3 fun M4 =>
    some (.inl (some (.int 0)), M4)
def g_R_pop (v0 : Nat) (M : XM) : XP :=
    gI M 27 v0 22 fun t1 =>
    gI M 27 v0 0 fun t2 =>
    if 0 < t2 then
    (g_R_pop_23 v0 M)
    else
    gR M 27 v0 27 fun t3 =>
    aI M t3 (t1 - 1) fun t4 =>
    if ¬ t4 = 0 then
    (gR M 27 v0 27 fun t5 =>
    aI M t5 (t1 - 1) fun t6 =>
    sI M t5 (t1 - 1) (t6 - 1) fun M7 =>
    gR M7 27 v0 28 fun t8 =>
    gR M7 27 v0 27 fun t9 =>
    aI M7 t9 (t1 - 1) fun t10 =>
    aI M7 t8 ((8 * (t1 - 1)) + t10) fun t11 =>
    some (.inl (some (.int t11)), M7))
    else
    g_R_pop_23 v0 M
def g_R_call_39 (v0 : Nat) (v2 : Int32) (v4 : Int32) (s0 : Int32) (M : XM) : XP :=
    gI M 27 v0 0 fun t1 =>
    if ¬ t1 = 0 then
    (some (.inl none, M))
    else
    rv M 27 v0 <|
    cV (g_R_begin v0 v2 s0 v4 M) fun M3 =>
    some (.inl none, M3)
def g_R_call_25 (v0 : Nat) (v2 : Int32) (v3 : Int32) (s0 : Int32) (M : XM) : XP :=
    if v3 ≤ 0 then
    (g_R_call_39 v0 v2 s0 0 M)
    else
    rv M 27 v0 <|
    cI (g_R_pop v0  M) fun t3 M2 =>
    g_R_call_39 v0 v2 s0 t3 M2
def g_R_call (v0 : Nat) (v1 : Int32) (v2 : Int32) (M : XM) : XP :=
    gR M 27 v0 9 fun t1 =>
    aI M t1 ((30 * v1) + v2) fun t2 =>
    if ¬ t2 = 2 then
    (g_R_call_25 v0 v2 t2 0 M)
    else
    rv M 27 v0 <|
    cI (g_R_pop v0  M) fun t5 M4 =>
    g_R_call_25 v0 v2 t2 t5 M4
def g_R_arithmetic_34 (v0 : Nat) (v1 : Int32) (v2 : Int32) (v3 : Int32) (M : XM) : XP :=
    if ¬ v1 = 5 then
    (if ¬ v1 = 6 then
    (if ¬ v1 = 7 then
    (if ¬ v2 = (-1) then
    (if v2 = 0 then none else
    rv M 27 v0 <|
    cV (g_R_push v0 (v3 / v2) M) fun M2 =>
    some (.inl none, M2))
    else
    rv M 27 v0 <|
    cV (g_R_push v0 (0 - v3) M) fun M4 =>
    some (.inl none, M4))
    else
    rv M 27 v0 <|
    cV (g_R_push v0 (v3 * v2) M) fun M6 =>
    some (.inl none, M6))
    else
    rv M 27 v0 <|
    cV (g_R_push v0 (v3 - v2) M) fun M8 =>
    some (.inl none, M8))
    else
    rv M 27 v0 <|
    cV (g_R_push v0 (v3 + v2) M) fun M10 =>
    some (.inl none, M10)
def g_R_arithmetic (v0 : Nat) (v1 : Int32) (M : XM) : XP :=
    rv M 27 v0 <|
    cI (g_R_pop v0  M) fun t3 M2 =>
    rv M2 27 v0 <|
    cI (g_R_pop v0  M2) fun t6 M5 =>
    gI M5 27 v0 0 fun t7 =>
    if t7 ≤ 0 then
    (if ¬ v1 = 8 then
    (g_R_arithmetic_34 v0 v1 t3 t6 M5)
    else
    if ¬ t3 = 0 then
    (g_R_arithmetic_34 v0 v1 t3 t6 M5)
    else
    uI M5 27 v0 0 3 fun M8 =>
    some (.inl none, M8))
    else
    some (.inl none, M5)
section XG
variable {K : XK} {o : XO} {N : XM}
theorem p_R_pool_25 (G : xG K) (v0 : Nat) (v2 : Int32) (v3 : Int32) (s0 : Nat) (s1 : Int32) (M : XM) (h : g_R_pool_25 v0 v2 v3 s0 s1 M = some (o, N)) : cA K y_R_pool 25 [(0, .ref v0), (2, .int v2), (3, .int v3)] [.int s1, .ref s0] M o N := by
  unfold g_R_pool_25 at h
  refine h_putI G (pc := 25) (ci := 7) (j := 0) d_R_pool_25 rfl rfl rfl lf_R_92 h fun M1 h => ?_
  refine x_aload_n (pc := 28) d_R_pool_28 rfl 0 rfl ?_
  refine h_getI G (pc := 29) (ci := 7) (j := 0) d_R_pool_29 rfl rfl rfl lf_R_92 h fun t2 h => ?_
  refine h_if_le (pc := 32) 39 d_R_pool_32 (by decide) h (fun _ h => ?_) (fun _ h => ?_)
  · refine x_aload_n (pc := 39) d_R_pool_39 rfl 0 rfl ?_
    refine h_getR G (pc := 40) (ci := 7) (j := 3) d_R_pool_40 rfl rfl rfl lf_R_16 h fun t3 h => ?_
    refine x_bipush (pc := 43) (v := 6) d_R_pool_43 (by decide) ?_
    refine x_iload_n (pc := 45) d_R_pool_45 rfl 2 rfl ?_
    refine x_imul (pc := 46) d_R_pool_46 ?_
    refine x_iload_n (pc := 47) d_R_pool_47 rfl 1 rfl ?_
    refine x_iadd (pc := 48) d_R_pool_48 ?_
    refine h_iaload (pc := 49) d_R_pool_49 h fun t4 h => ?_
    exact h_ireturn (pc := 50) d_R_pool_50 rfl h
  · refine x_iconst (pc := 35) d_R_pool_35 rfl ?_
    refine x_goto (pc := 36) 50 d_R_pool_36 (by decide) ?_
    exact h_ireturn (pc := 50) d_R_pool_50 rfl h
theorem p_R_pool_9 (G : xG K) (v0 : Nat) (v2 : Int32) (s0 : Int32) (M : XM) (h : g_R_pool_9 v0 v2 s0 M = some (o, N)) : cA K y_R_pool 9 [(0, .ref v0), (2, .int v2)] [.int s0] M o N := by
  unfold g_R_pool_9 at h
  refine x_istore_n (pc := 9) (L' := [(0, .ref v0), (2, .int v2), (3, .int s0)]) d_R_pool_9 rfl (by decide) rfl ?_
  refine x_aload_n (pc := 10) d_R_pool_10 rfl 0 rfl ?_
  refine x_aload_n (pc := 11) d_R_pool_11 rfl 0 rfl ?_
  refine x_iload_n (pc := 12) d_R_pool_12 rfl 2 rfl ?_
  refine x_iload_n (pc := 13) d_R_pool_13 rfl 1 rfl ?_
  obtain ⟨⟨ra1, ra1t⟩, h⟩ := h_ok h
  refine h_callI G (x_siteV G (pc := 14) (y2 := y_R_noClass) (As := [.int s0, .int v2]) (S := [.ref v0]) (ci := 7) d_R_pool_14 rfl lm_R_104 mi_R_noClass ms_R_noClass mw_R_noClass.1 mx_R_noClass.1 mx_R_noClass.2 rfl ra1 ra1t) mw_R_noClass ⟨Nat.le_of_ble_eq_true rfl, Nat.le_of_ble_eq_true rfl⟩ rfl (fun _ _ e => p_R_noClass G _ _ _ _ e) h fun t3 M2 h => ?_
  refine h_if_eq (pc := 17) 24 d_R_pool_17 (by decide) h (fun _ h => ?_) (fun _ h => ?_)
  · refine x_iconst (pc := 24) d_R_pool_24 rfl ?_
    refine x_weak [0, 1, 2] rfl ?_
    exact p_R_pool_25 G _ _ _ _ _ _ h
  · refine x_iconst (pc := 20) d_R_pool_20 rfl ?_
    refine x_goto (pc := 21) 25 d_R_pool_21 (by decide) ?_
    refine x_weak [0, 1, 2] rfl ?_
    exact p_R_pool_25 G _ _ _ _ _ _ h
theorem p_R_pool (G : xG K) (v0 : Nat) (v1 : Int32) (v2 : Int32) (M : XM) (h : g_R_pool v0 v1 v2 M = some (o, N)) : Ct K y_R_pool [.ref v0, .int v1, .int v2] M o N := by
  refine ct_of (by decide) (List.forall_mem_cons.mpr ⟨rfl, List.forall_mem_cons.mpr ⟨rfl, List.forall_mem_cons.mpr ⟨rfl, fun _ q => absurd q List.not_mem_nil⟩⟩⟩) (Nat.le_of_ble_eq_true rfl) ?_
  show cA K y_R_pool 0 [(0, .ref v0), (1, .int v1), (2, .int v2)] [] M o N
  unfold g_R_pool at h
  refine x_iload_n (pc := 0) d_R_pool_0 rfl 1 rfl ?_
  refine h_if_eq (pc := 1) 8 d_R_pool_1 (by decide) h (fun _ h => ?_) (fun _ h => ?_)
  · refine x_iconst (pc := 8) d_R_pool_8 rfl ?_
    refine x_weak [0, 2] rfl ?_
    exact p_R_pool_9 G _ _ _ _ h
  · refine x_iconst (pc := 4) d_R_pool_4 rfl ?_
    refine x_goto (pc := 5) 9 d_R_pool_5 (by decide) ?_
    refine x_weak [0, 2] rfl ?_
    exact p_R_pool_9 G _ _ _ _ h
theorem p_R_constantAt_62 (G : xG K) (v0 : Nat) (v2 : Int32) (v3 : Int32) (v4 : Int32) (v5 : Int32) (s0 : Nat) (s1 : Int32) (M : XM) (h : g_R_constantAt_62 v0 v2 v3 v4 v5 s0 s1 M = some (o, N)) : cA K y_R_constantAt 62 [(0, .ref v0), (2, .int v2), (3, .int v3), (4, .int v4), (5, .int v5)] [.int s1, .ref s0] M o N := by
  unfold g_R_constantAt_62 at h
  refine h_putI G (pc := 62) (ci := 7) (j := 0) d_R_constantAt_62 rfl rfl rfl lf_R_92 h fun M1 h => ?_
  refine x_aload_n (pc := 65) d_R_constantAt_65 rfl 0 rfl ?_
  refine h_getI G (pc := 66) (ci := 7) (j := 0) d_R_constantAt_66 rfl rfl rfl lf_R_92 h fun t2 h => ?_
  refine h_if_le (pc := 69) 74 d_R_constantAt_69 (by decide) h (fun _ h => ?_) (fun _ h => ?_)
  · refine x_iload (pc := 74) d_R_constantAt_74 4 rfl ?_
    refine x_iload_n (pc := 76) d_R_constantAt_76 rfl 1 rfl ?_
    refine h_callI G (x_siteS G (pc := 77) (y2 := y_R_base) (As := [.int v5, .int v2]) (S := []) d_R_constantAt_77 lm_R_100 mi_R_base mw_R_base.2 mw_R_base.1 mx_R_base.1 mx_R_base.2 rfl) mw_R_base ⟨Nat.le_of_ble_eq_true rfl, Nat.le_of_ble_eq_true rfl⟩ rfl (fun _ _ e => p_R_base G _ _ _ e) h fun t4 M3 h => ?_
    refine x_iload_n (pc := 80) d_R_constantAt_80 rfl 2 rfl ?_
    refine x_iadd (pc := 81) d_R_constantAt_81 ?_
    refine x_istore (pc := 82) (L' := [(0, .ref v0), (2, .int v2), (3, .int v3), (4, .int v4), (5, .int v5), (6, .int (t4 + v3))]) d_R_constantAt_82 (by decide) rfl ?_
    refine x_iload (pc := 84) d_R_constantAt_84 3 rfl ?_
    refine h_if_ne (pc := 86) 99 d_R_constantAt_86 (by decide) h (fun _ h => ?_) (fun _ h => ?_)
    · refine x_iload (pc := 99) d_R_constantAt_99 3 rfl ?_
      refine x_iconst (pc := 101) d_R_constantAt_101 rfl ?_
      refine h_icmp_ne (pc := 102) 115 d_R_constantAt_102 (by decide) h (fun _ h => ?_) (fun _ h => ?_)
      · refine x_aload_n (pc := 115) d_R_constantAt_115 rfl 0 rfl ?_
        refine h_getR G (pc := 116) (ci := 7) (j := 6) d_R_constantAt_116 rfl rfl rfl lf_R_25 h fun t5 h => ?_
        refine x_iload (pc := 119) d_R_constantAt_119 5 rfl ?_
        refine h_iaload (pc := 121) d_R_constantAt_121 h fun t6 h => ?_
        exact h_ireturn (pc := 122) d_R_constantAt_122 rfl h
      · refine x_aload_n (pc := 105) d_R_constantAt_105 rfl 0 rfl ?_
        refine h_getR G (pc := 106) (ci := 7) (j := 5) d_R_constantAt_106 rfl rfl rfl lf_R_22 h fun t7 h => ?_
        refine x_iload (pc := 109) d_R_constantAt_109 5 rfl ?_
        refine h_iaload (pc := 111) d_R_constantAt_111 h fun t8 h => ?_
        refine x_goto (pc := 112) 122 d_R_constantAt_112 (by decide) ?_
        exact h_ireturn (pc := 122) d_R_constantAt_122 rfl h
    · refine x_aload_n (pc := 89) d_R_constantAt_89 rfl 0 rfl ?_
      refine h_getR G (pc := 90) (ci := 7) (j := 4) d_R_constantAt_90 rfl rfl rfl lf_R_19 h fun t9 h => ?_
      refine x_iload (pc := 93) d_R_constantAt_93 5 rfl ?_
      refine h_iaload (pc := 95) d_R_constantAt_95 h fun t10 h => ?_
      refine x_goto (pc := 96) 122 d_R_constantAt_96 (by decide) ?_
      exact h_ireturn (pc := 122) d_R_constantAt_122 rfl h
  · refine x_iconst (pc := 72) d_R_constantAt_72 rfl ?_
    exact h_ireturn (pc := 73) d_R_constantAt_73 rfl h
theorem p_R_constantAt_42 (G : xG K) (v0 : Nat) (v2 : Int32) (v3 : Int32) (v4 : Int32) (v5 : Int32) (s0 : Nat) (M : XM) (h : g_R_constantAt_42 v0 v2 v3 v4 v5 s0 M = some (o, N)) : cA K y_R_constantAt 42 [(0, .ref v0), (2, .int v2), (3, .int v3), (4, .int v4), (5, .int v5)] [.ref s0] M o N := by
  unfold g_R_constantAt_42 at h
  refine x_iconst (pc := 42) d_R_constantAt_42 rfl ?_
  refine x_goto (pc := 43) 62 d_R_constantAt_43 (by decide) ?_
  refine x_weak [0, 1, 2, 3, 4] rfl ?_
  exact p_R_constantAt_62 G _ _ _ _ _ _ _ _ h
theorem p_R_constantAt_57 (G : xG K) (v0 : Nat) (v2 : Int32) (v3 : Int32) (v4 : Int32) (v5 : Int32) (s0 : Nat) (M : XM) (h : g_R_constantAt_57 v0 v2 v3 v4 v5 s0 M = some (o, N)) : cA K y_R_constantAt 57 [(0, .ref v0), (2, .int v2), (3, .int v3), (4, .int v4), (5, .int v5)] [.ref s0] M o N := by
  unfold g_R_constantAt_57 at h
  refine x_iconst (pc := 57) d_R_constantAt_57 rfl ?_
  refine x_goto (pc := 58) 62 d_R_constantAt_58 (by decide) ?_
  refine x_weak [0, 1, 2, 3, 4] rfl ?_
  exact p_R_constantAt_62 G _ _ _ _ _ _ _ _ h
theorem p_R_constantAt_9 (G : xG K) (v0 : Nat) (v2 : Int32) (v3 : Int32) (v4 : Int32) (s0 : Int32) (M : XM) (h : g_R_constantAt_9 v0 v2 v3 v4 s0 M = some (o, N)) : cA K y_R_constantAt 9 [(0, .ref v0), (2, .int v2), (3, .int v3), (4, .int v4)] [.int s0] M o N := by
  unfold g_R_constantAt_9 at h
  refine x_istore (pc := 9) (L' := [(0, .ref v0), (2, .int v2), (3, .int v3), (4, .int v4), (5, .int s0)]) d_R_constantAt_9 (by decide) rfl ?_
  refine x_aload_n (pc := 11) d_R_constantAt_11 rfl 0 rfl ?_
  refine x_aload_n (pc := 12) d_R_constantAt_12 rfl 0 rfl ?_
  refine x_iload (pc := 13) d_R_constantAt_13 4 rfl ?_
  refine x_iload_n (pc := 15) d_R_constantAt_15 rfl 1 rfl ?_
  obtain ⟨⟨ra1, ra1t⟩, h⟩ := h_ok h
  refine h_callI G (x_siteV G (pc := 16) (y2 := y_R_noClass) (As := [.int s0, .int v2]) (S := [.ref v0]) (ci := 7) d_R_constantAt_16 rfl lm_R_104 mi_R_noClass ms_R_noClass mw_R_noClass.1 mx_R_noClass.1 mx_R_noClass.2 rfl ra1 ra1t) mw_R_noClass ⟨Nat.le_of_ble_eq_true rfl, Nat.le_of_ble_eq_true rfl⟩ rfl (fun _ _ e => p_R_noClass G _ _ _ _ e) h fun t3 M2 h => ?_
  refine h_if_ne (pc := 19) 42 d_R_constantAt_19 (by decide) h (fun _ h => ?_) (fun _ h => ?_)
  · refine x_weak [0, 1, 2, 3, 4] rfl ?_
    exact p_R_constantAt_42 G _ _ _ _ _ _ _ h
  · refine x_iload_n (pc := 22) d_R_constantAt_22 rfl 2 rfl ?_
    refine h_if_lt (pc := 23) 42 d_R_constantAt_23 (by decide) h (fun _ h => ?_) (fun _ h => ?_)
    · refine x_weak [0, 1, 2, 3, 4] rfl ?_
      exact p_R_constantAt_42 G _ _ _ _ _ _ _ h
    · refine x_iload_n (pc := 26) d_R_constantAt_26 rfl 2 rfl ?_
      refine x_aload_n (pc := 27) d_R_constantAt_27 rfl 0 rfl ?_
      refine h_getR G (pc := 28) (ci := 7) (j := 3) d_R_constantAt_28 rfl rfl rfl lf_R_16 h fun t4 h => ?_
      refine x_bipush (pc := 31) (v := 6) d_R_constantAt_31 (by decide) ?_
      refine x_iload (pc := 33) d_R_constantAt_33 4 rfl ?_
      refine x_imul (pc := 35) d_R_constantAt_35 ?_
      refine x_iload_n (pc := 36) d_R_constantAt_36 rfl 1 rfl ?_
      refine x_iadd (pc := 37) d_R_constantAt_37 ?_
      refine h_iaload (pc := 38) d_R_constantAt_38 h fun t5 h => ?_
      refine h_icmp_lt (pc := 39) 46 d_R_constantAt_39 (by decide) h (fun _ h => ?_) (fun _ h => ?_)
      · refine x_iload (pc := 46) d_R_constantAt_46 3 rfl ?_
        refine h_if_lt (pc := 48) 57 d_R_constantAt_48 (by decide) h (fun _ h => ?_) (fun _ h => ?_)
        · refine x_weak [0, 1, 2, 3, 4] rfl ?_
          exact p_R_constantAt_57 G _ _ _ _ _ _ _ h
        · refine x_iload (pc := 51) d_R_constantAt_51 3 rfl ?_
          refine x_iconst (pc := 53) d_R_constantAt_53 rfl ?_
          refine h_icmp_le (pc := 54) 61 d_R_constantAt_54 (by decide) h (fun _ h => ?_) (fun _ h => ?_)
          · refine x_iconst (pc := 61) d_R_constantAt_61 rfl ?_
            refine x_weak [0, 1, 2, 3, 4] rfl ?_
            exact p_R_constantAt_62 G _ _ _ _ _ _ _ _ h
          · refine x_weak [0, 1, 2, 3, 4] rfl ?_
            exact p_R_constantAt_57 G _ _ _ _ _ _ _ h
      · refine x_weak [0, 1, 2, 3, 4] rfl ?_
        exact p_R_constantAt_42 G _ _ _ _ _ _ _ h
theorem p_R_constantAt (G : xG K) (v0 : Nat) (v1 : Int32) (v2 : Int32) (v3 : Int32) (v4 : Int32) (M : XM) (h : g_R_constantAt v0 v1 v2 v3 v4 M = some (o, N)) : Ct K y_R_constantAt [.ref v0, .int v1, .int v2, .int v3, .int v4] M o N := by
  refine ct_of (by decide) (List.forall_mem_cons.mpr ⟨rfl, List.forall_mem_cons.mpr ⟨rfl, List.forall_mem_cons.mpr ⟨rfl, List.forall_mem_cons.mpr ⟨rfl, List.forall_mem_cons.mpr ⟨rfl, fun _ q => absurd q List.not_mem_nil⟩⟩⟩⟩⟩) (Nat.le_of_ble_eq_true rfl) ?_
  show cA K y_R_constantAt 0 [(0, .ref v0), (1, .int v1), (2, .int v2), (3, .int v3), (4, .int v4)] [] M o N
  unfold g_R_constantAt at h
  refine x_iload_n (pc := 0) d_R_constantAt_0 rfl 1 rfl ?_
  refine h_if_eq (pc := 1) 8 d_R_constantAt_1 (by decide) h (fun _ h => ?_) (fun _ h => ?_)
  · refine x_iconst (pc := 8) d_R_constantAt_8 rfl ?_
    refine x_weak [0, 2, 3, 4] rfl ?_
    exact p_R_constantAt_9 G _ _ _ _ _ _ h
  · refine x_iconst (pc := 4) d_R_constantAt_4 rfl ?_
    refine x_goto (pc := 5) 9 d_R_constantAt_5 (by decide) ?_
    refine x_weak [0, 2, 3, 4] rfl ?_
    exact p_R_constantAt_9 G _ _ _ _ _ _ h
theorem p_R_memberAt_40 (G : xG K) (v0 : Nat) (v2 : Int32) (v3 : Int32) (v4 : Int32) (s0 : Nat) (s1 : Int32) (M : XM) (h : g_R_memberAt_40 v0 v2 v3 v4 s0 s1 M = some (o, N)) : cA K y_R_memberAt 40 [(0, .ref v0), (2, .int v2), (3, .int v3), (4, .int v4)] [.int s1, .ref s0] M o N := by
  unfold g_R_memberAt_40 at h
  refine h_putI G (pc := 40) (ci := 7) (j := 0) d_R_memberAt_40 rfl rfl rfl lf_R_92 h fun M1 h => ?_
  refine x_aload_n (pc := 43) d_R_memberAt_43 rfl 0 rfl ?_
  refine h_getI G (pc := 44) (ci := 7) (j := 0) d_R_memberAt_44 rfl rfl rfl lf_R_92 h fun t2 h => ?_
  refine h_if_le (pc := 47) 52 d_R_memberAt_47 (by decide) h (fun _ h => ?_) (fun _ h => ?_)
  · refine x_bipush (pc := 52) (v := 30) d_R_memberAt_52 (by decide) ?_
    refine x_iload (pc := 54) d_R_memberAt_54 3 rfl ?_
    refine x_imul (pc := 56) d_R_memberAt_56 ?_
    refine x_iload_n (pc := 57) d_R_memberAt_57 rfl 1 rfl ?_
    refine x_iadd (pc := 58) d_R_memberAt_58 ?_
    refine x_istore (pc := 59) (L' := [(0, .ref v0), (2, .int v2), (3, .int v3), (4, .int v4), (5, .int ((30 * v4) + v2))]) d_R_memberAt_59 (by decide) rfl ?_
    refine x_iload_n (pc := 61) d_R_memberAt_61 rfl 2 rfl ?_
    refine h_case h (fun c0 h => ?_) (fun c0 h => ?_)
    · refine x_tableIn (pc := 62) 96 d_R_memberAt_62 (by rw [c0]; decide) (by rw [c0]; decide) (off := 34) (by rw [c0]; rfl) (by decide) ?_
      refine x_aload_n (pc := 96) d_R_memberAt_96 rfl 0 rfl ?_
      refine h_getR G (pc := 97) (ci := 7) (j := 7) d_R_memberAt_97 rfl rfl rfl lf_R_28 h fun t14 h => ?_
      refine x_iload (pc := 100) d_R_memberAt_100 4 rfl ?_
      refine h_iaload (pc := 102) d_R_memberAt_102 h fun t15 h => ?_
      exact h_ireturn (pc := 103) d_R_memberAt_103 rfl h
    · refine h_case h (fun c1 h => ?_) (fun c1 h => ?_)
      · refine x_tableIn (pc := 62) 104 d_R_memberAt_62 (by rw [c1]; decide) (by rw [c1]; decide) (off := 42) (by rw [c1]; rfl) (by decide) ?_
        refine x_aload_n (pc := 104) d_R_memberAt_104 rfl 0 rfl ?_
        refine h_getR G (pc := 105) (ci := 7) (j := 8) d_R_memberAt_105 rfl rfl rfl lf_R_31 h fun t12 h => ?_
        refine x_iload (pc := 108) d_R_memberAt_108 4 rfl ?_
        refine h_iaload (pc := 110) d_R_memberAt_110 h fun t13 h => ?_
        exact h_ireturn (pc := 111) d_R_memberAt_111 rfl h
      · refine h_case h (fun c2 h => ?_) (fun c2 h => ?_)
        · refine x_tableIn (pc := 62) 112 d_R_memberAt_62 (by rw [c2]; decide) (by rw [c2]; decide) (off := 50) (by rw [c2]; rfl) (by decide) ?_
          refine x_aload_n (pc := 112) d_R_memberAt_112 rfl 0 rfl ?_
          refine h_getR G (pc := 113) (ci := 7) (j := 9) d_R_memberAt_113 rfl rfl rfl lf_R_34 h fun t10 h => ?_
          refine x_iload (pc := 116) d_R_memberAt_116 4 rfl ?_
          refine h_iaload (pc := 118) d_R_memberAt_118 h fun t11 h => ?_
          exact h_ireturn (pc := 119) d_R_memberAt_119 rfl h
        · refine h_case h (fun c3 h => ?_) (fun c3 h => ?_)
          · refine x_tableIn (pc := 62) 120 d_R_memberAt_62 (by rw [c3]; decide) (by rw [c3]; decide) (off := 58) (by rw [c3]; rfl) (by decide) ?_
            refine x_aload_n (pc := 120) d_R_memberAt_120 rfl 0 rfl ?_
            refine h_getR G (pc := 121) (ci := 7) (j := 10) d_R_memberAt_121 rfl rfl rfl lf_R_37 h fun t8 h => ?_
            refine x_iload (pc := 124) d_R_memberAt_124 4 rfl ?_
            refine h_iaload (pc := 126) d_R_memberAt_126 h fun t9 h => ?_
            exact h_ireturn (pc := 127) d_R_memberAt_127 rfl h
          · refine h_case h (fun c4 h => ?_) (fun c4 h => ?_)
            · refine x_tableIn (pc := 62) 128 d_R_memberAt_62 (by rw [c4]; decide) (by rw [c4]; decide) (off := 66) (by rw [c4]; rfl) (by decide) ?_
              refine x_aload_n (pc := 128) d_R_memberAt_128 rfl 0 rfl ?_
              refine h_getR G (pc := 129) (ci := 7) (j := 11) d_R_memberAt_129 rfl rfl rfl lf_R_40 h fun t6 h => ?_
              refine x_iload (pc := 132) d_R_memberAt_132 4 rfl ?_
              refine h_baload (pc := 134) d_R_memberAt_134 h fun t7 h => ?_
              refine h_if_eq (pc := 135) 142 d_R_memberAt_135 (by decide) h (fun _ h => ?_) (fun _ h => ?_)
              · refine x_iconst (pc := 142) d_R_memberAt_142 rfl ?_
                exact h_ireturn (pc := 143) d_R_memberAt_143 rfl h
              · refine x_iconst (pc := 138) d_R_memberAt_138 rfl ?_
                refine x_goto (pc := 139) 143 d_R_memberAt_139 (by decide) ?_
                exact h_ireturn (pc := 143) d_R_memberAt_143 rfl h
            · refine x_tableOut (pc := 62) 144 d_R_memberAt_62 (by have q0 := lv_neT (a := 0) c0 (by decide); have q1 := lv_neT (a := 1) c1 (by decide); have q2 := lv_neT (a := 2) c2 (by decide); have q3 := lv_neT (a := 3) c3 (by decide); have q4 := lv_neT (a := 4) c4 (by decide); omega) (by decide) ?_
              refine x_aload_n (pc := 144) d_R_memberAt_144 rfl 0 rfl ?_
              refine x_iload (pc := 145) d_R_memberAt_145 3 rfl ?_
              refine x_iload_n (pc := 147) d_R_memberAt_147 rfl 1 rfl ?_
              obtain ⟨⟨ra3, ra3t⟩, h⟩ := h_ok h
              refine h_callI G (x_siteV G (pc := 148) (y2 := y_R_nameOf) (As := [.int v4, .int v2]) (S := []) (ci := 7) d_R_memberAt_148 rfl lm_R_111 mi_R_nameOf ms_R_nameOf mw_R_nameOf.1 mx_R_nameOf.1 mx_R_nameOf.2 rfl ra3 ra3t) mw_R_nameOf ⟨Nat.le_of_ble_eq_true rfl, Nat.le_of_ble_eq_true rfl⟩ rfl (fun _ _ e => p_R_nameOf G _ _ _ _ e) h fun t5 M4 h => ?_
              exact h_ireturn (pc := 151) d_R_memberAt_151 rfl h
  · refine x_iconst (pc := 50) d_R_memberAt_50 rfl ?_
    exact h_ireturn (pc := 51) d_R_memberAt_51 rfl h
theorem p_R_memberAt_35 (G : xG K) (v0 : Nat) (v2 : Int32) (v3 : Int32) (v4 : Int32) (s0 : Nat) (M : XM) (h : g_R_memberAt_35 v0 v2 v3 v4 s0 M = some (o, N)) : cA K y_R_memberAt 35 [(0, .ref v0), (2, .int v2), (3, .int v3), (4, .int v4)] [.ref s0] M o N := by
  unfold g_R_memberAt_35 at h
  refine x_iconst (pc := 35) d_R_memberAt_35 rfl ?_
  refine x_goto (pc := 36) 40 d_R_memberAt_36 (by decide) ?_
  refine x_weak [0, 1, 2, 3] rfl ?_
  exact p_R_memberAt_40 G _ _ _ _ _ _ _ h
theorem p_R_memberAt_9 (G : xG K) (v0 : Nat) (v2 : Int32) (v3 : Int32) (s0 : Int32) (M : XM) (h : g_R_memberAt_9 v0 v2 v3 s0 M = some (o, N)) : cA K y_R_memberAt 9 [(0, .ref v0), (2, .int v2), (3, .int v3)] [.int s0] M o N := by
  unfold g_R_memberAt_9 at h
  refine x_istore (pc := 9) (L' := [(0, .ref v0), (2, .int v2), (3, .int v3), (4, .int s0)]) d_R_memberAt_9 (by decide) rfl ?_
  refine x_aload_n (pc := 11) d_R_memberAt_11 rfl 0 rfl ?_
  refine x_aload_n (pc := 12) d_R_memberAt_12 rfl 0 rfl ?_
  refine x_iload (pc := 13) d_R_memberAt_13 3 rfl ?_
  refine x_iload_n (pc := 15) d_R_memberAt_15 rfl 1 rfl ?_
  obtain ⟨⟨ra1, ra1t⟩, h⟩ := h_ok h
  refine h_callI G (x_siteV G (pc := 16) (y2 := y_R_noMember) (As := [.int s0, .int v2]) (S := [.ref v0]) (ci := 7) d_R_memberAt_16 rfl lm_R_96 mi_R_noMember ms_R_noMember mw_R_noMember.1 mx_R_noMember.1 mx_R_noMember.2 rfl ra1 ra1t) mw_R_noMember ⟨Nat.le_of_ble_eq_true rfl, Nat.le_of_ble_eq_true rfl⟩ rfl (fun _ _ e => p_R_noMember G _ _ _ _ e) h fun t3 M2 h => ?_
  refine h_if_eq (pc := 19) 26 d_R_memberAt_19 (by decide) h (fun _ h => ?_) (fun _ h => ?_)
  · refine x_iload_n (pc := 26) d_R_memberAt_26 rfl 2 rfl ?_
    refine h_if_lt (pc := 27) 35 d_R_memberAt_27 (by decide) h (fun _ h => ?_) (fun _ h => ?_)
    · refine x_weak [0, 1, 2, 3] rfl ?_
      exact p_R_memberAt_35 G _ _ _ _ _ _ h
    · refine x_iload_n (pc := 30) d_R_memberAt_30 rfl 2 rfl ?_
      refine x_iconst (pc := 31) d_R_memberAt_31 rfl ?_
      refine h_icmp_le (pc := 32) 39 d_R_memberAt_32 (by decide) h (fun _ h => ?_) (fun _ h => ?_)
      · refine x_iconst (pc := 39) d_R_memberAt_39 rfl ?_
        refine x_weak [0, 1, 2, 3] rfl ?_
        exact p_R_memberAt_40 G _ _ _ _ _ _ _ h
      · refine x_weak [0, 1, 2, 3] rfl ?_
        exact p_R_memberAt_35 G _ _ _ _ _ _ h
  · refine x_iconst (pc := 22) d_R_memberAt_22 rfl ?_
    refine x_goto (pc := 23) 40 d_R_memberAt_23 (by decide) ?_
    refine x_weak [0, 1, 2, 3] rfl ?_
    exact p_R_memberAt_40 G _ _ _ _ _ _ _ h
theorem p_R_memberAt (G : xG K) (v0 : Nat) (v1 : Int32) (v2 : Int32) (v3 : Int32) (M : XM) (h : g_R_memberAt v0 v1 v2 v3 M = some (o, N)) : Ct K y_R_memberAt [.ref v0, .int v1, .int v2, .int v3] M o N := by
  refine ct_of (by decide) (List.forall_mem_cons.mpr ⟨rfl, List.forall_mem_cons.mpr ⟨rfl, List.forall_mem_cons.mpr ⟨rfl, List.forall_mem_cons.mpr ⟨rfl, fun _ q => absurd q List.not_mem_nil⟩⟩⟩⟩) (Nat.le_of_ble_eq_true rfl) ?_
  show cA K y_R_memberAt 0 [(0, .ref v0), (1, .int v1), (2, .int v2), (3, .int v3)] [] M o N
  unfold g_R_memberAt at h
  refine x_iload_n (pc := 0) d_R_memberAt_0 rfl 1 rfl ?_
  refine h_if_eq (pc := 1) 8 d_R_memberAt_1 (by decide) h (fun _ h => ?_) (fun _ h => ?_)
  · refine x_iconst (pc := 8) d_R_memberAt_8 rfl ?_
    refine x_weak [0, 2, 3] rfl ?_
    exact p_R_memberAt_9 G _ _ _ _ _ h
  · refine x_iconst (pc := 4) d_R_memberAt_4 rfl ?_
    refine x_goto (pc := 5) 9 d_R_memberAt_5 (by decide) ?_
    refine x_weak [0, 2, 3] rfl ?_
    exact p_R_memberAt_9 G _ _ _ _ _ h
theorem p_R_codeAt_47 (G : xG K) (v0 : Nat) (v2 : Int32) (v3 : Int32) (v4 : Int32) (s0 : Nat) (s1 : Int32) (M : XM) (h : g_R_codeAt_47 v0 v2 v3 v4 s0 s1 M = some (o, N)) : cA K y_R_codeAt 47 [(0, .ref v0), (2, .int v2), (3, .int v3), (4, .int v4)] [.int s1, .ref s0] M o N := by
  unfold g_R_codeAt_47 at h
  refine h_putI G (pc := 47) (ci := 7) (j := 0) d_R_codeAt_47 rfl rfl rfl lf_R_92 h fun M1 h => ?_
  refine x_aload_n (pc := 50) d_R_codeAt_50 rfl 0 rfl ?_
  refine h_getI G (pc := 51) (ci := 7) (j := 0) d_R_codeAt_51 rfl rfl rfl lf_R_92 h fun t2 h => ?_
  refine h_if_le (pc := 54) 61 d_R_codeAt_54 (by decide) h (fun _ h => ?_) (fun _ h => ?_)
  · refine x_sipush (pc := 61) (v := 1000) d_R_codeAt_61 (by decide) ?_
    refine x_aload_n (pc := 64) d_R_codeAt_64 rfl 0 rfl ?_
    refine h_getR G (pc := 65) (ci := 7) (j := 12) d_R_codeAt_65 rfl rfl rfl lf_R_44 h fun t3 h => ?_
    refine x_sipush (pc := 68) (v := 600) d_R_codeAt_68 (by decide) ?_
    refine x_iload (pc := 71) d_R_codeAt_71 3 rfl ?_
    refine x_imul (pc := 73) d_R_codeAt_73 ?_
    refine x_bipush (pc := 74) (v := 20) d_R_codeAt_74 (by decide) ?_
    refine x_iload_n (pc := 76) d_R_codeAt_76 rfl 1 rfl ?_
    refine x_imul (pc := 77) d_R_codeAt_77 ?_
    refine x_iadd (pc := 78) d_R_codeAt_78 ?_
    refine x_iload_n (pc := 79) d_R_codeAt_79 rfl 2 rfl ?_
    refine x_iadd (pc := 80) d_R_codeAt_80 ?_
    refine h_iaload (pc := 81) d_R_codeAt_81 h fun t4 h => ?_
    refine x_imul (pc := 82) d_R_codeAt_82 ?_
    refine x_aload_n (pc := 83) d_R_codeAt_83 rfl 0 rfl ?_
    refine h_getR G (pc := 84) (ci := 7) (j := 13) d_R_codeAt_84 rfl rfl rfl lf_R_47 h fun t5 h => ?_
    refine x_sipush (pc := 87) (v := 600) d_R_codeAt_87 (by decide) ?_
    refine x_iload (pc := 90) d_R_codeAt_90 3 rfl ?_
    refine x_imul (pc := 92) d_R_codeAt_92 ?_
    refine x_bipush (pc := 93) (v := 20) d_R_codeAt_93 (by decide) ?_
    refine x_iload_n (pc := 95) d_R_codeAt_95 rfl 1 rfl ?_
    refine x_imul (pc := 96) d_R_codeAt_96 ?_
    refine x_iadd (pc := 97) d_R_codeAt_97 ?_
    refine x_iload_n (pc := 98) d_R_codeAt_98 rfl 2 rfl ?_
    refine x_iadd (pc := 99) d_R_codeAt_99 ?_
    refine h_iaload (pc := 100) d_R_codeAt_100 h fun t6 h => ?_
    refine x_iadd (pc := 101) d_R_codeAt_101 ?_
    exact h_ireturn (pc := 102) d_R_codeAt_102 rfl h
  · refine x_iconst (pc := 57) d_R_codeAt_57 rfl ?_
    refine x_goto (pc := 58) 102 d_R_codeAt_58 (by decide) ?_
    exact h_ireturn (pc := 102) d_R_codeAt_102 rfl h
theorem p_R_codeAt_42 (G : xG K) (v0 : Nat) (v2 : Int32) (v3 : Int32) (v4 : Int32) (s0 : Nat) (M : XM) (h : g_R_codeAt_42 v0 v2 v3 v4 s0 M = some (o, N)) : cA K y_R_codeAt 42 [(0, .ref v0), (2, .int v2), (3, .int v3), (4, .int v4)] [.ref s0] M o N := by
  unfold g_R_codeAt_42 at h
  refine x_iconst (pc := 42) d_R_codeAt_42 rfl ?_
  refine x_goto (pc := 43) 47 d_R_codeAt_43 (by decide) ?_
  refine x_weak [0, 1, 2, 3] rfl ?_
  exact p_R_codeAt_47 G _ _ _ _ _ _ _ h
theorem p_R_codeAt_9 (G : xG K) (v0 : Nat) (v2 : Int32) (v3 : Int32) (s0 : Int32) (M : XM) (h : g_R_codeAt_9 v0 v2 v3 s0 M = some (o, N)) : cA K y_R_codeAt 9 [(0, .ref v0), (2, .int v2), (3, .int v3)] [.int s0] M o N := by
  unfold g_R_codeAt_9 at h
  refine x_istore (pc := 9) (L' := [(0, .ref v0), (2, .int v2), (3, .int v3), (4, .int s0)]) d_R_codeAt_9 (by decide) rfl ?_
  refine x_aload_n (pc := 11) d_R_codeAt_11 rfl 0 rfl ?_
  refine x_aload_n (pc := 12) d_R_codeAt_12 rfl 0 rfl ?_
  refine x_iload (pc := 13) d_R_codeAt_13 3 rfl ?_
  refine x_iload_n (pc := 15) d_R_codeAt_15 rfl 1 rfl ?_
  obtain ⟨⟨ra1, ra1t⟩, h⟩ := h_ok h
  refine h_callI G (x_siteV G (pc := 16) (y2 := y_R_noMethod) (As := [.int s0, .int v2]) (S := [.ref v0]) (ci := 7) d_R_codeAt_16 rfl lm_R_118 mi_R_noMethod ms_R_noMethod mw_R_noMethod.1 mx_R_noMethod.1 mx_R_noMethod.2 rfl ra1 ra1t) mw_R_noMethod ⟨Nat.le_of_ble_eq_true rfl, Nat.le_of_ble_eq_true rfl⟩ rfl (fun _ _ e => p_R_noMethod G _ _ _ _ e) h fun t3 M2 h => ?_
  refine h_if_ne (pc := 19) 42 d_R_codeAt_19 (by decide) h (fun _ h => ?_) (fun _ h => ?_)
  · refine x_weak [0, 1, 2, 3] rfl ?_
    exact p_R_codeAt_42 G _ _ _ _ _ _ h
  · refine x_iload_n (pc := 22) d_R_codeAt_22 rfl 2 rfl ?_
    refine h_if_lt (pc := 23) 42 d_R_codeAt_23 (by decide) h (fun _ h => ?_) (fun _ h => ?_)
    · refine x_weak [0, 1, 2, 3] rfl ?_
      exact p_R_codeAt_42 G _ _ _ _ _ _ h
    · refine x_iload_n (pc := 26) d_R_codeAt_26 rfl 2 rfl ?_
      refine x_aload_n (pc := 27) d_R_codeAt_27 rfl 0 rfl ?_
      refine h_getR G (pc := 28) (ci := 7) (j := 10) d_R_codeAt_28 rfl rfl rfl lf_R_37 h fun t4 h => ?_
      refine x_bipush (pc := 31) (v := 30) d_R_codeAt_31 (by decide) ?_
      refine x_iload (pc := 33) d_R_codeAt_33 3 rfl ?_
      refine x_imul (pc := 35) d_R_codeAt_35 ?_
      refine x_iload_n (pc := 36) d_R_codeAt_36 rfl 1 rfl ?_
      refine x_iadd (pc := 37) d_R_codeAt_37 ?_
      refine h_iaload (pc := 38) d_R_codeAt_38 h fun t5 h => ?_
      refine h_icmp_lt (pc := 39) 46 d_R_codeAt_39 (by decide) h (fun _ h => ?_) (fun _ h => ?_)
      · refine x_iconst (pc := 46) d_R_codeAt_46 rfl ?_
        refine x_weak [0, 1, 2, 3] rfl ?_
        exact p_R_codeAt_47 G _ _ _ _ _ _ _ h
      · refine x_weak [0, 1, 2, 3] rfl ?_
        exact p_R_codeAt_42 G _ _ _ _ _ _ h
theorem p_R_codeAt (G : xG K) (v0 : Nat) (v1 : Int32) (v2 : Int32) (v3 : Int32) (M : XM) (h : g_R_codeAt v0 v1 v2 v3 M = some (o, N)) : Ct K y_R_codeAt [.ref v0, .int v1, .int v2, .int v3] M o N := by
  refine ct_of (by decide) (List.forall_mem_cons.mpr ⟨rfl, List.forall_mem_cons.mpr ⟨rfl, List.forall_mem_cons.mpr ⟨rfl, List.forall_mem_cons.mpr ⟨rfl, fun _ q => absurd q List.not_mem_nil⟩⟩⟩⟩) (Nat.le_of_ble_eq_true rfl) ?_
  show cA K y_R_codeAt 0 [(0, .ref v0), (1, .int v1), (2, .int v2), (3, .int v3)] [] M o N
  unfold g_R_codeAt at h
  refine x_iload_n (pc := 0) d_R_codeAt_0 rfl 1 rfl ?_
  refine h_if_eq (pc := 1) 8 d_R_codeAt_1 (by decide) h (fun _ h => ?_) (fun _ h => ?_)
  · refine x_iconst (pc := 8) d_R_codeAt_8 rfl ?_
    refine x_weak [0, 2, 3] rfl ?_
    exact p_R_codeAt_9 G _ _ _ _ _ h
  · refine x_iconst (pc := 4) d_R_codeAt_4 rfl ?_
    refine x_goto (pc := 5) 9 d_R_codeAt_5 (by decide) ?_
    refine x_weak [0, 2, 3] rfl ?_
    exact p_R_codeAt_9 G _ _ _ _ _ h
theorem p_R_moved (G : xG K) (v0 : Nat) (v1 : Int32) (M : XM) (h : g_R_moved v0 v1 M = some (o, N)) : Ct K y_R_moved [.ref v0, .int v1] M o N := by
  refine ct_of (by decide) (List.forall_mem_cons.mpr ⟨rfl, List.forall_mem_cons.mpr ⟨rfl, fun _ q => absurd q List.not_mem_nil⟩⟩) (Nat.le_of_ble_eq_true rfl) ?_
  show cA K y_R_moved 0 [(0, .ref v0), (1, .int v1)] [] M o N
  unfold g_R_moved at h
  refine x_aload_n (pc := 0) d_R_moved_0 rfl 0 rfl ?_
  refine x_iconst (pc := 1) d_R_moved_1 rfl ?_
  refine h_putI G (pc := 2) (ci := 7) (j := 0) d_R_moved_2 rfl rfl rfl lf_R_92 h fun M1 h => ?_
  refine x_iload_n (pc := 5) d_R_moved_5 rfl 1 rfl ?_
  refine h_if_lt (pc := 6) 15 d_R_moved_6 (by decide) h (fun _ h => ?_) (fun _ h => ?_)
  · refine x_iconst (pc := 15) d_R_moved_15 rfl ?_
    refine x_goto (pc := 16) 25 d_R_moved_16 (by decide) ?_
    exact h_ireturn (pc := 25) d_R_moved_25 rfl h
  · refine x_iload_n (pc := 9) d_R_moved_9 rfl 1 rfl ?_
    refine x_bipush (pc := 10) (v := 29) d_R_moved_10 (by decide) ?_
    refine h_icmp_le (pc := 12) 19 d_R_moved_12 (by decide) h (fun _ h => ?_) (fun _ h => ?_)
    · refine x_aload_n (pc := 19) d_R_moved_19 rfl 0 rfl ?_
      refine h_getR G (pc := 20) (ci := 7) (j := 14) d_R_moved_20 rfl rfl rfl lf_R_50 h fun t2 h => ?_
      refine x_iload_n (pc := 23) d_R_moved_23 rfl 1 rfl ?_
      refine h_iaload (pc := 24) d_R_moved_24 h fun t3 h => ?_
      exact h_ireturn (pc := 25) d_R_moved_25 rfl h
    · refine x_iconst (pc := 15) d_R_moved_15 rfl ?_
      refine x_goto (pc := 16) 25 d_R_moved_16 (by decide) ?_
      exact h_ireturn (pc := 25) d_R_moved_25 rfl h
theorem p_R_begin (G : xG K) (v0 : Nat) (v1 : Int32) (v2 : Int32) (v3 : Int32) (M : XM) (h : g_R_begin v0 v1 v2 v3 M = some (o, N)) : Ct K y_R_begin [.ref v0, .int v1, .int v2, .int v3] M o N := by
  refine ct_of (by decide) (List.forall_mem_cons.mpr ⟨rfl, List.forall_mem_cons.mpr ⟨rfl, List.forall_mem_cons.mpr ⟨rfl, List.forall_mem_cons.mpr ⟨rfl, fun _ q => absurd q List.not_mem_nil⟩⟩⟩⟩) (Nat.le_of_ble_eq_true rfl) ?_
  show cA K y_R_begin 0 [(0, .ref v0), (1, .int v1), (2, .int v2), (3, .int v3)] [] M o N
  unfold g_R_begin at h
  refine x_aload_n (pc := 0) d_R_begin_0 rfl 0 rfl ?_
  refine h_getI G (pc := 1) (ci := 7) (j := 22) d_R_begin_1 rfl rfl rfl lf_R_163 h fun t1 h => ?_
  refine x_bipush (pc := 4) (v := 8) d_R_begin_4 (by decide) ?_
  refine h_icmp_ne (pc := 6) 15 d_R_begin_6 (by decide) h (fun _ h => ?_) (fun _ h => ?_)
  · refine x_aload_n (pc := 15) d_R_begin_15 rfl 0 rfl ?_
    refine h_getR G (pc := 16) (ci := 7) (j := 23) d_R_begin_16 rfl rfl rfl lf_R_74 h fun t2 h => ?_
    refine x_aload_n (pc := 19) d_R_begin_19 rfl 0 rfl ?_
    refine h_getI G (pc := 20) (ci := 7) (j := 22) d_R_begin_20 rfl rfl rfl lf_R_163 h fun t3 h => ?_
    refine x_iload_n (pc := 23) d_R_begin_23 rfl 1 rfl ?_
    refine h_iastore G (pc := 24) d_R_begin_24 h fun M4 h => ?_
    refine x_aload_n (pc := 25) d_R_begin_25 rfl 0 rfl ?_
    refine h_getR G (pc := 26) (ci := 7) (j := 24) d_R_begin_26 rfl rfl rfl lf_R_77 h fun t5 h => ?_
    refine x_aload_n (pc := 29) d_R_begin_29 rfl 0 rfl ?_
    refine h_getI G (pc := 30) (ci := 7) (j := 22) d_R_begin_30 rfl rfl rfl lf_R_163 h fun t6 h => ?_
    refine x_iconst (pc := 33) d_R_begin_33 rfl ?_
    refine h_iastore G (pc := 34) d_R_begin_34 h fun M7 h => ?_
    refine x_aload_n (pc := 35) d_R_begin_35 rfl 0 rfl ?_
    refine h_getR G (pc := 36) (ci := 7) (j := 25) d_R_begin_36 rfl rfl rfl lf_R_80 h fun t8 h => ?_
    refine x_aload_n (pc := 39) d_R_begin_39 rfl 0 rfl ?_
    refine h_getI G (pc := 40) (ci := 7) (j := 22) d_R_begin_40 rfl rfl rfl lf_R_163 h fun t9 h => ?_
    refine x_iload_n (pc := 43) d_R_begin_43 rfl 2 rfl ?_
    refine h_iastore G (pc := 44) d_R_begin_44 h fun M10 h => ?_
    refine x_aload_n (pc := 45) d_R_begin_45 rfl 0 rfl ?_
    refine h_getR G (pc := 46) (ci := 7) (j := 26) d_R_begin_46 rfl rfl rfl lf_R_83 h fun t11 h => ?_
    refine x_aload_n (pc := 49) d_R_begin_49 rfl 0 rfl ?_
    refine h_getI G (pc := 50) (ci := 7) (j := 22) d_R_begin_50 rfl rfl rfl lf_R_163 h fun t12 h => ?_
    refine x_iload_n (pc := 53) d_R_begin_53 rfl 3 rfl ?_
    refine h_iastore G (pc := 54) d_R_begin_54 h fun M13 h => ?_
    refine x_aload_n (pc := 55) d_R_begin_55 rfl 0 rfl ?_
    refine h_getR G (pc := 56) (ci := 7) (j := 27) d_R_begin_56 rfl rfl rfl lf_R_86 h fun t14 h => ?_
    refine x_aload_n (pc := 59) d_R_begin_59 rfl 0 rfl ?_
    refine h_getI G (pc := 60) (ci := 7) (j := 22) d_R_begin_60 rfl rfl rfl lf_R_163 h fun t15 h => ?_
    refine x_iconst (pc := 63) d_R_begin_63 rfl ?_
    refine h_iastore G (pc := 64) d_R_begin_64 h fun M16 h => ?_
    refine x_aload_n (pc := 65) d_R_begin_65 rfl 0 rfl ?_
    refine x_dup (pc := 66) d_R_begin_66 rfl ?_
    refine h_getI G (pc := 67) (ci := 7) (j := 22) d_R_begin_67 rfl rfl rfl lf_R_163 h fun t17 h => ?_
    refine x_iconst (pc := 70) d_R_begin_70 rfl ?_
    refine x_iadd (pc := 71) d_R_begin_71 ?_
    refine h_putI G (pc := 72) (ci := 7) (j := 22) d_R_begin_72 rfl rfl rfl lf_R_163 h fun M18 h => ?_
    exact h_return (pc := 75) d_R_begin_75 rfl h
  · refine x_aload_n (pc := 9) d_R_begin_9 rfl 0 rfl ?_
    refine x_iconst (pc := 10) d_R_begin_10 rfl ?_
    refine h_putI G (pc := 11) (ci := 7) (j := 0) d_R_begin_11 rfl rfl rfl lf_R_92 h fun M19 h => ?_
    exact h_return (pc := 14) d_R_begin_14 rfl h
theorem p_R_push (G : xG K) (v0 : Nat) (v1 : Int32) (M : XM) (h : g_R_push v0 v1 M = some (o, N)) : Ct K y_R_push [.ref v0, .int v1] M o N := by
  refine ct_of (by decide) (List.forall_mem_cons.mpr ⟨rfl, List.forall_mem_cons.mpr ⟨rfl, fun _ q => absurd q List.not_mem_nil⟩⟩) (Nat.le_of_ble_eq_true rfl) ?_
  show cA K y_R_push 0 [(0, .ref v0), (1, .int v1)] [] M o N
  unfold g_R_push at h
  refine x_aload_n (pc := 0) d_R_push_0 rfl 0 rfl ?_
  refine h_getI G (pc := 1) (ci := 7) (j := 22) d_R_push_1 rfl rfl rfl lf_R_163 h fun t1 h => ?_
  refine x_iconst (pc := 4) d_R_push_4 rfl ?_
  refine x_isub (pc := 5) d_R_push_5 ?_
  refine x_istore_n (pc := 6) (L' := [(0, .ref v0), (1, .int v1), (2, .int (t1 - 1))]) d_R_push_6 rfl (by decide) rfl ?_
  refine x_aload_n (pc := 7) d_R_push_7 rfl 0 rfl ?_
  refine h_getR G (pc := 8) (ci := 7) (j := 27) d_R_push_8 rfl rfl rfl lf_R_86 h fun t2 h => ?_
  refine x_iload_n (pc := 11) d_R_push_11 rfl 2 rfl ?_
  refine h_iaload (pc := 12) d_R_push_12 h fun t3 h => ?_
  refine x_bipush (pc := 13) (v := 8) d_R_push_13 (by decide) ?_
  refine h_icmp_ne (pc := 15) 24 d_R_push_15 (by decide) h (fun _ h => ?_) (fun _ h => ?_)
  · refine x_aload_n (pc := 24) d_R_push_24 rfl 0 rfl ?_
    refine h_getR G (pc := 25) (ci := 7) (j := 28) d_R_push_25 rfl rfl rfl lf_R_89 h fun t4 h => ?_
    refine x_bipush (pc := 28) (v := 8) d_R_push_28 (by decide) ?_
    refine x_iload_n (pc := 30) d_R_push_30 rfl 2 rfl ?_
    refine x_imul (pc := 31) d_R_push_31 ?_
    refine x_aload_n (pc := 32) d_R_push_32 rfl 0 rfl ?_
    refine h_getR G (pc := 33) (ci := 7) (j := 27) d_R_push_33 rfl rfl rfl lf_R_86 h fun t5 h => ?_
    refine x_iload_n (pc := 36) d_R_push_36 rfl 2 rfl ?_
    refine h_iaload (pc := 37) d_R_push_37 h fun t6 h => ?_
    refine x_iadd (pc := 38) d_R_push_38 ?_
    refine x_iload_n (pc := 39) d_R_push_39 rfl 1 rfl ?_
    refine h_iastore G (pc := 40) d_R_push_40 h fun M7 h => ?_
    refine x_aload_n (pc := 41) d_R_push_41 rfl 0 rfl ?_
    refine h_getR G (pc := 42) (ci := 7) (j := 27) d_R_push_42 rfl rfl rfl lf_R_86 h fun t8 h => ?_
    refine x_iload_n (pc := 45) d_R_push_45 rfl 2 rfl ?_
    refine x_dup2 (pc := 46) d_R_push_46 rfl rfl ?_
    refine h_iaload (pc := 47) d_R_push_47 h fun t9 h => ?_
    refine x_iconst (pc := 48) d_R_push_48 rfl ?_
    refine x_iadd (pc := 49) d_R_push_49 ?_
    refine h_iastore G (pc := 50) d_R_push_50 h fun M10 h => ?_
    exact h_return (pc := 51) d_R_push_51 rfl h
  · refine x_aload_n (pc := 18) d_R_push_18 rfl 0 rfl ?_
    refine x_iconst (pc := 19) d_R_push_19 rfl ?_
    refine h_putI G (pc := 20) (ci := 7) (j := 0) d_R_push_20 rfl rfl rfl lf_R_92 h fun M11 h => ?_
    exact h_return (pc := 23) d_R_push_23 rfl h
theorem p_R_pop_23 (G : xG K) (v0 : Nat) (M : XM) (h : g_R_pop_23 v0 M = some (o, N)) : cA K y_R_pop 23 [(0, .ref v0)] [] M o N := by
  unfold g_R_pop_23 at h
  refine x_aload_n (pc := 23) d_R_pop_23 rfl 0 rfl ?_
  refine x_aload_n (pc := 24) d_R_pop_24 rfl 0 rfl ?_
  refine h_getI G (pc := 25) (ci := 7) (j := 0) d_R_pop_25 rfl rfl rfl lf_R_92 h fun t1 h => ?_
  refine h_if_le (pc := 28) 38 d_R_pop_28 (by decide) h (fun _ h => ?_) (fun _ h => ?_)
  · refine x_iconst (pc := 38) d_R_pop_38 rfl ?_
    refine h_putI G (pc := 39) (ci := 7) (j := 0) d_R_pop_39 rfl rfl rfl lf_R_92 h fun M2 h => ?_
    refine x_iconst (pc := 42) d_R_pop_42 rfl ?_
    exact h_ireturn (pc := 43) d_R_pop_43 rfl h
  · refine x_aload_n (pc := 31) d_R_pop_31 rfl 0 rfl ?_
    refine h_getI G (pc := 32) (ci := 7) (j := 0) d_R_pop_32 rfl rfl rfl lf_R_92 h fun t3 h => ?_
    refine x_goto (pc := 35) 39 d_R_pop_35 (by decide) ?_
    refine h_putI G (pc := 39) (ci := 7) (j := 0) d_R_pop_39 rfl rfl rfl lf_R_92 h fun M4 h => ?_
    refine x_iconst (pc := 42) d_R_pop_42 rfl ?_
    exact h_ireturn (pc := 43) d_R_pop_43 rfl h
theorem p_R_pop (G : xG K) (v0 : Nat) (M : XM) (h : g_R_pop v0 M = some (o, N)) : Ct K y_R_pop [.ref v0] M o N := by
  refine ct_of (by decide) (List.forall_mem_cons.mpr ⟨rfl, fun _ q => absurd q List.not_mem_nil⟩) (Nat.le_of_ble_eq_true rfl) ?_
  show cA K y_R_pop 0 [(0, .ref v0)] [] M o N
  unfold g_R_pop at h
  refine x_aload_n (pc := 0) d_R_pop_0 rfl 0 rfl ?_
  refine h_getI G (pc := 1) (ci := 7) (j := 22) d_R_pop_1 rfl rfl rfl lf_R_163 h fun t1 h => ?_
  refine x_iconst (pc := 4) d_R_pop_4 rfl ?_
  refine x_isub (pc := 5) d_R_pop_5 ?_
  refine x_istore_n (pc := 6) (L' := [(0, .ref v0), (1, .int (t1 - 1))]) d_R_pop_6 rfl (by decide) rfl ?_
  refine x_aload_n (pc := 7) d_R_pop_7 rfl 0 rfl ?_
  refine h_getI G (pc := 8) (ci := 7) (j := 0) d_R_pop_8 rfl rfl rfl lf_R_92 h fun t2 h => ?_
  refine h_if_gt (pc := 11) 23 d_R_pop_11 (by decide) h (fun _ h => ?_) (fun _ h => ?_)
  · refine x_weak [0] rfl ?_
    exact p_R_pop_23 G _ _ h
  · refine x_aload_n (pc := 14) d_R_pop_14 rfl 0 rfl ?_
    refine h_getR G (pc := 15) (ci := 7) (j := 27) d_R_pop_15 rfl rfl rfl lf_R_86 h fun t3 h => ?_
    refine x_iload_n (pc := 18) d_R_pop_18 rfl 1 rfl ?_
    refine h_iaload (pc := 19) d_R_pop_19 h fun t4 h => ?_
    refine h_if_ne (pc := 20) 44 d_R_pop_20 (by decide) h (fun _ h => ?_) (fun _ h => ?_)
    · refine x_aload_n (pc := 44) d_R_pop_44 rfl 0 rfl ?_
      refine h_getR G (pc := 45) (ci := 7) (j := 27) d_R_pop_45 rfl rfl rfl lf_R_86 h fun t5 h => ?_
      refine x_iload_n (pc := 48) d_R_pop_48 rfl 1 rfl ?_
      refine x_dup2 (pc := 49) d_R_pop_49 rfl rfl ?_
      refine h_iaload (pc := 50) d_R_pop_50 h fun t6 h => ?_
      refine x_iconst (pc := 51) d_R_pop_51 rfl ?_
      refine x_isub (pc := 52) d_R_pop_52 ?_
      refine h_iastore G (pc := 53) d_R_pop_53 h fun M7 h => ?_
      refine x_aload_n (pc := 54) d_R_pop_54 rfl 0 rfl ?_
      refine h_getR G (pc := 55) (ci := 7) (j := 28) d_R_pop_55 rfl rfl rfl lf_R_89 h fun t8 h => ?_
      refine x_bipush (pc := 58) (v := 8) d_R_pop_58 (by decide) ?_
      refine x_iload_n (pc := 60) d_R_pop_60 rfl 1 rfl ?_
      refine x_imul (pc := 61) d_R_pop_61 ?_
      refine x_aload_n (pc := 62) d_R_pop_62 rfl 0 rfl ?_
      refine h_getR G (pc := 63) (ci := 7) (j := 27) d_R_pop_63 rfl rfl rfl lf_R_86 h fun t9 h => ?_
      refine x_iload_n (pc := 66) d_R_pop_66 rfl 1 rfl ?_
      refine h_iaload (pc := 67) d_R_pop_67 h fun t10 h => ?_
      refine x_iadd (pc := 68) d_R_pop_68 ?_
      refine h_iaload (pc := 69) d_R_pop_69 h fun t11 h => ?_
      exact h_ireturn (pc := 70) d_R_pop_70 rfl h
    · refine x_weak [0] rfl ?_
      exact p_R_pop_23 G _ _ h
theorem p_R_call_39 (G : xG K) (v0 : Nat) (v2 : Int32) (v4 : Int32) (s0 : Int32) (M : XM) (h : g_R_call_39 v0 v2 v4 s0 M = some (o, N)) : cA K y_R_call 39 [(0, .ref v0), (2, .int v2), (4, .int v4)] [.int s0] M o N := by
  unfold g_R_call_39 at h
  refine x_istore (pc := 39) (L' := [(0, .ref v0), (2, .int v2), (4, .int v4), (5, .int s0)]) d_R_call_39 (by decide) rfl ?_
  refine x_aload_n (pc := 41) d_R_call_41 rfl 0 rfl ?_
  refine h_getI G (pc := 42) (ci := 7) (j := 0) d_R_call_42 rfl rfl rfl lf_R_92 h fun t1 h => ?_
  refine h_if_ne (pc := 45) 57 d_R_call_45 (by decide) h (fun _ h => ?_) (fun _ h => ?_)
  · exact h_return (pc := 57) d_R_call_57 rfl h
  · refine x_aload_n (pc := 48) d_R_call_48 rfl 0 rfl ?_
    refine x_iload_n (pc := 49) d_R_call_49 rfl 1 rfl ?_
    refine x_iload (pc := 50) d_R_call_50 3 rfl ?_
    refine x_iload (pc := 52) d_R_call_52 2 rfl ?_
    obtain ⟨⟨ra2, ra2t⟩, h⟩ := h_ok h
    refine h_callV G (x_siteV G (pc := 54) (y2 := y_R_begin) (As := [.int v2, .int s0, .int v4]) (S := []) (ci := 7) d_R_call_54 rfl lm_R_172 mi_R_begin ms_R_begin mw_R_begin.1 mx_R_begin.1 mx_R_begin.2 rfl ra2 ra2t) mw_R_begin ⟨Nat.le_of_ble_eq_true rfl, Nat.le_of_ble_eq_true rfl⟩ rfl (fun _ _ e => p_R_begin G _ _ _ _ _ e) h fun M3 h => ?_
    exact h_return (pc := 57) d_R_call_57 rfl h
theorem p_R_call_25 (G : xG K) (v0 : Nat) (v2 : Int32) (v3 : Int32) (s0 : Int32) (M : XM) (h : g_R_call_25 v0 v2 v3 s0 M = some (o, N)) : cA K y_R_call 25 [(0, .ref v0), (2, .int v2), (3, .int v3)] [.int s0] M o N := by
  unfold g_R_call_25 at h
  refine x_istore (pc := 25) (L' := [(0, .ref v0), (2, .int v2), (3, .int v3), (4, .int s0)]) d_R_call_25 (by decide) rfl ?_
  refine x_iload_n (pc := 27) d_R_call_27 rfl 2 rfl ?_
  refine h_if_le (pc := 28) 38 d_R_call_28 (by decide) h (fun _ h => ?_) (fun _ h => ?_)
  · refine x_iconst (pc := 38) d_R_call_38 rfl ?_
    refine x_weak [0, 1, 3] rfl ?_
    exact p_R_call_39 G _ _ _ _ _ h
  · refine x_aload_n (pc := 31) d_R_call_31 rfl 0 rfl ?_
    obtain ⟨⟨ra1, ra1t⟩, h⟩ := h_ok h
    refine h_callI G (x_siteV G (pc := 32) (y2 := y_R_pop) (As := []) (S := []) (ci := 7) d_R_call_32 rfl lm_R_166 mi_R_pop ms_R_pop mw_R_pop.1 mx_R_pop.1 mx_R_pop.2 rfl ra1 ra1t) mw_R_pop ⟨Nat.le_of_ble_eq_true rfl, Nat.le_of_ble_eq_true rfl⟩ rfl (fun _ _ e => p_R_pop G _ _ e) h fun t3 M2 h => ?_
    refine x_goto (pc := 35) 39 d_R_call_35 (by decide) ?_
    refine x_weak [0, 1, 3] rfl ?_
    exact p_R_call_39 G _ _ _ _ _ h
theorem p_R_call (G : xG K) (v0 : Nat) (v1 : Int32) (v2 : Int32) (M : XM) (h : g_R_call v0 v1 v2 M = some (o, N)) : Ct K y_R_call [.ref v0, .int v1, .int v2] M o N := by
  refine ct_of (by decide) (List.forall_mem_cons.mpr ⟨rfl, List.forall_mem_cons.mpr ⟨rfl, List.forall_mem_cons.mpr ⟨rfl, fun _ q => absurd q List.not_mem_nil⟩⟩⟩) (Nat.le_of_ble_eq_true rfl) ?_
  show cA K y_R_call 0 [(0, .ref v0), (1, .int v1), (2, .int v2)] [] M o N
  unfold g_R_call at h
  refine x_aload_n (pc := 0) d_R_call_0 rfl 0 rfl ?_
  refine h_getR G (pc := 1) (ci := 7) (j := 9) d_R_call_1 rfl rfl rfl lf_R_34 h fun t1 h => ?_
  refine x_bipush (pc := 4) (v := 30) d_R_call_4 (by decide) ?_
  refine x_iload_n (pc := 6) d_R_call_6 rfl 1 rfl ?_
  refine x_imul (pc := 7) d_R_call_7 ?_
  refine x_iload_n (pc := 8) d_R_call_8 rfl 2 rfl ?_
  refine x_iadd (pc := 9) d_R_call_9 ?_
  refine h_iaload (pc := 10) d_R_call_10 h fun t2 h => ?_
  refine x_istore_n (pc := 11) (L' := [(0, .ref v0), (1, .int v1), (2, .int v2), (3, .int t2)]) d_R_call_11 rfl (by decide) rfl ?_
  refine x_iload_n (pc := 12) d_R_call_12 rfl 3 rfl ?_
  refine x_iconst (pc := 13) d_R_call_13 rfl ?_
  refine h_icmp_ne (pc := 14) 24 d_R_call_14 (by decide) h (fun _ h => ?_) (fun _ h => ?_)
  · refine x_iconst (pc := 24) d_R_call_24 rfl ?_
    refine x_weak [0, 2, 3] rfl ?_
    exact p_R_call_25 G _ _ _ _ _ h
  · refine x_aload_n (pc := 17) d_R_call_17 rfl 0 rfl ?_
    obtain ⟨⟨ra3, ra3t⟩, h⟩ := h_ok h
    refine h_callI G (x_siteV G (pc := 18) (y2 := y_R_pop) (As := []) (S := []) (ci := 7) d_R_call_18 rfl lm_R_166 mi_R_pop ms_R_pop mw_R_pop.1 mx_R_pop.1 mx_R_pop.2 rfl ra3 ra3t) mw_R_pop ⟨Nat.le_of_ble_eq_true rfl, Nat.le_of_ble_eq_true rfl⟩ rfl (fun _ _ e => p_R_pop G _ _ e) h fun t5 M4 h => ?_
    refine x_goto (pc := 21) 25 d_R_call_21 (by decide) ?_
    refine x_weak [0, 2, 3] rfl ?_
    exact p_R_call_25 G _ _ _ _ _ h
theorem p_R_arithmetic_34 (G : xG K) (v0 : Nat) (v1 : Int32) (v2 : Int32) (v3 : Int32) (M : XM) (h : g_R_arithmetic_34 v0 v1 v2 v3 M = some (o, N)) : cA K y_R_arithmetic 34 [(0, .ref v0), (1, .int v1), (2, .int v2), (3, .int v3)] [] M o N := by
  unfold g_R_arithmetic_34 at h
  refine x_aload_n (pc := 34) d_R_arithmetic_34 rfl 0 rfl ?_
  refine x_iload_n (pc := 35) d_R_arithmetic_35 rfl 1 rfl ?_
  refine x_iconst (pc := 36) d_R_arithmetic_36 rfl ?_
  refine h_icmp_ne (pc := 37) 46 d_R_arithmetic_37 (by decide) h (fun _ h => ?_) (fun _ h => ?_)
  · refine x_iload_n (pc := 46) d_R_arithmetic_46 rfl 1 rfl ?_
    refine x_bipush (pc := 47) (v := 6) d_R_arithmetic_47 (by decide) ?_
    refine h_icmp_ne (pc := 49) 58 d_R_arithmetic_49 (by decide) h (fun _ h => ?_) (fun _ h => ?_)
    · refine x_iload_n (pc := 58) d_R_arithmetic_58 rfl 1 rfl ?_
      refine x_bipush (pc := 59) (v := 7) d_R_arithmetic_59 (by decide) ?_
      refine h_icmp_ne (pc := 61) 70 d_R_arithmetic_61 (by decide) h (fun _ h => ?_) (fun _ h => ?_)
      · refine x_iload_n (pc := 70) d_R_arithmetic_70 rfl 2 rfl ?_
        refine x_iconst (pc := 71) d_R_arithmetic_71 rfl ?_
        refine h_icmp_ne (pc := 72) 81 d_R_arithmetic_72 (by decide) h (fun _ h => ?_) (fun _ h => ?_)
        · refine x_iload_n (pc := 81) d_R_arithmetic_81 rfl 3 rfl ?_
          refine x_iload_n (pc := 82) d_R_arithmetic_82 rfl 2 rfl ?_
          refine h_idiv (pc := 83) d_R_arithmetic_83 h fun h => ?_
          obtain ⟨⟨ra1, ra1t⟩, h⟩ := h_ok h
          refine h_callV G (x_siteV G (pc := 84) (y2 := y_R_push) (As := [.int (v3 / v2)]) (S := []) (ci := 7) d_R_arithmetic_84 rfl lm_R_169 mi_R_push ms_R_push mw_R_push.1 mx_R_push.1 mx_R_push.2 rfl ra1 ra1t) mw_R_push ⟨Nat.le_of_ble_eq_true rfl, Nat.le_of_ble_eq_true rfl⟩ rfl (fun _ _ e => p_R_push G _ _ _ e) h fun M2 h => ?_
          exact h_return (pc := 87) d_R_arithmetic_87 rfl h
        · refine x_iconst (pc := 75) d_R_arithmetic_75 rfl ?_
          refine x_iload_n (pc := 76) d_R_arithmetic_76 rfl 3 rfl ?_
          refine x_isub (pc := 77) d_R_arithmetic_77 ?_
          refine x_goto (pc := 78) 84 d_R_arithmetic_78 (by decide) ?_
          obtain ⟨⟨ra3, ra3t⟩, h⟩ := h_ok h
          refine h_callV G (x_siteV G (pc := 84) (y2 := y_R_push) (As := [.int (0 - v3)]) (S := []) (ci := 7) d_R_arithmetic_84 rfl lm_R_169 mi_R_push ms_R_push mw_R_push.1 mx_R_push.1 mx_R_push.2 rfl ra3 ra3t) mw_R_push ⟨Nat.le_of_ble_eq_true rfl, Nat.le_of_ble_eq_true rfl⟩ rfl (fun _ _ e => p_R_push G _ _ _ e) h fun M4 h => ?_
          exact h_return (pc := 87) d_R_arithmetic_87 rfl h
      · refine x_iload_n (pc := 64) d_R_arithmetic_64 rfl 3 rfl ?_
        refine x_iload_n (pc := 65) d_R_arithmetic_65 rfl 2 rfl ?_
        refine x_imul (pc := 66) d_R_arithmetic_66 ?_
        refine x_goto (pc := 67) 84 d_R_arithmetic_67 (by decide) ?_
        obtain ⟨⟨ra5, ra5t⟩, h⟩ := h_ok h
        refine h_callV G (x_siteV G (pc := 84) (y2 := y_R_push) (As := [.int (v3 * v2)]) (S := []) (ci := 7) d_R_arithmetic_84 rfl lm_R_169 mi_R_push ms_R_push mw_R_push.1 mx_R_push.1 mx_R_push.2 rfl ra5 ra5t) mw_R_push ⟨Nat.le_of_ble_eq_true rfl, Nat.le_of_ble_eq_true rfl⟩ rfl (fun _ _ e => p_R_push G _ _ _ e) h fun M6 h => ?_
        exact h_return (pc := 87) d_R_arithmetic_87 rfl h
    · refine x_iload_n (pc := 52) d_R_arithmetic_52 rfl 3 rfl ?_
      refine x_iload_n (pc := 53) d_R_arithmetic_53 rfl 2 rfl ?_
      refine x_isub (pc := 54) d_R_arithmetic_54 ?_
      refine x_goto (pc := 55) 84 d_R_arithmetic_55 (by decide) ?_
      obtain ⟨⟨ra7, ra7t⟩, h⟩ := h_ok h
      refine h_callV G (x_siteV G (pc := 84) (y2 := y_R_push) (As := [.int (v3 - v2)]) (S := []) (ci := 7) d_R_arithmetic_84 rfl lm_R_169 mi_R_push ms_R_push mw_R_push.1 mx_R_push.1 mx_R_push.2 rfl ra7 ra7t) mw_R_push ⟨Nat.le_of_ble_eq_true rfl, Nat.le_of_ble_eq_true rfl⟩ rfl (fun _ _ e => p_R_push G _ _ _ e) h fun M8 h => ?_
      exact h_return (pc := 87) d_R_arithmetic_87 rfl h
  · refine x_iload_n (pc := 40) d_R_arithmetic_40 rfl 3 rfl ?_
    refine x_iload_n (pc := 41) d_R_arithmetic_41 rfl 2 rfl ?_
    refine x_iadd (pc := 42) d_R_arithmetic_42 ?_
    refine x_goto (pc := 43) 84 d_R_arithmetic_43 (by decide) ?_
    obtain ⟨⟨ra9, ra9t⟩, h⟩ := h_ok h
    refine h_callV G (x_siteV G (pc := 84) (y2 := y_R_push) (As := [.int (v3 + v2)]) (S := []) (ci := 7) d_R_arithmetic_84 rfl lm_R_169 mi_R_push ms_R_push mw_R_push.1 mx_R_push.1 mx_R_push.2 rfl ra9 ra9t) mw_R_push ⟨Nat.le_of_ble_eq_true rfl, Nat.le_of_ble_eq_true rfl⟩ rfl (fun _ _ e => p_R_push G _ _ _ e) h fun M10 h => ?_
    exact h_return (pc := 87) d_R_arithmetic_87 rfl h
theorem p_R_arithmetic (G : xG K) (v0 : Nat) (v1 : Int32) (M : XM) (h : g_R_arithmetic v0 v1 M = some (o, N)) : Ct K y_R_arithmetic [.ref v0, .int v1] M o N := by
  refine ct_of (by decide) (List.forall_mem_cons.mpr ⟨rfl, List.forall_mem_cons.mpr ⟨rfl, fun _ q => absurd q List.not_mem_nil⟩⟩) (Nat.le_of_ble_eq_true rfl) ?_
  show cA K y_R_arithmetic 0 [(0, .ref v0), (1, .int v1)] [] M o N
  unfold g_R_arithmetic at h
  refine x_aload_n (pc := 0) d_R_arithmetic_0 rfl 0 rfl ?_
  obtain ⟨⟨ra1, ra1t⟩, h⟩ := h_ok h
  refine h_callI G (x_siteV G (pc := 1) (y2 := y_R_pop) (As := []) (S := []) (ci := 7) d_R_arithmetic_1 rfl lm_R_166 mi_R_pop ms_R_pop mw_R_pop.1 mx_R_pop.1 mx_R_pop.2 rfl ra1 ra1t) mw_R_pop ⟨Nat.le_of_ble_eq_true rfl, Nat.le_of_ble_eq_true rfl⟩ rfl (fun _ _ e => p_R_pop G _ _ e) h fun t3 M2 h => ?_
  refine x_istore_n (pc := 4) (L' := [(0, .ref v0), (1, .int v1), (2, .int t3)]) d_R_arithmetic_4 rfl (by decide) rfl ?_
  refine x_aload_n (pc := 5) d_R_arithmetic_5 rfl 0 rfl ?_
  obtain ⟨⟨ra4, ra4t⟩, h⟩ := h_ok h
  refine h_callI G (x_siteV G (pc := 6) (y2 := y_R_pop) (As := []) (S := []) (ci := 7) d_R_arithmetic_6 rfl lm_R_166 mi_R_pop ms_R_pop mw_R_pop.1 mx_R_pop.1 mx_R_pop.2 rfl ra4 ra4t) mw_R_pop ⟨Nat.le_of_ble_eq_true rfl, Nat.le_of_ble_eq_true rfl⟩ rfl (fun _ _ e => p_R_pop G _ _ e) h fun t6 M5 h => ?_
  refine x_istore_n (pc := 9) (L' := [(0, .ref v0), (1, .int v1), (2, .int t3), (3, .int t6)]) d_R_arithmetic_9 rfl (by decide) rfl ?_
  refine x_aload_n (pc := 10) d_R_arithmetic_10 rfl 0 rfl ?_
  refine h_getI G (pc := 11) (ci := 7) (j := 0) d_R_arithmetic_11 rfl rfl rfl lf_R_92 h fun t7 h => ?_
  refine h_if_le (pc := 14) 18 d_R_arithmetic_14 (by decide) h (fun _ h => ?_) (fun _ h => ?_)
  · refine x_iload_n (pc := 18) d_R_arithmetic_18 rfl 1 rfl ?_
    refine x_bipush (pc := 19) (v := 8) d_R_arithmetic_19 (by decide) ?_
    refine h_icmp_ne (pc := 21) 34 d_R_arithmetic_21 (by decide) h (fun _ h => ?_) (fun _ h => ?_)
    · refine x_weak [0, 1, 2, 3] rfl ?_
      exact p_R_arithmetic_34 G _ _ _ _ _ h
    · refine x_iload_n (pc := 24) d_R_arithmetic_24 rfl 2 rfl ?_
      refine h_if_ne (pc := 25) 34 d_R_arithmetic_25 (by decide) h (fun _ h => ?_) (fun _ h => ?_)
      · refine x_weak [0, 1, 2, 3] rfl ?_
        exact p_R_arithmetic_34 G _ _ _ _ _ h
      · refine x_aload_n (pc := 28) d_R_arithmetic_28 rfl 0 rfl ?_
        refine x_iconst (pc := 29) d_R_arithmetic_29 rfl ?_
        refine h_putI G (pc := 30) (ci := 7) (j := 0) d_R_arithmetic_30 rfl rfl rfl lf_R_92 h fun M8 h => ?_
        exact h_return (pc := 33) d_R_arithmetic_33 rfl h
  · exact h_return (pc := 17) d_R_arithmetic_17 rfl h
end XG
