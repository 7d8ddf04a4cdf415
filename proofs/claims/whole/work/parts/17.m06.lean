/-! laid by program from the bytecode: R_firstFault, R_fault, R_countEntries, R_reach, R_usesPool, R_markConstants, R_numberAll -/
theorem d_R_firstFault_0 : decode prog_9_method_18_code 0 = .ok (.iconst 0, 1) := by decide +kernel
theorem d_R_firstFault_1 : decode prog_9_method_18_code 1 = .ok (.istore_n 1, 1) := by decide +kernel
theorem d_R_firstFault_2 : decode prog_9_method_18_code 2 = .ok (.iload_n 1, 1) := by decide +kernel
theorem d_R_firstFault_3 : decode prog_9_method_18_code 3 = .ok (.aload_n 0, 1) := by decide +kernel
theorem d_R_firstFault_4 : decode prog_9_method_18_code 4 = .ok (.getfield 13, 3) := by decide +kernel
theorem d_R_firstFault_7 : decode prog_9_method_18_code 7 = .ok (.iconst 0, 1) := by decide +kernel
theorem d_R_firstFault_8 : decode prog_9_method_18_code 8 = .ok (.iaload, 1) := by decide +kernel
theorem d_R_firstFault_9 : decode prog_9_method_18_code 9 = .ok (.if_icmp .ge 44, 3) := by decide +kernel
theorem d_R_firstFault_12 : decode prog_9_method_18_code 12 = .ok (.iconst 0, 1) := by decide +kernel
theorem d_R_firstFault_13 : decode prog_9_method_18_code 13 = .ok (.istore_n 2, 1) := by decide +kernel
theorem d_R_firstFault_14 : decode prog_9_method_18_code 14 = .ok (.iload_n 2, 1) := by decide +kernel
theorem d_R_firstFault_15 : decode prog_9_method_18_code 15 = .ok (.aload_n 0, 1) := by decide +kernel
theorem d_R_firstFault_16 : decode prog_9_method_18_code 16 = .ok (.getfield 37, 3) := by decide +kernel
theorem d_R_firstFault_19 : decode prog_9_method_18_code 19 = .ok (.iload_n 1, 1) := by decide +kernel
theorem d_R_firstFault_20 : decode prog_9_method_18_code 20 = .ok (.iaload, 1) := by decide +kernel
theorem d_R_firstFault_21 : decode prog_9_method_18_code 21 = .ok (.if_icmp .ge 26, 3) := by decide +kernel
theorem d_R_firstFault_24 : decode prog_9_method_18_code 24 = .ok (.aload_n 0, 1) := by decide +kernel
theorem d_R_firstFault_25 : decode prog_9_method_18_code 25 = .ok (.iconst 0, 1) := by decide +kernel
theorem d_R_firstFault_26 : decode prog_9_method_18_code 26 = .ok (.iload_n 1, 1) := by decide +kernel
theorem d_R_firstFault_27 : decode prog_9_method_18_code 27 = .ok (.iload_n 2, 1) := by decide +kernel
theorem d_R_firstFault_28 : decode prog_9_method_18_code 28 = .ok (.invokevirtual 125, 3) := by decide +kernel
theorem d_R_firstFault_31 : decode prog_9_method_18_code 31 = .ok (.ifCond .ne 10, 3) := by decide +kernel
theorem d_R_firstFault_34 : decode prog_9_method_18_code 34 = .ok (.bipush 100, 2) := by decide +kernel
theorem d_R_firstFault_36 : decode prog_9_method_18_code 36 = .ok (.iload_n 1, 1) := by decide +kernel
theorem d_R_firstFault_37 : decode prog_9_method_18_code 37 = .ok (.imul, 1) := by decide +kernel
theorem d_R_firstFault_38 : decode prog_9_method_18_code 38 = .ok (.iload_n 2, 1) := by decide +kernel
theorem d_R_firstFault_39 : decode prog_9_method_18_code 39 = .ok (.iadd, 1) := by decide +kernel
theorem d_R_firstFault_40 : decode prog_9_method_18_code 40 = .ok (.ireturn, 1) := by decide +kernel
theorem d_R_firstFault_41 : decode prog_9_method_18_code 41 = .ok (.iinc 2 1, 3) := by decide +kernel
theorem d_R_firstFault_44 : decode prog_9_method_18_code 44 = .ok (.goto (-30), 3) := by decide +kernel
theorem d_R_firstFault_47 : decode prog_9_method_18_code 47 = .ok (.iinc 1 1, 3) := by decide +kernel
theorem d_R_firstFault_50 : decode prog_9_method_18_code 50 = .ok (.goto (-48), 3) := by decide +kernel
theorem d_R_firstFault_53 : decode prog_9_method_18_code 53 = .ok (.iconst (-1), 1) := by decide +kernel
theorem d_R_firstFault_54 : decode prog_9_method_18_code 54 = .ok (.ireturn, 1) := by decide +kernel
theorem d_R_fault_0 : decode prog_9_method_19_code 0 = .ok (.aload_n 0, 1) := by decide +kernel
theorem d_R_fault_1 : decode prog_9_method_19_code 1 = .ok (.iconst 0, 1) := by decide +kernel
theorem d_R_fault_2 : decode prog_9_method_19_code 2 = .ok (.putfield 92, 3) := by decide +kernel
theorem d_R_fault_5 : decode prog_9_method_19_code 5 = .ok (.aload_n 0, 1) := by decide +kernel
theorem d_R_fault_6 : decode prog_9_method_19_code 6 = .ok (.invokevirtual 129, 3) := by decide +kernel
theorem d_R_fault_9 : decode prog_9_method_19_code 9 = .ok (.ireturn, 1) := by decide +kernel
theorem d_R_countEntries_0 : decode prog_9_method_20_code 0 = .ok (.iconst 0, 1) := by decide +kernel
theorem d_R_countEntries_1 : decode prog_9_method_20_code 1 = .ok (.istore_n 2, 1) := by decide +kernel
theorem d_R_countEntries_2 : decode prog_9_method_20_code 2 = .ok (.iconst 0, 1) := by decide +kernel
theorem d_R_countEntries_3 : decode prog_9_method_20_code 3 = .ok (.istore_n 3, 1) := by decide +kernel
theorem d_R_countEntries_4 : decode prog_9_method_20_code 4 = .ok (.iload_n 3, 1) := by decide +kernel
theorem d_R_countEntries_5 : decode prog_9_method_20_code 5 = .ok (.aload_n 0, 1) := by decide +kernel
theorem d_R_countEntries_6 : decode prog_9_method_20_code 6 = .ok (.getfield 13, 3) := by decide +kernel
theorem d_R_countEntries_9 : decode prog_9_method_20_code 9 = .ok (.iload_n 1, 1) := by decide +kernel
theorem d_R_countEntries_10 : decode prog_9_method_20_code 10 = .ok (.iaload, 1) := by decide +kernel
theorem d_R_countEntries_11 : decode prog_9_method_20_code 11 = .ok (.if_icmp .ge 31, 3) := by decide +kernel
theorem d_R_countEntries_14 : decode prog_9_method_20_code 14 = .ok (.aload_n 0, 1) := by decide +kernel
theorem d_R_countEntries_15 : decode prog_9_method_20_code 15 = .ok (.getfield 40, 3) := by decide +kernel
theorem d_R_countEntries_18 : decode prog_9_method_20_code 18 = .ok (.bipush 30, 2) := by decide +kernel
theorem d_R_countEntries_20 : decode prog_9_method_20_code 20 = .ok (.iload_n 1, 1) := by decide +kernel
theorem d_R_countEntries_21 : decode prog_9_method_20_code 21 = .ok (.imul, 1) := by decide +kernel
theorem d_R_countEntries_22 : decode prog_9_method_20_code 22 = .ok (.iload_n 3, 1) := by decide +kernel
theorem d_R_countEntries_23 : decode prog_9_method_20_code 23 = .ok (.iadd, 1) := by decide +kernel
theorem d_R_countEntries_24 : decode prog_9_method_20_code 24 = .ok (.baload, 1) := by decide +kernel
theorem d_R_countEntries_25 : decode prog_9_method_20_code 25 = .ok (.ifCond .eq 9, 3) := by decide +kernel
theorem d_R_countEntries_28 : decode prog_9_method_20_code 28 = .ok (.iload_n 2, 1) := by decide +kernel
theorem d_R_countEntries_29 : decode prog_9_method_20_code 29 = .ok (.iconst 1, 1) := by decide +kernel
theorem d_R_countEntries_30 : decode prog_9_method_20_code 30 = .ok (.iadd, 1) := by decide +kernel
theorem d_R_countEntries_31 : decode prog_9_method_20_code 31 = .ok (.goto 4, 3) := by decide +kernel
theorem d_R_countEntries_34 : decode prog_9_method_20_code 34 = .ok (.iload_n 2, 1) := by decide +kernel
theorem d_R_countEntries_35 : decode prog_9_method_20_code 35 = .ok (.istore_n 2, 1) := by decide +kernel
theorem d_R_countEntries_36 : decode prog_9_method_20_code 36 = .ok (.iinc 3 1, 3) := by decide +kernel
theorem d_R_countEntries_39 : decode prog_9_method_20_code 39 = .ok (.goto (-35), 3) := by decide +kernel
theorem d_R_countEntries_42 : decode prog_9_method_20_code 42 = .ok (.iload_n 2, 1) := by decide +kernel
theorem d_R_countEntries_43 : decode prog_9_method_20_code 43 = .ok (.ireturn, 1) := by decide +kernel
theorem d_R_reach_0 : decode prog_9_method_21_code 0 = .ok (.iconst 0, 1) := by decide +kernel
theorem d_R_reach_1 : decode prog_9_method_21_code 1 = .ok (.istore_n 1, 1) := by decide +kernel
theorem d_R_reach_2 : decode prog_9_method_21_code 2 = .ok (.iload_n 1, 1) := by decide +kernel
theorem d_R_reach_3 : decode prog_9_method_21_code 3 = .ok (.aload_n 0, 1) := by decide +kernel
theorem d_R_reach_4 : decode prog_9_method_21_code 4 = .ok (.getfield 13, 3) := by decide +kernel
theorem d_R_reach_7 : decode prog_9_method_21_code 7 = .ok (.iconst 0, 1) := by decide +kernel
theorem d_R_reach_8 : decode prog_9_method_21_code 8 = .ok (.iaload, 1) := by decide +kernel
theorem d_R_reach_9 : decode prog_9_method_21_code 9 = .ok (.if_icmp .ge 21, 3) := by decide +kernel
theorem d_R_reach_12 : decode prog_9_method_21_code 12 = .ok (.aload_n 0, 1) := by decide +kernel
theorem d_R_reach_13 : decode prog_9_method_21_code 13 = .ok (.getfield 53, 3) := by decide +kernel
theorem d_R_reach_16 : decode prog_9_method_21_code 16 = .ok (.iload_n 1, 1) := by decide +kernel
theorem d_R_reach_17 : decode prog_9_method_21_code 17 = .ok (.aload_n 0, 1) := by decide +kernel
theorem d_R_reach_18 : decode prog_9_method_21_code 18 = .ok (.getfield 40, 3) := by decide +kernel
theorem d_R_reach_21 : decode prog_9_method_21_code 21 = .ok (.iload_n 1, 1) := by decide +kernel
theorem d_R_reach_22 : decode prog_9_method_21_code 22 = .ok (.baload, 1) := by decide +kernel
theorem d_R_reach_23 : decode prog_9_method_21_code 23 = .ok (.bastore, 1) := by decide +kernel
theorem d_R_reach_24 : decode prog_9_method_21_code 24 = .ok (.iinc 1 1, 3) := by decide +kernel
theorem d_R_reach_27 : decode prog_9_method_21_code 27 = .ok (.goto (-25), 3) := by decide +kernel
theorem d_R_reach_30 : decode prog_9_method_21_code 30 = .ok (.iconst 1, 1) := by decide +kernel
theorem d_R_reach_31 : decode prog_9_method_21_code 31 = .ok (.istore_n 1, 1) := by decide +kernel
theorem d_R_reach_32 : decode prog_9_method_21_code 32 = .ok (.iload_n 1, 1) := by decide +kernel
theorem d_R_reach_33 : decode prog_9_method_21_code 33 = .ok (.ifCond .eq 147, 3) := by decide +kernel
theorem d_R_reach_36 : decode prog_9_method_21_code 36 = .ok (.iconst 0, 1) := by decide +kernel
theorem d_R_reach_37 : decode prog_9_method_21_code 37 = .ok (.istore_n 1, 1) := by decide +kernel
theorem d_R_reach_38 : decode prog_9_method_21_code 38 = .ok (.iconst 0, 1) := by decide +kernel
theorem d_R_reach_39 : decode prog_9_method_21_code 39 = .ok (.istore_n 2, 1) := by decide +kernel
theorem d_R_reach_40 : decode prog_9_method_21_code 40 = .ok (.iload_n 2, 1) := by decide +kernel
theorem d_R_reach_41 : decode prog_9_method_21_code 41 = .ok (.aload_n 0, 1) := by decide +kernel
theorem d_R_reach_42 : decode prog_9_method_21_code 42 = .ok (.getfield 13, 3) := by decide +kernel
theorem d_R_reach_45 : decode prog_9_method_21_code 45 = .ok (.iconst 0, 1) := by decide +kernel
theorem d_R_reach_46 : decode prog_9_method_21_code 46 = .ok (.iaload, 1) := by decide +kernel
theorem d_R_reach_47 : decode prog_9_method_21_code 47 = .ok (.if_icmp .ge 130, 3) := by decide +kernel
theorem d_R_reach_50 : decode prog_9_method_21_code 50 = .ok (.iconst 0, 1) := by decide +kernel
theorem d_R_reach_51 : decode prog_9_method_21_code 51 = .ok (.istore_n 3, 1) := by decide +kernel
theorem d_R_reach_52 : decode prog_9_method_21_code 52 = .ok (.iload_n 3, 1) := by decide +kernel
theorem d_R_reach_53 : decode prog_9_method_21_code 53 = .ok (.aload_n 0, 1) := by decide +kernel
theorem d_R_reach_54 : decode prog_9_method_21_code 54 = .ok (.getfield 37, 3) := by decide +kernel
theorem d_R_reach_57 : decode prog_9_method_21_code 57 = .ok (.iload_n 2, 1) := by decide +kernel
theorem d_R_reach_58 : decode prog_9_method_21_code 58 = .ok (.iaload, 1) := by decide +kernel
theorem d_R_reach_59 : decode prog_9_method_21_code 59 = .ok (.if_icmp .ge 112, 3) := by decide +kernel
theorem d_R_reach_62 : decode prog_9_method_21_code 62 = .ok (.aload_n 0, 1) := by decide +kernel
theorem d_R_reach_63 : decode prog_9_method_21_code 63 = .ok (.getfield 53, 3) := by decide +kernel
theorem d_R_reach_66 : decode prog_9_method_21_code 66 = .ok (.iload_n 2, 1) := by decide +kernel
theorem d_R_reach_67 : decode prog_9_method_21_code 67 = .ok (.baload, 1) := by decide +kernel
theorem d_R_reach_68 : decode prog_9_method_21_code 68 = .ok (.ifCond .eq 103, 3) := by decide +kernel
theorem d_R_reach_71 : decode prog_9_method_21_code 71 = .ok (.aload_n 0, 1) := by decide +kernel
theorem d_R_reach_72 : decode prog_9_method_21_code 72 = .ok (.getfield 44, 3) := by decide +kernel
theorem d_R_reach_75 : decode prog_9_method_21_code 75 = .ok (.bipush 20, 2) := by decide +kernel
theorem d_R_reach_77 : decode prog_9_method_21_code 77 = .ok (.iload_n 2, 1) := by decide +kernel
theorem d_R_reach_78 : decode prog_9_method_21_code 78 = .ok (.imul, 1) := by decide +kernel
theorem d_R_reach_79 : decode prog_9_method_21_code 79 = .ok (.iload_n 3, 1) := by decide +kernel
theorem d_R_reach_80 : decode prog_9_method_21_code 80 = .ok (.iadd, 1) := by decide +kernel
theorem d_R_reach_81 : decode prog_9_method_21_code 81 = .ok (.iaload, 1) := by decide +kernel
theorem d_R_reach_82 : decode prog_9_method_21_code 82 = .ok (.istore 4, 2) := by decide +kernel
theorem d_R_reach_84 : decode prog_9_method_21_code 84 = .ok (.iload 4, 2) := by decide +kernel
theorem d_R_reach_86 : decode prog_9_method_21_code 86 = .ok (.iconst 1, 1) := by decide +kernel
theorem d_R_reach_87 : decode prog_9_method_21_code 87 = .ok (.if_icmp .eq 15, 3) := by decide +kernel
theorem d_R_reach_90 : decode prog_9_method_21_code 90 = .ok (.iload 4, 2) := by decide +kernel
theorem d_R_reach_92 : decode prog_9_method_21_code 92 = .ok (.iconst 2, 1) := by decide +kernel
theorem d_R_reach_93 : decode prog_9_method_21_code 93 = .ok (.if_icmp .eq 9, 3) := by decide +kernel
theorem d_R_reach_96 : decode prog_9_method_21_code 96 = .ok (.iload 4, 2) := by decide +kernel
theorem d_R_reach_98 : decode prog_9_method_21_code 98 = .ok (.iconst 3, 1) := by decide +kernel
theorem d_R_reach_99 : decode prog_9_method_21_code 99 = .ok (.if_icmp .ne 66, 3) := by decide +kernel
theorem d_R_reach_102 : decode prog_9_method_21_code 102 = .ok (.aload_n 0, 1) := by decide +kernel
theorem d_R_reach_103 : decode prog_9_method_21_code 103 = .ok (.iconst 0, 1) := by decide +kernel
theorem d_R_reach_104 : decode prog_9_method_21_code 104 = .ok (.aload_n 0, 1) := by decide +kernel
theorem d_R_reach_105 : decode prog_9_method_21_code 105 = .ok (.getfield 28, 3) := by decide +kernel
theorem d_R_reach_108 : decode prog_9_method_21_code 108 = .ok (.iload_n 2, 1) := by decide +kernel
theorem d_R_reach_109 : decode prog_9_method_21_code 109 = .ok (.iaload, 1) := by decide +kernel
theorem d_R_reach_110 : decode prog_9_method_21_code 110 = .ok (.aload_n 0, 1) := by decide +kernel
theorem d_R_reach_111 : decode prog_9_method_21_code 111 = .ok (.getfield 47, 3) := by decide +kernel
theorem d_R_reach_114 : decode prog_9_method_21_code 114 = .ok (.bipush 20, 2) := by decide +kernel
theorem d_R_reach_116 : decode prog_9_method_21_code 116 = .ok (.iload_n 2, 1) := by decide +kernel
theorem d_R_reach_117 : decode prog_9_method_21_code 117 = .ok (.imul, 1) := by decide +kernel
theorem d_R_reach_118 : decode prog_9_method_21_code 118 = .ok (.iload_n 3, 1) := by decide +kernel
theorem d_R_reach_119 : decode prog_9_method_21_code 119 = .ok (.iadd, 1) := by decide +kernel
theorem d_R_reach_120 : decode prog_9_method_21_code 120 = .ok (.iaload, 1) := by decide +kernel
theorem d_R_reach_121 : decode prog_9_method_21_code 121 = .ok (.iload 4, 2) := by decide +kernel
theorem d_R_reach_123 : decode prog_9_method_21_code 123 = .ok (.iconst 3, 1) := by decide +kernel
theorem d_R_reach_124 : decode prog_9_method_21_code 124 = .ok (.if_icmp .ne 7, 3) := by decide +kernel
theorem d_R_reach_127 : decode prog_9_method_21_code 127 = .ok (.iconst 4, 1) := by decide +kernel
theorem d_R_reach_128 : decode prog_9_method_21_code 128 = .ok (.goto 4, 3) := by decide +kernel
theorem d_R_reach_131 : decode prog_9_method_21_code 131 = .ok (.iconst 3, 1) := by decide +kernel
theorem d_R_reach_132 : decode prog_9_method_21_code 132 = .ok (.invokevirtual 121, 3) := by decide +kernel
theorem d_R_reach_135 : decode prog_9_method_21_code 135 = .ok (.istore 5, 2) := by decide +kernel
theorem d_R_reach_137 : decode prog_9_method_21_code 137 = .ok (.iload_n 1, 1) := by decide +kernel
theorem d_R_reach_138 : decode prog_9_method_21_code 138 = .ok (.ifCond .ne 13, 3) := by decide +kernel
theorem d_R_reach_141 : decode prog_9_method_21_code 141 = .ok (.aload_n 0, 1) := by decide +kernel
theorem d_R_reach_142 : decode prog_9_method_21_code 142 = .ok (.getfield 53, 3) := by decide +kernel
theorem d_R_reach_145 : decode prog_9_method_21_code 145 = .ok (.iload 5, 2) := by decide +kernel
theorem d_R_reach_147 : decode prog_9_method_21_code 147 = .ok (.baload, 1) := by decide +kernel
theorem d_R_reach_148 : decode prog_9_method_21_code 148 = .ok (.ifCond .ne 7, 3) := by decide +kernel
theorem d_R_reach_151 : decode prog_9_method_21_code 151 = .ok (.iconst 1, 1) := by decide +kernel
theorem d_R_reach_152 : decode prog_9_method_21_code 152 = .ok (.goto 4, 3) := by decide +kernel
theorem d_R_reach_155 : decode prog_9_method_21_code 155 = .ok (.iconst 0, 1) := by decide +kernel
theorem d_R_reach_156 : decode prog_9_method_21_code 156 = .ok (.istore_n 1, 1) := by decide +kernel
theorem d_R_reach_157 : decode prog_9_method_21_code 157 = .ok (.aload_n 0, 1) := by decide +kernel
theorem d_R_reach_158 : decode prog_9_method_21_code 158 = .ok (.getfield 53, 3) := by decide +kernel
theorem d_R_reach_161 : decode prog_9_method_21_code 161 = .ok (.iload 5, 2) := by decide +kernel
theorem d_R_reach_163 : decode prog_9_method_21_code 163 = .ok (.iconst 1, 1) := by decide +kernel
theorem d_R_reach_164 : decode prog_9_method_21_code 164 = .ok (.bastore, 1) := by decide +kernel
theorem d_R_reach_165 : decode prog_9_method_21_code 165 = .ok (.iinc 3 1, 3) := by decide +kernel
theorem d_R_reach_168 : decode prog_9_method_21_code 168 = .ok (.goto (-116), 3) := by decide +kernel
theorem d_R_reach_171 : decode prog_9_method_21_code 171 = .ok (.iinc 2 1, 3) := by decide +kernel
theorem d_R_reach_174 : decode prog_9_method_21_code 174 = .ok (.goto (-134), 3) := by decide +kernel
theorem d_R_reach_177 : decode prog_9_method_21_code 177 = .ok (.goto (-145), 3) := by decide +kernel
theorem d_R_reach_180 : decode prog_9_method_21_code 180 = .ok (.return_, 1) := by decide +kernel
theorem d_R_usesPool_0 : decode prog_9_method_22_code 0 = .ok (.iload_n 0, 1) := by decide +kernel
theorem d_R_usesPool_1 : decode prog_9_method_22_code 1 = .ok (.ifCond .eq 18, 3) := by decide +kernel
theorem d_R_usesPool_4 : decode prog_9_method_22_code 4 = .ok (.iload_n 0, 1) := by decide +kernel
theorem d_R_usesPool_5 : decode prog_9_method_22_code 5 = .ok (.iconst 1, 1) := by decide +kernel
theorem d_R_usesPool_6 : decode prog_9_method_22_code 6 = .ok (.if_icmp .eq 13, 3) := by decide +kernel
theorem d_R_usesPool_9 : decode prog_9_method_22_code 9 = .ok (.iload_n 0, 1) := by decide +kernel
theorem d_R_usesPool_10 : decode prog_9_method_22_code 10 = .ok (.iconst 2, 1) := by decide +kernel
theorem d_R_usesPool_11 : decode prog_9_method_22_code 11 = .ok (.if_icmp .eq 8, 3) := by decide +kernel
theorem d_R_usesPool_14 : decode prog_9_method_22_code 14 = .ok (.iload_n 0, 1) := by decide +kernel
theorem d_R_usesPool_15 : decode prog_9_method_22_code 15 = .ok (.iconst 3, 1) := by decide +kernel
theorem d_R_usesPool_16 : decode prog_9_method_22_code 16 = .ok (.if_icmp .ne 7, 3) := by decide +kernel
theorem d_R_usesPool_19 : decode prog_9_method_22_code 19 = .ok (.iconst 1, 1) := by decide +kernel
theorem d_R_usesPool_20 : decode prog_9_method_22_code 20 = .ok (.goto 4, 3) := by decide +kernel
theorem d_R_usesPool_23 : decode prog_9_method_22_code 23 = .ok (.iconst 0, 1) := by decide +kernel
theorem d_R_usesPool_24 : decode prog_9_method_22_code 24 = .ok (.ireturn, 1) := by decide +kernel
theorem d_R_markConstants_0 : decode prog_9_method_23_code 0 = .ok (.iconst 0, 1) := by decide +kernel
theorem d_R_markConstants_1 : decode prog_9_method_23_code 1 = .ok (.istore_n 1, 1) := by decide +kernel
theorem d_R_markConstants_2 : decode prog_9_method_23_code 2 = .ok (.iload_n 1, 1) := by decide +kernel
theorem d_R_markConstants_3 : decode prog_9_method_23_code 3 = .ok (.bipush 120, 2) := by decide +kernel
theorem d_R_markConstants_5 : decode prog_9_method_23_code 5 = .ok (.if_icmp .ge 16, 3) := by decide +kernel
theorem d_R_markConstants_8 : decode prog_9_method_23_code 8 = .ok (.aload_n 0, 1) := by decide +kernel
theorem d_R_markConstants_9 : decode prog_9_method_23_code 9 = .ok (.getfield 59, 3) := by decide +kernel
theorem d_R_markConstants_12 : decode prog_9_method_23_code 12 = .ok (.iload_n 1, 1) := by decide +kernel
theorem d_R_markConstants_13 : decode prog_9_method_23_code 13 = .ok (.iconst 0, 1) := by decide +kernel
theorem d_R_markConstants_14 : decode prog_9_method_23_code 14 = .ok (.bastore, 1) := by decide +kernel
theorem d_R_markConstants_15 : decode prog_9_method_23_code 15 = .ok (.iinc 1 1, 3) := by decide +kernel
theorem d_R_markConstants_18 : decode prog_9_method_23_code 18 = .ok (.goto (-16), 3) := by decide +kernel
theorem d_R_markConstants_21 : decode prog_9_method_23_code 21 = .ok (.iconst 0, 1) := by decide +kernel
theorem d_R_markConstants_22 : decode prog_9_method_23_code 22 = .ok (.istore_n 1, 1) := by decide +kernel
theorem d_R_markConstants_23 : decode prog_9_method_23_code 23 = .ok (.iload_n 1, 1) := by decide +kernel
theorem d_R_markConstants_24 : decode prog_9_method_23_code 24 = .ok (.aload_n 0, 1) := by decide +kernel
theorem d_R_markConstants_25 : decode prog_9_method_23_code 25 = .ok (.getfield 13, 3) := by decide +kernel
theorem d_R_markConstants_28 : decode prog_9_method_23_code 28 = .ok (.iconst 0, 1) := by decide +kernel
theorem d_R_markConstants_29 : decode prog_9_method_23_code 29 = .ok (.iaload, 1) := by decide +kernel
theorem d_R_markConstants_30 : decode prog_9_method_23_code 30 = .ok (.if_icmp .ge 104, 3) := by decide +kernel
theorem d_R_markConstants_33 : decode prog_9_method_23_code 33 = .ok (.aload_n 0, 1) := by decide +kernel
theorem d_R_markConstants_34 : decode prog_9_method_23_code 34 = .ok (.getfield 53, 3) := by decide +kernel
theorem d_R_markConstants_37 : decode prog_9_method_23_code 37 = .ok (.iload_n 1, 1) := by decide +kernel
theorem d_R_markConstants_38 : decode prog_9_method_23_code 38 = .ok (.baload, 1) := by decide +kernel
theorem d_R_markConstants_39 : decode prog_9_method_23_code 39 = .ok (.ifCond .eq 89, 3) := by decide +kernel
theorem d_R_markConstants_42 : decode prog_9_method_23_code 42 = .ok (.aload_n 0, 1) := by decide +kernel
theorem d_R_markConstants_43 : decode prog_9_method_23_code 43 = .ok (.getfield 59, 3) := by decide +kernel
theorem d_R_markConstants_46 : decode prog_9_method_23_code 46 = .ok (.iconst 0, 1) := by decide +kernel
theorem d_R_markConstants_47 : decode prog_9_method_23_code 47 = .ok (.aload_n 0, 1) := by decide +kernel
theorem d_R_markConstants_48 : decode prog_9_method_23_code 48 = .ok (.getfield 28, 3) := by decide +kernel
theorem d_R_markConstants_51 : decode prog_9_method_23_code 51 = .ok (.iload_n 1, 1) := by decide +kernel
theorem d_R_markConstants_52 : decode prog_9_method_23_code 52 = .ok (.iaload, 1) := by decide +kernel
theorem d_R_markConstants_53 : decode prog_9_method_23_code 53 = .ok (.invokestatic 100, 3) := by decide +kernel
theorem d_R_markConstants_56 : decode prog_9_method_23_code 56 = .ok (.aload_n 0, 1) := by decide +kernel
theorem d_R_markConstants_57 : decode prog_9_method_23_code 57 = .ok (.getfield 31, 3) := by decide +kernel
theorem d_R_markConstants_60 : decode prog_9_method_23_code 60 = .ok (.iload_n 1, 1) := by decide +kernel
theorem d_R_markConstants_61 : decode prog_9_method_23_code 61 = .ok (.iaload, 1) := by decide +kernel
theorem d_R_markConstants_62 : decode prog_9_method_23_code 62 = .ok (.iadd, 1) := by decide +kernel
theorem d_R_markConstants_63 : decode prog_9_method_23_code 63 = .ok (.iconst 1, 1) := by decide +kernel
theorem d_R_markConstants_64 : decode prog_9_method_23_code 64 = .ok (.bastore, 1) := by decide +kernel
theorem d_R_markConstants_65 : decode prog_9_method_23_code 65 = .ok (.iconst 0, 1) := by decide +kernel
theorem d_R_markConstants_66 : decode prog_9_method_23_code 66 = .ok (.istore_n 2, 1) := by decide +kernel
theorem d_R_markConstants_67 : decode prog_9_method_23_code 67 = .ok (.iload_n 2, 1) := by decide +kernel
theorem d_R_markConstants_68 : decode prog_9_method_23_code 68 = .ok (.aload_n 0, 1) := by decide +kernel
theorem d_R_markConstants_69 : decode prog_9_method_23_code 69 = .ok (.getfield 37, 3) := by decide +kernel
theorem d_R_markConstants_72 : decode prog_9_method_23_code 72 = .ok (.iload_n 1, 1) := by decide +kernel
theorem d_R_markConstants_73 : decode prog_9_method_23_code 73 = .ok (.iaload, 1) := by decide +kernel
theorem d_R_markConstants_74 : decode prog_9_method_23_code 74 = .ok (.if_icmp .ge 54, 3) := by decide +kernel
theorem d_R_markConstants_77 : decode prog_9_method_23_code 77 = .ok (.aload_n 0, 1) := by decide +kernel
theorem d_R_markConstants_78 : decode prog_9_method_23_code 78 = .ok (.getfield 44, 3) := by decide +kernel
theorem d_R_markConstants_81 : decode prog_9_method_23_code 81 = .ok (.bipush 20, 2) := by decide +kernel
theorem d_R_markConstants_83 : decode prog_9_method_23_code 83 = .ok (.iload_n 1, 1) := by decide +kernel
theorem d_R_markConstants_84 : decode prog_9_method_23_code 84 = .ok (.imul, 1) := by decide +kernel
theorem d_R_markConstants_85 : decode prog_9_method_23_code 85 = .ok (.iload_n 2, 1) := by decide +kernel
theorem d_R_markConstants_86 : decode prog_9_method_23_code 86 = .ok (.iadd, 1) := by decide +kernel
theorem d_R_markConstants_87 : decode prog_9_method_23_code 87 = .ok (.iaload, 1) := by decide +kernel
theorem d_R_markConstants_88 : decode prog_9_method_23_code 88 = .ok (.invokestatic 133, 3) := by decide +kernel
theorem d_R_markConstants_91 : decode prog_9_method_23_code 91 = .ok (.ifCond .eq 31, 3) := by decide +kernel
theorem d_R_markConstants_94 : decode prog_9_method_23_code 94 = .ok (.aload_n 0, 1) := by decide +kernel
theorem d_R_markConstants_95 : decode prog_9_method_23_code 95 = .ok (.getfield 59, 3) := by decide +kernel
theorem d_R_markConstants_98 : decode prog_9_method_23_code 98 = .ok (.iconst 0, 1) := by decide +kernel
theorem d_R_markConstants_99 : decode prog_9_method_23_code 99 = .ok (.aload_n 0, 1) := by decide +kernel
theorem d_R_markConstants_100 : decode prog_9_method_23_code 100 = .ok (.getfield 28, 3) := by decide +kernel
theorem d_R_markConstants_103 : decode prog_9_method_23_code 103 = .ok (.iload_n 1, 1) := by decide +kernel
theorem d_R_markConstants_104 : decode prog_9_method_23_code 104 = .ok (.iaload, 1) := by decide +kernel
theorem d_R_markConstants_105 : decode prog_9_method_23_code 105 = .ok (.invokestatic 100, 3) := by decide +kernel
theorem d_R_markConstants_108 : decode prog_9_method_23_code 108 = .ok (.aload_n 0, 1) := by decide +kernel
theorem d_R_markConstants_109 : decode prog_9_method_23_code 109 = .ok (.getfield 47, 3) := by decide +kernel
theorem d_R_markConstants_112 : decode prog_9_method_23_code 112 = .ok (.bipush 20, 2) := by decide +kernel
theorem d_R_markConstants_114 : decode prog_9_method_23_code 114 = .ok (.iload_n 1, 1) := by decide +kernel
theorem d_R_markConstants_115 : decode prog_9_method_23_code 115 = .ok (.imul, 1) := by decide +kernel
theorem d_R_markConstants_116 : decode prog_9_method_23_code 116 = .ok (.iload_n 2, 1) := by decide +kernel
theorem d_R_markConstants_117 : decode prog_9_method_23_code 117 = .ok (.iadd, 1) := by decide +kernel
theorem d_R_markConstants_118 : decode prog_9_method_23_code 118 = .ok (.iaload, 1) := by decide +kernel
theorem d_R_markConstants_119 : decode prog_9_method_23_code 119 = .ok (.iadd, 1) := by decide +kernel
theorem d_R_markConstants_120 : decode prog_9_method_23_code 120 = .ok (.iconst 1, 1) := by decide +kernel
theorem d_R_markConstants_121 : decode prog_9_method_23_code 121 = .ok (.bastore, 1) := by decide +kernel
theorem d_R_markConstants_122 : decode prog_9_method_23_code 122 = .ok (.iinc 2 1, 3) := by decide +kernel
theorem d_R_markConstants_125 : decode prog_9_method_23_code 125 = .ok (.goto (-58), 3) := by decide +kernel
theorem d_R_markConstants_128 : decode prog_9_method_23_code 128 = .ok (.iinc 1 1, 3) := by decide +kernel
theorem d_R_markConstants_131 : decode prog_9_method_23_code 131 = .ok (.goto (-108), 3) := by decide +kernel
theorem d_R_markConstants_134 : decode prog_9_method_23_code 134 = .ok (.iconst 0, 1) := by decide +kernel
theorem d_R_markConstants_135 : decode prog_9_method_23_code 135 = .ok (.istore_n 1, 1) := by decide +kernel
theorem d_R_markConstants_136 : decode prog_9_method_23_code 136 = .ok (.iload_n 1, 1) := by decide +kernel
theorem d_R_markConstants_137 : decode prog_9_method_23_code 137 = .ok (.aload_n 0, 1) := by decide +kernel
theorem d_R_markConstants_138 : decode prog_9_method_23_code 138 = .ok (.getfield 7, 3) := by decide +kernel
theorem d_R_markConstants_141 : decode prog_9_method_23_code 141 = .ok (.iconst 0, 1) := by decide +kernel
theorem d_R_markConstants_142 : decode prog_9_method_23_code 142 = .ok (.iaload, 1) := by decide +kernel
theorem d_R_markConstants_143 : decode prog_9_method_23_code 143 = .ok (.if_icmp .ge 92, 3) := by decide +kernel
theorem d_R_markConstants_146 : decode prog_9_method_23_code 146 = .ok (.iconst 0, 1) := by decide +kernel
theorem d_R_markConstants_147 : decode prog_9_method_23_code 147 = .ok (.iload_n 1, 1) := by decide +kernel
theorem d_R_markConstants_148 : decode prog_9_method_23_code 148 = .ok (.invokestatic 100, 3) := by decide +kernel
theorem d_R_markConstants_151 : decode prog_9_method_23_code 151 = .ok (.istore_n 2, 1) := by decide +kernel
theorem d_R_markConstants_152 : decode prog_9_method_23_code 152 = .ok (.iload_n 2, 1) := by decide +kernel
theorem d_R_markConstants_153 : decode prog_9_method_23_code 153 = .ok (.iconst 0, 1) := by decide +kernel
theorem d_R_markConstants_154 : decode prog_9_method_23_code 154 = .ok (.iload_n 1, 1) := by decide +kernel
theorem d_R_markConstants_155 : decode prog_9_method_23_code 155 = .ok (.invokestatic 100, 3) := by decide +kernel
theorem d_R_markConstants_158 : decode prog_9_method_23_code 158 = .ok (.aload_n 0, 1) := by decide +kernel
theorem d_R_markConstants_159 : decode prog_9_method_23_code 159 = .ok (.getfield 16, 3) := by decide +kernel
theorem d_R_markConstants_162 : decode prog_9_method_23_code 162 = .ok (.iload_n 1, 1) := by decide +kernel
theorem d_R_markConstants_163 : decode prog_9_method_23_code 163 = .ok (.iaload, 1) := by decide +kernel
theorem d_R_markConstants_164 : decode prog_9_method_23_code 164 = .ok (.iadd, 1) := by decide +kernel
theorem d_R_markConstants_165 : decode prog_9_method_23_code 165 = .ok (.if_icmp .ge 64, 3) := by decide +kernel
theorem d_R_markConstants_168 : decode prog_9_method_23_code 168 = .ok (.aload_n 0, 1) := by decide +kernel
theorem d_R_markConstants_169 : decode prog_9_method_23_code 169 = .ok (.getfield 59, 3) := by decide +kernel
theorem d_R_markConstants_172 : decode prog_9_method_23_code 172 = .ok (.iload_n 2, 1) := by decide +kernel
theorem d_R_markConstants_173 : decode prog_9_method_23_code 173 = .ok (.baload, 1) := by decide +kernel
theorem d_R_markConstants_174 : decode prog_9_method_23_code 174 = .ok (.ifCond .eq 49, 3) := by decide +kernel
theorem d_R_markConstants_177 : decode prog_9_method_23_code 177 = .ok (.aload_n 0, 1) := by decide +kernel
theorem d_R_markConstants_178 : decode prog_9_method_23_code 178 = .ok (.getfield 19, 3) := by decide +kernel
theorem d_R_markConstants_181 : decode prog_9_method_23_code 181 = .ok (.iload_n 2, 1) := by decide +kernel
theorem d_R_markConstants_182 : decode prog_9_method_23_code 182 = .ok (.iaload, 1) := by decide +kernel
theorem d_R_markConstants_183 : decode prog_9_method_23_code 183 = .ok (.iconst 3, 1) := by decide +kernel
theorem d_R_markConstants_184 : decode prog_9_method_23_code 184 = .ok (.if_icmp .lt 39, 3) := by decide +kernel
theorem d_R_markConstants_187 : decode prog_9_method_23_code 187 = .ok (.aload_n 0, 1) := by decide +kernel
theorem d_R_markConstants_188 : decode prog_9_method_23_code 188 = .ok (.getfield 59, 3) := by decide +kernel
theorem d_R_markConstants_191 : decode prog_9_method_23_code 191 = .ok (.iconst 0, 1) := by decide +kernel
theorem d_R_markConstants_192 : decode prog_9_method_23_code 192 = .ok (.iload_n 1, 1) := by decide +kernel
theorem d_R_markConstants_193 : decode prog_9_method_23_code 193 = .ok (.invokestatic 100, 3) := by decide +kernel
theorem d_R_markConstants_196 : decode prog_9_method_23_code 196 = .ok (.aload_n 0, 1) := by decide +kernel
theorem d_R_markConstants_197 : decode prog_9_method_23_code 197 = .ok (.getfield 22, 3) := by decide +kernel
theorem d_R_markConstants_200 : decode prog_9_method_23_code 200 = .ok (.iload_n 2, 1) := by decide +kernel
theorem d_R_markConstants_201 : decode prog_9_method_23_code 201 = .ok (.iaload, 1) := by decide +kernel
theorem d_R_markConstants_202 : decode prog_9_method_23_code 202 = .ok (.iadd, 1) := by decide +kernel
theorem d_R_markConstants_203 : decode prog_9_method_23_code 203 = .ok (.iconst 1, 1) := by decide +kernel
theorem d_R_markConstants_204 : decode prog_9_method_23_code 204 = .ok (.bastore, 1) := by decide +kernel
theorem d_R_markConstants_205 : decode prog_9_method_23_code 205 = .ok (.aload_n 0, 1) := by decide +kernel
theorem d_R_markConstants_206 : decode prog_9_method_23_code 206 = .ok (.getfield 59, 3) := by decide +kernel
theorem d_R_markConstants_209 : decode prog_9_method_23_code 209 = .ok (.iconst 0, 1) := by decide +kernel
theorem d_R_markConstants_210 : decode prog_9_method_23_code 210 = .ok (.iload_n 1, 1) := by decide +kernel
theorem d_R_markConstants_211 : decode prog_9_method_23_code 211 = .ok (.invokestatic 100, 3) := by decide +kernel
theorem d_R_markConstants_214 : decode prog_9_method_23_code 214 = .ok (.aload_n 0, 1) := by decide +kernel
theorem d_R_markConstants_215 : decode prog_9_method_23_code 215 = .ok (.getfield 25, 3) := by decide +kernel
theorem d_R_markConstants_218 : decode prog_9_method_23_code 218 = .ok (.iload_n 2, 1) := by decide +kernel
theorem d_R_markConstants_219 : decode prog_9_method_23_code 219 = .ok (.iaload, 1) := by decide +kernel
theorem d_R_markConstants_220 : decode prog_9_method_23_code 220 = .ok (.iadd, 1) := by decide +kernel
theorem d_R_markConstants_221 : decode prog_9_method_23_code 221 = .ok (.iconst 1, 1) := by decide +kernel
theorem d_R_markConstants_222 : decode prog_9_method_23_code 222 = .ok (.bastore, 1) := by decide +kernel
theorem d_R_markConstants_223 : decode prog_9_method_23_code 223 = .ok (.iinc 2 1, 3) := by decide +kernel
theorem d_R_markConstants_226 : decode prog_9_method_23_code 226 = .ok (.goto (-74), 3) := by decide +kernel
theorem d_R_markConstants_229 : decode prog_9_method_23_code 229 = .ok (.iinc 1 1, 3) := by decide +kernel
theorem d_R_markConstants_232 : decode prog_9_method_23_code 232 = .ok (.goto (-96), 3) := by decide +kernel
theorem d_R_markConstants_235 : decode prog_9_method_23_code 235 = .ok (.return_, 1) := by decide +kernel
theorem d_R_numberAll_0 : decode prog_9_method_24_code 0 = .ok (.iconst 0, 1) := by decide +kernel
theorem d_R_numberAll_1 : decode prog_9_method_24_code 1 = .ok (.istore_n 1, 1) := by decide +kernel
theorem d_R_numberAll_2 : decode prog_9_method_24_code 2 = .ok (.iconst 0, 1) := by decide +kernel
theorem d_R_numberAll_3 : decode prog_9_method_24_code 3 = .ok (.istore_n 2, 1) := by decide +kernel
theorem d_R_numberAll_4 : decode prog_9_method_24_code 4 = .ok (.iload_n 2, 1) := by decide +kernel
theorem d_R_numberAll_5 : decode prog_9_method_24_code 5 = .ok (.bipush 30, 2) := by decide +kernel
theorem d_R_numberAll_7 : decode prog_9_method_24_code 7 = .ok (.if_icmp .ge 56, 3) := by decide +kernel
theorem d_R_numberAll_10 : decode prog_9_method_24_code 10 = .ok (.aload_n 0, 1) := by decide +kernel
theorem d_R_numberAll_11 : decode prog_9_method_24_code 11 = .ok (.getfield 50, 3) := by decide +kernel
theorem d_R_numberAll_14 : decode prog_9_method_24_code 14 = .ok (.iload_n 2, 1) := by decide +kernel
theorem d_R_numberAll_15 : decode prog_9_method_24_code 15 = .ok (.iload_n 2, 1) := by decide +kernel
theorem d_R_numberAll_16 : decode prog_9_method_24_code 16 = .ok (.aload_n 0, 1) := by decide +kernel
theorem d_R_numberAll_17 : decode prog_9_method_24_code 17 = .ok (.getfield 13, 3) := by decide +kernel
theorem d_R_numberAll_20 : decode prog_9_method_24_code 20 = .ok (.iconst 0, 1) := by decide +kernel
theorem d_R_numberAll_21 : decode prog_9_method_24_code 21 = .ok (.iaload, 1) := by decide +kernel
theorem d_R_numberAll_22 : decode prog_9_method_24_code 22 = .ok (.if_icmp .ge 16, 3) := by decide +kernel
theorem d_R_numberAll_25 : decode prog_9_method_24_code 25 = .ok (.aload_n 0, 1) := by decide +kernel
theorem d_R_numberAll_26 : decode prog_9_method_24_code 26 = .ok (.getfield 53, 3) := by decide +kernel
theorem d_R_numberAll_29 : decode prog_9_method_24_code 29 = .ok (.iload_n 2, 1) := by decide +kernel
theorem d_R_numberAll_30 : decode prog_9_method_24_code 30 = .ok (.baload, 1) := by decide +kernel
theorem d_R_numberAll_31 : decode prog_9_method_24_code 31 = .ok (.ifCond .eq 7, 3) := by decide +kernel
theorem d_R_numberAll_34 : decode prog_9_method_24_code 34 = .ok (.iload_n 1, 1) := by decide +kernel
theorem d_R_numberAll_35 : decode prog_9_method_24_code 35 = .ok (.goto 4, 3) := by decide +kernel
theorem d_R_numberAll_38 : decode prog_9_method_24_code 38 = .ok (.iconst (-1), 1) := by decide +kernel
theorem d_R_numberAll_39 : decode prog_9_method_24_code 39 = .ok (.iastore, 1) := by decide +kernel
theorem d_R_numberAll_40 : decode prog_9_method_24_code 40 = .ok (.aload_n 0, 1) := by decide +kernel
theorem d_R_numberAll_41 : decode prog_9_method_24_code 41 = .ok (.getfield 50, 3) := by decide +kernel
theorem d_R_numberAll_44 : decode prog_9_method_24_code 44 = .ok (.iload_n 2, 1) := by decide +kernel
theorem d_R_numberAll_45 : decode prog_9_method_24_code 45 = .ok (.iaload, 1) := by decide +kernel
theorem d_R_numberAll_46 : decode prog_9_method_24_code 46 = .ok (.ifCond .lt 9, 3) := by decide +kernel
theorem d_R_numberAll_49 : decode prog_9_method_24_code 49 = .ok (.iload_n 1, 1) := by decide +kernel
theorem d_R_numberAll_50 : decode prog_9_method_24_code 50 = .ok (.iconst 1, 1) := by decide +kernel
theorem d_R_numberAll_51 : decode prog_9_method_24_code 51 = .ok (.iadd, 1) := by decide +kernel
theorem d_R_numberAll_52 : decode prog_9_method_24_code 52 = .ok (.goto 4, 3) := by decide +kernel
theorem d_R_numberAll_55 : decode prog_9_method_24_code 55 = .ok (.iload_n 1, 1) := by decide +kernel
theorem d_R_numberAll_56 : decode prog_9_method_24_code 56 = .ok (.istore_n 1, 1) := by decide +kernel
theorem d_R_numberAll_57 : decode prog_9_method_24_code 57 = .ok (.iinc 2 1, 3) := by decide +kernel
theorem d_R_numberAll_60 : decode prog_9_method_24_code 60 = .ok (.goto (-56), 3) := by decide +kernel
theorem d_R_numberAll_63 : decode prog_9_method_24_code 63 = .ok (.iconst 0, 1) := by decide +kernel
theorem d_R_numberAll_64 : decode prog_9_method_24_code 64 = .ok (.istore_n 1, 1) := by decide +kernel
theorem d_R_numberAll_65 : decode prog_9_method_24_code 65 = .ok (.iconst 0, 1) := by decide +kernel
theorem d_R_numberAll_66 : decode prog_9_method_24_code 66 = .ok (.istore_n 2, 1) := by decide +kernel
theorem d_R_numberAll_67 : decode prog_9_method_24_code 67 = .ok (.iload_n 2, 1) := by decide +kernel
theorem d_R_numberAll_68 : decode prog_9_method_24_code 68 = .ok (.aload_n 0, 1) := by decide +kernel
theorem d_R_numberAll_69 : decode prog_9_method_24_code 69 = .ok (.getfield 7, 3) := by decide +kernel
theorem d_R_numberAll_72 : decode prog_9_method_24_code 72 = .ok (.iconst 0, 1) := by decide +kernel
theorem d_R_numberAll_73 : decode prog_9_method_24_code 73 = .ok (.iaload, 1) := by decide +kernel
theorem d_R_numberAll_74 : decode prog_9_method_24_code 74 = .ok (.if_icmp .ge 152, 3) := by decide +kernel
theorem d_R_numberAll_77 : decode prog_9_method_24_code 77 = .ok (.iconst 0, 1) := by decide +kernel
theorem d_R_numberAll_78 : decode prog_9_method_24_code 78 = .ok (.istore_n 3, 1) := by decide +kernel
theorem d_R_numberAll_79 : decode prog_9_method_24_code 79 = .ok (.iconst 0, 1) := by decide +kernel
theorem d_R_numberAll_80 : decode prog_9_method_24_code 80 = .ok (.istore 4, 2) := by decide +kernel
theorem d_R_numberAll_82 : decode prog_9_method_24_code 82 = .ok (.iload 4, 2) := by decide +kernel
theorem d_R_numberAll_84 : decode prog_9_method_24_code 84 = .ok (.aload_n 0, 1) := by decide +kernel
theorem d_R_numberAll_85 : decode prog_9_method_24_code 85 = .ok (.getfield 13, 3) := by decide +kernel
theorem d_R_numberAll_88 : decode prog_9_method_24_code 88 = .ok (.iconst 0, 1) := by decide +kernel
theorem d_R_numberAll_89 : decode prog_9_method_24_code 89 = .ok (.iaload, 1) := by decide +kernel
theorem d_R_numberAll_90 : decode prog_9_method_24_code 90 = .ok (.if_icmp .ge 40, 3) := by decide +kernel
theorem d_R_numberAll_93 : decode prog_9_method_24_code 93 = .ok (.iload_n 3, 1) := by decide +kernel
theorem d_R_numberAll_94 : decode prog_9_method_24_code 94 = .ok (.ifCond .ne 24, 3) := by decide +kernel
theorem d_R_numberAll_97 : decode prog_9_method_24_code 97 = .ok (.aload_n 0, 1) := by decide +kernel
theorem d_R_numberAll_98 : decode prog_9_method_24_code 98 = .ok (.getfield 53, 3) := by decide +kernel
theorem d_R_numberAll_101 : decode prog_9_method_24_code 101 = .ok (.iload 4, 2) := by decide +kernel
theorem d_R_numberAll_103 : decode prog_9_method_24_code 103 = .ok (.baload, 1) := by decide +kernel
theorem d_R_numberAll_104 : decode prog_9_method_24_code 104 = .ok (.ifCond .eq 18, 3) := by decide +kernel
theorem d_R_numberAll_107 : decode prog_9_method_24_code 107 = .ok (.aload_n 0, 1) := by decide +kernel
theorem d_R_numberAll_108 : decode prog_9_method_24_code 108 = .ok (.getfield 28, 3) := by decide +kernel
theorem d_R_numberAll_111 : decode prog_9_method_24_code 111 = .ok (.iload 4, 2) := by decide +kernel
theorem d_R_numberAll_113 : decode prog_9_method_24_code 113 = .ok (.iaload, 1) := by decide +kernel
theorem d_R_numberAll_114 : decode prog_9_method_24_code 114 = .ok (.iload_n 2, 1) := by decide +kernel
theorem d_R_numberAll_115 : decode prog_9_method_24_code 115 = .ok (.if_icmp .ne 7, 3) := by decide +kernel
theorem d_R_numberAll_118 : decode prog_9_method_24_code 118 = .ok (.iconst 1, 1) := by decide +kernel
theorem d_R_numberAll_119 : decode prog_9_method_24_code 119 = .ok (.goto 4, 3) := by decide +kernel
theorem d_R_numberAll_122 : decode prog_9_method_24_code 122 = .ok (.iconst 0, 1) := by decide +kernel
theorem d_R_numberAll_123 : decode prog_9_method_24_code 123 = .ok (.istore_n 3, 1) := by decide +kernel
theorem d_R_numberAll_124 : decode prog_9_method_24_code 124 = .ok (.iinc 4 1, 3) := by decide +kernel
theorem d_R_numberAll_127 : decode prog_9_method_24_code 127 = .ok (.goto (-45), 3) := by decide +kernel
theorem d_R_numberAll_130 : decode prog_9_method_24_code 130 = .ok (.aload_n 0, 1) := by decide +kernel
theorem d_R_numberAll_131 : decode prog_9_method_24_code 131 = .ok (.getfield 56, 3) := by decide +kernel
theorem d_R_numberAll_134 : decode prog_9_method_24_code 134 = .ok (.iload_n 2, 1) := by decide +kernel
theorem d_R_numberAll_135 : decode prog_9_method_24_code 135 = .ok (.iload_n 3, 1) := by decide +kernel
theorem d_R_numberAll_136 : decode prog_9_method_24_code 136 = .ok (.ifCond .eq 7, 3) := by decide +kernel
theorem d_R_numberAll_139 : decode prog_9_method_24_code 139 = .ok (.iload_n 1, 1) := by decide +kernel
theorem d_R_numberAll_140 : decode prog_9_method_24_code 140 = .ok (.goto 4, 3) := by decide +kernel
theorem d_R_numberAll_143 : decode prog_9_method_24_code 143 = .ok (.iconst (-1), 1) := by decide +kernel
theorem d_R_numberAll_144 : decode prog_9_method_24_code 144 = .ok (.iastore, 1) := by decide +kernel
theorem d_R_numberAll_145 : decode prog_9_method_24_code 145 = .ok (.iload_n 3, 1) := by decide +kernel
theorem d_R_numberAll_146 : decode prog_9_method_24_code 146 = .ok (.ifCond .eq 9, 3) := by decide +kernel
theorem d_R_numberAll_149 : decode prog_9_method_24_code 149 = .ok (.iload_n 1, 1) := by decide +kernel
theorem d_R_numberAll_150 : decode prog_9_method_24_code 150 = .ok (.iconst 1, 1) := by decide +kernel
theorem d_R_numberAll_151 : decode prog_9_method_24_code 151 = .ok (.iadd, 1) := by decide +kernel
theorem d_R_numberAll_152 : decode prog_9_method_24_code 152 = .ok (.goto 4, 3) := by decide +kernel
theorem d_R_numberAll_155 : decode prog_9_method_24_code 155 = .ok (.iload_n 1, 1) := by decide +kernel
theorem d_R_numberAll_156 : decode prog_9_method_24_code 156 = .ok (.istore_n 1, 1) := by decide +kernel
theorem d_R_numberAll_157 : decode prog_9_method_24_code 157 = .ok (.iconst 0, 1) := by decide +kernel
theorem d_R_numberAll_158 : decode prog_9_method_24_code 158 = .ok (.istore 4, 2) := by decide +kernel
theorem d_R_numberAll_160 : decode prog_9_method_24_code 160 = .ok (.iconst 0, 1) := by decide +kernel
theorem d_R_numberAll_161 : decode prog_9_method_24_code 161 = .ok (.iload_n 2, 1) := by decide +kernel
theorem d_R_numberAll_162 : decode prog_9_method_24_code 162 = .ok (.invokestatic 100, 3) := by decide +kernel
theorem d_R_numberAll_165 : decode prog_9_method_24_code 165 = .ok (.istore 5, 2) := by decide +kernel
theorem d_R_numberAll_167 : decode prog_9_method_24_code 167 = .ok (.iload 5, 2) := by decide +kernel
theorem d_R_numberAll_169 : decode prog_9_method_24_code 169 = .ok (.iconst 0, 1) := by decide +kernel
theorem d_R_numberAll_170 : decode prog_9_method_24_code 170 = .ok (.iload_n 2, 1) := by decide +kernel
theorem d_R_numberAll_171 : decode prog_9_method_24_code 171 = .ok (.invokestatic 100, 3) := by decide +kernel
theorem d_R_numberAll_174 : decode prog_9_method_24_code 174 = .ok (.aload_n 0, 1) := by decide +kernel
theorem d_R_numberAll_175 : decode prog_9_method_24_code 175 = .ok (.getfield 16, 3) := by decide +kernel
theorem d_R_numberAll_178 : decode prog_9_method_24_code 178 = .ok (.iload_n 2, 1) := by decide +kernel
theorem d_R_numberAll_179 : decode prog_9_method_24_code 179 = .ok (.iaload, 1) := by decide +kernel
theorem d_R_numberAll_180 : decode prog_9_method_24_code 180 = .ok (.iadd, 1) := by decide +kernel
theorem d_R_numberAll_181 : decode prog_9_method_24_code 181 = .ok (.if_icmp .ge 39, 3) := by decide +kernel
theorem d_R_numberAll_184 : decode prog_9_method_24_code 184 = .ok (.aload_n 0, 1) := by decide +kernel
theorem d_R_numberAll_185 : decode prog_9_method_24_code 185 = .ok (.getfield 62, 3) := by decide +kernel
theorem d_R_numberAll_188 : decode prog_9_method_24_code 188 = .ok (.iload 5, 2) := by decide +kernel
theorem d_R_numberAll_190 : decode prog_9_method_24_code 190 = .ok (.iload 4, 2) := by decide +kernel
theorem d_R_numberAll_192 : decode prog_9_method_24_code 192 = .ok (.iastore, 1) := by decide +kernel
theorem d_R_numberAll_193 : decode prog_9_method_24_code 193 = .ok (.aload_n 0, 1) := by decide +kernel
theorem d_R_numberAll_194 : decode prog_9_method_24_code 194 = .ok (.getfield 59, 3) := by decide +kernel
theorem d_R_numberAll_197 : decode prog_9_method_24_code 197 = .ok (.iload 5, 2) := by decide +kernel
theorem d_R_numberAll_199 : decode prog_9_method_24_code 199 = .ok (.baload, 1) := by decide +kernel
theorem d_R_numberAll_200 : decode prog_9_method_24_code 200 = .ok (.ifCond .eq 10, 3) := by decide +kernel
theorem d_R_numberAll_203 : decode prog_9_method_24_code 203 = .ok (.iload 4, 2) := by decide +kernel
theorem d_R_numberAll_205 : decode prog_9_method_24_code 205 = .ok (.iconst 1, 1) := by decide +kernel
theorem d_R_numberAll_206 : decode prog_9_method_24_code 206 = .ok (.iadd, 1) := by decide +kernel
theorem d_R_numberAll_207 : decode prog_9_method_24_code 207 = .ok (.goto 5, 3) := by decide +kernel
theorem d_R_numberAll_210 : decode prog_9_method_24_code 210 = .ok (.iload 4, 2) := by decide +kernel
theorem d_R_numberAll_212 : decode prog_9_method_24_code 212 = .ok (.istore 4, 2) := by decide +kernel
theorem d_R_numberAll_214 : decode prog_9_method_24_code 214 = .ok (.iinc 5 1, 3) := by decide +kernel
theorem d_R_numberAll_217 : decode prog_9_method_24_code 217 = .ok (.goto (-50), 3) := by decide +kernel
theorem d_R_numberAll_220 : decode prog_9_method_24_code 220 = .ok (.iinc 2 1, 3) := by decide +kernel
theorem d_R_numberAll_223 : decode prog_9_method_24_code 223 = .ok (.goto (-156), 3) := by decide +kernel
theorem d_R_numberAll_226 : decode prog_9_method_24_code 226 = .ok (.return_, 1) := by decide +kernel
def g_R_firstFault_14 (r2 : Nat → Int32 → XM → XP) : Nat → Nat → Int32 → Int32 → XM → XP
  | 0, _, _, _, _ => none
  | n + 1, v0, v1, v2, M =>
    gR M 27 v0 10 fun t1 =>
    aI M t1 v1 fun t2 =>
    if t2 ≤ v2 then
    (r2 v0 ((v1 + 1)) M)
    else
    rv M 27 v0 <|
    cI (g_R_isClosed v0 0 v1 v2 M) fun t5 M4 =>
    if ¬ t5 = 0 then
    (g_R_firstFault_14 r2 n v0 v1 ((v2 + 1)) M4)
    else
    some (.inl (some (.int ((100 * v1) + v2))), M4)
def g_R_firstFault_2 : Nat → Nat → Int32 → XM → XP
  | 0, _, _, _ => none
  | n + 1, v0, v1, M =>
    gR M 27 v0 2 fun t1 =>
    aI M t1 0 fun t2 =>
    if t2 ≤ v1 then
    (some (.inl (some (.int (-1))), M))
    else
    g_R_firstFault_14 (g_R_firstFault_2 n) FU v0 v1 0 M
def g_R_firstFault (v0 : Nat) (M : XM) : XP :=
    g_R_firstFault_2 FU v0 0 M
def g_R_fault (v0 : Nat) (M : XM) : XP :=
    uI M 27 v0 0 0 fun M1 =>
    rv M1 27 v0 <|
    cI (g_R_firstFault v0  M1) fun t4 M3 =>
    some (.inl (some (.int t4)), M3)
def g_R_countEntries_4 : Nat → Nat → Int32 → Int32 → Int32 → XM → XP
  | 0, _, _, _, _, _ => none
  | n + 1, v0, v1, v2, v3, M =>
    gR M 27 v0 2 fun t1 =>
    aI M t1 v1 fun t2 =>
    if t2 ≤ v3 then
    (some (.inl (some (.int v2)), M))
    else
    gR M 27 v0 11 fun t3 =>
    aZ M t3 ((30 * v1) + v3) fun t4 =>
    if t4 = 0 then
    (g_R_countEntries_4 n v0 v1 v2 ((v3 + 1)) M)
    else
    g_R_countEntries_4 n v0 v1 ((v2 + 1)) ((v3 + 1)) M
def g_R_countEntries (v0 : Nat) (v1 : Int32) (M : XM) : XP :=
    g_R_countEntries_4 FU v0 v1 0 0 M
def g_R_reach_156 (r32 : Nat → Int32 → XM → XP) (r40 : Nat → Int32 → Int32 → XM → XP) (r52 : Nat → Int32 → Int32 → Int32 → XM → XP) (v0 : Nat) (v2 : Int32) (v3 : Int32) (v5 : Int32) (s0 : Int32) (M : XM) : XP :=
    gR M 27 v0 15 fun t1 =>
    sZ M t1 v5 1 fun M2 =>
    r52 v0 s0 v2 ((v3 + 1)) M2
def g_R_reach_151 (r32 : Nat → Int32 → XM → XP) (r40 : Nat → Int32 → Int32 → XM → XP) (r52 : Nat → Int32 → Int32 → Int32 → XM → XP) (v0 : Nat) (v2 : Int32) (v3 : Int32) (v5 : Int32) (M : XM) : XP :=
    g_R_reach_156 r32 r40 r52 v0 v2 v3 v5 1 M
def g_R_reach_132 (r32 : Nat → Int32 → XM → XP) (r40 : Nat → Int32 → Int32 → XM → XP) (r52 : Nat → Int32 → Int32 → Int32 → XM → XP) (v0 : Nat) (v1 : Int32) (v2 : Int32) (v3 : Int32) (s0 : Nat) (s1 : Int32) (s2 : Int32) (s3 : Int32) (s4 : Int32) (M : XM) : XP :=
    rv M 27 s0 <|
    cI (g_R_meant s0 s1 s2 s3 s4 M) fun t3 M2 =>
    if ¬ v1 = 0 then
    (g_R_reach_151 r32 r40 r52 v0 v2 v3 t3 M2)
    else
    gR M2 27 v0 15 fun t4 =>
    aZ M2 t4 t3 fun t5 =>
    if ¬ t5 = 0 then
    (g_R_reach_156 r32 r40 r52 v0 v2 v3 t3 0 M2)
    else
    g_R_reach_151 r32 r40 r52 v0 v2 v3 t3 M2
def g_R_reach_102 (r32 : Nat → Int32 → XM → XP) (r40 : Nat → Int32 → Int32 → XM → XP) (r52 : Nat → Int32 → Int32 → Int32 → XM → XP) (v0 : Nat) (v1 : Int32) (v2 : Int32) (v3 : Int32) (v4 : Int32) (M : XM) : XP :=
    gR M 27 v0 7 fun t1 =>
    aI M t1 v2 fun t2 =>
    gR M 27 v0 13 fun t3 =>
    aI M t3 ((20 * v2) + v3) fun t4 =>
    if ¬ v4 = 3 then
    (g_R_reach_132 r32 r40 r52 v0 v1 v2 v3 v0 0 t2 t4 3 M)
    else
    g_R_reach_132 r32 r40 r52 v0 v1 v2 v3 v0 0 t2 t4 4 M
def g_R_reach_52 (r32 : Nat → Int32 → XM → XP) (r40 : Nat → Int32 → Int32 → XM → XP) : Nat → Nat → Int32 → Int32 → Int32 → XM → XP
  | 0, _, _, _, _, _ => none
  | n + 1, v0, v1, v2, v3, M =>
    gR M 27 v0 10 fun t1 =>
    aI M t1 v2 fun t2 =>
    if t2 ≤ v3 then
    (r40 v0 v1 ((v2 + 1)) M)
    else
    gR M 27 v0 15 fun t3 =>
    aZ M t3 v2 fun t4 =>
    if t4 = 0 then
    (r40 v0 v1 ((v2 + 1)) M)
    else
    gR M 27 v0 12 fun t5 =>
    aI M t5 ((20 * v2) + v3) fun t6 =>
    if t6 = 1 then
    (g_R_reach_102 r32 r40 (g_R_reach_52 r32 r40 n) v0 v1 v2 v3 t6 M)
    else
    if t6 = 2 then
    (g_R_reach_102 r32 r40 (g_R_reach_52 r32 r40 n) v0 v1 v2 v3 t6 M)
    else
    if ¬ t6 = 3 then
    (g_R_reach_52 r32 r40 n v0 v1 v2 ((v3 + 1)) M)
    else
    g_R_reach_102 r32 r40 (g_R_reach_52 r32 r40 n) v0 v1 v2 v3 t6 M
def g_R_reach_40 (r32 : Nat → Int32 → XM → XP) : Nat → Nat → Int32 → Int32 → XM → XP
  | 0, _, _, _, _ => none
  | n + 1, v0, v1, v2, M =>
    gR M 27 v0 2 fun t1 =>
    aI M t1 0 fun t2 =>
    if t2 ≤ v2 then
    (r32 v0 v1 M)
    else
    g_R_reach_52 r32 (g_R_reach_40 r32 n) FU v0 v1 v2 0 M
def g_R_reach_32 : Nat → Nat → Int32 → XM → XP
  | 0, _, _, _ => none
  | n + 1, v0, v1, M =>
    if v1 = 0 then
    (some (.inl none, M))
    else
    g_R_reach_40 (g_R_reach_32 n) FU v0 0 0 M
def g_R_reach_2 : Nat → Nat → Int32 → XM → XP
  | 0, _, _, _ => none
  | n + 1, v0, v1, M =>
    gR M 27 v0 2 fun t1 =>
    aI M t1 0 fun t2 =>
    if t2 ≤ v1 then
    (g_R_reach_32 FU v0 1 M)
    else
    gR M 27 v0 15 fun t3 =>
    gR M 27 v0 11 fun t4 =>
    aZ M t4 v1 fun t5 =>
    sZ M t3 v1 t5 fun M6 =>
    g_R_reach_2 n v0 ((v1 + 1)) M6
def g_R_reach (v0 : Nat) (M : XM) : XP :=
    g_R_reach_2 FU v0 0 M
def g_R_usesPool (v0 : Int32) (M : XM) : XP :=
    if v0 = 0 then
    (z01 1 (some (.inl (some (.int 1)), M)))
    else
    if v0 = 1 then
    (z01 1 (some (.inl (some (.int 1)), M)))
    else
    if v0 = 2 then
    (z01 1 (some (.inl (some (.int 1)), M)))
    else
    if ¬ v0 = 3 then
    (z01 0 (some (.inl (some (.int 0)), M)))
    else
    z01 1 (some (.inl (some (.int 1)), M))
def g_R_markConstants_152 (r136 : Nat → Int32 → XM → XP) : Nat → Nat → Int32 → Int32 → XM → XP
  | 0, _, _, _, _ => none
  | n + 1, v0, v1, v2, M =>
    cI (g_R_base 0 v1 M) fun t2 M1 =>
    gR M1 27 v0 3 fun t3 =>
    aI M1 t3 v1 fun t4 =>
    if (t2 + t4) ≤ v2 then
    (r136 v0 ((v1 + 1)) M1)
    else
    gR M1 27 v0 17 fun t5 =>
    aZ M1 t5 v2 fun t6 =>
    if t6 = 0 then
    (g_R_markConstants_152 r136 n v0 v1 ((v2 + 1)) M1)
    else
    gR M1 27 v0 4 fun t7 =>
    aI M1 t7 v2 fun t8 =>
    if t8 < 3 then
    (g_R_markConstants_152 r136 n v0 v1 ((v2 + 1)) M1)
    else
    gR M1 27 v0 17 fun t9 =>
    cI (g_R_base 0 v1 M1) fun t11 M10 =>
    gR M10 27 v0 5 fun t12 =>
    aI M10 t12 v2 fun t13 =>
    sZ M10 t9 (t11 + t13) 1 fun M14 =>
    gR M14 27 v0 17 fun t15 =>
    cI (g_R_base 0 v1 M14) fun t17 M16 =>
    gR M16 27 v0 6 fun t18 =>
    aI M16 t18 v2 fun t19 =>
    sZ M16 t15 (t17 + t19) 1 fun M20 =>
    g_R_markConstants_152 r136 n v0 v1 ((v2 + 1)) M20
def g_R_markConstants_136 : Nat → Nat → Int32 → XM → XP
  | 0, _, _, _ => none
  | n + 1, v0, v1, M =>
    gR M 27 v0 1 fun t1 =>
    aI M t1 0 fun t2 =>
    if t2 ≤ v1 then
    (some (.inl none, M))
    else
    cI (g_R_base 0 v1 M) fun t4 M3 =>
    g_R_markConstants_152 (g_R_markConstants_136 n) FU v0 v1 t4 M3
def g_R_markConstants_67 (r23 : Nat → Int32 → XM → XP) : Nat → Nat → Int32 → Int32 → XM → XP
  | 0, _, _, _, _ => none
  | n + 1, v0, v1, v2, M =>
    gR M 27 v0 10 fun t1 =>
    aI M t1 v1 fun t2 =>
    if t2 ≤ v2 then
    (r23 v0 ((v1 + 1)) M)
    else
    gR M 27 v0 12 fun t3 =>
    aI M t3 ((20 * v1) + v2) fun t4 =>
    cI (g_R_usesPool t4 M) fun t6 M5 =>
    if t6 = 0 then
    (g_R_markConstants_67 r23 n v0 v1 ((v2 + 1)) M5)
    else
    gR M5 27 v0 17 fun t7 =>
    gR M5 27 v0 7 fun t8 =>
    aI M5 t8 v1 fun t9 =>
    cI (g_R_base 0 t9 M5) fun t11 M10 =>
    gR M10 27 v0 13 fun t12 =>
    aI M10 t12 ((20 * v1) + v2) fun t13 =>
    sZ M10 t7 (t11 + t13) 1 fun M14 =>
    g_R_markConstants_67 r23 n v0 v1 ((v2 + 1)) M14
def g_R_markConstants_23 : Nat → Nat → Int32 → XM → XP
  | 0, _, _, _ => none
  | n + 1, v0, v1, M =>
    gR M 27 v0 2 fun t1 =>
    aI M t1 0 fun t2 =>
    if t2 ≤ v1 then
    (g_R_markConstants_136 FU v0 0 M)
    else
    gR M 27 v0 15 fun t3 =>
    aZ M t3 v1 fun t4 =>
    if t4 = 0 then
    (g_R_markConstants_23 n v0 ((v1 + 1)) M)
    else
    gR M 27 v0 17 fun t5 =>
    gR M 27 v0 7 fun t6 =>
    aI M t6 v1 fun t7 =>
    cI (g_R_base 0 t7 M) fun t9 M8 =>
    gR M8 27 v0 8 fun t10 =>
    aI M8 t10 v1 fun t11 =>
    sZ M8 t5 (t9 + t11) 1 fun M12 =>
    g_R_markConstants_67 (g_R_markConstants_23 n) FU v0 v1 0 M12
def g_R_markConstants_2 : Nat → Nat → Int32 → XM → XP
  | 0, _, _, _ => none
  | n + 1, v0, v1, M =>
    if 120 ≤ v1 then
    (g_R_markConstants_23 FU v0 0 M)
    else
    gR M 27 v0 17 fun t1 =>
    sZ M t1 v1 0 fun M2 =>
    g_R_markConstants_2 n v0 ((v1 + 1)) M2
def g_R_markConstants (v0 : Nat) (M : XM) : XP :=
    g_R_markConstants_2 FU v0 0 M
def g_R_numberAll_167 (r67 : Nat → Int32 → Int32 → XM → XP) : Nat → Nat → Int32 → Int32 → Int32 → Int32 → XM → XP
  | 0, _, _, _, _, _, _ => none
  | n + 1, v0, v1, v2, v4, v5, M =>
    cI (g_R_base 0 v2 M) fun t2 M1 =>
    gR M1 27 v0 3 fun t3 =>
    aI M1 t3 v2 fun t4 =>
    if (t2 + t4) ≤ v5 then
    (r67 v0 v1 ((v2 + 1)) M1)
    else
    gR M1 27 v0 18 fun t5 =>
    sI M1 t5 v5 v4 fun M6 =>
    gR M6 27 v0 17 fun t7 =>
    aZ M6 t7 v5 fun t8 =>
    if t8 = 0 then
    (g_R_numberAll_167 r67 n v0 v1 v2 v4 ((v5 + 1)) M6)
    else
    g_R_numberAll_167 r67 n v0 v1 v2 ((v4 + 1)) ((v5 + 1)) M6
def g_R_numberAll_156 (r67 : Nat → Int32 → Int32 → XM → XP) (v0 : Nat) (v2 : Int32) (s0 : Int32) (M : XM) : XP :=
    cI (g_R_base 0 v2 M) fun t2 M1 =>
    g_R_numberAll_167 r67 FU v0 s0 v2 0 t2 M1
def g_R_numberAll_144 (r67 : Nat → Int32 → Int32 → XM → XP) (v0 : Nat) (v1 : Int32) (v2 : Int32) (v3 : Int32) (s0 : Nat) (s1 : Int32) (s2 : Int32) (M : XM) : XP :=
    sI M s0 s1 s2 fun M1 =>
    if v3 = 0 then
    (g_R_numberAll_156 r67 v0 v2 v1 M1)
    else
    g_R_numberAll_156 r67 v0 v2 ((v1 + 1)) M1
def g_R_numberAll_82 (r67 : Nat → Int32 → Int32 → XM → XP) : Nat → Nat → Int32 → Int32 → Int32 → Int32 → XM → XP
  | 0, _, _, _, _, _, _ => none
  | n + 1, v0, v1, v2, v3, v4, M =>
    gR M 27 v0 2 fun t1 =>
    aI M t1 0 fun t2 =>
    if t2 ≤ v4 then
    (gR M 27 v0 16 fun t3 =>
    if v3 = 0 then
    (g_R_numberAll_144 r67 v0 v1 v2 v3 t3 v2 ((-1)) M)
    else
    g_R_numberAll_144 r67 v0 v1 v2 v3 t3 v2 v1 M)
    else
    if ¬ v3 = 0 then
    (g_R_numberAll_82 r67 n v0 v1 v2 1 ((v4 + 1)) M)
    else
    gR M 27 v0 15 fun t4 =>
    aZ M t4 v4 fun t5 =>
    if t5 = 0 then
    (g_R_numberAll_82 r67 n v0 v1 v2 0 ((v4 + 1)) M)
    else
    gR M 27 v0 7 fun t6 =>
    aI M t6 v4 fun t7 =>
    if ¬ t7 = v2 then
    (g_R_numberAll_82 r67 n v0 v1 v2 0 ((v4 + 1)) M)
    else
    g_R_numberAll_82 r67 n v0 v1 v2 1 ((v4 + 1)) M
def g_R_numberAll_67 : Nat → Nat → Int32 → Int32 → XM → XP
  | 0, _, _, _, _ => none
  | n + 1, v0, v1, v2, M =>
    gR M 27 v0 1 fun t1 =>
    aI M t1 0 fun t2 =>
    if t2 ≤ v2 then
    (some (.inl none, M))
    else
    g_R_numberAll_82 (g_R_numberAll_67 n) FU v0 v1 v2 0 0 M
def g_R_numberAll_39 (r4 : Nat → Int32 → Int32 → XM → XP) (v0 : Nat) (v1 : Int32) (v2 : Int32) (s0 : Nat) (s1 : Int32) (s2 : Int32) (M : XM) : XP :=
    sI M s0 s1 s2 fun M1 =>
    gR M1 27 v0 14 fun t2 =>
    aI M1 t2 v2 fun t3 =>
    if t3 < 0 then
    (r4 v0 v1 ((v2 + 1)) M1)
    else
    r4 v0 ((v1 + 1)) ((v2 + 1)) M1
def g_R_numberAll_38 (r4 : Nat → Int32 → Int32 → XM → XP) (v0 : Nat) (v1 : Int32) (v2 : Int32) (s0 : Nat) (s1 : Int32) (M : XM) : XP :=
    g_R_numberAll_39 r4 v0 v1 v2 s0 s1 ((-1)) M
def g_R_numberAll_4 : Nat → Nat → Int32 → Int32 → XM → XP
  | 0, _, _, _, _ => none
  | n + 1, v0, v1, v2, M =>
    if 30 ≤ v2 then
    (g_R_numberAll_67 FU v0 0 0 M)
    else
    gR M 27 v0 14 fun t1 =>
    gR M 27 v0 2 fun t2 =>
    aI M t2 0 fun t3 =>
    if t3 ≤ v2 then
    (g_R_numberAll_38 (g_R_numberAll_4 n) v0 v1 v2 t1 v2 M)
    else
    gR M 27 v0 15 fun t4 =>
    aZ M t4 v2 fun t5 =>
    if t5 = 0 then
    (g_R_numberAll_38 (g_R_numberAll_4 n) v0 v1 v2 t1 v2 M)
    else
    g_R_numberAll_39 (g_R_numberAll_4 n) v0 v1 v2 t1 v2 v1 M
def g_R_numberAll (v0 : Nat) (M : XM) : XP :=
    g_R_numberAll_4 FU v0 0 0 M
section XG
variable {K : XK} {o : XO} {N : XM}
theorem p_R_firstFault_14 (G : xG K) {r2 : Nat → Int32 → XM → XP} (hr2 : ∀ w0 w1 Q, r2 w0 w1 Q = some (o, N) → cA K y_R_firstFault 2 [(0, .ref w0), (1, .int w1)] [] Q o N) : ∀ (n : Nat) (v0 : Nat) (v1 : Int32) (v2 : Int32) (M : XM), g_R_firstFault_14 r2 n v0 v1 v2 M = some (o, N) → cA K y_R_firstFault 14 [(0, .ref v0), (1, .int v1), (2, .int v2)] [] M o N := by
  intro n
  induction n with
  | zero =>
    intro v0 v1 v2 M h
    rw [g_R_firstFault_14] at h
    cases h
  | succ n ih =>
    intro v0 v1 v2 M h
    rw [g_R_firstFault_14] at h
    refine x_iload_n (pc := 14) d_R_firstFault_14 rfl 2 rfl ?_
    refine x_aload_n (pc := 15) d_R_firstFault_15 rfl 0 rfl ?_
    refine h_getR G (pc := 16) (ci := 7) (j := 10) d_R_firstFault_16 rfl rfl rfl lf_R_37 h fun t1 h => ?_
    refine x_iload_n (pc := 19) d_R_firstFault_19 rfl 1 rfl ?_
    refine h_iaload (pc := 20) d_R_firstFault_20 h fun t2 h => ?_
    refine h_icmp_ge (pc := 21) 47 d_R_firstFault_21 (by decide) h (fun _ h => ?_) (fun _ h => ?_)
    · refine x_iinc (pc := 47) (n := 1) (L' := [(0, .ref v0), (1, .int (v1 + 1)), (2, .int v2)]) d_R_firstFault_47 (by decide) rfl rfl ?_
      refine x_goto (pc := 50) 2 d_R_firstFault_50 (by decide) ?_
      refine x_weak [0, 1] rfl ?_
      exact hr2 _ _ _ h
    · refine x_aload_n (pc := 24) d_R_firstFault_24 rfl 0 rfl ?_
      refine x_iconst (pc := 25) d_R_firstFault_25 rfl ?_
      refine x_iload_n (pc := 26) d_R_firstFault_26 rfl 1 rfl ?_
      refine x_iload_n (pc := 27) d_R_firstFault_27 rfl 2 rfl ?_
      obtain ⟨⟨ra3, ra3t⟩, h⟩ := h_ok h
      refine h_callI G (x_siteV G (pc := 28) (y2 := y_R_isClosed) (As := [.int 0, .int v1, .int v2]) (S := []) (ci := 7) d_R_firstFault_28 rfl lm_R_125 mi_R_isClosed ms_R_isClosed mw_R_isClosed.1 mx_R_isClosed.1 mx_R_isClosed.2 rfl ra3 ra3t) mw_R_isClosed ⟨Nat.le_of_ble_eq_true rfl, Nat.le_of_ble_eq_true rfl⟩ rfl (fun _ _ e => p_R_isClosed G _ _ _ _ _ e) h fun t5 M4 h => ?_
      refine h_if_ne (pc := 31) 41 d_R_firstFault_31 (by decide) h (fun _ h => ?_) (fun _ h => ?_)
      · refine x_iinc (pc := 41) (n := 2) (L' := [(0, .ref v0), (1, .int v1), (2, .int (v2 + 1))]) d_R_firstFault_41 (by decide) rfl rfl ?_
        refine x_goto (pc := 44) 14 d_R_firstFault_44 (by decide) ?_
        refine x_weak [0, 1, 2] rfl ?_
        exact ih _ _ _ _ h
      · refine x_bipush (pc := 34) (v := 100) d_R_firstFault_34 (by decide) ?_
        refine x_iload_n (pc := 36) d_R_firstFault_36 rfl 1 rfl ?_
        refine x_imul (pc := 37) d_R_firstFault_37 ?_
        refine x_iload_n (pc := 38) d_R_firstFault_38 rfl 2 rfl ?_
        refine x_iadd (pc := 39) d_R_firstFault_39 ?_
        exact h_ireturn (pc := 40) d_R_firstFault_40 rfl h
theorem p_R_firstFault_2 (G : xG K) : ∀ (n : Nat) (v0 : Nat) (v1 : Int32) (M : XM), g_R_firstFault_2 n v0 v1 M = some (o, N) → cA K y_R_firstFault 2 [(0, .ref v0), (1, .int v1)] [] M o N := by
  intro n
  induction n with
  | zero =>
    intro v0 v1 M h
    rw [g_R_firstFault_2] at h
    cases h
  | succ n ih =>
    intro v0 v1 M h
    rw [g_R_firstFault_2] at h
    refine x_iload_n (pc := 2) d_R_firstFault_2 rfl 1 rfl ?_
    refine x_aload_n (pc := 3) d_R_firstFault_3 rfl 0 rfl ?_
    refine h_getR G (pc := 4) (ci := 7) (j := 2) d_R_firstFault_4 rfl rfl rfl lf_R_13 h fun t1 h => ?_
    refine x_iconst (pc := 7) d_R_firstFault_7 rfl ?_
    refine h_iaload (pc := 8) d_R_firstFault_8 h fun t2 h => ?_
    refine h_icmp_ge (pc := 9) 53 d_R_firstFault_9 (by decide) h (fun _ h => ?_) (fun _ h => ?_)
    · refine x_iconst (pc := 53) d_R_firstFault_53 rfl ?_
      exact h_ireturn (pc := 54) d_R_firstFault_54 rfl h
    · refine x_iconst (pc := 12) d_R_firstFault_12 rfl ?_
      refine x_istore_n (pc := 13) (L' := [(0, .ref v0), (1, .int v1), (2, .int 0)]) d_R_firstFault_13 rfl (by decide) rfl ?_
      refine x_weak [0, 1, 2] rfl ?_
      exact p_R_firstFault_14 G ih FU _ _ _ _ h
theorem p_R_firstFault (G : xG K) (v0 : Nat) (M : XM) (h : g_R_firstFault v0 M = some (o, N)) : Ct K y_R_firstFault [.ref v0] M o N := by
  refine ct_of (by decide) (List.forall_mem_cons.mpr ⟨rfl, fun _ q => absurd q List.not_mem_nil⟩) (Nat.le_of_ble_eq_true rfl) ?_
  show cA K y_R_firstFault 0 [(0, .ref v0)] [] M o N
  unfold g_R_firstFault at h
  refine x_iconst (pc := 0) d_R_firstFault_0 rfl ?_
  refine x_istore_n (pc := 1) (L' := [(0, .ref v0), (1, .int 0)]) d_R_firstFault_1 rfl (by decide) rfl ?_
  refine x_weak [0, 1] rfl ?_
  exact p_R_firstFault_2 G FU _ _ _ h
theorem p_R_fault (G : xG K) (v0 : Nat) (M : XM) (h : g_R_fault v0 M = some (o, N)) : Ct K y_R_fault [.ref v0] M o N := by
  refine ct_of (by decide) (List.forall_mem_cons.mpr ⟨rfl, fun _ q => absurd q List.not_mem_nil⟩) (Nat.le_of_ble_eq_true rfl) ?_
  show cA K y_R_fault 0 [(0, .ref v0)] [] M o N
  unfold g_R_fault at h
  refine x_aload_n (pc := 0) d_R_fault_0 rfl 0 rfl ?_
  refine x_iconst (pc := 1) d_R_fault_1 rfl ?_
  refine h_putI G (pc := 2) (ci := 7) (j := 0) d_R_fault_2 rfl rfl rfl lf_R_92 h fun M1 h => ?_
  refine x_aload_n (pc := 5) d_R_fault_5 rfl 0 rfl ?_
  obtain ⟨⟨ra2, ra2t⟩, h⟩ := h_ok h
  refine h_callI G (x_siteV G (pc := 6) (y2 := y_R_firstFault) (As := []) (S := []) (ci := 7) d_R_fault_6 rfl lm_R_129 mi_R_firstFault ms_R_firstFault mw_R_firstFault.1 mx_R_firstFault.1 mx_R_firstFault.2 rfl ra2 ra2t) mw_R_firstFault ⟨Nat.le_of_ble_eq_true rfl, Nat.le_of_ble_eq_true rfl⟩ rfl (fun _ _ e => p_R_firstFault G _ _ e) h fun t4 M3 h => ?_
  exact h_ireturn (pc := 9) d_R_fault_9 rfl h
theorem p_R_countEntries_4 (G : xG K) : ∀ (n : Nat) (v0 : Nat) (v1 : Int32) (v2 : Int32) (v3 : Int32) (M : XM), g_R_countEntries_4 n v0 v1 v2 v3 M = some (o, N) → cA K y_R_countEntries 4 [(0, .ref v0), (1, .int v1), (2, .int v2), (3, .int v3)] [] M o N := by
  intro n
  induction n with
  | zero =>
    intro v0 v1 v2 v3 M h
    rw [g_R_countEntries_4] at h
    cases h
  | succ n ih =>
    intro v0 v1 v2 v3 M h
    rw [g_R_countEntries_4] at h
    refine x_iload_n (pc := 4) d_R_countEntries_4 rfl 3 rfl ?_
    refine x_aload_n (pc := 5) d_R_countEntries_5 rfl 0 rfl ?_
    refine h_getR G (pc := 6) (ci := 7) (j := 2) d_R_countEntries_6 rfl rfl rfl lf_R_13 h fun t1 h => ?_
    refine x_iload_n (pc := 9) d_R_countEntries_9 rfl 1 rfl ?_
    refine h_iaload (pc := 10) d_R_countEntries_10 h fun t2 h => ?_
    refine h_icmp_ge (pc := 11) 42 d_R_countEntries_11 (by decide) h (fun _ h => ?_) (fun _ h => ?_)
    · refine x_iload_n (pc := 42) d_R_countEntries_42 rfl 2 rfl ?_
      exact h_ireturn (pc := 43) d_R_countEntries_43 rfl h
    · refine x_aload_n (pc := 14) d_R_countEntries_14 rfl 0 rfl ?_
      refine h_getR G (pc := 15) (ci := 7) (j := 11) d_R_countEntries_15 rfl rfl rfl lf_R_40 h fun t3 h => ?_
      refine x_bipush (pc := 18) (v := 30) d_R_countEntries_18 (by decide) ?_
      refine x_iload_n (pc := 20) d_R_countEntries_20 rfl 1 rfl ?_
      refine x_imul (pc := 21) d_R_countEntries_21 ?_
      refine x_iload_n (pc := 22) d_R_countEntries_22 rfl 3 rfl ?_
      refine x_iadd (pc := 23) d_R_countEntries_23 ?_
      refine h_baload (pc := 24) d_R_countEntries_24 h fun t4 h => ?_
      refine h_if_eq (pc := 25) 34 d_R_countEntries_25 (by decide) h (fun _ h => ?_) (fun _ h => ?_)
      · refine x_iload_n (pc := 34) d_R_countEntries_34 rfl 2 rfl ?_
        refine x_istore_n (pc := 35) (L' := [(0, .ref v0), (1, .int v1), (2, .int v2), (3, .int v3)]) d_R_countEntries_35 rfl (by decide) rfl ?_
        refine x_iinc (pc := 36) (n := 3) (L' := [(0, .ref v0), (1, .int v1), (2, .int v2), (3, .int (v3 + 1))]) d_R_countEntries_36 (by decide) rfl rfl ?_
        refine x_goto (pc := 39) 4 d_R_countEntries_39 (by decide) ?_
        refine x_weak [0, 1, 2, 3] rfl ?_
        exact ih _ _ _ _ _ h
      · refine x_iload_n (pc := 28) d_R_countEntries_28 rfl 2 rfl ?_
        refine x_iconst (pc := 29) d_R_countEntries_29 rfl ?_
        refine x_iadd (pc := 30) d_R_countEntries_30 ?_
        refine x_goto (pc := 31) 35 d_R_countEntries_31 (by decide) ?_
        refine x_istore_n (pc := 35) (L' := [(0, .ref v0), (1, .int v1), (2, .int (v2 + 1)), (3, .int v3)]) d_R_countEntries_35 rfl (by decide) rfl ?_
        refine x_iinc (pc := 36) (n := 3) (L' := [(0, .ref v0), (1, .int v1), (2, .int (v2 + 1)), (3, .int (v3 + 1))]) d_R_countEntries_36 (by decide) rfl rfl ?_
        refine x_goto (pc := 39) 4 d_R_countEntries_39 (by decide) ?_
        refine x_weak [0, 1, 2, 3] rfl ?_
        exact ih _ _ _ _ _ h
theorem p_R_countEntries (G : xG K) (v0 : Nat) (v1 : Int32) (M : XM) (h : g_R_countEntries v0 v1 M = some (o, N)) : Ct K y_R_countEntries [.ref v0, .int v1] M o N := by
  refine ct_of (by decide) (List.forall_mem_cons.mpr ⟨rfl, List.forall_mem_cons.mpr ⟨rfl, fun _ q => absurd q List.not_mem_nil⟩⟩) (Nat.le_of_ble_eq_true rfl) ?_
  show cA K y_R_countEntries 0 [(0, .ref v0), (1, .int v1)] [] M o N
  unfold g_R_countEntries at h
  refine x_iconst (pc := 0) d_R_countEntries_0 rfl ?_
  refine x_istore_n (pc := 1) (L' := [(0, .ref v0), (1, .int v1), (2, .int 0)]) d_R_countEntries_1 rfl (by decide) rfl ?_
  refine x_iconst (pc := 2) d_R_countEntries_2 rfl ?_
  refine x_istore_n (pc := 3) (L' := [(0, .ref v0), (1, .int v1), (2, .int 0), (3, .int 0)]) d_R_countEntries_3 rfl (by decide) rfl ?_
  refine x_weak [0, 1, 2, 3] rfl ?_
  exact p_R_countEntries_4 G FU _ _ _ _ _ h
theorem p_R_reach_156 (G : xG K) {r32 : Nat → Int32 → XM → XP} (hr32 : ∀ w0 w1 Q, r32 w0 w1 Q = some (o, N) → cA K y_R_reach 32 [(0, .ref w0), (1, .int w1)] [] Q o N) {r40 : Nat → Int32 → Int32 → XM → XP} (hr40 : ∀ w0 w1 w2 Q, r40 w0 w1 w2 Q = some (o, N) → cA K y_R_reach 40 [(0, .ref w0), (1, .int w1), (2, .int w2)] [] Q o N) {r52 : Nat → Int32 → Int32 → Int32 → XM → XP} (hr52 : ∀ w0 w1 w2 w3 Q, r52 w0 w1 w2 w3 Q = some (o, N) → cA K y_R_reach 52 [(0, .ref w0), (1, .int w1), (2, .int w2), (3, .int w3)] [] Q o N) (v0 : Nat) (v2 : Int32) (v3 : Int32) (v5 : Int32) (s0 : Int32) (M : XM) (h : g_R_reach_156 r32 r40 r52 v0 v2 v3 v5 s0 M = some (o, N)) : cA K y_R_reach 156 [(0, .ref v0), (2, .int v2), (3, .int v3), (5, .int v5)] [.int s0] M o N := by
  unfold g_R_reach_156 at h
  refine x_istore_n (pc := 156) (L' := [(0, .ref v0), (1, .int s0), (2, .int v2), (3, .int v3), (5, .int v5)]) d_R_reach_156 rfl (by decide) rfl ?_
  refine x_aload_n (pc := 157) d_R_reach_157 rfl 0 rfl ?_
  refine h_getR G (pc := 158) (ci := 7) (j := 15) d_R_reach_158 rfl rfl rfl lf_R_53 h fun t1 h => ?_
  refine x_iload (pc := 161) d_R_reach_161 4 rfl ?_
  refine x_iconst (pc := 163) d_R_reach_163 rfl ?_
  refine h_bastore G (pc := 164) d_R_reach_164 h fun M2 h => ?_
  refine x_iinc (pc := 165) (n := 3) (L' := [(0, .ref v0), (1, .int s0), (2, .int v2), (3, .int (v3 + 1)), (5, .int v5)]) d_R_reach_165 (by decide) rfl rfl ?_
  refine x_goto (pc := 168) 52 d_R_reach_168 (by decide) ?_
  refine x_weak [0, 1, 2, 3] rfl ?_
  exact hr52 _ _ _ _ _ h
theorem p_R_reach_151 (G : xG K) {r32 : Nat → Int32 → XM → XP} (hr32 : ∀ w0 w1 Q, r32 w0 w1 Q = some (o, N) → cA K y_R_reach 32 [(0, .ref w0), (1, .int w1)] [] Q o N) {r40 : Nat → Int32 → Int32 → XM → XP} (hr40 : ∀ w0 w1 w2 Q, r40 w0 w1 w2 Q = some (o, N) → cA K y_R_reach 40 [(0, .ref w0), (1, .int w1), (2, .int w2)] [] Q o N) {r52 : Nat → Int32 → Int32 → Int32 → XM → XP} (hr52 : ∀ w0 w1 w2 w3 Q, r52 w0 w1 w2 w3 Q = some (o, N) → cA K y_R_reach 52 [(0, .ref w0), (1, .int w1), (2, .int w2), (3, .int w3)] [] Q o N) (v0 : Nat) (v2 : Int32) (v3 : Int32) (v5 : Int32) (M : XM) (h : g_R_reach_151 r32 r40 r52 v0 v2 v3 v5 M = some (o, N)) : cA K y_R_reach 151 [(0, .ref v0), (2, .int v2), (3, .int v3), (5, .int v5)] [] M o N := by
  unfold g_R_reach_151 at h
  refine x_iconst (pc := 151) d_R_reach_151 rfl ?_
  refine x_goto (pc := 152) 156 d_R_reach_152 (by decide) ?_
  refine x_weak [0, 1, 2, 3] rfl ?_
  exact p_R_reach_156 G hr32 hr40 hr52 _ _ _ _ _ _ h
theorem p_R_reach_132 (G : xG K) {r32 : Nat → Int32 → XM → XP} (hr32 : ∀ w0 w1 Q, r32 w0 w1 Q = some (o, N) → cA K y_R_reach 32 [(0, .ref w0), (1, .int w1)] [] Q o N) {r40 : Nat → Int32 → Int32 → XM → XP} (hr40 : ∀ w0 w1 w2 Q, r40 w0 w1 w2 Q = some (o, N) → cA K y_R_reach 40 [(0, .ref w0), (1, .int w1), (2, .int w2)] [] Q o N) {r52 : Nat → Int32 → Int32 → Int32 → XM → XP} (hr52 : ∀ w0 w1 w2 w3 Q, r52 w0 w1 w2 w3 Q = some (o, N) → cA K y_R_reach 52 [(0, .ref w0), (1, .int w1), (2, .int w2), (3, .int w3)] [] Q o N) (v0 : Nat) (v1 : Int32) (v2 : Int32) (v3 : Int32) (s0 : Nat) (s1 : Int32) (s2 : Int32) (s3 : Int32) (s4 : Int32) (M : XM) (h : g_R_reach_132 r32 r40 r52 v0 v1 v2 v3 s0 s1 s2 s3 s4 M = some (o, N)) : cA K y_R_reach 132 [(0, .ref v0), (1, .int v1), (2, .int v2), (3, .int v3)] [.int s4, .int s3, .int s2, .int s1, .ref s0] M o N := by
  unfold g_R_reach_132 at h
  obtain ⟨⟨ra1, ra1t⟩, h⟩ := h_ok h
  refine h_callI G (x_siteV G (pc := 132) (y2 := y_R_meant) (As := [.int s1, .int s2, .int s3, .int s4]) (S := []) (ci := 7) d_R_reach_132 rfl lm_R_121 mi_R_meant ms_R_meant mw_R_meant.1 mx_R_meant.1 mx_R_meant.2 rfl ra1 ra1t) mw_R_meant ⟨Nat.le_of_ble_eq_true rfl, Nat.le_of_ble_eq_true rfl⟩ rfl (fun _ _ e => p_R_meant G _ _ _ _ _ _ e) h fun t3 M2 h => ?_
  refine x_istore (pc := 135) (L' := [(0, .ref v0), (1, .int v1), (2, .int v2), (3, .int v3), (5, .int t3)]) d_R_reach_135 (by decide) rfl ?_
  refine x_iload_n (pc := 137) d_R_reach_137 rfl 1 rfl ?_
  refine h_if_ne (pc := 138) 151 d_R_reach_138 (by decide) h (fun _ h => ?_) (fun _ h => ?_)
  · refine x_weak [0, 2, 3, 4] rfl ?_
    exact p_R_reach_151 G hr32 hr40 hr52 _ _ _ _ _ h
  · refine x_aload_n (pc := 141) d_R_reach_141 rfl 0 rfl ?_
    refine h_getR G (pc := 142) (ci := 7) (j := 15) d_R_reach_142 rfl rfl rfl lf_R_53 h fun t4 h => ?_
    refine x_iload (pc := 145) d_R_reach_145 4 rfl ?_
    refine h_baload (pc := 147) d_R_reach_147 h fun t5 h => ?_
    refine h_if_ne (pc := 148) 155 d_R_reach_148 (by decide) h (fun _ h => ?_) (fun _ h => ?_)
    · refine x_iconst (pc := 155) d_R_reach_155 rfl ?_
      refine x_weak [0, 2, 3, 4] rfl ?_
      exact p_R_reach_156 G hr32 hr40 hr52 _ _ _ _ _ _ h
    · refine x_weak [0, 2, 3, 4] rfl ?_
      exact p_R_reach_151 G hr32 hr40 hr52 _ _ _ _ _ h
theorem p_R_reach_102 (G : xG K) {r32 : Nat → Int32 → XM → XP} (hr32 : ∀ w0 w1 Q, r32 w0 w1 Q = some (o, N) → cA K y_R_reach 32 [(0, .ref w0), (1, .int w1)] [] Q o N) {r40 : Nat → Int32 → Int32 → XM → XP} (hr40 : ∀ w0 w1 w2 Q, r40 w0 w1 w2 Q = some (o, N) → cA K y_R_reach 40 [(0, .ref w0), (1, .int w1), (2, .int w2)] [] Q o N) {r52 : Nat → Int32 → Int32 → Int32 → XM → XP} (hr52 : ∀ w0 w1 w2 w3 Q, r52 w0 w1 w2 w3 Q = some (o, N) → cA K y_R_reach 52 [(0, .ref w0), (1, .int w1), (2, .int w2), (3, .int w3)] [] Q o N) (v0 : Nat) (v1 : Int32) (v2 : Int32) (v3 : Int32) (v4 : Int32) (M : XM) (h : g_R_reach_102 r32 r40 r52 v0 v1 v2 v3 v4 M = some (o, N)) : cA K y_R_reach 102 [(0, .ref v0), (1, .int v1), (2, .int v2), (3, .int v3), (4, .int v4)] [] M o N := by
  unfold g_R_reach_102 at h
  refine x_aload_n (pc := 102) d_R_reach_102 rfl 0 rfl ?_
  refine x_iconst (pc := 103) d_R_reach_103 rfl ?_
  refine x_aload_n (pc := 104) d_R_reach_104 rfl 0 rfl ?_
  refine h_getR G (pc := 105) (ci := 7) (j := 7) d_R_reach_105 rfl rfl rfl lf_R_28 h fun t1 h => ?_
  refine x_iload_n (pc := 108) d_R_reach_108 rfl 2 rfl ?_
  refine h_iaload (pc := 109) d_R_reach_109 h fun t2 h => ?_
  refine x_aload_n (pc := 110) d_R_reach_110 rfl 0 rfl ?_
  refine h_getR G (pc := 111) (ci := 7) (j := 13) d_R_reach_111 rfl rfl rfl lf_R_47 h fun t3 h => ?_
  refine x_bipush (pc := 114) (v := 20) d_R_reach_114 (by decide) ?_
  refine x_iload_n (pc := 116) d_R_reach_116 rfl 2 rfl ?_
  refine x_imul (pc := 117) d_R_reach_117 ?_
  refine x_iload_n (pc := 118) d_R_reach_118 rfl 3 rfl ?_
  refine x_iadd (pc := 119) d_R_reach_119 ?_
  refine h_iaload (pc := 120) d_R_reach_120 h fun t4 h => ?_
  refine x_iload (pc := 121) d_R_reach_121 4 rfl ?_
  refine x_iconst (pc := 123) d_R_reach_123 rfl ?_
  refine h_icmp_ne (pc := 124) 131 d_R_reach_124 (by decide) h (fun _ h => ?_) (fun _ h => ?_)
  · refine x_iconst (pc := 131) d_R_reach_131 rfl ?_
    refine x_weak [0, 1, 2, 3] rfl ?_
    exact p_R_reach_132 G hr32 hr40 hr52 _ _ _ _ _ _ _ _ _ _ h
  · refine x_iconst (pc := 127) d_R_reach_127 rfl ?_
    refine x_goto (pc := 128) 132 d_R_reach_128 (by decide) ?_
    refine x_weak [0, 1, 2, 3] rfl ?_
    exact p_R_reach_132 G hr32 hr40 hr52 _ _ _ _ _ _ _ _ _ _ h
theorem p_R_reach_52 (G : xG K) {r32 : Nat → Int32 → XM → XP} (hr32 : ∀ w0 w1 Q, r32 w0 w1 Q = some (o, N) → cA K y_R_reach 32 [(0, .ref w0), (1, .int w1)] [] Q o N) {r40 : Nat → Int32 → Int32 → XM → XP} (hr40 : ∀ w0 w1 w2 Q, r40 w0 w1 w2 Q = some (o, N) → cA K y_R_reach 40 [(0, .ref w0), (1, .int w1), (2, .int w2)] [] Q o N) : ∀ (n : Nat) (v0 : Nat) (v1 : Int32) (v2 : Int32) (v3 : Int32) (M : XM), g_R_reach_52 r32 r40 n v0 v1 v2 v3 M = some (o, N) → cA K y_R_reach 52 [(0, .ref v0), (1, .int v1), (2, .int v2), (3, .int v3)] [] M o N := by
  intro n
  induction n with
  | zero =>
    intro v0 v1 v2 v3 M h
    rw [g_R_reach_52] at h
    cases h
  | succ n ih =>
    intro v0 v1 v2 v3 M h
    rw [g_R_reach_52] at h
    refine x_iload_n (pc := 52) d_R_reach_52 rfl 3 rfl ?_
    refine x_aload_n (pc := 53) d_R_reach_53 rfl 0 rfl ?_
    refine h_getR G (pc := 54) (ci := 7) (j := 10) d_R_reach_54 rfl rfl rfl lf_R_37 h fun t1 h => ?_
    refine x_iload_n (pc := 57) d_R_reach_57 rfl 2 rfl ?_
    refine h_iaload (pc := 58) d_R_reach_58 h fun t2 h => ?_
    refine h_icmp_ge (pc := 59) 171 d_R_reach_59 (by decide) h (fun _ h => ?_) (fun _ h => ?_)
    · refine x_iinc (pc := 171) (n := 2) (L' := [(0, .ref v0), (1, .int v1), (2, .int (v2 + 1)), (3, .int v3)]) d_R_reach_171 (by decide) rfl rfl ?_
      refine x_goto (pc := 174) 40 d_R_reach_174 (by decide) ?_
      refine x_weak [0, 1, 2] rfl ?_
      exact hr40 _ _ _ _ h
    · refine x_aload_n (pc := 62) d_R_reach_62 rfl 0 rfl ?_
      refine h_getR G (pc := 63) (ci := 7) (j := 15) d_R_reach_63 rfl rfl rfl lf_R_53 h fun t3 h => ?_
      refine x_iload_n (pc := 66) d_R_reach_66 rfl 2 rfl ?_
      refine h_baload (pc := 67) d_R_reach_67 h fun t4 h => ?_
      refine h_if_eq (pc := 68) 171 d_R_reach_68 (by decide) h (fun _ h => ?_) (fun _ h => ?_)
      · refine x_iinc (pc := 171) (n := 2) (L' := [(0, .ref v0), (1, .int v1), (2, .int (v2 + 1)), (3, .int v3)]) d_R_reach_171 (by decide) rfl rfl ?_
        refine x_goto (pc := 174) 40 d_R_reach_174 (by decide) ?_
        refine x_weak [0, 1, 2] rfl ?_
        exact hr40 _ _ _ _ h
      · refine x_aload_n (pc := 71) d_R_reach_71 rfl 0 rfl ?_
        refine h_getR G (pc := 72) (ci := 7) (j := 12) d_R_reach_72 rfl rfl rfl lf_R_44 h fun t5 h => ?_
        refine x_bipush (pc := 75) (v := 20) d_R_reach_75 (by decide) ?_
        refine x_iload_n (pc := 77) d_R_reach_77 rfl 2 rfl ?_
        refine x_imul (pc := 78) d_R_reach_78 ?_
        refine x_iload_n (pc := 79) d_R_reach_79 rfl 3 rfl ?_
        refine x_iadd (pc := 80) d_R_reach_80 ?_
        refine h_iaload (pc := 81) d_R_reach_81 h fun t6 h => ?_
        refine x_istore (pc := 82) (L' := [(0, .ref v0), (1, .int v1), (2, .int v2), (3, .int v3), (4, .int t6)]) d_R_reach_82 (by decide) rfl ?_
        refine x_iload (pc := 84) d_R_reach_84 4 rfl ?_
        refine x_iconst (pc := 86) d_R_reach_86 rfl ?_
        refine h_icmp_eq (pc := 87) 102 d_R_reach_87 (by decide) h (fun _ h => ?_) (fun _ h => ?_)
        · refine x_weak [0, 1, 2, 3, 4] rfl ?_
          exact p_R_reach_102 G hr32 hr40 ih _ _ _ _ _ _ h
        · refine x_iload (pc := 90) d_R_reach_90 4 rfl ?_
          refine x_iconst (pc := 92) d_R_reach_92 rfl ?_
          refine h_icmp_eq (pc := 93) 102 d_R_reach_93 (by decide) h (fun _ h => ?_) (fun _ h => ?_)
          · refine x_weak [0, 1, 2, 3, 4] rfl ?_
            exact p_R_reach_102 G hr32 hr40 ih _ _ _ _ _ _ h
          · refine x_iload (pc := 96) d_R_reach_96 4 rfl ?_
            refine x_iconst (pc := 98) d_R_reach_98 rfl ?_
            refine h_icmp_ne (pc := 99) 165 d_R_reach_99 (by decide) h (fun _ h => ?_) (fun _ h => ?_)
            · refine x_iinc (pc := 165) (n := 3) (L' := [(0, .ref v0), (1, .int v1), (2, .int v2), (3, .int (v3 + 1)), (4, .int t6)]) d_R_reach_165 (by decide) rfl rfl ?_
              refine x_goto (pc := 168) 52 d_R_reach_168 (by decide) ?_
              refine x_weak [0, 1, 2, 3] rfl ?_
              exact ih _ _ _ _ _ h
            · refine x_weak [0, 1, 2, 3, 4] rfl ?_
              exact p_R_reach_102 G hr32 hr40 ih _ _ _ _ _ _ h
theorem p_R_reach_40 (G : xG K) {r32 : Nat → Int32 → XM → XP} (hr32 : ∀ w0 w1 Q, r32 w0 w1 Q = some (o, N) → cA K y_R_reach 32 [(0, .ref w0), (1, .int w1)] [] Q o N) : ∀ (n : Nat) (v0 : Nat) (v1 : Int32) (v2 : Int32) (M : XM), g_R_reach_40 r32 n v0 v1 v2 M = some (o, N) → cA K y_R_reach 40 [(0, .ref v0), (1, .int v1), (2, .int v2)] [] M o N := by
  intro n
  induction n with
  | zero =>
    intro v0 v1 v2 M h
    rw [g_R_reach_40] at h
    cases h
  | succ n ih =>
    intro v0 v1 v2 M h
    rw [g_R_reach_40] at h
    refine x_iload_n (pc := 40) d_R_reach_40 rfl 2 rfl ?_
    refine x_aload_n (pc := 41) d_R_reach_41 rfl 0 rfl ?_
    refine h_getR G (pc := 42) (ci := 7) (j := 2) d_R_reach_42 rfl rfl rfl lf_R_13 h fun t1 h => ?_
    refine x_iconst (pc := 45) d_R_reach_45 rfl ?_
    refine h_iaload (pc := 46) d_R_reach_46 h fun t2 h => ?_
    refine h_icmp_ge (pc := 47) 177 d_R_reach_47 (by decide) h (fun _ h => ?_) (fun _ h => ?_)
    · refine x_goto (pc := 177) 32 d_R_reach_177 (by decide) ?_
      refine x_weak [0, 1] rfl ?_
      exact hr32 _ _ _ h
    · refine x_iconst (pc := 50) d_R_reach_50 rfl ?_
      refine x_istore_n (pc := 51) (L' := [(0, .ref v0), (1, .int v1), (2, .int v2), (3, .int 0)]) d_R_reach_51 rfl (by decide) rfl ?_
      refine x_weak [0, 1, 2, 3] rfl ?_
      exact p_R_reach_52 G hr32 ih FU _ _ _ _ _ h
theorem p_R_reach_32 (G : xG K) : ∀ (n : Nat) (v0 : Nat) (v1 : Int32) (M : XM), g_R_reach_32 n v0 v1 M = some (o, N) → cA K y_R_reach 32 [(0, .ref v0), (1, .int v1)] [] M o N := by
  intro n
  induction n with
  | zero =>
    intro v0 v1 M h
    rw [g_R_reach_32] at h
    cases h
  | succ n ih =>
    intro v0 v1 M h
    rw [g_R_reach_32] at h
    refine x_iload_n (pc := 32) d_R_reach_32 rfl 1 rfl ?_
    refine h_if_eq (pc := 33) 180 d_R_reach_33 (by decide) h (fun _ h => ?_) (fun _ h => ?_)
    · exact h_return (pc := 180) d_R_reach_180 rfl h
    · refine x_iconst (pc := 36) d_R_reach_36 rfl ?_
      refine x_istore_n (pc := 37) (L' := [(0, .ref v0), (1, .int 0)]) d_R_reach_37 rfl (by decide) rfl ?_
      refine x_iconst (pc := 38) d_R_reach_38 rfl ?_
      refine x_istore_n (pc := 39) (L' := [(0, .ref v0), (1, .int 0), (2, .int 0)]) d_R_reach_39 rfl (by decide) rfl ?_
      refine x_weak [0, 1, 2] rfl ?_
      exact p_R_reach_40 G ih FU _ _ _ _ h
theorem p_R_reach_2 (G : xG K) : ∀ (n : Nat) (v0 : Nat) (v1 : Int32) (M : XM), g_R_reach_2 n v0 v1 M = some (o, N) → cA K y_R_reach 2 [(0, .ref v0), (1, .int v1)] [] M o N := by
  intro n
  induction n with
  | zero =>
    intro v0 v1 M h
    rw [g_R_reach_2] at h
    cases h
  | succ n ih =>
    intro v0 v1 M h
    rw [g_R_reach_2] at h
    refine x_iload_n (pc := 2) d_R_reach_2 rfl 1 rfl ?_
    refine x_aload_n (pc := 3) d_R_reach_3 rfl 0 rfl ?_
    refine h_getR G (pc := 4) (ci := 7) (j := 2) d_R_reach_4 rfl rfl rfl lf_R_13 h fun t1 h => ?_
    refine x_iconst (pc := 7) d_R_reach_7 rfl ?_
    refine h_iaload (pc := 8) d_R_reach_8 h fun t2 h => ?_
    refine h_icmp_ge (pc := 9) 30 d_R_reach_9 (by decide) h (fun _ h => ?_) (fun _ h => ?_)
    · refine x_iconst (pc := 30) d_R_reach_30 rfl ?_
      refine x_istore_n (pc := 31) (L' := [(0, .ref v0), (1, .int 1)]) d_R_reach_31 rfl (by decide) rfl ?_
      refine x_weak [0, 1] rfl ?_
      exact p_R_reach_32 G FU _ _ _ h
    · refine x_aload_n (pc := 12) d_R_reach_12 rfl 0 rfl ?_
      refine h_getR G (pc := 13) (ci := 7) (j := 15) d_R_reach_13 rfl rfl rfl lf_R_53 h fun t3 h => ?_
      refine x_iload_n (pc := 16) d_R_reach_16 rfl 1 rfl ?_
      refine x_aload_n (pc := 17) d_R_reach_17 rfl 0 rfl ?_
      refine h_getR G (pc := 18) (ci := 7) (j := 11) d_R_reach_18 rfl rfl rfl lf_R_40 h fun t4 h => ?_
      refine x_iload_n (pc := 21) d_R_reach_21 rfl 1 rfl ?_
      refine h_baload (pc := 22) d_R_reach_22 h fun t5 h => ?_
      refine h_bastore G (pc := 23) d_R_reach_23 h fun M6 h => ?_
      refine x_iinc (pc := 24) (n := 1) (L' := [(0, .ref v0), (1, .int (v1 + 1))]) d_R_reach_24 (by decide) rfl rfl ?_
      refine x_goto (pc := 27) 2 d_R_reach_27 (by decide) ?_
      refine x_weak [0, 1] rfl ?_
      exact ih _ _ _ h
theorem p_R_reach (G : xG K) (v0 : Nat) (M : XM) (h : g_R_reach v0 M = some (o, N)) : Ct K y_R_reach [.ref v0] M o N := by
  refine ct_of (by decide) (List.forall_mem_cons.mpr ⟨rfl, fun _ q => absurd q List.not_mem_nil⟩) (Nat.le_of_ble_eq_true rfl) ?_
  show cA K y_R_reach 0 [(0, .ref v0)] [] M o N
  unfold g_R_reach at h
  refine x_iconst (pc := 0) d_R_reach_0 rfl ?_
  refine x_istore_n (pc := 1) (L' := [(0, .ref v0), (1, .int 0)]) d_R_reach_1 rfl (by decide) rfl ?_
  refine x_weak [0, 1] rfl ?_
  exact p_R_reach_2 G FU _ _ _ h
theorem p_R_usesPool (G : xG K) (v0 : Int32) (M : XM) (h : g_R_usesPool v0 M = some (o, N)) : Ct K y_R_usesPool [.int v0] M o N := by
  refine ct_of (by decide) (List.forall_mem_cons.mpr ⟨rfl, fun _ q => absurd q List.not_mem_nil⟩) (Nat.le_of_ble_eq_true rfl) ?_
  show cA K y_R_usesPool 0 [(0, .int v0)] [] M o N
  unfold g_R_usesPool at h
  refine x_iload_n (pc := 0) d_R_usesPool_0 rfl 0 rfl ?_
  refine h_if_eq (pc := 1) 19 d_R_usesPool_1 (by decide) h (fun _ h => ?_) (fun _ h => ?_)
  · refine x_iconst (pc := 19) d_R_usesPool_19 rfl ?_
    refine x_goto (pc := 20) 24 d_R_usesPool_20 (by decide) ?_
    exact h_zreturn (pc := 24) d_R_usesPool_24 rfl h
  · refine x_iload_n (pc := 4) d_R_usesPool_4 rfl 0 rfl ?_
    refine x_iconst (pc := 5) d_R_usesPool_5 rfl ?_
    refine h_icmp_eq (pc := 6) 19 d_R_usesPool_6 (by decide) h (fun _ h => ?_) (fun _ h => ?_)
    · refine x_iconst (pc := 19) d_R_usesPool_19 rfl ?_
      refine x_goto (pc := 20) 24 d_R_usesPool_20 (by decide) ?_
      exact h_zreturn (pc := 24) d_R_usesPool_24 rfl h
    · refine x_iload_n (pc := 9) d_R_usesPool_9 rfl 0 rfl ?_
      refine x_iconst (pc := 10) d_R_usesPool_10 rfl ?_
      refine h_icmp_eq (pc := 11) 19 d_R_usesPool_11 (by decide) h (fun _ h => ?_) (fun _ h => ?_)
      · refine x_iconst (pc := 19) d_R_usesPool_19 rfl ?_
        refine x_goto (pc := 20) 24 d_R_usesPool_20 (by decide) ?_
        exact h_zreturn (pc := 24) d_R_usesPool_24 rfl h
      · refine x_iload_n (pc := 14) d_R_usesPool_14 rfl 0 rfl ?_
        refine x_iconst (pc := 15) d_R_usesPool_15 rfl ?_
        refine h_icmp_ne (pc := 16) 23 d_R_usesPool_16 (by decide) h (fun _ h => ?_) (fun _ h => ?_)
        · refine x_iconst (pc := 23) d_R_usesPool_23 rfl ?_
          exact h_zreturn (pc := 24) d_R_usesPool_24 rfl h
        · refine x_iconst (pc := 19) d_R_usesPool_19 rfl ?_
          refine x_goto (pc := 20) 24 d_R_usesPool_20 (by decide) ?_
          exact h_zreturn (pc := 24) d_R_usesPool_24 rfl h
theorem p_R_markConstants_152 (G : xG K) {r136 : Nat → Int32 → XM → XP} (hr136 : ∀ w0 w1 Q, r136 w0 w1 Q = some (o, N) → cA K y_R_markConstants 136 [(0, .ref w0), (1, .int w1)] [] Q o N) : ∀ (n : Nat) (v0 : Nat) (v1 : Int32) (v2 : Int32) (M : XM), g_R_markConstants_152 r136 n v0 v1 v2 M = some (o, N) → cA K y_R_markConstants 152 [(0, .ref v0), (1, .int v1), (2, .int v2)] [] M o N := by
  intro n
  induction n with
  | zero =>
    intro v0 v1 v2 M h
    rw [g_R_markConstants_152] at h
    cases h
  | succ n ih =>
    intro v0 v1 v2 M h
    rw [g_R_markConstants_152] at h
    refine x_iload_n (pc := 152) d_R_markConstants_152 rfl 2 rfl ?_
    refine x_iconst (pc := 153) d_R_markConstants_153 rfl ?_
    refine x_iload_n (pc := 154) d_R_markConstants_154 rfl 1 rfl ?_
    refine h_callI G (x_siteS G (pc := 155) (y2 := y_R_base) (As := [.int 0, .int v1]) (S := [.int v2]) d_R_markConstants_155 lm_R_100 mi_R_base mw_R_base.2 mw_R_base.1 mx_R_base.1 mx_R_base.2 rfl) mw_R_base ⟨Nat.le_of_ble_eq_true rfl, Nat.le_of_ble_eq_true rfl⟩ rfl (fun _ _ e => p_R_base G _ _ _ e) h fun t2 M1 h => ?_
    refine x_aload_n (pc := 158) d_R_markConstants_158 rfl 0 rfl ?_
    refine h_getR G (pc := 159) (ci := 7) (j := 3) d_R_markConstants_159 rfl rfl rfl lf_R_16 h fun t3 h => ?_
    refine x_iload_n (pc := 162) d_R_markConstants_162 rfl 1 rfl ?_
    refine h_iaload (pc := 163) d_R_markConstants_163 h fun t4 h => ?_
    refine x_iadd (pc := 164) d_R_markConstants_164 ?_
    refine h_icmp_ge (pc := 165) 229 d_R_markConstants_165 (by decide) h (fun _ h => ?_) (fun _ h => ?_)
    · refine x_iinc (pc := 229) (n := 1) (L' := [(0, .ref v0), (1, .int (v1 + 1)), (2, .int v2)]) d_R_markConstants_229 (by decide) rfl rfl ?_
      refine x_goto (pc := 232) 136 d_R_markConstants_232 (by decide) ?_
      refine x_weak [0, 1] rfl ?_
      exact hr136 _ _ _ h
    · refine x_aload_n (pc := 168) d_R_markConstants_168 rfl 0 rfl ?_
      refine h_getR G (pc := 169) (ci := 7) (j := 17) d_R_markConstants_169 rfl rfl rfl lf_R_59 h fun t5 h => ?_
      refine x_iload_n (pc := 172) d_R_markConstants_172 rfl 2 rfl ?_
      refine h_baload (pc := 173) d_R_markConstants_173 h fun t6 h => ?_
      refine h_if_eq (pc := 174) 223 d_R_markConstants_174 (by decide) h (fun _ h => ?_) (fun _ h => ?_)
      · refine x_iinc (pc := 223) (n := 2) (L' := [(0, .ref v0), (1, .int v1), (2, .int (v2 + 1))]) d_R_markConstants_223 (by decide) rfl rfl ?_
        refine x_goto (pc := 226) 152 d_R_markConstants_226 (by decide) ?_
        refine x_weak [0, 1, 2] rfl ?_
        exact ih _ _ _ _ h
      · refine x_aload_n (pc := 177) d_R_markConstants_177 rfl 0 rfl ?_
        refine h_getR G (pc := 178) (ci := 7) (j := 4) d_R_markConstants_178 rfl rfl rfl lf_R_19 h fun t7 h => ?_
        refine x_iload_n (pc := 181) d_R_markConstants_181 rfl 2 rfl ?_
        refine h_iaload (pc := 182) d_R_markConstants_182 h fun t8 h => ?_
        refine x_iconst (pc := 183) d_R_markConstants_183 rfl ?_
        refine h_icmp_lt (pc := 184) 223 d_R_markConstants_184 (by decide) h (fun _ h => ?_) (fun _ h => ?_)
        · refine x_iinc (pc := 223) (n := 2) (L' := [(0, .ref v0), (1, .int v1), (2, .int (v2 + 1))]) d_R_markConstants_223 (by decide) rfl rfl ?_
          refine x_goto (pc := 226) 152 d_R_markConstants_226 (by decide) ?_
          refine x_weak [0, 1, 2] rfl ?_
          exact ih _ _ _ _ h
        · refine x_aload_n (pc := 187) d_R_markConstants_187 rfl 0 rfl ?_
          refine h_getR G (pc := 188) (ci := 7) (j := 17) d_R_markConstants_188 rfl rfl rfl lf_R_59 h fun t9 h => ?_
          refine x_iconst (pc := 191) d_R_markConstants_191 rfl ?_
          refine x_iload_n (pc := 192) d_R_markConstants_192 rfl 1 rfl ?_
          refine h_callI G (x_siteS G (pc := 193) (y2 := y_R_base) (As := [.int 0, .int v1]) (S := [.ref t9]) d_R_markConstants_193 lm_R_100 mi_R_base mw_R_base.2 mw_R_base.1 mx_R_base.1 mx_R_base.2 rfl) mw_R_base ⟨Nat.le_of_ble_eq_true rfl, Nat.le_of_ble_eq_true rfl⟩ rfl (fun _ _ e => p_R_base G _ _ _ e) h fun t11 M10 h => ?_
          refine x_aload_n (pc := 196) d_R_markConstants_196 rfl 0 rfl ?_
          refine h_getR G (pc := 197) (ci := 7) (j := 5) d_R_markConstants_197 rfl rfl rfl lf_R_22 h fun t12 h => ?_
          refine x_iload_n (pc := 200) d_R_markConstants_200 rfl 2 rfl ?_
          refine h_iaload (pc := 201) d_R_markConstants_201 h fun t13 h => ?_
          refine x_iadd (pc := 202) d_R_markConstants_202 ?_
          refine x_iconst (pc := 203) d_R_markConstants_203 rfl ?_
          refine h_bastore G (pc := 204) d_R_markConstants_204 h fun M14 h => ?_
          refine x_aload_n (pc := 205) d_R_markConstants_205 rfl 0 rfl ?_
          refine h_getR G (pc := 206) (ci := 7) (j := 17) d_R_markConstants_206 rfl rfl rfl lf_R_59 h fun t15 h => ?_
          refine x_iconst (pc := 209) d_R_markConstants_209 rfl ?_
          refine x_iload_n (pc := 210) d_R_markConstants_210 rfl 1 rfl ?_
          refine h_callI G (x_siteS G (pc := 211) (y2 := y_R_base) (As := [.int 0, .int v1]) (S := [.ref t15]) d_R_markConstants_211 lm_R_100 mi_R_base mw_R_base.2 mw_R_base.1 mx_R_base.1 mx_R_base.2 rfl) mw_R_base ⟨Nat.le_of_ble_eq_true rfl, Nat.le_of_ble_eq_true rfl⟩ rfl (fun _ _ e => p_R_base G _ _ _ e) h fun t17 M16 h => ?_
          refine x_aload_n (pc := 214) d_R_markConstants_214 rfl 0 rfl ?_
          refine h_getR G (pc := 215) (ci := 7) (j := 6) d_R_markConstants_215 rfl rfl rfl lf_R_25 h fun t18 h => ?_
          refine x_iload_n (pc := 218) d_R_markConstants_218 rfl 2 rfl ?_
          refine h_iaload (pc := 219) d_R_markConstants_219 h fun t19 h => ?_
          refine x_iadd (pc := 220) d_R_markConstants_220 ?_
          refine x_iconst (pc := 221) d_R_markConstants_221 rfl ?_
          refine h_bastore G (pc := 222) d_R_markConstants_222 h fun M20 h => ?_
          refine x_iinc (pc := 223) (n := 2) (L' := [(0, .ref v0), (1, .int v1), (2, .int (v2 + 1))]) d_R_markConstants_223 (by decide) rfl rfl ?_
          refine x_goto (pc := 226) 152 d_R_markConstants_226 (by decide) ?_
          refine x_weak [0, 1, 2] rfl ?_
          exact ih _ _ _ _ h
theorem p_R_markConstants_136 (G : xG K) : ∀ (n : Nat) (v0 : Nat) (v1 : Int32) (M : XM), g_R_markConstants_136 n v0 v1 M = some (o, N) → cA K y_R_markConstants 136 [(0, .ref v0), (1, .int v1)] [] M o N := by
  intro n
  induction n with
  | zero =>
    intro v0 v1 M h
    rw [g_R_markConstants_136] at h
    cases h
  | succ n ih =>
    intro v0 v1 M h
    rw [g_R_markConstants_136] at h
    refine x_iload_n (pc := 136) d_R_markConstants_136 rfl 1 rfl ?_
    refine x_aload_n (pc := 137) d_R_markConstants_137 rfl 0 rfl ?_
    refine h_getR G (pc := 138) (ci := 7) (j := 1) d_R_markConstants_138 rfl rfl rfl lf_R_7 h fun t1 h => ?_
    refine x_iconst (pc := 141) d_R_markConstants_141 rfl ?_
    refine h_iaload (pc := 142) d_R_markConstants_142 h fun t2 h => ?_
    refine h_icmp_ge (pc := 143) 235 d_R_markConstants_143 (by decide) h (fun _ h => ?_) (fun _ h => ?_)
    · exact h_return (pc := 235) d_R_markConstants_235 rfl h
    · refine x_iconst (pc := 146) d_R_markConstants_146 rfl ?_
      refine x_iload_n (pc := 147) d_R_markConstants_147 rfl 1 rfl ?_
      refine h_callI G (x_siteS G (pc := 148) (y2 := y_R_base) (As := [.int 0, .int v1]) (S := []) d_R_markConstants_148 lm_R_100 mi_R_base mw_R_base.2 mw_R_base.1 mx_R_base.1 mx_R_base.2 rfl) mw_R_base ⟨Nat.le_of_ble_eq_true rfl, Nat.le_of_ble_eq_true rfl⟩ rfl (fun _ _ e => p_R_base G _ _ _ e) h fun t4 M3 h => ?_
      refine x_istore_n (pc := 151) (L' := [(0, .ref v0), (1, .int v1), (2, .int t4)]) d_R_markConstants_151 rfl (by decide) rfl ?_
      refine x_weak [0, 1, 2] rfl ?_
      exact p_R_markConstants_152 G ih FU _ _ _ _ h
theorem p_R_markConstants_67 (G : xG K) {r23 : Nat → Int32 → XM → XP} (hr23 : ∀ w0 w1 Q, r23 w0 w1 Q = some (o, N) → cA K y_R_markConstants 23 [(0, .ref w0), (1, .int w1)] [] Q o N) : ∀ (n : Nat) (v0 : Nat) (v1 : Int32) (v2 : Int32) (M : XM), g_R_markConstants_67 r23 n v0 v1 v2 M = some (o, N) → cA K y_R_markConstants 67 [(0, .ref v0), (1, .int v1), (2, .int v2)] [] M o N := by
  intro n
  induction n with
  | zero =>
    intro v0 v1 v2 M h
    rw [g_R_markConstants_67] at h
    cases h
  | succ n ih =>
    intro v0 v1 v2 M h
    rw [g_R_markConstants_67] at h
    refine x_iload_n (pc := 67) d_R_markConstants_67 rfl 2 rfl ?_
    refine x_aload_n (pc := 68) d_R_markConstants_68 rfl 0 rfl ?_
    refine h_getR G (pc := 69) (ci := 7) (j := 10) d_R_markConstants_69 rfl rfl rfl lf_R_37 h fun t1 h => ?_
    refine x_iload_n (pc := 72) d_R_markConstants_72 rfl 1 rfl ?_
    refine h_iaload (pc := 73) d_R_markConstants_73 h fun t2 h => ?_
    refine h_icmp_ge (pc := 74) 128 d_R_markConstants_74 (by decide) h (fun _ h => ?_) (fun _ h => ?_)
    · refine x_iinc (pc := 128) (n := 1) (L' := [(0, .ref v0), (1, .int (v1 + 1)), (2, .int v2)]) d_R_markConstants_128 (by decide) rfl rfl ?_
      refine x_goto (pc := 131) 23 d_R_markConstants_131 (by decide) ?_
      refine x_weak [0, 1] rfl ?_
      exact hr23 _ _ _ h
    · refine x_aload_n (pc := 77) d_R_markConstants_77 rfl 0 rfl ?_
      refine h_getR G (pc := 78) (ci := 7) (j := 12) d_R_markConstants_78 rfl rfl rfl lf_R_44 h fun t3 h => ?_
      refine x_bipush (pc := 81) (v := 20) d_R_markConstants_81 (by decide) ?_
      refine x_iload_n (pc := 83) d_R_markConstants_83 rfl 1 rfl ?_
      refine x_imul (pc := 84) d_R_markConstants_84 ?_
      refine x_iload_n (pc := 85) d_R_markConstants_85 rfl 2 rfl ?_
      refine x_iadd (pc := 86) d_R_markConstants_86 ?_
      refine h_iaload (pc := 87) d_R_markConstants_87 h fun t4 h => ?_
      refine h_callI G (x_siteS G (pc := 88) (y2 := y_R_usesPool) (As := [.int t4]) (S := []) d_R_markConstants_88 lm_R_133 mi_R_usesPool mw_R_usesPool.2 mw_R_usesPool.1 mx_R_usesPool.1 mx_R_usesPool.2 rfl) mw_R_usesPool ⟨Nat.le_of_ble_eq_true rfl, Nat.le_of_ble_eq_true rfl⟩ rfl (fun _ _ e => p_R_usesPool G _ _ e) h fun t6 M5 h => ?_
      refine h_if_eq (pc := 91) 122 d_R_markConstants_91 (by decide) h (fun _ h => ?_) (fun _ h => ?_)
      · refine x_iinc (pc := 122) (n := 2) (L' := [(0, .ref v0), (1, .int v1), (2, .int (v2 + 1))]) d_R_markConstants_122 (by decide) rfl rfl ?_
        refine x_goto (pc := 125) 67 d_R_markConstants_125 (by decide) ?_
        refine x_weak [0, 1, 2] rfl ?_
        exact ih _ _ _ _ h
      · refine x_aload_n (pc := 94) d_R_markConstants_94 rfl 0 rfl ?_
        refine h_getR G (pc := 95) (ci := 7) (j := 17) d_R_markConstants_95 rfl rfl rfl lf_R_59 h fun t7 h => ?_
        refine x_iconst (pc := 98) d_R_markConstants_98 rfl ?_
        refine x_aload_n (pc := 99) d_R_markConstants_99 rfl 0 rfl ?_
        refine h_getR G (pc := 100) (ci := 7) (j := 7) d_R_markConstants_100 rfl rfl rfl lf_R_28 h fun t8 h => ?_
        refine x_iload_n (pc := 103) d_R_markConstants_103 rfl 1 rfl ?_
        refine h_iaload (pc := 104) d_R_markConstants_104 h fun t9 h => ?_
        refine h_callI G (x_siteS G (pc := 105) (y2 := y_R_base) (As := [.int 0, .int t9]) (S := [.ref t7]) d_R_markConstants_105 lm_R_100 mi_R_base mw_R_base.2 mw_R_base.1 mx_R_base.1 mx_R_base.2 rfl) mw_R_base ⟨Nat.le_of_ble_eq_true rfl, Nat.le_of_ble_eq_true rfl⟩ rfl (fun _ _ e => p_R_base G _ _ _ e) h fun t11 M10 h => ?_
        refine x_aload_n (pc := 108) d_R_markConstants_108 rfl 0 rfl ?_
        refine h_getR G (pc := 109) (ci := 7) (j := 13) d_R_markConstants_109 rfl rfl rfl lf_R_47 h fun t12 h => ?_
        refine x_bipush (pc := 112) (v := 20) d_R_markConstants_112 (by decide) ?_
        refine x_iload_n (pc := 114) d_R_markConstants_114 rfl 1 rfl ?_
        refine x_imul (pc := 115) d_R_markConstants_115 ?_
        refine x_iload_n (pc := 116) d_R_markConstants_116 rfl 2 rfl ?_
        refine x_iadd (pc := 117) d_R_markConstants_117 ?_
        refine h_iaload (pc := 118) d_R_markConstants_118 h fun t13 h => ?_
        refine x_iadd (pc := 119) d_R_markConstants_119 ?_
        refine x_iconst (pc := 120) d_R_markConstants_120 rfl ?_
        refine h_bastore G (pc := 121) d_R_markConstants_121 h fun M14 h => ?_
        refine x_iinc (pc := 122) (n := 2) (L' := [(0, .ref v0), (1, .int v1), (2, .int (v2 + 1))]) d_R_markConstants_122 (by decide) rfl rfl ?_
        refine x_goto (pc := 125) 67 d_R_markConstants_125 (by decide) ?_
        refine x_weak [0, 1, 2] rfl ?_
        exact ih _ _ _ _ h
theorem p_R_markConstants_23 (G : xG K) : ∀ (n : Nat) (v0 : Nat) (v1 : Int32) (M : XM), g_R_markConstants_23 n v0 v1 M = some (o, N) → cA K y_R_markConstants 23 [(0, .ref v0), (1, .int v1)] [] M o N := by
  intro n
  induction n with
  | zero =>
    intro v0 v1 M h
    rw [g_R_markConstants_23] at h
    cases h
  | succ n ih =>
    intro v0 v1 M h
    rw [g_R_markConstants_23] at h
    refine x_iload_n (pc := 23) d_R_markConstants_23 rfl 1 rfl ?_
    refine x_aload_n (pc := 24) d_R_markConstants_24 rfl 0 rfl ?_
    refine h_getR G (pc := 25) (ci := 7) (j := 2) d_R_markConstants_25 rfl rfl rfl lf_R_13 h fun t1 h => ?_
    refine x_iconst (pc := 28) d_R_markConstants_28 rfl ?_
    refine h_iaload (pc := 29) d_R_markConstants_29 h fun t2 h => ?_
    refine h_icmp_ge (pc := 30) 134 d_R_markConstants_30 (by decide) h (fun _ h => ?_) (fun _ h => ?_)
    · refine x_iconst (pc := 134) d_R_markConstants_134 rfl ?_
      refine x_istore_n (pc := 135) (L' := [(0, .ref v0), (1, .int 0)]) d_R_markConstants_135 rfl (by decide) rfl ?_
      refine x_weak [0, 1] rfl ?_
      exact p_R_markConstants_136 G FU _ _ _ h
    · refine x_aload_n (pc := 33) d_R_markConstants_33 rfl 0 rfl ?_
      refine h_getR G (pc := 34) (ci := 7) (j := 15) d_R_markConstants_34 rfl rfl rfl lf_R_53 h fun t3 h => ?_
      refine x_iload_n (pc := 37) d_R_markConstants_37 rfl 1 rfl ?_
      refine h_baload (pc := 38) d_R_markConstants_38 h fun t4 h => ?_
      refine h_if_eq (pc := 39) 128 d_R_markConstants_39 (by decide) h (fun _ h => ?_) (fun _ h => ?_)
      · refine x_iinc (pc := 128) (n := 1) (L' := [(0, .ref v0), (1, .int (v1 + 1))]) d_R_markConstants_128 (by decide) rfl rfl ?_
        refine x_goto (pc := 131) 23 d_R_markConstants_131 (by decide) ?_
        refine x_weak [0, 1] rfl ?_
        exact ih _ _ _ h
      · refine x_aload_n (pc := 42) d_R_markConstants_42 rfl 0 rfl ?_
        refine h_getR G (pc := 43) (ci := 7) (j := 17) d_R_markConstants_43 rfl rfl rfl lf_R_59 h fun t5 h => ?_
        refine x_iconst (pc := 46) d_R_markConstants_46 rfl ?_
        refine x_aload_n (pc := 47) d_R_markConstants_47 rfl 0 rfl ?_
        refine h_getR G (pc := 48) (ci := 7) (j := 7) d_R_markConstants_48 rfl rfl rfl lf_R_28 h fun t6 h => ?_
        refine x_iload_n (pc := 51) d_R_markConstants_51 rfl 1 rfl ?_
        refine h_iaload (pc := 52) d_R_markConstants_52 h fun t7 h => ?_
        refine h_callI G (x_siteS G (pc := 53) (y2 := y_R_base) (As := [.int 0, .int t7]) (S := [.ref t5]) d_R_markConstants_53 lm_R_100 mi_R_base mw_R_base.2 mw_R_base.1 mx_R_base.1 mx_R_base.2 rfl) mw_R_base ⟨Nat.le_of_ble_eq_true rfl, Nat.le_of_ble_eq_true rfl⟩ rfl (fun _ _ e => p_R_base G _ _ _ e) h fun t9 M8 h => ?_
        refine x_aload_n (pc := 56) d_R_markConstants_56 rfl 0 rfl ?_
        refine h_getR G (pc := 57) (ci := 7) (j := 8) d_R_markConstants_57 rfl rfl rfl lf_R_31 h fun t10 h => ?_
        refine x_iload_n (pc := 60) d_R_markConstants_60 rfl 1 rfl ?_
        refine h_iaload (pc := 61) d_R_markConstants_61 h fun t11 h => ?_
        refine x_iadd (pc := 62) d_R_markConstants_62 ?_
        refine x_iconst (pc := 63) d_R_markConstants_63 rfl ?_
        refine h_bastore G (pc := 64) d_R_markConstants_64 h fun M12 h => ?_
        refine x_iconst (pc := 65) d_R_markConstants_65 rfl ?_
        refine x_istore_n (pc := 66) (L' := [(0, .ref v0), (1, .int v1), (2, .int 0)]) d_R_markConstants_66 rfl (by decide) rfl ?_
        refine x_weak [0, 1, 2] rfl ?_
        exact p_R_markConstants_67 G ih FU _ _ _ _ h
theorem p_R_markConstants_2 (G : xG K) : ∀ (n : Nat) (v0 : Nat) (v1 : Int32) (M : XM), g_R_markConstants_2 n v0 v1 M = some (o, N) → cA K y_R_markConstants 2 [(0, .ref v0), (1, .int v1)] [] M o N := by
  intro n
  induction n with
  | zero =>
    intro v0 v1 M h
    rw [g_R_markConstants_2] at h
    cases h
  | succ n ih =>
    intro v0 v1 M h
    rw [g_R_markConstants_2] at h
    refine x_iload_n (pc := 2) d_R_markConstants_2 rfl 1 rfl ?_
    refine x_bipush (pc := 3) (v := 120) d_R_markConstants_3 (by decide) ?_
    refine h_icmp_ge (pc := 5) 21 d_R_markConstants_5 (by decide) h (fun _ h => ?_) (fun _ h => ?_)
    · refine x_iconst (pc := 21) d_R_markConstants_21 rfl ?_
      refine x_istore_n (pc := 22) (L' := [(0, .ref v0), (1, .int 0)]) d_R_markConstants_22 rfl (by decide) rfl ?_
      refine x_weak [0, 1] rfl ?_
      exact p_R_markConstants_23 G FU _ _ _ h
    · refine x_aload_n (pc := 8) d_R_markConstants_8 rfl 0 rfl ?_
      refine h_getR G (pc := 9) (ci := 7) (j := 17) d_R_markConstants_9 rfl rfl rfl lf_R_59 h fun t1 h => ?_
      refine x_iload_n (pc := 12) d_R_markConstants_12 rfl 1 rfl ?_
      refine x_iconst (pc := 13) d_R_markConstants_13 rfl ?_
      refine h_bastore G (pc := 14) d_R_markConstants_14 h fun M2 h => ?_
      refine x_iinc (pc := 15) (n := 1) (L' := [(0, .ref v0), (1, .int (v1 + 1))]) d_R_markConstants_15 (by decide) rfl rfl ?_
      refine x_goto (pc := 18) 2 d_R_markConstants_18 (by decide) ?_
      refine x_weak [0, 1] rfl ?_
      exact ih _ _ _ h
theorem p_R_markConstants (G : xG K) (v0 : Nat) (M : XM) (h : g_R_markConstants v0 M = some (o, N)) : Ct K y_R_markConstants [.ref v0] M o N := by
  refine ct_of (by decide) (List.forall_mem_cons.mpr ⟨rfl, fun _ q => absurd q List.not_mem_nil⟩) (Nat.le_of_ble_eq_true rfl) ?_
  show cA K y_R_markConstants 0 [(0, .ref v0)] [] M o N
  unfold g_R_markConstants at h
  refine x_iconst (pc := 0) d_R_markConstants_0 rfl ?_
  refine x_istore_n (pc := 1) (L' := [(0, .ref v0), (1, .int 0)]) d_R_markConstants_1 rfl (by decide) rfl ?_
  refine x_weak [0, 1] rfl ?_
  exact p_R_markConstants_2 G FU _ _ _ h
theorem p_R_numberAll_167 (G : xG K) {r67 : Nat → Int32 → Int32 → XM → XP} (hr67 : ∀ w0 w1 w2 Q, r67 w0 w1 w2 Q = some (o, N) → cA K y_R_numberAll 67 [(0, .ref w0), (1, .int w1), (2, .int w2)] [] Q o N) : ∀ (n : Nat) (v0 : Nat) (v1 : Int32) (v2 : Int32) (v4 : Int32) (v5 : Int32) (M : XM), g_R_numberAll_167 r67 n v0 v1 v2 v4 v5 M = some (o, N) → cA K y_R_numberAll 167 [(0, .ref v0), (1, .int v1), (2, .int v2), (4, .int v4), (5, .int v5)] [] M o N := by
  intro n
  induction n with
  | zero =>
    intro v0 v1 v2 v4 v5 M h
    rw [g_R_numberAll_167] at h
    cases h
  | succ n ih =>
    intro v0 v1 v2 v4 v5 M h
    rw [g_R_numberAll_167] at h
    refine x_iload (pc := 167) d_R_numberAll_167 4 rfl ?_
    refine x_iconst (pc := 169) d_R_numberAll_169 rfl ?_
    refine x_iload_n (pc := 170) d_R_numberAll_170 rfl 2 rfl ?_
    refine h_callI G (x_siteS G (pc := 171) (y2 := y_R_base) (As := [.int 0, .int v2]) (S := [.int v5]) d_R_numberAll_171 lm_R_100 mi_R_base mw_R_base.2 mw_R_base.1 mx_R_base.1 mx_R_base.2 rfl) mw_R_base ⟨Nat.le_of_ble_eq_true rfl, Nat.le_of_ble_eq_true rfl⟩ rfl (fun _ _ e => p_R_base G _ _ _ e) h fun t2 M1 h => ?_
    refine x_aload_n (pc := 174) d_R_numberAll_174 rfl 0 rfl ?_
    refine h_getR G (pc := 175) (ci := 7) (j := 3) d_R_numberAll_175 rfl rfl rfl lf_R_16 h fun t3 h => ?_
    refine x_iload_n (pc := 178) d_R_numberAll_178 rfl 2 rfl ?_
    refine h_iaload (pc := 179) d_R_numberAll_179 h fun t4 h => ?_
    refine x_iadd (pc := 180) d_R_numberAll_180 ?_
    refine h_icmp_ge (pc := 181) 220 d_R_numberAll_181 (by decide) h (fun _ h => ?_) (fun _ h => ?_)
    · refine x_iinc (pc := 220) (n := 2) (L' := [(0, .ref v0), (1, .int v1), (2, .int (v2 + 1)), (4, .int v4), (5, .int v5)]) d_R_numberAll_220 (by decide) rfl rfl ?_
      refine x_goto (pc := 223) 67 d_R_numberAll_223 (by decide) ?_
      refine x_weak [0, 1, 2] rfl ?_
      exact hr67 _ _ _ _ h
    · refine x_aload_n (pc := 184) d_R_numberAll_184 rfl 0 rfl ?_
      refine h_getR G (pc := 185) (ci := 7) (j := 18) d_R_numberAll_185 rfl rfl rfl lf_R_62 h fun t5 h => ?_
      refine x_iload (pc := 188) d_R_numberAll_188 4 rfl ?_
      refine x_iload (pc := 190) d_R_numberAll_190 3 rfl ?_
      refine h_iastore G (pc := 192) d_R_numberAll_192 h fun M6 h => ?_
      refine x_aload_n (pc := 193) d_R_numberAll_193 rfl 0 rfl ?_
      refine h_getR G (pc := 194) (ci := 7) (j := 17) d_R_numberAll_194 rfl rfl rfl lf_R_59 h fun t7 h => ?_
      refine x_iload (pc := 197) d_R_numberAll_197 4 rfl ?_
      refine h_baload (pc := 199) d_R_numberAll_199 h fun t8 h => ?_
      refine h_if_eq (pc := 200) 210 d_R_numberAll_200 (by decide) h (fun _ h => ?_) (fun _ h => ?_)
      · refine x_iload (pc := 210) d_R_numberAll_210 3 rfl ?_
        refine x_istore (pc := 212) (L' := [(0, .ref v0), (1, .int v1), (2, .int v2), (4, .int v4), (5, .int v5)]) d_R_numberAll_212 (by decide) rfl ?_
        refine x_iinc (pc := 214) (n := 4) (L' := [(0, .ref v0), (1, .int v1), (2, .int v2), (4, .int v4), (5, .int (v5 + 1))]) d_R_numberAll_214 (by decide) rfl rfl ?_
        refine x_goto (pc := 217) 167 d_R_numberAll_217 (by decide) ?_
        refine x_weak [0, 1, 2, 3, 4] rfl ?_
        exact ih _ _ _ _ _ _ h
      · refine x_iload (pc := 203) d_R_numberAll_203 3 rfl ?_
        refine x_iconst (pc := 205) d_R_numberAll_205 rfl ?_
        refine x_iadd (pc := 206) d_R_numberAll_206 ?_
        refine x_goto (pc := 207) 212 d_R_numberAll_207 (by decide) ?_
        refine x_istore (pc := 212) (L' := [(0, .ref v0), (1, .int v1), (2, .int v2), (4, .int (v4 + 1)), (5, .int v5)]) d_R_numberAll_212 (by decide) rfl ?_
        refine x_iinc (pc := 214) (n := 4) (L' := [(0, .ref v0), (1, .int v1), (2, .int v2), (4, .int (v4 + 1)), (5, .int (v5 + 1))]) d_R_numberAll_214 (by decide) rfl rfl ?_
        refine x_goto (pc := 217) 167 d_R_numberAll_217 (by decide) ?_
        refine x_weak [0, 1, 2, 3, 4] rfl ?_
        exact ih _ _ _ _ _ _ h
theorem p_R_numberAll_156 (G : xG K) {r67 : Nat → Int32 → Int32 → XM → XP} (hr67 : ∀ w0 w1 w2 Q, r67 w0 w1 w2 Q = some (o, N) → cA K y_R_numberAll 67 [(0, .ref w0), (1, .int w1), (2, .int w2)] [] Q o N) (v0 : Nat) (v2 : Int32) (s0 : Int32) (M : XM) (h : g_R_numberAll_156 r67 v0 v2 s0 M = some (o, N)) : cA K y_R_numberAll 156 [(0, .ref v0), (2, .int v2)] [.int s0] M o N := by
  unfold g_R_numberAll_156 at h
  refine x_istore_n (pc := 156) (L' := [(0, .ref v0), (1, .int s0), (2, .int v2)]) d_R_numberAll_156 rfl (by decide) rfl ?_
  refine x_iconst (pc := 157) d_R_numberAll_157 rfl ?_
  refine x_istore (pc := 158) (L' := [(0, .ref v0), (1, .int s0), (2, .int v2), (4, .int 0)]) d_R_numberAll_158 (by decide) rfl ?_
  refine x_iconst (pc := 160) d_R_numberAll_160 rfl ?_
  refine x_iload_n (pc := 161) d_R_numberAll_161 rfl 2 rfl ?_
  refine h_callI G (x_siteS G (pc := 162) (y2 := y_R_base) (As := [.int 0, .int v2]) (S := []) d_R_numberAll_162 lm_R_100 mi_R_base mw_R_base.2 mw_R_base.1 mx_R_base.1 mx_R_base.2 rfl) mw_R_base ⟨Nat.le_of_ble_eq_true rfl, Nat.le_of_ble_eq_true rfl⟩ rfl (fun _ _ e => p_R_base G _ _ _ e) h fun t2 M1 h => ?_
  refine x_istore (pc := 165) (L' := [(0, .ref v0), (1, .int s0), (2, .int v2), (4, .int 0), (5, .int t2)]) d_R_numberAll_165 (by decide) rfl ?_
  refine x_weak [0, 1, 2, 3, 4] rfl ?_
  exact p_R_numberAll_167 G hr67 FU _ _ _ _ _ _ h
theorem p_R_numberAll_144 (G : xG K) {r67 : Nat → Int32 → Int32 → XM → XP} (hr67 : ∀ w0 w1 w2 Q, r67 w0 w1 w2 Q = some (o, N) → cA K y_R_numberAll 67 [(0, .ref w0), (1, .int w1), (2, .int w2)] [] Q o N) (v0 : Nat) (v1 : Int32) (v2 : Int32) (v3 : Int32) (s0 : Nat) (s1 : Int32) (s2 : Int32) (M : XM) (h : g_R_numberAll_144 r67 v0 v1 v2 v3 s0 s1 s2 M = some (o, N)) : cA K y_R_numberAll 144 [(0, .ref v0), (1, .int v1), (2, .int v2), (3, .int v3)] [.int s2, .int s1, .ref s0] M o N := by
  unfold g_R_numberAll_144 at h
  refine h_iastore G (pc := 144) d_R_numberAll_144 h fun M1 h => ?_
  refine x_iload_n (pc := 145) d_R_numberAll_145 rfl 3 rfl ?_
  refine h_if_eq (pc := 146) 155 d_R_numberAll_146 (by decide) h (fun _ h => ?_) (fun _ h => ?_)
  · refine x_iload_n (pc := 155) d_R_numberAll_155 rfl 1 rfl ?_
    refine x_weak [0, 2] rfl ?_
    exact p_R_numberAll_156 G hr67 _ _ _ _ h
  · refine x_iload_n (pc := 149) d_R_numberAll_149 rfl 1 rfl ?_
    refine x_iconst (pc := 150) d_R_numberAll_150 rfl ?_
    refine x_iadd (pc := 151) d_R_numberAll_151 ?_
    refine x_goto (pc := 152) 156 d_R_numberAll_152 (by decide) ?_
    refine x_weak [0, 2] rfl ?_
    exact p_R_numberAll_156 G hr67 _ _ _ _ h
theorem p_R_numberAll_82 (G : xG K) {r67 : Nat → Int32 → Int32 → XM → XP} (hr67 : ∀ w0 w1 w2 Q, r67 w0 w1 w2 Q = some (o, N) → cA K y_R_numberAll 67 [(0, .ref w0), (1, .int w1), (2, .int w2)] [] Q o N) : ∀ (n : Nat) (v0 : Nat) (v1 : Int32) (v2 : Int32) (v3 : Int32) (v4 : Int32) (M : XM), g_R_numberAll_82 r67 n v0 v1 v2 v3 v4 M = some (o, N) → cA K y_R_numberAll 82 [(0, .ref v0), (1, .int v1), (2, .int v2), (3, .int v3), (4, .int v4)] [] M o N := by
  intro n
  induction n with
  | zero =>
    intro v0 v1 v2 v3 v4 M h
    rw [g_R_numberAll_82] at h
    cases h
  | succ n ih =>
    intro v0 v1 v2 v3 v4 M h
    rw [g_R_numberAll_82] at h
    refine x_iload (pc := 82) d_R_numberAll_82 4 rfl ?_
    refine x_aload_n (pc := 84) d_R_numberAll_84 rfl 0 rfl ?_
    refine h_getR G (pc := 85) (ci := 7) (j := 2) d_R_numberAll_85 rfl rfl rfl lf_R_13 h fun t1 h => ?_
    refine x_iconst (pc := 88) d_R_numberAll_88 rfl ?_
    refine h_iaload (pc := 89) d_R_numberAll_89 h fun t2 h => ?_
    refine h_icmp_ge (pc := 90) 130 d_R_numberAll_90 (by decide) h (fun _ h => ?_) (fun _ h => ?_)
    · refine x_aload_n (pc := 130) d_R_numberAll_130 rfl 0 rfl ?_
      refine h_getR G (pc := 131) (ci := 7) (j := 16) d_R_numberAll_131 rfl rfl rfl lf_R_56 h fun t3 h => ?_
      refine x_iload_n (pc := 134) d_R_numberAll_134 rfl 2 rfl ?_
      refine x_iload_n (pc := 135) d_R_numberAll_135 rfl 3 rfl ?_
      refine h_if_eq (pc := 136) 143 d_R_numberAll_136 (by decide) h (fun _ h => ?_) (fun _ h => ?_)
      · refine x_iconst (pc := 143) d_R_numberAll_143 rfl ?_
        refine x_weak [0, 1, 2, 3] rfl ?_
        exact p_R_numberAll_144 G hr67 _ _ _ _ _ _ _ _ h
      · refine x_iload_n (pc := 139) d_R_numberAll_139 rfl 1 rfl ?_
        refine x_goto (pc := 140) 144 d_R_numberAll_140 (by decide) ?_
        refine x_weak [0, 1, 2, 3] rfl ?_
        exact p_R_numberAll_144 G hr67 _ _ _ _ _ _ _ _ h
    · refine x_iload_n (pc := 93) d_R_numberAll_93 rfl 3 rfl ?_
      refine h_if_ne (pc := 94) 118 d_R_numberAll_94 (by decide) h (fun _ h => ?_) (fun _ h => ?_)
      · refine x_iconst (pc := 118) d_R_numberAll_118 rfl ?_
        refine x_goto (pc := 119) 123 d_R_numberAll_119 (by decide) ?_
        refine x_istore_n (pc := 123) (L' := [(0, .ref v0), (1, .int v1), (2, .int v2), (3, .int 1), (4, .int v4)]) d_R_numberAll_123 rfl (by decide) rfl ?_
        refine x_iinc (pc := 124) (n := 4) (L' := [(0, .ref v0), (1, .int v1), (2, .int v2), (3, .int 1), (4, .int (v4 + 1))]) d_R_numberAll_124 (by decide) rfl rfl ?_
        refine x_goto (pc := 127) 82 d_R_numberAll_127 (by decide) ?_
        refine x_weak [0, 1, 2, 3, 4] rfl ?_
        exact ih _ _ _ _ _ _ h
      · refine x_aload_n (pc := 97) d_R_numberAll_97 rfl 0 rfl ?_
        refine h_getR G (pc := 98) (ci := 7) (j := 15) d_R_numberAll_98 rfl rfl rfl lf_R_53 h fun t4 h => ?_
        refine x_iload (pc := 101) d_R_numberAll_101 4 rfl ?_
        refine h_baload (pc := 103) d_R_numberAll_103 h fun t5 h => ?_
        refine h_if_eq (pc := 104) 122 d_R_numberAll_104 (by decide) h (fun _ h => ?_) (fun _ h => ?_)
        · refine x_iconst (pc := 122) d_R_numberAll_122 rfl ?_
          refine x_istore_n (pc := 123) (L' := [(0, .ref v0), (1, .int v1), (2, .int v2), (3, .int 0), (4, .int v4)]) d_R_numberAll_123 rfl (by decide) rfl ?_
          refine x_iinc (pc := 124) (n := 4) (L' := [(0, .ref v0), (1, .int v1), (2, .int v2), (3, .int 0), (4, .int (v4 + 1))]) d_R_numberAll_124 (by decide) rfl rfl ?_
          refine x_goto (pc := 127) 82 d_R_numberAll_127 (by decide) ?_
          refine x_weak [0, 1, 2, 3, 4] rfl ?_
          exact ih _ _ _ _ _ _ h
        · refine x_aload_n (pc := 107) d_R_numberAll_107 rfl 0 rfl ?_
          refine h_getR G (pc := 108) (ci := 7) (j := 7) d_R_numberAll_108 rfl rfl rfl lf_R_28 h fun t6 h => ?_
          refine x_iload (pc := 111) d_R_numberAll_111 4 rfl ?_
          refine h_iaload (pc := 113) d_R_numberAll_113 h fun t7 h => ?_
          refine x_iload_n (pc := 114) d_R_numberAll_114 rfl 2 rfl ?_
          refine h_icmp_ne (pc := 115) 122 d_R_numberAll_115 (by decide) h (fun _ h => ?_) (fun _ h => ?_)
          · refine x_iconst (pc := 122) d_R_numberAll_122 rfl ?_
            refine x_istore_n (pc := 123) (L' := [(0, .ref v0), (1, .int v1), (2, .int v2), (3, .int 0), (4, .int v4)]) d_R_numberAll_123 rfl (by decide) rfl ?_
            refine x_iinc (pc := 124) (n := 4) (L' := [(0, .ref v0), (1, .int v1), (2, .int v2), (3, .int 0), (4, .int (v4 + 1))]) d_R_numberAll_124 (by decide) rfl rfl ?_
            refine x_goto (pc := 127) 82 d_R_numberAll_127 (by decide) ?_
            refine x_weak [0, 1, 2, 3, 4] rfl ?_
            exact ih _ _ _ _ _ _ h
          · refine x_iconst (pc := 118) d_R_numberAll_118 rfl ?_
            refine x_goto (pc := 119) 123 d_R_numberAll_119 (by decide) ?_
            refine x_istore_n (pc := 123) (L' := [(0, .ref v0), (1, .int v1), (2, .int v2), (3, .int 1), (4, .int v4)]) d_R_numberAll_123 rfl (by decide) rfl ?_
            refine x_iinc (pc := 124) (n := 4) (L' := [(0, .ref v0), (1, .int v1), (2, .int v2), (3, .int 1), (4, .int (v4 + 1))]) d_R_numberAll_124 (by decide) rfl rfl ?_
            refine x_goto (pc := 127) 82 d_R_numberAll_127 (by decide) ?_
            refine x_weak [0, 1, 2, 3, 4] rfl ?_
            exact ih _ _ _ _ _ _ h
theorem p_R_numberAll_67 (G : xG K) : ∀ (n : Nat) (v0 : Nat) (v1 : Int32) (v2 : Int32) (M : XM), g_R_numberAll_67 n v0 v1 v2 M = some (o, N) → cA K y_R_numberAll 67 [(0, .ref v0), (1, .int v1), (2, .int v2)] [] M o N := by
  intro n
  induction n with
  | zero =>
    intro v0 v1 v2 M h
    rw [g_R_numberAll_67] at h
    cases h
  | succ n ih =>
    intro v0 v1 v2 M h
    rw [g_R_numberAll_67] at h
    refine x_iload_n (pc := 67) d_R_numberAll_67 rfl 2 rfl ?_
    refine x_aload_n (pc := 68) d_R_numberAll_68 rfl 0 rfl ?_
    refine h_getR G (pc := 69) (ci := 7) (j := 1) d_R_numberAll_69 rfl rfl rfl lf_R_7 h fun t1 h => ?_
    refine x_iconst (pc := 72) d_R_numberAll_72 rfl ?_
    refine h_iaload (pc := 73) d_R_numberAll_73 h fun t2 h => ?_
    refine h_icmp_ge (pc := 74) 226 d_R_numberAll_74 (by decide) h (fun _ h => ?_) (fun _ h => ?_)
    · exact h_return (pc := 226) d_R_numberAll_226 rfl h
    · refine x_iconst (pc := 77) d_R_numberAll_77 rfl ?_
      refine x_istore_n (pc := 78) (L' := [(0, .ref v0), (1, .int v1), (2, .int v2), (3, .int 0)]) d_R_numberAll_78 rfl (by decide) rfl ?_
      refine x_iconst (pc := 79) d_R_numberAll_79 rfl ?_
      refine x_istore (pc := 80) (L' := [(0, .ref v0), (1, .int v1), (2, .int v2), (3, .int 0), (4, .int 0)]) d_R_numberAll_80 (by decide) rfl ?_
      refine x_weak [0, 1, 2, 3, 4] rfl ?_
      exact p_R_numberAll_82 G ih FU _ _ _ _ _ _ h
theorem p_R_numberAll_39 (G : xG K) {r4 : Nat → Int32 → Int32 → XM → XP} (hr4 : ∀ w0 w1 w2 Q, r4 w0 w1 w2 Q = some (o, N) → cA K y_R_numberAll 4 [(0, .ref w0), (1, .int w1), (2, .int w2)] [] Q o N) (v0 : Nat) (v1 : Int32) (v2 : Int32) (s0 : Nat) (s1 : Int32) (s2 : Int32) (M : XM) (h : g_R_numberAll_39 r4 v0 v1 v2 s0 s1 s2 M = some (o, N)) : cA K y_R_numberAll 39 [(0, .ref v0), (1, .int v1), (2, .int v2)] [.int s2, .int s1, .ref s0] M o N := by
  unfold g_R_numberAll_39 at h
  refine h_iastore G (pc := 39) d_R_numberAll_39 h fun M1 h => ?_
  refine x_aload_n (pc := 40) d_R_numberAll_40 rfl 0 rfl ?_
  refine h_getR G (pc := 41) (ci := 7) (j := 14) d_R_numberAll_41 rfl rfl rfl lf_R_50 h fun t2 h => ?_
  refine x_iload_n (pc := 44) d_R_numberAll_44 rfl 2 rfl ?_
  refine h_iaload (pc := 45) d_R_numberAll_45 h fun t3 h => ?_
  refine h_if_lt (pc := 46) 55 d_R_numberAll_46 (by decide) h (fun _ h => ?_) (fun _ h => ?_)
  · refine x_iload_n (pc := 55) d_R_numberAll_55 rfl 1 rfl ?_
    refine x_istore_n (pc := 56) (L' := [(0, .ref v0), (1, .int v1), (2, .int v2)]) d_R_numberAll_56 rfl (by decide) rfl ?_
    refine x_iinc (pc := 57) (n := 2) (L' := [(0, .ref v0), (1, .int v1), (2, .int (v2 + 1))]) d_R_numberAll_57 (by decide) rfl rfl ?_
    refine x_goto (pc := 60) 4 d_R_numberAll_60 (by decide) ?_
    refine x_weak [0, 1, 2] rfl ?_
    exact hr4 _ _ _ _ h
  · refine x_iload_n (pc := 49) d_R_numberAll_49 rfl 1 rfl ?_
    refine x_iconst (pc := 50) d_R_numberAll_50 rfl ?_
    refine x_iadd (pc := 51) d_R_numberAll_51 ?_
    refine x_goto (pc := 52) 56 d_R_numberAll_52 (by decide) ?_
    refine x_istore_n (pc := 56) (L' := [(0, .ref v0), (1, .int (v1 + 1)), (2, .int v2)]) d_R_numberAll_56 rfl (by decide) rfl ?_
    refine x_iinc (pc := 57) (n := 2) (L' := [(0, .ref v0), (1, .int (v1 + 1)), (2, .int (v2 + 1))]) d_R_numberAll_57 (by decide) rfl rfl ?_
    refine x_goto (pc := 60) 4 d_R_numberAll_60 (by decide) ?_
    refine x_weak [0, 1, 2] rfl ?_
    exact hr4 _ _ _ _ h
theorem p_R_numberAll_38 (G : xG K) {r4 : Nat → Int32 → Int32 → XM → XP} (hr4 : ∀ w0 w1 w2 Q, r4 w0 w1 w2 Q = some (o, N) → cA K y_R_numberAll 4 [(0, .ref w0), (1, .int w1), (2, .int w2)] [] Q o N) (v0 : Nat) (v1 : Int32) (v2 : Int32) (s0 : Nat) (s1 : Int32) (M : XM) (h : g_R_numberAll_38 r4 v0 v1 v2 s0 s1 M = some (o, N)) : cA K y_R_numberAll 38 [(0, .ref v0), (1, .int v1), (2, .int v2)] [.int s1, .ref s0] M o N := by
  unfold g_R_numberAll_38 at h
  refine x_iconst (pc := 38) d_R_numberAll_38 rfl ?_
  refine x_weak [0, 1, 2] rfl ?_
  exact p_R_numberAll_39 G hr4 _ _ _ _ _ _ _ h
theorem p_R_numberAll_4 (G : xG K) : ∀ (n : Nat) (v0 : Nat) (v1 : Int32) (v2 : Int32) (M : XM), g_R_numberAll_4 n v0 v1 v2 M = some (o, N) → cA K y_R_numberAll 4 [(0, .ref v0), (1, .int v1), (2, .int v2)] [] M o N := by
  intro n
  induction n with
  | zero =>
    intro v0 v1 v2 M h
    rw [g_R_numberAll_4] at h
    cases h
  | succ n ih =>
    intro v0 v1 v2 M h
    rw [g_R_numberAll_4] at h
    refine x_iload_n (pc := 4) d_R_numberAll_4 rfl 2 rfl ?_
    refine x_bipush (pc := 5) (v := 30) d_R_numberAll_5 (by decide) ?_
    refine h_icmp_ge (pc := 7) 63 d_R_numberAll_7 (by decide) h (fun _ h => ?_) (fun _ h => ?_)
    · refine x_iconst (pc := 63) d_R_numberAll_63 rfl ?_
      refine x_istore_n (pc := 64) (L' := [(0, .ref v0), (1, .int 0), (2, .int v2)]) d_R_numberAll_64 rfl (by decide) rfl ?_
      refine x_iconst (pc := 65) d_R_numberAll_65 rfl ?_
      refine x_istore_n (pc := 66) (L' := [(0, .ref v0), (1, .int 0), (2, .int 0)]) d_R_numberAll_66 rfl (by decide) rfl ?_
      refine x_weak [0, 1, 2] rfl ?_
      exact p_R_numberAll_67 G FU _ _ _ _ h
    · refine x_aload_n (pc := 10) d_R_numberAll_10 rfl 0 rfl ?_
      refine h_getR G (pc := 11) (ci := 7) (j := 14) d_R_numberAll_11 rfl rfl rfl lf_R_50 h fun t1 h => ?_
      refine x_iload_n (pc := 14) d_R_numberAll_14 rfl 2 rfl ?_
      refine x_iload_n (pc := 15) d_R_numberAll_15 rfl 2 rfl ?_
      refine x_aload_n (pc := 16) d_R_numberAll_16 rfl 0 rfl ?_
      refine h_getR G (pc := 17) (ci := 7) (j := 2) d_R_numberAll_17 rfl rfl rfl lf_R_13 h fun t2 h => ?_
      refine x_iconst (pc := 20) d_R_numberAll_20 rfl ?_
      refine h_iaload (pc := 21) d_R_numberAll_21 h fun t3 h => ?_
      refine h_icmp_ge (pc := 22) 38 d_R_numberAll_22 (by decide) h (fun _ h => ?_) (fun _ h => ?_)
      · refine x_weak [0, 1, 2] rfl ?_
        exact p_R_numberAll_38 G ih _ _ _ _ _ _ h
      · refine x_aload_n (pc := 25) d_R_numberAll_25 rfl 0 rfl ?_
        refine h_getR G (pc := 26) (ci := 7) (j := 15) d_R_numberAll_26 rfl rfl rfl lf_R_53 h fun t4 h => ?_
        refine x_iload_n (pc := 29) d_R_numberAll_29 rfl 2 rfl ?_
        refine h_baload (pc := 30) d_R_numberAll_30 h fun t5 h => ?_
        refine h_if_eq (pc := 31) 38 d_R_numberAll_31 (by decide) h (fun _ h => ?_) (fun _ h => ?_)
        · refine x_weak [0, 1, 2] rfl ?_
          exact p_R_numberAll_38 G ih _ _ _ _ _ _ h
        · refine x_iload_n (pc := 34) d_R_numberAll_34 rfl 1 rfl ?_
          refine x_goto (pc := 35) 39 d_R_numberAll_35 (by decide) ?_
          refine x_weak [0, 1, 2] rfl ?_
          exact p_R_numberAll_39 G ih _ _ _ _ _ _ _ h
theorem p_R_numberAll (G : xG K) (v0 : Nat) (M : XM) (h : g_R_numberAll v0 M = some (o, N)) : Ct K y_R_numberAll [.ref v0] M o N := by
  refine ct_of (by decide) (List.forall_mem_cons.mpr ⟨rfl, fun _ q => absurd q List.not_mem_nil⟩) (Nat.le_of_ble_eq_true rfl) ?_
  show cA K y_R_numberAll 0 [(0, .ref v0)] [] M o N
  unfold g_R_numberAll at h
  refine x_iconst (pc := 0) d_R_numberAll_0 rfl ?_
  refine x_istore_n (pc := 1) (L' := [(0, .ref v0), (1, .int 0)]) d_R_numberAll_1 rfl (by decide) rfl ?_
  refine x_iconst (pc := 2) d_R_numberAll_2 rfl ?_
  refine x_istore_n (pc := 3) (L' := [(0, .ref v0), (1, .int 0), (2, .int 0)]) d_R_numberAll_3 rfl (by decide) rfl ?_
  refine x_weak [0, 1, 2] rfl ?_
  exact p_R_numberAll_4 G FU _ _ _ _ h
end XG
