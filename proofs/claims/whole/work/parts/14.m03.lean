/-! laid by program from the bytecode: K_lookAtNames, K_leastFreeName, K_giveNames, K_newFirst, K_writePool, K_writeMember, K_write, K_rebuild, S_shake, W_shake, S_chosen, S_count, W_count, S_pool, W_pool, S_constantAt, W_constantAt, S_memberAt, W_memberAt -/
theorem d_K_lookAtNames_0 : decode prog_7_method_11_code 0 = .ok (.iconst 0, 1) := by decide +kernel
theorem d_K_lookAtNames_1 : decode prog_7_method_11_code 1 = .ok (.istore_n 2, 1) := by decide +kernel
theorem d_K_lookAtNames_2 : decode prog_7_method_11_code 2 = .ok (.iload_n 2, 1) := by decide +kernel
theorem d_K_lookAtNames_3 : decode prog_7_method_11_code 3 = .ok (.aload_n 1, 1) := by decide +kernel
theorem d_K_lookAtNames_4 : decode prog_7_method_11_code 4 = .ok (.getfield 132, 3) := by decide +kernel
theorem d_K_lookAtNames_7 : decode prog_7_method_11_code 7 = .ok (.if_icmp .ge 71, 3) := by decide +kernel
theorem d_K_lookAtNames_10 : decode prog_7_method_11_code 10 = .ok (.aload_n 1, 1) := by decide +kernel
theorem d_K_lookAtNames_11 : decode prog_7_method_11_code 11 = .ok (.getfield 107, 3) := by decide +kernel
theorem d_K_lookAtNames_14 : decode prog_7_method_11_code 14 = .ok (.iload_n 2, 1) := by decide +kernel
theorem d_K_lookAtNames_15 : decode prog_7_method_11_code 15 = .ok (.aaload, 1) := by decide +kernel
theorem d_K_lookAtNames_16 : decode prog_7_method_11_code 16 = .ok (.astore_n 3, 1) := by decide +kernel
theorem d_K_lookAtNames_17 : decode prog_7_method_11_code 17 = .ok (.iconst 0, 1) := by decide +kernel
theorem d_K_lookAtNames_18 : decode prog_7_method_11_code 18 = .ok (.istore 4, 2) := by decide +kernel
theorem d_K_lookAtNames_20 : decode prog_7_method_11_code 20 = .ok (.iload 4, 2) := by decide +kernel
theorem d_K_lookAtNames_22 : decode prog_7_method_11_code 22 = .ok (.aload_n 3, 1) := by decide +kernel
theorem d_K_lookAtNames_23 : decode prog_7_method_11_code 23 = .ok (.getfield 135, 3) := by decide +kernel
theorem d_K_lookAtNames_26 : decode prog_7_method_11_code 26 = .ok (.if_icmp .ge 46, 3) := by decide +kernel
theorem d_K_lookAtNames_29 : decode prog_7_method_11_code 29 = .ok (.aload_n 0, 1) := by decide +kernel
theorem d_K_lookAtNames_30 : decode prog_7_method_11_code 30 = .ok (.getfield 20, 3) := by decide +kernel
theorem d_K_lookAtNames_33 : decode prog_7_method_11_code 33 = .ok (.iload_n 2, 1) := by decide +kernel
theorem d_K_lookAtNames_34 : decode prog_7_method_11_code 34 = .ok (.aaload, 1) := by decide +kernel
theorem d_K_lookAtNames_35 : decode prog_7_method_11_code 35 = .ok (.iload 4, 2) := by decide +kernel
theorem d_K_lookAtNames_37 : decode prog_7_method_11_code 37 = .ok (.iaload, 1) := by decide +kernel
theorem d_K_lookAtNames_38 : decode prog_7_method_11_code 38 = .ok (.iconst (-1), 1) := by decide +kernel
theorem d_K_lookAtNames_39 : decode prog_7_method_11_code 39 = .ok (.if_icmp .eq 27, 3) := by decide +kernel
theorem d_K_lookAtNames_42 : decode prog_7_method_11_code 42 = .ok (.aload_n 3, 1) := by decide +kernel
theorem d_K_lookAtNames_43 : decode prog_7_method_11_code 43 = .ok (.getfield 111, 3) := by decide +kernel
theorem d_K_lookAtNames_46 : decode prog_7_method_11_code 46 = .ok (.iload 4, 2) := by decide +kernel
theorem d_K_lookAtNames_48 : decode prog_7_method_11_code 48 = .ok (.iaload, 1) := by decide +kernel
theorem d_K_lookAtNames_49 : decode prog_7_method_11_code 49 = .ok (.iconst 1, 1) := by decide +kernel
theorem d_K_lookAtNames_50 : decode prog_7_method_11_code 50 = .ok (.if_icmp .ne 16, 3) := by decide +kernel
theorem d_K_lookAtNames_53 : decode prog_7_method_11_code 53 = .ok (.aload_n 0, 1) := by decide +kernel
theorem d_K_lookAtNames_54 : decode prog_7_method_11_code 54 = .ok (.getfield 26, 3) := by decide +kernel
theorem d_K_lookAtNames_57 : decode prog_7_method_11_code 57 = .ok (.aload_n 3, 1) := by decide +kernel
theorem d_K_lookAtNames_58 : decode prog_7_method_11_code 58 = .ok (.getfield 119, 3) := by decide +kernel
theorem d_K_lookAtNames_61 : decode prog_7_method_11_code 61 = .ok (.iload 4, 2) := by decide +kernel
theorem d_K_lookAtNames_63 : decode prog_7_method_11_code 63 = .ok (.iaload, 1) := by decide +kernel
theorem d_K_lookAtNames_64 : decode prog_7_method_11_code 64 = .ok (.iconst 1, 1) := by decide +kernel
theorem d_K_lookAtNames_65 : decode prog_7_method_11_code 65 = .ok (.iastore, 1) := by decide +kernel
theorem d_K_lookAtNames_66 : decode prog_7_method_11_code 66 = .ok (.iinc 4 1, 3) := by decide +kernel
theorem d_K_lookAtNames_69 : decode prog_7_method_11_code 69 = .ok (.goto (-49), 3) := by decide +kernel
theorem d_K_lookAtNames_72 : decode prog_7_method_11_code 72 = .ok (.iinc 2 1, 3) := by decide +kernel
theorem d_K_lookAtNames_75 : decode prog_7_method_11_code 75 = .ok (.goto (-73), 3) := by decide +kernel
theorem d_K_lookAtNames_78 : decode prog_7_method_11_code 78 = .ok (.iconst 0, 1) := by decide +kernel
theorem d_K_lookAtNames_79 : decode prog_7_method_11_code 79 = .ok (.istore_n 2, 1) := by decide +kernel
theorem d_K_lookAtNames_80 : decode prog_7_method_11_code 80 = .ok (.iload_n 2, 1) := by decide +kernel
theorem d_K_lookAtNames_81 : decode prog_7_method_11_code 81 = .ok (.aload_n 1, 1) := by decide +kernel
theorem d_K_lookAtNames_82 : decode prog_7_method_11_code 82 = .ok (.getfield 65, 3) := by decide +kernel
theorem d_K_lookAtNames_85 : decode prog_7_method_11_code 85 = .ok (.if_icmp .ge 32, 3) := by decide +kernel
theorem d_K_lookAtNames_88 : decode prog_7_method_11_code 88 = .ok (.aload_n 1, 1) := by decide +kernel
theorem d_K_lookAtNames_89 : decode prog_7_method_11_code 89 = .ok (.getfield 70, 3) := by decide +kernel
theorem d_K_lookAtNames_92 : decode prog_7_method_11_code 92 = .ok (.iload_n 2, 1) := by decide +kernel
theorem d_K_lookAtNames_93 : decode prog_7_method_11_code 93 = .ok (.aaload, 1) := by decide +kernel
theorem d_K_lookAtNames_94 : decode prog_7_method_11_code 94 = .ok (.getfield 74, 3) := by decide +kernel
theorem d_K_lookAtNames_97 : decode prog_7_method_11_code 97 = .ok (.ifCond .eq 14, 3) := by decide +kernel
theorem d_K_lookAtNames_100 : decode prog_7_method_11_code 100 = .ok (.aload_n 0, 1) := by decide +kernel
theorem d_K_lookAtNames_101 : decode prog_7_method_11_code 101 = .ok (.getfield 26, 3) := by decide +kernel
theorem d_K_lookAtNames_104 : decode prog_7_method_11_code 104 = .ok (.aload_n 1, 1) := by decide +kernel
theorem d_K_lookAtNames_105 : decode prog_7_method_11_code 105 = .ok (.iload_n 2, 1) := by decide +kernel
theorem d_K_lookAtNames_106 : decode prog_7_method_11_code 106 = .ok (.invokevirtual 136, 3) := by decide +kernel
theorem d_K_lookAtNames_109 : decode prog_7_method_11_code 109 = .ok (.iconst 2, 1) := by decide +kernel
theorem d_K_lookAtNames_110 : decode prog_7_method_11_code 110 = .ok (.iastore, 1) := by decide +kernel
theorem d_K_lookAtNames_111 : decode prog_7_method_11_code 111 = .ok (.iinc 2 1, 3) := by decide +kernel
theorem d_K_lookAtNames_114 : decode prog_7_method_11_code 114 = .ok (.goto (-34), 3) := by decide +kernel
theorem d_K_lookAtNames_117 : decode prog_7_method_11_code 117 = .ok (.return_, 1) := by decide +kernel
theorem d_K_leastFreeName_0 : decode prog_7_method_13_code 0 = .ok (.iload_n 1, 1) := by decide +kernel
theorem d_K_leastFreeName_1 : decode prog_7_method_13_code 1 = .ok (.istore_n 2, 1) := by decide +kernel
theorem d_K_leastFreeName_2 : decode prog_7_method_13_code 2 = .ok (.iload_n 2, 1) := by decide +kernel
theorem d_K_leastFreeName_3 : decode prog_7_method_13_code 3 = .ok (.bipush 100, 2) := by decide +kernel
theorem d_K_leastFreeName_5 : decode prog_7_method_13_code 5 = .ok (.if_icmp .ge 21, 3) := by decide +kernel
theorem d_K_leastFreeName_8 : decode prog_7_method_13_code 8 = .ok (.aload_n 0, 1) := by decide +kernel
theorem d_K_leastFreeName_9 : decode prog_7_method_13_code 9 = .ok (.getfield 26, 3) := by decide +kernel
theorem d_K_leastFreeName_12 : decode prog_7_method_13_code 12 = .ok (.iload_n 2, 1) := by decide +kernel
theorem d_K_leastFreeName_13 : decode prog_7_method_13_code 13 = .ok (.iaload, 1) := by decide +kernel
theorem d_K_leastFreeName_14 : decode prog_7_method_13_code 14 = .ok (.iconst 2, 1) := by decide +kernel
theorem d_K_leastFreeName_15 : decode prog_7_method_13_code 15 = .ok (.if_icmp .eq 5, 3) := by decide +kernel
theorem d_K_leastFreeName_18 : decode prog_7_method_13_code 18 = .ok (.iload_n 2, 1) := by decide +kernel
theorem d_K_leastFreeName_19 : decode prog_7_method_13_code 19 = .ok (.ireturn, 1) := by decide +kernel
theorem d_K_leastFreeName_20 : decode prog_7_method_13_code 20 = .ok (.iinc 2 1, 3) := by decide +kernel
theorem d_K_leastFreeName_23 : decode prog_7_method_13_code 23 = .ok (.goto (-21), 3) := by decide +kernel
theorem d_K_leastFreeName_26 : decode prog_7_method_13_code 26 = .ok (.iconst (-1), 1) := by decide +kernel
theorem d_K_leastFreeName_27 : decode prog_7_method_13_code 27 = .ok (.ireturn, 1) := by decide +kernel
theorem d_K_giveNames_0 : decode prog_7_method_12_code 0 = .ok (.iconst 0, 1) := by decide +kernel
theorem d_K_giveNames_1 : decode prog_7_method_12_code 1 = .ok (.istore_n 1, 1) := by decide +kernel
theorem d_K_giveNames_2 : decode prog_7_method_12_code 2 = .ok (.iconst 0, 1) := by decide +kernel
theorem d_K_giveNames_3 : decode prog_7_method_12_code 3 = .ok (.istore_n 2, 1) := by decide +kernel
theorem d_K_giveNames_4 : decode prog_7_method_12_code 4 = .ok (.iload_n 2, 1) := by decide +kernel
theorem d_K_giveNames_5 : decode prog_7_method_12_code 5 = .ok (.bipush 100, 2) := by decide +kernel
theorem d_K_giveNames_7 : decode prog_7_method_12_code 7 = .ok (.if_icmp .ge 55, 3) := by decide +kernel
theorem d_K_giveNames_10 : decode prog_7_method_12_code 10 = .ok (.aload_n 0, 1) := by decide +kernel
theorem d_K_giveNames_11 : decode prog_7_method_12_code 11 = .ok (.getfield 26, 3) := by decide +kernel
theorem d_K_giveNames_14 : decode prog_7_method_12_code 14 = .ok (.iload_n 2, 1) := by decide +kernel
theorem d_K_giveNames_15 : decode prog_7_method_12_code 15 = .ok (.iaload, 1) := by decide +kernel
theorem d_K_giveNames_16 : decode prog_7_method_12_code 16 = .ok (.iconst 2, 1) := by decide +kernel
theorem d_K_giveNames_17 : decode prog_7_method_12_code 17 = .ok (.if_icmp .ne 13, 3) := by decide +kernel
theorem d_K_giveNames_20 : decode prog_7_method_12_code 20 = .ok (.aload_n 0, 1) := by decide +kernel
theorem d_K_giveNames_21 : decode prog_7_method_12_code 21 = .ok (.getfield 23, 3) := by decide +kernel
theorem d_K_giveNames_24 : decode prog_7_method_12_code 24 = .ok (.iload_n 2, 1) := by decide +kernel
theorem d_K_giveNames_25 : decode prog_7_method_12_code 25 = .ok (.iload_n 2, 1) := by decide +kernel
theorem d_K_giveNames_26 : decode prog_7_method_12_code 26 = .ok (.iastore, 1) := by decide +kernel
theorem d_K_giveNames_27 : decode prog_7_method_12_code 27 = .ok (.goto 29, 3) := by decide +kernel
theorem d_K_giveNames_30 : decode prog_7_method_12_code 30 = .ok (.aload_n 0, 1) := by decide +kernel
theorem d_K_giveNames_31 : decode prog_7_method_12_code 31 = .ok (.getfield 26, 3) := by decide +kernel
theorem d_K_giveNames_34 : decode prog_7_method_12_code 34 = .ok (.iload_n 2, 1) := by decide +kernel
theorem d_K_giveNames_35 : decode prog_7_method_12_code 35 = .ok (.iaload, 1) := by decide +kernel
theorem d_K_giveNames_36 : decode prog_7_method_12_code 36 = .ok (.iconst 1, 1) := by decide +kernel
theorem d_K_giveNames_37 : decode prog_7_method_12_code 37 = .ok (.if_icmp .ne 19, 3) := by decide +kernel
theorem d_K_giveNames_40 : decode prog_7_method_12_code 40 = .ok (.aload_n 0, 1) := by decide +kernel
theorem d_K_giveNames_41 : decode prog_7_method_12_code 41 = .ok (.iload_n 1, 1) := by decide +kernel
theorem d_K_giveNames_42 : decode prog_7_method_12_code 42 = .ok (.invokevirtual 140, 3) := by decide +kernel
theorem d_K_giveNames_45 : decode prog_7_method_12_code 45 = .ok (.istore_n 1, 1) := by decide +kernel
theorem d_K_giveNames_46 : decode prog_7_method_12_code 46 = .ok (.aload_n 0, 1) := by decide +kernel
theorem d_K_giveNames_47 : decode prog_7_method_12_code 47 = .ok (.getfield 23, 3) := by decide +kernel
theorem d_K_giveNames_50 : decode prog_7_method_12_code 50 = .ok (.iload_n 2, 1) := by decide +kernel
theorem d_K_giveNames_51 : decode prog_7_method_12_code 51 = .ok (.iload_n 1, 1) := by decide +kernel
theorem d_K_giveNames_52 : decode prog_7_method_12_code 52 = .ok (.iastore, 1) := by decide +kernel
theorem d_K_giveNames_53 : decode prog_7_method_12_code 53 = .ok (.iinc 1 1, 3) := by decide +kernel
theorem d_K_giveNames_56 : decode prog_7_method_12_code 56 = .ok (.iinc 2 1, 3) := by decide +kernel
theorem d_K_giveNames_59 : decode prog_7_method_12_code 59 = .ok (.goto (-55), 3) := by decide +kernel
theorem d_K_giveNames_62 : decode prog_7_method_12_code 62 = .ok (.return_, 1) := by decide +kernel
theorem d_K_newFirst_0 : decode prog_7_method_16_code 0 = .ok (.iload_n 1, 1) := by decide +kernel
theorem d_K_newFirst_1 : decode prog_7_method_16_code 1 = .ok (.tableswitch 49 1 4 #[31, 38, 45, 45], 31) := by decide +kernel
theorem d_K_newFirst_32 : decode prog_7_method_16_code 32 = .ok (.aload_n 0, 1) := by decide +kernel
theorem d_K_newFirst_33 : decode prog_7_method_16_code 33 = .ok (.getfield 23, 3) := by decide +kernel
theorem d_K_newFirst_36 : decode prog_7_method_16_code 36 = .ok (.iload_n 2, 1) := by decide +kernel
theorem d_K_newFirst_37 : decode prog_7_method_16_code 37 = .ok (.iaload, 1) := by decide +kernel
theorem d_K_newFirst_38 : decode prog_7_method_16_code 38 = .ok (.ireturn, 1) := by decide +kernel
theorem d_K_newFirst_39 : decode prog_7_method_16_code 39 = .ok (.aload_n 0, 1) := by decide +kernel
theorem d_K_newFirst_40 : decode prog_7_method_16_code 40 = .ok (.getfield 15, 3) := by decide +kernel
theorem d_K_newFirst_43 : decode prog_7_method_16_code 43 = .ok (.iload_n 2, 1) := by decide +kernel
theorem d_K_newFirst_44 : decode prog_7_method_16_code 44 = .ok (.iaload, 1) := by decide +kernel
theorem d_K_newFirst_45 : decode prog_7_method_16_code 45 = .ok (.ireturn, 1) := by decide +kernel
theorem d_K_newFirst_46 : decode prog_7_method_16_code 46 = .ok (.aload_n 3, 1) := by decide +kernel
theorem d_K_newFirst_47 : decode prog_7_method_16_code 47 = .ok (.iload_n 2, 1) := by decide +kernel
theorem d_K_newFirst_48 : decode prog_7_method_16_code 48 = .ok (.iaload, 1) := by decide +kernel
theorem d_K_newFirst_49 : decode prog_7_method_16_code 49 = .ok (.ireturn, 1) := by decide +kernel
theorem d_K_newFirst_50 : decode prog_7_method_16_code 50 = .ok (.iload_n 2, 1) := by decide +kernel
theorem d_K_newFirst_51 : decode prog_7_method_16_code 51 = .ok (.ireturn, 1) := by decide +kernel
theorem d_K_writePool_0 : decode prog_7_method_15_code 0 = .ok (.iconst 0, 1) := by decide +kernel
theorem d_K_writePool_1 : decode prog_7_method_15_code 1 = .ok (.istore 4, 2) := by decide +kernel
theorem d_K_writePool_3 : decode prog_7_method_15_code 3 = .ok (.iload 4, 2) := by decide +kernel
theorem d_K_writePool_5 : decode prog_7_method_15_code 5 = .ok (.aload_n 1, 1) := by decide +kernel
theorem d_K_writePool_6 : decode prog_7_method_15_code 6 = .ok (.getfield 135, 3) := by decide +kernel
theorem d_K_writePool_9 : decode prog_7_method_15_code 9 = .ok (.if_icmp .ge 76, 3) := by decide +kernel
theorem d_K_writePool_12 : decode prog_7_method_15_code 12 = .ok (.aload_n 2, 1) := by decide +kernel
theorem d_K_writePool_13 : decode prog_7_method_15_code 13 = .ok (.iload 4, 2) := by decide +kernel
theorem d_K_writePool_15 : decode prog_7_method_15_code 15 = .ok (.iaload, 1) := by decide +kernel
theorem d_K_writePool_16 : decode prog_7_method_15_code 16 = .ok (.iconst (-1), 1) := by decide +kernel
theorem d_K_writePool_17 : decode prog_7_method_15_code 17 = .ok (.if_icmp .eq 62, 3) := by decide +kernel
theorem d_K_writePool_20 : decode prog_7_method_15_code 20 = .ok (.aload_n 1, 1) := by decide +kernel
theorem d_K_writePool_21 : decode prog_7_method_15_code 21 = .ok (.getfield 111, 3) := by decide +kernel
theorem d_K_writePool_24 : decode prog_7_method_15_code 24 = .ok (.iload 4, 2) := by decide +kernel
theorem d_K_writePool_26 : decode prog_7_method_15_code 26 = .ok (.iaload, 1) := by decide +kernel
theorem d_K_writePool_27 : decode prog_7_method_15_code 27 = .ok (.istore 5, 2) := by decide +kernel
theorem d_K_writePool_29 : decode prog_7_method_15_code 29 = .ok (.aload_n 0, 1) := by decide +kernel
theorem d_K_writePool_30 : decode prog_7_method_15_code 30 = .ok (.iload 5, 2) := by decide +kernel
theorem d_K_writePool_32 : decode prog_7_method_15_code 32 = .ok (.aload_n 1, 1) := by decide +kernel
theorem d_K_writePool_33 : decode prog_7_method_15_code 33 = .ok (.getfield 119, 3) := by decide +kernel
theorem d_K_writePool_36 : decode prog_7_method_15_code 36 = .ok (.iload 4, 2) := by decide +kernel
theorem d_K_writePool_38 : decode prog_7_method_15_code 38 = .ok (.iaload, 1) := by decide +kernel
theorem d_K_writePool_39 : decode prog_7_method_15_code 39 = .ok (.aload_n 2, 1) := by decide +kernel
theorem d_K_writePool_40 : decode prog_7_method_15_code 40 = .ok (.invokevirtual 158, 3) := by decide +kernel
theorem d_K_writePool_43 : decode prog_7_method_15_code 43 = .ok (.istore 6, 2) := by decide +kernel
theorem d_K_writePool_45 : decode prog_7_method_15_code 45 = .ok (.iload 5, 2) := by decide +kernel
theorem d_K_writePool_47 : decode prog_7_method_15_code 47 = .ok (.invokestatic 116, 3) := by decide +kernel
theorem d_K_writePool_50 : decode prog_7_method_15_code 50 = .ok (.ifCond .eq 15, 3) := by decide +kernel
theorem d_K_writePool_53 : decode prog_7_method_15_code 53 = .ok (.aload_n 2, 1) := by decide +kernel
theorem d_K_writePool_54 : decode prog_7_method_15_code 54 = .ok (.aload_n 1, 1) := by decide +kernel
theorem d_K_writePool_55 : decode prog_7_method_15_code 55 = .ok (.getfield 122, 3) := by decide +kernel
theorem d_K_writePool_58 : decode prog_7_method_15_code 58 = .ok (.iload 4, 2) := by decide +kernel
theorem d_K_writePool_60 : decode prog_7_method_15_code 60 = .ok (.iaload, 1) := by decide +kernel
theorem d_K_writePool_61 : decode prog_7_method_15_code 61 = .ok (.iaload, 1) := by decide +kernel
theorem d_K_writePool_62 : decode prog_7_method_15_code 62 = .ok (.goto 4, 3) := by decide +kernel
theorem d_K_writePool_65 : decode prog_7_method_15_code 65 = .ok (.iconst 0, 1) := by decide +kernel
theorem d_K_writePool_66 : decode prog_7_method_15_code 66 = .ok (.istore 7, 2) := by decide +kernel
theorem d_K_writePool_68 : decode prog_7_method_15_code 68 = .ok (.aload_n 3, 1) := by decide +kernel
theorem d_K_writePool_69 : decode prog_7_method_15_code 69 = .ok (.iload 5, 2) := by decide +kernel
theorem d_K_writePool_71 : decode prog_7_method_15_code 71 = .ok (.iload 6, 2) := by decide +kernel
theorem d_K_writePool_73 : decode prog_7_method_15_code 73 = .ok (.iload 7, 2) := by decide +kernel
theorem d_K_writePool_75 : decode prog_7_method_15_code 75 = .ok (.invokevirtual 162, 3) := by decide +kernel
theorem d_K_writePool_78 : decode prog_7_method_15_code 78 = .ok (.pop, 1) := by decide +kernel
theorem d_K_writePool_79 : decode prog_7_method_15_code 79 = .ok (.iinc 4 1, 3) := by decide +kernel
theorem d_K_writePool_82 : decode prog_7_method_15_code 82 = .ok (.goto (-79), 3) := by decide +kernel
theorem d_K_writePool_85 : decode prog_7_method_15_code 85 = .ok (.return_, 1) := by decide +kernel
theorem d_K_writeMember_0 : decode prog_7_method_17_code 0 = .ok (.aload_n 0, 1) := by decide +kernel
theorem d_K_writeMember_1 : decode prog_7_method_17_code 1 = .ok (.getfield 20, 3) := by decide +kernel
theorem d_K_writeMember_4 : decode prog_7_method_17_code 4 = .ok (.aload_n 1, 1) := by decide +kernel
theorem d_K_writeMember_5 : decode prog_7_method_17_code 5 = .ok (.getfield 94, 3) := by decide +kernel
theorem d_K_writeMember_8 : decode prog_7_method_17_code 8 = .ok (.aaload, 1) := by decide +kernel
theorem d_K_writeMember_9 : decode prog_7_method_17_code 9 = .ok (.astore_n 3, 1) := by decide +kernel
theorem d_K_writeMember_10 : decode prog_7_method_17_code 10 = .ok (.aload_n 2, 1) := by decide +kernel
theorem d_K_writeMember_11 : decode prog_7_method_17_code 11 = .ok (.aload_n 0, 1) := by decide +kernel
theorem d_K_writeMember_12 : decode prog_7_method_17_code 12 = .ok (.getfield 15, 3) := by decide +kernel
theorem d_K_writeMember_15 : decode prog_7_method_17_code 15 = .ok (.aload_n 1, 1) := by decide +kernel
theorem d_K_writeMember_16 : decode prog_7_method_17_code 16 = .ok (.getfield 94, 3) := by decide +kernel
theorem d_K_writeMember_19 : decode prog_7_method_17_code 19 = .ok (.iaload, 1) := by decide +kernel
theorem d_K_writeMember_20 : decode prog_7_method_17_code 20 = .ok (.aload_n 3, 1) := by decide +kernel
theorem d_K_writeMember_21 : decode prog_7_method_17_code 21 = .ok (.aload_n 1, 1) := by decide +kernel
theorem d_K_writeMember_22 : decode prog_7_method_17_code 22 = .ok (.getfield 104, 3) := by decide +kernel
theorem d_K_writeMember_25 : decode prog_7_method_17_code 25 = .ok (.iaload, 1) := by decide +kernel
theorem d_K_writeMember_26 : decode prog_7_method_17_code 26 = .ok (.aload_n 1, 1) := by decide +kernel
theorem d_K_writeMember_27 : decode prog_7_method_17_code 27 = .ok (.getfield 166, 3) := by decide +kernel
theorem d_K_writeMember_30 : decode prog_7_method_17_code 30 = .ok (.invokevirtual 169, 3) := by decide +kernel
theorem d_K_writeMember_33 : decode prog_7_method_17_code 33 = .ok (.istore 4, 2) := by decide +kernel
theorem d_K_writeMember_35 : decode prog_7_method_17_code 35 = .ok (.aload_n 2, 1) := by decide +kernel
theorem d_K_writeMember_36 : decode prog_7_method_17_code 36 = .ok (.getfield 70, 3) := by decide +kernel
theorem d_K_writeMember_39 : decode prog_7_method_17_code 39 = .ok (.iload 4, 2) := by decide +kernel
theorem d_K_writeMember_41 : decode prog_7_method_17_code 41 = .ok (.aaload, 1) := by decide +kernel
theorem d_K_writeMember_42 : decode prog_7_method_17_code 42 = .ok (.astore 5, 2) := by decide +kernel
theorem d_K_writeMember_44 : decode prog_7_method_17_code 44 = .ok (.aload 5, 2) := by decide +kernel
theorem d_K_writeMember_46 : decode prog_7_method_17_code 46 = .ok (.aload_n 1, 1) := by decide +kernel
theorem d_K_writeMember_47 : decode prog_7_method_17_code 47 = .ok (.getfield 74, 3) := by decide +kernel
theorem d_K_writeMember_50 : decode prog_7_method_17_code 50 = .ok (.putfield 74, 3) := by decide +kernel
theorem d_K_writeMember_53 : decode prog_7_method_17_code 53 = .ok (.iconst 0, 1) := by decide +kernel
theorem d_K_writeMember_54 : decode prog_7_method_17_code 54 = .ok (.istore 6, 2) := by decide +kernel
theorem d_K_writeMember_56 : decode prog_7_method_17_code 56 = .ok (.iload 6, 2) := by decide +kernel
theorem d_K_writeMember_58 : decode prog_7_method_17_code 58 = .ok (.aload_n 1, 1) := by decide +kernel
theorem d_K_writeMember_59 : decode prog_7_method_17_code 59 = .ok (.getfield 84, 3) := by decide +kernel
theorem d_K_writeMember_62 : decode prog_7_method_17_code 62 = .ok (.if_icmp .ge 52, 3) := by decide +kernel
theorem d_K_writeMember_65 : decode prog_7_method_17_code 65 = .ok (.aload_n 1, 1) := by decide +kernel
theorem d_K_writeMember_66 : decode prog_7_method_17_code 66 = .ok (.getfield 87, 3) := by decide +kernel
theorem d_K_writeMember_69 : decode prog_7_method_17_code 69 = .ok (.iload 6, 2) := by decide +kernel
theorem d_K_writeMember_71 : decode prog_7_method_17_code 71 = .ok (.iaload, 1) := by decide +kernel
theorem d_K_writeMember_72 : decode prog_7_method_17_code 72 = .ok (.istore 7, 2) := by decide +kernel
theorem d_K_writeMember_74 : decode prog_7_method_17_code 74 = .ok (.aload_n 1, 1) := by decide +kernel
theorem d_K_writeMember_75 : decode prog_7_method_17_code 75 = .ok (.getfield 97, 3) := by decide +kernel
theorem d_K_writeMember_78 : decode prog_7_method_17_code 78 = .ok (.iload 6, 2) := by decide +kernel
theorem d_K_writeMember_80 : decode prog_7_method_17_code 80 = .ok (.iaload, 1) := by decide +kernel
theorem d_K_writeMember_81 : decode prog_7_method_17_code 81 = .ok (.istore 8, 2) := by decide +kernel
theorem d_K_writeMember_83 : decode prog_7_method_17_code 83 = .ok (.aload 5, 2) := by decide +kernel
theorem d_K_writeMember_85 : decode prog_7_method_17_code 85 = .ok (.iload 7, 2) := by decide +kernel
theorem d_K_writeMember_87 : decode prog_7_method_17_code 87 = .ok (.iload 7, 2) := by decide +kernel
theorem d_K_writeMember_89 : decode prog_7_method_17_code 89 = .ok (.invokestatic 90, 3) := by decide +kernel
theorem d_K_writeMember_92 : decode prog_7_method_17_code 92 = .ok (.ifCond .eq 10, 3) := by decide +kernel
theorem d_K_writeMember_95 : decode prog_7_method_17_code 95 = .ok (.aload_n 3, 1) := by decide +kernel
theorem d_K_writeMember_96 : decode prog_7_method_17_code 96 = .ok (.iload 8, 2) := by decide +kernel
theorem d_K_writeMember_98 : decode prog_7_method_17_code 98 = .ok (.iaload, 1) := by decide +kernel
theorem d_K_writeMember_99 : decode prog_7_method_17_code 99 = .ok (.goto 5, 3) := by decide +kernel
theorem d_K_writeMember_102 : decode prog_7_method_17_code 102 = .ok (.iload 8, 2) := by decide +kernel
theorem d_K_writeMember_104 : decode prog_7_method_17_code 104 = .ok (.invokevirtual 172, 3) := by decide +kernel
theorem d_K_writeMember_107 : decode prog_7_method_17_code 107 = .ok (.pop, 1) := by decide +kernel
theorem d_K_writeMember_108 : decode prog_7_method_17_code 108 = .ok (.iinc 6 1, 3) := by decide +kernel
theorem d_K_writeMember_111 : decode prog_7_method_17_code 111 = .ok (.goto (-55), 3) := by decide +kernel
theorem d_K_writeMember_114 : decode prog_7_method_17_code 114 = .ok (.return_, 1) := by decide +kernel
theorem d_K_write_0 : decode prog_7_method_14_code 0 = .ok (.aload_n 2, 1) := by decide +kernel
theorem d_K_write_1 : decode prog_7_method_14_code 1 = .ok (.invokevirtual 143, 3) := by decide +kernel
theorem d_K_write_4 : decode prog_7_method_14_code 4 = .ok (.iconst 0, 1) := by decide +kernel
theorem d_K_write_5 : decode prog_7_method_14_code 5 = .ok (.istore_n 3, 1) := by decide +kernel
theorem d_K_write_6 : decode prog_7_method_14_code 6 = .ok (.iload_n 3, 1) := by decide +kernel
theorem d_K_write_7 : decode prog_7_method_14_code 7 = .ok (.aload_n 1, 1) := by decide +kernel
theorem d_K_write_8 : decode prog_7_method_14_code 8 = .ok (.getfield 132, 3) := by decide +kernel
theorem d_K_write_11 : decode prog_7_method_14_code 11 = .ok (.if_icmp .ge 44, 3) := by decide +kernel
theorem d_K_write_14 : decode prog_7_method_14_code 14 = .ok (.aload_n 0, 1) := by decide +kernel
theorem d_K_write_15 : decode prog_7_method_14_code 15 = .ok (.getfield 15, 3) := by decide +kernel
theorem d_K_write_18 : decode prog_7_method_14_code 18 = .ok (.iload_n 3, 1) := by decide +kernel
theorem d_K_write_19 : decode prog_7_method_14_code 19 = .ok (.iaload, 1) := by decide +kernel
theorem d_K_write_20 : decode prog_7_method_14_code 20 = .ok (.iconst (-1), 1) := by decide +kernel
theorem d_K_write_21 : decode prog_7_method_14_code 21 = .ok (.if_icmp .eq 28, 3) := by decide +kernel
theorem d_K_write_24 : decode prog_7_method_14_code 24 = .ok (.aload_n 0, 1) := by decide +kernel
theorem d_K_write_25 : decode prog_7_method_14_code 25 = .ok (.aload_n 1, 1) := by decide +kernel
theorem d_K_write_26 : decode prog_7_method_14_code 26 = .ok (.getfield 107, 3) := by decide +kernel
theorem d_K_write_29 : decode prog_7_method_14_code 29 = .ok (.iload_n 3, 1) := by decide +kernel
theorem d_K_write_30 : decode prog_7_method_14_code 30 = .ok (.aaload, 1) := by decide +kernel
theorem d_K_write_31 : decode prog_7_method_14_code 31 = .ok (.aload_n 0, 1) := by decide +kernel
theorem d_K_write_32 : decode prog_7_method_14_code 32 = .ok (.getfield 20, 3) := by decide +kernel
theorem d_K_write_35 : decode prog_7_method_14_code 35 = .ok (.iload_n 3, 1) := by decide +kernel
theorem d_K_write_36 : decode prog_7_method_14_code 36 = .ok (.aaload, 1) := by decide +kernel
theorem d_K_write_37 : decode prog_7_method_14_code 37 = .ok (.aload_n 2, 1) := by decide +kernel
theorem d_K_write_38 : decode prog_7_method_14_code 38 = .ok (.getfield 107, 3) := by decide +kernel
theorem d_K_write_41 : decode prog_7_method_14_code 41 = .ok (.aload_n 2, 1) := by decide +kernel
theorem d_K_write_42 : decode prog_7_method_14_code 42 = .ok (.invokevirtual 146, 3) := by decide +kernel
theorem d_K_write_45 : decode prog_7_method_14_code 45 = .ok (.aaload, 1) := by decide +kernel
theorem d_K_write_46 : decode prog_7_method_14_code 46 = .ok (.invokevirtual 150, 3) := by decide +kernel
theorem d_K_write_49 : decode prog_7_method_14_code 49 = .ok (.iinc 3 1, 3) := by decide +kernel
theorem d_K_write_52 : decode prog_7_method_14_code 52 = .ok (.goto (-46), 3) := by decide +kernel
theorem d_K_write_55 : decode prog_7_method_14_code 55 = .ok (.iconst 0, 1) := by decide +kernel
theorem d_K_write_56 : decode prog_7_method_14_code 56 = .ok (.istore_n 3, 1) := by decide +kernel
theorem d_K_write_57 : decode prog_7_method_14_code 57 = .ok (.iload_n 3, 1) := by decide +kernel
theorem d_K_write_58 : decode prog_7_method_14_code 58 = .ok (.aload_n 1, 1) := by decide +kernel
theorem d_K_write_59 : decode prog_7_method_14_code 59 = .ok (.getfield 65, 3) := by decide +kernel
theorem d_K_write_62 : decode prog_7_method_14_code 62 = .ok (.if_icmp .ge 30, 3) := by decide +kernel
theorem d_K_write_65 : decode prog_7_method_14_code 65 = .ok (.aload_n 0, 1) := by decide +kernel
theorem d_K_write_66 : decode prog_7_method_14_code 66 = .ok (.getfield 9, 3) := by decide +kernel
theorem d_K_write_69 : decode prog_7_method_14_code 69 = .ok (.iload_n 3, 1) := by decide +kernel
theorem d_K_write_70 : decode prog_7_method_14_code 70 = .ok (.iaload, 1) := by decide +kernel
theorem d_K_write_71 : decode prog_7_method_14_code 71 = .ok (.iconst (-1), 1) := by decide +kernel
theorem d_K_write_72 : decode prog_7_method_14_code 72 = .ok (.if_icmp .eq 14, 3) := by decide +kernel
theorem d_K_write_75 : decode prog_7_method_14_code 75 = .ok (.aload_n 0, 1) := by decide +kernel
theorem d_K_write_76 : decode prog_7_method_14_code 76 = .ok (.aload_n 1, 1) := by decide +kernel
theorem d_K_write_77 : decode prog_7_method_14_code 77 = .ok (.getfield 70, 3) := by decide +kernel
theorem d_K_write_80 : decode prog_7_method_14_code 80 = .ok (.iload_n 3, 1) := by decide +kernel
theorem d_K_write_81 : decode prog_7_method_14_code 81 = .ok (.aaload, 1) := by decide +kernel
theorem d_K_write_82 : decode prog_7_method_14_code 82 = .ok (.aload_n 2, 1) := by decide +kernel
theorem d_K_write_83 : decode prog_7_method_14_code 83 = .ok (.invokevirtual 154, 3) := by decide +kernel
theorem d_K_write_86 : decode prog_7_method_14_code 86 = .ok (.iinc 3 1, 3) := by decide +kernel
theorem d_K_write_89 : decode prog_7_method_14_code 89 = .ok (.goto (-32), 3) := by decide +kernel
theorem d_K_write_92 : decode prog_7_method_14_code 92 = .ok (.return_, 1) := by decide +kernel
theorem d_K_rebuild_0 : decode prog_7_method_3_code 0 = .ok (.aload_n 0, 1) := by decide +kernel
theorem d_K_rebuild_1 : decode prog_7_method_3_code 1 = .ok (.invokevirtual 38, 3) := by decide +kernel
theorem d_K_rebuild_4 : decode prog_7_method_3_code 4 = .ok (.aload_n 0, 1) := by decide +kernel
theorem d_K_rebuild_5 : decode prog_7_method_3_code 5 = .ok (.aload_n 1, 1) := by decide +kernel
theorem d_K_rebuild_6 : decode prog_7_method_3_code 6 = .ok (.invokevirtual 41, 3) := by decide +kernel
theorem d_K_rebuild_9 : decode prog_7_method_3_code 9 = .ok (.aload_n 0, 1) := by decide +kernel
theorem d_K_rebuild_10 : decode prog_7_method_3_code 10 = .ok (.aload_n 1, 1) := by decide +kernel
theorem d_K_rebuild_11 : decode prog_7_method_3_code 11 = .ok (.invokevirtual 45, 3) := by decide +kernel
theorem d_K_rebuild_14 : decode prog_7_method_3_code 14 = .ok (.aload_n 0, 1) := by decide +kernel
theorem d_K_rebuild_15 : decode prog_7_method_3_code 15 = .ok (.aload_n 1, 1) := by decide +kernel
theorem d_K_rebuild_16 : decode prog_7_method_3_code 16 = .ok (.invokevirtual 48, 3) := by decide +kernel
theorem d_K_rebuild_19 : decode prog_7_method_3_code 19 = .ok (.aload_n 0, 1) := by decide +kernel
theorem d_K_rebuild_20 : decode prog_7_method_3_code 20 = .ok (.aload_n 1, 1) := by decide +kernel
theorem d_K_rebuild_21 : decode prog_7_method_3_code 21 = .ok (.invokevirtual 51, 3) := by decide +kernel
theorem d_K_rebuild_24 : decode prog_7_method_3_code 24 = .ok (.aload_n 0, 1) := by decide +kernel
theorem d_K_rebuild_25 : decode prog_7_method_3_code 25 = .ok (.invokevirtual 54, 3) := by decide +kernel
theorem d_K_rebuild_28 : decode prog_7_method_3_code 28 = .ok (.aload_n 0, 1) := by decide +kernel
theorem d_K_rebuild_29 : decode prog_7_method_3_code 29 = .ok (.aload_n 1, 1) := by decide +kernel
theorem d_K_rebuild_30 : decode prog_7_method_3_code 30 = .ok (.aload_n 2, 1) := by decide +kernel
theorem d_K_rebuild_31 : decode prog_7_method_3_code 31 = .ok (.invokevirtual 57, 3) := by decide +kernel
theorem d_K_rebuild_34 : decode prog_7_method_3_code 34 = .ok (.return_, 1) := by decide +kernel
theorem d_S_shake_0 : decode prog_1_method_9_code 0 = .ok (.aload_n 0, 1) := by decide +kernel
theorem d_S_shake_1 : decode prog_1_method_9_code 1 = .ok (.getfield 10, 3) := by decide +kernel
theorem d_S_shake_4 : decode prog_1_method_9_code 4 = .ok (.invokevirtual 124, 3) := by decide +kernel
theorem d_S_shake_7 : decode prog_1_method_9_code 7 = .ok (.iconst (-1), 1) := by decide +kernel
theorem d_S_shake_8 : decode prog_1_method_9_code 8 = .ok (.if_icmp .eq 13, 3) := by decide +kernel
theorem d_S_shake_11 : decode prog_1_method_9_code 11 = .ok (.new 37, 3) := by decide +kernel
theorem d_S_shake_14 : decode prog_1_method_9_code 14 = .ok (.dup, 1) := by decide +kernel
theorem d_S_shake_15 : decode prog_1_method_9_code 15 = .ok (.ldc 127, 2) := by decide +kernel
theorem d_S_shake_17 : decode prog_1_method_9_code 17 = .ok (.invokespecial 41, 3) := by decide +kernel
theorem d_S_shake_20 : decode prog_1_method_9_code 20 = .ok (.athrow, 1) := by decide +kernel
theorem d_S_shake_21 : decode prog_1_method_9_code 21 = .ok (.aload_n 0, 1) := by decide +kernel
theorem d_S_shake_22 : decode prog_1_method_9_code 22 = .ok (.getfield 10, 3) := by decide +kernel
theorem d_S_shake_25 : decode prog_1_method_9_code 25 = .ok (.invokevirtual 129, 3) := by decide +kernel
theorem d_S_shake_28 : decode prog_1_method_9_code 28 = .ok (.ifCond .ne 13, 3) := by decide +kernel
theorem d_S_shake_31 : decode prog_1_method_9_code 31 = .ok (.new 37, 3) := by decide +kernel
theorem d_S_shake_34 : decode prog_1_method_9_code 34 = .ok (.dup, 1) := by decide +kernel
theorem d_S_shake_35 : decode prog_1_method_9_code 35 = .ok (.ldc 132, 2) := by decide +kernel
theorem d_S_shake_37 : decode prog_1_method_9_code 37 = .ok (.invokespecial 41, 3) := by decide +kernel
theorem d_S_shake_40 : decode prog_1_method_9_code 40 = .ok (.athrow, 1) := by decide +kernel
theorem d_S_shake_41 : decode prog_1_method_9_code 41 = .ok (.aload_n 0, 1) := by decide +kernel
theorem d_S_shake_42 : decode prog_1_method_9_code 42 = .ok (.getfield 22, 3) := by decide +kernel
theorem d_S_shake_45 : decode prog_1_method_9_code 45 = .ok (.aload_n 0, 1) := by decide +kernel
theorem d_S_shake_46 : decode prog_1_method_9_code 46 = .ok (.getfield 10, 3) := by decide +kernel
theorem d_S_shake_49 : decode prog_1_method_9_code 49 = .ok (.aload_n 0, 1) := by decide +kernel
theorem d_S_shake_50 : decode prog_1_method_9_code 50 = .ok (.getfield 16, 3) := by decide +kernel
theorem d_S_shake_53 : decode prog_1_method_9_code 53 = .ok (.invokevirtual 134, 3) := by decide +kernel
theorem d_S_shake_56 : decode prog_1_method_9_code 56 = .ok (.aload_n 0, 1) := by decide +kernel
theorem d_S_shake_57 : decode prog_1_method_9_code 57 = .ok (.getfield 16, 3) := by decide +kernel
theorem d_S_shake_60 : decode prog_1_method_9_code 60 = .ok (.getfield 90, 3) := by decide +kernel
theorem d_S_shake_63 : decode prog_1_method_9_code 63 = .ok (.ireturn, 1) := by decide +kernel
theorem d_W_shake_0 : decode method_8_code 0 = .ok (.aload_n 1, 1) := by decide +kernel
theorem d_W_shake_1 : decode method_8_code 1 = .ok (.iconst 0, 1) := by decide +kernel
theorem d_W_shake_2 : decode method_8_code 2 = .ok (.aload_n 0, 1) := by decide +kernel
theorem d_W_shake_3 : decode method_8_code 3 = .ok (.invokevirtual 34, 3) := by decide +kernel
theorem d_W_shake_6 : decode method_8_code 6 = .ok (.i2l, 1) := by decide +kernel
theorem d_W_shake_7 : decode method_8_code 7 = .ok (.lastore, 1) := by decide +kernel
theorem d_W_shake_8 : decode method_8_code 8 = .ok (.goto 6, 3) := by decide +kernel
theorem d_W_shake_11 : decode method_8_code 11 = .ok (.astore_n 2, 1) := by decide +kernel
theorem d_W_shake_12 : decode method_8_code 12 = .ok (.iconst 1, 1) := by decide +kernel
theorem d_W_shake_13 : decode method_8_code 13 = .ok (.ireturn, 1) := by decide +kernel
theorem d_W_shake_14 : decode method_8_code 14 = .ok (.iconst 0, 1) := by decide +kernel
theorem d_W_shake_15 : decode method_8_code 15 = .ok (.ireturn, 1) := by decide +kernel
theorem d_S_chosen_0 : decode prog_1_method_17_code 0 = .ok (.iload_n 1, 1) := by decide +kernel
theorem d_S_chosen_1 : decode prog_1_method_17_code 1 = .ok (.ifCond .eq 10, 3) := by decide +kernel
theorem d_S_chosen_4 : decode prog_1_method_17_code 4 = .ok (.aload_n 0, 1) := by decide +kernel
theorem d_S_chosen_5 : decode prog_1_method_17_code 5 = .ok (.getfield 16, 3) := by decide +kernel
theorem d_S_chosen_8 : decode prog_1_method_17_code 8 = .ok (.goto 7, 3) := by decide +kernel
theorem d_S_chosen_11 : decode prog_1_method_17_code 11 = .ok (.aload_n 0, 1) := by decide +kernel
theorem d_S_chosen_12 : decode prog_1_method_17_code 12 = .ok (.getfield 10, 3) := by decide +kernel
theorem d_S_chosen_15 : decode prog_1_method_17_code 15 = .ok (.areturn, 1) := by decide +kernel
theorem d_S_count_0 : decode prog_1_method_10_code 0 = .ok (.aload_n 0, 1) := by decide +kernel
theorem d_S_count_1 : decode prog_1_method_10_code 1 = .ok (.iload_n 1, 1) := by decide +kernel
theorem d_S_count_2 : decode prog_1_method_10_code 2 = .ok (.invokevirtual 138, 3) := by decide +kernel
theorem d_S_count_5 : decode prog_1_method_10_code 5 = .ok (.astore_n 3, 1) := by decide +kernel
theorem d_S_count_6 : decode prog_1_method_10_code 6 = .ok (.iload_n 2, 1) := by decide +kernel
theorem d_S_count_7 : decode prog_1_method_10_code 7 = .ok (.tableswitch 40 0 2 #[25, 30, 35], 25) := by decide +kernel
theorem d_S_count_32 : decode prog_1_method_10_code 32 = .ok (.aload_n 3, 1) := by decide +kernel
theorem d_S_count_33 : decode prog_1_method_10_code 33 = .ok (.getfield 33, 3) := by decide +kernel
theorem d_S_count_36 : decode prog_1_method_10_code 36 = .ok (.ireturn, 1) := by decide +kernel
theorem d_S_count_37 : decode prog_1_method_10_code 37 = .ok (.aload_n 3, 1) := by decide +kernel
theorem d_S_count_38 : decode prog_1_method_10_code 38 = .ok (.getfield 90, 3) := by decide +kernel
theorem d_S_count_41 : decode prog_1_method_10_code 41 = .ok (.ireturn, 1) := by decide +kernel
theorem d_S_count_42 : decode prog_1_method_10_code 42 = .ok (.aload_n 3, 1) := by decide +kernel
theorem d_S_count_43 : decode prog_1_method_10_code 43 = .ok (.invokevirtual 129, 3) := by decide +kernel
theorem d_S_count_46 : decode prog_1_method_10_code 46 = .ok (.ireturn, 1) := by decide +kernel
theorem d_S_count_47 : decode prog_1_method_10_code 47 = .ok (.new 61, 3) := by decide +kernel
theorem d_S_count_50 : decode prog_1_method_10_code 50 = .ok (.dup, 1) := by decide +kernel
theorem d_S_count_51 : decode prog_1_method_10_code 51 = .ok (.ldc 142, 2) := by decide +kernel
theorem d_S_count_53 : decode prog_1_method_10_code 53 = .ok (.invokespecial 65, 3) := by decide +kernel
theorem d_S_count_56 : decode prog_1_method_10_code 56 = .ok (.athrow, 1) := by decide +kernel
theorem d_W_count_0 : decode method_9_code 0 = .ok (.aload_n 3, 1) := by decide +kernel
theorem d_W_count_1 : decode method_9_code 1 = .ok (.iconst 0, 1) := by decide +kernel
theorem d_W_count_2 : decode method_9_code 2 = .ok (.aload_n 0, 1) := by decide +kernel
theorem d_W_count_3 : decode method_9_code 3 = .ok (.iload_n 1, 1) := by decide +kernel
theorem d_W_count_4 : decode method_9_code 4 = .ok (.iload_n 2, 1) := by decide +kernel
theorem d_W_count_5 : decode method_9_code 5 = .ok (.invokevirtual 37, 3) := by decide +kernel
theorem d_W_count_8 : decode method_9_code 8 = .ok (.i2l, 1) := by decide +kernel
theorem d_W_count_9 : decode method_9_code 9 = .ok (.lastore, 1) := by decide +kernel
theorem d_W_count_10 : decode method_9_code 10 = .ok (.goto 7, 3) := by decide +kernel
theorem d_W_count_13 : decode method_9_code 13 = .ok (.astore 4, 2) := by decide +kernel
theorem d_W_count_15 : decode method_9_code 15 = .ok (.iconst 1, 1) := by decide +kernel
theorem d_W_count_16 : decode method_9_code 16 = .ok (.ireturn, 1) := by decide +kernel
theorem d_W_count_17 : decode method_9_code 17 = .ok (.iconst 0, 1) := by decide +kernel
theorem d_W_count_18 : decode method_9_code 18 = .ok (.ireturn, 1) := by decide +kernel
theorem d_S_pool_0 : decode prog_1_method_11_code 0 = .ok (.aload_n 0, 1) := by decide +kernel
theorem d_S_pool_1 : decode prog_1_method_11_code 1 = .ok (.iload_n 1, 1) := by decide +kernel
theorem d_S_pool_2 : decode prog_1_method_11_code 2 = .ok (.invokevirtual 138, 3) := by decide +kernel
theorem d_S_pool_5 : decode prog_1_method_11_code 5 = .ok (.astore_n 3, 1) := by decide +kernel
theorem d_S_pool_6 : decode prog_1_method_11_code 6 = .ok (.aload_n 3, 1) := by decide +kernel
theorem d_S_pool_7 : decode prog_1_method_11_code 7 = .ok (.iload_n 2, 1) := by decide +kernel
theorem d_S_pool_8 : decode prog_1_method_11_code 8 = .ok (.invokevirtual 48, 3) := by decide +kernel
theorem d_S_pool_11 : decode prog_1_method_11_code 11 = .ok (.ifCond .ne 13, 3) := by decide +kernel
theorem d_S_pool_14 : decode prog_1_method_11_code 14 = .ok (.new 52, 3) := by decide +kernel
theorem d_S_pool_17 : decode prog_1_method_11_code 17 = .ok (.dup, 1) := by decide +kernel
theorem d_S_pool_18 : decode prog_1_method_11_code 18 = .ok (.ldc 54, 2) := by decide +kernel
theorem d_S_pool_20 : decode prog_1_method_11_code 20 = .ok (.invokespecial 56, 3) := by decide +kernel
theorem d_S_pool_23 : decode prog_1_method_11_code 23 = .ok (.athrow, 1) := by decide +kernel
theorem d_S_pool_24 : decode prog_1_method_11_code 24 = .ok (.aload_n 3, 1) := by decide +kernel
theorem d_S_pool_25 : decode prog_1_method_11_code 25 = .ok (.getfield 66, 3) := by decide +kernel
theorem d_S_pool_28 : decode prog_1_method_11_code 28 = .ok (.iload_n 2, 1) := by decide +kernel
theorem d_S_pool_29 : decode prog_1_method_11_code 29 = .ok (.aaload, 1) := by decide +kernel
theorem d_S_pool_30 : decode prog_1_method_11_code 30 = .ok (.getfield 70, 3) := by decide +kernel
theorem d_S_pool_33 : decode prog_1_method_11_code 33 = .ok (.ireturn, 1) := by decide +kernel
theorem d_W_pool_0 : decode method_10_code 0 = .ok (.aload_n 3, 1) := by decide +kernel
theorem d_W_pool_1 : decode method_10_code 1 = .ok (.iconst 0, 1) := by decide +kernel
theorem d_W_pool_2 : decode method_10_code 2 = .ok (.aload_n 0, 1) := by decide +kernel
theorem d_W_pool_3 : decode method_10_code 3 = .ok (.iload_n 1, 1) := by decide +kernel
theorem d_W_pool_4 : decode method_10_code 4 = .ok (.iload_n 2, 1) := by decide +kernel
theorem d_W_pool_5 : decode method_10_code 5 = .ok (.invokevirtual 41, 3) := by decide +kernel
theorem d_W_pool_8 : decode method_10_code 8 = .ok (.i2l, 1) := by decide +kernel
theorem d_W_pool_9 : decode method_10_code 9 = .ok (.lastore, 1) := by decide +kernel
theorem d_W_pool_10 : decode method_10_code 10 = .ok (.goto 7, 3) := by decide +kernel
theorem d_W_pool_13 : decode method_10_code 13 = .ok (.astore 4, 2) := by decide +kernel
theorem d_W_pool_15 : decode method_10_code 15 = .ok (.iconst 1, 1) := by decide +kernel
theorem d_W_pool_16 : decode method_10_code 16 = .ok (.ireturn, 1) := by decide +kernel
theorem d_W_pool_17 : decode method_10_code 17 = .ok (.iconst 0, 1) := by decide +kernel
theorem d_W_pool_18 : decode method_10_code 18 = .ok (.ireturn, 1) := by decide +kernel
theorem d_S_constantAt_0 : decode prog_1_method_12_code 0 = .ok (.aload_n 0, 1) := by decide +kernel
theorem d_S_constantAt_1 : decode prog_1_method_12_code 1 = .ok (.iload_n 1, 1) := by decide +kernel
theorem d_S_constantAt_2 : decode prog_1_method_12_code 2 = .ok (.invokevirtual 138, 3) := by decide +kernel
theorem d_S_constantAt_5 : decode prog_1_method_12_code 5 = .ok (.astore 5, 2) := by decide +kernel
theorem d_S_constantAt_7 : decode prog_1_method_12_code 7 = .ok (.aload 5, 2) := by decide +kernel
theorem d_S_constantAt_9 : decode prog_1_method_12_code 9 = .ok (.iload_n 2, 1) := by decide +kernel
theorem d_S_constantAt_10 : decode prog_1_method_12_code 10 = .ok (.invokevirtual 48, 3) := by decide +kernel
theorem d_S_constantAt_13 : decode prog_1_method_12_code 13 = .ok (.ifCond .ne 13, 3) := by decide +kernel
theorem d_S_constantAt_16 : decode prog_1_method_12_code 16 = .ok (.new 52, 3) := by decide +kernel
theorem d_S_constantAt_19 : decode prog_1_method_12_code 19 = .ok (.dup, 1) := by decide +kernel
theorem d_S_constantAt_20 : decode prog_1_method_12_code 20 = .ok (.ldc 54, 2) := by decide +kernel
theorem d_S_constantAt_22 : decode prog_1_method_12_code 22 = .ok (.invokespecial 56, 3) := by decide +kernel
theorem d_S_constantAt_25 : decode prog_1_method_12_code 25 = .ok (.athrow, 1) := by decide +kernel
theorem d_S_constantAt_26 : decode prog_1_method_12_code 26 = .ok (.aload 5, 2) := by decide +kernel
theorem d_S_constantAt_28 : decode prog_1_method_12_code 28 = .ok (.getfield 66, 3) := by decide +kernel
theorem d_S_constantAt_31 : decode prog_1_method_12_code 31 = .ok (.iload_n 2, 1) := by decide +kernel
theorem d_S_constantAt_32 : decode prog_1_method_12_code 32 = .ok (.aaload, 1) := by decide +kernel
theorem d_S_constantAt_33 : decode prog_1_method_12_code 33 = .ok (.astore 6, 2) := by decide +kernel
theorem d_S_constantAt_35 : decode prog_1_method_12_code 35 = .ok (.aload 6, 2) := by decide +kernel
theorem d_S_constantAt_37 : decode prog_1_method_12_code 37 = .ok (.iload_n 3, 1) := by decide +kernel
theorem d_S_constantAt_38 : decode prog_1_method_12_code 38 = .ok (.invokevirtual 144, 3) := by decide +kernel
theorem d_S_constantAt_41 : decode prog_1_method_12_code 41 = .ok (.ifCond .ne 13, 3) := by decide +kernel
theorem d_S_constantAt_44 : decode prog_1_method_12_code 44 = .ok (.new 52, 3) := by decide +kernel
theorem d_S_constantAt_47 : decode prog_1_method_12_code 47 = .ok (.dup, 1) := by decide +kernel
theorem d_S_constantAt_48 : decode prog_1_method_12_code 48 = .ok (.ldc 147, 2) := by decide +kernel
theorem d_S_constantAt_50 : decode prog_1_method_12_code 50 = .ok (.invokespecial 56, 3) := by decide +kernel
theorem d_S_constantAt_53 : decode prog_1_method_12_code 53 = .ok (.athrow, 1) := by decide +kernel
theorem d_S_constantAt_54 : decode prog_1_method_12_code 54 = .ok (.iload 4, 2) := by decide +kernel
theorem d_S_constantAt_56 : decode prog_1_method_12_code 56 = .ok (.tableswitch 52 0 2 #[28, 36, 44], 28) := by decide +kernel
theorem d_S_constantAt_84 : decode prog_1_method_12_code 84 = .ok (.aload 6, 2) := by decide +kernel
theorem d_S_constantAt_86 : decode prog_1_method_12_code 86 = .ok (.getfield 149, 3) := by decide +kernel
theorem d_S_constantAt_89 : decode prog_1_method_12_code 89 = .ok (.iload_n 3, 1) := by decide +kernel
theorem d_S_constantAt_90 : decode prog_1_method_12_code 90 = .ok (.iaload, 1) := by decide +kernel
theorem d_S_constantAt_91 : decode prog_1_method_12_code 91 = .ok (.ireturn, 1) := by decide +kernel
theorem d_S_constantAt_92 : decode prog_1_method_12_code 92 = .ok (.aload 6, 2) := by decide +kernel
theorem d_S_constantAt_94 : decode prog_1_method_12_code 94 = .ok (.getfield 153, 3) := by decide +kernel
theorem d_S_constantAt_97 : decode prog_1_method_12_code 97 = .ok (.iload_n 3, 1) := by decide +kernel
theorem d_S_constantAt_98 : decode prog_1_method_12_code 98 = .ok (.iaload, 1) := by decide +kernel
theorem d_S_constantAt_99 : decode prog_1_method_12_code 99 = .ok (.ireturn, 1) := by decide +kernel
theorem d_S_constantAt_100 : decode prog_1_method_12_code 100 = .ok (.aload 6, 2) := by decide +kernel
theorem d_S_constantAt_102 : decode prog_1_method_12_code 102 = .ok (.getfield 156, 3) := by decide +kernel
theorem d_S_constantAt_105 : decode prog_1_method_12_code 105 = .ok (.iload_n 3, 1) := by decide +kernel
theorem d_S_constantAt_106 : decode prog_1_method_12_code 106 = .ok (.iaload, 1) := by decide +kernel
theorem d_S_constantAt_107 : decode prog_1_method_12_code 107 = .ok (.ireturn, 1) := by decide +kernel
theorem d_S_constantAt_108 : decode prog_1_method_12_code 108 = .ok (.new 61, 3) := by decide +kernel
theorem d_S_constantAt_111 : decode prog_1_method_12_code 111 = .ok (.dup, 1) := by decide +kernel
theorem d_S_constantAt_112 : decode prog_1_method_12_code 112 = .ok (.ldc 159, 2) := by decide +kernel
theorem d_S_constantAt_114 : decode prog_1_method_12_code 114 = .ok (.invokespecial 65, 3) := by decide +kernel
theorem d_S_constantAt_117 : decode prog_1_method_12_code 117 = .ok (.athrow, 1) := by decide +kernel
theorem d_W_constantAt_0 : decode method_11_code 0 = .ok (.aload 5, 2) := by decide +kernel
theorem d_W_constantAt_2 : decode method_11_code 2 = .ok (.iconst 0, 1) := by decide +kernel
theorem d_W_constantAt_3 : decode method_11_code 3 = .ok (.aload_n 0, 1) := by decide +kernel
theorem d_W_constantAt_4 : decode method_11_code 4 = .ok (.iload_n 1, 1) := by decide +kernel
theorem d_W_constantAt_5 : decode method_11_code 5 = .ok (.iload_n 2, 1) := by decide +kernel
theorem d_W_constantAt_6 : decode method_11_code 6 = .ok (.iload_n 3, 1) := by decide +kernel
theorem d_W_constantAt_7 : decode method_11_code 7 = .ok (.iload 4, 2) := by decide +kernel
theorem d_W_constantAt_9 : decode method_11_code 9 = .ok (.invokevirtual 44, 3) := by decide +kernel
theorem d_W_constantAt_12 : decode method_11_code 12 = .ok (.i2l, 1) := by decide +kernel
theorem d_W_constantAt_13 : decode method_11_code 13 = .ok (.lastore, 1) := by decide +kernel
theorem d_W_constantAt_14 : decode method_11_code 14 = .ok (.goto 11, 3) := by decide +kernel
theorem d_W_constantAt_17 : decode method_11_code 17 = .ok (.astore 6, 2) := by decide +kernel
theorem d_W_constantAt_19 : decode method_11_code 19 = .ok (.iconst 1, 1) := by decide +kernel
theorem d_W_constantAt_20 : decode method_11_code 20 = .ok (.ireturn, 1) := by decide +kernel
theorem d_W_constantAt_21 : decode method_11_code 21 = .ok (.astore 6, 2) := by decide +kernel
theorem d_W_constantAt_23 : decode method_11_code 23 = .ok (.iconst 2, 1) := by decide +kernel
theorem d_W_constantAt_24 : decode method_11_code 24 = .ok (.ireturn, 1) := by decide +kernel
theorem d_W_constantAt_25 : decode method_11_code 25 = .ok (.iconst 0, 1) := by decide +kernel
theorem d_W_constantAt_26 : decode method_11_code 26 = .ok (.ireturn, 1) := by decide +kernel
theorem d_S_memberAt_0 : decode prog_1_method_13_code 0 = .ok (.aload_n 0, 1) := by decide +kernel
theorem d_S_memberAt_1 : decode prog_1_method_13_code 1 = .ok (.iload_n 1, 1) := by decide +kernel
theorem d_S_memberAt_2 : decode prog_1_method_13_code 2 = .ok (.invokevirtual 138, 3) := by decide +kernel
theorem d_S_memberAt_5 : decode prog_1_method_13_code 5 = .ok (.astore 4, 2) := by decide +kernel
theorem d_S_memberAt_7 : decode prog_1_method_13_code 7 = .ok (.aload 4, 2) := by decide +kernel
theorem d_S_memberAt_9 : decode prog_1_method_13_code 9 = .ok (.iload_n 2, 1) := by decide +kernel
theorem d_S_memberAt_10 : decode prog_1_method_13_code 10 = .ok (.invokevirtual 161, 3) := by decide +kernel
theorem d_S_memberAt_13 : decode prog_1_method_13_code 13 = .ok (.ifCond .ne 13, 3) := by decide +kernel
theorem d_S_memberAt_16 : decode prog_1_method_13_code 16 = .ok (.new 52, 3) := by decide +kernel
theorem d_S_memberAt_19 : decode prog_1_method_13_code 19 = .ok (.dup, 1) := by decide +kernel
theorem d_S_memberAt_20 : decode prog_1_method_13_code 20 = .ok (.ldc 164, 2) := by decide +kernel
theorem d_S_memberAt_22 : decode prog_1_method_13_code 22 = .ok (.invokespecial 56, 3) := by decide +kernel
theorem d_S_memberAt_25 : decode prog_1_method_13_code 25 = .ok (.athrow, 1) := by decide +kernel
theorem d_S_memberAt_26 : decode prog_1_method_13_code 26 = .ok (.aload 4, 2) := by decide +kernel
theorem d_S_memberAt_28 : decode prog_1_method_13_code 28 = .ok (.getfield 103, 3) := by decide +kernel
theorem d_S_memberAt_31 : decode prog_1_method_13_code 31 = .ok (.iload_n 2, 1) := by decide +kernel
theorem d_S_memberAt_32 : decode prog_1_method_13_code 32 = .ok (.aaload, 1) := by decide +kernel
theorem d_S_memberAt_33 : decode prog_1_method_13_code 33 = .ok (.astore 5, 2) := by decide +kernel
theorem d_S_memberAt_35 : decode prog_1_method_13_code 35 = .ok (.iload_n 3, 1) := by decide +kernel
theorem d_S_memberAt_36 : decode prog_1_method_13_code 36 = .ok (.tableswitch 85 0 5 #[40, 46, 52, 58, 64, 78], 40) := by decide +kernel
theorem d_S_memberAt_76 : decode prog_1_method_13_code 76 = .ok (.aload 5, 2) := by decide +kernel
theorem d_S_memberAt_78 : decode prog_1_method_13_code 78 = .ok (.getfield 166, 3) := by decide +kernel
theorem d_S_memberAt_81 : decode prog_1_method_13_code 81 = .ok (.ireturn, 1) := by decide +kernel
theorem d_S_memberAt_82 : decode prog_1_method_13_code 82 = .ok (.aload 5, 2) := by decide +kernel
theorem d_S_memberAt_84 : decode prog_1_method_13_code 84 = .ok (.getfield 169, 3) := by decide +kernel
theorem d_S_memberAt_87 : decode prog_1_method_13_code 87 = .ok (.ireturn, 1) := by decide +kernel
theorem d_S_memberAt_88 : decode prog_1_method_13_code 88 = .ok (.aload 5, 2) := by decide +kernel
theorem d_S_memberAt_90 : decode prog_1_method_13_code 90 = .ok (.getfield 172, 3) := by decide +kernel
theorem d_S_memberAt_93 : decode prog_1_method_13_code 93 = .ok (.ireturn, 1) := by decide +kernel
theorem d_S_memberAt_94 : decode prog_1_method_13_code 94 = .ok (.aload 5, 2) := by decide +kernel
theorem d_S_memberAt_96 : decode prog_1_method_13_code 96 = .ok (.getfield 107, 3) := by decide +kernel
theorem d_S_memberAt_99 : decode prog_1_method_13_code 99 = .ok (.ireturn, 1) := by decide +kernel
theorem d_S_memberAt_100 : decode prog_1_method_13_code 100 = .ok (.aload 5, 2) := by decide +kernel
theorem d_S_memberAt_102 : decode prog_1_method_13_code 102 = .ok (.getfield 117, 3) := by decide +kernel
theorem d_S_memberAt_105 : decode prog_1_method_13_code 105 = .ok (.ifCond .eq 7, 3) := by decide +kernel
theorem d_S_memberAt_108 : decode prog_1_method_13_code 108 = .ok (.iconst 1, 1) := by decide +kernel
theorem d_S_memberAt_109 : decode prog_1_method_13_code 109 = .ok (.goto 4, 3) := by decide +kernel
theorem d_S_memberAt_112 : decode prog_1_method_13_code 112 = .ok (.iconst 0, 1) := by decide +kernel
theorem d_S_memberAt_113 : decode prog_1_method_13_code 113 = .ok (.ireturn, 1) := by decide +kernel
theorem d_S_memberAt_114 : decode prog_1_method_13_code 114 = .ok (.aload 4, 2) := by decide +kernel
theorem d_S_memberAt_116 : decode prog_1_method_13_code 116 = .ok (.iload_n 2, 1) := by decide +kernel
theorem d_S_memberAt_117 : decode prog_1_method_13_code 117 = .ok (.invokevirtual 175, 3) := by decide +kernel
theorem d_S_memberAt_120 : decode prog_1_method_13_code 120 = .ok (.ireturn, 1) := by decide +kernel
theorem d_S_memberAt_121 : decode prog_1_method_13_code 121 = .ok (.new 61, 3) := by decide +kernel
theorem d_S_memberAt_124 : decode prog_1_method_13_code 124 = .ok (.dup, 1) := by decide +kernel
theorem d_S_memberAt_125 : decode prog_1_method_13_code 125 = .ok (.ldc 179, 2) := by decide +kernel
theorem d_S_memberAt_127 : decode prog_1_method_13_code 127 = .ok (.invokespecial 65, 3) := by decide +kernel
theorem d_S_memberAt_130 : decode prog_1_method_13_code 130 = .ok (.athrow, 1) := by decide +kernel
theorem d_W_memberAt_0 : decode method_12_code 0 = .ok (.aload 4, 2) := by decide +kernel
theorem d_W_memberAt_2 : decode method_12_code 2 = .ok (.iconst 0, 1) := by decide +kernel
theorem d_W_memberAt_3 : decode method_12_code 3 = .ok (.aload_n 0, 1) := by decide +kernel
theorem d_W_memberAt_4 : decode method_12_code 4 = .ok (.iload_n 1, 1) := by decide +kernel
theorem d_W_memberAt_5 : decode method_12_code 5 = .ok (.iload_n 2, 1) := by decide +kernel
theorem d_W_memberAt_6 : decode method_12_code 6 = .ok (.iload_n 3, 1) := by decide +kernel
theorem d_W_memberAt_7 : decode method_12_code 7 = .ok (.invokevirtual 48, 3) := by decide +kernel
theorem d_W_memberAt_10 : decode method_12_code 10 = .ok (.i2l, 1) := by decide +kernel
theorem d_W_memberAt_11 : decode method_12_code 11 = .ok (.lastore, 1) := by decide +kernel
theorem d_W_memberAt_12 : decode method_12_code 12 = .ok (.goto 11, 3) := by decide +kernel
theorem d_W_memberAt_15 : decode method_12_code 15 = .ok (.astore 5, 2) := by decide +kernel
theorem d_W_memberAt_17 : decode method_12_code 17 = .ok (.iconst 1, 1) := by decide +kernel
theorem d_W_memberAt_18 : decode method_12_code 18 = .ok (.ireturn, 1) := by decide +kernel
theorem d_W_memberAt_19 : decode method_12_code 19 = .ok (.astore 5, 2) := by decide +kernel
theorem d_W_memberAt_21 : decode method_12_code 21 = .ok (.iconst 2, 1) := by decide +kernel
theorem d_W_memberAt_22 : decode method_12_code 22 = .ok (.ireturn, 1) := by decide +kernel
theorem d_W_memberAt_23 : decode method_12_code 23 = .ok (.iconst 0, 1) := by decide +kernel
theorem d_W_memberAt_24 : decode method_12_code 24 = .ok (.ireturn, 1) := by decide +kernel
def g_K_lookAtNames_80 : Nat → Nat → Nat → Int32 → XM → XP
  | 0, _, _, _, _ => none
  | n + 1, v0, v1, v2, M =>
    gI M 21 v1 3 fun t1 =>
    if t1 ≤ v2 then
    (some (.inl none, M))
    else
    gR M 21 v1 1 fun t2 =>
    aR M 11 t2 v2 fun t3 =>
    gI M 23 t3 3 fun t4 =>
    if t4 = 0 then
    (g_K_lookAtNames_80 n v0 v1 ((v2 + 1)) M)
    else
    gR M 24 v0 4 fun t5 =>
    rv M 21 v1 <|
    cI (g_P_nameOf v1 v2 M) fun t8 M7 =>
    sI M7 t5 t8 2 fun M9 =>
    g_K_lookAtNames_80 n v0 v1 ((v2 + 1)) M9
def g_K_lookAtNames_20 (r2 : Nat → Nat → Int32 → XM → XP) : Nat → Nat → Nat → Int32 → Nat → Int32 → XM → XP
  | 0, _, _, _, _, _, _ => none
  | n + 1, v0, v1, v2, v3, v4, M =>
    gI M 22 v3 3 fun t1 =>
    if t1 ≤ v4 then
    (r2 v0 v1 ((v2 + 1)) M)
    else
    gR M 24 v0 2 fun t2 =>
    aR M 13 t2 v2 fun t3 =>
    aI M t3 v4 fun t4 =>
    if t4 = (-1) then
    (g_K_lookAtNames_20 r2 n v0 v1 v2 v3 ((v4 + 1)) M)
    else
    gR M 22 v3 0 fun t5 =>
    aI M t5 v4 fun t6 =>
    if ¬ t6 = 1 then
    (g_K_lookAtNames_20 r2 n v0 v1 v2 v3 ((v4 + 1)) M)
    else
    gR M 24 v0 4 fun t7 =>
    gR M 22 v3 1 fun t8 =>
    aI M t8 v4 fun t9 =>
    sI M t7 t9 1 fun M10 =>
    g_K_lookAtNames_20 r2 n v0 v1 v2 v3 ((v4 + 1)) M10
def g_K_lookAtNames_2 : Nat → Nat → Nat → Int32 → XM → XP
  | 0, _, _, _, _ => none
  | n + 1, v0, v1, v2, M =>
    gI M 21 v1 2 fun t1 =>
    if t1 ≤ v2 then
    (g_K_lookAtNames_80 FU v0 v1 0 M)
    else
    gR M 21 v1 0 fun t2 =>
    aR M 10 t2 v2 fun t3 =>
    g_K_lookAtNames_20 (g_K_lookAtNames_2 n) FU v0 v1 v2 t3 0 M
def g_K_lookAtNames (v0 : Nat) (v1 : Nat) (M : XM) : XP :=
    g_K_lookAtNames_2 FU v0 v1 0 M
def g_K_leastFreeName_2 : Nat → Nat → Int32 → XM → XP
  | 0, _, _, _ => none
  | n + 1, v0, v2, M =>
    if 100 ≤ v2 then
    (some (.inl (some (.int (-1))), M))
    else
    gR M 24 v0 4 fun t1 =>
    aI M t1 v2 fun t2 =>
    if t2 = 2 then
    (g_K_leastFreeName_2 n v0 ((v2 + 1)) M)
    else
    some (.inl (some (.int v2)), M)
def g_K_leastFreeName (v0 : Nat) (v1 : Int32) (M : XM) : XP :=
    g_K_leastFreeName_2 FU v0 v1 M
def g_K_giveNames_4 : Nat → Nat → Int32 → Int32 → XM → XP
  | 0, _, _, _, _ => none
  | n + 1, v0, v1, v2, M =>
    if 100 ≤ v2 then
    (some (.inl none, M))
    else
    gR M 24 v0 4 fun t1 =>
    aI M t1 v2 fun t2 =>
    if ¬ t2 = 2 then
    (gR M 24 v0 4 fun t3 =>
    aI M t3 v2 fun t4 =>
    if ¬ t4 = 1 then
    (g_K_giveNames_4 n v0 v1 ((v2 + 1)) M)
    else
    rv M 24 v0 <|
    cI (g_K_leastFreeName v0 v1 M) fun t7 M6 =>
    gR M6 24 v0 3 fun t8 =>
    sI M6 t8 v2 t7 fun M9 =>
    g_K_giveNames_4 n v0 ((t7 + 1)) ((v2 + 1)) M9)
    else
    gR M 24 v0 3 fun t10 =>
    sI M t10 v2 v2 fun M11 =>
    g_K_giveNames_4 n v0 v1 ((v2 + 1)) M11
def g_K_giveNames (v0 : Nat) (M : XM) : XP :=
    g_K_giveNames_4 FU v0 0 0 M
def g_K_newFirst (v0 : Nat) (v1 : Int32) (v2 : Int32) (v3 : Nat) (M : XM) : XP :=
    if v1 = 1 then
    (gR M 24 v0 3 fun t5 =>
    aI M t5 v2 fun t6 =>
    some (.inl (some (.int t6)), M))
    else
    if v1 = 2 then
    (gR M 24 v0 1 fun t3 =>
    aI M t3 v2 fun t4 =>
    some (.inl (some (.int t4)), M))
    else
    if v1 = 3 then
    (aI M v3 v2 fun t2 =>
    some (.inl (some (.int t2)), M))
    else
    if v1 = 4 then
    (aI M v3 v2 fun t1 =>
    some (.inl (some (.int t1)), M))
    else
    some (.inl (some (.int v2)), M)
def g_K_writePool_66 (r3 : Nat → Nat → Nat → Nat → Int32 → XM → XP) (v0 : Nat) (v1 : Nat) (v2 : Nat) (v3 : Nat) (v4 : Int32) (v5 : Int32) (v6 : Int32) (s0 : Int32) (M : XM) : XP :=
    rv M 22 v3 <|
    cI (g_Q_append v3 v5 v6 s0 M) fun t3 M2 =>
    r3 v0 v1 v2 v3 ((v4 + 1)) M2
def g_K_writePool_3 : Nat → Nat → Nat → Nat → Nat → Int32 → XM → XP
  | 0, _, _, _, _, _, _ => none
  | n + 1, v0, v1, v2, v3, v4, M =>
    gI M 22 v1 3 fun t1 =>
    if t1 ≤ v4 then
    (some (.inl none, M))
    else
    aI M v2 v4 fun t2 =>
    if t2 = (-1) then
    (g_K_writePool_3 n v0 v1 v2 v3 ((v4 + 1)) M)
    else
    gR M 22 v1 0 fun t3 =>
    aI M t3 v4 fun t4 =>
    gR M 22 v1 1 fun t5 =>
    aI M t5 v4 fun t6 =>
    rv M 24 v0 <|
    cI (g_K_newFirst v0 t4 t6 v2 M) fun t9 M8 =>
    cI (g_S_hasTwoPlaces t4 M8) fun t11 M10 =>
    if t11 = 0 then
    (g_K_writePool_66 (g_K_writePool_3 n) v0 v1 v2 v3 v4 t4 t9 0 M10)
    else
    gR M10 22 v1 2 fun t12 =>
    aI M10 t12 v4 fun t13 =>
    aI M10 v2 t13 fun t14 =>
    g_K_writePool_66 (g_K_writePool_3 n) v0 v1 v2 v3 v4 t4 t9 t14 M10
def g_K_writePool (v0 : Nat) (v1 : Nat) (v2 : Nat) (v3 : Nat) (M : XM) : XP :=
    g_K_writePool_3 FU v0 v1 v2 v3 0 M
def g_K_writeMember_56 : Nat → Nat → Nat → Nat → Int32 → XM → XP
  | 0, _, _, _, _, _ => none
  | n + 1, v1, v3, v5, v6, M =>
    gI M 23 v1 4 fun t1 =>
    if t1 ≤ v6 then
    (some (.inl none, M))
    else
    gR M 23 v1 5 fun t2 =>
    aI M t2 v6 fun t3 =>
    gR M 23 v1 6 fun t4 =>
    aI M t4 v6 fun t5 =>
    cI (g_S_usesConstant t3 M) fun t7 M6 =>
    if t7 = 0 then
    (rv M6 23 v5 <|
    cI (g_B_append v5 t3 t5 M6) fun t10 M9 =>
    g_K_writeMember_56 n v1 v3 v5 ((v6 + 1)) M9)
    else
    aI M6 v3 t5 fun t11 =>
    rv M6 23 v5 <|
    cI (g_B_append v5 t3 t11 M6) fun t14 M13 =>
    g_K_writeMember_56 n v1 v3 v5 ((v6 + 1)) M13
def g_K_writeMember (v0 : Nat) (v1 : Nat) (v2 : Nat) (M : XM) : XP :=
    gR M 24 v0 2 fun t1 =>
    gI M 23 v1 0 fun t2 =>
    aR M 13 t1 t2 fun t3 =>
    gR M 24 v0 1 fun t4 =>
    gI M 23 v1 0 fun t5 =>
    aI M t4 t5 fun t6 =>
    gI M 23 v1 1 fun t7 =>
    aI M t3 t7 fun t8 =>
    gI M 23 v1 2 fun t9 =>
    rv M 21 v2 <|
    cI (g_P_startMember v2 t6 t8 t9 M) fun t12 M11 =>
    gR M11 21 v2 1 fun t13 =>
    aR M11 11 t13 t12 fun t14 =>
    gI M11 23 v1 3 fun t15 =>
    uZ M11 23 t14 3 t15 fun M16 =>
    g_K_writeMember_56 FU v1 t3 t14 0 M16
def g_K_write_57 : Nat → Nat → Nat → Nat → Int32 → XM → XP
  | 0, _, _, _, _, _ => none
  | n + 1, v0, v1, v2, v3, M =>
    gI M 21 v1 3 fun t1 =>
    if t1 ≤ v3 then
    (some (.inl none, M))
    else
    gR M 24 v0 0 fun t2 =>
    aI M t2 v3 fun t3 =>
    if t3 = (-1) then
    (g_K_write_57 n v0 v1 v2 ((v3 + 1)) M)
    else
    gR M 21 v1 1 fun t4 =>
    aR M 11 t4 v3 fun t5 =>
    rv M 24 v0 <|
    cV (g_K_writeMember v0 t5 v2 M) fun M7 =>
    g_K_write_57 n v0 v1 v2 ((v3 + 1)) M7
def g_K_write_6 : Nat → Nat → Nat → Nat → Int32 → XM → XP
  | 0, _, _, _, _, _ => none
  | n + 1, v0, v1, v2, v3, M =>
    gI M 21 v1 2 fun t1 =>
    if t1 ≤ v3 then
    (g_K_write_57 FU v0 v1 v2 0 M)
    else
    gR M 24 v0 1 fun t2 =>
    aI M t2 v3 fun t3 =>
    if t3 = (-1) then
    (g_K_write_6 n v0 v1 v2 ((v3 + 1)) M)
    else
    gR M 21 v1 0 fun t4 =>
    aR M 10 t4 v3 fun t5 =>
    gR M 24 v0 2 fun t6 =>
    aR M 13 t6 v3 fun t7 =>
    gR M 21 v2 0 fun t8 =>
    rv M 21 v2 <|
    cI (g_P_startClass v2  M) fun t11 M10 =>
    aR M10 10 t8 t11 fun t12 =>
    rv M10 24 v0 <|
    cV (g_K_writePool v0 t5 t7 t12 M10) fun M14 =>
    g_K_write_6 n v0 v1 v2 ((v3 + 1)) M14
def g_K_write (v0 : Nat) (v1 : Nat) (v2 : Nat) (M : XM) : XP :=
    rv M 21 v2 <|
    cV (g_P_empty v2  M) fun M2 =>
    g_K_write_6 FU v0 v1 v2 0 M2
def g_K_rebuild (v0 : Nat) (v1 : Nat) (v2 : Nat) (M : XM) : XP :=
    rv M 24 v0 <|
    cV (g_K_forget v0  M) fun M2 =>
    rv M2 24 v0 <|
    cV (g_K_keepEntries v0 v1 M2) fun M4 =>
    rv M4 24 v0 <|
    cV (g_K_keepReached v0 v1 M4) fun M6 =>
    rv M6 24 v0 <|
    cV (g_K_closeUpAll v0 v1 M6) fun M8 =>
    rv M8 24 v0 <|
    cV (g_K_lookAtNames v0 v1 M8) fun M10 =>
    rv M10 24 v0 <|
    cV (g_K_giveNames v0  M10) fun M12 =>
    rv M12 24 v0 <|
    cV (g_K_write v0 v1 v2 M12) fun M14 =>
    some (.inl none, M14)
def g_S_shake (v0 : Nat) (M : XM) : XP :=
    gR M 20 v0 0 fun t1 =>
    rv M 21 t1 <|
    cI (g_P_firstFault t1  M) fun t4 M3 =>
    if t4 = (-1) then
    (gR M3 20 v0 0 fun t5 =>
    rv M3 21 t5 <|
    cI (g_P_entries t5  M3) fun t8 M7 =>
    if ¬ t8 = 0 then
    (gR M7 20 v0 2 fun t9 =>
    gR M7 20 v0 0 fun t10 =>
    gR M7 20 v0 1 fun t11 =>
    rv M7 24 t9 <|
    cV (g_K_rebuild t9 t10 t11 M7) fun M13 =>
    gR M13 20 v0 1 fun t14 =>
    gI M13 21 t14 3 fun t15 =>
    some (.inl (some (.int t15)), M13))
    else
    tX M7 0)
    else
    tX M3 0
def g_W_shake (v0 : Nat) (v1 : Nat) (M : XM) : XP :=
    rv M 20 v0 <|
    hI (g_S_shake v0  M) (fun t3 M2 =>
    sJ M2 v1 0 ((t3).toInt64) fun M4 =>
    some (.inl (some (.int 0)), M4)) (fun a5 M6 =>
    if a5 < xz M6 ∧ (xt M6 a5).1 = 40 then
    (some (.inl (some (.int 1)), M6))
    else
    none)
def g_S_chosen (v0 : Nat) (v1 : Int32) (M : XM) : XP :=
    if v1 = 0 then
    (gR M 20 v0 0 fun t1 =>
    some (.inl (some (.ref t1)), M))
    else
    gR M 20 v0 1 fun t2 =>
    some (.inl (some (.ref t2)), M)
def g_S_count (v0 : Nat) (v1 : Int32) (v2 : Int32) (M : XM) : XP :=
    rv M 20 v0 <|
    cR (g_S_chosen v0 v1 M) fun t3 M2 =>
    if v2 = 0 then
    (gI M2 21 t3 2 fun t8 =>
    some (.inl (some (.int t8)), M2))
    else
    if v2 = 1 then
    (gI M2 21 t3 3 fun t7 =>
    some (.inl (some (.int t7)), M2))
    else
    if v2 = 2 then
    (rv M2 21 t3 <|
    cI (g_P_entries t3  M2) fun t6 M5 =>
    some (.inl (some (.int t6)), M5))
    else
    tX M2 2
def g_W_count (v0 : Nat) (v1 : Int32) (v2 : Int32) (v3 : Nat) (M : XM) : XP :=
    rv M 20 v0 <|
    hI (g_S_count v0 v1 v2 M) (fun t3 M2 =>
    sJ M2 v3 0 ((t3).toInt64) fun M4 =>
    some (.inl (some (.int 0)), M4)) (fun a5 M6 =>
    if a5 < xz M6 ∧ (xt M6 a5).1 = 42 then
    (some (.inl (some (.int 1)), M6))
    else
    none)
def g_S_pool (v0 : Nat) (v1 : Int32) (v2 : Int32) (M : XM) : XP :=
    rv M 20 v0 <|
    cR (g_S_chosen v0 v1 M) fun t3 M2 =>
    rv M2 21 t3 <|
    cI (g_P_hasClass t3 v2 M2) fun t6 M5 =>
    if ¬ t6 = 0 then
    (gR M5 21 t3 0 fun t7 =>
    aR M5 10 t7 v2 fun t8 =>
    gI M5 22 t8 3 fun t9 =>
    some (.inl (some (.int t9)), M5))
    else
    tX M5 1
def g_W_pool (v0 : Nat) (v1 : Int32) (v2 : Int32) (v3 : Nat) (M : XM) : XP :=
    rv M 20 v0 <|
    hI (g_S_pool v0 v1 v2 M) (fun t3 M2 =>
    sJ M2 v3 0 ((t3).toInt64) fun M4 =>
    some (.inl (some (.int 0)), M4)) (fun a5 M6 =>
    if a5 < xz M6 ∧ (xt M6 a5).1 = 41 then
    (some (.inl (some (.int 1)), M6))
    else
    none)
def g_S_constantAt (v0 : Nat) (v1 : Int32) (v2 : Int32) (v3 : Int32) (v4 : Int32) (M : XM) : XP :=
    rv M 20 v0 <|
    cR (g_S_chosen v0 v1 M) fun t3 M2 =>
    rv M2 21 t3 <|
    cI (g_P_hasClass t3 v2 M2) fun t6 M5 =>
    if ¬ t6 = 0 then
    (gR M5 21 t3 0 fun t7 =>
    aR M5 10 t7 v2 fun t8 =>
    rv M5 22 t8 <|
    cI (g_Q_has t8 v3 M5) fun t11 M10 =>
    if ¬ t11 = 0 then
    (if v4 = 0 then
    (gR M10 22 t8 0 fun t16 =>
    aI M10 t16 v3 fun t17 =>
    some (.inl (some (.int t17)), M10))
    else
    if v4 = 1 then
    (gR M10 22 t8 1 fun t14 =>
    aI M10 t14 v3 fun t15 =>
    some (.inl (some (.int t15)), M10))
    else
    if v4 = 2 then
    (gR M10 22 t8 2 fun t12 =>
    aI M10 t12 v3 fun t13 =>
    some (.inl (some (.int t13)), M10))
    else
    tX M10 2)
    else
    tX M10 1)
    else
    tX M5 1
def g_W_constantAt (v0 : Nat) (v1 : Int32) (v2 : Int32) (v3 : Int32) (v4 : Int32) (v5 : Nat) (M : XM) : XP :=
    rv M 20 v0 <|
    hI (g_S_constantAt v0 v1 v2 v3 v4 M) (fun t3 M2 =>
    sJ M2 v5 0 ((t3).toInt64) fun M4 =>
    some (.inl (some (.int 0)), M4)) (fun a5 M6 =>
    if a5 < xz M6 ∧ (xt M6 a5).1 = 41 then
    (some (.inl (some (.int 1)), M6))
    else
    if a5 < xz M6 ∧ (xt M6 a5).1 = 42 then
    (some (.inl (some (.int 2)), M6))
    else
    none)
def g_S_memberAt (v0 : Nat) (v1 : Int32) (v2 : Int32) (v3 : Int32) (M : XM) : XP :=
    rv M 20 v0 <|
    cR (g_S_chosen v0 v1 M) fun t3 M2 =>
    rv M2 21 t3 <|
    cI (g_P_hasMember t3 v2 M2) fun t6 M5 =>
    if ¬ t6 = 0 then
    (gR M5 21 t3 1 fun t7 =>
    aR M5 11 t7 v2 fun t8 =>
    if v3 = 0 then
    (gI M5 23 t8 0 fun t16 =>
    some (.inl (some (.int t16)), M5))
    else
    if v3 = 1 then
    (gI M5 23 t8 1 fun t15 =>
    some (.inl (some (.int t15)), M5))
    else
    if v3 = 2 then
    (gI M5 23 t8 2 fun t14 =>
    some (.inl (some (.int t14)), M5))
    else
    if v3 = 3 then
    (gI M5 23 t8 4 fun t13 =>
    some (.inl (some (.int t13)), M5))
    else
    if v3 = 4 then
    (gI M5 23 t8 3 fun t12 =>
    if t12 = 0 then
    (some (.inl (some (.int 0)), M5))
    else
    some (.inl (some (.int 1)), M5))
    else
    if v3 = 5 then
    (rv M5 21 t3 <|
    cI (g_P_nameOf t3 v2 M5) fun t11 M10 =>
    some (.inl (some (.int t11)), M10))
    else
    tX M5 2)
    else
    tX M5 1
def g_W_memberAt (v0 : Nat) (v1 : Int32) (v2 : Int32) (v3 : Int32) (v4 : Nat) (M : XM) : XP :=
    rv M 20 v0 <|
    hI (g_S_memberAt v0 v1 v2 v3 M) (fun t3 M2 =>
    sJ M2 v4 0 ((t3).toInt64) fun M4 =>
    some (.inl (some (.int 0)), M4)) (fun a5 M6 =>
    if a5 < xz M6 ∧ (xt M6 a5).1 = 41 then
    (some (.inl (some (.int 1)), M6))
    else
    if a5 < xz M6 ∧ (xt M6 a5).1 = 42 then
    (some (.inl (some (.int 2)), M6))
    else
    none)
section XG
variable {K : XK} {o : XO} {N : XM}
theorem p_K_lookAtNames_80 (G : xG K) : ∀ (n : Nat) (v0 : Nat) (v1 : Nat) (v2 : Int32) (M : XM), g_K_lookAtNames_80 n v0 v1 v2 M = some (o, N) → cA K y_K_lookAtNames 80 [(0, .ref v0), (1, .ref v1), (2, .int v2)] [] M o N := by
  intro n
  induction n with
  | zero =>
    intro v0 v1 v2 M h
    rw [g_K_lookAtNames_80] at h
    cases h
  | succ n ih =>
    intro v0 v1 v2 M h
    rw [g_K_lookAtNames_80] at h
    refine x_iload_n (pc := 80) d_K_lookAtNames_80 rfl 2 rfl ?_
    refine x_aload_n (pc := 81) d_K_lookAtNames_81 rfl 1 rfl ?_
    refine h_getI G (pc := 82) (ci := 1) (j := 3) d_K_lookAtNames_82 rfl rfl rfl lf_K_65 h fun t1 h => ?_
    refine h_icmp_ge (pc := 85) 117 d_K_lookAtNames_85 (by decide) h (fun _ h => ?_) (fun _ h => ?_)
    · exact h_return (pc := 117) d_K_lookAtNames_117 rfl h
    · refine x_aload_n (pc := 88) d_K_lookAtNames_88 rfl 1 rfl ?_
      refine h_getR G (pc := 89) (ci := 1) (j := 1) d_K_lookAtNames_89 rfl rfl rfl lf_K_70 h fun t2 h => ?_
      refine x_iload_n (pc := 92) d_K_lookAtNames_92 rfl 2 rfl ?_
      refine h_aaload (pc := 93) (kd := 11) d_K_lookAtNames_93 (by decide) rfl rfl h fun t3 h => ?_
      refine h_getI G (pc := 94) (ci := 3) (j := 3) d_K_lookAtNames_94 rfl rfl rfl lf_K_74 h fun t4 h => ?_
      refine h_if_eq (pc := 97) 111 d_K_lookAtNames_97 (by decide) h (fun _ h => ?_) (fun _ h => ?_)
      · refine x_iinc (pc := 111) (n := 2) (L' := [(0, .ref v0), (1, .ref v1), (2, .int (v2 + 1))]) d_K_lookAtNames_111 (by decide) rfl rfl ?_
        refine x_goto (pc := 114) 80 d_K_lookAtNames_114 (by decide) ?_
        refine x_weak [0, 1, 2] rfl ?_
        exact ih _ _ _ _ h
      · refine x_aload_n (pc := 100) d_K_lookAtNames_100 rfl 0 rfl ?_
        refine h_getR G (pc := 101) (ci := 4) (j := 4) d_K_lookAtNames_101 rfl rfl rfl lf_K_26 h fun t5 h => ?_
        refine x_aload_n (pc := 104) d_K_lookAtNames_104 rfl 1 rfl ?_
        refine x_iload_n (pc := 105) d_K_lookAtNames_105 rfl 2 rfl ?_
        obtain ⟨⟨ra6, ra6t⟩, h⟩ := h_ok h
        refine h_callI G (x_siteV G (pc := 106) (y2 := y_P_nameOf) (As := [.int v2]) (S := [.ref t5]) (ci := 1) d_K_lookAtNames_106 rfl lm_K_136 mi_P_nameOf ms_P_nameOf mw_P_nameOf.1 mx_P_nameOf.1 mx_P_nameOf.2 rfl ra6 ra6t) mw_P_nameOf ⟨Nat.le_of_ble_eq_true rfl, Nat.le_of_ble_eq_true rfl⟩ rfl (fun _ _ e => p_P_nameOf G _ _ _ e) h fun t8 M7 h => ?_
        refine x_iconst (pc := 109) d_K_lookAtNames_109 rfl ?_
        refine h_iastore G (pc := 110) d_K_lookAtNames_110 h fun M9 h => ?_
        refine x_iinc (pc := 111) (n := 2) (L' := [(0, .ref v0), (1, .ref v1), (2, .int (v2 + 1))]) d_K_lookAtNames_111 (by decide) rfl rfl ?_
        refine x_goto (pc := 114) 80 d_K_lookAtNames_114 (by decide) ?_
        refine x_weak [0, 1, 2] rfl ?_
        exact ih _ _ _ _ h
theorem p_K_lookAtNames_20 (G : xG K) {r2 : Nat → Nat → Int32 → XM → XP} (hr2 : ∀ w0 w1 w2 Q, r2 w0 w1 w2 Q = some (o, N) → cA K y_K_lookAtNames 2 [(0, .ref w0), (1, .ref w1), (2, .int w2)] [] Q o N) : ∀ (n : Nat) (v0 : Nat) (v1 : Nat) (v2 : Int32) (v3 : Nat) (v4 : Int32) (M : XM), g_K_lookAtNames_20 r2 n v0 v1 v2 v3 v4 M = some (o, N) → cA K y_K_lookAtNames 20 [(0, .ref v0), (1, .ref v1), (2, .int v2), (3, .ref v3), (4, .int v4)] [] M o N := by
  intro n
  induction n with
  | zero =>
    intro v0 v1 v2 v3 v4 M h
    rw [g_K_lookAtNames_20] at h
    cases h
  | succ n ih =>
    intro v0 v1 v2 v3 v4 M h
    rw [g_K_lookAtNames_20] at h
    refine x_iload (pc := 20) d_K_lookAtNames_20 4 rfl ?_
    refine x_aload_n (pc := 22) d_K_lookAtNames_22 rfl 3 rfl ?_
    refine h_getI G (pc := 23) (ci := 2) (j := 3) d_K_lookAtNames_23 rfl rfl rfl lf_K_135 h fun t1 h => ?_
    refine h_icmp_ge (pc := 26) 72 d_K_lookAtNames_26 (by decide) h (fun _ h => ?_) (fun _ h => ?_)
    · refine x_iinc (pc := 72) (n := 2) (L' := [(0, .ref v0), (1, .ref v1), (2, .int (v2 + 1)), (3, .ref v3), (4, .int v4)]) d_K_lookAtNames_72 (by decide) rfl rfl ?_
      refine x_goto (pc := 75) 2 d_K_lookAtNames_75 (by decide) ?_
      refine x_weak [0, 1, 2] rfl ?_
      exact hr2 _ _ _ _ h
    · refine x_aload_n (pc := 29) d_K_lookAtNames_29 rfl 0 rfl ?_
      refine h_getR G (pc := 30) (ci := 4) (j := 2) d_K_lookAtNames_30 rfl rfl rfl lf_K_20 h fun t2 h => ?_
      refine x_iload_n (pc := 33) d_K_lookAtNames_33 rfl 2 rfl ?_
      refine h_aaload (pc := 34) (kd := 13) d_K_lookAtNames_34 (by decide) rfl rfl h fun t3 h => ?_
      refine x_iload (pc := 35) d_K_lookAtNames_35 4 rfl ?_
      refine h_iaload (pc := 37) d_K_lookAtNames_37 h fun t4 h => ?_
      refine x_iconst (pc := 38) d_K_lookAtNames_38 rfl ?_
      refine h_icmp_eq (pc := 39) 66 d_K_lookAtNames_39 (by decide) h (fun _ h => ?_) (fun _ h => ?_)
      · refine x_iinc (pc := 66) (n := 4) (L' := [(0, .ref v0), (1, .ref v1), (2, .int v2), (3, .ref v3), (4, .int (v4 + 1))]) d_K_lookAtNames_66 (by decide) rfl rfl ?_
        refine x_goto (pc := 69) 20 d_K_lookAtNames_69 (by decide) ?_
        refine x_weak [0, 1, 2, 3, 4] rfl ?_
        exact ih _ _ _ _ _ _ h
      · refine x_aload_n (pc := 42) d_K_lookAtNames_42 rfl 3 rfl ?_
        refine h_getR G (pc := 43) (ci := 2) (j := 0) d_K_lookAtNames_43 rfl rfl rfl lf_K_111 h fun t5 h => ?_
        refine x_iload (pc := 46) d_K_lookAtNames_46 4 rfl ?_
        refine h_iaload (pc := 48) d_K_lookAtNames_48 h fun t6 h => ?_
        refine x_iconst (pc := 49) d_K_lookAtNames_49 rfl ?_
        refine h_icmp_ne (pc := 50) 66 d_K_lookAtNames_50 (by decide) h (fun _ h => ?_) (fun _ h => ?_)
        · refine x_iinc (pc := 66) (n := 4) (L' := [(0, .ref v0), (1, .ref v1), (2, .int v2), (3, .ref v3), (4, .int (v4 + 1))]) d_K_lookAtNames_66 (by decide) rfl rfl ?_
          refine x_goto (pc := 69) 20 d_K_lookAtNames_69 (by decide) ?_
          refine x_weak [0, 1, 2, 3, 4] rfl ?_
          exact ih _ _ _ _ _ _ h
        · refine x_aload_n (pc := 53) d_K_lookAtNames_53 rfl 0 rfl ?_
          refine h_getR G (pc := 54) (ci := 4) (j := 4) d_K_lookAtNames_54 rfl rfl rfl lf_K_26 h fun t7 h => ?_
          refine x_aload_n (pc := 57) d_K_lookAtNames_57 rfl 3 rfl ?_
          refine h_getR G (pc := 58) (ci := 2) (j := 1) d_K_lookAtNames_58 rfl rfl rfl lf_K_119 h fun t8 h => ?_
          refine x_iload (pc := 61) d_K_lookAtNames_61 4 rfl ?_
          refine h_iaload (pc := 63) d_K_lookAtNames_63 h fun t9 h => ?_
          refine x_iconst (pc := 64) d_K_lookAtNames_64 rfl ?_
          refine h_iastore G (pc := 65) d_K_lookAtNames_65 h fun M10 h => ?_
          refine x_iinc (pc := 66) (n := 4) (L' := [(0, .ref v0), (1, .ref v1), (2, .int v2), (3, .ref v3), (4, .int (v4 + 1))]) d_K_lookAtNames_66 (by decide) rfl rfl ?_
          refine x_goto (pc := 69) 20 d_K_lookAtNames_69 (by decide) ?_
          refine x_weak [0, 1, 2, 3, 4] rfl ?_
          exact ih _ _ _ _ _ _ h
theorem p_K_lookAtNames_2 (G : xG K) : ∀ (n : Nat) (v0 : Nat) (v1 : Nat) (v2 : Int32) (M : XM), g_K_lookAtNames_2 n v0 v1 v2 M = some (o, N) → cA K y_K_lookAtNames 2 [(0, .ref v0), (1, .ref v1), (2, .int v2)] [] M o N := by
  intro n
  induction n with
  | zero =>
    intro v0 v1 v2 M h
    rw [g_K_lookAtNames_2] at h
    cases h
  | succ n ih =>
    intro v0 v1 v2 M h
    rw [g_K_lookAtNames_2] at h
    refine x_iload_n (pc := 2) d_K_lookAtNames_2 rfl 2 rfl ?_
    refine x_aload_n (pc := 3) d_K_lookAtNames_3 rfl 1 rfl ?_
    refine h_getI G (pc := 4) (ci := 1) (j := 2) d_K_lookAtNames_4 rfl rfl rfl lf_K_132 h fun t1 h => ?_
    refine h_icmp_ge (pc := 7) 78 d_K_lookAtNames_7 (by decide) h (fun _ h => ?_) (fun _ h => ?_)
    · refine x_iconst (pc := 78) d_K_lookAtNames_78 rfl ?_
      refine x_istore_n (pc := 79) (L' := [(0, .ref v0), (1, .ref v1), (2, .int 0)]) d_K_lookAtNames_79 rfl (by decide) rfl ?_
      refine x_weak [0, 1, 2] rfl ?_
      exact p_K_lookAtNames_80 G FU _ _ _ _ h
    · refine x_aload_n (pc := 10) d_K_lookAtNames_10 rfl 1 rfl ?_
      refine h_getR G (pc := 11) (ci := 1) (j := 0) d_K_lookAtNames_11 rfl rfl rfl lf_K_107 h fun t2 h => ?_
      refine x_iload_n (pc := 14) d_K_lookAtNames_14 rfl 2 rfl ?_
      refine h_aaload (pc := 15) (kd := 10) d_K_lookAtNames_15 (by decide) rfl rfl h fun t3 h => ?_
      refine x_astore_n (pc := 16) (L' := [(0, .ref v0), (1, .ref v1), (2, .int v2), (3, .ref t3)]) d_K_lookAtNames_16 rfl (by decide) rfl ?_
      refine x_iconst (pc := 17) d_K_lookAtNames_17 rfl ?_
      refine x_istore (pc := 18) (L' := [(0, .ref v0), (1, .ref v1), (2, .int v2), (3, .ref t3), (4, .int 0)]) d_K_lookAtNames_18 (by decide) rfl ?_
      refine x_weak [0, 1, 2, 3, 4] rfl ?_
      exact p_K_lookAtNames_20 G ih FU _ _ _ _ _ _ h
theorem p_K_lookAtNames (G : xG K) (v0 : Nat) (v1 : Nat) (M : XM) (h : g_K_lookAtNames v0 v1 M = some (o, N)) : Ct K y_K_lookAtNames [.ref v0, .ref v1] M o N := by
  refine ct_of (by decide) (List.forall_mem_cons.mpr ⟨rfl, List.forall_mem_cons.mpr ⟨rfl, fun _ q => absurd q List.not_mem_nil⟩⟩) (Nat.le_of_ble_eq_true rfl) ?_
  show cA K y_K_lookAtNames 0 [(0, .ref v0), (1, .ref v1)] [] M o N
  unfold g_K_lookAtNames at h
  refine x_iconst (pc := 0) d_K_lookAtNames_0 rfl ?_
  refine x_istore_n (pc := 1) (L' := [(0, .ref v0), (1, .ref v1), (2, .int 0)]) d_K_lookAtNames_1 rfl (by decide) rfl ?_
  refine x_weak [0, 1, 2] rfl ?_
  exact p_K_lookAtNames_2 G FU _ _ _ _ h
theorem p_K_leastFreeName_2 (G : xG K) : ∀ (n : Nat) (v0 : Nat) (v2 : Int32) (M : XM), g_K_leastFreeName_2 n v0 v2 M = some (o, N) → cA K y_K_leastFreeName 2 [(0, .ref v0), (2, .int v2)] [] M o N := by
  intro n
  induction n with
  | zero =>
    intro v0 v2 M h
    rw [g_K_leastFreeName_2] at h
    cases h
  | succ n ih =>
    intro v0 v2 M h
    rw [g_K_leastFreeName_2] at h
    refine x_iload_n (pc := 2) d_K_leastFreeName_2 rfl 1 rfl ?_
    refine x_bipush (pc := 3) (v := 100) d_K_leastFreeName_3 (by decide) ?_
    refine h_icmp_ge (pc := 5) 26 d_K_leastFreeName_5 (by decide) h (fun _ h => ?_) (fun _ h => ?_)
    · refine x_iconst (pc := 26) d_K_leastFreeName_26 rfl ?_
      exact h_ireturn (pc := 27) d_K_leastFreeName_27 rfl h
    · refine x_aload_n (pc := 8) d_K_leastFreeName_8 rfl 0 rfl ?_
      refine h_getR G (pc := 9) (ci := 4) (j := 4) d_K_leastFreeName_9 rfl rfl rfl lf_K_26 h fun t1 h => ?_
      refine x_iload_n (pc := 12) d_K_leastFreeName_12 rfl 1 rfl ?_
      refine h_iaload (pc := 13) d_K_leastFreeName_13 h fun t2 h => ?_
      refine x_iconst (pc := 14) d_K_leastFreeName_14 rfl ?_
      refine h_icmp_eq (pc := 15) 20 d_K_leastFreeName_15 (by decide) h (fun _ h => ?_) (fun _ h => ?_)
      · refine x_iinc (pc := 20) (n := 1) (L' := [(0, .ref v0), (2, .int (v2 + 1))]) d_K_leastFreeName_20 (by decide) rfl rfl ?_
        refine x_goto (pc := 23) 2 d_K_leastFreeName_23 (by decide) ?_
        refine x_weak [0, 1] rfl ?_
        exact ih _ _ _ h
      · refine x_iload_n (pc := 18) d_K_leastFreeName_18 rfl 1 rfl ?_
        exact h_ireturn (pc := 19) d_K_leastFreeName_19 rfl h
theorem p_K_leastFreeName (G : xG K) (v0 : Nat) (v1 : Int32) (M : XM) (h : g_K_leastFreeName v0 v1 M = some (o, N)) : Ct K y_K_leastFreeName [.ref v0, .int v1] M o N := by
  refine ct_of (by decide) (List.forall_mem_cons.mpr ⟨rfl, List.forall_mem_cons.mpr ⟨rfl, fun _ q => absurd q List.not_mem_nil⟩⟩) (Nat.le_of_ble_eq_true rfl) ?_
  show cA K y_K_leastFreeName 0 [(0, .ref v0), (1, .int v1)] [] M o N
  unfold g_K_leastFreeName at h
  refine x_iload_n (pc := 0) d_K_leastFreeName_0 rfl 1 rfl ?_
  refine x_istore_n (pc := 1) (L' := [(0, .ref v0), (1, .int v1), (2, .int v1)]) d_K_leastFreeName_1 rfl (by decide) rfl ?_
  refine x_weak [0, 2] rfl ?_
  exact p_K_leastFreeName_2 G FU _ _ _ h
theorem p_K_giveNames_4 (G : xG K) : ∀ (n : Nat) (v0 : Nat) (v1 : Int32) (v2 : Int32) (M : XM), g_K_giveNames_4 n v0 v1 v2 M = some (o, N) → cA K y_K_giveNames 4 [(0, .ref v0), (1, .int v1), (2, .int v2)] [] M o N := by
  intro n
  induction n with
  | zero =>
    intro v0 v1 v2 M h
    rw [g_K_giveNames_4] at h
    cases h
  | succ n ih =>
    intro v0 v1 v2 M h
    rw [g_K_giveNames_4] at h
    refine x_iload_n (pc := 4) d_K_giveNames_4 rfl 2 rfl ?_
    refine x_bipush (pc := 5) (v := 100) d_K_giveNames_5 (by decide) ?_
    refine h_icmp_ge (pc := 7) 62 d_K_giveNames_7 (by decide) h (fun _ h => ?_) (fun _ h => ?_)
    · exact h_return (pc := 62) d_K_giveNames_62 rfl h
    · refine x_aload_n (pc := 10) d_K_giveNames_10 rfl 0 rfl ?_
      refine h_getR G (pc := 11) (ci := 4) (j := 4) d_K_giveNames_11 rfl rfl rfl lf_K_26 h fun t1 h => ?_
      refine x_iload_n (pc := 14) d_K_giveNames_14 rfl 2 rfl ?_
      refine h_iaload (pc := 15) d_K_giveNames_15 h fun t2 h => ?_
      refine x_iconst (pc := 16) d_K_giveNames_16 rfl ?_
      refine h_icmp_ne (pc := 17) 30 d_K_giveNames_17 (by decide) h (fun _ h => ?_) (fun _ h => ?_)
      · refine x_aload_n (pc := 30) d_K_giveNames_30 rfl 0 rfl ?_
        refine h_getR G (pc := 31) (ci := 4) (j := 4) d_K_giveNames_31 rfl rfl rfl lf_K_26 h fun t3 h => ?_
        refine x_iload_n (pc := 34) d_K_giveNames_34 rfl 2 rfl ?_
        refine h_iaload (pc := 35) d_K_giveNames_35 h fun t4 h => ?_
        refine x_iconst (pc := 36) d_K_giveNames_36 rfl ?_
        refine h_icmp_ne (pc := 37) 56 d_K_giveNames_37 (by decide) h (fun _ h => ?_) (fun _ h => ?_)
        · refine x_iinc (pc := 56) (n := 2) (L' := [(0, .ref v0), (1, .int v1), (2, .int (v2 + 1))]) d_K_giveNames_56 (by decide) rfl rfl ?_
          refine x_goto (pc := 59) 4 d_K_giveNames_59 (by decide) ?_
          refine x_weak [0, 1, 2] rfl ?_
          exact ih _ _ _ _ h
        · refine x_aload_n (pc := 40) d_K_giveNames_40 rfl 0 rfl ?_
          refine x_iload_n (pc := 41) d_K_giveNames_41 rfl 1 rfl ?_
          obtain ⟨⟨ra5, ra5t⟩, h⟩ := h_ok h
          refine h_callI G (x_siteV G (pc := 42) (y2 := y_K_leastFreeName) (As := [.int v1]) (S := []) (ci := 4) d_K_giveNames_42 rfl lm_K_140 mi_K_leastFreeName ms_K_leastFreeName mw_K_leastFreeName.1 mx_K_leastFreeName.1 mx_K_leastFreeName.2 rfl ra5 ra5t) mw_K_leastFreeName ⟨Nat.le_of_ble_eq_true rfl, Nat.le_of_ble_eq_true rfl⟩ rfl (fun _ _ e => p_K_leastFreeName G _ _ _ e) h fun t7 M6 h => ?_
          refine x_istore_n (pc := 45) (L' := [(0, .ref v0), (1, .int t7), (2, .int v2)]) d_K_giveNames_45 rfl (by decide) rfl ?_
          refine x_aload_n (pc := 46) d_K_giveNames_46 rfl 0 rfl ?_
          refine h_getR G (pc := 47) (ci := 4) (j := 3) d_K_giveNames_47 rfl rfl rfl lf_K_23 h fun t8 h => ?_
          refine x_iload_n (pc := 50) d_K_giveNames_50 rfl 2 rfl ?_
          refine x_iload_n (pc := 51) d_K_giveNames_51 rfl 1 rfl ?_
          refine h_iastore G (pc := 52) d_K_giveNames_52 h fun M9 h => ?_
          refine x_iinc (pc := 53) (n := 1) (L' := [(0, .ref v0), (1, .int (t7 + 1)), (2, .int v2)]) d_K_giveNames_53 (by decide) rfl rfl ?_
          refine x_iinc (pc := 56) (n := 2) (L' := [(0, .ref v0), (1, .int (t7 + 1)), (2, .int (v2 + 1))]) d_K_giveNames_56 (by decide) rfl rfl ?_
          refine x_goto (pc := 59) 4 d_K_giveNames_59 (by decide) ?_
          refine x_weak [0, 1, 2] rfl ?_
          exact ih _ _ _ _ h
      · refine x_aload_n (pc := 20) d_K_giveNames_20 rfl 0 rfl ?_
        refine h_getR G (pc := 21) (ci := 4) (j := 3) d_K_giveNames_21 rfl rfl rfl lf_K_23 h fun t10 h => ?_
        refine x_iload_n (pc := 24) d_K_giveNames_24 rfl 2 rfl ?_
        refine x_iload_n (pc := 25) d_K_giveNames_25 rfl 2 rfl ?_
        refine h_iastore G (pc := 26) d_K_giveNames_26 h fun M11 h => ?_
        refine x_goto (pc := 27) 56 d_K_giveNames_27 (by decide) ?_
        refine x_iinc (pc := 56) (n := 2) (L' := [(0, .ref v0), (1, .int v1), (2, .int (v2 + 1))]) d_K_giveNames_56 (by decide) rfl rfl ?_
        refine x_goto (pc := 59) 4 d_K_giveNames_59 (by decide) ?_
        refine x_weak [0, 1, 2] rfl ?_
        exact ih _ _ _ _ h
theorem p_K_giveNames (G : xG K) (v0 : Nat) (M : XM) (h : g_K_giveNames v0 M = some (o, N)) : Ct K y_K_giveNames [.ref v0] M o N := by
  refine ct_of (by decide) (List.forall_mem_cons.mpr ⟨rfl, fun _ q => absurd q List.not_mem_nil⟩) (Nat.le_of_ble_eq_true rfl) ?_
  show cA K y_K_giveNames 0 [(0, .ref v0)] [] M o N
  unfold g_K_giveNames at h
  refine x_iconst (pc := 0) d_K_giveNames_0 rfl ?_
  refine x_istore_n (pc := 1) (L' := [(0, .ref v0), (1, .int 0)]) d_K_giveNames_1 rfl (by decide) rfl ?_
  refine x_iconst (pc := 2) d_K_giveNames_2 rfl ?_
  refine x_istore_n (pc := 3) (L' := [(0, .ref v0), (1, .int 0), (2, .int 0)]) d_K_giveNames_3 rfl (by decide) rfl ?_
  refine x_weak [0, 1, 2] rfl ?_
  exact p_K_giveNames_4 G FU _ _ _ _ h
theorem p_K_newFirst (G : xG K) (v0 : Nat) (v1 : Int32) (v2 : Int32) (v3 : Nat) (M : XM) (h : g_K_newFirst v0 v1 v2 v3 M = some (o, N)) : Ct K y_K_newFirst [.ref v0, .int v1, .int v2, .ref v3] M o N := by
  refine ct_of (by decide) (List.forall_mem_cons.mpr ⟨rfl, List.forall_mem_cons.mpr ⟨rfl, List.forall_mem_cons.mpr ⟨rfl, List.forall_mem_cons.mpr ⟨rfl, fun _ q => absurd q List.not_mem_nil⟩⟩⟩⟩) (Nat.le_of_ble_eq_true rfl) ?_
  show cA K y_K_newFirst 0 [(0, .ref v0), (1, .int v1), (2, .int v2), (3, .ref v3)] [] M o N
  unfold g_K_newFirst at h
  refine x_iload_n (pc := 0) d_K_newFirst_0 rfl 1 rfl ?_
  refine h_case h (fun c0 h => ?_) (fun c0 h => ?_)
  · refine x_tableIn (pc := 1) 32 d_K_newFirst_1 (by rw [c0]; decide) (by rw [c0]; decide) (off := 31) (by rw [c0]; rfl) (by decide) ?_
    refine x_aload_n (pc := 32) d_K_newFirst_32 rfl 0 rfl ?_
    refine h_getR G (pc := 33) (ci := 4) (j := 3) d_K_newFirst_33 rfl rfl rfl lf_K_23 h fun t5 h => ?_
    refine x_iload_n (pc := 36) d_K_newFirst_36 rfl 2 rfl ?_
    refine h_iaload (pc := 37) d_K_newFirst_37 h fun t6 h => ?_
    exact h_ireturn (pc := 38) d_K_newFirst_38 rfl h
  · refine h_case h (fun c1 h => ?_) (fun c1 h => ?_)
    · refine x_tableIn (pc := 1) 39 d_K_newFirst_1 (by rw [c1]; decide) (by rw [c1]; decide) (off := 38) (by rw [c1]; rfl) (by decide) ?_
      refine x_aload_n (pc := 39) d_K_newFirst_39 rfl 0 rfl ?_
      refine h_getR G (pc := 40) (ci := 4) (j := 1) d_K_newFirst_40 rfl rfl rfl lf_K_15 h fun t3 h => ?_
      refine x_iload_n (pc := 43) d_K_newFirst_43 rfl 2 rfl ?_
      refine h_iaload (pc := 44) d_K_newFirst_44 h fun t4 h => ?_
      exact h_ireturn (pc := 45) d_K_newFirst_45 rfl h
    · refine h_case h (fun c2 h => ?_) (fun c2 h => ?_)
      · refine x_tableIn (pc := 1) 46 d_K_newFirst_1 (by rw [c2]; decide) (by rw [c2]; decide) (off := 45) (by rw [c2]; rfl) (by decide) ?_
        refine x_aload_n (pc := 46) d_K_newFirst_46 rfl 3 rfl ?_
        refine x_iload_n (pc := 47) d_K_newFirst_47 rfl 2 rfl ?_
        refine h_iaload (pc := 48) d_K_newFirst_48 h fun t2 h => ?_
        exact h_ireturn (pc := 49) d_K_newFirst_49 rfl h
      · refine h_case h (fun c3 h => ?_) (fun c3 h => ?_)
        · refine x_tableIn (pc := 1) 46 d_K_newFirst_1 (by rw [c3]; decide) (by rw [c3]; decide) (off := 45) (by rw [c3]; rfl) (by decide) ?_
          refine x_aload_n (pc := 46) d_K_newFirst_46 rfl 3 rfl ?_
          refine x_iload_n (pc := 47) d_K_newFirst_47 rfl 2 rfl ?_
          refine h_iaload (pc := 48) d_K_newFirst_48 h fun t1 h => ?_
          exact h_ireturn (pc := 49) d_K_newFirst_49 rfl h
        · refine x_tableOut (pc := 1) 50 d_K_newFirst_1 (by have q0 := lv_neT (a := 1) c0 (by decide); have q1 := lv_neT (a := 2) c1 (by decide); have q2 := lv_neT (a := 3) c2 (by decide); have q3 := lv_neT (a := 4) c3 (by decide); omega) (by decide) ?_
          refine x_iload_n (pc := 50) d_K_newFirst_50 rfl 2 rfl ?_
          exact h_ireturn (pc := 51) d_K_newFirst_51 rfl h
theorem p_K_writePool_66 (G : xG K) {r3 : Nat → Nat → Nat → Nat → Int32 → XM → XP} (hr3 : ∀ w0 w1 w2 w3 w4 Q, r3 w0 w1 w2 w3 w4 Q = some (o, N) → cA K y_K_writePool 3 [(0, .ref w0), (1, .ref w1), (2, .ref w2), (3, .ref w3), (4, .int w4)] [] Q o N) (v0 : Nat) (v1 : Nat) (v2 : Nat) (v3 : Nat) (v4 : Int32) (v5 : Int32) (v6 : Int32) (s0 : Int32) (M : XM) (h : g_K_writePool_66 r3 v0 v1 v2 v3 v4 v5 v6 s0 M = some (o, N)) : cA K y_K_writePool 66 [(0, .ref v0), (1, .ref v1), (2, .ref v2), (3, .ref v3), (4, .int v4), (5, .int v5), (6, .int v6)] [.int s0] M o N := by
  unfold g_K_writePool_66 at h
  refine x_istore (pc := 66) (L' := [(0, .ref v0), (1, .ref v1), (2, .ref v2), (3, .ref v3), (4, .int v4), (5, .int v5), (6, .int v6), (7, .int s0)]) d_K_writePool_66 (by decide) rfl ?_
  refine x_aload_n (pc := 68) d_K_writePool_68 rfl 3 rfl ?_
  refine x_iload (pc := 69) d_K_writePool_69 5 rfl ?_
  refine x_iload (pc := 71) d_K_writePool_71 6 rfl ?_
  refine x_iload (pc := 73) d_K_writePool_73 7 rfl ?_
  obtain ⟨⟨ra1, ra1t⟩, h⟩ := h_ok h
  refine h_callI G (x_siteV G (pc := 75) (y2 := y_Q_append) (As := [.int v5, .int v6, .int s0]) (S := []) (ci := 2) d_K_writePool_75 rfl lm_K_162 mi_Q_append ms_Q_append mw_Q_append.1 mx_Q_append.1 mx_Q_append.2 rfl ra1 ra1t) mw_Q_append ⟨Nat.le_of_ble_eq_true rfl, Nat.le_of_ble_eq_true rfl⟩ rfl (fun _ _ e => p_Q_append G _ _ _ _ _ e) h fun t3 M2 h => ?_
  refine x_pop (pc := 78) d_K_writePool_78 rfl ?_
  refine x_iinc (pc := 79) (n := 4) (L' := [(0, .ref v0), (1, .ref v1), (2, .ref v2), (3, .ref v3), (4, .int (v4 + 1)), (5, .int v5), (6, .int v6), (7, .int s0)]) d_K_writePool_79 (by decide) rfl rfl ?_
  refine x_goto (pc := 82) 3 d_K_writePool_82 (by decide) ?_
  refine x_weak [0, 1, 2, 3, 4] rfl ?_
  exact hr3 _ _ _ _ _ _ h
theorem p_K_writePool_3 (G : xG K) : ∀ (n : Nat) (v0 : Nat) (v1 : Nat) (v2 : Nat) (v3 : Nat) (v4 : Int32) (M : XM), g_K_writePool_3 n v0 v1 v2 v3 v4 M = some (o, N) → cA K y_K_writePool 3 [(0, .ref v0), (1, .ref v1), (2, .ref v2), (3, .ref v3), (4, .int v4)] [] M o N := by
  intro n
  induction n with
  | zero =>
    intro v0 v1 v2 v3 v4 M h
    rw [g_K_writePool_3] at h
    cases h
  | succ n ih =>
    intro v0 v1 v2 v3 v4 M h
    rw [g_K_writePool_3] at h
    refine x_iload (pc := 3) d_K_writePool_3 4 rfl ?_
    refine x_aload_n (pc := 5) d_K_writePool_5 rfl 1 rfl ?_
    refine h_getI G (pc := 6) (ci := 2) (j := 3) d_K_writePool_6 rfl rfl rfl lf_K_135 h fun t1 h => ?_
    refine h_icmp_ge (pc := 9) 85 d_K_writePool_9 (by decide) h (fun _ h => ?_) (fun _ h => ?_)
    · exact h_return (pc := 85) d_K_writePool_85 rfl h
    · refine x_aload_n (pc := 12) d_K_writePool_12 rfl 2 rfl ?_
      refine x_iload (pc := 13) d_K_writePool_13 4 rfl ?_
      refine h_iaload (pc := 15) d_K_writePool_15 h fun t2 h => ?_
      refine x_iconst (pc := 16) d_K_writePool_16 rfl ?_
      refine h_icmp_eq (pc := 17) 79 d_K_writePool_17 (by decide) h (fun _ h => ?_) (fun _ h => ?_)
      · refine x_iinc (pc := 79) (n := 4) (L' := [(0, .ref v0), (1, .ref v1), (2, .ref v2), (3, .ref v3), (4, .int (v4 + 1))]) d_K_writePool_79 (by decide) rfl rfl ?_
        refine x_goto (pc := 82) 3 d_K_writePool_82 (by decide) ?_
        refine x_weak [0, 1, 2, 3, 4] rfl ?_
        exact ih _ _ _ _ _ _ h
      · refine x_aload_n (pc := 20) d_K_writePool_20 rfl 1 rfl ?_
        refine h_getR G (pc := 21) (ci := 2) (j := 0) d_K_writePool_21 rfl rfl rfl lf_K_111 h fun t3 h => ?_
        refine x_iload (pc := 24) d_K_writePool_24 4 rfl ?_
        refine h_iaload (pc := 26) d_K_writePool_26 h fun t4 h => ?_
        refine x_istore (pc := 27) (L' := [(0, .ref v0), (1, .ref v1), (2, .ref v2), (3, .ref v3), (4, .int v4), (5, .int t4)]) d_K_writePool_27 (by decide) rfl ?_
        refine x_aload_n (pc := 29) d_K_writePool_29 rfl 0 rfl ?_
        refine x_iload (pc := 30) d_K_writePool_30 5 rfl ?_
        refine x_aload_n (pc := 32) d_K_writePool_32 rfl 1 rfl ?_
        refine h_getR G (pc := 33) (ci := 2) (j := 1) d_K_writePool_33 rfl rfl rfl lf_K_119 h fun t5 h => ?_
        refine x_iload (pc := 36) d_K_writePool_36 4 rfl ?_
        refine h_iaload (pc := 38) d_K_writePool_38 h fun t6 h => ?_
        refine x_aload_n (pc := 39) d_K_writePool_39 rfl 2 rfl ?_
        obtain ⟨⟨ra7, ra7t⟩, h⟩ := h_ok h
        refine h_callI G (x_siteV G (pc := 40) (y2 := y_K_newFirst) (As := [.int t4, .int t6, .ref v2]) (S := []) (ci := 4) d_K_writePool_40 rfl lm_K_158 mi_K_newFirst ms_K_newFirst mw_K_newFirst.1 mx_K_newFirst.1 mx_K_newFirst.2 rfl ra7 ra7t) mw_K_newFirst ⟨Nat.le_of_ble_eq_true rfl, Nat.le_of_ble_eq_true rfl⟩ rfl (fun _ _ e => p_K_newFirst G _ _ _ _ _ e) h fun t9 M8 h => ?_
        refine x_istore (pc := 43) (L' := [(0, .ref v0), (1, .ref v1), (2, .ref v2), (3, .ref v3), (4, .int v4), (5, .int t4), (6, .int t9)]) d_K_writePool_43 (by decide) rfl ?_
        refine x_iload (pc := 45) d_K_writePool_45 5 rfl ?_
        refine h_callI G (x_siteSN G (pc := 47) (y2 := y_S_hasTwoPlaces) (As := [.int t4]) (S := []) d_K_writePool_47 lm_K_116 mi_S_hasTwoPlaces mw_S_hasTwoPlaces.2 mw_S_hasTwoPlaces.1 mx_S_hasTwoPlaces.1 mx_S_hasTwoPlaces.2 rfl) mw_S_hasTwoPlaces ⟨Nat.le_of_ble_eq_true rfl, Nat.le_of_ble_eq_true rfl⟩ rfl (fun _ _ e => p_S_hasTwoPlaces G _ _ e) h fun t11 M10 h => ?_
        refine h_if_eq (pc := 50) 65 d_K_writePool_50 (by decide) h (fun _ h => ?_) (fun _ h => ?_)
        · refine x_iconst (pc := 65) d_K_writePool_65 rfl ?_
          refine x_weak [0, 1, 2, 3, 4, 5, 6] rfl ?_
          exact p_K_writePool_66 G ih _ _ _ _ _ _ _ _ _ h
        · refine x_aload_n (pc := 53) d_K_writePool_53 rfl 2 rfl ?_
          refine x_aload_n (pc := 54) d_K_writePool_54 rfl 1 rfl ?_
          refine h_getR G (pc := 55) (ci := 2) (j := 2) d_K_writePool_55 rfl rfl rfl lf_K_122 h fun t12 h => ?_
          refine x_iload (pc := 58) d_K_writePool_58 4 rfl ?_
          refine h_iaload (pc := 60) d_K_writePool_60 h fun t13 h => ?_
          refine h_iaload (pc := 61) d_K_writePool_61 h fun t14 h => ?_
          refine x_goto (pc := 62) 66 d_K_writePool_62 (by decide) ?_
          refine x_weak [0, 1, 2, 3, 4, 5, 6] rfl ?_
          exact p_K_writePool_66 G ih _ _ _ _ _ _ _ _ _ h
theorem p_K_writePool (G : xG K) (v0 : Nat) (v1 : Nat) (v2 : Nat) (v3 : Nat) (M : XM) (h : g_K_writePool v0 v1 v2 v3 M = some (o, N)) : Ct K y_K_writePool [.ref v0, .ref v1, .ref v2, .ref v3] M o N := by
  refine ct_of (by decide) (List.forall_mem_cons.mpr ⟨rfl, List.forall_mem_cons.mpr ⟨rfl, List.forall_mem_cons.mpr ⟨rfl, List.forall_mem_cons.mpr ⟨rfl, fun _ q => absurd q List.not_mem_nil⟩⟩⟩⟩) (Nat.le_of_ble_eq_true rfl) ?_
  show cA K y_K_writePool 0 [(0, .ref v0), (1, .ref v1), (2, .ref v2), (3, .ref v3)] [] M o N
  unfold g_K_writePool at h
  refine x_iconst (pc := 0) d_K_writePool_0 rfl ?_
  refine x_istore (pc := 1) (L' := [(0, .ref v0), (1, .ref v1), (2, .ref v2), (3, .ref v3), (4, .int 0)]) d_K_writePool_1 (by decide) rfl ?_
  refine x_weak [0, 1, 2, 3, 4] rfl ?_
  exact p_K_writePool_3 G FU _ _ _ _ _ _ h
theorem p_K_writeMember_56 (G : xG K) : ∀ (n : Nat) (v1 : Nat) (v3 : Nat) (v5 : Nat) (v6 : Int32) (M : XM), g_K_writeMember_56 n v1 v3 v5 v6 M = some (o, N) → cA K y_K_writeMember 56 [(1, .ref v1), (3, .ref v3), (5, .ref v5), (6, .int v6)] [] M o N := by
  intro n
  induction n with
  | zero =>
    intro v1 v3 v5 v6 M h
    rw [g_K_writeMember_56] at h
    cases h
  | succ n ih =>
    intro v1 v3 v5 v6 M h
    rw [g_K_writeMember_56] at h
    refine x_iload (pc := 56) d_K_writeMember_56 3 rfl ?_
    refine x_aload_n (pc := 58) d_K_writeMember_58 rfl 0 rfl ?_
    refine h_getI G (pc := 59) (ci := 3) (j := 4) d_K_writeMember_59 rfl rfl rfl lf_K_84 h fun t1 h => ?_
    refine h_icmp_ge (pc := 62) 114 d_K_writeMember_62 (by decide) h (fun _ h => ?_) (fun _ h => ?_)
    · exact h_return (pc := 114) d_K_writeMember_114 rfl h
    · refine x_aload_n (pc := 65) d_K_writeMember_65 rfl 0 rfl ?_
      refine h_getR G (pc := 66) (ci := 3) (j := 5) d_K_writeMember_66 rfl rfl rfl lf_K_87 h fun t2 h => ?_
      refine x_iload (pc := 69) d_K_writeMember_69 3 rfl ?_
      refine h_iaload (pc := 71) d_K_writeMember_71 h fun t3 h => ?_
      refine x_istore (pc := 72) (L' := [(1, .ref v1), (3, .ref v3), (5, .ref v5), (6, .int v6), (7, .int t3)]) d_K_writeMember_72 (by decide) rfl ?_
      refine x_aload_n (pc := 74) d_K_writeMember_74 rfl 0 rfl ?_
      refine h_getR G (pc := 75) (ci := 3) (j := 6) d_K_writeMember_75 rfl rfl rfl lf_K_97 h fun t4 h => ?_
      refine x_iload (pc := 78) d_K_writeMember_78 3 rfl ?_
      refine h_iaload (pc := 80) d_K_writeMember_80 h fun t5 h => ?_
      refine x_istore (pc := 81) (L' := [(1, .ref v1), (3, .ref v3), (5, .ref v5), (6, .int v6), (7, .int t3), (8, .int t5)]) d_K_writeMember_81 (by decide) rfl ?_
      refine x_aload (pc := 83) d_K_writeMember_83 2 rfl ?_
      refine x_iload (pc := 85) d_K_writeMember_85 4 rfl ?_
      refine x_iload (pc := 87) d_K_writeMember_87 4 rfl ?_
      refine h_callI G (x_siteSN G (pc := 89) (y2 := y_S_usesConstant) (As := [.int t3]) (S := [.int t3, .ref v5]) d_K_writeMember_89 lm_K_90 mi_S_usesConstant mw_S_usesConstant.2 mw_S_usesConstant.1 mx_S_usesConstant.1 mx_S_usesConstant.2 rfl) mw_S_usesConstant ⟨Nat.le_of_ble_eq_true rfl, Nat.le_of_ble_eq_true rfl⟩ rfl (fun _ _ e => p_S_usesConstant G _ _ e) h fun t7 M6 h => ?_
      refine h_if_eq (pc := 92) 102 d_K_writeMember_92 (by decide) h (fun _ h => ?_) (fun _ h => ?_)
      · refine x_iload (pc := 102) d_K_writeMember_102 5 rfl ?_
        obtain ⟨⟨ra8, ra8t⟩, h⟩ := h_ok h
        refine h_callI G (x_siteV G (pc := 104) (y2 := y_B_append) (As := [.int t3, .int t5]) (S := []) (ci := 3) d_K_writeMember_104 rfl lm_K_172 mi_B_append ms_B_append mw_B_append.1 mx_B_append.1 mx_B_append.2 rfl ra8 ra8t) mw_B_append ⟨Nat.le_of_ble_eq_true rfl, Nat.le_of_ble_eq_true rfl⟩ rfl (fun _ _ e => p_B_append G _ _ _ _ e) h fun t10 M9 h => ?_
        refine x_pop (pc := 107) d_K_writeMember_107 rfl ?_
        refine x_iinc (pc := 108) (n := 3) (L' := [(1, .ref v1), (3, .ref v3), (5, .ref v5), (6, .int (v6 + 1)), (7, .int t3), (8, .int t5)]) d_K_writeMember_108 (by decide) rfl rfl ?_
        refine x_goto (pc := 111) 56 d_K_writeMember_111 (by decide) ?_
        refine x_weak [0, 1, 2, 3] rfl ?_
        exact ih _ _ _ _ _ h
      · refine x_aload_n (pc := 95) d_K_writeMember_95 rfl 1 rfl ?_
        refine x_iload (pc := 96) d_K_writeMember_96 5 rfl ?_
        refine h_iaload (pc := 98) d_K_writeMember_98 h fun t11 h => ?_
        refine x_goto (pc := 99) 104 d_K_writeMember_99 (by decide) ?_
        obtain ⟨⟨ra12, ra12t⟩, h⟩ := h_ok h
        refine h_callI G (x_siteV G (pc := 104) (y2 := y_B_append) (As := [.int t3, .int t11]) (S := []) (ci := 3) d_K_writeMember_104 rfl lm_K_172 mi_B_append ms_B_append mw_B_append.1 mx_B_append.1 mx_B_append.2 rfl ra12 ra12t) mw_B_append ⟨Nat.le_of_ble_eq_true rfl, Nat.le_of_ble_eq_true rfl⟩ rfl (fun _ _ e => p_B_append G _ _ _ _ e) h fun t14 M13 h => ?_
        refine x_pop (pc := 107) d_K_writeMember_107 rfl ?_
        refine x_iinc (pc := 108) (n := 3) (L' := [(1, .ref v1), (3, .ref v3), (5, .ref v5), (6, .int (v6 + 1)), (7, .int t3), (8, .int t5)]) d_K_writeMember_108 (by decide) rfl rfl ?_
        refine x_goto (pc := 111) 56 d_K_writeMember_111 (by decide) ?_
        refine x_weak [0, 1, 2, 3] rfl ?_
        exact ih _ _ _ _ _ h
theorem p_K_writeMember (G : xG K) (v0 : Nat) (v1 : Nat) (v2 : Nat) (M : XM) (h : g_K_writeMember v0 v1 v2 M = some (o, N)) : Ct K y_K_writeMember [.ref v0, .ref v1, .ref v2] M o N := by
  refine ct_of (by decide) (List.forall_mem_cons.mpr ⟨rfl, List.forall_mem_cons.mpr ⟨rfl, List.forall_mem_cons.mpr ⟨rfl, fun _ q => absurd q List.not_mem_nil⟩⟩⟩) (Nat.le_of_ble_eq_true rfl) ?_
  show cA K y_K_writeMember 0 [(0, .ref v0), (1, .ref v1), (2, .ref v2)] [] M o N
  unfold g_K_writeMember at h
  refine x_aload_n (pc := 0) d_K_writeMember_0 rfl 0 rfl ?_
  refine h_getR G (pc := 1) (ci := 4) (j := 2) d_K_writeMember_1 rfl rfl rfl lf_K_20 h fun t1 h => ?_
  refine x_aload_n (pc := 4) d_K_writeMember_4 rfl 1 rfl ?_
  refine h_getI G (pc := 5) (ci := 3) (j := 0) d_K_writeMember_5 rfl rfl rfl lf_K_94 h fun t2 h => ?_
  refine h_aaload (pc := 8) (kd := 13) d_K_writeMember_8 (by decide) rfl rfl h fun t3 h => ?_
  refine x_astore_n (pc := 9) (L' := [(0, .ref v0), (1, .ref v1), (2, .ref v2), (3, .ref t3)]) d_K_writeMember_9 rfl (by decide) rfl ?_
  refine x_aload_n (pc := 10) d_K_writeMember_10 rfl 2 rfl ?_
  refine x_aload_n (pc := 11) d_K_writeMember_11 rfl 0 rfl ?_
  refine h_getR G (pc := 12) (ci := 4) (j := 1) d_K_writeMember_12 rfl rfl rfl lf_K_15 h fun t4 h => ?_
  refine x_aload_n (pc := 15) d_K_writeMember_15 rfl 1 rfl ?_
  refine h_getI G (pc := 16) (ci := 3) (j := 0) d_K_writeMember_16 rfl rfl rfl lf_K_94 h fun t5 h => ?_
  refine h_iaload (pc := 19) d_K_writeMember_19 h fun t6 h => ?_
  refine x_aload_n (pc := 20) d_K_writeMember_20 rfl 3 rfl ?_
  refine x_aload_n (pc := 21) d_K_writeMember_21 rfl 1 rfl ?_
  refine h_getI G (pc := 22) (ci := 3) (j := 1) d_K_writeMember_22 rfl rfl rfl lf_K_104 h fun t7 h => ?_
  refine h_iaload (pc := 25) d_K_writeMember_25 h fun t8 h => ?_
  refine x_aload_n (pc := 26) d_K_writeMember_26 rfl 1 rfl ?_
  refine h_getI G (pc := 27) (ci := 3) (j := 2) d_K_writeMember_27 rfl rfl rfl lf_K_166 h fun t9 h => ?_
  obtain ⟨⟨ra10, ra10t⟩, h⟩ := h_ok h
  refine h_callI G (x_siteV G (pc := 30) (y2 := y_P_startMember) (As := [.int t6, .int t8, .int t9]) (S := []) (ci := 1) d_K_writeMember_30 rfl lm_K_169 mi_P_startMember ms_P_startMember mw_P_startMember.1 mx_P_startMember.1 mx_P_startMember.2 rfl ra10 ra10t) mw_P_startMember ⟨Nat.le_of_ble_eq_true rfl, Nat.le_of_ble_eq_true rfl⟩ rfl (fun _ _ e => p_P_startMember G _ _ _ _ _ e) h fun t12 M11 h => ?_
  refine x_istore (pc := 33) (L' := [(0, .ref v0), (1, .ref v1), (2, .ref v2), (3, .ref t3), (4, .int t12)]) d_K_writeMember_33 (by decide) rfl ?_
  refine x_aload_n (pc := 35) d_K_writeMember_35 rfl 2 rfl ?_
  refine h_getR G (pc := 36) (ci := 1) (j := 1) d_K_writeMember_36 rfl rfl rfl lf_K_70 h fun t13 h => ?_
  refine x_iload (pc := 39) d_K_writeMember_39 4 rfl ?_
  refine h_aaload (pc := 41) (kd := 11) d_K_writeMember_41 (by decide) rfl rfl h fun t14 h => ?_
  refine x_astore (pc := 42) (L' := [(0, .ref v0), (1, .ref v1), (2, .ref v2), (3, .ref t3), (4, .int t12), (5, .ref t14)]) d_K_writeMember_42 (by decide) rfl ?_
  refine x_aload (pc := 44) d_K_writeMember_44 5 rfl ?_
  refine x_aload_n (pc := 46) d_K_writeMember_46 rfl 1 rfl ?_
  refine h_getI G (pc := 47) (ci := 3) (j := 3) d_K_writeMember_47 rfl rfl rfl lf_K_74 h fun t15 h => ?_
  refine h_putZ G (pc := 50) (ci := 3) (j := 3) d_K_writeMember_50 rfl rfl rfl lf_K_74 h fun M16 h => ?_
  refine x_iconst (pc := 53) d_K_writeMember_53 rfl ?_
  refine x_istore (pc := 54) (L' := [(0, .ref v0), (1, .ref v1), (2, .ref v2), (3, .ref t3), (4, .int t12), (5, .ref t14), (6, .int 0)]) d_K_writeMember_54 (by decide) rfl ?_
  refine x_weak [1, 3, 5, 6] rfl ?_
  exact p_K_writeMember_56 G FU _ _ _ _ _ h
theorem p_K_write_57 (G : xG K) : ∀ (n : Nat) (v0 : Nat) (v1 : Nat) (v2 : Nat) (v3 : Int32) (M : XM), g_K_write_57 n v0 v1 v2 v3 M = some (o, N) → cA K y_K_write 57 [(0, .ref v0), (1, .ref v1), (2, .ref v2), (3, .int v3)] [] M o N := by
  intro n
  induction n with
  | zero =>
    intro v0 v1 v2 v3 M h
    rw [g_K_write_57] at h
    cases h
  | succ n ih =>
    intro v0 v1 v2 v3 M h
    rw [g_K_write_57] at h
    refine x_iload_n (pc := 57) d_K_write_57 rfl 3 rfl ?_
    refine x_aload_n (pc := 58) d_K_write_58 rfl 1 rfl ?_
    refine h_getI G (pc := 59) (ci := 1) (j := 3) d_K_write_59 rfl rfl rfl lf_K_65 h fun t1 h => ?_
    refine h_icmp_ge (pc := 62) 92 d_K_write_62 (by decide) h (fun _ h => ?_) (fun _ h => ?_)
    · exact h_return (pc := 92) d_K_write_92 rfl h
    · refine x_aload_n (pc := 65) d_K_write_65 rfl 0 rfl ?_
      refine h_getR G (pc := 66) (ci := 4) (j := 0) d_K_write_66 rfl rfl rfl lf_K_9 h fun t2 h => ?_
      refine x_iload_n (pc := 69) d_K_write_69 rfl 3 rfl ?_
      refine h_iaload (pc := 70) d_K_write_70 h fun t3 h => ?_
      refine x_iconst (pc := 71) d_K_write_71 rfl ?_
      refine h_icmp_eq (pc := 72) 86 d_K_write_72 (by decide) h (fun _ h => ?_) (fun _ h => ?_)
      · refine x_iinc (pc := 86) (n := 3) (L' := [(0, .ref v0), (1, .ref v1), (2, .ref v2), (3, .int (v3 + 1))]) d_K_write_86 (by decide) rfl rfl ?_
        refine x_goto (pc := 89) 57 d_K_write_89 (by decide) ?_
        refine x_weak [0, 1, 2, 3] rfl ?_
        exact ih _ _ _ _ _ h
      · refine x_aload_n (pc := 75) d_K_write_75 rfl 0 rfl ?_
        refine x_aload_n (pc := 76) d_K_write_76 rfl 1 rfl ?_
        refine h_getR G (pc := 77) (ci := 1) (j := 1) d_K_write_77 rfl rfl rfl lf_K_70 h fun t4 h => ?_
        refine x_iload_n (pc := 80) d_K_write_80 rfl 3 rfl ?_
        refine h_aaload (pc := 81) (kd := 11) d_K_write_81 (by decide) rfl rfl h fun t5 h => ?_
        refine x_aload_n (pc := 82) d_K_write_82 rfl 2 rfl ?_
        obtain ⟨⟨ra6, ra6t⟩, h⟩ := h_ok h
        refine h_callV G (x_siteV G (pc := 83) (y2 := y_K_writeMember) (As := [.ref t5, .ref v2]) (S := []) (ci := 4) d_K_write_83 rfl lm_K_154 mi_K_writeMember ms_K_writeMember mw_K_writeMember.1 mx_K_writeMember.1 mx_K_writeMember.2 rfl ra6 ra6t) mw_K_writeMember ⟨Nat.le_of_ble_eq_true rfl, Nat.le_of_ble_eq_true rfl⟩ rfl (fun _ _ e => p_K_writeMember G _ _ _ _ e) h fun M7 h => ?_
        refine x_iinc (pc := 86) (n := 3) (L' := [(0, .ref v0), (1, .ref v1), (2, .ref v2), (3, .int (v3 + 1))]) d_K_write_86 (by decide) rfl rfl ?_
        refine x_goto (pc := 89) 57 d_K_write_89 (by decide) ?_
        refine x_weak [0, 1, 2, 3] rfl ?_
        exact ih _ _ _ _ _ h
theorem p_K_write_6 (G : xG K) : ∀ (n : Nat) (v0 : Nat) (v1 : Nat) (v2 : Nat) (v3 : Int32) (M : XM), g_K_write_6 n v0 v1 v2 v3 M = some (o, N) → cA K y_K_write 6 [(0, .ref v0), (1, .ref v1), (2, .ref v2), (3, .int v3)] [] M o N := by
  intro n
  induction n with
  | zero =>
    intro v0 v1 v2 v3 M h
    rw [g_K_write_6] at h
    cases h
  | succ n ih =>
    intro v0 v1 v2 v3 M h
    rw [g_K_write_6] at h
    refine x_iload_n (pc := 6) d_K_write_6 rfl 3 rfl ?_
    refine x_aload_n (pc := 7) d_K_write_7 rfl 1 rfl ?_
    refine h_getI G (pc := 8) (ci := 1) (j := 2) d_K_write_8 rfl rfl rfl lf_K_132 h fun t1 h => ?_
    refine h_icmp_ge (pc := 11) 55 d_K_write_11 (by decide) h (fun _ h => ?_) (fun _ h => ?_)
    · refine x_iconst (pc := 55) d_K_write_55 rfl ?_
      refine x_istore_n (pc := 56) (L' := [(0, .ref v0), (1, .ref v1), (2, .ref v2), (3, .int 0)]) d_K_write_56 rfl (by decide) rfl ?_
      refine x_weak [0, 1, 2, 3] rfl ?_
      exact p_K_write_57 G FU _ _ _ _ _ h
    · refine x_aload_n (pc := 14) d_K_write_14 rfl 0 rfl ?_
      refine h_getR G (pc := 15) (ci := 4) (j := 1) d_K_write_15 rfl rfl rfl lf_K_15 h fun t2 h => ?_
      refine x_iload_n (pc := 18) d_K_write_18 rfl 3 rfl ?_
      refine h_iaload (pc := 19) d_K_write_19 h fun t3 h => ?_
      refine x_iconst (pc := 20) d_K_write_20 rfl ?_
      refine h_icmp_eq (pc := 21) 49 d_K_write_21 (by decide) h (fun _ h => ?_) (fun _ h => ?_)
      · refine x_iinc (pc := 49) (n := 3) (L' := [(0, .ref v0), (1, .ref v1), (2, .ref v2), (3, .int (v3 + 1))]) d_K_write_49 (by decide) rfl rfl ?_
        refine x_goto (pc := 52) 6 d_K_write_52 (by decide) ?_
        refine x_weak [0, 1, 2, 3] rfl ?_
        exact ih _ _ _ _ _ h
      · refine x_aload_n (pc := 24) d_K_write_24 rfl 0 rfl ?_
        refine x_aload_n (pc := 25) d_K_write_25 rfl 1 rfl ?_
        refine h_getR G (pc := 26) (ci := 1) (j := 0) d_K_write_26 rfl rfl rfl lf_K_107 h fun t4 h => ?_
        refine x_iload_n (pc := 29) d_K_write_29 rfl 3 rfl ?_
        refine h_aaload (pc := 30) (kd := 10) d_K_write_30 (by decide) rfl rfl h fun t5 h => ?_
        refine x_aload_n (pc := 31) d_K_write_31 rfl 0 rfl ?_
        refine h_getR G (pc := 32) (ci := 4) (j := 2) d_K_write_32 rfl rfl rfl lf_K_20 h fun t6 h => ?_
        refine x_iload_n (pc := 35) d_K_write_35 rfl 3 rfl ?_
        refine h_aaload (pc := 36) (kd := 13) d_K_write_36 (by decide) rfl rfl h fun t7 h => ?_
        refine x_aload_n (pc := 37) d_K_write_37 rfl 2 rfl ?_
        refine h_getR G (pc := 38) (ci := 1) (j := 0) d_K_write_38 rfl rfl rfl lf_K_107 h fun t8 h => ?_
        refine x_aload_n (pc := 41) d_K_write_41 rfl 2 rfl ?_
        obtain ⟨⟨ra9, ra9t⟩, h⟩ := h_ok h
        refine h_callI G (x_siteV G (pc := 42) (y2 := y_P_startClass) (As := []) (S := [.ref t8, .ref t7, .ref t5, .ref v0]) (ci := 1) d_K_write_42 rfl lm_K_146 mi_P_startClass ms_P_startClass mw_P_startClass.1 mx_P_startClass.1 mx_P_startClass.2 rfl ra9 ra9t) mw_P_startClass ⟨Nat.le_of_ble_eq_true rfl, Nat.le_of_ble_eq_true rfl⟩ rfl (fun _ _ e => p_P_startClass G _ _ e) h fun t11 M10 h => ?_
        refine h_aaload (pc := 45) (kd := 10) d_K_write_45 (by decide) rfl rfl h fun t12 h => ?_
        obtain ⟨⟨ra13, ra13t⟩, h⟩ := h_ok h
        refine h_callV G (x_siteV G (pc := 46) (y2 := y_K_writePool) (As := [.ref t5, .ref t7, .ref t12]) (S := []) (ci := 4) d_K_write_46 rfl lm_K_150 mi_K_writePool ms_K_writePool mw_K_writePool.1 mx_K_writePool.1 mx_K_writePool.2 rfl ra13 ra13t) mw_K_writePool ⟨Nat.le_of_ble_eq_true rfl, Nat.le_of_ble_eq_true rfl⟩ rfl (fun _ _ e => p_K_writePool G _ _ _ _ _ e) h fun M14 h => ?_
        refine x_iinc (pc := 49) (n := 3) (L' := [(0, .ref v0), (1, .ref v1), (2, .ref v2), (3, .int (v3 + 1))]) d_K_write_49 (by decide) rfl rfl ?_
        refine x_goto (pc := 52) 6 d_K_write_52 (by decide) ?_
        refine x_weak [0, 1, 2, 3] rfl ?_
        exact ih _ _ _ _ _ h
theorem p_K_write (G : xG K) (v0 : Nat) (v1 : Nat) (v2 : Nat) (M : XM) (h : g_K_write v0 v1 v2 M = some (o, N)) : Ct K y_K_write [.ref v0, .ref v1, .ref v2] M o N := by
  refine ct_of (by decide) (List.forall_mem_cons.mpr ⟨rfl, List.forall_mem_cons.mpr ⟨rfl, List.forall_mem_cons.mpr ⟨rfl, fun _ q => absurd q List.not_mem_nil⟩⟩⟩) (Nat.le_of_ble_eq_true rfl) ?_
  show cA K y_K_write 0 [(0, .ref v0), (1, .ref v1), (2, .ref v2)] [] M o N
  unfold g_K_write at h
  refine x_aload_n (pc := 0) d_K_write_0 rfl 2 rfl ?_
  obtain ⟨⟨ra1, ra1t⟩, h⟩ := h_ok h
  refine h_callV G (x_siteV G (pc := 1) (y2 := y_P_empty) (As := []) (S := []) (ci := 1) d_K_write_1 rfl lm_K_143 mi_P_empty ms_P_empty mw_P_empty.1 mx_P_empty.1 mx_P_empty.2 rfl ra1 ra1t) mw_P_empty ⟨Nat.le_of_ble_eq_true rfl, Nat.le_of_ble_eq_true rfl⟩ rfl (fun _ _ e => p_P_empty G _ _ e) h fun M2 h => ?_
  refine x_iconst (pc := 4) d_K_write_4 rfl ?_
  refine x_istore_n (pc := 5) (L' := [(0, .ref v0), (1, .ref v1), (2, .ref v2), (3, .int 0)]) d_K_write_5 rfl (by decide) rfl ?_
  refine x_weak [0, 1, 2, 3] rfl ?_
  exact p_K_write_6 G FU _ _ _ _ _ h
theorem p_K_rebuild (G : xG K) (v0 : Nat) (v1 : Nat) (v2 : Nat) (M : XM) (h : g_K_rebuild v0 v1 v2 M = some (o, N)) : Ct K y_K_rebuild [.ref v0, .ref v1, .ref v2] M o N := by
  refine ct_of (by decide) (List.forall_mem_cons.mpr ⟨rfl, List.forall_mem_cons.mpr ⟨rfl, List.forall_mem_cons.mpr ⟨rfl, fun _ q => absurd q List.not_mem_nil⟩⟩⟩) (Nat.le_of_ble_eq_true rfl) ?_
  show cA K y_K_rebuild 0 [(0, .ref v0), (1, .ref v1), (2, .ref v2)] [] M o N
  unfold g_K_rebuild at h
  refine x_aload_n (pc := 0) d_K_rebuild_0 rfl 0 rfl ?_
  obtain ⟨⟨ra1, ra1t⟩, h⟩ := h_ok h
  refine h_callV G (x_siteV G (pc := 1) (y2 := y_K_forget) (As := []) (S := []) (ci := 4) d_K_rebuild_1 rfl lm_K_38 mi_K_forget ms_K_forget mw_K_forget.1 mx_K_forget.1 mx_K_forget.2 rfl ra1 ra1t) mw_K_forget ⟨Nat.le_of_ble_eq_true rfl, Nat.le_of_ble_eq_true rfl⟩ rfl (fun _ _ e => p_K_forget G _ _ e) h fun M2 h => ?_
  refine x_aload_n (pc := 4) d_K_rebuild_4 rfl 0 rfl ?_
  refine x_aload_n (pc := 5) d_K_rebuild_5 rfl 1 rfl ?_
  obtain ⟨⟨ra3, ra3t⟩, h⟩ := h_ok h
  refine h_callV G (x_siteV G (pc := 6) (y2 := y_K_keepEntries) (As := [.ref v1]) (S := []) (ci := 4) d_K_rebuild_6 rfl lm_K_41 mi_K_keepEntries ms_K_keepEntries mw_K_keepEntries.1 mx_K_keepEntries.1 mx_K_keepEntries.2 rfl ra3 ra3t) mw_K_keepEntries ⟨Nat.le_of_ble_eq_true rfl, Nat.le_of_ble_eq_true rfl⟩ rfl (fun _ _ e => p_K_keepEntries G _ _ _ e) h fun M4 h => ?_
  refine x_aload_n (pc := 9) d_K_rebuild_9 rfl 0 rfl ?_
  refine x_aload_n (pc := 10) d_K_rebuild_10 rfl 1 rfl ?_
  obtain ⟨⟨ra5, ra5t⟩, h⟩ := h_ok h
  refine h_callV G (x_siteV G (pc := 11) (y2 := y_K_keepReached) (As := [.ref v1]) (S := []) (ci := 4) d_K_rebuild_11 rfl lm_K_45 mi_K_keepReached ms_K_keepReached mw_K_keepReached.1 mx_K_keepReached.1 mx_K_keepReached.2 rfl ra5 ra5t) mw_K_keepReached ⟨Nat.le_of_ble_eq_true rfl, Nat.le_of_ble_eq_true rfl⟩ rfl (fun _ _ e => p_K_keepReached G _ _ _ e) h fun M6 h => ?_
  refine x_aload_n (pc := 14) d_K_rebuild_14 rfl 0 rfl ?_
  refine x_aload_n (pc := 15) d_K_rebuild_15 rfl 1 rfl ?_
  obtain ⟨⟨ra7, ra7t⟩, h⟩ := h_ok h
  refine h_callV G (x_siteV G (pc := 16) (y2 := y_K_closeUpAll) (As := [.ref v1]) (S := []) (ci := 4) d_K_rebuild_16 rfl lm_K_48 mi_K_closeUpAll ms_K_closeUpAll mw_K_closeUpAll.1 mx_K_closeUpAll.1 mx_K_closeUpAll.2 rfl ra7 ra7t) mw_K_closeUpAll ⟨Nat.le_of_ble_eq_true rfl, Nat.le_of_ble_eq_true rfl⟩ rfl (fun _ _ e => p_K_closeUpAll G _ _ _ e) h fun M8 h => ?_
  refine x_aload_n (pc := 19) d_K_rebuild_19 rfl 0 rfl ?_
  refine x_aload_n (pc := 20) d_K_rebuild_20 rfl 1 rfl ?_
  obtain ⟨⟨ra9, ra9t⟩, h⟩ := h_ok h
  refine h_callV G (x_siteV G (pc := 21) (y2 := y_K_lookAtNames) (As := [.ref v1]) (S := []) (ci := 4) d_K_rebuild_21 rfl lm_K_51 mi_K_lookAtNames ms_K_lookAtNames mw_K_lookAtNames.1 mx_K_lookAtNames.1 mx_K_lookAtNames.2 rfl ra9 ra9t) mw_K_lookAtNames ⟨Nat.le_of_ble_eq_true rfl, Nat.le_of_ble_eq_true rfl⟩ rfl (fun _ _ e => p_K_lookAtNames G _ _ _ e) h fun M10 h => ?_
  refine x_aload_n (pc := 24) d_K_rebuild_24 rfl 0 rfl ?_
  obtain ⟨⟨ra11, ra11t⟩, h⟩ := h_ok h
  refine h_callV G (x_siteV G (pc := 25) (y2 := y_K_giveNames) (As := []) (S := []) (ci := 4) d_K_rebuild_25 rfl lm_K_54 mi_K_giveNames ms_K_giveNames mw_K_giveNames.1 mx_K_giveNames.1 mx_K_giveNames.2 rfl ra11 ra11t) mw_K_giveNames ⟨Nat.le_of_ble_eq_true rfl, Nat.le_of_ble_eq_true rfl⟩ rfl (fun _ _ e => p_K_giveNames G _ _ e) h fun M12 h => ?_
  refine x_aload_n (pc := 28) d_K_rebuild_28 rfl 0 rfl ?_
  refine x_aload_n (pc := 29) d_K_rebuild_29 rfl 1 rfl ?_
  refine x_aload_n (pc := 30) d_K_rebuild_30 rfl 2 rfl ?_
  obtain ⟨⟨ra13, ra13t⟩, h⟩ := h_ok h
  refine h_callV G (x_siteV G (pc := 31) (y2 := y_K_write) (As := [.ref v1, .ref v2]) (S := []) (ci := 4) d_K_rebuild_31 rfl lm_K_57 mi_K_write ms_K_write mw_K_write.1 mx_K_write.1 mx_K_write.2 rfl ra13 ra13t) mw_K_write ⟨Nat.le_of_ble_eq_true rfl, Nat.le_of_ble_eq_true rfl⟩ rfl (fun _ _ e => p_K_write G _ _ _ _ e) h fun M14 h => ?_
  exact h_return (pc := 34) d_K_rebuild_34 rfl h
theorem p_S_shake (G : xG K) (v0 : Nat) (M : XM) (h : g_S_shake v0 M = some (o, N)) : Ct K y_S_shake [.ref v0] M o N := by
  refine ct_of (by decide) (List.forall_mem_cons.mpr ⟨rfl, fun _ q => absurd q List.not_mem_nil⟩) (Nat.le_of_ble_eq_true rfl) ?_
  show cA K y_S_shake 0 [(0, .ref v0)] [] M o N
  unfold g_S_shake at h
  refine x_aload_n (pc := 0) d_S_shake_0 rfl 0 rfl ?_
  refine h_getR G (pc := 1) (ci := 0) (j := 0) d_S_shake_1 rfl rfl rfl lf_S_10 h fun t1 h => ?_
  obtain ⟨⟨ra2, ra2t⟩, h⟩ := h_ok h
  refine h_callI G (x_siteV G (pc := 4) (y2 := y_P_firstFault) (As := []) (S := []) (ci := 1) d_S_shake_4 rfl lm_S_124 mi_P_firstFault ms_P_firstFault mw_P_firstFault.1 mx_P_firstFault.1 mx_P_firstFault.2 rfl ra2 ra2t) mw_P_firstFault ⟨Nat.le_of_ble_eq_true rfl, Nat.le_of_ble_eq_true rfl⟩ rfl (fun _ _ e => p_P_firstFault G _ _ e) h fun t4 M3 h => ?_
  refine x_iconst (pc := 7) d_S_shake_7 rfl ?_
  refine h_icmp_eq (pc := 8) 21 d_S_shake_8 (by decide) h (fun _ h => ?_) (fun _ h => ?_)
  · refine x_aload_n (pc := 21) d_S_shake_21 rfl 0 rfl ?_
    refine h_getR G (pc := 22) (ci := 0) (j := 0) d_S_shake_22 rfl rfl rfl lf_S_10 h fun t5 h => ?_
    obtain ⟨⟨ra6, ra6t⟩, h⟩ := h_ok h
    refine h_callI G (x_siteV G (pc := 25) (y2 := y_P_entries) (As := []) (S := []) (ci := 1) d_S_shake_25 rfl lm_S_129 mi_P_entries ms_P_entries mw_P_entries.1 mx_P_entries.1 mx_P_entries.2 rfl ra6 ra6t) mw_P_entries ⟨Nat.le_of_ble_eq_true rfl, Nat.le_of_ble_eq_true rfl⟩ rfl (fun _ _ e => p_P_entries G _ _ e) h fun t8 M7 h => ?_
    refine h_if_ne (pc := 28) 41 d_S_shake_28 (by decide) h (fun _ h => ?_) (fun _ h => ?_)
    · refine x_aload_n (pc := 41) d_S_shake_41 rfl 0 rfl ?_
      refine h_getR G (pc := 42) (ci := 0) (j := 2) d_S_shake_42 rfl rfl rfl lf_S_22 h fun t9 h => ?_
      refine x_aload_n (pc := 45) d_S_shake_45 rfl 0 rfl ?_
      refine h_getR G (pc := 46) (ci := 0) (j := 0) d_S_shake_46 rfl rfl rfl lf_S_10 h fun t10 h => ?_
      refine x_aload_n (pc := 49) d_S_shake_49 rfl 0 rfl ?_
      refine h_getR G (pc := 50) (ci := 0) (j := 1) d_S_shake_50 rfl rfl rfl lf_S_16 h fun t11 h => ?_
      obtain ⟨⟨ra12, ra12t⟩, h⟩ := h_ok h
      refine h_callV G (x_siteV G (pc := 53) (y2 := y_K_rebuild) (As := [.ref t10, .ref t11]) (S := []) (ci := 4) d_S_shake_53 rfl lm_S_134 mi_K_rebuild ms_K_rebuild mw_K_rebuild.1 mx_K_rebuild.1 mx_K_rebuild.2 rfl ra12 ra12t) mw_K_rebuild ⟨Nat.le_of_ble_eq_true rfl, Nat.le_of_ble_eq_true rfl⟩ rfl (fun _ _ e => p_K_rebuild G _ _ _ _ e) h fun M13 h => ?_
      refine x_aload_n (pc := 56) d_S_shake_56 rfl 0 rfl ?_
      refine h_getR G (pc := 57) (ci := 0) (j := 1) d_S_shake_57 rfl rfl rfl lf_S_16 h fun t14 h => ?_
      refine h_getI G (pc := 60) (ci := 1) (j := 3) d_S_shake_60 rfl rfl rfl lf_S_90 h fun t15 h => ?_
      exact h_ireturn (pc := 63) d_S_shake_63 rfl h
    · exact h_throw G (pc := 31) (ei := 0) rfl d_S_shake_31 d_S_shake_34 d_S_shake_35 d_S_shake_37 d_S_shake_40 lc_S_37 lm_S_41 ls_S_132 rfl (Nat.le_of_ble_eq_true rfl) (Nat.le_of_ble_eq_true rfl) h
  · exact h_throw G (pc := 11) (ei := 0) rfl d_S_shake_11 d_S_shake_14 d_S_shake_15 d_S_shake_17 d_S_shake_20 lc_S_37 lm_S_41 ls_S_127 rfl (Nat.le_of_ble_eq_true rfl) (Nat.le_of_ble_eq_true rfl) h
theorem p_W_shake (G : xG K) (v0 : Nat) (v1 : Nat) (M : XM) (h : g_W_shake v0 v1 M = some (o, N)) : Ct K y_W_shake [.ref v0, .ref v1] M o N := by
  refine ct_of (by decide) (List.forall_mem_cons.mpr ⟨rfl, List.forall_mem_cons.mpr ⟨rfl, fun _ q => absurd q List.not_mem_nil⟩⟩) (Nat.le_of_ble_eq_true rfl) ?_
  show cA K y_W_shake 0 [(0, .ref v0), (1, .ref v1)] [] M o N
  unfold g_W_shake at h
  refine x_aload_n (pc := 0) d_W_shake_0 rfl 1 rfl ?_
  refine x_iconst (pc := 1) d_W_shake_1 rfl ?_
  refine x_aload_n (pc := 2) d_W_shake_2 rfl 0 rfl ?_
  obtain ⟨⟨ra1, ra1t⟩, h⟩ := h_ok h
  refine h_hI G (x_siteV G (pc := 3) (y2 := y_S_shake) (As := []) (S := [.int 0, .ref v1]) (ci := 0) d_W_shake_3 rfl lm_W_34 mi_S_shake ms_S_shake mw_S_shake.1 mx_S_shake.1 mx_S_shake.2 rfl ra1 ra1t) mw_S_shake ⟨Nat.le_of_ble_eq_true rfl, Nat.le_of_ble_eq_true rfl⟩ (fun _ _ e => p_S_shake G _ _ e) h (fun t3 M2 h => ?_) (fun a5 M6 h => ?_)
  · refine x_i2l (pc := 6) d_W_shake_6 ?_
    refine h_lastore G (pc := 7) d_W_shake_7 h fun M4 h => ?_
    refine x_goto (pc := 8) 14 d_W_shake_8 (by decide) ?_
    refine x_iconst (pc := 14) d_W_shake_14 rfl ?_
    exact h_ireturn (pc := 15) d_W_shake_15 rfl h
  · refine h_catch G (pc := 3) (ei := 0) rfl [] (0, 8, 11, 13) [] rfl (fun _ q => absurd q List.not_mem_nil) ⟨by decide, by decide, by decide, lc_W_13⟩ h (fun h => ?_) (fun h => ?_)
    · refine x_astore_n (pc := 11) (L' := [(0, .ref v0), (1, .ref v1), (2, .ref a5)]) d_W_shake_11 rfl (by decide) rfl ?_
      refine x_iconst (pc := 12) d_W_shake_12 rfl ?_
      exact h_ireturn (pc := 13) d_W_shake_13 rfl h
    · cases h
theorem p_S_chosen (G : xG K) (v0 : Nat) (v1 : Int32) (M : XM) (h : g_S_chosen v0 v1 M = some (o, N)) : Ct K y_S_chosen [.ref v0, .int v1] M o N := by
  refine ct_of (by decide) (List.forall_mem_cons.mpr ⟨rfl, List.forall_mem_cons.mpr ⟨rfl, fun _ q => absurd q List.not_mem_nil⟩⟩) (Nat.le_of_ble_eq_true rfl) ?_
  show cA K y_S_chosen 0 [(0, .ref v0), (1, .int v1)] [] M o N
  unfold g_S_chosen at h
  refine x_iload_n (pc := 0) d_S_chosen_0 rfl 1 rfl ?_
  refine h_if_eq (pc := 1) 11 d_S_chosen_1 (by decide) h (fun _ h => ?_) (fun _ h => ?_)
  · refine x_aload_n (pc := 11) d_S_chosen_11 rfl 0 rfl ?_
    refine h_getR G (pc := 12) (ci := 0) (j := 0) d_S_chosen_12 rfl rfl rfl lf_S_10 h fun t1 h => ?_
    exact h_areturn (pc := 15) d_S_chosen_15 rfl h
  · refine x_aload_n (pc := 4) d_S_chosen_4 rfl 0 rfl ?_
    refine h_getR G (pc := 5) (ci := 0) (j := 1) d_S_chosen_5 rfl rfl rfl lf_S_16 h fun t2 h => ?_
    refine x_goto (pc := 8) 15 d_S_chosen_8 (by decide) ?_
    exact h_areturn (pc := 15) d_S_chosen_15 rfl h
theorem p_S_count (G : xG K) (v0 : Nat) (v1 : Int32) (v2 : Int32) (M : XM) (h : g_S_count v0 v1 v2 M = some (o, N)) : Ct K y_S_count [.ref v0, .int v1, .int v2] M o N := by
  refine ct_of (by decide) (List.forall_mem_cons.mpr ⟨rfl, List.forall_mem_cons.mpr ⟨rfl, List.forall_mem_cons.mpr ⟨rfl, fun _ q => absurd q List.not_mem_nil⟩⟩⟩) (Nat.le_of_ble_eq_true rfl) ?_
  show cA K y_S_count 0 [(0, .ref v0), (1, .int v1), (2, .int v2)] [] M o N
  unfold g_S_count at h
  refine x_aload_n (pc := 0) d_S_count_0 rfl 0 rfl ?_
  refine x_iload_n (pc := 1) d_S_count_1 rfl 1 rfl ?_
  obtain ⟨⟨ra1, ra1t⟩, h⟩ := h_ok h
  refine h_callR G (x_siteV G (pc := 2) (y2 := y_S_chosen) (As := [.int v1]) (S := []) (ci := 0) d_S_count_2 rfl lm_S_138 mi_S_chosen ms_S_chosen mw_S_chosen.1 mx_S_chosen.1 mx_S_chosen.2 rfl ra1 ra1t) mw_S_chosen ⟨Nat.le_of_ble_eq_true rfl, Nat.le_of_ble_eq_true rfl⟩ rfl (fun _ _ e => p_S_chosen G _ _ _ e) h fun t3 M2 h => ?_
  refine x_astore_n (pc := 5) (L' := [(0, .ref v0), (1, .int v1), (2, .int v2), (3, .ref t3)]) d_S_count_5 rfl (by decide) rfl ?_
  refine x_iload_n (pc := 6) d_S_count_6 rfl 2 rfl ?_
  refine h_case h (fun c0 h => ?_) (fun c0 h => ?_)
  · refine x_tableIn (pc := 7) 32 d_S_count_7 (by rw [c0]; decide) (by rw [c0]; decide) (off := 25) (by rw [c0]; rfl) (by decide) ?_
    refine x_aload_n (pc := 32) d_S_count_32 rfl 3 rfl ?_
    refine h_getI G (pc := 33) (ci := 1) (j := 2) d_S_count_33 rfl rfl rfl lf_S_33 h fun t8 h => ?_
    exact h_ireturn (pc := 36) d_S_count_36 rfl h
  · refine h_case h (fun c1 h => ?_) (fun c1 h => ?_)
    · refine x_tableIn (pc := 7) 37 d_S_count_7 (by rw [c1]; decide) (by rw [c1]; decide) (off := 30) (by rw [c1]; rfl) (by decide) ?_
      refine x_aload_n (pc := 37) d_S_count_37 rfl 3 rfl ?_
      refine h_getI G (pc := 38) (ci := 1) (j := 3) d_S_count_38 rfl rfl rfl lf_S_90 h fun t7 h => ?_
      exact h_ireturn (pc := 41) d_S_count_41 rfl h
    · refine h_case h (fun c2 h => ?_) (fun c2 h => ?_)
      · refine x_tableIn (pc := 7) 42 d_S_count_7 (by rw [c2]; decide) (by rw [c2]; decide) (off := 35) (by rw [c2]; rfl) (by decide) ?_
        refine x_aload_n (pc := 42) d_S_count_42 rfl 3 rfl ?_
        obtain ⟨⟨ra4, ra4t⟩, h⟩ := h_ok h
        refine h_callI G (x_siteV G (pc := 43) (y2 := y_P_entries) (As := []) (S := []) (ci := 1) d_S_count_43 rfl lm_S_129 mi_P_entries ms_P_entries mw_P_entries.1 mx_P_entries.1 mx_P_entries.2 rfl ra4 ra4t) mw_P_entries ⟨Nat.le_of_ble_eq_true rfl, Nat.le_of_ble_eq_true rfl⟩ rfl (fun _ _ e => p_P_entries G _ _ e) h fun t6 M5 h => ?_
        exact h_ireturn (pc := 46) d_S_count_46 rfl h
      · refine x_tableOut (pc := 7) 47 d_S_count_7 (by have q0 := lv_neT (a := 0) c0 (by decide); have q1 := lv_neT (a := 1) c1 (by decide); have q2 := lv_neT (a := 2) c2 (by decide); omega) (by decide) ?_
        exact h_throw G (pc := 47) (ei := 2) rfl d_S_count_47 d_S_count_50 d_S_count_51 d_S_count_53 d_S_count_56 lc_S_61 lm_S_65 ls_S_142 rfl (Nat.le_of_ble_eq_true rfl) (Nat.le_of_ble_eq_true rfl) h
theorem p_W_count (G : xG K) (v0 : Nat) (v1 : Int32) (v2 : Int32) (v3 : Nat) (M : XM) (h : g_W_count v0 v1 v2 v3 M = some (o, N)) : Ct K y_W_count [.ref v0, .int v1, .int v2, .ref v3] M o N := by
  refine ct_of (by decide) (List.forall_mem_cons.mpr ⟨rfl, List.forall_mem_cons.mpr ⟨rfl, List.forall_mem_cons.mpr ⟨rfl, List.forall_mem_cons.mpr ⟨rfl, fun _ q => absurd q List.not_mem_nil⟩⟩⟩⟩) (Nat.le_of_ble_eq_true rfl) ?_
  show cA K y_W_count 0 [(0, .ref v0), (1, .int v1), (2, .int v2), (3, .ref v3)] [] M o N
  unfold g_W_count at h
  refine x_aload_n (pc := 0) d_W_count_0 rfl 3 rfl ?_
  refine x_iconst (pc := 1) d_W_count_1 rfl ?_
  refine x_aload_n (pc := 2) d_W_count_2 rfl 0 rfl ?_
  refine x_iload_n (pc := 3) d_W_count_3 rfl 1 rfl ?_
  refine x_iload_n (pc := 4) d_W_count_4 rfl 2 rfl ?_
  obtain ⟨⟨ra1, ra1t⟩, h⟩ := h_ok h
  refine h_hI G (x_siteV G (pc := 5) (y2 := y_S_count) (As := [.int v1, .int v2]) (S := [.int 0, .ref v3]) (ci := 0) d_W_count_5 rfl lm_W_37 mi_S_count ms_S_count mw_S_count.1 mx_S_count.1 mx_S_count.2 rfl ra1 ra1t) mw_S_count ⟨Nat.le_of_ble_eq_true rfl, Nat.le_of_ble_eq_true rfl⟩ (fun _ _ e => p_S_count G _ _ _ _ e) h (fun t3 M2 h => ?_) (fun a5 M6 h => ?_)
  · refine x_i2l (pc := 8) d_W_count_8 ?_
    refine h_lastore G (pc := 9) d_W_count_9 h fun M4 h => ?_
    refine x_goto (pc := 10) 17 d_W_count_10 (by decide) ?_
    refine x_iconst (pc := 17) d_W_count_17 rfl ?_
    exact h_ireturn (pc := 18) d_W_count_18 rfl h
  · refine h_catch G (pc := 5) (ei := 2) rfl [] (0, 10, 13, 21) [] rfl (fun _ q => absurd q List.not_mem_nil) ⟨by decide, by decide, by decide, lc_W_21⟩ h (fun h => ?_) (fun h => ?_)
    · refine x_astore (pc := 13) (L' := [(0, .ref v0), (1, .int v1), (2, .int v2), (3, .ref v3), (4, .ref a5)]) d_W_count_13 (by decide) rfl ?_
      refine x_iconst (pc := 15) d_W_count_15 rfl ?_
      exact h_ireturn (pc := 16) d_W_count_16 rfl h
    · cases h
theorem p_S_pool (G : xG K) (v0 : Nat) (v1 : Int32) (v2 : Int32) (M : XM) (h : g_S_pool v0 v1 v2 M = some (o, N)) : Ct K y_S_pool [.ref v0, .int v1, .int v2] M o N := by
  refine ct_of (by decide) (List.forall_mem_cons.mpr ⟨rfl, List.forall_mem_cons.mpr ⟨rfl, List.forall_mem_cons.mpr ⟨rfl, fun _ q => absurd q List.not_mem_nil⟩⟩⟩) (Nat.le_of_ble_eq_true rfl) ?_
  show cA K y_S_pool 0 [(0, .ref v0), (1, .int v1), (2, .int v2)] [] M o N
  unfold g_S_pool at h
  refine x_aload_n (pc := 0) d_S_pool_0 rfl 0 rfl ?_
  refine x_iload_n (pc := 1) d_S_pool_1 rfl 1 rfl ?_
  obtain ⟨⟨ra1, ra1t⟩, h⟩ := h_ok h
  refine h_callR G (x_siteV G (pc := 2) (y2 := y_S_chosen) (As := [.int v1]) (S := []) (ci := 0) d_S_pool_2 rfl lm_S_138 mi_S_chosen ms_S_chosen mw_S_chosen.1 mx_S_chosen.1 mx_S_chosen.2 rfl ra1 ra1t) mw_S_chosen ⟨Nat.le_of_ble_eq_true rfl, Nat.le_of_ble_eq_true rfl⟩ rfl (fun _ _ e => p_S_chosen G _ _ _ e) h fun t3 M2 h => ?_
  refine x_astore_n (pc := 5) (L' := [(0, .ref v0), (1, .int v1), (2, .int v2), (3, .ref t3)]) d_S_pool_5 rfl (by decide) rfl ?_
  refine x_aload_n (pc := 6) d_S_pool_6 rfl 3 rfl ?_
  refine x_iload_n (pc := 7) d_S_pool_7 rfl 2 rfl ?_
  obtain ⟨⟨ra4, ra4t⟩, h⟩ := h_ok h
  refine h_callI G (x_siteV G (pc := 8) (y2 := y_P_hasClass) (As := [.int v2]) (S := []) (ci := 1) d_S_pool_8 rfl lm_S_48 mi_P_hasClass ms_P_hasClass mw_P_hasClass.1 mx_P_hasClass.1 mx_P_hasClass.2 rfl ra4 ra4t) mw_P_hasClass ⟨Nat.le_of_ble_eq_true rfl, Nat.le_of_ble_eq_true rfl⟩ rfl (fun _ _ e => p_P_hasClass G _ _ _ e) h fun t6 M5 h => ?_
  refine h_if_ne (pc := 11) 24 d_S_pool_11 (by decide) h (fun _ h => ?_) (fun _ h => ?_)
  · refine x_aload_n (pc := 24) d_S_pool_24 rfl 3 rfl ?_
    refine h_getR G (pc := 25) (ci := 1) (j := 0) d_S_pool_25 rfl rfl rfl lf_S_66 h fun t7 h => ?_
    refine x_iload_n (pc := 28) d_S_pool_28 rfl 2 rfl ?_
    refine h_aaload (pc := 29) (kd := 10) d_S_pool_29 (by decide) rfl rfl h fun t8 h => ?_
    refine h_getI G (pc := 30) (ci := 2) (j := 3) d_S_pool_30 rfl rfl rfl lf_S_70 h fun t9 h => ?_
    exact h_ireturn (pc := 33) d_S_pool_33 rfl h
  · exact h_throw G (pc := 14) (ei := 1) rfl d_S_pool_14 d_S_pool_17 d_S_pool_18 d_S_pool_20 d_S_pool_23 lc_S_52 lm_S_56 ls_S_54 rfl (Nat.le_of_ble_eq_true rfl) (Nat.le_of_ble_eq_true rfl) h
theorem p_W_pool (G : xG K) (v0 : Nat) (v1 : Int32) (v2 : Int32) (v3 : Nat) (M : XM) (h : g_W_pool v0 v1 v2 v3 M = some (o, N)) : Ct K y_W_pool [.ref v0, .int v1, .int v2, .ref v3] M o N := by
  refine ct_of (by decide) (List.forall_mem_cons.mpr ⟨rfl, List.forall_mem_cons.mpr ⟨rfl, List.forall_mem_cons.mpr ⟨rfl, List.forall_mem_cons.mpr ⟨rfl, fun _ q => absurd q List.not_mem_nil⟩⟩⟩⟩) (Nat.le_of_ble_eq_true rfl) ?_
  show cA K y_W_pool 0 [(0, .ref v0), (1, .int v1), (2, .int v2), (3, .ref v3)] [] M o N
  unfold g_W_pool at h
  refine x_aload_n (pc := 0) d_W_pool_0 rfl 3 rfl ?_
  refine x_iconst (pc := 1) d_W_pool_1 rfl ?_
  refine x_aload_n (pc := 2) d_W_pool_2 rfl 0 rfl ?_
  refine x_iload_n (pc := 3) d_W_pool_3 rfl 1 rfl ?_
  refine x_iload_n (pc := 4) d_W_pool_4 rfl 2 rfl ?_
  obtain ⟨⟨ra1, ra1t⟩, h⟩ := h_ok h
  refine h_hI G (x_siteV G (pc := 5) (y2 := y_S_pool) (As := [.int v1, .int v2]) (S := [.int 0, .ref v3]) (ci := 0) d_W_pool_5 rfl lm_W_41 mi_S_pool ms_S_pool mw_S_pool.1 mx_S_pool.1 mx_S_pool.2 rfl ra1 ra1t) mw_S_pool ⟨Nat.le_of_ble_eq_true rfl, Nat.le_of_ble_eq_true rfl⟩ (fun _ _ e => p_S_pool G _ _ _ _ e) h (fun t3 M2 h => ?_) (fun a5 M6 h => ?_)
  · refine x_i2l (pc := 8) d_W_pool_8 ?_
    refine h_lastore G (pc := 9) d_W_pool_9 h fun M4 h => ?_
    refine x_goto (pc := 10) 17 d_W_pool_10 (by decide) ?_
    refine x_iconst (pc := 17) d_W_pool_17 rfl ?_
    exact h_ireturn (pc := 18) d_W_pool_18 rfl h
  · refine h_catch G (pc := 5) (ei := 1) rfl [] (0, 10, 13, 19) [] rfl (fun _ q => absurd q List.not_mem_nil) ⟨by decide, by decide, by decide, lc_W_19⟩ h (fun h => ?_) (fun h => ?_)
    · refine x_astore (pc := 13) (L' := [(0, .ref v0), (1, .int v1), (2, .int v2), (3, .ref v3), (4, .ref a5)]) d_W_pool_13 (by decide) rfl ?_
      refine x_iconst (pc := 15) d_W_pool_15 rfl ?_
      exact h_ireturn (pc := 16) d_W_pool_16 rfl h
    · cases h
theorem p_S_constantAt (G : xG K) (v0 : Nat) (v1 : Int32) (v2 : Int32) (v3 : Int32) (v4 : Int32) (M : XM) (h : g_S_constantAt v0 v1 v2 v3 v4 M = some (o, N)) : Ct K y_S_constantAt [.ref v0, .int v1, .int v2, .int v3, .int v4] M o N := by
  refine ct_of (by decide) (List.forall_mem_cons.mpr ⟨rfl, List.forall_mem_cons.mpr ⟨rfl, List.forall_mem_cons.mpr ⟨rfl, List.forall_mem_cons.mpr ⟨rfl, List.forall_mem_cons.mpr ⟨rfl, fun _ q => absurd q List.not_mem_nil⟩⟩⟩⟩⟩) (Nat.le_of_ble_eq_true rfl) ?_
  show cA K y_S_constantAt 0 [(0, .ref v0), (1, .int v1), (2, .int v2), (3, .int v3), (4, .int v4)] [] M o N
  unfold g_S_constantAt at h
  refine x_aload_n (pc := 0) d_S_constantAt_0 rfl 0 rfl ?_
  refine x_iload_n (pc := 1) d_S_constantAt_1 rfl 1 rfl ?_
  obtain ⟨⟨ra1, ra1t⟩, h⟩ := h_ok h
  refine h_callR G (x_siteV G (pc := 2) (y2 := y_S_chosen) (As := [.int v1]) (S := []) (ci := 0) d_S_constantAt_2 rfl lm_S_138 mi_S_chosen ms_S_chosen mw_S_chosen.1 mx_S_chosen.1 mx_S_chosen.2 rfl ra1 ra1t) mw_S_chosen ⟨Nat.le_of_ble_eq_true rfl, Nat.le_of_ble_eq_true rfl⟩ rfl (fun _ _ e => p_S_chosen G _ _ _ e) h fun t3 M2 h => ?_
  refine x_astore (pc := 5) (L' := [(0, .ref v0), (1, .int v1), (2, .int v2), (3, .int v3), (4, .int v4), (5, .ref t3)]) d_S_constantAt_5 (by decide) rfl ?_
  refine x_aload (pc := 7) d_S_constantAt_7 5 rfl ?_
  refine x_iload_n (pc := 9) d_S_constantAt_9 rfl 2 rfl ?_
  obtain ⟨⟨ra4, ra4t⟩, h⟩ := h_ok h
  refine h_callI G (x_siteV G (pc := 10) (y2 := y_P_hasClass) (As := [.int v2]) (S := []) (ci := 1) d_S_constantAt_10 rfl lm_S_48 mi_P_hasClass ms_P_hasClass mw_P_hasClass.1 mx_P_hasClass.1 mx_P_hasClass.2 rfl ra4 ra4t) mw_P_hasClass ⟨Nat.le_of_ble_eq_true rfl, Nat.le_of_ble_eq_true rfl⟩ rfl (fun _ _ e => p_P_hasClass G _ _ _ e) h fun t6 M5 h => ?_
  refine h_if_ne (pc := 13) 26 d_S_constantAt_13 (by decide) h (fun _ h => ?_) (fun _ h => ?_)
  · refine x_aload (pc := 26) d_S_constantAt_26 5 rfl ?_
    refine h_getR G (pc := 28) (ci := 1) (j := 0) d_S_constantAt_28 rfl rfl rfl lf_S_66 h fun t7 h => ?_
    refine x_iload_n (pc := 31) d_S_constantAt_31 rfl 2 rfl ?_
    refine h_aaload (pc := 32) (kd := 10) d_S_constantAt_32 (by decide) rfl rfl h fun t8 h => ?_
    refine x_astore (pc := 33) (L' := [(0, .ref v0), (1, .int v1), (2, .int v2), (3, .int v3), (4, .int v4), (5, .ref t3), (6, .ref t8)]) d_S_constantAt_33 (by decide) rfl ?_
    refine x_aload (pc := 35) d_S_constantAt_35 6 rfl ?_
    refine x_iload_n (pc := 37) d_S_constantAt_37 rfl 3 rfl ?_
    obtain ⟨⟨ra9, ra9t⟩, h⟩ := h_ok h
    refine h_callI G (x_siteV G (pc := 38) (y2 := y_Q_has) (As := [.int v3]) (S := []) (ci := 2) d_S_constantAt_38 rfl lm_S_144 mi_Q_has ms_Q_has mw_Q_has.1 mx_Q_has.1 mx_Q_has.2 rfl ra9 ra9t) mw_Q_has ⟨Nat.le_of_ble_eq_true rfl, Nat.le_of_ble_eq_true rfl⟩ rfl (fun _ _ e => p_Q_has G _ _ _ e) h fun t11 M10 h => ?_
    refine h_if_ne (pc := 41) 54 d_S_constantAt_41 (by decide) h (fun _ h => ?_) (fun _ h => ?_)
    · refine x_iload (pc := 54) d_S_constantAt_54 4 rfl ?_
      refine h_case h (fun c0 h => ?_) (fun c0 h => ?_)
      · refine x_tableIn (pc := 56) 84 d_S_constantAt_56 (by rw [c0]; decide) (by rw [c0]; decide) (off := 28) (by rw [c0]; rfl) (by decide) ?_
        refine x_aload (pc := 84) d_S_constantAt_84 6 rfl ?_
        refine h_getR G (pc := 86) (ci := 2) (j := 0) d_S_constantAt_86 rfl rfl rfl lf_S_149 h fun t16 h => ?_
        refine x_iload_n (pc := 89) d_S_constantAt_89 rfl 3 rfl ?_
        refine h_iaload (pc := 90) d_S_constantAt_90 h fun t17 h => ?_
        exact h_ireturn (pc := 91) d_S_constantAt_91 rfl h
      · refine h_case h (fun c1 h => ?_) (fun c1 h => ?_)
        · refine x_tableIn (pc := 56) 92 d_S_constantAt_56 (by rw [c1]; decide) (by rw [c1]; decide) (off := 36) (by rw [c1]; rfl) (by decide) ?_
          refine x_aload (pc := 92) d_S_constantAt_92 6 rfl ?_
          refine h_getR G (pc := 94) (ci := 2) (j := 1) d_S_constantAt_94 rfl rfl rfl lf_S_153 h fun t14 h => ?_
          refine x_iload_n (pc := 97) d_S_constantAt_97 rfl 3 rfl ?_
          refine h_iaload (pc := 98) d_S_constantAt_98 h fun t15 h => ?_
          exact h_ireturn (pc := 99) d_S_constantAt_99 rfl h
        · refine h_case h (fun c2 h => ?_) (fun c2 h => ?_)
          · refine x_tableIn (pc := 56) 100 d_S_constantAt_56 (by rw [c2]; decide) (by rw [c2]; decide) (off := 44) (by rw [c2]; rfl) (by decide) ?_
            refine x_aload (pc := 100) d_S_constantAt_100 6 rfl ?_
            refine h_getR G (pc := 102) (ci := 2) (j := 2) d_S_constantAt_102 rfl rfl rfl lf_S_156 h fun t12 h => ?_
            refine x_iload_n (pc := 105) d_S_constantAt_105 rfl 3 rfl ?_
            refine h_iaload (pc := 106) d_S_constantAt_106 h fun t13 h => ?_
            exact h_ireturn (pc := 107) d_S_constantAt_107 rfl h
          · refine x_tableOut (pc := 56) 108 d_S_constantAt_56 (by have q0 := lv_neT (a := 0) c0 (by decide); have q1 := lv_neT (a := 1) c1 (by decide); have q2 := lv_neT (a := 2) c2 (by decide); omega) (by decide) ?_
            exact h_throw G (pc := 108) (ei := 2) rfl d_S_constantAt_108 d_S_constantAt_111 d_S_constantAt_112 d_S_constantAt_114 d_S_constantAt_117 lc_S_61 lm_S_65 ls_S_159 rfl (Nat.le_of_ble_eq_true rfl) (Nat.le_of_ble_eq_true rfl) h
    · exact h_throw G (pc := 44) (ei := 1) rfl d_S_constantAt_44 d_S_constantAt_47 d_S_constantAt_48 d_S_constantAt_50 d_S_constantAt_53 lc_S_52 lm_S_56 ls_S_147 rfl (Nat.le_of_ble_eq_true rfl) (Nat.le_of_ble_eq_true rfl) h
  · exact h_throw G (pc := 16) (ei := 1) rfl d_S_constantAt_16 d_S_constantAt_19 d_S_constantAt_20 d_S_constantAt_22 d_S_constantAt_25 lc_S_52 lm_S_56 ls_S_54 rfl (Nat.le_of_ble_eq_true rfl) (Nat.le_of_ble_eq_true rfl) h
theorem p_W_constantAt (G : xG K) (v0 : Nat) (v1 : Int32) (v2 : Int32) (v3 : Int32) (v4 : Int32) (v5 : Nat) (M : XM) (h : g_W_constantAt v0 v1 v2 v3 v4 v5 M = some (o, N)) : Ct K y_W_constantAt [.ref v0, .int v1, .int v2, .int v3, .int v4, .ref v5] M o N := by
  refine ct_of (by decide) (List.forall_mem_cons.mpr ⟨rfl, List.forall_mem_cons.mpr ⟨rfl, List.forall_mem_cons.mpr ⟨rfl, List.forall_mem_cons.mpr ⟨rfl, List.forall_mem_cons.mpr ⟨rfl, List.forall_mem_cons.mpr ⟨rfl, fun _ q => absurd q List.not_mem_nil⟩⟩⟩⟩⟩⟩) (Nat.le_of_ble_eq_true rfl) ?_
  show cA K y_W_constantAt 0 [(0, .ref v0), (1, .int v1), (2, .int v2), (3, .int v3), (4, .int v4), (5, .ref v5)] [] M o N
  unfold g_W_constantAt at h
  refine x_aload (pc := 0) d_W_constantAt_0 5 rfl ?_
  refine x_iconst (pc := 2) d_W_constantAt_2 rfl ?_
  refine x_aload_n (pc := 3) d_W_constantAt_3 rfl 0 rfl ?_
  refine x_iload_n (pc := 4) d_W_constantAt_4 rfl 1 rfl ?_
  refine x_iload_n (pc := 5) d_W_constantAt_5 rfl 2 rfl ?_
  refine x_iload_n (pc := 6) d_W_constantAt_6 rfl 3 rfl ?_
  refine x_iload (pc := 7) d_W_constantAt_7 4 rfl ?_
  obtain ⟨⟨ra1, ra1t⟩, h⟩ := h_ok h
  refine h_hI G (x_siteV G (pc := 9) (y2 := y_S_constantAt) (As := [.int v1, .int v2, .int v3, .int v4]) (S := [.int 0, .ref v5]) (ci := 0) d_W_constantAt_9 rfl lm_W_44 mi_S_constantAt ms_S_constantAt mw_S_constantAt.1 mx_S_constantAt.1 mx_S_constantAt.2 rfl ra1 ra1t) mw_S_constantAt ⟨Nat.le_of_ble_eq_true rfl, Nat.le_of_ble_eq_true rfl⟩ (fun _ _ e => p_S_constantAt G _ _ _ _ _ _ e) h (fun t3 M2 h => ?_) (fun a5 M6 h => ?_)
  · refine x_i2l (pc := 12) d_W_constantAt_12 ?_
    refine h_lastore G (pc := 13) d_W_constantAt_13 h fun M4 h => ?_
    refine x_goto (pc := 14) 25 d_W_constantAt_14 (by decide) ?_
    refine x_iconst (pc := 25) d_W_constantAt_25 rfl ?_
    exact h_ireturn (pc := 26) d_W_constantAt_26 rfl h
  · refine h_catch G (pc := 9) (ei := 1) rfl [] (0, 14, 17, 19) [(0, 14, 21, 21)] rfl (fun _ q => absurd q List.not_mem_nil) ⟨by decide, by decide, by decide, lc_W_19⟩ h (fun h => ?_) (fun h => ?_)
    · refine x_astore (pc := 17) (L' := [(0, .ref v0), (1, .int v1), (2, .int v2), (3, .int v3), (4, .int v4), (5, .ref v5), (6, .ref a5)]) d_W_constantAt_17 (by decide) rfl ?_
      refine x_iconst (pc := 19) d_W_constantAt_19 rfl ?_
      exact h_ireturn (pc := 20) d_W_constantAt_20 rfl h
    · refine h_catch G (pc := 9) (ei := 2) rfl [((0, 14, 17, 19), "java/lang/IndexOutOfBoundsException")] (0, 14, 21, 21) [] rfl (List.forall_mem_cons.mpr ⟨⟨by decide, by decide, by decide, lc_W_19, by decide, by decide⟩, fun _ q => absurd q List.not_mem_nil⟩) ⟨by decide, by decide, by decide, lc_W_21⟩ h (fun h => ?_) (fun h => ?_)
      · refine x_astore (pc := 21) (L' := [(0, .ref v0), (1, .int v1), (2, .int v2), (3, .int v3), (4, .int v4), (5, .ref v5), (6, .ref a5)]) d_W_constantAt_21 (by decide) rfl ?_
        refine x_iconst (pc := 23) d_W_constantAt_23 rfl ?_
        exact h_ireturn (pc := 24) d_W_constantAt_24 rfl h
      · cases h
theorem p_S_memberAt (G : xG K) (v0 : Nat) (v1 : Int32) (v2 : Int32) (v3 : Int32) (M : XM) (h : g_S_memberAt v0 v1 v2 v3 M = some (o, N)) : Ct K y_S_memberAt [.ref v0, .int v1, .int v2, .int v3] M o N := by
  refine ct_of (by decide) (List.forall_mem_cons.mpr ⟨rfl, List.forall_mem_cons.mpr ⟨rfl, List.forall_mem_cons.mpr ⟨rfl, List.forall_mem_cons.mpr ⟨rfl, fun _ q => absurd q List.not_mem_nil⟩⟩⟩⟩) (Nat.le_of_ble_eq_true rfl) ?_
  show cA K y_S_memberAt 0 [(0, .ref v0), (1, .int v1), (2, .int v2), (3, .int v3)] [] M o N
  unfold g_S_memberAt at h
  refine x_aload_n (pc := 0) d_S_memberAt_0 rfl 0 rfl ?_
  refine x_iload_n (pc := 1) d_S_memberAt_1 rfl 1 rfl ?_
  obtain ⟨⟨ra1, ra1t⟩, h⟩ := h_ok h
  refine h_callR G (x_siteV G (pc := 2) (y2 := y_S_chosen) (As := [.int v1]) (S := []) (ci := 0) d_S_memberAt_2 rfl lm_S_138 mi_S_chosen ms_S_chosen mw_S_chosen.1 mx_S_chosen.1 mx_S_chosen.2 rfl ra1 ra1t) mw_S_chosen ⟨Nat.le_of_ble_eq_true rfl, Nat.le_of_ble_eq_true rfl⟩ rfl (fun _ _ e => p_S_chosen G _ _ _ e) h fun t3 M2 h => ?_
  refine x_astore (pc := 5) (L' := [(0, .ref v0), (1, .int v1), (2, .int v2), (3, .int v3), (4, .ref t3)]) d_S_memberAt_5 (by decide) rfl ?_
  refine x_aload (pc := 7) d_S_memberAt_7 4 rfl ?_
  refine x_iload_n (pc := 9) d_S_memberAt_9 rfl 2 rfl ?_
  obtain ⟨⟨ra4, ra4t⟩, h⟩ := h_ok h
  refine h_callI G (x_siteV G (pc := 10) (y2 := y_P_hasMember) (As := [.int v2]) (S := []) (ci := 1) d_S_memberAt_10 rfl lm_S_161 mi_P_hasMember ms_P_hasMember mw_P_hasMember.1 mx_P_hasMember.1 mx_P_hasMember.2 rfl ra4 ra4t) mw_P_hasMember ⟨Nat.le_of_ble_eq_true rfl, Nat.le_of_ble_eq_true rfl⟩ rfl (fun _ _ e => p_P_hasMember G _ _ _ e) h fun t6 M5 h => ?_
  refine h_if_ne (pc := 13) 26 d_S_memberAt_13 (by decide) h (fun _ h => ?_) (fun _ h => ?_)
  · refine x_aload (pc := 26) d_S_memberAt_26 4 rfl ?_
    refine h_getR G (pc := 28) (ci := 1) (j := 1) d_S_memberAt_28 rfl rfl rfl lf_S_103 h fun t7 h => ?_
    refine x_iload_n (pc := 31) d_S_memberAt_31 rfl 2 rfl ?_
    refine h_aaload (pc := 32) (kd := 11) d_S_memberAt_32 (by decide) rfl rfl h fun t8 h => ?_
    refine x_astore (pc := 33) (L' := [(0, .ref v0), (1, .int v1), (2, .int v2), (3, .int v3), (4, .ref t3), (5, .ref t8)]) d_S_memberAt_33 (by decide) rfl ?_
    refine x_iload_n (pc := 35) d_S_memberAt_35 rfl 3 rfl ?_
    refine h_case h (fun c0 h => ?_) (fun c0 h => ?_)
    · refine x_tableIn (pc := 36) 76 d_S_memberAt_36 (by rw [c0]; decide) (by rw [c0]; decide) (off := 40) (by rw [c0]; rfl) (by decide) ?_
      refine x_aload (pc := 76) d_S_memberAt_76 5 rfl ?_
      refine h_getI G (pc := 78) (ci := 3) (j := 0) d_S_memberAt_78 rfl rfl rfl lf_S_166 h fun t16 h => ?_
      exact h_ireturn (pc := 81) d_S_memberAt_81 rfl h
    · refine h_case h (fun c1 h => ?_) (fun c1 h => ?_)
      · refine x_tableIn (pc := 36) 82 d_S_memberAt_36 (by rw [c1]; decide) (by rw [c1]; decide) (off := 46) (by rw [c1]; rfl) (by decide) ?_
        refine x_aload (pc := 82) d_S_memberAt_82 5 rfl ?_
        refine h_getI G (pc := 84) (ci := 3) (j := 1) d_S_memberAt_84 rfl rfl rfl lf_S_169 h fun t15 h => ?_
        exact h_ireturn (pc := 87) d_S_memberAt_87 rfl h
      · refine h_case h (fun c2 h => ?_) (fun c2 h => ?_)
        · refine x_tableIn (pc := 36) 88 d_S_memberAt_36 (by rw [c2]; decide) (by rw [c2]; decide) (off := 52) (by rw [c2]; rfl) (by decide) ?_
          refine x_aload (pc := 88) d_S_memberAt_88 5 rfl ?_
          refine h_getI G (pc := 90) (ci := 3) (j := 2) d_S_memberAt_90 rfl rfl rfl lf_S_172 h fun t14 h => ?_
          exact h_ireturn (pc := 93) d_S_memberAt_93 rfl h
        · refine h_case h (fun c3 h => ?_) (fun c3 h => ?_)
          · refine x_tableIn (pc := 36) 94 d_S_memberAt_36 (by rw [c3]; decide) (by rw [c3]; decide) (off := 58) (by rw [c3]; rfl) (by decide) ?_
            refine x_aload (pc := 94) d_S_memberAt_94 5 rfl ?_
            refine h_getI G (pc := 96) (ci := 3) (j := 4) d_S_memberAt_96 rfl rfl rfl lf_S_107 h fun t13 h => ?_
            exact h_ireturn (pc := 99) d_S_memberAt_99 rfl h
          · refine h_case h (fun c4 h => ?_) (fun c4 h => ?_)
            · refine x_tableIn (pc := 36) 100 d_S_memberAt_36 (by rw [c4]; decide) (by rw [c4]; decide) (off := 64) (by rw [c4]; rfl) (by decide) ?_
              refine x_aload (pc := 100) d_S_memberAt_100 5 rfl ?_
              refine h_getI G (pc := 102) (ci := 3) (j := 3) d_S_memberAt_102 rfl rfl rfl lf_S_117 h fun t12 h => ?_
              refine h_if_eq (pc := 105) 112 d_S_memberAt_105 (by decide) h (fun _ h => ?_) (fun _ h => ?_)
              · refine x_iconst (pc := 112) d_S_memberAt_112 rfl ?_
                exact h_ireturn (pc := 113) d_S_memberAt_113 rfl h
              · refine x_iconst (pc := 108) d_S_memberAt_108 rfl ?_
                refine x_goto (pc := 109) 113 d_S_memberAt_109 (by decide) ?_
                exact h_ireturn (pc := 113) d_S_memberAt_113 rfl h
            · refine h_case h (fun c5 h => ?_) (fun c5 h => ?_)
              · refine x_tableIn (pc := 36) 114 d_S_memberAt_36 (by rw [c5]; decide) (by rw [c5]; decide) (off := 78) (by rw [c5]; rfl) (by decide) ?_
                refine x_aload (pc := 114) d_S_memberAt_114 4 rfl ?_
                refine x_iload_n (pc := 116) d_S_memberAt_116 rfl 2 rfl ?_
                obtain ⟨⟨ra9, ra9t⟩, h⟩ := h_ok h
                refine h_callI G (x_siteV G (pc := 117) (y2 := y_P_nameOf) (As := [.int v2]) (S := []) (ci := 1) d_S_memberAt_117 rfl lm_S_175 mi_P_nameOf ms_P_nameOf mw_P_nameOf.1 mx_P_nameOf.1 mx_P_nameOf.2 rfl ra9 ra9t) mw_P_nameOf ⟨Nat.le_of_ble_eq_true rfl, Nat.le_of_ble_eq_true rfl⟩ rfl (fun _ _ e => p_P_nameOf G _ _ _ e) h fun t11 M10 h => ?_
                exact h_ireturn (pc := 120) d_S_memberAt_120 rfl h
              · refine x_tableOut (pc := 36) 121 d_S_memberAt_36 (by have q0 := lv_neT (a := 0) c0 (by decide); have q1 := lv_neT (a := 1) c1 (by decide); have q2 := lv_neT (a := 2) c2 (by decide); have q3 := lv_neT (a := 3) c3 (by decide); have q4 := lv_neT (a := 4) c4 (by decide); have q5 := lv_neT (a := 5) c5 (by decide); omega) (by decide) ?_
                exact h_throw G (pc := 121) (ei := 2) rfl d_S_memberAt_121 d_S_memberAt_124 d_S_memberAt_125 d_S_memberAt_127 d_S_memberAt_130 lc_S_61 lm_S_65 ls_S_179 rfl (Nat.le_of_ble_eq_true rfl) (Nat.le_of_ble_eq_true rfl) h
  · exact h_throw G (pc := 16) (ei := 1) rfl d_S_memberAt_16 d_S_memberAt_19 d_S_memberAt_20 d_S_memberAt_22 d_S_memberAt_25 lc_S_52 lm_S_56 ls_S_164 rfl (Nat.le_of_ble_eq_true rfl) (Nat.le_of_ble_eq_true rfl) h
theorem p_W_memberAt (G : xG K) (v0 : Nat) (v1 : Int32) (v2 : Int32) (v3 : Int32) (v4 : Nat) (M : XM) (h : g_W_memberAt v0 v1 v2 v3 v4 M = some (o, N)) : Ct K y_W_memberAt [.ref v0, .int v1, .int v2, .int v3, .ref v4] M o N := by
  refine ct_of (by decide) (List.forall_mem_cons.mpr ⟨rfl, List.forall_mem_cons.mpr ⟨rfl, List.forall_mem_cons.mpr ⟨rfl, List.forall_mem_cons.mpr ⟨rfl, List.forall_mem_cons.mpr ⟨rfl, fun _ q => absurd q List.not_mem_nil⟩⟩⟩⟩⟩) (Nat.le_of_ble_eq_true rfl) ?_
  show cA K y_W_memberAt 0 [(0, .ref v0), (1, .int v1), (2, .int v2), (3, .int v3), (4, .ref v4)] [] M o N
  unfold g_W_memberAt at h
  refine x_aload (pc := 0) d_W_memberAt_0 4 rfl ?_
  refine x_iconst (pc := 2) d_W_memberAt_2 rfl ?_
  refine x_aload_n (pc := 3) d_W_memberAt_3 rfl 0 rfl ?_
  refine x_iload_n (pc := 4) d_W_memberAt_4 rfl 1 rfl ?_
  refine x_iload_n (pc := 5) d_W_memberAt_5 rfl 2 rfl ?_
  refine x_iload_n (pc := 6) d_W_memberAt_6 rfl 3 rfl ?_
  obtain ⟨⟨ra1, ra1t⟩, h⟩ := h_ok h
  refine h_hI G (x_siteV G (pc := 7) (y2 := y_S_memberAt) (As := [.int v1, .int v2, .int v3]) (S := [.int 0, .ref v4]) (ci := 0) d_W_memberAt_7 rfl lm_W_48 mi_S_memberAt ms_S_memberAt mw_S_memberAt.1 mx_S_memberAt.1 mx_S_memberAt.2 rfl ra1 ra1t) mw_S_memberAt ⟨Nat.le_of_ble_eq_true rfl, Nat.le_of_ble_eq_true rfl⟩ (fun _ _ e => p_S_memberAt G _ _ _ _ _ e) h (fun t3 M2 h => ?_) (fun a5 M6 h => ?_)
  · refine x_i2l (pc := 10) d_W_memberAt_10 ?_
    refine h_lastore G (pc := 11) d_W_memberAt_11 h fun M4 h => ?_
    refine x_goto (pc := 12) 23 d_W_memberAt_12 (by decide) ?_
    refine x_iconst (pc := 23) d_W_memberAt_23 rfl ?_
    exact h_ireturn (pc := 24) d_W_memberAt_24 rfl h
  · refine h_catch G (pc := 7) (ei := 1) rfl [] (0, 12, 15, 19) [(0, 12, 19, 21)] rfl (fun _ q => absurd q List.not_mem_nil) ⟨by decide, by decide, by decide, lc_W_19⟩ h (fun h => ?_) (fun h => ?_)
    · refine x_astore (pc := 15) (L' := [(0, .ref v0), (1, .int v1), (2, .int v2), (3, .int v3), (4, .ref v4), (5, .ref a5)]) d_W_memberAt_15 (by decide) rfl ?_
      refine x_iconst (pc := 17) d_W_memberAt_17 rfl ?_
      exact h_ireturn (pc := 18) d_W_memberAt_18 rfl h
    · refine h_catch G (pc := 7) (ei := 2) rfl [((0, 12, 15, 19), "java/lang/IndexOutOfBoundsException")] (0, 12, 19, 21) [] rfl (List.forall_mem_cons.mpr ⟨⟨by decide, by decide, by decide, lc_W_19, by decide, by decide⟩, fun _ q => absurd q List.not_mem_nil⟩) ⟨by decide, by decide, by decide, lc_W_21⟩ h (fun h => ?_) (fun h => ?_)
      · refine x_astore (pc := 19) (L' := [(0, .ref v0), (1, .int v1), (2, .int v2), (3, .int v3), (4, .ref v4), (5, .ref a5)]) d_W_memberAt_19 (by decide) rfl ?_
        refine x_iconst (pc := 21) d_W_memberAt_21 rfl ?_
        exact h_ireturn (pc := 22) d_W_memberAt_22 rfl h
      · cases h
end XG
