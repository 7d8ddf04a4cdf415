/-! laid by program from the bytecode: S_constant, W_constant, P_allowsMember, B_start, P_startMember, S_member, W_member, P_hasMember, P_hasMethod, B_append, S_code, W_code, S_entry, W_entry, P_entries, K_forget, K_keepMember, K_keepEntries, S_usesConstant, K_keepConstant, K_keepReached, K_closeUp, K_closeUpAll -/
theorem d_S_constant_0 : decode prog_1_method_3_code 0 = .ok (.aload_n 0, 1) := by decide +kernel
theorem d_S_constant_1 : decode prog_1_method_3_code 1 = .ok (.getfield 10, 3) := by decide +kernel
theorem d_S_constant_4 : decode prog_1_method_3_code 4 = .ok (.iload_n 1, 1) := by decide +kernel
theorem d_S_constant_5 : decode prog_1_method_3_code 5 = .ok (.invokevirtual 48, 3) := by decide +kernel
theorem d_S_constant_8 : decode prog_1_method_3_code 8 = .ok (.ifCond .ne 13, 3) := by decide +kernel
theorem d_S_constant_11 : decode prog_1_method_3_code 11 = .ok (.new 52, 3) := by decide +kernel
theorem d_S_constant_14 : decode prog_1_method_3_code 14 = .ok (.dup, 1) := by decide +kernel
theorem d_S_constant_15 : decode prog_1_method_3_code 15 = .ok (.ldc 54, 2) := by decide +kernel
theorem d_S_constant_17 : decode prog_1_method_3_code 17 = .ok (.invokespecial 56, 3) := by decide +kernel
theorem d_S_constant_20 : decode prog_1_method_3_code 20 = .ok (.athrow, 1) := by decide +kernel
theorem d_S_constant_21 : decode prog_1_method_3_code 21 = .ok (.aload_n 0, 1) := by decide +kernel
theorem d_S_constant_22 : decode prog_1_method_3_code 22 = .ok (.getfield 10, 3) := by decide +kernel
theorem d_S_constant_25 : decode prog_1_method_3_code 25 = .ok (.iload_n 1, 1) := by decide +kernel
theorem d_S_constant_26 : decode prog_1_method_3_code 26 = .ok (.iload_n 2, 1) := by decide +kernel
theorem d_S_constant_27 : decode prog_1_method_3_code 27 = .ok (.iload_n 3, 1) := by decide +kernel
theorem d_S_constant_28 : decode prog_1_method_3_code 28 = .ok (.iload 4, 2) := by decide +kernel
theorem d_S_constant_30 : decode prog_1_method_3_code 30 = .ok (.invokevirtual 57, 3) := by decide +kernel
theorem d_S_constant_33 : decode prog_1_method_3_code 33 = .ok (.ifCond .ne 13, 3) := by decide +kernel
theorem d_S_constant_36 : decode prog_1_method_3_code 36 = .ok (.new 61, 3) := by decide +kernel
theorem d_S_constant_39 : decode prog_1_method_3_code 39 = .ok (.dup, 1) := by decide +kernel
theorem d_S_constant_40 : decode prog_1_method_3_code 40 = .ok (.ldc 63, 2) := by decide +kernel
theorem d_S_constant_42 : decode prog_1_method_3_code 42 = .ok (.invokespecial 65, 3) := by decide +kernel
theorem d_S_constant_45 : decode prog_1_method_3_code 45 = .ok (.athrow, 1) := by decide +kernel
theorem d_S_constant_46 : decode prog_1_method_3_code 46 = .ok (.aload_n 0, 1) := by decide +kernel
theorem d_S_constant_47 : decode prog_1_method_3_code 47 = .ok (.getfield 10, 3) := by decide +kernel
theorem d_S_constant_50 : decode prog_1_method_3_code 50 = .ok (.getfield 66, 3) := by decide +kernel
theorem d_S_constant_53 : decode prog_1_method_3_code 53 = .ok (.iload_n 1, 1) := by decide +kernel
theorem d_S_constant_54 : decode prog_1_method_3_code 54 = .ok (.aaload, 1) := by decide +kernel
theorem d_S_constant_55 : decode prog_1_method_3_code 55 = .ok (.astore 5, 2) := by decide +kernel
theorem d_S_constant_57 : decode prog_1_method_3_code 57 = .ok (.aload 5, 2) := by decide +kernel
theorem d_S_constant_59 : decode prog_1_method_3_code 59 = .ok (.getfield 70, 3) := by decide +kernel
theorem d_S_constant_62 : decode prog_1_method_3_code 62 = .ok (.bipush 20, 2) := by decide +kernel
theorem d_S_constant_64 : decode prog_1_method_3_code 64 = .ok (.if_icmp .lt 13, 3) := by decide +kernel
theorem d_S_constant_67 : decode prog_1_method_3_code 67 = .ok (.new 37, 3) := by decide +kernel
theorem d_S_constant_70 : decode prog_1_method_3_code 70 = .ok (.dup, 1) := by decide +kernel
theorem d_S_constant_71 : decode prog_1_method_3_code 71 = .ok (.ldc 75, 2) := by decide +kernel
theorem d_S_constant_73 : decode prog_1_method_3_code 73 = .ok (.invokespecial 41, 3) := by decide +kernel
theorem d_S_constant_76 : decode prog_1_method_3_code 76 = .ok (.athrow, 1) := by decide +kernel
theorem d_S_constant_77 : decode prog_1_method_3_code 77 = .ok (.aload 5, 2) := by decide +kernel
theorem d_S_constant_79 : decode prog_1_method_3_code 79 = .ok (.iload_n 2, 1) := by decide +kernel
theorem d_S_constant_80 : decode prog_1_method_3_code 80 = .ok (.iload_n 3, 1) := by decide +kernel
theorem d_S_constant_81 : decode prog_1_method_3_code 81 = .ok (.iload_n 2, 1) := by decide +kernel
theorem d_S_constant_82 : decode prog_1_method_3_code 82 = .ok (.invokestatic 77, 3) := by decide +kernel
theorem d_S_constant_85 : decode prog_1_method_3_code 85 = .ok (.ifCond .eq 8, 3) := by decide +kernel
theorem d_S_constant_88 : decode prog_1_method_3_code 88 = .ok (.iload 4, 2) := by decide +kernel
theorem d_S_constant_90 : decode prog_1_method_3_code 90 = .ok (.goto 4, 3) := by decide +kernel
theorem d_S_constant_93 : decode prog_1_method_3_code 93 = .ok (.iconst 0, 1) := by decide +kernel
theorem d_S_constant_94 : decode prog_1_method_3_code 94 = .ok (.invokevirtual 80, 3) := by decide +kernel
theorem d_S_constant_97 : decode prog_1_method_3_code 97 = .ok (.ireturn, 1) := by decide +kernel
theorem d_W_constant_0 : decode method_4_code 0 = .ok (.aload 5, 2) := by decide +kernel
theorem d_W_constant_2 : decode method_4_code 2 = .ok (.iconst 0, 1) := by decide +kernel
theorem d_W_constant_3 : decode method_4_code 3 = .ok (.aload_n 0, 1) := by decide +kernel
theorem d_W_constant_4 : decode method_4_code 4 = .ok (.iload_n 1, 1) := by decide +kernel
theorem d_W_constant_5 : decode method_4_code 5 = .ok (.iload_n 2, 1) := by decide +kernel
theorem d_W_constant_6 : decode method_4_code 6 = .ok (.iload_n 3, 1) := by decide +kernel
theorem d_W_constant_7 : decode method_4_code 7 = .ok (.iload 4, 2) := by decide +kernel
theorem d_W_constant_9 : decode method_4_code 9 = .ok (.invokevirtual 15, 3) := by decide +kernel
theorem d_W_constant_12 : decode method_4_code 12 = .ok (.i2l, 1) := by decide +kernel
theorem d_W_constant_13 : decode method_4_code 13 = .ok (.lastore, 1) := by decide +kernel
theorem d_W_constant_14 : decode method_4_code 14 = .ok (.goto 15, 3) := by decide +kernel
theorem d_W_constant_17 : decode method_4_code 17 = .ok (.astore 6, 2) := by decide +kernel
theorem d_W_constant_19 : decode method_4_code 19 = .ok (.iconst 1, 1) := by decide +kernel
theorem d_W_constant_20 : decode method_4_code 20 = .ok (.ireturn, 1) := by decide +kernel
theorem d_W_constant_21 : decode method_4_code 21 = .ok (.astore 6, 2) := by decide +kernel
theorem d_W_constant_23 : decode method_4_code 23 = .ok (.iconst 2, 1) := by decide +kernel
theorem d_W_constant_24 : decode method_4_code 24 = .ok (.ireturn, 1) := by decide +kernel
theorem d_W_constant_25 : decode method_4_code 25 = .ok (.astore 6, 2) := by decide +kernel
theorem d_W_constant_27 : decode method_4_code 27 = .ok (.iconst 3, 1) := by decide +kernel
theorem d_W_constant_28 : decode method_4_code 28 = .ok (.ireturn, 1) := by decide +kernel
theorem d_W_constant_29 : decode method_4_code 29 = .ok (.iconst 0, 1) := by decide +kernel
theorem d_W_constant_30 : decode method_4_code 30 = .ok (.ireturn, 1) := by decide +kernel
theorem d_P_allowsMember_0 : decode prog_6_method_11_code 0 = .ok (.aload_n 0, 1) := by decide +kernel
theorem d_P_allowsMember_1 : decode prog_6_method_11_code 1 = .ok (.getfield 11, 3) := by decide +kernel
theorem d_P_allowsMember_4 : decode prog_6_method_11_code 4 = .ok (.iload_n 1, 1) := by decide +kernel
theorem d_P_allowsMember_5 : decode prog_6_method_11_code 5 = .ok (.aaload, 1) := by decide +kernel
theorem d_P_allowsMember_6 : decode prog_6_method_11_code 6 = .ok (.iload_n 2, 1) := by decide +kernel
theorem d_P_allowsMember_7 : decode prog_6_method_11_code 7 = .ok (.iconst 1, 1) := by decide +kernel
theorem d_P_allowsMember_8 : decode prog_6_method_11_code 8 = .ok (.invokevirtual 62, 3) := by decide +kernel
theorem d_P_allowsMember_11 : decode prog_6_method_11_code 11 = .ok (.ifCond .ne 5, 3) := by decide +kernel
theorem d_P_allowsMember_14 : decode prog_6_method_11_code 14 = .ok (.iconst 0, 1) := by decide +kernel
theorem d_P_allowsMember_15 : decode prog_6_method_11_code 15 = .ok (.ireturn, 1) := by decide +kernel
theorem d_P_allowsMember_16 : decode prog_6_method_11_code 16 = .ok (.iload_n 3, 1) := by decide +kernel
theorem d_P_allowsMember_17 : decode prog_6_method_11_code 17 = .ok (.iconst (-1), 1) := by decide +kernel
theorem d_P_allowsMember_18 : decode prog_6_method_11_code 18 = .ok (.if_icmp .lt 8, 3) := by decide +kernel
theorem d_P_allowsMember_21 : decode prog_6_method_11_code 21 = .ok (.iload_n 3, 1) := by decide +kernel
theorem d_P_allowsMember_22 : decode prog_6_method_11_code 22 = .ok (.iconst 2, 1) := by decide +kernel
theorem d_P_allowsMember_23 : decode prog_6_method_11_code 23 = .ok (.if_icmp .le 5, 3) := by decide +kernel
theorem d_P_allowsMember_26 : decode prog_6_method_11_code 26 = .ok (.iconst 0, 1) := by decide +kernel
theorem d_P_allowsMember_27 : decode prog_6_method_11_code 27 = .ok (.ireturn, 1) := by decide +kernel
theorem d_P_allowsMember_28 : decode prog_6_method_11_code 28 = .ok (.aload_n 0, 1) := by decide +kernel
theorem d_P_allowsMember_29 : decode prog_6_method_11_code 29 = .ok (.getfield 11, 3) := by decide +kernel
theorem d_P_allowsMember_32 : decode prog_6_method_11_code 32 = .ok (.iload_n 1, 1) := by decide +kernel
theorem d_P_allowsMember_33 : decode prog_6_method_11_code 33 = .ok (.aaload, 1) := by decide +kernel
theorem d_P_allowsMember_34 : decode prog_6_method_11_code 34 = .ok (.getfield 48, 3) := by decide +kernel
theorem d_P_allowsMember_37 : decode prog_6_method_11_code 37 = .ok (.iload_n 2, 1) := by decide +kernel
theorem d_P_allowsMember_38 : decode prog_6_method_11_code 38 = .ok (.iaload, 1) := by decide +kernel
theorem d_P_allowsMember_39 : decode prog_6_method_11_code 39 = .ok (.istore 4, 2) := by decide +kernel
theorem d_P_allowsMember_41 : decode prog_6_method_11_code 41 = .ok (.aload_n 0, 1) := by decide +kernel
theorem d_P_allowsMember_42 : decode prog_6_method_11_code 42 = .ok (.iload_n 1, 1) := by decide +kernel
theorem d_P_allowsMember_43 : decode prog_6_method_11_code 43 = .ok (.iload 4, 2) := by decide +kernel
theorem d_P_allowsMember_45 : decode prog_6_method_11_code 45 = .ok (.iload_n 3, 1) := by decide +kernel
theorem d_P_allowsMember_46 : decode prog_6_method_11_code 46 = .ok (.iconst (-1), 1) := by decide +kernel
theorem d_P_allowsMember_47 : decode prog_6_method_11_code 47 = .ok (.if_icmp .ne 7, 3) := by decide +kernel
theorem d_P_allowsMember_50 : decode prog_6_method_11_code 50 = .ok (.iconst 1, 1) := by decide +kernel
theorem d_P_allowsMember_51 : decode prog_6_method_11_code 51 = .ok (.goto 4, 3) := by decide +kernel
theorem d_P_allowsMember_54 : decode prog_6_method_11_code 54 = .ok (.iconst 0, 1) := by decide +kernel
theorem d_P_allowsMember_55 : decode prog_6_method_11_code 55 = .ok (.invokevirtual 66, 3) := by decide +kernel
theorem d_P_allowsMember_58 : decode prog_6_method_11_code 58 = .ok (.iconst (-1), 1) := by decide +kernel
theorem d_P_allowsMember_59 : decode prog_6_method_11_code 59 = .ok (.if_icmp .ne 7, 3) := by decide +kernel
theorem d_P_allowsMember_62 : decode prog_6_method_11_code 62 = .ok (.iconst 1, 1) := by decide +kernel
theorem d_P_allowsMember_63 : decode prog_6_method_11_code 63 = .ok (.goto 4, 3) := by decide +kernel
theorem d_P_allowsMember_66 : decode prog_6_method_11_code 66 = .ok (.iconst 0, 1) := by decide +kernel
theorem d_P_allowsMember_67 : decode prog_6_method_11_code 67 = .ok (.ireturn, 1) := by decide +kernel
theorem d_B_start_0 : decode prog_4_method_2_code 0 = .ok (.aload_n 0, 1) := by decide +kernel
theorem d_B_start_1 : decode prog_4_method_2_code 1 = .ok (.iload_n 1, 1) := by decide +kernel
theorem d_B_start_2 : decode prog_4_method_2_code 2 = .ok (.putfield 18, 3) := by decide +kernel
theorem d_B_start_5 : decode prog_4_method_2_code 5 = .ok (.aload_n 0, 1) := by decide +kernel
theorem d_B_start_6 : decode prog_4_method_2_code 6 = .ok (.iload_n 2, 1) := by decide +kernel
theorem d_B_start_7 : decode prog_4_method_2_code 7 = .ok (.putfield 22, 3) := by decide +kernel
theorem d_B_start_10 : decode prog_4_method_2_code 10 = .ok (.aload_n 0, 1) := by decide +kernel
theorem d_B_start_11 : decode prog_4_method_2_code 11 = .ok (.iload_n 3, 1) := by decide +kernel
theorem d_B_start_12 : decode prog_4_method_2_code 12 = .ok (.putfield 25, 3) := by decide +kernel
theorem d_B_start_15 : decode prog_4_method_2_code 15 = .ok (.aload_n 0, 1) := by decide +kernel
theorem d_B_start_16 : decode prog_4_method_2_code 16 = .ok (.iconst 0, 1) := by decide +kernel
theorem d_B_start_17 : decode prog_4_method_2_code 17 = .ok (.putfield 28, 3) := by decide +kernel
theorem d_B_start_20 : decode prog_4_method_2_code 20 = .ok (.aload_n 0, 1) := by decide +kernel
theorem d_B_start_21 : decode prog_4_method_2_code 21 = .ok (.iconst 0, 1) := by decide +kernel
theorem d_B_start_22 : decode prog_4_method_2_code 22 = .ok (.putfield 32, 3) := by decide +kernel
theorem d_B_start_25 : decode prog_4_method_2_code 25 = .ok (.return_, 1) := by decide +kernel
theorem d_P_startMember_0 : decode prog_6_method_4_code 0 = .ok (.aload_n 0, 1) := by decide +kernel
theorem d_P_startMember_1 : decode prog_6_method_4_code 1 = .ok (.getfield 19, 3) := by decide +kernel
theorem d_P_startMember_4 : decode prog_6_method_4_code 4 = .ok (.aload_n 0, 1) := by decide +kernel
theorem d_P_startMember_5 : decode prog_6_method_4_code 5 = .ok (.getfield 29, 3) := by decide +kernel
theorem d_P_startMember_8 : decode prog_6_method_4_code 8 = .ok (.aaload, 1) := by decide +kernel
theorem d_P_startMember_9 : decode prog_6_method_4_code 9 = .ok (.iload_n 1, 1) := by decide +kernel
theorem d_P_startMember_10 : decode prog_6_method_4_code 10 = .ok (.iload_n 2, 1) := by decide +kernel
theorem d_P_startMember_11 : decode prog_6_method_4_code 11 = .ok (.iload_n 3, 1) := by decide +kernel
theorem d_P_startMember_12 : decode prog_6_method_4_code 12 = .ok (.invokevirtual 33, 3) := by decide +kernel
theorem d_P_startMember_15 : decode prog_6_method_4_code 15 = .ok (.aload_n 0, 1) := by decide +kernel
theorem d_P_startMember_16 : decode prog_6_method_4_code 16 = .ok (.dup, 1) := by decide +kernel
theorem d_P_startMember_17 : decode prog_6_method_4_code 17 = .ok (.getfield 29, 3) := by decide +kernel
theorem d_P_startMember_20 : decode prog_6_method_4_code 20 = .ok (.iconst 1, 1) := by decide +kernel
theorem d_P_startMember_21 : decode prog_6_method_4_code 21 = .ok (.iadd, 1) := by decide +kernel
theorem d_P_startMember_22 : decode prog_6_method_4_code 22 = .ok (.putfield 29, 3) := by decide +kernel
theorem d_P_startMember_25 : decode prog_6_method_4_code 25 = .ok (.aload_n 0, 1) := by decide +kernel
theorem d_P_startMember_26 : decode prog_6_method_4_code 26 = .ok (.getfield 29, 3) := by decide +kernel
theorem d_P_startMember_29 : decode prog_6_method_4_code 29 = .ok (.iconst 1, 1) := by decide +kernel
theorem d_P_startMember_30 : decode prog_6_method_4_code 30 = .ok (.isub, 1) := by decide +kernel
theorem d_P_startMember_31 : decode prog_6_method_4_code 31 = .ok (.ireturn, 1) := by decide +kernel
theorem d_S_member_0 : decode prog_1_method_4_code 0 = .ok (.aload_n 0, 1) := by decide +kernel
theorem d_S_member_1 : decode prog_1_method_4_code 1 = .ok (.getfield 10, 3) := by decide +kernel
theorem d_S_member_4 : decode prog_1_method_4_code 4 = .ok (.iload_n 1, 1) := by decide +kernel
theorem d_S_member_5 : decode prog_1_method_4_code 5 = .ok (.invokevirtual 48, 3) := by decide +kernel
theorem d_S_member_8 : decode prog_1_method_4_code 8 = .ok (.ifCond .ne 13, 3) := by decide +kernel
theorem d_S_member_11 : decode prog_1_method_4_code 11 = .ok (.new 52, 3) := by decide +kernel
theorem d_S_member_14 : decode prog_1_method_4_code 14 = .ok (.dup, 1) := by decide +kernel
theorem d_S_member_15 : decode prog_1_method_4_code 15 = .ok (.ldc 54, 2) := by decide +kernel
theorem d_S_member_17 : decode prog_1_method_4_code 17 = .ok (.invokespecial 56, 3) := by decide +kernel
theorem d_S_member_20 : decode prog_1_method_4_code 20 = .ok (.athrow, 1) := by decide +kernel
theorem d_S_member_21 : decode prog_1_method_4_code 21 = .ok (.aload_n 0, 1) := by decide +kernel
theorem d_S_member_22 : decode prog_1_method_4_code 22 = .ok (.getfield 10, 3) := by decide +kernel
theorem d_S_member_25 : decode prog_1_method_4_code 25 = .ok (.iload_n 1, 1) := by decide +kernel
theorem d_S_member_26 : decode prog_1_method_4_code 26 = .ok (.iload_n 2, 1) := by decide +kernel
theorem d_S_member_27 : decode prog_1_method_4_code 27 = .ok (.iload_n 3, 1) := by decide +kernel
theorem d_S_member_28 : decode prog_1_method_4_code 28 = .ok (.invokevirtual 84, 3) := by decide +kernel
theorem d_S_member_31 : decode prog_1_method_4_code 31 = .ok (.ifCond .ne 13, 3) := by decide +kernel
theorem d_S_member_34 : decode prog_1_method_4_code 34 = .ok (.new 61, 3) := by decide +kernel
theorem d_S_member_37 : decode prog_1_method_4_code 37 = .ok (.dup, 1) := by decide +kernel
theorem d_S_member_38 : decode prog_1_method_4_code 38 = .ok (.ldc 88, 2) := by decide +kernel
theorem d_S_member_40 : decode prog_1_method_4_code 40 = .ok (.invokespecial 65, 3) := by decide +kernel
theorem d_S_member_43 : decode prog_1_method_4_code 43 = .ok (.athrow, 1) := by decide +kernel
theorem d_S_member_44 : decode prog_1_method_4_code 44 = .ok (.aload_n 0, 1) := by decide +kernel
theorem d_S_member_45 : decode prog_1_method_4_code 45 = .ok (.getfield 10, 3) := by decide +kernel
theorem d_S_member_48 : decode prog_1_method_4_code 48 = .ok (.getfield 90, 3) := by decide +kernel
theorem d_S_member_51 : decode prog_1_method_4_code 51 = .ok (.bipush 30, 2) := by decide +kernel
theorem d_S_member_53 : decode prog_1_method_4_code 53 = .ok (.if_icmp .lt 13, 3) := by decide +kernel
theorem d_S_member_56 : decode prog_1_method_4_code 56 = .ok (.new 37, 3) := by decide +kernel
theorem d_S_member_59 : decode prog_1_method_4_code 59 = .ok (.dup, 1) := by decide +kernel
theorem d_S_member_60 : decode prog_1_method_4_code 60 = .ok (.ldc 91, 2) := by decide +kernel
theorem d_S_member_62 : decode prog_1_method_4_code 62 = .ok (.invokespecial 41, 3) := by decide +kernel
theorem d_S_member_65 : decode prog_1_method_4_code 65 = .ok (.athrow, 1) := by decide +kernel
theorem d_S_member_66 : decode prog_1_method_4_code 66 = .ok (.aload_n 0, 1) := by decide +kernel
theorem d_S_member_67 : decode prog_1_method_4_code 67 = .ok (.getfield 10, 3) := by decide +kernel
theorem d_S_member_70 : decode prog_1_method_4_code 70 = .ok (.iload_n 1, 1) := by decide +kernel
theorem d_S_member_71 : decode prog_1_method_4_code 71 = .ok (.iload_n 2, 1) := by decide +kernel
theorem d_S_member_72 : decode prog_1_method_4_code 72 = .ok (.iload_n 3, 1) := by decide +kernel
theorem d_S_member_73 : decode prog_1_method_4_code 73 = .ok (.invokevirtual 93, 3) := by decide +kernel
theorem d_S_member_76 : decode prog_1_method_4_code 76 = .ok (.ireturn, 1) := by decide +kernel
theorem d_W_member_0 : decode method_5_code 0 = .ok (.aload 4, 2) := by decide +kernel
theorem d_W_member_2 : decode method_5_code 2 = .ok (.iconst 0, 1) := by decide +kernel
theorem d_W_member_3 : decode method_5_code 3 = .ok (.aload_n 0, 1) := by decide +kernel
theorem d_W_member_4 : decode method_5_code 4 = .ok (.iload_n 1, 1) := by decide +kernel
theorem d_W_member_5 : decode method_5_code 5 = .ok (.iload_n 2, 1) := by decide +kernel
theorem d_W_member_6 : decode method_5_code 6 = .ok (.iload_n 3, 1) := by decide +kernel
theorem d_W_member_7 : decode method_5_code 7 = .ok (.invokevirtual 23, 3) := by decide +kernel
theorem d_W_member_10 : decode method_5_code 10 = .ok (.i2l, 1) := by decide +kernel
theorem d_W_member_11 : decode method_5_code 11 = .ok (.lastore, 1) := by decide +kernel
theorem d_W_member_12 : decode method_5_code 12 = .ok (.goto 15, 3) := by decide +kernel
theorem d_W_member_15 : decode method_5_code 15 = .ok (.astore 5, 2) := by decide +kernel
theorem d_W_member_17 : decode method_5_code 17 = .ok (.iconst 1, 1) := by decide +kernel
theorem d_W_member_18 : decode method_5_code 18 = .ok (.ireturn, 1) := by decide +kernel
theorem d_W_member_19 : decode method_5_code 19 = .ok (.astore 5, 2) := by decide +kernel
theorem d_W_member_21 : decode method_5_code 21 = .ok (.iconst 2, 1) := by decide +kernel
theorem d_W_member_22 : decode method_5_code 22 = .ok (.ireturn, 1) := by decide +kernel
theorem d_W_member_23 : decode method_5_code 23 = .ok (.astore 5, 2) := by decide +kernel
theorem d_W_member_25 : decode method_5_code 25 = .ok (.iconst 3, 1) := by decide +kernel
theorem d_W_member_26 : decode method_5_code 26 = .ok (.ireturn, 1) := by decide +kernel
theorem d_W_member_27 : decode method_5_code 27 = .ok (.iconst 0, 1) := by decide +kernel
theorem d_W_member_28 : decode method_5_code 28 = .ok (.ireturn, 1) := by decide +kernel
theorem d_P_hasMember_0 : decode prog_6_method_6_code 0 = .ok (.iload_n 1, 1) := by decide +kernel
theorem d_P_hasMember_1 : decode prog_6_method_6_code 1 = .ok (.ifCond .lt 15, 3) := by decide +kernel
theorem d_P_hasMember_4 : decode prog_6_method_6_code 4 = .ok (.iload_n 1, 1) := by decide +kernel
theorem d_P_hasMember_5 : decode prog_6_method_6_code 5 = .ok (.aload_n 0, 1) := by decide +kernel
theorem d_P_hasMember_6 : decode prog_6_method_6_code 6 = .ok (.getfield 29, 3) := by decide +kernel
theorem d_P_hasMember_9 : decode prog_6_method_6_code 9 = .ok (.if_icmp .ge 7, 3) := by decide +kernel
theorem d_P_hasMember_12 : decode prog_6_method_6_code 12 = .ok (.iconst 1, 1) := by decide +kernel
theorem d_P_hasMember_13 : decode prog_6_method_6_code 13 = .ok (.goto 4, 3) := by decide +kernel
theorem d_P_hasMember_16 : decode prog_6_method_6_code 16 = .ok (.iconst 0, 1) := by decide +kernel
theorem d_P_hasMember_17 : decode prog_6_method_6_code 17 = .ok (.ireturn, 1) := by decide +kernel
theorem d_P_hasMethod_0 : decode prog_6_method_7_code 0 = .ok (.aload_n 0, 1) := by decide +kernel
theorem d_P_hasMethod_1 : decode prog_6_method_7_code 1 = .ok (.iload_n 1, 1) := by decide +kernel
theorem d_P_hasMethod_2 : decode prog_6_method_7_code 2 = .ok (.invokevirtual 37, 3) := by decide +kernel
theorem d_P_hasMethod_5 : decode prog_6_method_7_code 5 = .ok (.ifCond .eq 19, 3) := by decide +kernel
theorem d_P_hasMethod_8 : decode prog_6_method_7_code 8 = .ok (.aload_n 0, 1) := by decide +kernel
theorem d_P_hasMethod_9 : decode prog_6_method_7_code 9 = .ok (.getfield 19, 3) := by decide +kernel
theorem d_P_hasMethod_12 : decode prog_6_method_7_code 12 = .ok (.iload_n 1, 1) := by decide +kernel
theorem d_P_hasMethod_13 : decode prog_6_method_7_code 13 = .ok (.aaload, 1) := by decide +kernel
theorem d_P_hasMethod_14 : decode prog_6_method_7_code 14 = .ok (.invokevirtual 41, 3) := by decide +kernel
theorem d_P_hasMethod_17 : decode prog_6_method_7_code 17 = .ok (.ifCond .ne 7, 3) := by decide +kernel
theorem d_P_hasMethod_20 : decode prog_6_method_7_code 20 = .ok (.iconst 1, 1) := by decide +kernel
theorem d_P_hasMethod_21 : decode prog_6_method_7_code 21 = .ok (.goto 4, 3) := by decide +kernel
theorem d_P_hasMethod_24 : decode prog_6_method_7_code 24 = .ok (.iconst 0, 1) := by decide +kernel
theorem d_P_hasMethod_25 : decode prog_6_method_7_code 25 = .ok (.ireturn, 1) := by decide +kernel
theorem d_B_append_0 : decode prog_4_method_4_code 0 = .ok (.aload_n 0, 1) := by decide +kernel
theorem d_B_append_1 : decode prog_4_method_4_code 1 = .ok (.getfield 9, 3) := by decide +kernel
theorem d_B_append_4 : decode prog_4_method_4_code 4 = .ok (.aload_n 0, 1) := by decide +kernel
theorem d_B_append_5 : decode prog_4_method_4_code 5 = .ok (.getfield 32, 3) := by decide +kernel
theorem d_B_append_8 : decode prog_4_method_4_code 8 = .ok (.iload_n 1, 1) := by decide +kernel
theorem d_B_append_9 : decode prog_4_method_4_code 9 = .ok (.iastore, 1) := by decide +kernel
theorem d_B_append_10 : decode prog_4_method_4_code 10 = .ok (.aload_n 0, 1) := by decide +kernel
theorem d_B_append_11 : decode prog_4_method_4_code 11 = .ok (.getfield 15, 3) := by decide +kernel
theorem d_B_append_14 : decode prog_4_method_4_code 14 = .ok (.aload_n 0, 1) := by decide +kernel
theorem d_B_append_15 : decode prog_4_method_4_code 15 = .ok (.getfield 32, 3) := by decide +kernel
theorem d_B_append_18 : decode prog_4_method_4_code 18 = .ok (.iload_n 2, 1) := by decide +kernel
theorem d_B_append_19 : decode prog_4_method_4_code 19 = .ok (.iastore, 1) := by decide +kernel
theorem d_B_append_20 : decode prog_4_method_4_code 20 = .ok (.aload_n 0, 1) := by decide +kernel
theorem d_B_append_21 : decode prog_4_method_4_code 21 = .ok (.dup, 1) := by decide +kernel
theorem d_B_append_22 : decode prog_4_method_4_code 22 = .ok (.getfield 32, 3) := by decide +kernel
theorem d_B_append_25 : decode prog_4_method_4_code 25 = .ok (.iconst 1, 1) := by decide +kernel
theorem d_B_append_26 : decode prog_4_method_4_code 26 = .ok (.iadd, 1) := by decide +kernel
theorem d_B_append_27 : decode prog_4_method_4_code 27 = .ok (.putfield 32, 3) := by decide +kernel
theorem d_B_append_30 : decode prog_4_method_4_code 30 = .ok (.aload_n 0, 1) := by decide +kernel
theorem d_B_append_31 : decode prog_4_method_4_code 31 = .ok (.getfield 32, 3) := by decide +kernel
theorem d_B_append_34 : decode prog_4_method_4_code 34 = .ok (.iconst 1, 1) := by decide +kernel
theorem d_B_append_35 : decode prog_4_method_4_code 35 = .ok (.isub, 1) := by decide +kernel
theorem d_B_append_36 : decode prog_4_method_4_code 36 = .ok (.ireturn, 1) := by decide +kernel
theorem d_S_code_0 : decode prog_1_method_5_code 0 = .ok (.aload_n 0, 1) := by decide +kernel
theorem d_S_code_1 : decode prog_1_method_5_code 1 = .ok (.getfield 10, 3) := by decide +kernel
theorem d_S_code_4 : decode prog_1_method_5_code 4 = .ok (.iload_n 1, 1) := by decide +kernel
theorem d_S_code_5 : decode prog_1_method_5_code 5 = .ok (.invokevirtual 96, 3) := by decide +kernel
theorem d_S_code_8 : decode prog_1_method_5_code 8 = .ok (.ifCond .ne 13, 3) := by decide +kernel
theorem d_S_code_11 : decode prog_1_method_5_code 11 = .ok (.new 52, 3) := by decide +kernel
theorem d_S_code_14 : decode prog_1_method_5_code 14 = .ok (.dup, 1) := by decide +kernel
theorem d_S_code_15 : decode prog_1_method_5_code 15 = .ok (.ldc 99, 2) := by decide +kernel
theorem d_S_code_17 : decode prog_1_method_5_code 17 = .ok (.invokespecial 56, 3) := by decide +kernel
theorem d_S_code_20 : decode prog_1_method_5_code 20 = .ok (.athrow, 1) := by decide +kernel
theorem d_S_code_21 : decode prog_1_method_5_code 21 = .ok (.iload_n 2, 1) := by decide +kernel
theorem d_S_code_22 : decode prog_1_method_5_code 22 = .ok (.ifCond .lt 9, 3) := by decide +kernel
theorem d_S_code_25 : decode prog_1_method_5_code 25 = .ok (.iload_n 2, 1) := by decide +kernel
theorem d_S_code_26 : decode prog_1_method_5_code 26 = .ok (.bipush 12, 2) := by decide +kernel
theorem d_S_code_28 : decode prog_1_method_5_code 28 = .ok (.if_icmp .le 13, 3) := by decide +kernel
theorem d_S_code_31 : decode prog_1_method_5_code 31 = .ok (.new 61, 3) := by decide +kernel
theorem d_S_code_34 : decode prog_1_method_5_code 34 = .ok (.dup, 1) := by decide +kernel
theorem d_S_code_35 : decode prog_1_method_5_code 35 = .ok (.ldc 101, 2) := by decide +kernel
theorem d_S_code_37 : decode prog_1_method_5_code 37 = .ok (.invokespecial 65, 3) := by decide +kernel
theorem d_S_code_40 : decode prog_1_method_5_code 40 = .ok (.athrow, 1) := by decide +kernel
theorem d_S_code_41 : decode prog_1_method_5_code 41 = .ok (.aload_n 0, 1) := by decide +kernel
theorem d_S_code_42 : decode prog_1_method_5_code 42 = .ok (.getfield 10, 3) := by decide +kernel
theorem d_S_code_45 : decode prog_1_method_5_code 45 = .ok (.getfield 103, 3) := by decide +kernel
theorem d_S_code_48 : decode prog_1_method_5_code 48 = .ok (.iload_n 1, 1) := by decide +kernel
theorem d_S_code_49 : decode prog_1_method_5_code 49 = .ok (.aaload, 1) := by decide +kernel
theorem d_S_code_50 : decode prog_1_method_5_code 50 = .ok (.astore 4, 2) := by decide +kernel
theorem d_S_code_52 : decode prog_1_method_5_code 52 = .ok (.aload 4, 2) := by decide +kernel
theorem d_S_code_54 : decode prog_1_method_5_code 54 = .ok (.getfield 107, 3) := by decide +kernel
theorem d_S_code_57 : decode prog_1_method_5_code 57 = .ok (.bipush 20, 2) := by decide +kernel
theorem d_S_code_59 : decode prog_1_method_5_code 59 = .ok (.if_icmp .lt 13, 3) := by decide +kernel
theorem d_S_code_62 : decode prog_1_method_5_code 62 = .ok (.new 37, 3) := by decide +kernel
theorem d_S_code_65 : decode prog_1_method_5_code 65 = .ok (.dup, 1) := by decide +kernel
theorem d_S_code_66 : decode prog_1_method_5_code 66 = .ok (.ldc 112, 2) := by decide +kernel
theorem d_S_code_68 : decode prog_1_method_5_code 68 = .ok (.invokespecial 41, 3) := by decide +kernel
theorem d_S_code_71 : decode prog_1_method_5_code 71 = .ok (.athrow, 1) := by decide +kernel
theorem d_S_code_72 : decode prog_1_method_5_code 72 = .ok (.aload 4, 2) := by decide +kernel
theorem d_S_code_74 : decode prog_1_method_5_code 74 = .ok (.iload_n 2, 1) := by decide +kernel
theorem d_S_code_75 : decode prog_1_method_5_code 75 = .ok (.iload_n 3, 1) := by decide +kernel
theorem d_S_code_76 : decode prog_1_method_5_code 76 = .ok (.invokevirtual 114, 3) := by decide +kernel
theorem d_S_code_79 : decode prog_1_method_5_code 79 = .ok (.ireturn, 1) := by decide +kernel
theorem d_W_code_0 : decode method_6_code 0 = .ok (.aload 4, 2) := by decide +kernel
theorem d_W_code_2 : decode method_6_code 2 = .ok (.iconst 0, 1) := by decide +kernel
theorem d_W_code_3 : decode method_6_code 3 = .ok (.aload_n 0, 1) := by decide +kernel
theorem d_W_code_4 : decode method_6_code 4 = .ok (.iload_n 1, 1) := by decide +kernel
theorem d_W_code_5 : decode method_6_code 5 = .ok (.iload_n 2, 1) := by decide +kernel
theorem d_W_code_6 : decode method_6_code 6 = .ok (.iload_n 3, 1) := by decide +kernel
theorem d_W_code_7 : decode method_6_code 7 = .ok (.invokevirtual 27, 3) := by decide +kernel
theorem d_W_code_10 : decode method_6_code 10 = .ok (.i2l, 1) := by decide +kernel
theorem d_W_code_11 : decode method_6_code 11 = .ok (.lastore, 1) := by decide +kernel
theorem d_W_code_12 : decode method_6_code 12 = .ok (.goto 15, 3) := by decide +kernel
theorem d_W_code_15 : decode method_6_code 15 = .ok (.astore 5, 2) := by decide +kernel
theorem d_W_code_17 : decode method_6_code 17 = .ok (.iconst 1, 1) := by decide +kernel
theorem d_W_code_18 : decode method_6_code 18 = .ok (.ireturn, 1) := by decide +kernel
theorem d_W_code_19 : decode method_6_code 19 = .ok (.astore 5, 2) := by decide +kernel
theorem d_W_code_21 : decode method_6_code 21 = .ok (.iconst 2, 1) := by decide +kernel
theorem d_W_code_22 : decode method_6_code 22 = .ok (.ireturn, 1) := by decide +kernel
theorem d_W_code_23 : decode method_6_code 23 = .ok (.astore 5, 2) := by decide +kernel
theorem d_W_code_25 : decode method_6_code 25 = .ok (.iconst 3, 1) := by decide +kernel
theorem d_W_code_26 : decode method_6_code 26 = .ok (.ireturn, 1) := by decide +kernel
theorem d_W_code_27 : decode method_6_code 27 = .ok (.iconst 0, 1) := by decide +kernel
theorem d_W_code_28 : decode method_6_code 28 = .ok (.ireturn, 1) := by decide +kernel
theorem d_S_entry_0 : decode prog_1_method_6_code 0 = .ok (.aload_n 0, 1) := by decide +kernel
theorem d_S_entry_1 : decode prog_1_method_6_code 1 = .ok (.getfield 10, 3) := by decide +kernel
theorem d_S_entry_4 : decode prog_1_method_6_code 4 = .ok (.iload_n 1, 1) := by decide +kernel
theorem d_S_entry_5 : decode prog_1_method_6_code 5 = .ok (.invokevirtual 96, 3) := by decide +kernel
theorem d_S_entry_8 : decode prog_1_method_6_code 8 = .ok (.ifCond .ne 13, 3) := by decide +kernel
theorem d_S_entry_11 : decode prog_1_method_6_code 11 = .ok (.new 52, 3) := by decide +kernel
theorem d_S_entry_14 : decode prog_1_method_6_code 14 = .ok (.dup, 1) := by decide +kernel
theorem d_S_entry_15 : decode prog_1_method_6_code 15 = .ok (.ldc 99, 2) := by decide +kernel
theorem d_S_entry_17 : decode prog_1_method_6_code 17 = .ok (.invokespecial 56, 3) := by decide +kernel
theorem d_S_entry_20 : decode prog_1_method_6_code 20 = .ok (.athrow, 1) := by decide +kernel
theorem d_S_entry_21 : decode prog_1_method_6_code 21 = .ok (.aload_n 0, 1) := by decide +kernel
theorem d_S_entry_22 : decode prog_1_method_6_code 22 = .ok (.getfield 10, 3) := by decide +kernel
theorem d_S_entry_25 : decode prog_1_method_6_code 25 = .ok (.getfield 103, 3) := by decide +kernel
theorem d_S_entry_28 : decode prog_1_method_6_code 28 = .ok (.iload_n 1, 1) := by decide +kernel
theorem d_S_entry_29 : decode prog_1_method_6_code 29 = .ok (.aaload, 1) := by decide +kernel
theorem d_S_entry_30 : decode prog_1_method_6_code 30 = .ok (.iload_n 2, 1) := by decide +kernel
theorem d_S_entry_31 : decode prog_1_method_6_code 31 = .ok (.putfield 117, 3) := by decide +kernel
theorem d_S_entry_34 : decode prog_1_method_6_code 34 = .ok (.return_, 1) := by decide +kernel
theorem d_W_entry_0 : decode method_7_code 0 = .ok (.aload_n 0, 1) := by decide +kernel
theorem d_W_entry_1 : decode method_7_code 1 = .ok (.iload_n 1, 1) := by decide +kernel
theorem d_W_entry_2 : decode method_7_code 2 = .ok (.iload_n 2, 1) := by decide +kernel
theorem d_W_entry_3 : decode method_7_code 3 = .ok (.invokevirtual 30, 3) := by decide +kernel
theorem d_W_entry_6 : decode method_7_code 6 = .ok (.goto 6, 3) := by decide +kernel
theorem d_W_entry_9 : decode method_7_code 9 = .ok (.astore_n 3, 1) := by decide +kernel
theorem d_W_entry_10 : decode method_7_code 10 = .ok (.iconst 1, 1) := by decide +kernel
theorem d_W_entry_11 : decode method_7_code 11 = .ok (.ireturn, 1) := by decide +kernel
theorem d_W_entry_12 : decode method_7_code 12 = .ok (.iconst 0, 1) := by decide +kernel
theorem d_W_entry_13 : decode method_7_code 13 = .ok (.ireturn, 1) := by decide +kernel
theorem d_P_entries_0 : decode prog_6_method_9_code 0 = .ok (.iconst 0, 1) := by decide +kernel
theorem d_P_entries_1 : decode prog_6_method_9_code 1 = .ok (.istore_n 1, 1) := by decide +kernel
theorem d_P_entries_2 : decode prog_6_method_9_code 2 = .ok (.iconst 0, 1) := by decide +kernel
theorem d_P_entries_3 : decode prog_6_method_9_code 3 = .ok (.istore_n 2, 1) := by decide +kernel
theorem d_P_entries_4 : decode prog_6_method_9_code 4 = .ok (.iload_n 2, 1) := by decide +kernel
theorem d_P_entries_5 : decode prog_6_method_9_code 5 = .ok (.aload_n 0, 1) := by decide +kernel
theorem d_P_entries_6 : decode prog_6_method_9_code 6 = .ok (.getfield 29, 3) := by decide +kernel
theorem d_P_entries_9 : decode prog_6_method_9_code 9 = .ok (.if_icmp .ge 24, 3) := by decide +kernel
theorem d_P_entries_12 : decode prog_6_method_9_code 12 = .ok (.aload_n 0, 1) := by decide +kernel
theorem d_P_entries_13 : decode prog_6_method_9_code 13 = .ok (.getfield 19, 3) := by decide +kernel
theorem d_P_entries_16 : decode prog_6_method_9_code 16 = .ok (.iload_n 2, 1) := by decide +kernel
theorem d_P_entries_17 : decode prog_6_method_9_code 17 = .ok (.aaload, 1) := by decide +kernel
theorem d_P_entries_18 : decode prog_6_method_9_code 18 = .ok (.getfield 55, 3) := by decide +kernel
theorem d_P_entries_21 : decode prog_6_method_9_code 21 = .ok (.ifCond .eq 6, 3) := by decide +kernel
theorem d_P_entries_24 : decode prog_6_method_9_code 24 = .ok (.iinc 1 1, 3) := by decide +kernel
theorem d_P_entries_27 : decode prog_6_method_9_code 27 = .ok (.iinc 2 1, 3) := by decide +kernel
theorem d_P_entries_30 : decode prog_6_method_9_code 30 = .ok (.goto (-26), 3) := by decide +kernel
theorem d_P_entries_33 : decode prog_6_method_9_code 33 = .ok (.iload_n 1, 1) := by decide +kernel
theorem d_P_entries_34 : decode prog_6_method_9_code 34 = .ok (.ireturn, 1) := by decide +kernel
theorem d_K_forget_0 : decode prog_7_method_4_code 0 = .ok (.aload_n 0, 1) := by decide +kernel
theorem d_K_forget_1 : decode prog_7_method_4_code 1 = .ok (.getfield 9, 3) := by decide +kernel
theorem d_K_forget_4 : decode prog_7_method_4_code 4 = .ok (.iconst (-1), 1) := by decide +kernel
theorem d_K_forget_5 : decode prog_7_method_4_code 5 = .ok (.invokestatic 32, 3) := by decide +kernel
theorem d_K_forget_8 : decode prog_7_method_4_code 8 = .ok (.aload_n 0, 1) := by decide +kernel
theorem d_K_forget_9 : decode prog_7_method_4_code 9 = .ok (.getfield 15, 3) := by decide +kernel
theorem d_K_forget_12 : decode prog_7_method_4_code 12 = .ok (.iconst (-1), 1) := by decide +kernel
theorem d_K_forget_13 : decode prog_7_method_4_code 13 = .ok (.invokestatic 32, 3) := by decide +kernel
theorem d_K_forget_16 : decode prog_7_method_4_code 16 = .ok (.iconst 0, 1) := by decide +kernel
theorem d_K_forget_17 : decode prog_7_method_4_code 17 = .ok (.istore_n 1, 1) := by decide +kernel
theorem d_K_forget_18 : decode prog_7_method_4_code 18 = .ok (.iload_n 1, 1) := by decide +kernel
theorem d_K_forget_19 : decode prog_7_method_4_code 19 = .ok (.bipush 6, 2) := by decide +kernel
theorem d_K_forget_21 : decode prog_7_method_4_code 21 = .ok (.if_icmp .ge 19, 3) := by decide +kernel
theorem d_K_forget_24 : decode prog_7_method_4_code 24 = .ok (.aload_n 0, 1) := by decide +kernel
theorem d_K_forget_25 : decode prog_7_method_4_code 25 = .ok (.getfield 20, 3) := by decide +kernel
theorem d_K_forget_28 : decode prog_7_method_4_code 28 = .ok (.iload_n 1, 1) := by decide +kernel
theorem d_K_forget_29 : decode prog_7_method_4_code 29 = .ok (.aaload, 1) := by decide +kernel
theorem d_K_forget_30 : decode prog_7_method_4_code 30 = .ok (.iconst (-1), 1) := by decide +kernel
theorem d_K_forget_31 : decode prog_7_method_4_code 31 = .ok (.invokestatic 32, 3) := by decide +kernel
theorem d_K_forget_34 : decode prog_7_method_4_code 34 = .ok (.iinc 1 1, 3) := by decide +kernel
theorem d_K_forget_37 : decode prog_7_method_4_code 37 = .ok (.goto (-19), 3) := by decide +kernel
theorem d_K_forget_40 : decode prog_7_method_4_code 40 = .ok (.aload_n 0, 1) := by decide +kernel
theorem d_K_forget_41 : decode prog_7_method_4_code 41 = .ok (.getfield 23, 3) := by decide +kernel
theorem d_K_forget_44 : decode prog_7_method_4_code 44 = .ok (.iconst (-1), 1) := by decide +kernel
theorem d_K_forget_45 : decode prog_7_method_4_code 45 = .ok (.invokestatic 32, 3) := by decide +kernel
theorem d_K_forget_48 : decode prog_7_method_4_code 48 = .ok (.aload_n 0, 1) := by decide +kernel
theorem d_K_forget_49 : decode prog_7_method_4_code 49 = .ok (.getfield 26, 3) := by decide +kernel
theorem d_K_forget_52 : decode prog_7_method_4_code 52 = .ok (.iconst 0, 1) := by decide +kernel
theorem d_K_forget_53 : decode prog_7_method_4_code 53 = .ok (.invokestatic 32, 3) := by decide +kernel
theorem d_K_forget_56 : decode prog_7_method_4_code 56 = .ok (.aload_n 0, 1) := by decide +kernel
theorem d_K_forget_57 : decode prog_7_method_4_code 57 = .ok (.iconst 0, 1) := by decide +kernel
theorem d_K_forget_58 : decode prog_7_method_4_code 58 = .ok (.putfield 61, 3) := by decide +kernel
theorem d_K_forget_61 : decode prog_7_method_4_code 61 = .ok (.return_, 1) := by decide +kernel
theorem d_K_keepMember_0 : decode prog_7_method_7_code 0 = .ok (.iload_n 2, 1) := by decide +kernel
theorem d_K_keepMember_1 : decode prog_7_method_7_code 1 = .ok (.iconst (-1), 1) := by decide +kernel
theorem d_K_keepMember_2 : decode prog_7_method_7_code 2 = .ok (.if_icmp .eq 13, 3) := by decide +kernel
theorem d_K_keepMember_5 : decode prog_7_method_7_code 5 = .ok (.aload_n 0, 1) := by decide +kernel
theorem d_K_keepMember_6 : decode prog_7_method_7_code 6 = .ok (.getfield 9, 3) := by decide +kernel
theorem d_K_keepMember_9 : decode prog_7_method_7_code 9 = .ok (.iload_n 2, 1) := by decide +kernel
theorem d_K_keepMember_10 : decode prog_7_method_7_code 10 = .ok (.iaload, 1) := by decide +kernel
theorem d_K_keepMember_11 : decode prog_7_method_7_code 11 = .ok (.iconst (-1), 1) := by decide +kernel
theorem d_K_keepMember_12 : decode prog_7_method_7_code 12 = .ok (.if_icmp .eq 4, 3) := by decide +kernel
theorem d_K_keepMember_15 : decode prog_7_method_7_code 15 = .ok (.return_, 1) := by decide +kernel
theorem d_K_keepMember_16 : decode prog_7_method_7_code 16 = .ok (.aload_n 1, 1) := by decide +kernel
theorem d_K_keepMember_17 : decode prog_7_method_7_code 17 = .ok (.getfield 70, 3) := by decide +kernel
theorem d_K_keepMember_20 : decode prog_7_method_7_code 20 = .ok (.iload_n 2, 1) := by decide +kernel
theorem d_K_keepMember_21 : decode prog_7_method_7_code 21 = .ok (.aaload, 1) := by decide +kernel
theorem d_K_keepMember_22 : decode prog_7_method_7_code 22 = .ok (.astore_n 3, 1) := by decide +kernel
theorem d_K_keepMember_23 : decode prog_7_method_7_code 23 = .ok (.aload_n 0, 1) := by decide +kernel
theorem d_K_keepMember_24 : decode prog_7_method_7_code 24 = .ok (.getfield 9, 3) := by decide +kernel
theorem d_K_keepMember_27 : decode prog_7_method_7_code 27 = .ok (.iload_n 2, 1) := by decide +kernel
theorem d_K_keepMember_28 : decode prog_7_method_7_code 28 = .ok (.iconst 0, 1) := by decide +kernel
theorem d_K_keepMember_29 : decode prog_7_method_7_code 29 = .ok (.iastore, 1) := by decide +kernel
theorem d_K_keepMember_30 : decode prog_7_method_7_code 30 = .ok (.aload_n 0, 1) := by decide +kernel
theorem d_K_keepMember_31 : decode prog_7_method_7_code 31 = .ok (.getfield 15, 3) := by decide +kernel
theorem d_K_keepMember_34 : decode prog_7_method_7_code 34 = .ok (.aload_n 3, 1) := by decide +kernel
theorem d_K_keepMember_35 : decode prog_7_method_7_code 35 = .ok (.getfield 94, 3) := by decide +kernel
theorem d_K_keepMember_38 : decode prog_7_method_7_code 38 = .ok (.iconst 0, 1) := by decide +kernel
theorem d_K_keepMember_39 : decode prog_7_method_7_code 39 = .ok (.iastore, 1) := by decide +kernel
theorem d_K_keepMember_40 : decode prog_7_method_7_code 40 = .ok (.aload_n 0, 1) := by decide +kernel
theorem d_K_keepMember_41 : decode prog_7_method_7_code 41 = .ok (.getfield 20, 3) := by decide +kernel
theorem d_K_keepMember_44 : decode prog_7_method_7_code 44 = .ok (.aload_n 3, 1) := by decide +kernel
theorem d_K_keepMember_45 : decode prog_7_method_7_code 45 = .ok (.getfield 94, 3) := by decide +kernel
theorem d_K_keepMember_48 : decode prog_7_method_7_code 48 = .ok (.aaload, 1) := by decide +kernel
theorem d_K_keepMember_49 : decode prog_7_method_7_code 49 = .ok (.aload_n 3, 1) := by decide +kernel
theorem d_K_keepMember_50 : decode prog_7_method_7_code 50 = .ok (.getfield 104, 3) := by decide +kernel
theorem d_K_keepMember_53 : decode prog_7_method_7_code 53 = .ok (.iconst 0, 1) := by decide +kernel
theorem d_K_keepMember_54 : decode prog_7_method_7_code 54 = .ok (.iastore, 1) := by decide +kernel
theorem d_K_keepMember_55 : decode prog_7_method_7_code 55 = .ok (.aload_n 0, 1) := by decide +kernel
theorem d_K_keepMember_56 : decode prog_7_method_7_code 56 = .ok (.getfield 29, 3) := by decide +kernel
theorem d_K_keepMember_59 : decode prog_7_method_7_code 59 = .ok (.aload_n 0, 1) := by decide +kernel
theorem d_K_keepMember_60 : decode prog_7_method_7_code 60 = .ok (.getfield 61, 3) := by decide +kernel
theorem d_K_keepMember_63 : decode prog_7_method_7_code 63 = .ok (.iload_n 2, 1) := by decide +kernel
theorem d_K_keepMember_64 : decode prog_7_method_7_code 64 = .ok (.iastore, 1) := by decide +kernel
theorem d_K_keepMember_65 : decode prog_7_method_7_code 65 = .ok (.aload_n 0, 1) := by decide +kernel
theorem d_K_keepMember_66 : decode prog_7_method_7_code 66 = .ok (.dup, 1) := by decide +kernel
theorem d_K_keepMember_67 : decode prog_7_method_7_code 67 = .ok (.getfield 61, 3) := by decide +kernel
theorem d_K_keepMember_70 : decode prog_7_method_7_code 70 = .ok (.iconst 1, 1) := by decide +kernel
theorem d_K_keepMember_71 : decode prog_7_method_7_code 71 = .ok (.iadd, 1) := by decide +kernel
theorem d_K_keepMember_72 : decode prog_7_method_7_code 72 = .ok (.putfield 61, 3) := by decide +kernel
theorem d_K_keepMember_75 : decode prog_7_method_7_code 75 = .ok (.return_, 1) := by decide +kernel
theorem d_K_keepEntries_0 : decode prog_7_method_5_code 0 = .ok (.iconst 0, 1) := by decide +kernel
theorem d_K_keepEntries_1 : decode prog_7_method_5_code 1 = .ok (.istore_n 2, 1) := by decide +kernel
theorem d_K_keepEntries_2 : decode prog_7_method_5_code 2 = .ok (.iload_n 2, 1) := by decide +kernel
theorem d_K_keepEntries_3 : decode prog_7_method_5_code 3 = .ok (.aload_n 1, 1) := by decide +kernel
theorem d_K_keepEntries_4 : decode prog_7_method_5_code 4 = .ok (.getfield 65, 3) := by decide +kernel
theorem d_K_keepEntries_7 : decode prog_7_method_5_code 7 = .ok (.if_icmp .ge 27, 3) := by decide +kernel
theorem d_K_keepEntries_10 : decode prog_7_method_5_code 10 = .ok (.aload_n 1, 1) := by decide +kernel
theorem d_K_keepEntries_11 : decode prog_7_method_5_code 11 = .ok (.getfield 70, 3) := by decide +kernel
theorem d_K_keepEntries_14 : decode prog_7_method_5_code 14 = .ok (.iload_n 2, 1) := by decide +kernel
theorem d_K_keepEntries_15 : decode prog_7_method_5_code 15 = .ok (.aaload, 1) := by decide +kernel
theorem d_K_keepEntries_16 : decode prog_7_method_5_code 16 = .ok (.getfield 74, 3) := by decide +kernel
theorem d_K_keepEntries_19 : decode prog_7_method_5_code 19 = .ok (.ifCond .eq 9, 3) := by decide +kernel
theorem d_K_keepEntries_22 : decode prog_7_method_5_code 22 = .ok (.aload_n 0, 1) := by decide +kernel
theorem d_K_keepEntries_23 : decode prog_7_method_5_code 23 = .ok (.aload_n 1, 1) := by decide +kernel
theorem d_K_keepEntries_24 : decode prog_7_method_5_code 24 = .ok (.iload_n 2, 1) := by decide +kernel
theorem d_K_keepEntries_25 : decode prog_7_method_5_code 25 = .ok (.invokevirtual 80, 3) := by decide +kernel
theorem d_K_keepEntries_28 : decode prog_7_method_5_code 28 = .ok (.iinc 2 1, 3) := by decide +kernel
theorem d_K_keepEntries_31 : decode prog_7_method_5_code 31 = .ok (.goto (-29), 3) := by decide +kernel
theorem d_K_keepEntries_34 : decode prog_7_method_5_code 34 = .ok (.return_, 1) := by decide +kernel
theorem d_S_usesConstant_0 : decode prog_1_method_19_code 0 = .ok (.iload_n 0, 1) := by decide +kernel
theorem d_S_usesConstant_1 : decode prog_1_method_19_code 1 = .ok (.ifCond .eq 18, 3) := by decide +kernel
theorem d_S_usesConstant_4 : decode prog_1_method_19_code 4 = .ok (.iload_n 0, 1) := by decide +kernel
theorem d_S_usesConstant_5 : decode prog_1_method_19_code 5 = .ok (.iconst 1, 1) := by decide +kernel
theorem d_S_usesConstant_6 : decode prog_1_method_19_code 6 = .ok (.if_icmp .eq 13, 3) := by decide +kernel
theorem d_S_usesConstant_9 : decode prog_1_method_19_code 9 = .ok (.iload_n 0, 1) := by decide +kernel
theorem d_S_usesConstant_10 : decode prog_1_method_19_code 10 = .ok (.iconst 2, 1) := by decide +kernel
theorem d_S_usesConstant_11 : decode prog_1_method_19_code 11 = .ok (.if_icmp .eq 8, 3) := by decide +kernel
theorem d_S_usesConstant_14 : decode prog_1_method_19_code 14 = .ok (.iload_n 0, 1) := by decide +kernel
theorem d_S_usesConstant_15 : decode prog_1_method_19_code 15 = .ok (.iconst 3, 1) := by decide +kernel
theorem d_S_usesConstant_16 : decode prog_1_method_19_code 16 = .ok (.if_icmp .ne 7, 3) := by decide +kernel
theorem d_S_usesConstant_19 : decode prog_1_method_19_code 19 = .ok (.iconst 1, 1) := by decide +kernel
theorem d_S_usesConstant_20 : decode prog_1_method_19_code 20 = .ok (.goto 4, 3) := by decide +kernel
theorem d_S_usesConstant_23 : decode prog_1_method_19_code 23 = .ok (.iconst 0, 1) := by decide +kernel
theorem d_S_usesConstant_24 : decode prog_1_method_19_code 24 = .ok (.ireturn, 1) := by decide +kernel
theorem d_K_keepConstant_0 : decode prog_7_method_8_code 0 = .ok (.aload_n 1, 1) := by decide +kernel
theorem d_K_keepConstant_1 : decode prog_7_method_8_code 1 = .ok (.getfield 107, 3) := by decide +kernel
theorem d_K_keepConstant_4 : decode prog_7_method_8_code 4 = .ok (.iload_n 2, 1) := by decide +kernel
theorem d_K_keepConstant_5 : decode prog_7_method_8_code 5 = .ok (.aaload, 1) := by decide +kernel
theorem d_K_keepConstant_6 : decode prog_7_method_8_code 6 = .ok (.astore 4, 2) := by decide +kernel
theorem d_K_keepConstant_8 : decode prog_7_method_8_code 8 = .ok (.aload_n 0, 1) := by decide +kernel
theorem d_K_keepConstant_9 : decode prog_7_method_8_code 9 = .ok (.getfield 20, 3) := by decide +kernel
theorem d_K_keepConstant_12 : decode prog_7_method_8_code 12 = .ok (.iload_n 2, 1) := by decide +kernel
theorem d_K_keepConstant_13 : decode prog_7_method_8_code 13 = .ok (.aaload, 1) := by decide +kernel
theorem d_K_keepConstant_14 : decode prog_7_method_8_code 14 = .ok (.iload_n 3, 1) := by decide +kernel
theorem d_K_keepConstant_15 : decode prog_7_method_8_code 15 = .ok (.iconst 0, 1) := by decide +kernel
theorem d_K_keepConstant_16 : decode prog_7_method_8_code 16 = .ok (.iastore, 1) := by decide +kernel
theorem d_K_keepConstant_17 : decode prog_7_method_8_code 17 = .ok (.aload 4, 2) := by decide +kernel
theorem d_K_keepConstant_19 : decode prog_7_method_8_code 19 = .ok (.getfield 111, 3) := by decide +kernel
theorem d_K_keepConstant_22 : decode prog_7_method_8_code 22 = .ok (.iload_n 3, 1) := by decide +kernel
theorem d_K_keepConstant_23 : decode prog_7_method_8_code 23 = .ok (.iaload, 1) := by decide +kernel
theorem d_K_keepConstant_24 : decode prog_7_method_8_code 24 = .ok (.invokestatic 116, 3) := by decide +kernel
theorem d_K_keepConstant_27 : decode prog_7_method_8_code 27 = .ok (.ifCond .eq 44, 3) := by decide +kernel
theorem d_K_keepConstant_30 : decode prog_7_method_8_code 30 = .ok (.aload_n 0, 1) := by decide +kernel
theorem d_K_keepConstant_31 : decode prog_7_method_8_code 31 = .ok (.getfield 20, 3) := by decide +kernel
theorem d_K_keepConstant_34 : decode prog_7_method_8_code 34 = .ok (.iload_n 2, 1) := by decide +kernel
theorem d_K_keepConstant_35 : decode prog_7_method_8_code 35 = .ok (.aaload, 1) := by decide +kernel
theorem d_K_keepConstant_36 : decode prog_7_method_8_code 36 = .ok (.aload 4, 2) := by decide +kernel
theorem d_K_keepConstant_38 : decode prog_7_method_8_code 38 = .ok (.getfield 119, 3) := by decide +kernel
theorem d_K_keepConstant_41 : decode prog_7_method_8_code 41 = .ok (.iload_n 3, 1) := by decide +kernel
theorem d_K_keepConstant_42 : decode prog_7_method_8_code 42 = .ok (.iaload, 1) := by decide +kernel
theorem d_K_keepConstant_43 : decode prog_7_method_8_code 43 = .ok (.iconst 0, 1) := by decide +kernel
theorem d_K_keepConstant_44 : decode prog_7_method_8_code 44 = .ok (.iastore, 1) := by decide +kernel
theorem d_K_keepConstant_45 : decode prog_7_method_8_code 45 = .ok (.aload_n 0, 1) := by decide +kernel
theorem d_K_keepConstant_46 : decode prog_7_method_8_code 46 = .ok (.getfield 20, 3) := by decide +kernel
theorem d_K_keepConstant_49 : decode prog_7_method_8_code 49 = .ok (.iload_n 2, 1) := by decide +kernel
theorem d_K_keepConstant_50 : decode prog_7_method_8_code 50 = .ok (.aaload, 1) := by decide +kernel
theorem d_K_keepConstant_51 : decode prog_7_method_8_code 51 = .ok (.aload 4, 2) := by decide +kernel
theorem d_K_keepConstant_53 : decode prog_7_method_8_code 53 = .ok (.getfield 122, 3) := by decide +kernel
theorem d_K_keepConstant_56 : decode prog_7_method_8_code 56 = .ok (.iload_n 3, 1) := by decide +kernel
theorem d_K_keepConstant_57 : decode prog_7_method_8_code 57 = .ok (.iaload, 1) := by decide +kernel
theorem d_K_keepConstant_58 : decode prog_7_method_8_code 58 = .ok (.iconst 0, 1) := by decide +kernel
theorem d_K_keepConstant_59 : decode prog_7_method_8_code 59 = .ok (.iastore, 1) := by decide +kernel
theorem d_K_keepConstant_60 : decode prog_7_method_8_code 60 = .ok (.aload_n 0, 1) := by decide +kernel
theorem d_K_keepConstant_61 : decode prog_7_method_8_code 61 = .ok (.aload_n 1, 1) := by decide +kernel
theorem d_K_keepConstant_62 : decode prog_7_method_8_code 62 = .ok (.aload_n 1, 1) := by decide +kernel
theorem d_K_keepConstant_63 : decode prog_7_method_8_code 63 = .ok (.iload_n 2, 1) := by decide +kernel
theorem d_K_keepConstant_64 : decode prog_7_method_8_code 64 = .ok (.iload_n 3, 1) := by decide +kernel
theorem d_K_keepConstant_65 : decode prog_7_method_8_code 65 = .ok (.invokevirtual 125, 3) := by decide +kernel
theorem d_K_keepConstant_68 : decode prog_7_method_8_code 68 = .ok (.invokevirtual 80, 3) := by decide +kernel
theorem d_K_keepConstant_71 : decode prog_7_method_8_code 71 = .ok (.return_, 1) := by decide +kernel
theorem d_K_keepReached_0 : decode prog_7_method_6_code 0 = .ok (.iconst 0, 1) := by decide +kernel
theorem d_K_keepReached_1 : decode prog_7_method_6_code 1 = .ok (.istore_n 2, 1) := by decide +kernel
theorem d_K_keepReached_2 : decode prog_7_method_6_code 2 = .ok (.iload_n 2, 1) := by decide +kernel
theorem d_K_keepReached_3 : decode prog_7_method_6_code 3 = .ok (.aload_n 0, 1) := by decide +kernel
theorem d_K_keepReached_4 : decode prog_7_method_6_code 4 = .ok (.getfield 61, 3) := by decide +kernel
theorem d_K_keepReached_7 : decode prog_7_method_6_code 7 = .ok (.if_icmp .ge 74, 3) := by decide +kernel
theorem d_K_keepReached_10 : decode prog_7_method_6_code 10 = .ok (.iload_n 2, 1) := by decide +kernel
theorem d_K_keepReached_11 : decode prog_7_method_6_code 11 = .ok (.bipush 30, 2) := by decide +kernel
theorem d_K_keepReached_13 : decode prog_7_method_6_code 13 = .ok (.if_icmp .ge 68, 3) := by decide +kernel
theorem d_K_keepReached_16 : decode prog_7_method_6_code 16 = .ok (.aload_n 1, 1) := by decide +kernel
theorem d_K_keepReached_17 : decode prog_7_method_6_code 17 = .ok (.getfield 70, 3) := by decide +kernel
theorem d_K_keepReached_20 : decode prog_7_method_6_code 20 = .ok (.aload_n 0, 1) := by decide +kernel
theorem d_K_keepReached_21 : decode prog_7_method_6_code 21 = .ok (.getfield 29, 3) := by decide +kernel
theorem d_K_keepReached_24 : decode prog_7_method_6_code 24 = .ok (.iload_n 2, 1) := by decide +kernel
theorem d_K_keepReached_25 : decode prog_7_method_6_code 25 = .ok (.iaload, 1) := by decide +kernel
theorem d_K_keepReached_26 : decode prog_7_method_6_code 26 = .ok (.aaload, 1) := by decide +kernel
theorem d_K_keepReached_27 : decode prog_7_method_6_code 27 = .ok (.astore_n 3, 1) := by decide +kernel
theorem d_K_keepReached_28 : decode prog_7_method_6_code 28 = .ok (.iconst 0, 1) := by decide +kernel
theorem d_K_keepReached_29 : decode prog_7_method_6_code 29 = .ok (.istore 4, 2) := by decide +kernel
theorem d_K_keepReached_31 : decode prog_7_method_6_code 31 = .ok (.iload 4, 2) := by decide +kernel
theorem d_K_keepReached_33 : decode prog_7_method_6_code 33 = .ok (.aload_n 3, 1) := by decide +kernel
theorem d_K_keepReached_34 : decode prog_7_method_6_code 34 = .ok (.getfield 84, 3) := by decide +kernel
theorem d_K_keepReached_37 : decode prog_7_method_6_code 37 = .ok (.if_icmp .ge 38, 3) := by decide +kernel
theorem d_K_keepReached_40 : decode prog_7_method_6_code 40 = .ok (.aload_n 3, 1) := by decide +kernel
theorem d_K_keepReached_41 : decode prog_7_method_6_code 41 = .ok (.getfield 87, 3) := by decide +kernel
theorem d_K_keepReached_44 : decode prog_7_method_6_code 44 = .ok (.iload 4, 2) := by decide +kernel
theorem d_K_keepReached_46 : decode prog_7_method_6_code 46 = .ok (.iaload, 1) := by decide +kernel
theorem d_K_keepReached_47 : decode prog_7_method_6_code 47 = .ok (.invokestatic 90, 3) := by decide +kernel
theorem d_K_keepReached_50 : decode prog_7_method_6_code 50 = .ok (.ifCond .eq 19, 3) := by decide +kernel
theorem d_K_keepReached_53 : decode prog_7_method_6_code 53 = .ok (.aload_n 0, 1) := by decide +kernel
theorem d_K_keepReached_54 : decode prog_7_method_6_code 54 = .ok (.aload_n 1, 1) := by decide +kernel
theorem d_K_keepReached_55 : decode prog_7_method_6_code 55 = .ok (.aload_n 3, 1) := by decide +kernel
theorem d_K_keepReached_56 : decode prog_7_method_6_code 56 = .ok (.getfield 94, 3) := by decide +kernel
theorem d_K_keepReached_59 : decode prog_7_method_6_code 59 = .ok (.aload_n 3, 1) := by decide +kernel
theorem d_K_keepReached_60 : decode prog_7_method_6_code 60 = .ok (.getfield 97, 3) := by decide +kernel
theorem d_K_keepReached_63 : decode prog_7_method_6_code 63 = .ok (.iload 4, 2) := by decide +kernel
theorem d_K_keepReached_65 : decode prog_7_method_6_code 65 = .ok (.iaload, 1) := by decide +kernel
theorem d_K_keepReached_66 : decode prog_7_method_6_code 66 = .ok (.invokevirtual 100, 3) := by decide +kernel
theorem d_K_keepReached_69 : decode prog_7_method_6_code 69 = .ok (.iinc 4 1, 3) := by decide +kernel
theorem d_K_keepReached_72 : decode prog_7_method_6_code 72 = .ok (.goto (-41), 3) := by decide +kernel
theorem d_K_keepReached_75 : decode prog_7_method_6_code 75 = .ok (.iinc 2 1, 3) := by decide +kernel
theorem d_K_keepReached_78 : decode prog_7_method_6_code 78 = .ok (.goto (-76), 3) := by decide +kernel
theorem d_K_keepReached_81 : decode prog_7_method_6_code 81 = .ok (.return_, 1) := by decide +kernel
theorem d_K_closeUp_0 : decode prog_7_method_10_code 0 = .ok (.iconst 0, 1) := by decide +kernel
theorem d_K_closeUp_1 : decode prog_7_method_10_code 1 = .ok (.istore_n 2, 1) := by decide +kernel
theorem d_K_closeUp_2 : decode prog_7_method_10_code 2 = .ok (.iconst 0, 1) := by decide +kernel
theorem d_K_closeUp_3 : decode prog_7_method_10_code 3 = .ok (.istore_n 3, 1) := by decide +kernel
theorem d_K_closeUp_4 : decode prog_7_method_10_code 4 = .ok (.iload_n 3, 1) := by decide +kernel
theorem d_K_closeUp_5 : decode prog_7_method_10_code 5 = .ok (.iload_n 1, 1) := by decide +kernel
theorem d_K_closeUp_6 : decode prog_7_method_10_code 6 = .ok (.if_icmp .ge 23, 3) := by decide +kernel
theorem d_K_closeUp_9 : decode prog_7_method_10_code 9 = .ok (.aload_n 0, 1) := by decide +kernel
theorem d_K_closeUp_10 : decode prog_7_method_10_code 10 = .ok (.iload_n 3, 1) := by decide +kernel
theorem d_K_closeUp_11 : decode prog_7_method_10_code 11 = .ok (.iaload, 1) := by decide +kernel
theorem d_K_closeUp_12 : decode prog_7_method_10_code 12 = .ok (.iconst (-1), 1) := by decide +kernel
theorem d_K_closeUp_13 : decode prog_7_method_10_code 13 = .ok (.if_icmp .eq 10, 3) := by decide +kernel
theorem d_K_closeUp_16 : decode prog_7_method_10_code 16 = .ok (.aload_n 0, 1) := by decide +kernel
theorem d_K_closeUp_17 : decode prog_7_method_10_code 17 = .ok (.iload_n 3, 1) := by decide +kernel
theorem d_K_closeUp_18 : decode prog_7_method_10_code 18 = .ok (.iload_n 2, 1) := by decide +kernel
theorem d_K_closeUp_19 : decode prog_7_method_10_code 19 = .ok (.iastore, 1) := by decide +kernel
theorem d_K_closeUp_20 : decode prog_7_method_10_code 20 = .ok (.iinc 2 1, 3) := by decide +kernel
theorem d_K_closeUp_23 : decode prog_7_method_10_code 23 = .ok (.iinc 3 1, 3) := by decide +kernel
theorem d_K_closeUp_26 : decode prog_7_method_10_code 26 = .ok (.goto (-22), 3) := by decide +kernel
theorem d_K_closeUp_29 : decode prog_7_method_10_code 29 = .ok (.return_, 1) := by decide +kernel
theorem d_K_closeUpAll_0 : decode prog_7_method_9_code 0 = .ok (.aload_n 0, 1) := by decide +kernel
theorem d_K_closeUpAll_1 : decode prog_7_method_9_code 1 = .ok (.getfield 9, 3) := by decide +kernel
theorem d_K_closeUpAll_4 : decode prog_7_method_9_code 4 = .ok (.aload_n 1, 1) := by decide +kernel
theorem d_K_closeUpAll_5 : decode prog_7_method_9_code 5 = .ok (.getfield 65, 3) := by decide +kernel
theorem d_K_closeUpAll_8 : decode prog_7_method_9_code 8 = .ok (.invokestatic 129, 3) := by decide +kernel
theorem d_K_closeUpAll_11 : decode prog_7_method_9_code 11 = .ok (.aload_n 0, 1) := by decide +kernel
theorem d_K_closeUpAll_12 : decode prog_7_method_9_code 12 = .ok (.getfield 15, 3) := by decide +kernel
theorem d_K_closeUpAll_15 : decode prog_7_method_9_code 15 = .ok (.aload_n 1, 1) := by decide +kernel
theorem d_K_closeUpAll_16 : decode prog_7_method_9_code 16 = .ok (.getfield 132, 3) := by decide +kernel
theorem d_K_closeUpAll_19 : decode prog_7_method_9_code 19 = .ok (.invokestatic 129, 3) := by decide +kernel
theorem d_K_closeUpAll_22 : decode prog_7_method_9_code 22 = .ok (.iconst 0, 1) := by decide +kernel
theorem d_K_closeUpAll_23 : decode prog_7_method_9_code 23 = .ok (.istore_n 2, 1) := by decide +kernel
theorem d_K_closeUpAll_24 : decode prog_7_method_9_code 24 = .ok (.iload_n 2, 1) := by decide +kernel
theorem d_K_closeUpAll_25 : decode prog_7_method_9_code 25 = .ok (.aload_n 1, 1) := by decide +kernel
theorem d_K_closeUpAll_26 : decode prog_7_method_9_code 26 = .ok (.getfield 132, 3) := by decide +kernel
theorem d_K_closeUpAll_29 : decode prog_7_method_9_code 29 = .ok (.if_icmp .ge 27, 3) := by decide +kernel
theorem d_K_closeUpAll_32 : decode prog_7_method_9_code 32 = .ok (.aload_n 0, 1) := by decide +kernel
theorem d_K_closeUpAll_33 : decode prog_7_method_9_code 33 = .ok (.getfield 20, 3) := by decide +kernel
theorem d_K_closeUpAll_36 : decode prog_7_method_9_code 36 = .ok (.iload_n 2, 1) := by decide +kernel
theorem d_K_closeUpAll_37 : decode prog_7_method_9_code 37 = .ok (.aaload, 1) := by decide +kernel
theorem d_K_closeUpAll_38 : decode prog_7_method_9_code 38 = .ok (.aload_n 1, 1) := by decide +kernel
theorem d_K_closeUpAll_39 : decode prog_7_method_9_code 39 = .ok (.getfield 107, 3) := by decide +kernel
theorem d_K_closeUpAll_42 : decode prog_7_method_9_code 42 = .ok (.iload_n 2, 1) := by decide +kernel
theorem d_K_closeUpAll_43 : decode prog_7_method_9_code 43 = .ok (.aaload, 1) := by decide +kernel
theorem d_K_closeUpAll_44 : decode prog_7_method_9_code 44 = .ok (.getfield 135, 3) := by decide +kernel
theorem d_K_closeUpAll_47 : decode prog_7_method_9_code 47 = .ok (.invokestatic 129, 3) := by decide +kernel
theorem d_K_closeUpAll_50 : decode prog_7_method_9_code 50 = .ok (.iinc 2 1, 3) := by decide +kernel
theorem d_K_closeUpAll_53 : decode prog_7_method_9_code 53 = .ok (.goto (-29), 3) := by decide +kernel
theorem d_K_closeUpAll_56 : decode prog_7_method_9_code 56 = .ok (.return_, 1) := by decide +kernel
def g_S_constant (v0 : Nat) (v1 : Int32) (v2 : Int32) (v3 : Int32) (v4 : Int32) (M : XM) : XP :=
    gR M 20 v0 0 fun t1 =>
    rv M 21 t1 <|
    cI (g_P_hasClass t1 v1 M) fun t4 M3 =>
    if ¬ t4 = 0 then
    (gR M3 20 v0 0 fun t5 =>
    rv M3 21 t5 <|
    cI (g_P_allowsConstant t5 v1 v2 v3 v4 M3) fun t8 M7 =>
    if ¬ t8 = 0 then
    (gR M7 20 v0 0 fun t9 =>
    gR M7 21 t9 0 fun t10 =>
    aR M7 10 t10 v1 fun t11 =>
    gI M7 22 t11 3 fun t12 =>
    if t12 < 20 then
    (cI (g_S_hasTwoPlaces v2 M7) fun t14 M13 =>
    if t14 = 0 then
    (rv M13 22 t11 <|
    cI (g_Q_append t11 v2 v3 0 M13) fun t17 M16 =>
    some (.inl (some (.int t17)), M16))
    else
    rv M13 22 t11 <|
    cI (g_Q_append t11 v2 v3 v4 M13) fun t20 M19 =>
    some (.inl (some (.int t20)), M19))
    else
    tX M7 0)
    else
    tX M7 2)
    else
    tX M3 1
def g_W_constant (v0 : Nat) (v1 : Int32) (v2 : Int32) (v3 : Int32) (v4 : Int32) (v5 : Nat) (M : XM) : XP :=
    rv M 20 v0 <|
    hI (g_S_constant v0 v1 v2 v3 v4 M) (fun t3 M2 =>
    sJ M2 v5 0 ((t3).toInt64) fun M4 =>
    some (.inl (some (.int 0)), M4)) (fun a5 M6 =>
    if a5 < xz M6 ∧ (xt M6 a5).1 = 41 then
    (some (.inl (some (.int 1)), M6))
    else
    if a5 < xz M6 ∧ (xt M6 a5).1 = 42 then
    (some (.inl (some (.int 2)), M6))
    else
    if a5 < xz M6 ∧ (xt M6 a5).1 = 40 then
    (some (.inl (some (.int 3)), M6))
    else
    none)
def g_P_allowsMember_55 (s0 : Nat) (s1 : Int32) (s2 : Int32) (s3 : Int32) (M : XM) : XP :=
    rv M 21 s0 <|
    cI (g_P_find s0 s1 s2 s3 M) fun t3 M2 =>
    if ¬ t3 = (-1) then
    (z01 0 (some (.inl (some (.int 0)), M2)))
    else
    z01 1 (some (.inl (some (.int 1)), M2))
def g_P_allowsMember (v0 : Nat) (v1 : Int32) (v2 : Int32) (v3 : Int32) (M : XM) : XP :=
    gR M 21 v0 0 fun t1 =>
    aR M 10 t1 v1 fun t2 =>
    rv M 22 t2 <|
    cI (g_Q_holds t2 v2 1 M) fun t5 M4 =>
    if ¬ t5 = 0 then
    (if v3 < (-1) then
    (z01 0 (some (.inl (some (.int 0)), M4)))
    else
    if v3 ≤ 2 then
    (gR M4 21 v0 0 fun t6 =>
    aR M4 10 t6 v1 fun t7 =>
    gR M4 22 t7 1 fun t8 =>
    aI M4 t8 v2 fun t9 =>
    if ¬ v3 = (-1) then
    (g_P_allowsMember_55 v0 v1 t9 0 M4)
    else
    g_P_allowsMember_55 v0 v1 t9 1 M4)
    else
    z01 0 (some (.inl (some (.int 0)), M4)))
    else
    z01 0 (some (.inl (some (.int 0)), M4))
def g_B_start (v0 : Nat) (v1 : Int32) (v2 : Int32) (v3 : Int32) (M : XM) : XP :=
    uI M 23 v0 0 v1 fun M1 =>
    uI M1 23 v0 1 v2 fun M2 =>
    uI M2 23 v0 2 v3 fun M3 =>
    uZ M3 23 v0 3 0 fun M4 =>
    uI M4 23 v0 4 0 fun M5 =>
    some (.inl none, M5)
def g_P_startMember (v0 : Nat) (v1 : Int32) (v2 : Int32) (v3 : Int32) (M : XM) : XP :=
    gR M 21 v0 1 fun t1 =>
    gI M 21 v0 3 fun t2 =>
    aR M 11 t1 t2 fun t3 =>
    rv M 23 t3 <|
    cV (g_B_start t3 v1 v2 v3 M) fun M5 =>
    gI M5 21 v0 3 fun t6 =>
    uI M5 21 v0 3 (t6 + 1) fun M7 =>
    gI M7 21 v0 3 fun t8 =>
    some (.inl (some (.int (t8 - 1))), M7)
def g_S_member (v0 : Nat) (v1 : Int32) (v2 : Int32) (v3 : Int32) (M : XM) : XP :=
    gR M 20 v0 0 fun t1 =>
    rv M 21 t1 <|
    cI (g_P_hasClass t1 v1 M) fun t4 M3 =>
    if ¬ t4 = 0 then
    (gR M3 20 v0 0 fun t5 =>
    rv M3 21 t5 <|
    cI (g_P_allowsMember t5 v1 v2 v3 M3) fun t8 M7 =>
    if ¬ t8 = 0 then
    (gR M7 20 v0 0 fun t9 =>
    gI M7 21 t9 3 fun t10 =>
    if t10 < 30 then
    (gR M7 20 v0 0 fun t11 =>
    rv M7 21 t11 <|
    cI (g_P_startMember t11 v1 v2 v3 M7) fun t14 M13 =>
    some (.inl (some (.int t14)), M13))
    else
    tX M7 0)
    else
    tX M7 2)
    else
    tX M3 1
def g_W_member (v0 : Nat) (v1 : Int32) (v2 : Int32) (v3 : Int32) (v4 : Nat) (M : XM) : XP :=
    rv M 20 v0 <|
    hI (g_S_member v0 v1 v2 v3 M) (fun t3 M2 =>
    sJ M2 v4 0 ((t3).toInt64) fun M4 =>
    some (.inl (some (.int 0)), M4)) (fun a5 M6 =>
    if a5 < xz M6 ∧ (xt M6 a5).1 = 41 then
    (some (.inl (some (.int 1)), M6))
    else
    if a5 < xz M6 ∧ (xt M6 a5).1 = 42 then
    (some (.inl (some (.int 2)), M6))
    else
    if a5 < xz M6 ∧ (xt M6 a5).1 = 40 then
    (some (.inl (some (.int 3)), M6))
    else
    none)
def g_P_hasMember (v0 : Nat) (v1 : Int32) (M : XM) : XP :=
    if v1 < 0 then
    (z01 0 (some (.inl (some (.int 0)), M)))
    else
    gI M 21 v0 3 fun t1 =>
    if t1 ≤ v1 then
    (z01 0 (some (.inl (some (.int 0)), M)))
    else
    z01 1 (some (.inl (some (.int 1)), M))
def g_P_hasMethod (v0 : Nat) (v1 : Int32) (M : XM) : XP :=
    rv M 21 v0 <|
    cI (g_P_hasMember v0 v1 M) fun t3 M2 =>
    if t3 = 0 then
    (z01 0 (some (.inl (some (.int 0)), M2)))
    else
    gR M2 21 v0 1 fun t4 =>
    aR M2 11 t4 v1 fun t5 =>
    rv M2 23 t5 <|
    cI (g_B_isField t5  M2) fun t8 M7 =>
    if ¬ t8 = 0 then
    (z01 0 (some (.inl (some (.int 0)), M7)))
    else
    z01 1 (some (.inl (some (.int 1)), M7))
def g_B_append (v0 : Nat) (v1 : Int32) (v2 : Int32) (M : XM) : XP :=
    gR M 23 v0 5 fun t1 =>
    gI M 23 v0 4 fun t2 =>
    sI M t1 t2 v1 fun M3 =>
    gR M3 23 v0 6 fun t4 =>
    gI M3 23 v0 4 fun t5 =>
    sI M3 t4 t5 v2 fun M6 =>
    gI M6 23 v0 4 fun t7 =>
    uI M6 23 v0 4 (t7 + 1) fun M8 =>
    gI M8 23 v0 4 fun t9 =>
    some (.inl (some (.int (t9 - 1))), M8)
def g_S_code (v0 : Nat) (v1 : Int32) (v2 : Int32) (v3 : Int32) (M : XM) : XP :=
    gR M 20 v0 0 fun t1 =>
    rv M 21 t1 <|
    cI (g_P_hasMethod t1 v1 M) fun t4 M3 =>
    if ¬ t4 = 0 then
    (if v2 < 0 then
    (tX M3 2)
    else
    if v2 ≤ 12 then
    (gR M3 20 v0 0 fun t5 =>
    gR M3 21 t5 1 fun t6 =>
    aR M3 11 t6 v1 fun t7 =>
    gI M3 23 t7 4 fun t8 =>
    if t8 < 20 then
    (rv M3 23 t7 <|
    cI (g_B_append t7 v2 v3 M3) fun t11 M10 =>
    some (.inl (some (.int t11)), M10))
    else
    tX M3 0)
    else
    tX M3 2)
    else
    tX M3 1
def g_W_code (v0 : Nat) (v1 : Int32) (v2 : Int32) (v3 : Int32) (v4 : Nat) (M : XM) : XP :=
    rv M 20 v0 <|
    hI (g_S_code v0 v1 v2 v3 M) (fun t3 M2 =>
    sJ M2 v4 0 ((t3).toInt64) fun M4 =>
    some (.inl (some (.int 0)), M4)) (fun a5 M6 =>
    if a5 < xz M6 ∧ (xt M6 a5).1 = 41 then
    (some (.inl (some (.int 1)), M6))
    else
    if a5 < xz M6 ∧ (xt M6 a5).1 = 42 then
    (some (.inl (some (.int 2)), M6))
    else
    if a5 < xz M6 ∧ (xt M6 a5).1 = 40 then
    (some (.inl (some (.int 3)), M6))
    else
    none)
def g_S_entry (v0 : Nat) (v1 : Int32) (v2 : Int32) (M : XM) : XP :=
    gR M 20 v0 0 fun t1 =>
    rv M 21 t1 <|
    cI (g_P_hasMethod t1 v1 M) fun t4 M3 =>
    if ¬ t4 = 0 then
    (gR M3 20 v0 0 fun t5 =>
    gR M3 21 t5 1 fun t6 =>
    aR M3 11 t6 v1 fun t7 =>
    uZ M3 23 t7 3 v2 fun M8 =>
    some (.inl none, M8))
    else
    tX M3 1
def g_W_entry (v0 : Nat) (v1 : Int32) (v2 : Int32) (M : XM) : XP :=
    rv M 20 v0 <|
    hV (g_S_entry v0 v1 v2 M) (fun M2 =>
    some (.inl (some (.int 0)), M2)) (fun a3 M4 =>
    if a3 < xz M4 ∧ (xt M4 a3).1 = 41 then
    (some (.inl (some (.int 1)), M4))
    else
    none)
def g_P_entries_4 : Nat → Nat → Int32 → Int32 → XM → XP
  | 0, _, _, _, _ => none
  | n + 1, v0, v1, v2, M =>
    gI M 21 v0 3 fun t1 =>
    if t1 ≤ v2 then
    (some (.inl (some (.int v1)), M))
    else
    gR M 21 v0 1 fun t2 =>
    aR M 11 t2 v2 fun t3 =>
    gI M 23 t3 3 fun t4 =>
    if t4 = 0 then
    (g_P_entries_4 n v0 v1 ((v2 + 1)) M)
    else
    g_P_entries_4 n v0 ((v1 + 1)) ((v2 + 1)) M
def g_P_entries (v0 : Nat) (M : XM) : XP :=
    g_P_entries_4 FU v0 0 0 M
def g_K_forget_18 : Nat → Nat → Int32 → XM → XP
  | 0, _, _, _ => none
  | n + 1, v0, v1, M =>
    if 6 ≤ v1 then
    (gR M 24 v0 3 fun t1 =>
    cV (g_A_fill t1 (-1) M) fun M2 =>
    gR M2 24 v0 4 fun t3 =>
    cV (g_A_fill t3 0 M2) fun M4 =>
    uI M4 24 v0 6 0 fun M5 =>
    some (.inl none, M5))
    else
    gR M 24 v0 2 fun t6 =>
    aR M 13 t6 v1 fun t7 =>
    cV (g_A_fill t7 (-1) M) fun M8 =>
    g_K_forget_18 n v0 ((v1 + 1)) M8
def g_K_forget (v0 : Nat) (M : XM) : XP :=
    gR M 24 v0 0 fun t1 =>
    cV (g_A_fill t1 (-1) M) fun M2 =>
    gR M2 24 v0 1 fun t3 =>
    cV (g_A_fill t3 (-1) M2) fun M4 =>
    g_K_forget_18 FU v0 0 M4
def g_K_keepMember (v0 : Nat) (v1 : Nat) (v2 : Int32) (M : XM) : XP :=
    if v2 = (-1) then
    (some (.inl none, M))
    else
    gR M 24 v0 0 fun t1 =>
    aI M t1 v2 fun t2 =>
    if t2 = (-1) then
    (gR M 21 v1 1 fun t3 =>
    aR M 11 t3 v2 fun t4 =>
    gR M 24 v0 0 fun t5 =>
    sI M t5 v2 0 fun M6 =>
    gR M6 24 v0 1 fun t7 =>
    gI M6 23 t4 0 fun t8 =>
    sI M6 t7 t8 0 fun M9 =>
    gR M9 24 v0 2 fun t10 =>
    gI M9 23 t4 0 fun t11 =>
    aR M9 13 t10 t11 fun t12 =>
    gI M9 23 t4 1 fun t13 =>
    sI M9 t12 t13 0 fun M14 =>
    gR M14 24 v0 5 fun t15 =>
    gI M14 24 v0 6 fun t16 =>
    sI M14 t15 t16 v2 fun M17 =>
    gI M17 24 v0 6 fun t18 =>
    uI M17 24 v0 6 (t18 + 1) fun M19 =>
    some (.inl none, M19))
    else
    some (.inl none, M)
def g_K_keepEntries_2 : Nat → Nat → Nat → Int32 → XM → XP
  | 0, _, _, _, _ => none
  | n + 1, v0, v1, v2, M =>
    gI M 21 v1 3 fun t1 =>
    if t1 ≤ v2 then
    (some (.inl none, M))
    else
    gR M 21 v1 1 fun t2 =>
    aR M 11 t2 v2 fun t3 =>
    gI M 23 t3 3 fun t4 =>
    if t4 = 0 then
    (g_K_keepEntries_2 n v0 v1 ((v2 + 1)) M)
    else
    rv M 24 v0 <|
    cV (g_K_keepMember v0 v1 v2 M) fun M6 =>
    g_K_keepEntries_2 n v0 v1 ((v2 + 1)) M6
def g_K_keepEntries (v0 : Nat) (v1 : Nat) (M : XM) : XP :=
    g_K_keepEntries_2 FU v0 v1 0 M
def g_S_usesConstant (v0 : Int32) (M : XM) : XP :=
    if v0 = 0 then
    (z01 1 (some (.inl (some (.int 1)), M)))
    else
    if v0 = 1 then
    (z01 1 (some (.inl (some (.int 1)), M)))
    else
    if v0 = 2 then
    (z01 1 (some (.inl (some (.int 1)), M)))
    else
    if ¬ v0 = 3 then
    (z01 0 (some (.inl (some (.int 0)), M)))
    else
    z01 1 (some (.inl (some (.int 1)), M))
def g_K_keepConstant (v0 : Nat) (v1 : Nat) (v2 : Int32) (v3 : Int32) (M : XM) : XP :=
    gR M 21 v1 0 fun t1 =>
    aR M 10 t1 v2 fun t2 =>
    gR M 24 v0 2 fun t3 =>
    aR M 13 t3 v2 fun t4 =>
    sI M t4 v3 0 fun M5 =>
    gR M5 22 t2 0 fun t6 =>
    aI M5 t6 v3 fun t7 =>
    cI (g_S_hasTwoPlaces t7 M5) fun t9 M8 =>
    if t9 = 0 then
    (some (.inl none, M8))
    else
    gR M8 24 v0 2 fun t10 =>
    aR M8 13 t10 v2 fun t11 =>
    gR M8 22 t2 1 fun t12 =>
    aI M8 t12 v3 fun t13 =>
    sI M8 t11 t13 0 fun M14 =>
    gR M14 24 v0 2 fun t15 =>
    aR M14 13 t15 v2 fun t16 =>
    gR M14 22 t2 2 fun t17 =>
    aI M14 t17 v3 fun t18 =>
    sI M14 t16 t18 0 fun M19 =>
    rv M19 21 v1 <|
    cI (g_P_meant v1 v2 v3 M19) fun t22 M21 =>
    rv M21 24 v0 <|
    cV (g_K_keepMember v0 v1 t22 M21) fun M24 =>
    some (.inl none, M24)
def g_K_keepReached_31 (r2 : Nat → Nat → Int32 → XM → XP) : Nat → Nat → Nat → Int32 → Nat → Int32 → XM → XP
  | 0, _, _, _, _, _, _ => none
  | n + 1, v0, v1, v2, v3, v4, M =>
    gI M 23 v3 4 fun t1 =>
    if t1 ≤ v4 then
    (r2 v0 v1 ((v2 + 1)) M)
    else
    gR M 23 v3 5 fun t2 =>
    aI M t2 v4 fun t3 =>
    cI (g_S_usesConstant t3 M) fun t5 M4 =>
    if t5 = 0 then
    (g_K_keepReached_31 r2 n v0 v1 v2 v3 ((v4 + 1)) M4)
    else
    gI M4 23 v3 0 fun t6 =>
    gR M4 23 v3 6 fun t7 =>
    aI M4 t7 v4 fun t8 =>
    rv M4 24 v0 <|
    cV (g_K_keepConstant v0 v1 t6 t8 M4) fun M10 =>
    g_K_keepReached_31 r2 n v0 v1 v2 v3 ((v4 + 1)) M10
def g_K_keepReached_2 : Nat → Nat → Nat → Int32 → XM → XP
  | 0, _, _, _, _ => none
  | n + 1, v0, v1, v2, M =>
    gI M 24 v0 6 fun t1 =>
    if t1 ≤ v2 then
    (some (.inl none, M))
    else
    if 30 ≤ v2 then
    (some (.inl none, M))
    else
    gR M 21 v1 1 fun t2 =>
    gR M 24 v0 5 fun t3 =>
    aI M t3 v2 fun t4 =>
    aR M 11 t2 t4 fun t5 =>
    g_K_keepReached_31 (g_K_keepReached_2 n) FU v0 v1 v2 t5 0 M
def g_K_keepReached (v0 : Nat) (v1 : Nat) (M : XM) : XP :=
    g_K_keepReached_2 FU v0 v1 0 M
def g_K_closeUp_4 : Nat → Nat → Int32 → Int32 → Int32 → XM → XP
  | 0, _, _, _, _, _ => none
  | n + 1, v0, v1, v2, v3, M =>
    if v1 ≤ v3 then
    (some (.inl none, M))
    else
    aI M v0 v3 fun t1 =>
    if t1 = (-1) then
    (g_K_closeUp_4 n v0 v1 v2 ((v3 + 1)) M)
    else
    sI M v0 v3 v2 fun M2 =>
    g_K_closeUp_4 n v0 v1 ((v2 + 1)) ((v3 + 1)) M2
def g_K_closeUp (v0 : Nat) (v1 : Int32) (M : XM) : XP :=
    g_K_closeUp_4 FU v0 v1 0 0 M
def g_K_closeUpAll_24 : Nat → Nat → Nat → Int32 → XM → XP
  | 0, _, _, _, _ => none
  | n + 1, v0, v1, v2, M =>
    gI M 21 v1 2 fun t1 =>
    if t1 ≤ v2 then
    (some (.inl none, M))
    else
    gR M 24 v0 2 fun t2 =>
    aR M 13 t2 v2 fun t3 =>
    gR M 21 v1 0 fun t4 =>
    aR M 10 t4 v2 fun t5 =>
    gI M 22 t5 3 fun t6 =>
    cV (g_K_closeUp t3 t6 M) fun M7 =>
    g_K_closeUpAll_24 n v0 v1 ((v2 + 1)) M7
def g_K_closeUpAll (v0 : Nat) (v1 : Nat) (M : XM) : XP :=
    gR M 24 v0 0 fun t1 =>
    gI M 21 v1 3 fun t2 =>
    cV (g_K_closeUp t1 t2 M) fun M3 =>
    gR M3 24 v0 1 fun t4 =>
    gI M3 21 v1 2 fun t5 =>
    cV (g_K_closeUp t4 t5 M3) fun M6 =>
    g_K_closeUpAll_24 FU v0 v1 0 M6
section XG
variable {K : XK} {o : XO} {N : XM}
theorem p_S_constant (G : xG K) (v0 : Nat) (v1 : Int32) (v2 : Int32) (v3 : Int32) (v4 : Int32) (M : XM) (h : g_S_constant v0 v1 v2 v3 v4 M = some (o, N)) : Ct K y_S_constant [.ref v0, .int v1, .int v2, .int v3, .int v4] M o N := by
  refine ct_of (by decide) (List.forall_mem_cons.mpr ⟨rfl, List.forall_mem_cons.mpr ⟨rfl, List.forall_mem_cons.mpr ⟨rfl, List.forall_mem_cons.mpr ⟨rfl, List.forall_mem_cons.mpr ⟨rfl, fun _ q => absurd q List.not_mem_nil⟩⟩⟩⟩⟩) (Nat.le_of_ble_eq_true rfl) ?_
  show cA K y_S_constant 0 [(0, .ref v0), (1, .int v1), (2, .int v2), (3, .int v3), (4, .int v4)] [] M o N
  unfold g_S_constant at h
  refine x_aload_n (pc := 0) d_S_constant_0 rfl 0 rfl ?_
  refine h_getR G (pc := 1) (ci := 0) (j := 0) d_S_constant_1 rfl rfl rfl lf_S_10 h fun t1 h => ?_
  refine x_iload_n (pc := 4) d_S_constant_4 rfl 1 rfl ?_
  obtain ⟨⟨ra2, ra2t⟩, h⟩ := h_ok h
  refine h_callI G (x_siteV G (pc := 5) (y2 := y_P_hasClass) (As := [.int v1]) (S := []) (ci := 1) d_S_constant_5 rfl lm_S_48 mi_P_hasClass ms_P_hasClass mw_P_hasClass.1 mx_P_hasClass.1 mx_P_hasClass.2 rfl ra2 ra2t) mw_P_hasClass ⟨Nat.le_of_ble_eq_true rfl, Nat.le_of_ble_eq_true rfl⟩ rfl (fun _ _ e => p_P_hasClass G _ _ _ e) h fun t4 M3 h => ?_
  refine h_if_ne (pc := 8) 21 d_S_constant_8 (by decide) h (fun _ h => ?_) (fun _ h => ?_)
  · refine x_aload_n (pc := 21) d_S_constant_21 rfl 0 rfl ?_
    refine h_getR G (pc := 22) (ci := 0) (j := 0) d_S_constant_22 rfl rfl rfl lf_S_10 h fun t5 h => ?_
    refine x_iload_n (pc := 25) d_S_constant_25 rfl 1 rfl ?_
    refine x_iload_n (pc := 26) d_S_constant_26 rfl 2 rfl ?_
    refine x_iload_n (pc := 27) d_S_constant_27 rfl 3 rfl ?_
    refine x_iload (pc := 28) d_S_constant_28 4 rfl ?_
    obtain ⟨⟨ra6, ra6t⟩, h⟩ := h_ok h
    refine h_callI G (x_siteV G (pc := 30) (y2 := y_P_allowsConstant) (As := [.int v1, .int v2, .int v3, .int v4]) (S := []) (ci := 1) d_S_constant_30 rfl lm_S_57 mi_P_allowsConstant ms_P_allowsConstant mw_P_allowsConstant.1 mx_P_allowsConstant.1 mx_P_allowsConstant.2 rfl ra6 ra6t) mw_P_allowsConstant ⟨Nat.le_of_ble_eq_true rfl, Nat.le_of_ble_eq_true rfl⟩ rfl (fun _ _ e => p_P_allowsConstant G _ _ _ _ _ _ e) h fun t8 M7 h => ?_
    refine h_if_ne (pc := 33) 46 d_S_constant_33 (by decide) h (fun _ h => ?_) (fun _ h => ?_)
    · refine x_aload_n (pc := 46) d_S_constant_46 rfl 0 rfl ?_
      refine h_getR G (pc := 47) (ci := 0) (j := 0) d_S_constant_47 rfl rfl rfl lf_S_10 h fun t9 h => ?_
      refine h_getR G (pc := 50) (ci := 1) (j := 0) d_S_constant_50 rfl rfl rfl lf_S_66 h fun t10 h => ?_
      refine x_iload_n (pc := 53) d_S_constant_53 rfl 1 rfl ?_
      refine h_aaload (pc := 54) (kd := 10) d_S_constant_54 (by decide) rfl rfl h fun t11 h => ?_
      refine x_astore (pc := 55) (L' := [(0, .ref v0), (1, .int v1), (2, .int v2), (3, .int v3), (4, .int v4), (5, .ref t11)]) d_S_constant_55 (by decide) rfl ?_
      refine x_aload (pc := 57) d_S_constant_57 5 rfl ?_
      refine h_getI G (pc := 59) (ci := 2) (j := 3) d_S_constant_59 rfl rfl rfl lf_S_70 h fun t12 h => ?_
      refine x_bipush (pc := 62) (v := 20) d_S_constant_62 (by decide) ?_
      refine h_icmp_lt (pc := 64) 77 d_S_constant_64 (by decide) h (fun _ h => ?_) (fun _ h => ?_)
      · refine x_aload (pc := 77) d_S_constant_77 5 rfl ?_
        refine x_iload_n (pc := 79) d_S_constant_79 rfl 2 rfl ?_
        refine x_iload_n (pc := 80) d_S_constant_80 rfl 3 rfl ?_
        refine x_iload_n (pc := 81) d_S_constant_81 rfl 2 rfl ?_
        refine h_callI G (x_siteS G (pc := 82) (y2 := y_S_hasTwoPlaces) (As := [.int v2]) (S := [.int v3, .int v2, .ref t11]) d_S_constant_82 lm_S_77 mi_S_hasTwoPlaces mw_S_hasTwoPlaces.2 mw_S_hasTwoPlaces.1 mx_S_hasTwoPlaces.1 mx_S_hasTwoPlaces.2 rfl) mw_S_hasTwoPlaces ⟨Nat.le_of_ble_eq_true rfl, Nat.le_of_ble_eq_true rfl⟩ rfl (fun _ _ e => p_S_hasTwoPlaces G _ _ e) h fun t14 M13 h => ?_
        refine h_if_eq (pc := 85) 93 d_S_constant_85 (by decide) h (fun _ h => ?_) (fun _ h => ?_)
        · refine x_iconst (pc := 93) d_S_constant_93 rfl ?_
          obtain ⟨⟨ra15, ra15t⟩, h⟩ := h_ok h
          refine h_callI G (x_siteV G (pc := 94) (y2 := y_Q_append) (As := [.int v2, .int v3, .int 0]) (S := []) (ci := 2) d_S_constant_94 rfl lm_S_80 mi_Q_append ms_Q_append mw_Q_append.1 mx_Q_append.1 mx_Q_append.2 rfl ra15 ra15t) mw_Q_append ⟨Nat.le_of_ble_eq_true rfl, Nat.le_of_ble_eq_true rfl⟩ rfl (fun _ _ e => p_Q_append G _ _ _ _ _ e) h fun t17 M16 h => ?_
          exact h_ireturn (pc := 97) d_S_constant_97 rfl h
        · refine x_iload (pc := 88) d_S_constant_88 4 rfl ?_
          refine x_goto (pc := 90) 94 d_S_constant_90 (by decide) ?_
          obtain ⟨⟨ra18, ra18t⟩, h⟩ := h_ok h
          refine h_callI G (x_siteV G (pc := 94) (y2 := y_Q_append) (As := [.int v2, .int v3, .int v4]) (S := []) (ci := 2) d_S_constant_94 rfl lm_S_80 mi_Q_append ms_Q_append mw_Q_append.1 mx_Q_append.1 mx_Q_append.2 rfl ra18 ra18t) mw_Q_append ⟨Nat.le_of_ble_eq_true rfl, Nat.le_of_ble_eq_true rfl⟩ rfl (fun _ _ e => p_Q_append G _ _ _ _ _ e) h fun t20 M19 h => ?_
          exact h_ireturn (pc := 97) d_S_constant_97 rfl h
      · exact h_throw G (pc := 67) (ei := 0) rfl d_S_constant_67 d_S_constant_70 d_S_constant_71 d_S_constant_73 d_S_constant_76 lc_S_37 lm_S_41 ls_S_75 rfl (Nat.le_of_ble_eq_true rfl) (Nat.le_of_ble_eq_true rfl) h
    · exact h_throw G (pc := 36) (ei := 2) rfl d_S_constant_36 d_S_constant_39 d_S_constant_40 d_S_constant_42 d_S_constant_45 lc_S_61 lm_S_65 ls_S_63 rfl (Nat.le_of_ble_eq_true rfl) (Nat.le_of_ble_eq_true rfl) h
  · exact h_throw G (pc := 11) (ei := 1) rfl d_S_constant_11 d_S_constant_14 d_S_constant_15 d_S_constant_17 d_S_constant_20 lc_S_52 lm_S_56 ls_S_54 rfl (Nat.le_of_ble_eq_true rfl) (Nat.le_of_ble_eq_true rfl) h
theorem p_W_constant (G : xG K) (v0 : Nat) (v1 : Int32) (v2 : Int32) (v3 : Int32) (v4 : Int32) (v5 : Nat) (M : XM) (h : g_W_constant v0 v1 v2 v3 v4 v5 M = some (o, N)) : Ct K y_W_constant [.ref v0, .int v1, .int v2, .int v3, .int v4, .ref v5] M o N := by
  refine ct_of (by decide) (List.forall_mem_cons.mpr ⟨rfl, List.forall_mem_cons.mpr ⟨rfl, List.forall_mem_cons.mpr ⟨rfl, List.forall_mem_cons.mpr ⟨rfl, List.forall_mem_cons.mpr ⟨rfl, List.forall_mem_cons.mpr ⟨rfl, fun _ q => absurd q List.not_mem_nil⟩⟩⟩⟩⟩⟩) (Nat.le_of_ble_eq_true rfl) ?_
  show cA K y_W_constant 0 [(0, .ref v0), (1, .int v1), (2, .int v2), (3, .int v3), (4, .int v4), (5, .ref v5)] [] M o N
  unfold g_W_constant at h
  refine x_aload (pc := 0) d_W_constant_0 5 rfl ?_
  refine x_iconst (pc := 2) d_W_constant_2 rfl ?_
  refine x_aload_n (pc := 3) d_W_constant_3 rfl 0 rfl ?_
  refine x_iload_n (pc := 4) d_W_constant_4 rfl 1 rfl ?_
  refine x_iload_n (pc := 5) d_W_constant_5 rfl 2 rfl ?_
  refine x_iload_n (pc := 6) d_W_constant_6 rfl 3 rfl ?_
  refine x_iload (pc := 7) d_W_constant_7 4 rfl ?_
  obtain ⟨⟨ra1, ra1t⟩, h⟩ := h_ok h
  refine h_hI G (x_siteV G (pc := 9) (y2 := y_S_constant) (As := [.int v1, .int v2, .int v3, .int v4]) (S := [.int 0, .ref v5]) (ci := 0) d_W_constant_9 rfl lm_W_15 mi_S_constant ms_S_constant mw_S_constant.1 mx_S_constant.1 mx_S_constant.2 rfl ra1 ra1t) mw_S_constant ⟨Nat.le_of_ble_eq_true rfl, Nat.le_of_ble_eq_true rfl⟩ (fun _ _ e => p_S_constant G _ _ _ _ _ _ e) h (fun t3 M2 h => ?_) (fun a5 M6 h => ?_)
  · refine x_i2l (pc := 12) d_W_constant_12 ?_
    refine h_lastore G (pc := 13) d_W_constant_13 h fun M4 h => ?_
    refine x_goto (pc := 14) 29 d_W_constant_14 (by decide) ?_
    refine x_iconst (pc := 29) d_W_constant_29 rfl ?_
    exact h_ireturn (pc := 30) d_W_constant_30 rfl h
  · refine h_catch G (pc := 9) (ei := 1) rfl [] (0, 14, 17, 19) [(0, 14, 21, 21), (0, 14, 25, 13)] rfl (fun _ q => absurd q List.not_mem_nil) ⟨by decide, by decide, by decide, lc_W_19⟩ h (fun h => ?_) (fun h => ?_)
    · refine x_astore (pc := 17) (L' := [(0, .ref v0), (1, .int v1), (2, .int v2), (3, .int v3), (4, .int v4), (5, .ref v5), (6, .ref a5)]) d_W_constant_17 (by decide) rfl ?_
      refine x_iconst (pc := 19) d_W_constant_19 rfl ?_
      exact h_ireturn (pc := 20) d_W_constant_20 rfl h
    · refine h_catch G (pc := 9) (ei := 2) rfl [((0, 14, 17, 19), "java/lang/IndexOutOfBoundsException")] (0, 14, 21, 21) [(0, 14, 25, 13)] rfl (List.forall_mem_cons.mpr ⟨⟨by decide, by decide, by decide, lc_W_19, by decide, by decide⟩, fun _ q => absurd q List.not_mem_nil⟩) ⟨by decide, by decide, by decide, lc_W_21⟩ h (fun h => ?_) (fun h => ?_)
      · refine x_astore (pc := 21) (L' := [(0, .ref v0), (1, .int v1), (2, .int v2), (3, .int v3), (4, .int v4), (5, .ref v5), (6, .ref a5)]) d_W_constant_21 (by decide) rfl ?_
        refine x_iconst (pc := 23) d_W_constant_23 rfl ?_
        exact h_ireturn (pc := 24) d_W_constant_24 rfl h
      · refine h_catch G (pc := 9) (ei := 0) rfl [((0, 14, 17, 19), "java/lang/IndexOutOfBoundsException"), ((0, 14, 21, 21), "java/lang/IllegalArgumentException")] (0, 14, 25, 13) [] rfl (List.forall_mem_cons.mpr ⟨⟨by decide, by decide, by decide, lc_W_19, by decide, by decide⟩, List.forall_mem_cons.mpr ⟨⟨by decide, by decide, by decide, lc_W_21, by decide, by decide⟩, fun _ q => absurd q List.not_mem_nil⟩⟩) ⟨by decide, by decide, by decide, lc_W_13⟩ h (fun h => ?_) (fun h => ?_)
        · refine x_astore (pc := 25) (L' := [(0, .ref v0), (1, .int v1), (2, .int v2), (3, .int v3), (4, .int v4), (5, .ref v5), (6, .ref a5)]) d_W_constant_25 (by decide) rfl ?_
          refine x_iconst (pc := 27) d_W_constant_27 rfl ?_
          exact h_ireturn (pc := 28) d_W_constant_28 rfl h
        · cases h
theorem p_P_allowsMember_55 (G : xG K) (s0 : Nat) (s1 : Int32) (s2 : Int32) (s3 : Int32) (M : XM) (h : g_P_allowsMember_55 s0 s1 s2 s3 M = some (o, N)) : cA K y_P_allowsMember 55 [] [.int s3, .int s2, .int s1, .ref s0] M o N := by
  unfold g_P_allowsMember_55 at h
  obtain ⟨⟨ra1, ra1t⟩, h⟩ := h_ok h
  refine h_callI G (x_siteV G (pc := 55) (y2 := y_P_find) (As := [.int s1, .int s2, .int s3]) (S := []) (ci := 1) d_P_allowsMember_55 rfl lm_P_66 mi_P_find ms_P_find mw_P_find.1 mx_P_find.1 mx_P_find.2 rfl ra1 ra1t) mw_P_find ⟨Nat.le_of_ble_eq_true rfl, Nat.le_of_ble_eq_true rfl⟩ rfl (fun _ _ e => p_P_find G _ _ _ _ _ e) h fun t3 M2 h => ?_
  refine x_iconst (pc := 58) d_P_allowsMember_58 rfl ?_
  refine h_icmp_ne (pc := 59) 66 d_P_allowsMember_59 (by decide) h (fun _ h => ?_) (fun _ h => ?_)
  · refine x_iconst (pc := 66) d_P_allowsMember_66 rfl ?_
    exact h_zreturn (pc := 67) d_P_allowsMember_67 rfl h
  · refine x_iconst (pc := 62) d_P_allowsMember_62 rfl ?_
    refine x_goto (pc := 63) 67 d_P_allowsMember_63 (by decide) ?_
    exact h_zreturn (pc := 67) d_P_allowsMember_67 rfl h
theorem p_P_allowsMember (G : xG K) (v0 : Nat) (v1 : Int32) (v2 : Int32) (v3 : Int32) (M : XM) (h : g_P_allowsMember v0 v1 v2 v3 M = some (o, N)) : Ct K y_P_allowsMember [.ref v0, .int v1, .int v2, .int v3] M o N := by
  refine ct_of (by decide) (List.forall_mem_cons.mpr ⟨rfl, List.forall_mem_cons.mpr ⟨rfl, List.forall_mem_cons.mpr ⟨rfl, List.forall_mem_cons.mpr ⟨rfl, fun _ q => absurd q List.not_mem_nil⟩⟩⟩⟩) (Nat.le_of_ble_eq_true rfl) ?_
  show cA K y_P_allowsMember 0 [(0, .ref v0), (1, .int v1), (2, .int v2), (3, .int v3)] [] M o N
  unfold g_P_allowsMember at h
  refine x_aload_n (pc := 0) d_P_allowsMember_0 rfl 0 rfl ?_
  refine h_getR G (pc := 1) (ci := 1) (j := 0) d_P_allowsMember_1 rfl rfl rfl lf_P_11 h fun t1 h => ?_
  refine x_iload_n (pc := 4) d_P_allowsMember_4 rfl 1 rfl ?_
  refine h_aaload (pc := 5) (kd := 10) d_P_allowsMember_5 (by decide) rfl rfl h fun t2 h => ?_
  refine x_iload_n (pc := 6) d_P_allowsMember_6 rfl 2 rfl ?_
  refine x_iconst (pc := 7) d_P_allowsMember_7 rfl ?_
  obtain ⟨⟨ra3, ra3t⟩, h⟩ := h_ok h
  refine h_callI G (x_siteV G (pc := 8) (y2 := y_Q_holds) (As := [.int v2, .int 1]) (S := []) (ci := 2) d_P_allowsMember_8 rfl lm_P_62 mi_Q_holds ms_Q_holds mw_Q_holds.1 mx_Q_holds.1 mx_Q_holds.2 rfl ra3 ra3t) mw_Q_holds ⟨Nat.le_of_ble_eq_true rfl, Nat.le_of_ble_eq_true rfl⟩ rfl (fun _ _ e => p_Q_holds G _ _ _ _ e) h fun t5 M4 h => ?_
  refine h_if_ne (pc := 11) 16 d_P_allowsMember_11 (by decide) h (fun _ h => ?_) (fun _ h => ?_)
  · refine x_iload_n (pc := 16) d_P_allowsMember_16 rfl 3 rfl ?_
    refine x_iconst (pc := 17) d_P_allowsMember_17 rfl ?_
    refine h_icmp_lt (pc := 18) 26 d_P_allowsMember_18 (by decide) h (fun _ h => ?_) (fun _ h => ?_)
    · refine x_iconst (pc := 26) d_P_allowsMember_26 rfl ?_
      exact h_zreturn (pc := 27) d_P_allowsMember_27 rfl h
    · refine x_iload_n (pc := 21) d_P_allowsMember_21 rfl 3 rfl ?_
      refine x_iconst (pc := 22) d_P_allowsMember_22 rfl ?_
      refine h_icmp_le (pc := 23) 28 d_P_allowsMember_23 (by decide) h (fun _ h => ?_) (fun _ h => ?_)
      · refine x_aload_n (pc := 28) d_P_allowsMember_28 rfl 0 rfl ?_
        refine h_getR G (pc := 29) (ci := 1) (j := 0) d_P_allowsMember_29 rfl rfl rfl lf_P_11 h fun t6 h => ?_
        refine x_iload_n (pc := 32) d_P_allowsMember_32 rfl 1 rfl ?_
        refine h_aaload (pc := 33) (kd := 10) d_P_allowsMember_33 (by decide) rfl rfl h fun t7 h => ?_
        refine h_getR G (pc := 34) (ci := 2) (j := 1) d_P_allowsMember_34 rfl rfl rfl lf_P_48 h fun t8 h => ?_
        refine x_iload_n (pc := 37) d_P_allowsMember_37 rfl 2 rfl ?_
        refine h_iaload (pc := 38) d_P_allowsMember_38 h fun t9 h => ?_
        refine x_istore (pc := 39) (L' := [(0, .ref v0), (1, .int v1), (2, .int v2), (3, .int v3), (4, .int t9)]) d_P_allowsMember_39 (by decide) rfl ?_
        refine x_aload_n (pc := 41) d_P_allowsMember_41 rfl 0 rfl ?_
        refine x_iload_n (pc := 42) d_P_allowsMember_42 rfl 1 rfl ?_
        refine x_iload (pc := 43) d_P_allowsMember_43 4 rfl ?_
        refine x_iload_n (pc := 45) d_P_allowsMember_45 rfl 3 rfl ?_
        refine x_iconst (pc := 46) d_P_allowsMember_46 rfl ?_
        refine h_icmp_ne (pc := 47) 54 d_P_allowsMember_47 (by decide) h (fun _ h => ?_) (fun _ h => ?_)
        · refine x_iconst (pc := 54) d_P_allowsMember_54 rfl ?_
          refine x_weak [] rfl ?_
          exact p_P_allowsMember_55 G _ _ _ _ _ h
        · refine x_iconst (pc := 50) d_P_allowsMember_50 rfl ?_
          refine x_goto (pc := 51) 55 d_P_allowsMember_51 (by decide) ?_
          refine x_weak [] rfl ?_
          exact p_P_allowsMember_55 G _ _ _ _ _ h
      · refine x_iconst (pc := 26) d_P_allowsMember_26 rfl ?_
        exact h_zreturn (pc := 27) d_P_allowsMember_27 rfl h
  · refine x_iconst (pc := 14) d_P_allowsMember_14 rfl ?_
    exact h_zreturn (pc := 15) d_P_allowsMember_15 rfl h
theorem p_B_start (G : xG K) (v0 : Nat) (v1 : Int32) (v2 : Int32) (v3 : Int32) (M : XM) (h : g_B_start v0 v1 v2 v3 M = some (o, N)) : Ct K y_B_start [.ref v0, .int v1, .int v2, .int v3] M o N := by
  refine ct_of (by decide) (List.forall_mem_cons.mpr ⟨rfl, List.forall_mem_cons.mpr ⟨rfl, List.forall_mem_cons.mpr ⟨rfl, List.forall_mem_cons.mpr ⟨rfl, fun _ q => absurd q List.not_mem_nil⟩⟩⟩⟩) (Nat.le_of_ble_eq_true rfl) ?_
  show cA K y_B_start 0 [(0, .ref v0), (1, .int v1), (2, .int v2), (3, .int v3)] [] M o N
  unfold g_B_start at h
  refine x_aload_n (pc := 0) d_B_start_0 rfl 0 rfl ?_
  refine x_iload_n (pc := 1) d_B_start_1 rfl 1 rfl ?_
  refine h_putI G (pc := 2) (ci := 3) (j := 0) d_B_start_2 rfl rfl rfl lf_B_18 h fun M1 h => ?_
  refine x_aload_n (pc := 5) d_B_start_5 rfl 0 rfl ?_
  refine x_iload_n (pc := 6) d_B_start_6 rfl 2 rfl ?_
  refine h_putI G (pc := 7) (ci := 3) (j := 1) d_B_start_7 rfl rfl rfl lf_B_22 h fun M2 h => ?_
  refine x_aload_n (pc := 10) d_B_start_10 rfl 0 rfl ?_
  refine x_iload_n (pc := 11) d_B_start_11 rfl 3 rfl ?_
  refine h_putI G (pc := 12) (ci := 3) (j := 2) d_B_start_12 rfl rfl rfl lf_B_25 h fun M3 h => ?_
  refine x_aload_n (pc := 15) d_B_start_15 rfl 0 rfl ?_
  refine x_iconst (pc := 16) d_B_start_16 rfl ?_
  refine h_putZ G (pc := 17) (ci := 3) (j := 3) d_B_start_17 rfl rfl rfl lf_B_28 h fun M4 h => ?_
  refine x_aload_n (pc := 20) d_B_start_20 rfl 0 rfl ?_
  refine x_iconst (pc := 21) d_B_start_21 rfl ?_
  refine h_putI G (pc := 22) (ci := 3) (j := 4) d_B_start_22 rfl rfl rfl lf_B_32 h fun M5 h => ?_
  exact h_return (pc := 25) d_B_start_25 rfl h
theorem p_P_startMember (G : xG K) (v0 : Nat) (v1 : Int32) (v2 : Int32) (v3 : Int32) (M : XM) (h : g_P_startMember v0 v1 v2 v3 M = some (o, N)) : Ct K y_P_startMember [.ref v0, .int v1, .int v2, .int v3] M o N := by
  refine ct_of (by decide) (List.forall_mem_cons.mpr ⟨rfl, List.forall_mem_cons.mpr ⟨rfl, List.forall_mem_cons.mpr ⟨rfl, List.forall_mem_cons.mpr ⟨rfl, fun _ q => absurd q List.not_mem_nil⟩⟩⟩⟩) (Nat.le_of_ble_eq_true rfl) ?_
  show cA K y_P_startMember 0 [(0, .ref v0), (1, .int v1), (2, .int v2), (3, .int v3)] [] M o N
  unfold g_P_startMember at h
  refine x_aload_n (pc := 0) d_P_startMember_0 rfl 0 rfl ?_
  refine h_getR G (pc := 1) (ci := 1) (j := 1) d_P_startMember_1 rfl rfl rfl lf_P_19 h fun t1 h => ?_
  refine x_aload_n (pc := 4) d_P_startMember_4 rfl 0 rfl ?_
  refine h_getI G (pc := 5) (ci := 1) (j := 3) d_P_startMember_5 rfl rfl rfl lf_P_29 h fun t2 h => ?_
  refine h_aaload (pc := 8) (kd := 11) d_P_startMember_8 (by decide) rfl rfl h fun t3 h => ?_
  refine x_iload_n (pc := 9) d_P_startMember_9 rfl 1 rfl ?_
  refine x_iload_n (pc := 10) d_P_startMember_10 rfl 2 rfl ?_
  refine x_iload_n (pc := 11) d_P_startMember_11 rfl 3 rfl ?_
  obtain ⟨⟨ra4, ra4t⟩, h⟩ := h_ok h
  refine h_callV G (x_siteV G (pc := 12) (y2 := y_B_start) (As := [.int v1, .int v2, .int v3]) (S := []) (ci := 3) d_P_startMember_12 rfl lm_P_33 mi_B_start ms_B_start mw_B_start.1 mx_B_start.1 mx_B_start.2 rfl ra4 ra4t) mw_B_start ⟨Nat.le_of_ble_eq_true rfl, Nat.le_of_ble_eq_true rfl⟩ rfl (fun _ _ e => p_B_start G _ _ _ _ _ e) h fun M5 h => ?_
  refine x_aload_n (pc := 15) d_P_startMember_15 rfl 0 rfl ?_
  refine x_dup (pc := 16) d_P_startMember_16 rfl ?_
  refine h_getI G (pc := 17) (ci := 1) (j := 3) d_P_startMember_17 rfl rfl rfl lf_P_29 h fun t6 h => ?_
  refine x_iconst (pc := 20) d_P_startMember_20 rfl ?_
  refine x_iadd (pc := 21) d_P_startMember_21 ?_
  refine h_putI G (pc := 22) (ci := 1) (j := 3) d_P_startMember_22 rfl rfl rfl lf_P_29 h fun M7 h => ?_
  refine x_aload_n (pc := 25) d_P_startMember_25 rfl 0 rfl ?_
  refine h_getI G (pc := 26) (ci := 1) (j := 3) d_P_startMember_26 rfl rfl rfl lf_P_29 h fun t8 h => ?_
  refine x_iconst (pc := 29) d_P_startMember_29 rfl ?_
  refine x_isub (pc := 30) d_P_startMember_30 ?_
  exact h_ireturn (pc := 31) d_P_startMember_31 rfl h
theorem p_S_member (G : xG K) (v0 : Nat) (v1 : Int32) (v2 : Int32) (v3 : Int32) (M : XM) (h : g_S_member v0 v1 v2 v3 M = some (o, N)) : Ct K y_S_member [.ref v0, .int v1, .int v2, .int v3] M o N := by
  refine ct_of (by decide) (List.forall_mem_cons.mpr ⟨rfl, List.forall_mem_cons.mpr ⟨rfl, List.forall_mem_cons.mpr ⟨rfl, List.forall_mem_cons.mpr ⟨rfl, fun _ q => absurd q List.not_mem_nil⟩⟩⟩⟩) (Nat.le_of_ble_eq_true rfl) ?_
  show cA K y_S_member 0 [(0, .ref v0), (1, .int v1), (2, .int v2), (3, .int v3)] [] M o N
  unfold g_S_member at h
  refine x_aload_n (pc := 0) d_S_member_0 rfl 0 rfl ?_
  refine h_getR G (pc := 1) (ci := 0) (j := 0) d_S_member_1 rfl rfl rfl lf_S_10 h fun t1 h => ?_
  refine x_iload_n (pc := 4) d_S_member_4 rfl 1 rfl ?_
  obtain ⟨⟨ra2, ra2t⟩, h⟩ := h_ok h
  refine h_callI G (x_siteV G (pc := 5) (y2 := y_P_hasClass) (As := [.int v1]) (S := []) (ci := 1) d_S_member_5 rfl lm_S_48 mi_P_hasClass ms_P_hasClass mw_P_hasClass.1 mx_P_hasClass.1 mx_P_hasClass.2 rfl ra2 ra2t) mw_P_hasClass ⟨Nat.le_of_ble_eq_true rfl, Nat.le_of_ble_eq_true rfl⟩ rfl (fun _ _ e => p_P_hasClass G _ _ _ e) h fun t4 M3 h => ?_
  refine h_if_ne (pc := 8) 21 d_S_member_8 (by decide) h (fun _ h => ?_) (fun _ h => ?_)
  · refine x_aload_n (pc := 21) d_S_member_21 rfl 0 rfl ?_
    refine h_getR G (pc := 22) (ci := 0) (j := 0) d_S_member_22 rfl rfl rfl lf_S_10 h fun t5 h => ?_
    refine x_iload_n (pc := 25) d_S_member_25 rfl 1 rfl ?_
    refine x_iload_n (pc := 26) d_S_member_26 rfl 2 rfl ?_
    refine x_iload_n (pc := 27) d_S_member_27 rfl 3 rfl ?_
    obtain ⟨⟨ra6, ra6t⟩, h⟩ := h_ok h
    refine h_callI G (x_siteV G (pc := 28) (y2 := y_P_allowsMember) (As := [.int v1, .int v2, .int v3]) (S := []) (ci := 1) d_S_member_28 rfl lm_S_84 mi_P_allowsMember ms_P_allowsMember mw_P_allowsMember.1 mx_P_allowsMember.1 mx_P_allowsMember.2 rfl ra6 ra6t) mw_P_allowsMember ⟨Nat.le_of_ble_eq_true rfl, Nat.le_of_ble_eq_true rfl⟩ rfl (fun _ _ e => p_P_allowsMember G _ _ _ _ _ e) h fun t8 M7 h => ?_
    refine h_if_ne (pc := 31) 44 d_S_member_31 (by decide) h (fun _ h => ?_) (fun _ h => ?_)
    · refine x_aload_n (pc := 44) d_S_member_44 rfl 0 rfl ?_
      refine h_getR G (pc := 45) (ci := 0) (j := 0) d_S_member_45 rfl rfl rfl lf_S_10 h fun t9 h => ?_
      refine h_getI G (pc := 48) (ci := 1) (j := 3) d_S_member_48 rfl rfl rfl lf_S_90 h fun t10 h => ?_
      refine x_bipush (pc := 51) (v := 30) d_S_member_51 (by decide) ?_
      refine h_icmp_lt (pc := 53) 66 d_S_member_53 (by decide) h (fun _ h => ?_) (fun _ h => ?_)
      · refine x_aload_n (pc := 66) d_S_member_66 rfl 0 rfl ?_
        refine h_getR G (pc := 67) (ci := 0) (j := 0) d_S_member_67 rfl rfl rfl lf_S_10 h fun t11 h => ?_
        refine x_iload_n (pc := 70) d_S_member_70 rfl 1 rfl ?_
        refine x_iload_n (pc := 71) d_S_member_71 rfl 2 rfl ?_
        refine x_iload_n (pc := 72) d_S_member_72 rfl 3 rfl ?_
        obtain ⟨⟨ra12, ra12t⟩, h⟩ := h_ok h
        refine h_callI G (x_siteV G (pc := 73) (y2 := y_P_startMember) (As := [.int v1, .int v2, .int v3]) (S := []) (ci := 1) d_S_member_73 rfl lm_S_93 mi_P_startMember ms_P_startMember mw_P_startMember.1 mx_P_startMember.1 mx_P_startMember.2 rfl ra12 ra12t) mw_P_startMember ⟨Nat.le_of_ble_eq_true rfl, Nat.le_of_ble_eq_true rfl⟩ rfl (fun _ _ e => p_P_startMember G _ _ _ _ _ e) h fun t14 M13 h => ?_
        exact h_ireturn (pc := 76) d_S_member_76 rfl h
      · exact h_throw G (pc := 56) (ei := 0) rfl d_S_member_56 d_S_member_59 d_S_member_60 d_S_member_62 d_S_member_65 lc_S_37 lm_S_41 ls_S_91 rfl (Nat.le_of_ble_eq_true rfl) (Nat.le_of_ble_eq_true rfl) h
    · exact h_throw G (pc := 34) (ei := 2) rfl d_S_member_34 d_S_member_37 d_S_member_38 d_S_member_40 d_S_member_43 lc_S_61 lm_S_65 ls_S_88 rfl (Nat.le_of_ble_eq_true rfl) (Nat.le_of_ble_eq_true rfl) h
  · exact h_throw G (pc := 11) (ei := 1) rfl d_S_member_11 d_S_member_14 d_S_member_15 d_S_member_17 d_S_member_20 lc_S_52 lm_S_56 ls_S_54 rfl (Nat.le_of_ble_eq_true rfl) (Nat.le_of_ble_eq_true rfl) h
theorem p_W_member (G : xG K) (v0 : Nat) (v1 : Int32) (v2 : Int32) (v3 : Int32) (v4 : Nat) (M : XM) (h : g_W_member v0 v1 v2 v3 v4 M = some (o, N)) : Ct K y_W_member [.ref v0, .int v1, .int v2, .int v3, .ref v4] M o N := by
  refine ct_of (by decide) (List.forall_mem_cons.mpr ⟨rfl, List.forall_mem_cons.mpr ⟨rfl, List.forall_mem_cons.mpr ⟨rfl, List.forall_mem_cons.mpr ⟨rfl, List.forall_mem_cons.mpr ⟨rfl, fun _ q => absurd q List.not_mem_nil⟩⟩⟩⟩⟩) (Nat.le_of_ble_eq_true rfl) ?_
  show cA K y_W_member 0 [(0, .ref v0), (1, .int v1), (2, .int v2), (3, .int v3), (4, .ref v4)] [] M o N
  unfold g_W_member at h
  refine x_aload (pc := 0) d_W_member_0 4 rfl ?_
  refine x_iconst (pc := 2) d_W_member_2 rfl ?_
  refine x_aload_n (pc := 3) d_W_member_3 rfl 0 rfl ?_
  refine x_iload_n (pc := 4) d_W_member_4 rfl 1 rfl ?_
  refine x_iload_n (pc := 5) d_W_member_5 rfl 2 rfl ?_
  refine x_iload_n (pc := 6) d_W_member_6 rfl 3 rfl ?_
  obtain ⟨⟨ra1, ra1t⟩, h⟩ := h_ok h
  refine h_hI G (x_siteV G (pc := 7) (y2 := y_S_member) (As := [.int v1, .int v2, .int v3]) (S := [.int 0, .ref v4]) (ci := 0) d_W_member_7 rfl lm_W_23 mi_S_member ms_S_member mw_S_member.1 mx_S_member.1 mx_S_member.2 rfl ra1 ra1t) mw_S_member ⟨Nat.le_of_ble_eq_true rfl, Nat.le_of_ble_eq_true rfl⟩ (fun _ _ e => p_S_member G _ _ _ _ _ e) h (fun t3 M2 h => ?_) (fun a5 M6 h => ?_)
  · refine x_i2l (pc := 10) d_W_member_10 ?_
    refine h_lastore G (pc := 11) d_W_member_11 h fun M4 h => ?_
    refine x_goto (pc := 12) 27 d_W_member_12 (by decide) ?_
    refine x_iconst (pc := 27) d_W_member_27 rfl ?_
    exact h_ireturn (pc := 28) d_W_member_28 rfl h
  · refine h_catch G (pc := 7) (ei := 1) rfl [] (0, 12, 15, 19) [(0, 12, 19, 21), (0, 12, 23, 13)] rfl (fun _ q => absurd q List.not_mem_nil) ⟨by decide, by decide, by decide, lc_W_19⟩ h (fun h => ?_) (fun h => ?_)
    · refine x_astore (pc := 15) (L' := [(0, .ref v0), (1, .int v1), (2, .int v2), (3, .int v3), (4, .ref v4), (5, .ref a5)]) d_W_member_15 (by decide) rfl ?_
      refine x_iconst (pc := 17) d_W_member_17 rfl ?_
      exact h_ireturn (pc := 18) d_W_member_18 rfl h
    · refine h_catch G (pc := 7) (ei := 2) rfl [((0, 12, 15, 19), "java/lang/IndexOutOfBoundsException")] (0, 12, 19, 21) [(0, 12, 23, 13)] rfl (List.forall_mem_cons.mpr ⟨⟨by decide, by decide, by decide, lc_W_19, by decide, by decide⟩, fun _ q => absurd q List.not_mem_nil⟩) ⟨by decide, by decide, by decide, lc_W_21⟩ h (fun h => ?_) (fun h => ?_)
      · refine x_astore (pc := 19) (L' := [(0, .ref v0), (1, .int v1), (2, .int v2), (3, .int v3), (4, .ref v4), (5, .ref a5)]) d_W_member_19 (by decide) rfl ?_
        refine x_iconst (pc := 21) d_W_member_21 rfl ?_
        exact h_ireturn (pc := 22) d_W_member_22 rfl h
      · refine h_catch G (pc := 7) (ei := 0) rfl [((0, 12, 15, 19), "java/lang/IndexOutOfBoundsException"), ((0, 12, 19, 21), "java/lang/IllegalArgumentException")] (0, 12, 23, 13) [] rfl (List.forall_mem_cons.mpr ⟨⟨by decide, by decide, by decide, lc_W_19, by decide, by decide⟩, List.forall_mem_cons.mpr ⟨⟨by decide, by decide, by decide, lc_W_21, by decide, by decide⟩, fun _ q => absurd q List.not_mem_nil⟩⟩) ⟨by decide, by decide, by decide, lc_W_13⟩ h (fun h => ?_) (fun h => ?_)
        · refine x_astore (pc := 23) (L' := [(0, .ref v0), (1, .int v1), (2, .int v2), (3, .int v3), (4, .ref v4), (5, .ref a5)]) d_W_member_23 (by decide) rfl ?_
          refine x_iconst (pc := 25) d_W_member_25 rfl ?_
          exact h_ireturn (pc := 26) d_W_member_26 rfl h
        · cases h
theorem p_P_hasMember (G : xG K) (v0 : Nat) (v1 : Int32) (M : XM) (h : g_P_hasMember v0 v1 M = some (o, N)) : Ct K y_P_hasMember [.ref v0, .int v1] M o N := by
  refine ct_of (by decide) (List.forall_mem_cons.mpr ⟨rfl, List.forall_mem_cons.mpr ⟨rfl, fun _ q => absurd q List.not_mem_nil⟩⟩) (Nat.le_of_ble_eq_true rfl) ?_
  show cA K y_P_hasMember 0 [(0, .ref v0), (1, .int v1)] [] M o N
  unfold g_P_hasMember at h
  refine x_iload_n (pc := 0) d_P_hasMember_0 rfl 1 rfl ?_
  refine h_if_lt (pc := 1) 16 d_P_hasMember_1 (by decide) h (fun _ h => ?_) (fun _ h => ?_)
  · refine x_iconst (pc := 16) d_P_hasMember_16 rfl ?_
    exact h_zreturn (pc := 17) d_P_hasMember_17 rfl h
  · refine x_iload_n (pc := 4) d_P_hasMember_4 rfl 1 rfl ?_
    refine x_aload_n (pc := 5) d_P_hasMember_5 rfl 0 rfl ?_
    refine h_getI G (pc := 6) (ci := 1) (j := 3) d_P_hasMember_6 rfl rfl rfl lf_P_29 h fun t1 h => ?_
    refine h_icmp_ge (pc := 9) 16 d_P_hasMember_9 (by decide) h (fun _ h => ?_) (fun _ h => ?_)
    · refine x_iconst (pc := 16) d_P_hasMember_16 rfl ?_
      exact h_zreturn (pc := 17) d_P_hasMember_17 rfl h
    · refine x_iconst (pc := 12) d_P_hasMember_12 rfl ?_
      refine x_goto (pc := 13) 17 d_P_hasMember_13 (by decide) ?_
      exact h_zreturn (pc := 17) d_P_hasMember_17 rfl h
theorem p_P_hasMethod (G : xG K) (v0 : Nat) (v1 : Int32) (M : XM) (h : g_P_hasMethod v0 v1 M = some (o, N)) : Ct K y_P_hasMethod [.ref v0, .int v1] M o N := by
  refine ct_of (by decide) (List.forall_mem_cons.mpr ⟨rfl, List.forall_mem_cons.mpr ⟨rfl, fun _ q => absurd q List.not_mem_nil⟩⟩) (Nat.le_of_ble_eq_true rfl) ?_
  show cA K y_P_hasMethod 0 [(0, .ref v0), (1, .int v1)] [] M o N
  unfold g_P_hasMethod at h
  refine x_aload_n (pc := 0) d_P_hasMethod_0 rfl 0 rfl ?_
  refine x_iload_n (pc := 1) d_P_hasMethod_1 rfl 1 rfl ?_
  obtain ⟨⟨ra1, ra1t⟩, h⟩ := h_ok h
  refine h_callI G (x_siteV G (pc := 2) (y2 := y_P_hasMember) (As := [.int v1]) (S := []) (ci := 1) d_P_hasMethod_2 rfl lm_P_37 mi_P_hasMember ms_P_hasMember mw_P_hasMember.1 mx_P_hasMember.1 mx_P_hasMember.2 rfl ra1 ra1t) mw_P_hasMember ⟨Nat.le_of_ble_eq_true rfl, Nat.le_of_ble_eq_true rfl⟩ rfl (fun _ _ e => p_P_hasMember G _ _ _ e) h fun t3 M2 h => ?_
  refine h_if_eq (pc := 5) 24 d_P_hasMethod_5 (by decide) h (fun _ h => ?_) (fun _ h => ?_)
  · refine x_iconst (pc := 24) d_P_hasMethod_24 rfl ?_
    exact h_zreturn (pc := 25) d_P_hasMethod_25 rfl h
  · refine x_aload_n (pc := 8) d_P_hasMethod_8 rfl 0 rfl ?_
    refine h_getR G (pc := 9) (ci := 1) (j := 1) d_P_hasMethod_9 rfl rfl rfl lf_P_19 h fun t4 h => ?_
    refine x_iload_n (pc := 12) d_P_hasMethod_12 rfl 1 rfl ?_
    refine h_aaload (pc := 13) (kd := 11) d_P_hasMethod_13 (by decide) rfl rfl h fun t5 h => ?_
    obtain ⟨⟨ra6, ra6t⟩, h⟩ := h_ok h
    refine h_callI G (x_siteV G (pc := 14) (y2 := y_B_isField) (As := []) (S := []) (ci := 3) d_P_hasMethod_14 rfl lm_P_41 mi_B_isField ms_B_isField mw_B_isField.1 mx_B_isField.1 mx_B_isField.2 rfl ra6 ra6t) mw_B_isField ⟨Nat.le_of_ble_eq_true rfl, Nat.le_of_ble_eq_true rfl⟩ rfl (fun _ _ e => p_B_isField G _ _ e) h fun t8 M7 h => ?_
    refine h_if_ne (pc := 17) 24 d_P_hasMethod_17 (by decide) h (fun _ h => ?_) (fun _ h => ?_)
    · refine x_iconst (pc := 24) d_P_hasMethod_24 rfl ?_
      exact h_zreturn (pc := 25) d_P_hasMethod_25 rfl h
    · refine x_iconst (pc := 20) d_P_hasMethod_20 rfl ?_
      refine x_goto (pc := 21) 25 d_P_hasMethod_21 (by decide) ?_
      exact h_zreturn (pc := 25) d_P_hasMethod_25 rfl h
theorem p_B_append (G : xG K) (v0 : Nat) (v1 : Int32) (v2 : Int32) (M : XM) (h : g_B_append v0 v1 v2 M = some (o, N)) : Ct K y_B_append [.ref v0, .int v1, .int v2] M o N := by
  refine ct_of (by decide) (List.forall_mem_cons.mpr ⟨rfl, List.forall_mem_cons.mpr ⟨rfl, List.forall_mem_cons.mpr ⟨rfl, fun _ q => absurd q List.not_mem_nil⟩⟩⟩) (Nat.le_of_ble_eq_true rfl) ?_
  show cA K y_B_append 0 [(0, .ref v0), (1, .int v1), (2, .int v2)] [] M o N
  unfold g_B_append at h
  refine x_aload_n (pc := 0) d_B_append_0 rfl 0 rfl ?_
  refine h_getR G (pc := 1) (ci := 3) (j := 5) d_B_append_1 rfl rfl rfl lf_B_9 h fun t1 h => ?_
  refine x_aload_n (pc := 4) d_B_append_4 rfl 0 rfl ?_
  refine h_getI G (pc := 5) (ci := 3) (j := 4) d_B_append_5 rfl rfl rfl lf_B_32 h fun t2 h => ?_
  refine x_iload_n (pc := 8) d_B_append_8 rfl 1 rfl ?_
  refine h_iastore G (pc := 9) d_B_append_9 h fun M3 h => ?_
  refine x_aload_n (pc := 10) d_B_append_10 rfl 0 rfl ?_
  refine h_getR G (pc := 11) (ci := 3) (j := 6) d_B_append_11 rfl rfl rfl lf_B_15 h fun t4 h => ?_
  refine x_aload_n (pc := 14) d_B_append_14 rfl 0 rfl ?_
  refine h_getI G (pc := 15) (ci := 3) (j := 4) d_B_append_15 rfl rfl rfl lf_B_32 h fun t5 h => ?_
  refine x_iload_n (pc := 18) d_B_append_18 rfl 2 rfl ?_
  refine h_iastore G (pc := 19) d_B_append_19 h fun M6 h => ?_
  refine x_aload_n (pc := 20) d_B_append_20 rfl 0 rfl ?_
  refine x_dup (pc := 21) d_B_append_21 rfl ?_
  refine h_getI G (pc := 22) (ci := 3) (j := 4) d_B_append_22 rfl rfl rfl lf_B_32 h fun t7 h => ?_
  refine x_iconst (pc := 25) d_B_append_25 rfl ?_
  refine x_iadd (pc := 26) d_B_append_26 ?_
  refine h_putI G (pc := 27) (ci := 3) (j := 4) d_B_append_27 rfl rfl rfl lf_B_32 h fun M8 h => ?_
  refine x_aload_n (pc := 30) d_B_append_30 rfl 0 rfl ?_
  refine h_getI G (pc := 31) (ci := 3) (j := 4) d_B_append_31 rfl rfl rfl lf_B_32 h fun t9 h => ?_
  refine x_iconst (pc := 34) d_B_append_34 rfl ?_
  refine x_isub (pc := 35) d_B_append_35 ?_
  exact h_ireturn (pc := 36) d_B_append_36 rfl h
theorem p_S_code (G : xG K) (v0 : Nat) (v1 : Int32) (v2 : Int32) (v3 : Int32) (M : XM) (h : g_S_code v0 v1 v2 v3 M = some (o, N)) : Ct K y_S_code [.ref v0, .int v1, .int v2, .int v3] M o N := by
  refine ct_of (by decide) (List.forall_mem_cons.mpr ⟨rfl, List.forall_mem_cons.mpr ⟨rfl, List.forall_mem_cons.mpr ⟨rfl, List.forall_mem_cons.mpr ⟨rfl, fun _ q => absurd q List.not_mem_nil⟩⟩⟩⟩) (Nat.le_of_ble_eq_true rfl) ?_
  show cA K y_S_code 0 [(0, .ref v0), (1, .int v1), (2, .int v2), (3, .int v3)] [] M o N
  unfold g_S_code at h
  refine x_aload_n (pc := 0) d_S_code_0 rfl 0 rfl ?_
  refine h_getR G (pc := 1) (ci := 0) (j := 0) d_S_code_1 rfl rfl rfl lf_S_10 h fun t1 h => ?_
  refine x_iload_n (pc := 4) d_S_code_4 rfl 1 rfl ?_
  obtain ⟨⟨ra2, ra2t⟩, h⟩ := h_ok h
  refine h_callI G (x_siteV G (pc := 5) (y2 := y_P_hasMethod) (As := [.int v1]) (S := []) (ci := 1) d_S_code_5 rfl lm_S_96 mi_P_hasMethod ms_P_hasMethod mw_P_hasMethod.1 mx_P_hasMethod.1 mx_P_hasMethod.2 rfl ra2 ra2t) mw_P_hasMethod ⟨Nat.le_of_ble_eq_true rfl, Nat.le_of_ble_eq_true rfl⟩ rfl (fun _ _ e => p_P_hasMethod G _ _ _ e) h fun t4 M3 h => ?_
  refine h_if_ne (pc := 8) 21 d_S_code_8 (by decide) h (fun _ h => ?_) (fun _ h => ?_)
  · refine x_iload_n (pc := 21) d_S_code_21 rfl 2 rfl ?_
    refine h_if_lt (pc := 22) 31 d_S_code_22 (by decide) h (fun _ h => ?_) (fun _ h => ?_)
    · exact h_throw G (pc := 31) (ei := 2) rfl d_S_code_31 d_S_code_34 d_S_code_35 d_S_code_37 d_S_code_40 lc_S_61 lm_S_65 ls_S_101 rfl (Nat.le_of_ble_eq_true rfl) (Nat.le_of_ble_eq_true rfl) h
    · refine x_iload_n (pc := 25) d_S_code_25 rfl 2 rfl ?_
      refine x_bipush (pc := 26) (v := 12) d_S_code_26 (by decide) ?_
      refine h_icmp_le (pc := 28) 41 d_S_code_28 (by decide) h (fun _ h => ?_) (fun _ h => ?_)
      · refine x_aload_n (pc := 41) d_S_code_41 rfl 0 rfl ?_
        refine h_getR G (pc := 42) (ci := 0) (j := 0) d_S_code_42 rfl rfl rfl lf_S_10 h fun t5 h => ?_
        refine h_getR G (pc := 45) (ci := 1) (j := 1) d_S_code_45 rfl rfl rfl lf_S_103 h fun t6 h => ?_
        refine x_iload_n (pc := 48) d_S_code_48 rfl 1 rfl ?_
        refine h_aaload (pc := 49) (kd := 11) d_S_code_49 (by decide) rfl rfl h fun t7 h => ?_
        refine x_astore (pc := 50) (L' := [(0, .ref v0), (1, .int v1), (2, .int v2), (3, .int v3), (4, .ref t7)]) d_S_code_50 (by decide) rfl ?_
        refine x_aload (pc := 52) d_S_code_52 4 rfl ?_
        refine h_getI G (pc := 54) (ci := 3) (j := 4) d_S_code_54 rfl rfl rfl lf_S_107 h fun t8 h => ?_
        refine x_bipush (pc := 57) (v := 20) d_S_code_57 (by decide) ?_
        refine h_icmp_lt (pc := 59) 72 d_S_code_59 (by decide) h (fun _ h => ?_) (fun _ h => ?_)
        · refine x_aload (pc := 72) d_S_code_72 4 rfl ?_
          refine x_iload_n (pc := 74) d_S_code_74 rfl 2 rfl ?_
          refine x_iload_n (pc := 75) d_S_code_75 rfl 3 rfl ?_
          obtain ⟨⟨ra9, ra9t⟩, h⟩ := h_ok h
          refine h_callI G (x_siteV G (pc := 76) (y2 := y_B_append) (As := [.int v2, .int v3]) (S := []) (ci := 3) d_S_code_76 rfl lm_S_114 mi_B_append ms_B_append mw_B_append.1 mx_B_append.1 mx_B_append.2 rfl ra9 ra9t) mw_B_append ⟨Nat.le_of_ble_eq_true rfl, Nat.le_of_ble_eq_true rfl⟩ rfl (fun _ _ e => p_B_append G _ _ _ _ e) h fun t11 M10 h => ?_
          exact h_ireturn (pc := 79) d_S_code_79 rfl h
        · exact h_throw G (pc := 62) (ei := 0) rfl d_S_code_62 d_S_code_65 d_S_code_66 d_S_code_68 d_S_code_71 lc_S_37 lm_S_41 ls_S_112 rfl (Nat.le_of_ble_eq_true rfl) (Nat.le_of_ble_eq_true rfl) h
      · exact h_throw G (pc := 31) (ei := 2) rfl d_S_code_31 d_S_code_34 d_S_code_35 d_S_code_37 d_S_code_40 lc_S_61 lm_S_65 ls_S_101 rfl (Nat.le_of_ble_eq_true rfl) (Nat.le_of_ble_eq_true rfl) h
  · exact h_throw G (pc := 11) (ei := 1) rfl d_S_code_11 d_S_code_14 d_S_code_15 d_S_code_17 d_S_code_20 lc_S_52 lm_S_56 ls_S_99 rfl (Nat.le_of_ble_eq_true rfl) (Nat.le_of_ble_eq_true rfl) h
theorem p_W_code (G : xG K) (v0 : Nat) (v1 : Int32) (v2 : Int32) (v3 : Int32) (v4 : Nat) (M : XM) (h : g_W_code v0 v1 v2 v3 v4 M = some (o, N)) : Ct K y_W_code [.ref v0, .int v1, .int v2, .int v3, .ref v4] M o N := by
  refine ct_of (by decide) (List.forall_mem_cons.mpr ⟨rfl, List.forall_mem_cons.mpr ⟨rfl, List.forall_mem_cons.mpr ⟨rfl, List.forall_mem_cons.mpr ⟨rfl, List.forall_mem_cons.mpr ⟨rfl, fun _ q => absurd q List.not_mem_nil⟩⟩⟩⟩⟩) (Nat.le_of_ble_eq_true rfl) ?_
  show cA K y_W_code 0 [(0, .ref v0), (1, .int v1), (2, .int v2), (3, .int v3), (4, .ref v4)] [] M o N
  unfold g_W_code at h
  refine x_aload (pc := 0) d_W_code_0 4 rfl ?_
  refine x_iconst (pc := 2) d_W_code_2 rfl ?_
  refine x_aload_n (pc := 3) d_W_code_3 rfl 0 rfl ?_
  refine x_iload_n (pc := 4) d_W_code_4 rfl 1 rfl ?_
  refine x_iload_n (pc := 5) d_W_code_5 rfl 2 rfl ?_
  refine x_iload_n (pc := 6) d_W_code_6 rfl 3 rfl ?_
  obtain ⟨⟨ra1, ra1t⟩, h⟩ := h_ok h
  refine h_hI G (x_siteV G (pc := 7) (y2 := y_S_code) (As := [.int v1, .int v2, .int v3]) (S := [.int 0, .ref v4]) (ci := 0) d_W_code_7 rfl lm_W_27 mi_S_code ms_S_code mw_S_code.1 mx_S_code.1 mx_S_code.2 rfl ra1 ra1t) mw_S_code ⟨Nat.le_of_ble_eq_true rfl, Nat.le_of_ble_eq_true rfl⟩ (fun _ _ e => p_S_code G _ _ _ _ _ e) h (fun t3 M2 h => ?_) (fun a5 M6 h => ?_)
  · refine x_i2l (pc := 10) d_W_code_10 ?_
    refine h_lastore G (pc := 11) d_W_code_11 h fun M4 h => ?_
    refine x_goto (pc := 12) 27 d_W_code_12 (by decide) ?_
    refine x_iconst (pc := 27) d_W_code_27 rfl ?_
    exact h_ireturn (pc := 28) d_W_code_28 rfl h
  · refine h_catch G (pc := 7) (ei := 1) rfl [] (0, 12, 15, 19) [(0, 12, 19, 21), (0, 12, 23, 13)] rfl (fun _ q => absurd q List.not_mem_nil) ⟨by decide, by decide, by decide, lc_W_19⟩ h (fun h => ?_) (fun h => ?_)
    · refine x_astore (pc := 15) (L' := [(0, .ref v0), (1, .int v1), (2, .int v2), (3, .int v3), (4, .ref v4), (5, .ref a5)]) d_W_code_15 (by decide) rfl ?_
      refine x_iconst (pc := 17) d_W_code_17 rfl ?_
      exact h_ireturn (pc := 18) d_W_code_18 rfl h
    · refine h_catch G (pc := 7) (ei := 2) rfl [((0, 12, 15, 19), "java/lang/IndexOutOfBoundsException")] (0, 12, 19, 21) [(0, 12, 23, 13)] rfl (List.forall_mem_cons.mpr ⟨⟨by decide, by decide, by decide, lc_W_19, by decide, by decide⟩, fun _ q => absurd q List.not_mem_nil⟩) ⟨by decide, by decide, by decide, lc_W_21⟩ h (fun h => ?_) (fun h => ?_)
      · refine x_astore (pc := 19) (L' := [(0, .ref v0), (1, .int v1), (2, .int v2), (3, .int v3), (4, .ref v4), (5, .ref a5)]) d_W_code_19 (by decide) rfl ?_
        refine x_iconst (pc := 21) d_W_code_21 rfl ?_
        exact h_ireturn (pc := 22) d_W_code_22 rfl h
      · refine h_catch G (pc := 7) (ei := 0) rfl [((0, 12, 15, 19), "java/lang/IndexOutOfBoundsException"), ((0, 12, 19, 21), "java/lang/IllegalArgumentException")] (0, 12, 23, 13) [] rfl (List.forall_mem_cons.mpr ⟨⟨by decide, by decide, by decide, lc_W_19, by decide, by decide⟩, List.forall_mem_cons.mpr ⟨⟨by decide, by decide, by decide, lc_W_21, by decide, by decide⟩, fun _ q => absurd q List.not_mem_nil⟩⟩) ⟨by decide, by decide, by decide, lc_W_13⟩ h (fun h => ?_) (fun h => ?_)
        · refine x_astore (pc := 23) (L' := [(0, .ref v0), (1, .int v1), (2, .int v2), (3, .int v3), (4, .ref v4), (5, .ref a5)]) d_W_code_23 (by decide) rfl ?_
          refine x_iconst (pc := 25) d_W_code_25 rfl ?_
          exact h_ireturn (pc := 26) d_W_code_26 rfl h
        · cases h
theorem p_S_entry (G : xG K) (v0 : Nat) (v1 : Int32) (v2 : Int32) (M : XM) (h : g_S_entry v0 v1 v2 M = some (o, N)) : Ct K y_S_entry [.ref v0, .int v1, .int v2] M o N := by
  refine ct_of (by decide) (List.forall_mem_cons.mpr ⟨rfl, List.forall_mem_cons.mpr ⟨rfl, List.forall_mem_cons.mpr ⟨rfl, fun _ q => absurd q List.not_mem_nil⟩⟩⟩) (Nat.le_of_ble_eq_true rfl) ?_
  show cA K y_S_entry 0 [(0, .ref v0), (1, .int v1), (2, .int v2)] [] M o N
  unfold g_S_entry at h
  refine x_aload_n (pc := 0) d_S_entry_0 rfl 0 rfl ?_
  refine h_getR G (pc := 1) (ci := 0) (j := 0) d_S_entry_1 rfl rfl rfl lf_S_10 h fun t1 h => ?_
  refine x_iload_n (pc := 4) d_S_entry_4 rfl 1 rfl ?_
  obtain ⟨⟨ra2, ra2t⟩, h⟩ := h_ok h
  refine h_callI G (x_siteV G (pc := 5) (y2 := y_P_hasMethod) (As := [.int v1]) (S := []) (ci := 1) d_S_entry_5 rfl lm_S_96 mi_P_hasMethod ms_P_hasMethod mw_P_hasMethod.1 mx_P_hasMethod.1 mx_P_hasMethod.2 rfl ra2 ra2t) mw_P_hasMethod ⟨Nat.le_of_ble_eq_true rfl, Nat.le_of_ble_eq_true rfl⟩ rfl (fun _ _ e => p_P_hasMethod G _ _ _ e) h fun t4 M3 h => ?_
  refine h_if_ne (pc := 8) 21 d_S_entry_8 (by decide) h (fun _ h => ?_) (fun _ h => ?_)
  · refine x_aload_n (pc := 21) d_S_entry_21 rfl 0 rfl ?_
    refine h_getR G (pc := 22) (ci := 0) (j := 0) d_S_entry_22 rfl rfl rfl lf_S_10 h fun t5 h => ?_
    refine h_getR G (pc := 25) (ci := 1) (j := 1) d_S_entry_25 rfl rfl rfl lf_S_103 h fun t6 h => ?_
    refine x_iload_n (pc := 28) d_S_entry_28 rfl 1 rfl ?_
    refine h_aaload (pc := 29) (kd := 11) d_S_entry_29 (by decide) rfl rfl h fun t7 h => ?_
    refine x_iload_n (pc := 30) d_S_entry_30 rfl 2 rfl ?_
    refine h_putZ G (pc := 31) (ci := 3) (j := 3) d_S_entry_31 rfl rfl rfl lf_S_117 h fun M8 h => ?_
    exact h_return (pc := 34) d_S_entry_34 rfl h
  · exact h_throw G (pc := 11) (ei := 1) rfl d_S_entry_11 d_S_entry_14 d_S_entry_15 d_S_entry_17 d_S_entry_20 lc_S_52 lm_S_56 ls_S_99 rfl (Nat.le_of_ble_eq_true rfl) (Nat.le_of_ble_eq_true rfl) h
theorem p_W_entry (G : xG K) (v0 : Nat) (v1 : Int32) (v2 : Int32) (M : XM) (h : g_W_entry v0 v1 v2 M = some (o, N)) : Ct K y_W_entry [.ref v0, .int v1, .int v2] M o N := by
  refine ct_of (by decide) (List.forall_mem_cons.mpr ⟨rfl, List.forall_mem_cons.mpr ⟨rfl, List.forall_mem_cons.mpr ⟨rfl, fun _ q => absurd q List.not_mem_nil⟩⟩⟩) (Nat.le_of_ble_eq_true rfl) ?_
  show cA K y_W_entry 0 [(0, .ref v0), (1, .int v1), (2, .int v2)] [] M o N
  unfold g_W_entry at h
  refine x_aload_n (pc := 0) d_W_entry_0 rfl 0 rfl ?_
  refine x_iload_n (pc := 1) d_W_entry_1 rfl 1 rfl ?_
  refine x_iload_n (pc := 2) d_W_entry_2 rfl 2 rfl ?_
  obtain ⟨⟨ra1, ra1t⟩, h⟩ := h_ok h
  refine h_hV G (x_siteV G (pc := 3) (y2 := y_S_entry) (As := [.int v1, .int v2]) (S := []) (ci := 0) d_W_entry_3 rfl lm_W_30 mi_S_entry ms_S_entry mw_S_entry.1 mx_S_entry.1 mx_S_entry.2 rfl ra1 ra1t) mw_S_entry ⟨Nat.le_of_ble_eq_true rfl, Nat.le_of_ble_eq_true rfl⟩ (fun _ _ e => p_S_entry G _ _ _ _ e) h (fun M2 h => ?_) (fun a3 M4 h => ?_)
  · refine x_goto (pc := 6) 12 d_W_entry_6 (by decide) ?_
    refine x_iconst (pc := 12) d_W_entry_12 rfl ?_
    exact h_ireturn (pc := 13) d_W_entry_13 rfl h
  · refine h_catch G (pc := 3) (ei := 1) rfl [] (0, 6, 9, 19) [] rfl (fun _ q => absurd q List.not_mem_nil) ⟨by decide, by decide, by decide, lc_W_19⟩ h (fun h => ?_) (fun h => ?_)
    · refine x_astore_n (pc := 9) (L' := [(0, .ref v0), (1, .int v1), (2, .int v2), (3, .ref a3)]) d_W_entry_9 rfl (by decide) rfl ?_
      refine x_iconst (pc := 10) d_W_entry_10 rfl ?_
      exact h_ireturn (pc := 11) d_W_entry_11 rfl h
    · cases h
theorem p_P_entries_4 (G : xG K) : ∀ (n : Nat) (v0 : Nat) (v1 : Int32) (v2 : Int32) (M : XM), g_P_entries_4 n v0 v1 v2 M = some (o, N) → cA K y_P_entries 4 [(0, .ref v0), (1, .int v1), (2, .int v2)] [] M o N := by
  intro n
  induction n with
  | zero =>
    intro v0 v1 v2 M h
    rw [g_P_entries_4] at h
    cases h
  | succ n ih =>
    intro v0 v1 v2 M h
    rw [g_P_entries_4] at h
    refine x_iload_n (pc := 4) d_P_entries_4 rfl 2 rfl ?_
    refine x_aload_n (pc := 5) d_P_entries_5 rfl 0 rfl ?_
    refine h_getI G (pc := 6) (ci := 1) (j := 3) d_P_entries_6 rfl rfl rfl lf_P_29 h fun t1 h => ?_
    refine h_icmp_ge (pc := 9) 33 d_P_entries_9 (by decide) h (fun _ h => ?_) (fun _ h => ?_)
    · refine x_iload_n (pc := 33) d_P_entries_33 rfl 1 rfl ?_
      exact h_ireturn (pc := 34) d_P_entries_34 rfl h
    · refine x_aload_n (pc := 12) d_P_entries_12 rfl 0 rfl ?_
      refine h_getR G (pc := 13) (ci := 1) (j := 1) d_P_entries_13 rfl rfl rfl lf_P_19 h fun t2 h => ?_
      refine x_iload_n (pc := 16) d_P_entries_16 rfl 2 rfl ?_
      refine h_aaload (pc := 17) (kd := 11) d_P_entries_17 (by decide) rfl rfl h fun t3 h => ?_
      refine h_getI G (pc := 18) (ci := 3) (j := 3) d_P_entries_18 rfl rfl rfl lf_P_55 h fun t4 h => ?_
      refine h_if_eq (pc := 21) 27 d_P_entries_21 (by decide) h (fun _ h => ?_) (fun _ h => ?_)
      · refine x_iinc (pc := 27) (n := 2) (L' := [(0, .ref v0), (1, .int v1), (2, .int (v2 + 1))]) d_P_entries_27 (by decide) rfl rfl ?_
        refine x_goto (pc := 30) 4 d_P_entries_30 (by decide) ?_
        refine x_weak [0, 1, 2] rfl ?_
        exact ih _ _ _ _ h
      · refine x_iinc (pc := 24) (n := 1) (L' := [(0, .ref v0), (1, .int (v1 + 1)), (2, .int v2)]) d_P_entries_24 (by decide) rfl rfl ?_
        refine x_iinc (pc := 27) (n := 2) (L' := [(0, .ref v0), (1, .int (v1 + 1)), (2, .int (v2 + 1))]) d_P_entries_27 (by decide) rfl rfl ?_
        refine x_goto (pc := 30) 4 d_P_entries_30 (by decide) ?_
        refine x_weak [0, 1, 2] rfl ?_
        exact ih _ _ _ _ h
theorem p_P_entries (G : xG K) (v0 : Nat) (M : XM) (h : g_P_entries v0 M = some (o, N)) : Ct K y_P_entries [.ref v0] M o N := by
  refine ct_of (by decide) (List.forall_mem_cons.mpr ⟨rfl, fun _ q => absurd q List.not_mem_nil⟩) (Nat.le_of_ble_eq_true rfl) ?_
  show cA K y_P_entries 0 [(0, .ref v0)] [] M o N
  unfold g_P_entries at h
  refine x_iconst (pc := 0) d_P_entries_0 rfl ?_
  refine x_istore_n (pc := 1) (L' := [(0, .ref v0), (1, .int 0)]) d_P_entries_1 rfl (by decide) rfl ?_
  refine x_iconst (pc := 2) d_P_entries_2 rfl ?_
  refine x_istore_n (pc := 3) (L' := [(0, .ref v0), (1, .int 0), (2, .int 0)]) d_P_entries_3 rfl (by decide) rfl ?_
  refine x_weak [0, 1, 2] rfl ?_
  exact p_P_entries_4 G FU _ _ _ _ h
theorem p_K_forget_18 (G : xG K) : ∀ (n : Nat) (v0 : Nat) (v1 : Int32) (M : XM), g_K_forget_18 n v0 v1 M = some (o, N) → cA K y_K_forget 18 [(0, .ref v0), (1, .int v1)] [] M o N := by
  intro n
  induction n with
  | zero =>
    intro v0 v1 M h
    rw [g_K_forget_18] at h
    cases h
  | succ n ih =>
    intro v0 v1 M h
    rw [g_K_forget_18] at h
    refine x_iload_n (pc := 18) d_K_forget_18 rfl 1 rfl ?_
    refine x_bipush (pc := 19) (v := 6) d_K_forget_19 (by decide) ?_
    refine h_icmp_ge (pc := 21) 40 d_K_forget_21 (by decide) h (fun _ h => ?_) (fun _ h => ?_)
    · refine x_aload_n (pc := 40) d_K_forget_40 rfl 0 rfl ?_
      refine h_getR G (pc := 41) (ci := 4) (j := 3) d_K_forget_41 rfl rfl rfl lf_K_23 h fun t1 h => ?_
      refine x_iconst (pc := 44) d_K_forget_44 rfl ?_
      refine h_callV G (x_siteS G (pc := 45) (y2 := y_A_fill) (As := [.ref t1, .int (-1)]) (S := []) d_K_forget_45 lm_K_32 mi_A_fill mw_A_fill.2 mw_A_fill.1 mx_A_fill.1 mx_A_fill.2 rfl) mw_A_fill ⟨Nat.le_of_ble_eq_true rfl, Nat.le_of_ble_eq_true rfl⟩ rfl (fun _ _ e => p_A_fill G _ _ _ e) h fun M2 h => ?_
      refine x_aload_n (pc := 48) d_K_forget_48 rfl 0 rfl ?_
      refine h_getR G (pc := 49) (ci := 4) (j := 4) d_K_forget_49 rfl rfl rfl lf_K_26 h fun t3 h => ?_
      refine x_iconst (pc := 52) d_K_forget_52 rfl ?_
      refine h_callV G (x_siteS G (pc := 53) (y2 := y_A_fill) (As := [.ref t3, .int 0]) (S := []) d_K_forget_53 lm_K_32 mi_A_fill mw_A_fill.2 mw_A_fill.1 mx_A_fill.1 mx_A_fill.2 rfl) mw_A_fill ⟨Nat.le_of_ble_eq_true rfl, Nat.le_of_ble_eq_true rfl⟩ rfl (fun _ _ e => p_A_fill G _ _ _ e) h fun M4 h => ?_
      refine x_aload_n (pc := 56) d_K_forget_56 rfl 0 rfl ?_
      refine x_iconst (pc := 57) d_K_forget_57 rfl ?_
      refine h_putI G (pc := 58) (ci := 4) (j := 6) d_K_forget_58 rfl rfl rfl lf_K_61 h fun M5 h => ?_
      exact h_return (pc := 61) d_K_forget_61 rfl h
    · refine x_aload_n (pc := 24) d_K_forget_24 rfl 0 rfl ?_
      refine h_getR G (pc := 25) (ci := 4) (j := 2) d_K_forget_25 rfl rfl rfl lf_K_20 h fun t6 h => ?_
      refine x_iload_n (pc := 28) d_K_forget_28 rfl 1 rfl ?_
      refine h_aaload (pc := 29) (kd := 13) d_K_forget_29 (by decide) rfl rfl h fun t7 h => ?_
      refine x_iconst (pc := 30) d_K_forget_30 rfl ?_
      refine h_callV G (x_siteS G (pc := 31) (y2 := y_A_fill) (As := [.ref t7, .int (-1)]) (S := []) d_K_forget_31 lm_K_32 mi_A_fill mw_A_fill.2 mw_A_fill.1 mx_A_fill.1 mx_A_fill.2 rfl) mw_A_fill ⟨Nat.le_of_ble_eq_true rfl, Nat.le_of_ble_eq_true rfl⟩ rfl (fun _ _ e => p_A_fill G _ _ _ e) h fun M8 h => ?_
      refine x_iinc (pc := 34) (n := 1) (L' := [(0, .ref v0), (1, .int (v1 + 1))]) d_K_forget_34 (by decide) rfl rfl ?_
      refine x_goto (pc := 37) 18 d_K_forget_37 (by decide) ?_
      refine x_weak [0, 1] rfl ?_
      exact ih _ _ _ h
theorem p_K_forget (G : xG K) (v0 : Nat) (M : XM) (h : g_K_forget v0 M = some (o, N)) : Ct K y_K_forget [.ref v0] M o N := by
  refine ct_of (by decide) (List.forall_mem_cons.mpr ⟨rfl, fun _ q => absurd q List.not_mem_nil⟩) (Nat.le_of_ble_eq_true rfl) ?_
  show cA K y_K_forget 0 [(0, .ref v0)] [] M o N
  unfold g_K_forget at h
  refine x_aload_n (pc := 0) d_K_forget_0 rfl 0 rfl ?_
  refine h_getR G (pc := 1) (ci := 4) (j := 0) d_K_forget_1 rfl rfl rfl lf_K_9 h fun t1 h => ?_
  refine x_iconst (pc := 4) d_K_forget_4 rfl ?_
  refine h_callV G (x_siteS G (pc := 5) (y2 := y_A_fill) (As := [.ref t1, .int (-1)]) (S := []) d_K_forget_5 lm_K_32 mi_A_fill mw_A_fill.2 mw_A_fill.1 mx_A_fill.1 mx_A_fill.2 rfl) mw_A_fill ⟨Nat.le_of_ble_eq_true rfl, Nat.le_of_ble_eq_true rfl⟩ rfl (fun _ _ e => p_A_fill G _ _ _ e) h fun M2 h => ?_
  refine x_aload_n (pc := 8) d_K_forget_8 rfl 0 rfl ?_
  refine h_getR G (pc := 9) (ci := 4) (j := 1) d_K_forget_9 rfl rfl rfl lf_K_15 h fun t3 h => ?_
  refine x_iconst (pc := 12) d_K_forget_12 rfl ?_
  refine h_callV G (x_siteS G (pc := 13) (y2 := y_A_fill) (As := [.ref t3, .int (-1)]) (S := []) d_K_forget_13 lm_K_32 mi_A_fill mw_A_fill.2 mw_A_fill.1 mx_A_fill.1 mx_A_fill.2 rfl) mw_A_fill ⟨Nat.le_of_ble_eq_true rfl, Nat.le_of_ble_eq_true rfl⟩ rfl (fun _ _ e => p_A_fill G _ _ _ e) h fun M4 h => ?_
  refine x_iconst (pc := 16) d_K_forget_16 rfl ?_
  refine x_istore_n (pc := 17) (L' := [(0, .ref v0), (1, .int 0)]) d_K_forget_17 rfl (by decide) rfl ?_
  refine x_weak [0, 1] rfl ?_
  exact p_K_forget_18 G FU _ _ _ h
theorem p_K_keepMember (G : xG K) (v0 : Nat) (v1 : Nat) (v2 : Int32) (M : XM) (h : g_K_keepMember v0 v1 v2 M = some (o, N)) : Ct K y_K_keepMember [.ref v0, .ref v1, .int v2] M o N := by
  refine ct_of (by decide) (List.forall_mem_cons.mpr ⟨rfl, List.forall_mem_cons.mpr ⟨rfl, List.forall_mem_cons.mpr ⟨rfl, fun _ q => absurd q List.not_mem_nil⟩⟩⟩) (Nat.le_of_ble_eq_true rfl) ?_
  show cA K y_K_keepMember 0 [(0, .ref v0), (1, .ref v1), (2, .int v2)] [] M o N
  unfold g_K_keepMember at h
  refine x_iload_n (pc := 0) d_K_keepMember_0 rfl 2 rfl ?_
  refine x_iconst (pc := 1) d_K_keepMember_1 rfl ?_
  refine h_icmp_eq (pc := 2) 15 d_K_keepMember_2 (by decide) h (fun _ h => ?_) (fun _ h => ?_)
  · exact h_return (pc := 15) d_K_keepMember_15 rfl h
  · refine x_aload_n (pc := 5) d_K_keepMember_5 rfl 0 rfl ?_
    refine h_getR G (pc := 6) (ci := 4) (j := 0) d_K_keepMember_6 rfl rfl rfl lf_K_9 h fun t1 h => ?_
    refine x_iload_n (pc := 9) d_K_keepMember_9 rfl 2 rfl ?_
    refine h_iaload (pc := 10) d_K_keepMember_10 h fun t2 h => ?_
    refine x_iconst (pc := 11) d_K_keepMember_11 rfl ?_
    refine h_icmp_eq (pc := 12) 16 d_K_keepMember_12 (by decide) h (fun _ h => ?_) (fun _ h => ?_)
    · refine x_aload_n (pc := 16) d_K_keepMember_16 rfl 1 rfl ?_
      refine h_getR G (pc := 17) (ci := 1) (j := 1) d_K_keepMember_17 rfl rfl rfl lf_K_70 h fun t3 h => ?_
      refine x_iload_n (pc := 20) d_K_keepMember_20 rfl 2 rfl ?_
      refine h_aaload (pc := 21) (kd := 11) d_K_keepMember_21 (by decide) rfl rfl h fun t4 h => ?_
      refine x_astore_n (pc := 22) (L' := [(0, .ref v0), (1, .ref v1), (2, .int v2), (3, .ref t4)]) d_K_keepMember_22 rfl (by decide) rfl ?_
      refine x_aload_n (pc := 23) d_K_keepMember_23 rfl 0 rfl ?_
      refine h_getR G (pc := 24) (ci := 4) (j := 0) d_K_keepMember_24 rfl rfl rfl lf_K_9 h fun t5 h => ?_
      refine x_iload_n (pc := 27) d_K_keepMember_27 rfl 2 rfl ?_
      refine x_iconst (pc := 28) d_K_keepMember_28 rfl ?_
      refine h_iastore G (pc := 29) d_K_keepMember_29 h fun M6 h => ?_
      refine x_aload_n (pc := 30) d_K_keepMember_30 rfl 0 rfl ?_
      refine h_getR G (pc := 31) (ci := 4) (j := 1) d_K_keepMember_31 rfl rfl rfl lf_K_15 h fun t7 h => ?_
      refine x_aload_n (pc := 34) d_K_keepMember_34 rfl 3 rfl ?_
      refine h_getI G (pc := 35) (ci := 3) (j := 0) d_K_keepMember_35 rfl rfl rfl lf_K_94 h fun t8 h => ?_
      refine x_iconst (pc := 38) d_K_keepMember_38 rfl ?_
      refine h_iastore G (pc := 39) d_K_keepMember_39 h fun M9 h => ?_
      refine x_aload_n (pc := 40) d_K_keepMember_40 rfl 0 rfl ?_
      refine h_getR G (pc := 41) (ci := 4) (j := 2) d_K_keepMember_41 rfl rfl rfl lf_K_20 h fun t10 h => ?_
      refine x_aload_n (pc := 44) d_K_keepMember_44 rfl 3 rfl ?_
      refine h_getI G (pc := 45) (ci := 3) (j := 0) d_K_keepMember_45 rfl rfl rfl lf_K_94 h fun t11 h => ?_
      refine h_aaload (pc := 48) (kd := 13) d_K_keepMember_48 (by decide) rfl rfl h fun t12 h => ?_
      refine x_aload_n (pc := 49) d_K_keepMember_49 rfl 3 rfl ?_
      refine h_getI G (pc := 50) (ci := 3) (j := 1) d_K_keepMember_50 rfl rfl rfl lf_K_104 h fun t13 h => ?_
      refine x_iconst (pc := 53) d_K_keepMember_53 rfl ?_
      refine h_iastore G (pc := 54) d_K_keepMember_54 h fun M14 h => ?_
      refine x_aload_n (pc := 55) d_K_keepMember_55 rfl 0 rfl ?_
      refine h_getR G (pc := 56) (ci := 4) (j := 5) d_K_keepMember_56 rfl rfl rfl lf_K_29 h fun t15 h => ?_
      refine x_aload_n (pc := 59) d_K_keepMember_59 rfl 0 rfl ?_
      refine h_getI G (pc := 60) (ci := 4) (j := 6) d_K_keepMember_60 rfl rfl rfl lf_K_61 h fun t16 h => ?_
      refine x_iload_n (pc := 63) d_K_keepMember_63 rfl 2 rfl ?_
      refine h_iastore G (pc := 64) d_K_keepMember_64 h fun M17 h => ?_
      refine x_aload_n (pc := 65) d_K_keepMember_65 rfl 0 rfl ?_
      refine x_dup (pc := 66) d_K_keepMember_66 rfl ?_
      refine h_getI G (pc := 67) (ci := 4) (j := 6) d_K_keepMember_67 rfl rfl rfl lf_K_61 h fun t18 h => ?_
      refine x_iconst (pc := 70) d_K_keepMember_70 rfl ?_
      refine x_iadd (pc := 71) d_K_keepMember_71 ?_
      refine h_putI G (pc := 72) (ci := 4) (j := 6) d_K_keepMember_72 rfl rfl rfl lf_K_61 h fun M19 h => ?_
      exact h_return (pc := 75) d_K_keepMember_75 rfl h
    · exact h_return (pc := 15) d_K_keepMember_15 rfl h
theorem p_K_keepEntries_2 (G : xG K) : ∀ (n : Nat) (v0 : Nat) (v1 : Nat) (v2 : Int32) (M : XM), g_K_keepEntries_2 n v0 v1 v2 M = some (o, N) → cA K y_K_keepEntries 2 [(0, .ref v0), (1, .ref v1), (2, .int v2)] [] M o N := by
  intro n
  induction n with
  | zero =>
    intro v0 v1 v2 M h
    rw [g_K_keepEntries_2] at h
    cases h
  | succ n ih =>
    intro v0 v1 v2 M h
    rw [g_K_keepEntries_2] at h
    refine x_iload_n (pc := 2) d_K_keepEntries_2 rfl 2 rfl ?_
    refine x_aload_n (pc := 3) d_K_keepEntries_3 rfl 1 rfl ?_
    refine h_getI G (pc := 4) (ci := 1) (j := 3) d_K_keepEntries_4 rfl rfl rfl lf_K_65 h fun t1 h => ?_
    refine h_icmp_ge (pc := 7) 34 d_K_keepEntries_7 (by decide) h (fun _ h => ?_) (fun _ h => ?_)
    · exact h_return (pc := 34) d_K_keepEntries_34 rfl h
    · refine x_aload_n (pc := 10) d_K_keepEntries_10 rfl 1 rfl ?_
      refine h_getR G (pc := 11) (ci := 1) (j := 1) d_K_keepEntries_11 rfl rfl rfl lf_K_70 h fun t2 h => ?_
      refine x_iload_n (pc := 14) d_K_keepEntries_14 rfl 2 rfl ?_
      refine h_aaload (pc := 15) (kd := 11) d_K_keepEntries_15 (by decide) rfl rfl h fun t3 h => ?_
      refine h_getI G (pc := 16) (ci := 3) (j := 3) d_K_keepEntries_16 rfl rfl rfl lf_K_74 h fun t4 h => ?_
      refine h_if_eq (pc := 19) 28 d_K_keepEntries_19 (by decide) h (fun _ h => ?_) (fun _ h => ?_)
      · refine x_iinc (pc := 28) (n := 2) (L' := [(0, .ref v0), (1, .ref v1), (2, .int (v2 + 1))]) d_K_keepEntries_28 (by decide) rfl rfl ?_
        refine x_goto (pc := 31) 2 d_K_keepEntries_31 (by decide) ?_
        refine x_weak [0, 1, 2] rfl ?_
        exact ih _ _ _ _ h
      · refine x_aload_n (pc := 22) d_K_keepEntries_22 rfl 0 rfl ?_
        refine x_aload_n (pc := 23) d_K_keepEntries_23 rfl 1 rfl ?_
        refine x_iload_n (pc := 24) d_K_keepEntries_24 rfl 2 rfl ?_
        obtain ⟨⟨ra5, ra5t⟩, h⟩ := h_ok h
        refine h_callV G (x_siteV G (pc := 25) (y2 := y_K_keepMember) (As := [.ref v1, .int v2]) (S := []) (ci := 4) d_K_keepEntries_25 rfl lm_K_80 mi_K_keepMember ms_K_keepMember mw_K_keepMember.1 mx_K_keepMember.1 mx_K_keepMember.2 rfl ra5 ra5t) mw_K_keepMember ⟨Nat.le_of_ble_eq_true rfl, Nat.le_of_ble_eq_true rfl⟩ rfl (fun _ _ e => p_K_keepMember G _ _ _ _ e) h fun M6 h => ?_
        refine x_iinc (pc := 28) (n := 2) (L' := [(0, .ref v0), (1, .ref v1), (2, .int (v2 + 1))]) d_K_keepEntries_28 (by decide) rfl rfl ?_
        refine x_goto (pc := 31) 2 d_K_keepEntries_31 (by decide) ?_
        refine x_weak [0, 1, 2] rfl ?_
        exact ih _ _ _ _ h
theorem p_K_keepEntries (G : xG K) (v0 : Nat) (v1 : Nat) (M : XM) (h : g_K_keepEntries v0 v1 M = some (o, N)) : Ct K y_K_keepEntries [.ref v0, .ref v1] M o N := by
  refine ct_of (by decide) (List.forall_mem_cons.mpr ⟨rfl, List.forall_mem_cons.mpr ⟨rfl, fun _ q => absurd q List.not_mem_nil⟩⟩) (Nat.le_of_ble_eq_true rfl) ?_
  show cA K y_K_keepEntries 0 [(0, .ref v0), (1, .ref v1)] [] M o N
  unfold g_K_keepEntries at h
  refine x_iconst (pc := 0) d_K_keepEntries_0 rfl ?_
  refine x_istore_n (pc := 1) (L' := [(0, .ref v0), (1, .ref v1), (2, .int 0)]) d_K_keepEntries_1 rfl (by decide) rfl ?_
  refine x_weak [0, 1, 2] rfl ?_
  exact p_K_keepEntries_2 G FU _ _ _ _ h
theorem p_S_usesConstant (G : xG K) (v0 : Int32) (M : XM) (h : g_S_usesConstant v0 M = some (o, N)) : Ct K y_S_usesConstant [.int v0] M o N := by
  refine ct_of (by decide) (List.forall_mem_cons.mpr ⟨rfl, fun _ q => absurd q List.not_mem_nil⟩) (Nat.le_of_ble_eq_true rfl) ?_
  show cA K y_S_usesConstant 0 [(0, .int v0)] [] M o N
  unfold g_S_usesConstant at h
  refine x_iload_n (pc := 0) d_S_usesConstant_0 rfl 0 rfl ?_
  refine h_if_eq (pc := 1) 19 d_S_usesConstant_1 (by decide) h (fun _ h => ?_) (fun _ h => ?_)
  · refine x_iconst (pc := 19) d_S_usesConstant_19 rfl ?_
    refine x_goto (pc := 20) 24 d_S_usesConstant_20 (by decide) ?_
    exact h_zreturn (pc := 24) d_S_usesConstant_24 rfl h
  · refine x_iload_n (pc := 4) d_S_usesConstant_4 rfl 0 rfl ?_
    refine x_iconst (pc := 5) d_S_usesConstant_5 rfl ?_
    refine h_icmp_eq (pc := 6) 19 d_S_usesConstant_6 (by decide) h (fun _ h => ?_) (fun _ h => ?_)
    · refine x_iconst (pc := 19) d_S_usesConstant_19 rfl ?_
      refine x_goto (pc := 20) 24 d_S_usesConstant_20 (by decide) ?_
      exact h_zreturn (pc := 24) d_S_usesConstant_24 rfl h
    · refine x_iload_n (pc := 9) d_S_usesConstant_9 rfl 0 rfl ?_
      refine x_iconst (pc := 10) d_S_usesConstant_10 rfl ?_
      refine h_icmp_eq (pc := 11) 19 d_S_usesConstant_11 (by decide) h (fun _ h => ?_) (fun _ h => ?_)
      · refine x_iconst (pc := 19) d_S_usesConstant_19 rfl ?_
        refine x_goto (pc := 20) 24 d_S_usesConstant_20 (by decide) ?_
        exact h_zreturn (pc := 24) d_S_usesConstant_24 rfl h
      · refine x_iload_n (pc := 14) d_S_usesConstant_14 rfl 0 rfl ?_
        refine x_iconst (pc := 15) d_S_usesConstant_15 rfl ?_
        refine h_icmp_ne (pc := 16) 23 d_S_usesConstant_16 (by decide) h (fun _ h => ?_) (fun _ h => ?_)
        · refine x_iconst (pc := 23) d_S_usesConstant_23 rfl ?_
          exact h_zreturn (pc := 24) d_S_usesConstant_24 rfl h
        · refine x_iconst (pc := 19) d_S_usesConstant_19 rfl ?_
          refine x_goto (pc := 20) 24 d_S_usesConstant_20 (by decide) ?_
          exact h_zreturn (pc := 24) d_S_usesConstant_24 rfl h
theorem p_K_keepConstant (G : xG K) (v0 : Nat) (v1 : Nat) (v2 : Int32) (v3 : Int32) (M : XM) (h : g_K_keepConstant v0 v1 v2 v3 M = some (o, N)) : Ct K y_K_keepConstant [.ref v0, .ref v1, .int v2, .int v3] M o N := by
  refine ct_of (by decide) (List.forall_mem_cons.mpr ⟨rfl, List.forall_mem_cons.mpr ⟨rfl, List.forall_mem_cons.mpr ⟨rfl, List.forall_mem_cons.mpr ⟨rfl, fun _ q => absurd q List.not_mem_nil⟩⟩⟩⟩) (Nat.le_of_ble_eq_true rfl) ?_
  show cA K y_K_keepConstant 0 [(0, .ref v0), (1, .ref v1), (2, .int v2), (3, .int v3)] [] M o N
  unfold g_K_keepConstant at h
  refine x_aload_n (pc := 0) d_K_keepConstant_0 rfl 1 rfl ?_
  refine h_getR G (pc := 1) (ci := 1) (j := 0) d_K_keepConstant_1 rfl rfl rfl lf_K_107 h fun t1 h => ?_
  refine x_iload_n (pc := 4) d_K_keepConstant_4 rfl 2 rfl ?_
  refine h_aaload (pc := 5) (kd := 10) d_K_keepConstant_5 (by decide) rfl rfl h fun t2 h => ?_
  refine x_astore (pc := 6) (L' := [(0, .ref v0), (1, .ref v1), (2, .int v2), (3, .int v3), (4, .ref t2)]) d_K_keepConstant_6 (by decide) rfl ?_
  refine x_aload_n (pc := 8) d_K_keepConstant_8 rfl 0 rfl ?_
  refine h_getR G (pc := 9) (ci := 4) (j := 2) d_K_keepConstant_9 rfl rfl rfl lf_K_20 h fun t3 h => ?_
  refine x_iload_n (pc := 12) d_K_keepConstant_12 rfl 2 rfl ?_
  refine h_aaload (pc := 13) (kd := 13) d_K_keepConstant_13 (by decide) rfl rfl h fun t4 h => ?_
  refine x_iload_n (pc := 14) d_K_keepConstant_14 rfl 3 rfl ?_
  refine x_iconst (pc := 15) d_K_keepConstant_15 rfl ?_
  refine h_iastore G (pc := 16) d_K_keepConstant_16 h fun M5 h => ?_
  refine x_aload (pc := 17) d_K_keepConstant_17 4 rfl ?_
  refine h_getR G (pc := 19) (ci := 2) (j := 0) d_K_keepConstant_19 rfl rfl rfl lf_K_111 h fun t6 h => ?_
  refine x_iload_n (pc := 22) d_K_keepConstant_22 rfl 3 rfl ?_
  refine h_iaload (pc := 23) d_K_keepConstant_23 h fun t7 h => ?_
  refine h_callI G (x_siteSN G (pc := 24) (y2 := y_S_hasTwoPlaces) (As := [.int t7]) (S := []) d_K_keepConstant_24 lm_K_116 mi_S_hasTwoPlaces mw_S_hasTwoPlaces.2 mw_S_hasTwoPlaces.1 mx_S_hasTwoPlaces.1 mx_S_hasTwoPlaces.2 rfl) mw_S_hasTwoPlaces ⟨Nat.le_of_ble_eq_true rfl, Nat.le_of_ble_eq_true rfl⟩ rfl (fun _ _ e => p_S_hasTwoPlaces G _ _ e) h fun t9 M8 h => ?_
  refine h_if_eq (pc := 27) 71 d_K_keepConstant_27 (by decide) h (fun _ h => ?_) (fun _ h => ?_)
  · exact h_return (pc := 71) d_K_keepConstant_71 rfl h
  · refine x_aload_n (pc := 30) d_K_keepConstant_30 rfl 0 rfl ?_
    refine h_getR G (pc := 31) (ci := 4) (j := 2) d_K_keepConstant_31 rfl rfl rfl lf_K_20 h fun t10 h => ?_
    refine x_iload_n (pc := 34) d_K_keepConstant_34 rfl 2 rfl ?_
    refine h_aaload (pc := 35) (kd := 13) d_K_keepConstant_35 (by decide) rfl rfl h fun t11 h => ?_
    refine x_aload (pc := 36) d_K_keepConstant_36 4 rfl ?_
    refine h_getR G (pc := 38) (ci := 2) (j := 1) d_K_keepConstant_38 rfl rfl rfl lf_K_119 h fun t12 h => ?_
    refine x_iload_n (pc := 41) d_K_keepConstant_41 rfl 3 rfl ?_
    refine h_iaload (pc := 42) d_K_keepConstant_42 h fun t13 h => ?_
    refine x_iconst (pc := 43) d_K_keepConstant_43 rfl ?_
    refine h_iastore G (pc := 44) d_K_keepConstant_44 h fun M14 h => ?_
    refine x_aload_n (pc := 45) d_K_keepConstant_45 rfl 0 rfl ?_
    refine h_getR G (pc := 46) (ci := 4) (j := 2) d_K_keepConstant_46 rfl rfl rfl lf_K_20 h fun t15 h => ?_
    refine x_iload_n (pc := 49) d_K_keepConstant_49 rfl 2 rfl ?_
    refine h_aaload (pc := 50) (kd := 13) d_K_keepConstant_50 (by decide) rfl rfl h fun t16 h => ?_
    refine x_aload (pc := 51) d_K_keepConstant_51 4 rfl ?_
    refine h_getR G (pc := 53) (ci := 2) (j := 2) d_K_keepConstant_53 rfl rfl rfl lf_K_122 h fun t17 h => ?_
    refine x_iload_n (pc := 56) d_K_keepConstant_56 rfl 3 rfl ?_
    refine h_iaload (pc := 57) d_K_keepConstant_57 h fun t18 h => ?_
    refine x_iconst (pc := 58) d_K_keepConstant_58 rfl ?_
    refine h_iastore G (pc := 59) d_K_keepConstant_59 h fun M19 h => ?_
    refine x_aload_n (pc := 60) d_K_keepConstant_60 rfl 0 rfl ?_
    refine x_aload_n (pc := 61) d_K_keepConstant_61 rfl 1 rfl ?_
    refine x_aload_n (pc := 62) d_K_keepConstant_62 rfl 1 rfl ?_
    refine x_iload_n (pc := 63) d_K_keepConstant_63 rfl 2 rfl ?_
    refine x_iload_n (pc := 64) d_K_keepConstant_64 rfl 3 rfl ?_
    obtain ⟨⟨ra20, ra20t⟩, h⟩ := h_ok h
    refine h_callI G (x_siteV G (pc := 65) (y2 := y_P_meant) (As := [.int v2, .int v3]) (S := [.ref v1, .ref v0]) (ci := 1) d_K_keepConstant_65 rfl lm_K_125 mi_P_meant ms_P_meant mw_P_meant.1 mx_P_meant.1 mx_P_meant.2 rfl ra20 ra20t) mw_P_meant ⟨Nat.le_of_ble_eq_true rfl, Nat.le_of_ble_eq_true rfl⟩ rfl (fun _ _ e => p_P_meant G _ _ _ _ e) h fun t22 M21 h => ?_
    obtain ⟨⟨ra23, ra23t⟩, h⟩ := h_ok h
    refine h_callV G (x_siteV G (pc := 68) (y2 := y_K_keepMember) (As := [.ref v1, .int t22]) (S := []) (ci := 4) d_K_keepConstant_68 rfl lm_K_80 mi_K_keepMember ms_K_keepMember mw_K_keepMember.1 mx_K_keepMember.1 mx_K_keepMember.2 rfl ra23 ra23t) mw_K_keepMember ⟨Nat.le_of_ble_eq_true rfl, Nat.le_of_ble_eq_true rfl⟩ rfl (fun _ _ e => p_K_keepMember G _ _ _ _ e) h fun M24 h => ?_
    exact h_return (pc := 71) d_K_keepConstant_71 rfl h
theorem p_K_keepReached_31 (G : xG K) {r2 : Nat → Nat → Int32 → XM → XP} (hr2 : ∀ w0 w1 w2 Q, r2 w0 w1 w2 Q = some (o, N) → cA K y_K_keepReached 2 [(0, .ref w0), (1, .ref w1), (2, .int w2)] [] Q o N) : ∀ (n : Nat) (v0 : Nat) (v1 : Nat) (v2 : Int32) (v3 : Nat) (v4 : Int32) (M : XM), g_K_keepReached_31 r2 n v0 v1 v2 v3 v4 M = some (o, N) → cA K y_K_keepReached 31 [(0, .ref v0), (1, .ref v1), (2, .int v2), (3, .ref v3), (4, .int v4)] [] M o N := by
  intro n
  induction n with
  | zero =>
    intro v0 v1 v2 v3 v4 M h
    rw [g_K_keepReached_31] at h
    cases h
  | succ n ih =>
    intro v0 v1 v2 v3 v4 M h
    rw [g_K_keepReached_31] at h
    refine x_iload (pc := 31) d_K_keepReached_31 4 rfl ?_
    refine x_aload_n (pc := 33) d_K_keepReached_33 rfl 3 rfl ?_
    refine h_getI G (pc := 34) (ci := 3) (j := 4) d_K_keepReached_34 rfl rfl rfl lf_K_84 h fun t1 h => ?_
    refine h_icmp_ge (pc := 37) 75 d_K_keepReached_37 (by decide) h (fun _ h => ?_) (fun _ h => ?_)
    · refine x_iinc (pc := 75) (n := 2) (L' := [(0, .ref v0), (1, .ref v1), (2, .int (v2 + 1)), (3, .ref v3), (4, .int v4)]) d_K_keepReached_75 (by decide) rfl rfl ?_
      refine x_goto (pc := 78) 2 d_K_keepReached_78 (by decide) ?_
      refine x_weak [0, 1, 2] rfl ?_
      exact hr2 _ _ _ _ h
    · refine x_aload_n (pc := 40) d_K_keepReached_40 rfl 3 rfl ?_
      refine h_getR G (pc := 41) (ci := 3) (j := 5) d_K_keepReached_41 rfl rfl rfl lf_K_87 h fun t2 h => ?_
      refine x_iload (pc := 44) d_K_keepReached_44 4 rfl ?_
      refine h_iaload (pc := 46) d_K_keepReached_46 h fun t3 h => ?_
      refine h_callI G (x_siteSN G (pc := 47) (y2 := y_S_usesConstant) (As := [.int t3]) (S := []) d_K_keepReached_47 lm_K_90 mi_S_usesConstant mw_S_usesConstant.2 mw_S_usesConstant.1 mx_S_usesConstant.1 mx_S_usesConstant.2 rfl) mw_S_usesConstant ⟨Nat.le_of_ble_eq_true rfl, Nat.le_of_ble_eq_true rfl⟩ rfl (fun _ _ e => p_S_usesConstant G _ _ e) h fun t5 M4 h => ?_
      refine h_if_eq (pc := 50) 69 d_K_keepReached_50 (by decide) h (fun _ h => ?_) (fun _ h => ?_)
      · refine x_iinc (pc := 69) (n := 4) (L' := [(0, .ref v0), (1, .ref v1), (2, .int v2), (3, .ref v3), (4, .int (v4 + 1))]) d_K_keepReached_69 (by decide) rfl rfl ?_
        refine x_goto (pc := 72) 31 d_K_keepReached_72 (by decide) ?_
        refine x_weak [0, 1, 2, 3, 4] rfl ?_
        exact ih _ _ _ _ _ _ h
      · refine x_aload_n (pc := 53) d_K_keepReached_53 rfl 0 rfl ?_
        refine x_aload_n (pc := 54) d_K_keepReached_54 rfl 1 rfl ?_
        refine x_aload_n (pc := 55) d_K_keepReached_55 rfl 3 rfl ?_
        refine h_getI G (pc := 56) (ci := 3) (j := 0) d_K_keepReached_56 rfl rfl rfl lf_K_94 h fun t6 h => ?_
        refine x_aload_n (pc := 59) d_K_keepReached_59 rfl 3 rfl ?_
        refine h_getR G (pc := 60) (ci := 3) (j := 6) d_K_keepReached_60 rfl rfl rfl lf_K_97 h fun t7 h => ?_
        refine x_iload (pc := 63) d_K_keepReached_63 4 rfl ?_
        refine h_iaload (pc := 65) d_K_keepReached_65 h fun t8 h => ?_
        obtain ⟨⟨ra9, ra9t⟩, h⟩ := h_ok h
        refine h_callV G (x_siteV G (pc := 66) (y2 := y_K_keepConstant) (As := [.ref v1, .int t6, .int t8]) (S := []) (ci := 4) d_K_keepReached_66 rfl lm_K_100 mi_K_keepConstant ms_K_keepConstant mw_K_keepConstant.1 mx_K_keepConstant.1 mx_K_keepConstant.2 rfl ra9 ra9t) mw_K_keepConstant ⟨Nat.le_of_ble_eq_true rfl, Nat.le_of_ble_eq_true rfl⟩ rfl (fun _ _ e => p_K_keepConstant G _ _ _ _ _ e) h fun M10 h => ?_
        refine x_iinc (pc := 69) (n := 4) (L' := [(0, .ref v0), (1, .ref v1), (2, .int v2), (3, .ref v3), (4, .int (v4 + 1))]) d_K_keepReached_69 (by decide) rfl rfl ?_
        refine x_goto (pc := 72) 31 d_K_keepReached_72 (by decide) ?_
        refine x_weak [0, 1, 2, 3, 4] rfl ?_
        exact ih _ _ _ _ _ _ h
theorem p_K_keepReached_2 (G : xG K) : ∀ (n : Nat) (v0 : Nat) (v1 : Nat) (v2 : Int32) (M : XM), g_K_keepReached_2 n v0 v1 v2 M = some (o, N) → cA K y_K_keepReached 2 [(0, .ref v0), (1, .ref v1), (2, .int v2)] [] M o N := by
  intro n
  induction n with
  | zero =>
    intro v0 v1 v2 M h
    rw [g_K_keepReached_2] at h
    cases h
  | succ n ih =>
    intro v0 v1 v2 M h
    rw [g_K_keepReached_2] at h
    refine x_iload_n (pc := 2) d_K_keepReached_2 rfl 2 rfl ?_
    refine x_aload_n (pc := 3) d_K_keepReached_3 rfl 0 rfl ?_
    refine h_getI G (pc := 4) (ci := 4) (j := 6) d_K_keepReached_4 rfl rfl rfl lf_K_61 h fun t1 h => ?_
    refine h_icmp_ge (pc := 7) 81 d_K_keepReached_7 (by decide) h (fun _ h => ?_) (fun _ h => ?_)
    · exact h_return (pc := 81) d_K_keepReached_81 rfl h
    · refine x_iload_n (pc := 10) d_K_keepReached_10 rfl 2 rfl ?_
      refine x_bipush (pc := 11) (v := 30) d_K_keepReached_11 (by decide) ?_
      refine h_icmp_ge (pc := 13) 81 d_K_keepReached_13 (by decide) h (fun _ h => ?_) (fun _ h => ?_)
      · exact h_return (pc := 81) d_K_keepReached_81 rfl h
      · refine x_aload_n (pc := 16) d_K_keepReached_16 rfl 1 rfl ?_
        refine h_getR G (pc := 17) (ci := 1) (j := 1) d_K_keepReached_17 rfl rfl rfl lf_K_70 h fun t2 h => ?_
        refine x_aload_n (pc := 20) d_K_keepReached_20 rfl 0 rfl ?_
        refine h_getR G (pc := 21) (ci := 4) (j := 5) d_K_keepReached_21 rfl rfl rfl lf_K_29 h fun t3 h => ?_
        refine x_iload_n (pc := 24) d_K_keepReached_24 rfl 2 rfl ?_
        refine h_iaload (pc := 25) d_K_keepReached_25 h fun t4 h => ?_
        refine h_aaload (pc := 26) (kd := 11) d_K_keepReached_26 (by decide) rfl rfl h fun t5 h => ?_
        refine x_astore_n (pc := 27) (L' := [(0, .ref v0), (1, .ref v1), (2, .int v2), (3, .ref t5)]) d_K_keepReached_27 rfl (by decide) rfl ?_
        refine x_iconst (pc := 28) d_K_keepReached_28 rfl ?_
        refine x_istore (pc := 29) (L' := [(0, .ref v0), (1, .ref v1), (2, .int v2), (3, .ref t5), (4, .int 0)]) d_K_keepReached_29 (by decide) rfl ?_
        refine x_weak [0, 1, 2, 3, 4] rfl ?_
        exact p_K_keepReached_31 G ih FU _ _ _ _ _ _ h
theorem p_K_keepReached (G : xG K) (v0 : Nat) (v1 : Nat) (M : XM) (h : g_K_keepReached v0 v1 M = some (o, N)) : Ct K y_K_keepReached [.ref v0, .ref v1] M o N := by
  refine ct_of (by decide) (List.forall_mem_cons.mpr ⟨rfl, List.forall_mem_cons.mpr ⟨rfl, fun _ q => absurd q List.not_mem_nil⟩⟩) (Nat.le_of_ble_eq_true rfl) ?_
  show cA K y_K_keepReached 0 [(0, .ref v0), (1, .ref v1)] [] M o N
  unfold g_K_keepReached at h
  refine x_iconst (pc := 0) d_K_keepReached_0 rfl ?_
  refine x_istore_n (pc := 1) (L' := [(0, .ref v0), (1, .ref v1), (2, .int 0)]) d_K_keepReached_1 rfl (by decide) rfl ?_
  refine x_weak [0, 1, 2] rfl ?_
  exact p_K_keepReached_2 G FU _ _ _ _ h
theorem p_K_closeUp_4 (G : xG K) : ∀ (n : Nat) (v0 : Nat) (v1 : Int32) (v2 : Int32) (v3 : Int32) (M : XM), g_K_closeUp_4 n v0 v1 v2 v3 M = some (o, N) → cA K y_K_closeUp 4 [(0, .ref v0), (1, .int v1), (2, .int v2), (3, .int v3)] [] M o N := by
  intro n
  induction n with
  | zero =>
    intro v0 v1 v2 v3 M h
    rw [g_K_closeUp_4] at h
    cases h
  | succ n ih =>
    intro v0 v1 v2 v3 M h
    rw [g_K_closeUp_4] at h
    refine x_iload_n (pc := 4) d_K_closeUp_4 rfl 3 rfl ?_
    refine x_iload_n (pc := 5) d_K_closeUp_5 rfl 1 rfl ?_
    refine h_icmp_ge (pc := 6) 29 d_K_closeUp_6 (by decide) h (fun _ h => ?_) (fun _ h => ?_)
    · exact h_return (pc := 29) d_K_closeUp_29 rfl h
    · refine x_aload_n (pc := 9) d_K_closeUp_9 rfl 0 rfl ?_
      refine x_iload_n (pc := 10) d_K_closeUp_10 rfl 3 rfl ?_
      refine h_iaload (pc := 11) d_K_closeUp_11 h fun t1 h => ?_
      refine x_iconst (pc := 12) d_K_closeUp_12 rfl ?_
      refine h_icmp_eq (pc := 13) 23 d_K_closeUp_13 (by decide) h (fun _ h => ?_) (fun _ h => ?_)
      · refine x_iinc (pc := 23) (n := 3) (L' := [(0, .ref v0), (1, .int v1), (2, .int v2), (3, .int (v3 + 1))]) d_K_closeUp_23 (by decide) rfl rfl ?_
        refine x_goto (pc := 26) 4 d_K_closeUp_26 (by decide) ?_
        refine x_weak [0, 1, 2, 3] rfl ?_
        exact ih _ _ _ _ _ h
      · refine x_aload_n (pc := 16) d_K_closeUp_16 rfl 0 rfl ?_
        refine x_iload_n (pc := 17) d_K_closeUp_17 rfl 3 rfl ?_
        refine x_iload_n (pc := 18) d_K_closeUp_18 rfl 2 rfl ?_
        refine h_iastore G (pc := 19) d_K_closeUp_19 h fun M2 h => ?_
        refine x_iinc (pc := 20) (n := 2) (L' := [(0, .ref v0), (1, .int v1), (2, .int (v2 + 1)), (3, .int v3)]) d_K_closeUp_20 (by decide) rfl rfl ?_
        refine x_iinc (pc := 23) (n := 3) (L' := [(0, .ref v0), (1, .int v1), (2, .int (v2 + 1)), (3, .int (v3 + 1))]) d_K_closeUp_23 (by decide) rfl rfl ?_
        refine x_goto (pc := 26) 4 d_K_closeUp_26 (by decide) ?_
        refine x_weak [0, 1, 2, 3] rfl ?_
        exact ih _ _ _ _ _ h
theorem p_K_closeUp (G : xG K) (v0 : Nat) (v1 : Int32) (M : XM) (h : g_K_closeUp v0 v1 M = some (o, N)) : Ct K y_K_closeUp [.ref v0, .int v1] M o N := by
  refine ct_of (by decide) (List.forall_mem_cons.mpr ⟨rfl, List.forall_mem_cons.mpr ⟨rfl, fun _ q => absurd q List.not_mem_nil⟩⟩) (Nat.le_of_ble_eq_true rfl) ?_
  show cA K y_K_closeUp 0 [(0, .ref v0), (1, .int v1)] [] M o N
  unfold g_K_closeUp at h
  refine x_iconst (pc := 0) d_K_closeUp_0 rfl ?_
  refine x_istore_n (pc := 1) (L' := [(0, .ref v0), (1, .int v1), (2, .int 0)]) d_K_closeUp_1 rfl (by decide) rfl ?_
  refine x_iconst (pc := 2) d_K_closeUp_2 rfl ?_
  refine x_istore_n (pc := 3) (L' := [(0, .ref v0), (1, .int v1), (2, .int 0), (3, .int 0)]) d_K_closeUp_3 rfl (by decide) rfl ?_
  refine x_weak [0, 1, 2, 3] rfl ?_
  exact p_K_closeUp_4 G FU _ _ _ _ _ h
theorem p_K_closeUpAll_24 (G : xG K) : ∀ (n : Nat) (v0 : Nat) (v1 : Nat) (v2 : Int32) (M : XM), g_K_closeUpAll_24 n v0 v1 v2 M = some (o, N) → cA K y_K_closeUpAll 24 [(0, .ref v0), (1, .ref v1), (2, .int v2)] [] M o N := by
  intro n
  induction n with
  | zero =>
    intro v0 v1 v2 M h
    rw [g_K_closeUpAll_24] at h
    cases h
  | succ n ih =>
    intro v0 v1 v2 M h
    rw [g_K_closeUpAll_24] at h
    refine x_iload_n (pc := 24) d_K_closeUpAll_24 rfl 2 rfl ?_
    refine x_aload_n (pc := 25) d_K_closeUpAll_25 rfl 1 rfl ?_
    refine h_getI G (pc := 26) (ci := 1) (j := 2) d_K_closeUpAll_26 rfl rfl rfl lf_K_132 h fun t1 h => ?_
    refine h_icmp_ge (pc := 29) 56 d_K_closeUpAll_29 (by decide) h (fun _ h => ?_) (fun _ h => ?_)
    · exact h_return (pc := 56) d_K_closeUpAll_56 rfl h
    · refine x_aload_n (pc := 32) d_K_closeUpAll_32 rfl 0 rfl ?_
      refine h_getR G (pc := 33) (ci := 4) (j := 2) d_K_closeUpAll_33 rfl rfl rfl lf_K_20 h fun t2 h => ?_
      refine x_iload_n (pc := 36) d_K_closeUpAll_36 rfl 2 rfl ?_
      refine h_aaload (pc := 37) (kd := 13) d_K_closeUpAll_37 (by decide) rfl rfl h fun t3 h => ?_
      refine x_aload_n (pc := 38) d_K_closeUpAll_38 rfl 1 rfl ?_
      refine h_getR G (pc := 39) (ci := 1) (j := 0) d_K_closeUpAll_39 rfl rfl rfl lf_K_107 h fun t4 h => ?_
      refine x_iload_n (pc := 42) d_K_closeUpAll_42 rfl 2 rfl ?_
      refine h_aaload (pc := 43) (kd := 10) d_K_closeUpAll_43 (by decide) rfl rfl h fun t5 h => ?_
      refine h_getI G (pc := 44) (ci := 2) (j := 3) d_K_closeUpAll_44 rfl rfl rfl lf_K_135 h fun t6 h => ?_
      refine h_callV G (x_siteS G (pc := 47) (y2 := y_K_closeUp) (As := [.ref t3, .int t6]) (S := []) d_K_closeUpAll_47 lm_K_129 mi_K_closeUp mw_K_closeUp.2 mw_K_closeUp.1 mx_K_closeUp.1 mx_K_closeUp.2 rfl) mw_K_closeUp ⟨Nat.le_of_ble_eq_true rfl, Nat.le_of_ble_eq_true rfl⟩ rfl (fun _ _ e => p_K_closeUp G _ _ _ e) h fun M7 h => ?_
      refine x_iinc (pc := 50) (n := 2) (L' := [(0, .ref v0), (1, .ref v1), (2, .int (v2 + 1))]) d_K_closeUpAll_50 (by decide) rfl rfl ?_
      refine x_goto (pc := 53) 24 d_K_closeUpAll_53 (by decide) ?_
      refine x_weak [0, 1, 2] rfl ?_
      exact ih _ _ _ _ h
theorem p_K_closeUpAll (G : xG K) (v0 : Nat) (v1 : Nat) (M : XM) (h : g_K_closeUpAll v0 v1 M = some (o, N)) : Ct K y_K_closeUpAll [.ref v0, .ref v1] M o N := by
  refine ct_of (by decide) (List.forall_mem_cons.mpr ⟨rfl, List.forall_mem_cons.mpr ⟨rfl, fun _ q => absurd q List.not_mem_nil⟩⟩) (Nat.le_of_ble_eq_true rfl) ?_
  show cA K y_K_closeUpAll 0 [(0, .ref v0), (1, .ref v1)] [] M o N
  unfold g_K_closeUpAll at h
  refine x_aload_n (pc := 0) d_K_closeUpAll_0 rfl 0 rfl ?_
  refine h_getR G (pc := 1) (ci := 4) (j := 0) d_K_closeUpAll_1 rfl rfl rfl lf_K_9 h fun t1 h => ?_
  refine x_aload_n (pc := 4) d_K_closeUpAll_4 rfl 1 rfl ?_
  refine h_getI G (pc := 5) (ci := 1) (j := 3) d_K_closeUpAll_5 rfl rfl rfl lf_K_65 h fun t2 h => ?_
  refine h_callV G (x_siteS G (pc := 8) (y2 := y_K_closeUp) (As := [.ref t1, .int t2]) (S := []) d_K_closeUpAll_8 lm_K_129 mi_K_closeUp mw_K_closeUp.2 mw_K_closeUp.1 mx_K_closeUp.1 mx_K_closeUp.2 rfl) mw_K_closeUp ⟨Nat.le_of_ble_eq_true rfl, Nat.le_of_ble_eq_true rfl⟩ rfl (fun _ _ e => p_K_closeUp G _ _ _ e) h fun M3 h => ?_
  refine x_aload_n (pc := 11) d_K_closeUpAll_11 rfl 0 rfl ?_
  refine h_getR G (pc := 12) (ci := 4) (j := 1) d_K_closeUpAll_12 rfl rfl rfl lf_K_15 h fun t4 h => ?_
  refine x_aload_n (pc := 15) d_K_closeUpAll_15 rfl 1 rfl ?_
  refine h_getI G (pc := 16) (ci := 1) (j := 2) d_K_closeUpAll_16 rfl rfl rfl lf_K_132 h fun t5 h => ?_
  refine h_callV G (x_siteS G (pc := 19) (y2 := y_K_closeUp) (As := [.ref t4, .int t5]) (S := []) d_K_closeUpAll_19 lm_K_129 mi_K_closeUp mw_K_closeUp.2 mw_K_closeUp.1 mx_K_closeUp.1 mx_K_closeUp.2 rfl) mw_K_closeUp ⟨Nat.le_of_ble_eq_true rfl, Nat.le_of_ble_eq_true rfl⟩ rfl (fun _ _ e => p_K_closeUp G _ _ _ e) h fun M6 h => ?_
  refine x_iconst (pc := 22) d_K_closeUpAll_22 rfl ?_
  refine x_istore_n (pc := 23) (L' := [(0, .ref v0), (1, .ref v1), (2, .int 0)]) d_K_closeUpAll_23 rfl (by decide) rfl ?_
  refine x_weak [0, 1, 2] rfl ?_
  exact p_K_closeUpAll_24 G FU _ _ _ _ h
end XG
