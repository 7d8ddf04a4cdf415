/-! laid by program from the bytecode: Q_init, B_init, P_init, A_fill, K_init, F_init, E_init, S_init, P_empty, S_clear, Q_has, Q_holds, S_hasTwoPlaces, B_isField, P_nameOf, P_find, P_meant, P_isSound, P_firstFault, S_fault, K_newNumber, S_moved, P_startClass, S_add, W_add, P_hasClass, P_allowsConstant, Q_append -/
theorem d_Q_init_0 : decode prog_5_method_1_code 0 = .ok (.aload_n 0, 1) := by decide +kernel
theorem d_Q_init_1 : decode prog_5_method_1_code 1 = .ok (.invokespecial 3, 3) := by decide +kernel
theorem d_Q_init_4 : decode prog_5_method_1_code 4 = .ok (.aload_n 0, 1) := by decide +kernel
theorem d_Q_init_5 : decode prog_5_method_1_code 5 = .ok (.bipush 20, 2) := by decide +kernel
theorem d_Q_init_7 : decode prog_5_method_1_code 7 = .ok (.newarray .int, 2) := by decide +kernel
theorem d_Q_init_9 : decode prog_5_method_1_code 9 = .ok (.putfield 9, 3) := by decide +kernel
theorem d_Q_init_12 : decode prog_5_method_1_code 12 = .ok (.aload_n 0, 1) := by decide +kernel
theorem d_Q_init_13 : decode prog_5_method_1_code 13 = .ok (.bipush 20, 2) := by decide +kernel
theorem d_Q_init_15 : decode prog_5_method_1_code 15 = .ok (.newarray .int, 2) := by decide +kernel
theorem d_Q_init_17 : decode prog_5_method_1_code 17 = .ok (.putfield 15, 3) := by decide +kernel
theorem d_Q_init_20 : decode prog_5_method_1_code 20 = .ok (.aload_n 0, 1) := by decide +kernel
theorem d_Q_init_21 : decode prog_5_method_1_code 21 = .ok (.bipush 20, 2) := by decide +kernel
theorem d_Q_init_23 : decode prog_5_method_1_code 23 = .ok (.newarray .int, 2) := by decide +kernel
theorem d_Q_init_25 : decode prog_5_method_1_code 25 = .ok (.putfield 18, 3) := by decide +kernel
theorem d_Q_init_28 : decode prog_5_method_1_code 28 = .ok (.return_, 1) := by decide +kernel
theorem d_B_init_0 : decode prog_4_method_1_code 0 = .ok (.aload_n 0, 1) := by decide +kernel
theorem d_B_init_1 : decode prog_4_method_1_code 1 = .ok (.invokespecial 3, 3) := by decide +kernel
theorem d_B_init_4 : decode prog_4_method_1_code 4 = .ok (.aload_n 0, 1) := by decide +kernel
theorem d_B_init_5 : decode prog_4_method_1_code 5 = .ok (.bipush 20, 2) := by decide +kernel
theorem d_B_init_7 : decode prog_4_method_1_code 7 = .ok (.newarray .int, 2) := by decide +kernel
theorem d_B_init_9 : decode prog_4_method_1_code 9 = .ok (.putfield 9, 3) := by decide +kernel
theorem d_B_init_12 : decode prog_4_method_1_code 12 = .ok (.aload_n 0, 1) := by decide +kernel
theorem d_B_init_13 : decode prog_4_method_1_code 13 = .ok (.bipush 20, 2) := by decide +kernel
theorem d_B_init_15 : decode prog_4_method_1_code 15 = .ok (.newarray .int, 2) := by decide +kernel
theorem d_B_init_17 : decode prog_4_method_1_code 17 = .ok (.putfield 15, 3) := by decide +kernel
theorem d_B_init_20 : decode prog_4_method_1_code 20 = .ok (.return_, 1) := by decide +kernel
theorem d_P_init_0 : decode prog_6_method_1_code 0 = .ok (.aload_n 0, 1) := by decide +kernel
theorem d_P_init_1 : decode prog_6_method_1_code 1 = .ok (.invokespecial 3, 3) := by decide +kernel
theorem d_P_init_4 : decode prog_6_method_1_code 4 = .ok (.aload_n 0, 1) := by decide +kernel
theorem d_P_init_5 : decode prog_6_method_1_code 5 = .ok (.bipush 6, 2) := by decide +kernel
theorem d_P_init_7 : decode prog_6_method_1_code 7 = .ok (.anewarray 9, 3) := by decide +kernel
theorem d_P_init_10 : decode prog_6_method_1_code 10 = .ok (.putfield 11, 3) := by decide +kernel
theorem d_P_init_13 : decode prog_6_method_1_code 13 = .ok (.aload_n 0, 1) := by decide +kernel
theorem d_P_init_14 : decode prog_6_method_1_code 14 = .ok (.bipush 30, 2) := by decide +kernel
theorem d_P_init_16 : decode prog_6_method_1_code 16 = .ok (.anewarray 17, 3) := by decide +kernel
theorem d_P_init_19 : decode prog_6_method_1_code 19 = .ok (.putfield 19, 3) := by decide +kernel
theorem d_P_init_22 : decode prog_6_method_1_code 22 = .ok (.iconst 0, 1) := by decide +kernel
theorem d_P_init_23 : decode prog_6_method_1_code 23 = .ok (.istore_n 1, 1) := by decide +kernel
theorem d_P_init_24 : decode prog_6_method_1_code 24 = .ok (.iload_n 1, 1) := by decide +kernel
theorem d_P_init_25 : decode prog_6_method_1_code 25 = .ok (.bipush 6, 2) := by decide +kernel
theorem d_P_init_27 : decode prog_6_method_1_code 27 = .ok (.if_icmp .ge 22, 3) := by decide +kernel
theorem d_P_init_30 : decode prog_6_method_1_code 30 = .ok (.aload_n 0, 1) := by decide +kernel
theorem d_P_init_31 : decode prog_6_method_1_code 31 = .ok (.getfield 11, 3) := by decide +kernel
theorem d_P_init_34 : decode prog_6_method_1_code 34 = .ok (.iload_n 1, 1) := by decide +kernel
theorem d_P_init_35 : decode prog_6_method_1_code 35 = .ok (.new 9, 3) := by decide +kernel
theorem d_P_init_38 : decode prog_6_method_1_code 38 = .ok (.dup, 1) := by decide +kernel
theorem d_P_init_39 : decode prog_6_method_1_code 39 = .ok (.invokespecial 23, 3) := by decide +kernel
theorem d_P_init_42 : decode prog_6_method_1_code 42 = .ok (.aastore, 1) := by decide +kernel
theorem d_P_init_43 : decode prog_6_method_1_code 43 = .ok (.iinc 1 1, 3) := by decide +kernel
theorem d_P_init_46 : decode prog_6_method_1_code 46 = .ok (.goto (-22), 3) := by decide +kernel
theorem d_P_init_49 : decode prog_6_method_1_code 49 = .ok (.iconst 0, 1) := by decide +kernel
theorem d_P_init_50 : decode prog_6_method_1_code 50 = .ok (.istore_n 1, 1) := by decide +kernel
theorem d_P_init_51 : decode prog_6_method_1_code 51 = .ok (.iload_n 1, 1) := by decide +kernel
theorem d_P_init_52 : decode prog_6_method_1_code 52 = .ok (.bipush 30, 2) := by decide +kernel
theorem d_P_init_54 : decode prog_6_method_1_code 54 = .ok (.if_icmp .ge 22, 3) := by decide +kernel
theorem d_P_init_57 : decode prog_6_method_1_code 57 = .ok (.aload_n 0, 1) := by decide +kernel
theorem d_P_init_58 : decode prog_6_method_1_code 58 = .ok (.getfield 19, 3) := by decide +kernel
theorem d_P_init_61 : decode prog_6_method_1_code 61 = .ok (.iload_n 1, 1) := by decide +kernel
theorem d_P_init_62 : decode prog_6_method_1_code 62 = .ok (.new 17, 3) := by decide +kernel
theorem d_P_init_65 : decode prog_6_method_1_code 65 = .ok (.dup, 1) := by decide +kernel
theorem d_P_init_66 : decode prog_6_method_1_code 66 = .ok (.invokespecial 24, 3) := by decide +kernel
theorem d_P_init_69 : decode prog_6_method_1_code 69 = .ok (.aastore, 1) := by decide +kernel
theorem d_P_init_70 : decode prog_6_method_1_code 70 = .ok (.iinc 1 1, 3) := by decide +kernel
theorem d_P_init_73 : decode prog_6_method_1_code 73 = .ok (.goto (-22), 3) := by decide +kernel
theorem d_P_init_76 : decode prog_6_method_1_code 76 = .ok (.return_, 1) := by decide +kernel
theorem d_A_fill_0 : decode prog_19_method_103_code 0 = .ok (.iconst 0, 1) := by decide +kernel
theorem d_A_fill_1 : decode prog_19_method_103_code 1 = .ok (.istore_n 2, 1) := by decide +kernel
theorem d_A_fill_2 : decode prog_19_method_103_code 2 = .ok (.aload_n 0, 1) := by decide +kernel
theorem d_A_fill_3 : decode prog_19_method_103_code 3 = .ok (.arraylength, 1) := by decide +kernel
theorem d_A_fill_4 : decode prog_19_method_103_code 4 = .ok (.istore_n 3, 1) := by decide +kernel
theorem d_A_fill_5 : decode prog_19_method_103_code 5 = .ok (.iload_n 2, 1) := by decide +kernel
theorem d_A_fill_6 : decode prog_19_method_103_code 6 = .ok (.iload_n 3, 1) := by decide +kernel
theorem d_A_fill_7 : decode prog_19_method_103_code 7 = .ok (.if_icmp .ge 13, 3) := by decide +kernel
theorem d_A_fill_10 : decode prog_19_method_103_code 10 = .ok (.aload_n 0, 1) := by decide +kernel
theorem d_A_fill_11 : decode prog_19_method_103_code 11 = .ok (.iload_n 2, 1) := by decide +kernel
theorem d_A_fill_12 : decode prog_19_method_103_code 12 = .ok (.iload_n 1, 1) := by decide +kernel
theorem d_A_fill_13 : decode prog_19_method_103_code 13 = .ok (.iastore, 1) := by decide +kernel
theorem d_A_fill_14 : decode prog_19_method_103_code 14 = .ok (.iinc 2 1, 3) := by decide +kernel
theorem d_A_fill_17 : decode prog_19_method_103_code 17 = .ok (.goto (-12), 3) := by decide +kernel
theorem d_A_fill_20 : decode prog_19_method_103_code 20 = .ok (.return_, 1) := by decide +kernel
theorem d_K_init_0 : decode prog_7_method_1_code 0 = .ok (.aload_n 0, 1) := by decide +kernel
theorem d_K_init_1 : decode prog_7_method_1_code 1 = .ok (.invokespecial 3, 3) := by decide +kernel
theorem d_K_init_4 : decode prog_7_method_1_code 4 = .ok (.aload_n 0, 1) := by decide +kernel
theorem d_K_init_5 : decode prog_7_method_1_code 5 = .ok (.bipush 30, 2) := by decide +kernel
theorem d_K_init_7 : decode prog_7_method_1_code 7 = .ok (.newarray .int, 2) := by decide +kernel
theorem d_K_init_9 : decode prog_7_method_1_code 9 = .ok (.putfield 9, 3) := by decide +kernel
theorem d_K_init_12 : decode prog_7_method_1_code 12 = .ok (.aload_n 0, 1) := by decide +kernel
theorem d_K_init_13 : decode prog_7_method_1_code 13 = .ok (.bipush 6, 2) := by decide +kernel
theorem d_K_init_15 : decode prog_7_method_1_code 15 = .ok (.newarray .int, 2) := by decide +kernel
theorem d_K_init_17 : decode prog_7_method_1_code 17 = .ok (.putfield 15, 3) := by decide +kernel
theorem d_K_init_20 : decode prog_7_method_1_code 20 = .ok (.aload_n 0, 1) := by decide +kernel
theorem d_K_init_21 : decode prog_7_method_1_code 21 = .ok (.bipush 6, 2) := by decide +kernel
theorem d_K_init_23 : decode prog_7_method_1_code 23 = .ok (.bipush 20, 2) := by decide +kernel
theorem d_K_init_25 : decode prog_7_method_1_code 25 = .ok (.multianewarray 18 2, 4) := by decide +kernel
theorem d_K_init_29 : decode prog_7_method_1_code 29 = .ok (.putfield 20, 3) := by decide +kernel
theorem d_K_init_32 : decode prog_7_method_1_code 32 = .ok (.aload_n 0, 1) := by decide +kernel
theorem d_K_init_33 : decode prog_7_method_1_code 33 = .ok (.bipush 100, 2) := by decide +kernel
theorem d_K_init_35 : decode prog_7_method_1_code 35 = .ok (.newarray .int, 2) := by decide +kernel
theorem d_K_init_37 : decode prog_7_method_1_code 37 = .ok (.putfield 23, 3) := by decide +kernel
theorem d_K_init_40 : decode prog_7_method_1_code 40 = .ok (.aload_n 0, 1) := by decide +kernel
theorem d_K_init_41 : decode prog_7_method_1_code 41 = .ok (.bipush 100, 2) := by decide +kernel
theorem d_K_init_43 : decode prog_7_method_1_code 43 = .ok (.newarray .int, 2) := by decide +kernel
theorem d_K_init_45 : decode prog_7_method_1_code 45 = .ok (.putfield 26, 3) := by decide +kernel
theorem d_K_init_48 : decode prog_7_method_1_code 48 = .ok (.aload_n 0, 1) := by decide +kernel
theorem d_K_init_49 : decode prog_7_method_1_code 49 = .ok (.bipush 30, 2) := by decide +kernel
theorem d_K_init_51 : decode prog_7_method_1_code 51 = .ok (.newarray .int, 2) := by decide +kernel
theorem d_K_init_53 : decode prog_7_method_1_code 53 = .ok (.putfield 29, 3) := by decide +kernel
theorem d_K_init_56 : decode prog_7_method_1_code 56 = .ok (.aload_n 0, 1) := by decide +kernel
theorem d_K_init_57 : decode prog_7_method_1_code 57 = .ok (.getfield 9, 3) := by decide +kernel
theorem d_K_init_60 : decode prog_7_method_1_code 60 = .ok (.iconst (-1), 1) := by decide +kernel
theorem d_K_init_61 : decode prog_7_method_1_code 61 = .ok (.invokestatic 32, 3) := by decide +kernel
theorem d_K_init_64 : decode prog_7_method_1_code 64 = .ok (.return_, 1) := by decide +kernel
theorem d_F_init_0 : decode prog_2_method_1_code 0 = .ok (.aload_n 0, 1) := by decide +kernel
theorem d_F_init_1 : decode prog_2_method_1_code 1 = .ok (.invokespecial 3, 3) := by decide +kernel
theorem d_F_init_4 : decode prog_2_method_1_code 4 = .ok (.aload_n 0, 1) := by decide +kernel
theorem d_F_init_5 : decode prog_2_method_1_code 5 = .ok (.bipush 8, 2) := by decide +kernel
theorem d_F_init_7 : decode prog_2_method_1_code 7 = .ok (.newarray .int, 2) := by decide +kernel
theorem d_F_init_9 : decode prog_2_method_1_code 9 = .ok (.putfield 9, 3) := by decide +kernel
theorem d_F_init_12 : decode prog_2_method_1_code 12 = .ok (.return_, 1) := by decide +kernel
theorem d_E_init_0 : decode prog_3_method_1_code 0 = .ok (.aload_n 0, 1) := by decide +kernel
theorem d_E_init_1 : decode prog_3_method_1_code 1 = .ok (.invokespecial 3, 3) := by decide +kernel
theorem d_E_init_4 : decode prog_3_method_1_code 4 = .ok (.aload_n 0, 1) := by decide +kernel
theorem d_E_init_5 : decode prog_3_method_1_code 5 = .ok (.bipush 30, 2) := by decide +kernel
theorem d_E_init_7 : decode prog_3_method_1_code 7 = .ok (.newarray .int, 2) := by decide +kernel
theorem d_E_init_9 : decode prog_3_method_1_code 9 = .ok (.putfield 9, 3) := by decide +kernel
theorem d_E_init_12 : decode prog_3_method_1_code 12 = .ok (.aload_n 0, 1) := by decide +kernel
theorem d_E_init_13 : decode prog_3_method_1_code 13 = .ok (.bipush 8, 2) := by decide +kernel
theorem d_E_init_15 : decode prog_3_method_1_code 15 = .ok (.anewarray 15, 3) := by decide +kernel
theorem d_E_init_18 : decode prog_3_method_1_code 18 = .ok (.putfield 17, 3) := by decide +kernel
theorem d_E_init_21 : decode prog_3_method_1_code 21 = .ok (.iconst 0, 1) := by decide +kernel
theorem d_E_init_22 : decode prog_3_method_1_code 22 = .ok (.istore_n 1, 1) := by decide +kernel
theorem d_E_init_23 : decode prog_3_method_1_code 23 = .ok (.iload_n 1, 1) := by decide +kernel
theorem d_E_init_24 : decode prog_3_method_1_code 24 = .ok (.bipush 8, 2) := by decide +kernel
theorem d_E_init_26 : decode prog_3_method_1_code 26 = .ok (.if_icmp .ge 22, 3) := by decide +kernel
theorem d_E_init_29 : decode prog_3_method_1_code 29 = .ok (.aload_n 0, 1) := by decide +kernel
theorem d_E_init_30 : decode prog_3_method_1_code 30 = .ok (.getfield 17, 3) := by decide +kernel
theorem d_E_init_33 : decode prog_3_method_1_code 33 = .ok (.iload_n 1, 1) := by decide +kernel
theorem d_E_init_34 : decode prog_3_method_1_code 34 = .ok (.new 15, 3) := by decide +kernel
theorem d_E_init_37 : decode prog_3_method_1_code 37 = .ok (.dup, 1) := by decide +kernel
theorem d_E_init_38 : decode prog_3_method_1_code 38 = .ok (.invokespecial 21, 3) := by decide +kernel
theorem d_E_init_41 : decode prog_3_method_1_code 41 = .ok (.aastore, 1) := by decide +kernel
theorem d_E_init_42 : decode prog_3_method_1_code 42 = .ok (.iinc 1 1, 3) := by decide +kernel
theorem d_E_init_45 : decode prog_3_method_1_code 45 = .ok (.goto (-22), 3) := by decide +kernel
theorem d_E_init_48 : decode prog_3_method_1_code 48 = .ok (.return_, 1) := by decide +kernel
theorem d_S_init_0 : decode prog_1_method_1_code 0 = .ok (.aload_n 0, 1) := by decide +kernel
theorem d_S_init_1 : decode prog_1_method_1_code 1 = .ok (.invokespecial 1, 3) := by decide +kernel
theorem d_S_init_4 : decode prog_1_method_1_code 4 = .ok (.aload_n 0, 1) := by decide +kernel
theorem d_S_init_5 : decode prog_1_method_1_code 5 = .ok (.new 7, 3) := by decide +kernel
theorem d_S_init_8 : decode prog_1_method_1_code 8 = .ok (.dup, 1) := by decide +kernel
theorem d_S_init_9 : decode prog_1_method_1_code 9 = .ok (.invokespecial 9, 3) := by decide +kernel
theorem d_S_init_12 : decode prog_1_method_1_code 12 = .ok (.putfield 10, 3) := by decide +kernel
theorem d_S_init_15 : decode prog_1_method_1_code 15 = .ok (.aload_n 0, 1) := by decide +kernel
theorem d_S_init_16 : decode prog_1_method_1_code 16 = .ok (.new 7, 3) := by decide +kernel
theorem d_S_init_19 : decode prog_1_method_1_code 19 = .ok (.dup, 1) := by decide +kernel
theorem d_S_init_20 : decode prog_1_method_1_code 20 = .ok (.invokespecial 9, 3) := by decide +kernel
theorem d_S_init_23 : decode prog_1_method_1_code 23 = .ok (.putfield 16, 3) := by decide +kernel
theorem d_S_init_26 : decode prog_1_method_1_code 26 = .ok (.aload_n 0, 1) := by decide +kernel
theorem d_S_init_27 : decode prog_1_method_1_code 27 = .ok (.new 19, 3) := by decide +kernel
theorem d_S_init_30 : decode prog_1_method_1_code 30 = .ok (.dup, 1) := by decide +kernel
theorem d_S_init_31 : decode prog_1_method_1_code 31 = .ok (.invokespecial 21, 3) := by decide +kernel
theorem d_S_init_34 : decode prog_1_method_1_code 34 = .ok (.putfield 22, 3) := by decide +kernel
theorem d_S_init_37 : decode prog_1_method_1_code 37 = .ok (.aload_n 0, 1) := by decide +kernel
theorem d_S_init_38 : decode prog_1_method_1_code 38 = .ok (.new 26, 3) := by decide +kernel
theorem d_S_init_41 : decode prog_1_method_1_code 41 = .ok (.dup, 1) := by decide +kernel
theorem d_S_init_42 : decode prog_1_method_1_code 42 = .ok (.invokespecial 28, 3) := by decide +kernel
theorem d_S_init_45 : decode prog_1_method_1_code 45 = .ok (.putfield 29, 3) := by decide +kernel
theorem d_S_init_48 : decode prog_1_method_1_code 48 = .ok (.return_, 1) := by decide +kernel
theorem d_P_empty_0 : decode prog_6_method_2_code 0 = .ok (.aload_n 0, 1) := by decide +kernel
theorem d_P_empty_1 : decode prog_6_method_2_code 1 = .ok (.iconst 0, 1) := by decide +kernel
theorem d_P_empty_2 : decode prog_6_method_2_code 2 = .ok (.putfield 25, 3) := by decide +kernel
theorem d_P_empty_5 : decode prog_6_method_2_code 5 = .ok (.aload_n 0, 1) := by decide +kernel
theorem d_P_empty_6 : decode prog_6_method_2_code 6 = .ok (.iconst 0, 1) := by decide +kernel
theorem d_P_empty_7 : decode prog_6_method_2_code 7 = .ok (.putfield 29, 3) := by decide +kernel
theorem d_P_empty_10 : decode prog_6_method_2_code 10 = .ok (.return_, 1) := by decide +kernel
theorem d_S_clear_0 : decode prog_1_method_7_code 0 = .ok (.aload_n 0, 1) := by decide +kernel
theorem d_S_clear_1 : decode prog_1_method_7_code 1 = .ok (.getfield 10, 3) := by decide +kernel
theorem d_S_clear_4 : decode prog_1_method_7_code 4 = .ok (.invokevirtual 121, 3) := by decide +kernel
theorem d_S_clear_7 : decode prog_1_method_7_code 7 = .ok (.return_, 1) := by decide +kernel
theorem d_Q_has_0 : decode prog_5_method_2_code 0 = .ok (.iload_n 1, 1) := by decide +kernel
theorem d_Q_has_1 : decode prog_5_method_2_code 1 = .ok (.ifCond .lt 15, 3) := by decide +kernel
theorem d_Q_has_4 : decode prog_5_method_2_code 4 = .ok (.iload_n 1, 1) := by decide +kernel
theorem d_Q_has_5 : decode prog_5_method_2_code 5 = .ok (.aload_n 0, 1) := by decide +kernel
theorem d_Q_has_6 : decode prog_5_method_2_code 6 = .ok (.getfield 21, 3) := by decide +kernel
theorem d_Q_has_9 : decode prog_5_method_2_code 9 = .ok (.if_icmp .ge 7, 3) := by decide +kernel
theorem d_Q_has_12 : decode prog_5_method_2_code 12 = .ok (.iconst 1, 1) := by decide +kernel
theorem d_Q_has_13 : decode prog_5_method_2_code 13 = .ok (.goto 4, 3) := by decide +kernel
theorem d_Q_has_16 : decode prog_5_method_2_code 16 = .ok (.iconst 0, 1) := by decide +kernel
theorem d_Q_has_17 : decode prog_5_method_2_code 17 = .ok (.ireturn, 1) := by decide +kernel
theorem d_Q_holds_0 : decode prog_5_method_3_code 0 = .ok (.aload_n 0, 1) := by decide +kernel
theorem d_Q_holds_1 : decode prog_5_method_3_code 1 = .ok (.iload_n 1, 1) := by decide +kernel
theorem d_Q_holds_2 : decode prog_5_method_3_code 2 = .ok (.invokevirtual 25, 3) := by decide +kernel
theorem d_Q_holds_5 : decode prog_5_method_3_code 5 = .ok (.ifCond .eq 17, 3) := by decide +kernel
theorem d_Q_holds_8 : decode prog_5_method_3_code 8 = .ok (.aload_n 0, 1) := by decide +kernel
theorem d_Q_holds_9 : decode prog_5_method_3_code 9 = .ok (.getfield 9, 3) := by decide +kernel
theorem d_Q_holds_12 : decode prog_5_method_3_code 12 = .ok (.iload_n 1, 1) := by decide +kernel
theorem d_Q_holds_13 : decode prog_5_method_3_code 13 = .ok (.iaload, 1) := by decide +kernel
theorem d_Q_holds_14 : decode prog_5_method_3_code 14 = .ok (.iload_n 2, 1) := by decide +kernel
theorem d_Q_holds_15 : decode prog_5_method_3_code 15 = .ok (.if_icmp .ne 7, 3) := by decide +kernel
theorem d_Q_holds_18 : decode prog_5_method_3_code 18 = .ok (.iconst 1, 1) := by decide +kernel
theorem d_Q_holds_19 : decode prog_5_method_3_code 19 = .ok (.goto 4, 3) := by decide +kernel
theorem d_Q_holds_22 : decode prog_5_method_3_code 22 = .ok (.iconst 0, 1) := by decide +kernel
theorem d_Q_holds_23 : decode prog_5_method_3_code 23 = .ok (.ireturn, 1) := by decide +kernel
theorem d_S_hasTwoPlaces_0 : decode prog_1_method_18_code 0 = .ok (.iload_n 0, 1) := by decide +kernel
theorem d_S_hasTwoPlaces_1 : decode prog_1_method_18_code 1 = .ok (.iconst 3, 1) := by decide +kernel
theorem d_S_hasTwoPlaces_2 : decode prog_1_method_18_code 2 = .ok (.if_icmp .eq 8, 3) := by decide +kernel
theorem d_S_hasTwoPlaces_5 : decode prog_1_method_18_code 5 = .ok (.iload_n 0, 1) := by decide +kernel
theorem d_S_hasTwoPlaces_6 : decode prog_1_method_18_code 6 = .ok (.iconst 4, 1) := by decide +kernel
theorem d_S_hasTwoPlaces_7 : decode prog_1_method_18_code 7 = .ok (.if_icmp .ne 7, 3) := by decide +kernel
theorem d_S_hasTwoPlaces_10 : decode prog_1_method_18_code 10 = .ok (.iconst 1, 1) := by decide +kernel
theorem d_S_hasTwoPlaces_11 : decode prog_1_method_18_code 11 = .ok (.goto 4, 3) := by decide +kernel
theorem d_S_hasTwoPlaces_14 : decode prog_1_method_18_code 14 = .ok (.iconst 0, 1) := by decide +kernel
theorem d_S_hasTwoPlaces_15 : decode prog_1_method_18_code 15 = .ok (.ireturn, 1) := by decide +kernel
theorem d_B_isField_0 : decode prog_4_method_3_code 0 = .ok (.aload_n 0, 1) := by decide +kernel
theorem d_B_isField_1 : decode prog_4_method_3_code 1 = .ok (.getfield 25, 3) := by decide +kernel
theorem d_B_isField_4 : decode prog_4_method_3_code 4 = .ok (.iconst (-1), 1) := by decide +kernel
theorem d_B_isField_5 : decode prog_4_method_3_code 5 = .ok (.if_icmp .ne 7, 3) := by decide +kernel
theorem d_B_isField_8 : decode prog_4_method_3_code 8 = .ok (.iconst 1, 1) := by decide +kernel
theorem d_B_isField_9 : decode prog_4_method_3_code 9 = .ok (.goto 4, 3) := by decide +kernel
theorem d_B_isField_12 : decode prog_4_method_3_code 12 = .ok (.iconst 0, 1) := by decide +kernel
theorem d_B_isField_13 : decode prog_4_method_3_code 13 = .ok (.ireturn, 1) := by decide +kernel
theorem d_P_nameOf_0 : decode prog_6_method_8_code 0 = .ok (.aload_n 0, 1) := by decide +kernel
theorem d_P_nameOf_1 : decode prog_6_method_8_code 1 = .ok (.getfield 19, 3) := by decide +kernel
theorem d_P_nameOf_4 : decode prog_6_method_8_code 4 = .ok (.iload_n 1, 1) := by decide +kernel
theorem d_P_nameOf_5 : decode prog_6_method_8_code 5 = .ok (.aaload, 1) := by decide +kernel
theorem d_P_nameOf_6 : decode prog_6_method_8_code 6 = .ok (.astore_n 2, 1) := by decide +kernel
theorem d_P_nameOf_7 : decode prog_6_method_8_code 7 = .ok (.aload_n 0, 1) := by decide +kernel
theorem d_P_nameOf_8 : decode prog_6_method_8_code 8 = .ok (.getfield 11, 3) := by decide +kernel
theorem d_P_nameOf_11 : decode prog_6_method_8_code 11 = .ok (.aload_n 2, 1) := by decide +kernel
theorem d_P_nameOf_12 : decode prog_6_method_8_code 12 = .ok (.getfield 45, 3) := by decide +kernel
theorem d_P_nameOf_15 : decode prog_6_method_8_code 15 = .ok (.aaload, 1) := by decide +kernel
theorem d_P_nameOf_16 : decode prog_6_method_8_code 16 = .ok (.getfield 48, 3) := by decide +kernel
theorem d_P_nameOf_19 : decode prog_6_method_8_code 19 = .ok (.aload_n 2, 1) := by decide +kernel
theorem d_P_nameOf_20 : decode prog_6_method_8_code 20 = .ok (.getfield 52, 3) := by decide +kernel
theorem d_P_nameOf_23 : decode prog_6_method_8_code 23 = .ok (.iaload, 1) := by decide +kernel
theorem d_P_nameOf_24 : decode prog_6_method_8_code 24 = .ok (.ireturn, 1) := by decide +kernel
theorem d_P_find_0 : decode prog_6_method_12_code 0 = .ok (.iconst 0, 1) := by decide +kernel
theorem d_P_find_1 : decode prog_6_method_12_code 1 = .ok (.istore 4, 2) := by decide +kernel
theorem d_P_find_3 : decode prog_6_method_12_code 3 = .ok (.iload 4, 2) := by decide +kernel
theorem d_P_find_5 : decode prog_6_method_12_code 5 = .ok (.aload_n 0, 1) := by decide +kernel
theorem d_P_find_6 : decode prog_6_method_12_code 6 = .ok (.getfield 29, 3) := by decide +kernel
theorem d_P_find_9 : decode prog_6_method_12_code 9 = .ok (.if_icmp .ge 49, 3) := by decide +kernel
theorem d_P_find_12 : decode prog_6_method_12_code 12 = .ok (.aload_n 0, 1) := by decide +kernel
theorem d_P_find_13 : decode prog_6_method_12_code 13 = .ok (.getfield 19, 3) := by decide +kernel
theorem d_P_find_16 : decode prog_6_method_12_code 16 = .ok (.iload 4, 2) := by decide +kernel
theorem d_P_find_18 : decode prog_6_method_12_code 18 = .ok (.aaload, 1) := by decide +kernel
theorem d_P_find_19 : decode prog_6_method_12_code 19 = .ok (.astore 5, 2) := by decide +kernel
theorem d_P_find_21 : decode prog_6_method_12_code 21 = .ok (.aload 5, 2) := by decide +kernel
theorem d_P_find_23 : decode prog_6_method_12_code 23 = .ok (.getfield 45, 3) := by decide +kernel
theorem d_P_find_26 : decode prog_6_method_12_code 26 = .ok (.iload_n 1, 1) := by decide +kernel
theorem d_P_find_27 : decode prog_6_method_12_code 27 = .ok (.if_icmp .ne 25, 3) := by decide +kernel
theorem d_P_find_30 : decode prog_6_method_12_code 30 = .ok (.aload 5, 2) := by decide +kernel
theorem d_P_find_32 : decode prog_6_method_12_code 32 = .ok (.invokevirtual 41, 3) := by decide +kernel
theorem d_P_find_35 : decode prog_6_method_12_code 35 = .ok (.iload_n 3, 1) := by decide +kernel
theorem d_P_find_36 : decode prog_6_method_12_code 36 = .ok (.if_icmp .ne 16, 3) := by decide +kernel
theorem d_P_find_39 : decode prog_6_method_12_code 39 = .ok (.aload_n 0, 1) := by decide +kernel
theorem d_P_find_40 : decode prog_6_method_12_code 40 = .ok (.iload 4, 2) := by decide +kernel
theorem d_P_find_42 : decode prog_6_method_12_code 42 = .ok (.invokevirtual 70, 3) := by decide +kernel
theorem d_P_find_45 : decode prog_6_method_12_code 45 = .ok (.iload_n 2, 1) := by decide +kernel
theorem d_P_find_46 : decode prog_6_method_12_code 46 = .ok (.if_icmp .ne 6, 3) := by decide +kernel
theorem d_P_find_49 : decode prog_6_method_12_code 49 = .ok (.iload 4, 2) := by decide +kernel
theorem d_P_find_51 : decode prog_6_method_12_code 51 = .ok (.ireturn, 1) := by decide +kernel
theorem d_P_find_52 : decode prog_6_method_12_code 52 = .ok (.iinc 4 1, 3) := by decide +kernel
theorem d_P_find_55 : decode prog_6_method_12_code 55 = .ok (.goto (-52), 3) := by decide +kernel
theorem d_P_find_58 : decode prog_6_method_12_code 58 = .ok (.iconst (-1), 1) := by decide +kernel
theorem d_P_find_59 : decode prog_6_method_12_code 59 = .ok (.ireturn, 1) := by decide +kernel
theorem d_P_meant_0 : decode prog_6_method_13_code 0 = .ok (.aload_n 0, 1) := by decide +kernel
theorem d_P_meant_1 : decode prog_6_method_13_code 1 = .ok (.getfield 11, 3) := by decide +kernel
theorem d_P_meant_4 : decode prog_6_method_13_code 4 = .ok (.iload_n 1, 1) := by decide +kernel
theorem d_P_meant_5 : decode prog_6_method_13_code 5 = .ok (.aaload, 1) := by decide +kernel
theorem d_P_meant_6 : decode prog_6_method_13_code 6 = .ok (.astore_n 3, 1) := by decide +kernel
theorem d_P_meant_7 : decode prog_6_method_13_code 7 = .ok (.aload_n 3, 1) := by decide +kernel
theorem d_P_meant_8 : decode prog_6_method_13_code 8 = .ok (.iload_n 2, 1) := by decide +kernel
theorem d_P_meant_9 : decode prog_6_method_13_code 9 = .ok (.invokevirtual 74, 3) := by decide +kernel
theorem d_P_meant_12 : decode prog_6_method_13_code 12 = .ok (.ifCond .eq 15, 3) := by decide +kernel
theorem d_P_meant_15 : decode prog_6_method_13_code 15 = .ok (.aload_n 3, 1) := by decide +kernel
theorem d_P_meant_16 : decode prog_6_method_13_code 16 = .ok (.getfield 77, 3) := by decide +kernel
theorem d_P_meant_19 : decode prog_6_method_13_code 19 = .ok (.iload_n 2, 1) := by decide +kernel
theorem d_P_meant_20 : decode prog_6_method_13_code 20 = .ok (.iaload, 1) := by decide +kernel
theorem d_P_meant_21 : decode prog_6_method_13_code 21 = .ok (.invokestatic 80, 3) := by decide +kernel
theorem d_P_meant_24 : decode prog_6_method_13_code 24 = .ok (.ifCond .ne 5, 3) := by decide +kernel
theorem d_P_meant_27 : decode prog_6_method_13_code 27 = .ok (.iconst (-1), 1) := by decide +kernel
theorem d_P_meant_28 : decode prog_6_method_13_code 28 = .ok (.ireturn, 1) := by decide +kernel
theorem d_P_meant_29 : decode prog_6_method_13_code 29 = .ok (.aload_n 3, 1) := by decide +kernel
theorem d_P_meant_30 : decode prog_6_method_13_code 30 = .ok (.getfield 48, 3) := by decide +kernel
theorem d_P_meant_33 : decode prog_6_method_13_code 33 = .ok (.aload_n 3, 1) := by decide +kernel
theorem d_P_meant_34 : decode prog_6_method_13_code 34 = .ok (.getfield 48, 3) := by decide +kernel
theorem d_P_meant_37 : decode prog_6_method_13_code 37 = .ok (.iload_n 2, 1) := by decide +kernel
theorem d_P_meant_38 : decode prog_6_method_13_code 38 = .ok (.iaload, 1) := by decide +kernel
theorem d_P_meant_39 : decode prog_6_method_13_code 39 = .ok (.iaload, 1) := by decide +kernel
theorem d_P_meant_40 : decode prog_6_method_13_code 40 = .ok (.istore 4, 2) := by decide +kernel
theorem d_P_meant_42 : decode prog_6_method_13_code 42 = .ok (.aload_n 3, 1) := by decide +kernel
theorem d_P_meant_43 : decode prog_6_method_13_code 43 = .ok (.getfield 48, 3) := by decide +kernel
theorem d_P_meant_46 : decode prog_6_method_13_code 46 = .ok (.aload_n 3, 1) := by decide +kernel
theorem d_P_meant_47 : decode prog_6_method_13_code 47 = .ok (.getfield 83, 3) := by decide +kernel
theorem d_P_meant_50 : decode prog_6_method_13_code 50 = .ok (.iload_n 2, 1) := by decide +kernel
theorem d_P_meant_51 : decode prog_6_method_13_code 51 = .ok (.iaload, 1) := by decide +kernel
theorem d_P_meant_52 : decode prog_6_method_13_code 52 = .ok (.iaload, 1) := by decide +kernel
theorem d_P_meant_53 : decode prog_6_method_13_code 53 = .ok (.istore 5, 2) := by decide +kernel
theorem d_P_meant_55 : decode prog_6_method_13_code 55 = .ok (.aload_n 0, 1) := by decide +kernel
theorem d_P_meant_56 : decode prog_6_method_13_code 56 = .ok (.iload 4, 2) := by decide +kernel
theorem d_P_meant_58 : decode prog_6_method_13_code 58 = .ok (.iload 5, 2) := by decide +kernel
theorem d_P_meant_60 : decode prog_6_method_13_code 60 = .ok (.aload_n 3, 1) := by decide +kernel
theorem d_P_meant_61 : decode prog_6_method_13_code 61 = .ok (.getfield 77, 3) := by decide +kernel
theorem d_P_meant_64 : decode prog_6_method_13_code 64 = .ok (.iload_n 2, 1) := by decide +kernel
theorem d_P_meant_65 : decode prog_6_method_13_code 65 = .ok (.iaload, 1) := by decide +kernel
theorem d_P_meant_66 : decode prog_6_method_13_code 66 = .ok (.iconst 3, 1) := by decide +kernel
theorem d_P_meant_67 : decode prog_6_method_13_code 67 = .ok (.if_icmp .ne 7, 3) := by decide +kernel
theorem d_P_meant_70 : decode prog_6_method_13_code 70 = .ok (.iconst 1, 1) := by decide +kernel
theorem d_P_meant_71 : decode prog_6_method_13_code 71 = .ok (.goto 4, 3) := by decide +kernel
theorem d_P_meant_74 : decode prog_6_method_13_code 74 = .ok (.iconst 0, 1) := by decide +kernel
theorem d_P_meant_75 : decode prog_6_method_13_code 75 = .ok (.invokevirtual 66, 3) := by decide +kernel
theorem d_P_meant_78 : decode prog_6_method_13_code 78 = .ok (.ireturn, 1) := by decide +kernel
theorem d_P_isSound_0 : decode prog_6_method_15_code 0 = .ok (.aload_n 0, 1) := by decide +kernel
theorem d_P_isSound_1 : decode prog_6_method_15_code 1 = .ok (.getfield 11, 3) := by decide +kernel
theorem d_P_isSound_4 : decode prog_6_method_15_code 4 = .ok (.aload_n 1, 1) := by decide +kernel
theorem d_P_isSound_5 : decode prog_6_method_15_code 5 = .ok (.getfield 45, 3) := by decide +kernel
theorem d_P_isSound_8 : decode prog_6_method_15_code 8 = .ok (.aaload, 1) := by decide +kernel
theorem d_P_isSound_9 : decode prog_6_method_15_code 9 = .ok (.astore 4, 2) := by decide +kernel
theorem d_P_isSound_11 : decode prog_6_method_15_code 11 = .ok (.iload_n 2, 1) := by decide +kernel
theorem d_P_isSound_12 : decode prog_6_method_15_code 12 = .ok (.tableswitch 162 0 10 #[60, 68, 68, 97, 126, 162, 162, 162, 162, 144, 144], 60) := by decide +kernel
theorem d_P_isSound_72 : decode prog_6_method_15_code 72 = .ok (.aload 4, 2) := by decide +kernel
theorem d_P_isSound_74 : decode prog_6_method_15_code 74 = .ok (.iload_n 3, 1) := by decide +kernel
theorem d_P_isSound_75 : decode prog_6_method_15_code 75 = .ok (.iconst 0, 1) := by decide +kernel
theorem d_P_isSound_76 : decode prog_6_method_15_code 76 = .ok (.invokevirtual 62, 3) := by decide +kernel
theorem d_P_isSound_79 : decode prog_6_method_15_code 79 = .ok (.ireturn, 1) := by decide +kernel
theorem d_P_isSound_80 : decode prog_6_method_15_code 80 = .ok (.aload 4, 2) := by decide +kernel
theorem d_P_isSound_82 : decode prog_6_method_15_code 82 = .ok (.iload_n 3, 1) := by decide +kernel
theorem d_P_isSound_83 : decode prog_6_method_15_code 83 = .ok (.iconst 3, 1) := by decide +kernel
theorem d_P_isSound_84 : decode prog_6_method_15_code 84 = .ok (.invokevirtual 62, 3) := by decide +kernel
theorem d_P_isSound_87 : decode prog_6_method_15_code 87 = .ok (.ifCond .eq 20, 3) := by decide +kernel
theorem d_P_isSound_90 : decode prog_6_method_15_code 90 = .ok (.aload_n 0, 1) := by decide +kernel
theorem d_P_isSound_91 : decode prog_6_method_15_code 91 = .ok (.aload_n 1, 1) := by decide +kernel
theorem d_P_isSound_92 : decode prog_6_method_15_code 92 = .ok (.getfield 45, 3) := by decide +kernel
theorem d_P_isSound_95 : decode prog_6_method_15_code 95 = .ok (.iload_n 3, 1) := by decide +kernel
theorem d_P_isSound_96 : decode prog_6_method_15_code 96 = .ok (.invokevirtual 99, 3) := by decide +kernel
theorem d_P_isSound_99 : decode prog_6_method_15_code 99 = .ok (.iconst (-1), 1) := by decide +kernel
theorem d_P_isSound_100 : decode prog_6_method_15_code 100 = .ok (.if_icmp .eq 7, 3) := by decide +kernel
theorem d_P_isSound_103 : decode prog_6_method_15_code 103 = .ok (.iconst 1, 1) := by decide +kernel
theorem d_P_isSound_104 : decode prog_6_method_15_code 104 = .ok (.goto 4, 3) := by decide +kernel
theorem d_P_isSound_107 : decode prog_6_method_15_code 107 = .ok (.iconst 0, 1) := by decide +kernel
theorem d_P_isSound_108 : decode prog_6_method_15_code 108 = .ok (.ireturn, 1) := by decide +kernel
theorem d_P_isSound_109 : decode prog_6_method_15_code 109 = .ok (.aload 4, 2) := by decide +kernel
theorem d_P_isSound_111 : decode prog_6_method_15_code 111 = .ok (.iload_n 3, 1) := by decide +kernel
theorem d_P_isSound_112 : decode prog_6_method_15_code 112 = .ok (.iconst 4, 1) := by decide +kernel
theorem d_P_isSound_113 : decode prog_6_method_15_code 113 = .ok (.invokevirtual 62, 3) := by decide +kernel
theorem d_P_isSound_116 : decode prog_6_method_15_code 116 = .ok (.ifCond .eq 20, 3) := by decide +kernel
theorem d_P_isSound_119 : decode prog_6_method_15_code 119 = .ok (.aload_n 0, 1) := by decide +kernel
theorem d_P_isSound_120 : decode prog_6_method_15_code 120 = .ok (.aload_n 1, 1) := by decide +kernel
theorem d_P_isSound_121 : decode prog_6_method_15_code 121 = .ok (.getfield 45, 3) := by decide +kernel
theorem d_P_isSound_124 : decode prog_6_method_15_code 124 = .ok (.iload_n 3, 1) := by decide +kernel
theorem d_P_isSound_125 : decode prog_6_method_15_code 125 = .ok (.invokevirtual 99, 3) := by decide +kernel
theorem d_P_isSound_128 : decode prog_6_method_15_code 128 = .ok (.iconst (-1), 1) := by decide +kernel
theorem d_P_isSound_129 : decode prog_6_method_15_code 129 = .ok (.if_icmp .eq 7, 3) := by decide +kernel
theorem d_P_isSound_132 : decode prog_6_method_15_code 132 = .ok (.iconst 1, 1) := by decide +kernel
theorem d_P_isSound_133 : decode prog_6_method_15_code 133 = .ok (.goto 4, 3) := by decide +kernel
theorem d_P_isSound_136 : decode prog_6_method_15_code 136 = .ok (.iconst 0, 1) := by decide +kernel
theorem d_P_isSound_137 : decode prog_6_method_15_code 137 = .ok (.ireturn, 1) := by decide +kernel
theorem d_P_isSound_138 : decode prog_6_method_15_code 138 = .ok (.iload_n 3, 1) := by decide +kernel
theorem d_P_isSound_139 : decode prog_6_method_15_code 139 = .ok (.ifCond .lt 15, 3) := by decide +kernel
theorem d_P_isSound_142 : decode prog_6_method_15_code 142 = .ok (.iload_n 3, 1) := by decide +kernel
theorem d_P_isSound_143 : decode prog_6_method_15_code 143 = .ok (.aload_n 1, 1) := by decide +kernel
theorem d_P_isSound_144 : decode prog_6_method_15_code 144 = .ok (.getfield 103, 3) := by decide +kernel
theorem d_P_isSound_147 : decode prog_6_method_15_code 147 = .ok (.if_icmp .ge 7, 3) := by decide +kernel
theorem d_P_isSound_150 : decode prog_6_method_15_code 150 = .ok (.iconst 1, 1) := by decide +kernel
theorem d_P_isSound_151 : decode prog_6_method_15_code 151 = .ok (.goto 4, 3) := by decide +kernel
theorem d_P_isSound_154 : decode prog_6_method_15_code 154 = .ok (.iconst 0, 1) := by decide +kernel
theorem d_P_isSound_155 : decode prog_6_method_15_code 155 = .ok (.ireturn, 1) := by decide +kernel
theorem d_P_isSound_156 : decode prog_6_method_15_code 156 = .ok (.iload_n 3, 1) := by decide +kernel
theorem d_P_isSound_157 : decode prog_6_method_15_code 157 = .ok (.ifCond .lt 15, 3) := by decide +kernel
theorem d_P_isSound_160 : decode prog_6_method_15_code 160 = .ok (.iload_n 3, 1) := by decide +kernel
theorem d_P_isSound_161 : decode prog_6_method_15_code 161 = .ok (.aload_n 1, 1) := by decide +kernel
theorem d_P_isSound_162 : decode prog_6_method_15_code 162 = .ok (.getfield 86, 3) := by decide +kernel
theorem d_P_isSound_165 : decode prog_6_method_15_code 165 = .ok (.if_icmp .ge 7, 3) := by decide +kernel
theorem d_P_isSound_168 : decode prog_6_method_15_code 168 = .ok (.iconst 1, 1) := by decide +kernel
theorem d_P_isSound_169 : decode prog_6_method_15_code 169 = .ok (.goto 4, 3) := by decide +kernel
theorem d_P_isSound_172 : decode prog_6_method_15_code 172 = .ok (.iconst 0, 1) := by decide +kernel
theorem d_P_isSound_173 : decode prog_6_method_15_code 173 = .ok (.ireturn, 1) := by decide +kernel
theorem d_P_isSound_174 : decode prog_6_method_15_code 174 = .ok (.iconst 1, 1) := by decide +kernel
theorem d_P_isSound_175 : decode prog_6_method_15_code 175 = .ok (.ireturn, 1) := by decide +kernel
theorem d_P_firstFault_0 : decode prog_6_method_14_code 0 = .ok (.iconst 0, 1) := by decide +kernel
theorem d_P_firstFault_1 : decode prog_6_method_14_code 1 = .ok (.istore_n 1, 1) := by decide +kernel
theorem d_P_firstFault_2 : decode prog_6_method_14_code 2 = .ok (.iload_n 1, 1) := by decide +kernel
theorem d_P_firstFault_3 : decode prog_6_method_14_code 3 = .ok (.aload_n 0, 1) := by decide +kernel
theorem d_P_firstFault_4 : decode prog_6_method_14_code 4 = .ok (.getfield 29, 3) := by decide +kernel
theorem d_P_firstFault_7 : decode prog_6_method_14_code 7 = .ok (.if_icmp .ge 59, 3) := by decide +kernel
theorem d_P_firstFault_10 : decode prog_6_method_14_code 10 = .ok (.aload_n 0, 1) := by decide +kernel
theorem d_P_firstFault_11 : decode prog_6_method_14_code 11 = .ok (.getfield 19, 3) := by decide +kernel
theorem d_P_firstFault_14 : decode prog_6_method_14_code 14 = .ok (.iload_n 1, 1) := by decide +kernel
theorem d_P_firstFault_15 : decode prog_6_method_14_code 15 = .ok (.aaload, 1) := by decide +kernel
theorem d_P_firstFault_16 : decode prog_6_method_14_code 16 = .ok (.astore_n 2, 1) := by decide +kernel
theorem d_P_firstFault_17 : decode prog_6_method_14_code 17 = .ok (.iconst 0, 1) := by decide +kernel
theorem d_P_firstFault_18 : decode prog_6_method_14_code 18 = .ok (.istore_n 3, 1) := by decide +kernel
theorem d_P_firstFault_19 : decode prog_6_method_14_code 19 = .ok (.iload_n 3, 1) := by decide +kernel
theorem d_P_firstFault_20 : decode prog_6_method_14_code 20 = .ok (.aload_n 2, 1) := by decide +kernel
theorem d_P_firstFault_21 : decode prog_6_method_14_code 21 = .ok (.getfield 86, 3) := by decide +kernel
theorem d_P_firstFault_24 : decode prog_6_method_14_code 24 = .ok (.if_icmp .ge 36, 3) := by decide +kernel
theorem d_P_firstFault_27 : decode prog_6_method_14_code 27 = .ok (.aload_n 0, 1) := by decide +kernel
theorem d_P_firstFault_28 : decode prog_6_method_14_code 28 = .ok (.aload_n 2, 1) := by decide +kernel
theorem d_P_firstFault_29 : decode prog_6_method_14_code 29 = .ok (.aload_n 2, 1) := by decide +kernel
theorem d_P_firstFault_30 : decode prog_6_method_14_code 30 = .ok (.getfield 89, 3) := by decide +kernel
theorem d_P_firstFault_33 : decode prog_6_method_14_code 33 = .ok (.iload_n 3, 1) := by decide +kernel
theorem d_P_firstFault_34 : decode prog_6_method_14_code 34 = .ok (.iaload, 1) := by decide +kernel
theorem d_P_firstFault_35 : decode prog_6_method_14_code 35 = .ok (.aload_n 2, 1) := by decide +kernel
theorem d_P_firstFault_36 : decode prog_6_method_14_code 36 = .ok (.getfield 92, 3) := by decide +kernel
theorem d_P_firstFault_39 : decode prog_6_method_14_code 39 = .ok (.iload_n 3, 1) := by decide +kernel
theorem d_P_firstFault_40 : decode prog_6_method_14_code 40 = .ok (.iaload, 1) := by decide +kernel
theorem d_P_firstFault_41 : decode prog_6_method_14_code 41 = .ok (.invokevirtual 95, 3) := by decide +kernel
theorem d_P_firstFault_44 : decode prog_6_method_14_code 44 = .ok (.ifCond .ne 10, 3) := by decide +kernel
theorem d_P_firstFault_47 : decode prog_6_method_14_code 47 = .ok (.bipush 100, 2) := by decide +kernel
theorem d_P_firstFault_49 : decode prog_6_method_14_code 49 = .ok (.iload_n 1, 1) := by decide +kernel
theorem d_P_firstFault_50 : decode prog_6_method_14_code 50 = .ok (.imul, 1) := by decide +kernel
theorem d_P_firstFault_51 : decode prog_6_method_14_code 51 = .ok (.iload_n 3, 1) := by decide +kernel
theorem d_P_firstFault_52 : decode prog_6_method_14_code 52 = .ok (.iadd, 1) := by decide +kernel
theorem d_P_firstFault_53 : decode prog_6_method_14_code 53 = .ok (.ireturn, 1) := by decide +kernel
theorem d_P_firstFault_54 : decode prog_6_method_14_code 54 = .ok (.iinc 3 1, 3) := by decide +kernel
theorem d_P_firstFault_57 : decode prog_6_method_14_code 57 = .ok (.goto (-38), 3) := by decide +kernel
theorem d_P_firstFault_60 : decode prog_6_method_14_code 60 = .ok (.iinc 1 1, 3) := by decide +kernel
theorem d_P_firstFault_63 : decode prog_6_method_14_code 63 = .ok (.goto (-61), 3) := by decide +kernel
theorem d_P_firstFault_66 : decode prog_6_method_14_code 66 = .ok (.iconst (-1), 1) := by decide +kernel
theorem d_P_firstFault_67 : decode prog_6_method_14_code 67 = .ok (.ireturn, 1) := by decide +kernel
theorem d_S_fault_0 : decode prog_1_method_8_code 0 = .ok (.aload_n 0, 1) := by decide +kernel
theorem d_S_fault_1 : decode prog_1_method_8_code 1 = .ok (.getfield 10, 3) := by decide +kernel
theorem d_S_fault_4 : decode prog_1_method_8_code 4 = .ok (.invokevirtual 124, 3) := by decide +kernel
theorem d_S_fault_7 : decode prog_1_method_8_code 7 = .ok (.ireturn, 1) := by decide +kernel
theorem d_K_newNumber_0 : decode prog_7_method_2_code 0 = .ok (.iload_n 1, 1) := by decide +kernel
theorem d_K_newNumber_1 : decode prog_7_method_2_code 1 = .ok (.ifCond .lt 18, 3) := by decide +kernel
theorem d_K_newNumber_4 : decode prog_7_method_2_code 4 = .ok (.iload_n 1, 1) := by decide +kernel
theorem d_K_newNumber_5 : decode prog_7_method_2_code 5 = .ok (.bipush 30, 2) := by decide +kernel
theorem d_K_newNumber_7 : decode prog_7_method_2_code 7 = .ok (.if_icmp .ge 12, 3) := by decide +kernel
theorem d_K_newNumber_10 : decode prog_7_method_2_code 10 = .ok (.aload_n 0, 1) := by decide +kernel
theorem d_K_newNumber_11 : decode prog_7_method_2_code 11 = .ok (.getfield 9, 3) := by decide +kernel
theorem d_K_newNumber_14 : decode prog_7_method_2_code 14 = .ok (.iload_n 1, 1) := by decide +kernel
theorem d_K_newNumber_15 : decode prog_7_method_2_code 15 = .ok (.iaload, 1) := by decide +kernel
theorem d_K_newNumber_16 : decode prog_7_method_2_code 16 = .ok (.goto 4, 3) := by decide +kernel
theorem d_K_newNumber_19 : decode prog_7_method_2_code 19 = .ok (.iconst (-1), 1) := by decide +kernel
theorem d_K_newNumber_20 : decode prog_7_method_2_code 20 = .ok (.ireturn, 1) := by decide +kernel
theorem d_S_moved_0 : decode prog_1_method_15_code 0 = .ok (.aload_n 0, 1) := by decide +kernel
theorem d_S_moved_1 : decode prog_1_method_15_code 1 = .ok (.getfield 22, 3) := by decide +kernel
theorem d_S_moved_4 : decode prog_1_method_15_code 4 = .ok (.iload_n 1, 1) := by decide +kernel
theorem d_S_moved_5 : decode prog_1_method_15_code 5 = .ok (.invokevirtual 187, 3) := by decide +kernel
theorem d_S_moved_8 : decode prog_1_method_15_code 8 = .ok (.ireturn, 1) := by decide +kernel
theorem d_P_startClass_0 : decode prog_6_method_3_code 0 = .ok (.aload_n 0, 1) := by decide +kernel
theorem d_P_startClass_1 : decode prog_6_method_3_code 1 = .ok (.getfield 11, 3) := by decide +kernel
theorem d_P_startClass_4 : decode prog_6_method_3_code 4 = .ok (.aload_n 0, 1) := by decide +kernel
theorem d_P_startClass_5 : decode prog_6_method_3_code 5 = .ok (.getfield 25, 3) := by decide +kernel
theorem d_P_startClass_8 : decode prog_6_method_3_code 8 = .ok (.aaload, 1) := by decide +kernel
theorem d_P_startClass_9 : decode prog_6_method_3_code 9 = .ok (.iconst 0, 1) := by decide +kernel
theorem d_P_startClass_10 : decode prog_6_method_3_code 10 = .ok (.putfield 32, 3) := by decide +kernel
theorem d_P_startClass_13 : decode prog_6_method_3_code 13 = .ok (.aload_n 0, 1) := by decide +kernel
theorem d_P_startClass_14 : decode prog_6_method_3_code 14 = .ok (.dup, 1) := by decide +kernel
theorem d_P_startClass_15 : decode prog_6_method_3_code 15 = .ok (.getfield 25, 3) := by decide +kernel
theorem d_P_startClass_18 : decode prog_6_method_3_code 18 = .ok (.iconst 1, 1) := by decide +kernel
theorem d_P_startClass_19 : decode prog_6_method_3_code 19 = .ok (.iadd, 1) := by decide +kernel
theorem d_P_startClass_20 : decode prog_6_method_3_code 20 = .ok (.putfield 25, 3) := by decide +kernel
theorem d_P_startClass_23 : decode prog_6_method_3_code 23 = .ok (.aload_n 0, 1) := by decide +kernel
theorem d_P_startClass_24 : decode prog_6_method_3_code 24 = .ok (.getfield 25, 3) := by decide +kernel
theorem d_P_startClass_27 : decode prog_6_method_3_code 27 = .ok (.iconst 1, 1) := by decide +kernel
theorem d_P_startClass_28 : decode prog_6_method_3_code 28 = .ok (.isub, 1) := by decide +kernel
theorem d_P_startClass_29 : decode prog_6_method_3_code 29 = .ok (.ireturn, 1) := by decide +kernel
theorem d_S_add_0 : decode prog_1_method_2_code 0 = .ok (.aload_n 0, 1) := by decide +kernel
theorem d_S_add_1 : decode prog_1_method_2_code 1 = .ok (.getfield 10, 3) := by decide +kernel
theorem d_S_add_4 : decode prog_1_method_2_code 4 = .ok (.getfield 33, 3) := by decide +kernel
theorem d_S_add_7 : decode prog_1_method_2_code 7 = .ok (.bipush 6, 2) := by decide +kernel
theorem d_S_add_9 : decode prog_1_method_2_code 9 = .ok (.if_icmp .lt 13, 3) := by decide +kernel
theorem d_S_add_12 : decode prog_1_method_2_code 12 = .ok (.new 37, 3) := by decide +kernel
theorem d_S_add_15 : decode prog_1_method_2_code 15 = .ok (.dup, 1) := by decide +kernel
theorem d_S_add_16 : decode prog_1_method_2_code 16 = .ok (.ldc 39, 2) := by decide +kernel
theorem d_S_add_18 : decode prog_1_method_2_code 18 = .ok (.invokespecial 41, 3) := by decide +kernel
theorem d_S_add_21 : decode prog_1_method_2_code 21 = .ok (.athrow, 1) := by decide +kernel
theorem d_S_add_22 : decode prog_1_method_2_code 22 = .ok (.aload_n 0, 1) := by decide +kernel
theorem d_S_add_23 : decode prog_1_method_2_code 23 = .ok (.getfield 10, 3) := by decide +kernel
theorem d_S_add_26 : decode prog_1_method_2_code 26 = .ok (.invokevirtual 44, 3) := by decide +kernel
theorem d_S_add_29 : decode prog_1_method_2_code 29 = .ok (.ireturn, 1) := by decide +kernel
theorem d_W_add_0 : decode method_3_code 0 = .ok (.aload_n 1, 1) := by decide +kernel
theorem d_W_add_1 : decode method_3_code 1 = .ok (.iconst 0, 1) := by decide +kernel
theorem d_W_add_2 : decode method_3_code 2 = .ok (.aload_n 0, 1) := by decide +kernel
theorem d_W_add_3 : decode method_3_code 3 = .ok (.invokevirtual 7, 3) := by decide +kernel
theorem d_W_add_6 : decode method_3_code 6 = .ok (.i2l, 1) := by decide +kernel
theorem d_W_add_7 : decode method_3_code 7 = .ok (.lastore, 1) := by decide +kernel
theorem d_W_add_8 : decode method_3_code 8 = .ok (.goto 6, 3) := by decide +kernel
theorem d_W_add_11 : decode method_3_code 11 = .ok (.astore_n 2, 1) := by decide +kernel
theorem d_W_add_12 : decode method_3_code 12 = .ok (.iconst 1, 1) := by decide +kernel
theorem d_W_add_13 : decode method_3_code 13 = .ok (.ireturn, 1) := by decide +kernel
theorem d_W_add_14 : decode method_3_code 14 = .ok (.iconst 0, 1) := by decide +kernel
theorem d_W_add_15 : decode method_3_code 15 = .ok (.ireturn, 1) := by decide +kernel
theorem d_P_hasClass_0 : decode prog_6_method_5_code 0 = .ok (.iload_n 1, 1) := by decide +kernel
theorem d_P_hasClass_1 : decode prog_6_method_5_code 1 = .ok (.ifCond .lt 15, 3) := by decide +kernel
theorem d_P_hasClass_4 : decode prog_6_method_5_code 4 = .ok (.iload_n 1, 1) := by decide +kernel
theorem d_P_hasClass_5 : decode prog_6_method_5_code 5 = .ok (.aload_n 0, 1) := by decide +kernel
theorem d_P_hasClass_6 : decode prog_6_method_5_code 6 = .ok (.getfield 25, 3) := by decide +kernel
theorem d_P_hasClass_9 : decode prog_6_method_5_code 9 = .ok (.if_icmp .ge 7, 3) := by decide +kernel
theorem d_P_hasClass_12 : decode prog_6_method_5_code 12 = .ok (.iconst 1, 1) := by decide +kernel
theorem d_P_hasClass_13 : decode prog_6_method_5_code 13 = .ok (.goto 4, 3) := by decide +kernel
theorem d_P_hasClass_16 : decode prog_6_method_5_code 16 = .ok (.iconst 0, 1) := by decide +kernel
theorem d_P_hasClass_17 : decode prog_6_method_5_code 17 = .ok (.ireturn, 1) := by decide +kernel
theorem d_P_allowsConstant_0 : decode prog_6_method_10_code 0 = .ok (.iload_n 2, 1) := by decide +kernel
theorem d_P_allowsConstant_1 : decode prog_6_method_10_code 1 = .ok (.tableswitch 94 0 4 #[35, 37, 53, 59, 59], 35) := by decide +kernel
theorem d_P_allowsConstant_36 : decode prog_6_method_10_code 36 = .ok (.iconst 1, 1) := by decide +kernel
theorem d_P_allowsConstant_37 : decode prog_6_method_10_code 37 = .ok (.ireturn, 1) := by decide +kernel
theorem d_P_allowsConstant_38 : decode prog_6_method_10_code 38 = .ok (.iload_n 3, 1) := by decide +kernel
theorem d_P_allowsConstant_39 : decode prog_6_method_10_code 39 = .ok (.ifCond .lt 13, 3) := by decide +kernel
theorem d_P_allowsConstant_42 : decode prog_6_method_10_code 42 = .ok (.iload_n 3, 1) := by decide +kernel
theorem d_P_allowsConstant_43 : decode prog_6_method_10_code 43 = .ok (.bipush 100, 2) := by decide +kernel
theorem d_P_allowsConstant_45 : decode prog_6_method_10_code 45 = .ok (.if_icmp .ge 7, 3) := by decide +kernel
theorem d_P_allowsConstant_48 : decode prog_6_method_10_code 48 = .ok (.iconst 1, 1) := by decide +kernel
theorem d_P_allowsConstant_49 : decode prog_6_method_10_code 49 = .ok (.goto 4, 3) := by decide +kernel
theorem d_P_allowsConstant_52 : decode prog_6_method_10_code 52 = .ok (.iconst 0, 1) := by decide +kernel
theorem d_P_allowsConstant_53 : decode prog_6_method_10_code 53 = .ok (.ireturn, 1) := by decide +kernel
theorem d_P_allowsConstant_54 : decode prog_6_method_10_code 54 = .ok (.aload_n 0, 1) := by decide +kernel
theorem d_P_allowsConstant_55 : decode prog_6_method_10_code 55 = .ok (.iload_n 3, 1) := by decide +kernel
theorem d_P_allowsConstant_56 : decode prog_6_method_10_code 56 = .ok (.invokevirtual 59, 3) := by decide +kernel
theorem d_P_allowsConstant_59 : decode prog_6_method_10_code 59 = .ok (.ireturn, 1) := by decide +kernel
theorem d_P_allowsConstant_60 : decode prog_6_method_10_code 60 = .ok (.aload_n 0, 1) := by decide +kernel
theorem d_P_allowsConstant_61 : decode prog_6_method_10_code 61 = .ok (.getfield 11, 3) := by decide +kernel
theorem d_P_allowsConstant_64 : decode prog_6_method_10_code 64 = .ok (.iload_n 1, 1) := by decide +kernel
theorem d_P_allowsConstant_65 : decode prog_6_method_10_code 65 = .ok (.aaload, 1) := by decide +kernel
theorem d_P_allowsConstant_66 : decode prog_6_method_10_code 66 = .ok (.iload_n 3, 1) := by decide +kernel
theorem d_P_allowsConstant_67 : decode prog_6_method_10_code 67 = .ok (.iconst 2, 1) := by decide +kernel
theorem d_P_allowsConstant_68 : decode prog_6_method_10_code 68 = .ok (.invokevirtual 62, 3) := by decide +kernel
theorem d_P_allowsConstant_71 : decode prog_6_method_10_code 71 = .ok (.ifCond .eq 22, 3) := by decide +kernel
theorem d_P_allowsConstant_74 : decode prog_6_method_10_code 74 = .ok (.aload_n 0, 1) := by decide +kernel
theorem d_P_allowsConstant_75 : decode prog_6_method_10_code 75 = .ok (.getfield 11, 3) := by decide +kernel
theorem d_P_allowsConstant_78 : decode prog_6_method_10_code 78 = .ok (.iload_n 1, 1) := by decide +kernel
theorem d_P_allowsConstant_79 : decode prog_6_method_10_code 79 = .ok (.aaload, 1) := by decide +kernel
theorem d_P_allowsConstant_80 : decode prog_6_method_10_code 80 = .ok (.iload 4, 2) := by decide +kernel
theorem d_P_allowsConstant_82 : decode prog_6_method_10_code 82 = .ok (.iconst 1, 1) := by decide +kernel
theorem d_P_allowsConstant_83 : decode prog_6_method_10_code 83 = .ok (.invokevirtual 62, 3) := by decide +kernel
theorem d_P_allowsConstant_86 : decode prog_6_method_10_code 86 = .ok (.ifCond .eq 7, 3) := by decide +kernel
theorem d_P_allowsConstant_89 : decode prog_6_method_10_code 89 = .ok (.iconst 1, 1) := by decide +kernel
theorem d_P_allowsConstant_90 : decode prog_6_method_10_code 90 = .ok (.goto 4, 3) := by decide +kernel
theorem d_P_allowsConstant_93 : decode prog_6_method_10_code 93 = .ok (.iconst 0, 1) := by decide +kernel
theorem d_P_allowsConstant_94 : decode prog_6_method_10_code 94 = .ok (.ireturn, 1) := by decide +kernel
theorem d_P_allowsConstant_95 : decode prog_6_method_10_code 95 = .ok (.iconst 0, 1) := by decide +kernel
theorem d_P_allowsConstant_96 : decode prog_6_method_10_code 96 = .ok (.ireturn, 1) := by decide +kernel
theorem d_Q_append_0 : decode prog_5_method_4_code 0 = .ok (.aload_n 0, 1) := by decide +kernel
theorem d_Q_append_1 : decode prog_5_method_4_code 1 = .ok (.getfield 9, 3) := by decide +kernel
theorem d_Q_append_4 : decode prog_5_method_4_code 4 = .ok (.aload_n 0, 1) := by decide +kernel
theorem d_Q_append_5 : decode prog_5_method_4_code 5 = .ok (.getfield 21, 3) := by decide +kernel
theorem d_Q_append_8 : decode prog_5_method_4_code 8 = .ok (.iload_n 1, 1) := by decide +kernel
theorem d_Q_append_9 : decode prog_5_method_4_code 9 = .ok (.iastore, 1) := by decide +kernel
theorem d_Q_append_10 : decode prog_5_method_4_code 10 = .ok (.aload_n 0, 1) := by decide +kernel
theorem d_Q_append_11 : decode prog_5_method_4_code 11 = .ok (.getfield 15, 3) := by decide +kernel
theorem d_Q_append_14 : decode prog_5_method_4_code 14 = .ok (.aload_n 0, 1) := by decide +kernel
theorem d_Q_append_15 : decode prog_5_method_4_code 15 = .ok (.getfield 21, 3) := by decide +kernel
theorem d_Q_append_18 : decode prog_5_method_4_code 18 = .ok (.iload_n 2, 1) := by decide +kernel
theorem d_Q_append_19 : decode prog_5_method_4_code 19 = .ok (.iastore, 1) := by decide +kernel
theorem d_Q_append_20 : decode prog_5_method_4_code 20 = .ok (.aload_n 0, 1) := by decide +kernel
theorem d_Q_append_21 : decode prog_5_method_4_code 21 = .ok (.getfield 18, 3) := by decide +kernel
theorem d_Q_append_24 : decode prog_5_method_4_code 24 = .ok (.aload_n 0, 1) := by decide +kernel
theorem d_Q_append_25 : decode prog_5_method_4_code 25 = .ok (.getfield 21, 3) := by decide +kernel
theorem d_Q_append_28 : decode prog_5_method_4_code 28 = .ok (.iload_n 3, 1) := by decide +kernel
theorem d_Q_append_29 : decode prog_5_method_4_code 29 = .ok (.iastore, 1) := by decide +kernel
theorem d_Q_append_30 : decode prog_5_method_4_code 30 = .ok (.aload_n 0, 1) := by decide +kernel
theorem d_Q_append_31 : decode prog_5_method_4_code 31 = .ok (.dup, 1) := by decide +kernel
theorem d_Q_append_32 : decode prog_5_method_4_code 32 = .ok (.getfield 21, 3) := by decide +kernel
theorem d_Q_append_35 : decode prog_5_method_4_code 35 = .ok (.iconst 1, 1) := by decide +kernel
theorem d_Q_append_36 : decode prog_5_method_4_code 36 = .ok (.iadd, 1) := by decide +kernel
theorem d_Q_append_37 : decode prog_5_method_4_code 37 = .ok (.putfield 21, 3) := by decide +kernel
theorem d_Q_append_40 : decode prog_5_method_4_code 40 = .ok (.aload_n 0, 1) := by decide +kernel
theorem d_Q_append_41 : decode prog_5_method_4_code 41 = .ok (.getfield 21, 3) := by decide +kernel
theorem d_Q_append_44 : decode prog_5_method_4_code 44 = .ok (.iconst 1, 1) := by decide +kernel
theorem d_Q_append_45 : decode prog_5_method_4_code 45 = .ok (.isub, 1) := by decide +kernel
theorem d_Q_append_46 : decode prog_5_method_4_code 46 = .ok (.ireturn, 1) := by decide +kernel
def g_Q_init (v0 : Nat) (M : XM) : XP :=
    nA M 0 20 fun t1 M2 =>
    uR M2 22 v0 0 t1 fun M3 =>
    nA M3 0 20 fun t4 M5 =>
    uR M5 22 v0 1 t4 fun M6 =>
    nA M6 0 20 fun t7 M8 =>
    uR M8 22 v0 2 t7 fun M9 =>
    some (.inl none, M9)
def g_B_init (v0 : Nat) (M : XM) : XP :=
    nA M 0 20 fun t1 M2 =>
    uR M2 23 v0 5 t1 fun M3 =>
    nA M3 0 20 fun t4 M5 =>
    uR M5 23 v0 6 t4 fun M6 =>
    some (.inl none, M6)
def g_P_init_51 : Nat → Nat → Int32 → XM → XP
  | 0, _, _, _ => none
  | n + 1, v0, v1, M =>
    if 30 ≤ v1 then
    (some (.inl none, M))
    else
    gR M 21 v0 1 fun t1 =>
    nO M 23 7 fun t2 M3 =>
    cV (g_B_init t2  M3) fun M4 =>
    sR M4 11 3 t1 v1 t2 fun M5 =>
    g_P_init_51 n v0 ((v1 + 1)) M5
def g_P_init_24 : Nat → Nat → Int32 → XM → XP
  | 0, _, _, _ => none
  | n + 1, v0, v1, M =>
    if 6 ≤ v1 then
    (g_P_init_51 FU v0 0 M)
    else
    gR M 21 v0 0 fun t1 =>
    nO M 22 4 fun t2 M3 =>
    cV (g_Q_init t2  M3) fun M4 =>
    sR M4 10 2 t1 v1 t2 fun M5 =>
    g_P_init_24 n v0 ((v1 + 1)) M5
def g_P_init (v0 : Nat) (M : XM) : XP :=
    nA M 10 6 fun t1 M2 =>
    uR M2 21 v0 0 t1 fun M3 =>
    nA M3 11 30 fun t4 M5 =>
    uR M5 21 v0 1 t4 fun M6 =>
    g_P_init_24 FU v0 0 M6
def g_A_fill_5 : Nat → Nat → Int32 → Int32 → Int32 → XM → XP
  | 0, _, _, _, _, _ => none
  | n + 1, v0, v1, v2, v3, M =>
    if v3 ≤ v2 then
    (some (.inl none, M))
    else
    sI M v0 v2 v1 fun M1 =>
    g_A_fill_5 n v0 v1 ((v2 + 1)) v3 M1
def g_A_fill (v0 : Nat) (v1 : Int32) (M : XM) : XP :=
    aL M v0 fun t1 =>
    g_A_fill_5 FU v0 v1 0 t1 M
def g_K_init (v0 : Nat) (M : XM) : XP :=
    nA M 0 30 fun t1 M2 =>
    uR M2 24 v0 0 t1 fun M3 =>
    nA M3 0 6 fun t4 M5 =>
    uR M5 24 v0 1 t4 fun M6 =>
    mA M6 6 20 fun t7 M8 =>
    uR M8 24 v0 2 t7 fun M9 =>
    nA M9 0 100 fun t10 M11 =>
    uR M11 24 v0 3 t10 fun M12 =>
    nA M12 0 100 fun t13 M14 =>
    uR M14 24 v0 4 t13 fun M15 =>
    nA M15 0 30 fun t16 M17 =>
    uR M17 24 v0 5 t16 fun M18 =>
    gR M18 24 v0 0 fun t19 =>
    cV (g_A_fill t19 (-1) M18) fun M20 =>
    some (.inl none, M20)
def g_F_init (v0 : Nat) (M : XM) : XP :=
    nA M 0 8 fun t1 M2 =>
    uR M2 25 v0 0 t1 fun M3 =>
    some (.inl none, M3)
def g_E_init_23 : Nat → Nat → Int32 → XM → XP
  | 0, _, _, _ => none
  | n + 1, v0, v1, M =>
    if 8 ≤ v1 then
    (some (.inl none, M))
    else
    gR M 26 v0 1 fun t1 =>
    nO M 25 6 fun t2 M3 =>
    cV (g_F_init t2  M3) fun M4 =>
    sR M4 12 5 t1 v1 t2 fun M5 =>
    g_E_init_23 n v0 ((v1 + 1)) M5
def g_E_init (v0 : Nat) (M : XM) : XP :=
    nA M 0 30 fun t1 M2 =>
    uR M2 26 v0 0 t1 fun M3 =>
    nA M3 12 8 fun t4 M5 =>
    uR M5 26 v0 1 t4 fun M6 =>
    g_E_init_23 FU v0 0 M6
def g_S_init (v0 : Nat) (M : XM) : XP :=
    nO M 21 4 fun t1 M2 =>
    cV (g_P_init t1  M2) fun M3 =>
    uR M3 20 v0 0 t1 fun M4 =>
    nO M4 21 4 fun t5 M6 =>
    cV (g_P_init t5  M6) fun M7 =>
    uR M7 20 v0 1 t5 fun M8 =>
    nO M8 24 7 fun t9 M10 =>
    cV (g_K_init t9  M10) fun M11 =>
    uR M11 20 v0 2 t9 fun M12 =>
    nO M12 26 4 fun t13 M14 =>
    cV (g_E_init t13  M14) fun M15 =>
    uR M15 20 v0 3 t13 fun M16 =>
    some (.inl none, M16)
def g_P_empty (v0 : Nat) (M : XM) : XP :=
    uI M 21 v0 2 0 fun M1 =>
    uI M1 21 v0 3 0 fun M2 =>
    some (.inl none, M2)
def g_S_clear (v0 : Nat) (M : XM) : XP :=
    gR M 20 v0 0 fun t1 =>
    rv M 21 t1 <|
    cV (g_P_empty t1  M) fun M3 =>
    some (.inl none, M3)
def g_Q_has (v0 : Nat) (v1 : Int32) (M : XM) : XP :=
    if v1 < 0 then
    (z01 0 (some (.inl (some (.int 0)), M)))
    else
    gI M 22 v0 3 fun t1 =>
    if t1 ≤ v1 then
    (z01 0 (some (.inl (some (.int 0)), M)))
    else
    z01 1 (some (.inl (some (.int 1)), M))
def g_Q_holds (v0 : Nat) (v1 : Int32) (v2 : Int32) (M : XM) : XP :=
    rv M 22 v0 <|
    cI (g_Q_has v0 v1 M) fun t3 M2 =>
    if t3 = 0 then
    (z01 0 (some (.inl (some (.int 0)), M2)))
    else
    gR M2 22 v0 0 fun t4 =>
    aI M2 t4 v1 fun t5 =>
    if ¬ t5 = v2 then
    (z01 0 (some (.inl (some (.int 0)), M2)))
    else
    z01 1 (some (.inl (some (.int 1)), M2))
def g_S_hasTwoPlaces (v0 : Int32) (M : XM) : XP :=
    if v0 = 3 then
    (z01 1 (some (.inl (some (.int 1)), M)))
    else
    if ¬ v0 = 4 then
    (z01 0 (some (.inl (some (.int 0)), M)))
    else
    z01 1 (some (.inl (some (.int 1)), M))
def g_B_isField (v0 : Nat) (M : XM) : XP :=
    gI M 23 v0 2 fun t1 =>
    if ¬ t1 = (-1) then
    (z01 0 (some (.inl (some (.int 0)), M)))
    else
    z01 1 (some (.inl (some (.int 1)), M))
def g_P_nameOf (v0 : Nat) (v1 : Int32) (M : XM) : XP :=
    gR M 21 v0 1 fun t1 =>
    aR M 11 t1 v1 fun t2 =>
    gR M 21 v0 0 fun t3 =>
    gI M 23 t2 0 fun t4 =>
    aR M 10 t3 t4 fun t5 =>
    gR M 22 t5 1 fun t6 =>
    gI M 23 t2 1 fun t7 =>
    aI M t6 t7 fun t8 =>
    some (.inl (some (.int t8)), M)
def g_P_find_3 : Nat → Nat → Int32 → Int32 → Int32 → Int32 → XM → XP
  | 0, _, _, _, _, _, _ => none
  | n + 1, v0, v1, v2, v3, v4, M =>
    gI M 21 v0 3 fun t1 =>
    if t1 ≤ v4 then
    (some (.inl (some (.int (-1))), M))
    else
    gR M 21 v0 1 fun t2 =>
    aR M 11 t2 v4 fun t3 =>
    gI M 23 t3 0 fun t4 =>
    if ¬ t4 = v1 then
    (g_P_find_3 n v0 v1 v2 v3 ((v4 + 1)) M)
    else
    rv M 23 t3 <|
    cI (g_B_isField t3  M) fun t7 M6 =>
    if ¬ t7 = v3 then
    (g_P_find_3 n v0 v1 v2 v3 ((v4 + 1)) M6)
    else
    rv M6 21 v0 <|
    cI (g_P_nameOf v0 v4 M6) fun t10 M9 =>
    if ¬ t10 = v2 then
    (g_P_find_3 n v0 v1 v2 v3 ((v4 + 1)) M9)
    else
    some (.inl (some (.int v4)), M9)
def g_P_find (v0 : Nat) (v1 : Int32) (v2 : Int32) (v3 : Int32) (M : XM) : XP :=
    g_P_find_3 FU v0 v1 v2 v3 0 M
def g_P_meant (v0 : Nat) (v1 : Int32) (v2 : Int32) (M : XM) : XP :=
    gR M 21 v0 0 fun t1 =>
    aR M 10 t1 v1 fun t2 =>
    rv M 22 t2 <|
    cI (g_Q_has t2 v2 M) fun t5 M4 =>
    if t5 = 0 then
    (some (.inl (some (.int (-1))), M4))
    else
    gR M4 22 t2 0 fun t6 =>
    aI M4 t6 v2 fun t7 =>
    cI (g_S_hasTwoPlaces t7 M4) fun t9 M8 =>
    if ¬ t9 = 0 then
    (gR M8 22 t2 1 fun t10 =>
    gR M8 22 t2 1 fun t11 =>
    aI M8 t11 v2 fun t12 =>
    aI M8 t10 t12 fun t13 =>
    gR M8 22 t2 1 fun t14 =>
    gR M8 22 t2 2 fun t15 =>
    aI M8 t15 v2 fun t16 =>
    aI M8 t14 t16 fun t17 =>
    gR M8 22 t2 0 fun t18 =>
    aI M8 t18 v2 fun t19 =>
    if ¬ t19 = 3 then
    (rv M8 21 v0 <|
    cI (g_P_find v0 t13 t17 0 M8) fun t22 M21 =>
    some (.inl (some (.int t22)), M21))
    else
    rv M8 21 v0 <|
    cI (g_P_find v0 t13 t17 1 M8) fun t25 M24 =>
    some (.inl (some (.int t25)), M24))
    else
    some (.inl (some (.int (-1))), M8)
def g_P_isSound_156 (v1 : Nat) (v3 : Int32) (M : XM) : XP :=
    if v3 < 0 then
    (z01 0 (some (.inl (some (.int 0)), M)))
    else
    gI M 23 v1 4 fun t1 =>
    if t1 ≤ v3 then
    (z01 0 (some (.inl (some (.int 0)), M)))
    else
    z01 1 (some (.inl (some (.int 1)), M))
def g_P_isSound_80 (v0 : Nat) (v1 : Nat) (v3 : Int32) (v4 : Nat) (M : XM) : XP :=
    rv M 22 v4 <|
    cI (g_Q_holds v4 v3 3 M) fun t3 M2 =>
    if t3 = 0 then
    (z01 0 (some (.inl (some (.int 0)), M2)))
    else
    gI M2 23 v1 0 fun t4 =>
    rv M2 21 v0 <|
    cI (g_P_meant v0 t4 v3 M2) fun t7 M6 =>
    if t7 = (-1) then
    (z01 0 (some (.inl (some (.int 0)), M6)))
    else
    z01 1 (some (.inl (some (.int 1)), M6))
def g_P_isSound (v0 : Nat) (v1 : Nat) (v2 : Int32) (v3 : Int32) (M : XM) : XP :=
    gR M 21 v0 0 fun t1 =>
    gI M 23 v1 0 fun t2 =>
    aR M 10 t1 t2 fun t3 =>
    if v2 = 0 then
    (rv M 22 t3 <|
    cI (g_Q_holds t3 v3 0 M) fun t14 M13 =>
    z01 t14 (some (.inl (some (.int t14)), M13)))
    else
    if v2 = 1 then
    (g_P_isSound_80 v0 v1 v3 t3 M)
    else
    if v2 = 2 then
    (g_P_isSound_80 v0 v1 v3 t3 M)
    else
    if v2 = 3 then
    (rv M 22 t3 <|
    cI (g_Q_holds t3 v3 4 M) fun t7 M6 =>
    if t7 = 0 then
    (z01 0 (some (.inl (some (.int 0)), M6)))
    else
    gI M6 23 v1 0 fun t8 =>
    rv M6 21 v0 <|
    cI (g_P_meant v0 t8 v3 M6) fun t11 M10 =>
    if t11 = (-1) then
    (z01 0 (some (.inl (some (.int 0)), M10)))
    else
    z01 1 (some (.inl (some (.int 1)), M10)))
    else
    if v2 = 4 then
    (if v3 < 0 then
    (z01 0 (some (.inl (some (.int 0)), M)))
    else
    gI M 23 v1 2 fun t4 =>
    if t4 ≤ v3 then
    (z01 0 (some (.inl (some (.int 0)), M)))
    else
    z01 1 (some (.inl (some (.int 1)), M)))
    else
    if v2 = 5 then
    (z01 1 (some (.inl (some (.int 1)), M)))
    else
    if v2 = 6 then
    (z01 1 (some (.inl (some (.int 1)), M)))
    else
    if v2 = 7 then
    (z01 1 (some (.inl (some (.int 1)), M)))
    else
    if v2 = 8 then
    (z01 1 (some (.inl (some (.int 1)), M)))
    else
    if v2 = 9 then
    (g_P_isSound_156 v1 v3 M)
    else
    if v2 = 10 then
    (g_P_isSound_156 v1 v3 M)
    else
    z01 1 (some (.inl (some (.int 1)), M))
def g_P_firstFault_19 (r2 : Nat → Int32 → XM → XP) : Nat → Nat → Int32 → Nat → Int32 → XM → XP
  | 0, _, _, _, _, _ => none
  | n + 1, v0, v1, v2, v3, M =>
    gI M 23 v2 4 fun t1 =>
    if t1 ≤ v3 then
    (r2 v0 ((v1 + 1)) M)
    else
    gR M 23 v2 5 fun t2 =>
    aI M t2 v3 fun t3 =>
    gR M 23 v2 6 fun t4 =>
    aI M t4 v3 fun t5 =>
    rv M 21 v0 <|
    cI (g_P_isSound v0 v2 t3 t5 M) fun t8 M7 =>
    if ¬ t8 = 0 then
    (g_P_firstFault_19 r2 n v0 v1 v2 ((v3 + 1)) M7)
    else
    some (.inl (some (.int ((100 * v1) + v3))), M7)
def g_P_firstFault_2 : Nat → Nat → Int32 → XM → XP
  | 0, _, _, _ => none
  | n + 1, v0, v1, M =>
    gI M 21 v0 3 fun t1 =>
    if t1 ≤ v1 then
    (some (.inl (some (.int (-1))), M))
    else
    gR M 21 v0 1 fun t2 =>
    aR M 11 t2 v1 fun t3 =>
    g_P_firstFault_19 (g_P_firstFault_2 n) FU v0 v1 t3 0 M
def g_P_firstFault (v0 : Nat) (M : XM) : XP :=
    g_P_firstFault_2 FU v0 0 M
def g_S_fault (v0 : Nat) (M : XM) : XP :=
    gR M 20 v0 0 fun t1 =>
    rv M 21 t1 <|
    cI (g_P_firstFault t1  M) fun t4 M3 =>
    some (.inl (some (.int t4)), M3)
def g_K_newNumber (v0 : Nat) (v1 : Int32) (M : XM) : XP :=
    if v1 < 0 then
    (some (.inl (some (.int (-1))), M))
    else
    if 30 ≤ v1 then
    (some (.inl (some (.int (-1))), M))
    else
    gR M 24 v0 0 fun t1 =>
    aI M t1 v1 fun t2 =>
    some (.inl (some (.int t2)), M)
def g_S_moved (v0 : Nat) (v1 : Int32) (M : XM) : XP :=
    gR M 20 v0 2 fun t1 =>
    rv M 24 t1 <|
    cI (g_K_newNumber t1 v1 M) fun t4 M3 =>
    some (.inl (some (.int t4)), M3)
def g_P_startClass (v0 : Nat) (M : XM) : XP :=
    gR M 21 v0 0 fun t1 =>
    gI M 21 v0 2 fun t2 =>
    aR M 10 t1 t2 fun t3 =>
    uI M 22 t3 3 0 fun M4 =>
    gI M4 21 v0 2 fun t5 =>
    uI M4 21 v0 2 (t5 + 1) fun M6 =>
    gI M6 21 v0 2 fun t7 =>
    some (.inl (some (.int (t7 - 1))), M6)
def g_S_add (v0 : Nat) (M : XM) : XP :=
    gR M 20 v0 0 fun t1 =>
    gI M 21 t1 2 fun t2 =>
    if t2 < 6 then
    (gR M 20 v0 0 fun t3 =>
    rv M 21 t3 <|
    cI (g_P_startClass t3  M) fun t6 M5 =>
    some (.inl (some (.int t6)), M5))
    else
    tX M 0
def g_W_add (v0 : Nat) (v1 : Nat) (M : XM) : XP :=
    rv M 20 v0 <|
    hI (g_S_add v0  M) (fun t3 M2 =>
    sJ M2 v1 0 ((t3).toInt64) fun M4 =>
    some (.inl (some (.int 0)), M4)) (fun a5 M6 =>
    if a5 < xz M6 ∧ (xt M6 a5).1 = 40 then
    (some (.inl (some (.int 1)), M6))
    else
    none)
def g_P_hasClass (v0 : Nat) (v1 : Int32) (M : XM) : XP :=
    if v1 < 0 then
    (z01 0 (some (.inl (some (.int 0)), M)))
    else
    gI M 21 v0 2 fun t1 =>
    if t1 ≤ v1 then
    (z01 0 (some (.inl (some (.int 0)), M)))
    else
    z01 1 (some (.inl (some (.int 1)), M))
def g_P_allowsConstant_60 (v0 : Nat) (v1 : Int32) (v3 : Int32) (v4 : Int32) (M : XM) : XP :=
    gR M 21 v0 0 fun t1 =>
    aR M 10 t1 v1 fun t2 =>
    rv M 22 t2 <|
    cI (g_Q_holds t2 v3 2 M) fun t5 M4 =>
    if t5 = 0 then
    (z01 0 (some (.inl (some (.int 0)), M4)))
    else
    gR M4 21 v0 0 fun t6 =>
    aR M4 10 t6 v1 fun t7 =>
    rv M4 22 t7 <|
    cI (g_Q_holds t7 v4 1 M4) fun t10 M9 =>
    if t10 = 0 then
    (z01 0 (some (.inl (some (.int 0)), M9)))
    else
    z01 1 (some (.inl (some (.int 1)), M9))
def g_P_allowsConstant (v0 : Nat) (v1 : Int32) (v2 : Int32) (v3 : Int32) (v4 : Int32) (M : XM) : XP :=
    if v2 = 0 then
    (z01 1 (some (.inl (some (.int 1)), M)))
    else
    if v2 = 1 then
    (if v3 < 0 then
    (z01 0 (some (.inl (some (.int 0)), M)))
    else
    if 100 ≤ v3 then
    (z01 0 (some (.inl (some (.int 0)), M)))
    else
    z01 1 (some (.inl (some (.int 1)), M)))
    else
    if v2 = 2 then
    (rv M 21 v0 <|
    cI (g_P_hasClass v0 v3 M) fun t3 M2 =>
    z01 t3 (some (.inl (some (.int t3)), M2)))
    else
    if v2 = 3 then
    (g_P_allowsConstant_60 v0 v1 v3 v4 M)
    else
    if v2 = 4 then
    (g_P_allowsConstant_60 v0 v1 v3 v4 M)
    else
    z01 0 (some (.inl (some (.int 0)), M))
def g_Q_append (v0 : Nat) (v1 : Int32) (v2 : Int32) (v3 : Int32) (M : XM) : XP :=
    gR M 22 v0 0 fun t1 =>
    gI M 22 v0 3 fun t2 =>
    sI M t1 t2 v1 fun M3 =>
    gR M3 22 v0 1 fun t4 =>
    gI M3 22 v0 3 fun t5 =>
    sI M3 t4 t5 v2 fun M6 =>
    gR M6 22 v0 2 fun t7 =>
    gI M6 22 v0 3 fun t8 =>
    sI M6 t7 t8 v3 fun M9 =>
    gI M9 22 v0 3 fun t10 =>
    uI M9 22 v0 3 (t10 + 1) fun M11 =>
    gI M11 22 v0 3 fun t12 =>
    some (.inl (some (.int (t12 - 1))), M11)
section XG
variable {K : XK} {o : XO} {N : XM}
theorem p_Q_init (G : xG K) (v0 : Nat) (M : XM) (h : g_Q_init v0 M = some (o, N)) : Ct K y_Q_init [.ref v0] M o N := by
  refine ct_of (by decide) (List.forall_mem_cons.mpr ⟨rfl, fun _ q => absurd q List.not_mem_nil⟩) (Nat.le_of_ble_eq_true rfl) ?_
  show cA K y_Q_init 0 [(0, .ref v0)] [] M o N
  unfold g_Q_init at h
  refine x_aload_n (pc := 0) d_Q_init_0 rfl 0 rfl ?_
  refine x_objInit G (pc := 1) d_Q_init_1 lm_Q_3 lj_1 lj_2 (Nat.le_of_ble_eq_true rfl) (Nat.le_of_ble_eq_true rfl) ?_
  refine x_aload_n (pc := 4) d_Q_init_4 rfl 0 rfl ?_
  refine x_bipush (pc := 5) (v := 20) d_Q_init_5 (by decide) ?_
  refine h_newarray G (pc := 7) (kd := 0) (ty := .int) d_Q_init_7 rfl la_int rfl (by decide) (by decide) h fun t1 M2 h => ?_
  refine h_putR G (pc := 9) (ci := 2) (j := 0) d_Q_init_9 rfl rfl rfl lf_Q_9 (Or.inr ⟨rfl, rfl⟩) (fun _ => rfl) (fun _ => rfl) h fun M3 h => ?_
  refine x_aload_n (pc := 12) d_Q_init_12 rfl 0 rfl ?_
  refine x_bipush (pc := 13) (v := 20) d_Q_init_13 (by decide) ?_
  refine h_newarray G (pc := 15) (kd := 0) (ty := .int) d_Q_init_15 rfl la_int rfl (by decide) (by decide) h fun t4 M5 h => ?_
  refine h_putR G (pc := 17) (ci := 2) (j := 1) d_Q_init_17 rfl rfl rfl lf_Q_15 (Or.inr ⟨rfl, rfl⟩) (fun _ => rfl) (fun _ => rfl) h fun M6 h => ?_
  refine x_aload_n (pc := 20) d_Q_init_20 rfl 0 rfl ?_
  refine x_bipush (pc := 21) (v := 20) d_Q_init_21 (by decide) ?_
  refine h_newarray G (pc := 23) (kd := 0) (ty := .int) d_Q_init_23 rfl la_int rfl (by decide) (by decide) h fun t7 M8 h => ?_
  refine h_putR G (pc := 25) (ci := 2) (j := 2) d_Q_init_25 rfl rfl rfl lf_Q_18 (Or.inr ⟨rfl, rfl⟩) (fun _ => rfl) (fun _ => rfl) h fun M9 h => ?_
  exact h_return (pc := 28) d_Q_init_28 rfl h
theorem p_B_init (G : xG K) (v0 : Nat) (M : XM) (h : g_B_init v0 M = some (o, N)) : Ct K y_B_init [.ref v0] M o N := by
  refine ct_of (by decide) (List.forall_mem_cons.mpr ⟨rfl, fun _ q => absurd q List.not_mem_nil⟩) (Nat.le_of_ble_eq_true rfl) ?_
  show cA K y_B_init 0 [(0, .ref v0)] [] M o N
  unfold g_B_init at h
  refine x_aload_n (pc := 0) d_B_init_0 rfl 0 rfl ?_
  refine x_objInit G (pc := 1) d_B_init_1 lm_B_3 lj_1 lj_2 (Nat.le_of_ble_eq_true rfl) (Nat.le_of_ble_eq_true rfl) ?_
  refine x_aload_n (pc := 4) d_B_init_4 rfl 0 rfl ?_
  refine x_bipush (pc := 5) (v := 20) d_B_init_5 (by decide) ?_
  refine h_newarray G (pc := 7) (kd := 0) (ty := .int) d_B_init_7 rfl la_int rfl (by decide) (by decide) h fun t1 M2 h => ?_
  refine h_putR G (pc := 9) (ci := 3) (j := 5) d_B_init_9 rfl rfl rfl lf_B_9 (Or.inr ⟨rfl, rfl⟩) (fun _ => rfl) (fun _ => rfl) h fun M3 h => ?_
  refine x_aload_n (pc := 12) d_B_init_12 rfl 0 rfl ?_
  refine x_bipush (pc := 13) (v := 20) d_B_init_13 (by decide) ?_
  refine h_newarray G (pc := 15) (kd := 0) (ty := .int) d_B_init_15 rfl la_int rfl (by decide) (by decide) h fun t4 M5 h => ?_
  refine h_putR G (pc := 17) (ci := 3) (j := 6) d_B_init_17 rfl rfl rfl lf_B_15 (Or.inr ⟨rfl, rfl⟩) (fun _ => rfl) (fun _ => rfl) h fun M6 h => ?_
  exact h_return (pc := 20) d_B_init_20 rfl h
theorem p_P_init_51 (G : xG K) : ∀ (n : Nat) (v0 : Nat) (v1 : Int32) (M : XM), g_P_init_51 n v0 v1 M = some (o, N) → cA K y_P_init 51 [(0, .ref v0), (1, .int v1)] [] M o N := by
  intro n
  induction n with
  | zero =>
    intro v0 v1 M h
    rw [g_P_init_51] at h
    cases h
  | succ n ih =>
    intro v0 v1 M h
    rw [g_P_init_51] at h
    refine x_iload_n (pc := 51) d_P_init_51 rfl 1 rfl ?_
    refine x_bipush (pc := 52) (v := 30) d_P_init_52 (by decide) ?_
    refine h_icmp_ge (pc := 54) 76 d_P_init_54 (by decide) h (fun _ h => ?_) (fun _ h => ?_)
    · exact h_return (pc := 76) d_P_init_76 rfl h
    · refine x_aload_n (pc := 57) d_P_init_57 rfl 0 rfl ?_
      refine h_getR G (pc := 58) (ci := 1) (j := 1) d_P_init_58 rfl rfl rfl lf_P_19 h fun t1 h => ?_
      refine x_iload_n (pc := 61) d_P_init_61 rfl 1 rfl ?_
      refine h_new G (pc := 62) (ci := 3) d_P_init_62 rfl rfl lc_P_17 li_B h fun t2 M3 h => ?_
      refine x_dup (pc := 65) d_P_init_65 rfl ?_
      refine h_callV G (x_siteIN G (pc := 66) (y2 := y_B_init) (As := []) (S := [.ref t2, .int v1, .ref t1]) d_P_init_66 rfl lm_P_24 mi_B_init mw_B_init.1 mx_B_init.1 mx_B_init.2 rfl) mw_B_init ⟨Nat.le_of_ble_eq_true rfl, Nat.le_of_ble_eq_true rfl⟩ rfl (fun _ _ e => p_B_init G _ _ e) h fun M4 h => ?_
      refine h_aastore G (pc := 69) (kd := 11) (ci := 3) d_P_init_69 (by decide) (by decide) rfl rfl h fun M5 h => ?_
      refine x_iinc (pc := 70) (n := 1) (L' := [(0, .ref v0), (1, .int (v1 + 1))]) d_P_init_70 (by decide) rfl rfl ?_
      refine x_goto (pc := 73) 51 d_P_init_73 (by decide) ?_
      refine x_weak [0, 1] rfl ?_
      exact ih _ _ _ h
theorem p_P_init_24 (G : xG K) : ∀ (n : Nat) (v0 : Nat) (v1 : Int32) (M : XM), g_P_init_24 n v0 v1 M = some (o, N) → cA K y_P_init 24 [(0, .ref v0), (1, .int v1)] [] M o N := by
  intro n
  induction n with
  | zero =>
    intro v0 v1 M h
    rw [g_P_init_24] at h
    cases h
  | succ n ih =>
    intro v0 v1 M h
    rw [g_P_init_24] at h
    refine x_iload_n (pc := 24) d_P_init_24 rfl 1 rfl ?_
    refine x_bipush (pc := 25) (v := 6) d_P_init_25 (by decide) ?_
    refine h_icmp_ge (pc := 27) 49 d_P_init_27 (by decide) h (fun _ h => ?_) (fun _ h => ?_)
    · refine x_iconst (pc := 49) d_P_init_49 rfl ?_
      refine x_istore_n (pc := 50) (L' := [(0, .ref v0), (1, .int 0)]) d_P_init_50 rfl (by decide) rfl ?_
      refine x_weak [0, 1] rfl ?_
      exact p_P_init_51 G FU _ _ _ h
    · refine x_aload_n (pc := 30) d_P_init_30 rfl 0 rfl ?_
      refine h_getR G (pc := 31) (ci := 1) (j := 0) d_P_init_31 rfl rfl rfl lf_P_11 h fun t1 h => ?_
      refine x_iload_n (pc := 34) d_P_init_34 rfl 1 rfl ?_
      refine h_new G (pc := 35) (ci := 2) d_P_init_35 rfl rfl lc_P_9 li_Q h fun t2 M3 h => ?_
      refine x_dup (pc := 38) d_P_init_38 rfl ?_
      refine h_callV G (x_siteIN G (pc := 39) (y2 := y_Q_init) (As := []) (S := [.ref t2, .int v1, .ref t1]) d_P_init_39 rfl lm_P_23 mi_Q_init mw_Q_init.1 mx_Q_init.1 mx_Q_init.2 rfl) mw_Q_init ⟨Nat.le_of_ble_eq_true rfl, Nat.le_of_ble_eq_true rfl⟩ rfl (fun _ _ e => p_Q_init G _ _ e) h fun M4 h => ?_
      refine h_aastore G (pc := 42) (kd := 10) (ci := 2) d_P_init_42 (by decide) (by decide) rfl rfl h fun M5 h => ?_
      refine x_iinc (pc := 43) (n := 1) (L' := [(0, .ref v0), (1, .int (v1 + 1))]) d_P_init_43 (by decide) rfl rfl ?_
      refine x_goto (pc := 46) 24 d_P_init_46 (by decide) ?_
      refine x_weak [0, 1] rfl ?_
      exact ih _ _ _ h
theorem p_P_init (G : xG K) (v0 : Nat) (M : XM) (h : g_P_init v0 M = some (o, N)) : Ct K y_P_init [.ref v0] M o N := by
  refine ct_of (by decide) (List.forall_mem_cons.mpr ⟨rfl, fun _ q => absurd q List.not_mem_nil⟩) (Nat.le_of_ble_eq_true rfl) ?_
  show cA K y_P_init 0 [(0, .ref v0)] [] M o N
  unfold g_P_init at h
  refine x_aload_n (pc := 0) d_P_init_0 rfl 0 rfl ?_
  refine x_objInit G (pc := 1) d_P_init_1 lm_P_3 lj_1 lj_2 (Nat.le_of_ble_eq_true rfl) (Nat.le_of_ble_eq_true rfl) ?_
  refine x_aload_n (pc := 4) d_P_init_4 rfl 0 rfl ?_
  refine x_bipush (pc := 5) (v := 6) d_P_init_5 (by decide) ?_
  refine h_anewarray G (pc := 7) (kd := 10) (nm := "ShakenTree$Pool") d_P_init_7 lc_P_9 lo_Q rfl (by decide) (by decide) h fun t1 M2 h => ?_
  refine h_putR G (pc := 10) (ci := 1) (j := 0) d_P_init_10 rfl rfl rfl lf_P_11 (Or.inr ⟨rfl, rfl⟩) (fun _ => rfl) (fun _ => rfl) h fun M3 h => ?_
  refine x_aload_n (pc := 13) d_P_init_13 rfl 0 rfl ?_
  refine x_bipush (pc := 14) (v := 30) d_P_init_14 (by decide) ?_
  refine h_anewarray G (pc := 16) (kd := 11) (nm := "ShakenTree$Member") d_P_init_16 lc_P_17 lo_B rfl (by decide) (by decide) h fun t4 M5 h => ?_
  refine h_putR G (pc := 19) (ci := 1) (j := 1) d_P_init_19 rfl rfl rfl lf_P_19 (Or.inr ⟨rfl, rfl⟩) (fun _ => rfl) (fun _ => rfl) h fun M6 h => ?_
  refine x_iconst (pc := 22) d_P_init_22 rfl ?_
  refine x_istore_n (pc := 23) (L' := [(0, .ref v0), (1, .int 0)]) d_P_init_23 rfl (by decide) rfl ?_
  refine x_weak [0, 1] rfl ?_
  exact p_P_init_24 G FU _ _ _ h
theorem p_A_fill_5 (G : xG K) : ∀ (n : Nat) (v0 : Nat) (v1 : Int32) (v2 : Int32) (v3 : Int32) (M : XM), g_A_fill_5 n v0 v1 v2 v3 M = some (o, N) → cA K y_A_fill 5 [(0, .ref v0), (1, .int v1), (2, .int v2), (3, .int v3)] [] M o N := by
  intro n
  induction n with
  | zero =>
    intro v0 v1 v2 v3 M h
    rw [g_A_fill_5] at h
    cases h
  | succ n ih =>
    intro v0 v1 v2 v3 M h
    rw [g_A_fill_5] at h
    refine x_iload_n (pc := 5) d_A_fill_5 rfl 2 rfl ?_
    refine x_iload_n (pc := 6) d_A_fill_6 rfl 3 rfl ?_
    refine h_icmp_ge (pc := 7) 20 d_A_fill_7 (by decide) h (fun _ h => ?_) (fun _ h => ?_)
    · exact h_return (pc := 20) d_A_fill_20 rfl h
    · refine x_aload_n (pc := 10) d_A_fill_10 rfl 0 rfl ?_
      refine x_iload_n (pc := 11) d_A_fill_11 rfl 2 rfl ?_
      refine x_iload_n (pc := 12) d_A_fill_12 rfl 1 rfl ?_
      refine h_iastore G (pc := 13) d_A_fill_13 h fun M1 h => ?_
      refine x_iinc (pc := 14) (n := 2) (L' := [(0, .ref v0), (1, .int v1), (2, .int (v2 + 1)), (3, .int v3)]) d_A_fill_14 (by decide) rfl rfl ?_
      refine x_goto (pc := 17) 5 d_A_fill_17 (by decide) ?_
      refine x_weak [0, 1, 2, 3] rfl ?_
      exact ih _ _ _ _ _ h
theorem p_A_fill (G : xG K) (v0 : Nat) (v1 : Int32) (M : XM) (h : g_A_fill v0 v1 M = some (o, N)) : Ct K y_A_fill [.ref v0, .int v1] M o N := by
  refine ct_of (by decide) (List.forall_mem_cons.mpr ⟨rfl, List.forall_mem_cons.mpr ⟨rfl, fun _ q => absurd q List.not_mem_nil⟩⟩) (Nat.le_of_ble_eq_true rfl) ?_
  show cA K y_A_fill 0 [(0, .ref v0), (1, .int v1)] [] M o N
  unfold g_A_fill at h
  refine x_iconst (pc := 0) d_A_fill_0 rfl ?_
  refine x_istore_n (pc := 1) (L' := [(0, .ref v0), (1, .int v1), (2, .int 0)]) d_A_fill_1 rfl (by decide) rfl ?_
  refine x_aload_n (pc := 2) d_A_fill_2 rfl 0 rfl ?_
  refine h_arraylength (pc := 3) d_A_fill_3 h fun t1 h => ?_
  refine x_istore_n (pc := 4) (L' := [(0, .ref v0), (1, .int v1), (2, .int 0), (3, .int t1)]) d_A_fill_4 rfl (by decide) rfl ?_
  refine x_weak [0, 1, 2, 3] rfl ?_
  exact p_A_fill_5 G FU _ _ _ _ _ h
theorem p_K_init (G : xG K) (v0 : Nat) (M : XM) (h : g_K_init v0 M = some (o, N)) : Ct K y_K_init [.ref v0] M o N := by
  refine ct_of (by decide) (List.forall_mem_cons.mpr ⟨rfl, fun _ q => absurd q List.not_mem_nil⟩) (Nat.le_of_ble_eq_true rfl) ?_
  show cA K y_K_init 0 [(0, .ref v0)] [] M o N
  unfold g_K_init at h
  refine x_aload_n (pc := 0) d_K_init_0 rfl 0 rfl ?_
  refine x_objInit G (pc := 1) d_K_init_1 lm_K_3 lj_1 lj_2 (Nat.le_of_ble_eq_true rfl) (Nat.le_of_ble_eq_true rfl) ?_
  refine x_aload_n (pc := 4) d_K_init_4 rfl 0 rfl ?_
  refine x_bipush (pc := 5) (v := 30) d_K_init_5 (by decide) ?_
  refine h_newarray G (pc := 7) (kd := 0) (ty := .int) d_K_init_7 rfl la_int rfl (by decide) (by decide) h fun t1 M2 h => ?_
  refine h_putR G (pc := 9) (ci := 4) (j := 0) d_K_init_9 rfl rfl rfl lf_K_9 (Or.inr ⟨rfl, rfl⟩) (fun _ => rfl) (fun _ => rfl) h fun M3 h => ?_
  refine x_aload_n (pc := 12) d_K_init_12 rfl 0 rfl ?_
  refine x_bipush (pc := 13) (v := 6) d_K_init_13 (by decide) ?_
  refine h_newarray G (pc := 15) (kd := 0) (ty := .int) d_K_init_15 rfl la_int rfl (by decide) (by decide) h fun t4 M5 h => ?_
  refine h_putR G (pc := 17) (ci := 4) (j := 1) d_K_init_17 rfl rfl rfl lf_K_15 (Or.inr ⟨rfl, rfl⟩) (fun _ => rfl) (fun _ => rfl) h fun M6 h => ?_
  refine x_aload_n (pc := 20) d_K_init_20 rfl 0 rfl ?_
  refine x_bipush (pc := 21) (v := 6) d_K_init_21 (by decide) ?_
  refine x_bipush (pc := 23) (v := 20) d_K_init_23 (by decide) ?_
  refine h_multi G (pc := 25) d_K_init_25 lc_K_18 h fun t7 M8 h => ?_
  refine h_putR G (pc := 29) (ci := 4) (j := 2) d_K_init_29 rfl rfl rfl lf_K_20 (Or.inr ⟨rfl, rfl⟩) (fun _ => rfl) (fun _ => rfl) h fun M9 h => ?_
  refine x_aload_n (pc := 32) d_K_init_32 rfl 0 rfl ?_
  refine x_bipush (pc := 33) (v := 100) d_K_init_33 (by decide) ?_
  refine h_newarray G (pc := 35) (kd := 0) (ty := .int) d_K_init_35 rfl la_int rfl (by decide) (by decide) h fun t10 M11 h => ?_
  refine h_putR G (pc := 37) (ci := 4) (j := 3) d_K_init_37 rfl rfl rfl lf_K_23 (Or.inr ⟨rfl, rfl⟩) (fun _ => rfl) (fun _ => rfl) h fun M12 h => ?_
  refine x_aload_n (pc := 40) d_K_init_40 rfl 0 rfl ?_
  refine x_bipush (pc := 41) (v := 100) d_K_init_41 (by decide) ?_
  refine h_newarray G (pc := 43) (kd := 0) (ty := .int) d_K_init_43 rfl la_int rfl (by decide) (by decide) h fun t13 M14 h => ?_
  refine h_putR G (pc := 45) (ci := 4) (j := 4) d_K_init_45 rfl rfl rfl lf_K_26 (Or.inr ⟨rfl, rfl⟩) (fun _ => rfl) (fun _ => rfl) h fun M15 h => ?_
  refine x_aload_n (pc := 48) d_K_init_48 rfl 0 rfl ?_
  refine x_bipush (pc := 49) (v := 30) d_K_init_49 (by decide) ?_
  refine h_newarray G (pc := 51) (kd := 0) (ty := .int) d_K_init_51 rfl la_int rfl (by decide) (by decide) h fun t16 M17 h => ?_
  refine h_putR G (pc := 53) (ci := 4) (j := 5) d_K_init_53 rfl rfl rfl lf_K_29 (Or.inr ⟨rfl, rfl⟩) (fun _ => rfl) (fun _ => rfl) h fun M18 h => ?_
  refine x_aload_n (pc := 56) d_K_init_56 rfl 0 rfl ?_
  refine h_getR G (pc := 57) (ci := 4) (j := 0) d_K_init_57 rfl rfl rfl lf_K_9 h fun t19 h => ?_
  refine x_iconst (pc := 60) d_K_init_60 rfl ?_
  refine h_callV G (x_siteS G (pc := 61) (y2 := y_A_fill) (As := [.ref t19, .int (-1)]) (S := []) d_K_init_61 lm_K_32 mi_A_fill mw_A_fill.2 mw_A_fill.1 mx_A_fill.1 mx_A_fill.2 rfl) mw_A_fill ⟨Nat.le_of_ble_eq_true rfl, Nat.le_of_ble_eq_true rfl⟩ rfl (fun _ _ e => p_A_fill G _ _ _ e) h fun M20 h => ?_
  exact h_return (pc := 64) d_K_init_64 rfl h
theorem p_F_init (G : xG K) (v0 : Nat) (M : XM) (h : g_F_init v0 M = some (o, N)) : Ct K y_F_init [.ref v0] M o N := by
  refine ct_of (by decide) (List.forall_mem_cons.mpr ⟨rfl, fun _ q => absurd q List.not_mem_nil⟩) (Nat.le_of_ble_eq_true rfl) ?_
  show cA K y_F_init 0 [(0, .ref v0)] [] M o N
  unfold g_F_init at h
  refine x_aload_n (pc := 0) d_F_init_0 rfl 0 rfl ?_
  refine x_objInit G (pc := 1) d_F_init_1 lm_F_3 lj_1 lj_2 (Nat.le_of_ble_eq_true rfl) (Nat.le_of_ble_eq_true rfl) ?_
  refine x_aload_n (pc := 4) d_F_init_4 rfl 0 rfl ?_
  refine x_bipush (pc := 5) (v := 8) d_F_init_5 (by decide) ?_
  refine h_newarray G (pc := 7) (kd := 0) (ty := .int) d_F_init_7 rfl la_int rfl (by decide) (by decide) h fun t1 M2 h => ?_
  refine h_putR G (pc := 9) (ci := 5) (j := 0) d_F_init_9 rfl rfl rfl lf_F_9 (Or.inr ⟨rfl, rfl⟩) (fun _ => rfl) (fun _ => rfl) h fun M3 h => ?_
  exact h_return (pc := 12) d_F_init_12 rfl h
theorem p_E_init_23 (G : xG K) : ∀ (n : Nat) (v0 : Nat) (v1 : Int32) (M : XM), g_E_init_23 n v0 v1 M = some (o, N) → cA K y_E_init 23 [(0, .ref v0), (1, .int v1)] [] M o N := by
  intro n
  induction n with
  | zero =>
    intro v0 v1 M h
    rw [g_E_init_23] at h
    cases h
  | succ n ih =>
    intro v0 v1 M h
    rw [g_E_init_23] at h
    refine x_iload_n (pc := 23) d_E_init_23 rfl 1 rfl ?_
    refine x_bipush (pc := 24) (v := 8) d_E_init_24 (by decide) ?_
    refine h_icmp_ge (pc := 26) 48 d_E_init_26 (by decide) h (fun _ h => ?_) (fun _ h => ?_)
    · exact h_return (pc := 48) d_E_init_48 rfl h
    · refine x_aload_n (pc := 29) d_E_init_29 rfl 0 rfl ?_
      refine h_getR G (pc := 30) (ci := 6) (j := 1) d_E_init_30 rfl rfl rfl lf_E_17 h fun t1 h => ?_
      refine x_iload_n (pc := 33) d_E_init_33 rfl 1 rfl ?_
      refine h_new G (pc := 34) (ci := 5) d_E_init_34 rfl rfl lc_E_15 li_F h fun t2 M3 h => ?_
      refine x_dup (pc := 37) d_E_init_37 rfl ?_
      refine h_callV G (x_siteIN G (pc := 38) (y2 := y_F_init) (As := []) (S := [.ref t2, .int v1, .ref t1]) d_E_init_38 rfl lm_E_21 mi_F_init mw_F_init.1 mx_F_init.1 mx_F_init.2 rfl) mw_F_init ⟨Nat.le_of_ble_eq_true rfl, Nat.le_of_ble_eq_true rfl⟩ rfl (fun _ _ e => p_F_init G _ _ e) h fun M4 h => ?_
      refine h_aastore G (pc := 41) (kd := 12) (ci := 5) d_E_init_41 (by decide) (by decide) rfl rfl h fun M5 h => ?_
      refine x_iinc (pc := 42) (n := 1) (L' := [(0, .ref v0), (1, .int (v1 + 1))]) d_E_init_42 (by decide) rfl rfl ?_
      refine x_goto (pc := 45) 23 d_E_init_45 (by decide) ?_
      refine x_weak [0, 1] rfl ?_
      exact ih _ _ _ h
theorem p_E_init (G : xG K) (v0 : Nat) (M : XM) (h : g_E_init v0 M = some (o, N)) : Ct K y_E_init [.ref v0] M o N := by
  refine ct_of (by decide) (List.forall_mem_cons.mpr ⟨rfl, fun _ q => absurd q List.not_mem_nil⟩) (Nat.le_of_ble_eq_true rfl) ?_
  show cA K y_E_init 0 [(0, .ref v0)] [] M o N
  unfold g_E_init at h
  refine x_aload_n (pc := 0) d_E_init_0 rfl 0 rfl ?_
  refine x_objInit G (pc := 1) d_E_init_1 lm_E_3 lj_1 lj_2 (Nat.le_of_ble_eq_true rfl) (Nat.le_of_ble_eq_true rfl) ?_
  refine x_aload_n (pc := 4) d_E_init_4 rfl 0 rfl ?_
  refine x_bipush (pc := 5) (v := 30) d_E_init_5 (by decide) ?_
  refine h_newarray G (pc := 7) (kd := 0) (ty := .int) d_E_init_7 rfl la_int rfl (by decide) (by decide) h fun t1 M2 h => ?_
  refine h_putR G (pc := 9) (ci := 6) (j := 0) d_E_init_9 rfl rfl rfl lf_E_9 (Or.inr ⟨rfl, rfl⟩) (fun _ => rfl) (fun _ => rfl) h fun M3 h => ?_
  refine x_aload_n (pc := 12) d_E_init_12 rfl 0 rfl ?_
  refine x_bipush (pc := 13) (v := 8) d_E_init_13 (by decide) ?_
  refine h_anewarray G (pc := 15) (kd := 12) (nm := "ShakenTree$Frame") d_E_init_15 lc_E_15 lo_F rfl (by decide) (by decide) h fun t4 M5 h => ?_
  refine h_putR G (pc := 18) (ci := 6) (j := 1) d_E_init_18 rfl rfl rfl lf_E_17 (Or.inr ⟨rfl, rfl⟩) (fun _ => rfl) (fun _ => rfl) h fun M6 h => ?_
  refine x_iconst (pc := 21) d_E_init_21 rfl ?_
  refine x_istore_n (pc := 22) (L' := [(0, .ref v0), (1, .int 0)]) d_E_init_22 rfl (by decide) rfl ?_
  refine x_weak [0, 1] rfl ?_
  exact p_E_init_23 G FU _ _ _ h
theorem p_S_init (G : xG K) (v0 : Nat) (M : XM) (h : g_S_init v0 M = some (o, N)) : Ct K y_S_init [.ref v0] M o N := by
  refine ct_of (by decide) (List.forall_mem_cons.mpr ⟨rfl, fun _ q => absurd q List.not_mem_nil⟩) (Nat.le_of_ble_eq_true rfl) ?_
  show cA K y_S_init 0 [(0, .ref v0)] [] M o N
  unfold g_S_init at h
  refine x_aload_n (pc := 0) d_S_init_0 rfl 0 rfl ?_
  refine x_objInit G (pc := 1) d_S_init_1 lm_S_1 lj_1 lj_2 (Nat.le_of_ble_eq_true rfl) (Nat.le_of_ble_eq_true rfl) ?_
  refine x_aload_n (pc := 4) d_S_init_4 rfl 0 rfl ?_
  refine h_new G (pc := 5) (ci := 1) d_S_init_5 rfl rfl lc_S_7 li_P h fun t1 M2 h => ?_
  refine x_dup (pc := 8) d_S_init_8 rfl ?_
  refine h_callV G (x_siteI G (pc := 9) (y2 := y_P_init) (As := []) (S := [.ref t1, .ref v0]) d_S_init_9 rfl lm_S_9 mi_P_init mw_P_init.1 mx_P_init.1 mx_P_init.2 rfl) mw_P_init ⟨Nat.le_of_ble_eq_true rfl, Nat.le_of_ble_eq_true rfl⟩ rfl (fun _ _ e => p_P_init G _ _ e) h fun M3 h => ?_
  refine h_putR G (pc := 12) (ci := 0) (j := 0) d_S_init_12 rfl rfl rfl lf_S_10 (Or.inr ⟨rfl, rfl⟩) (fun _ => rfl) (fun _ => rfl) h fun M4 h => ?_
  refine x_aload_n (pc := 15) d_S_init_15 rfl 0 rfl ?_
  refine h_new G (pc := 16) (ci := 1) d_S_init_16 rfl rfl lc_S_7 li_P h fun t5 M6 h => ?_
  refine x_dup (pc := 19) d_S_init_19 rfl ?_
  refine h_callV G (x_siteI G (pc := 20) (y2 := y_P_init) (As := []) (S := [.ref t5, .ref v0]) d_S_init_20 rfl lm_S_9 mi_P_init mw_P_init.1 mx_P_init.1 mx_P_init.2 rfl) mw_P_init ⟨Nat.le_of_ble_eq_true rfl, Nat.le_of_ble_eq_true rfl⟩ rfl (fun _ _ e => p_P_init G _ _ e) h fun M7 h => ?_
  refine h_putR G (pc := 23) (ci := 0) (j := 1) d_S_init_23 rfl rfl rfl lf_S_16 (Or.inr ⟨rfl, rfl⟩) (fun _ => rfl) (fun _ => rfl) h fun M8 h => ?_
  refine x_aload_n (pc := 26) d_S_init_26 rfl 0 rfl ?_
  refine h_new G (pc := 27) (ci := 4) d_S_init_27 rfl rfl lc_S_19 li_K h fun t9 M10 h => ?_
  refine x_dup (pc := 30) d_S_init_30 rfl ?_
  refine h_callV G (x_siteI G (pc := 31) (y2 := y_K_init) (As := []) (S := [.ref t9, .ref v0]) d_S_init_31 rfl lm_S_21 mi_K_init mw_K_init.1 mx_K_init.1 mx_K_init.2 rfl) mw_K_init ⟨Nat.le_of_ble_eq_true rfl, Nat.le_of_ble_eq_true rfl⟩ rfl (fun _ _ e => p_K_init G _ _ e) h fun M11 h => ?_
  refine h_putR G (pc := 34) (ci := 0) (j := 2) d_S_init_34 rfl rfl rfl lf_S_22 (Or.inr ⟨rfl, rfl⟩) (fun _ => rfl) (fun _ => rfl) h fun M12 h => ?_
  refine x_aload_n (pc := 37) d_S_init_37 rfl 0 rfl ?_
  refine h_new G (pc := 38) (ci := 6) d_S_init_38 rfl rfl lc_S_26 li_E h fun t13 M14 h => ?_
  refine x_dup (pc := 41) d_S_init_41 rfl ?_
  refine h_callV G (x_siteI G (pc := 42) (y2 := y_E_init) (As := []) (S := [.ref t13, .ref v0]) d_S_init_42 rfl lm_S_28 mi_E_init mw_E_init.1 mx_E_init.1 mx_E_init.2 rfl) mw_E_init ⟨Nat.le_of_ble_eq_true rfl, Nat.le_of_ble_eq_true rfl⟩ rfl (fun _ _ e => p_E_init G _ _ e) h fun M15 h => ?_
  refine h_putR G (pc := 45) (ci := 0) (j := 3) d_S_init_45 rfl rfl rfl lf_S_29 (Or.inr ⟨rfl, rfl⟩) (fun _ => rfl) (fun _ => rfl) h fun M16 h => ?_
  exact h_return (pc := 48) d_S_init_48 rfl h
theorem p_P_empty (G : xG K) (v0 : Nat) (M : XM) (h : g_P_empty v0 M = some (o, N)) : Ct K y_P_empty [.ref v0] M o N := by
  refine ct_of (by decide) (List.forall_mem_cons.mpr ⟨rfl, fun _ q => absurd q List.not_mem_nil⟩) (Nat.le_of_ble_eq_true rfl) ?_
  show cA K y_P_empty 0 [(0, .ref v0)] [] M o N
  unfold g_P_empty at h
  refine x_aload_n (pc := 0) d_P_empty_0 rfl 0 rfl ?_
  refine x_iconst (pc := 1) d_P_empty_1 rfl ?_
  refine h_putI G (pc := 2) (ci := 1) (j := 2) d_P_empty_2 rfl rfl rfl lf_P_25 h fun M1 h => ?_
  refine x_aload_n (pc := 5) d_P_empty_5 rfl 0 rfl ?_
  refine x_iconst (pc := 6) d_P_empty_6 rfl ?_
  refine h_putI G (pc := 7) (ci := 1) (j := 3) d_P_empty_7 rfl rfl rfl lf_P_29 h fun M2 h => ?_
  exact h_return (pc := 10) d_P_empty_10 rfl h
theorem p_S_clear (G : xG K) (v0 : Nat) (M : XM) (h : g_S_clear v0 M = some (o, N)) : Ct K y_S_clear [.ref v0] M o N := by
  refine ct_of (by decide) (List.forall_mem_cons.mpr ⟨rfl, fun _ q => absurd q List.not_mem_nil⟩) (Nat.le_of_ble_eq_true rfl) ?_
  show cA K y_S_clear 0 [(0, .ref v0)] [] M o N
  unfold g_S_clear at h
  refine x_aload_n (pc := 0) d_S_clear_0 rfl 0 rfl ?_
  refine h_getR G (pc := 1) (ci := 0) (j := 0) d_S_clear_1 rfl rfl rfl lf_S_10 h fun t1 h => ?_
  obtain ⟨⟨ra2, ra2t⟩, h⟩ := h_ok h
  refine h_callV G (x_siteV G (pc := 4) (y2 := y_P_empty) (As := []) (S := []) (ci := 1) d_S_clear_4 rfl lm_S_121 mi_P_empty ms_P_empty mw_P_empty.1 mx_P_empty.1 mx_P_empty.2 rfl ra2 ra2t) mw_P_empty ⟨Nat.le_of_ble_eq_true rfl, Nat.le_of_ble_eq_true rfl⟩ rfl (fun _ _ e => p_P_empty G _ _ e) h fun M3 h => ?_
  exact h_return (pc := 7) d_S_clear_7 rfl h
theorem p_Q_has (G : xG K) (v0 : Nat) (v1 : Int32) (M : XM) (h : g_Q_has v0 v1 M = some (o, N)) : Ct K y_Q_has [.ref v0, .int v1] M o N := by
  refine ct_of (by decide) (List.forall_mem_cons.mpr ⟨rfl, List.forall_mem_cons.mpr ⟨rfl, fun _ q => absurd q List.not_mem_nil⟩⟩) (Nat.le_of_ble_eq_true rfl) ?_
  show cA K y_Q_has 0 [(0, .ref v0), (1, .int v1)] [] M o N
  unfold g_Q_has at h
  refine x_iload_n (pc := 0) d_Q_has_0 rfl 1 rfl ?_
  refine h_if_lt (pc := 1) 16 d_Q_has_1 (by decide) h (fun _ h => ?_) (fun _ h => ?_)
  · refine x_iconst (pc := 16) d_Q_has_16 rfl ?_
    exact h_zreturn (pc := 17) d_Q_has_17 rfl h
  · refine x_iload_n (pc := 4) d_Q_has_4 rfl 1 rfl ?_
    refine x_aload_n (pc := 5) d_Q_has_5 rfl 0 rfl ?_
    refine h_getI G (pc := 6) (ci := 2) (j := 3) d_Q_has_6 rfl rfl rfl lf_Q_21 h fun t1 h => ?_
    refine h_icmp_ge (pc := 9) 16 d_Q_has_9 (by decide) h (fun _ h => ?_) (fun _ h => ?_)
    · refine x_iconst (pc := 16) d_Q_has_16 rfl ?_
      exact h_zreturn (pc := 17) d_Q_has_17 rfl h
    · refine x_iconst (pc := 12) d_Q_has_12 rfl ?_
      refine x_goto (pc := 13) 17 d_Q_has_13 (by decide) ?_
      exact h_zreturn (pc := 17) d_Q_has_17 rfl h
theorem p_Q_holds (G : xG K) (v0 : Nat) (v1 : Int32) (v2 : Int32) (M : XM) (h : g_Q_holds v0 v1 v2 M = some (o, N)) : Ct K y_Q_holds [.ref v0, .int v1, .int v2] M o N := by
  refine ct_of (by decide) (List.forall_mem_cons.mpr ⟨rfl, List.forall_mem_cons.mpr ⟨rfl, List.forall_mem_cons.mpr ⟨rfl, fun _ q => absurd q List.not_mem_nil⟩⟩⟩) (Nat.le_of_ble_eq_true rfl) ?_
  show cA K y_Q_holds 0 [(0, .ref v0), (1, .int v1), (2, .int v2)] [] M o N
  unfold g_Q_holds at h
  refine x_aload_n (pc := 0) d_Q_holds_0 rfl 0 rfl ?_
  refine x_iload_n (pc := 1) d_Q_holds_1 rfl 1 rfl ?_
  obtain ⟨⟨ra1, ra1t⟩, h⟩ := h_ok h
  refine h_callI G (x_siteV G (pc := 2) (y2 := y_Q_has) (As := [.int v1]) (S := []) (ci := 2) d_Q_holds_2 rfl lm_Q_25 mi_Q_has ms_Q_has mw_Q_has.1 mx_Q_has.1 mx_Q_has.2 rfl ra1 ra1t) mw_Q_has ⟨Nat.le_of_ble_eq_true rfl, Nat.le_of_ble_eq_true rfl⟩ rfl (fun _ _ e => p_Q_has G _ _ _ e) h fun t3 M2 h => ?_
  refine h_if_eq (pc := 5) 22 d_Q_holds_5 (by decide) h (fun _ h => ?_) (fun _ h => ?_)
  · refine x_iconst (pc := 22) d_Q_holds_22 rfl ?_
    exact h_zreturn (pc := 23) d_Q_holds_23 rfl h
  · refine x_aload_n (pc := 8) d_Q_holds_8 rfl 0 rfl ?_
    refine h_getR G (pc := 9) (ci := 2) (j := 0) d_Q_holds_9 rfl rfl rfl lf_Q_9 h fun t4 h => ?_
    refine x_iload_n (pc := 12) d_Q_holds_12 rfl 1 rfl ?_
    refine h_iaload (pc := 13) d_Q_holds_13 h fun t5 h => ?_
    refine x_iload_n (pc := 14) d_Q_holds_14 rfl 2 rfl ?_
    refine h_icmp_ne (pc := 15) 22 d_Q_holds_15 (by decide) h (fun _ h => ?_) (fun _ h => ?_)
    · refine x_iconst (pc := 22) d_Q_holds_22 rfl ?_
      exact h_zreturn (pc := 23) d_Q_holds_23 rfl h
    · refine x_iconst (pc := 18) d_Q_holds_18 rfl ?_
      refine x_goto (pc := 19) 23 d_Q_holds_19 (by decide) ?_
      exact h_zreturn (pc := 23) d_Q_holds_23 rfl h
theorem p_S_hasTwoPlaces (G : xG K) (v0 : Int32) (M : XM) (h : g_S_hasTwoPlaces v0 M = some (o, N)) : Ct K y_S_hasTwoPlaces [.int v0] M o N := by
  refine ct_of (by decide) (List.forall_mem_cons.mpr ⟨rfl, fun _ q => absurd q List.not_mem_nil⟩) (Nat.le_of_ble_eq_true rfl) ?_
  show cA K y_S_hasTwoPlaces 0 [(0, .int v0)] [] M o N
  unfold g_S_hasTwoPlaces at h
  refine x_iload_n (pc := 0) d_S_hasTwoPlaces_0 rfl 0 rfl ?_
  refine x_iconst (pc := 1) d_S_hasTwoPlaces_1 rfl ?_
  refine h_icmp_eq (pc := 2) 10 d_S_hasTwoPlaces_2 (by decide) h (fun _ h => ?_) (fun _ h => ?_)
  · refine x_iconst (pc := 10) d_S_hasTwoPlaces_10 rfl ?_
    refine x_goto (pc := 11) 15 d_S_hasTwoPlaces_11 (by decide) ?_
    exact h_zreturn (pc := 15) d_S_hasTwoPlaces_15 rfl h
  · refine x_iload_n (pc := 5) d_S_hasTwoPlaces_5 rfl 0 rfl ?_
    refine x_iconst (pc := 6) d_S_hasTwoPlaces_6 rfl ?_
    refine h_icmp_ne (pc := 7) 14 d_S_hasTwoPlaces_7 (by decide) h (fun _ h => ?_) (fun _ h => ?_)
    · refine x_iconst (pc := 14) d_S_hasTwoPlaces_14 rfl ?_
      exact h_zreturn (pc := 15) d_S_hasTwoPlaces_15 rfl h
    · refine x_iconst (pc := 10) d_S_hasTwoPlaces_10 rfl ?_
      refine x_goto (pc := 11) 15 d_S_hasTwoPlaces_11 (by decide) ?_
      exact h_zreturn (pc := 15) d_S_hasTwoPlaces_15 rfl h
theorem p_B_isField (G : xG K) (v0 : Nat) (M : XM) (h : g_B_isField v0 M = some (o, N)) : Ct K y_B_isField [.ref v0] M o N := by
  refine ct_of (by decide) (List.forall_mem_cons.mpr ⟨rfl, fun _ q => absurd q List.not_mem_nil⟩) (Nat.le_of_ble_eq_true rfl) ?_
  show cA K y_B_isField 0 [(0, .ref v0)] [] M o N
  unfold g_B_isField at h
  refine x_aload_n (pc := 0) d_B_isField_0 rfl 0 rfl ?_
  refine h_getI G (pc := 1) (ci := 3) (j := 2) d_B_isField_1 rfl rfl rfl lf_B_25 h fun t1 h => ?_
  refine x_iconst (pc := 4) d_B_isField_4 rfl ?_
  refine h_icmp_ne (pc := 5) 12 d_B_isField_5 (by decide) h (fun _ h => ?_) (fun _ h => ?_)
  · refine x_iconst (pc := 12) d_B_isField_12 rfl ?_
    exact h_zreturn (pc := 13) d_B_isField_13 rfl h
  · refine x_iconst (pc := 8) d_B_isField_8 rfl ?_
    refine x_goto (pc := 9) 13 d_B_isField_9 (by decide) ?_
    exact h_zreturn (pc := 13) d_B_isField_13 rfl h
theorem p_P_nameOf (G : xG K) (v0 : Nat) (v1 : Int32) (M : XM) (h : g_P_nameOf v0 v1 M = some (o, N)) : Ct K y_P_nameOf [.ref v0, .int v1] M o N := by
  refine ct_of (by decide) (List.forall_mem_cons.mpr ⟨rfl, List.forall_mem_cons.mpr ⟨rfl, fun _ q => absurd q List.not_mem_nil⟩⟩) (Nat.le_of_ble_eq_true rfl) ?_
  show cA K y_P_nameOf 0 [(0, .ref v0), (1, .int v1)] [] M o N
  unfold g_P_nameOf at h
  refine x_aload_n (pc := 0) d_P_nameOf_0 rfl 0 rfl ?_
  refine h_getR G (pc := 1) (ci := 1) (j := 1) d_P_nameOf_1 rfl rfl rfl lf_P_19 h fun t1 h => ?_
  refine x_iload_n (pc := 4) d_P_nameOf_4 rfl 1 rfl ?_
  refine h_aaload (pc := 5) (kd := 11) d_P_nameOf_5 (by decide) rfl rfl h fun t2 h => ?_
  refine x_astore_n (pc := 6) (L' := [(0, .ref v0), (1, .int v1), (2, .ref t2)]) d_P_nameOf_6 rfl (by decide) rfl ?_
  refine x_aload_n (pc := 7) d_P_nameOf_7 rfl 0 rfl ?_
  refine h_getR G (pc := 8) (ci := 1) (j := 0) d_P_nameOf_8 rfl rfl rfl lf_P_11 h fun t3 h => ?_
  refine x_aload_n (pc := 11) d_P_nameOf_11 rfl 2 rfl ?_
  refine h_getI G (pc := 12) (ci := 3) (j := 0) d_P_nameOf_12 rfl rfl rfl lf_P_45 h fun t4 h => ?_
  refine h_aaload (pc := 15) (kd := 10) d_P_nameOf_15 (by decide) rfl rfl h fun t5 h => ?_
  refine h_getR G (pc := 16) (ci := 2) (j := 1) d_P_nameOf_16 rfl rfl rfl lf_P_48 h fun t6 h => ?_
  refine x_aload_n (pc := 19) d_P_nameOf_19 rfl 2 rfl ?_
  refine h_getI G (pc := 20) (ci := 3) (j := 1) d_P_nameOf_20 rfl rfl rfl lf_P_52 h fun t7 h => ?_
  refine h_iaload (pc := 23) d_P_nameOf_23 h fun t8 h => ?_
  exact h_ireturn (pc := 24) d_P_nameOf_24 rfl h
theorem p_P_find_3 (G : xG K) : ∀ (n : Nat) (v0 : Nat) (v1 : Int32) (v2 : Int32) (v3 : Int32) (v4 : Int32) (M : XM), g_P_find_3 n v0 v1 v2 v3 v4 M = some (o, N) → cA K y_P_find 3 [(0, .ref v0), (1, .int v1), (2, .int v2), (3, .int v3), (4, .int v4)] [] M o N := by
  intro n
  induction n with
  | zero =>
    intro v0 v1 v2 v3 v4 M h
    rw [g_P_find_3] at h
    cases h
  | succ n ih =>
    intro v0 v1 v2 v3 v4 M h
    rw [g_P_find_3] at h
    refine x_iload (pc := 3) d_P_find_3 4 rfl ?_
    refine x_aload_n (pc := 5) d_P_find_5 rfl 0 rfl ?_
    refine h_getI G (pc := 6) (ci := 1) (j := 3) d_P_find_6 rfl rfl rfl lf_P_29 h fun t1 h => ?_
    refine h_icmp_ge (pc := 9) 58 d_P_find_9 (by decide) h (fun _ h => ?_) (fun _ h => ?_)
    · refine x_iconst (pc := 58) d_P_find_58 rfl ?_
      exact h_ireturn (pc := 59) d_P_find_59 rfl h
    · refine x_aload_n (pc := 12) d_P_find_12 rfl 0 rfl ?_
      refine h_getR G (pc := 13) (ci := 1) (j := 1) d_P_find_13 rfl rfl rfl lf_P_19 h fun t2 h => ?_
      refine x_iload (pc := 16) d_P_find_16 4 rfl ?_
      refine h_aaload (pc := 18) (kd := 11) d_P_find_18 (by decide) rfl rfl h fun t3 h => ?_
      refine x_astore (pc := 19) (L' := [(0, .ref v0), (1, .int v1), (2, .int v2), (3, .int v3), (4, .int v4), (5, .ref t3)]) d_P_find_19 (by decide) rfl ?_
      refine x_aload (pc := 21) d_P_find_21 5 rfl ?_
      refine h_getI G (pc := 23) (ci := 3) (j := 0) d_P_find_23 rfl rfl rfl lf_P_45 h fun t4 h => ?_
      refine x_iload_n (pc := 26) d_P_find_26 rfl 1 rfl ?_
      refine h_icmp_ne (pc := 27) 52 d_P_find_27 (by decide) h (fun _ h => ?_) (fun _ h => ?_)
      · refine x_iinc (pc := 52) (n := 4) (L' := [(0, .ref v0), (1, .int v1), (2, .int v2), (3, .int v3), (4, .int (v4 + 1)), (5, .ref t3)]) d_P_find_52 (by decide) rfl rfl ?_
        refine x_goto (pc := 55) 3 d_P_find_55 (by decide) ?_
        refine x_weak [0, 1, 2, 3, 4] rfl ?_
        exact ih _ _ _ _ _ _ h
      · refine x_aload (pc := 30) d_P_find_30 5 rfl ?_
        obtain ⟨⟨ra5, ra5t⟩, h⟩ := h_ok h
        refine h_callI G (x_siteV G (pc := 32) (y2 := y_B_isField) (As := []) (S := []) (ci := 3) d_P_find_32 rfl lm_P_41 mi_B_isField ms_B_isField mw_B_isField.1 mx_B_isField.1 mx_B_isField.2 rfl ra5 ra5t) mw_B_isField ⟨Nat.le_of_ble_eq_true rfl, Nat.le_of_ble_eq_true rfl⟩ rfl (fun _ _ e => p_B_isField G _ _ e) h fun t7 M6 h => ?_
        refine x_iload_n (pc := 35) d_P_find_35 rfl 3 rfl ?_
        refine h_icmp_ne (pc := 36) 52 d_P_find_36 (by decide) h (fun _ h => ?_) (fun _ h => ?_)
        · refine x_iinc (pc := 52) (n := 4) (L' := [(0, .ref v0), (1, .int v1), (2, .int v2), (3, .int v3), (4, .int (v4 + 1)), (5, .ref t3)]) d_P_find_52 (by decide) rfl rfl ?_
          refine x_goto (pc := 55) 3 d_P_find_55 (by decide) ?_
          refine x_weak [0, 1, 2, 3, 4] rfl ?_
          exact ih _ _ _ _ _ _ h
        · refine x_aload_n (pc := 39) d_P_find_39 rfl 0 rfl ?_
          refine x_iload (pc := 40) d_P_find_40 4 rfl ?_
          obtain ⟨⟨ra8, ra8t⟩, h⟩ := h_ok h
          refine h_callI G (x_siteV G (pc := 42) (y2 := y_P_nameOf) (As := [.int v4]) (S := []) (ci := 1) d_P_find_42 rfl lm_P_70 mi_P_nameOf ms_P_nameOf mw_P_nameOf.1 mx_P_nameOf.1 mx_P_nameOf.2 rfl ra8 ra8t) mw_P_nameOf ⟨Nat.le_of_ble_eq_true rfl, Nat.le_of_ble_eq_true rfl⟩ rfl (fun _ _ e => p_P_nameOf G _ _ _ e) h fun t10 M9 h => ?_
          refine x_iload_n (pc := 45) d_P_find_45 rfl 2 rfl ?_
          refine h_icmp_ne (pc := 46) 52 d_P_find_46 (by decide) h (fun _ h => ?_) (fun _ h => ?_)
          · refine x_iinc (pc := 52) (n := 4) (L' := [(0, .ref v0), (1, .int v1), (2, .int v2), (3, .int v3), (4, .int (v4 + 1)), (5, .ref t3)]) d_P_find_52 (by decide) rfl rfl ?_
            refine x_goto (pc := 55) 3 d_P_find_55 (by decide) ?_
            refine x_weak [0, 1, 2, 3, 4] rfl ?_
            exact ih _ _ _ _ _ _ h
          · refine x_iload (pc := 49) d_P_find_49 4 rfl ?_
            exact h_ireturn (pc := 51) d_P_find_51 rfl h
theorem p_P_find (G : xG K) (v0 : Nat) (v1 : Int32) (v2 : Int32) (v3 : Int32) (M : XM) (h : g_P_find v0 v1 v2 v3 M = some (o, N)) : Ct K y_P_find [.ref v0, .int v1, .int v2, .int v3] M o N := by
  refine ct_of (by decide) (List.forall_mem_cons.mpr ⟨rfl, List.forall_mem_cons.mpr ⟨rfl, List.forall_mem_cons.mpr ⟨rfl, List.forall_mem_cons.mpr ⟨rfl, fun _ q => absurd q List.not_mem_nil⟩⟩⟩⟩) (Nat.le_of_ble_eq_true rfl) ?_
  show cA K y_P_find 0 [(0, .ref v0), (1, .int v1), (2, .int v2), (3, .int v3)] [] M o N
  unfold g_P_find at h
  refine x_iconst (pc := 0) d_P_find_0 rfl ?_
  refine x_istore (pc := 1) (L' := [(0, .ref v0), (1, .int v1), (2, .int v2), (3, .int v3), (4, .int 0)]) d_P_find_1 (by decide) rfl ?_
  refine x_weak [0, 1, 2, 3, 4] rfl ?_
  exact p_P_find_3 G FU _ _ _ _ _ _ h
theorem p_P_meant (G : xG K) (v0 : Nat) (v1 : Int32) (v2 : Int32) (M : XM) (h : g_P_meant v0 v1 v2 M = some (o, N)) : Ct K y_P_meant [.ref v0, .int v1, .int v2] M o N := by
  refine ct_of (by decide) (List.forall_mem_cons.mpr ⟨rfl, List.forall_mem_cons.mpr ⟨rfl, List.forall_mem_cons.mpr ⟨rfl, fun _ q => absurd q List.not_mem_nil⟩⟩⟩) (Nat.le_of_ble_eq_true rfl) ?_
  show cA K y_P_meant 0 [(0, .ref v0), (1, .int v1), (2, .int v2)] [] M o N
  unfold g_P_meant at h
  refine x_aload_n (pc := 0) d_P_meant_0 rfl 0 rfl ?_
  refine h_getR G (pc := 1) (ci := 1) (j := 0) d_P_meant_1 rfl rfl rfl lf_P_11 h fun t1 h => ?_
  refine x_iload_n (pc := 4) d_P_meant_4 rfl 1 rfl ?_
  refine h_aaload (pc := 5) (kd := 10) d_P_meant_5 (by decide) rfl rfl h fun t2 h => ?_
  refine x_astore_n (pc := 6) (L' := [(0, .ref v0), (1, .int v1), (2, .int v2), (3, .ref t2)]) d_P_meant_6 rfl (by decide) rfl ?_
  refine x_aload_n (pc := 7) d_P_meant_7 rfl 3 rfl ?_
  refine x_iload_n (pc := 8) d_P_meant_8 rfl 2 rfl ?_
  obtain ⟨⟨ra3, ra3t⟩, h⟩ := h_ok h
  refine h_callI G (x_siteV G (pc := 9) (y2 := y_Q_has) (As := [.int v2]) (S := []) (ci := 2) d_P_meant_9 rfl lm_P_74 mi_Q_has ms_Q_has mw_Q_has.1 mx_Q_has.1 mx_Q_has.2 rfl ra3 ra3t) mw_Q_has ⟨Nat.le_of_ble_eq_true rfl, Nat.le_of_ble_eq_true rfl⟩ rfl (fun _ _ e => p_Q_has G _ _ _ e) h fun t5 M4 h => ?_
  refine h_if_eq (pc := 12) 27 d_P_meant_12 (by decide) h (fun _ h => ?_) (fun _ h => ?_)
  · refine x_iconst (pc := 27) d_P_meant_27 rfl ?_
    exact h_ireturn (pc := 28) d_P_meant_28 rfl h
  · refine x_aload_n (pc := 15) d_P_meant_15 rfl 3 rfl ?_
    refine h_getR G (pc := 16) (ci := 2) (j := 0) d_P_meant_16 rfl rfl rfl lf_P_77 h fun t6 h => ?_
    refine x_iload_n (pc := 19) d_P_meant_19 rfl 2 rfl ?_
    refine h_iaload (pc := 20) d_P_meant_20 h fun t7 h => ?_
    refine h_callI G (x_siteSN G (pc := 21) (y2 := y_S_hasTwoPlaces) (As := [.int t7]) (S := []) d_P_meant_21 lm_P_80 mi_S_hasTwoPlaces mw_S_hasTwoPlaces.2 mw_S_hasTwoPlaces.1 mx_S_hasTwoPlaces.1 mx_S_hasTwoPlaces.2 rfl) mw_S_hasTwoPlaces ⟨Nat.le_of_ble_eq_true rfl, Nat.le_of_ble_eq_true rfl⟩ rfl (fun _ _ e => p_S_hasTwoPlaces G _ _ e) h fun t9 M8 h => ?_
    refine h_if_ne (pc := 24) 29 d_P_meant_24 (by decide) h (fun _ h => ?_) (fun _ h => ?_)
    · refine x_aload_n (pc := 29) d_P_meant_29 rfl 3 rfl ?_
      refine h_getR G (pc := 30) (ci := 2) (j := 1) d_P_meant_30 rfl rfl rfl lf_P_48 h fun t10 h => ?_
      refine x_aload_n (pc := 33) d_P_meant_33 rfl 3 rfl ?_
      refine h_getR G (pc := 34) (ci := 2) (j := 1) d_P_meant_34 rfl rfl rfl lf_P_48 h fun t11 h => ?_
      refine x_iload_n (pc := 37) d_P_meant_37 rfl 2 rfl ?_
      refine h_iaload (pc := 38) d_P_meant_38 h fun t12 h => ?_
      refine h_iaload (pc := 39) d_P_meant_39 h fun t13 h => ?_
      refine x_istore (pc := 40) (L' := [(0, .ref v0), (1, .int v1), (2, .int v2), (3, .ref t2), (4, .int t13)]) d_P_meant_40 (by decide) rfl ?_
      refine x_aload_n (pc := 42) d_P_meant_42 rfl 3 rfl ?_
      refine h_getR G (pc := 43) (ci := 2) (j := 1) d_P_meant_43 rfl rfl rfl lf_P_48 h fun t14 h => ?_
      refine x_aload_n (pc := 46) d_P_meant_46 rfl 3 rfl ?_
      refine h_getR G (pc := 47) (ci := 2) (j := 2) d_P_meant_47 rfl rfl rfl lf_P_83 h fun t15 h => ?_
      refine x_iload_n (pc := 50) d_P_meant_50 rfl 2 rfl ?_
      refine h_iaload (pc := 51) d_P_meant_51 h fun t16 h => ?_
      refine h_iaload (pc := 52) d_P_meant_52 h fun t17 h => ?_
      refine x_istore (pc := 53) (L' := [(0, .ref v0), (1, .int v1), (2, .int v2), (3, .ref t2), (4, .int t13), (5, .int t17)]) d_P_meant_53 (by decide) rfl ?_
      refine x_aload_n (pc := 55) d_P_meant_55 rfl 0 rfl ?_
      refine x_iload (pc := 56) d_P_meant_56 4 rfl ?_
      refine x_iload (pc := 58) d_P_meant_58 5 rfl ?_
      refine x_aload_n (pc := 60) d_P_meant_60 rfl 3 rfl ?_
      refine h_getR G (pc := 61) (ci := 2) (j := 0) d_P_meant_61 rfl rfl rfl lf_P_77 h fun t18 h => ?_
      refine x_iload_n (pc := 64) d_P_meant_64 rfl 2 rfl ?_
      refine h_iaload (pc := 65) d_P_meant_65 h fun t19 h => ?_
      refine x_iconst (pc := 66) d_P_meant_66 rfl ?_
      refine h_icmp_ne (pc := 67) 74 d_P_meant_67 (by decide) h (fun _ h => ?_) (fun _ h => ?_)
      · refine x_iconst (pc := 74) d_P_meant_74 rfl ?_
        obtain ⟨⟨ra20, ra20t⟩, h⟩ := h_ok h
        refine h_callI G (x_siteV G (pc := 75) (y2 := y_P_find) (As := [.int t13, .int t17, .int 0]) (S := []) (ci := 1) d_P_meant_75 rfl lm_P_66 mi_P_find ms_P_find mw_P_find.1 mx_P_find.1 mx_P_find.2 rfl ra20 ra20t) mw_P_find ⟨Nat.le_of_ble_eq_true rfl, Nat.le_of_ble_eq_true rfl⟩ rfl (fun _ _ e => p_P_find G _ _ _ _ _ e) h fun t22 M21 h => ?_
        exact h_ireturn (pc := 78) d_P_meant_78 rfl h
      · refine x_iconst (pc := 70) d_P_meant_70 rfl ?_
        refine x_goto (pc := 71) 75 d_P_meant_71 (by decide) ?_
        obtain ⟨⟨ra23, ra23t⟩, h⟩ := h_ok h
        refine h_callI G (x_siteV G (pc := 75) (y2 := y_P_find) (As := [.int t13, .int t17, .int 1]) (S := []) (ci := 1) d_P_meant_75 rfl lm_P_66 mi_P_find ms_P_find mw_P_find.1 mx_P_find.1 mx_P_find.2 rfl ra23 ra23t) mw_P_find ⟨Nat.le_of_ble_eq_true rfl, Nat.le_of_ble_eq_true rfl⟩ rfl (fun _ _ e => p_P_find G _ _ _ _ _ e) h fun t25 M24 h => ?_
        exact h_ireturn (pc := 78) d_P_meant_78 rfl h
    · refine x_iconst (pc := 27) d_P_meant_27 rfl ?_
      exact h_ireturn (pc := 28) d_P_meant_28 rfl h
theorem p_P_isSound_156 (G : xG K) (v1 : Nat) (v3 : Int32) (M : XM) (h : g_P_isSound_156 v1 v3 M = some (o, N)) : cA K y_P_isSound 156 [(1, .ref v1), (3, .int v3)] [] M o N := by
  unfold g_P_isSound_156 at h
  refine x_iload_n (pc := 156) d_P_isSound_156 rfl 1 rfl ?_
  refine h_if_lt (pc := 157) 172 d_P_isSound_157 (by decide) h (fun _ h => ?_) (fun _ h => ?_)
  · refine x_iconst (pc := 172) d_P_isSound_172 rfl ?_
    exact h_zreturn (pc := 173) d_P_isSound_173 rfl h
  · refine x_iload_n (pc := 160) d_P_isSound_160 rfl 1 rfl ?_
    refine x_aload_n (pc := 161) d_P_isSound_161 rfl 0 rfl ?_
    refine h_getI G (pc := 162) (ci := 3) (j := 4) d_P_isSound_162 rfl rfl rfl lf_P_86 h fun t1 h => ?_
    refine h_icmp_ge (pc := 165) 172 d_P_isSound_165 (by decide) h (fun _ h => ?_) (fun _ h => ?_)
    · refine x_iconst (pc := 172) d_P_isSound_172 rfl ?_
      exact h_zreturn (pc := 173) d_P_isSound_173 rfl h
    · refine x_iconst (pc := 168) d_P_isSound_168 rfl ?_
      refine x_goto (pc := 169) 173 d_P_isSound_169 (by decide) ?_
      exact h_zreturn (pc := 173) d_P_isSound_173 rfl h
theorem p_P_isSound_80 (G : xG K) (v0 : Nat) (v1 : Nat) (v3 : Int32) (v4 : Nat) (M : XM) (h : g_P_isSound_80 v0 v1 v3 v4 M = some (o, N)) : cA K y_P_isSound 80 [(0, .ref v0), (1, .ref v1), (3, .int v3), (4, .ref v4)] [] M o N := by
  unfold g_P_isSound_80 at h
  refine x_aload (pc := 80) d_P_isSound_80 3 rfl ?_
  refine x_iload_n (pc := 82) d_P_isSound_82 rfl 2 rfl ?_
  refine x_iconst (pc := 83) d_P_isSound_83 rfl ?_
  obtain ⟨⟨ra1, ra1t⟩, h⟩ := h_ok h
  refine h_callI G (x_siteV G (pc := 84) (y2 := y_Q_holds) (As := [.int v3, .int 3]) (S := []) (ci := 2) d_P_isSound_84 rfl lm_P_62 mi_Q_holds ms_Q_holds mw_Q_holds.1 mx_Q_holds.1 mx_Q_holds.2 rfl ra1 ra1t) mw_Q_holds ⟨Nat.le_of_ble_eq_true rfl, Nat.le_of_ble_eq_true rfl⟩ rfl (fun _ _ e => p_Q_holds G _ _ _ _ e) h fun t3 M2 h => ?_
  refine h_if_eq (pc := 87) 107 d_P_isSound_87 (by decide) h (fun _ h => ?_) (fun _ h => ?_)
  · refine x_iconst (pc := 107) d_P_isSound_107 rfl ?_
    exact h_zreturn (pc := 108) d_P_isSound_108 rfl h
  · refine x_aload_n (pc := 90) d_P_isSound_90 rfl 0 rfl ?_
    refine x_aload_n (pc := 91) d_P_isSound_91 rfl 1 rfl ?_
    refine h_getI G (pc := 92) (ci := 3) (j := 0) d_P_isSound_92 rfl rfl rfl lf_P_45 h fun t4 h => ?_
    refine x_iload_n (pc := 95) d_P_isSound_95 rfl 2 rfl ?_
    obtain ⟨⟨ra5, ra5t⟩, h⟩ := h_ok h
    refine h_callI G (x_siteV G (pc := 96) (y2 := y_P_meant) (As := [.int t4, .int v3]) (S := []) (ci := 1) d_P_isSound_96 rfl lm_P_99 mi_P_meant ms_P_meant mw_P_meant.1 mx_P_meant.1 mx_P_meant.2 rfl ra5 ra5t) mw_P_meant ⟨Nat.le_of_ble_eq_true rfl, Nat.le_of_ble_eq_true rfl⟩ rfl (fun _ _ e => p_P_meant G _ _ _ _ e) h fun t7 M6 h => ?_
    refine x_iconst (pc := 99) d_P_isSound_99 rfl ?_
    refine h_icmp_eq (pc := 100) 107 d_P_isSound_100 (by decide) h (fun _ h => ?_) (fun _ h => ?_)
    · refine x_iconst (pc := 107) d_P_isSound_107 rfl ?_
      exact h_zreturn (pc := 108) d_P_isSound_108 rfl h
    · refine x_iconst (pc := 103) d_P_isSound_103 rfl ?_
      refine x_goto (pc := 104) 108 d_P_isSound_104 (by decide) ?_
      exact h_zreturn (pc := 108) d_P_isSound_108 rfl h
theorem p_P_isSound (G : xG K) (v0 : Nat) (v1 : Nat) (v2 : Int32) (v3 : Int32) (M : XM) (h : g_P_isSound v0 v1 v2 v3 M = some (o, N)) : Ct K y_P_isSound [.ref v0, .ref v1, .int v2, .int v3] M o N := by
  refine ct_of (by decide) (List.forall_mem_cons.mpr ⟨rfl, List.forall_mem_cons.mpr ⟨rfl, List.forall_mem_cons.mpr ⟨rfl, List.forall_mem_cons.mpr ⟨rfl, fun _ q => absurd q List.not_mem_nil⟩⟩⟩⟩) (Nat.le_of_ble_eq_true rfl) ?_
  show cA K y_P_isSound 0 [(0, .ref v0), (1, .ref v1), (2, .int v2), (3, .int v3)] [] M o N
  unfold g_P_isSound at h
  refine x_aload_n (pc := 0) d_P_isSound_0 rfl 0 rfl ?_
  refine h_getR G (pc := 1) (ci := 1) (j := 0) d_P_isSound_1 rfl rfl rfl lf_P_11 h fun t1 h => ?_
  refine x_aload_n (pc := 4) d_P_isSound_4 rfl 1 rfl ?_
  refine h_getI G (pc := 5) (ci := 3) (j := 0) d_P_isSound_5 rfl rfl rfl lf_P_45 h fun t2 h => ?_
  refine h_aaload (pc := 8) (kd := 10) d_P_isSound_8 (by decide) rfl rfl h fun t3 h => ?_
  refine x_astore (pc := 9) (L' := [(0, .ref v0), (1, .ref v1), (2, .int v2), (3, .int v3), (4, .ref t3)]) d_P_isSound_9 (by decide) rfl ?_
  refine x_iload_n (pc := 11) d_P_isSound_11 rfl 2 rfl ?_
  refine h_case h (fun c0 h => ?_) (fun c0 h => ?_)
  · refine x_tableIn (pc := 12) 72 d_P_isSound_12 (by rw [c0]; decide) (by rw [c0]; decide) (off := 60) (by rw [c0]; rfl) (by decide) ?_
    refine x_aload (pc := 72) d_P_isSound_72 4 rfl ?_
    refine x_iload_n (pc := 74) d_P_isSound_74 rfl 3 rfl ?_
    refine x_iconst (pc := 75) d_P_isSound_75 rfl ?_
    obtain ⟨⟨ra12, ra12t⟩, h⟩ := h_ok h
    refine h_callI G (x_siteV G (pc := 76) (y2 := y_Q_holds) (As := [.int v3, .int 0]) (S := []) (ci := 2) d_P_isSound_76 rfl lm_P_62 mi_Q_holds ms_Q_holds mw_Q_holds.1 mx_Q_holds.1 mx_Q_holds.2 rfl ra12 ra12t) mw_Q_holds ⟨Nat.le_of_ble_eq_true rfl, Nat.le_of_ble_eq_true rfl⟩ rfl (fun _ _ e => p_Q_holds G _ _ _ _ e) h fun t14 M13 h => ?_
    exact h_zreturn (pc := 79) d_P_isSound_79 rfl h
  · refine h_case h (fun c1 h => ?_) (fun c1 h => ?_)
    · refine x_tableIn (pc := 12) 80 d_P_isSound_12 (by rw [c1]; decide) (by rw [c1]; decide) (off := 68) (by rw [c1]; rfl) (by decide) ?_
      refine x_weak [0, 1, 3, 4] rfl ?_
      exact p_P_isSound_80 G _ _ _ _ _ h
    · refine h_case h (fun c2 h => ?_) (fun c2 h => ?_)
      · refine x_tableIn (pc := 12) 80 d_P_isSound_12 (by rw [c2]; decide) (by rw [c2]; decide) (off := 68) (by rw [c2]; rfl) (by decide) ?_
        refine x_weak [0, 1, 3, 4] rfl ?_
        exact p_P_isSound_80 G _ _ _ _ _ h
      · refine h_case h (fun c3 h => ?_) (fun c3 h => ?_)
        · refine x_tableIn (pc := 12) 109 d_P_isSound_12 (by rw [c3]; decide) (by rw [c3]; decide) (off := 97) (by rw [c3]; rfl) (by decide) ?_
          refine x_aload (pc := 109) d_P_isSound_109 4 rfl ?_
          refine x_iload_n (pc := 111) d_P_isSound_111 rfl 3 rfl ?_
          refine x_iconst (pc := 112) d_P_isSound_112 rfl ?_
          obtain ⟨⟨ra5, ra5t⟩, h⟩ := h_ok h
          refine h_callI G (x_siteV G (pc := 113) (y2 := y_Q_holds) (As := [.int v3, .int 4]) (S := []) (ci := 2) d_P_isSound_113 rfl lm_P_62 mi_Q_holds ms_Q_holds mw_Q_holds.1 mx_Q_holds.1 mx_Q_holds.2 rfl ra5 ra5t) mw_Q_holds ⟨Nat.le_of_ble_eq_true rfl, Nat.le_of_ble_eq_true rfl⟩ rfl (fun _ _ e => p_Q_holds G _ _ _ _ e) h fun t7 M6 h => ?_
          refine h_if_eq (pc := 116) 136 d_P_isSound_116 (by decide) h (fun _ h => ?_) (fun _ h => ?_)
          · refine x_iconst (pc := 136) d_P_isSound_136 rfl ?_
            exact h_zreturn (pc := 137) d_P_isSound_137 rfl h
          · refine x_aload_n (pc := 119) d_P_isSound_119 rfl 0 rfl ?_
            refine x_aload_n (pc := 120) d_P_isSound_120 rfl 1 rfl ?_
            refine h_getI G (pc := 121) (ci := 3) (j := 0) d_P_isSound_121 rfl rfl rfl lf_P_45 h fun t8 h => ?_
            refine x_iload_n (pc := 124) d_P_isSound_124 rfl 3 rfl ?_
            obtain ⟨⟨ra9, ra9t⟩, h⟩ := h_ok h
            refine h_callI G (x_siteV G (pc := 125) (y2 := y_P_meant) (As := [.int t8, .int v3]) (S := []) (ci := 1) d_P_isSound_125 rfl lm_P_99 mi_P_meant ms_P_meant mw_P_meant.1 mx_P_meant.1 mx_P_meant.2 rfl ra9 ra9t) mw_P_meant ⟨Nat.le_of_ble_eq_true rfl, Nat.le_of_ble_eq_true rfl⟩ rfl (fun _ _ e => p_P_meant G _ _ _ _ e) h fun t11 M10 h => ?_
            refine x_iconst (pc := 128) d_P_isSound_128 rfl ?_
            refine h_icmp_eq (pc := 129) 136 d_P_isSound_129 (by decide) h (fun _ h => ?_) (fun _ h => ?_)
            · refine x_iconst (pc := 136) d_P_isSound_136 rfl ?_
              exact h_zreturn (pc := 137) d_P_isSound_137 rfl h
            · refine x_iconst (pc := 132) d_P_isSound_132 rfl ?_
              refine x_goto (pc := 133) 137 d_P_isSound_133 (by decide) ?_
              exact h_zreturn (pc := 137) d_P_isSound_137 rfl h
        · refine h_case h (fun c4 h => ?_) (fun c4 h => ?_)
          · refine x_tableIn (pc := 12) 138 d_P_isSound_12 (by rw [c4]; decide) (by rw [c4]; decide) (off := 126) (by rw [c4]; rfl) (by decide) ?_
            refine x_iload_n (pc := 138) d_P_isSound_138 rfl 3 rfl ?_
            refine h_if_lt (pc := 139) 154 d_P_isSound_139 (by decide) h (fun _ h => ?_) (fun _ h => ?_)
            · refine x_iconst (pc := 154) d_P_isSound_154 rfl ?_
              exact h_zreturn (pc := 155) d_P_isSound_155 rfl h
            · refine x_iload_n (pc := 142) d_P_isSound_142 rfl 3 rfl ?_
              refine x_aload_n (pc := 143) d_P_isSound_143 rfl 1 rfl ?_
              refine h_getI G (pc := 144) (ci := 3) (j := 2) d_P_isSound_144 rfl rfl rfl lf_P_103 h fun t4 h => ?_
              refine h_icmp_ge (pc := 147) 154 d_P_isSound_147 (by decide) h (fun _ h => ?_) (fun _ h => ?_)
              · refine x_iconst (pc := 154) d_P_isSound_154 rfl ?_
                exact h_zreturn (pc := 155) d_P_isSound_155 rfl h
              · refine x_iconst (pc := 150) d_P_isSound_150 rfl ?_
                refine x_goto (pc := 151) 155 d_P_isSound_151 (by decide) ?_
                exact h_zreturn (pc := 155) d_P_isSound_155 rfl h
          · refine h_case h (fun c5 h => ?_) (fun c5 h => ?_)
            · refine x_tableIn (pc := 12) 174 d_P_isSound_12 (by rw [c5]; decide) (by rw [c5]; decide) (off := 162) (by rw [c5]; rfl) (by decide) ?_
              refine x_iconst (pc := 174) d_P_isSound_174 rfl ?_
              exact h_zreturn (pc := 175) d_P_isSound_175 rfl h
            · refine h_case h (fun c6 h => ?_) (fun c6 h => ?_)
              · refine x_tableIn (pc := 12) 174 d_P_isSound_12 (by rw [c6]; decide) (by rw [c6]; decide) (off := 162) (by rw [c6]; rfl) (by decide) ?_
                refine x_iconst (pc := 174) d_P_isSound_174 rfl ?_
                exact h_zreturn (pc := 175) d_P_isSound_175 rfl h
              · refine h_case h (fun c7 h => ?_) (fun c7 h => ?_)
                · refine x_tableIn (pc := 12) 174 d_P_isSound_12 (by rw [c7]; decide) (by rw [c7]; decide) (off := 162) (by rw [c7]; rfl) (by decide) ?_
                  refine x_iconst (pc := 174) d_P_isSound_174 rfl ?_
                  exact h_zreturn (pc := 175) d_P_isSound_175 rfl h
                · refine h_case h (fun c8 h => ?_) (fun c8 h => ?_)
                  · refine x_tableIn (pc := 12) 174 d_P_isSound_12 (by rw [c8]; decide) (by rw [c8]; decide) (off := 162) (by rw [c8]; rfl) (by decide) ?_
                    refine x_iconst (pc := 174) d_P_isSound_174 rfl ?_
                    exact h_zreturn (pc := 175) d_P_isSound_175 rfl h
                  · refine h_case h (fun c9 h => ?_) (fun c9 h => ?_)
                    · refine x_tableIn (pc := 12) 156 d_P_isSound_12 (by rw [c9]; decide) (by rw [c9]; decide) (off := 144) (by rw [c9]; rfl) (by decide) ?_
                      refine x_weak [1, 3] rfl ?_
                      exact p_P_isSound_156 G _ _ _ h
                    · refine h_case h (fun c10 h => ?_) (fun c10 h => ?_)
                      · refine x_tableIn (pc := 12) 156 d_P_isSound_12 (by rw [c10]; decide) (by rw [c10]; decide) (off := 144) (by rw [c10]; rfl) (by decide) ?_
                        refine x_weak [1, 3] rfl ?_
                        exact p_P_isSound_156 G _ _ _ h
                      · refine x_tableOut (pc := 12) 174 d_P_isSound_12 (by have q0 := lv_neT (a := 0) c0 (by decide); have q1 := lv_neT (a := 1) c1 (by decide); have q2 := lv_neT (a := 2) c2 (by decide); have q3 := lv_neT (a := 3) c3 (by decide); have q4 := lv_neT (a := 4) c4 (by decide); have q5 := lv_neT (a := 5) c5 (by decide); have q6 := lv_neT (a := 6) c6 (by decide); have q7 := lv_neT (a := 7) c7 (by decide); have q8 := lv_neT (a := 8) c8 (by decide); have q9 := lv_neT (a := 9) c9 (by decide); have q10 := lv_neT (a := 10) c10 (by decide); omega) (by decide) ?_
                        refine x_iconst (pc := 174) d_P_isSound_174 rfl ?_
                        exact h_zreturn (pc := 175) d_P_isSound_175 rfl h
theorem p_P_firstFault_19 (G : xG K) {r2 : Nat → Int32 → XM → XP} (hr2 : ∀ w0 w1 Q, r2 w0 w1 Q = some (o, N) → cA K y_P_firstFault 2 [(0, .ref w0), (1, .int w1)] [] Q o N) : ∀ (n : Nat) (v0 : Nat) (v1 : Int32) (v2 : Nat) (v3 : Int32) (M : XM), g_P_firstFault_19 r2 n v0 v1 v2 v3 M = some (o, N) → cA K y_P_firstFault 19 [(0, .ref v0), (1, .int v1), (2, .ref v2), (3, .int v3)] [] M o N := by
  intro n
  induction n with
  | zero =>
    intro v0 v1 v2 v3 M h
    rw [g_P_firstFault_19] at h
    cases h
  | succ n ih =>
    intro v0 v1 v2 v3 M h
    rw [g_P_firstFault_19] at h
    refine x_iload_n (pc := 19) d_P_firstFault_19 rfl 3 rfl ?_
    refine x_aload_n (pc := 20) d_P_firstFault_20 rfl 2 rfl ?_
    refine h_getI G (pc := 21) (ci := 3) (j := 4) d_P_firstFault_21 rfl rfl rfl lf_P_86 h fun t1 h => ?_
    refine h_icmp_ge (pc := 24) 60 d_P_firstFault_24 (by decide) h (fun _ h => ?_) (fun _ h => ?_)
    · refine x_iinc (pc := 60) (n := 1) (L' := [(0, .ref v0), (1, .int (v1 + 1)), (2, .ref v2), (3, .int v3)]) d_P_firstFault_60 (by decide) rfl rfl ?_
      refine x_goto (pc := 63) 2 d_P_firstFault_63 (by decide) ?_
      refine x_weak [0, 1] rfl ?_
      exact hr2 _ _ _ h
    · refine x_aload_n (pc := 27) d_P_firstFault_27 rfl 0 rfl ?_
      refine x_aload_n (pc := 28) d_P_firstFault_28 rfl 2 rfl ?_
      refine x_aload_n (pc := 29) d_P_firstFault_29 rfl 2 rfl ?_
      refine h_getR G (pc := 30) (ci := 3) (j := 5) d_P_firstFault_30 rfl rfl rfl lf_P_89 h fun t2 h => ?_
      refine x_iload_n (pc := 33) d_P_firstFault_33 rfl 3 rfl ?_
      refine h_iaload (pc := 34) d_P_firstFault_34 h fun t3 h => ?_
      refine x_aload_n (pc := 35) d_P_firstFault_35 rfl 2 rfl ?_
      refine h_getR G (pc := 36) (ci := 3) (j := 6) d_P_firstFault_36 rfl rfl rfl lf_P_92 h fun t4 h => ?_
      refine x_iload_n (pc := 39) d_P_firstFault_39 rfl 3 rfl ?_
      refine h_iaload (pc := 40) d_P_firstFault_40 h fun t5 h => ?_
      obtain ⟨⟨ra6, ra6t⟩, h⟩ := h_ok h
      refine h_callI G (x_siteV G (pc := 41) (y2 := y_P_isSound) (As := [.ref v2, .int t3, .int t5]) (S := []) (ci := 1) d_P_firstFault_41 rfl lm_P_95 mi_P_isSound ms_P_isSound mw_P_isSound.1 mx_P_isSound.1 mx_P_isSound.2 rfl ra6 ra6t) mw_P_isSound ⟨Nat.le_of_ble_eq_true rfl, Nat.le_of_ble_eq_true rfl⟩ rfl (fun _ _ e => p_P_isSound G _ _ _ _ _ e) h fun t8 M7 h => ?_
      refine h_if_ne (pc := 44) 54 d_P_firstFault_44 (by decide) h (fun _ h => ?_) (fun _ h => ?_)
      · refine x_iinc (pc := 54) (n := 3) (L' := [(0, .ref v0), (1, .int v1), (2, .ref v2), (3, .int (v3 + 1))]) d_P_firstFault_54 (by decide) rfl rfl ?_
        refine x_goto (pc := 57) 19 d_P_firstFault_57 (by decide) ?_
        refine x_weak [0, 1, 2, 3] rfl ?_
        exact ih _ _ _ _ _ h
      · refine x_bipush (pc := 47) (v := 100) d_P_firstFault_47 (by decide) ?_
        refine x_iload_n (pc := 49) d_P_firstFault_49 rfl 1 rfl ?_
        refine x_imul (pc := 50) d_P_firstFault_50 ?_
        refine x_iload_n (pc := 51) d_P_firstFault_51 rfl 3 rfl ?_
        refine x_iadd (pc := 52) d_P_firstFault_52 ?_
        exact h_ireturn (pc := 53) d_P_firstFault_53 rfl h
theorem p_P_firstFault_2 (G : xG K) : ∀ (n : Nat) (v0 : Nat) (v1 : Int32) (M : XM), g_P_firstFault_2 n v0 v1 M = some (o, N) → cA K y_P_firstFault 2 [(0, .ref v0), (1, .int v1)] [] M o N := by
  intro n
  induction n with
  | zero =>
    intro v0 v1 M h
    rw [g_P_firstFault_2] at h
    cases h
  | succ n ih =>
    intro v0 v1 M h
    rw [g_P_firstFault_2] at h
    refine x_iload_n (pc := 2) d_P_firstFault_2 rfl 1 rfl ?_
    refine x_aload_n (pc := 3) d_P_firstFault_3 rfl 0 rfl ?_
    refine h_getI G (pc := 4) (ci := 1) (j := 3) d_P_firstFault_4 rfl rfl rfl lf_P_29 h fun t1 h => ?_
    refine h_icmp_ge (pc := 7) 66 d_P_firstFault_7 (by decide) h (fun _ h => ?_) (fun _ h => ?_)
    · refine x_iconst (pc := 66) d_P_firstFault_66 rfl ?_
      exact h_ireturn (pc := 67) d_P_firstFault_67 rfl h
    · refine x_aload_n (pc := 10) d_P_firstFault_10 rfl 0 rfl ?_
      refine h_getR G (pc := 11) (ci := 1) (j := 1) d_P_firstFault_11 rfl rfl rfl lf_P_19 h fun t2 h => ?_
      refine x_iload_n (pc := 14) d_P_firstFault_14 rfl 1 rfl ?_
      refine h_aaload (pc := 15) (kd := 11) d_P_firstFault_15 (by decide) rfl rfl h fun t3 h => ?_
      refine x_astore_n (pc := 16) (L' := [(0, .ref v0), (1, .int v1), (2, .ref t3)]) d_P_firstFault_16 rfl (by decide) rfl ?_
      refine x_iconst (pc := 17) d_P_firstFault_17 rfl ?_
      refine x_istore_n (pc := 18) (L' := [(0, .ref v0), (1, .int v1), (2, .ref t3), (3, .int 0)]) d_P_firstFault_18 rfl (by decide) rfl ?_
      refine x_weak [0, 1, 2, 3] rfl ?_
      exact p_P_firstFault_19 G ih FU _ _ _ _ _ h
theorem p_P_firstFault (G : xG K) (v0 : Nat) (M : XM) (h : g_P_firstFault v0 M = some (o, N)) : Ct K y_P_firstFault [.ref v0] M o N := by
  refine ct_of (by decide) (List.forall_mem_cons.mpr ⟨rfl, fun _ q => absurd q List.not_mem_nil⟩) (Nat.le_of_ble_eq_true rfl) ?_
  show cA K y_P_firstFault 0 [(0, .ref v0)] [] M o N
  unfold g_P_firstFault at h
  refine x_iconst (pc := 0) d_P_firstFault_0 rfl ?_
  refine x_istore_n (pc := 1) (L' := [(0, .ref v0), (1, .int 0)]) d_P_firstFault_1 rfl (by decide) rfl ?_
  refine x_weak [0, 1] rfl ?_
  exact p_P_firstFault_2 G FU _ _ _ h
theorem p_S_fault (G : xG K) (v0 : Nat) (M : XM) (h : g_S_fault v0 M = some (o, N)) : Ct K y_S_fault [.ref v0] M o N := by
  refine ct_of (by decide) (List.forall_mem_cons.mpr ⟨rfl, fun _ q => absurd q List.not_mem_nil⟩) (Nat.le_of_ble_eq_true rfl) ?_
  show cA K y_S_fault 0 [(0, .ref v0)] [] M o N
  unfold g_S_fault at h
  refine x_aload_n (pc := 0) d_S_fault_0 rfl 0 rfl ?_
  refine h_getR G (pc := 1) (ci := 0) (j := 0) d_S_fault_1 rfl rfl rfl lf_S_10 h fun t1 h => ?_
  obtain ⟨⟨ra2, ra2t⟩, h⟩ := h_ok h
  refine h_callI G (x_siteV G (pc := 4) (y2 := y_P_firstFault) (As := []) (S := []) (ci := 1) d_S_fault_4 rfl lm_S_124 mi_P_firstFault ms_P_firstFault mw_P_firstFault.1 mx_P_firstFault.1 mx_P_firstFault.2 rfl ra2 ra2t) mw_P_firstFault ⟨Nat.le_of_ble_eq_true rfl, Nat.le_of_ble_eq_true rfl⟩ rfl (fun _ _ e => p_P_firstFault G _ _ e) h fun t4 M3 h => ?_
  exact h_ireturn (pc := 7) d_S_fault_7 rfl h
theorem p_K_newNumber (G : xG K) (v0 : Nat) (v1 : Int32) (M : XM) (h : g_K_newNumber v0 v1 M = some (o, N)) : Ct K y_K_newNumber [.ref v0, .int v1] M o N := by
  refine ct_of (by decide) (List.forall_mem_cons.mpr ⟨rfl, List.forall_mem_cons.mpr ⟨rfl, fun _ q => absurd q List.not_mem_nil⟩⟩) (Nat.le_of_ble_eq_true rfl) ?_
  show cA K y_K_newNumber 0 [(0, .ref v0), (1, .int v1)] [] M o N
  unfold g_K_newNumber at h
  refine x_iload_n (pc := 0) d_K_newNumber_0 rfl 1 rfl ?_
  refine h_if_lt (pc := 1) 19 d_K_newNumber_1 (by decide) h (fun _ h => ?_) (fun _ h => ?_)
  · refine x_iconst (pc := 19) d_K_newNumber_19 rfl ?_
    exact h_ireturn (pc := 20) d_K_newNumber_20 rfl h
  · refine x_iload_n (pc := 4) d_K_newNumber_4 rfl 1 rfl ?_
    refine x_bipush (pc := 5) (v := 30) d_K_newNumber_5 (by decide) ?_
    refine h_icmp_ge (pc := 7) 19 d_K_newNumber_7 (by decide) h (fun _ h => ?_) (fun _ h => ?_)
    · refine x_iconst (pc := 19) d_K_newNumber_19 rfl ?_
      exact h_ireturn (pc := 20) d_K_newNumber_20 rfl h
    · refine x_aload_n (pc := 10) d_K_newNumber_10 rfl 0 rfl ?_
      refine h_getR G (pc := 11) (ci := 4) (j := 0) d_K_newNumber_11 rfl rfl rfl lf_K_9 h fun t1 h => ?_
      refine x_iload_n (pc := 14) d_K_newNumber_14 rfl 1 rfl ?_
      refine h_iaload (pc := 15) d_K_newNumber_15 h fun t2 h => ?_
      refine x_goto (pc := 16) 20 d_K_newNumber_16 (by decide) ?_
      exact h_ireturn (pc := 20) d_K_newNumber_20 rfl h
theorem p_S_moved (G : xG K) (v0 : Nat) (v1 : Int32) (M : XM) (h : g_S_moved v0 v1 M = some (o, N)) : Ct K y_S_moved [.ref v0, .int v1] M o N := by
  refine ct_of (by decide) (List.forall_mem_cons.mpr ⟨rfl, List.forall_mem_cons.mpr ⟨rfl, fun _ q => absurd q List.not_mem_nil⟩⟩) (Nat.le_of_ble_eq_true rfl) ?_
  show cA K y_S_moved 0 [(0, .ref v0), (1, .int v1)] [] M o N
  unfold g_S_moved at h
  refine x_aload_n (pc := 0) d_S_moved_0 rfl 0 rfl ?_
  refine h_getR G (pc := 1) (ci := 0) (j := 2) d_S_moved_1 rfl rfl rfl lf_S_22 h fun t1 h => ?_
  refine x_iload_n (pc := 4) d_S_moved_4 rfl 1 rfl ?_
  obtain ⟨⟨ra2, ra2t⟩, h⟩ := h_ok h
  refine h_callI G (x_siteV G (pc := 5) (y2 := y_K_newNumber) (As := [.int v1]) (S := []) (ci := 4) d_S_moved_5 rfl lm_S_187 mi_K_newNumber ms_K_newNumber mw_K_newNumber.1 mx_K_newNumber.1 mx_K_newNumber.2 rfl ra2 ra2t) mw_K_newNumber ⟨Nat.le_of_ble_eq_true rfl, Nat.le_of_ble_eq_true rfl⟩ rfl (fun _ _ e => p_K_newNumber G _ _ _ e) h fun t4 M3 h => ?_
  exact h_ireturn (pc := 8) d_S_moved_8 rfl h
theorem p_P_startClass (G : xG K) (v0 : Nat) (M : XM) (h : g_P_startClass v0 M = some (o, N)) : Ct K y_P_startClass [.ref v0] M o N := by
  refine ct_of (by decide) (List.forall_mem_cons.mpr ⟨rfl, fun _ q => absurd q List.not_mem_nil⟩) (Nat.le_of_ble_eq_true rfl) ?_
  show cA K y_P_startClass 0 [(0, .ref v0)] [] M o N
  unfold g_P_startClass at h
  refine x_aload_n (pc := 0) d_P_startClass_0 rfl 0 rfl ?_
  refine h_getR G (pc := 1) (ci := 1) (j := 0) d_P_startClass_1 rfl rfl rfl lf_P_11 h fun t1 h => ?_
  refine x_aload_n (pc := 4) d_P_startClass_4 rfl 0 rfl ?_
  refine h_getI G (pc := 5) (ci := 1) (j := 2) d_P_startClass_5 rfl rfl rfl lf_P_25 h fun t2 h => ?_
  refine h_aaload (pc := 8) (kd := 10) d_P_startClass_8 (by decide) rfl rfl h fun t3 h => ?_
  refine x_iconst (pc := 9) d_P_startClass_9 rfl ?_
  refine h_putI G (pc := 10) (ci := 2) (j := 3) d_P_startClass_10 rfl rfl rfl lf_P_32 h fun M4 h => ?_
  refine x_aload_n (pc := 13) d_P_startClass_13 rfl 0 rfl ?_
  refine x_dup (pc := 14) d_P_startClass_14 rfl ?_
  refine h_getI G (pc := 15) (ci := 1) (j := 2) d_P_startClass_15 rfl rfl rfl lf_P_25 h fun t5 h => ?_
  refine x_iconst (pc := 18) d_P_startClass_18 rfl ?_
  refine x_iadd (pc := 19) d_P_startClass_19 ?_
  refine h_putI G (pc := 20) (ci := 1) (j := 2) d_P_startClass_20 rfl rfl rfl lf_P_25 h fun M6 h => ?_
  refine x_aload_n (pc := 23) d_P_startClass_23 rfl 0 rfl ?_
  refine h_getI G (pc := 24) (ci := 1) (j := 2) d_P_startClass_24 rfl rfl rfl lf_P_25 h fun t7 h => ?_
  refine x_iconst (pc := 27) d_P_startClass_27 rfl ?_
  refine x_isub (pc := 28) d_P_startClass_28 ?_
  exact h_ireturn (pc := 29) d_P_startClass_29 rfl h
theorem p_S_add (G : xG K) (v0 : Nat) (M : XM) (h : g_S_add v0 M = some (o, N)) : Ct K y_S_add [.ref v0] M o N := by
  refine ct_of (by decide) (List.forall_mem_cons.mpr ⟨rfl, fun _ q => absurd q List.not_mem_nil⟩) (Nat.le_of_ble_eq_true rfl) ?_
  show cA K y_S_add 0 [(0, .ref v0)] [] M o N
  unfold g_S_add at h
  refine x_aload_n (pc := 0) d_S_add_0 rfl 0 rfl ?_
  refine h_getR G (pc := 1) (ci := 0) (j := 0) d_S_add_1 rfl rfl rfl lf_S_10 h fun t1 h => ?_
  refine h_getI G (pc := 4) (ci := 1) (j := 2) d_S_add_4 rfl rfl rfl lf_S_33 h fun t2 h => ?_
  refine x_bipush (pc := 7) (v := 6) d_S_add_7 (by decide) ?_
  refine h_icmp_lt (pc := 9) 22 d_S_add_9 (by decide) h (fun _ h => ?_) (fun _ h => ?_)
  · refine x_aload_n (pc := 22) d_S_add_22 rfl 0 rfl ?_
    refine h_getR G (pc := 23) (ci := 0) (j := 0) d_S_add_23 rfl rfl rfl lf_S_10 h fun t3 h => ?_
    obtain ⟨⟨ra4, ra4t⟩, h⟩ := h_ok h
    refine h_callI G (x_siteV G (pc := 26) (y2 := y_P_startClass) (As := []) (S := []) (ci := 1) d_S_add_26 rfl lm_S_44 mi_P_startClass ms_P_startClass mw_P_startClass.1 mx_P_startClass.1 mx_P_startClass.2 rfl ra4 ra4t) mw_P_startClass ⟨Nat.le_of_ble_eq_true rfl, Nat.le_of_ble_eq_true rfl⟩ rfl (fun _ _ e => p_P_startClass G _ _ e) h fun t6 M5 h => ?_
    exact h_ireturn (pc := 29) d_S_add_29 rfl h
  · exact h_throw G (pc := 12) (ei := 0) rfl d_S_add_12 d_S_add_15 d_S_add_16 d_S_add_18 d_S_add_21 lc_S_37 lm_S_41 ls_S_39 rfl (Nat.le_of_ble_eq_true rfl) (Nat.le_of_ble_eq_true rfl) h
theorem p_W_add (G : xG K) (v0 : Nat) (v1 : Nat) (M : XM) (h : g_W_add v0 v1 M = some (o, N)) : Ct K y_W_add [.ref v0, .ref v1] M o N := by
  refine ct_of (by decide) (List.forall_mem_cons.mpr ⟨rfl, List.forall_mem_cons.mpr ⟨rfl, fun _ q => absurd q List.not_mem_nil⟩⟩) (Nat.le_of_ble_eq_true rfl) ?_
  show cA K y_W_add 0 [(0, .ref v0), (1, .ref v1)] [] M o N
  unfold g_W_add at h
  refine x_aload_n (pc := 0) d_W_add_0 rfl 1 rfl ?_
  refine x_iconst (pc := 1) d_W_add_1 rfl ?_
  refine x_aload_n (pc := 2) d_W_add_2 rfl 0 rfl ?_
  obtain ⟨⟨ra1, ra1t⟩, h⟩ := h_ok h
  refine h_hI G (x_siteV G (pc := 3) (y2 := y_S_add) (As := []) (S := [.int 0, .ref v1]) (ci := 0) d_W_add_3 rfl lm_W_7 mi_S_add ms_S_add mw_S_add.1 mx_S_add.1 mx_S_add.2 rfl ra1 ra1t) mw_S_add ⟨Nat.le_of_ble_eq_true rfl, Nat.le_of_ble_eq_true rfl⟩ (fun _ _ e => p_S_add G _ _ e) h (fun t3 M2 h => ?_) (fun a5 M6 h => ?_)
  · refine x_i2l (pc := 6) d_W_add_6 ?_
    refine h_lastore G (pc := 7) d_W_add_7 h fun M4 h => ?_
    refine x_goto (pc := 8) 14 d_W_add_8 (by decide) ?_
    refine x_iconst (pc := 14) d_W_add_14 rfl ?_
    exact h_ireturn (pc := 15) d_W_add_15 rfl h
  · refine h_catch G (pc := 3) (ei := 0) rfl [] (0, 8, 11, 13) [] rfl (fun _ q => absurd q List.not_mem_nil) ⟨by decide, by decide, by decide, lc_W_13⟩ h (fun h => ?_) (fun h => ?_)
    · refine x_astore_n (pc := 11) (L' := [(0, .ref v0), (1, .ref v1), (2, .ref a5)]) d_W_add_11 rfl (by decide) rfl ?_
      refine x_iconst (pc := 12) d_W_add_12 rfl ?_
      exact h_ireturn (pc := 13) d_W_add_13 rfl h
    · cases h
theorem p_P_hasClass (G : xG K) (v0 : Nat) (v1 : Int32) (M : XM) (h : g_P_hasClass v0 v1 M = some (o, N)) : Ct K y_P_hasClass [.ref v0, .int v1] M o N := by
  refine ct_of (by decide) (List.forall_mem_cons.mpr ⟨rfl, List.forall_mem_cons.mpr ⟨rfl, fun _ q => absurd q List.not_mem_nil⟩⟩) (Nat.le_of_ble_eq_true rfl) ?_
  show cA K y_P_hasClass 0 [(0, .ref v0), (1, .int v1)] [] M o N
  unfold g_P_hasClass at h
  refine x_iload_n (pc := 0) d_P_hasClass_0 rfl 1 rfl ?_
  refine h_if_lt (pc := 1) 16 d_P_hasClass_1 (by decide) h (fun _ h => ?_) (fun _ h => ?_)
  · refine x_iconst (pc := 16) d_P_hasClass_16 rfl ?_
    exact h_zreturn (pc := 17) d_P_hasClass_17 rfl h
  · refine x_iload_n (pc := 4) d_P_hasClass_4 rfl 1 rfl ?_
    refine x_aload_n (pc := 5) d_P_hasClass_5 rfl 0 rfl ?_
    refine h_getI G (pc := 6) (ci := 1) (j := 2) d_P_hasClass_6 rfl rfl rfl lf_P_25 h fun t1 h => ?_
    refine h_icmp_ge (pc := 9) 16 d_P_hasClass_9 (by decide) h (fun _ h => ?_) (fun _ h => ?_)
    · refine x_iconst (pc := 16) d_P_hasClass_16 rfl ?_
      exact h_zreturn (pc := 17) d_P_hasClass_17 rfl h
    · refine x_iconst (pc := 12) d_P_hasClass_12 rfl ?_
      refine x_goto (pc := 13) 17 d_P_hasClass_13 (by decide) ?_
      exact h_zreturn (pc := 17) d_P_hasClass_17 rfl h
theorem p_P_allowsConstant_60 (G : xG K) (v0 : Nat) (v1 : Int32) (v3 : Int32) (v4 : Int32) (M : XM) (h : g_P_allowsConstant_60 v0 v1 v3 v4 M = some (o, N)) : cA K y_P_allowsConstant 60 [(0, .ref v0), (1, .int v1), (3, .int v3), (4, .int v4)] [] M o N := by
  unfold g_P_allowsConstant_60 at h
  refine x_aload_n (pc := 60) d_P_allowsConstant_60 rfl 0 rfl ?_
  refine h_getR G (pc := 61) (ci := 1) (j := 0) d_P_allowsConstant_61 rfl rfl rfl lf_P_11 h fun t1 h => ?_
  refine x_iload_n (pc := 64) d_P_allowsConstant_64 rfl 1 rfl ?_
  refine h_aaload (pc := 65) (kd := 10) d_P_allowsConstant_65 (by decide) rfl rfl h fun t2 h => ?_
  refine x_iload_n (pc := 66) d_P_allowsConstant_66 rfl 2 rfl ?_
  refine x_iconst (pc := 67) d_P_allowsConstant_67 rfl ?_
  obtain ⟨⟨ra3, ra3t⟩, h⟩ := h_ok h
  refine h_callI G (x_siteV G (pc := 68) (y2 := y_Q_holds) (As := [.int v3, .int 2]) (S := []) (ci := 2) d_P_allowsConstant_68 rfl lm_P_62 mi_Q_holds ms_Q_holds mw_Q_holds.1 mx_Q_holds.1 mx_Q_holds.2 rfl ra3 ra3t) mw_Q_holds ⟨Nat.le_of_ble_eq_true rfl, Nat.le_of_ble_eq_true rfl⟩ rfl (fun _ _ e => p_Q_holds G _ _ _ _ e) h fun t5 M4 h => ?_
  refine h_if_eq (pc := 71) 93 d_P_allowsConstant_71 (by decide) h (fun _ h => ?_) (fun _ h => ?_)
  · refine x_iconst (pc := 93) d_P_allowsConstant_93 rfl ?_
    exact h_zreturn (pc := 94) d_P_allowsConstant_94 rfl h
  · refine x_aload_n (pc := 74) d_P_allowsConstant_74 rfl 0 rfl ?_
    refine h_getR G (pc := 75) (ci := 1) (j := 0) d_P_allowsConstant_75 rfl rfl rfl lf_P_11 h fun t6 h => ?_
    refine x_iload_n (pc := 78) d_P_allowsConstant_78 rfl 1 rfl ?_
    refine h_aaload (pc := 79) (kd := 10) d_P_allowsConstant_79 (by decide) rfl rfl h fun t7 h => ?_
    refine x_iload (pc := 80) d_P_allowsConstant_80 3 rfl ?_
    refine x_iconst (pc := 82) d_P_allowsConstant_82 rfl ?_
    obtain ⟨⟨ra8, ra8t⟩, h⟩ := h_ok h
    refine h_callI G (x_siteV G (pc := 83) (y2 := y_Q_holds) (As := [.int v4, .int 1]) (S := []) (ci := 2) d_P_allowsConstant_83 rfl lm_P_62 mi_Q_holds ms_Q_holds mw_Q_holds.1 mx_Q_holds.1 mx_Q_holds.2 rfl ra8 ra8t) mw_Q_holds ⟨Nat.le_of_ble_eq_true rfl, Nat.le_of_ble_eq_true rfl⟩ rfl (fun _ _ e => p_Q_holds G _ _ _ _ e) h fun t10 M9 h => ?_
    refine h_if_eq (pc := 86) 93 d_P_allowsConstant_86 (by decide) h (fun _ h => ?_) (fun _ h => ?_)
    · refine x_iconst (pc := 93) d_P_allowsConstant_93 rfl ?_
      exact h_zreturn (pc := 94) d_P_allowsConstant_94 rfl h
    · refine x_iconst (pc := 89) d_P_allowsConstant_89 rfl ?_
      refine x_goto (pc := 90) 94 d_P_allowsConstant_90 (by decide) ?_
      exact h_zreturn (pc := 94) d_P_allowsConstant_94 rfl h
theorem p_P_allowsConstant (G : xG K) (v0 : Nat) (v1 : Int32) (v2 : Int32) (v3 : Int32) (v4 : Int32) (M : XM) (h : g_P_allowsConstant v0 v1 v2 v3 v4 M = some (o, N)) : Ct K y_P_allowsConstant [.ref v0, .int v1, .int v2, .int v3, .int v4] M o N := by
  refine ct_of (by decide) (List.forall_mem_cons.mpr ⟨rfl, List.forall_mem_cons.mpr ⟨rfl, List.forall_mem_cons.mpr ⟨rfl, List.forall_mem_cons.mpr ⟨rfl, List.forall_mem_cons.mpr ⟨rfl, fun _ q => absurd q List.not_mem_nil⟩⟩⟩⟩⟩) (Nat.le_of_ble_eq_true rfl) ?_
  show cA K y_P_allowsConstant 0 [(0, .ref v0), (1, .int v1), (2, .int v2), (3, .int v3), (4, .int v4)] [] M o N
  unfold g_P_allowsConstant at h
  refine x_iload_n (pc := 0) d_P_allowsConstant_0 rfl 2 rfl ?_
  refine h_case h (fun c0 h => ?_) (fun c0 h => ?_)
  · refine x_tableIn (pc := 1) 36 d_P_allowsConstant_1 (by rw [c0]; decide) (by rw [c0]; decide) (off := 35) (by rw [c0]; rfl) (by decide) ?_
    refine x_iconst (pc := 36) d_P_allowsConstant_36 rfl ?_
    exact h_zreturn (pc := 37) d_P_allowsConstant_37 rfl h
  · refine h_case h (fun c1 h => ?_) (fun c1 h => ?_)
    · refine x_tableIn (pc := 1) 38 d_P_allowsConstant_1 (by rw [c1]; decide) (by rw [c1]; decide) (off := 37) (by rw [c1]; rfl) (by decide) ?_
      refine x_iload_n (pc := 38) d_P_allowsConstant_38 rfl 3 rfl ?_
      refine h_if_lt (pc := 39) 52 d_P_allowsConstant_39 (by decide) h (fun _ h => ?_) (fun _ h => ?_)
      · refine x_iconst (pc := 52) d_P_allowsConstant_52 rfl ?_
        exact h_zreturn (pc := 53) d_P_allowsConstant_53 rfl h
      · refine x_iload_n (pc := 42) d_P_allowsConstant_42 rfl 3 rfl ?_
        refine x_bipush (pc := 43) (v := 100) d_P_allowsConstant_43 (by decide) ?_
        refine h_icmp_ge (pc := 45) 52 d_P_allowsConstant_45 (by decide) h (fun _ h => ?_) (fun _ h => ?_)
        · refine x_iconst (pc := 52) d_P_allowsConstant_52 rfl ?_
          exact h_zreturn (pc := 53) d_P_allowsConstant_53 rfl h
        · refine x_iconst (pc := 48) d_P_allowsConstant_48 rfl ?_
          refine x_goto (pc := 49) 53 d_P_allowsConstant_49 (by decide) ?_
          exact h_zreturn (pc := 53) d_P_allowsConstant_53 rfl h
    · refine h_case h (fun c2 h => ?_) (fun c2 h => ?_)
      · refine x_tableIn (pc := 1) 54 d_P_allowsConstant_1 (by rw [c2]; decide) (by rw [c2]; decide) (off := 53) (by rw [c2]; rfl) (by decide) ?_
        refine x_aload_n (pc := 54) d_P_allowsConstant_54 rfl 0 rfl ?_
        refine x_iload_n (pc := 55) d_P_allowsConstant_55 rfl 3 rfl ?_
        obtain ⟨⟨ra1, ra1t⟩, h⟩ := h_ok h
        refine h_callI G (x_siteV G (pc := 56) (y2 := y_P_hasClass) (As := [.int v3]) (S := []) (ci := 1) d_P_allowsConstant_56 rfl lm_P_59 mi_P_hasClass ms_P_hasClass mw_P_hasClass.1 mx_P_hasClass.1 mx_P_hasClass.2 rfl ra1 ra1t) mw_P_hasClass ⟨Nat.le_of_ble_eq_true rfl, Nat.le_of_ble_eq_true rfl⟩ rfl (fun _ _ e => p_P_hasClass G _ _ _ e) h fun t3 M2 h => ?_
        exact h_zreturn (pc := 59) d_P_allowsConstant_59 rfl h
      · refine h_case h (fun c3 h => ?_) (fun c3 h => ?_)
        · refine x_tableIn (pc := 1) 60 d_P_allowsConstant_1 (by rw [c3]; decide) (by rw [c3]; decide) (off := 59) (by rw [c3]; rfl) (by decide) ?_
          refine x_weak [0, 1, 3, 4] rfl ?_
          exact p_P_allowsConstant_60 G _ _ _ _ _ h
        · refine h_case h (fun c4 h => ?_) (fun c4 h => ?_)
          · refine x_tableIn (pc := 1) 60 d_P_allowsConstant_1 (by rw [c4]; decide) (by rw [c4]; decide) (off := 59) (by rw [c4]; rfl) (by decide) ?_
            refine x_weak [0, 1, 3, 4] rfl ?_
            exact p_P_allowsConstant_60 G _ _ _ _ _ h
          · refine x_tableOut (pc := 1) 95 d_P_allowsConstant_1 (by have q0 := lv_neT (a := 0) c0 (by decide); have q1 := lv_neT (a := 1) c1 (by decide); have q2 := lv_neT (a := 2) c2 (by decide); have q3 := lv_neT (a := 3) c3 (by decide); have q4 := lv_neT (a := 4) c4 (by decide); omega) (by decide) ?_
            refine x_iconst (pc := 95) d_P_allowsConstant_95 rfl ?_
            exact h_zreturn (pc := 96) d_P_allowsConstant_96 rfl h
theorem p_Q_append (G : xG K) (v0 : Nat) (v1 : Int32) (v2 : Int32) (v3 : Int32) (M : XM) (h : g_Q_append v0 v1 v2 v3 M = some (o, N)) : Ct K y_Q_append [.ref v0, .int v1, .int v2, .int v3] M o N := by
  refine ct_of (by decide) (List.forall_mem_cons.mpr ⟨rfl, List.forall_mem_cons.mpr ⟨rfl, List.forall_mem_cons.mpr ⟨rfl, List.forall_mem_cons.mpr ⟨rfl, fun _ q => absurd q List.not_mem_nil⟩⟩⟩⟩) (Nat.le_of_ble_eq_true rfl) ?_
  show cA K y_Q_append 0 [(0, .ref v0), (1, .int v1), (2, .int v2), (3, .int v3)] [] M o N
  unfold g_Q_append at h
  refine x_aload_n (pc := 0) d_Q_append_0 rfl 0 rfl ?_
  refine h_getR G (pc := 1) (ci := 2) (j := 0) d_Q_append_1 rfl rfl rfl lf_Q_9 h fun t1 h => ?_
  refine x_aload_n (pc := 4) d_Q_append_4 rfl 0 rfl ?_
  refine h_getI G (pc := 5) (ci := 2) (j := 3) d_Q_append_5 rfl rfl rfl lf_Q_21 h fun t2 h => ?_
  refine x_iload_n (pc := 8) d_Q_append_8 rfl 1 rfl ?_
  refine h_iastore G (pc := 9) d_Q_append_9 h fun M3 h => ?_
  refine x_aload_n (pc := 10) d_Q_append_10 rfl 0 rfl ?_
  refine h_getR G (pc := 11) (ci := 2) (j := 1) d_Q_append_11 rfl rfl rfl lf_Q_15 h fun t4 h => ?_
  refine x_aload_n (pc := 14) d_Q_append_14 rfl 0 rfl ?_
  refine h_getI G (pc := 15) (ci := 2) (j := 3) d_Q_append_15 rfl rfl rfl lf_Q_21 h fun t5 h => ?_
  refine x_iload_n (pc := 18) d_Q_append_18 rfl 2 rfl ?_
  refine h_iastore G (pc := 19) d_Q_append_19 h fun M6 h => ?_
  refine x_aload_n (pc := 20) d_Q_append_20 rfl 0 rfl ?_
  refine h_getR G (pc := 21) (ci := 2) (j := 2) d_Q_append_21 rfl rfl rfl lf_Q_18 h fun t7 h => ?_
  refine x_aload_n (pc := 24) d_Q_append_24 rfl 0 rfl ?_
  refine h_getI G (pc := 25) (ci := 2) (j := 3) d_Q_append_25 rfl rfl rfl lf_Q_21 h fun t8 h => ?_
  refine x_iload_n (pc := 28) d_Q_append_28 rfl 3 rfl ?_
  refine h_iastore G (pc := 29) d_Q_append_29 h fun M9 h => ?_
  refine x_aload_n (pc := 30) d_Q_append_30 rfl 0 rfl ?_
  refine x_dup (pc := 31) d_Q_append_31 rfl ?_
  refine h_getI G (pc := 32) (ci := 2) (j := 3) d_Q_append_32 rfl rfl rfl lf_Q_21 h fun t10 h => ?_
  refine x_iconst (pc := 35) d_Q_append_35 rfl ?_
  refine x_iadd (pc := 36) d_Q_append_36 ?_
  refine h_putI G (pc := 37) (ci := 2) (j := 3) d_Q_append_37 rfl rfl rfl lf_Q_21 h fun M11 h => ?_
  refine x_aload_n (pc := 40) d_Q_append_40 rfl 0 rfl ?_
  refine h_getI G (pc := 41) (ci := 2) (j := 3) d_Q_append_41 rfl rfl rfl lf_Q_21 h fun t12 h => ?_
  refine x_iconst (pc := 44) d_Q_append_44 rfl ?_
  refine x_isub (pc := 45) d_Q_append_45 ?_
  exact h_ireturn (pc := 46) d_Q_append_46 rfl h
end XG
