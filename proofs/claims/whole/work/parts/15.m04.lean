/-! laid by program from the bytecode: S_codeAt, W_codeAt, F_start, E_begin, F_put, F_take, E_call, E_useConstant, E_calculate, E_end, E_steer, E_step, E_execute, S_run, W_run, R_init, R_thrown, R_add, R_noClass, R_base, R_has -/
theorem d_S_codeAt_0 : decode prog_1_method_14_code 0 = .ok (.aload_n 0, 1) := by decide +kernel
theorem d_S_codeAt_1 : decode prog_1_method_14_code 1 = .ok (.iload_n 1, 1) := by decide +kernel
theorem d_S_codeAt_2 : decode prog_1_method_14_code 2 = .ok (.invokevirtual 138, 3) := by decide +kernel
theorem d_S_codeAt_5 : decode prog_1_method_14_code 5 = .ok (.astore 4, 2) := by decide +kernel
theorem d_S_codeAt_7 : decode prog_1_method_14_code 7 = .ok (.aload 4, 2) := by decide +kernel
theorem d_S_codeAt_9 : decode prog_1_method_14_code 9 = .ok (.iload_n 2, 1) := by decide +kernel
theorem d_S_codeAt_10 : decode prog_1_method_14_code 10 = .ok (.invokevirtual 96, 3) := by decide +kernel
theorem d_S_codeAt_13 : decode prog_1_method_14_code 13 = .ok (.ifCond .ne 13, 3) := by decide +kernel
theorem d_S_codeAt_16 : decode prog_1_method_14_code 16 = .ok (.new 52, 3) := by decide +kernel
theorem d_S_codeAt_19 : decode prog_1_method_14_code 19 = .ok (.dup, 1) := by decide +kernel
theorem d_S_codeAt_20 : decode prog_1_method_14_code 20 = .ok (.ldc 99, 2) := by decide +kernel
theorem d_S_codeAt_22 : decode prog_1_method_14_code 22 = .ok (.invokespecial 56, 3) := by decide +kernel
theorem d_S_codeAt_25 : decode prog_1_method_14_code 25 = .ok (.athrow, 1) := by decide +kernel
theorem d_S_codeAt_26 : decode prog_1_method_14_code 26 = .ok (.aload 4, 2) := by decide +kernel
theorem d_S_codeAt_28 : decode prog_1_method_14_code 28 = .ok (.getfield 103, 3) := by decide +kernel
theorem d_S_codeAt_31 : decode prog_1_method_14_code 31 = .ok (.iload_n 2, 1) := by decide +kernel
theorem d_S_codeAt_32 : decode prog_1_method_14_code 32 = .ok (.aaload, 1) := by decide +kernel
theorem d_S_codeAt_33 : decode prog_1_method_14_code 33 = .ok (.astore 5, 2) := by decide +kernel
theorem d_S_codeAt_35 : decode prog_1_method_14_code 35 = .ok (.iload_n 3, 1) := by decide +kernel
theorem d_S_codeAt_36 : decode prog_1_method_14_code 36 = .ok (.ifCond .lt 12, 3) := by decide +kernel
theorem d_S_codeAt_39 : decode prog_1_method_14_code 39 = .ok (.iload_n 3, 1) := by decide +kernel
theorem d_S_codeAt_40 : decode prog_1_method_14_code 40 = .ok (.aload 5, 2) := by decide +kernel
theorem d_S_codeAt_42 : decode prog_1_method_14_code 42 = .ok (.getfield 107, 3) := by decide +kernel
theorem d_S_codeAt_45 : decode prog_1_method_14_code 45 = .ok (.if_icmp .lt 13, 3) := by decide +kernel
theorem d_S_codeAt_48 : decode prog_1_method_14_code 48 = .ok (.new 52, 3) := by decide +kernel
theorem d_S_codeAt_51 : decode prog_1_method_14_code 51 = .ok (.dup, 1) := by decide +kernel
theorem d_S_codeAt_52 : decode prog_1_method_14_code 52 = .ok (.ldc 101, 2) := by decide +kernel
theorem d_S_codeAt_54 : decode prog_1_method_14_code 54 = .ok (.invokespecial 56, 3) := by decide +kernel
theorem d_S_codeAt_57 : decode prog_1_method_14_code 57 = .ok (.athrow, 1) := by decide +kernel
theorem d_S_codeAt_58 : decode prog_1_method_14_code 58 = .ok (.sipush 1000, 3) := by decide +kernel
theorem d_S_codeAt_61 : decode prog_1_method_14_code 61 = .ok (.aload 5, 2) := by decide +kernel
theorem d_S_codeAt_63 : decode prog_1_method_14_code 63 = .ok (.getfield 181, 3) := by decide +kernel
theorem d_S_codeAt_66 : decode prog_1_method_14_code 66 = .ok (.iload_n 3, 1) := by decide +kernel
theorem d_S_codeAt_67 : decode prog_1_method_14_code 67 = .ok (.iaload, 1) := by decide +kernel
theorem d_S_codeAt_68 : decode prog_1_method_14_code 68 = .ok (.imul, 1) := by decide +kernel
theorem d_S_codeAt_69 : decode prog_1_method_14_code 69 = .ok (.aload 5, 2) := by decide +kernel
theorem d_S_codeAt_71 : decode prog_1_method_14_code 71 = .ok (.getfield 184, 3) := by decide +kernel
theorem d_S_codeAt_74 : decode prog_1_method_14_code 74 = .ok (.iload_n 3, 1) := by decide +kernel
theorem d_S_codeAt_75 : decode prog_1_method_14_code 75 = .ok (.iaload, 1) := by decide +kernel
theorem d_S_codeAt_76 : decode prog_1_method_14_code 76 = .ok (.iadd, 1) := by decide +kernel
theorem d_S_codeAt_77 : decode prog_1_method_14_code 77 = .ok (.ireturn, 1) := by decide +kernel
theorem d_W_codeAt_0 : decode method_13_code 0 = .ok (.aload 4, 2) := by decide +kernel
theorem d_W_codeAt_2 : decode method_13_code 2 = .ok (.iconst 0, 1) := by decide +kernel
theorem d_W_codeAt_3 : decode method_13_code 3 = .ok (.aload_n 0, 1) := by decide +kernel
theorem d_W_codeAt_4 : decode method_13_code 4 = .ok (.iload_n 1, 1) := by decide +kernel
theorem d_W_codeAt_5 : decode method_13_code 5 = .ok (.iload_n 2, 1) := by decide +kernel
theorem d_W_codeAt_6 : decode method_13_code 6 = .ok (.iload_n 3, 1) := by decide +kernel
theorem d_W_codeAt_7 : decode method_13_code 7 = .ok (.invokevirtual 52, 3) := by decide +kernel
theorem d_W_codeAt_10 : decode method_13_code 10 = .ok (.i2l, 1) := by decide +kernel
theorem d_W_codeAt_11 : decode method_13_code 11 = .ok (.lastore, 1) := by decide +kernel
theorem d_W_codeAt_12 : decode method_13_code 12 = .ok (.goto 7, 3) := by decide +kernel
theorem d_W_codeAt_15 : decode method_13_code 15 = .ok (.astore 5, 2) := by decide +kernel
theorem d_W_codeAt_17 : decode method_13_code 17 = .ok (.iconst 1, 1) := by decide +kernel
theorem d_W_codeAt_18 : decode method_13_code 18 = .ok (.ireturn, 1) := by decide +kernel
theorem d_W_codeAt_19 : decode method_13_code 19 = .ok (.iconst 0, 1) := by decide +kernel
theorem d_W_codeAt_20 : decode method_13_code 20 = .ok (.ireturn, 1) := by decide +kernel
theorem d_F_start_0 : decode prog_2_method_2_code 0 = .ok (.aload_n 0, 1) := by decide +kernel
theorem d_F_start_1 : decode prog_2_method_2_code 1 = .ok (.aload_n 1, 1) := by decide +kernel
theorem d_F_start_2 : decode prog_2_method_2_code 2 = .ok (.putfield 15, 3) := by decide +kernel
theorem d_F_start_5 : decode prog_2_method_2_code 5 = .ok (.aload_n 0, 1) := by decide +kernel
theorem d_F_start_6 : decode prog_2_method_2_code 6 = .ok (.iload_n 2, 1) := by decide +kernel
theorem d_F_start_7 : decode prog_2_method_2_code 7 = .ok (.putfield 19, 3) := by decide +kernel
theorem d_F_start_10 : decode prog_2_method_2_code 10 = .ok (.aload_n 0, 1) := by decide +kernel
theorem d_F_start_11 : decode prog_2_method_2_code 11 = .ok (.iload_n 3, 1) := by decide +kernel
theorem d_F_start_12 : decode prog_2_method_2_code 12 = .ok (.putfield 23, 3) := by decide +kernel
theorem d_F_start_15 : decode prog_2_method_2_code 15 = .ok (.aload_n 0, 1) := by decide +kernel
theorem d_F_start_16 : decode prog_2_method_2_code 16 = .ok (.iconst 0, 1) := by decide +kernel
theorem d_F_start_17 : decode prog_2_method_2_code 17 = .ok (.putfield 26, 3) := by decide +kernel
theorem d_F_start_20 : decode prog_2_method_2_code 20 = .ok (.aload_n 0, 1) := by decide +kernel
theorem d_F_start_21 : decode prog_2_method_2_code 21 = .ok (.iconst 0, 1) := by decide +kernel
theorem d_F_start_22 : decode prog_2_method_2_code 22 = .ok (.putfield 29, 3) := by decide +kernel
theorem d_F_start_25 : decode prog_2_method_2_code 25 = .ok (.return_, 1) := by decide +kernel
theorem d_E_begin_0 : decode prog_3_method_3_code 0 = .ok (.aload_n 0, 1) := by decide +kernel
theorem d_E_begin_1 : decode prog_3_method_3_code 1 = .ok (.getfield 28, 3) := by decide +kernel
theorem d_E_begin_4 : decode prog_3_method_3_code 4 = .ok (.bipush 8, 2) := by decide +kernel
theorem d_E_begin_6 : decode prog_3_method_3_code 6 = .ok (.if_icmp .lt 13, 3) := by decide +kernel
theorem d_E_begin_9 : decode prog_3_method_3_code 9 = .ok (.new 49, 3) := by decide +kernel
theorem d_E_begin_12 : decode prog_3_method_3_code 12 = .ok (.dup, 1) := by decide +kernel
theorem d_E_begin_13 : decode prog_3_method_3_code 13 = .ok (.ldc 56, 2) := by decide +kernel
theorem d_E_begin_15 : decode prog_3_method_3_code 15 = .ok (.invokespecial 53, 3) := by decide +kernel
theorem d_E_begin_18 : decode prog_3_method_3_code 18 = .ok (.athrow, 1) := by decide +kernel
theorem d_E_begin_19 : decode prog_3_method_3_code 19 = .ok (.aload_n 0, 1) := by decide +kernel
theorem d_E_begin_20 : decode prog_3_method_3_code 20 = .ok (.getfield 17, 3) := by decide +kernel
theorem d_E_begin_23 : decode prog_3_method_3_code 23 = .ok (.aload_n 0, 1) := by decide +kernel
theorem d_E_begin_24 : decode prog_3_method_3_code 24 = .ok (.getfield 28, 3) := by decide +kernel
theorem d_E_begin_27 : decode prog_3_method_3_code 27 = .ok (.aaload, 1) := by decide +kernel
theorem d_E_begin_28 : decode prog_3_method_3_code 28 = .ok (.aload_n 1, 1) := by decide +kernel
theorem d_E_begin_29 : decode prog_3_method_3_code 29 = .ok (.iload_n 2, 1) := by decide +kernel
theorem d_E_begin_30 : decode prog_3_method_3_code 30 = .ok (.iload_n 3, 1) := by decide +kernel
theorem d_E_begin_31 : decode prog_3_method_3_code 31 = .ok (.invokevirtual 58, 3) := by decide +kernel
theorem d_E_begin_34 : decode prog_3_method_3_code 34 = .ok (.aload_n 0, 1) := by decide +kernel
theorem d_E_begin_35 : decode prog_3_method_3_code 35 = .ok (.dup, 1) := by decide +kernel
theorem d_E_begin_36 : decode prog_3_method_3_code 36 = .ok (.getfield 28, 3) := by decide +kernel
theorem d_E_begin_39 : decode prog_3_method_3_code 39 = .ok (.iconst 1, 1) := by decide +kernel
theorem d_E_begin_40 : decode prog_3_method_3_code 40 = .ok (.iadd, 1) := by decide +kernel
theorem d_E_begin_41 : decode prog_3_method_3_code 41 = .ok (.putfield 28, 3) := by decide +kernel
theorem d_E_begin_44 : decode prog_3_method_3_code 44 = .ok (.return_, 1) := by decide +kernel
theorem d_F_put_0 : decode prog_2_method_3_code 0 = .ok (.aload_n 0, 1) := by decide +kernel
theorem d_F_put_1 : decode prog_2_method_3_code 1 = .ok (.getfield 26, 3) := by decide +kernel
theorem d_F_put_4 : decode prog_2_method_3_code 4 = .ok (.bipush 8, 2) := by decide +kernel
theorem d_F_put_6 : decode prog_2_method_3_code 6 = .ok (.if_icmp .lt 13, 3) := by decide +kernel
theorem d_F_put_9 : decode prog_2_method_3_code 9 = .ok (.new 32, 3) := by decide +kernel
theorem d_F_put_12 : decode prog_2_method_3_code 12 = .ok (.dup, 1) := by decide +kernel
theorem d_F_put_13 : decode prog_2_method_3_code 13 = .ok (.ldc 34, 2) := by decide +kernel
theorem d_F_put_15 : decode prog_2_method_3_code 15 = .ok (.invokespecial 36, 3) := by decide +kernel
theorem d_F_put_18 : decode prog_2_method_3_code 18 = .ok (.athrow, 1) := by decide +kernel
theorem d_F_put_19 : decode prog_2_method_3_code 19 = .ok (.aload_n 0, 1) := by decide +kernel
theorem d_F_put_20 : decode prog_2_method_3_code 20 = .ok (.getfield 9, 3) := by decide +kernel
theorem d_F_put_23 : decode prog_2_method_3_code 23 = .ok (.aload_n 0, 1) := by decide +kernel
theorem d_F_put_24 : decode prog_2_method_3_code 24 = .ok (.getfield 26, 3) := by decide +kernel
theorem d_F_put_27 : decode prog_2_method_3_code 27 = .ok (.iload_n 1, 1) := by decide +kernel
theorem d_F_put_28 : decode prog_2_method_3_code 28 = .ok (.iastore, 1) := by decide +kernel
theorem d_F_put_29 : decode prog_2_method_3_code 29 = .ok (.aload_n 0, 1) := by decide +kernel
theorem d_F_put_30 : decode prog_2_method_3_code 30 = .ok (.dup, 1) := by decide +kernel
theorem d_F_put_31 : decode prog_2_method_3_code 31 = .ok (.getfield 26, 3) := by decide +kernel
theorem d_F_put_34 : decode prog_2_method_3_code 34 = .ok (.iconst 1, 1) := by decide +kernel
theorem d_F_put_35 : decode prog_2_method_3_code 35 = .ok (.iadd, 1) := by decide +kernel
theorem d_F_put_36 : decode prog_2_method_3_code 36 = .ok (.putfield 26, 3) := by decide +kernel
theorem d_F_put_39 : decode prog_2_method_3_code 39 = .ok (.return_, 1) := by decide +kernel
theorem d_F_take_0 : decode prog_2_method_4_code 0 = .ok (.aload_n 0, 1) := by decide +kernel
theorem d_F_take_1 : decode prog_2_method_4_code 1 = .ok (.getfield 26, 3) := by decide +kernel
theorem d_F_take_4 : decode prog_2_method_4_code 4 = .ok (.ifCond .gt 13, 3) := by decide +kernel
theorem d_F_take_7 : decode prog_2_method_4_code 7 = .ok (.new 32, 3) := by decide +kernel
theorem d_F_take_10 : decode prog_2_method_4_code 10 = .ok (.dup, 1) := by decide +kernel
theorem d_F_take_11 : decode prog_2_method_4_code 11 = .ok (.ldc 39, 2) := by decide +kernel
theorem d_F_take_13 : decode prog_2_method_4_code 13 = .ok (.invokespecial 36, 3) := by decide +kernel
theorem d_F_take_16 : decode prog_2_method_4_code 16 = .ok (.athrow, 1) := by decide +kernel
theorem d_F_take_17 : decode prog_2_method_4_code 17 = .ok (.aload_n 0, 1) := by decide +kernel
theorem d_F_take_18 : decode prog_2_method_4_code 18 = .ok (.dup, 1) := by decide +kernel
theorem d_F_take_19 : decode prog_2_method_4_code 19 = .ok (.getfield 26, 3) := by decide +kernel
theorem d_F_take_22 : decode prog_2_method_4_code 22 = .ok (.iconst 1, 1) := by decide +kernel
theorem d_F_take_23 : decode prog_2_method_4_code 23 = .ok (.isub, 1) := by decide +kernel
theorem d_F_take_24 : decode prog_2_method_4_code 24 = .ok (.putfield 26, 3) := by decide +kernel
theorem d_F_take_27 : decode prog_2_method_4_code 27 = .ok (.aload_n 0, 1) := by decide +kernel
theorem d_F_take_28 : decode prog_2_method_4_code 28 = .ok (.getfield 9, 3) := by decide +kernel
theorem d_F_take_31 : decode prog_2_method_4_code 31 = .ok (.aload_n 0, 1) := by decide +kernel
theorem d_F_take_32 : decode prog_2_method_4_code 32 = .ok (.getfield 26, 3) := by decide +kernel
theorem d_F_take_35 : decode prog_2_method_4_code 35 = .ok (.iaload, 1) := by decide +kernel
theorem d_F_take_36 : decode prog_2_method_4_code 36 = .ok (.ireturn, 1) := by decide +kernel
theorem d_E_call_0 : decode prog_3_method_6_code 0 = .ok (.aload_n 2, 1) := by decide +kernel
theorem d_E_call_1 : decode prog_3_method_6_code 1 = .ok (.getfield 125, 3) := by decide +kernel
theorem d_E_call_4 : decode prog_3_method_6_code 4 = .ok (.iconst 2, 1) := by decide +kernel
theorem d_E_call_5 : decode prog_3_method_6_code 5 = .ok (.if_icmp .lt 10, 3) := by decide +kernel
theorem d_E_call_8 : decode prog_3_method_6_code 8 = .ok (.aload_n 1, 1) := by decide +kernel
theorem d_E_call_9 : decode prog_3_method_6_code 9 = .ok (.invokevirtual 117, 3) := by decide +kernel
theorem d_E_call_12 : decode prog_3_method_6_code 12 = .ok (.goto 4, 3) := by decide +kernel
theorem d_E_call_15 : decode prog_3_method_6_code 15 = .ok (.iconst 0, 1) := by decide +kernel
theorem d_E_call_16 : decode prog_3_method_6_code 16 = .ok (.istore_n 3, 1) := by decide +kernel
theorem d_E_call_17 : decode prog_3_method_6_code 17 = .ok (.aload_n 2, 1) := by decide +kernel
theorem d_E_call_18 : decode prog_3_method_6_code 18 = .ok (.getfield 125, 3) := by decide +kernel
theorem d_E_call_21 : decode prog_3_method_6_code 21 = .ok (.iconst 1, 1) := by decide +kernel
theorem d_E_call_22 : decode prog_3_method_6_code 22 = .ok (.if_icmp .lt 10, 3) := by decide +kernel
theorem d_E_call_25 : decode prog_3_method_6_code 25 = .ok (.aload_n 1, 1) := by decide +kernel
theorem d_E_call_26 : decode prog_3_method_6_code 26 = .ok (.invokevirtual 117, 3) := by decide +kernel
theorem d_E_call_29 : decode prog_3_method_6_code 29 = .ok (.goto 4, 3) := by decide +kernel
theorem d_E_call_32 : decode prog_3_method_6_code 32 = .ok (.iconst 0, 1) := by decide +kernel
theorem d_E_call_33 : decode prog_3_method_6_code 33 = .ok (.istore 4, 2) := by decide +kernel
theorem d_E_call_35 : decode prog_3_method_6_code 35 = .ok (.aload_n 0, 1) := by decide +kernel
theorem d_E_call_36 : decode prog_3_method_6_code 36 = .ok (.aload_n 2, 1) := by decide +kernel
theorem d_E_call_37 : decode prog_3_method_6_code 37 = .ok (.iload 4, 2) := by decide +kernel
theorem d_E_call_39 : decode prog_3_method_6_code 39 = .ok (.iload_n 3, 1) := by decide +kernel
theorem d_E_call_40 : decode prog_3_method_6_code 40 = .ok (.invokevirtual 38, 3) := by decide +kernel
theorem d_E_call_43 : decode prog_3_method_6_code 43 = .ok (.return_, 1) := by decide +kernel
theorem d_E_useConstant_0 : decode prog_3_method_5_code 0 = .ok (.aload_n 2, 1) := by decide +kernel
theorem d_E_useConstant_1 : decode prog_3_method_5_code 1 = .ok (.getfield 64, 3) := by decide +kernel
theorem d_E_useConstant_4 : decode prog_3_method_5_code 4 = .ok (.getfield 97, 3) := by decide +kernel
theorem d_E_useConstant_7 : decode prog_3_method_5_code 7 = .ok (.istore 5, 2) := by decide +kernel
theorem d_E_useConstant_9 : decode prog_3_method_5_code 9 = .ok (.iload_n 3, 1) := by decide +kernel
theorem d_E_useConstant_10 : decode prog_3_method_5_code 10 = .ok (.ifCond .ne 21, 3) := by decide +kernel
theorem d_E_useConstant_13 : decode prog_3_method_5_code 13 = .ok (.aload_n 2, 1) := by decide +kernel
theorem d_E_useConstant_14 : decode prog_3_method_5_code 14 = .ok (.aload_n 1, 1) := by decide +kernel
theorem d_E_useConstant_15 : decode prog_3_method_5_code 15 = .ok (.getfield 100, 3) := by decide +kernel
theorem d_E_useConstant_18 : decode prog_3_method_5_code 18 = .ok (.iload 5, 2) := by decide +kernel
theorem d_E_useConstant_20 : decode prog_3_method_5_code 20 = .ok (.aaload, 1) := by decide +kernel
theorem d_E_useConstant_21 : decode prog_3_method_5_code 21 = .ok (.getfield 104, 3) := by decide +kernel
theorem d_E_useConstant_24 : decode prog_3_method_5_code 24 = .ok (.iload 4, 2) := by decide +kernel
theorem d_E_useConstant_26 : decode prog_3_method_5_code 26 = .ok (.iaload, 1) := by decide +kernel
theorem d_E_useConstant_27 : decode prog_3_method_5_code 27 = .ok (.invokevirtual 109, 3) := by decide +kernel
theorem d_E_useConstant_30 : decode prog_3_method_5_code 30 = .ok (.return_, 1) := by decide +kernel
theorem d_E_useConstant_31 : decode prog_3_method_5_code 31 = .ok (.aload_n 1, 1) := by decide +kernel
theorem d_E_useConstant_32 : decode prog_3_method_5_code 32 = .ok (.iload 5, 2) := by decide +kernel
theorem d_E_useConstant_34 : decode prog_3_method_5_code 34 = .ok (.iload 4, 2) := by decide +kernel
theorem d_E_useConstant_36 : decode prog_3_method_5_code 36 = .ok (.invokevirtual 113, 3) := by decide +kernel
theorem d_E_useConstant_39 : decode prog_3_method_5_code 39 = .ok (.istore 6, 2) := by decide +kernel
theorem d_E_useConstant_41 : decode prog_3_method_5_code 41 = .ok (.iload_n 3, 1) := by decide +kernel
theorem d_E_useConstant_42 : decode prog_3_method_5_code 42 = .ok (.iconst 1, 1) := by decide +kernel
theorem d_E_useConstant_43 : decode prog_3_method_5_code 43 = .ok (.if_icmp .ne 17, 3) := by decide +kernel
theorem d_E_useConstant_46 : decode prog_3_method_5_code 46 = .ok (.aload_n 2, 1) := by decide +kernel
theorem d_E_useConstant_47 : decode prog_3_method_5_code 47 = .ok (.aload_n 0, 1) := by decide +kernel
theorem d_E_useConstant_48 : decode prog_3_method_5_code 48 = .ok (.getfield 9, 3) := by decide +kernel
theorem d_E_useConstant_51 : decode prog_3_method_5_code 51 = .ok (.iload 6, 2) := by decide +kernel
theorem d_E_useConstant_53 : decode prog_3_method_5_code 53 = .ok (.iaload, 1) := by decide +kernel
theorem d_E_useConstant_54 : decode prog_3_method_5_code 54 = .ok (.invokevirtual 109, 3) := by decide +kernel
theorem d_E_useConstant_57 : decode prog_3_method_5_code 57 = .ok (.goto 34, 3) := by decide +kernel
theorem d_E_useConstant_60 : decode prog_3_method_5_code 60 = .ok (.iload_n 3, 1) := by decide +kernel
theorem d_E_useConstant_61 : decode prog_3_method_5_code 61 = .ok (.iconst 2, 1) := by decide +kernel
theorem d_E_useConstant_62 : decode prog_3_method_5_code 62 = .ok (.if_icmp .ne 17, 3) := by decide +kernel
theorem d_E_useConstant_65 : decode prog_3_method_5_code 65 = .ok (.aload_n 0, 1) := by decide +kernel
theorem d_E_useConstant_66 : decode prog_3_method_5_code 66 = .ok (.getfield 9, 3) := by decide +kernel
theorem d_E_useConstant_69 : decode prog_3_method_5_code 69 = .ok (.iload 6, 2) := by decide +kernel
theorem d_E_useConstant_71 : decode prog_3_method_5_code 71 = .ok (.aload_n 2, 1) := by decide +kernel
theorem d_E_useConstant_72 : decode prog_3_method_5_code 72 = .ok (.invokevirtual 117, 3) := by decide +kernel
theorem d_E_useConstant_75 : decode prog_3_method_5_code 75 = .ok (.iastore, 1) := by decide +kernel
theorem d_E_useConstant_76 : decode prog_3_method_5_code 76 = .ok (.goto 15, 3) := by decide +kernel
theorem d_E_useConstant_79 : decode prog_3_method_5_code 79 = .ok (.aload_n 0, 1) := by decide +kernel
theorem d_E_useConstant_80 : decode prog_3_method_5_code 80 = .ok (.aload_n 2, 1) := by decide +kernel
theorem d_E_useConstant_81 : decode prog_3_method_5_code 81 = .ok (.aload_n 1, 1) := by decide +kernel
theorem d_E_useConstant_82 : decode prog_3_method_5_code 82 = .ok (.getfield 32, 3) := by decide +kernel
theorem d_E_useConstant_85 : decode prog_3_method_5_code 85 = .ok (.iload 6, 2) := by decide +kernel
theorem d_E_useConstant_87 : decode prog_3_method_5_code 87 = .ok (.aaload, 1) := by decide +kernel
theorem d_E_useConstant_88 : decode prog_3_method_5_code 88 = .ok (.invokevirtual 121, 3) := by decide +kernel
theorem d_E_useConstant_91 : decode prog_3_method_5_code 91 = .ok (.return_, 1) := by decide +kernel
theorem d_E_calculate_0 : decode prog_3_method_7_code 0 = .ok (.aload_n 0, 1) := by decide +kernel
theorem d_E_calculate_1 : decode prog_3_method_7_code 1 = .ok (.invokevirtual 117, 3) := by decide +kernel
theorem d_E_calculate_4 : decode prog_3_method_7_code 4 = .ok (.istore_n 2, 1) := by decide +kernel
theorem d_E_calculate_5 : decode prog_3_method_7_code 5 = .ok (.aload_n 0, 1) := by decide +kernel
theorem d_E_calculate_6 : decode prog_3_method_7_code 6 = .ok (.invokevirtual 117, 3) := by decide +kernel
theorem d_E_calculate_9 : decode prog_3_method_7_code 9 = .ok (.istore_n 3, 1) := by decide +kernel
theorem d_E_calculate_10 : decode prog_3_method_7_code 10 = .ok (.iload_n 1, 1) := by decide +kernel
theorem d_E_calculate_11 : decode prog_3_method_7_code 11 = .ok (.iconst 5, 1) := by decide +kernel
theorem d_E_calculate_12 : decode prog_3_method_7_code 12 = .ok (.if_icmp .ne 13, 3) := by decide +kernel
theorem d_E_calculate_15 : decode prog_3_method_7_code 15 = .ok (.aload_n 0, 1) := by decide +kernel
theorem d_E_calculate_16 : decode prog_3_method_7_code 16 = .ok (.iload_n 3, 1) := by decide +kernel
theorem d_E_calculate_17 : decode prog_3_method_7_code 17 = .ok (.iload_n 2, 1) := by decide +kernel
theorem d_E_calculate_18 : decode prog_3_method_7_code 18 = .ok (.iadd, 1) := by decide +kernel
theorem d_E_calculate_19 : decode prog_3_method_7_code 19 = .ok (.invokevirtual 109, 3) := by decide +kernel
theorem d_E_calculate_22 : decode prog_3_method_7_code 22 = .ok (.goto 56, 3) := by decide +kernel
theorem d_E_calculate_25 : decode prog_3_method_7_code 25 = .ok (.iload_n 1, 1) := by decide +kernel
theorem d_E_calculate_26 : decode prog_3_method_7_code 26 = .ok (.bipush 6, 2) := by decide +kernel
theorem d_E_calculate_28 : decode prog_3_method_7_code 28 = .ok (.if_icmp .ne 13, 3) := by decide +kernel
theorem d_E_calculate_31 : decode prog_3_method_7_code 31 = .ok (.aload_n 0, 1) := by decide +kernel
theorem d_E_calculate_32 : decode prog_3_method_7_code 32 = .ok (.iload_n 3, 1) := by decide +kernel
theorem d_E_calculate_33 : decode prog_3_method_7_code 33 = .ok (.iload_n 2, 1) := by decide +kernel
theorem d_E_calculate_34 : decode prog_3_method_7_code 34 = .ok (.isub, 1) := by decide +kernel
theorem d_E_calculate_35 : decode prog_3_method_7_code 35 = .ok (.invokevirtual 109, 3) := by decide +kernel
theorem d_E_calculate_38 : decode prog_3_method_7_code 38 = .ok (.goto 40, 3) := by decide +kernel
theorem d_E_calculate_41 : decode prog_3_method_7_code 41 = .ok (.iload_n 1, 1) := by decide +kernel
theorem d_E_calculate_42 : decode prog_3_method_7_code 42 = .ok (.bipush 7, 2) := by decide +kernel
theorem d_E_calculate_44 : decode prog_3_method_7_code 44 = .ok (.if_icmp .ne 13, 3) := by decide +kernel
theorem d_E_calculate_47 : decode prog_3_method_7_code 47 = .ok (.aload_n 0, 1) := by decide +kernel
theorem d_E_calculate_48 : decode prog_3_method_7_code 48 = .ok (.iload_n 3, 1) := by decide +kernel
theorem d_E_calculate_49 : decode prog_3_method_7_code 49 = .ok (.iload_n 2, 1) := by decide +kernel
theorem d_E_calculate_50 : decode prog_3_method_7_code 50 = .ok (.imul, 1) := by decide +kernel
theorem d_E_calculate_51 : decode prog_3_method_7_code 51 = .ok (.invokevirtual 109, 3) := by decide +kernel
theorem d_E_calculate_54 : decode prog_3_method_7_code 54 = .ok (.goto 24, 3) := by decide +kernel
theorem d_E_calculate_57 : decode prog_3_method_7_code 57 = .ok (.iload_n 2, 1) := by decide +kernel
theorem d_E_calculate_58 : decode prog_3_method_7_code 58 = .ok (.ifCond .ne 13, 3) := by decide +kernel
theorem d_E_calculate_61 : decode prog_3_method_7_code 61 = .ok (.new 128, 3) := by decide +kernel
theorem d_E_calculate_64 : decode prog_3_method_7_code 64 = .ok (.dup, 1) := by decide +kernel
theorem d_E_calculate_65 : decode prog_3_method_7_code 65 = .ok (.ldc 130, 2) := by decide +kernel
theorem d_E_calculate_67 : decode prog_3_method_7_code 67 = .ok (.invokespecial 132, 3) := by decide +kernel
theorem d_E_calculate_70 : decode prog_3_method_7_code 70 = .ok (.athrow, 1) := by decide +kernel
theorem d_E_calculate_71 : decode prog_3_method_7_code 71 = .ok (.aload_n 0, 1) := by decide +kernel
theorem d_E_calculate_72 : decode prog_3_method_7_code 72 = .ok (.iload_n 3, 1) := by decide +kernel
theorem d_E_calculate_73 : decode prog_3_method_7_code 73 = .ok (.iload_n 2, 1) := by decide +kernel
theorem d_E_calculate_74 : decode prog_3_method_7_code 74 = .ok (.idiv, 1) := by decide +kernel
theorem d_E_calculate_75 : decode prog_3_method_7_code 75 = .ok (.invokevirtual 109, 3) := by decide +kernel
theorem d_E_calculate_78 : decode prog_3_method_7_code 78 = .ok (.return_, 1) := by decide +kernel
theorem d_E_end_0 : decode prog_3_method_9_code 0 = .ok (.aload_n 0, 1) := by decide +kernel
theorem d_E_end_1 : decode prog_3_method_9_code 1 = .ok (.dup, 1) := by decide +kernel
theorem d_E_end_2 : decode prog_3_method_9_code 2 = .ok (.getfield 28, 3) := by decide +kernel
theorem d_E_end_5 : decode prog_3_method_9_code 5 = .ok (.iconst 1, 1) := by decide +kernel
theorem d_E_end_6 : decode prog_3_method_9_code 6 = .ok (.isub, 1) := by decide +kernel
theorem d_E_end_7 : decode prog_3_method_9_code 7 = .ok (.putfield 28, 3) := by decide +kernel
theorem d_E_end_10 : decode prog_3_method_9_code 10 = .ok (.aload_n 0, 1) := by decide +kernel
theorem d_E_end_11 : decode prog_3_method_9_code 11 = .ok (.getfield 28, 3) := by decide +kernel
theorem d_E_end_14 : decode prog_3_method_9_code 14 = .ok (.ifCond .ne 11, 3) := by decide +kernel
theorem d_E_end_17 : decode prog_3_method_9_code 17 = .ok (.aload_n 0, 1) := by decide +kernel
theorem d_E_end_18 : decode prog_3_method_9_code 18 = .ok (.iload_n 1, 1) := by decide +kernel
theorem d_E_end_19 : decode prog_3_method_9_code 19 = .ok (.putfield 46, 3) := by decide +kernel
theorem d_E_end_22 : decode prog_3_method_9_code 22 = .ok (.goto 18, 3) := by decide +kernel
theorem d_E_end_25 : decode prog_3_method_9_code 25 = .ok (.aload_n 0, 1) := by decide +kernel
theorem d_E_end_26 : decode prog_3_method_9_code 26 = .ok (.getfield 17, 3) := by decide +kernel
theorem d_E_end_29 : decode prog_3_method_9_code 29 = .ok (.aload_n 0, 1) := by decide +kernel
theorem d_E_end_30 : decode prog_3_method_9_code 30 = .ok (.getfield 28, 3) := by decide +kernel
theorem d_E_end_33 : decode prog_3_method_9_code 33 = .ok (.iconst 1, 1) := by decide +kernel
theorem d_E_end_34 : decode prog_3_method_9_code 34 = .ok (.isub, 1) := by decide +kernel
theorem d_E_end_35 : decode prog_3_method_9_code 35 = .ok (.aaload, 1) := by decide +kernel
theorem d_E_end_36 : decode prog_3_method_9_code 36 = .ok (.iload_n 1, 1) := by decide +kernel
theorem d_E_end_37 : decode prog_3_method_9_code 37 = .ok (.invokevirtual 109, 3) := by decide +kernel
theorem d_E_end_40 : decode prog_3_method_9_code 40 = .ok (.return_, 1) := by decide +kernel
theorem d_E_steer_0 : decode prog_3_method_8_code 0 = .ok (.iload_n 2, 1) := by decide +kernel
theorem d_E_steer_1 : decode prog_3_method_8_code 1 = .ok (.tableswitch 103 4 11 #[47, 103, 103, 103, 103, 69, 84, 92], 47) := by decide +kernel
theorem d_E_steer_48 : decode prog_3_method_8_code 48 = .ok (.aload_n 1, 1) := by decide +kernel
theorem d_E_steer_49 : decode prog_3_method_8_code 49 = .ok (.iload_n 3, 1) := by decide +kernel
theorem d_E_steer_50 : decode prog_3_method_8_code 50 = .ok (.ifCond .ne 10, 3) := by decide +kernel
theorem d_E_steer_53 : decode prog_3_method_8_code 53 = .ok (.aload_n 1, 1) := by decide +kernel
theorem d_E_steer_54 : decode prog_3_method_8_code 54 = .ok (.getfield 133, 3) := by decide +kernel
theorem d_E_steer_57 : decode prog_3_method_8_code 57 = .ok (.goto 7, 3) := by decide +kernel
theorem d_E_steer_60 : decode prog_3_method_8_code 60 = .ok (.aload_n 1, 1) := by decide +kernel
theorem d_E_steer_61 : decode prog_3_method_8_code 61 = .ok (.getfield 136, 3) := by decide +kernel
theorem d_E_steer_64 : decode prog_3_method_8_code 64 = .ok (.invokevirtual 109, 3) := by decide +kernel
theorem d_E_steer_67 : decode prog_3_method_8_code 67 = .ok (.goto 52, 3) := by decide +kernel
theorem d_E_steer_70 : decode prog_3_method_8_code 70 = .ok (.aload_n 1, 1) := by decide +kernel
theorem d_E_steer_71 : decode prog_3_method_8_code 71 = .ok (.invokevirtual 117, 3) := by decide +kernel
theorem d_E_steer_74 : decode prog_3_method_8_code 74 = .ok (.ifCond .ne 45, 3) := by decide +kernel
theorem d_E_steer_77 : decode prog_3_method_8_code 77 = .ok (.aload_n 1, 1) := by decide +kernel
theorem d_E_steer_78 : decode prog_3_method_8_code 78 = .ok (.iload_n 3, 1) := by decide +kernel
theorem d_E_steer_79 : decode prog_3_method_8_code 79 = .ok (.putfield 61, 3) := by decide +kernel
theorem d_E_steer_82 : decode prog_3_method_8_code 82 = .ok (.goto 37, 3) := by decide +kernel
theorem d_E_steer_85 : decode prog_3_method_8_code 85 = .ok (.aload_n 1, 1) := by decide +kernel
theorem d_E_steer_86 : decode prog_3_method_8_code 86 = .ok (.iload_n 3, 1) := by decide +kernel
theorem d_E_steer_87 : decode prog_3_method_8_code 87 = .ok (.putfield 61, 3) := by decide +kernel
theorem d_E_steer_90 : decode prog_3_method_8_code 90 = .ok (.goto 29, 3) := by decide +kernel
theorem d_E_steer_93 : decode prog_3_method_8_code 93 = .ok (.aload_n 0, 1) := by decide +kernel
theorem d_E_steer_94 : decode prog_3_method_8_code 94 = .ok (.aload_n 1, 1) := by decide +kernel
theorem d_E_steer_95 : decode prog_3_method_8_code 95 = .ok (.invokevirtual 117, 3) := by decide +kernel
theorem d_E_steer_98 : decode prog_3_method_8_code 98 = .ok (.invokevirtual 139, 3) := by decide +kernel
theorem d_E_steer_101 : decode prog_3_method_8_code 101 = .ok (.goto 18, 3) := by decide +kernel
theorem d_E_steer_104 : decode prog_3_method_8_code 104 = .ok (.aload_n 1, 1) := by decide +kernel
theorem d_E_steer_105 : decode prog_3_method_8_code 105 = .ok (.invokevirtual 117, 3) := by decide +kernel
theorem d_E_steer_108 : decode prog_3_method_8_code 108 = .ok (.pop, 1) := by decide +kernel
theorem d_E_steer_109 : decode prog_3_method_8_code 109 = .ok (.new 142, 3) := by decide +kernel
theorem d_E_steer_112 : decode prog_3_method_8_code 112 = .ok (.dup, 1) := by decide +kernel
theorem d_E_steer_113 : decode prog_3_method_8_code 113 = .ok (.ldc 144, 2) := by decide +kernel
theorem d_E_steer_115 : decode prog_3_method_8_code 115 = .ok (.invokespecial 146, 3) := by decide +kernel
theorem d_E_steer_118 : decode prog_3_method_8_code 118 = .ok (.athrow, 1) := by decide +kernel
theorem d_E_steer_119 : decode prog_3_method_8_code 119 = .ok (.return_, 1) := by decide +kernel
theorem d_E_step_0 : decode prog_3_method_4_code 0 = .ok (.aload_n 2, 1) := by decide +kernel
theorem d_E_step_1 : decode prog_3_method_4_code 1 = .ok (.getfield 61, 3) := by decide +kernel
theorem d_E_step_4 : decode prog_3_method_4_code 4 = .ok (.aload_n 2, 1) := by decide +kernel
theorem d_E_step_5 : decode prog_3_method_4_code 5 = .ok (.getfield 64, 3) := by decide +kernel
theorem d_E_step_8 : decode prog_3_method_4_code 8 = .ok (.getfield 68, 3) := by decide +kernel
theorem d_E_step_11 : decode prog_3_method_4_code 11 = .ok (.if_icmp .lt 13, 3) := by decide +kernel
theorem d_E_step_14 : decode prog_3_method_4_code 14 = .ok (.new 49, 3) := by decide +kernel
theorem d_E_step_17 : decode prog_3_method_4_code 17 = .ok (.dup, 1) := by decide +kernel
theorem d_E_step_18 : decode prog_3_method_4_code 18 = .ok (.ldc 73, 2) := by decide +kernel
theorem d_E_step_20 : decode prog_3_method_4_code 20 = .ok (.invokespecial 53, 3) := by decide +kernel
theorem d_E_step_23 : decode prog_3_method_4_code 23 = .ok (.athrow, 1) := by decide +kernel
theorem d_E_step_24 : decode prog_3_method_4_code 24 = .ok (.aload_n 2, 1) := by decide +kernel
theorem d_E_step_25 : decode prog_3_method_4_code 25 = .ok (.getfield 64, 3) := by decide +kernel
theorem d_E_step_28 : decode prog_3_method_4_code 28 = .ok (.getfield 75, 3) := by decide +kernel
theorem d_E_step_31 : decode prog_3_method_4_code 31 = .ok (.aload_n 2, 1) := by decide +kernel
theorem d_E_step_32 : decode prog_3_method_4_code 32 = .ok (.getfield 61, 3) := by decide +kernel
theorem d_E_step_35 : decode prog_3_method_4_code 35 = .ok (.iaload, 1) := by decide +kernel
theorem d_E_step_36 : decode prog_3_method_4_code 36 = .ok (.istore_n 3, 1) := by decide +kernel
theorem d_E_step_37 : decode prog_3_method_4_code 37 = .ok (.aload_n 2, 1) := by decide +kernel
theorem d_E_step_38 : decode prog_3_method_4_code 38 = .ok (.getfield 64, 3) := by decide +kernel
theorem d_E_step_41 : decode prog_3_method_4_code 41 = .ok (.getfield 78, 3) := by decide +kernel
theorem d_E_step_44 : decode prog_3_method_4_code 44 = .ok (.aload_n 2, 1) := by decide +kernel
theorem d_E_step_45 : decode prog_3_method_4_code 45 = .ok (.getfield 61, 3) := by decide +kernel
theorem d_E_step_48 : decode prog_3_method_4_code 48 = .ok (.iaload, 1) := by decide +kernel
theorem d_E_step_49 : decode prog_3_method_4_code 49 = .ok (.istore 4, 2) := by decide +kernel
theorem d_E_step_51 : decode prog_3_method_4_code 51 = .ok (.aload_n 2, 1) := by decide +kernel
theorem d_E_step_52 : decode prog_3_method_4_code 52 = .ok (.dup, 1) := by decide +kernel
theorem d_E_step_53 : decode prog_3_method_4_code 53 = .ok (.getfield 61, 3) := by decide +kernel
theorem d_E_step_56 : decode prog_3_method_4_code 56 = .ok (.iconst 1, 1) := by decide +kernel
theorem d_E_step_57 : decode prog_3_method_4_code 57 = .ok (.iadd, 1) := by decide +kernel
theorem d_E_step_58 : decode prog_3_method_4_code 58 = .ok (.putfield 61, 3) := by decide +kernel
theorem d_E_step_61 : decode prog_3_method_4_code 61 = .ok (.iload_n 3, 1) := by decide +kernel
theorem d_E_step_62 : decode prog_3_method_4_code 62 = .ok (.invokestatic 81, 3) := by decide +kernel
theorem d_E_step_65 : decode prog_3_method_4_code 65 = .ok (.ifCond .eq 15, 3) := by decide +kernel
theorem d_E_step_68 : decode prog_3_method_4_code 68 = .ok (.aload_n 0, 1) := by decide +kernel
theorem d_E_step_69 : decode prog_3_method_4_code 69 = .ok (.aload_n 1, 1) := by decide +kernel
theorem d_E_step_70 : decode prog_3_method_4_code 70 = .ok (.aload_n 2, 1) := by decide +kernel
theorem d_E_step_71 : decode prog_3_method_4_code 71 = .ok (.iload_n 3, 1) := by decide +kernel
theorem d_E_step_72 : decode prog_3_method_4_code 72 = .ok (.iload 4, 2) := by decide +kernel
theorem d_E_step_74 : decode prog_3_method_4_code 74 = .ok (.invokevirtual 85, 3) := by decide +kernel
theorem d_E_step_77 : decode prog_3_method_4_code 77 = .ok (.goto 30, 3) := by decide +kernel
theorem d_E_step_80 : decode prog_3_method_4_code 80 = .ok (.iload_n 3, 1) := by decide +kernel
theorem d_E_step_81 : decode prog_3_method_4_code 81 = .ok (.iconst 5, 1) := by decide +kernel
theorem d_E_step_82 : decode prog_3_method_4_code 82 = .ok (.if_icmp .lt 17, 3) := by decide +kernel
theorem d_E_step_85 : decode prog_3_method_4_code 85 = .ok (.iload_n 3, 1) := by decide +kernel
theorem d_E_step_86 : decode prog_3_method_4_code 86 = .ok (.bipush 8, 2) := by decide +kernel
theorem d_E_step_88 : decode prog_3_method_4_code 88 = .ok (.if_icmp .gt 11, 3) := by decide +kernel
theorem d_E_step_91 : decode prog_3_method_4_code 91 = .ok (.aload_n 2, 1) := by decide +kernel
theorem d_E_step_92 : decode prog_3_method_4_code 92 = .ok (.iload_n 3, 1) := by decide +kernel
theorem d_E_step_93 : decode prog_3_method_4_code 93 = .ok (.invokestatic 89, 3) := by decide +kernel
theorem d_E_step_96 : decode prog_3_method_4_code 96 = .ok (.goto 11, 3) := by decide +kernel
theorem d_E_step_99 : decode prog_3_method_4_code 99 = .ok (.aload_n 0, 1) := by decide +kernel
theorem d_E_step_100 : decode prog_3_method_4_code 100 = .ok (.aload_n 2, 1) := by decide +kernel
theorem d_E_step_101 : decode prog_3_method_4_code 101 = .ok (.iload_n 3, 1) := by decide +kernel
theorem d_E_step_102 : decode prog_3_method_4_code 102 = .ok (.iload 4, 2) := by decide +kernel
theorem d_E_step_104 : decode prog_3_method_4_code 104 = .ok (.invokevirtual 93, 3) := by decide +kernel
theorem d_E_step_107 : decode prog_3_method_4_code 107 = .ok (.return_, 1) := by decide +kernel
theorem d_E_execute_0 : decode prog_3_method_2_code 0 = .ok (.aload_n 0, 1) := by decide +kernel
theorem d_E_execute_1 : decode prog_3_method_2_code 1 = .ok (.getfield 9, 3) := by decide +kernel
theorem d_E_execute_4 : decode prog_3_method_2_code 4 = .ok (.iconst 0, 1) := by decide +kernel
theorem d_E_execute_5 : decode prog_3_method_2_code 5 = .ok (.invokestatic 22, 3) := by decide +kernel
theorem d_E_execute_8 : decode prog_3_method_2_code 8 = .ok (.aload_n 0, 1) := by decide +kernel
theorem d_E_execute_9 : decode prog_3_method_2_code 9 = .ok (.iconst 0, 1) := by decide +kernel
theorem d_E_execute_10 : decode prog_3_method_2_code 10 = .ok (.putfield 28, 3) := by decide +kernel
theorem d_E_execute_13 : decode prog_3_method_2_code 13 = .ok (.aload_n 0, 1) := by decide +kernel
theorem d_E_execute_14 : decode prog_3_method_2_code 14 = .ok (.aload_n 1, 1) := by decide +kernel
theorem d_E_execute_15 : decode prog_3_method_2_code 15 = .ok (.getfield 32, 3) := by decide +kernel
theorem d_E_execute_18 : decode prog_3_method_2_code 18 = .ok (.iload_n 2, 1) := by decide +kernel
theorem d_E_execute_19 : decode prog_3_method_2_code 19 = .ok (.aaload, 1) := by decide +kernel
theorem d_E_execute_20 : decode prog_3_method_2_code 20 = .ok (.iload_n 3, 1) := by decide +kernel
theorem d_E_execute_21 : decode prog_3_method_2_code 21 = .ok (.iload 4, 2) := by decide +kernel
theorem d_E_execute_23 : decode prog_3_method_2_code 23 = .ok (.invokevirtual 38, 3) := by decide +kernel
theorem d_E_execute_26 : decode prog_3_method_2_code 26 = .ok (.iconst 0, 1) := by decide +kernel
theorem d_E_execute_27 : decode prog_3_method_2_code 27 = .ok (.istore 5, 2) := by decide +kernel
theorem d_E_execute_29 : decode prog_3_method_2_code 29 = .ok (.iload 5, 2) := by decide +kernel
theorem d_E_execute_31 : decode prog_3_method_2_code 31 = .ok (.sipush 400, 3) := by decide +kernel
theorem d_E_execute_34 : decode prog_3_method_2_code 34 = .ok (.if_icmp .ge 37, 3) := by decide +kernel
theorem d_E_execute_37 : decode prog_3_method_2_code 37 = .ok (.aload_n 0, 1) := by decide +kernel
theorem d_E_execute_38 : decode prog_3_method_2_code 38 = .ok (.aload_n 1, 1) := by decide +kernel
theorem d_E_execute_39 : decode prog_3_method_2_code 39 = .ok (.aload_n 0, 1) := by decide +kernel
theorem d_E_execute_40 : decode prog_3_method_2_code 40 = .ok (.getfield 17, 3) := by decide +kernel
theorem d_E_execute_43 : decode prog_3_method_2_code 43 = .ok (.aload_n 0, 1) := by decide +kernel
theorem d_E_execute_44 : decode prog_3_method_2_code 44 = .ok (.getfield 28, 3) := by decide +kernel
theorem d_E_execute_47 : decode prog_3_method_2_code 47 = .ok (.iconst 1, 1) := by decide +kernel
theorem d_E_execute_48 : decode prog_3_method_2_code 48 = .ok (.isub, 1) := by decide +kernel
theorem d_E_execute_49 : decode prog_3_method_2_code 49 = .ok (.aaload, 1) := by decide +kernel
theorem d_E_execute_50 : decode prog_3_method_2_code 50 = .ok (.invokevirtual 42, 3) := by decide +kernel
theorem d_E_execute_53 : decode prog_3_method_2_code 53 = .ok (.aload_n 0, 1) := by decide +kernel
theorem d_E_execute_54 : decode prog_3_method_2_code 54 = .ok (.getfield 28, 3) := by decide +kernel
theorem d_E_execute_57 : decode prog_3_method_2_code 57 = .ok (.ifCond .ne 8, 3) := by decide +kernel
theorem d_E_execute_60 : decode prog_3_method_2_code 60 = .ok (.aload_n 0, 1) := by decide +kernel
theorem d_E_execute_61 : decode prog_3_method_2_code 61 = .ok (.getfield 46, 3) := by decide +kernel
theorem d_E_execute_64 : decode prog_3_method_2_code 64 = .ok (.ireturn, 1) := by decide +kernel
theorem d_E_execute_65 : decode prog_3_method_2_code 65 = .ok (.iinc 5 1, 3) := by decide +kernel
theorem d_E_execute_68 : decode prog_3_method_2_code 68 = .ok (.goto (-39), 3) := by decide +kernel
theorem d_E_execute_71 : decode prog_3_method_2_code 71 = .ok (.new 49, 3) := by decide +kernel
theorem d_E_execute_74 : decode prog_3_method_2_code 74 = .ok (.dup, 1) := by decide +kernel
theorem d_E_execute_75 : decode prog_3_method_2_code 75 = .ok (.ldc 51, 2) := by decide +kernel
theorem d_E_execute_77 : decode prog_3_method_2_code 77 = .ok (.invokespecial 53, 3) := by decide +kernel
theorem d_E_execute_80 : decode prog_3_method_2_code 80 = .ok (.athrow, 1) := by decide +kernel
theorem d_S_run_0 : decode prog_1_method_16_code 0 = .ok (.aload_n 0, 1) := by decide +kernel
theorem d_S_run_1 : decode prog_1_method_16_code 1 = .ok (.iload_n 1, 1) := by decide +kernel
theorem d_S_run_2 : decode prog_1_method_16_code 2 = .ok (.invokevirtual 138, 3) := by decide +kernel
theorem d_S_run_5 : decode prog_1_method_16_code 5 = .ok (.astore 5, 2) := by decide +kernel
theorem d_S_run_7 : decode prog_1_method_16_code 7 = .ok (.aload 5, 2) := by decide +kernel
theorem d_S_run_9 : decode prog_1_method_16_code 9 = .ok (.iload_n 2, 1) := by decide +kernel
theorem d_S_run_10 : decode prog_1_method_16_code 10 = .ok (.invokevirtual 96, 3) := by decide +kernel
theorem d_S_run_13 : decode prog_1_method_16_code 13 = .ok (.ifCond .ne 13, 3) := by decide +kernel
theorem d_S_run_16 : decode prog_1_method_16_code 16 = .ok (.new 52, 3) := by decide +kernel
theorem d_S_run_19 : decode prog_1_method_16_code 19 = .ok (.dup, 1) := by decide +kernel
theorem d_S_run_20 : decode prog_1_method_16_code 20 = .ok (.ldc 99, 2) := by decide +kernel
theorem d_S_run_22 : decode prog_1_method_16_code 22 = .ok (.invokespecial 56, 3) := by decide +kernel
theorem d_S_run_25 : decode prog_1_method_16_code 25 = .ok (.athrow, 1) := by decide +kernel
theorem d_S_run_26 : decode prog_1_method_16_code 26 = .ok (.iload_n 1, 1) := by decide +kernel
theorem d_S_run_27 : decode prog_1_method_16_code 27 = .ok (.ifCond .ne 22, 3) := by decide +kernel
theorem d_S_run_30 : decode prog_1_method_16_code 30 = .ok (.aload 5, 2) := by decide +kernel
theorem d_S_run_32 : decode prog_1_method_16_code 32 = .ok (.invokevirtual 124, 3) := by decide +kernel
theorem d_S_run_35 : decode prog_1_method_16_code 35 = .ok (.iconst (-1), 1) := by decide +kernel
theorem d_S_run_36 : decode prog_1_method_16_code 36 = .ok (.if_icmp .eq 13, 3) := by decide +kernel
theorem d_S_run_39 : decode prog_1_method_16_code 39 = .ok (.new 61, 3) := by decide +kernel
theorem d_S_run_42 : decode prog_1_method_16_code 42 = .ok (.dup, 1) := by decide +kernel
theorem d_S_run_43 : decode prog_1_method_16_code 43 = .ok (.ldc 127, 2) := by decide +kernel
theorem d_S_run_45 : decode prog_1_method_16_code 45 = .ok (.invokespecial 65, 3) := by decide +kernel
theorem d_S_run_48 : decode prog_1_method_16_code 48 = .ok (.athrow, 1) := by decide +kernel
theorem d_S_run_49 : decode prog_1_method_16_code 49 = .ok (.aload_n 0, 1) := by decide +kernel
theorem d_S_run_50 : decode prog_1_method_16_code 50 = .ok (.getfield 29, 3) := by decide +kernel
theorem d_S_run_53 : decode prog_1_method_16_code 53 = .ok (.aload 5, 2) := by decide +kernel
theorem d_S_run_55 : decode prog_1_method_16_code 55 = .ok (.iload_n 2, 1) := by decide +kernel
theorem d_S_run_56 : decode prog_1_method_16_code 56 = .ok (.iload_n 3, 1) := by decide +kernel
theorem d_S_run_57 : decode prog_1_method_16_code 57 = .ok (.iload 4, 2) := by decide +kernel
theorem d_S_run_59 : decode prog_1_method_16_code 59 = .ok (.invokevirtual 190, 3) := by decide +kernel
theorem d_S_run_62 : decode prog_1_method_16_code 62 = .ok (.ireturn, 1) := by decide +kernel
theorem d_W_run_0 : decode method_14_code 0 = .ok (.aload 5, 2) := by decide +kernel
theorem d_W_run_2 : decode method_14_code 2 = .ok (.iconst 0, 1) := by decide +kernel
theorem d_W_run_3 : decode method_14_code 3 = .ok (.aload_n 0, 1) := by decide +kernel
theorem d_W_run_4 : decode method_14_code 4 = .ok (.iload_n 1, 1) := by decide +kernel
theorem d_W_run_5 : decode method_14_code 5 = .ok (.iload_n 2, 1) := by decide +kernel
theorem d_W_run_6 : decode method_14_code 6 = .ok (.iload_n 3, 1) := by decide +kernel
theorem d_W_run_7 : decode method_14_code 7 = .ok (.iload 4, 2) := by decide +kernel
theorem d_W_run_9 : decode method_14_code 9 = .ok (.invokevirtual 55, 3) := by decide +kernel
theorem d_W_run_12 : decode method_14_code 12 = .ok (.i2l, 1) := by decide +kernel
theorem d_W_run_13 : decode method_14_code 13 = .ok (.lastore, 1) := by decide +kernel
theorem d_W_run_14 : decode method_14_code 14 = .ok (.goto 23, 3) := by decide +kernel
theorem d_W_run_17 : decode method_14_code 17 = .ok (.astore 6, 2) := by decide +kernel
theorem d_W_run_19 : decode method_14_code 19 = .ok (.iconst 1, 1) := by decide +kernel
theorem d_W_run_20 : decode method_14_code 20 = .ok (.ireturn, 1) := by decide +kernel
theorem d_W_run_21 : decode method_14_code 21 = .ok (.astore 6, 2) := by decide +kernel
theorem d_W_run_23 : decode method_14_code 23 = .ok (.iconst 2, 1) := by decide +kernel
theorem d_W_run_24 : decode method_14_code 24 = .ok (.ireturn, 1) := by decide +kernel
theorem d_W_run_25 : decode method_14_code 25 = .ok (.astore 6, 2) := by decide +kernel
theorem d_W_run_27 : decode method_14_code 27 = .ok (.iconst 3, 1) := by decide +kernel
theorem d_W_run_28 : decode method_14_code 28 = .ok (.ireturn, 1) := by decide +kernel
theorem d_W_run_29 : decode method_14_code 29 = .ok (.astore 6, 2) := by decide +kernel
theorem d_W_run_31 : decode method_14_code 31 = .ok (.iconst 4, 1) := by decide +kernel
theorem d_W_run_32 : decode method_14_code 32 = .ok (.ireturn, 1) := by decide +kernel
theorem d_W_run_33 : decode method_14_code 33 = .ok (.astore 6, 2) := by decide +kernel
theorem d_W_run_35 : decode method_14_code 35 = .ok (.iconst 5, 1) := by decide +kernel
theorem d_W_run_36 : decode method_14_code 36 = .ok (.ireturn, 1) := by decide +kernel
theorem d_W_run_37 : decode method_14_code 37 = .ok (.iconst 0, 1) := by decide +kernel
theorem d_W_run_38 : decode method_14_code 38 = .ok (.ireturn, 1) := by decide +kernel
theorem d_R_init_0 : decode prog_9_method_1_code 0 = .ok (.aload_n 0, 1) := by decide +kernel
theorem d_R_init_1 : decode prog_9_method_1_code 1 = .ok (.invokespecial 1, 3) := by decide +kernel
theorem d_R_init_4 : decode prog_9_method_1_code 4 = .ok (.aload_n 0, 1) := by decide +kernel
theorem d_R_init_5 : decode prog_9_method_1_code 5 = .ok (.iconst 2, 1) := by decide +kernel
theorem d_R_init_6 : decode prog_9_method_1_code 6 = .ok (.newarray .int, 2) := by decide +kernel
theorem d_R_init_8 : decode prog_9_method_1_code 8 = .ok (.putfield 7, 3) := by decide +kernel
theorem d_R_init_11 : decode prog_9_method_1_code 11 = .ok (.aload_n 0, 1) := by decide +kernel
theorem d_R_init_12 : decode prog_9_method_1_code 12 = .ok (.iconst 2, 1) := by decide +kernel
theorem d_R_init_13 : decode prog_9_method_1_code 13 = .ok (.newarray .int, 2) := by decide +kernel
theorem d_R_init_15 : decode prog_9_method_1_code 15 = .ok (.putfield 13, 3) := by decide +kernel
theorem d_R_init_18 : decode prog_9_method_1_code 18 = .ok (.aload_n 0, 1) := by decide +kernel
theorem d_R_init_19 : decode prog_9_method_1_code 19 = .ok (.bipush 12, 2) := by decide +kernel
theorem d_R_init_21 : decode prog_9_method_1_code 21 = .ok (.newarray .int, 2) := by decide +kernel
theorem d_R_init_23 : decode prog_9_method_1_code 23 = .ok (.putfield 16, 3) := by decide +kernel
theorem d_R_init_26 : decode prog_9_method_1_code 26 = .ok (.aload_n 0, 1) := by decide +kernel
theorem d_R_init_27 : decode prog_9_method_1_code 27 = .ok (.sipush 240, 3) := by decide +kernel
theorem d_R_init_30 : decode prog_9_method_1_code 30 = .ok (.newarray .int, 2) := by decide +kernel
theorem d_R_init_32 : decode prog_9_method_1_code 32 = .ok (.putfield 19, 3) := by decide +kernel
theorem d_R_init_35 : decode prog_9_method_1_code 35 = .ok (.aload_n 0, 1) := by decide +kernel
theorem d_R_init_36 : decode prog_9_method_1_code 36 = .ok (.sipush 240, 3) := by decide +kernel
theorem d_R_init_39 : decode prog_9_method_1_code 39 = .ok (.newarray .int, 2) := by decide +kernel
theorem d_R_init_41 : decode prog_9_method_1_code 41 = .ok (.putfield 22, 3) := by decide +kernel
theorem d_R_init_44 : decode prog_9_method_1_code 44 = .ok (.aload_n 0, 1) := by decide +kernel
theorem d_R_init_45 : decode prog_9_method_1_code 45 = .ok (.sipush 240, 3) := by decide +kernel
theorem d_R_init_48 : decode prog_9_method_1_code 48 = .ok (.newarray .int, 2) := by decide +kernel
theorem d_R_init_50 : decode prog_9_method_1_code 50 = .ok (.putfield 25, 3) := by decide +kernel
theorem d_R_init_53 : decode prog_9_method_1_code 53 = .ok (.aload_n 0, 1) := by decide +kernel
theorem d_R_init_54 : decode prog_9_method_1_code 54 = .ok (.bipush 60, 2) := by decide +kernel
theorem d_R_init_56 : decode prog_9_method_1_code 56 = .ok (.newarray .int, 2) := by decide +kernel
theorem d_R_init_58 : decode prog_9_method_1_code 58 = .ok (.putfield 28, 3) := by decide +kernel
theorem d_R_init_61 : decode prog_9_method_1_code 61 = .ok (.aload_n 0, 1) := by decide +kernel
theorem d_R_init_62 : decode prog_9_method_1_code 62 = .ok (.bipush 60, 2) := by decide +kernel
theorem d_R_init_64 : decode prog_9_method_1_code 64 = .ok (.newarray .int, 2) := by decide +kernel
theorem d_R_init_66 : decode prog_9_method_1_code 66 = .ok (.putfield 31, 3) := by decide +kernel
theorem d_R_init_69 : decode prog_9_method_1_code 69 = .ok (.aload_n 0, 1) := by decide +kernel
theorem d_R_init_70 : decode prog_9_method_1_code 70 = .ok (.bipush 60, 2) := by decide +kernel
theorem d_R_init_72 : decode prog_9_method_1_code 72 = .ok (.newarray .int, 2) := by decide +kernel
theorem d_R_init_74 : decode prog_9_method_1_code 74 = .ok (.putfield 34, 3) := by decide +kernel
theorem d_R_init_77 : decode prog_9_method_1_code 77 = .ok (.aload_n 0, 1) := by decide +kernel
theorem d_R_init_78 : decode prog_9_method_1_code 78 = .ok (.bipush 60, 2) := by decide +kernel
theorem d_R_init_80 : decode prog_9_method_1_code 80 = .ok (.newarray .int, 2) := by decide +kernel
theorem d_R_init_82 : decode prog_9_method_1_code 82 = .ok (.putfield 37, 3) := by decide +kernel
theorem d_R_init_85 : decode prog_9_method_1_code 85 = .ok (.aload_n 0, 1) := by decide +kernel
theorem d_R_init_86 : decode prog_9_method_1_code 86 = .ok (.bipush 60, 2) := by decide +kernel
theorem d_R_init_88 : decode prog_9_method_1_code 88 = .ok (.newarray .boolean, 2) := by decide +kernel
theorem d_R_init_90 : decode prog_9_method_1_code 90 = .ok (.putfield 40, 3) := by decide +kernel
theorem d_R_init_93 : decode prog_9_method_1_code 93 = .ok (.aload_n 0, 1) := by decide +kernel
theorem d_R_init_94 : decode prog_9_method_1_code 94 = .ok (.sipush 1200, 3) := by decide +kernel
theorem d_R_init_97 : decode prog_9_method_1_code 97 = .ok (.newarray .int, 2) := by decide +kernel
theorem d_R_init_99 : decode prog_9_method_1_code 99 = .ok (.putfield 44, 3) := by decide +kernel
theorem d_R_init_102 : decode prog_9_method_1_code 102 = .ok (.aload_n 0, 1) := by decide +kernel
theorem d_R_init_103 : decode prog_9_method_1_code 103 = .ok (.sipush 1200, 3) := by decide +kernel
theorem d_R_init_106 : decode prog_9_method_1_code 106 = .ok (.newarray .int, 2) := by decide +kernel
theorem d_R_init_108 : decode prog_9_method_1_code 108 = .ok (.putfield 47, 3) := by decide +kernel
theorem d_R_init_111 : decode prog_9_method_1_code 111 = .ok (.aload_n 0, 1) := by decide +kernel
theorem d_R_init_112 : decode prog_9_method_1_code 112 = .ok (.bipush 30, 2) := by decide +kernel
theorem d_R_init_114 : decode prog_9_method_1_code 114 = .ok (.newarray .int, 2) := by decide +kernel
theorem d_R_init_116 : decode prog_9_method_1_code 116 = .ok (.putfield 50, 3) := by decide +kernel
theorem d_R_init_119 : decode prog_9_method_1_code 119 = .ok (.aload_n 0, 1) := by decide +kernel
theorem d_R_init_120 : decode prog_9_method_1_code 120 = .ok (.bipush 30, 2) := by decide +kernel
theorem d_R_init_122 : decode prog_9_method_1_code 122 = .ok (.newarray .boolean, 2) := by decide +kernel
theorem d_R_init_124 : decode prog_9_method_1_code 124 = .ok (.putfield 53, 3) := by decide +kernel
theorem d_R_init_127 : decode prog_9_method_1_code 127 = .ok (.aload_n 0, 1) := by decide +kernel
theorem d_R_init_128 : decode prog_9_method_1_code 128 = .ok (.bipush 6, 2) := by decide +kernel
theorem d_R_init_130 : decode prog_9_method_1_code 130 = .ok (.newarray .int, 2) := by decide +kernel
theorem d_R_init_132 : decode prog_9_method_1_code 132 = .ok (.putfield 56, 3) := by decide +kernel
theorem d_R_init_135 : decode prog_9_method_1_code 135 = .ok (.aload_n 0, 1) := by decide +kernel
theorem d_R_init_136 : decode prog_9_method_1_code 136 = .ok (.bipush 120, 2) := by decide +kernel
theorem d_R_init_138 : decode prog_9_method_1_code 138 = .ok (.newarray .boolean, 2) := by decide +kernel
theorem d_R_init_140 : decode prog_9_method_1_code 140 = .ok (.putfield 59, 3) := by decide +kernel
theorem d_R_init_143 : decode prog_9_method_1_code 143 = .ok (.aload_n 0, 1) := by decide +kernel
theorem d_R_init_144 : decode prog_9_method_1_code 144 = .ok (.bipush 120, 2) := by decide +kernel
theorem d_R_init_146 : decode prog_9_method_1_code 146 = .ok (.newarray .int, 2) := by decide +kernel
theorem d_R_init_148 : decode prog_9_method_1_code 148 = .ok (.putfield 62, 3) := by decide +kernel
theorem d_R_init_151 : decode prog_9_method_1_code 151 = .ok (.aload_n 0, 1) := by decide +kernel
theorem d_R_init_152 : decode prog_9_method_1_code 152 = .ok (.bipush 100, 2) := by decide +kernel
theorem d_R_init_154 : decode prog_9_method_1_code 154 = .ok (.newarray .int, 2) := by decide +kernel
theorem d_R_init_156 : decode prog_9_method_1_code 156 = .ok (.putfield 65, 3) := by decide +kernel
theorem d_R_init_159 : decode prog_9_method_1_code 159 = .ok (.aload_n 0, 1) := by decide +kernel
theorem d_R_init_160 : decode prog_9_method_1_code 160 = .ok (.bipush 100, 2) := by decide +kernel
theorem d_R_init_162 : decode prog_9_method_1_code 162 = .ok (.newarray .boolean, 2) := by decide +kernel
theorem d_R_init_164 : decode prog_9_method_1_code 164 = .ok (.putfield 68, 3) := by decide +kernel
theorem d_R_init_167 : decode prog_9_method_1_code 167 = .ok (.aload_n 0, 1) := by decide +kernel
theorem d_R_init_168 : decode prog_9_method_1_code 168 = .ok (.bipush 30, 2) := by decide +kernel
theorem d_R_init_170 : decode prog_9_method_1_code 170 = .ok (.newarray .int, 2) := by decide +kernel
theorem d_R_init_172 : decode prog_9_method_1_code 172 = .ok (.putfield 71, 3) := by decide +kernel
theorem d_R_init_175 : decode prog_9_method_1_code 175 = .ok (.aload_n 0, 1) := by decide +kernel
theorem d_R_init_176 : decode prog_9_method_1_code 176 = .ok (.bipush 8, 2) := by decide +kernel
theorem d_R_init_178 : decode prog_9_method_1_code 178 = .ok (.newarray .int, 2) := by decide +kernel
theorem d_R_init_180 : decode prog_9_method_1_code 180 = .ok (.putfield 74, 3) := by decide +kernel
theorem d_R_init_183 : decode prog_9_method_1_code 183 = .ok (.aload_n 0, 1) := by decide +kernel
theorem d_R_init_184 : decode prog_9_method_1_code 184 = .ok (.bipush 8, 2) := by decide +kernel
theorem d_R_init_186 : decode prog_9_method_1_code 186 = .ok (.newarray .int, 2) := by decide +kernel
theorem d_R_init_188 : decode prog_9_method_1_code 188 = .ok (.putfield 77, 3) := by decide +kernel
theorem d_R_init_191 : decode prog_9_method_1_code 191 = .ok (.aload_n 0, 1) := by decide +kernel
theorem d_R_init_192 : decode prog_9_method_1_code 192 = .ok (.bipush 8, 2) := by decide +kernel
theorem d_R_init_194 : decode prog_9_method_1_code 194 = .ok (.newarray .int, 2) := by decide +kernel
theorem d_R_init_196 : decode prog_9_method_1_code 196 = .ok (.putfield 80, 3) := by decide +kernel
theorem d_R_init_199 : decode prog_9_method_1_code 199 = .ok (.aload_n 0, 1) := by decide +kernel
theorem d_R_init_200 : decode prog_9_method_1_code 200 = .ok (.bipush 8, 2) := by decide +kernel
theorem d_R_init_202 : decode prog_9_method_1_code 202 = .ok (.newarray .int, 2) := by decide +kernel
theorem d_R_init_204 : decode prog_9_method_1_code 204 = .ok (.putfield 83, 3) := by decide +kernel
theorem d_R_init_207 : decode prog_9_method_1_code 207 = .ok (.aload_n 0, 1) := by decide +kernel
theorem d_R_init_208 : decode prog_9_method_1_code 208 = .ok (.bipush 8, 2) := by decide +kernel
theorem d_R_init_210 : decode prog_9_method_1_code 210 = .ok (.newarray .int, 2) := by decide +kernel
theorem d_R_init_212 : decode prog_9_method_1_code 212 = .ok (.putfield 86, 3) := by decide +kernel
theorem d_R_init_215 : decode prog_9_method_1_code 215 = .ok (.aload_n 0, 1) := by decide +kernel
theorem d_R_init_216 : decode prog_9_method_1_code 216 = .ok (.bipush 64, 2) := by decide +kernel
theorem d_R_init_218 : decode prog_9_method_1_code 218 = .ok (.newarray .int, 2) := by decide +kernel
theorem d_R_init_220 : decode prog_9_method_1_code 220 = .ok (.putfield 89, 3) := by decide +kernel
theorem d_R_init_223 : decode prog_9_method_1_code 223 = .ok (.iconst 0, 1) := by decide +kernel
theorem d_R_init_224 : decode prog_9_method_1_code 224 = .ok (.istore_n 1, 1) := by decide +kernel
theorem d_R_init_225 : decode prog_9_method_1_code 225 = .ok (.iload_n 1, 1) := by decide +kernel
theorem d_R_init_226 : decode prog_9_method_1_code 226 = .ok (.bipush 30, 2) := by decide +kernel
theorem d_R_init_228 : decode prog_9_method_1_code 228 = .ok (.if_icmp .ge 16, 3) := by decide +kernel
theorem d_R_init_231 : decode prog_9_method_1_code 231 = .ok (.aload_n 0, 1) := by decide +kernel
theorem d_R_init_232 : decode prog_9_method_1_code 232 = .ok (.getfield 50, 3) := by decide +kernel
theorem d_R_init_235 : decode prog_9_method_1_code 235 = .ok (.iload_n 1, 1) := by decide +kernel
theorem d_R_init_236 : decode prog_9_method_1_code 236 = .ok (.iconst (-1), 1) := by decide +kernel
theorem d_R_init_237 : decode prog_9_method_1_code 237 = .ok (.iastore, 1) := by decide +kernel
theorem d_R_init_238 : decode prog_9_method_1_code 238 = .ok (.iinc 1 1, 3) := by decide +kernel
theorem d_R_init_241 : decode prog_9_method_1_code 241 = .ok (.goto (-16), 3) := by decide +kernel
theorem d_R_init_244 : decode prog_9_method_1_code 244 = .ok (.return_, 1) := by decide +kernel
theorem d_R_thrown_0 : decode prog_9_method_2_code 0 = .ok (.aload_n 0, 1) := by decide +kernel
theorem d_R_thrown_1 : decode prog_9_method_2_code 1 = .ok (.getfield 92, 3) := by decide +kernel
theorem d_R_thrown_4 : decode prog_9_method_2_code 4 = .ok (.ireturn, 1) := by decide +kernel
theorem d_R_add_0 : decode prog_9_method_8_code 0 = .ok (.aload_n 0, 1) := by decide +kernel
theorem d_R_add_1 : decode prog_9_method_8_code 1 = .ok (.aload_n 0, 1) := by decide +kernel
theorem d_R_add_2 : decode prog_9_method_8_code 2 = .ok (.getfield 7, 3) := by decide +kernel
theorem d_R_add_5 : decode prog_9_method_8_code 5 = .ok (.iconst 0, 1) := by decide +kernel
theorem d_R_add_6 : decode prog_9_method_8_code 6 = .ok (.iaload, 1) := by decide +kernel
theorem d_R_add_7 : decode prog_9_method_8_code 7 = .ok (.bipush 6, 2) := by decide +kernel
theorem d_R_add_9 : decode prog_9_method_8_code 9 = .ok (.if_icmp .ne 7, 3) := by decide +kernel
theorem d_R_add_12 : decode prog_9_method_8_code 12 = .ok (.iconst 1, 1) := by decide +kernel
theorem d_R_add_13 : decode prog_9_method_8_code 13 = .ok (.goto 4, 3) := by decide +kernel
theorem d_R_add_16 : decode prog_9_method_8_code 16 = .ok (.iconst 0, 1) := by decide +kernel
theorem d_R_add_17 : decode prog_9_method_8_code 17 = .ok (.putfield 92, 3) := by decide +kernel
theorem d_R_add_20 : decode prog_9_method_8_code 20 = .ok (.aload_n 0, 1) := by decide +kernel
theorem d_R_add_21 : decode prog_9_method_8_code 21 = .ok (.getfield 92, 3) := by decide +kernel
theorem d_R_add_24 : decode prog_9_method_8_code 24 = .ok (.ifCond .le 5, 3) := by decide +kernel
theorem d_R_add_27 : decode prog_9_method_8_code 27 = .ok (.iconst 0, 1) := by decide +kernel
theorem d_R_add_28 : decode prog_9_method_8_code 28 = .ok (.ireturn, 1) := by decide +kernel
theorem d_R_add_29 : decode prog_9_method_8_code 29 = .ok (.aload_n 0, 1) := by decide +kernel
theorem d_R_add_30 : decode prog_9_method_8_code 30 = .ok (.getfield 16, 3) := by decide +kernel
theorem d_R_add_33 : decode prog_9_method_8_code 33 = .ok (.aload_n 0, 1) := by decide +kernel
theorem d_R_add_34 : decode prog_9_method_8_code 34 = .ok (.getfield 7, 3) := by decide +kernel
theorem d_R_add_37 : decode prog_9_method_8_code 37 = .ok (.iconst 0, 1) := by decide +kernel
theorem d_R_add_38 : decode prog_9_method_8_code 38 = .ok (.iaload, 1) := by decide +kernel
theorem d_R_add_39 : decode prog_9_method_8_code 39 = .ok (.iconst 0, 1) := by decide +kernel
theorem d_R_add_40 : decode prog_9_method_8_code 40 = .ok (.iastore, 1) := by decide +kernel
theorem d_R_add_41 : decode prog_9_method_8_code 41 = .ok (.aload_n 0, 1) := by decide +kernel
theorem d_R_add_42 : decode prog_9_method_8_code 42 = .ok (.getfield 7, 3) := by decide +kernel
theorem d_R_add_45 : decode prog_9_method_8_code 45 = .ok (.iconst 0, 1) := by decide +kernel
theorem d_R_add_46 : decode prog_9_method_8_code 46 = .ok (.dup2, 1) := by decide +kernel
theorem d_R_add_47 : decode prog_9_method_8_code 47 = .ok (.iaload, 1) := by decide +kernel
theorem d_R_add_48 : decode prog_9_method_8_code 48 = .ok (.iconst 1, 1) := by decide +kernel
theorem d_R_add_49 : decode prog_9_method_8_code 49 = .ok (.iadd, 1) := by decide +kernel
theorem d_R_add_50 : decode prog_9_method_8_code 50 = .ok (.iastore, 1) := by decide +kernel
theorem d_R_add_51 : decode prog_9_method_8_code 51 = .ok (.aload_n 0, 1) := by decide +kernel
theorem d_R_add_52 : decode prog_9_method_8_code 52 = .ok (.getfield 7, 3) := by decide +kernel
theorem d_R_add_55 : decode prog_9_method_8_code 55 = .ok (.iconst 0, 1) := by decide +kernel
theorem d_R_add_56 : decode prog_9_method_8_code 56 = .ok (.iaload, 1) := by decide +kernel
theorem d_R_add_57 : decode prog_9_method_8_code 57 = .ok (.iconst 1, 1) := by decide +kernel
theorem d_R_add_58 : decode prog_9_method_8_code 58 = .ok (.isub, 1) := by decide +kernel
theorem d_R_add_59 : decode prog_9_method_8_code 59 = .ok (.ireturn, 1) := by decide +kernel
theorem d_R_noClass_0 : decode prog_9_method_3_code 0 = .ok (.iload_n 2, 1) := by decide +kernel
theorem d_R_noClass_1 : decode prog_9_method_3_code 1 = .ok (.ifCond .lt 13, 3) := by decide +kernel
theorem d_R_noClass_4 : decode prog_9_method_3_code 4 = .ok (.iload_n 2, 1) := by decide +kernel
theorem d_R_noClass_5 : decode prog_9_method_3_code 5 = .ok (.aload_n 0, 1) := by decide +kernel
theorem d_R_noClass_6 : decode prog_9_method_3_code 6 = .ok (.getfield 7, 3) := by decide +kernel
theorem d_R_noClass_9 : decode prog_9_method_3_code 9 = .ok (.iload_n 1, 1) := by decide +kernel
theorem d_R_noClass_10 : decode prog_9_method_3_code 10 = .ok (.iaload, 1) := by decide +kernel
theorem d_R_noClass_11 : decode prog_9_method_3_code 11 = .ok (.if_icmp .lt 7, 3) := by decide +kernel
theorem d_R_noClass_14 : decode prog_9_method_3_code 14 = .ok (.iconst 1, 1) := by decide +kernel
theorem d_R_noClass_15 : decode prog_9_method_3_code 15 = .ok (.goto 4, 3) := by decide +kernel
theorem d_R_noClass_18 : decode prog_9_method_3_code 18 = .ok (.iconst 0, 1) := by decide +kernel
theorem d_R_noClass_19 : decode prog_9_method_3_code 19 = .ok (.ireturn, 1) := by decide +kernel
theorem d_R_base_0 : decode prog_9_method_6_code 0 = .ok (.bipush 120, 2) := by decide +kernel
theorem d_R_base_2 : decode prog_9_method_6_code 2 = .ok (.iload_n 0, 1) := by decide +kernel
theorem d_R_base_3 : decode prog_9_method_6_code 3 = .ok (.imul, 1) := by decide +kernel
theorem d_R_base_4 : decode prog_9_method_6_code 4 = .ok (.bipush 20, 2) := by decide +kernel
theorem d_R_base_6 : decode prog_9_method_6_code 6 = .ok (.iload_n 1, 1) := by decide +kernel
theorem d_R_base_7 : decode prog_9_method_6_code 7 = .ok (.imul, 1) := by decide +kernel
theorem d_R_base_8 : decode prog_9_method_6_code 8 = .ok (.iadd, 1) := by decide +kernel
theorem d_R_base_9 : decode prog_9_method_6_code 9 = .ok (.ireturn, 1) := by decide +kernel
theorem d_R_has_0 : decode prog_9_method_7_code 0 = .ok (.iload_n 3, 1) := by decide +kernel
theorem d_R_has_1 : decode prog_9_method_7_code 1 = .ok (.ifCond .lt 39, 3) := by decide +kernel
theorem d_R_has_4 : decode prog_9_method_7_code 4 = .ok (.iload_n 3, 1) := by decide +kernel
theorem d_R_has_5 : decode prog_9_method_7_code 5 = .ok (.aload_n 0, 1) := by decide +kernel
theorem d_R_has_6 : decode prog_9_method_7_code 6 = .ok (.getfield 16, 3) := by decide +kernel
theorem d_R_has_9 : decode prog_9_method_7_code 9 = .ok (.bipush 6, 2) := by decide +kernel
theorem d_R_has_11 : decode prog_9_method_7_code 11 = .ok (.iload_n 1, 1) := by decide +kernel
theorem d_R_has_12 : decode prog_9_method_7_code 12 = .ok (.imul, 1) := by decide +kernel
theorem d_R_has_13 : decode prog_9_method_7_code 13 = .ok (.iload_n 2, 1) := by decide +kernel
theorem d_R_has_14 : decode prog_9_method_7_code 14 = .ok (.iadd, 1) := by decide +kernel
theorem d_R_has_15 : decode prog_9_method_7_code 15 = .ok (.iaload, 1) := by decide +kernel
theorem d_R_has_16 : decode prog_9_method_7_code 16 = .ok (.if_icmp .ge 24, 3) := by decide +kernel
theorem d_R_has_19 : decode prog_9_method_7_code 19 = .ok (.aload_n 0, 1) := by decide +kernel
theorem d_R_has_20 : decode prog_9_method_7_code 20 = .ok (.getfield 19, 3) := by decide +kernel
theorem d_R_has_23 : decode prog_9_method_7_code 23 = .ok (.iload_n 1, 1) := by decide +kernel
theorem d_R_has_24 : decode prog_9_method_7_code 24 = .ok (.iload_n 2, 1) := by decide +kernel
theorem d_R_has_25 : decode prog_9_method_7_code 25 = .ok (.invokestatic 100, 3) := by decide +kernel
theorem d_R_has_28 : decode prog_9_method_7_code 28 = .ok (.iload_n 3, 1) := by decide +kernel
theorem d_R_has_29 : decode prog_9_method_7_code 29 = .ok (.iadd, 1) := by decide +kernel
theorem d_R_has_30 : decode prog_9_method_7_code 30 = .ok (.iaload, 1) := by decide +kernel
theorem d_R_has_31 : decode prog_9_method_7_code 31 = .ok (.iload 4, 2) := by decide +kernel
theorem d_R_has_33 : decode prog_9_method_7_code 33 = .ok (.if_icmp .ne 7, 3) := by decide +kernel
theorem d_R_has_36 : decode prog_9_method_7_code 36 = .ok (.iconst 1, 1) := by decide +kernel
theorem d_R_has_37 : decode prog_9_method_7_code 37 = .ok (.goto 4, 3) := by decide +kernel
theorem d_R_has_40 : decode prog_9_method_7_code 40 = .ok (.iconst 0, 1) := by decide +kernel
theorem d_R_has_41 : decode prog_9_method_7_code 41 = .ok (.ireturn, 1) := by decide +kernel
def g_S_codeAt (v0 : Nat) (v1 : Int32) (v2 : Int32) (v3 : Int32) (M : XM) : XP :=
    rv M 20 v0 <|
    cR (g_S_chosen v0 v1 M) fun t3 M2 =>
    rv M2 21 t3 <|
    cI (g_P_hasMethod t3 v2 M2) fun t6 M5 =>
    if ¬ t6 = 0 then
    (gR M5 21 t3 1 fun t7 =>
    aR M5 11 t7 v2 fun t8 =>
    if v3 < 0 then
    (tX M5 1)
    else
    gI M5 23 t8 4 fun t9 =>
    if v3 < t9 then
    (gR M5 23 t8 5 fun t10 =>
    aI M5 t10 v3 fun t11 =>
    gR M5 23 t8 6 fun t12 =>
    aI M5 t12 v3 fun t13 =>
    some (.inl (some (.int ((1000 * t11) + t13))), M5))
    else
    tX M5 1)
    else
    tX M5 1
def g_W_codeAt (v0 : Nat) (v1 : Int32) (v2 : Int32) (v3 : Int32) (v4 : Nat) (M : XM) : XP :=
    rv M 20 v0 <|
    hI (g_S_codeAt v0 v1 v2 v3 M) (fun t3 M2 =>
    sJ M2 v4 0 ((t3).toInt64) fun M4 =>
    some (.inl (some (.int 0)), M4)) (fun a5 M6 =>
    if a5 < xz M6 ∧ (xt M6 a5).1 = 41 then
    (some (.inl (some (.int 1)), M6))
    else
    none)
def g_F_start (v0 : Nat) (v1 : Nat) (v2 : Int32) (v3 : Int32) (M : XM) : XP :=
    uR M 25 v0 2 v1 fun M1 =>
    uI M1 25 v0 4 v2 fun M2 =>
    uI M2 25 v0 5 v3 fun M3 =>
    uI M3 25 v0 1 0 fun M4 =>
    uI M4 25 v0 3 0 fun M5 =>
    some (.inl none, M5)
def g_E_begin (v0 : Nat) (v1 : Nat) (v2 : Int32) (v3 : Int32) (M : XM) : XP :=
    gI M 26 v0 2 fun t1 =>
    if t1 < 8 then
    (gR M 26 v0 1 fun t2 =>
    gI M 26 v0 2 fun t3 =>
    aR M 12 t2 t3 fun t4 =>
    rv M 25 t4 <|
    cV (g_F_start t4 v1 v2 v3 M) fun M6 =>
    gI M6 26 v0 2 fun t7 =>
    uI M6 26 v0 2 (t7 + 1) fun M8 =>
    some (.inl none, M8))
    else
    tX M 0
def g_F_put (v0 : Nat) (v1 : Int32) (M : XM) : XP :=
    gI M 25 v0 1 fun t1 =>
    if t1 < 8 then
    (gR M 25 v0 0 fun t2 =>
    gI M 25 v0 1 fun t3 =>
    sI M t2 t3 v1 fun M4 =>
    gI M4 25 v0 1 fun t5 =>
    uI M4 25 v0 1 (t5 + 1) fun M6 =>
    some (.inl none, M6))
    else
    tX M 0
def g_F_take (v0 : Nat) (M : XM) : XP :=
    gI M 25 v0 1 fun t1 =>
    if 0 < t1 then
    (gI M 25 v0 1 fun t2 =>
    uI M 25 v0 1 (t2 - 1) fun M3 =>
    gR M3 25 v0 0 fun t4 =>
    gI M3 25 v0 1 fun t5 =>
    aI M3 t4 t5 fun t6 =>
    some (.inl (some (.int t6)), M3))
    else
    tX M 0
def g_E_call_33 (v0 : Nat) (v2 : Nat) (v3 : Int32) (s0 : Int32) (M : XM) : XP :=
    rv M 26 v0 <|
    cV (g_E_begin v0 v2 s0 v3 M) fun M2 =>
    some (.inl none, M2)
def g_E_call_16 (v0 : Nat) (v1 : Nat) (v2 : Nat) (s0 : Int32) (M : XM) : XP :=
    gI M 23 v2 2 fun t1 =>
    if t1 < 1 then
    (g_E_call_33 v0 v2 s0 0 M)
    else
    rv M 25 v1 <|
    cI (g_F_take v1  M) fun t4 M3 =>
    g_E_call_33 v0 v2 s0 t4 M3
def g_E_call (v0 : Nat) (v1 : Nat) (v2 : Nat) (M : XM) : XP :=
    gI M 23 v2 2 fun t1 =>
    if t1 < 2 then
    (g_E_call_16 v0 v1 v2 0 M)
    else
    rv M 25 v1 <|
    cI (g_F_take v1  M) fun t4 M3 =>
    g_E_call_16 v0 v1 v2 t4 M3
def g_E_useConstant (v0 : Nat) (v1 : Nat) (v2 : Nat) (v3 : Int32) (v4 : Int32) (M : XM) : XP :=
    gR M 25 v2 2 fun t1 =>
    gI M 23 t1 0 fun t2 =>
    if ¬ v3 = 0 then
    (rv M 21 v1 <|
    cI (g_P_meant v1 t2 v4 M) fun t5 M4 =>
    if ¬ v3 = 1 then
    (if ¬ v3 = 2 then
    (gR M4 21 v1 1 fun t6 =>
    aR M4 11 t6 t5 fun t7 =>
    rv M4 26 v0 <|
    cV (g_E_call v0 v2 t7 M4) fun M9 =>
    some (.inl none, M9))
    else
    gR M4 26 v0 0 fun t10 =>
    rv M4 25 v2 <|
    cI (g_F_take v2  M4) fun t13 M12 =>
    sI M12 t10 t5 t13 fun M14 =>
    some (.inl none, M14))
    else
    gR M4 26 v0 0 fun t15 =>
    aI M4 t15 t5 fun t16 =>
    rv M4 25 v2 <|
    cV (g_F_put v2 t16 M4) fun M18 =>
    some (.inl none, M18))
    else
    gR M 21 v1 0 fun t19 =>
    aR M 10 t19 t2 fun t20 =>
    gR M 22 t20 1 fun t21 =>
    aI M t21 v4 fun t22 =>
    rv M 25 v2 <|
    cV (g_F_put v2 t22 M) fun M24 =>
    some (.inl none, M24)
def g_E_calculate (v0 : Nat) (v1 : Int32) (M : XM) : XP :=
    rv M 25 v0 <|
    cI (g_F_take v0  M) fun t3 M2 =>
    rv M2 25 v0 <|
    cI (g_F_take v0  M2) fun t6 M5 =>
    if ¬ v1 = 5 then
    (if ¬ v1 = 6 then
    (if ¬ v1 = 7 then
    (if ¬ t3 = 0 then
    (if t3 = 0 then none else
    rv M5 25 v0 <|
    cV (g_F_put v0 (t6 / t3) M5) fun M8 =>
    some (.inl none, M8))
    else
    tX M5 3)
    else
    rv M5 25 v0 <|
    cV (g_F_put v0 (t6 * t3) M5) fun M10 =>
    some (.inl none, M10))
    else
    rv M5 25 v0 <|
    cV (g_F_put v0 (t6 - t3) M5) fun M12 =>
    some (.inl none, M12))
    else
    rv M5 25 v0 <|
    cV (g_F_put v0 (t6 + t3) M5) fun M14 =>
    some (.inl none, M14)
def g_E_end (v0 : Nat) (v1 : Int32) (M : XM) : XP :=
    gI M 26 v0 2 fun t1 =>
    uI M 26 v0 2 (t1 - 1) fun M2 =>
    gI M2 26 v0 2 fun t3 =>
    if ¬ t3 = 0 then
    (gR M2 26 v0 1 fun t4 =>
    gI M2 26 v0 2 fun t5 =>
    aR M2 12 t4 (t5 - 1) fun t6 =>
    rv M2 25 t6 <|
    cV (g_F_put t6 v1 M2) fun M8 =>
    some (.inl none, M8))
    else
    uI M2 26 v0 3 v1 fun M9 =>
    some (.inl none, M9)
def g_E_steer (v0 : Nat) (v1 : Nat) (v2 : Int32) (v3 : Int32) (M : XM) : XP :=
    if v2 = 4 then
    (if ¬ v3 = 0 then
    (gI M 25 v1 5 fun t26 =>
    rv M 25 v1 <|
    cV (g_F_put v1 t26 M) fun M28 =>
    some (.inl none, M28))
    else
    gI M 25 v1 4 fun t29 =>
    rv M 25 v1 <|
    cV (g_F_put v1 t29 M) fun M31 =>
    some (.inl none, M31))
    else
    if v2 = 5 then
    (rv M 25 v1 <|
    cI (g_F_take v1  M) fun t25 M24 =>
    tX M24 4)
    else
    if v2 = 6 then
    (rv M 25 v1 <|
    cI (g_F_take v1  M) fun t22 M21 =>
    tX M21 4)
    else
    if v2 = 7 then
    (rv M 25 v1 <|
    cI (g_F_take v1  M) fun t19 M18 =>
    tX M18 4)
    else
    if v2 = 8 then
    (rv M 25 v1 <|
    cI (g_F_take v1  M) fun t16 M15 =>
    tX M15 4)
    else
    if v2 = 9 then
    (rv M 25 v1 <|
    cI (g_F_take v1  M) fun t12 M11 =>
    if ¬ t12 = 0 then
    (some (.inl none, M11))
    else
    uI M11 25 v1 3 v3 fun M13 =>
    some (.inl none, M13))
    else
    if v2 = 10 then
    (uI M 25 v1 3 v3 fun M9 =>
    some (.inl none, M9))
    else
    if v2 = 11 then
    (rv M 25 v1 <|
    cI (g_F_take v1  M) fun t6 M5 =>
    rv M5 26 v0 <|
    cV (g_E_end v0 t6 M5) fun M8 =>
    some (.inl none, M8))
    else
    rv M 25 v1 <|
    cI (g_F_take v1  M) fun t3 M2 =>
    tX M2 4
def g_E_step (v0 : Nat) (v1 : Nat) (v2 : Nat) (M : XM) : XP :=
    gI M 25 v2 3 fun t1 =>
    gR M 25 v2 2 fun t2 =>
    gI M 23 t2 4 fun t3 =>
    if t1 < t3 then
    (gR M 25 v2 2 fun t4 =>
    gR M 23 t4 5 fun t5 =>
    gI M 25 v2 3 fun t6 =>
    aI M t5 t6 fun t7 =>
    gR M 25 v2 2 fun t8 =>
    gR M 23 t8 6 fun t9 =>
    gI M 25 v2 3 fun t10 =>
    aI M t9 t10 fun t11 =>
    gI M 25 v2 3 fun t12 =>
    uI M 25 v2 3 (t12 + 1) fun M13 =>
    cI (g_S_usesConstant t7 M13) fun t15 M14 =>
    if t15 = 0 then
    (if t7 < 5 then
    (rv M14 26 v0 <|
    cV (g_E_steer v0 v2 t7 t11 M14) fun M17 =>
    some (.inl none, M17))
    else
    if 8 < t7 then
    (rv M14 26 v0 <|
    cV (g_E_steer v0 v2 t7 t11 M14) fun M19 =>
    some (.inl none, M19))
    else
    cV (g_E_calculate v2 t7 M14) fun M20 =>
    some (.inl none, M20))
    else
    rv M14 26 v0 <|
    cV (g_E_useConstant v0 v1 v2 t7 t11 M14) fun M22 =>
    some (.inl none, M22))
    else
    tX M 0
def g_E_execute_29 : Nat → Nat → Nat → Int32 → XM → XP
  | 0, _, _, _, _ => none
  | n + 1, v0, v1, v5, M =>
    if 400 ≤ v5 then
    (tX M 0)
    else
    gR M 26 v0 1 fun t1 =>
    gI M 26 v0 2 fun t2 =>
    aR M 12 t1 (t2 - 1) fun t3 =>
    rv M 26 v0 <|
    cV (g_E_step v0 v1 t3 M) fun M5 =>
    gI M5 26 v0 2 fun t6 =>
    if ¬ t6 = 0 then
    (g_E_execute_29 n v0 v1 ((v5 + 1)) M5)
    else
    gI M5 26 v0 3 fun t7 =>
    some (.inl (some (.int t7)), M5)
def g_E_execute (v0 : Nat) (v1 : Nat) (v2 : Int32) (v3 : Int32) (v4 : Int32) (M : XM) : XP :=
    gR M 26 v0 0 fun t1 =>
    cV (g_A_fill t1 0 M) fun M2 =>
    uI M2 26 v0 2 0 fun M3 =>
    gR M3 21 v1 1 fun t4 =>
    aR M3 11 t4 v2 fun t5 =>
    rv M3 26 v0 <|
    cV (g_E_begin v0 t5 v3 v4 M3) fun M7 =>
    g_E_execute_29 FU v0 v1 0 M7
def g_S_run_49 (v0 : Nat) (v2 : Int32) (v3 : Int32) (v4 : Int32) (v5 : Nat) (M : XM) : XP :=
    gR M 20 v0 3 fun t1 =>
    rv M 26 t1 <|
    cI (g_E_execute t1 v5 v2 v3 v4 M) fun t4 M3 =>
    some (.inl (some (.int t4)), M3)
def g_S_run (v0 : Nat) (v1 : Int32) (v2 : Int32) (v3 : Int32) (v4 : Int32) (M : XM) : XP :=
    rv M 20 v0 <|
    cR (g_S_chosen v0 v1 M) fun t3 M2 =>
    rv M2 21 t3 <|
    cI (g_P_hasMethod t3 v2 M2) fun t6 M5 =>
    if ¬ t6 = 0 then
    (if ¬ v1 = 0 then
    (g_S_run_49 v0 v2 v3 v4 t3 M5)
    else
    rv M5 21 t3 <|
    cI (g_P_firstFault t3  M5) fun t9 M8 =>
    if t9 = (-1) then
    (g_S_run_49 v0 v2 v3 v4 t3 M8)
    else
    tX M8 2)
    else
    tX M5 1
def g_W_run (v0 : Nat) (v1 : Int32) (v2 : Int32) (v3 : Int32) (v4 : Int32) (v5 : Nat) (M : XM) : XP :=
    rv M 20 v0 <|
    hI (g_S_run v0 v1 v2 v3 v4 M) (fun t3 M2 =>
    sJ M2 v5 0 ((t3).toInt64) fun M4 =>
    some (.inl (some (.int 0)), M4)) (fun a5 M6 =>
    if a5 < xz M6 ∧ (xt M6 a5).1 = 41 then
    (some (.inl (some (.int 1)), M6))
    else
    if a5 < xz M6 ∧ (xt M6 a5).1 = 42 then
    (some (.inl (some (.int 2)), M6))
    else
    if a5 < xz M6 ∧ (xt M6 a5).1 = 43 then
    (some (.inl (some (.int 3)), M6))
    else
    if a5 < xz M6 ∧ (xt M6 a5).1 = 44 then
    (some (.inl (some (.int 4)), M6))
    else
    if a5 < xz M6 ∧ (xt M6 a5).1 = 40 then
    (some (.inl (some (.int 5)), M6))
    else
    none)
def g_R_init_225 : Nat → Nat → Int32 → XM → XP
  | 0, _, _, _ => none
  | n + 1, v0, v1, M =>
    if 30 ≤ v1 then
    (some (.inl none, M))
    else
    gR M 27 v0 14 fun t1 =>
    sI M t1 v1 (-1) fun M2 =>
    g_R_init_225 n v0 ((v1 + 1)) M2
def g_R_init (v0 : Nat) (M : XM) : XP :=
    nA M 0 2 fun t1 M2 =>
    uR M2 27 v0 1 t1 fun M3 =>
    nA M3 0 2 fun t4 M5 =>
    uR M5 27 v0 2 t4 fun M6 =>
    nA M6 0 12 fun t7 M8 =>
    uR M8 27 v0 3 t7 fun M9 =>
    nA M9 0 240 fun t10 M11 =>
    uR M11 27 v0 4 t10 fun M12 =>
    nA M12 0 240 fun t13 M14 =>
    uR M14 27 v0 5 t13 fun M15 =>
    nA M15 0 240 fun t16 M17 =>
    uR M17 27 v0 6 t16 fun M18 =>
    nA M18 0 60 fun t19 M20 =>
    uR M20 27 v0 7 t19 fun M21 =>
    nA M21 0 60 fun t22 M23 =>
    uR M23 27 v0 8 t22 fun M24 =>
    nA M24 0 60 fun t25 M26 =>
    uR M26 27 v0 9 t25 fun M27 =>
    nA M27 0 60 fun t28 M29 =>
    uR M29 27 v0 10 t28 fun M30 =>
    nA M30 1 60 fun t31 M32 =>
    uR M32 27 v0 11 t31 fun M33 =>
    nA M33 0 1200 fun t34 M35 =>
    uR M35 27 v0 12 t34 fun M36 =>
    nA M36 0 1200 fun t37 M38 =>
    uR M38 27 v0 13 t37 fun M39 =>
    nA M39 0 30 fun t40 M41 =>
    uR M41 27 v0 14 t40 fun M42 =>
    nA M42 1 30 fun t43 M44 =>
    uR M44 27 v0 15 t43 fun M45 =>
    nA M45 0 6 fun t46 M47 =>
    uR M47 27 v0 16 t46 fun M48 =>
    nA M48 1 120 fun t49 M50 =>
    uR M50 27 v0 17 t49 fun M51 =>
    nA M51 0 120 fun t52 M53 =>
    uR M53 27 v0 18 t52 fun M54 =>
    nA M54 0 100 fun t55 M56 =>
    uR M56 27 v0 19 t55 fun M57 =>
    nA M57 1 100 fun t58 M59 =>
    uR M59 27 v0 20 t58 fun M60 =>
    nA M60 0 30 fun t61 M62 =>
    uR M62 27 v0 21 t61 fun M63 =>
    nA M63 0 8 fun t64 M65 =>
    uR M65 27 v0 23 t64 fun M66 =>
    nA M66 0 8 fun t67 M68 =>
    uR M68 27 v0 24 t67 fun M69 =>
    nA M69 0 8 fun t70 M71 =>
    uR M71 27 v0 25 t70 fun M72 =>
    nA M72 0 8 fun t73 M74 =>
    uR M74 27 v0 26 t73 fun M75 =>
    nA M75 0 8 fun t76 M77 =>
    uR M77 27 v0 27 t76 fun M78 =>
    nA M78 0 64 fun t79 M80 =>
    uR M80 27 v0 28 t79 fun M81 =>
    g_R_init_225 FU v0 0 M81
def g_R_thrown (v0 : Nat) (M : XM) : XP :=
    gI M 27 v0 0 fun t1 =>
    some (.inl (some (.int t1)), M)
def g_R_add_17 (v0 : Nat) (s0 : Nat) (s1 : Int32) (M : XM) : XP :=
    uI M 27 s0 0 s1 fun M1 =>
    gI M1 27 v0 0 fun t2 =>
    if t2 ≤ 0 then
    (gR M1 27 v0 3 fun t3 =>
    gR M1 27 v0 1 fun t4 =>
    aI M1 t4 0 fun t5 =>
    sI M1 t3 t5 0 fun M6 =>
    gR M6 27 v0 1 fun t7 =>
    aI M6 t7 0 fun t8 =>
    sI M6 t7 0 (t8 + 1) fun M9 =>
    gR M9 27 v0 1 fun t10 =>
    aI M9 t10 0 fun t11 =>
    some (.inl (some (.int (t11 - 1))), M9))
    else
    some (.inl (some (.int 0)), M1)
def g_R_add (v0 : Nat) (M : XM) : XP :=
    gR M 27 v0 1 fun t1 =>
    aI M t1 0 fun t2 =>
    if ¬ t2 = 6 then
    (g_R_add_17 v0 v0 0 M)
    else
    g_R_add_17 v0 v0 1 M
def g_R_noClass (v0 : Nat) (v1 : Int32) (v2 : Int32) (M : XM) : XP :=
    if v2 < 0 then
    (z01 1 (some (.inl (some (.int 1)), M)))
    else
    gR M 27 v0 1 fun t1 =>
    aI M t1 v1 fun t2 =>
    if v2 < t2 then
    (z01 0 (some (.inl (some (.int 0)), M)))
    else
    z01 1 (some (.inl (some (.int 1)), M))
def g_R_base (v0 : Int32) (v1 : Int32) (M : XM) : XP :=
    some (.inl (some (.int ((120 * v0) + (20 * v1)))), M)
def g_R_has (v0 : Nat) (v1 : Int32) (v2 : Int32) (v3 : Int32) (v4 : Int32) (M : XM) : XP :=
    if v3 < 0 then
    (z01 0 (some (.inl (some (.int 0)), M)))
    else
    gR M 27 v0 3 fun t1 =>
    aI M t1 ((6 * v1) + v2) fun t2 =>
    if t2 ≤ v3 then
    (z01 0 (some (.inl (some (.int 0)), M)))
    else
    gR M 27 v0 4 fun t3 =>
    cI (g_R_base v1 v2 M) fun t5 M4 =>
    aI M4 t3 (t5 + v3) fun t6 =>
    if ¬ t6 = v4 then
    (z01 0 (some (.inl (some (.int 0)), M4)))
    else
    z01 1 (some (.inl (some (.int 1)), M4))
section XG
variable {K : XK} {o : XO} {N : XM}
theorem p_S_codeAt (G : xG K) (v0 : Nat) (v1 : Int32) (v2 : Int32) (v3 : Int32) (M : XM) (h : g_S_codeAt v0 v1 v2 v3 M = some (o, N)) : Ct K y_S_codeAt [.ref v0, .int v1, .int v2, .int v3] M o N := by
  refine ct_of (by decide) (List.forall_mem_cons.mpr ⟨rfl, List.forall_mem_cons.mpr ⟨rfl, List.forall_mem_cons.mpr ⟨rfl, List.forall_mem_cons.mpr ⟨rfl, fun _ q => absurd q List.not_mem_nil⟩⟩⟩⟩) (Nat.le_of_ble_eq_true rfl) ?_
  show cA K y_S_codeAt 0 [(0, .ref v0), (1, .int v1), (2, .int v2), (3, .int v3)] [] M o N
  unfold g_S_codeAt at h
  refine x_aload_n (pc := 0) d_S_codeAt_0 rfl 0 rfl ?_
  refine x_iload_n (pc := 1) d_S_codeAt_1 rfl 1 rfl ?_
  obtain ⟨⟨ra1, ra1t⟩, h⟩ := h_ok h
  refine h_callR G (x_siteV G (pc := 2) (y2 := y_S_chosen) (As := [.int v1]) (S := []) (ci := 0) d_S_codeAt_2 rfl lm_S_138 mi_S_chosen ms_S_chosen mw_S_chosen.1 mx_S_chosen.1 mx_S_chosen.2 rfl ra1 ra1t) mw_S_chosen ⟨Nat.le_of_ble_eq_true rfl, Nat.le_of_ble_eq_true rfl⟩ rfl (fun _ _ e => p_S_chosen G _ _ _ e) h fun t3 M2 h => ?_
  refine x_astore (pc := 5) (L' := [(0, .ref v0), (1, .int v1), (2, .int v2), (3, .int v3), (4, .ref t3)]) d_S_codeAt_5 (by decide) rfl ?_
  refine x_aload (pc := 7) d_S_codeAt_7 4 rfl ?_
  refine x_iload_n (pc := 9) d_S_codeAt_9 rfl 2 rfl ?_
  obtain ⟨⟨ra4, ra4t⟩, h⟩ := h_ok h
  refine h_callI G (x_siteV G (pc := 10) (y2 := y_P_hasMethod) (As := [.int v2]) (S := []) (ci := 1) d_S_codeAt_10 rfl lm_S_96 mi_P_hasMethod ms_P_hasMethod mw_P_hasMethod.1 mx_P_hasMethod.1 mx_P_hasMethod.2 rfl ra4 ra4t) mw_P_hasMethod ⟨Nat.le_of_ble_eq_true rfl, Nat.le_of_ble_eq_true rfl⟩ rfl (fun _ _ e => p_P_hasMethod G _ _ _ e) h fun t6 M5 h => ?_
  refine h_if_ne (pc := 13) 26 d_S_codeAt_13 (by decide) h (fun _ h => ?_) (fun _ h => ?_)
  · refine x_aload (pc := 26) d_S_codeAt_26 4 rfl ?_
    refine h_getR G (pc := 28) (ci := 1) (j := 1) d_S_codeAt_28 rfl rfl rfl lf_S_103 h fun t7 h => ?_
    refine x_iload_n (pc := 31) d_S_codeAt_31 rfl 2 rfl ?_
    refine h_aaload (pc := 32) (kd := 11) d_S_codeAt_32 (by decide) rfl rfl h fun t8 h => ?_
    refine x_astore (pc := 33) (L' := [(0, .ref v0), (1, .int v1), (2, .int v2), (3, .int v3), (4, .ref t3), (5, .ref t8)]) d_S_codeAt_33 (by decide) rfl ?_
    refine x_iload_n (pc := 35) d_S_codeAt_35 rfl 3 rfl ?_
    refine h_if_lt (pc := 36) 48 d_S_codeAt_36 (by decide) h (fun _ h => ?_) (fun _ h => ?_)
    · exact h_throw G (pc := 48) (ei := 1) rfl d_S_codeAt_48 d_S_codeAt_51 d_S_codeAt_52 d_S_codeAt_54 d_S_codeAt_57 lc_S_52 lm_S_56 ls_S_101 rfl (Nat.le_of_ble_eq_true rfl) (Nat.le_of_ble_eq_true rfl) h
    · refine x_iload_n (pc := 39) d_S_codeAt_39 rfl 3 rfl ?_
      refine x_aload (pc := 40) d_S_codeAt_40 5 rfl ?_
      refine h_getI G (pc := 42) (ci := 3) (j := 4) d_S_codeAt_42 rfl rfl rfl lf_S_107 h fun t9 h => ?_
      refine h_icmp_lt (pc := 45) 58 d_S_codeAt_45 (by decide) h (fun _ h => ?_) (fun _ h => ?_)
      · refine x_sipush (pc := 58) (v := 1000) d_S_codeAt_58 (by decide) ?_
        refine x_aload (pc := 61) d_S_codeAt_61 5 rfl ?_
        refine h_getR G (pc := 63) (ci := 3) (j := 5) d_S_codeAt_63 rfl rfl rfl lf_S_181 h fun t10 h => ?_
        refine x_iload_n (pc := 66) d_S_codeAt_66 rfl 3 rfl ?_
        refine h_iaload (pc := 67) d_S_codeAt_67 h fun t11 h => ?_
        refine x_imul (pc := 68) d_S_codeAt_68 ?_
        refine x_aload (pc := 69) d_S_codeAt_69 5 rfl ?_
        refine h_getR G (pc := 71) (ci := 3) (j := 6) d_S_codeAt_71 rfl rfl rfl lf_S_184 h fun t12 h => ?_
        refine x_iload_n (pc := 74) d_S_codeAt_74 rfl 3 rfl ?_
        refine h_iaload (pc := 75) d_S_codeAt_75 h fun t13 h => ?_
        refine x_iadd (pc := 76) d_S_codeAt_76 ?_
        exact h_ireturn (pc := 77) d_S_codeAt_77 rfl h
      · exact h_throw G (pc := 48) (ei := 1) rfl d_S_codeAt_48 d_S_codeAt_51 d_S_codeAt_52 d_S_codeAt_54 d_S_codeAt_57 lc_S_52 lm_S_56 ls_S_101 rfl (Nat.le_of_ble_eq_true rfl) (Nat.le_of_ble_eq_true rfl) h
  · exact h_throw G (pc := 16) (ei := 1) rfl d_S_codeAt_16 d_S_codeAt_19 d_S_codeAt_20 d_S_codeAt_22 d_S_codeAt_25 lc_S_52 lm_S_56 ls_S_99 rfl (Nat.le_of_ble_eq_true rfl) (Nat.le_of_ble_eq_true rfl) h
theorem p_W_codeAt (G : xG K) (v0 : Nat) (v1 : Int32) (v2 : Int32) (v3 : Int32) (v4 : Nat) (M : XM) (h : g_W_codeAt v0 v1 v2 v3 v4 M = some (o, N)) : Ct K y_W_codeAt [.ref v0, .int v1, .int v2, .int v3, .ref v4] M o N := by
  refine ct_of (by decide) (List.forall_mem_cons.mpr ⟨rfl, List.forall_mem_cons.mpr ⟨rfl, List.forall_mem_cons.mpr ⟨rfl, List.forall_mem_cons.mpr ⟨rfl, List.forall_mem_cons.mpr ⟨rfl, fun _ q => absurd q List.not_mem_nil⟩⟩⟩⟩⟩) (Nat.le_of_ble_eq_true rfl) ?_
  show cA K y_W_codeAt 0 [(0, .ref v0), (1, .int v1), (2, .int v2), (3, .int v3), (4, .ref v4)] [] M o N
  unfold g_W_codeAt at h
  refine x_aload (pc := 0) d_W_codeAt_0 4 rfl ?_
  refine x_iconst (pc := 2) d_W_codeAt_2 rfl ?_
  refine x_aload_n (pc := 3) d_W_codeAt_3 rfl 0 rfl ?_
  refine x_iload_n (pc := 4) d_W_codeAt_4 rfl 1 rfl ?_
  refine x_iload_n (pc := 5) d_W_codeAt_5 rfl 2 rfl ?_
  refine x_iload_n (pc := 6) d_W_codeAt_6 rfl 3 rfl ?_
  obtain ⟨⟨ra1, ra1t⟩, h⟩ := h_ok h
  refine h_hI G (x_siteV G (pc := 7) (y2 := y_S_codeAt) (As := [.int v1, .int v2, .int v3]) (S := [.int 0, .ref v4]) (ci := 0) d_W_codeAt_7 rfl lm_W_52 mi_S_codeAt ms_S_codeAt mw_S_codeAt.1 mx_S_codeAt.1 mx_S_codeAt.2 rfl ra1 ra1t) mw_S_codeAt ⟨Nat.le_of_ble_eq_true rfl, Nat.le_of_ble_eq_true rfl⟩ (fun _ _ e => p_S_codeAt G _ _ _ _ _ e) h (fun t3 M2 h => ?_) (fun a5 M6 h => ?_)
  · refine x_i2l (pc := 10) d_W_codeAt_10 ?_
    refine h_lastore G (pc := 11) d_W_codeAt_11 h fun M4 h => ?_
    refine x_goto (pc := 12) 19 d_W_codeAt_12 (by decide) ?_
    refine x_iconst (pc := 19) d_W_codeAt_19 rfl ?_
    exact h_ireturn (pc := 20) d_W_codeAt_20 rfl h
  · refine h_catch G (pc := 7) (ei := 1) rfl [] (0, 12, 15, 19) [] rfl (fun _ q => absurd q List.not_mem_nil) ⟨by decide, by decide, by decide, lc_W_19⟩ h (fun h => ?_) (fun h => ?_)
    · refine x_astore (pc := 15) (L' := [(0, .ref v0), (1, .int v1), (2, .int v2), (3, .int v3), (4, .ref v4), (5, .ref a5)]) d_W_codeAt_15 (by decide) rfl ?_
      refine x_iconst (pc := 17) d_W_codeAt_17 rfl ?_
      exact h_ireturn (pc := 18) d_W_codeAt_18 rfl h
    · cases h
theorem p_F_start (G : xG K) (v0 : Nat) (v1 : Nat) (v2 : Int32) (v3 : Int32) (M : XM) (h : g_F_start v0 v1 v2 v3 M = some (o, N)) : Ct K y_F_start [.ref v0, .ref v1, .int v2, .int v3] M o N := by
  refine ct_of (by decide) (List.forall_mem_cons.mpr ⟨rfl, List.forall_mem_cons.mpr ⟨rfl, List.forall_mem_cons.mpr ⟨rfl, List.forall_mem_cons.mpr ⟨rfl, fun _ q => absurd q List.not_mem_nil⟩⟩⟩⟩) (Nat.le_of_ble_eq_true rfl) ?_
  show cA K y_F_start 0 [(0, .ref v0), (1, .ref v1), (2, .int v2), (3, .int v3)] [] M o N
  unfold g_F_start at h
  refine x_aload_n (pc := 0) d_F_start_0 rfl 0 rfl ?_
  refine x_aload_n (pc := 1) d_F_start_1 rfl 1 rfl ?_
  refine h_putR G (pc := 2) (ci := 5) (j := 2) d_F_start_2 rfl rfl rfl lf_F_15 (Or.inl rfl) (fun _ => rfl) (fun _ => rfl) h fun M1 h => ?_
  refine x_aload_n (pc := 5) d_F_start_5 rfl 0 rfl ?_
  refine x_iload_n (pc := 6) d_F_start_6 rfl 2 rfl ?_
  refine h_putI G (pc := 7) (ci := 5) (j := 4) d_F_start_7 rfl rfl rfl lf_F_19 h fun M2 h => ?_
  refine x_aload_n (pc := 10) d_F_start_10 rfl 0 rfl ?_
  refine x_iload_n (pc := 11) d_F_start_11 rfl 3 rfl ?_
  refine h_putI G (pc := 12) (ci := 5) (j := 5) d_F_start_12 rfl rfl rfl lf_F_23 h fun M3 h => ?_
  refine x_aload_n (pc := 15) d_F_start_15 rfl 0 rfl ?_
  refine x_iconst (pc := 16) d_F_start_16 rfl ?_
  refine h_putI G (pc := 17) (ci := 5) (j := 1) d_F_start_17 rfl rfl rfl lf_F_26 h fun M4 h => ?_
  refine x_aload_n (pc := 20) d_F_start_20 rfl 0 rfl ?_
  refine x_iconst (pc := 21) d_F_start_21 rfl ?_
  refine h_putI G (pc := 22) (ci := 5) (j := 3) d_F_start_22 rfl rfl rfl lf_F_29 h fun M5 h => ?_
  exact h_return (pc := 25) d_F_start_25 rfl h
theorem p_E_begin (G : xG K) (v0 : Nat) (v1 : Nat) (v2 : Int32) (v3 : Int32) (M : XM) (h : g_E_begin v0 v1 v2 v3 M = some (o, N)) : Ct K y_E_begin [.ref v0, .ref v1, .int v2, .int v3] M o N := by
  refine ct_of (by decide) (List.forall_mem_cons.mpr ⟨rfl, List.forall_mem_cons.mpr ⟨rfl, List.forall_mem_cons.mpr ⟨rfl, List.forall_mem_cons.mpr ⟨rfl, fun _ q => absurd q List.not_mem_nil⟩⟩⟩⟩) (Nat.le_of_ble_eq_true rfl) ?_
  show cA K y_E_begin 0 [(0, .ref v0), (1, .ref v1), (2, .int v2), (3, .int v3)] [] M o N
  unfold g_E_begin at h
  refine x_aload_n (pc := 0) d_E_begin_0 rfl 0 rfl ?_
  refine h_getI G (pc := 1) (ci := 6) (j := 2) d_E_begin_1 rfl rfl rfl lf_E_28 h fun t1 h => ?_
  refine x_bipush (pc := 4) (v := 8) d_E_begin_4 (by decide) ?_
  refine h_icmp_lt (pc := 6) 19 d_E_begin_6 (by decide) h (fun _ h => ?_) (fun _ h => ?_)
  · refine x_aload_n (pc := 19) d_E_begin_19 rfl 0 rfl ?_
    refine h_getR G (pc := 20) (ci := 6) (j := 1) d_E_begin_20 rfl rfl rfl lf_E_17 h fun t2 h => ?_
    refine x_aload_n (pc := 23) d_E_begin_23 rfl 0 rfl ?_
    refine h_getI G (pc := 24) (ci := 6) (j := 2) d_E_begin_24 rfl rfl rfl lf_E_28 h fun t3 h => ?_
    refine h_aaload (pc := 27) (kd := 12) d_E_begin_27 (by decide) rfl rfl h fun t4 h => ?_
    refine x_aload_n (pc := 28) d_E_begin_28 rfl 1 rfl ?_
    refine x_iload_n (pc := 29) d_E_begin_29 rfl 2 rfl ?_
    refine x_iload_n (pc := 30) d_E_begin_30 rfl 3 rfl ?_
    obtain ⟨⟨ra5, ra5t⟩, h⟩ := h_ok h
    refine h_callV G (x_siteV G (pc := 31) (y2 := y_F_start) (As := [.ref v1, .int v2, .int v3]) (S := []) (ci := 5) d_E_begin_31 rfl lm_E_58 mi_F_start ms_F_start mw_F_start.1 mx_F_start.1 mx_F_start.2 rfl ra5 ra5t) mw_F_start ⟨Nat.le_of_ble_eq_true rfl, Nat.le_of_ble_eq_true rfl⟩ rfl (fun _ _ e => p_F_start G _ _ _ _ _ e) h fun M6 h => ?_
    refine x_aload_n (pc := 34) d_E_begin_34 rfl 0 rfl ?_
    refine x_dup (pc := 35) d_E_begin_35 rfl ?_
    refine h_getI G (pc := 36) (ci := 6) (j := 2) d_E_begin_36 rfl rfl rfl lf_E_28 h fun t7 h => ?_
    refine x_iconst (pc := 39) d_E_begin_39 rfl ?_
    refine x_iadd (pc := 40) d_E_begin_40 ?_
    refine h_putI G (pc := 41) (ci := 6) (j := 2) d_E_begin_41 rfl rfl rfl lf_E_28 h fun M8 h => ?_
    exact h_return (pc := 44) d_E_begin_44 rfl h
  · exact h_throw G (pc := 9) (ei := 0) rfl d_E_begin_9 d_E_begin_12 d_E_begin_13 d_E_begin_15 d_E_begin_18 lc_E_49 lm_E_53 ls_E_56 rfl (Nat.le_of_ble_eq_true rfl) (Nat.le_of_ble_eq_true rfl) h
theorem p_F_put (G : xG K) (v0 : Nat) (v1 : Int32) (M : XM) (h : g_F_put v0 v1 M = some (o, N)) : Ct K y_F_put [.ref v0, .int v1] M o N := by
  refine ct_of (by decide) (List.forall_mem_cons.mpr ⟨rfl, List.forall_mem_cons.mpr ⟨rfl, fun _ q => absurd q List.not_mem_nil⟩⟩) (Nat.le_of_ble_eq_true rfl) ?_
  show cA K y_F_put 0 [(0, .ref v0), (1, .int v1)] [] M o N
  unfold g_F_put at h
  refine x_aload_n (pc := 0) d_F_put_0 rfl 0 rfl ?_
  refine h_getI G (pc := 1) (ci := 5) (j := 1) d_F_put_1 rfl rfl rfl lf_F_26 h fun t1 h => ?_
  refine x_bipush (pc := 4) (v := 8) d_F_put_4 (by decide) ?_
  refine h_icmp_lt (pc := 6) 19 d_F_put_6 (by decide) h (fun _ h => ?_) (fun _ h => ?_)
  · refine x_aload_n (pc := 19) d_F_put_19 rfl 0 rfl ?_
    refine h_getR G (pc := 20) (ci := 5) (j := 0) d_F_put_20 rfl rfl rfl lf_F_9 h fun t2 h => ?_
    refine x_aload_n (pc := 23) d_F_put_23 rfl 0 rfl ?_
    refine h_getI G (pc := 24) (ci := 5) (j := 1) d_F_put_24 rfl rfl rfl lf_F_26 h fun t3 h => ?_
    refine x_iload_n (pc := 27) d_F_put_27 rfl 1 rfl ?_
    refine h_iastore G (pc := 28) d_F_put_28 h fun M4 h => ?_
    refine x_aload_n (pc := 29) d_F_put_29 rfl 0 rfl ?_
    refine x_dup (pc := 30) d_F_put_30 rfl ?_
    refine h_getI G (pc := 31) (ci := 5) (j := 1) d_F_put_31 rfl rfl rfl lf_F_26 h fun t5 h => ?_
    refine x_iconst (pc := 34) d_F_put_34 rfl ?_
    refine x_iadd (pc := 35) d_F_put_35 ?_
    refine h_putI G (pc := 36) (ci := 5) (j := 1) d_F_put_36 rfl rfl rfl lf_F_26 h fun M6 h => ?_
    exact h_return (pc := 39) d_F_put_39 rfl h
  · exact h_throw G (pc := 9) (ei := 0) rfl d_F_put_9 d_F_put_12 d_F_put_13 d_F_put_15 d_F_put_18 lc_F_32 lm_F_36 ls_F_34 rfl (Nat.le_of_ble_eq_true rfl) (Nat.le_of_ble_eq_true rfl) h
theorem p_F_take (G : xG K) (v0 : Nat) (M : XM) (h : g_F_take v0 M = some (o, N)) : Ct K y_F_take [.ref v0] M o N := by
  refine ct_of (by decide) (List.forall_mem_cons.mpr ⟨rfl, fun _ q => absurd q List.not_mem_nil⟩) (Nat.le_of_ble_eq_true rfl) ?_
  show cA K y_F_take 0 [(0, .ref v0)] [] M o N
  unfold g_F_take at h
  refine x_aload_n (pc := 0) d_F_take_0 rfl 0 rfl ?_
  refine h_getI G (pc := 1) (ci := 5) (j := 1) d_F_take_1 rfl rfl rfl lf_F_26 h fun t1 h => ?_
  refine h_if_gt (pc := 4) 17 d_F_take_4 (by decide) h (fun _ h => ?_) (fun _ h => ?_)
  · refine x_aload_n (pc := 17) d_F_take_17 rfl 0 rfl ?_
    refine x_dup (pc := 18) d_F_take_18 rfl ?_
    refine h_getI G (pc := 19) (ci := 5) (j := 1) d_F_take_19 rfl rfl rfl lf_F_26 h fun t2 h => ?_
    refine x_iconst (pc := 22) d_F_take_22 rfl ?_
    refine x_isub (pc := 23) d_F_take_23 ?_
    refine h_putI G (pc := 24) (ci := 5) (j := 1) d_F_take_24 rfl rfl rfl lf_F_26 h fun M3 h => ?_
    refine x_aload_n (pc := 27) d_F_take_27 rfl 0 rfl ?_
    refine h_getR G (pc := 28) (ci := 5) (j := 0) d_F_take_28 rfl rfl rfl lf_F_9 h fun t4 h => ?_
    refine x_aload_n (pc := 31) d_F_take_31 rfl 0 rfl ?_
    refine h_getI G (pc := 32) (ci := 5) (j := 1) d_F_take_32 rfl rfl rfl lf_F_26 h fun t5 h => ?_
    refine h_iaload (pc := 35) d_F_take_35 h fun t6 h => ?_
    exact h_ireturn (pc := 36) d_F_take_36 rfl h
  · exact h_throw G (pc := 7) (ei := 0) rfl d_F_take_7 d_F_take_10 d_F_take_11 d_F_take_13 d_F_take_16 lc_F_32 lm_F_36 ls_F_39 rfl (Nat.le_of_ble_eq_true rfl) (Nat.le_of_ble_eq_true rfl) h
theorem p_E_call_33 (G : xG K) (v0 : Nat) (v2 : Nat) (v3 : Int32) (s0 : Int32) (M : XM) (h : g_E_call_33 v0 v2 v3 s0 M = some (o, N)) : cA K y_E_call 33 [(0, .ref v0), (2, .ref v2), (3, .int v3)] [.int s0] M o N := by
  unfold g_E_call_33 at h
  refine x_istore (pc := 33) (L' := [(0, .ref v0), (2, .ref v2), (3, .int v3), (4, .int s0)]) d_E_call_33 (by decide) rfl ?_
  refine x_aload_n (pc := 35) d_E_call_35 rfl 0 rfl ?_
  refine x_aload_n (pc := 36) d_E_call_36 rfl 1 rfl ?_
  refine x_iload (pc := 37) d_E_call_37 3 rfl ?_
  refine x_iload_n (pc := 39) d_E_call_39 rfl 2 rfl ?_
  obtain ⟨⟨ra1, ra1t⟩, h⟩ := h_ok h
  refine h_callV G (x_siteV G (pc := 40) (y2 := y_E_begin) (As := [.ref v2, .int s0, .int v3]) (S := []) (ci := 6) d_E_call_40 rfl lm_E_38 mi_E_begin ms_E_begin mw_E_begin.1 mx_E_begin.1 mx_E_begin.2 rfl ra1 ra1t) mw_E_begin ⟨Nat.le_of_ble_eq_true rfl, Nat.le_of_ble_eq_true rfl⟩ rfl (fun _ _ e => p_E_begin G _ _ _ _ _ e) h fun M2 h => ?_
  exact h_return (pc := 43) d_E_call_43 rfl h
theorem p_E_call_16 (G : xG K) (v0 : Nat) (v1 : Nat) (v2 : Nat) (s0 : Int32) (M : XM) (h : g_E_call_16 v0 v1 v2 s0 M = some (o, N)) : cA K y_E_call 16 [(0, .ref v0), (1, .ref v1), (2, .ref v2)] [.int s0] M o N := by
  unfold g_E_call_16 at h
  refine x_istore_n (pc := 16) (L' := [(0, .ref v0), (1, .ref v1), (2, .ref v2), (3, .int s0)]) d_E_call_16 rfl (by decide) rfl ?_
  refine x_aload_n (pc := 17) d_E_call_17 rfl 2 rfl ?_
  refine h_getI G (pc := 18) (ci := 3) (j := 2) d_E_call_18 rfl rfl rfl lf_E_125 h fun t1 h => ?_
  refine x_iconst (pc := 21) d_E_call_21 rfl ?_
  refine h_icmp_lt (pc := 22) 32 d_E_call_22 (by decide) h (fun _ h => ?_) (fun _ h => ?_)
  · refine x_iconst (pc := 32) d_E_call_32 rfl ?_
    refine x_weak [0, 2, 3] rfl ?_
    exact p_E_call_33 G _ _ _ _ _ h
  · refine x_aload_n (pc := 25) d_E_call_25 rfl 1 rfl ?_
    obtain ⟨⟨ra2, ra2t⟩, h⟩ := h_ok h
    refine h_callI G (x_siteV G (pc := 26) (y2 := y_F_take) (As := []) (S := []) (ci := 5) d_E_call_26 rfl lm_E_117 mi_F_take ms_F_take mw_F_take.1 mx_F_take.1 mx_F_take.2 rfl ra2 ra2t) mw_F_take ⟨Nat.le_of_ble_eq_true rfl, Nat.le_of_ble_eq_true rfl⟩ rfl (fun _ _ e => p_F_take G _ _ e) h fun t4 M3 h => ?_
    refine x_goto (pc := 29) 33 d_E_call_29 (by decide) ?_
    refine x_weak [0, 2, 3] rfl ?_
    exact p_E_call_33 G _ _ _ _ _ h
theorem p_E_call (G : xG K) (v0 : Nat) (v1 : Nat) (v2 : Nat) (M : XM) (h : g_E_call v0 v1 v2 M = some (o, N)) : Ct K y_E_call [.ref v0, .ref v1, .ref v2] M o N := by
  refine ct_of (by decide) (List.forall_mem_cons.mpr ⟨rfl, List.forall_mem_cons.mpr ⟨rfl, List.forall_mem_cons.mpr ⟨rfl, fun _ q => absurd q List.not_mem_nil⟩⟩⟩) (Nat.le_of_ble_eq_true rfl) ?_
  show cA K y_E_call 0 [(0, .ref v0), (1, .ref v1), (2, .ref v2)] [] M o N
  unfold g_E_call at h
  refine x_aload_n (pc := 0) d_E_call_0 rfl 2 rfl ?_
  refine h_getI G (pc := 1) (ci := 3) (j := 2) d_E_call_1 rfl rfl rfl lf_E_125 h fun t1 h => ?_
  refine x_iconst (pc := 4) d_E_call_4 rfl ?_
  refine h_icmp_lt (pc := 5) 15 d_E_call_5 (by decide) h (fun _ h => ?_) (fun _ h => ?_)
  · refine x_iconst (pc := 15) d_E_call_15 rfl ?_
    refine x_weak [0, 1, 2] rfl ?_
    exact p_E_call_16 G _ _ _ _ _ h
  · refine x_aload_n (pc := 8) d_E_call_8 rfl 1 rfl ?_
    obtain ⟨⟨ra2, ra2t⟩, h⟩ := h_ok h
    refine h_callI G (x_siteV G (pc := 9) (y2 := y_F_take) (As := []) (S := []) (ci := 5) d_E_call_9 rfl lm_E_117 mi_F_take ms_F_take mw_F_take.1 mx_F_take.1 mx_F_take.2 rfl ra2 ra2t) mw_F_take ⟨Nat.le_of_ble_eq_true rfl, Nat.le_of_ble_eq_true rfl⟩ rfl (fun _ _ e => p_F_take G _ _ e) h fun t4 M3 h => ?_
    refine x_goto (pc := 12) 16 d_E_call_12 (by decide) ?_
    refine x_weak [0, 1, 2] rfl ?_
    exact p_E_call_16 G _ _ _ _ _ h
theorem p_E_useConstant (G : xG K) (v0 : Nat) (v1 : Nat) (v2 : Nat) (v3 : Int32) (v4 : Int32) (M : XM) (h : g_E_useConstant v0 v1 v2 v3 v4 M = some (o, N)) : Ct K y_E_useConstant [.ref v0, .ref v1, .ref v2, .int v3, .int v4] M o N := by
  refine ct_of (by decide) (List.forall_mem_cons.mpr ⟨rfl, List.forall_mem_cons.mpr ⟨rfl, List.forall_mem_cons.mpr ⟨rfl, List.forall_mem_cons.mpr ⟨rfl, List.forall_mem_cons.mpr ⟨rfl, fun _ q => absurd q List.not_mem_nil⟩⟩⟩⟩⟩) (Nat.le_of_ble_eq_true rfl) ?_
  show cA K y_E_useConstant 0 [(0, .ref v0), (1, .ref v1), (2, .ref v2), (3, .int v3), (4, .int v4)] [] M o N
  unfold g_E_useConstant at h
  refine x_aload_n (pc := 0) d_E_useConstant_0 rfl 2 rfl ?_
  refine h_getR G (pc := 1) (ci := 5) (j := 2) d_E_useConstant_1 rfl rfl rfl lf_E_64 h fun t1 h => ?_
  refine h_getI G (pc := 4) (ci := 3) (j := 0) d_E_useConstant_4 rfl rfl rfl lf_E_97 h fun t2 h => ?_
  refine x_istore (pc := 7) (L' := [(0, .ref v0), (1, .ref v1), (2, .ref v2), (3, .int v3), (4, .int v4), (5, .int t2)]) d_E_useConstant_7 (by decide) rfl ?_
  refine x_iload_n (pc := 9) d_E_useConstant_9 rfl 3 rfl ?_
  refine h_if_ne (pc := 10) 31 d_E_useConstant_10 (by decide) h (fun _ h => ?_) (fun _ h => ?_)
  · refine x_aload_n (pc := 31) d_E_useConstant_31 rfl 1 rfl ?_
    refine x_iload (pc := 32) d_E_useConstant_32 5 rfl ?_
    refine x_iload (pc := 34) d_E_useConstant_34 4 rfl ?_
    obtain ⟨⟨ra3, ra3t⟩, h⟩ := h_ok h
    refine h_callI G (x_siteV G (pc := 36) (y2 := y_P_meant) (As := [.int t2, .int v4]) (S := []) (ci := 1) d_E_useConstant_36 rfl lm_E_113 mi_P_meant ms_P_meant mw_P_meant.1 mx_P_meant.1 mx_P_meant.2 rfl ra3 ra3t) mw_P_meant ⟨Nat.le_of_ble_eq_true rfl, Nat.le_of_ble_eq_true rfl⟩ rfl (fun _ _ e => p_P_meant G _ _ _ _ e) h fun t5 M4 h => ?_
    refine x_istore (pc := 39) (L' := [(0, .ref v0), (1, .ref v1), (2, .ref v2), (3, .int v3), (4, .int v4), (5, .int t2), (6, .int t5)]) d_E_useConstant_39 (by decide) rfl ?_
    refine x_iload_n (pc := 41) d_E_useConstant_41 rfl 3 rfl ?_
    refine x_iconst (pc := 42) d_E_useConstant_42 rfl ?_
    refine h_icmp_ne (pc := 43) 60 d_E_useConstant_43 (by decide) h (fun _ h => ?_) (fun _ h => ?_)
    · refine x_iload_n (pc := 60) d_E_useConstant_60 rfl 3 rfl ?_
      refine x_iconst (pc := 61) d_E_useConstant_61 rfl ?_
      refine h_icmp_ne (pc := 62) 79 d_E_useConstant_62 (by decide) h (fun _ h => ?_) (fun _ h => ?_)
      · refine x_aload_n (pc := 79) d_E_useConstant_79 rfl 0 rfl ?_
        refine x_aload_n (pc := 80) d_E_useConstant_80 rfl 2 rfl ?_
        refine x_aload_n (pc := 81) d_E_useConstant_81 rfl 1 rfl ?_
        refine h_getR G (pc := 82) (ci := 1) (j := 1) d_E_useConstant_82 rfl rfl rfl lf_E_32 h fun t6 h => ?_
        refine x_iload (pc := 85) d_E_useConstant_85 6 rfl ?_
        refine h_aaload (pc := 87) (kd := 11) d_E_useConstant_87 (by decide) rfl rfl h fun t7 h => ?_
        obtain ⟨⟨ra8, ra8t⟩, h⟩ := h_ok h
        refine h_callV G (x_siteV G (pc := 88) (y2 := y_E_call) (As := [.ref v2, .ref t7]) (S := []) (ci := 6) d_E_useConstant_88 rfl lm_E_121 mi_E_call ms_E_call mw_E_call.1 mx_E_call.1 mx_E_call.2 rfl ra8 ra8t) mw_E_call ⟨Nat.le_of_ble_eq_true rfl, Nat.le_of_ble_eq_true rfl⟩ rfl (fun _ _ e => p_E_call G _ _ _ _ e) h fun M9 h => ?_
        exact h_return (pc := 91) d_E_useConstant_91 rfl h
      · refine x_aload_n (pc := 65) d_E_useConstant_65 rfl 0 rfl ?_
        refine h_getR G (pc := 66) (ci := 6) (j := 0) d_E_useConstant_66 rfl rfl rfl lf_E_9 h fun t10 h => ?_
        refine x_iload (pc := 69) d_E_useConstant_69 6 rfl ?_
        refine x_aload_n (pc := 71) d_E_useConstant_71 rfl 2 rfl ?_
        obtain ⟨⟨ra11, ra11t⟩, h⟩ := h_ok h
        refine h_callI G (x_siteV G (pc := 72) (y2 := y_F_take) (As := []) (S := [.int t5, .ref t10]) (ci := 5) d_E_useConstant_72 rfl lm_E_117 mi_F_take ms_F_take mw_F_take.1 mx_F_take.1 mx_F_take.2 rfl ra11 ra11t) mw_F_take ⟨Nat.le_of_ble_eq_true rfl, Nat.le_of_ble_eq_true rfl⟩ rfl (fun _ _ e => p_F_take G _ _ e) h fun t13 M12 h => ?_
        refine h_iastore G (pc := 75) d_E_useConstant_75 h fun M14 h => ?_
        refine x_goto (pc := 76) 91 d_E_useConstant_76 (by decide) ?_
        exact h_return (pc := 91) d_E_useConstant_91 rfl h
    · refine x_aload_n (pc := 46) d_E_useConstant_46 rfl 2 rfl ?_
      refine x_aload_n (pc := 47) d_E_useConstant_47 rfl 0 rfl ?_
      refine h_getR G (pc := 48) (ci := 6) (j := 0) d_E_useConstant_48 rfl rfl rfl lf_E_9 h fun t15 h => ?_
      refine x_iload (pc := 51) d_E_useConstant_51 6 rfl ?_
      refine h_iaload (pc := 53) d_E_useConstant_53 h fun t16 h => ?_
      obtain ⟨⟨ra17, ra17t⟩, h⟩ := h_ok h
      refine h_callV G (x_siteV G (pc := 54) (y2 := y_F_put) (As := [.int t16]) (S := []) (ci := 5) d_E_useConstant_54 rfl lm_E_109 mi_F_put ms_F_put mw_F_put.1 mx_F_put.1 mx_F_put.2 rfl ra17 ra17t) mw_F_put ⟨Nat.le_of_ble_eq_true rfl, Nat.le_of_ble_eq_true rfl⟩ rfl (fun _ _ e => p_F_put G _ _ _ e) h fun M18 h => ?_
      refine x_goto (pc := 57) 91 d_E_useConstant_57 (by decide) ?_
      exact h_return (pc := 91) d_E_useConstant_91 rfl h
  · refine x_aload_n (pc := 13) d_E_useConstant_13 rfl 2 rfl ?_
    refine x_aload_n (pc := 14) d_E_useConstant_14 rfl 1 rfl ?_
    refine h_getR G (pc := 15) (ci := 1) (j := 0) d_E_useConstant_15 rfl rfl rfl lf_E_100 h fun t19 h => ?_
    refine x_iload (pc := 18) d_E_useConstant_18 5 rfl ?_
    refine h_aaload (pc := 20) (kd := 10) d_E_useConstant_20 (by decide) rfl rfl h fun t20 h => ?_
    refine h_getR G (pc := 21) (ci := 2) (j := 1) d_E_useConstant_21 rfl rfl rfl lf_E_104 h fun t21 h => ?_
    refine x_iload (pc := 24) d_E_useConstant_24 4 rfl ?_
    refine h_iaload (pc := 26) d_E_useConstant_26 h fun t22 h => ?_
    obtain ⟨⟨ra23, ra23t⟩, h⟩ := h_ok h
    refine h_callV G (x_siteV G (pc := 27) (y2 := y_F_put) (As := [.int t22]) (S := []) (ci := 5) d_E_useConstant_27 rfl lm_E_109 mi_F_put ms_F_put mw_F_put.1 mx_F_put.1 mx_F_put.2 rfl ra23 ra23t) mw_F_put ⟨Nat.le_of_ble_eq_true rfl, Nat.le_of_ble_eq_true rfl⟩ rfl (fun _ _ e => p_F_put G _ _ _ e) h fun M24 h => ?_
    exact h_return (pc := 30) d_E_useConstant_30 rfl h
theorem p_E_calculate (G : xG K) (v0 : Nat) (v1 : Int32) (M : XM) (h : g_E_calculate v0 v1 M = some (o, N)) : Ct K y_E_calculate [.ref v0, .int v1] M o N := by
  refine ct_of (by decide) (List.forall_mem_cons.mpr ⟨rfl, List.forall_mem_cons.mpr ⟨rfl, fun _ q => absurd q List.not_mem_nil⟩⟩) (Nat.le_of_ble_eq_true rfl) ?_
  show cA K y_E_calculate 0 [(0, .ref v0), (1, .int v1)] [] M o N
  unfold g_E_calculate at h
  refine x_aload_n (pc := 0) d_E_calculate_0 rfl 0 rfl ?_
  obtain ⟨⟨ra1, ra1t⟩, h⟩ := h_ok h
  refine h_callI G (x_siteV G (pc := 1) (y2 := y_F_take) (As := []) (S := []) (ci := 5) d_E_calculate_1 rfl lm_E_117 mi_F_take ms_F_take mw_F_take.1 mx_F_take.1 mx_F_take.2 rfl ra1 ra1t) mw_F_take ⟨Nat.le_of_ble_eq_true rfl, Nat.le_of_ble_eq_true rfl⟩ rfl (fun _ _ e => p_F_take G _ _ e) h fun t3 M2 h => ?_
  refine x_istore_n (pc := 4) (L' := [(0, .ref v0), (1, .int v1), (2, .int t3)]) d_E_calculate_4 rfl (by decide) rfl ?_
  refine x_aload_n (pc := 5) d_E_calculate_5 rfl 0 rfl ?_
  obtain ⟨⟨ra4, ra4t⟩, h⟩ := h_ok h
  refine h_callI G (x_siteV G (pc := 6) (y2 := y_F_take) (As := []) (S := []) (ci := 5) d_E_calculate_6 rfl lm_E_117 mi_F_take ms_F_take mw_F_take.1 mx_F_take.1 mx_F_take.2 rfl ra4 ra4t) mw_F_take ⟨Nat.le_of_ble_eq_true rfl, Nat.le_of_ble_eq_true rfl⟩ rfl (fun _ _ e => p_F_take G _ _ e) h fun t6 M5 h => ?_
  refine x_istore_n (pc := 9) (L' := [(0, .ref v0), (1, .int v1), (2, .int t3), (3, .int t6)]) d_E_calculate_9 rfl (by decide) rfl ?_
  refine x_iload_n (pc := 10) d_E_calculate_10 rfl 1 rfl ?_
  refine x_iconst (pc := 11) d_E_calculate_11 rfl ?_
  refine h_icmp_ne (pc := 12) 25 d_E_calculate_12 (by decide) h (fun _ h => ?_) (fun _ h => ?_)
  · refine x_iload_n (pc := 25) d_E_calculate_25 rfl 1 rfl ?_
    refine x_bipush (pc := 26) (v := 6) d_E_calculate_26 (by decide) ?_
    refine h_icmp_ne (pc := 28) 41 d_E_calculate_28 (by decide) h (fun _ h => ?_) (fun _ h => ?_)
    · refine x_iload_n (pc := 41) d_E_calculate_41 rfl 1 rfl ?_
      refine x_bipush (pc := 42) (v := 7) d_E_calculate_42 (by decide) ?_
      refine h_icmp_ne (pc := 44) 57 d_E_calculate_44 (by decide) h (fun _ h => ?_) (fun _ h => ?_)
      · refine x_iload_n (pc := 57) d_E_calculate_57 rfl 2 rfl ?_
        refine h_if_ne (pc := 58) 71 d_E_calculate_58 (by decide) h (fun _ h => ?_) (fun _ h => ?_)
        · refine x_aload_n (pc := 71) d_E_calculate_71 rfl 0 rfl ?_
          refine x_iload_n (pc := 72) d_E_calculate_72 rfl 3 rfl ?_
          refine x_iload_n (pc := 73) d_E_calculate_73 rfl 2 rfl ?_
          refine h_idiv (pc := 74) d_E_calculate_74 h fun h => ?_
          obtain ⟨⟨ra7, ra7t⟩, h⟩ := h_ok h
          refine h_callV G (x_siteV G (pc := 75) (y2 := y_F_put) (As := [.int (t6 / t3)]) (S := []) (ci := 5) d_E_calculate_75 rfl lm_E_109 mi_F_put ms_F_put mw_F_put.1 mx_F_put.1 mx_F_put.2 rfl ra7 ra7t) mw_F_put ⟨Nat.le_of_ble_eq_true rfl, Nat.le_of_ble_eq_true rfl⟩ rfl (fun _ _ e => p_F_put G _ _ _ e) h fun M8 h => ?_
          exact h_return (pc := 78) d_E_calculate_78 rfl h
        · exact h_throw G (pc := 61) (ei := 3) rfl d_E_calculate_61 d_E_calculate_64 d_E_calculate_65 d_E_calculate_67 d_E_calculate_70 lc_E_128 lm_E_132 ls_E_130 rfl (Nat.le_of_ble_eq_true rfl) (Nat.le_of_ble_eq_true rfl) h
      · refine x_aload_n (pc := 47) d_E_calculate_47 rfl 0 rfl ?_
        refine x_iload_n (pc := 48) d_E_calculate_48 rfl 3 rfl ?_
        refine x_iload_n (pc := 49) d_E_calculate_49 rfl 2 rfl ?_
        refine x_imul (pc := 50) d_E_calculate_50 ?_
        obtain ⟨⟨ra9, ra9t⟩, h⟩ := h_ok h
        refine h_callV G (x_siteV G (pc := 51) (y2 := y_F_put) (As := [.int (t6 * t3)]) (S := []) (ci := 5) d_E_calculate_51 rfl lm_E_109 mi_F_put ms_F_put mw_F_put.1 mx_F_put.1 mx_F_put.2 rfl ra9 ra9t) mw_F_put ⟨Nat.le_of_ble_eq_true rfl, Nat.le_of_ble_eq_true rfl⟩ rfl (fun _ _ e => p_F_put G _ _ _ e) h fun M10 h => ?_
        refine x_goto (pc := 54) 78 d_E_calculate_54 (by decide) ?_
        exact h_return (pc := 78) d_E_calculate_78 rfl h
    · refine x_aload_n (pc := 31) d_E_calculate_31 rfl 0 rfl ?_
      refine x_iload_n (pc := 32) d_E_calculate_32 rfl 3 rfl ?_
      refine x_iload_n (pc := 33) d_E_calculate_33 rfl 2 rfl ?_
      refine x_isub (pc := 34) d_E_calculate_34 ?_
      obtain ⟨⟨ra11, ra11t⟩, h⟩ := h_ok h
      refine h_callV G (x_siteV G (pc := 35) (y2 := y_F_put) (As := [.int (t6 - t3)]) (S := []) (ci := 5) d_E_calculate_35 rfl lm_E_109 mi_F_put ms_F_put mw_F_put.1 mx_F_put.1 mx_F_put.2 rfl ra11 ra11t) mw_F_put ⟨Nat.le_of_ble_eq_true rfl, Nat.le_of_ble_eq_true rfl⟩ rfl (fun _ _ e => p_F_put G _ _ _ e) h fun M12 h => ?_
      refine x_goto (pc := 38) 78 d_E_calculate_38 (by decide) ?_
      exact h_return (pc := 78) d_E_calculate_78 rfl h
  · refine x_aload_n (pc := 15) d_E_calculate_15 rfl 0 rfl ?_
    refine x_iload_n (pc := 16) d_E_calculate_16 rfl 3 rfl ?_
    refine x_iload_n (pc := 17) d_E_calculate_17 rfl 2 rfl ?_
    refine x_iadd (pc := 18) d_E_calculate_18 ?_
    obtain ⟨⟨ra13, ra13t⟩, h⟩ := h_ok h
    refine h_callV G (x_siteV G (pc := 19) (y2 := y_F_put) (As := [.int (t6 + t3)]) (S := []) (ci := 5) d_E_calculate_19 rfl lm_E_109 mi_F_put ms_F_put mw_F_put.1 mx_F_put.1 mx_F_put.2 rfl ra13 ra13t) mw_F_put ⟨Nat.le_of_ble_eq_true rfl, Nat.le_of_ble_eq_true rfl⟩ rfl (fun _ _ e => p_F_put G _ _ _ e) h fun M14 h => ?_
    refine x_goto (pc := 22) 78 d_E_calculate_22 (by decide) ?_
    exact h_return (pc := 78) d_E_calculate_78 rfl h
theorem p_E_end (G : xG K) (v0 : Nat) (v1 : Int32) (M : XM) (h : g_E_end v0 v1 M = some (o, N)) : Ct K y_E_end [.ref v0, .int v1] M o N := by
  refine ct_of (by decide) (List.forall_mem_cons.mpr ⟨rfl, List.forall_mem_cons.mpr ⟨rfl, fun _ q => absurd q List.not_mem_nil⟩⟩) (Nat.le_of_ble_eq_true rfl) ?_
  show cA K y_E_end 0 [(0, .ref v0), (1, .int v1)] [] M o N
  unfold g_E_end at h
  refine x_aload_n (pc := 0) d_E_end_0 rfl 0 rfl ?_
  refine x_dup (pc := 1) d_E_end_1 rfl ?_
  refine h_getI G (pc := 2) (ci := 6) (j := 2) d_E_end_2 rfl rfl rfl lf_E_28 h fun t1 h => ?_
  refine x_iconst (pc := 5) d_E_end_5 rfl ?_
  refine x_isub (pc := 6) d_E_end_6 ?_
  refine h_putI G (pc := 7) (ci := 6) (j := 2) d_E_end_7 rfl rfl rfl lf_E_28 h fun M2 h => ?_
  refine x_aload_n (pc := 10) d_E_end_10 rfl 0 rfl ?_
  refine h_getI G (pc := 11) (ci := 6) (j := 2) d_E_end_11 rfl rfl rfl lf_E_28 h fun t3 h => ?_
  refine h_if_ne (pc := 14) 25 d_E_end_14 (by decide) h (fun _ h => ?_) (fun _ h => ?_)
  · refine x_aload_n (pc := 25) d_E_end_25 rfl 0 rfl ?_
    refine h_getR G (pc := 26) (ci := 6) (j := 1) d_E_end_26 rfl rfl rfl lf_E_17 h fun t4 h => ?_
    refine x_aload_n (pc := 29) d_E_end_29 rfl 0 rfl ?_
    refine h_getI G (pc := 30) (ci := 6) (j := 2) d_E_end_30 rfl rfl rfl lf_E_28 h fun t5 h => ?_
    refine x_iconst (pc := 33) d_E_end_33 rfl ?_
    refine x_isub (pc := 34) d_E_end_34 ?_
    refine h_aaload (pc := 35) (kd := 12) d_E_end_35 (by decide) rfl rfl h fun t6 h => ?_
    refine x_iload_n (pc := 36) d_E_end_36 rfl 1 rfl ?_
    obtain ⟨⟨ra7, ra7t⟩, h⟩ := h_ok h
    refine h_callV G (x_siteV G (pc := 37) (y2 := y_F_put) (As := [.int v1]) (S := []) (ci := 5) d_E_end_37 rfl lm_E_109 mi_F_put ms_F_put mw_F_put.1 mx_F_put.1 mx_F_put.2 rfl ra7 ra7t) mw_F_put ⟨Nat.le_of_ble_eq_true rfl, Nat.le_of_ble_eq_true rfl⟩ rfl (fun _ _ e => p_F_put G _ _ _ e) h fun M8 h => ?_
    exact h_return (pc := 40) d_E_end_40 rfl h
  · refine x_aload_n (pc := 17) d_E_end_17 rfl 0 rfl ?_
    refine x_iload_n (pc := 18) d_E_end_18 rfl 1 rfl ?_
    refine h_putI G (pc := 19) (ci := 6) (j := 3) d_E_end_19 rfl rfl rfl lf_E_46 h fun M9 h => ?_
    refine x_goto (pc := 22) 40 d_E_end_22 (by decide) ?_
    exact h_return (pc := 40) d_E_end_40 rfl h
theorem p_E_steer (G : xG K) (v0 : Nat) (v1 : Nat) (v2 : Int32) (v3 : Int32) (M : XM) (h : g_E_steer v0 v1 v2 v3 M = some (o, N)) : Ct K y_E_steer [.ref v0, .ref v1, .int v2, .int v3] M o N := by
  refine ct_of (by decide) (List.forall_mem_cons.mpr ⟨rfl, List.forall_mem_cons.mpr ⟨rfl, List.forall_mem_cons.mpr ⟨rfl, List.forall_mem_cons.mpr ⟨rfl, fun _ q => absurd q List.not_mem_nil⟩⟩⟩⟩) (Nat.le_of_ble_eq_true rfl) ?_
  show cA K y_E_steer 0 [(0, .ref v0), (1, .ref v1), (2, .int v2), (3, .int v3)] [] M o N
  unfold g_E_steer at h
  refine x_iload_n (pc := 0) d_E_steer_0 rfl 2 rfl ?_
  refine h_case h (fun c0 h => ?_) (fun c0 h => ?_)
  · refine x_tableIn (pc := 1) 48 d_E_steer_1 (by rw [c0]; decide) (by rw [c0]; decide) (off := 47) (by rw [c0]; rfl) (by decide) ?_
    refine x_aload_n (pc := 48) d_E_steer_48 rfl 1 rfl ?_
    refine x_iload_n (pc := 49) d_E_steer_49 rfl 3 rfl ?_
    refine h_if_ne (pc := 50) 60 d_E_steer_50 (by decide) h (fun _ h => ?_) (fun _ h => ?_)
    · refine x_aload_n (pc := 60) d_E_steer_60 rfl 1 rfl ?_
      refine h_getI G (pc := 61) (ci := 5) (j := 5) d_E_steer_61 rfl rfl rfl lf_E_136 h fun t26 h => ?_
      obtain ⟨⟨ra27, ra27t⟩, h⟩ := h_ok h
      refine h_callV G (x_siteV G (pc := 64) (y2 := y_F_put) (As := [.int t26]) (S := []) (ci := 5) d_E_steer_64 rfl lm_E_109 mi_F_put ms_F_put mw_F_put.1 mx_F_put.1 mx_F_put.2 rfl ra27 ra27t) mw_F_put ⟨Nat.le_of_ble_eq_true rfl, Nat.le_of_ble_eq_true rfl⟩ rfl (fun _ _ e => p_F_put G _ _ _ e) h fun M28 h => ?_
      refine x_goto (pc := 67) 119 d_E_steer_67 (by decide) ?_
      exact h_return (pc := 119) d_E_steer_119 rfl h
    · refine x_aload_n (pc := 53) d_E_steer_53 rfl 1 rfl ?_
      refine h_getI G (pc := 54) (ci := 5) (j := 4) d_E_steer_54 rfl rfl rfl lf_E_133 h fun t29 h => ?_
      refine x_goto (pc := 57) 64 d_E_steer_57 (by decide) ?_
      obtain ⟨⟨ra30, ra30t⟩, h⟩ := h_ok h
      refine h_callV G (x_siteV G (pc := 64) (y2 := y_F_put) (As := [.int t29]) (S := []) (ci := 5) d_E_steer_64 rfl lm_E_109 mi_F_put ms_F_put mw_F_put.1 mx_F_put.1 mx_F_put.2 rfl ra30 ra30t) mw_F_put ⟨Nat.le_of_ble_eq_true rfl, Nat.le_of_ble_eq_true rfl⟩ rfl (fun _ _ e => p_F_put G _ _ _ e) h fun M31 h => ?_
      refine x_goto (pc := 67) 119 d_E_steer_67 (by decide) ?_
      exact h_return (pc := 119) d_E_steer_119 rfl h
  · refine h_case h (fun c1 h => ?_) (fun c1 h => ?_)
    · refine x_tableIn (pc := 1) 104 d_E_steer_1 (by rw [c1]; decide) (by rw [c1]; decide) (off := 103) (by rw [c1]; rfl) (by decide) ?_
      refine x_aload_n (pc := 104) d_E_steer_104 rfl 1 rfl ?_
      obtain ⟨⟨ra23, ra23t⟩, h⟩ := h_ok h
      refine h_callI G (x_siteV G (pc := 105) (y2 := y_F_take) (As := []) (S := []) (ci := 5) d_E_steer_105 rfl lm_E_117 mi_F_take ms_F_take mw_F_take.1 mx_F_take.1 mx_F_take.2 rfl ra23 ra23t) mw_F_take ⟨Nat.le_of_ble_eq_true rfl, Nat.le_of_ble_eq_true rfl⟩ rfl (fun _ _ e => p_F_take G _ _ e) h fun t25 M24 h => ?_
      refine x_pop (pc := 108) d_E_steer_108 rfl ?_
      exact h_throw G (pc := 109) (ei := 4) rfl d_E_steer_109 d_E_steer_112 d_E_steer_113 d_E_steer_115 d_E_steer_118 lc_E_142 lm_E_146 ls_E_144 rfl (Nat.le_of_ble_eq_true rfl) (Nat.le_of_ble_eq_true rfl) h
    · refine h_case h (fun c2 h => ?_) (fun c2 h => ?_)
      · refine x_tableIn (pc := 1) 104 d_E_steer_1 (by rw [c2]; decide) (by rw [c2]; decide) (off := 103) (by rw [c2]; rfl) (by decide) ?_
        refine x_aload_n (pc := 104) d_E_steer_104 rfl 1 rfl ?_
        obtain ⟨⟨ra20, ra20t⟩, h⟩ := h_ok h
        refine h_callI G (x_siteV G (pc := 105) (y2 := y_F_take) (As := []) (S := []) (ci := 5) d_E_steer_105 rfl lm_E_117 mi_F_take ms_F_take mw_F_take.1 mx_F_take.1 mx_F_take.2 rfl ra20 ra20t) mw_F_take ⟨Nat.le_of_ble_eq_true rfl, Nat.le_of_ble_eq_true rfl⟩ rfl (fun _ _ e => p_F_take G _ _ e) h fun t22 M21 h => ?_
        refine x_pop (pc := 108) d_E_steer_108 rfl ?_
        exact h_throw G (pc := 109) (ei := 4) rfl d_E_steer_109 d_E_steer_112 d_E_steer_113 d_E_steer_115 d_E_steer_118 lc_E_142 lm_E_146 ls_E_144 rfl (Nat.le_of_ble_eq_true rfl) (Nat.le_of_ble_eq_true rfl) h
      · refine h_case h (fun c3 h => ?_) (fun c3 h => ?_)
        · refine x_tableIn (pc := 1) 104 d_E_steer_1 (by rw [c3]; decide) (by rw [c3]; decide) (off := 103) (by rw [c3]; rfl) (by decide) ?_
          refine x_aload_n (pc := 104) d_E_steer_104 rfl 1 rfl ?_
          obtain ⟨⟨ra17, ra17t⟩, h⟩ := h_ok h
          refine h_callI G (x_siteV G (pc := 105) (y2 := y_F_take) (As := []) (S := []) (ci := 5) d_E_steer_105 rfl lm_E_117 mi_F_take ms_F_take mw_F_take.1 mx_F_take.1 mx_F_take.2 rfl ra17 ra17t) mw_F_take ⟨Nat.le_of_ble_eq_true rfl, Nat.le_of_ble_eq_true rfl⟩ rfl (fun _ _ e => p_F_take G _ _ e) h fun t19 M18 h => ?_
          refine x_pop (pc := 108) d_E_steer_108 rfl ?_
          exact h_throw G (pc := 109) (ei := 4) rfl d_E_steer_109 d_E_steer_112 d_E_steer_113 d_E_steer_115 d_E_steer_118 lc_E_142 lm_E_146 ls_E_144 rfl (Nat.le_of_ble_eq_true rfl) (Nat.le_of_ble_eq_true rfl) h
        · refine h_case h (fun c4 h => ?_) (fun c4 h => ?_)
          · refine x_tableIn (pc := 1) 104 d_E_steer_1 (by rw [c4]; decide) (by rw [c4]; decide) (off := 103) (by rw [c4]; rfl) (by decide) ?_
            refine x_aload_n (pc := 104) d_E_steer_104 rfl 1 rfl ?_
            obtain ⟨⟨ra14, ra14t⟩, h⟩ := h_ok h
            refine h_callI G (x_siteV G (pc := 105) (y2 := y_F_take) (As := []) (S := []) (ci := 5) d_E_steer_105 rfl lm_E_117 mi_F_take ms_F_take mw_F_take.1 mx_F_take.1 mx_F_take.2 rfl ra14 ra14t) mw_F_take ⟨Nat.le_of_ble_eq_true rfl, Nat.le_of_ble_eq_true rfl⟩ rfl (fun _ _ e => p_F_take G _ _ e) h fun t16 M15 h => ?_
            refine x_pop (pc := 108) d_E_steer_108 rfl ?_
            exact h_throw G (pc := 109) (ei := 4) rfl d_E_steer_109 d_E_steer_112 d_E_steer_113 d_E_steer_115 d_E_steer_118 lc_E_142 lm_E_146 ls_E_144 rfl (Nat.le_of_ble_eq_true rfl) (Nat.le_of_ble_eq_true rfl) h
          · refine h_case h (fun c5 h => ?_) (fun c5 h => ?_)
            · refine x_tableIn (pc := 1) 70 d_E_steer_1 (by rw [c5]; decide) (by rw [c5]; decide) (off := 69) (by rw [c5]; rfl) (by decide) ?_
              refine x_aload_n (pc := 70) d_E_steer_70 rfl 1 rfl ?_
              obtain ⟨⟨ra10, ra10t⟩, h⟩ := h_ok h
              refine h_callI G (x_siteV G (pc := 71) (y2 := y_F_take) (As := []) (S := []) (ci := 5) d_E_steer_71 rfl lm_E_117 mi_F_take ms_F_take mw_F_take.1 mx_F_take.1 mx_F_take.2 rfl ra10 ra10t) mw_F_take ⟨Nat.le_of_ble_eq_true rfl, Nat.le_of_ble_eq_true rfl⟩ rfl (fun _ _ e => p_F_take G _ _ e) h fun t12 M11 h => ?_
              refine h_if_ne (pc := 74) 119 d_E_steer_74 (by decide) h (fun _ h => ?_) (fun _ h => ?_)
              · exact h_return (pc := 119) d_E_steer_119 rfl h
              · refine x_aload_n (pc := 77) d_E_steer_77 rfl 1 rfl ?_
                refine x_iload_n (pc := 78) d_E_steer_78 rfl 3 rfl ?_
                refine h_putI G (pc := 79) (ci := 5) (j := 3) d_E_steer_79 rfl rfl rfl lf_E_61 h fun M13 h => ?_
                refine x_goto (pc := 82) 119 d_E_steer_82 (by decide) ?_
                exact h_return (pc := 119) d_E_steer_119 rfl h
            · refine h_case h (fun c6 h => ?_) (fun c6 h => ?_)
              · refine x_tableIn (pc := 1) 85 d_E_steer_1 (by rw [c6]; decide) (by rw [c6]; decide) (off := 84) (by rw [c6]; rfl) (by decide) ?_
                refine x_aload_n (pc := 85) d_E_steer_85 rfl 1 rfl ?_
                refine x_iload_n (pc := 86) d_E_steer_86 rfl 3 rfl ?_
                refine h_putI G (pc := 87) (ci := 5) (j := 3) d_E_steer_87 rfl rfl rfl lf_E_61 h fun M9 h => ?_
                refine x_goto (pc := 90) 119 d_E_steer_90 (by decide) ?_
                exact h_return (pc := 119) d_E_steer_119 rfl h
              · refine h_case h (fun c7 h => ?_) (fun c7 h => ?_)
                · refine x_tableIn (pc := 1) 93 d_E_steer_1 (by rw [c7]; decide) (by rw [c7]; decide) (off := 92) (by rw [c7]; rfl) (by decide) ?_
                  refine x_aload_n (pc := 93) d_E_steer_93 rfl 0 rfl ?_
                  refine x_aload_n (pc := 94) d_E_steer_94 rfl 1 rfl ?_
                  obtain ⟨⟨ra4, ra4t⟩, h⟩ := h_ok h
                  refine h_callI G (x_siteV G (pc := 95) (y2 := y_F_take) (As := []) (S := [.ref v0]) (ci := 5) d_E_steer_95 rfl lm_E_117 mi_F_take ms_F_take mw_F_take.1 mx_F_take.1 mx_F_take.2 rfl ra4 ra4t) mw_F_take ⟨Nat.le_of_ble_eq_true rfl, Nat.le_of_ble_eq_true rfl⟩ rfl (fun _ _ e => p_F_take G _ _ e) h fun t6 M5 h => ?_
                  obtain ⟨⟨ra7, ra7t⟩, h⟩ := h_ok h
                  refine h_callV G (x_siteV G (pc := 98) (y2 := y_E_end) (As := [.int t6]) (S := []) (ci := 6) d_E_steer_98 rfl lm_E_139 mi_E_end ms_E_end mw_E_end.1 mx_E_end.1 mx_E_end.2 rfl ra7 ra7t) mw_E_end ⟨Nat.le_of_ble_eq_true rfl, Nat.le_of_ble_eq_true rfl⟩ rfl (fun _ _ e => p_E_end G _ _ _ e) h fun M8 h => ?_
                  refine x_goto (pc := 101) 119 d_E_steer_101 (by decide) ?_
                  exact h_return (pc := 119) d_E_steer_119 rfl h
                · refine x_tableOut (pc := 1) 104 d_E_steer_1 (by have q0 := lv_neT (a := 4) c0 (by decide); have q1 := lv_neT (a := 5) c1 (by decide); have q2 := lv_neT (a := 6) c2 (by decide); have q3 := lv_neT (a := 7) c3 (by decide); have q4 := lv_neT (a := 8) c4 (by decide); have q5 := lv_neT (a := 9) c5 (by decide); have q6 := lv_neT (a := 10) c6 (by decide); have q7 := lv_neT (a := 11) c7 (by decide); omega) (by decide) ?_
                  refine x_aload_n (pc := 104) d_E_steer_104 rfl 1 rfl ?_
                  obtain ⟨⟨ra1, ra1t⟩, h⟩ := h_ok h
                  refine h_callI G (x_siteV G (pc := 105) (y2 := y_F_take) (As := []) (S := []) (ci := 5) d_E_steer_105 rfl lm_E_117 mi_F_take ms_F_take mw_F_take.1 mx_F_take.1 mx_F_take.2 rfl ra1 ra1t) mw_F_take ⟨Nat.le_of_ble_eq_true rfl, Nat.le_of_ble_eq_true rfl⟩ rfl (fun _ _ e => p_F_take G _ _ e) h fun t3 M2 h => ?_
                  refine x_pop (pc := 108) d_E_steer_108 rfl ?_
                  exact h_throw G (pc := 109) (ei := 4) rfl d_E_steer_109 d_E_steer_112 d_E_steer_113 d_E_steer_115 d_E_steer_118 lc_E_142 lm_E_146 ls_E_144 rfl (Nat.le_of_ble_eq_true rfl) (Nat.le_of_ble_eq_true rfl) h
theorem p_E_step (G : xG K) (v0 : Nat) (v1 : Nat) (v2 : Nat) (M : XM) (h : g_E_step v0 v1 v2 M = some (o, N)) : Ct K y_E_step [.ref v0, .ref v1, .ref v2] M o N := by
  refine ct_of (by decide) (List.forall_mem_cons.mpr ⟨rfl, List.forall_mem_cons.mpr ⟨rfl, List.forall_mem_cons.mpr ⟨rfl, fun _ q => absurd q List.not_mem_nil⟩⟩⟩) (Nat.le_of_ble_eq_true rfl) ?_
  show cA K y_E_step 0 [(0, .ref v0), (1, .ref v1), (2, .ref v2)] [] M o N
  unfold g_E_step at h
  refine x_aload_n (pc := 0) d_E_step_0 rfl 2 rfl ?_
  refine h_getI G (pc := 1) (ci := 5) (j := 3) d_E_step_1 rfl rfl rfl lf_E_61 h fun t1 h => ?_
  refine x_aload_n (pc := 4) d_E_step_4 rfl 2 rfl ?_
  refine h_getR G (pc := 5) (ci := 5) (j := 2) d_E_step_5 rfl rfl rfl lf_E_64 h fun t2 h => ?_
  refine h_getI G (pc := 8) (ci := 3) (j := 4) d_E_step_8 rfl rfl rfl lf_E_68 h fun t3 h => ?_
  refine h_icmp_lt (pc := 11) 24 d_E_step_11 (by decide) h (fun _ h => ?_) (fun _ h => ?_)
  · refine x_aload_n (pc := 24) d_E_step_24 rfl 2 rfl ?_
    refine h_getR G (pc := 25) (ci := 5) (j := 2) d_E_step_25 rfl rfl rfl lf_E_64 h fun t4 h => ?_
    refine h_getR G (pc := 28) (ci := 3) (j := 5) d_E_step_28 rfl rfl rfl lf_E_75 h fun t5 h => ?_
    refine x_aload_n (pc := 31) d_E_step_31 rfl 2 rfl ?_
    refine h_getI G (pc := 32) (ci := 5) (j := 3) d_E_step_32 rfl rfl rfl lf_E_61 h fun t6 h => ?_
    refine h_iaload (pc := 35) d_E_step_35 h fun t7 h => ?_
    refine x_istore_n (pc := 36) (L' := [(0, .ref v0), (1, .ref v1), (2, .ref v2), (3, .int t7)]) d_E_step_36 rfl (by decide) rfl ?_
    refine x_aload_n (pc := 37) d_E_step_37 rfl 2 rfl ?_
    refine h_getR G (pc := 38) (ci := 5) (j := 2) d_E_step_38 rfl rfl rfl lf_E_64 h fun t8 h => ?_
    refine h_getR G (pc := 41) (ci := 3) (j := 6) d_E_step_41 rfl rfl rfl lf_E_78 h fun t9 h => ?_
    refine x_aload_n (pc := 44) d_E_step_44 rfl 2 rfl ?_
    refine h_getI G (pc := 45) (ci := 5) (j := 3) d_E_step_45 rfl rfl rfl lf_E_61 h fun t10 h => ?_
    refine h_iaload (pc := 48) d_E_step_48 h fun t11 h => ?_
    refine x_istore (pc := 49) (L' := [(0, .ref v0), (1, .ref v1), (2, .ref v2), (3, .int t7), (4, .int t11)]) d_E_step_49 (by decide) rfl ?_
    refine x_aload_n (pc := 51) d_E_step_51 rfl 2 rfl ?_
    refine x_dup (pc := 52) d_E_step_52 rfl ?_
    refine h_getI G (pc := 53) (ci := 5) (j := 3) d_E_step_53 rfl rfl rfl lf_E_61 h fun t12 h => ?_
    refine x_iconst (pc := 56) d_E_step_56 rfl ?_
    refine x_iadd (pc := 57) d_E_step_57 ?_
    refine h_putI G (pc := 58) (ci := 5) (j := 3) d_E_step_58 rfl rfl rfl lf_E_61 h fun M13 h => ?_
    refine x_iload_n (pc := 61) d_E_step_61 rfl 3 rfl ?_
    refine h_callI G (x_siteSN G (pc := 62) (y2 := y_S_usesConstant) (As := [.int t7]) (S := []) d_E_step_62 lm_E_81 mi_S_usesConstant mw_S_usesConstant.2 mw_S_usesConstant.1 mx_S_usesConstant.1 mx_S_usesConstant.2 rfl) mw_S_usesConstant ⟨Nat.le_of_ble_eq_true rfl, Nat.le_of_ble_eq_true rfl⟩ rfl (fun _ _ e => p_S_usesConstant G _ _ e) h fun t15 M14 h => ?_
    refine h_if_eq (pc := 65) 80 d_E_step_65 (by decide) h (fun _ h => ?_) (fun _ h => ?_)
    · refine x_iload_n (pc := 80) d_E_step_80 rfl 3 rfl ?_
      refine x_iconst (pc := 81) d_E_step_81 rfl ?_
      refine h_icmp_lt (pc := 82) 99 d_E_step_82 (by decide) h (fun _ h => ?_) (fun _ h => ?_)
      · refine x_aload_n (pc := 99) d_E_step_99 rfl 0 rfl ?_
        refine x_aload_n (pc := 100) d_E_step_100 rfl 2 rfl ?_
        refine x_iload_n (pc := 101) d_E_step_101 rfl 3 rfl ?_
        refine x_iload (pc := 102) d_E_step_102 4 rfl ?_
        obtain ⟨⟨ra16, ra16t⟩, h⟩ := h_ok h
        refine h_callV G (x_siteV G (pc := 104) (y2 := y_E_steer) (As := [.ref v2, .int t7, .int t11]) (S := []) (ci := 6) d_E_step_104 rfl lm_E_93 mi_E_steer ms_E_steer mw_E_steer.1 mx_E_steer.1 mx_E_steer.2 rfl ra16 ra16t) mw_E_steer ⟨Nat.le_of_ble_eq_true rfl, Nat.le_of_ble_eq_true rfl⟩ rfl (fun _ _ e => p_E_steer G _ _ _ _ _ e) h fun M17 h => ?_
        exact h_return (pc := 107) d_E_step_107 rfl h
      · refine x_iload_n (pc := 85) d_E_step_85 rfl 3 rfl ?_
        refine x_bipush (pc := 86) (v := 8) d_E_step_86 (by decide) ?_
        refine h_icmp_gt (pc := 88) 99 d_E_step_88 (by decide) h (fun _ h => ?_) (fun _ h => ?_)
        · refine x_aload_n (pc := 99) d_E_step_99 rfl 0 rfl ?_
          refine x_aload_n (pc := 100) d_E_step_100 rfl 2 rfl ?_
          refine x_iload_n (pc := 101) d_E_step_101 rfl 3 rfl ?_
          refine x_iload (pc := 102) d_E_step_102 4 rfl ?_
          obtain ⟨⟨ra18, ra18t⟩, h⟩ := h_ok h
          refine h_callV G (x_siteV G (pc := 104) (y2 := y_E_steer) (As := [.ref v2, .int t7, .int t11]) (S := []) (ci := 6) d_E_step_104 rfl lm_E_93 mi_E_steer ms_E_steer mw_E_steer.1 mx_E_steer.1 mx_E_steer.2 rfl ra18 ra18t) mw_E_steer ⟨Nat.le_of_ble_eq_true rfl, Nat.le_of_ble_eq_true rfl⟩ rfl (fun _ _ e => p_E_steer G _ _ _ _ _ e) h fun M19 h => ?_
          exact h_return (pc := 107) d_E_step_107 rfl h
        · refine x_aload_n (pc := 91) d_E_step_91 rfl 2 rfl ?_
          refine x_iload_n (pc := 92) d_E_step_92 rfl 3 rfl ?_
          refine h_callV G (x_siteS G (pc := 93) (y2 := y_E_calculate) (As := [.ref v2, .int t7]) (S := []) d_E_step_93 lm_E_89 mi_E_calculate mw_E_calculate.2 mw_E_calculate.1 mx_E_calculate.1 mx_E_calculate.2 rfl) mw_E_calculate ⟨Nat.le_of_ble_eq_true rfl, Nat.le_of_ble_eq_true rfl⟩ rfl (fun _ _ e => p_E_calculate G _ _ _ e) h fun M20 h => ?_
          refine x_goto (pc := 96) 107 d_E_step_96 (by decide) ?_
          exact h_return (pc := 107) d_E_step_107 rfl h
    · refine x_aload_n (pc := 68) d_E_step_68 rfl 0 rfl ?_
      refine x_aload_n (pc := 69) d_E_step_69 rfl 1 rfl ?_
      refine x_aload_n (pc := 70) d_E_step_70 rfl 2 rfl ?_
      refine x_iload_n (pc := 71) d_E_step_71 rfl 3 rfl ?_
      refine x_iload (pc := 72) d_E_step_72 4 rfl ?_
      obtain ⟨⟨ra21, ra21t⟩, h⟩ := h_ok h
      refine h_callV G (x_siteV G (pc := 74) (y2 := y_E_useConstant) (As := [.ref v1, .ref v2, .int t7, .int t11]) (S := []) (ci := 6) d_E_step_74 rfl lm_E_85 mi_E_useConstant ms_E_useConstant mw_E_useConstant.1 mx_E_useConstant.1 mx_E_useConstant.2 rfl ra21 ra21t) mw_E_useConstant ⟨Nat.le_of_ble_eq_true rfl, Nat.le_of_ble_eq_true rfl⟩ rfl (fun _ _ e => p_E_useConstant G _ _ _ _ _ _ e) h fun M22 h => ?_
      refine x_goto (pc := 77) 107 d_E_step_77 (by decide) ?_
      exact h_return (pc := 107) d_E_step_107 rfl h
  · exact h_throw G (pc := 14) (ei := 0) rfl d_E_step_14 d_E_step_17 d_E_step_18 d_E_step_20 d_E_step_23 lc_E_49 lm_E_53 ls_E_73 rfl (Nat.le_of_ble_eq_true rfl) (Nat.le_of_ble_eq_true rfl) h
theorem p_E_execute_29 (G : xG K) : ∀ (n : Nat) (v0 : Nat) (v1 : Nat) (v5 : Int32) (M : XM), g_E_execute_29 n v0 v1 v5 M = some (o, N) → cA K y_E_execute 29 [(0, .ref v0), (1, .ref v1), (5, .int v5)] [] M o N := by
  intro n
  induction n with
  | zero =>
    intro v0 v1 v5 M h
    rw [g_E_execute_29] at h
    cases h
  | succ n ih =>
    intro v0 v1 v5 M h
    rw [g_E_execute_29] at h
    refine x_iload (pc := 29) d_E_execute_29 2 rfl ?_
    refine x_sipush (pc := 31) (v := 400) d_E_execute_31 (by decide) ?_
    refine h_icmp_ge (pc := 34) 71 d_E_execute_34 (by decide) h (fun _ h => ?_) (fun _ h => ?_)
    · exact h_throw G (pc := 71) (ei := 0) rfl d_E_execute_71 d_E_execute_74 d_E_execute_75 d_E_execute_77 d_E_execute_80 lc_E_49 lm_E_53 ls_E_51 rfl (Nat.le_of_ble_eq_true rfl) (Nat.le_of_ble_eq_true rfl) h
    · refine x_aload_n (pc := 37) d_E_execute_37 rfl 0 rfl ?_
      refine x_aload_n (pc := 38) d_E_execute_38 rfl 1 rfl ?_
      refine x_aload_n (pc := 39) d_E_execute_39 rfl 0 rfl ?_
      refine h_getR G (pc := 40) (ci := 6) (j := 1) d_E_execute_40 rfl rfl rfl lf_E_17 h fun t1 h => ?_
      refine x_aload_n (pc := 43) d_E_execute_43 rfl 0 rfl ?_
      refine h_getI G (pc := 44) (ci := 6) (j := 2) d_E_execute_44 rfl rfl rfl lf_E_28 h fun t2 h => ?_
      refine x_iconst (pc := 47) d_E_execute_47 rfl ?_
      refine x_isub (pc := 48) d_E_execute_48 ?_
      refine h_aaload (pc := 49) (kd := 12) d_E_execute_49 (by decide) rfl rfl h fun t3 h => ?_
      obtain ⟨⟨ra4, ra4t⟩, h⟩ := h_ok h
      refine h_callV G (x_siteV G (pc := 50) (y2 := y_E_step) (As := [.ref v1, .ref t3]) (S := []) (ci := 6) d_E_execute_50 rfl lm_E_42 mi_E_step ms_E_step mw_E_step.1 mx_E_step.1 mx_E_step.2 rfl ra4 ra4t) mw_E_step ⟨Nat.le_of_ble_eq_true rfl, Nat.le_of_ble_eq_true rfl⟩ rfl (fun _ _ e => p_E_step G _ _ _ _ e) h fun M5 h => ?_
      refine x_aload_n (pc := 53) d_E_execute_53 rfl 0 rfl ?_
      refine h_getI G (pc := 54) (ci := 6) (j := 2) d_E_execute_54 rfl rfl rfl lf_E_28 h fun t6 h => ?_
      refine h_if_ne (pc := 57) 65 d_E_execute_57 (by decide) h (fun _ h => ?_) (fun _ h => ?_)
      · refine x_iinc (pc := 65) (n := 2) (L' := [(0, .ref v0), (1, .ref v1), (5, .int (v5 + 1))]) d_E_execute_65 (by decide) rfl rfl ?_
        refine x_goto (pc := 68) 29 d_E_execute_68 (by decide) ?_
        refine x_weak [0, 1, 2] rfl ?_
        exact ih _ _ _ _ h
      · refine x_aload_n (pc := 60) d_E_execute_60 rfl 0 rfl ?_
        refine h_getI G (pc := 61) (ci := 6) (j := 3) d_E_execute_61 rfl rfl rfl lf_E_46 h fun t7 h => ?_
        exact h_ireturn (pc := 64) d_E_execute_64 rfl h
theorem p_E_execute (G : xG K) (v0 : Nat) (v1 : Nat) (v2 : Int32) (v3 : Int32) (v4 : Int32) (M : XM) (h : g_E_execute v0 v1 v2 v3 v4 M = some (o, N)) : Ct K y_E_execute [.ref v0, .ref v1, .int v2, .int v3, .int v4] M o N := by
  refine ct_of (by decide) (List.forall_mem_cons.mpr ⟨rfl, List.forall_mem_cons.mpr ⟨rfl, List.forall_mem_cons.mpr ⟨rfl, List.forall_mem_cons.mpr ⟨rfl, List.forall_mem_cons.mpr ⟨rfl, fun _ q => absurd q List.not_mem_nil⟩⟩⟩⟩⟩) (Nat.le_of_ble_eq_true rfl) ?_
  show cA K y_E_execute 0 [(0, .ref v0), (1, .ref v1), (2, .int v2), (3, .int v3), (4, .int v4)] [] M o N
  unfold g_E_execute at h
  refine x_aload_n (pc := 0) d_E_execute_0 rfl 0 rfl ?_
  refine h_getR G (pc := 1) (ci := 6) (j := 0) d_E_execute_1 rfl rfl rfl lf_E_9 h fun t1 h => ?_
  refine x_iconst (pc := 4) d_E_execute_4 rfl ?_
  refine h_callV G (x_siteS G (pc := 5) (y2 := y_A_fill) (As := [.ref t1, .int 0]) (S := []) d_E_execute_5 lm_E_22 mi_A_fill mw_A_fill.2 mw_A_fill.1 mx_A_fill.1 mx_A_fill.2 rfl) mw_A_fill ⟨Nat.le_of_ble_eq_true rfl, Nat.le_of_ble_eq_true rfl⟩ rfl (fun _ _ e => p_A_fill G _ _ _ e) h fun M2 h => ?_
  refine x_aload_n (pc := 8) d_E_execute_8 rfl 0 rfl ?_
  refine x_iconst (pc := 9) d_E_execute_9 rfl ?_
  refine h_putI G (pc := 10) (ci := 6) (j := 2) d_E_execute_10 rfl rfl rfl lf_E_28 h fun M3 h => ?_
  refine x_aload_n (pc := 13) d_E_execute_13 rfl 0 rfl ?_
  refine x_aload_n (pc := 14) d_E_execute_14 rfl 1 rfl ?_
  refine h_getR G (pc := 15) (ci := 1) (j := 1) d_E_execute_15 rfl rfl rfl lf_E_32 h fun t4 h => ?_
  refine x_iload_n (pc := 18) d_E_execute_18 rfl 2 rfl ?_
  refine h_aaload (pc := 19) (kd := 11) d_E_execute_19 (by decide) rfl rfl h fun t5 h => ?_
  refine x_iload_n (pc := 20) d_E_execute_20 rfl 3 rfl ?_
  refine x_iload (pc := 21) d_E_execute_21 4 rfl ?_
  obtain ⟨⟨ra6, ra6t⟩, h⟩ := h_ok h
  refine h_callV G (x_siteV G (pc := 23) (y2 := y_E_begin) (As := [.ref t5, .int v3, .int v4]) (S := []) (ci := 6) d_E_execute_23 rfl lm_E_38 mi_E_begin ms_E_begin mw_E_begin.1 mx_E_begin.1 mx_E_begin.2 rfl ra6 ra6t) mw_E_begin ⟨Nat.le_of_ble_eq_true rfl, Nat.le_of_ble_eq_true rfl⟩ rfl (fun _ _ e => p_E_begin G _ _ _ _ _ e) h fun M7 h => ?_
  refine x_iconst (pc := 26) d_E_execute_26 rfl ?_
  refine x_istore (pc := 27) (L' := [(0, .ref v0), (1, .ref v1), (2, .int v2), (3, .int v3), (4, .int v4), (5, .int 0)]) d_E_execute_27 (by decide) rfl ?_
  refine x_weak [0, 1, 5] rfl ?_
  exact p_E_execute_29 G FU _ _ _ _ h
theorem p_S_run_49 (G : xG K) (v0 : Nat) (v2 : Int32) (v3 : Int32) (v4 : Int32) (v5 : Nat) (M : XM) (h : g_S_run_49 v0 v2 v3 v4 v5 M = some (o, N)) : cA K y_S_run 49 [(0, .ref v0), (2, .int v2), (3, .int v3), (4, .int v4), (5, .ref v5)] [] M o N := by
  unfold g_S_run_49 at h
  refine x_aload_n (pc := 49) d_S_run_49 rfl 0 rfl ?_
  refine h_getR G (pc := 50) (ci := 0) (j := 3) d_S_run_50 rfl rfl rfl lf_S_29 h fun t1 h => ?_
  refine x_aload (pc := 53) d_S_run_53 4 rfl ?_
  refine x_iload_n (pc := 55) d_S_run_55 rfl 1 rfl ?_
  refine x_iload_n (pc := 56) d_S_run_56 rfl 2 rfl ?_
  refine x_iload (pc := 57) d_S_run_57 3 rfl ?_
  obtain ⟨⟨ra2, ra2t⟩, h⟩ := h_ok h
  refine h_callI G (x_siteV G (pc := 59) (y2 := y_E_execute) (As := [.ref v5, .int v2, .int v3, .int v4]) (S := []) (ci := 6) d_S_run_59 rfl lm_S_190 mi_E_execute ms_E_execute mw_E_execute.1 mx_E_execute.1 mx_E_execute.2 rfl ra2 ra2t) mw_E_execute ⟨Nat.le_of_ble_eq_true rfl, Nat.le_of_ble_eq_true rfl⟩ rfl (fun _ _ e => p_E_execute G _ _ _ _ _ _ e) h fun t4 M3 h => ?_
  exact h_ireturn (pc := 62) d_S_run_62 rfl h
theorem p_S_run (G : xG K) (v0 : Nat) (v1 : Int32) (v2 : Int32) (v3 : Int32) (v4 : Int32) (M : XM) (h : g_S_run v0 v1 v2 v3 v4 M = some (o, N)) : Ct K y_S_run [.ref v0, .int v1, .int v2, .int v3, .int v4] M o N := by
  refine ct_of (by decide) (List.forall_mem_cons.mpr ⟨rfl, List.forall_mem_cons.mpr ⟨rfl, List.forall_mem_cons.mpr ⟨rfl, List.forall_mem_cons.mpr ⟨rfl, List.forall_mem_cons.mpr ⟨rfl, fun _ q => absurd q List.not_mem_nil⟩⟩⟩⟩⟩) (Nat.le_of_ble_eq_true rfl) ?_
  show cA K y_S_run 0 [(0, .ref v0), (1, .int v1), (2, .int v2), (3, .int v3), (4, .int v4)] [] M o N
  unfold g_S_run at h
  refine x_aload_n (pc := 0) d_S_run_0 rfl 0 rfl ?_
  refine x_iload_n (pc := 1) d_S_run_1 rfl 1 rfl ?_
  obtain ⟨⟨ra1, ra1t⟩, h⟩ := h_ok h
  refine h_callR G (x_siteV G (pc := 2) (y2 := y_S_chosen) (As := [.int v1]) (S := []) (ci := 0) d_S_run_2 rfl lm_S_138 mi_S_chosen ms_S_chosen mw_S_chosen.1 mx_S_chosen.1 mx_S_chosen.2 rfl ra1 ra1t) mw_S_chosen ⟨Nat.le_of_ble_eq_true rfl, Nat.le_of_ble_eq_true rfl⟩ rfl (fun _ _ e => p_S_chosen G _ _ _ e) h fun t3 M2 h => ?_
  refine x_astore (pc := 5) (L' := [(0, .ref v0), (1, .int v1), (2, .int v2), (3, .int v3), (4, .int v4), (5, .ref t3)]) d_S_run_5 (by decide) rfl ?_
  refine x_aload (pc := 7) d_S_run_7 5 rfl ?_
  refine x_iload_n (pc := 9) d_S_run_9 rfl 2 rfl ?_
  obtain ⟨⟨ra4, ra4t⟩, h⟩ := h_ok h
  refine h_callI G (x_siteV G (pc := 10) (y2 := y_P_hasMethod) (As := [.int v2]) (S := []) (ci := 1) d_S_run_10 rfl lm_S_96 mi_P_hasMethod ms_P_hasMethod mw_P_hasMethod.1 mx_P_hasMethod.1 mx_P_hasMethod.2 rfl ra4 ra4t) mw_P_hasMethod ⟨Nat.le_of_ble_eq_true rfl, Nat.le_of_ble_eq_true rfl⟩ rfl (fun _ _ e => p_P_hasMethod G _ _ _ e) h fun t6 M5 h => ?_
  refine h_if_ne (pc := 13) 26 d_S_run_13 (by decide) h (fun _ h => ?_) (fun _ h => ?_)
  · refine x_iload_n (pc := 26) d_S_run_26 rfl 1 rfl ?_
    refine h_if_ne (pc := 27) 49 d_S_run_27 (by decide) h (fun _ h => ?_) (fun _ h => ?_)
    · refine x_weak [0, 2, 3, 4, 5] rfl ?_
      exact p_S_run_49 G _ _ _ _ _ _ h
    · refine x_aload (pc := 30) d_S_run_30 5 rfl ?_
      obtain ⟨⟨ra7, ra7t⟩, h⟩ := h_ok h
      refine h_callI G (x_siteV G (pc := 32) (y2 := y_P_firstFault) (As := []) (S := []) (ci := 1) d_S_run_32 rfl lm_S_124 mi_P_firstFault ms_P_firstFault mw_P_firstFault.1 mx_P_firstFault.1 mx_P_firstFault.2 rfl ra7 ra7t) mw_P_firstFault ⟨Nat.le_of_ble_eq_true rfl, Nat.le_of_ble_eq_true rfl⟩ rfl (fun _ _ e => p_P_firstFault G _ _ e) h fun t9 M8 h => ?_
      refine x_iconst (pc := 35) d_S_run_35 rfl ?_
      refine h_icmp_eq (pc := 36) 49 d_S_run_36 (by decide) h (fun _ h => ?_) (fun _ h => ?_)
      · refine x_weak [0, 2, 3, 4, 5] rfl ?_
        exact p_S_run_49 G _ _ _ _ _ _ h
      · exact h_throw G (pc := 39) (ei := 2) rfl d_S_run_39 d_S_run_42 d_S_run_43 d_S_run_45 d_S_run_48 lc_S_61 lm_S_65 ls_S_127 rfl (Nat.le_of_ble_eq_true rfl) (Nat.le_of_ble_eq_true rfl) h
  · exact h_throw G (pc := 16) (ei := 1) rfl d_S_run_16 d_S_run_19 d_S_run_20 d_S_run_22 d_S_run_25 lc_S_52 lm_S_56 ls_S_99 rfl (Nat.le_of_ble_eq_true rfl) (Nat.le_of_ble_eq_true rfl) h
theorem p_W_run (G : xG K) (v0 : Nat) (v1 : Int32) (v2 : Int32) (v3 : Int32) (v4 : Int32) (v5 : Nat) (M : XM) (h : g_W_run v0 v1 v2 v3 v4 v5 M = some (o, N)) : Ct K y_W_run [.ref v0, .int v1, .int v2, .int v3, .int v4, .ref v5] M o N := by
  refine ct_of (by decide) (List.forall_mem_cons.mpr ⟨rfl, List.forall_mem_cons.mpr ⟨rfl, List.forall_mem_cons.mpr ⟨rfl, List.forall_mem_cons.mpr ⟨rfl, List.forall_mem_cons.mpr ⟨rfl, List.forall_mem_cons.mpr ⟨rfl, fun _ q => absurd q List.not_mem_nil⟩⟩⟩⟩⟩⟩) (Nat.le_of_ble_eq_true rfl) ?_
  show cA K y_W_run 0 [(0, .ref v0), (1, .int v1), (2, .int v2), (3, .int v3), (4, .int v4), (5, .ref v5)] [] M o N
  unfold g_W_run at h
  refine x_aload (pc := 0) d_W_run_0 5 rfl ?_
  refine x_iconst (pc := 2) d_W_run_2 rfl ?_
  refine x_aload_n (pc := 3) d_W_run_3 rfl 0 rfl ?_
  refine x_iload_n (pc := 4) d_W_run_4 rfl 1 rfl ?_
  refine x_iload_n (pc := 5) d_W_run_5 rfl 2 rfl ?_
  refine x_iload_n (pc := 6) d_W_run_6 rfl 3 rfl ?_
  refine x_iload (pc := 7) d_W_run_7 4 rfl ?_
  obtain ⟨⟨ra1, ra1t⟩, h⟩ := h_ok h
  refine h_hI G (x_siteV G (pc := 9) (y2 := y_S_run) (As := [.int v1, .int v2, .int v3, .int v4]) (S := [.int 0, .ref v5]) (ci := 0) d_W_run_9 rfl lm_W_55 mi_S_run ms_S_run mw_S_run.1 mx_S_run.1 mx_S_run.2 rfl ra1 ra1t) mw_S_run ⟨Nat.le_of_ble_eq_true rfl, Nat.le_of_ble_eq_true rfl⟩ (fun _ _ e => p_S_run G _ _ _ _ _ _ e) h (fun t3 M2 h => ?_) (fun a5 M6 h => ?_)
  · refine x_i2l (pc := 12) d_W_run_12 ?_
    refine h_lastore G (pc := 13) d_W_run_13 h fun M4 h => ?_
    refine x_goto (pc := 14) 37 d_W_run_14 (by decide) ?_
    refine x_iconst (pc := 37) d_W_run_37 rfl ?_
    exact h_ireturn (pc := 38) d_W_run_38 rfl h
  · refine h_catch G (pc := 9) (ei := 1) rfl [] (0, 14, 17, 19) [(0, 14, 21, 21), (0, 14, 25, 58), (0, 14, 29, 60), (0, 14, 33, 13)] rfl (fun _ q => absurd q List.not_mem_nil) ⟨by decide, by decide, by decide, lc_W_19⟩ h (fun h => ?_) (fun h => ?_)
    · refine x_astore (pc := 17) (L' := [(0, .ref v0), (1, .int v1), (2, .int v2), (3, .int v3), (4, .int v4), (5, .ref v5), (6, .ref a5)]) d_W_run_17 (by decide) rfl ?_
      refine x_iconst (pc := 19) d_W_run_19 rfl ?_
      exact h_ireturn (pc := 20) d_W_run_20 rfl h
    · refine h_catch G (pc := 9) (ei := 2) rfl [((0, 14, 17, 19), "java/lang/IndexOutOfBoundsException")] (0, 14, 21, 21) [(0, 14, 25, 58), (0, 14, 29, 60), (0, 14, 33, 13)] rfl (List.forall_mem_cons.mpr ⟨⟨by decide, by decide, by decide, lc_W_19, by decide, by decide⟩, fun _ q => absurd q List.not_mem_nil⟩) ⟨by decide, by decide, by decide, lc_W_21⟩ h (fun h => ?_) (fun h => ?_)
      · refine x_astore (pc := 21) (L' := [(0, .ref v0), (1, .int v1), (2, .int v2), (3, .int v3), (4, .int v4), (5, .ref v5), (6, .ref a5)]) d_W_run_21 (by decide) rfl ?_
        refine x_iconst (pc := 23) d_W_run_23 rfl ?_
        exact h_ireturn (pc := 24) d_W_run_24 rfl h
      · refine h_catch G (pc := 9) (ei := 3) rfl [((0, 14, 17, 19), "java/lang/IndexOutOfBoundsException"), ((0, 14, 21, 21), "java/lang/IllegalArgumentException")] (0, 14, 25, 58) [(0, 14, 29, 60), (0, 14, 33, 13)] rfl (List.forall_mem_cons.mpr ⟨⟨by decide, by decide, by decide, lc_W_19, by decide, by decide⟩, List.forall_mem_cons.mpr ⟨⟨by decide, by decide, by decide, lc_W_21, by decide, by decide⟩, fun _ q => absurd q List.not_mem_nil⟩⟩) ⟨by decide, by decide, by decide, lc_W_58⟩ h (fun h => ?_) (fun h => ?_)
        · refine x_astore (pc := 25) (L' := [(0, .ref v0), (1, .int v1), (2, .int v2), (3, .int v3), (4, .int v4), (5, .ref v5), (6, .ref a5)]) d_W_run_25 (by decide) rfl ?_
          refine x_iconst (pc := 27) d_W_run_27 rfl ?_
          exact h_ireturn (pc := 28) d_W_run_28 rfl h
        · refine h_catch G (pc := 9) (ei := 4) rfl [((0, 14, 17, 19), "java/lang/IndexOutOfBoundsException"), ((0, 14, 21, 21), "java/lang/IllegalArgumentException"), ((0, 14, 25, 58), "java/lang/ArithmeticException")] (0, 14, 29, 60) [(0, 14, 33, 13)] rfl (List.forall_mem_cons.mpr ⟨⟨by decide, by decide, by decide, lc_W_19, by decide, by decide⟩, List.forall_mem_cons.mpr ⟨⟨by decide, by decide, by decide, lc_W_21, by decide, by decide⟩, List.forall_mem_cons.mpr ⟨⟨by decide, by decide, by decide, lc_W_58, by decide, by decide⟩, fun _ q => absurd q List.not_mem_nil⟩⟩⟩) ⟨by decide, by decide, by decide, lc_W_60⟩ h (fun h => ?_) (fun h => ?_)
          · refine x_astore (pc := 29) (L' := [(0, .ref v0), (1, .int v1), (2, .int v2), (3, .int v3), (4, .int v4), (5, .ref v5), (6, .ref a5)]) d_W_run_29 (by decide) rfl ?_
            refine x_iconst (pc := 31) d_W_run_31 rfl ?_
            exact h_ireturn (pc := 32) d_W_run_32 rfl h
          · refine h_catch G (pc := 9) (ei := 0) rfl [((0, 14, 17, 19), "java/lang/IndexOutOfBoundsException"), ((0, 14, 21, 21), "java/lang/IllegalArgumentException"), ((0, 14, 25, 58), "java/lang/ArithmeticException"), ((0, 14, 29, 60), "java/lang/UnsupportedOperationException")] (0, 14, 33, 13) [] rfl (List.forall_mem_cons.mpr ⟨⟨by decide, by decide, by decide, lc_W_19, by decide, by decide⟩, List.forall_mem_cons.mpr ⟨⟨by decide, by decide, by decide, lc_W_21, by decide, by decide⟩, List.forall_mem_cons.mpr ⟨⟨by decide, by decide, by decide, lc_W_58, by decide, by decide⟩, List.forall_mem_cons.mpr ⟨⟨by decide, by decide, by decide, lc_W_60, by decide, by decide⟩, fun _ q => absurd q List.not_mem_nil⟩⟩⟩⟩) ⟨by decide, by decide, by decide, lc_W_13⟩ h (fun h => ?_) (fun h => ?_)
            · refine x_astore (pc := 33) (L' := [(0, .ref v0), (1, .int v1), (2, .int v2), (3, .int v3), (4, .int v4), (5, .ref v5), (6, .ref a5)]) d_W_run_33 (by decide) rfl ?_
              refine x_iconst (pc := 35) d_W_run_35 rfl ?_
              exact h_ireturn (pc := 36) d_W_run_36 rfl h
            · cases h
theorem p_R_init_225 (G : xG K) : ∀ (n : Nat) (v0 : Nat) (v1 : Int32) (M : XM), g_R_init_225 n v0 v1 M = some (o, N) → cA K y_R_init 225 [(0, .ref v0), (1, .int v1)] [] M o N := by
  intro n
  induction n with
  | zero =>
    intro v0 v1 M h
    rw [g_R_init_225] at h
    cases h
  | succ n ih =>
    intro v0 v1 M h
    rw [g_R_init_225] at h
    refine x_iload_n (pc := 225) d_R_init_225 rfl 1 rfl ?_
    refine x_bipush (pc := 226) (v := 30) d_R_init_226 (by decide) ?_
    refine h_icmp_ge (pc := 228) 244 d_R_init_228 (by decide) h (fun _ h => ?_) (fun _ h => ?_)
    · exact h_return (pc := 244) d_R_init_244 rfl h
    · refine x_aload_n (pc := 231) d_R_init_231 rfl 0 rfl ?_
      refine h_getR G (pc := 232) (ci := 7) (j := 14) d_R_init_232 rfl rfl rfl lf_R_50 h fun t1 h => ?_
      refine x_iload_n (pc := 235) d_R_init_235 rfl 1 rfl ?_
      refine x_iconst (pc := 236) d_R_init_236 rfl ?_
      refine h_iastore G (pc := 237) d_R_init_237 h fun M2 h => ?_
      refine x_iinc (pc := 238) (n := 1) (L' := [(0, .ref v0), (1, .int (v1 + 1))]) d_R_init_238 (by decide) rfl rfl ?_
      refine x_goto (pc := 241) 225 d_R_init_241 (by decide) ?_
      refine x_weak [0, 1] rfl ?_
      exact ih _ _ _ h
theorem p_R_init (G : xG K) (v0 : Nat) (M : XM) (h : g_R_init v0 M = some (o, N)) : Ct K y_R_init [.ref v0] M o N := by
  refine ct_of (by decide) (List.forall_mem_cons.mpr ⟨rfl, fun _ q => absurd q List.not_mem_nil⟩) (Nat.le_of_ble_eq_true rfl) ?_
  show cA K y_R_init 0 [(0, .ref v0)] [] M o N
  unfold g_R_init at h
  refine x_aload_n (pc := 0) d_R_init_0 rfl 0 rfl ?_
  refine x_objInit G (pc := 1) d_R_init_1 lm_R_1 lj_1 lj_2 (Nat.le_of_ble_eq_true rfl) (Nat.le_of_ble_eq_true rfl) ?_
  refine x_aload_n (pc := 4) d_R_init_4 rfl 0 rfl ?_
  refine x_iconst (pc := 5) d_R_init_5 rfl ?_
  refine h_newarray G (pc := 6) (kd := 0) (ty := .int) d_R_init_6 rfl la_int rfl (by decide) (by decide) h fun t1 M2 h => ?_
  refine h_putR G (pc := 8) (ci := 7) (j := 1) d_R_init_8 rfl rfl rfl lf_R_7 (Or.inr ⟨rfl, rfl⟩) (fun _ => rfl) (fun _ => rfl) h fun M3 h => ?_
  refine x_aload_n (pc := 11) d_R_init_11 rfl 0 rfl ?_
  refine x_iconst (pc := 12) d_R_init_12 rfl ?_
  refine h_newarray G (pc := 13) (kd := 0) (ty := .int) d_R_init_13 rfl la_int rfl (by decide) (by decide) h fun t4 M5 h => ?_
  refine h_putR G (pc := 15) (ci := 7) (j := 2) d_R_init_15 rfl rfl rfl lf_R_13 (Or.inr ⟨rfl, rfl⟩) (fun _ => rfl) (fun _ => rfl) h fun M6 h => ?_
  refine x_aload_n (pc := 18) d_R_init_18 rfl 0 rfl ?_
  refine x_bipush (pc := 19) (v := 12) d_R_init_19 (by decide) ?_
  refine h_newarray G (pc := 21) (kd := 0) (ty := .int) d_R_init_21 rfl la_int rfl (by decide) (by decide) h fun t7 M8 h => ?_
  refine h_putR G (pc := 23) (ci := 7) (j := 3) d_R_init_23 rfl rfl rfl lf_R_16 (Or.inr ⟨rfl, rfl⟩) (fun _ => rfl) (fun _ => rfl) h fun M9 h => ?_
  refine x_aload_n (pc := 26) d_R_init_26 rfl 0 rfl ?_
  refine x_sipush (pc := 27) (v := 240) d_R_init_27 (by decide) ?_
  refine h_newarray G (pc := 30) (kd := 0) (ty := .int) d_R_init_30 rfl la_int rfl (by decide) (by decide) h fun t10 M11 h => ?_
  refine h_putR G (pc := 32) (ci := 7) (j := 4) d_R_init_32 rfl rfl rfl lf_R_19 (Or.inr ⟨rfl, rfl⟩) (fun _ => rfl) (fun _ => rfl) h fun M12 h => ?_
  refine x_aload_n (pc := 35) d_R_init_35 rfl 0 rfl ?_
  refine x_sipush (pc := 36) (v := 240) d_R_init_36 (by decide) ?_
  refine h_newarray G (pc := 39) (kd := 0) (ty := .int) d_R_init_39 rfl la_int rfl (by decide) (by decide) h fun t13 M14 h => ?_
  refine h_putR G (pc := 41) (ci := 7) (j := 5) d_R_init_41 rfl rfl rfl lf_R_22 (Or.inr ⟨rfl, rfl⟩) (fun _ => rfl) (fun _ => rfl) h fun M15 h => ?_
  refine x_aload_n (pc := 44) d_R_init_44 rfl 0 rfl ?_
  refine x_sipush (pc := 45) (v := 240) d_R_init_45 (by decide) ?_
  refine h_newarray G (pc := 48) (kd := 0) (ty := .int) d_R_init_48 rfl la_int rfl (by decide) (by decide) h fun t16 M17 h => ?_
  refine h_putR G (pc := 50) (ci := 7) (j := 6) d_R_init_50 rfl rfl rfl lf_R_25 (Or.inr ⟨rfl, rfl⟩) (fun _ => rfl) (fun _ => rfl) h fun M18 h => ?_
  refine x_aload_n (pc := 53) d_R_init_53 rfl 0 rfl ?_
  refine x_bipush (pc := 54) (v := 60) d_R_init_54 (by decide) ?_
  refine h_newarray G (pc := 56) (kd := 0) (ty := .int) d_R_init_56 rfl la_int rfl (by decide) (by decide) h fun t19 M20 h => ?_
  refine h_putR G (pc := 58) (ci := 7) (j := 7) d_R_init_58 rfl rfl rfl lf_R_28 (Or.inr ⟨rfl, rfl⟩) (fun _ => rfl) (fun _ => rfl) h fun M21 h => ?_
  refine x_aload_n (pc := 61) d_R_init_61 rfl 0 rfl ?_
  refine x_bipush (pc := 62) (v := 60) d_R_init_62 (by decide) ?_
  refine h_newarray G (pc := 64) (kd := 0) (ty := .int) d_R_init_64 rfl la_int rfl (by decide) (by decide) h fun t22 M23 h => ?_
  refine h_putR G (pc := 66) (ci := 7) (j := 8) d_R_init_66 rfl rfl rfl lf_R_31 (Or.inr ⟨rfl, rfl⟩) (fun _ => rfl) (fun _ => rfl) h fun M24 h => ?_
  refine x_aload_n (pc := 69) d_R_init_69 rfl 0 rfl ?_
  refine x_bipush (pc := 70) (v := 60) d_R_init_70 (by decide) ?_
  refine h_newarray G (pc := 72) (kd := 0) (ty := .int) d_R_init_72 rfl la_int rfl (by decide) (by decide) h fun t25 M26 h => ?_
  refine h_putR G (pc := 74) (ci := 7) (j := 9) d_R_init_74 rfl rfl rfl lf_R_34 (Or.inr ⟨rfl, rfl⟩) (fun _ => rfl) (fun _ => rfl) h fun M27 h => ?_
  refine x_aload_n (pc := 77) d_R_init_77 rfl 0 rfl ?_
  refine x_bipush (pc := 78) (v := 60) d_R_init_78 (by decide) ?_
  refine h_newarray G (pc := 80) (kd := 0) (ty := .int) d_R_init_80 rfl la_int rfl (by decide) (by decide) h fun t28 M29 h => ?_
  refine h_putR G (pc := 82) (ci := 7) (j := 10) d_R_init_82 rfl rfl rfl lf_R_37 (Or.inr ⟨rfl, rfl⟩) (fun _ => rfl) (fun _ => rfl) h fun M30 h => ?_
  refine x_aload_n (pc := 85) d_R_init_85 rfl 0 rfl ?_
  refine x_bipush (pc := 86) (v := 60) d_R_init_86 (by decide) ?_
  refine h_newarray G (pc := 88) (kd := 1) (ty := .boolean) d_R_init_88 rfl la_boolean rfl (by decide) (by decide) h fun t31 M32 h => ?_
  refine h_putR G (pc := 90) (ci := 7) (j := 11) d_R_init_90 rfl rfl rfl lf_R_40 (Or.inr ⟨rfl, rfl⟩) (fun _ => rfl) (fun _ => rfl) h fun M33 h => ?_
  refine x_aload_n (pc := 93) d_R_init_93 rfl 0 rfl ?_
  refine x_sipush (pc := 94) (v := 1200) d_R_init_94 (by decide) ?_
  refine h_newarray G (pc := 97) (kd := 0) (ty := .int) d_R_init_97 rfl la_int rfl (by decide) (by decide) h fun t34 M35 h => ?_
  refine h_putR G (pc := 99) (ci := 7) (j := 12) d_R_init_99 rfl rfl rfl lf_R_44 (Or.inr ⟨rfl, rfl⟩) (fun _ => rfl) (fun _ => rfl) h fun M36 h => ?_
  refine x_aload_n (pc := 102) d_R_init_102 rfl 0 rfl ?_
  refine x_sipush (pc := 103) (v := 1200) d_R_init_103 (by decide) ?_
  refine h_newarray G (pc := 106) (kd := 0) (ty := .int) d_R_init_106 rfl la_int rfl (by decide) (by decide) h fun t37 M38 h => ?_
  refine h_putR G (pc := 108) (ci := 7) (j := 13) d_R_init_108 rfl rfl rfl lf_R_47 (Or.inr ⟨rfl, rfl⟩) (fun _ => rfl) (fun _ => rfl) h fun M39 h => ?_
  refine x_aload_n (pc := 111) d_R_init_111 rfl 0 rfl ?_
  refine x_bipush (pc := 112) (v := 30) d_R_init_112 (by decide) ?_
  refine h_newarray G (pc := 114) (kd := 0) (ty := .int) d_R_init_114 rfl la_int rfl (by decide) (by decide) h fun t40 M41 h => ?_
  refine h_putR G (pc := 116) (ci := 7) (j := 14) d_R_init_116 rfl rfl rfl lf_R_50 (Or.inr ⟨rfl, rfl⟩) (fun _ => rfl) (fun _ => rfl) h fun M42 h => ?_
  refine x_aload_n (pc := 119) d_R_init_119 rfl 0 rfl ?_
  refine x_bipush (pc := 120) (v := 30) d_R_init_120 (by decide) ?_
  refine h_newarray G (pc := 122) (kd := 1) (ty := .boolean) d_R_init_122 rfl la_boolean rfl (by decide) (by decide) h fun t43 M44 h => ?_
  refine h_putR G (pc := 124) (ci := 7) (j := 15) d_R_init_124 rfl rfl rfl lf_R_53 (Or.inr ⟨rfl, rfl⟩) (fun _ => rfl) (fun _ => rfl) h fun M45 h => ?_
  refine x_aload_n (pc := 127) d_R_init_127 rfl 0 rfl ?_
  refine x_bipush (pc := 128) (v := 6) d_R_init_128 (by decide) ?_
  refine h_newarray G (pc := 130) (kd := 0) (ty := .int) d_R_init_130 rfl la_int rfl (by decide) (by decide) h fun t46 M47 h => ?_
  refine h_putR G (pc := 132) (ci := 7) (j := 16) d_R_init_132 rfl rfl rfl lf_R_56 (Or.inr ⟨rfl, rfl⟩) (fun _ => rfl) (fun _ => rfl) h fun M48 h => ?_
  refine x_aload_n (pc := 135) d_R_init_135 rfl 0 rfl ?_
  refine x_bipush (pc := 136) (v := 120) d_R_init_136 (by decide) ?_
  refine h_newarray G (pc := 138) (kd := 1) (ty := .boolean) d_R_init_138 rfl la_boolean rfl (by decide) (by decide) h fun t49 M50 h => ?_
  refine h_putR G (pc := 140) (ci := 7) (j := 17) d_R_init_140 rfl rfl rfl lf_R_59 (Or.inr ⟨rfl, rfl⟩) (fun _ => rfl) (fun _ => rfl) h fun M51 h => ?_
  refine x_aload_n (pc := 143) d_R_init_143 rfl 0 rfl ?_
  refine x_bipush (pc := 144) (v := 120) d_R_init_144 (by decide) ?_
  refine h_newarray G (pc := 146) (kd := 0) (ty := .int) d_R_init_146 rfl la_int rfl (by decide) (by decide) h fun t52 M53 h => ?_
  refine h_putR G (pc := 148) (ci := 7) (j := 18) d_R_init_148 rfl rfl rfl lf_R_62 (Or.inr ⟨rfl, rfl⟩) (fun _ => rfl) (fun _ => rfl) h fun M54 h => ?_
  refine x_aload_n (pc := 151) d_R_init_151 rfl 0 rfl ?_
  refine x_bipush (pc := 152) (v := 100) d_R_init_152 (by decide) ?_
  refine h_newarray G (pc := 154) (kd := 0) (ty := .int) d_R_init_154 rfl la_int rfl (by decide) (by decide) h fun t55 M56 h => ?_
  refine h_putR G (pc := 156) (ci := 7) (j := 19) d_R_init_156 rfl rfl rfl lf_R_65 (Or.inr ⟨rfl, rfl⟩) (fun _ => rfl) (fun _ => rfl) h fun M57 h => ?_
  refine x_aload_n (pc := 159) d_R_init_159 rfl 0 rfl ?_
  refine x_bipush (pc := 160) (v := 100) d_R_init_160 (by decide) ?_
  refine h_newarray G (pc := 162) (kd := 1) (ty := .boolean) d_R_init_162 rfl la_boolean rfl (by decide) (by decide) h fun t58 M59 h => ?_
  refine h_putR G (pc := 164) (ci := 7) (j := 20) d_R_init_164 rfl rfl rfl lf_R_68 (Or.inr ⟨rfl, rfl⟩) (fun _ => rfl) (fun _ => rfl) h fun M60 h => ?_
  refine x_aload_n (pc := 167) d_R_init_167 rfl 0 rfl ?_
  refine x_bipush (pc := 168) (v := 30) d_R_init_168 (by decide) ?_
  refine h_newarray G (pc := 170) (kd := 0) (ty := .int) d_R_init_170 rfl la_int rfl (by decide) (by decide) h fun t61 M62 h => ?_
  refine h_putR G (pc := 172) (ci := 7) (j := 21) d_R_init_172 rfl rfl rfl lf_R_71 (Or.inr ⟨rfl, rfl⟩) (fun _ => rfl) (fun _ => rfl) h fun M63 h => ?_
  refine x_aload_n (pc := 175) d_R_init_175 rfl 0 rfl ?_
  refine x_bipush (pc := 176) (v := 8) d_R_init_176 (by decide) ?_
  refine h_newarray G (pc := 178) (kd := 0) (ty := .int) d_R_init_178 rfl la_int rfl (by decide) (by decide) h fun t64 M65 h => ?_
  refine h_putR G (pc := 180) (ci := 7) (j := 23) d_R_init_180 rfl rfl rfl lf_R_74 (Or.inr ⟨rfl, rfl⟩) (fun _ => rfl) (fun _ => rfl) h fun M66 h => ?_
  refine x_aload_n (pc := 183) d_R_init_183 rfl 0 rfl ?_
  refine x_bipush (pc := 184) (v := 8) d_R_init_184 (by decide) ?_
  refine h_newarray G (pc := 186) (kd := 0) (ty := .int) d_R_init_186 rfl la_int rfl (by decide) (by decide) h fun t67 M68 h => ?_
  refine h_putR G (pc := 188) (ci := 7) (j := 24) d_R_init_188 rfl rfl rfl lf_R_77 (Or.inr ⟨rfl, rfl⟩) (fun _ => rfl) (fun _ => rfl) h fun M69 h => ?_
  refine x_aload_n (pc := 191) d_R_init_191 rfl 0 rfl ?_
  refine x_bipush (pc := 192) (v := 8) d_R_init_192 (by decide) ?_
  refine h_newarray G (pc := 194) (kd := 0) (ty := .int) d_R_init_194 rfl la_int rfl (by decide) (by decide) h fun t70 M71 h => ?_
  refine h_putR G (pc := 196) (ci := 7) (j := 25) d_R_init_196 rfl rfl rfl lf_R_80 (Or.inr ⟨rfl, rfl⟩) (fun _ => rfl) (fun _ => rfl) h fun M72 h => ?_
  refine x_aload_n (pc := 199) d_R_init_199 rfl 0 rfl ?_
  refine x_bipush (pc := 200) (v := 8) d_R_init_200 (by decide) ?_
  refine h_newarray G (pc := 202) (kd := 0) (ty := .int) d_R_init_202 rfl la_int rfl (by decide) (by decide) h fun t73 M74 h => ?_
  refine h_putR G (pc := 204) (ci := 7) (j := 26) d_R_init_204 rfl rfl rfl lf_R_83 (Or.inr ⟨rfl, rfl⟩) (fun _ => rfl) (fun _ => rfl) h fun M75 h => ?_
  refine x_aload_n (pc := 207) d_R_init_207 rfl 0 rfl ?_
  refine x_bipush (pc := 208) (v := 8) d_R_init_208 (by decide) ?_
  refine h_newarray G (pc := 210) (kd := 0) (ty := .int) d_R_init_210 rfl la_int rfl (by decide) (by decide) h fun t76 M77 h => ?_
  refine h_putR G (pc := 212) (ci := 7) (j := 27) d_R_init_212 rfl rfl rfl lf_R_86 (Or.inr ⟨rfl, rfl⟩) (fun _ => rfl) (fun _ => rfl) h fun M78 h => ?_
  refine x_aload_n (pc := 215) d_R_init_215 rfl 0 rfl ?_
  refine x_bipush (pc := 216) (v := 64) d_R_init_216 (by decide) ?_
  refine h_newarray G (pc := 218) (kd := 0) (ty := .int) d_R_init_218 rfl la_int rfl (by decide) (by decide) h fun t79 M80 h => ?_
  refine h_putR G (pc := 220) (ci := 7) (j := 28) d_R_init_220 rfl rfl rfl lf_R_89 (Or.inr ⟨rfl, rfl⟩) (fun _ => rfl) (fun _ => rfl) h fun M81 h => ?_
  refine x_iconst (pc := 223) d_R_init_223 rfl ?_
  refine x_istore_n (pc := 224) (L' := [(0, .ref v0), (1, .int 0)]) d_R_init_224 rfl (by decide) rfl ?_
  refine x_weak [0, 1] rfl ?_
  exact p_R_init_225 G FU _ _ _ h
theorem p_R_thrown (G : xG K) (v0 : Nat) (M : XM) (h : g_R_thrown v0 M = some (o, N)) : Ct K y_R_thrown [.ref v0] M o N := by
  refine ct_of (by decide) (List.forall_mem_cons.mpr ⟨rfl, fun _ q => absurd q List.not_mem_nil⟩) (Nat.le_of_ble_eq_true rfl) ?_
  show cA K y_R_thrown 0 [(0, .ref v0)] [] M o N
  unfold g_R_thrown at h
  refine x_aload_n (pc := 0) d_R_thrown_0 rfl 0 rfl ?_
  refine h_getI G (pc := 1) (ci := 7) (j := 0) d_R_thrown_1 rfl rfl rfl lf_R_92 h fun t1 h => ?_
  exact h_ireturn (pc := 4) d_R_thrown_4 rfl h
theorem p_R_add_17 (G : xG K) (v0 : Nat) (s0 : Nat) (s1 : Int32) (M : XM) (h : g_R_add_17 v0 s0 s1 M = some (o, N)) : cA K y_R_add 17 [(0, .ref v0)] [.int s1, .ref s0] M o N := by
  unfold g_R_add_17 at h
  refine h_putI G (pc := 17) (ci := 7) (j := 0) d_R_add_17 rfl rfl rfl lf_R_92 h fun M1 h => ?_
  refine x_aload_n (pc := 20) d_R_add_20 rfl 0 rfl ?_
  refine h_getI G (pc := 21) (ci := 7) (j := 0) d_R_add_21 rfl rfl rfl lf_R_92 h fun t2 h => ?_
  refine h_if_le (pc := 24) 29 d_R_add_24 (by decide) h (fun _ h => ?_) (fun _ h => ?_)
  · refine x_aload_n (pc := 29) d_R_add_29 rfl 0 rfl ?_
    refine h_getR G (pc := 30) (ci := 7) (j := 3) d_R_add_30 rfl rfl rfl lf_R_16 h fun t3 h => ?_
    refine x_aload_n (pc := 33) d_R_add_33 rfl 0 rfl ?_
    refine h_getR G (pc := 34) (ci := 7) (j := 1) d_R_add_34 rfl rfl rfl lf_R_7 h fun t4 h => ?_
    refine x_iconst (pc := 37) d_R_add_37 rfl ?_
    refine h_iaload (pc := 38) d_R_add_38 h fun t5 h => ?_
    refine x_iconst (pc := 39) d_R_add_39 rfl ?_
    refine h_iastore G (pc := 40) d_R_add_40 h fun M6 h => ?_
    refine x_aload_n (pc := 41) d_R_add_41 rfl 0 rfl ?_
    refine h_getR G (pc := 42) (ci := 7) (j := 1) d_R_add_42 rfl rfl rfl lf_R_7 h fun t7 h => ?_
    refine x_iconst (pc := 45) d_R_add_45 rfl ?_
    refine x_dup2 (pc := 46) d_R_add_46 rfl rfl ?_
    refine h_iaload (pc := 47) d_R_add_47 h fun t8 h => ?_
    refine x_iconst (pc := 48) d_R_add_48 rfl ?_
    refine x_iadd (pc := 49) d_R_add_49 ?_
    refine h_iastore G (pc := 50) d_R_add_50 h fun M9 h => ?_
    refine x_aload_n (pc := 51) d_R_add_51 rfl 0 rfl ?_
    refine h_getR G (pc := 52) (ci := 7) (j := 1) d_R_add_52 rfl rfl rfl lf_R_7 h fun t10 h => ?_
    refine x_iconst (pc := 55) d_R_add_55 rfl ?_
    refine h_iaload (pc := 56) d_R_add_56 h fun t11 h => ?_
    refine x_iconst (pc := 57) d_R_add_57 rfl ?_
    refine x_isub (pc := 58) d_R_add_58 ?_
    exact h_ireturn (pc := 59) d_R_add_59 rfl h
  · refine x_iconst (pc := 27) d_R_add_27 rfl ?_
    exact h_ireturn (pc := 28) d_R_add_28 rfl h
theorem p_R_add (G : xG K) (v0 : Nat) (M : XM) (h : g_R_add v0 M = some (o, N)) : Ct K y_R_add [.ref v0] M o N := by
  refine ct_of (by decide) (List.forall_mem_cons.mpr ⟨rfl, fun _ q => absurd q List.not_mem_nil⟩) (Nat.le_of_ble_eq_true rfl) ?_
  show cA K y_R_add 0 [(0, .ref v0)] [] M o N
  unfold g_R_add at h
  refine x_aload_n (pc := 0) d_R_add_0 rfl 0 rfl ?_
  refine x_aload_n (pc := 1) d_R_add_1 rfl 0 rfl ?_
  refine h_getR G (pc := 2) (ci := 7) (j := 1) d_R_add_2 rfl rfl rfl lf_R_7 h fun t1 h => ?_
  refine x_iconst (pc := 5) d_R_add_5 rfl ?_
  refine h_iaload (pc := 6) d_R_add_6 h fun t2 h => ?_
  refine x_bipush (pc := 7) (v := 6) d_R_add_7 (by decide) ?_
  refine h_icmp_ne (pc := 9) 16 d_R_add_9 (by decide) h (fun _ h => ?_) (fun _ h => ?_)
  · refine x_iconst (pc := 16) d_R_add_16 rfl ?_
    refine x_weak [0] rfl ?_
    exact p_R_add_17 G _ _ _ _ h
  · refine x_iconst (pc := 12) d_R_add_12 rfl ?_
    refine x_goto (pc := 13) 17 d_R_add_13 (by decide) ?_
    refine x_weak [0] rfl ?_
    exact p_R_add_17 G _ _ _ _ h
theorem p_R_noClass (G : xG K) (v0 : Nat) (v1 : Int32) (v2 : Int32) (M : XM) (h : g_R_noClass v0 v1 v2 M = some (o, N)) : Ct K y_R_noClass [.ref v0, .int v1, .int v2] M o N := by
  refine ct_of (by decide) (List.forall_mem_cons.mpr ⟨rfl, List.forall_mem_cons.mpr ⟨rfl, List.forall_mem_cons.mpr ⟨rfl, fun _ q => absurd q List.not_mem_nil⟩⟩⟩) (Nat.le_of_ble_eq_true rfl) ?_
  show cA K y_R_noClass 0 [(0, .ref v0), (1, .int v1), (2, .int v2)] [] M o N
  unfold g_R_noClass at h
  refine x_iload_n (pc := 0) d_R_noClass_0 rfl 2 rfl ?_
  refine h_if_lt (pc := 1) 14 d_R_noClass_1 (by decide) h (fun _ h => ?_) (fun _ h => ?_)
  · refine x_iconst (pc := 14) d_R_noClass_14 rfl ?_
    refine x_goto (pc := 15) 19 d_R_noClass_15 (by decide) ?_
    exact h_zreturn (pc := 19) d_R_noClass_19 rfl h
  · refine x_iload_n (pc := 4) d_R_noClass_4 rfl 2 rfl ?_
    refine x_aload_n (pc := 5) d_R_noClass_5 rfl 0 rfl ?_
    refine h_getR G (pc := 6) (ci := 7) (j := 1) d_R_noClass_6 rfl rfl rfl lf_R_7 h fun t1 h => ?_
    refine x_iload_n (pc := 9) d_R_noClass_9 rfl 1 rfl ?_
    refine h_iaload (pc := 10) d_R_noClass_10 h fun t2 h => ?_
    refine h_icmp_lt (pc := 11) 18 d_R_noClass_11 (by decide) h (fun _ h => ?_) (fun _ h => ?_)
    · refine x_iconst (pc := 18) d_R_noClass_18 rfl ?_
      exact h_zreturn (pc := 19) d_R_noClass_19 rfl h
    · refine x_iconst (pc := 14) d_R_noClass_14 rfl ?_
      refine x_goto (pc := 15) 19 d_R_noClass_15 (by decide) ?_
      exact h_zreturn (pc := 19) d_R_noClass_19 rfl h
theorem p_R_base (G : xG K) (v0 : Int32) (v1 : Int32) (M : XM) (h : g_R_base v0 v1 M = some (o, N)) : Ct K y_R_base [.int v0, .int v1] M o N := by
  refine ct_of (by decide) (List.forall_mem_cons.mpr ⟨rfl, List.forall_mem_cons.mpr ⟨rfl, fun _ q => absurd q List.not_mem_nil⟩⟩) (Nat.le_of_ble_eq_true rfl) ?_
  show cA K y_R_base 0 [(0, .int v0), (1, .int v1)] [] M o N
  unfold g_R_base at h
  refine x_bipush (pc := 0) (v := 120) d_R_base_0 (by decide) ?_
  refine x_iload_n (pc := 2) d_R_base_2 rfl 0 rfl ?_
  refine x_imul (pc := 3) d_R_base_3 ?_
  refine x_bipush (pc := 4) (v := 20) d_R_base_4 (by decide) ?_
  refine x_iload_n (pc := 6) d_R_base_6 rfl 1 rfl ?_
  refine x_imul (pc := 7) d_R_base_7 ?_
  refine x_iadd (pc := 8) d_R_base_8 ?_
  exact h_ireturn (pc := 9) d_R_base_9 rfl h
theorem p_R_has (G : xG K) (v0 : Nat) (v1 : Int32) (v2 : Int32) (v3 : Int32) (v4 : Int32) (M : XM) (h : g_R_has v0 v1 v2 v3 v4 M = some (o, N)) : Ct K y_R_has [.ref v0, .int v1, .int v2, .int v3, .int v4] M o N := by
  refine ct_of (by decide) (List.forall_mem_cons.mpr ⟨rfl, List.forall_mem_cons.mpr ⟨rfl, List.forall_mem_cons.mpr ⟨rfl, List.forall_mem_cons.mpr ⟨rfl, List.forall_mem_cons.mpr ⟨rfl, fun _ q => absurd q List.not_mem_nil⟩⟩⟩⟩⟩) (Nat.le_of_ble_eq_true rfl) ?_
  show cA K y_R_has 0 [(0, .ref v0), (1, .int v1), (2, .int v2), (3, .int v3), (4, .int v4)] [] M o N
  unfold g_R_has at h
  refine x_iload_n (pc := 0) d_R_has_0 rfl 3 rfl ?_
  refine h_if_lt (pc := 1) 40 d_R_has_1 (by decide) h (fun _ h => ?_) (fun _ h => ?_)
  · refine x_iconst (pc := 40) d_R_has_40 rfl ?_
    exact h_zreturn (pc := 41) d_R_has_41 rfl h
  · refine x_iload_n (pc := 4) d_R_has_4 rfl 3 rfl ?_
    refine x_aload_n (pc := 5) d_R_has_5 rfl 0 rfl ?_
    refine h_getR G (pc := 6) (ci := 7) (j := 3) d_R_has_6 rfl rfl rfl lf_R_16 h fun t1 h => ?_
    refine x_bipush (pc := 9) (v := 6) d_R_has_9 (by decide) ?_
    refine x_iload_n (pc := 11) d_R_has_11 rfl 1 rfl ?_
    refine x_imul (pc := 12) d_R_has_12 ?_
    refine x_iload_n (pc := 13) d_R_has_13 rfl 2 rfl ?_
    refine x_iadd (pc := 14) d_R_has_14 ?_
    refine h_iaload (pc := 15) d_R_has_15 h fun t2 h => ?_
    refine h_icmp_ge (pc := 16) 40 d_R_has_16 (by decide) h (fun _ h => ?_) (fun _ h => ?_)
    · refine x_iconst (pc := 40) d_R_has_40 rfl ?_
      exact h_zreturn (pc := 41) d_R_has_41 rfl h
    · refine x_aload_n (pc := 19) d_R_has_19 rfl 0 rfl ?_
      refine h_getR G (pc := 20) (ci := 7) (j := 4) d_R_has_20 rfl rfl rfl lf_R_19 h fun t3 h => ?_
      refine x_iload_n (pc := 23) d_R_has_23 rfl 1 rfl ?_
      refine x_iload_n (pc := 24) d_R_has_24 rfl 2 rfl ?_
      refine h_callI G (x_siteS G (pc := 25) (y2 := y_R_base) (As := [.int v1, .int v2]) (S := [.ref t3]) d_R_has_25 lm_R_100 mi_R_base mw_R_base.2 mw_R_base.1 mx_R_base.1 mx_R_base.2 rfl) mw_R_base ⟨Nat.le_of_ble_eq_true rfl, Nat.le_of_ble_eq_true rfl⟩ rfl (fun _ _ e => p_R_base G _ _ _ e) h fun t5 M4 h => ?_
      refine x_iload_n (pc := 28) d_R_has_28 rfl 3 rfl ?_
      refine x_iadd (pc := 29) d_R_has_29 ?_
      refine h_iaload (pc := 30) d_R_has_30 h fun t6 h => ?_
      refine x_iload (pc := 31) d_R_has_31 4 rfl ?_
      refine h_icmp_ne (pc := 33) 40 d_R_has_33 (by decide) h (fun _ h => ?_) (fun _ h => ?_)
      · refine x_iconst (pc := 40) d_R_has_40 rfl ?_
        exact h_zreturn (pc := 41) d_R_has_41 rfl h
      · refine x_iconst (pc := 36) d_R_has_36 rfl ?_
        refine x_goto (pc := 37) 41 d_R_has_37 (by decide) ?_
        exact h_zreturn (pc := 41) d_R_has_41 rfl h
end XG
