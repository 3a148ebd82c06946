theorem d_SR_init_0 : decode b_SR_init 0 = .ok (.aload_n 0, 1) := by decide +kernel
theorem d_SR_init_1 : decode b_SR_init 1 = .ok (.invokespecial 1, 3) := by decide +kernel
theorem d_SR_init_4 : decode b_SR_init 4 = .ok (.aload_n 0, 1) := by decide +kernel
theorem d_SR_init_5 : decode b_SR_init 5 = .ok (.new 7, 3) := by decide +kernel
theorem d_SR_init_8 : decode b_SR_init 8 = .ok (.dup, 1) := by decide +kernel
theorem d_SR_init_9 : decode b_SR_init 9 = .ok (.invokespecial 9, 3) := by decide +kernel
theorem d_SR_init_12 : decode b_SR_init 12 = .ok (.putfield 10, 3) := by decide +kernel
theorem d_SR_init_15 : decode b_SR_init 15 = .ok (.aload_n 0, 1) := by decide +kernel
theorem d_SR_init_16 : decode b_SR_init 16 = .ok (.new 16, 3) := by decide +kernel
theorem d_SR_init_19 : decode b_SR_init 19 = .ok (.dup, 1) := by decide +kernel
theorem d_SR_init_20 : decode b_SR_init 20 = .ok (.invokespecial 18, 3) := by decide +kernel
theorem d_SR_init_23 : decode b_SR_init 23 = .ok (.putfield 19, 3) := by decide +kernel
theorem d_SR_init_26 : decode b_SR_init 26 = .ok (.aload_n 0, 1) := by decide +kernel
theorem d_SR_init_27 : decode b_SR_init 27 = .ok (.new 23, 3) := by decide +kernel
theorem d_SR_init_30 : decode b_SR_init 30 = .ok (.dup, 1) := by decide +kernel
theorem d_SR_init_31 : decode b_SR_init 31 = .ok (.invokespecial 25, 3) := by decide +kernel
theorem d_SR_init_34 : decode b_SR_init 34 = .ok (.putfield 26, 3) := by decide +kernel
theorem d_SR_init_37 : decode b_SR_init 37 = .ok (.aload_n 0, 1) := by decide +kernel
theorem d_SR_init_38 : decode b_SR_init 38 = .ok (.new 30, 3) := by decide +kernel
theorem d_SR_init_41 : decode b_SR_init 41 = .ok (.dup, 1) := by decide +kernel
theorem d_SR_init_42 : decode b_SR_init 42 = .ok (.aload_n 0, 1) := by decide +kernel
theorem d_SR_init_43 : decode b_SR_init 43 = .ok (.getfield 10, 3) := by decide +kernel
theorem d_SR_init_46 : decode b_SR_init 46 = .ok (.aload_n 0, 1) := by decide +kernel
theorem d_SR_init_47 : decode b_SR_init 47 = .ok (.getfield 19, 3) := by decide +kernel
theorem d_SR_init_50 : decode b_SR_init 50 = .ok (.aload_n 0, 1) := by decide +kernel
theorem d_SR_init_51 : decode b_SR_init 51 = .ok (.getfield 26, 3) := by decide +kernel
theorem d_SR_init_54 : decode b_SR_init 54 = .ok (.invokespecial 32, 3) := by decide +kernel
theorem d_SR_init_57 : decode b_SR_init 57 = .ok (.putfield 35, 3) := by decide +kernel
theorem d_SR_init_60 : decode b_SR_init 60 = .ok (.aload_n 0, 1) := by decide +kernel
theorem d_SR_init_61 : decode b_SR_init 61 = .ok (.new 39, 3) := by decide +kernel
theorem d_SR_init_64 : decode b_SR_init 64 = .ok (.dup, 1) := by decide +kernel
theorem d_SR_init_65 : decode b_SR_init 65 = .ok (.invokespecial 41, 3) := by decide +kernel
theorem d_SR_init_68 : decode b_SR_init 68 = .ok (.putfield 42, 3) := by decide +kernel
theorem d_SR_init_71 : decode b_SR_init 71 = .ok (.aload_n 0, 1) := by decide +kernel
theorem d_SR_init_72 : decode b_SR_init 72 = .ok (.new 46, 3) := by decide +kernel
theorem d_SR_init_75 : decode b_SR_init 75 = .ok (.dup, 1) := by decide +kernel
theorem d_SR_init_76 : decode b_SR_init 76 = .ok (.aload_n 0, 1) := by decide +kernel
theorem d_SR_init_77 : decode b_SR_init 77 = .ok (.getfield 19, 3) := by decide +kernel
theorem d_SR_init_80 : decode b_SR_init 80 = .ok (.aload_n 0, 1) := by decide +kernel
theorem d_SR_init_81 : decode b_SR_init 81 = .ok (.getfield 26, 3) := by decide +kernel
theorem d_SR_init_84 : decode b_SR_init 84 = .ok (.aload_n 0, 1) := by decide +kernel
theorem d_SR_init_85 : decode b_SR_init 85 = .ok (.getfield 42, 3) := by decide +kernel
theorem d_SR_init_88 : decode b_SR_init 88 = .ok (.invokespecial 48, 3) := by decide +kernel
theorem d_SR_init_91 : decode b_SR_init 91 = .ok (.putfield 51, 3) := by decide +kernel
theorem d_SR_init_94 : decode b_SR_init 94 = .ok (.aload_n 0, 1) := by decide +kernel
theorem d_SR_init_95 : decode b_SR_init 95 = .ok (.bipush 64, 2) := by decide +kernel
theorem d_SR_init_97 : decode b_SR_init 97 = .ok (.newarray .long, 2) := by decide +kernel
theorem d_SR_init_99 : decode b_SR_init 99 = .ok (.putfield 55, 3) := by decide +kernel
theorem d_SR_init_102 : decode b_SR_init 102 = .ok (.return_, 1) := by decide +kernel
theorem d_SR_move_0 : decode b_SR_move 0 = .ok (.iload_n 1, 1) := by decide +kernel
theorem d_SR_move_1 : decode b_SR_move 1 = .ok (.invokestatic 59, 3) := by decide +kernel
theorem d_SR_move_4 : decode b_SR_move 4 = .ok (.ifCond .eq 10, 3) := by decide +kernel
theorem d_SR_move_7 : decode b_SR_move 7 = .ok (.iload_n 2, 1) := by decide +kernel
theorem d_SR_move_8 : decode b_SR_move 8 = .ok (.invokestatic 59, 3) := by decide +kernel
theorem d_SR_move_11 : decode b_SR_move 11 = .ok (.ifCond .ne 13, 3) := by decide +kernel
theorem d_SR_move_14 : decode b_SR_move 14 = .ok (.new 63, 3) := by decide +kernel
theorem d_SR_move_17 : decode b_SR_move 17 = .ok (.dup, 1) := by decide +kernel
theorem d_SR_move_18 : decode b_SR_move 18 = .ok (.ldc 65, 2) := by decide +kernel
theorem d_SR_move_20 : decode b_SR_move 20 = .ok (.invokespecial 67, 3) := by decide +kernel
theorem d_SR_move_23 : decode b_SR_move 23 = .ok (.athrow, 1) := by decide +kernel
theorem d_SR_move_24 : decode b_SR_move 24 = .ok (.aload_n 0, 1) := by decide +kernel
theorem d_SR_move_25 : decode b_SR_move 25 = .ok (.getfield 10, 3) := by decide +kernel
theorem d_SR_move_28 : decode b_SR_move 28 = .ok (.getfield 70, 3) := by decide +kernel
theorem d_SR_move_31 : decode b_SR_move 31 = .ok (.bipush 64, 2) := by decide +kernel
theorem d_SR_move_33 : decode b_SR_move 33 = .ok (.if_icmp .ge 16, 3) := by decide +kernel
theorem d_SR_move_36 : decode b_SR_move 36 = .ok (.aload_n 0, 1) := by decide +kernel
theorem d_SR_move_37 : decode b_SR_move 37 = .ok (.getfield 10, 3) := by decide +kernel
theorem d_SR_move_40 : decode b_SR_move 40 = .ok (.getfield 74, 3) := by decide +kernel
theorem d_SR_move_43 : decode b_SR_move 43 = .ok (.sipush 1024, 3) := by decide +kernel
theorem d_SR_move_46 : decode b_SR_move 46 = .ok (.if_icmp .lt 13, 3) := by decide +kernel
theorem d_SR_move_49 : decode b_SR_move 49 = .ok (.new 77, 3) := by decide +kernel
theorem d_SR_move_52 : decode b_SR_move 52 = .ok (.dup, 1) := by decide +kernel
theorem d_SR_move_53 : decode b_SR_move 53 = .ok (.ldc 79, 2) := by decide +kernel
theorem d_SR_move_55 : decode b_SR_move 55 = .ok (.invokespecial 81, 3) := by decide +kernel
theorem d_SR_move_58 : decode b_SR_move 58 = .ok (.athrow, 1) := by decide +kernel
theorem d_SR_move_59 : decode b_SR_move 59 = .ok (.aload_n 0, 1) := by decide +kernel
theorem d_SR_move_60 : decode b_SR_move 60 = .ok (.getfield 10, 3) := by decide +kernel
theorem d_SR_move_63 : decode b_SR_move 63 = .ok (.iload_n 1, 1) := by decide +kernel
theorem d_SR_move_64 : decode b_SR_move 64 = .ok (.iload_n 2, 1) := by decide +kernel
theorem d_SR_move_65 : decode b_SR_move 65 = .ok (.invokevirtual 82, 3) := by decide +kernel
theorem d_SR_move_68 : decode b_SR_move 68 = .ok (.aload_n 0, 1) := by decide +kernel
theorem d_SR_move_69 : decode b_SR_move 69 = .ok (.invokevirtual 86, 3) := by decide +kernel
theorem d_SR_move_72 : decode b_SR_move 72 = .ok (.aload_n 0, 1) := by decide +kernel
theorem d_SR_move_73 : decode b_SR_move 73 = .ok (.getfield 10, 3) := by decide +kernel
theorem d_SR_move_76 : decode b_SR_move 76 = .ok (.getfield 70, 3) := by decide +kernel
theorem d_SR_move_79 : decode b_SR_move 79 = .ok (.ireturn, 1) := by decide +kernel
theorem d_SR_line_0 : decode b_SR_line 0 = .ok (.iload_n 1, 1) := by decide +kernel
theorem d_SR_line_1 : decode b_SR_line 1 = .ok (.invokestatic 59, 3) := by decide +kernel
theorem d_SR_line_4 : decode b_SR_line 4 = .ok (.ifCond .eq 10, 3) := by decide +kernel
theorem d_SR_line_7 : decode b_SR_line 7 = .ok (.iload_n 2, 1) := by decide +kernel
theorem d_SR_line_8 : decode b_SR_line 8 = .ok (.invokestatic 59, 3) := by decide +kernel
theorem d_SR_line_11 : decode b_SR_line 11 = .ok (.ifCond .ne 13, 3) := by decide +kernel
theorem d_SR_line_14 : decode b_SR_line 14 = .ok (.new 63, 3) := by decide +kernel
theorem d_SR_line_17 : decode b_SR_line 17 = .ok (.dup, 1) := by decide +kernel
theorem d_SR_line_18 : decode b_SR_line 18 = .ok (.ldc 65, 2) := by decide +kernel
theorem d_SR_line_20 : decode b_SR_line 20 = .ok (.invokespecial 67, 3) := by decide +kernel
theorem d_SR_line_23 : decode b_SR_line 23 = .ok (.athrow, 1) := by decide +kernel
theorem d_SR_line_24 : decode b_SR_line 24 = .ok (.aload_n 0, 1) := by decide +kernel
theorem d_SR_line_25 : decode b_SR_line 25 = .ok (.getfield 10, 3) := by decide +kernel
theorem d_SR_line_28 : decode b_SR_line 28 = .ok (.iconst 1, 1) := by decide +kernel
theorem d_SR_line_29 : decode b_SR_line 29 = .ok (.invokevirtual 89, 3) := by decide +kernel
theorem d_SR_line_32 : decode b_SR_line 32 = .ok (.ifCond .ne 13, 3) := by decide +kernel
theorem d_SR_line_35 : decode b_SR_line 35 = .ok (.new 77, 3) := by decide +kernel
theorem d_SR_line_38 : decode b_SR_line 38 = .ok (.dup, 1) := by decide +kernel
theorem d_SR_line_39 : decode b_SR_line 39 = .ok (.ldc 92, 2) := by decide +kernel
theorem d_SR_line_41 : decode b_SR_line 41 = .ok (.invokespecial 81, 3) := by decide +kernel
theorem d_SR_line_44 : decode b_SR_line 44 = .ok (.athrow, 1) := by decide +kernel
theorem d_SR_line_45 : decode b_SR_line 45 = .ok (.aload_n 0, 1) := by decide +kernel
theorem d_SR_line_46 : decode b_SR_line 46 = .ok (.getfield 10, 3) := by decide +kernel
theorem d_SR_line_49 : decode b_SR_line 49 = .ok (.iload_n 1, 1) := by decide +kernel
theorem d_SR_line_50 : decode b_SR_line 50 = .ok (.iload_n 2, 1) := by decide +kernel
theorem d_SR_line_51 : decode b_SR_line 51 = .ok (.invokevirtual 94, 3) := by decide +kernel
theorem d_SR_line_54 : decode b_SR_line 54 = .ok (.aload_n 0, 1) := by decide +kernel
theorem d_SR_line_55 : decode b_SR_line 55 = .ok (.invokevirtual 86, 3) := by decide +kernel
theorem d_SR_line_58 : decode b_SR_line 58 = .ok (.aload_n 0, 1) := by decide +kernel
theorem d_SR_line_59 : decode b_SR_line 59 = .ok (.getfield 10, 3) := by decide +kernel
theorem d_SR_line_62 : decode b_SR_line 62 = .ok (.getfield 74, 3) := by decide +kernel
theorem d_SR_line_65 : decode b_SR_line 65 = .ok (.ireturn, 1) := by decide +kernel
theorem d_SR_control_0 : decode b_SR_control 0 = .ok (.iload_n 1, 1) := by decide +kernel
theorem d_SR_control_1 : decode b_SR_control 1 = .ok (.invokestatic 59, 3) := by decide +kernel
theorem d_SR_control_4 : decode b_SR_control 4 = .ok (.ifCond .eq 25, 3) := by decide +kernel
theorem d_SR_control_7 : decode b_SR_control 7 = .ok (.iload_n 2, 1) := by decide +kernel
theorem d_SR_control_8 : decode b_SR_control 8 = .ok (.invokestatic 59, 3) := by decide +kernel
theorem d_SR_control_11 : decode b_SR_control 11 = .ok (.ifCond .eq 18, 3) := by decide +kernel
theorem d_SR_control_14 : decode b_SR_control 14 = .ok (.iload_n 3, 1) := by decide +kernel
theorem d_SR_control_15 : decode b_SR_control 15 = .ok (.invokestatic 59, 3) := by decide +kernel
theorem d_SR_control_18 : decode b_SR_control 18 = .ok (.ifCond .eq 11, 3) := by decide +kernel
theorem d_SR_control_21 : decode b_SR_control 21 = .ok (.iload 4, 2) := by decide +kernel
theorem d_SR_control_23 : decode b_SR_control 23 = .ok (.invokestatic 59, 3) := by decide +kernel
theorem d_SR_control_26 : decode b_SR_control 26 = .ok (.ifCond .ne 13, 3) := by decide +kernel
theorem d_SR_control_29 : decode b_SR_control 29 = .ok (.new 63, 3) := by decide +kernel
theorem d_SR_control_32 : decode b_SR_control 32 = .ok (.dup, 1) := by decide +kernel
theorem d_SR_control_33 : decode b_SR_control 33 = .ok (.ldc 65, 2) := by decide +kernel
theorem d_SR_control_35 : decode b_SR_control 35 = .ok (.invokespecial 67, 3) := by decide +kernel
theorem d_SR_control_38 : decode b_SR_control 38 = .ok (.athrow, 1) := by decide +kernel
theorem d_SR_control_39 : decode b_SR_control 39 = .ok (.aload_n 0, 1) := by decide +kernel
theorem d_SR_control_40 : decode b_SR_control 40 = .ok (.iload_n 1, 1) := by decide +kernel
theorem d_SR_control_41 : decode b_SR_control 41 = .ok (.putfield 97, 3) := by decide +kernel
theorem d_SR_control_44 : decode b_SR_control 44 = .ok (.aload_n 0, 1) := by decide +kernel
theorem d_SR_control_45 : decode b_SR_control 45 = .ok (.iload_n 2, 1) := by decide +kernel
theorem d_SR_control_46 : decode b_SR_control 46 = .ok (.putfield 100, 3) := by decide +kernel
theorem d_SR_control_49 : decode b_SR_control 49 = .ok (.aload_n 0, 1) := by decide +kernel
theorem d_SR_control_50 : decode b_SR_control 50 = .ok (.iload_n 3, 1) := by decide +kernel
theorem d_SR_control_51 : decode b_SR_control 51 = .ok (.putfield 103, 3) := by decide +kernel
theorem d_SR_control_54 : decode b_SR_control 54 = .ok (.aload_n 0, 1) := by decide +kernel
theorem d_SR_control_55 : decode b_SR_control 55 = .ok (.iload 4, 2) := by decide +kernel
theorem d_SR_control_57 : decode b_SR_control 57 = .ok (.putfield 106, 3) := by decide +kernel
theorem d_SR_control_60 : decode b_SR_control 60 = .ok (.return_, 1) := by decide +kernel
theorem d_SR_curve_0 : decode b_SR_curve 0 = .ok (.iload_n 1, 1) := by decide +kernel
theorem d_SR_curve_1 : decode b_SR_curve 1 = .ok (.invokestatic 59, 3) := by decide +kernel
theorem d_SR_curve_4 : decode b_SR_curve 4 = .ok (.ifCond .eq 10, 3) := by decide +kernel
theorem d_SR_curve_7 : decode b_SR_curve 7 = .ok (.iload_n 2, 1) := by decide +kernel
theorem d_SR_curve_8 : decode b_SR_curve 8 = .ok (.invokestatic 59, 3) := by decide +kernel
theorem d_SR_curve_11 : decode b_SR_curve 11 = .ok (.ifCond .ne 13, 3) := by decide +kernel
theorem d_SR_curve_14 : decode b_SR_curve 14 = .ok (.new 63, 3) := by decide +kernel
theorem d_SR_curve_17 : decode b_SR_curve 17 = .ok (.dup, 1) := by decide +kernel
theorem d_SR_curve_18 : decode b_SR_curve 18 = .ok (.ldc 65, 2) := by decide +kernel
theorem d_SR_curve_20 : decode b_SR_curve 20 = .ok (.invokespecial 67, 3) := by decide +kernel
theorem d_SR_curve_23 : decode b_SR_curve 23 = .ok (.athrow, 1) := by decide +kernel
theorem d_SR_curve_24 : decode b_SR_curve 24 = .ok (.aload_n 0, 1) := by decide +kernel
theorem d_SR_curve_25 : decode b_SR_curve 25 = .ok (.getfield 10, 3) := by decide +kernel
theorem d_SR_curve_28 : decode b_SR_curve 28 = .ok (.bipush 16, 2) := by decide +kernel
theorem d_SR_curve_30 : decode b_SR_curve 30 = .ok (.invokevirtual 89, 3) := by decide +kernel
theorem d_SR_curve_33 : decode b_SR_curve 33 = .ok (.ifCond .ne 13, 3) := by decide +kernel
theorem d_SR_curve_36 : decode b_SR_curve 36 = .ok (.new 77, 3) := by decide +kernel
theorem d_SR_curve_39 : decode b_SR_curve 39 = .ok (.dup, 1) := by decide +kernel
theorem d_SR_curve_40 : decode b_SR_curve 40 = .ok (.ldc 92, 2) := by decide +kernel
theorem d_SR_curve_42 : decode b_SR_curve 42 = .ok (.invokespecial 81, 3) := by decide +kernel
theorem d_SR_curve_45 : decode b_SR_curve 45 = .ok (.athrow, 1) := by decide +kernel
theorem d_SR_curve_46 : decode b_SR_curve 46 = .ok (.aload_n 0, 1) := by decide +kernel
theorem d_SR_curve_47 : decode b_SR_curve 47 = .ok (.getfield 10, 3) := by decide +kernel
theorem d_SR_curve_50 : decode b_SR_curve 50 = .ok (.aload_n 0, 1) := by decide +kernel
theorem d_SR_curve_51 : decode b_SR_curve 51 = .ok (.getfield 97, 3) := by decide +kernel
theorem d_SR_curve_54 : decode b_SR_curve 54 = .ok (.aload_n 0, 1) := by decide +kernel
theorem d_SR_curve_55 : decode b_SR_curve 55 = .ok (.getfield 100, 3) := by decide +kernel
theorem d_SR_curve_58 : decode b_SR_curve 58 = .ok (.aload_n 0, 1) := by decide +kernel
theorem d_SR_curve_59 : decode b_SR_curve 59 = .ok (.getfield 103, 3) := by decide +kernel
theorem d_SR_curve_62 : decode b_SR_curve 62 = .ok (.aload_n 0, 1) := by decide +kernel
theorem d_SR_curve_63 : decode b_SR_curve 63 = .ok (.getfield 106, 3) := by decide +kernel
theorem d_SR_curve_66 : decode b_SR_curve 66 = .ok (.iload_n 1, 1) := by decide +kernel
theorem d_SR_curve_67 : decode b_SR_curve 67 = .ok (.iload_n 2, 1) := by decide +kernel
theorem d_SR_curve_68 : decode b_SR_curve 68 = .ok (.invokevirtual 109, 3) := by decide +kernel
theorem d_SR_curve_71 : decode b_SR_curve 71 = .ok (.aload_n 0, 1) := by decide +kernel
theorem d_SR_curve_72 : decode b_SR_curve 72 = .ok (.invokevirtual 86, 3) := by decide +kernel
theorem d_SR_curve_75 : decode b_SR_curve 75 = .ok (.aload_n 0, 1) := by decide +kernel
theorem d_SR_curve_76 : decode b_SR_curve 76 = .ok (.getfield 10, 3) := by decide +kernel
theorem d_SR_curve_79 : decode b_SR_curve 79 = .ok (.getfield 74, 3) := by decide +kernel
theorem d_SR_curve_82 : decode b_SR_curve 82 = .ok (.ireturn, 1) := by decide +kernel
theorem d_SR_close_0 : decode b_SR_close 0 = .ok (.aload_n 0, 1) := by decide +kernel
theorem d_SR_close_1 : decode b_SR_close 1 = .ok (.getfield 10, 3) := by decide +kernel
theorem d_SR_close_4 : decode b_SR_close 4 = .ok (.invokevirtual 113, 3) := by decide +kernel
theorem d_SR_close_7 : decode b_SR_close 7 = .ok (.ifCond .ne 13, 3) := by decide +kernel
theorem d_SR_close_10 : decode b_SR_close 10 = .ok (.new 77, 3) := by decide +kernel
theorem d_SR_close_13 : decode b_SR_close 13 = .ok (.dup, 1) := by decide +kernel
theorem d_SR_close_14 : decode b_SR_close 14 = .ok (.ldc 117, 2) := by decide +kernel
theorem d_SR_close_16 : decode b_SR_close 16 = .ok (.invokespecial 81, 3) := by decide +kernel
theorem d_SR_close_19 : decode b_SR_close 19 = .ok (.athrow, 1) := by decide +kernel
theorem d_SR_close_20 : decode b_SR_close 20 = .ok (.aload_n 0, 1) := by decide +kernel
theorem d_SR_close_21 : decode b_SR_close 21 = .ok (.getfield 10, 3) := by decide +kernel
theorem d_SR_close_24 : decode b_SR_close 24 = .ok (.invokevirtual 119, 3) := by decide +kernel
theorem d_SR_close_27 : decode b_SR_close 27 = .ok (.aload_n 0, 1) := by decide +kernel
theorem d_SR_close_28 : decode b_SR_close 28 = .ok (.invokevirtual 86, 3) := by decide +kernel
theorem d_SR_close_31 : decode b_SR_close 31 = .ok (.aload_n 0, 1) := by decide +kernel
theorem d_SR_close_32 : decode b_SR_close 32 = .ok (.getfield 10, 3) := by decide +kernel
theorem d_SR_close_35 : decode b_SR_close 35 = .ok (.getfield 122, 3) := by decide +kernel
theorem d_SR_close_38 : decode b_SR_close 38 = .ok (.ireturn, 1) := by decide +kernel
theorem d_SR_clear_0 : decode b_SR_clear 0 = .ok (.aload_n 0, 1) := by decide +kernel
theorem d_SR_clear_1 : decode b_SR_clear 1 = .ok (.getfield 10, 3) := by decide +kernel
theorem d_SR_clear_4 : decode b_SR_clear 4 = .ok (.getfield 70, 3) := by decide +kernel
theorem d_SR_clear_7 : decode b_SR_clear 7 = .ok (.istore_n 1, 1) := by decide +kernel
theorem d_SR_clear_8 : decode b_SR_clear 8 = .ok (.aload_n 0, 1) := by decide +kernel
theorem d_SR_clear_9 : decode b_SR_clear 9 = .ok (.getfield 10, 3) := by decide +kernel
theorem d_SR_clear_12 : decode b_SR_clear 12 = .ok (.invokevirtual 125, 3) := by decide +kernel
theorem d_SR_clear_15 : decode b_SR_clear 15 = .ok (.aload_n 0, 1) := by decide +kernel
theorem d_SR_clear_16 : decode b_SR_clear 16 = .ok (.invokevirtual 86, 3) := by decide +kernel
theorem d_SR_clear_19 : decode b_SR_clear 19 = .ok (.iload_n 1, 1) := by decide +kernel
theorem d_SR_clear_20 : decode b_SR_clear 20 = .ok (.ireturn, 1) := by decide +kernel
theorem d_SR_pen_0 : decode b_SR_pen 0 = .ok (.iload_n 1, 1) := by decide +kernel
theorem d_SR_pen_1 : decode b_SR_pen 1 = .ok (.iconst 1, 1) := by decide +kernel
theorem d_SR_pen_2 : decode b_SR_pen 2 = .ok (.if_icmp .lt 43, 3) := by decide +kernel
theorem d_SR_pen_5 : decode b_SR_pen 5 = .ok (.iload_n 1, 1) := by decide +kernel
theorem d_SR_pen_6 : decode b_SR_pen 6 = .ok (.sipush 4096, 3) := by decide +kernel
theorem d_SR_pen_9 : decode b_SR_pen 9 = .ok (.if_icmp .gt 36, 3) := by decide +kernel
theorem d_SR_pen_12 : decode b_SR_pen 12 = .ok (.iload_n 2, 1) := by decide +kernel
theorem d_SR_pen_13 : decode b_SR_pen 13 = .ok (.ifCond .lt 32, 3) := by decide +kernel
theorem d_SR_pen_16 : decode b_SR_pen 16 = .ok (.iload_n 2, 1) := by decide +kernel
theorem d_SR_pen_17 : decode b_SR_pen 17 = .ok (.iconst 2, 1) := by decide +kernel
theorem d_SR_pen_18 : decode b_SR_pen 18 = .ok (.if_icmp .gt 27, 3) := by decide +kernel
theorem d_SR_pen_21 : decode b_SR_pen 21 = .ok (.iload_n 3, 1) := by decide +kernel
theorem d_SR_pen_22 : decode b_SR_pen 22 = .ok (.ifCond .lt 23, 3) := by decide +kernel
theorem d_SR_pen_25 : decode b_SR_pen 25 = .ok (.iload_n 3, 1) := by decide +kernel
theorem d_SR_pen_26 : decode b_SR_pen 26 = .ok (.iconst 2, 1) := by decide +kernel
theorem d_SR_pen_27 : decode b_SR_pen 27 = .ok (.if_icmp .gt 18, 3) := by decide +kernel
theorem d_SR_pen_30 : decode b_SR_pen 30 = .ok (.iload 4, 2) := by decide +kernel
theorem d_SR_pen_32 : decode b_SR_pen 32 = .ok (.bipush 64, 2) := by decide +kernel
theorem d_SR_pen_34 : decode b_SR_pen 34 = .ok (.if_icmp .lt 11, 3) := by decide +kernel
theorem d_SR_pen_37 : decode b_SR_pen 37 = .ok (.iload 4, 2) := by decide +kernel
theorem d_SR_pen_39 : decode b_SR_pen 39 = .ok (.sipush 8192, 3) := by decide +kernel
theorem d_SR_pen_42 : decode b_SR_pen 42 = .ok (.if_icmp .le 13, 3) := by decide +kernel
theorem d_SR_pen_45 : decode b_SR_pen 45 = .ok (.new 63, 3) := by decide +kernel
theorem d_SR_pen_48 : decode b_SR_pen 48 = .ok (.dup, 1) := by decide +kernel
theorem d_SR_pen_49 : decode b_SR_pen 49 = .ok (.ldc 128, 2) := by decide +kernel
theorem d_SR_pen_51 : decode b_SR_pen 51 = .ok (.invokespecial 67, 3) := by decide +kernel
theorem d_SR_pen_54 : decode b_SR_pen 54 = .ok (.athrow, 1) := by decide +kernel
theorem d_SR_pen_55 : decode b_SR_pen 55 = .ok (.aload_n 0, 1) := by decide +kernel
theorem d_SR_pen_56 : decode b_SR_pen 56 = .ok (.getfield 19, 3) := by decide +kernel
theorem d_SR_pen_59 : decode b_SR_pen 59 = .ok (.iload_n 1, 1) := by decide +kernel
theorem d_SR_pen_60 : decode b_SR_pen 60 = .ok (.iload_n 2, 1) := by decide +kernel
theorem d_SR_pen_61 : decode b_SR_pen 61 = .ok (.iload_n 3, 1) := by decide +kernel
theorem d_SR_pen_62 : decode b_SR_pen 62 = .ok (.iload 4, 2) := by decide +kernel
theorem d_SR_pen_64 : decode b_SR_pen 64 = .ok (.invokevirtual 130, 3) := by decide +kernel
theorem d_SR_pen_67 : decode b_SR_pen 67 = .ok (.aload_n 0, 1) := by decide +kernel
theorem d_SR_pen_68 : decode b_SR_pen 68 = .ok (.invokevirtual 86, 3) := by decide +kernel
theorem d_SR_pen_71 : decode b_SR_pen 71 = .ok (.return_, 1) := by decide +kernel
theorem d_SR_dash_0 : decode b_SR_dash 0 = .ok (.iload_n 1, 1) := by decide +kernel
theorem d_SR_dash_1 : decode b_SR_dash 1 = .ok (.ifCond .lt 10, 3) := by decide +kernel
theorem d_SR_dash_4 : decode b_SR_dash 4 = .ok (.iload_n 1, 1) := by decide +kernel
theorem d_SR_dash_5 : decode b_SR_dash 5 = .ok (.sipush 8192, 3) := by decide +kernel
theorem d_SR_dash_8 : decode b_SR_dash 8 = .ok (.if_icmp .le 13, 3) := by decide +kernel
theorem d_SR_dash_11 : decode b_SR_dash 11 = .ok (.new 63, 3) := by decide +kernel
theorem d_SR_dash_14 : decode b_SR_dash 14 = .ok (.dup, 1) := by decide +kernel
theorem d_SR_dash_15 : decode b_SR_dash 15 = .ok (.ldc 134, 2) := by decide +kernel
theorem d_SR_dash_17 : decode b_SR_dash 17 = .ok (.invokespecial 67, 3) := by decide +kernel
theorem d_SR_dash_20 : decode b_SR_dash 20 = .ok (.athrow, 1) := by decide +kernel
theorem d_SR_dash_21 : decode b_SR_dash 21 = .ok (.aload_n 0, 1) := by decide +kernel
theorem d_SR_dash_22 : decode b_SR_dash 22 = .ok (.getfield 19, 3) := by decide +kernel
theorem d_SR_dash_25 : decode b_SR_dash 25 = .ok (.getfield 136, 3) := by decide +kernel
theorem d_SR_dash_28 : decode b_SR_dash 28 = .ok (.bipush 8, 2) := by decide +kernel
theorem d_SR_dash_30 : decode b_SR_dash 30 = .ok (.if_icmp .lt 13, 3) := by decide +kernel
theorem d_SR_dash_33 : decode b_SR_dash 33 = .ok (.new 77, 3) := by decide +kernel
theorem d_SR_dash_36 : decode b_SR_dash 36 = .ok (.dup, 1) := by decide +kernel
theorem d_SR_dash_37 : decode b_SR_dash 37 = .ok (.ldc 139, 2) := by decide +kernel
theorem d_SR_dash_39 : decode b_SR_dash 39 = .ok (.invokespecial 81, 3) := by decide +kernel
theorem d_SR_dash_42 : decode b_SR_dash 42 = .ok (.athrow, 1) := by decide +kernel
theorem d_SR_dash_43 : decode b_SR_dash 43 = .ok (.aload_n 0, 1) := by decide +kernel
theorem d_SR_dash_44 : decode b_SR_dash 44 = .ok (.getfield 19, 3) := by decide +kernel
theorem d_SR_dash_47 : decode b_SR_dash 47 = .ok (.iload_n 1, 1) := by decide +kernel
theorem d_SR_dash_48 : decode b_SR_dash 48 = .ok (.invokevirtual 141, 3) := by decide +kernel
theorem d_SR_dash_51 : decode b_SR_dash 51 = .ok (.aload_n 0, 1) := by decide +kernel
theorem d_SR_dash_52 : decode b_SR_dash 52 = .ok (.invokevirtual 86, 3) := by decide +kernel
theorem d_SR_dash_55 : decode b_SR_dash 55 = .ok (.aload_n 0, 1) := by decide +kernel
theorem d_SR_dash_56 : decode b_SR_dash 56 = .ok (.getfield 19, 3) := by decide +kernel
theorem d_SR_dash_59 : decode b_SR_dash 59 = .ok (.getfield 136, 3) := by decide +kernel
theorem d_SR_dash_62 : decode b_SR_dash 62 = .ok (.ireturn, 1) := by decide +kernel
theorem d_SR_plain_0 : decode b_SR_plain 0 = .ok (.iload_n 1, 1) := by decide +kernel
theorem d_SR_plain_1 : decode b_SR_plain 1 = .ok (.ifCond .lt 9, 3) := by decide +kernel
theorem d_SR_plain_4 : decode b_SR_plain 4 = .ok (.iload_n 1, 1) := by decide +kernel
theorem d_SR_plain_5 : decode b_SR_plain 5 = .ok (.ldc 145, 2) := by decide +kernel
theorem d_SR_plain_7 : decode b_SR_plain 7 = .ok (.if_icmp .le 13, 3) := by decide +kernel
theorem d_SR_plain_10 : decode b_SR_plain 10 = .ok (.new 63, 3) := by decide +kernel
theorem d_SR_plain_13 : decode b_SR_plain 13 = .ok (.dup, 1) := by decide +kernel
theorem d_SR_plain_14 : decode b_SR_plain 14 = .ok (.ldc 146, 2) := by decide +kernel
theorem d_SR_plain_16 : decode b_SR_plain 16 = .ok (.invokespecial 67, 3) := by decide +kernel
theorem d_SR_plain_19 : decode b_SR_plain 19 = .ok (.athrow, 1) := by decide +kernel
theorem d_SR_plain_20 : decode b_SR_plain 20 = .ok (.aload_n 0, 1) := by decide +kernel
theorem d_SR_plain_21 : decode b_SR_plain 21 = .ok (.getfield 19, 3) := by decide +kernel
theorem d_SR_plain_24 : decode b_SR_plain 24 = .ok (.getfield 136, 3) := by decide +kernel
theorem d_SR_plain_27 : decode b_SR_plain 27 = .ok (.istore_n 2, 1) := by decide +kernel
theorem d_SR_plain_28 : decode b_SR_plain 28 = .ok (.aload_n 0, 1) := by decide +kernel
theorem d_SR_plain_29 : decode b_SR_plain 29 = .ok (.getfield 19, 3) := by decide +kernel
theorem d_SR_plain_32 : decode b_SR_plain 32 = .ok (.iload_n 1, 1) := by decide +kernel
theorem d_SR_plain_33 : decode b_SR_plain 33 = .ok (.invokevirtual 148, 3) := by decide +kernel
theorem d_SR_plain_36 : decode b_SR_plain 36 = .ok (.aload_n 0, 1) := by decide +kernel
theorem d_SR_plain_37 : decode b_SR_plain 37 = .ok (.invokevirtual 86, 3) := by decide +kernel
theorem d_SR_plain_40 : decode b_SR_plain 40 = .ok (.iload_n 2, 1) := by decide +kernel
theorem d_SR_plain_41 : decode b_SR_plain 41 = .ok (.ireturn, 1) := by decide +kernel
theorem d_SR_count_0 : decode b_SR_count 0 = .ok (.iload_n 1, 1) := by decide +kernel
theorem d_SR_count_1 : decode b_SR_count 1 = .ok (.tableswitch 93 0 3 #[31, 39, 47, 77], 31) := by decide +kernel
theorem d_SR_count_32 : decode b_SR_count 32 = .ok (.aload_n 0, 1) := by decide +kernel
theorem d_SR_count_33 : decode b_SR_count 33 = .ok (.getfield 10, 3) := by decide +kernel
theorem d_SR_count_36 : decode b_SR_count 36 = .ok (.getfield 70, 3) := by decide +kernel
theorem d_SR_count_39 : decode b_SR_count 39 = .ok (.ireturn, 1) := by decide +kernel
theorem d_SR_count_40 : decode b_SR_count 40 = .ok (.aload_n 0, 1) := by decide +kernel
theorem d_SR_count_41 : decode b_SR_count 41 = .ok (.getfield 10, 3) := by decide +kernel
theorem d_SR_count_44 : decode b_SR_count 44 = .ok (.getfield 74, 3) := by decide +kernel
theorem d_SR_count_47 : decode b_SR_count 47 = .ok (.ireturn, 1) := by decide +kernel
theorem d_SR_count_48 : decode b_SR_count 48 = .ok (.aload_n 0, 1) := by decide +kernel
theorem d_SR_count_49 : decode b_SR_count 49 = .ok (.getfield 35, 3) := by decide +kernel
theorem d_SR_count_52 : decode b_SR_count 52 = .ok (.invokevirtual 151, 3) := by decide +kernel
theorem d_SR_count_55 : decode b_SR_count 55 = .ok (.aload_n 0, 1) := by decide +kernel
theorem d_SR_count_56 : decode b_SR_count 56 = .ok (.getfield 26, 3) := by decide +kernel
theorem d_SR_count_59 : decode b_SR_count 59 = .ok (.getfield 154, 3) := by decide +kernel
theorem d_SR_count_62 : decode b_SR_count 62 = .ok (.ifCond .eq 8, 3) := by decide +kernel
theorem d_SR_count_65 : decode b_SR_count 65 = .ok (.bipush (-2), 2) := by decide +kernel
theorem d_SR_count_67 : decode b_SR_count 67 = .ok (.goto 10, 3) := by decide +kernel
theorem d_SR_count_70 : decode b_SR_count 70 = .ok (.aload_n 0, 1) := by decide +kernel
theorem d_SR_count_71 : decode b_SR_count 71 = .ok (.getfield 26, 3) := by decide +kernel
theorem d_SR_count_74 : decode b_SR_count 74 = .ok (.getfield 158, 3) := by decide +kernel
theorem d_SR_count_77 : decode b_SR_count 77 = .ok (.ireturn, 1) := by decide +kernel
theorem d_SR_count_78 : decode b_SR_count 78 = .ok (.aload_n 0, 1) := by decide +kernel
theorem d_SR_count_79 : decode b_SR_count 79 = .ok (.getfield 35, 3) := by decide +kernel
theorem d_SR_count_82 : decode b_SR_count 82 = .ok (.invokevirtual 151, 3) := by decide +kernel
theorem d_SR_count_85 : decode b_SR_count 85 = .ok (.aload_n 0, 1) := by decide +kernel
theorem d_SR_count_86 : decode b_SR_count 86 = .ok (.invokevirtual 161, 3) := by decide +kernel
theorem d_SR_count_89 : decode b_SR_count 89 = .ok (.aload_n 0, 1) := by decide +kernel
theorem d_SR_count_90 : decode b_SR_count 90 = .ok (.invokevirtual 164, 3) := by decide +kernel
theorem d_SR_count_93 : decode b_SR_count 93 = .ok (.ireturn, 1) := by decide +kernel
theorem d_SR_count_94 : decode b_SR_count 94 = .ok (.iconst (-1), 1) := by decide +kernel
theorem d_SR_count_95 : decode b_SR_count 95 = .ok (.ireturn, 1) := by decide +kernel
theorem d_SR_has_0 : decode b_SR_has 0 = .ok (.iload_n 1, 1) := by decide +kernel
theorem d_SR_has_1 : decode b_SR_has 1 = .ok (.sipush (-16384), 3) := by decide +kernel
theorem d_SR_has_4 : decode b_SR_has 4 = .ok (.if_icmp .lt 24, 3) := by decide +kernel
theorem d_SR_has_7 : decode b_SR_has 7 = .ok (.iload_n 1, 1) := by decide +kernel
theorem d_SR_has_8 : decode b_SR_has 8 = .ok (.sipush 16384, 3) := by decide +kernel
theorem d_SR_has_11 : decode b_SR_has 11 = .ok (.if_icmp .ge 17, 3) := by decide +kernel
theorem d_SR_has_14 : decode b_SR_has 14 = .ok (.iload_n 2, 1) := by decide +kernel
theorem d_SR_has_15 : decode b_SR_has 15 = .ok (.sipush (-16384), 3) := by decide +kernel
theorem d_SR_has_18 : decode b_SR_has 18 = .ok (.if_icmp .lt 10, 3) := by decide +kernel
theorem d_SR_has_21 : decode b_SR_has 21 = .ok (.iload_n 2, 1) := by decide +kernel
theorem d_SR_has_22 : decode b_SR_has 22 = .ok (.sipush 16384, 3) := by decide +kernel
theorem d_SR_has_25 : decode b_SR_has 25 = .ok (.if_icmp .lt 13, 3) := by decide +kernel
theorem d_SR_has_28 : decode b_SR_has 28 = .ok (.new 63, 3) := by decide +kernel
theorem d_SR_has_31 : decode b_SR_has 31 = .ok (.dup, 1) := by decide +kernel
theorem d_SR_has_32 : decode b_SR_has 32 = .ok (.ldc 65, 2) := by decide +kernel
theorem d_SR_has_34 : decode b_SR_has 34 = .ok (.invokespecial 67, 3) := by decide +kernel
theorem d_SR_has_37 : decode b_SR_has 37 = .ok (.athrow, 1) := by decide +kernel
theorem d_SR_has_38 : decode b_SR_has 38 = .ok (.aload_n 0, 1) := by decide +kernel
theorem d_SR_has_39 : decode b_SR_has 39 = .ok (.getfield 35, 3) := by decide +kernel
theorem d_SR_has_42 : decode b_SR_has 42 = .ok (.invokevirtual 151, 3) := by decide +kernel
theorem d_SR_has_45 : decode b_SR_has 45 = .ok (.aload_n 0, 1) := by decide +kernel
theorem d_SR_has_46 : decode b_SR_has 46 = .ok (.getfield 42, 3) := by decide +kernel
theorem d_SR_has_49 : decode b_SR_has 49 = .ok (.bipush 16, 2) := by decide +kernel
theorem d_SR_has_51 : decode b_SR_has 51 = .ok (.iload_n 1, 1) := by decide +kernel
theorem d_SR_has_52 : decode b_SR_has 52 = .ok (.imul, 1) := by decide +kernel
theorem d_SR_has_53 : decode b_SR_has 53 = .ok (.iconst 1, 1) := by decide +kernel
theorem d_SR_has_54 : decode b_SR_has 54 = .ok (.iconst 1, 1) := by decide +kernel
theorem d_SR_has_55 : decode b_SR_has 55 = .ok (.invokevirtual 168, 3) := by decide +kernel
theorem d_SR_has_58 : decode b_SR_has 58 = .ok (.aload_n 0, 1) := by decide +kernel
theorem d_SR_has_59 : decode b_SR_has 59 = .ok (.getfield 42, 3) := by decide +kernel
theorem d_SR_has_62 : decode b_SR_has 62 = .ok (.bipush 16, 2) := by decide +kernel
theorem d_SR_has_64 : decode b_SR_has 64 = .ok (.iload_n 2, 1) := by decide +kernel
theorem d_SR_has_65 : decode b_SR_has 65 = .ok (.imul, 1) := by decide +kernel
theorem d_SR_has_66 : decode b_SR_has 66 = .ok (.iconst 1, 1) := by decide +kernel
theorem d_SR_has_67 : decode b_SR_has 67 = .ok (.iconst 1, 1) := by decide +kernel
theorem d_SR_has_68 : decode b_SR_has 68 = .ok (.invokevirtual 172, 3) := by decide +kernel
theorem d_SR_has_71 : decode b_SR_has 71 = .ok (.aload_n 0, 1) := by decide +kernel
theorem d_SR_has_72 : decode b_SR_has 72 = .ok (.getfield 51, 3) := by decide +kernel
theorem d_SR_has_75 : decode b_SR_has 75 = .ok (.invokevirtual 175, 3) := by decide +kernel
theorem d_SR_has_78 : decode b_SR_has 78 = .ok (.aload_n 0, 1) := by decide +kernel
theorem d_SR_has_79 : decode b_SR_has 79 = .ok (.getfield 42, 3) := by decide +kernel
theorem d_SR_has_82 : decode b_SR_has 82 = .ok (.iconst 0, 1) := by decide +kernel
theorem d_SR_has_83 : decode b_SR_has 83 = .ok (.invokevirtual 178, 3) := by decide +kernel
theorem d_SR_has_86 : decode b_SR_has 86 = .ok (.lconst 0, 1) := by decide +kernel
theorem d_SR_has_87 : decode b_SR_has 87 = .ok (.lcmp, 1) := by decide +kernel
theorem d_SR_has_88 : decode b_SR_has 88 = .ok (.ifCond .eq 7, 3) := by decide +kernel
theorem d_SR_has_91 : decode b_SR_has 91 = .ok (.iconst 1, 1) := by decide +kernel
theorem d_SR_has_92 : decode b_SR_has 92 = .ok (.goto 4, 3) := by decide +kernel
theorem d_SR_has_95 : decode b_SR_has 95 = .ok (.iconst 0, 1) := by decide +kernel
theorem d_SR_has_96 : decode b_SR_has 96 = .ok (.ireturn, 1) := by decide +kernel
theorem d_SR_row_0 : decode b_SR_row 0 = .ok (.iload_n 1, 1) := by decide +kernel
theorem d_SR_row_1 : decode b_SR_row 1 = .ok (.invokestatic 182, 3) := by decide +kernel
theorem d_SR_row_4 : decode b_SR_row 4 = .ok (.ifCond .ne 13, 3) := by decide +kernel
theorem d_SR_row_7 : decode b_SR_row 7 = .ok (.new 185, 3) := by decide +kernel
theorem d_SR_row_10 : decode b_SR_row 10 = .ok (.dup, 1) := by decide +kernel
theorem d_SR_row_11 : decode b_SR_row 11 = .ok (.ldc 187, 2) := by decide +kernel
theorem d_SR_row_13 : decode b_SR_row 13 = .ok (.invokespecial 189, 3) := by decide +kernel
theorem d_SR_row_16 : decode b_SR_row 16 = .ok (.athrow, 1) := by decide +kernel
theorem d_SR_row_17 : decode b_SR_row 17 = .ok (.aload_n 0, 1) := by decide +kernel
theorem d_SR_row_18 : decode b_SR_row 18 = .ok (.getfield 190, 3) := by decide +kernel
theorem d_SR_row_21 : decode b_SR_row 21 = .ok (.iload_n 1, 1) := by decide +kernel
theorem d_SR_row_22 : decode b_SR_row 22 = .ok (.lushr, 1) := by decide +kernel
theorem d_SR_row_23 : decode b_SR_row 23 = .ok (.lconst 1, 1) := by decide +kernel
theorem d_SR_row_24 : decode b_SR_row 24 = .ok (.land, 1) := by decide +kernel
theorem d_SR_row_25 : decode b_SR_row 25 = .ok (.lconst 0, 1) := by decide +kernel
theorem d_SR_row_26 : decode b_SR_row 26 = .ok (.lcmp, 1) := by decide +kernel
theorem d_SR_row_27 : decode b_SR_row 27 = .ok (.ifCond .ne 77, 3) := by decide +kernel
theorem d_SR_row_30 : decode b_SR_row 30 = .ok (.aload_n 0, 1) := by decide +kernel
theorem d_SR_row_31 : decode b_SR_row 31 = .ok (.getfield 35, 3) := by decide +kernel
theorem d_SR_row_34 : decode b_SR_row 34 = .ok (.invokevirtual 151, 3) := by decide +kernel
theorem d_SR_row_37 : decode b_SR_row 37 = .ok (.aload_n 0, 1) := by decide +kernel
theorem d_SR_row_38 : decode b_SR_row 38 = .ok (.getfield 42, 3) := by decide +kernel
theorem d_SR_row_41 : decode b_SR_row 41 = .ok (.sipush 512, 3) := by decide +kernel
theorem d_SR_row_44 : decode b_SR_row 44 = .ok (.sipush 1024, 3) := by decide +kernel
theorem d_SR_row_47 : decode b_SR_row 47 = .ok (.bipush 64, 2) := by decide +kernel
theorem d_SR_row_49 : decode b_SR_row 49 = .ok (.invokevirtual 168, 3) := by decide +kernel
theorem d_SR_row_52 : decode b_SR_row 52 = .ok (.aload_n 0, 1) := by decide +kernel
theorem d_SR_row_53 : decode b_SR_row 53 = .ok (.getfield 42, 3) := by decide +kernel
theorem d_SR_row_56 : decode b_SR_row 56 = .ok (.iload_n 1, 1) := by decide +kernel
theorem d_SR_row_57 : decode b_SR_row 57 = .ok (.invokestatic 194, 3) := by decide +kernel
theorem d_SR_row_60 : decode b_SR_row 60 = .ok (.sipush 512, 3) := by decide +kernel
theorem d_SR_row_63 : decode b_SR_row 63 = .ok (.iadd, 1) := by decide +kernel
theorem d_SR_row_64 : decode b_SR_row 64 = .ok (.sipush 1024, 3) := by decide +kernel
theorem d_SR_row_67 : decode b_SR_row 67 = .ok (.iconst 1, 1) := by decide +kernel
theorem d_SR_row_68 : decode b_SR_row 68 = .ok (.invokevirtual 172, 3) := by decide +kernel
theorem d_SR_row_71 : decode b_SR_row 71 = .ok (.aload_n 0, 1) := by decide +kernel
theorem d_SR_row_72 : decode b_SR_row 72 = .ok (.getfield 51, 3) := by decide +kernel
theorem d_SR_row_75 : decode b_SR_row 75 = .ok (.invokevirtual 175, 3) := by decide +kernel
theorem d_SR_row_78 : decode b_SR_row 78 = .ok (.aload_n 0, 1) := by decide +kernel
theorem d_SR_row_79 : decode b_SR_row 79 = .ok (.getfield 55, 3) := by decide +kernel
theorem d_SR_row_82 : decode b_SR_row 82 = .ok (.iload_n 1, 1) := by decide +kernel
theorem d_SR_row_83 : decode b_SR_row 83 = .ok (.aload_n 0, 1) := by decide +kernel
theorem d_SR_row_84 : decode b_SR_row 84 = .ok (.getfield 42, 3) := by decide +kernel
theorem d_SR_row_87 : decode b_SR_row 87 = .ok (.iconst 0, 1) := by decide +kernel
theorem d_SR_row_88 : decode b_SR_row 88 = .ok (.invokevirtual 178, 3) := by decide +kernel
theorem d_SR_row_91 : decode b_SR_row 91 = .ok (.lastore, 1) := by decide +kernel
theorem d_SR_row_92 : decode b_SR_row 92 = .ok (.aload_n 0, 1) := by decide +kernel
theorem d_SR_row_93 : decode b_SR_row 93 = .ok (.dup, 1) := by decide +kernel
theorem d_SR_row_94 : decode b_SR_row 94 = .ok (.getfield 190, 3) := by decide +kernel
theorem d_SR_row_97 : decode b_SR_row 97 = .ok (.lconst 1, 1) := by decide +kernel
theorem d_SR_row_98 : decode b_SR_row 98 = .ok (.iload_n 1, 1) := by decide +kernel
theorem d_SR_row_99 : decode b_SR_row 99 = .ok (.lshl, 1) := by decide +kernel
theorem d_SR_row_100 : decode b_SR_row 100 = .ok (.lor, 1) := by decide +kernel
theorem d_SR_row_101 : decode b_SR_row 101 = .ok (.putfield 190, 3) := by decide +kernel
theorem d_SR_row_104 : decode b_SR_row 104 = .ok (.aload_n 0, 1) := by decide +kernel
theorem d_SR_row_105 : decode b_SR_row 105 = .ok (.getfield 55, 3) := by decide +kernel
theorem d_SR_row_108 : decode b_SR_row 108 = .ok (.iload_n 1, 1) := by decide +kernel
theorem d_SR_row_109 : decode b_SR_row 109 = .ok (.laload, 1) := by decide +kernel
theorem d_SR_row_110 : decode b_SR_row 110 = .ok (.lreturn, 1) := by decide +kernel
theorem d_SR_share_0 : decode b_SR_share 0 = .ok (.iload_n 1, 1) := by decide +kernel
theorem d_SR_share_1 : decode b_SR_share 1 = .ok (.invokestatic 182, 3) := by decide +kernel
theorem d_SR_share_4 : decode b_SR_share 4 = .ok (.ifCond .eq 10, 3) := by decide +kernel
theorem d_SR_share_7 : decode b_SR_share 7 = .ok (.iload_n 2, 1) := by decide +kernel
theorem d_SR_share_8 : decode b_SR_share 8 = .ok (.invokestatic 182, 3) := by decide +kernel
theorem d_SR_share_11 : decode b_SR_share 11 = .ok (.ifCond .ne 13, 3) := by decide +kernel
theorem d_SR_share_14 : decode b_SR_share 14 = .ok (.new 185, 3) := by decide +kernel
theorem d_SR_share_17 : decode b_SR_share 17 = .ok (.dup, 1) := by decide +kernel
theorem d_SR_share_18 : decode b_SR_share 18 = .ok (.ldc 198, 2) := by decide +kernel
theorem d_SR_share_20 : decode b_SR_share 20 = .ok (.invokespecial 189, 3) := by decide +kernel
theorem d_SR_share_23 : decode b_SR_share 23 = .ok (.athrow, 1) := by decide +kernel
theorem d_SR_share_24 : decode b_SR_share 24 = .ok (.aload_n 0, 1) := by decide +kernel
theorem d_SR_share_25 : decode b_SR_share 25 = .ok (.getfield 35, 3) := by decide +kernel
theorem d_SR_share_28 : decode b_SR_share 28 = .ok (.invokevirtual 151, 3) := by decide +kernel
theorem d_SR_share_31 : decode b_SR_share 31 = .ok (.aload_n 0, 1) := by decide +kernel
theorem d_SR_share_32 : decode b_SR_share 32 = .ok (.getfield 42, 3) := by decide +kernel
theorem d_SR_share_35 : decode b_SR_share 35 = .ok (.sipush 1024, 3) := by decide +kernel
theorem d_SR_share_38 : decode b_SR_share 38 = .ok (.iload_n 1, 1) := by decide +kernel
theorem d_SR_share_39 : decode b_SR_share 39 = .ok (.imul, 1) := by decide +kernel
theorem d_SR_share_40 : decode b_SR_share 40 = .ok (.sipush 128, 3) := by decide +kernel
theorem d_SR_share_43 : decode b_SR_share 43 = .ok (.iadd, 1) := by decide +kernel
theorem d_SR_share_44 : decode b_SR_share 44 = .ok (.sipush 256, 3) := by decide +kernel
theorem d_SR_share_47 : decode b_SR_share 47 = .ok (.iconst 4, 1) := by decide +kernel
theorem d_SR_share_48 : decode b_SR_share 48 = .ok (.invokevirtual 168, 3) := by decide +kernel
theorem d_SR_share_51 : decode b_SR_share 51 = .ok (.aload_n 0, 1) := by decide +kernel
theorem d_SR_share_52 : decode b_SR_share 52 = .ok (.getfield 42, 3) := by decide +kernel
theorem d_SR_share_55 : decode b_SR_share 55 = .ok (.iload_n 2, 1) := by decide +kernel
theorem d_SR_share_56 : decode b_SR_share 56 = .ok (.invokestatic 194, 3) := by decide +kernel
theorem d_SR_share_59 : decode b_SR_share 59 = .ok (.sipush 128, 3) := by decide +kernel
theorem d_SR_share_62 : decode b_SR_share 62 = .ok (.iadd, 1) := by decide +kernel
theorem d_SR_share_63 : decode b_SR_share 63 = .ok (.sipush 256, 3) := by decide +kernel
theorem d_SR_share_66 : decode b_SR_share 66 = .ok (.iconst 4, 1) := by decide +kernel
theorem d_SR_share_67 : decode b_SR_share 67 = .ok (.invokevirtual 172, 3) := by decide +kernel
theorem d_SR_share_70 : decode b_SR_share 70 = .ok (.aload_n 0, 1) := by decide +kernel
theorem d_SR_share_71 : decode b_SR_share 71 = .ok (.getfield 51, 3) := by decide +kernel
theorem d_SR_share_74 : decode b_SR_share 74 = .ok (.invokevirtual 175, 3) := by decide +kernel
theorem d_SR_share_77 : decode b_SR_share 77 = .ok (.iconst 0, 1) := by decide +kernel
theorem d_SR_share_78 : decode b_SR_share 78 = .ok (.istore_n 3, 1) := by decide +kernel
theorem d_SR_share_79 : decode b_SR_share 79 = .ok (.iconst 0, 1) := by decide +kernel
theorem d_SR_share_80 : decode b_SR_share 80 = .ok (.istore 4, 2) := by decide +kernel
theorem d_SR_share_82 : decode b_SR_share 82 = .ok (.iload 4, 2) := by decide +kernel
theorem d_SR_share_84 : decode b_SR_share 84 = .ok (.iconst 4, 1) := by decide +kernel
theorem d_SR_share_85 : decode b_SR_share 85 = .ok (.if_icmp .ge 24, 3) := by decide +kernel
theorem d_SR_share_88 : decode b_SR_share 88 = .ok (.iload_n 3, 1) := by decide +kernel
theorem d_SR_share_89 : decode b_SR_share 89 = .ok (.aload_n 0, 1) := by decide +kernel
theorem d_SR_share_90 : decode b_SR_share 90 = .ok (.getfield 42, 3) := by decide +kernel
theorem d_SR_share_93 : decode b_SR_share 93 = .ok (.iload 4, 2) := by decide +kernel
theorem d_SR_share_95 : decode b_SR_share 95 = .ok (.invokevirtual 178, 3) := by decide +kernel
theorem d_SR_share_98 : decode b_SR_share 98 = .ok (.invokestatic 200, 3) := by decide +kernel
theorem d_SR_share_101 : decode b_SR_share 101 = .ok (.iadd, 1) := by decide +kernel
theorem d_SR_share_102 : decode b_SR_share 102 = .ok (.istore_n 3, 1) := by decide +kernel
theorem d_SR_share_103 : decode b_SR_share 103 = .ok (.iinc 4 1, 3) := by decide +kernel
theorem d_SR_share_106 : decode b_SR_share 106 = .ok (.goto (-24), 3) := by decide +kernel
theorem d_SR_share_109 : decode b_SR_share 109 = .ok (.iload_n 3, 1) := by decide +kernel
theorem d_SR_share_110 : decode b_SR_share 110 = .ok (.ireturn, 1) := by decide +kernel
theorem d_SR_isCoordinate_0 : decode b_SR_isCoordinate 0 = .ok (.iload_n 0, 1) := by decide +kernel
theorem d_SR_isCoordinate_1 : decode b_SR_isCoordinate 1 = .ok (.sipush (-8192), 3) := by decide +kernel
theorem d_SR_isCoordinate_4 : decode b_SR_isCoordinate 4 = .ok (.if_icmp .lt 14, 3) := by decide +kernel
theorem d_SR_isCoordinate_7 : decode b_SR_isCoordinate 7 = .ok (.iload_n 0, 1) := by decide +kernel
theorem d_SR_isCoordinate_8 : decode b_SR_isCoordinate 8 = .ok (.sipush 8191, 3) := by decide +kernel
theorem d_SR_isCoordinate_11 : decode b_SR_isCoordinate 11 = .ok (.if_icmp .gt 7, 3) := by decide +kernel
theorem d_SR_isCoordinate_14 : decode b_SR_isCoordinate 14 = .ok (.iconst 1, 1) := by decide +kernel
theorem d_SR_isCoordinate_15 : decode b_SR_isCoordinate 15 = .ok (.goto 4, 3) := by decide +kernel
theorem d_SR_isCoordinate_18 : decode b_SR_isCoordinate 18 = .ok (.iconst 0, 1) := by decide +kernel
theorem d_SR_isCoordinate_19 : decode b_SR_isCoordinate 19 = .ok (.ireturn, 1) := by decide +kernel
theorem d_SR_isInPicture_0 : decode b_SR_isInPicture 0 = .ok (.iload_n 0, 1) := by decide +kernel
theorem d_SR_isInPicture_1 : decode b_SR_isInPicture 1 = .ok (.ifCond .lt 13, 3) := by decide +kernel
theorem d_SR_isInPicture_4 : decode b_SR_isInPicture 4 = .ok (.iload_n 0, 1) := by decide +kernel
theorem d_SR_isInPicture_5 : decode b_SR_isInPicture 5 = .ok (.bipush 64, 2) := by decide +kernel
theorem d_SR_isInPicture_7 : decode b_SR_isInPicture 7 = .ok (.if_icmp .ge 7, 3) := by decide +kernel
theorem d_SR_isInPicture_10 : decode b_SR_isInPicture 10 = .ok (.iconst 1, 1) := by decide +kernel
theorem d_SR_isInPicture_11 : decode b_SR_isInPicture 11 = .ok (.goto 4, 3) := by decide +kernel
theorem d_SR_isInPicture_14 : decode b_SR_isInPicture 14 = .ok (.iconst 0, 1) := by decide +kernel
theorem d_SR_isInPicture_15 : decode b_SR_isInPicture 15 = .ok (.ireturn, 1) := by decide +kernel
theorem d_SR_bottom_0 : decode b_SR_bottom 0 = .ok (.sipush 1024, 3) := by decide +kernel
theorem d_SR_bottom_3 : decode b_SR_bottom 3 = .ok (.bipush 63, 2) := by decide +kernel
theorem d_SR_bottom_5 : decode b_SR_bottom 5 = .ok (.iload_n 0, 1) := by decide +kernel
theorem d_SR_bottom_6 : decode b_SR_bottom 6 = .ok (.isub, 1) := by decide +kernel
theorem d_SR_bottom_7 : decode b_SR_bottom 7 = .ok (.imul, 1) := by decide +kernel
theorem d_SR_bottom_8 : decode b_SR_bottom 8 = .ok (.ireturn, 1) := by decide +kernel
theorem d_SR_forget_0 : decode b_SR_forget 0 = .ok (.aload_n 0, 1) := by decide +kernel
theorem d_SR_forget_1 : decode b_SR_forget 1 = .ok (.getfield 35, 3) := by decide +kernel
theorem d_SR_forget_4 : decode b_SR_forget 4 = .ok (.invokevirtual 206, 3) := by decide +kernel
theorem d_SR_forget_7 : decode b_SR_forget 7 = .ok (.aload_n 0, 1) := by decide +kernel
theorem d_SR_forget_8 : decode b_SR_forget 8 = .ok (.lconst 0, 1) := by decide +kernel
theorem d_SR_forget_9 : decode b_SR_forget 9 = .ok (.putfield 190, 3) := by decide +kernel
theorem d_SR_forget_12 : decode b_SR_forget 12 = .ok (.return_, 1) := by decide +kernel
theorem d_SR_countSet_0 : decode b_SR_countSet 0 = .ok (.iconst 0, 1) := by decide +kernel
theorem d_SR_countSet_1 : decode b_SR_countSet 1 = .ok (.istore_n 1, 1) := by decide +kernel
theorem d_SR_countSet_2 : decode b_SR_countSet 2 = .ok (.iconst 0, 1) := by decide +kernel
theorem d_SR_countSet_3 : decode b_SR_countSet 3 = .ok (.istore_n 2, 1) := by decide +kernel
theorem d_SR_countSet_4 : decode b_SR_countSet 4 = .ok (.iload_n 2, 1) := by decide +kernel
theorem d_SR_countSet_5 : decode b_SR_countSet 5 = .ok (.bipush 64, 2) := by decide +kernel
theorem d_SR_countSet_7 : decode b_SR_countSet 7 = .ok (.if_icmp .ge 21, 3) := by decide +kernel
theorem d_SR_countSet_10 : decode b_SR_countSet 10 = .ok (.iload_n 1, 1) := by decide +kernel
theorem d_SR_countSet_11 : decode b_SR_countSet 11 = .ok (.aload_n 0, 1) := by decide +kernel
theorem d_SR_countSet_12 : decode b_SR_countSet 12 = .ok (.getfield 55, 3) := by decide +kernel
theorem d_SR_countSet_15 : decode b_SR_countSet 15 = .ok (.iload_n 2, 1) := by decide +kernel
theorem d_SR_countSet_16 : decode b_SR_countSet 16 = .ok (.laload, 1) := by decide +kernel
theorem d_SR_countSet_17 : decode b_SR_countSet 17 = .ok (.invokestatic 200, 3) := by decide +kernel
theorem d_SR_countSet_20 : decode b_SR_countSet 20 = .ok (.iadd, 1) := by decide +kernel
theorem d_SR_countSet_21 : decode b_SR_countSet 21 = .ok (.istore_n 1, 1) := by decide +kernel
theorem d_SR_countSet_22 : decode b_SR_countSet 22 = .ok (.iinc 2 1, 3) := by decide +kernel
theorem d_SR_countSet_25 : decode b_SR_countSet 25 = .ok (.goto (-21), 3) := by decide +kernel
theorem d_SR_countSet_28 : decode b_SR_countSet 28 = .ok (.iload_n 1, 1) := by decide +kernel
theorem d_SR_countSet_29 : decode b_SR_countSet 29 = .ok (.ireturn, 1) := by decide +kernel
theorem d_SR_paintPicture_0 : decode b_SR_paintPicture 0 = .ok (.aload_n 0, 1) := by decide +kernel
theorem d_SR_paintPicture_1 : decode b_SR_paintPicture 1 = .ok (.getfield 190, 3) := by decide +kernel
theorem d_SR_paintPicture_4 : decode b_SR_paintPicture 4 = .ok (.ldc2_w 207, 3) := by decide +kernel
theorem d_SR_paintPicture_7 : decode b_SR_paintPicture 7 = .ok (.lcmp, 1) := by decide +kernel
theorem d_SR_paintPicture_8 : decode b_SR_paintPicture 8 = .ok (.ifCond .ne 4, 3) := by decide +kernel
theorem d_SR_paintPicture_11 : decode b_SR_paintPicture 11 = .ok (.return_, 1) := by decide +kernel
theorem d_SR_paintPicture_12 : decode b_SR_paintPicture 12 = .ok (.aload_n 0, 1) := by decide +kernel
theorem d_SR_paintPicture_13 : decode b_SR_paintPicture 13 = .ok (.getfield 42, 3) := by decide +kernel
theorem d_SR_paintPicture_16 : decode b_SR_paintPicture 16 = .ok (.sipush 512, 3) := by decide +kernel
theorem d_SR_paintPicture_19 : decode b_SR_paintPicture 19 = .ok (.sipush 1024, 3) := by decide +kernel
theorem d_SR_paintPicture_22 : decode b_SR_paintPicture 22 = .ok (.bipush 64, 2) := by decide +kernel
theorem d_SR_paintPicture_24 : decode b_SR_paintPicture 24 = .ok (.invokevirtual 168, 3) := by decide +kernel
theorem d_SR_paintPicture_27 : decode b_SR_paintPicture 27 = .ok (.aload_n 0, 1) := by decide +kernel
theorem d_SR_paintPicture_28 : decode b_SR_paintPicture 28 = .ok (.getfield 42, 3) := by decide +kernel
theorem d_SR_paintPicture_31 : decode b_SR_paintPicture 31 = .ok (.sipush 512, 3) := by decide +kernel
theorem d_SR_paintPicture_34 : decode b_SR_paintPicture 34 = .ok (.sipush 1024, 3) := by decide +kernel
theorem d_SR_paintPicture_37 : decode b_SR_paintPicture 37 = .ok (.bipush 64, 2) := by decide +kernel
theorem d_SR_paintPicture_39 : decode b_SR_paintPicture 39 = .ok (.invokevirtual 172, 3) := by decide +kernel
theorem d_SR_paintPicture_42 : decode b_SR_paintPicture 42 = .ok (.aload_n 0, 1) := by decide +kernel
theorem d_SR_paintPicture_43 : decode b_SR_paintPicture 43 = .ok (.getfield 51, 3) := by decide +kernel
theorem d_SR_paintPicture_46 : decode b_SR_paintPicture 46 = .ok (.invokevirtual 175, 3) := by decide +kernel
theorem d_SR_paintPicture_49 : decode b_SR_paintPicture 49 = .ok (.iconst 0, 1) := by decide +kernel
theorem d_SR_paintPicture_50 : decode b_SR_paintPicture 50 = .ok (.istore_n 1, 1) := by decide +kernel
theorem d_SR_paintPicture_51 : decode b_SR_paintPicture 51 = .ok (.iload_n 1, 1) := by decide +kernel
theorem d_SR_paintPicture_52 : decode b_SR_paintPicture 52 = .ok (.bipush 64, 2) := by decide +kernel
theorem d_SR_paintPicture_54 : decode b_SR_paintPicture 54 = .ok (.if_icmp .ge 26, 3) := by decide +kernel
theorem d_SR_paintPicture_57 : decode b_SR_paintPicture 57 = .ok (.aload_n 0, 1) := by decide +kernel
theorem d_SR_paintPicture_58 : decode b_SR_paintPicture 58 = .ok (.getfield 55, 3) := by decide +kernel
theorem d_SR_paintPicture_61 : decode b_SR_paintPicture 61 = .ok (.iload_n 1, 1) := by decide +kernel
theorem d_SR_paintPicture_62 : decode b_SR_paintPicture 62 = .ok (.aload_n 0, 1) := by decide +kernel
theorem d_SR_paintPicture_63 : decode b_SR_paintPicture 63 = .ok (.getfield 42, 3) := by decide +kernel
theorem d_SR_paintPicture_66 : decode b_SR_paintPicture 66 = .ok (.bipush 63, 2) := by decide +kernel
theorem d_SR_paintPicture_68 : decode b_SR_paintPicture 68 = .ok (.iload_n 1, 1) := by decide +kernel
theorem d_SR_paintPicture_69 : decode b_SR_paintPicture 69 = .ok (.isub, 1) := by decide +kernel
theorem d_SR_paintPicture_70 : decode b_SR_paintPicture 70 = .ok (.invokevirtual 178, 3) := by decide +kernel
theorem d_SR_paintPicture_73 : decode b_SR_paintPicture 73 = .ok (.lastore, 1) := by decide +kernel
theorem d_SR_paintPicture_74 : decode b_SR_paintPicture 74 = .ok (.iinc 1 1, 3) := by decide +kernel
theorem d_SR_paintPicture_77 : decode b_SR_paintPicture 77 = .ok (.goto (-26), 3) := by decide +kernel
theorem d_SR_paintPicture_80 : decode b_SR_paintPicture 80 = .ok (.aload_n 0, 1) := by decide +kernel
theorem d_SR_paintPicture_81 : decode b_SR_paintPicture 81 = .ok (.ldc2_w 207, 3) := by decide +kernel
theorem d_SR_paintPicture_84 : decode b_SR_paintPicture 84 = .ok (.putfield 190, 3) := by decide +kernel
theorem d_SR_paintPicture_87 : decode b_SR_paintPicture 87 = .ok (.return_, 1) := by decide +kernel
theorem d_SR_root_0 : decode b_SR_root 0 = .ok (.lconst 0, 1) := by decide +kernel
theorem d_SR_root_1 : decode b_SR_root 1 = .ok (.lstore_n 2, 1) := by decide +kernel
theorem d_SR_root_2 : decode b_SR_root 2 = .ok (.ldc2_w 209, 3) := by decide +kernel
theorem d_SR_root_5 : decode b_SR_root 5 = .ok (.lstore 4, 2) := by decide +kernel
theorem d_SR_root_7 : decode b_SR_root 7 = .ok (.lload 4, 2) := by decide +kernel
theorem d_SR_root_9 : decode b_SR_root 9 = .ok (.lconst 0, 1) := by decide +kernel
theorem d_SR_root_10 : decode b_SR_root 10 = .ok (.lcmp, 1) := by decide +kernel
theorem d_SR_root_11 : decode b_SR_root 11 = .ok (.ifCond .le 31, 3) := by decide +kernel
theorem d_SR_root_14 : decode b_SR_root 14 = .ok (.lload_n 2, 1) := by decide +kernel
theorem d_SR_root_15 : decode b_SR_root 15 = .ok (.lload 4, 2) := by decide +kernel
theorem d_SR_root_17 : decode b_SR_root 17 = .ok (.ladd, 1) := by decide +kernel
theorem d_SR_root_18 : decode b_SR_root 18 = .ok (.lstore 6, 2) := by decide +kernel
theorem d_SR_root_20 : decode b_SR_root 20 = .ok (.lload 6, 2) := by decide +kernel
theorem d_SR_root_22 : decode b_SR_root 22 = .ok (.lload 6, 2) := by decide +kernel
theorem d_SR_root_24 : decode b_SR_root 24 = .ok (.lmul, 1) := by decide +kernel
theorem d_SR_root_25 : decode b_SR_root 25 = .ok (.lload_n 0, 1) := by decide +kernel
theorem d_SR_root_26 : decode b_SR_root 26 = .ok (.lcmp, 1) := by decide +kernel
theorem d_SR_root_27 : decode b_SR_root 27 = .ok (.ifCond .gt 6, 3) := by decide +kernel
theorem d_SR_root_30 : decode b_SR_root 30 = .ok (.lload 6, 2) := by decide +kernel
theorem d_SR_root_32 : decode b_SR_root 32 = .ok (.lstore_n 2, 1) := by decide +kernel
theorem d_SR_root_33 : decode b_SR_root 33 = .ok (.lload 4, 2) := by decide +kernel
theorem d_SR_root_35 : decode b_SR_root 35 = .ok (.iconst 1, 1) := by decide +kernel
theorem d_SR_root_36 : decode b_SR_root 36 = .ok (.lshr, 1) := by decide +kernel
theorem d_SR_root_37 : decode b_SR_root 37 = .ok (.lstore 4, 2) := by decide +kernel
theorem d_SR_root_39 : decode b_SR_root 39 = .ok (.goto (-32), 3) := by decide +kernel
theorem d_SR_root_42 : decode b_SR_root 42 = .ok (.lload_n 2, 1) := by decide +kernel
theorem d_SR_root_43 : decode b_SR_root 43 = .ok (.lreturn, 1) := by decide +kernel
theorem d_Grid_init_0 : decode b_Grid_init 0 = .ok (.aload_n 0, 1) := by decide +kernel
theorem d_Grid_init_1 : decode b_Grid_init 1 = .ok (.invokespecial 3, 3) := by decide +kernel
theorem d_Grid_init_4 : decode b_Grid_init 4 = .ok (.aload_n 0, 1) := by decide +kernel
theorem d_Grid_init_5 : decode b_Grid_init 5 = .ok (.bipush 64, 2) := by decide +kernel
theorem d_Grid_init_7 : decode b_Grid_init 7 = .ok (.newarray .long, 2) := by decide +kernel
theorem d_Grid_init_9 : decode b_Grid_init 9 = .ok (.putfield 9, 3) := by decide +kernel
theorem d_Grid_init_12 : decode b_Grid_init 12 = .ok (.aload_n 0, 1) := by decide +kernel
theorem d_Grid_init_13 : decode b_Grid_init 13 = .ok (.iconst 1, 1) := by decide +kernel
theorem d_Grid_init_14 : decode b_Grid_init 14 = .ok (.putfield 15, 3) := by decide +kernel
theorem d_Grid_init_17 : decode b_Grid_init 17 = .ok (.aload_n 0, 1) := by decide +kernel
theorem d_Grid_init_18 : decode b_Grid_init 18 = .ok (.iconst 1, 1) := by decide +kernel
theorem d_Grid_init_19 : decode b_Grid_init 19 = .ok (.putfield 19, 3) := by decide +kernel
theorem d_Grid_init_22 : decode b_Grid_init 22 = .ok (.aload_n 0, 1) := by decide +kernel
theorem d_Grid_init_23 : decode b_Grid_init 23 = .ok (.iconst 1, 1) := by decide +kernel
theorem d_Grid_init_24 : decode b_Grid_init 24 = .ok (.putfield 22, 3) := by decide +kernel
theorem d_Grid_init_27 : decode b_Grid_init 27 = .ok (.aload_n 0, 1) := by decide +kernel
theorem d_Grid_init_28 : decode b_Grid_init 28 = .ok (.iconst 1, 1) := by decide +kernel
theorem d_Grid_init_29 : decode b_Grid_init 29 = .ok (.putfield 25, 3) := by decide +kernel
theorem d_Grid_init_32 : decode b_Grid_init 32 = .ok (.aload_n 0, 1) := by decide +kernel
theorem d_Grid_init_33 : decode b_Grid_init 33 = .ok (.lconst 1, 1) := by decide +kernel
theorem d_Grid_init_34 : decode b_Grid_init 34 = .ok (.putfield 28, 3) := by decide +kernel
theorem d_Grid_init_37 : decode b_Grid_init 37 = .ok (.aload_n 0, 1) := by decide +kernel
theorem d_Grid_init_38 : decode b_Grid_init 38 = .ok (.iconst 4, 1) := by decide +kernel
theorem d_Grid_init_39 : decode b_Grid_init 39 = .ok (.newarray .long, 2) := by decide +kernel
theorem d_Grid_init_41 : decode b_Grid_init 41 = .ok (.putfield 32, 3) := by decide +kernel
theorem d_Grid_init_44 : decode b_Grid_init 44 = .ok (.aload_n 0, 1) := by decide +kernel
theorem d_Grid_init_45 : decode b_Grid_init 45 = .ok (.iconst 4, 1) := by decide +kernel
theorem d_Grid_init_46 : decode b_Grid_init 46 = .ok (.newarray .long, 2) := by decide +kernel
theorem d_Grid_init_48 : decode b_Grid_init 48 = .ok (.putfield 35, 3) := by decide +kernel
theorem d_Grid_init_51 : decode b_Grid_init 51 = .ok (.return_, 1) := by decide +kernel
theorem d_Grid_across_0 : decode b_Grid_across 0 = .ok (.aload_n 0, 1) := by decide +kernel
theorem d_Grid_across_1 : decode b_Grid_across 1 = .ok (.iload_n 1, 1) := by decide +kernel
theorem d_Grid_across_2 : decode b_Grid_across 2 = .ok (.putfield 38, 3) := by decide +kernel
theorem d_Grid_across_5 : decode b_Grid_across 5 = .ok (.aload_n 0, 1) := by decide +kernel
theorem d_Grid_across_6 : decode b_Grid_across 6 = .ok (.iconst 1, 1) := by decide +kernel
theorem d_Grid_across_7 : decode b_Grid_across 7 = .ok (.iload_n 2, 1) := by decide +kernel
theorem d_Grid_across_8 : decode b_Grid_across 8 = .ok (.invokestatic 41, 3) := by decide +kernel
theorem d_Grid_across_11 : decode b_Grid_across 11 = .ok (.putfield 15, 3) := by decide +kernel
theorem d_Grid_across_14 : decode b_Grid_across 14 = .ok (.aload_n 0, 1) := by decide +kernel
theorem d_Grid_across_15 : decode b_Grid_across 15 = .ok (.iconst 1, 1) := by decide +kernel
theorem d_Grid_across_16 : decode b_Grid_across 16 = .ok (.bipush 64, 2) := by decide +kernel
theorem d_Grid_across_18 : decode b_Grid_across 18 = .ok (.iload_n 3, 1) := by decide +kernel
theorem d_Grid_across_19 : decode b_Grid_across 19 = .ok (.invokestatic 47, 3) := by decide +kernel
theorem d_Grid_across_22 : decode b_Grid_across 22 = .ok (.invokestatic 41, 3) := by decide +kernel
theorem d_Grid_across_25 : decode b_Grid_across 25 = .ok (.putfield 19, 3) := by decide +kernel
theorem d_Grid_across_28 : decode b_Grid_across 28 = .ok (.aload_n 0, 1) := by decide +kernel
theorem d_Grid_across_29 : decode b_Grid_across 29 = .ok (.lconst 0, 1) := by decide +kernel
theorem d_Grid_across_30 : decode b_Grid_across 30 = .ok (.aload_n 0, 1) := by decide +kernel
theorem d_Grid_across_31 : decode b_Grid_across 31 = .ok (.getfield 19, 3) := by decide +kernel
theorem d_Grid_across_34 : decode b_Grid_across 34 = .ok (.iconst 1, 1) := by decide +kernel
theorem d_Grid_across_35 : decode b_Grid_across 35 = .ok (.isub, 1) := by decide +kernel
theorem d_Grid_across_36 : decode b_Grid_across 36 = .ok (.i2l, 1) := by decide +kernel
theorem d_Grid_across_37 : decode b_Grid_across 37 = .ok (.invokestatic 50, 3) := by decide +kernel
theorem d_Grid_across_40 : decode b_Grid_across 40 = .ok (.putfield 28, 3) := by decide +kernel
theorem d_Grid_across_43 : decode b_Grid_across 43 = .ok (.return_, 1) := by decide +kernel
theorem d_Grid_upwards_0 : decode b_Grid_upwards 0 = .ok (.aload_n 0, 1) := by decide +kernel
theorem d_Grid_upwards_1 : decode b_Grid_upwards 1 = .ok (.iload_n 1, 1) := by decide +kernel
theorem d_Grid_upwards_2 : decode b_Grid_upwards 2 = .ok (.putfield 54, 3) := by decide +kernel
theorem d_Grid_upwards_5 : decode b_Grid_upwards 5 = .ok (.aload_n 0, 1) := by decide +kernel
theorem d_Grid_upwards_6 : decode b_Grid_upwards 6 = .ok (.iconst 1, 1) := by decide +kernel
theorem d_Grid_upwards_7 : decode b_Grid_upwards 7 = .ok (.iload_n 2, 1) := by decide +kernel
theorem d_Grid_upwards_8 : decode b_Grid_upwards 8 = .ok (.invokestatic 41, 3) := by decide +kernel
theorem d_Grid_upwards_11 : decode b_Grid_upwards 11 = .ok (.putfield 22, 3) := by decide +kernel
theorem d_Grid_upwards_14 : decode b_Grid_upwards 14 = .ok (.aload_n 0, 1) := by decide +kernel
theorem d_Grid_upwards_15 : decode b_Grid_upwards 15 = .ok (.iconst 1, 1) := by decide +kernel
theorem d_Grid_upwards_16 : decode b_Grid_upwards 16 = .ok (.bipush 64, 2) := by decide +kernel
theorem d_Grid_upwards_18 : decode b_Grid_upwards 18 = .ok (.iload_n 3, 1) := by decide +kernel
theorem d_Grid_upwards_19 : decode b_Grid_upwards 19 = .ok (.invokestatic 47, 3) := by decide +kernel
theorem d_Grid_upwards_22 : decode b_Grid_upwards 22 = .ok (.invokestatic 41, 3) := by decide +kernel
theorem d_Grid_upwards_25 : decode b_Grid_upwards 25 = .ok (.putfield 25, 3) := by decide +kernel
theorem d_Grid_upwards_28 : decode b_Grid_upwards 28 = .ok (.aload_n 0, 1) := by decide +kernel
theorem d_Grid_upwards_29 : decode b_Grid_upwards 29 = .ok (.iconst 0, 1) := by decide +kernel
theorem d_Grid_upwards_30 : decode b_Grid_upwards 30 = .ok (.putfield 57, 3) := by decide +kernel
theorem d_Grid_upwards_33 : decode b_Grid_upwards 33 = .ok (.aload_n 0, 1) := by decide +kernel
theorem d_Grid_upwards_34 : decode b_Grid_upwards 34 = .ok (.getfield 9, 3) := by decide +kernel
theorem d_Grid_upwards_37 : decode b_Grid_upwards 37 = .ok (.lconst 0, 1) := by decide +kernel
theorem d_Grid_upwards_38 : decode b_Grid_upwards 38 = .ok (.invokestatic 60, 3) := by decide +kernel
theorem d_Grid_upwards_41 : decode b_Grid_upwards 41 = .ok (.return_, 1) := by decide +kernel
theorem d_Grid_bits_0 : decode b_Grid_bits 0 = .ok (.iload_n 1, 1) := by decide +kernel
theorem d_Grid_bits_1 : decode b_Grid_bits 1 = .ok (.ifCond .lt 20, 3) := by decide +kernel
theorem d_Grid_bits_4 : decode b_Grid_bits 4 = .ok (.iload_n 1, 1) := by decide +kernel
theorem d_Grid_bits_5 : decode b_Grid_bits 5 = .ok (.aload_n 0, 1) := by decide +kernel
theorem d_Grid_bits_6 : decode b_Grid_bits 6 = .ok (.getfield 25, 3) := by decide +kernel
theorem d_Grid_bits_9 : decode b_Grid_bits 9 = .ok (.if_icmp .ge 12, 3) := by decide +kernel
theorem d_Grid_bits_12 : decode b_Grid_bits 12 = .ok (.aload_n 0, 1) := by decide +kernel
theorem d_Grid_bits_13 : decode b_Grid_bits 13 = .ok (.getfield 9, 3) := by decide +kernel
theorem d_Grid_bits_16 : decode b_Grid_bits 16 = .ok (.iload_n 1, 1) := by decide +kernel
theorem d_Grid_bits_17 : decode b_Grid_bits 17 = .ok (.laload, 1) := by decide +kernel
theorem d_Grid_bits_18 : decode b_Grid_bits 18 = .ok (.goto 4, 3) := by decide +kernel
theorem d_Grid_bits_21 : decode b_Grid_bits 21 = .ok (.lconst 0, 1) := by decide +kernel
theorem d_Grid_bits_22 : decode b_Grid_bits 22 = .ok (.lreturn, 1) := by decide +kernel
theorem d_Grid_isFilled_0 : decode b_Grid_isFilled 0 = .ok (.aload_n 0, 1) := by decide +kernel
theorem d_Grid_isFilled_1 : decode b_Grid_isFilled 1 = .ok (.getfield 57, 3) := by decide +kernel
theorem d_Grid_isFilled_4 : decode b_Grid_isFilled 4 = .ok (.istore_n 1, 1) := by decide +kernel
theorem d_Grid_isFilled_5 : decode b_Grid_isFilled 5 = .ok (.iload_n 1, 1) := by decide +kernel
theorem d_Grid_isFilled_6 : decode b_Grid_isFilled 6 = .ok (.aload_n 0, 1) := by decide +kernel
theorem d_Grid_isFilled_7 : decode b_Grid_isFilled 7 = .ok (.getfield 25, 3) := by decide +kernel
theorem d_Grid_isFilled_10 : decode b_Grid_isFilled 10 = .ok (.if_icmp .ge 30, 3) := by decide +kernel
theorem d_Grid_isFilled_13 : decode b_Grid_isFilled 13 = .ok (.aload_n 0, 1) := by decide +kernel
theorem d_Grid_isFilled_14 : decode b_Grid_isFilled 14 = .ok (.getfield 9, 3) := by decide +kernel
theorem d_Grid_isFilled_17 : decode b_Grid_isFilled 17 = .ok (.iload_n 1, 1) := by decide +kernel
theorem d_Grid_isFilled_18 : decode b_Grid_isFilled 18 = .ok (.laload, 1) := by decide +kernel
theorem d_Grid_isFilled_19 : decode b_Grid_isFilled 19 = .ok (.aload_n 0, 1) := by decide +kernel
theorem d_Grid_isFilled_20 : decode b_Grid_isFilled 20 = .ok (.getfield 28, 3) := by decide +kernel
theorem d_Grid_isFilled_23 : decode b_Grid_isFilled 23 = .ok (.lcmp, 1) := by decide +kernel
theorem d_Grid_isFilled_24 : decode b_Grid_isFilled 24 = .ok (.ifCond .ne 16, 3) := by decide +kernel
theorem d_Grid_isFilled_27 : decode b_Grid_isFilled 27 = .ok (.aload_n 0, 1) := by decide +kernel
theorem d_Grid_isFilled_28 : decode b_Grid_isFilled 28 = .ok (.iload_n 1, 1) := by decide +kernel
theorem d_Grid_isFilled_29 : decode b_Grid_isFilled 29 = .ok (.iconst 1, 1) := by decide +kernel
theorem d_Grid_isFilled_30 : decode b_Grid_isFilled 30 = .ok (.iadd, 1) := by decide +kernel
theorem d_Grid_isFilled_31 : decode b_Grid_isFilled 31 = .ok (.putfield 57, 3) := by decide +kernel
theorem d_Grid_isFilled_34 : decode b_Grid_isFilled 34 = .ok (.iinc 1 1, 3) := by decide +kernel
theorem d_Grid_isFilled_37 : decode b_Grid_isFilled 37 = .ok (.goto (-32), 3) := by decide +kernel
theorem d_Grid_isFilled_40 : decode b_Grid_isFilled 40 = .ok (.aload_n 0, 1) := by decide +kernel
theorem d_Grid_isFilled_41 : decode b_Grid_isFilled 41 = .ok (.getfield 57, 3) := by decide +kernel
theorem d_Grid_isFilled_44 : decode b_Grid_isFilled 44 = .ok (.aload_n 0, 1) := by decide +kernel
theorem d_Grid_isFilled_45 : decode b_Grid_isFilled 45 = .ok (.getfield 25, 3) := by decide +kernel
theorem d_Grid_isFilled_48 : decode b_Grid_isFilled 48 = .ok (.if_icmp .lt 7, 3) := by decide +kernel
theorem d_Grid_isFilled_51 : decode b_Grid_isFilled 51 = .ok (.iconst 1, 1) := by decide +kernel
theorem d_Grid_isFilled_52 : decode b_Grid_isFilled 52 = .ok (.goto 4, 3) := by decide +kernel
theorem d_Grid_isFilled_55 : decode b_Grid_isFilled 55 = .ok (.iconst 0, 1) := by decide +kernel
theorem d_Grid_isFilled_56 : decode b_Grid_isFilled 56 = .ok (.ireturn, 1) := by decide +kernel
theorem d_Grid_meets_0 : decode b_Grid_meets 0 = .ok (.lload_n 3, 1) := by decide +kernel
theorem d_Grid_meets_1 : decode b_Grid_meets 1 = .ok (.aload_n 0, 1) := by decide +kernel
theorem d_Grid_meets_2 : decode b_Grid_meets 2 = .ok (.getfield 38, 3) := by decide +kernel
theorem d_Grid_meets_5 : decode b_Grid_meets 5 = .ok (.i2l, 1) := by decide +kernel
theorem d_Grid_meets_6 : decode b_Grid_meets 6 = .ok (.lcmp, 1) := by decide +kernel
theorem d_Grid_meets_7 : decode b_Grid_meets 7 = .ok (.ifCond .lt 63, 3) := by decide +kernel
theorem d_Grid_meets_10 : decode b_Grid_meets 10 = .ok (.lload_n 1, 1) := by decide +kernel
theorem d_Grid_meets_11 : decode b_Grid_meets 11 = .ok (.aload_n 0, 1) := by decide +kernel
theorem d_Grid_meets_12 : decode b_Grid_meets 12 = .ok (.getfield 38, 3) := by decide +kernel
theorem d_Grid_meets_15 : decode b_Grid_meets 15 = .ok (.aload_n 0, 1) := by decide +kernel
theorem d_Grid_meets_16 : decode b_Grid_meets 16 = .ok (.getfield 19, 3) := by decide +kernel
theorem d_Grid_meets_19 : decode b_Grid_meets 19 = .ok (.iconst 1, 1) := by decide +kernel
theorem d_Grid_meets_20 : decode b_Grid_meets 20 = .ok (.isub, 1) := by decide +kernel
theorem d_Grid_meets_21 : decode b_Grid_meets 21 = .ok (.aload_n 0, 1) := by decide +kernel
theorem d_Grid_meets_22 : decode b_Grid_meets 22 = .ok (.getfield 15, 3) := by decide +kernel
theorem d_Grid_meets_25 : decode b_Grid_meets 25 = .ok (.imul, 1) := by decide +kernel
theorem d_Grid_meets_26 : decode b_Grid_meets 26 = .ok (.iadd, 1) := by decide +kernel
theorem d_Grid_meets_27 : decode b_Grid_meets 27 = .ok (.i2l, 1) := by decide +kernel
theorem d_Grid_meets_28 : decode b_Grid_meets 28 = .ok (.lcmp, 1) := by decide +kernel
theorem d_Grid_meets_29 : decode b_Grid_meets 29 = .ok (.ifCond .gt 41, 3) := by decide +kernel
theorem d_Grid_meets_32 : decode b_Grid_meets 32 = .ok (.lload 7, 2) := by decide +kernel
theorem d_Grid_meets_34 : decode b_Grid_meets 34 = .ok (.aload_n 0, 1) := by decide +kernel
theorem d_Grid_meets_35 : decode b_Grid_meets 35 = .ok (.getfield 54, 3) := by decide +kernel
theorem d_Grid_meets_38 : decode b_Grid_meets 38 = .ok (.i2l, 1) := by decide +kernel
theorem d_Grid_meets_39 : decode b_Grid_meets 39 = .ok (.lcmp, 1) := by decide +kernel
theorem d_Grid_meets_40 : decode b_Grid_meets 40 = .ok (.ifCond .lt 30, 3) := by decide +kernel
theorem d_Grid_meets_43 : decode b_Grid_meets 43 = .ok (.lload 5, 2) := by decide +kernel
theorem d_Grid_meets_45 : decode b_Grid_meets 45 = .ok (.aload_n 0, 1) := by decide +kernel
theorem d_Grid_meets_46 : decode b_Grid_meets 46 = .ok (.getfield 54, 3) := by decide +kernel
theorem d_Grid_meets_49 : decode b_Grid_meets 49 = .ok (.aload_n 0, 1) := by decide +kernel
theorem d_Grid_meets_50 : decode b_Grid_meets 50 = .ok (.getfield 25, 3) := by decide +kernel
theorem d_Grid_meets_53 : decode b_Grid_meets 53 = .ok (.iconst 1, 1) := by decide +kernel
theorem d_Grid_meets_54 : decode b_Grid_meets 54 = .ok (.isub, 1) := by decide +kernel
theorem d_Grid_meets_55 : decode b_Grid_meets 55 = .ok (.aload_n 0, 1) := by decide +kernel
theorem d_Grid_meets_56 : decode b_Grid_meets 56 = .ok (.getfield 22, 3) := by decide +kernel
theorem d_Grid_meets_59 : decode b_Grid_meets 59 = .ok (.imul, 1) := by decide +kernel
theorem d_Grid_meets_60 : decode b_Grid_meets 60 = .ok (.iadd, 1) := by decide +kernel
theorem d_Grid_meets_61 : decode b_Grid_meets 61 = .ok (.i2l, 1) := by decide +kernel
theorem d_Grid_meets_62 : decode b_Grid_meets 62 = .ok (.lcmp, 1) := by decide +kernel
theorem d_Grid_meets_63 : decode b_Grid_meets 63 = .ok (.ifCond .gt 7, 3) := by decide +kernel
theorem d_Grid_meets_66 : decode b_Grid_meets 66 = .ok (.iconst 1, 1) := by decide +kernel
theorem d_Grid_meets_67 : decode b_Grid_meets 67 = .ok (.goto 4, 3) := by decide +kernel
theorem d_Grid_meets_70 : decode b_Grid_meets 70 = .ok (.iconst 0, 1) := by decide +kernel
theorem d_Grid_meets_71 : decode b_Grid_meets 71 = .ok (.ireturn, 1) := by decide +kernel
theorem d_Grid_from_0 : decode b_Grid_from 0 = .ok (.aload_n 0, 1) := by decide +kernel
theorem d_Grid_from_1 : decode b_Grid_from 1 = .ok (.iload_n 1, 1) := by decide +kernel
theorem d_Grid_from_2 : decode b_Grid_from 2 = .ok (.putfield 66, 3) := by decide +kernel
theorem d_Grid_from_5 : decode b_Grid_from 5 = .ok (.aload_n 0, 1) := by decide +kernel
theorem d_Grid_from_6 : decode b_Grid_from 6 = .ok (.iload_n 2, 1) := by decide +kernel
theorem d_Grid_from_7 : decode b_Grid_from 7 = .ok (.putfield 69, 3) := by decide +kernel
theorem d_Grid_from_10 : decode b_Grid_from 10 = .ok (.aload_n 0, 1) := by decide +kernel
theorem d_Grid_from_11 : decode b_Grid_from 11 = .ok (.iconst 0, 1) := by decide +kernel
theorem d_Grid_from_12 : decode b_Grid_from 12 = .ok (.putfield 72, 3) := by decide +kernel
theorem d_Grid_from_15 : decode b_Grid_from 15 = .ok (.return_, 1) := by decide +kernel
theorem d_Grid_corner_0 : decode b_Grid_corner 0 = .ok (.aload_n 0, 1) := by decide +kernel
theorem d_Grid_corner_1 : decode b_Grid_corner 1 = .ok (.getfield 72, 3) := by decide +kernel
theorem d_Grid_corner_4 : decode b_Grid_corner 4 = .ok (.iconst 4, 1) := by decide +kernel
theorem d_Grid_corner_5 : decode b_Grid_corner 5 = .ok (.if_icmp .ge 45, 3) := by decide +kernel
theorem d_Grid_corner_8 : decode b_Grid_corner 8 = .ok (.aload_n 0, 1) := by decide +kernel
theorem d_Grid_corner_9 : decode b_Grid_corner 9 = .ok (.getfield 32, 3) := by decide +kernel
theorem d_Grid_corner_12 : decode b_Grid_corner 12 = .ok (.aload_n 0, 1) := by decide +kernel
theorem d_Grid_corner_13 : decode b_Grid_corner 13 = .ok (.getfield 72, 3) := by decide +kernel
theorem d_Grid_corner_16 : decode b_Grid_corner 16 = .ok (.aload_n 0, 1) := by decide +kernel
theorem d_Grid_corner_17 : decode b_Grid_corner 17 = .ok (.getfield 66, 3) := by decide +kernel
theorem d_Grid_corner_20 : decode b_Grid_corner 20 = .ok (.i2l, 1) := by decide +kernel
theorem d_Grid_corner_21 : decode b_Grid_corner 21 = .ok (.lload_n 1, 1) := by decide +kernel
theorem d_Grid_corner_22 : decode b_Grid_corner 22 = .ok (.ladd, 1) := by decide +kernel
theorem d_Grid_corner_23 : decode b_Grid_corner 23 = .ok (.lastore, 1) := by decide +kernel
theorem d_Grid_corner_24 : decode b_Grid_corner 24 = .ok (.aload_n 0, 1) := by decide +kernel
theorem d_Grid_corner_25 : decode b_Grid_corner 25 = .ok (.getfield 35, 3) := by decide +kernel
theorem d_Grid_corner_28 : decode b_Grid_corner 28 = .ok (.aload_n 0, 1) := by decide +kernel
theorem d_Grid_corner_29 : decode b_Grid_corner 29 = .ok (.getfield 72, 3) := by decide +kernel
theorem d_Grid_corner_32 : decode b_Grid_corner 32 = .ok (.aload_n 0, 1) := by decide +kernel
theorem d_Grid_corner_33 : decode b_Grid_corner 33 = .ok (.getfield 69, 3) := by decide +kernel
theorem d_Grid_corner_36 : decode b_Grid_corner 36 = .ok (.i2l, 1) := by decide +kernel
theorem d_Grid_corner_37 : decode b_Grid_corner 37 = .ok (.lload_n 3, 1) := by decide +kernel
theorem d_Grid_corner_38 : decode b_Grid_corner 38 = .ok (.ladd, 1) := by decide +kernel
theorem d_Grid_corner_39 : decode b_Grid_corner 39 = .ok (.lastore, 1) := by decide +kernel
theorem d_Grid_corner_40 : decode b_Grid_corner 40 = .ok (.aload_n 0, 1) := by decide +kernel
theorem d_Grid_corner_41 : decode b_Grid_corner 41 = .ok (.dup, 1) := by decide +kernel
theorem d_Grid_corner_42 : decode b_Grid_corner 42 = .ok (.getfield 72, 3) := by decide +kernel
theorem d_Grid_corner_45 : decode b_Grid_corner 45 = .ok (.iconst 1, 1) := by decide +kernel
theorem d_Grid_corner_46 : decode b_Grid_corner 46 = .ok (.iadd, 1) := by decide +kernel
theorem d_Grid_corner_47 : decode b_Grid_corner 47 = .ok (.putfield 72, 3) := by decide +kernel
theorem d_Grid_corner_50 : decode b_Grid_corner 50 = .ok (.return_, 1) := by decide +kernel
theorem d_Grid_polygon_0 : decode b_Grid_polygon 0 = .ok (.aload_n 0, 1) := by decide +kernel
theorem d_Grid_polygon_1 : decode b_Grid_polygon 1 = .ok (.invokevirtual 75, 3) := by decide +kernel
theorem d_Grid_polygon_4 : decode b_Grid_polygon 4 = .ok (.lstore_n 1, 1) := by decide +kernel
theorem d_Grid_polygon_5 : decode b_Grid_polygon 5 = .ok (.aload_n 0, 1) := by decide +kernel
theorem d_Grid_polygon_6 : decode b_Grid_polygon 6 = .ok (.lload_n 1, 1) := by decide +kernel
theorem d_Grid_polygon_7 : decode b_Grid_polygon 7 = .ok (.lconst 0, 1) := by decide +kernel
theorem d_Grid_polygon_8 : decode b_Grid_polygon 8 = .ok (.lcmp, 1) := by decide +kernel
theorem d_Grid_polygon_9 : decode b_Grid_polygon 9 = .ok (.ifCond .ge 9, 3) := by decide +kernel
theorem d_Grid_polygon_12 : decode b_Grid_polygon 12 = .ok (.ldc2_w 79, 3) := by decide +kernel
theorem d_Grid_polygon_15 : decode b_Grid_polygon 15 = .ok (.goto 4, 3) := by decide +kernel
theorem d_Grid_polygon_18 : decode b_Grid_polygon 18 = .ok (.lconst 1, 1) := by decide +kernel
theorem d_Grid_polygon_19 : decode b_Grid_polygon 19 = .ok (.putfield 81, 3) := by decide +kernel
theorem d_Grid_polygon_22 : decode b_Grid_polygon 22 = .ok (.iconst 0, 1) := by decide +kernel
theorem d_Grid_polygon_23 : decode b_Grid_polygon 23 = .ok (.istore_n 3, 1) := by decide +kernel
theorem d_Grid_polygon_24 : decode b_Grid_polygon 24 = .ok (.aload_n 0, 1) := by decide +kernel
theorem d_Grid_polygon_25 : decode b_Grid_polygon 25 = .ok (.getfield 25, 3) := by decide +kernel
theorem d_Grid_polygon_28 : decode b_Grid_polygon 28 = .ok (.iconst 1, 1) := by decide +kernel
theorem d_Grid_polygon_29 : decode b_Grid_polygon 29 = .ok (.isub, 1) := by decide +kernel
theorem d_Grid_polygon_30 : decode b_Grid_polygon 30 = .ok (.istore 4, 2) := by decide +kernel
theorem d_Grid_polygon_32 : decode b_Grid_polygon 32 = .ok (.lload_n 1, 1) := by decide +kernel
theorem d_Grid_polygon_33 : decode b_Grid_polygon 33 = .ok (.lconst 0, 1) := by decide +kernel
theorem d_Grid_polygon_34 : decode b_Grid_polygon 34 = .ok (.lcmp, 1) := by decide +kernel
theorem d_Grid_polygon_35 : decode b_Grid_polygon 35 = .ok (.ifCond .eq 77, 3) := by decide +kernel
theorem d_Grid_polygon_38 : decode b_Grid_polygon 38 = .ok (.aload_n 0, 1) := by decide +kernel
theorem d_Grid_polygon_39 : decode b_Grid_polygon 39 = .ok (.aload_n 0, 1) := by decide +kernel
theorem d_Grid_polygon_40 : decode b_Grid_polygon 40 = .ok (.aload_n 0, 1) := by decide +kernel
theorem d_Grid_polygon_41 : decode b_Grid_polygon 41 = .ok (.getfield 35, 3) := by decide +kernel
theorem d_Grid_polygon_44 : decode b_Grid_polygon 44 = .ok (.invokevirtual 84, 3) := by decide +kernel
theorem d_Grid_polygon_47 : decode b_Grid_polygon 47 = .ok (.invokevirtual 88, 3) := by decide +kernel
theorem d_Grid_polygon_50 : decode b_Grid_polygon 50 = .ok (.istore_n 3, 1) := by decide +kernel
theorem d_Grid_polygon_51 : decode b_Grid_polygon 51 = .ok (.aload_n 0, 1) := by decide +kernel
theorem d_Grid_polygon_52 : decode b_Grid_polygon 52 = .ok (.aload_n 0, 1) := by decide +kernel
theorem d_Grid_polygon_53 : decode b_Grid_polygon 53 = .ok (.aload_n 0, 1) := by decide +kernel
theorem d_Grid_polygon_54 : decode b_Grid_polygon 54 = .ok (.getfield 35, 3) := by decide +kernel
theorem d_Grid_polygon_57 : decode b_Grid_polygon 57 = .ok (.invokevirtual 92, 3) := by decide +kernel
theorem d_Grid_polygon_60 : decode b_Grid_polygon 60 = .ok (.invokevirtual 95, 3) := by decide +kernel
theorem d_Grid_polygon_63 : decode b_Grid_polygon 63 = .ok (.istore 4, 2) := by decide +kernel
theorem d_Grid_polygon_65 : decode b_Grid_polygon 65 = .ok (.aload_n 0, 1) := by decide +kernel
theorem d_Grid_polygon_66 : decode b_Grid_polygon 66 = .ok (.aload_n 0, 1) := by decide +kernel
theorem d_Grid_polygon_67 : decode b_Grid_polygon 67 = .ok (.getfield 32, 3) := by decide +kernel
theorem d_Grid_polygon_70 : decode b_Grid_polygon 70 = .ok (.invokevirtual 92, 3) := by decide +kernel
theorem d_Grid_polygon_73 : decode b_Grid_polygon 73 = .ok (.aload_n 0, 1) := by decide +kernel
theorem d_Grid_polygon_74 : decode b_Grid_polygon 74 = .ok (.getfield 38, 3) := by decide +kernel
theorem d_Grid_polygon_77 : decode b_Grid_polygon 77 = .ok (.i2l, 1) := by decide +kernel
theorem d_Grid_polygon_78 : decode b_Grid_polygon 78 = .ok (.lcmp, 1) := by decide +kernel
theorem d_Grid_polygon_79 : decode b_Grid_polygon 79 = .ok (.ifCond .lt 32, 3) := by decide +kernel
theorem d_Grid_polygon_82 : decode b_Grid_polygon 82 = .ok (.aload_n 0, 1) := by decide +kernel
theorem d_Grid_polygon_83 : decode b_Grid_polygon 83 = .ok (.aload_n 0, 1) := by decide +kernel
theorem d_Grid_polygon_84 : decode b_Grid_polygon 84 = .ok (.getfield 32, 3) := by decide +kernel
theorem d_Grid_polygon_87 : decode b_Grid_polygon 87 = .ok (.invokevirtual 84, 3) := by decide +kernel
theorem d_Grid_polygon_90 : decode b_Grid_polygon 90 = .ok (.aload_n 0, 1) := by decide +kernel
theorem d_Grid_polygon_91 : decode b_Grid_polygon 91 = .ok (.getfield 38, 3) := by decide +kernel
theorem d_Grid_polygon_94 : decode b_Grid_polygon 94 = .ok (.aload_n 0, 1) := by decide +kernel
theorem d_Grid_polygon_95 : decode b_Grid_polygon 95 = .ok (.getfield 19, 3) := by decide +kernel
theorem d_Grid_polygon_98 : decode b_Grid_polygon 98 = .ok (.iconst 1, 1) := by decide +kernel
theorem d_Grid_polygon_99 : decode b_Grid_polygon 99 = .ok (.isub, 1) := by decide +kernel
theorem d_Grid_polygon_100 : decode b_Grid_polygon 100 = .ok (.aload_n 0, 1) := by decide +kernel
theorem d_Grid_polygon_101 : decode b_Grid_polygon 101 = .ok (.getfield 15, 3) := by decide +kernel
theorem d_Grid_polygon_104 : decode b_Grid_polygon 104 = .ok (.imul, 1) := by decide +kernel
theorem d_Grid_polygon_105 : decode b_Grid_polygon 105 = .ok (.iadd, 1) := by decide +kernel
theorem d_Grid_polygon_106 : decode b_Grid_polygon 106 = .ok (.i2l, 1) := by decide +kernel
theorem d_Grid_polygon_107 : decode b_Grid_polygon 107 = .ok (.lcmp, 1) := by decide +kernel
theorem d_Grid_polygon_108 : decode b_Grid_polygon 108 = .ok (.ifCond .le 4, 3) := by decide +kernel
theorem d_Grid_polygon_111 : decode b_Grid_polygon 111 = .ok (.return_, 1) := by decide +kernel
theorem d_Grid_polygon_112 : decode b_Grid_polygon 112 = .ok (.iload_n 3, 1) := by decide +kernel
theorem d_Grid_polygon_113 : decode b_Grid_polygon 113 = .ok (.istore 5, 2) := by decide +kernel
theorem d_Grid_polygon_115 : decode b_Grid_polygon 115 = .ok (.iload 5, 2) := by decide +kernel
theorem d_Grid_polygon_117 : decode b_Grid_polygon 117 = .ok (.iload 4, 2) := by decide +kernel
theorem d_Grid_polygon_119 : decode b_Grid_polygon 119 = .ok (.if_icmp .gt 51, 3) := by decide +kernel
theorem d_Grid_polygon_122 : decode b_Grid_polygon 122 = .ok (.aload_n 0, 1) := by decide +kernel
theorem d_Grid_polygon_123 : decode b_Grid_polygon 123 = .ok (.getfield 9, 3) := by decide +kernel
theorem d_Grid_polygon_126 : decode b_Grid_polygon 126 = .ok (.iload 5, 2) := by decide +kernel
theorem d_Grid_polygon_128 : decode b_Grid_polygon 128 = .ok (.laload, 1) := by decide +kernel
theorem d_Grid_polygon_129 : decode b_Grid_polygon 129 = .ok (.aload_n 0, 1) := by decide +kernel
theorem d_Grid_polygon_130 : decode b_Grid_polygon 130 = .ok (.getfield 28, 3) := by decide +kernel
theorem d_Grid_polygon_133 : decode b_Grid_polygon 133 = .ok (.lcmp, 1) := by decide +kernel
theorem d_Grid_polygon_134 : decode b_Grid_polygon 134 = .ok (.ifCond .eq 30, 3) := by decide +kernel
theorem d_Grid_polygon_137 : decode b_Grid_polygon 137 = .ok (.aload_n 0, 1) := by decide +kernel
theorem d_Grid_polygon_138 : decode b_Grid_polygon 138 = .ok (.getfield 9, 3) := by decide +kernel
theorem d_Grid_polygon_141 : decode b_Grid_polygon 141 = .ok (.iload 5, 2) := by decide +kernel
theorem d_Grid_polygon_143 : decode b_Grid_polygon 143 = .ok (.dup2, 1) := by decide +kernel
theorem d_Grid_polygon_144 : decode b_Grid_polygon 144 = .ok (.laload, 1) := by decide +kernel
theorem d_Grid_polygon_145 : decode b_Grid_polygon 145 = .ok (.aload_n 0, 1) := by decide +kernel
theorem d_Grid_polygon_146 : decode b_Grid_polygon 146 = .ok (.aload_n 0, 1) := by decide +kernel
theorem d_Grid_polygon_147 : decode b_Grid_polygon 147 = .ok (.getfield 54, 3) := by decide +kernel
theorem d_Grid_polygon_150 : decode b_Grid_polygon 150 = .ok (.iload 5, 2) := by decide +kernel
theorem d_Grid_polygon_152 : decode b_Grid_polygon 152 = .ok (.aload_n 0, 1) := by decide +kernel
theorem d_Grid_polygon_153 : decode b_Grid_polygon 153 = .ok (.getfield 22, 3) := by decide +kernel
theorem d_Grid_polygon_156 : decode b_Grid_polygon 156 = .ok (.imul, 1) := by decide +kernel
theorem d_Grid_polygon_157 : decode b_Grid_polygon 157 = .ok (.iadd, 1) := by decide +kernel
theorem d_Grid_polygon_158 : decode b_Grid_polygon 158 = .ok (.i2l, 1) := by decide +kernel
theorem d_Grid_polygon_159 : decode b_Grid_polygon 159 = .ok (.invokevirtual 98, 3) := by decide +kernel
theorem d_Grid_polygon_162 : decode b_Grid_polygon 162 = .ok (.lor, 1) := by decide +kernel
theorem d_Grid_polygon_163 : decode b_Grid_polygon 163 = .ok (.lastore, 1) := by decide +kernel
theorem d_Grid_polygon_164 : decode b_Grid_polygon 164 = .ok (.iinc 5 1, 3) := by decide +kernel
theorem d_Grid_polygon_167 : decode b_Grid_polygon 167 = .ok (.goto (-52), 3) := by decide +kernel
theorem d_Grid_polygon_170 : decode b_Grid_polygon 170 = .ok (.return_, 1) := by decide +kernel
theorem d_Grid_least_0 : decode b_Grid_least 0 = .ok (.aload_n 1, 1) := by decide +kernel
theorem d_Grid_least_1 : decode b_Grid_least 1 = .ok (.iconst 0, 1) := by decide +kernel
theorem d_Grid_least_2 : decode b_Grid_least 2 = .ok (.laload, 1) := by decide +kernel
theorem d_Grid_least_3 : decode b_Grid_least 3 = .ok (.lstore_n 2, 1) := by decide +kernel
theorem d_Grid_least_4 : decode b_Grid_least 4 = .ok (.iconst 1, 1) := by decide +kernel
theorem d_Grid_least_5 : decode b_Grid_least 5 = .ok (.istore 4, 2) := by decide +kernel
theorem d_Grid_least_7 : decode b_Grid_least 7 = .ok (.iload 4, 2) := by decide +kernel
theorem d_Grid_least_9 : decode b_Grid_least 9 = .ok (.aload_n 0, 1) := by decide +kernel
theorem d_Grid_least_10 : decode b_Grid_least 10 = .ok (.getfield 72, 3) := by decide +kernel
theorem d_Grid_least_13 : decode b_Grid_least 13 = .ok (.if_icmp .ge 18, 3) := by decide +kernel
theorem d_Grid_least_16 : decode b_Grid_least 16 = .ok (.lload_n 2, 1) := by decide +kernel
theorem d_Grid_least_17 : decode b_Grid_least 17 = .ok (.aload_n 1, 1) := by decide +kernel
theorem d_Grid_least_18 : decode b_Grid_least 18 = .ok (.iload 4, 2) := by decide +kernel
theorem d_Grid_least_20 : decode b_Grid_least 20 = .ok (.laload, 1) := by decide +kernel
theorem d_Grid_least_21 : decode b_Grid_least 21 = .ok (.invokestatic 102, 3) := by decide +kernel
theorem d_Grid_least_24 : decode b_Grid_least 24 = .ok (.lstore_n 2, 1) := by decide +kernel
theorem d_Grid_least_25 : decode b_Grid_least 25 = .ok (.iinc 4 1, 3) := by decide +kernel
theorem d_Grid_least_28 : decode b_Grid_least 28 = .ok (.goto (-21), 3) := by decide +kernel
theorem d_Grid_least_31 : decode b_Grid_least 31 = .ok (.lload_n 2, 1) := by decide +kernel
theorem d_Grid_least_32 : decode b_Grid_least 32 = .ok (.lreturn, 1) := by decide +kernel
theorem d_Grid_greatest_0 : decode b_Grid_greatest 0 = .ok (.aload_n 1, 1) := by decide +kernel
theorem d_Grid_greatest_1 : decode b_Grid_greatest 1 = .ok (.iconst 0, 1) := by decide +kernel
theorem d_Grid_greatest_2 : decode b_Grid_greatest 2 = .ok (.laload, 1) := by decide +kernel
theorem d_Grid_greatest_3 : decode b_Grid_greatest 3 = .ok (.lstore_n 2, 1) := by decide +kernel
theorem d_Grid_greatest_4 : decode b_Grid_greatest 4 = .ok (.iconst 1, 1) := by decide +kernel
theorem d_Grid_greatest_5 : decode b_Grid_greatest 5 = .ok (.istore 4, 2) := by decide +kernel
theorem d_Grid_greatest_7 : decode b_Grid_greatest 7 = .ok (.iload 4, 2) := by decide +kernel
theorem d_Grid_greatest_9 : decode b_Grid_greatest 9 = .ok (.aload_n 0, 1) := by decide +kernel
theorem d_Grid_greatest_10 : decode b_Grid_greatest 10 = .ok (.getfield 72, 3) := by decide +kernel
theorem d_Grid_greatest_13 : decode b_Grid_greatest 13 = .ok (.if_icmp .ge 18, 3) := by decide +kernel
theorem d_Grid_greatest_16 : decode b_Grid_greatest 16 = .ok (.lload_n 2, 1) := by decide +kernel
theorem d_Grid_greatest_17 : decode b_Grid_greatest 17 = .ok (.aload_n 1, 1) := by decide +kernel
theorem d_Grid_greatest_18 : decode b_Grid_greatest 18 = .ok (.iload 4, 2) := by decide +kernel
theorem d_Grid_greatest_20 : decode b_Grid_greatest 20 = .ok (.laload, 1) := by decide +kernel
theorem d_Grid_greatest_21 : decode b_Grid_greatest 21 = .ok (.invokestatic 104, 3) := by decide +kernel
theorem d_Grid_greatest_24 : decode b_Grid_greatest 24 = .ok (.lstore_n 2, 1) := by decide +kernel
theorem d_Grid_greatest_25 : decode b_Grid_greatest 25 = .ok (.iinc 4 1, 3) := by decide +kernel
theorem d_Grid_greatest_28 : decode b_Grid_greatest 28 = .ok (.goto (-21), 3) := by decide +kernel
theorem d_Grid_greatest_31 : decode b_Grid_greatest 31 = .ok (.lload_n 2, 1) := by decide +kernel
theorem d_Grid_greatest_32 : decode b_Grid_greatest 32 = .ok (.lreturn, 1) := by decide +kernel
theorem d_Grid_doubledArea_0 : decode b_Grid_doubledArea 0 = .ok (.lconst 0, 1) := by decide +kernel
theorem d_Grid_doubledArea_1 : decode b_Grid_doubledArea 1 = .ok (.lstore_n 1, 1) := by decide +kernel
theorem d_Grid_doubledArea_2 : decode b_Grid_doubledArea 2 = .ok (.iconst 0, 1) := by decide +kernel
theorem d_Grid_doubledArea_3 : decode b_Grid_doubledArea 3 = .ok (.istore_n 3, 1) := by decide +kernel
theorem d_Grid_doubledArea_4 : decode b_Grid_doubledArea 4 = .ok (.iload_n 3, 1) := by decide +kernel
theorem d_Grid_doubledArea_5 : decode b_Grid_doubledArea 5 = .ok (.aload_n 0, 1) := by decide +kernel
theorem d_Grid_doubledArea_6 : decode b_Grid_doubledArea 6 = .ok (.getfield 72, 3) := by decide +kernel
theorem d_Grid_doubledArea_9 : decode b_Grid_doubledArea 9 = .ok (.if_icmp .ge 60, 3) := by decide +kernel
theorem d_Grid_doubledArea_12 : decode b_Grid_doubledArea 12 = .ok (.iload_n 3, 1) := by decide +kernel
theorem d_Grid_doubledArea_13 : decode b_Grid_doubledArea 13 = .ok (.iconst 1, 1) := by decide +kernel
theorem d_Grid_doubledArea_14 : decode b_Grid_doubledArea 14 = .ok (.iadd, 1) := by decide +kernel
theorem d_Grid_doubledArea_15 : decode b_Grid_doubledArea 15 = .ok (.aload_n 0, 1) := by decide +kernel
theorem d_Grid_doubledArea_16 : decode b_Grid_doubledArea 16 = .ok (.getfield 72, 3) := by decide +kernel
theorem d_Grid_doubledArea_19 : decode b_Grid_doubledArea 19 = .ok (.if_icmp .ge 9, 3) := by decide +kernel
theorem d_Grid_doubledArea_22 : decode b_Grid_doubledArea 22 = .ok (.iload_n 3, 1) := by decide +kernel
theorem d_Grid_doubledArea_23 : decode b_Grid_doubledArea 23 = .ok (.iconst 1, 1) := by decide +kernel
theorem d_Grid_doubledArea_24 : decode b_Grid_doubledArea 24 = .ok (.iadd, 1) := by decide +kernel
theorem d_Grid_doubledArea_25 : decode b_Grid_doubledArea 25 = .ok (.goto 4, 3) := by decide +kernel
theorem d_Grid_doubledArea_28 : decode b_Grid_doubledArea 28 = .ok (.iconst 0, 1) := by decide +kernel
theorem d_Grid_doubledArea_29 : decode b_Grid_doubledArea 29 = .ok (.istore 4, 2) := by decide +kernel
theorem d_Grid_doubledArea_31 : decode b_Grid_doubledArea 31 = .ok (.lload_n 1, 1) := by decide +kernel
theorem d_Grid_doubledArea_32 : decode b_Grid_doubledArea 32 = .ok (.aload_n 0, 1) := by decide +kernel
theorem d_Grid_doubledArea_33 : decode b_Grid_doubledArea 33 = .ok (.getfield 32, 3) := by decide +kernel
theorem d_Grid_doubledArea_36 : decode b_Grid_doubledArea 36 = .ok (.iload_n 3, 1) := by decide +kernel
theorem d_Grid_doubledArea_37 : decode b_Grid_doubledArea 37 = .ok (.laload, 1) := by decide +kernel
theorem d_Grid_doubledArea_38 : decode b_Grid_doubledArea 38 = .ok (.aload_n 0, 1) := by decide +kernel
theorem d_Grid_doubledArea_39 : decode b_Grid_doubledArea 39 = .ok (.getfield 35, 3) := by decide +kernel
theorem d_Grid_doubledArea_42 : decode b_Grid_doubledArea 42 = .ok (.iload 4, 2) := by decide +kernel
theorem d_Grid_doubledArea_44 : decode b_Grid_doubledArea 44 = .ok (.laload, 1) := by decide +kernel
theorem d_Grid_doubledArea_45 : decode b_Grid_doubledArea 45 = .ok (.lmul, 1) := by decide +kernel
theorem d_Grid_doubledArea_46 : decode b_Grid_doubledArea 46 = .ok (.aload_n 0, 1) := by decide +kernel
theorem d_Grid_doubledArea_47 : decode b_Grid_doubledArea 47 = .ok (.getfield 35, 3) := by decide +kernel
theorem d_Grid_doubledArea_50 : decode b_Grid_doubledArea 50 = .ok (.iload_n 3, 1) := by decide +kernel
theorem d_Grid_doubledArea_51 : decode b_Grid_doubledArea 51 = .ok (.laload, 1) := by decide +kernel
theorem d_Grid_doubledArea_52 : decode b_Grid_doubledArea 52 = .ok (.aload_n 0, 1) := by decide +kernel
theorem d_Grid_doubledArea_53 : decode b_Grid_doubledArea 53 = .ok (.getfield 32, 3) := by decide +kernel
theorem d_Grid_doubledArea_56 : decode b_Grid_doubledArea 56 = .ok (.iload 4, 2) := by decide +kernel
theorem d_Grid_doubledArea_58 : decode b_Grid_doubledArea 58 = .ok (.laload, 1) := by decide +kernel
theorem d_Grid_doubledArea_59 : decode b_Grid_doubledArea 59 = .ok (.lmul, 1) := by decide +kernel
theorem d_Grid_doubledArea_60 : decode b_Grid_doubledArea 60 = .ok (.lsub, 1) := by decide +kernel
theorem d_Grid_doubledArea_61 : decode b_Grid_doubledArea 61 = .ok (.ladd, 1) := by decide +kernel
theorem d_Grid_doubledArea_62 : decode b_Grid_doubledArea 62 = .ok (.lstore_n 1, 1) := by decide +kernel
theorem d_Grid_doubledArea_63 : decode b_Grid_doubledArea 63 = .ok (.iinc 3 1, 3) := by decide +kernel
theorem d_Grid_doubledArea_66 : decode b_Grid_doubledArea 66 = .ok (.goto (-62), 3) := by decide +kernel
theorem d_Grid_doubledArea_69 : decode b_Grid_doubledArea 69 = .ok (.lload_n 1, 1) := by decide +kernel
theorem d_Grid_doubledArea_70 : decode b_Grid_doubledArea 70 = .ok (.lreturn, 1) := by decide +kernel
theorem d_Grid_polygonBits_0 : decode b_Grid_polygonBits 0 = .ok (.lconst 0, 1) := by decide +kernel
theorem d_Grid_polygonBits_1 : decode b_Grid_polygonBits 1 = .ok (.lstore_n 3, 1) := by decide +kernel
theorem d_Grid_polygonBits_2 : decode b_Grid_polygonBits 2 = .ok (.aload_n 0, 1) := by decide +kernel
theorem d_Grid_polygonBits_3 : decode b_Grid_polygonBits 3 = .ok (.getfield 19, 3) := by decide +kernel
theorem d_Grid_polygonBits_6 : decode b_Grid_polygonBits 6 = .ok (.iconst 1, 1) := by decide +kernel
theorem d_Grid_polygonBits_7 : decode b_Grid_polygonBits 7 = .ok (.isub, 1) := by decide +kernel
theorem d_Grid_polygonBits_8 : decode b_Grid_polygonBits 8 = .ok (.i2l, 1) := by decide +kernel
theorem d_Grid_polygonBits_9 : decode b_Grid_polygonBits 9 = .ok (.lstore 5, 2) := by decide +kernel
theorem d_Grid_polygonBits_11 : decode b_Grid_polygonBits 11 = .ok (.iconst 0, 1) := by decide +kernel
theorem d_Grid_polygonBits_12 : decode b_Grid_polygonBits 12 = .ok (.istore 7, 2) := by decide +kernel
theorem d_Grid_polygonBits_14 : decode b_Grid_polygonBits 14 = .ok (.iload 7, 2) := by decide +kernel
theorem d_Grid_polygonBits_16 : decode b_Grid_polygonBits 16 = .ok (.aload_n 0, 1) := by decide +kernel
theorem d_Grid_polygonBits_17 : decode b_Grid_polygonBits 17 = .ok (.getfield 72, 3) := by decide +kernel
theorem d_Grid_polygonBits_20 : decode b_Grid_polygonBits 20 = .ok (.if_icmp .ge 180, 3) := by decide +kernel
theorem d_Grid_polygonBits_23 : decode b_Grid_polygonBits 23 = .ok (.lload_n 3, 1) := by decide +kernel
theorem d_Grid_polygonBits_24 : decode b_Grid_polygonBits 24 = .ok (.lload 5, 2) := by decide +kernel
theorem d_Grid_polygonBits_26 : decode b_Grid_polygonBits 26 = .ok (.lcmp, 1) := by decide +kernel
theorem d_Grid_polygonBits_27 : decode b_Grid_polygonBits 27 = .ok (.ifCond .gt 173, 3) := by decide +kernel
theorem d_Grid_polygonBits_30 : decode b_Grid_polygonBits 30 = .ok (.iload 7, 2) := by decide +kernel
theorem d_Grid_polygonBits_32 : decode b_Grid_polygonBits 32 = .ok (.iconst 1, 1) := by decide +kernel
theorem d_Grid_polygonBits_33 : decode b_Grid_polygonBits 33 = .ok (.iadd, 1) := by decide +kernel
theorem d_Grid_polygonBits_34 : decode b_Grid_polygonBits 34 = .ok (.aload_n 0, 1) := by decide +kernel
theorem d_Grid_polygonBits_35 : decode b_Grid_polygonBits 35 = .ok (.getfield 72, 3) := by decide +kernel
theorem d_Grid_polygonBits_38 : decode b_Grid_polygonBits 38 = .ok (.if_icmp .ge 10, 3) := by decide +kernel
theorem d_Grid_polygonBits_41 : decode b_Grid_polygonBits 41 = .ok (.iload 7, 2) := by decide +kernel
theorem d_Grid_polygonBits_43 : decode b_Grid_polygonBits 43 = .ok (.iconst 1, 1) := by decide +kernel
theorem d_Grid_polygonBits_44 : decode b_Grid_polygonBits 44 = .ok (.iadd, 1) := by decide +kernel
theorem d_Grid_polygonBits_45 : decode b_Grid_polygonBits 45 = .ok (.goto 4, 3) := by decide +kernel
theorem d_Grid_polygonBits_48 : decode b_Grid_polygonBits 48 = .ok (.iconst 0, 1) := by decide +kernel
theorem d_Grid_polygonBits_49 : decode b_Grid_polygonBits 49 = .ok (.istore 8, 2) := by decide +kernel
theorem d_Grid_polygonBits_51 : decode b_Grid_polygonBits 51 = .ok (.aload_n 0, 1) := by decide +kernel
theorem d_Grid_polygonBits_52 : decode b_Grid_polygonBits 52 = .ok (.getfield 32, 3) := by decide +kernel
theorem d_Grid_polygonBits_55 : decode b_Grid_polygonBits 55 = .ok (.iload 8, 2) := by decide +kernel
theorem d_Grid_polygonBits_57 : decode b_Grid_polygonBits 57 = .ok (.laload, 1) := by decide +kernel
theorem d_Grid_polygonBits_58 : decode b_Grid_polygonBits 58 = .ok (.aload_n 0, 1) := by decide +kernel
theorem d_Grid_polygonBits_59 : decode b_Grid_polygonBits 59 = .ok (.getfield 32, 3) := by decide +kernel
theorem d_Grid_polygonBits_62 : decode b_Grid_polygonBits 62 = .ok (.iload 7, 2) := by decide +kernel
theorem d_Grid_polygonBits_64 : decode b_Grid_polygonBits 64 = .ok (.laload, 1) := by decide +kernel
theorem d_Grid_polygonBits_65 : decode b_Grid_polygonBits 65 = .ok (.lsub, 1) := by decide +kernel
theorem d_Grid_polygonBits_66 : decode b_Grid_polygonBits 66 = .ok (.lstore 9, 2) := by decide +kernel
theorem d_Grid_polygonBits_68 : decode b_Grid_polygonBits 68 = .ok (.aload_n 0, 1) := by decide +kernel
theorem d_Grid_polygonBits_69 : decode b_Grid_polygonBits 69 = .ok (.getfield 35, 3) := by decide +kernel
theorem d_Grid_polygonBits_72 : decode b_Grid_polygonBits 72 = .ok (.iload 8, 2) := by decide +kernel
theorem d_Grid_polygonBits_74 : decode b_Grid_polygonBits 74 = .ok (.laload, 1) := by decide +kernel
theorem d_Grid_polygonBits_75 : decode b_Grid_polygonBits 75 = .ok (.aload_n 0, 1) := by decide +kernel
theorem d_Grid_polygonBits_76 : decode b_Grid_polygonBits 76 = .ok (.getfield 35, 3) := by decide +kernel
theorem d_Grid_polygonBits_79 : decode b_Grid_polygonBits 79 = .ok (.iload 7, 2) := by decide +kernel
theorem d_Grid_polygonBits_81 : decode b_Grid_polygonBits 81 = .ok (.laload, 1) := by decide +kernel
theorem d_Grid_polygonBits_82 : decode b_Grid_polygonBits 82 = .ok (.lsub, 1) := by decide +kernel
theorem d_Grid_polygonBits_83 : decode b_Grid_polygonBits 83 = .ok (.lstore 11, 2) := by decide +kernel
theorem d_Grid_polygonBits_85 : decode b_Grid_polygonBits 85 = .ok (.aload_n 0, 1) := by decide +kernel
theorem d_Grid_polygonBits_86 : decode b_Grid_polygonBits 86 = .ok (.getfield 81, 3) := by decide +kernel
theorem d_Grid_polygonBits_89 : decode b_Grid_polygonBits 89 = .ok (.lload 9, 2) := by decide +kernel
theorem d_Grid_polygonBits_91 : decode b_Grid_polygonBits 91 = .ok (.lload_n 1, 1) := by decide +kernel
theorem d_Grid_polygonBits_92 : decode b_Grid_polygonBits 92 = .ok (.aload_n 0, 1) := by decide +kernel
theorem d_Grid_polygonBits_93 : decode b_Grid_polygonBits 93 = .ok (.getfield 35, 3) := by decide +kernel
theorem d_Grid_polygonBits_96 : decode b_Grid_polygonBits 96 = .ok (.iload 7, 2) := by decide +kernel
theorem d_Grid_polygonBits_98 : decode b_Grid_polygonBits 98 = .ok (.laload, 1) := by decide +kernel
theorem d_Grid_polygonBits_99 : decode b_Grid_polygonBits 99 = .ok (.lsub, 1) := by decide +kernel
theorem d_Grid_polygonBits_100 : decode b_Grid_polygonBits 100 = .ok (.lmul, 1) := by decide +kernel
theorem d_Grid_polygonBits_101 : decode b_Grid_polygonBits 101 = .ok (.lload 11, 2) := by decide +kernel
theorem d_Grid_polygonBits_103 : decode b_Grid_polygonBits 103 = .ok (.aload_n 0, 1) := by decide +kernel
theorem d_Grid_polygonBits_104 : decode b_Grid_polygonBits 104 = .ok (.getfield 38, 3) := by decide +kernel
theorem d_Grid_polygonBits_107 : decode b_Grid_polygonBits 107 = .ok (.i2l, 1) := by decide +kernel
theorem d_Grid_polygonBits_108 : decode b_Grid_polygonBits 108 = .ok (.aload_n 0, 1) := by decide +kernel
theorem d_Grid_polygonBits_109 : decode b_Grid_polygonBits 109 = .ok (.getfield 32, 3) := by decide +kernel
theorem d_Grid_polygonBits_112 : decode b_Grid_polygonBits 112 = .ok (.iload 7, 2) := by decide +kernel
theorem d_Grid_polygonBits_114 : decode b_Grid_polygonBits 114 = .ok (.laload, 1) := by decide +kernel
theorem d_Grid_polygonBits_115 : decode b_Grid_polygonBits 115 = .ok (.lsub, 1) := by decide +kernel
theorem d_Grid_polygonBits_116 : decode b_Grid_polygonBits 116 = .ok (.lmul, 1) := by decide +kernel
theorem d_Grid_polygonBits_117 : decode b_Grid_polygonBits 117 = .ok (.lsub, 1) := by decide +kernel
theorem d_Grid_polygonBits_118 : decode b_Grid_polygonBits 118 = .ok (.lmul, 1) := by decide +kernel
theorem d_Grid_polygonBits_119 : decode b_Grid_polygonBits 119 = .ok (.lstore 13, 2) := by decide +kernel
theorem d_Grid_polygonBits_121 : decode b_Grid_polygonBits 121 = .ok (.aload_n 0, 1) := by decide +kernel
theorem d_Grid_polygonBits_122 : decode b_Grid_polygonBits 122 = .ok (.getfield 81, 3) := by decide +kernel
theorem d_Grid_polygonBits_125 : decode b_Grid_polygonBits 125 = .ok (.lneg, 1) := by decide +kernel
theorem d_Grid_polygonBits_126 : decode b_Grid_polygonBits 126 = .ok (.lload 11, 2) := by decide +kernel
theorem d_Grid_polygonBits_128 : decode b_Grid_polygonBits 128 = .ok (.lmul, 1) := by decide +kernel
theorem d_Grid_polygonBits_129 : decode b_Grid_polygonBits 129 = .ok (.aload_n 0, 1) := by decide +kernel
theorem d_Grid_polygonBits_130 : decode b_Grid_polygonBits 130 = .ok (.getfield 15, 3) := by decide +kernel
theorem d_Grid_polygonBits_133 : decode b_Grid_polygonBits 133 = .ok (.i2l, 1) := by decide +kernel
theorem d_Grid_polygonBits_134 : decode b_Grid_polygonBits 134 = .ok (.lmul, 1) := by decide +kernel
theorem d_Grid_polygonBits_135 : decode b_Grid_polygonBits 135 = .ok (.lstore 15, 2) := by decide +kernel
theorem d_Grid_polygonBits_137 : decode b_Grid_polygonBits 137 = .ok (.lload 15, 2) := by decide +kernel
theorem d_Grid_polygonBits_139 : decode b_Grid_polygonBits 139 = .ok (.lconst 0, 1) := by decide +kernel
theorem d_Grid_polygonBits_140 : decode b_Grid_polygonBits 140 = .ok (.lcmp, 1) := by decide +kernel
theorem d_Grid_polygonBits_141 : decode b_Grid_polygonBits 141 = .ok (.ifCond .le 19, 3) := by decide +kernel
theorem d_Grid_polygonBits_144 : decode b_Grid_polygonBits 144 = .ok (.lload_n 3, 1) := by decide +kernel
theorem d_Grid_polygonBits_145 : decode b_Grid_polygonBits 145 = .ok (.lload 13, 2) := by decide +kernel
theorem d_Grid_polygonBits_147 : decode b_Grid_polygonBits 147 = .ok (.lload 15, 2) := by decide +kernel
theorem d_Grid_polygonBits_149 : decode b_Grid_polygonBits 149 = .ok (.invokestatic 106, 3) := by decide +kernel
theorem d_Grid_polygonBits_152 : decode b_Grid_polygonBits 152 = .ok (.lneg, 1) := by decide +kernel
theorem d_Grid_polygonBits_153 : decode b_Grid_polygonBits 153 = .ok (.invokestatic 104, 3) := by decide +kernel
theorem d_Grid_polygonBits_156 : decode b_Grid_polygonBits 156 = .ok (.lstore_n 3, 1) := by decide +kernel
theorem d_Grid_polygonBits_157 : decode b_Grid_polygonBits 157 = .ok (.goto 37, 3) := by decide +kernel
theorem d_Grid_polygonBits_160 : decode b_Grid_polygonBits 160 = .ok (.lload 15, 2) := by decide +kernel
theorem d_Grid_polygonBits_162 : decode b_Grid_polygonBits 162 = .ok (.lconst 0, 1) := by decide +kernel
theorem d_Grid_polygonBits_163 : decode b_Grid_polygonBits 163 = .ok (.lcmp, 1) := by decide +kernel
theorem d_Grid_polygonBits_164 : decode b_Grid_polygonBits 164 = .ok (.ifCond .ge 21, 3) := by decide +kernel
theorem d_Grid_polygonBits_167 : decode b_Grid_polygonBits 167 = .ok (.lload 5, 2) := by decide +kernel
theorem d_Grid_polygonBits_169 : decode b_Grid_polygonBits 169 = .ok (.lload 13, 2) := by decide +kernel
theorem d_Grid_polygonBits_171 : decode b_Grid_polygonBits 171 = .ok (.lload 15, 2) := by decide +kernel
theorem d_Grid_polygonBits_173 : decode b_Grid_polygonBits 173 = .ok (.lneg, 1) := by decide +kernel
theorem d_Grid_polygonBits_174 : decode b_Grid_polygonBits 174 = .ok (.invokestatic 106, 3) := by decide +kernel
theorem d_Grid_polygonBits_177 : decode b_Grid_polygonBits 177 = .ok (.invokestatic 102, 3) := by decide +kernel
theorem d_Grid_polygonBits_180 : decode b_Grid_polygonBits 180 = .ok (.lstore 5, 2) := by decide +kernel
theorem d_Grid_polygonBits_182 : decode b_Grid_polygonBits 182 = .ok (.goto 12, 3) := by decide +kernel
theorem d_Grid_polygonBits_185 : decode b_Grid_polygonBits 185 = .ok (.lload 13, 2) := by decide +kernel
theorem d_Grid_polygonBits_187 : decode b_Grid_polygonBits 187 = .ok (.lconst 0, 1) := by decide +kernel
theorem d_Grid_polygonBits_188 : decode b_Grid_polygonBits 188 = .ok (.lcmp, 1) := by decide +kernel
theorem d_Grid_polygonBits_189 : decode b_Grid_polygonBits 189 = .ok (.ifCond .ge 5, 3) := by decide +kernel
theorem d_Grid_polygonBits_192 : decode b_Grid_polygonBits 192 = .ok (.lconst 0, 1) := by decide +kernel
theorem d_Grid_polygonBits_193 : decode b_Grid_polygonBits 193 = .ok (.lreturn, 1) := by decide +kernel
theorem d_Grid_polygonBits_194 : decode b_Grid_polygonBits 194 = .ok (.iinc 7 1, 3) := by decide +kernel
theorem d_Grid_polygonBits_197 : decode b_Grid_polygonBits 197 = .ok (.goto (-183), 3) := by decide +kernel
theorem d_Grid_polygonBits_200 : decode b_Grid_polygonBits 200 = .ok (.lload_n 3, 1) := by decide +kernel
theorem d_Grid_polygonBits_201 : decode b_Grid_polygonBits 201 = .ok (.lload 5, 2) := by decide +kernel
theorem d_Grid_polygonBits_203 : decode b_Grid_polygonBits 203 = .ok (.invokestatic 50, 3) := by decide +kernel
theorem d_Grid_polygonBits_206 : decode b_Grid_polygonBits 206 = .ok (.lreturn, 1) := by decide +kernel
theorem d_Grid_disc_0 : decode b_Grid_disc 0 = .ok (.aload_n 0, 1) := by decide +kernel
theorem d_Grid_disc_1 : decode b_Grid_disc 1 = .ok (.iload_n 1, 1) := by decide +kernel
theorem d_Grid_disc_2 : decode b_Grid_disc 2 = .ok (.i2l, 1) := by decide +kernel
theorem d_Grid_disc_3 : decode b_Grid_disc 3 = .ok (.iload_n 3, 1) := by decide +kernel
theorem d_Grid_disc_4 : decode b_Grid_disc 4 = .ok (.i2l, 1) := by decide +kernel
theorem d_Grid_disc_5 : decode b_Grid_disc 5 = .ok (.lsub, 1) := by decide +kernel
theorem d_Grid_disc_6 : decode b_Grid_disc 6 = .ok (.iload_n 1, 1) := by decide +kernel
theorem d_Grid_disc_7 : decode b_Grid_disc 7 = .ok (.i2l, 1) := by decide +kernel
theorem d_Grid_disc_8 : decode b_Grid_disc 8 = .ok (.iload_n 3, 1) := by decide +kernel
theorem d_Grid_disc_9 : decode b_Grid_disc 9 = .ok (.i2l, 1) := by decide +kernel
theorem d_Grid_disc_10 : decode b_Grid_disc 10 = .ok (.ladd, 1) := by decide +kernel
theorem d_Grid_disc_11 : decode b_Grid_disc 11 = .ok (.iload_n 2, 1) := by decide +kernel
theorem d_Grid_disc_12 : decode b_Grid_disc 12 = .ok (.i2l, 1) := by decide +kernel
theorem d_Grid_disc_13 : decode b_Grid_disc 13 = .ok (.iload_n 3, 1) := by decide +kernel
theorem d_Grid_disc_14 : decode b_Grid_disc 14 = .ok (.i2l, 1) := by decide +kernel
theorem d_Grid_disc_15 : decode b_Grid_disc 15 = .ok (.lsub, 1) := by decide +kernel
theorem d_Grid_disc_16 : decode b_Grid_disc 16 = .ok (.iload_n 2, 1) := by decide +kernel
theorem d_Grid_disc_17 : decode b_Grid_disc 17 = .ok (.i2l, 1) := by decide +kernel
theorem d_Grid_disc_18 : decode b_Grid_disc 18 = .ok (.iload_n 3, 1) := by decide +kernel
theorem d_Grid_disc_19 : decode b_Grid_disc 19 = .ok (.i2l, 1) := by decide +kernel
theorem d_Grid_disc_20 : decode b_Grid_disc 20 = .ok (.ladd, 1) := by decide +kernel
theorem d_Grid_disc_21 : decode b_Grid_disc 21 = .ok (.invokevirtual 109, 3) := by decide +kernel
theorem d_Grid_disc_24 : decode b_Grid_disc 24 = .ok (.ifCond .ne 4, 3) := by decide +kernel
theorem d_Grid_disc_27 : decode b_Grid_disc 27 = .ok (.return_, 1) := by decide +kernel
theorem d_Grid_disc_28 : decode b_Grid_disc 28 = .ok (.aload_n 0, 1) := by decide +kernel
theorem d_Grid_disc_29 : decode b_Grid_disc 29 = .ok (.iload_n 2, 1) := by decide +kernel
theorem d_Grid_disc_30 : decode b_Grid_disc 30 = .ok (.i2l, 1) := by decide +kernel
theorem d_Grid_disc_31 : decode b_Grid_disc 31 = .ok (.iload_n 3, 1) := by decide +kernel
theorem d_Grid_disc_32 : decode b_Grid_disc 32 = .ok (.i2l, 1) := by decide +kernel
theorem d_Grid_disc_33 : decode b_Grid_disc 33 = .ok (.ladd, 1) := by decide +kernel
theorem d_Grid_disc_34 : decode b_Grid_disc 34 = .ok (.invokevirtual 95, 3) := by decide +kernel
theorem d_Grid_disc_37 : decode b_Grid_disc 37 = .ok (.istore 4, 2) := by decide +kernel
theorem d_Grid_disc_39 : decode b_Grid_disc 39 = .ok (.aload_n 0, 1) := by decide +kernel
theorem d_Grid_disc_40 : decode b_Grid_disc 40 = .ok (.iload_n 2, 1) := by decide +kernel
theorem d_Grid_disc_41 : decode b_Grid_disc 41 = .ok (.i2l, 1) := by decide +kernel
theorem d_Grid_disc_42 : decode b_Grid_disc 42 = .ok (.iload_n 3, 1) := by decide +kernel
theorem d_Grid_disc_43 : decode b_Grid_disc 43 = .ok (.i2l, 1) := by decide +kernel
theorem d_Grid_disc_44 : decode b_Grid_disc 44 = .ok (.lsub, 1) := by decide +kernel
theorem d_Grid_disc_45 : decode b_Grid_disc 45 = .ok (.invokevirtual 88, 3) := by decide +kernel
theorem d_Grid_disc_48 : decode b_Grid_disc 48 = .ok (.istore 5, 2) := by decide +kernel
theorem d_Grid_disc_50 : decode b_Grid_disc 50 = .ok (.iload 5, 2) := by decide +kernel
theorem d_Grid_disc_52 : decode b_Grid_disc 52 = .ok (.iload 4, 2) := by decide +kernel
theorem d_Grid_disc_54 : decode b_Grid_disc 54 = .ok (.if_icmp .gt 56, 3) := by decide +kernel
theorem d_Grid_disc_57 : decode b_Grid_disc 57 = .ok (.aload_n 0, 1) := by decide +kernel
theorem d_Grid_disc_58 : decode b_Grid_disc 58 = .ok (.getfield 9, 3) := by decide +kernel
theorem d_Grid_disc_61 : decode b_Grid_disc 61 = .ok (.iload 5, 2) := by decide +kernel
theorem d_Grid_disc_63 : decode b_Grid_disc 63 = .ok (.laload, 1) := by decide +kernel
theorem d_Grid_disc_64 : decode b_Grid_disc 64 = .ok (.aload_n 0, 1) := by decide +kernel
theorem d_Grid_disc_65 : decode b_Grid_disc 65 = .ok (.getfield 28, 3) := by decide +kernel
theorem d_Grid_disc_68 : decode b_Grid_disc 68 = .ok (.lcmp, 1) := by decide +kernel
theorem d_Grid_disc_69 : decode b_Grid_disc 69 = .ok (.ifCond .eq 35, 3) := by decide +kernel
theorem d_Grid_disc_72 : decode b_Grid_disc 72 = .ok (.aload_n 0, 1) := by decide +kernel
theorem d_Grid_disc_73 : decode b_Grid_disc 73 = .ok (.getfield 9, 3) := by decide +kernel
theorem d_Grid_disc_76 : decode b_Grid_disc 76 = .ok (.iload 5, 2) := by decide +kernel
theorem d_Grid_disc_78 : decode b_Grid_disc 78 = .ok (.dup2, 1) := by decide +kernel
theorem d_Grid_disc_79 : decode b_Grid_disc 79 = .ok (.laload, 1) := by decide +kernel
theorem d_Grid_disc_80 : decode b_Grid_disc 80 = .ok (.aload_n 0, 1) := by decide +kernel
theorem d_Grid_disc_81 : decode b_Grid_disc 81 = .ok (.iload_n 1, 1) := by decide +kernel
theorem d_Grid_disc_82 : decode b_Grid_disc 82 = .ok (.aload_n 0, 1) := by decide +kernel
theorem d_Grid_disc_83 : decode b_Grid_disc 83 = .ok (.getfield 54, 3) := by decide +kernel
theorem d_Grid_disc_86 : decode b_Grid_disc 86 = .ok (.iload 5, 2) := by decide +kernel
theorem d_Grid_disc_88 : decode b_Grid_disc 88 = .ok (.aload_n 0, 1) := by decide +kernel
theorem d_Grid_disc_89 : decode b_Grid_disc 89 = .ok (.getfield 22, 3) := by decide +kernel
theorem d_Grid_disc_92 : decode b_Grid_disc 92 = .ok (.imul, 1) := by decide +kernel
theorem d_Grid_disc_93 : decode b_Grid_disc 93 = .ok (.iadd, 1) := by decide +kernel
theorem d_Grid_disc_94 : decode b_Grid_disc 94 = .ok (.iload_n 2, 1) := by decide +kernel
theorem d_Grid_disc_95 : decode b_Grid_disc 95 = .ok (.isub, 1) := by decide +kernel
theorem d_Grid_disc_96 : decode b_Grid_disc 96 = .ok (.i2l, 1) := by decide +kernel
theorem d_Grid_disc_97 : decode b_Grid_disc 97 = .ok (.iload_n 3, 1) := by decide +kernel
theorem d_Grid_disc_98 : decode b_Grid_disc 98 = .ok (.i2l, 1) := by decide +kernel
theorem d_Grid_disc_99 : decode b_Grid_disc 99 = .ok (.invokevirtual 113, 3) := by decide +kernel
theorem d_Grid_disc_102 : decode b_Grid_disc 102 = .ok (.lor, 1) := by decide +kernel
theorem d_Grid_disc_103 : decode b_Grid_disc 103 = .ok (.lastore, 1) := by decide +kernel
theorem d_Grid_disc_104 : decode b_Grid_disc 104 = .ok (.iinc 5 1, 3) := by decide +kernel
theorem d_Grid_disc_107 : decode b_Grid_disc 107 = .ok (.goto (-57), 3) := by decide +kernel
theorem d_Grid_disc_110 : decode b_Grid_disc 110 = .ok (.return_, 1) := by decide +kernel
theorem d_Grid_discBits_0 : decode b_Grid_discBits 0 = .ok (.lload 4, 2) := by decide +kernel
theorem d_Grid_discBits_2 : decode b_Grid_discBits 2 = .ok (.lload 4, 2) := by decide +kernel
theorem d_Grid_discBits_4 : decode b_Grid_discBits 4 = .ok (.lmul, 1) := by decide +kernel
theorem d_Grid_discBits_5 : decode b_Grid_discBits 5 = .ok (.lload_n 2, 1) := by decide +kernel
theorem d_Grid_discBits_6 : decode b_Grid_discBits 6 = .ok (.lload_n 2, 1) := by decide +kernel
theorem d_Grid_discBits_7 : decode b_Grid_discBits 7 = .ok (.lmul, 1) := by decide +kernel
theorem d_Grid_discBits_8 : decode b_Grid_discBits 8 = .ok (.lsub, 1) := by decide +kernel
theorem d_Grid_discBits_9 : decode b_Grid_discBits 9 = .ok (.lstore 6, 2) := by decide +kernel
theorem d_Grid_discBits_11 : decode b_Grid_discBits 11 = .ok (.lload 6, 2) := by decide +kernel
theorem d_Grid_discBits_13 : decode b_Grid_discBits 13 = .ok (.lconst 0, 1) := by decide +kernel
theorem d_Grid_discBits_14 : decode b_Grid_discBits 14 = .ok (.lcmp, 1) := by decide +kernel
theorem d_Grid_discBits_15 : decode b_Grid_discBits 15 = .ok (.ifCond .lt 10, 3) := by decide +kernel
theorem d_Grid_discBits_18 : decode b_Grid_discBits 18 = .ok (.aload_n 0, 1) := by decide +kernel
theorem d_Grid_discBits_19 : decode b_Grid_discBits 19 = .ok (.getfield 15, 3) := by decide +kernel
theorem d_Grid_discBits_22 : decode b_Grid_discBits 22 = .ok (.ifCond .gt 5, 3) := by decide +kernel
theorem d_Grid_discBits_25 : decode b_Grid_discBits 25 = .ok (.lconst 0, 1) := by decide +kernel
theorem d_Grid_discBits_26 : decode b_Grid_discBits 26 = .ok (.lreturn, 1) := by decide +kernel
theorem d_Grid_discBits_27 : decode b_Grid_discBits 27 = .ok (.lload 6, 2) := by decide +kernel
theorem d_Grid_discBits_29 : decode b_Grid_discBits 29 = .ok (.invokestatic 117, 3) := by decide +kernel
theorem d_Grid_discBits_32 : decode b_Grid_discBits 32 = .ok (.lstore 8, 2) := by decide +kernel
theorem d_Grid_discBits_34 : decode b_Grid_discBits 34 = .ok (.aload_n 0, 1) := by decide +kernel
theorem d_Grid_discBits_35 : decode b_Grid_discBits 35 = .ok (.getfield 38, 3) := by decide +kernel
theorem d_Grid_discBits_38 : decode b_Grid_discBits 38 = .ok (.iload_n 1, 1) := by decide +kernel
theorem d_Grid_discBits_39 : decode b_Grid_discBits 39 = .ok (.isub, 1) := by decide +kernel
theorem d_Grid_discBits_40 : decode b_Grid_discBits 40 = .ok (.i2l, 1) := by decide +kernel
theorem d_Grid_discBits_41 : decode b_Grid_discBits 41 = .ok (.lload 8, 2) := by decide +kernel
theorem d_Grid_discBits_43 : decode b_Grid_discBits 43 = .ok (.ladd, 1) := by decide +kernel
theorem d_Grid_discBits_44 : decode b_Grid_discBits 44 = .ok (.aload_n 0, 1) := by decide +kernel
theorem d_Grid_discBits_45 : decode b_Grid_discBits 45 = .ok (.getfield 15, 3) := by decide +kernel
theorem d_Grid_discBits_48 : decode b_Grid_discBits 48 = .ok (.i2l, 1) := by decide +kernel
theorem d_Grid_discBits_49 : decode b_Grid_discBits 49 = .ok (.invokestatic 106, 3) := by decide +kernel
theorem d_Grid_discBits_52 : decode b_Grid_discBits 52 = .ok (.lneg, 1) := by decide +kernel
theorem d_Grid_discBits_53 : decode b_Grid_discBits 53 = .ok (.lstore 10, 2) := by decide +kernel
theorem d_Grid_discBits_55 : decode b_Grid_discBits 55 = .ok (.iload_n 1, 1) := by decide +kernel
theorem d_Grid_discBits_56 : decode b_Grid_discBits 56 = .ok (.i2l, 1) := by decide +kernel
theorem d_Grid_discBits_57 : decode b_Grid_discBits 57 = .ok (.lload 8, 2) := by decide +kernel
theorem d_Grid_discBits_59 : decode b_Grid_discBits 59 = .ok (.ladd, 1) := by decide +kernel
theorem d_Grid_discBits_60 : decode b_Grid_discBits 60 = .ok (.aload_n 0, 1) := by decide +kernel
theorem d_Grid_discBits_61 : decode b_Grid_discBits 61 = .ok (.getfield 38, 3) := by decide +kernel
theorem d_Grid_discBits_64 : decode b_Grid_discBits 64 = .ok (.i2l, 1) := by decide +kernel
theorem d_Grid_discBits_65 : decode b_Grid_discBits 65 = .ok (.lsub, 1) := by decide +kernel
theorem d_Grid_discBits_66 : decode b_Grid_discBits 66 = .ok (.aload_n 0, 1) := by decide +kernel
theorem d_Grid_discBits_67 : decode b_Grid_discBits 67 = .ok (.getfield 15, 3) := by decide +kernel
theorem d_Grid_discBits_70 : decode b_Grid_discBits 70 = .ok (.i2l, 1) := by decide +kernel
theorem d_Grid_discBits_71 : decode b_Grid_discBits 71 = .ok (.invokestatic 106, 3) := by decide +kernel
theorem d_Grid_discBits_74 : decode b_Grid_discBits 74 = .ok (.lstore 12, 2) := by decide +kernel
theorem d_Grid_discBits_76 : decode b_Grid_discBits 76 = .ok (.lconst 0, 1) := by decide +kernel
theorem d_Grid_discBits_77 : decode b_Grid_discBits 77 = .ok (.lload 10, 2) := by decide +kernel
theorem d_Grid_discBits_79 : decode b_Grid_discBits 79 = .ok (.invokestatic 104, 3) := by decide +kernel
theorem d_Grid_discBits_82 : decode b_Grid_discBits 82 = .ok (.aload_n 0, 1) := by decide +kernel
theorem d_Grid_discBits_83 : decode b_Grid_discBits 83 = .ok (.getfield 19, 3) := by decide +kernel
theorem d_Grid_discBits_86 : decode b_Grid_discBits 86 = .ok (.iconst 1, 1) := by decide +kernel
theorem d_Grid_discBits_87 : decode b_Grid_discBits 87 = .ok (.isub, 1) := by decide +kernel
theorem d_Grid_discBits_88 : decode b_Grid_discBits 88 = .ok (.i2l, 1) := by decide +kernel
theorem d_Grid_discBits_89 : decode b_Grid_discBits 89 = .ok (.lload 12, 2) := by decide +kernel
theorem d_Grid_discBits_91 : decode b_Grid_discBits 91 = .ok (.invokestatic 102, 3) := by decide +kernel
theorem d_Grid_discBits_94 : decode b_Grid_discBits 94 = .ok (.invokestatic 50, 3) := by decide +kernel
theorem d_Grid_discBits_97 : decode b_Grid_discBits 97 = .ok (.lreturn, 1) := by decide +kernel
theorem d_Grid_firstRow_0 : decode b_Grid_firstRow 0 = .ok (.aload_n 0, 1) := by decide +kernel
theorem d_Grid_firstRow_1 : decode b_Grid_firstRow 1 = .ok (.getfield 22, 3) := by decide +kernel
theorem d_Grid_firstRow_4 : decode b_Grid_firstRow 4 = .ok (.ifCond .gt 5, 3) := by decide +kernel
theorem d_Grid_firstRow_7 : decode b_Grid_firstRow 7 = .ok (.iconst 0, 1) := by decide +kernel
theorem d_Grid_firstRow_8 : decode b_Grid_firstRow 8 = .ok (.ireturn, 1) := by decide +kernel
theorem d_Grid_firstRow_9 : decode b_Grid_firstRow 9 = .ok (.lconst 0, 1) := by decide +kernel
theorem d_Grid_firstRow_10 : decode b_Grid_firstRow 10 = .ok (.aload_n 0, 1) := by decide +kernel
theorem d_Grid_firstRow_11 : decode b_Grid_firstRow 11 = .ok (.getfield 54, 3) := by decide +kernel
theorem d_Grid_firstRow_14 : decode b_Grid_firstRow 14 = .ok (.i2l, 1) := by decide +kernel
theorem d_Grid_firstRow_15 : decode b_Grid_firstRow 15 = .ok (.lload_n 1, 1) := by decide +kernel
theorem d_Grid_firstRow_16 : decode b_Grid_firstRow 16 = .ok (.lsub, 1) := by decide +kernel
theorem d_Grid_firstRow_17 : decode b_Grid_firstRow 17 = .ok (.aload_n 0, 1) := by decide +kernel
theorem d_Grid_firstRow_18 : decode b_Grid_firstRow 18 = .ok (.getfield 22, 3) := by decide +kernel
theorem d_Grid_firstRow_21 : decode b_Grid_firstRow 21 = .ok (.i2l, 1) := by decide +kernel
theorem d_Grid_firstRow_22 : decode b_Grid_firstRow 22 = .ok (.invokestatic 106, 3) := by decide +kernel
theorem d_Grid_firstRow_25 : decode b_Grid_firstRow 25 = .ok (.lneg, 1) := by decide +kernel
theorem d_Grid_firstRow_26 : decode b_Grid_firstRow 26 = .ok (.invokestatic 104, 3) := by decide +kernel
theorem d_Grid_firstRow_29 : decode b_Grid_firstRow 29 = .ok (.l2i, 1) := by decide +kernel
theorem d_Grid_firstRow_30 : decode b_Grid_firstRow 30 = .ok (.ireturn, 1) := by decide +kernel
theorem d_Grid_lastRow_0 : decode b_Grid_lastRow 0 = .ok (.aload_n 0, 1) := by decide +kernel
theorem d_Grid_lastRow_1 : decode b_Grid_lastRow 1 = .ok (.getfield 22, 3) := by decide +kernel
theorem d_Grid_lastRow_4 : decode b_Grid_lastRow 4 = .ok (.ifCond .gt 5, 3) := by decide +kernel
theorem d_Grid_lastRow_7 : decode b_Grid_lastRow 7 = .ok (.iconst (-1), 1) := by decide +kernel
theorem d_Grid_lastRow_8 : decode b_Grid_lastRow 8 = .ok (.ireturn, 1) := by decide +kernel
theorem d_Grid_lastRow_9 : decode b_Grid_lastRow 9 = .ok (.aload_n 0, 1) := by decide +kernel
theorem d_Grid_lastRow_10 : decode b_Grid_lastRow 10 = .ok (.getfield 25, 3) := by decide +kernel
theorem d_Grid_lastRow_13 : decode b_Grid_lastRow 13 = .ok (.iconst 1, 1) := by decide +kernel
theorem d_Grid_lastRow_14 : decode b_Grid_lastRow 14 = .ok (.isub, 1) := by decide +kernel
theorem d_Grid_lastRow_15 : decode b_Grid_lastRow 15 = .ok (.i2l, 1) := by decide +kernel
theorem d_Grid_lastRow_16 : decode b_Grid_lastRow 16 = .ok (.lload_n 1, 1) := by decide +kernel
theorem d_Grid_lastRow_17 : decode b_Grid_lastRow 17 = .ok (.aload_n 0, 1) := by decide +kernel
theorem d_Grid_lastRow_18 : decode b_Grid_lastRow 18 = .ok (.getfield 54, 3) := by decide +kernel
theorem d_Grid_lastRow_21 : decode b_Grid_lastRow 21 = .ok (.i2l, 1) := by decide +kernel
theorem d_Grid_lastRow_22 : decode b_Grid_lastRow 22 = .ok (.lsub, 1) := by decide +kernel
theorem d_Grid_lastRow_23 : decode b_Grid_lastRow 23 = .ok (.aload_n 0, 1) := by decide +kernel
theorem d_Grid_lastRow_24 : decode b_Grid_lastRow 24 = .ok (.getfield 22, 3) := by decide +kernel
theorem d_Grid_lastRow_27 : decode b_Grid_lastRow 27 = .ok (.i2l, 1) := by decide +kernel
theorem d_Grid_lastRow_28 : decode b_Grid_lastRow 28 = .ok (.invokestatic 106, 3) := by decide +kernel
theorem d_Grid_lastRow_31 : decode b_Grid_lastRow 31 = .ok (.invokestatic 102, 3) := by decide +kernel
theorem d_Grid_lastRow_34 : decode b_Grid_lastRow 34 = .ok (.l2i, 1) := by decide +kernel
theorem d_Grid_lastRow_35 : decode b_Grid_lastRow 35 = .ok (.ireturn, 1) := by decide +kernel
theorem d_Grid_bitsFromTo_0 : decode b_Grid_bitsFromTo 0 = .ok (.lload_n 0, 1) := by decide +kernel
theorem d_Grid_bitsFromTo_1 : decode b_Grid_bitsFromTo 1 = .ok (.lload_n 2, 1) := by decide +kernel
theorem d_Grid_bitsFromTo_2 : decode b_Grid_bitsFromTo 2 = .ok (.lcmp, 1) := by decide +kernel
theorem d_Grid_bitsFromTo_3 : decode b_Grid_bitsFromTo 3 = .ok (.ifCond .gt 23, 3) := by decide +kernel
theorem d_Grid_bitsFromTo_6 : decode b_Grid_bitsFromTo 6 = .ok (.ldc2_w 79, 3) := by decide +kernel
theorem d_Grid_bitsFromTo_9 : decode b_Grid_bitsFromTo 9 = .ok (.lload_n 0, 1) := by decide +kernel
theorem d_Grid_bitsFromTo_10 : decode b_Grid_bitsFromTo 10 = .ok (.l2i, 1) := by decide +kernel
theorem d_Grid_bitsFromTo_11 : decode b_Grid_bitsFromTo 11 = .ok (.lshl, 1) := by decide +kernel
theorem d_Grid_bitsFromTo_12 : decode b_Grid_bitsFromTo 12 = .ok (.ldc2_w 79, 3) := by decide +kernel
theorem d_Grid_bitsFromTo_15 : decode b_Grid_bitsFromTo 15 = .ok (.ldc2_w 120, 3) := by decide +kernel
theorem d_Grid_bitsFromTo_18 : decode b_Grid_bitsFromTo 18 = .ok (.lload_n 2, 1) := by decide +kernel
theorem d_Grid_bitsFromTo_19 : decode b_Grid_bitsFromTo 19 = .ok (.lsub, 1) := by decide +kernel
theorem d_Grid_bitsFromTo_20 : decode b_Grid_bitsFromTo 20 = .ok (.l2i, 1) := by decide +kernel
theorem d_Grid_bitsFromTo_21 : decode b_Grid_bitsFromTo 21 = .ok (.lushr, 1) := by decide +kernel
theorem d_Grid_bitsFromTo_22 : decode b_Grid_bitsFromTo 22 = .ok (.land, 1) := by decide +kernel
theorem d_Grid_bitsFromTo_23 : decode b_Grid_bitsFromTo 23 = .ok (.goto 4, 3) := by decide +kernel
theorem d_Grid_bitsFromTo_26 : decode b_Grid_bitsFromTo 26 = .ok (.lconst 0, 1) := by decide +kernel
theorem d_Grid_bitsFromTo_27 : decode b_Grid_bitsFromTo 27 = .ok (.lreturn, 1) := by decide +kernel
theorem d_Painter_init_0 : decode b_Painter_init 0 = .ok (.aload_n 0, 1) := by decide +kernel
theorem d_Painter_init_1 : decode b_Painter_init 1 = .ok (.invokespecial 3, 3) := by decide +kernel
theorem d_Painter_init_4 : decode b_Painter_init 4 = .ok (.aload_n 0, 1) := by decide +kernel
theorem d_Painter_init_5 : decode b_Painter_init 5 = .ok (.aload_n 1, 1) := by decide +kernel
theorem d_Painter_init_6 : decode b_Painter_init 6 = .ok (.putfield 9, 3) := by decide +kernel
theorem d_Painter_init_9 : decode b_Painter_init 9 = .ok (.aload_n 0, 1) := by decide +kernel
theorem d_Painter_init_10 : decode b_Painter_init 10 = .ok (.aload_n 2, 1) := by decide +kernel
theorem d_Painter_init_11 : decode b_Painter_init 11 = .ok (.putfield 15, 3) := by decide +kernel
theorem d_Painter_init_14 : decode b_Painter_init 14 = .ok (.aload_n 0, 1) := by decide +kernel
theorem d_Painter_init_15 : decode b_Painter_init 15 = .ok (.aload_n 3, 1) := by decide +kernel
theorem d_Painter_init_16 : decode b_Painter_init 16 = .ok (.putfield 19, 3) := by decide +kernel
theorem d_Painter_init_19 : decode b_Painter_init 19 = .ok (.return_, 1) := by decide +kernel
theorem d_Painter_paint_0 : decode b_Painter_paint 0 = .ok (.iconst 0, 1) := by decide +kernel
theorem d_Painter_paint_1 : decode b_Painter_paint 1 = .ok (.istore_n 1, 1) := by decide +kernel
theorem d_Painter_paint_2 : decode b_Painter_paint 2 = .ok (.iload_n 1, 1) := by decide +kernel
theorem d_Painter_paint_3 : decode b_Painter_paint 3 = .ok (.aload_n 0, 1) := by decide +kernel
theorem d_Painter_paint_4 : decode b_Painter_paint 4 = .ok (.getfield 15, 3) := by decide +kernel
theorem d_Painter_paint_7 : decode b_Painter_paint 7 = .ok (.getfield 23, 3) := by decide +kernel
theorem d_Painter_paint_10 : decode b_Painter_paint 10 = .ok (.if_icmp .ge 57, 3) := by decide +kernel
theorem d_Painter_paint_13 : decode b_Painter_paint 13 = .ok (.aload_n 0, 1) := by decide +kernel
theorem d_Painter_paint_14 : decode b_Painter_paint 14 = .ok (.getfield 19, 3) := by decide +kernel
theorem d_Painter_paint_17 : decode b_Painter_paint 17 = .ok (.invokevirtual 29, 3) := by decide +kernel
theorem d_Painter_paint_20 : decode b_Painter_paint 20 = .ok (.ifCond .ne 47, 3) := by decide +kernel
theorem d_Painter_paint_23 : decode b_Painter_paint 23 = .ok (.aload_n 0, 1) := by decide +kernel
theorem d_Painter_paint_24 : decode b_Painter_paint 24 = .ok (.iload_n 1, 1) := by decide +kernel
theorem d_Painter_paint_25 : decode b_Painter_paint 25 = .ok (.invokevirtual 35, 3) := by decide +kernel
theorem d_Painter_paint_28 : decode b_Painter_paint 28 = .ok (.ifCond .eq 18, 3) := by decide +kernel
theorem d_Painter_paint_31 : decode b_Painter_paint 31 = .ok (.aload_n 0, 1) := by decide +kernel
theorem d_Painter_paint_32 : decode b_Painter_paint 32 = .ok (.iload_n 1, 1) := by decide +kernel
theorem d_Painter_paint_33 : decode b_Painter_paint 33 = .ok (.invokevirtual 39, 3) := by decide +kernel
theorem d_Painter_paint_36 : decode b_Painter_paint 36 = .ok (.aload_n 0, 1) := by decide +kernel
theorem d_Painter_paint_37 : decode b_Painter_paint 37 = .ok (.iload_n 1, 1) := by decide +kernel
theorem d_Painter_paint_38 : decode b_Painter_paint 38 = .ok (.invokevirtual 43, 3) := by decide +kernel
theorem d_Painter_paint_41 : decode b_Painter_paint 41 = .ok (.aload_n 0, 1) := by decide +kernel
theorem d_Painter_paint_42 : decode b_Painter_paint 42 = .ok (.iload_n 1, 1) := by decide +kernel
theorem d_Painter_paint_43 : decode b_Painter_paint 43 = .ok (.invokevirtual 46, 3) := by decide +kernel
theorem d_Painter_paint_46 : decode b_Painter_paint 46 = .ok (.aload_n 0, 1) := by decide +kernel
theorem d_Painter_paint_47 : decode b_Painter_paint 47 = .ok (.getfield 9, 3) := by decide +kernel
theorem d_Painter_paint_50 : decode b_Painter_paint 50 = .ok (.getfield 49, 3) := by decide +kernel
theorem d_Painter_paint_53 : decode b_Painter_paint 53 = .ok (.ifCond .ne 8, 3) := by decide +kernel
theorem d_Painter_paint_56 : decode b_Painter_paint 56 = .ok (.aload_n 0, 1) := by decide +kernel
theorem d_Painter_paint_57 : decode b_Painter_paint 57 = .ok (.iload_n 1, 1) := by decide +kernel
theorem d_Painter_paint_58 : decode b_Painter_paint 58 = .ok (.invokevirtual 54, 3) := by decide +kernel
theorem d_Painter_paint_61 : decode b_Painter_paint 61 = .ok (.iinc 1 1, 3) := by decide +kernel
theorem d_Painter_paint_64 : decode b_Painter_paint 64 = .ok (.goto (-62), 3) := by decide +kernel
theorem d_Painter_paint_67 : decode b_Painter_paint 67 = .ok (.return_, 1) := by decide +kernel
theorem d_Painter_isNear_0 : decode b_Painter_isNear 0 = .ok (.iconst 2, 1) := by decide +kernel
theorem d_Painter_isNear_1 : decode b_Painter_isNear 1 = .ok (.aload_n 0, 1) := by decide +kernel
theorem d_Painter_isNear_2 : decode b_Painter_isNear 2 = .ok (.getfield 9, 3) := by decide +kernel
theorem d_Painter_isNear_5 : decode b_Painter_isNear 5 = .ok (.getfield 57, 3) := by decide +kernel
theorem d_Painter_isNear_8 : decode b_Painter_isNear 8 = .ok (.imul, 1) := by decide +kernel
theorem d_Painter_isNear_9 : decode b_Painter_isNear 9 = .ok (.istore_n 2, 1) := by decide +kernel
theorem d_Painter_isNear_10 : decode b_Painter_isNear 10 = .ok (.aload_n 0, 1) := by decide +kernel
theorem d_Painter_isNear_11 : decode b_Painter_isNear 11 = .ok (.getfield 19, 3) := by decide +kernel
theorem d_Painter_isNear_14 : decode b_Painter_isNear 14 = .ok (.aload_n 0, 1) := by decide +kernel
theorem d_Painter_isNear_15 : decode b_Painter_isNear 15 = .ok (.getfield 15, 3) := by decide +kernel
theorem d_Painter_isNear_18 : decode b_Painter_isNear 18 = .ok (.getfield 60, 3) := by decide +kernel
theorem d_Painter_isNear_21 : decode b_Painter_isNear 21 = .ok (.iload_n 1, 1) := by decide +kernel
theorem d_Painter_isNear_22 : decode b_Painter_isNear 22 = .ok (.iaload, 1) := by decide +kernel
theorem d_Painter_isNear_23 : decode b_Painter_isNear 23 = .ok (.aload_n 0, 1) := by decide +kernel
theorem d_Painter_isNear_24 : decode b_Painter_isNear 24 = .ok (.getfield 15, 3) := by decide +kernel
theorem d_Painter_isNear_27 : decode b_Painter_isNear 27 = .ok (.getfield 64, 3) := by decide +kernel
theorem d_Painter_isNear_30 : decode b_Painter_isNear 30 = .ok (.iload_n 1, 1) := by decide +kernel
theorem d_Painter_isNear_31 : decode b_Painter_isNear 31 = .ok (.iaload, 1) := by decide +kernel
theorem d_Painter_isNear_32 : decode b_Painter_isNear 32 = .ok (.invokestatic 67, 3) := by decide +kernel
theorem d_Painter_isNear_35 : decode b_Painter_isNear 35 = .ok (.iload_n 2, 1) := by decide +kernel
theorem d_Painter_isNear_36 : decode b_Painter_isNear 36 = .ok (.isub, 1) := by decide +kernel
theorem d_Painter_isNear_37 : decode b_Painter_isNear 37 = .ok (.i2l, 1) := by decide +kernel
theorem d_Painter_isNear_38 : decode b_Painter_isNear 38 = .ok (.aload_n 0, 1) := by decide +kernel
theorem d_Painter_isNear_39 : decode b_Painter_isNear 39 = .ok (.getfield 15, 3) := by decide +kernel
theorem d_Painter_isNear_42 : decode b_Painter_isNear 42 = .ok (.getfield 60, 3) := by decide +kernel
theorem d_Painter_isNear_45 : decode b_Painter_isNear 45 = .ok (.iload_n 1, 1) := by decide +kernel
theorem d_Painter_isNear_46 : decode b_Painter_isNear 46 = .ok (.iaload, 1) := by decide +kernel
theorem d_Painter_isNear_47 : decode b_Painter_isNear 47 = .ok (.aload_n 0, 1) := by decide +kernel
theorem d_Painter_isNear_48 : decode b_Painter_isNear 48 = .ok (.getfield 15, 3) := by decide +kernel
theorem d_Painter_isNear_51 : decode b_Painter_isNear 51 = .ok (.getfield 64, 3) := by decide +kernel
theorem d_Painter_isNear_54 : decode b_Painter_isNear 54 = .ok (.iload_n 1, 1) := by decide +kernel
theorem d_Painter_isNear_55 : decode b_Painter_isNear 55 = .ok (.iaload, 1) := by decide +kernel
theorem d_Painter_isNear_56 : decode b_Painter_isNear 56 = .ok (.invokestatic 73, 3) := by decide +kernel
theorem d_Painter_isNear_59 : decode b_Painter_isNear 59 = .ok (.iload_n 2, 1) := by decide +kernel
theorem d_Painter_isNear_60 : decode b_Painter_isNear 60 = .ok (.iadd, 1) := by decide +kernel
theorem d_Painter_isNear_61 : decode b_Painter_isNear 61 = .ok (.i2l, 1) := by decide +kernel
theorem d_Painter_isNear_62 : decode b_Painter_isNear 62 = .ok (.aload_n 0, 1) := by decide +kernel
theorem d_Painter_isNear_63 : decode b_Painter_isNear 63 = .ok (.getfield 15, 3) := by decide +kernel
theorem d_Painter_isNear_66 : decode b_Painter_isNear 66 = .ok (.getfield 76, 3) := by decide +kernel
theorem d_Painter_isNear_69 : decode b_Painter_isNear 69 = .ok (.iload_n 1, 1) := by decide +kernel
theorem d_Painter_isNear_70 : decode b_Painter_isNear 70 = .ok (.iaload, 1) := by decide +kernel
theorem d_Painter_isNear_71 : decode b_Painter_isNear 71 = .ok (.aload_n 0, 1) := by decide +kernel
theorem d_Painter_isNear_72 : decode b_Painter_isNear 72 = .ok (.getfield 15, 3) := by decide +kernel
theorem d_Painter_isNear_75 : decode b_Painter_isNear 75 = .ok (.getfield 79, 3) := by decide +kernel
theorem d_Painter_isNear_78 : decode b_Painter_isNear 78 = .ok (.iload_n 1, 1) := by decide +kernel
theorem d_Painter_isNear_79 : decode b_Painter_isNear 79 = .ok (.iaload, 1) := by decide +kernel
theorem d_Painter_isNear_80 : decode b_Painter_isNear 80 = .ok (.invokestatic 67, 3) := by decide +kernel
theorem d_Painter_isNear_83 : decode b_Painter_isNear 83 = .ok (.iload_n 2, 1) := by decide +kernel
theorem d_Painter_isNear_84 : decode b_Painter_isNear 84 = .ok (.isub, 1) := by decide +kernel
theorem d_Painter_isNear_85 : decode b_Painter_isNear 85 = .ok (.i2l, 1) := by decide +kernel
theorem d_Painter_isNear_86 : decode b_Painter_isNear 86 = .ok (.aload_n 0, 1) := by decide +kernel
theorem d_Painter_isNear_87 : decode b_Painter_isNear 87 = .ok (.getfield 15, 3) := by decide +kernel
theorem d_Painter_isNear_90 : decode b_Painter_isNear 90 = .ok (.getfield 76, 3) := by decide +kernel
theorem d_Painter_isNear_93 : decode b_Painter_isNear 93 = .ok (.iload_n 1, 1) := by decide +kernel
theorem d_Painter_isNear_94 : decode b_Painter_isNear 94 = .ok (.iaload, 1) := by decide +kernel
theorem d_Painter_isNear_95 : decode b_Painter_isNear 95 = .ok (.aload_n 0, 1) := by decide +kernel
theorem d_Painter_isNear_96 : decode b_Painter_isNear 96 = .ok (.getfield 15, 3) := by decide +kernel
theorem d_Painter_isNear_99 : decode b_Painter_isNear 99 = .ok (.getfield 79, 3) := by decide +kernel
theorem d_Painter_isNear_102 : decode b_Painter_isNear 102 = .ok (.iload_n 1, 1) := by decide +kernel
theorem d_Painter_isNear_103 : decode b_Painter_isNear 103 = .ok (.iaload, 1) := by decide +kernel
theorem d_Painter_isNear_104 : decode b_Painter_isNear 104 = .ok (.invokestatic 73, 3) := by decide +kernel
theorem d_Painter_isNear_107 : decode b_Painter_isNear 107 = .ok (.iload_n 2, 1) := by decide +kernel
theorem d_Painter_isNear_108 : decode b_Painter_isNear 108 = .ok (.iadd, 1) := by decide +kernel
theorem d_Painter_isNear_109 : decode b_Painter_isNear 109 = .ok (.i2l, 1) := by decide +kernel
theorem d_Painter_isNear_110 : decode b_Painter_isNear 110 = .ok (.invokevirtual 82, 3) := by decide +kernel
theorem d_Painter_isNear_113 : decode b_Painter_isNear 113 = .ok (.ireturn, 1) := by decide +kernel
theorem d_Painter_paintBody_0 : decode b_Painter_paintBody 0 = .ok (.aload_n 0, 1) := by decide +kernel
theorem d_Painter_paintBody_1 : decode b_Painter_paintBody 1 = .ok (.getfield 15, 3) := by decide +kernel
theorem d_Painter_paintBody_4 : decode b_Painter_paintBody 4 = .ok (.getfield 64, 3) := by decide +kernel
theorem d_Painter_paintBody_7 : decode b_Painter_paintBody 7 = .ok (.iload_n 1, 1) := by decide +kernel
theorem d_Painter_paintBody_8 : decode b_Painter_paintBody 8 = .ok (.iaload, 1) := by decide +kernel
theorem d_Painter_paintBody_9 : decode b_Painter_paintBody 9 = .ok (.aload_n 0, 1) := by decide +kernel
theorem d_Painter_paintBody_10 : decode b_Painter_paintBody 10 = .ok (.getfield 15, 3) := by decide +kernel
theorem d_Painter_paintBody_13 : decode b_Painter_paintBody 13 = .ok (.getfield 60, 3) := by decide +kernel
theorem d_Painter_paintBody_16 : decode b_Painter_paintBody 16 = .ok (.iload_n 1, 1) := by decide +kernel
theorem d_Painter_paintBody_17 : decode b_Painter_paintBody 17 = .ok (.iaload, 1) := by decide +kernel
theorem d_Painter_paintBody_18 : decode b_Painter_paintBody 18 = .ok (.isub, 1) := by decide +kernel
theorem d_Painter_paintBody_19 : decode b_Painter_paintBody 19 = .ok (.istore_n 2, 1) := by decide +kernel
theorem d_Painter_paintBody_20 : decode b_Painter_paintBody 20 = .ok (.aload_n 0, 1) := by decide +kernel
theorem d_Painter_paintBody_21 : decode b_Painter_paintBody 21 = .ok (.getfield 15, 3) := by decide +kernel
theorem d_Painter_paintBody_24 : decode b_Painter_paintBody 24 = .ok (.getfield 79, 3) := by decide +kernel
theorem d_Painter_paintBody_27 : decode b_Painter_paintBody 27 = .ok (.iload_n 1, 1) := by decide +kernel
theorem d_Painter_paintBody_28 : decode b_Painter_paintBody 28 = .ok (.iaload, 1) := by decide +kernel
theorem d_Painter_paintBody_29 : decode b_Painter_paintBody 29 = .ok (.aload_n 0, 1) := by decide +kernel
theorem d_Painter_paintBody_30 : decode b_Painter_paintBody 30 = .ok (.getfield 15, 3) := by decide +kernel
theorem d_Painter_paintBody_33 : decode b_Painter_paintBody 33 = .ok (.getfield 76, 3) := by decide +kernel
theorem d_Painter_paintBody_36 : decode b_Painter_paintBody 36 = .ok (.iload_n 1, 1) := by decide +kernel
theorem d_Painter_paintBody_37 : decode b_Painter_paintBody 37 = .ok (.iaload, 1) := by decide +kernel
theorem d_Painter_paintBody_38 : decode b_Painter_paintBody 38 = .ok (.isub, 1) := by decide +kernel
theorem d_Painter_paintBody_39 : decode b_Painter_paintBody 39 = .ok (.istore_n 3, 1) := by decide +kernel
theorem d_Painter_paintBody_40 : decode b_Painter_paintBody 40 = .ok (.aload_n 0, 1) := by decide +kernel
theorem d_Painter_paintBody_41 : decode b_Painter_paintBody 41 = .ok (.getfield 15, 3) := by decide +kernel
theorem d_Painter_paintBody_44 : decode b_Painter_paintBody 44 = .ok (.getfield 86, 3) := by decide +kernel
theorem d_Painter_paintBody_47 : decode b_Painter_paintBody 47 = .ok (.iload_n 1, 1) := by decide +kernel
theorem d_Painter_paintBody_48 : decode b_Painter_paintBody 48 = .ok (.iaload, 1) := by decide +kernel
theorem d_Painter_paintBody_49 : decode b_Painter_paintBody 49 = .ok (.istore 4, 2) := by decide +kernel
theorem d_Painter_paintBody_51 : decode b_Painter_paintBody 51 = .ok (.aload_n 0, 1) := by decide +kernel
theorem d_Painter_paintBody_52 : decode b_Painter_paintBody 52 = .ok (.getfield 15, 3) := by decide +kernel
theorem d_Painter_paintBody_55 : decode b_Painter_paintBody 55 = .ok (.getfield 89, 3) := by decide +kernel
theorem d_Painter_paintBody_58 : decode b_Painter_paintBody 58 = .ok (.iload_n 1, 1) := by decide +kernel
theorem d_Painter_paintBody_59 : decode b_Painter_paintBody 59 = .ok (.iaload, 1) := by decide +kernel
theorem d_Painter_paintBody_60 : decode b_Painter_paintBody 60 = .ok (.istore 5, 2) := by decide +kernel
theorem d_Painter_paintBody_62 : decode b_Painter_paintBody 62 = .ok (.iload_n 2, 1) := by decide +kernel
theorem d_Painter_paintBody_63 : decode b_Painter_paintBody 63 = .ok (.ifCond .ne 8, 3) := by decide +kernel
theorem d_Painter_paintBody_66 : decode b_Painter_paintBody 66 = .ok (.iload_n 3, 1) := by decide +kernel
theorem d_Painter_paintBody_67 : decode b_Painter_paintBody 67 = .ok (.ifCond .ne 4, 3) := by decide +kernel
theorem d_Painter_paintBody_70 : decode b_Painter_paintBody 70 = .ok (.return_, 1) := by decide +kernel
theorem d_Painter_paintBody_71 : decode b_Painter_paintBody 71 = .ok (.aload_n 0, 1) := by decide +kernel
theorem d_Painter_paintBody_72 : decode b_Painter_paintBody 72 = .ok (.getfield 19, 3) := by decide +kernel
theorem d_Painter_paintBody_75 : decode b_Painter_paintBody 75 = .ok (.aload_n 0, 1) := by decide +kernel
theorem d_Painter_paintBody_76 : decode b_Painter_paintBody 76 = .ok (.getfield 15, 3) := by decide +kernel
theorem d_Painter_paintBody_79 : decode b_Painter_paintBody 79 = .ok (.getfield 60, 3) := by decide +kernel
theorem d_Painter_paintBody_82 : decode b_Painter_paintBody 82 = .ok (.iload_n 1, 1) := by decide +kernel
theorem d_Painter_paintBody_83 : decode b_Painter_paintBody 83 = .ok (.iaload, 1) := by decide +kernel
theorem d_Painter_paintBody_84 : decode b_Painter_paintBody 84 = .ok (.aload_n 0, 1) := by decide +kernel
theorem d_Painter_paintBody_85 : decode b_Painter_paintBody 85 = .ok (.getfield 15, 3) := by decide +kernel
theorem d_Painter_paintBody_88 : decode b_Painter_paintBody 88 = .ok (.getfield 76, 3) := by decide +kernel
theorem d_Painter_paintBody_91 : decode b_Painter_paintBody 91 = .ok (.iload_n 1, 1) := by decide +kernel
theorem d_Painter_paintBody_92 : decode b_Painter_paintBody 92 = .ok (.iaload, 1) := by decide +kernel
theorem d_Painter_paintBody_93 : decode b_Painter_paintBody 93 = .ok (.invokevirtual 92, 3) := by decide +kernel
theorem d_Painter_paintBody_96 : decode b_Painter_paintBody 96 = .ok (.aload_n 0, 1) := by decide +kernel
theorem d_Painter_paintBody_97 : decode b_Painter_paintBody 97 = .ok (.getfield 19, 3) := by decide +kernel
theorem d_Painter_paintBody_100 : decode b_Painter_paintBody 100 = .ok (.iload 4, 2) := by decide +kernel
theorem d_Painter_paintBody_102 : decode b_Painter_paintBody 102 = .ok (.i2l, 1) := by decide +kernel
theorem d_Painter_paintBody_103 : decode b_Painter_paintBody 103 = .ok (.iload 5, 2) := by decide +kernel
theorem d_Painter_paintBody_105 : decode b_Painter_paintBody 105 = .ok (.i2l, 1) := by decide +kernel
theorem d_Painter_paintBody_106 : decode b_Painter_paintBody 106 = .ok (.invokevirtual 96, 3) := by decide +kernel
theorem d_Painter_paintBody_109 : decode b_Painter_paintBody 109 = .ok (.aload_n 0, 1) := by decide +kernel
theorem d_Painter_paintBody_110 : decode b_Painter_paintBody 110 = .ok (.getfield 19, 3) := by decide +kernel
theorem d_Painter_paintBody_113 : decode b_Painter_paintBody 113 = .ok (.iload_n 2, 1) := by decide +kernel
theorem d_Painter_paintBody_114 : decode b_Painter_paintBody 114 = .ok (.iload 4, 2) := by decide +kernel
theorem d_Painter_paintBody_116 : decode b_Painter_paintBody 116 = .ok (.iadd, 1) := by decide +kernel
theorem d_Painter_paintBody_117 : decode b_Painter_paintBody 117 = .ok (.i2l, 1) := by decide +kernel
theorem d_Painter_paintBody_118 : decode b_Painter_paintBody 118 = .ok (.iload_n 3, 1) := by decide +kernel
theorem d_Painter_paintBody_119 : decode b_Painter_paintBody 119 = .ok (.iload 5, 2) := by decide +kernel
theorem d_Painter_paintBody_121 : decode b_Painter_paintBody 121 = .ok (.iadd, 1) := by decide +kernel
theorem d_Painter_paintBody_122 : decode b_Painter_paintBody 122 = .ok (.i2l, 1) := by decide +kernel
theorem d_Painter_paintBody_123 : decode b_Painter_paintBody 123 = .ok (.invokevirtual 96, 3) := by decide +kernel
theorem d_Painter_paintBody_126 : decode b_Painter_paintBody 126 = .ok (.aload_n 0, 1) := by decide +kernel
theorem d_Painter_paintBody_127 : decode b_Painter_paintBody 127 = .ok (.getfield 19, 3) := by decide +kernel
theorem d_Painter_paintBody_130 : decode b_Painter_paintBody 130 = .ok (.iload_n 2, 1) := by decide +kernel
theorem d_Painter_paintBody_131 : decode b_Painter_paintBody 131 = .ok (.iload 4, 2) := by decide +kernel
theorem d_Painter_paintBody_133 : decode b_Painter_paintBody 133 = .ok (.isub, 1) := by decide +kernel
theorem d_Painter_paintBody_134 : decode b_Painter_paintBody 134 = .ok (.i2l, 1) := by decide +kernel
theorem d_Painter_paintBody_135 : decode b_Painter_paintBody 135 = .ok (.iload_n 3, 1) := by decide +kernel
theorem d_Painter_paintBody_136 : decode b_Painter_paintBody 136 = .ok (.iload 5, 2) := by decide +kernel
theorem d_Painter_paintBody_138 : decode b_Painter_paintBody 138 = .ok (.isub, 1) := by decide +kernel
theorem d_Painter_paintBody_139 : decode b_Painter_paintBody 139 = .ok (.i2l, 1) := by decide +kernel
theorem d_Painter_paintBody_140 : decode b_Painter_paintBody 140 = .ok (.invokevirtual 96, 3) := by decide +kernel
theorem d_Painter_paintBody_143 : decode b_Painter_paintBody 143 = .ok (.aload_n 0, 1) := by decide +kernel
theorem d_Painter_paintBody_144 : decode b_Painter_paintBody 144 = .ok (.getfield 19, 3) := by decide +kernel
theorem d_Painter_paintBody_147 : decode b_Painter_paintBody 147 = .ok (.iload 4, 2) := by decide +kernel
theorem d_Painter_paintBody_149 : decode b_Painter_paintBody 149 = .ok (.ineg, 1) := by decide +kernel
theorem d_Painter_paintBody_150 : decode b_Painter_paintBody 150 = .ok (.i2l, 1) := by decide +kernel
theorem d_Painter_paintBody_151 : decode b_Painter_paintBody 151 = .ok (.iload 5, 2) := by decide +kernel
theorem d_Painter_paintBody_153 : decode b_Painter_paintBody 153 = .ok (.ineg, 1) := by decide +kernel
theorem d_Painter_paintBody_154 : decode b_Painter_paintBody 154 = .ok (.i2l, 1) := by decide +kernel
theorem d_Painter_paintBody_155 : decode b_Painter_paintBody 155 = .ok (.invokevirtual 96, 3) := by decide +kernel
theorem d_Painter_paintBody_158 : decode b_Painter_paintBody 158 = .ok (.aload_n 0, 1) := by decide +kernel
theorem d_Painter_paintBody_159 : decode b_Painter_paintBody 159 = .ok (.getfield 19, 3) := by decide +kernel
theorem d_Painter_paintBody_162 : decode b_Painter_paintBody 162 = .ok (.invokevirtual 100, 3) := by decide +kernel
theorem d_Painter_paintBody_165 : decode b_Painter_paintBody 165 = .ok (.return_, 1) := by decide +kernel
theorem d_Painter_paintCaps_0 : decode b_Painter_paintCaps 0 = .ok (.aload_n 0, 1) := by decide +kernel
theorem d_Painter_paintCaps_1 : decode b_Painter_paintCaps 1 = .ok (.getfield 15, 3) := by decide +kernel
theorem d_Painter_paintCaps_4 : decode b_Painter_paintCaps 4 = .ok (.getfield 103, 3) := by decide +kernel
theorem d_Painter_paintCaps_7 : decode b_Painter_paintCaps 7 = .ok (.iload_n 1, 1) := by decide +kernel
theorem d_Painter_paintCaps_8 : decode b_Painter_paintCaps 8 = .ok (.iaload, 1) := by decide +kernel
theorem d_Painter_paintCaps_9 : decode b_Painter_paintCaps 9 = .ok (.ifCond .ge 27, 3) := by decide +kernel
theorem d_Painter_paintCaps_12 : decode b_Painter_paintCaps 12 = .ok (.aload_n 0, 1) := by decide +kernel
theorem d_Painter_paintCaps_13 : decode b_Painter_paintCaps 13 = .ok (.aload_n 0, 1) := by decide +kernel
theorem d_Painter_paintCaps_14 : decode b_Painter_paintCaps 14 = .ok (.getfield 15, 3) := by decide +kernel
theorem d_Painter_paintCaps_17 : decode b_Painter_paintCaps 17 = .ok (.getfield 60, 3) := by decide +kernel
theorem d_Painter_paintCaps_20 : decode b_Painter_paintCaps 20 = .ok (.iload_n 1, 1) := by decide +kernel
theorem d_Painter_paintCaps_21 : decode b_Painter_paintCaps 21 = .ok (.iaload, 1) := by decide +kernel
theorem d_Painter_paintCaps_22 : decode b_Painter_paintCaps 22 = .ok (.aload_n 0, 1) := by decide +kernel
theorem d_Painter_paintCaps_23 : decode b_Painter_paintCaps 23 = .ok (.getfield 15, 3) := by decide +kernel
theorem d_Painter_paintCaps_26 : decode b_Painter_paintCaps 26 = .ok (.getfield 76, 3) := by decide +kernel
theorem d_Painter_paintCaps_29 : decode b_Painter_paintCaps 29 = .ok (.iload_n 1, 1) := by decide +kernel
theorem d_Painter_paintCaps_30 : decode b_Painter_paintCaps 30 = .ok (.iaload, 1) := by decide +kernel
theorem d_Painter_paintCaps_31 : decode b_Painter_paintCaps 31 = .ok (.iload_n 1, 1) := by decide +kernel
theorem d_Painter_paintCaps_32 : decode b_Painter_paintCaps 32 = .ok (.iconst (-1), 1) := by decide +kernel
theorem d_Painter_paintCaps_33 : decode b_Painter_paintCaps 33 = .ok (.invokevirtual 106, 3) := by decide +kernel
theorem d_Painter_paintCaps_36 : decode b_Painter_paintCaps 36 = .ok (.aload_n 0, 1) := by decide +kernel
theorem d_Painter_paintCaps_37 : decode b_Painter_paintCaps 37 = .ok (.getfield 15, 3) := by decide +kernel
theorem d_Painter_paintCaps_40 : decode b_Painter_paintCaps 40 = .ok (.getfield 110, 3) := by decide +kernel
theorem d_Painter_paintCaps_43 : decode b_Painter_paintCaps 43 = .ok (.iload_n 1, 1) := by decide +kernel
theorem d_Painter_paintCaps_44 : decode b_Painter_paintCaps 44 = .ok (.iaload, 1) := by decide +kernel
theorem d_Painter_paintCaps_45 : decode b_Painter_paintCaps 45 = .ok (.iconst 1, 1) := by decide +kernel
theorem d_Painter_paintCaps_46 : decode b_Painter_paintCaps 46 = .ok (.if_icmp .ne 27, 3) := by decide +kernel
theorem d_Painter_paintCaps_49 : decode b_Painter_paintCaps 49 = .ok (.aload_n 0, 1) := by decide +kernel
theorem d_Painter_paintCaps_50 : decode b_Painter_paintCaps 50 = .ok (.aload_n 0, 1) := by decide +kernel
theorem d_Painter_paintCaps_51 : decode b_Painter_paintCaps 51 = .ok (.getfield 15, 3) := by decide +kernel
theorem d_Painter_paintCaps_54 : decode b_Painter_paintCaps 54 = .ok (.getfield 64, 3) := by decide +kernel
theorem d_Painter_paintCaps_57 : decode b_Painter_paintCaps 57 = .ok (.iload_n 1, 1) := by decide +kernel
theorem d_Painter_paintCaps_58 : decode b_Painter_paintCaps 58 = .ok (.iaload, 1) := by decide +kernel
theorem d_Painter_paintCaps_59 : decode b_Painter_paintCaps 59 = .ok (.aload_n 0, 1) := by decide +kernel
theorem d_Painter_paintCaps_60 : decode b_Painter_paintCaps 60 = .ok (.getfield 15, 3) := by decide +kernel
theorem d_Painter_paintCaps_63 : decode b_Painter_paintCaps 63 = .ok (.getfield 79, 3) := by decide +kernel
theorem d_Painter_paintCaps_66 : decode b_Painter_paintCaps 66 = .ok (.iload_n 1, 1) := by decide +kernel
theorem d_Painter_paintCaps_67 : decode b_Painter_paintCaps 67 = .ok (.iaload, 1) := by decide +kernel
theorem d_Painter_paintCaps_68 : decode b_Painter_paintCaps 68 = .ok (.iload_n 1, 1) := by decide +kernel
theorem d_Painter_paintCaps_69 : decode b_Painter_paintCaps 69 = .ok (.iconst 1, 1) := by decide +kernel
theorem d_Painter_paintCaps_70 : decode b_Painter_paintCaps 70 = .ok (.invokevirtual 106, 3) := by decide +kernel
theorem d_Painter_paintCaps_73 : decode b_Painter_paintCaps 73 = .ok (.return_, 1) := by decide +kernel
theorem d_Painter_paintCap_0 : decode b_Painter_paintCap 0 = .ok (.aload_n 0, 1) := by decide +kernel
theorem d_Painter_paintCap_1 : decode b_Painter_paintCap 1 = .ok (.getfield 9, 3) := by decide +kernel
theorem d_Painter_paintCap_4 : decode b_Painter_paintCap 4 = .ok (.getfield 113, 3) := by decide +kernel
theorem d_Painter_paintCap_7 : decode b_Painter_paintCap 7 = .ok (.iconst 1, 1) := by decide +kernel
theorem d_Painter_paintCap_8 : decode b_Painter_paintCap 8 = .ok (.if_icmp .ne 22, 3) := by decide +kernel
theorem d_Painter_paintCap_11 : decode b_Painter_paintCap 11 = .ok (.aload_n 0, 1) := by decide +kernel
theorem d_Painter_paintCap_12 : decode b_Painter_paintCap 12 = .ok (.getfield 19, 3) := by decide +kernel
theorem d_Painter_paintCap_15 : decode b_Painter_paintCap 15 = .ok (.iload_n 1, 1) := by decide +kernel
theorem d_Painter_paintCap_16 : decode b_Painter_paintCap 16 = .ok (.iload_n 2, 1) := by decide +kernel
theorem d_Painter_paintCap_17 : decode b_Painter_paintCap 17 = .ok (.aload_n 0, 1) := by decide +kernel
theorem d_Painter_paintCap_18 : decode b_Painter_paintCap 18 = .ok (.getfield 9, 3) := by decide +kernel
theorem d_Painter_paintCap_21 : decode b_Painter_paintCap 21 = .ok (.getfield 57, 3) := by decide +kernel
theorem d_Painter_paintCap_24 : decode b_Painter_paintCap 24 = .ok (.invokevirtual 116, 3) := by decide +kernel
theorem d_Painter_paintCap_27 : decode b_Painter_paintCap 27 = .ok (.goto 146, 3) := by decide +kernel
theorem d_Painter_paintCap_30 : decode b_Painter_paintCap 30 = .ok (.aload_n 0, 1) := by decide +kernel
theorem d_Painter_paintCap_31 : decode b_Painter_paintCap 31 = .ok (.getfield 9, 3) := by decide +kernel
theorem d_Painter_paintCap_34 : decode b_Painter_paintCap 34 = .ok (.getfield 113, 3) := by decide +kernel
theorem d_Painter_paintCap_37 : decode b_Painter_paintCap 37 = .ok (.iconst 2, 1) := by decide +kernel
theorem d_Painter_paintCap_38 : decode b_Painter_paintCap 38 = .ok (.if_icmp .ne 135, 3) := by decide +kernel
theorem d_Painter_paintCap_41 : decode b_Painter_paintCap 41 = .ok (.aload_n 0, 1) := by decide +kernel
theorem d_Painter_paintCap_42 : decode b_Painter_paintCap 42 = .ok (.getfield 15, 3) := by decide +kernel
theorem d_Painter_paintCap_45 : decode b_Painter_paintCap 45 = .ok (.getfield 110, 3) := by decide +kernel
theorem d_Painter_paintCap_48 : decode b_Painter_paintCap 48 = .ok (.iload_n 3, 1) := by decide +kernel
theorem d_Painter_paintCap_49 : decode b_Painter_paintCap 49 = .ok (.iaload, 1) := by decide +kernel
theorem d_Painter_paintCap_50 : decode b_Painter_paintCap 50 = .ok (.iconst 2, 1) := by decide +kernel
theorem d_Painter_paintCap_51 : decode b_Painter_paintCap 51 = .ok (.if_icmp .eq 122, 3) := by decide +kernel
theorem d_Painter_paintCap_54 : decode b_Painter_paintCap 54 = .ok (.aload_n 0, 1) := by decide +kernel
theorem d_Painter_paintCap_55 : decode b_Painter_paintCap 55 = .ok (.getfield 15, 3) := by decide +kernel
theorem d_Painter_paintCap_58 : decode b_Painter_paintCap 58 = .ok (.getfield 86, 3) := by decide +kernel
theorem d_Painter_paintCap_61 : decode b_Painter_paintCap 61 = .ok (.iload_n 3, 1) := by decide +kernel
theorem d_Painter_paintCap_62 : decode b_Painter_paintCap 62 = .ok (.iaload, 1) := by decide +kernel
theorem d_Painter_paintCap_63 : decode b_Painter_paintCap 63 = .ok (.istore 5, 2) := by decide +kernel
theorem d_Painter_paintCap_65 : decode b_Painter_paintCap 65 = .ok (.aload_n 0, 1) := by decide +kernel
theorem d_Painter_paintCap_66 : decode b_Painter_paintCap 66 = .ok (.getfield 15, 3) := by decide +kernel
theorem d_Painter_paintCap_69 : decode b_Painter_paintCap 69 = .ok (.getfield 89, 3) := by decide +kernel
theorem d_Painter_paintCap_72 : decode b_Painter_paintCap 72 = .ok (.iload_n 3, 1) := by decide +kernel
theorem d_Painter_paintCap_73 : decode b_Painter_paintCap 73 = .ok (.iaload, 1) := by decide +kernel
theorem d_Painter_paintCap_74 : decode b_Painter_paintCap 74 = .ok (.istore 6, 2) := by decide +kernel
theorem d_Painter_paintCap_76 : decode b_Painter_paintCap 76 = .ok (.iload 6, 2) := by decide +kernel
theorem d_Painter_paintCap_78 : decode b_Painter_paintCap 78 = .ok (.ineg, 1) := by decide +kernel
theorem d_Painter_paintCap_79 : decode b_Painter_paintCap 79 = .ok (.iload 4, 2) := by decide +kernel
theorem d_Painter_paintCap_81 : decode b_Painter_paintCap 81 = .ok (.imul, 1) := by decide +kernel
theorem d_Painter_paintCap_82 : decode b_Painter_paintCap 82 = .ok (.istore 7, 2) := by decide +kernel
theorem d_Painter_paintCap_84 : decode b_Painter_paintCap 84 = .ok (.iload 5, 2) := by decide +kernel
theorem d_Painter_paintCap_86 : decode b_Painter_paintCap 86 = .ok (.iload 4, 2) := by decide +kernel
theorem d_Painter_paintCap_88 : decode b_Painter_paintCap 88 = .ok (.imul, 1) := by decide +kernel
theorem d_Painter_paintCap_89 : decode b_Painter_paintCap 89 = .ok (.istore 8, 2) := by decide +kernel
theorem d_Painter_paintCap_91 : decode b_Painter_paintCap 91 = .ok (.aload_n 0, 1) := by decide +kernel
theorem d_Painter_paintCap_92 : decode b_Painter_paintCap 92 = .ok (.getfield 19, 3) := by decide +kernel
theorem d_Painter_paintCap_95 : decode b_Painter_paintCap 95 = .ok (.iload_n 1, 1) := by decide +kernel
theorem d_Painter_paintCap_96 : decode b_Painter_paintCap 96 = .ok (.iload_n 2, 1) := by decide +kernel
theorem d_Painter_paintCap_97 : decode b_Painter_paintCap 97 = .ok (.invokevirtual 92, 3) := by decide +kernel
theorem d_Painter_paintCap_100 : decode b_Painter_paintCap 100 = .ok (.aload_n 0, 1) := by decide +kernel
theorem d_Painter_paintCap_101 : decode b_Painter_paintCap 101 = .ok (.getfield 19, 3) := by decide +kernel
theorem d_Painter_paintCap_104 : decode b_Painter_paintCap 104 = .ok (.iload 5, 2) := by decide +kernel
theorem d_Painter_paintCap_106 : decode b_Painter_paintCap 106 = .ok (.i2l, 1) := by decide +kernel
theorem d_Painter_paintCap_107 : decode b_Painter_paintCap 107 = .ok (.iload 6, 2) := by decide +kernel
theorem d_Painter_paintCap_109 : decode b_Painter_paintCap 109 = .ok (.i2l, 1) := by decide +kernel
theorem d_Painter_paintCap_110 : decode b_Painter_paintCap 110 = .ok (.invokevirtual 96, 3) := by decide +kernel
theorem d_Painter_paintCap_113 : decode b_Painter_paintCap 113 = .ok (.aload_n 0, 1) := by decide +kernel
theorem d_Painter_paintCap_114 : decode b_Painter_paintCap 114 = .ok (.getfield 19, 3) := by decide +kernel
theorem d_Painter_paintCap_117 : decode b_Painter_paintCap 117 = .ok (.iload 5, 2) := by decide +kernel
theorem d_Painter_paintCap_119 : decode b_Painter_paintCap 119 = .ok (.iload 7, 2) := by decide +kernel
theorem d_Painter_paintCap_121 : decode b_Painter_paintCap 121 = .ok (.iadd, 1) := by decide +kernel
theorem d_Painter_paintCap_122 : decode b_Painter_paintCap 122 = .ok (.i2l, 1) := by decide +kernel
theorem d_Painter_paintCap_123 : decode b_Painter_paintCap 123 = .ok (.iload 6, 2) := by decide +kernel
theorem d_Painter_paintCap_125 : decode b_Painter_paintCap 125 = .ok (.iload 8, 2) := by decide +kernel
theorem d_Painter_paintCap_127 : decode b_Painter_paintCap 127 = .ok (.iadd, 1) := by decide +kernel
theorem d_Painter_paintCap_128 : decode b_Painter_paintCap 128 = .ok (.i2l, 1) := by decide +kernel
theorem d_Painter_paintCap_129 : decode b_Painter_paintCap 129 = .ok (.invokevirtual 96, 3) := by decide +kernel
theorem d_Painter_paintCap_132 : decode b_Painter_paintCap 132 = .ok (.aload_n 0, 1) := by decide +kernel
theorem d_Painter_paintCap_133 : decode b_Painter_paintCap 133 = .ok (.getfield 19, 3) := by decide +kernel
theorem d_Painter_paintCap_136 : decode b_Painter_paintCap 136 = .ok (.iload 7, 2) := by decide +kernel
theorem d_Painter_paintCap_138 : decode b_Painter_paintCap 138 = .ok (.iload 5, 2) := by decide +kernel
theorem d_Painter_paintCap_140 : decode b_Painter_paintCap 140 = .ok (.isub, 1) := by decide +kernel
theorem d_Painter_paintCap_141 : decode b_Painter_paintCap 141 = .ok (.i2l, 1) := by decide +kernel
theorem d_Painter_paintCap_142 : decode b_Painter_paintCap 142 = .ok (.iload 8, 2) := by decide +kernel
theorem d_Painter_paintCap_144 : decode b_Painter_paintCap 144 = .ok (.iload 6, 2) := by decide +kernel
theorem d_Painter_paintCap_146 : decode b_Painter_paintCap 146 = .ok (.isub, 1) := by decide +kernel
theorem d_Painter_paintCap_147 : decode b_Painter_paintCap 147 = .ok (.i2l, 1) := by decide +kernel
theorem d_Painter_paintCap_148 : decode b_Painter_paintCap 148 = .ok (.invokevirtual 96, 3) := by decide +kernel
theorem d_Painter_paintCap_151 : decode b_Painter_paintCap 151 = .ok (.aload_n 0, 1) := by decide +kernel
theorem d_Painter_paintCap_152 : decode b_Painter_paintCap 152 = .ok (.getfield 19, 3) := by decide +kernel
theorem d_Painter_paintCap_155 : decode b_Painter_paintCap 155 = .ok (.iload 5, 2) := by decide +kernel
theorem d_Painter_paintCap_157 : decode b_Painter_paintCap 157 = .ok (.ineg, 1) := by decide +kernel
theorem d_Painter_paintCap_158 : decode b_Painter_paintCap 158 = .ok (.i2l, 1) := by decide +kernel
theorem d_Painter_paintCap_159 : decode b_Painter_paintCap 159 = .ok (.iload 6, 2) := by decide +kernel
theorem d_Painter_paintCap_161 : decode b_Painter_paintCap 161 = .ok (.ineg, 1) := by decide +kernel
theorem d_Painter_paintCap_162 : decode b_Painter_paintCap 162 = .ok (.i2l, 1) := by decide +kernel
theorem d_Painter_paintCap_163 : decode b_Painter_paintCap 163 = .ok (.invokevirtual 96, 3) := by decide +kernel
theorem d_Painter_paintCap_166 : decode b_Painter_paintCap 166 = .ok (.aload_n 0, 1) := by decide +kernel
theorem d_Painter_paintCap_167 : decode b_Painter_paintCap 167 = .ok (.getfield 19, 3) := by decide +kernel
theorem d_Painter_paintCap_170 : decode b_Painter_paintCap 170 = .ok (.invokevirtual 100, 3) := by decide +kernel
theorem d_Painter_paintCap_173 : decode b_Painter_paintCap 173 = .ok (.return_, 1) := by decide +kernel
theorem d_Painter_paintJoin_0 : decode b_Painter_paintJoin 0 = .ok (.aload_n 0, 1) := by decide +kernel
theorem d_Painter_paintJoin_1 : decode b_Painter_paintJoin 1 = .ok (.getfield 15, 3) := by decide +kernel
theorem d_Painter_paintJoin_4 : decode b_Painter_paintJoin 4 = .ok (.getfield 103, 3) := by decide +kernel
theorem d_Painter_paintJoin_7 : decode b_Painter_paintJoin 7 = .ok (.iload_n 1, 1) := by decide +kernel
theorem d_Painter_paintJoin_8 : decode b_Painter_paintJoin 8 = .ok (.iaload, 1) := by decide +kernel
theorem d_Painter_paintJoin_9 : decode b_Painter_paintJoin 9 = .ok (.istore_n 2, 1) := by decide +kernel
theorem d_Painter_paintJoin_10 : decode b_Painter_paintJoin 10 = .ok (.iload_n 2, 1) := by decide +kernel
theorem d_Painter_paintJoin_11 : decode b_Painter_paintJoin 11 = .ok (.ifCond .ge 4, 3) := by decide +kernel
theorem d_Painter_paintJoin_14 : decode b_Painter_paintJoin 14 = .ok (.return_, 1) := by decide +kernel
theorem d_Painter_paintJoin_15 : decode b_Painter_paintJoin 15 = .ok (.aload_n 0, 1) := by decide +kernel
theorem d_Painter_paintJoin_16 : decode b_Painter_paintJoin 16 = .ok (.getfield 9, 3) := by decide +kernel
theorem d_Painter_paintJoin_19 : decode b_Painter_paintJoin 19 = .ok (.getfield 49, 3) := by decide +kernel
theorem d_Painter_paintJoin_22 : decode b_Painter_paintJoin 22 = .ok (.iconst 1, 1) := by decide +kernel
theorem d_Painter_paintJoin_23 : decode b_Painter_paintJoin 23 = .ok (.if_icmp .ne 36, 3) := by decide +kernel
theorem d_Painter_paintJoin_26 : decode b_Painter_paintJoin 26 = .ok (.aload_n 0, 1) := by decide +kernel
theorem d_Painter_paintJoin_27 : decode b_Painter_paintJoin 27 = .ok (.getfield 19, 3) := by decide +kernel
theorem d_Painter_paintJoin_30 : decode b_Painter_paintJoin 30 = .ok (.aload_n 0, 1) := by decide +kernel
theorem d_Painter_paintJoin_31 : decode b_Painter_paintJoin 31 = .ok (.getfield 15, 3) := by decide +kernel
theorem d_Painter_paintJoin_34 : decode b_Painter_paintJoin 34 = .ok (.getfield 60, 3) := by decide +kernel
theorem d_Painter_paintJoin_37 : decode b_Painter_paintJoin 37 = .ok (.iload_n 1, 1) := by decide +kernel
theorem d_Painter_paintJoin_38 : decode b_Painter_paintJoin 38 = .ok (.iaload, 1) := by decide +kernel
theorem d_Painter_paintJoin_39 : decode b_Painter_paintJoin 39 = .ok (.aload_n 0, 1) := by decide +kernel
theorem d_Painter_paintJoin_40 : decode b_Painter_paintJoin 40 = .ok (.getfield 15, 3) := by decide +kernel
theorem d_Painter_paintJoin_43 : decode b_Painter_paintJoin 43 = .ok (.getfield 76, 3) := by decide +kernel
theorem d_Painter_paintJoin_46 : decode b_Painter_paintJoin 46 = .ok (.iload_n 1, 1) := by decide +kernel
theorem d_Painter_paintJoin_47 : decode b_Painter_paintJoin 47 = .ok (.iaload, 1) := by decide +kernel
theorem d_Painter_paintJoin_48 : decode b_Painter_paintJoin 48 = .ok (.aload_n 0, 1) := by decide +kernel
theorem d_Painter_paintJoin_49 : decode b_Painter_paintJoin 49 = .ok (.getfield 9, 3) := by decide +kernel
theorem d_Painter_paintJoin_52 : decode b_Painter_paintJoin 52 = .ok (.getfield 57, 3) := by decide +kernel
theorem d_Painter_paintJoin_55 : decode b_Painter_paintJoin 55 = .ok (.invokevirtual 116, 3) := by decide +kernel
theorem d_Painter_paintJoin_58 : decode b_Painter_paintJoin 58 = .ok (.return_, 1) := by decide +kernel
theorem d_Painter_paintJoin_59 : decode b_Painter_paintJoin 59 = .ok (.aload_n 0, 1) := by decide +kernel
theorem d_Painter_paintJoin_60 : decode b_Painter_paintJoin 60 = .ok (.iload_n 2, 1) := by decide +kernel
theorem d_Painter_paintJoin_61 : decode b_Painter_paintJoin 61 = .ok (.iload_n 1, 1) := by decide +kernel
theorem d_Painter_paintJoin_62 : decode b_Painter_paintJoin 62 = .ok (.invokevirtual 120, 3) := by decide +kernel
theorem d_Painter_paintJoin_65 : decode b_Painter_paintJoin 65 = .ok (.istore_n 3, 1) := by decide +kernel
theorem d_Painter_paintJoin_66 : decode b_Painter_paintJoin 66 = .ok (.iload_n 3, 1) := by decide +kernel
theorem d_Painter_paintJoin_67 : decode b_Painter_paintJoin 67 = .ok (.ifCond .eq 106, 3) := by decide +kernel
theorem d_Painter_paintJoin_70 : decode b_Painter_paintJoin 70 = .ok (.aload_n 0, 1) := by decide +kernel
theorem d_Painter_paintJoin_71 : decode b_Painter_paintJoin 71 = .ok (.getfield 19, 3) := by decide +kernel
theorem d_Painter_paintJoin_74 : decode b_Painter_paintJoin 74 = .ok (.aload_n 0, 1) := by decide +kernel
theorem d_Painter_paintJoin_75 : decode b_Painter_paintJoin 75 = .ok (.getfield 15, 3) := by decide +kernel
theorem d_Painter_paintJoin_78 : decode b_Painter_paintJoin 78 = .ok (.getfield 60, 3) := by decide +kernel
theorem d_Painter_paintJoin_81 : decode b_Painter_paintJoin 81 = .ok (.iload_n 1, 1) := by decide +kernel
theorem d_Painter_paintJoin_82 : decode b_Painter_paintJoin 82 = .ok (.iaload, 1) := by decide +kernel
theorem d_Painter_paintJoin_83 : decode b_Painter_paintJoin 83 = .ok (.aload_n 0, 1) := by decide +kernel
theorem d_Painter_paintJoin_84 : decode b_Painter_paintJoin 84 = .ok (.getfield 15, 3) := by decide +kernel
theorem d_Painter_paintJoin_87 : decode b_Painter_paintJoin 87 = .ok (.getfield 76, 3) := by decide +kernel
theorem d_Painter_paintJoin_90 : decode b_Painter_paintJoin 90 = .ok (.iload_n 1, 1) := by decide +kernel
theorem d_Painter_paintJoin_91 : decode b_Painter_paintJoin 91 = .ok (.iaload, 1) := by decide +kernel
theorem d_Painter_paintJoin_92 : decode b_Painter_paintJoin 92 = .ok (.invokevirtual 92, 3) := by decide +kernel
theorem d_Painter_paintJoin_95 : decode b_Painter_paintJoin 95 = .ok (.aload_n 0, 1) := by decide +kernel
theorem d_Painter_paintJoin_96 : decode b_Painter_paintJoin 96 = .ok (.getfield 19, 3) := by decide +kernel
theorem d_Painter_paintJoin_99 : decode b_Painter_paintJoin 99 = .ok (.lconst 0, 1) := by decide +kernel
theorem d_Painter_paintJoin_100 : decode b_Painter_paintJoin 100 = .ok (.lconst 0, 1) := by decide +kernel
theorem d_Painter_paintJoin_101 : decode b_Painter_paintJoin 101 = .ok (.invokevirtual 96, 3) := by decide +kernel
theorem d_Painter_paintJoin_104 : decode b_Painter_paintJoin 104 = .ok (.aload_n 0, 1) := by decide +kernel
theorem d_Painter_paintJoin_105 : decode b_Painter_paintJoin 105 = .ok (.getfield 19, 3) := by decide +kernel
theorem d_Painter_paintJoin_108 : decode b_Painter_paintJoin 108 = .ok (.iload_n 3, 1) := by decide +kernel
theorem d_Painter_paintJoin_109 : decode b_Painter_paintJoin 109 = .ok (.aload_n 0, 1) := by decide +kernel
theorem d_Painter_paintJoin_110 : decode b_Painter_paintJoin 110 = .ok (.getfield 15, 3) := by decide +kernel
theorem d_Painter_paintJoin_113 : decode b_Painter_paintJoin 113 = .ok (.getfield 86, 3) := by decide +kernel
theorem d_Painter_paintJoin_116 : decode b_Painter_paintJoin 116 = .ok (.iload_n 2, 1) := by decide +kernel
theorem d_Painter_paintJoin_117 : decode b_Painter_paintJoin 117 = .ok (.iaload, 1) := by decide +kernel
theorem d_Painter_paintJoin_118 : decode b_Painter_paintJoin 118 = .ok (.imul, 1) := by decide +kernel
theorem d_Painter_paintJoin_119 : decode b_Painter_paintJoin 119 = .ok (.i2l, 1) := by decide +kernel
theorem d_Painter_paintJoin_120 : decode b_Painter_paintJoin 120 = .ok (.iload_n 3, 1) := by decide +kernel
theorem d_Painter_paintJoin_121 : decode b_Painter_paintJoin 121 = .ok (.aload_n 0, 1) := by decide +kernel
theorem d_Painter_paintJoin_122 : decode b_Painter_paintJoin 122 = .ok (.getfield 15, 3) := by decide +kernel
theorem d_Painter_paintJoin_125 : decode b_Painter_paintJoin 125 = .ok (.getfield 89, 3) := by decide +kernel
theorem d_Painter_paintJoin_128 : decode b_Painter_paintJoin 128 = .ok (.iload_n 2, 1) := by decide +kernel
theorem d_Painter_paintJoin_129 : decode b_Painter_paintJoin 129 = .ok (.iaload, 1) := by decide +kernel
theorem d_Painter_paintJoin_130 : decode b_Painter_paintJoin 130 = .ok (.imul, 1) := by decide +kernel
theorem d_Painter_paintJoin_131 : decode b_Painter_paintJoin 131 = .ok (.i2l, 1) := by decide +kernel
theorem d_Painter_paintJoin_132 : decode b_Painter_paintJoin 132 = .ok (.invokevirtual 96, 3) := by decide +kernel
theorem d_Painter_paintJoin_135 : decode b_Painter_paintJoin 135 = .ok (.aload_n 0, 1) := by decide +kernel
theorem d_Painter_paintJoin_136 : decode b_Painter_paintJoin 136 = .ok (.getfield 19, 3) := by decide +kernel
theorem d_Painter_paintJoin_139 : decode b_Painter_paintJoin 139 = .ok (.iload_n 3, 1) := by decide +kernel
theorem d_Painter_paintJoin_140 : decode b_Painter_paintJoin 140 = .ok (.aload_n 0, 1) := by decide +kernel
theorem d_Painter_paintJoin_141 : decode b_Painter_paintJoin 141 = .ok (.getfield 15, 3) := by decide +kernel
theorem d_Painter_paintJoin_144 : decode b_Painter_paintJoin 144 = .ok (.getfield 86, 3) := by decide +kernel
theorem d_Painter_paintJoin_147 : decode b_Painter_paintJoin 147 = .ok (.iload_n 1, 1) := by decide +kernel
theorem d_Painter_paintJoin_148 : decode b_Painter_paintJoin 148 = .ok (.iaload, 1) := by decide +kernel
theorem d_Painter_paintJoin_149 : decode b_Painter_paintJoin 149 = .ok (.imul, 1) := by decide +kernel
theorem d_Painter_paintJoin_150 : decode b_Painter_paintJoin 150 = .ok (.i2l, 1) := by decide +kernel
theorem d_Painter_paintJoin_151 : decode b_Painter_paintJoin 151 = .ok (.iload_n 3, 1) := by decide +kernel
theorem d_Painter_paintJoin_152 : decode b_Painter_paintJoin 152 = .ok (.aload_n 0, 1) := by decide +kernel
theorem d_Painter_paintJoin_153 : decode b_Painter_paintJoin 153 = .ok (.getfield 15, 3) := by decide +kernel
theorem d_Painter_paintJoin_156 : decode b_Painter_paintJoin 156 = .ok (.getfield 89, 3) := by decide +kernel
theorem d_Painter_paintJoin_159 : decode b_Painter_paintJoin 159 = .ok (.iload_n 1, 1) := by decide +kernel
theorem d_Painter_paintJoin_160 : decode b_Painter_paintJoin 160 = .ok (.iaload, 1) := by decide +kernel
theorem d_Painter_paintJoin_161 : decode b_Painter_paintJoin 161 = .ok (.imul, 1) := by decide +kernel
theorem d_Painter_paintJoin_162 : decode b_Painter_paintJoin 162 = .ok (.i2l, 1) := by decide +kernel
theorem d_Painter_paintJoin_163 : decode b_Painter_paintJoin 163 = .ok (.invokevirtual 96, 3) := by decide +kernel
theorem d_Painter_paintJoin_166 : decode b_Painter_paintJoin 166 = .ok (.aload_n 0, 1) := by decide +kernel
theorem d_Painter_paintJoin_167 : decode b_Painter_paintJoin 167 = .ok (.getfield 19, 3) := by decide +kernel
theorem d_Painter_paintJoin_170 : decode b_Painter_paintJoin 170 = .ok (.invokevirtual 100, 3) := by decide +kernel
theorem d_Painter_paintJoin_173 : decode b_Painter_paintJoin 173 = .ok (.return_, 1) := by decide +kernel
theorem d_Painter_turnSign_0 : decode b_Painter_turnSign 0 = .ok (.aload_n 0, 1) := by decide +kernel
theorem d_Painter_turnSign_1 : decode b_Painter_turnSign 1 = .ok (.getfield 15, 3) := by decide +kernel
theorem d_Painter_turnSign_4 : decode b_Painter_turnSign 4 = .ok (.getfield 86, 3) := by decide +kernel
theorem d_Painter_turnSign_7 : decode b_Painter_turnSign 7 = .ok (.iload_n 1, 1) := by decide +kernel
theorem d_Painter_turnSign_8 : decode b_Painter_turnSign 8 = .ok (.iaload, 1) := by decide +kernel
theorem d_Painter_turnSign_9 : decode b_Painter_turnSign 9 = .ok (.i2l, 1) := by decide +kernel
theorem d_Painter_turnSign_10 : decode b_Painter_turnSign 10 = .ok (.aload_n 0, 1) := by decide +kernel
theorem d_Painter_turnSign_11 : decode b_Painter_turnSign 11 = .ok (.getfield 15, 3) := by decide +kernel
theorem d_Painter_turnSign_14 : decode b_Painter_turnSign 14 = .ok (.getfield 89, 3) := by decide +kernel
theorem d_Painter_turnSign_17 : decode b_Painter_turnSign 17 = .ok (.iload_n 2, 1) := by decide +kernel
theorem d_Painter_turnSign_18 : decode b_Painter_turnSign 18 = .ok (.iaload, 1) := by decide +kernel
theorem d_Painter_turnSign_19 : decode b_Painter_turnSign 19 = .ok (.i2l, 1) := by decide +kernel
theorem d_Painter_turnSign_20 : decode b_Painter_turnSign 20 = .ok (.lmul, 1) := by decide +kernel
theorem d_Painter_turnSign_21 : decode b_Painter_turnSign 21 = .ok (.aload_n 0, 1) := by decide +kernel
theorem d_Painter_turnSign_22 : decode b_Painter_turnSign 22 = .ok (.getfield 15, 3) := by decide +kernel
theorem d_Painter_turnSign_25 : decode b_Painter_turnSign 25 = .ok (.getfield 89, 3) := by decide +kernel
theorem d_Painter_turnSign_28 : decode b_Painter_turnSign 28 = .ok (.iload_n 1, 1) := by decide +kernel
theorem d_Painter_turnSign_29 : decode b_Painter_turnSign 29 = .ok (.iaload, 1) := by decide +kernel
theorem d_Painter_turnSign_30 : decode b_Painter_turnSign 30 = .ok (.i2l, 1) := by decide +kernel
theorem d_Painter_turnSign_31 : decode b_Painter_turnSign 31 = .ok (.aload_n 0, 1) := by decide +kernel
theorem d_Painter_turnSign_32 : decode b_Painter_turnSign 32 = .ok (.getfield 15, 3) := by decide +kernel
theorem d_Painter_turnSign_35 : decode b_Painter_turnSign 35 = .ok (.getfield 86, 3) := by decide +kernel
theorem d_Painter_turnSign_38 : decode b_Painter_turnSign 38 = .ok (.iload_n 2, 1) := by decide +kernel
theorem d_Painter_turnSign_39 : decode b_Painter_turnSign 39 = .ok (.iaload, 1) := by decide +kernel
theorem d_Painter_turnSign_40 : decode b_Painter_turnSign 40 = .ok (.i2l, 1) := by decide +kernel
theorem d_Painter_turnSign_41 : decode b_Painter_turnSign 41 = .ok (.lmul, 1) := by decide +kernel
theorem d_Painter_turnSign_42 : decode b_Painter_turnSign 42 = .ok (.lsub, 1) := by decide +kernel
theorem d_Painter_turnSign_43 : decode b_Painter_turnSign 43 = .ok (.lstore_n 3, 1) := by decide +kernel
theorem d_Painter_turnSign_44 : decode b_Painter_turnSign 44 = .ok (.lload_n 3, 1) := by decide +kernel
theorem d_Painter_turnSign_45 : decode b_Painter_turnSign 45 = .ok (.invokestatic 123, 3) := by decide +kernel
theorem d_Painter_turnSign_48 : decode b_Painter_turnSign 48 = .ok (.ireturn, 1) := by decide +kernel
theorem d_Painter_paintMiter_0 : decode b_Painter_paintMiter 0 = .ok (.aload_n 0, 1) := by decide +kernel
theorem d_Painter_paintMiter_1 : decode b_Painter_paintMiter 1 = .ok (.getfield 15, 3) := by decide +kernel
theorem d_Painter_paintMiter_4 : decode b_Painter_paintMiter 4 = .ok (.getfield 103, 3) := by decide +kernel
theorem d_Painter_paintMiter_7 : decode b_Painter_paintMiter 7 = .ok (.iload_n 1, 1) := by decide +kernel
theorem d_Painter_paintMiter_8 : decode b_Painter_paintMiter 8 = .ok (.iaload, 1) := by decide +kernel
theorem d_Painter_paintMiter_9 : decode b_Painter_paintMiter 9 = .ok (.istore_n 2, 1) := by decide +kernel
theorem d_Painter_paintMiter_10 : decode b_Painter_paintMiter 10 = .ok (.iload_n 2, 1) := by decide +kernel
theorem d_Painter_paintMiter_11 : decode b_Painter_paintMiter 11 = .ok (.ifCond .ge 4, 3) := by decide +kernel
theorem d_Painter_paintMiter_14 : decode b_Painter_paintMiter 14 = .ok (.return_, 1) := by decide +kernel
theorem d_Painter_paintMiter_15 : decode b_Painter_paintMiter 15 = .ok (.aload_n 0, 1) := by decide +kernel
theorem d_Painter_paintMiter_16 : decode b_Painter_paintMiter 16 = .ok (.iload_n 2, 1) := by decide +kernel
theorem d_Painter_paintMiter_17 : decode b_Painter_paintMiter 17 = .ok (.iload_n 1, 1) := by decide +kernel
theorem d_Painter_paintMiter_18 : decode b_Painter_paintMiter 18 = .ok (.invokevirtual 120, 3) := by decide +kernel
theorem d_Painter_paintMiter_21 : decode b_Painter_paintMiter 21 = .ok (.istore_n 3, 1) := by decide +kernel
theorem d_Painter_paintMiter_22 : decode b_Painter_paintMiter 22 = .ok (.iload_n 3, 1) := by decide +kernel
theorem d_Painter_paintMiter_23 : decode b_Painter_paintMiter 23 = .ok (.aload_n 0, 1) := by decide +kernel
theorem d_Painter_paintMiter_24 : decode b_Painter_paintMiter 24 = .ok (.getfield 15, 3) := by decide +kernel
theorem d_Painter_paintMiter_27 : decode b_Painter_paintMiter 27 = .ok (.getfield 86, 3) := by decide +kernel
theorem d_Painter_paintMiter_30 : decode b_Painter_paintMiter 30 = .ok (.iload_n 2, 1) := by decide +kernel
theorem d_Painter_paintMiter_31 : decode b_Painter_paintMiter 31 = .ok (.iaload, 1) := by decide +kernel
theorem d_Painter_paintMiter_32 : decode b_Painter_paintMiter 32 = .ok (.imul, 1) := by decide +kernel
theorem d_Painter_paintMiter_33 : decode b_Painter_paintMiter 33 = .ok (.istore 4, 2) := by decide +kernel
theorem d_Painter_paintMiter_35 : decode b_Painter_paintMiter 35 = .ok (.iload_n 3, 1) := by decide +kernel
theorem d_Painter_paintMiter_36 : decode b_Painter_paintMiter 36 = .ok (.aload_n 0, 1) := by decide +kernel
theorem d_Painter_paintMiter_37 : decode b_Painter_paintMiter 37 = .ok (.getfield 15, 3) := by decide +kernel
theorem d_Painter_paintMiter_40 : decode b_Painter_paintMiter 40 = .ok (.getfield 89, 3) := by decide +kernel
theorem d_Painter_paintMiter_43 : decode b_Painter_paintMiter 43 = .ok (.iload_n 2, 1) := by decide +kernel
theorem d_Painter_paintMiter_44 : decode b_Painter_paintMiter 44 = .ok (.iaload, 1) := by decide +kernel
theorem d_Painter_paintMiter_45 : decode b_Painter_paintMiter 45 = .ok (.imul, 1) := by decide +kernel
theorem d_Painter_paintMiter_46 : decode b_Painter_paintMiter 46 = .ok (.istore 5, 2) := by decide +kernel
theorem d_Painter_paintMiter_48 : decode b_Painter_paintMiter 48 = .ok (.iload_n 3, 1) := by decide +kernel
theorem d_Painter_paintMiter_49 : decode b_Painter_paintMiter 49 = .ok (.aload_n 0, 1) := by decide +kernel
theorem d_Painter_paintMiter_50 : decode b_Painter_paintMiter 50 = .ok (.getfield 15, 3) := by decide +kernel
theorem d_Painter_paintMiter_53 : decode b_Painter_paintMiter 53 = .ok (.getfield 86, 3) := by decide +kernel
theorem d_Painter_paintMiter_56 : decode b_Painter_paintMiter 56 = .ok (.iload_n 1, 1) := by decide +kernel
theorem d_Painter_paintMiter_57 : decode b_Painter_paintMiter 57 = .ok (.iaload, 1) := by decide +kernel
theorem d_Painter_paintMiter_58 : decode b_Painter_paintMiter 58 = .ok (.imul, 1) := by decide +kernel
theorem d_Painter_paintMiter_59 : decode b_Painter_paintMiter 59 = .ok (.istore 6, 2) := by decide +kernel
theorem d_Painter_paintMiter_61 : decode b_Painter_paintMiter 61 = .ok (.iload_n 3, 1) := by decide +kernel
theorem d_Painter_paintMiter_62 : decode b_Painter_paintMiter 62 = .ok (.aload_n 0, 1) := by decide +kernel
theorem d_Painter_paintMiter_63 : decode b_Painter_paintMiter 63 = .ok (.getfield 15, 3) := by decide +kernel
theorem d_Painter_paintMiter_66 : decode b_Painter_paintMiter 66 = .ok (.getfield 89, 3) := by decide +kernel
theorem d_Painter_paintMiter_69 : decode b_Painter_paintMiter 69 = .ok (.iload_n 1, 1) := by decide +kernel
theorem d_Painter_paintMiter_70 : decode b_Painter_paintMiter 70 = .ok (.iaload, 1) := by decide +kernel
theorem d_Painter_paintMiter_71 : decode b_Painter_paintMiter 71 = .ok (.imul, 1) := by decide +kernel
theorem d_Painter_paintMiter_72 : decode b_Painter_paintMiter 72 = .ok (.istore 7, 2) := by decide +kernel
theorem d_Painter_paintMiter_74 : decode b_Painter_paintMiter 74 = .ok (.aload_n 0, 1) := by decide +kernel
theorem d_Painter_paintMiter_75 : decode b_Painter_paintMiter 75 = .ok (.getfield 9, 3) := by decide +kernel
theorem d_Painter_paintMiter_78 : decode b_Painter_paintMiter 78 = .ok (.getfield 57, 3) := by decide +kernel
theorem d_Painter_paintMiter_81 : decode b_Painter_paintMiter 81 = .ok (.i2l, 1) := by decide +kernel
theorem d_Painter_paintMiter_82 : decode b_Painter_paintMiter 82 = .ok (.aload_n 0, 1) := by decide +kernel
theorem d_Painter_paintMiter_83 : decode b_Painter_paintMiter 83 = .ok (.getfield 9, 3) := by decide +kernel
theorem d_Painter_paintMiter_86 : decode b_Painter_paintMiter 86 = .ok (.getfield 57, 3) := by decide +kernel
theorem d_Painter_paintMiter_89 : decode b_Painter_paintMiter 89 = .ok (.i2l, 1) := by decide +kernel
theorem d_Painter_paintMiter_90 : decode b_Painter_paintMiter 90 = .ok (.lmul, 1) := by decide +kernel
theorem d_Painter_paintMiter_91 : decode b_Painter_paintMiter 91 = .ok (.lstore 8, 2) := by decide +kernel
theorem d_Painter_paintMiter_93 : decode b_Painter_paintMiter 93 = .ok (.lload 8, 2) := by decide +kernel
theorem d_Painter_paintMiter_95 : decode b_Painter_paintMiter 95 = .ok (.iload 4, 2) := by decide +kernel
theorem d_Painter_paintMiter_97 : decode b_Painter_paintMiter 97 = .ok (.i2l, 1) := by decide +kernel
theorem d_Painter_paintMiter_98 : decode b_Painter_paintMiter 98 = .ok (.iload 6, 2) := by decide +kernel
theorem d_Painter_paintMiter_100 : decode b_Painter_paintMiter 100 = .ok (.i2l, 1) := by decide +kernel
theorem d_Painter_paintMiter_101 : decode b_Painter_paintMiter 101 = .ok (.lmul, 1) := by decide +kernel
theorem d_Painter_paintMiter_102 : decode b_Painter_paintMiter 102 = .ok (.ladd, 1) := by decide +kernel
theorem d_Painter_paintMiter_103 : decode b_Painter_paintMiter 103 = .ok (.iload 5, 2) := by decide +kernel
theorem d_Painter_paintMiter_105 : decode b_Painter_paintMiter 105 = .ok (.i2l, 1) := by decide +kernel
theorem d_Painter_paintMiter_106 : decode b_Painter_paintMiter 106 = .ok (.iload 7, 2) := by decide +kernel
theorem d_Painter_paintMiter_108 : decode b_Painter_paintMiter 108 = .ok (.i2l, 1) := by decide +kernel
theorem d_Painter_paintMiter_109 : decode b_Painter_paintMiter 109 = .ok (.lmul, 1) := by decide +kernel
theorem d_Painter_paintMiter_110 : decode b_Painter_paintMiter 110 = .ok (.ladd, 1) := by decide +kernel
theorem d_Painter_paintMiter_111 : decode b_Painter_paintMiter 111 = .ok (.lstore 10, 2) := by decide +kernel
theorem d_Painter_paintMiter_113 : decode b_Painter_paintMiter 113 = .ok (.iload_n 3, 1) := by decide +kernel
theorem d_Painter_paintMiter_114 : decode b_Painter_paintMiter 114 = .ok (.ifCond .eq 40, 3) := by decide +kernel
theorem d_Painter_paintMiter_117 : decode b_Painter_paintMiter 117 = .ok (.lload 10, 2) := by decide +kernel
theorem d_Painter_paintMiter_119 : decode b_Painter_paintMiter 119 = .ok (.lconst 0, 1) := by decide +kernel
theorem d_Painter_paintMiter_120 : decode b_Painter_paintMiter 120 = .ok (.lcmp, 1) := by decide +kernel
theorem d_Painter_paintMiter_121 : decode b_Painter_paintMiter 121 = .ok (.ifCond .le 33, 3) := by decide +kernel
theorem d_Painter_paintMiter_124 : decode b_Painter_paintMiter 124 = .ok (.ldc2_w 129, 3) := by decide +kernel
theorem d_Painter_paintMiter_127 : decode b_Painter_paintMiter 127 = .ok (.lload 8, 2) := by decide +kernel
theorem d_Painter_paintMiter_129 : decode b_Painter_paintMiter 129 = .ok (.lmul, 1) := by decide +kernel
theorem d_Painter_paintMiter_130 : decode b_Painter_paintMiter 130 = .ok (.aload_n 0, 1) := by decide +kernel
theorem d_Painter_paintMiter_131 : decode b_Painter_paintMiter 131 = .ok (.getfield 9, 3) := by decide +kernel
theorem d_Painter_paintMiter_134 : decode b_Painter_paintMiter 134 = .ok (.getfield 131, 3) := by decide +kernel
theorem d_Painter_paintMiter_137 : decode b_Painter_paintMiter 137 = .ok (.i2l, 1) := by decide +kernel
theorem d_Painter_paintMiter_138 : decode b_Painter_paintMiter 138 = .ok (.aload_n 0, 1) := by decide +kernel
theorem d_Painter_paintMiter_139 : decode b_Painter_paintMiter 139 = .ok (.getfield 9, 3) := by decide +kernel
theorem d_Painter_paintMiter_142 : decode b_Painter_paintMiter 142 = .ok (.getfield 131, 3) := by decide +kernel
theorem d_Painter_paintMiter_145 : decode b_Painter_paintMiter 145 = .ok (.i2l, 1) := by decide +kernel
theorem d_Painter_paintMiter_146 : decode b_Painter_paintMiter 146 = .ok (.lmul, 1) := by decide +kernel
theorem d_Painter_paintMiter_147 : decode b_Painter_paintMiter 147 = .ok (.lload 10, 2) := by decide +kernel
theorem d_Painter_paintMiter_149 : decode b_Painter_paintMiter 149 = .ok (.lmul, 1) := by decide +kernel
theorem d_Painter_paintMiter_150 : decode b_Painter_paintMiter 150 = .ok (.lcmp, 1) := by decide +kernel
theorem d_Painter_paintMiter_151 : decode b_Painter_paintMiter 151 = .ok (.ifCond .le 4, 3) := by decide +kernel
theorem d_Painter_paintMiter_154 : decode b_Painter_paintMiter 154 = .ok (.return_, 1) := by decide +kernel
theorem d_Painter_paintMiter_155 : decode b_Painter_paintMiter 155 = .ok (.aload_n 0, 1) := by decide +kernel
theorem d_Painter_paintMiter_156 : decode b_Painter_paintMiter 156 = .ok (.getfield 19, 3) := by decide +kernel
theorem d_Painter_paintMiter_159 : decode b_Painter_paintMiter 159 = .ok (.aload_n 0, 1) := by decide +kernel
theorem d_Painter_paintMiter_160 : decode b_Painter_paintMiter 160 = .ok (.getfield 15, 3) := by decide +kernel
theorem d_Painter_paintMiter_163 : decode b_Painter_paintMiter 163 = .ok (.getfield 60, 3) := by decide +kernel
theorem d_Painter_paintMiter_166 : decode b_Painter_paintMiter 166 = .ok (.iload_n 1, 1) := by decide +kernel
theorem d_Painter_paintMiter_167 : decode b_Painter_paintMiter 167 = .ok (.iaload, 1) := by decide +kernel
theorem d_Painter_paintMiter_168 : decode b_Painter_paintMiter 168 = .ok (.aload_n 0, 1) := by decide +kernel
theorem d_Painter_paintMiter_169 : decode b_Painter_paintMiter 169 = .ok (.getfield 15, 3) := by decide +kernel
theorem d_Painter_paintMiter_172 : decode b_Painter_paintMiter 172 = .ok (.getfield 76, 3) := by decide +kernel
theorem d_Painter_paintMiter_175 : decode b_Painter_paintMiter 175 = .ok (.iload_n 1, 1) := by decide +kernel
theorem d_Painter_paintMiter_176 : decode b_Painter_paintMiter 176 = .ok (.iaload, 1) := by decide +kernel
theorem d_Painter_paintMiter_177 : decode b_Painter_paintMiter 177 = .ok (.invokevirtual 92, 3) := by decide +kernel
theorem d_Painter_paintMiter_180 : decode b_Painter_paintMiter 180 = .ok (.aload_n 0, 1) := by decide +kernel
theorem d_Painter_paintMiter_181 : decode b_Painter_paintMiter 181 = .ok (.getfield 19, 3) := by decide +kernel
theorem d_Painter_paintMiter_184 : decode b_Painter_paintMiter 184 = .ok (.lconst 0, 1) := by decide +kernel
theorem d_Painter_paintMiter_185 : decode b_Painter_paintMiter 185 = .ok (.lconst 0, 1) := by decide +kernel
theorem d_Painter_paintMiter_186 : decode b_Painter_paintMiter 186 = .ok (.invokevirtual 96, 3) := by decide +kernel
theorem d_Painter_paintMiter_189 : decode b_Painter_paintMiter 189 = .ok (.aload_n 0, 1) := by decide +kernel
theorem d_Painter_paintMiter_190 : decode b_Painter_paintMiter 190 = .ok (.getfield 19, 3) := by decide +kernel
theorem d_Painter_paintMiter_193 : decode b_Painter_paintMiter 193 = .ok (.iload 4, 2) := by decide +kernel
theorem d_Painter_paintMiter_195 : decode b_Painter_paintMiter 195 = .ok (.i2l, 1) := by decide +kernel
theorem d_Painter_paintMiter_196 : decode b_Painter_paintMiter 196 = .ok (.iload 5, 2) := by decide +kernel
theorem d_Painter_paintMiter_198 : decode b_Painter_paintMiter 198 = .ok (.i2l, 1) := by decide +kernel
theorem d_Painter_paintMiter_199 : decode b_Painter_paintMiter 199 = .ok (.invokevirtual 96, 3) := by decide +kernel
theorem d_Painter_paintMiter_202 : decode b_Painter_paintMiter 202 = .ok (.aload_n 0, 1) := by decide +kernel
theorem d_Painter_paintMiter_203 : decode b_Painter_paintMiter 203 = .ok (.getfield 19, 3) := by decide +kernel
theorem d_Painter_paintMiter_206 : decode b_Painter_paintMiter 206 = .ok (.iload 4, 2) := by decide +kernel
theorem d_Painter_paintMiter_208 : decode b_Painter_paintMiter 208 = .ok (.iload 6, 2) := by decide +kernel
theorem d_Painter_paintMiter_210 : decode b_Painter_paintMiter 210 = .ok (.iadd, 1) := by decide +kernel
theorem d_Painter_paintMiter_211 : decode b_Painter_paintMiter 211 = .ok (.i2l, 1) := by decide +kernel
theorem d_Painter_paintMiter_212 : decode b_Painter_paintMiter 212 = .ok (.lload 8, 2) := by decide +kernel
theorem d_Painter_paintMiter_214 : decode b_Painter_paintMiter 214 = .ok (.lmul, 1) := by decide +kernel
theorem d_Painter_paintMiter_215 : decode b_Painter_paintMiter 215 = .ok (.lload 10, 2) := by decide +kernel
theorem d_Painter_paintMiter_217 : decode b_Painter_paintMiter 217 = .ok (.invokestatic 134, 3) := by decide +kernel
theorem d_Painter_paintMiter_220 : decode b_Painter_paintMiter 220 = .ok (.iload 5, 2) := by decide +kernel
theorem d_Painter_paintMiter_222 : decode b_Painter_paintMiter 222 = .ok (.iload 7, 2) := by decide +kernel
theorem d_Painter_paintMiter_224 : decode b_Painter_paintMiter 224 = .ok (.iadd, 1) := by decide +kernel
theorem d_Painter_paintMiter_225 : decode b_Painter_paintMiter 225 = .ok (.i2l, 1) := by decide +kernel
theorem d_Painter_paintMiter_226 : decode b_Painter_paintMiter 226 = .ok (.lload 8, 2) := by decide +kernel
theorem d_Painter_paintMiter_228 : decode b_Painter_paintMiter 228 = .ok (.lmul, 1) := by decide +kernel
theorem d_Painter_paintMiter_229 : decode b_Painter_paintMiter 229 = .ok (.lload 10, 2) := by decide +kernel
theorem d_Painter_paintMiter_231 : decode b_Painter_paintMiter 231 = .ok (.invokestatic 134, 3) := by decide +kernel
theorem d_Painter_paintMiter_234 : decode b_Painter_paintMiter 234 = .ok (.invokevirtual 96, 3) := by decide +kernel
theorem d_Painter_paintMiter_237 : decode b_Painter_paintMiter 237 = .ok (.aload_n 0, 1) := by decide +kernel
theorem d_Painter_paintMiter_238 : decode b_Painter_paintMiter 238 = .ok (.getfield 19, 3) := by decide +kernel
theorem d_Painter_paintMiter_241 : decode b_Painter_paintMiter 241 = .ok (.iload 6, 2) := by decide +kernel
theorem d_Painter_paintMiter_243 : decode b_Painter_paintMiter 243 = .ok (.i2l, 1) := by decide +kernel
theorem d_Painter_paintMiter_244 : decode b_Painter_paintMiter 244 = .ok (.iload 7, 2) := by decide +kernel
theorem d_Painter_paintMiter_246 : decode b_Painter_paintMiter 246 = .ok (.i2l, 1) := by decide +kernel
theorem d_Painter_paintMiter_247 : decode b_Painter_paintMiter 247 = .ok (.invokevirtual 96, 3) := by decide +kernel
theorem d_Painter_paintMiter_250 : decode b_Painter_paintMiter 250 = .ok (.aload_n 0, 1) := by decide +kernel
theorem d_Painter_paintMiter_251 : decode b_Painter_paintMiter 251 = .ok (.getfield 19, 3) := by decide +kernel
theorem d_Painter_paintMiter_254 : decode b_Painter_paintMiter 254 = .ok (.invokevirtual 100, 3) := by decide +kernel
theorem d_Painter_paintMiter_257 : decode b_Painter_paintMiter 257 = .ok (.return_, 1) := by decide +kernel
