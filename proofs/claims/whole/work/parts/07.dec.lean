theorem d_La_move_0 : decode b_La_move 0 = .ok (.aload_n 3, 1) := by decide +kernel
theorem d_La_move_1 : decode b_La_move 1 = .ok (.iconst 0, 1) := by decide +kernel
theorem d_La_move_2 : decode b_La_move 2 = .ok (.aload_n 0, 1) := by decide +kernel
theorem d_La_move_3 : decode b_La_move 3 = .ok (.iload_n 1, 1) := by decide +kernel
theorem d_La_move_4 : decode b_La_move 4 = .ok (.iload_n 2, 1) := by decide +kernel
theorem d_La_move_5 : decode b_La_move 5 = .ok (.invokevirtual 7, 3) := by decide +kernel
theorem d_La_move_8 : decode b_La_move 8 = .ok (.i2l, 1) := by decide +kernel
theorem d_La_move_9 : decode b_La_move 9 = .ok (.lastore, 1) := by decide +kernel
theorem d_La_move_10 : decode b_La_move 10 = .ok (.goto 11, 3) := by decide +kernel
theorem d_La_move_13 : decode b_La_move 13 = .ok (.astore 4, 2) := by decide +kernel
theorem d_La_move_15 : decode b_La_move 15 = .ok (.iconst 1, 1) := by decide +kernel
theorem d_La_move_16 : decode b_La_move 16 = .ok (.ireturn, 1) := by decide +kernel
theorem d_La_move_17 : decode b_La_move 17 = .ok (.astore 4, 2) := by decide +kernel
theorem d_La_move_19 : decode b_La_move 19 = .ok (.iconst 2, 1) := by decide +kernel
theorem d_La_move_20 : decode b_La_move 20 = .ok (.ireturn, 1) := by decide +kernel
theorem d_La_move_21 : decode b_La_move 21 = .ok (.iconst 0, 1) := by decide +kernel
theorem d_La_move_22 : decode b_La_move 22 = .ok (.ireturn, 1) := by decide +kernel
theorem d_La_line_0 : decode b_La_line 0 = .ok (.aload_n 3, 1) := by decide +kernel
theorem d_La_line_1 : decode b_La_line 1 = .ok (.iconst 0, 1) := by decide +kernel
theorem d_La_line_2 : decode b_La_line 2 = .ok (.aload_n 0, 1) := by decide +kernel
theorem d_La_line_3 : decode b_La_line 3 = .ok (.iload_n 1, 1) := by decide +kernel
theorem d_La_line_4 : decode b_La_line 4 = .ok (.iload_n 2, 1) := by decide +kernel
theorem d_La_line_5 : decode b_La_line 5 = .ok (.invokevirtual 17, 3) := by decide +kernel
theorem d_La_line_8 : decode b_La_line 8 = .ok (.i2l, 1) := by decide +kernel
theorem d_La_line_9 : decode b_La_line 9 = .ok (.lastore, 1) := by decide +kernel
theorem d_La_line_10 : decode b_La_line 10 = .ok (.goto 11, 3) := by decide +kernel
theorem d_La_line_13 : decode b_La_line 13 = .ok (.astore 4, 2) := by decide +kernel
theorem d_La_line_15 : decode b_La_line 15 = .ok (.iconst 1, 1) := by decide +kernel
theorem d_La_line_16 : decode b_La_line 16 = .ok (.ireturn, 1) := by decide +kernel
theorem d_La_line_17 : decode b_La_line 17 = .ok (.astore 4, 2) := by decide +kernel
theorem d_La_line_19 : decode b_La_line 19 = .ok (.iconst 2, 1) := by decide +kernel
theorem d_La_line_20 : decode b_La_line 20 = .ok (.ireturn, 1) := by decide +kernel
theorem d_La_line_21 : decode b_La_line 21 = .ok (.iconst 0, 1) := by decide +kernel
theorem d_La_line_22 : decode b_La_line 22 = .ok (.ireturn, 1) := by decide +kernel
theorem d_La_control_0 : decode b_La_control 0 = .ok (.aload_n 0, 1) := by decide +kernel
theorem d_La_control_1 : decode b_La_control 1 = .ok (.iload_n 1, 1) := by decide +kernel
theorem d_La_control_2 : decode b_La_control 2 = .ok (.iload_n 2, 1) := by decide +kernel
theorem d_La_control_3 : decode b_La_control 3 = .ok (.iload_n 3, 1) := by decide +kernel
theorem d_La_control_4 : decode b_La_control 4 = .ok (.iload 4, 2) := by decide +kernel
theorem d_La_control_6 : decode b_La_control 6 = .ok (.invokevirtual 20, 3) := by decide +kernel
theorem d_La_control_9 : decode b_La_control 9 = .ok (.goto 7, 3) := by decide +kernel
theorem d_La_control_12 : decode b_La_control 12 = .ok (.astore 5, 2) := by decide +kernel
theorem d_La_control_14 : decode b_La_control 14 = .ok (.iconst 1, 1) := by decide +kernel
theorem d_La_control_15 : decode b_La_control 15 = .ok (.ireturn, 1) := by decide +kernel
theorem d_La_control_16 : decode b_La_control 16 = .ok (.iconst 0, 1) := by decide +kernel
theorem d_La_control_17 : decode b_La_control 17 = .ok (.ireturn, 1) := by decide +kernel
theorem d_La_curve_0 : decode b_La_curve 0 = .ok (.aload_n 3, 1) := by decide +kernel
theorem d_La_curve_1 : decode b_La_curve 1 = .ok (.iconst 0, 1) := by decide +kernel
theorem d_La_curve_2 : decode b_La_curve 2 = .ok (.aload_n 0, 1) := by decide +kernel
theorem d_La_curve_3 : decode b_La_curve 3 = .ok (.iload_n 1, 1) := by decide +kernel
theorem d_La_curve_4 : decode b_La_curve 4 = .ok (.iload_n 2, 1) := by decide +kernel
theorem d_La_curve_5 : decode b_La_curve 5 = .ok (.invokevirtual 24, 3) := by decide +kernel
theorem d_La_curve_8 : decode b_La_curve 8 = .ok (.i2l, 1) := by decide +kernel
theorem d_La_curve_9 : decode b_La_curve 9 = .ok (.lastore, 1) := by decide +kernel
theorem d_La_curve_10 : decode b_La_curve 10 = .ok (.goto 11, 3) := by decide +kernel
theorem d_La_curve_13 : decode b_La_curve 13 = .ok (.astore 4, 2) := by decide +kernel
theorem d_La_curve_15 : decode b_La_curve 15 = .ok (.iconst 1, 1) := by decide +kernel
theorem d_La_curve_16 : decode b_La_curve 16 = .ok (.ireturn, 1) := by decide +kernel
theorem d_La_curve_17 : decode b_La_curve 17 = .ok (.astore 4, 2) := by decide +kernel
theorem d_La_curve_19 : decode b_La_curve 19 = .ok (.iconst 2, 1) := by decide +kernel
theorem d_La_curve_20 : decode b_La_curve 20 = .ok (.ireturn, 1) := by decide +kernel
theorem d_La_curve_21 : decode b_La_curve 21 = .ok (.iconst 0, 1) := by decide +kernel
theorem d_La_curve_22 : decode b_La_curve 22 = .ok (.ireturn, 1) := by decide +kernel
theorem d_La_close_0 : decode b_La_close 0 = .ok (.aload_n 1, 1) := by decide +kernel
theorem d_La_close_1 : decode b_La_close 1 = .ok (.iconst 0, 1) := by decide +kernel
theorem d_La_close_2 : decode b_La_close 2 = .ok (.aload_n 0, 1) := by decide +kernel
theorem d_La_close_3 : decode b_La_close 3 = .ok (.invokevirtual 27, 3) := by decide +kernel
theorem d_La_close_6 : decode b_La_close 6 = .ok (.i2l, 1) := by decide +kernel
theorem d_La_close_7 : decode b_La_close 7 = .ok (.lastore, 1) := by decide +kernel
theorem d_La_close_8 : decode b_La_close 8 = .ok (.goto 6, 3) := by decide +kernel
theorem d_La_close_11 : decode b_La_close 11 = .ok (.astore_n 2, 1) := by decide +kernel
theorem d_La_close_12 : decode b_La_close 12 = .ok (.iconst 1, 1) := by decide +kernel
theorem d_La_close_13 : decode b_La_close 13 = .ok (.ireturn, 1) := by decide +kernel
theorem d_La_close_14 : decode b_La_close 14 = .ok (.iconst 0, 1) := by decide +kernel
theorem d_La_close_15 : decode b_La_close 15 = .ok (.ireturn, 1) := by decide +kernel
theorem d_La_pen_0 : decode b_La_pen 0 = .ok (.aload_n 0, 1) := by decide +kernel
theorem d_La_pen_1 : decode b_La_pen 1 = .ok (.iload_n 1, 1) := by decide +kernel
theorem d_La_pen_2 : decode b_La_pen 2 = .ok (.iload_n 2, 1) := by decide +kernel
theorem d_La_pen_3 : decode b_La_pen 3 = .ok (.iload_n 3, 1) := by decide +kernel
theorem d_La_pen_4 : decode b_La_pen 4 = .ok (.iload 4, 2) := by decide +kernel
theorem d_La_pen_6 : decode b_La_pen 6 = .ok (.invokevirtual 31, 3) := by decide +kernel
theorem d_La_pen_9 : decode b_La_pen 9 = .ok (.goto 7, 3) := by decide +kernel
theorem d_La_pen_12 : decode b_La_pen 12 = .ok (.astore 5, 2) := by decide +kernel
theorem d_La_pen_14 : decode b_La_pen 14 = .ok (.iconst 1, 1) := by decide +kernel
theorem d_La_pen_15 : decode b_La_pen 15 = .ok (.ireturn, 1) := by decide +kernel
theorem d_La_pen_16 : decode b_La_pen 16 = .ok (.iconst 0, 1) := by decide +kernel
theorem d_La_pen_17 : decode b_La_pen 17 = .ok (.ireturn, 1) := by decide +kernel
theorem d_La_dash_0 : decode b_La_dash 0 = .ok (.aload_n 2, 1) := by decide +kernel
theorem d_La_dash_1 : decode b_La_dash 1 = .ok (.iconst 0, 1) := by decide +kernel
theorem d_La_dash_2 : decode b_La_dash 2 = .ok (.aload_n 0, 1) := by decide +kernel
theorem d_La_dash_3 : decode b_La_dash 3 = .ok (.iload_n 1, 1) := by decide +kernel
theorem d_La_dash_4 : decode b_La_dash 4 = .ok (.invokevirtual 34, 3) := by decide +kernel
theorem d_La_dash_7 : decode b_La_dash 7 = .ok (.i2l, 1) := by decide +kernel
theorem d_La_dash_8 : decode b_La_dash 8 = .ok (.lastore, 1) := by decide +kernel
theorem d_La_dash_9 : decode b_La_dash 9 = .ok (.goto 9, 3) := by decide +kernel
theorem d_La_dash_12 : decode b_La_dash 12 = .ok (.astore_n 3, 1) := by decide +kernel
theorem d_La_dash_13 : decode b_La_dash 13 = .ok (.iconst 1, 1) := by decide +kernel
theorem d_La_dash_14 : decode b_La_dash 14 = .ok (.ireturn, 1) := by decide +kernel
theorem d_La_dash_15 : decode b_La_dash 15 = .ok (.astore_n 3, 1) := by decide +kernel
theorem d_La_dash_16 : decode b_La_dash 16 = .ok (.iconst 2, 1) := by decide +kernel
theorem d_La_dash_17 : decode b_La_dash 17 = .ok (.ireturn, 1) := by decide +kernel
theorem d_La_dash_18 : decode b_La_dash 18 = .ok (.iconst 0, 1) := by decide +kernel
theorem d_La_dash_19 : decode b_La_dash 19 = .ok (.ireturn, 1) := by decide +kernel
theorem d_La_plain_0 : decode b_La_plain 0 = .ok (.aload_n 2, 1) := by decide +kernel
theorem d_La_plain_1 : decode b_La_plain 1 = .ok (.iconst 0, 1) := by decide +kernel
theorem d_La_plain_2 : decode b_La_plain 2 = .ok (.aload_n 0, 1) := by decide +kernel
theorem d_La_plain_3 : decode b_La_plain 3 = .ok (.iload_n 1, 1) := by decide +kernel
theorem d_La_plain_4 : decode b_La_plain 4 = .ok (.invokevirtual 38, 3) := by decide +kernel
theorem d_La_plain_7 : decode b_La_plain 7 = .ok (.i2l, 1) := by decide +kernel
theorem d_La_plain_8 : decode b_La_plain 8 = .ok (.lastore, 1) := by decide +kernel
theorem d_La_plain_9 : decode b_La_plain 9 = .ok (.goto 6, 3) := by decide +kernel
theorem d_La_plain_12 : decode b_La_plain 12 = .ok (.astore_n 3, 1) := by decide +kernel
theorem d_La_plain_13 : decode b_La_plain 13 = .ok (.iconst 1, 1) := by decide +kernel
theorem d_La_plain_14 : decode b_La_plain 14 = .ok (.ireturn, 1) := by decide +kernel
theorem d_La_plain_15 : decode b_La_plain 15 = .ok (.iconst 0, 1) := by decide +kernel
theorem d_La_plain_16 : decode b_La_plain 16 = .ok (.ireturn, 1) := by decide +kernel
theorem d_La_has_0 : decode b_La_has 0 = .ok (.aload_n 3, 1) := by decide +kernel
theorem d_La_has_1 : decode b_La_has 1 = .ok (.iconst 0, 1) := by decide +kernel
theorem d_La_has_2 : decode b_La_has 2 = .ok (.aload_n 0, 1) := by decide +kernel
theorem d_La_has_3 : decode b_La_has 3 = .ok (.iload_n 1, 1) := by decide +kernel
theorem d_La_has_4 : decode b_La_has 4 = .ok (.iload_n 2, 1) := by decide +kernel
theorem d_La_has_5 : decode b_La_has 5 = .ok (.invokevirtual 41, 3) := by decide +kernel
theorem d_La_has_8 : decode b_La_has 8 = .ok (.ifCond .eq 7, 3) := by decide +kernel
theorem d_La_has_11 : decode b_La_has 11 = .ok (.lconst 1, 1) := by decide +kernel
theorem d_La_has_12 : decode b_La_has 12 = .ok (.goto 4, 3) := by decide +kernel
theorem d_La_has_15 : decode b_La_has 15 = .ok (.lconst 0, 1) := by decide +kernel
theorem d_La_has_16 : decode b_La_has 16 = .ok (.lastore, 1) := by decide +kernel
theorem d_La_has_17 : decode b_La_has 17 = .ok (.goto 7, 3) := by decide +kernel
theorem d_La_has_20 : decode b_La_has 20 = .ok (.astore 4, 2) := by decide +kernel
theorem d_La_has_22 : decode b_La_has 22 = .ok (.iconst 1, 1) := by decide +kernel
theorem d_La_has_23 : decode b_La_has 23 = .ok (.ireturn, 1) := by decide +kernel
theorem d_La_has_24 : decode b_La_has 24 = .ok (.iconst 0, 1) := by decide +kernel
theorem d_La_has_25 : decode b_La_has 25 = .ok (.ireturn, 1) := by decide +kernel
theorem d_La_row_0 : decode b_La_row 0 = .ok (.aload_n 2, 1) := by decide +kernel
theorem d_La_row_1 : decode b_La_row 1 = .ok (.iconst 0, 1) := by decide +kernel
theorem d_La_row_2 : decode b_La_row 2 = .ok (.aload_n 0, 1) := by decide +kernel
theorem d_La_row_3 : decode b_La_row 3 = .ok (.iload_n 1, 1) := by decide +kernel
theorem d_La_row_4 : decode b_La_row 4 = .ok (.invokevirtual 45, 3) := by decide +kernel
theorem d_La_row_7 : decode b_La_row 7 = .ok (.lastore, 1) := by decide +kernel
theorem d_La_row_8 : decode b_La_row 8 = .ok (.goto 6, 3) := by decide +kernel
theorem d_La_row_11 : decode b_La_row 11 = .ok (.astore_n 3, 1) := by decide +kernel
theorem d_La_row_12 : decode b_La_row 12 = .ok (.iconst 1, 1) := by decide +kernel
theorem d_La_row_13 : decode b_La_row 13 = .ok (.ireturn, 1) := by decide +kernel
theorem d_La_row_14 : decode b_La_row 14 = .ok (.iconst 0, 1) := by decide +kernel
theorem d_La_row_15 : decode b_La_row 15 = .ok (.ireturn, 1) := by decide +kernel
theorem d_La_share_0 : decode b_La_share 0 = .ok (.aload_n 3, 1) := by decide +kernel
theorem d_La_share_1 : decode b_La_share 1 = .ok (.iconst 0, 1) := by decide +kernel
theorem d_La_share_2 : decode b_La_share 2 = .ok (.aload_n 0, 1) := by decide +kernel
theorem d_La_share_3 : decode b_La_share 3 = .ok (.iload_n 1, 1) := by decide +kernel
theorem d_La_share_4 : decode b_La_share 4 = .ok (.iload_n 2, 1) := by decide +kernel
theorem d_La_share_5 : decode b_La_share 5 = .ok (.invokevirtual 51, 3) := by decide +kernel
theorem d_La_share_8 : decode b_La_share 8 = .ok (.i2l, 1) := by decide +kernel
theorem d_La_share_9 : decode b_La_share 9 = .ok (.lastore, 1) := by decide +kernel
theorem d_La_share_10 : decode b_La_share 10 = .ok (.goto 7, 3) := by decide +kernel
theorem d_La_share_13 : decode b_La_share 13 = .ok (.astore 4, 2) := by decide +kernel
theorem d_La_share_15 : decode b_La_share 15 = .ok (.iconst 1, 1) := by decide +kernel
theorem d_La_share_16 : decode b_La_share 16 = .ok (.ireturn, 1) := by decide +kernel
theorem d_La_share_17 : decode b_La_share 17 = .ok (.iconst 0, 1) := by decide +kernel
theorem d_La_share_18 : decode b_La_share 18 = .ok (.ireturn, 1) := by decide +kernel
theorem d_Long_bitCount_JI_0 : decode b_Long_bitCount_JI 0 = .ok (.lload_n 0, 1) := by decide +kernel
theorem d_Long_bitCount_JI_1 : decode b_Long_bitCount_JI 1 = .ok (.lload_n 0, 1) := by decide +kernel
theorem d_Long_bitCount_JI_2 : decode b_Long_bitCount_JI 2 = .ok (.iconst 1, 1) := by decide +kernel
theorem d_Long_bitCount_JI_3 : decode b_Long_bitCount_JI 3 = .ok (.lushr, 1) := by decide +kernel
theorem d_Long_bitCount_JI_4 : decode b_Long_bitCount_JI 4 = .ok (.ldc2_w 314, 3) := by decide +kernel
theorem d_Long_bitCount_JI_7 : decode b_Long_bitCount_JI 7 = .ok (.land, 1) := by decide +kernel
theorem d_Long_bitCount_JI_8 : decode b_Long_bitCount_JI 8 = .ok (.lsub, 1) := by decide +kernel
theorem d_Long_bitCount_JI_9 : decode b_Long_bitCount_JI 9 = .ok (.lstore_n 0, 1) := by decide +kernel
theorem d_Long_bitCount_JI_10 : decode b_Long_bitCount_JI 10 = .ok (.lload_n 0, 1) := by decide +kernel
theorem d_Long_bitCount_JI_11 : decode b_Long_bitCount_JI 11 = .ok (.ldc2_w 316, 3) := by decide +kernel
theorem d_Long_bitCount_JI_14 : decode b_Long_bitCount_JI 14 = .ok (.land, 1) := by decide +kernel
theorem d_Long_bitCount_JI_15 : decode b_Long_bitCount_JI 15 = .ok (.lload_n 0, 1) := by decide +kernel
theorem d_Long_bitCount_JI_16 : decode b_Long_bitCount_JI 16 = .ok (.iconst 2, 1) := by decide +kernel
theorem d_Long_bitCount_JI_17 : decode b_Long_bitCount_JI 17 = .ok (.lushr, 1) := by decide +kernel
theorem d_Long_bitCount_JI_18 : decode b_Long_bitCount_JI 18 = .ok (.ldc2_w 316, 3) := by decide +kernel
theorem d_Long_bitCount_JI_21 : decode b_Long_bitCount_JI 21 = .ok (.land, 1) := by decide +kernel
theorem d_Long_bitCount_JI_22 : decode b_Long_bitCount_JI 22 = .ok (.ladd, 1) := by decide +kernel
theorem d_Long_bitCount_JI_23 : decode b_Long_bitCount_JI 23 = .ok (.lstore_n 0, 1) := by decide +kernel
theorem d_Long_bitCount_JI_24 : decode b_Long_bitCount_JI 24 = .ok (.lload_n 0, 1) := by decide +kernel
theorem d_Long_bitCount_JI_25 : decode b_Long_bitCount_JI 25 = .ok (.lload_n 0, 1) := by decide +kernel
theorem d_Long_bitCount_JI_26 : decode b_Long_bitCount_JI 26 = .ok (.iconst 4, 1) := by decide +kernel
theorem d_Long_bitCount_JI_27 : decode b_Long_bitCount_JI 27 = .ok (.lushr, 1) := by decide +kernel
theorem d_Long_bitCount_JI_28 : decode b_Long_bitCount_JI 28 = .ok (.ladd, 1) := by decide +kernel
theorem d_Long_bitCount_JI_29 : decode b_Long_bitCount_JI 29 = .ok (.ldc2_w 318, 3) := by decide +kernel
theorem d_Long_bitCount_JI_32 : decode b_Long_bitCount_JI 32 = .ok (.land, 1) := by decide +kernel
theorem d_Long_bitCount_JI_33 : decode b_Long_bitCount_JI 33 = .ok (.lstore_n 0, 1) := by decide +kernel
theorem d_Long_bitCount_JI_34 : decode b_Long_bitCount_JI 34 = .ok (.lload_n 0, 1) := by decide +kernel
theorem d_Long_bitCount_JI_35 : decode b_Long_bitCount_JI 35 = .ok (.lload_n 0, 1) := by decide +kernel
theorem d_Long_bitCount_JI_36 : decode b_Long_bitCount_JI 36 = .ok (.bipush 8, 2) := by decide +kernel
theorem d_Long_bitCount_JI_38 : decode b_Long_bitCount_JI 38 = .ok (.lushr, 1) := by decide +kernel
theorem d_Long_bitCount_JI_39 : decode b_Long_bitCount_JI 39 = .ok (.ladd, 1) := by decide +kernel
theorem d_Long_bitCount_JI_40 : decode b_Long_bitCount_JI 40 = .ok (.lstore_n 0, 1) := by decide +kernel
theorem d_Long_bitCount_JI_41 : decode b_Long_bitCount_JI 41 = .ok (.lload_n 0, 1) := by decide +kernel
theorem d_Long_bitCount_JI_42 : decode b_Long_bitCount_JI 42 = .ok (.lload_n 0, 1) := by decide +kernel
theorem d_Long_bitCount_JI_43 : decode b_Long_bitCount_JI 43 = .ok (.bipush 16, 2) := by decide +kernel
theorem d_Long_bitCount_JI_45 : decode b_Long_bitCount_JI 45 = .ok (.lushr, 1) := by decide +kernel
theorem d_Long_bitCount_JI_46 : decode b_Long_bitCount_JI 46 = .ok (.ladd, 1) := by decide +kernel
theorem d_Long_bitCount_JI_47 : decode b_Long_bitCount_JI 47 = .ok (.lstore_n 0, 1) := by decide +kernel
theorem d_Long_bitCount_JI_48 : decode b_Long_bitCount_JI 48 = .ok (.lload_n 0, 1) := by decide +kernel
theorem d_Long_bitCount_JI_49 : decode b_Long_bitCount_JI 49 = .ok (.lload_n 0, 1) := by decide +kernel
theorem d_Long_bitCount_JI_50 : decode b_Long_bitCount_JI 50 = .ok (.bipush 32, 2) := by decide +kernel
theorem d_Long_bitCount_JI_52 : decode b_Long_bitCount_JI 52 = .ok (.lushr, 1) := by decide +kernel
theorem d_Long_bitCount_JI_53 : decode b_Long_bitCount_JI 53 = .ok (.ladd, 1) := by decide +kernel
theorem d_Long_bitCount_JI_54 : decode b_Long_bitCount_JI 54 = .ok (.lstore_n 0, 1) := by decide +kernel
theorem d_Long_bitCount_JI_55 : decode b_Long_bitCount_JI 55 = .ok (.lload_n 0, 1) := by decide +kernel
theorem d_Long_bitCount_JI_56 : decode b_Long_bitCount_JI 56 = .ok (.l2i, 1) := by decide +kernel
theorem d_Long_bitCount_JI_57 : decode b_Long_bitCount_JI 57 = .ok (.bipush 127, 2) := by decide +kernel
theorem d_Long_bitCount_JI_59 : decode b_Long_bitCount_JI 59 = .ok (.iand, 1) := by decide +kernel
theorem d_Long_bitCount_JI_60 : decode b_Long_bitCount_JI 60 = .ok (.ireturn, 1) := by decide +kernel
theorem d_Long_signum_JI_0 : decode b_Long_signum_JI 0 = .ok (.lload_n 0, 1) := by decide +kernel
theorem d_Long_signum_JI_1 : decode b_Long_signum_JI 1 = .ok (.bipush 63, 2) := by decide +kernel
theorem d_Long_signum_JI_3 : decode b_Long_signum_JI 3 = .ok (.lshr, 1) := by decide +kernel
theorem d_Long_signum_JI_4 : decode b_Long_signum_JI 4 = .ok (.lload_n 0, 1) := by decide +kernel
theorem d_Long_signum_JI_5 : decode b_Long_signum_JI 5 = .ok (.lneg, 1) := by decide +kernel
theorem d_Long_signum_JI_6 : decode b_Long_signum_JI 6 = .ok (.bipush 63, 2) := by decide +kernel
theorem d_Long_signum_JI_8 : decode b_Long_signum_JI 8 = .ok (.lushr, 1) := by decide +kernel
theorem d_Long_signum_JI_9 : decode b_Long_signum_JI 9 = .ok (.lor, 1) := by decide +kernel
theorem d_Long_signum_JI_10 : decode b_Long_signum_JI 10 = .ok (.l2i, 1) := by decide +kernel
theorem d_Long_signum_JI_11 : decode b_Long_signum_JI 11 = .ok (.ireturn, 1) := by decide +kernel
theorem d_Math_floorDiv_III_0 : decode b_Math_floorDiv_III 0 = .ok (.iload_n 0, 1) := by decide +kernel
theorem d_Math_floorDiv_III_1 : decode b_Math_floorDiv_III 1 = .ok (.iload_n 1, 1) := by decide +kernel
theorem d_Math_floorDiv_III_2 : decode b_Math_floorDiv_III 2 = .ok (.idiv, 1) := by decide +kernel
theorem d_Math_floorDiv_III_3 : decode b_Math_floorDiv_III 3 = .ok (.istore_n 2, 1) := by decide +kernel
theorem d_Math_floorDiv_III_4 : decode b_Math_floorDiv_III 4 = .ok (.iload_n 0, 1) := by decide +kernel
theorem d_Math_floorDiv_III_5 : decode b_Math_floorDiv_III 5 = .ok (.iload_n 1, 1) := by decide +kernel
theorem d_Math_floorDiv_III_6 : decode b_Math_floorDiv_III 6 = .ok (.ixor, 1) := by decide +kernel
theorem d_Math_floorDiv_III_7 : decode b_Math_floorDiv_III 7 = .ok (.ifCond .ge 14, 3) := by decide +kernel
theorem d_Math_floorDiv_III_10 : decode b_Math_floorDiv_III 10 = .ok (.iload_n 2, 1) := by decide +kernel
theorem d_Math_floorDiv_III_11 : decode b_Math_floorDiv_III 11 = .ok (.iload_n 1, 1) := by decide +kernel
theorem d_Math_floorDiv_III_12 : decode b_Math_floorDiv_III 12 = .ok (.imul, 1) := by decide +kernel
theorem d_Math_floorDiv_III_13 : decode b_Math_floorDiv_III 13 = .ok (.iload_n 0, 1) := by decide +kernel
theorem d_Math_floorDiv_III_14 : decode b_Math_floorDiv_III 14 = .ok (.if_icmp .eq 7, 3) := by decide +kernel
theorem d_Math_floorDiv_III_17 : decode b_Math_floorDiv_III 17 = .ok (.iload_n 2, 1) := by decide +kernel
theorem d_Math_floorDiv_III_18 : decode b_Math_floorDiv_III 18 = .ok (.iconst 1, 1) := by decide +kernel
theorem d_Math_floorDiv_III_19 : decode b_Math_floorDiv_III 19 = .ok (.isub, 1) := by decide +kernel
theorem d_Math_floorDiv_III_20 : decode b_Math_floorDiv_III 20 = .ok (.ireturn, 1) := by decide +kernel
theorem d_Math_floorDiv_III_21 : decode b_Math_floorDiv_III 21 = .ok (.iload_n 2, 1) := by decide +kernel
theorem d_Math_floorDiv_III_22 : decode b_Math_floorDiv_III 22 = .ok (.ireturn, 1) := by decide +kernel
theorem d_Math_floorDiv_JJJ_0 : decode b_Math_floorDiv_JJJ 0 = .ok (.lload_n 0, 1) := by decide +kernel
theorem d_Math_floorDiv_JJJ_1 : decode b_Math_floorDiv_JJJ 1 = .ok (.lload_n 2, 1) := by decide +kernel
theorem d_Math_floorDiv_JJJ_2 : decode b_Math_floorDiv_JJJ 2 = .ok (.ldiv, 1) := by decide +kernel
theorem d_Math_floorDiv_JJJ_3 : decode b_Math_floorDiv_JJJ 3 = .ok (.lstore 4, 2) := by decide +kernel
theorem d_Math_floorDiv_JJJ_5 : decode b_Math_floorDiv_JJJ 5 = .ok (.lload_n 0, 1) := by decide +kernel
theorem d_Math_floorDiv_JJJ_6 : decode b_Math_floorDiv_JJJ 6 = .ok (.lload_n 2, 1) := by decide +kernel
theorem d_Math_floorDiv_JJJ_7 : decode b_Math_floorDiv_JJJ 7 = .ok (.lxor, 1) := by decide +kernel
theorem d_Math_floorDiv_JJJ_8 : decode b_Math_floorDiv_JJJ 8 = .ok (.lconst 0, 1) := by decide +kernel
theorem d_Math_floorDiv_JJJ_9 : decode b_Math_floorDiv_JJJ 9 = .ok (.lcmp, 1) := by decide +kernel
theorem d_Math_floorDiv_JJJ_10 : decode b_Math_floorDiv_JJJ 10 = .ok (.ifCond .ge 17, 3) := by decide +kernel
theorem d_Math_floorDiv_JJJ_13 : decode b_Math_floorDiv_JJJ 13 = .ok (.lload 4, 2) := by decide +kernel
theorem d_Math_floorDiv_JJJ_15 : decode b_Math_floorDiv_JJJ 15 = .ok (.lload_n 2, 1) := by decide +kernel
theorem d_Math_floorDiv_JJJ_16 : decode b_Math_floorDiv_JJJ 16 = .ok (.lmul, 1) := by decide +kernel
theorem d_Math_floorDiv_JJJ_17 : decode b_Math_floorDiv_JJJ 17 = .ok (.lload_n 0, 1) := by decide +kernel
theorem d_Math_floorDiv_JJJ_18 : decode b_Math_floorDiv_JJJ 18 = .ok (.lcmp, 1) := by decide +kernel
theorem d_Math_floorDiv_JJJ_19 : decode b_Math_floorDiv_JJJ 19 = .ok (.ifCond .eq 8, 3) := by decide +kernel
theorem d_Math_floorDiv_JJJ_22 : decode b_Math_floorDiv_JJJ 22 = .ok (.lload 4, 2) := by decide +kernel
theorem d_Math_floorDiv_JJJ_24 : decode b_Math_floorDiv_JJJ 24 = .ok (.lconst 1, 1) := by decide +kernel
theorem d_Math_floorDiv_JJJ_25 : decode b_Math_floorDiv_JJJ 25 = .ok (.lsub, 1) := by decide +kernel
theorem d_Math_floorDiv_JJJ_26 : decode b_Math_floorDiv_JJJ 26 = .ok (.lreturn, 1) := by decide +kernel
theorem d_Math_floorDiv_JJJ_27 : decode b_Math_floorDiv_JJJ 27 = .ok (.lload 4, 2) := by decide +kernel
theorem d_Math_floorDiv_JJJ_29 : decode b_Math_floorDiv_JJJ 29 = .ok (.lreturn, 1) := by decide +kernel
theorem d_Math_floorMod_III_0 : decode b_Math_floorMod_III 0 = .ok (.iload_n 0, 1) := by decide +kernel
theorem d_Math_floorMod_III_1 : decode b_Math_floorMod_III 1 = .ok (.iload_n 1, 1) := by decide +kernel
theorem d_Math_floorMod_III_2 : decode b_Math_floorMod_III 2 = .ok (.irem, 1) := by decide +kernel
theorem d_Math_floorMod_III_3 : decode b_Math_floorMod_III 3 = .ok (.istore_n 2, 1) := by decide +kernel
theorem d_Math_floorMod_III_4 : decode b_Math_floorMod_III 4 = .ok (.iload_n 0, 1) := by decide +kernel
theorem d_Math_floorMod_III_5 : decode b_Math_floorMod_III 5 = .ok (.iload_n 1, 1) := by decide +kernel
theorem d_Math_floorMod_III_6 : decode b_Math_floorMod_III 6 = .ok (.ixor, 1) := by decide +kernel
theorem d_Math_floorMod_III_7 : decode b_Math_floorMod_III 7 = .ok (.ifCond .ge 11, 3) := by decide +kernel
theorem d_Math_floorMod_III_10 : decode b_Math_floorMod_III 10 = .ok (.iload_n 2, 1) := by decide +kernel
theorem d_Math_floorMod_III_11 : decode b_Math_floorMod_III 11 = .ok (.ifCond .eq 7, 3) := by decide +kernel
theorem d_Math_floorMod_III_14 : decode b_Math_floorMod_III 14 = .ok (.iload_n 2, 1) := by decide +kernel
theorem d_Math_floorMod_III_15 : decode b_Math_floorMod_III 15 = .ok (.iload_n 1, 1) := by decide +kernel
theorem d_Math_floorMod_III_16 : decode b_Math_floorMod_III 16 = .ok (.iadd, 1) := by decide +kernel
theorem d_Math_floorMod_III_17 : decode b_Math_floorMod_III 17 = .ok (.ireturn, 1) := by decide +kernel
theorem d_Math_floorMod_III_18 : decode b_Math_floorMod_III 18 = .ok (.iload_n 2, 1) := by decide +kernel
theorem d_Math_floorMod_III_19 : decode b_Math_floorMod_III 19 = .ok (.ireturn, 1) := by decide +kernel
theorem d_Arr_copyOf_AIIAI_0 : decode b_Arr_copyOf_AIIAI 0 = .ok (.iload_n 1, 1) := by decide +kernel
theorem d_Arr_copyOf_AIIAI_1 : decode b_Arr_copyOf_AIIAI 1 = .ok (.aload_n 0, 1) := by decide +kernel
theorem d_Arr_copyOf_AIIAI_2 : decode b_Arr_copyOf_AIIAI 2 = .ok (.arraylength, 1) := by decide +kernel
theorem d_Arr_copyOf_AIIAI_3 : decode b_Arr_copyOf_AIIAI 3 = .ok (.if_icmp .ne 11, 3) := by decide +kernel
theorem d_Arr_copyOf_AIIAI_6 : decode b_Arr_copyOf_AIIAI 6 = .ok (.aload_n 0, 1) := by decide +kernel
theorem d_Arr_copyOf_AIIAI_7 : decode b_Arr_copyOf_AIIAI 7 = .ok (.invokevirtual 316, 3) := by decide +kernel
theorem d_Arr_copyOf_AIIAI_10 : decode b_Arr_copyOf_AIIAI 10 = .ok (.checkcast 317, 3) := by decide +kernel
theorem d_Arr_copyOf_AIIAI_13 : decode b_Arr_copyOf_AIIAI 13 = .ok (.areturn, 1) := by decide +kernel
theorem d_Arr_copyOf_AIIAI_14 : decode b_Arr_copyOf_AIIAI 14 = .ok (.iload_n 1, 1) := by decide +kernel
theorem d_Arr_copyOf_AIIAI_15 : decode b_Arr_copyOf_AIIAI 15 = .ok (.newarray .int, 2) := by decide +kernel
theorem d_Arr_copyOf_AIIAI_17 : decode b_Arr_copyOf_AIIAI 17 = .ok (.astore_n 2, 1) := by decide +kernel
theorem d_Arr_copyOf_AIIAI_18 : decode b_Arr_copyOf_AIIAI 18 = .ok (.aload_n 0, 1) := by decide +kernel
theorem d_Arr_copyOf_AIIAI_19 : decode b_Arr_copyOf_AIIAI 19 = .ok (.iconst 0, 1) := by decide +kernel
theorem d_Arr_copyOf_AIIAI_20 : decode b_Arr_copyOf_AIIAI 20 = .ok (.aload_n 2, 1) := by decide +kernel
theorem d_Arr_copyOf_AIIAI_21 : decode b_Arr_copyOf_AIIAI 21 = .ok (.iconst 0, 1) := by decide +kernel
theorem d_Arr_copyOf_AIIAI_22 : decode b_Arr_copyOf_AIIAI 22 = .ok (.aload_n 0, 1) := by decide +kernel
theorem d_Arr_copyOf_AIIAI_23 : decode b_Arr_copyOf_AIIAI 23 = .ok (.arraylength, 1) := by decide +kernel
theorem d_Arr_copyOf_AIIAI_24 : decode b_Arr_copyOf_AIIAI 24 = .ok (.iload_n 1, 1) := by decide +kernel
theorem d_Arr_copyOf_AIIAI_25 : decode b_Arr_copyOf_AIIAI 25 = .ok (.invokestatic 304, 3) := by decide +kernel
theorem d_Arr_copyOf_AIIAI_28 : decode b_Arr_copyOf_AIIAI 28 = .ok (.invokestatic 150, 3) := by decide +kernel
theorem d_Arr_copyOf_AIIAI_31 : decode b_Arr_copyOf_AIIAI 31 = .ok (.aload_n 2, 1) := by decide +kernel
theorem d_Arr_copyOf_AIIAI_32 : decode b_Arr_copyOf_AIIAI 32 = .ok (.areturn, 1) := by decide +kernel
theorem d_Arr_fill_AJJV_0 : decode b_Arr_fill_AJJV 0 = .ok (.iconst 0, 1) := by decide +kernel
theorem d_Arr_fill_AJJV_1 : decode b_Arr_fill_AJJV 1 = .ok (.istore_n 3, 1) := by decide +kernel
theorem d_Arr_fill_AJJV_2 : decode b_Arr_fill_AJJV 2 = .ok (.aload_n 0, 1) := by decide +kernel
theorem d_Arr_fill_AJJV_3 : decode b_Arr_fill_AJJV 3 = .ok (.arraylength, 1) := by decide +kernel
theorem d_Arr_fill_AJJV_4 : decode b_Arr_fill_AJJV 4 = .ok (.istore 4, 2) := by decide +kernel
theorem d_Arr_fill_AJJV_6 : decode b_Arr_fill_AJJV 6 = .ok (.iload_n 3, 1) := by decide +kernel
theorem d_Arr_fill_AJJV_7 : decode b_Arr_fill_AJJV 7 = .ok (.iload 4, 2) := by decide +kernel
theorem d_Arr_fill_AJJV_9 : decode b_Arr_fill_AJJV 9 = .ok (.if_icmp .ge 13, 3) := by decide +kernel
theorem d_Arr_fill_AJJV_12 : decode b_Arr_fill_AJJV 12 = .ok (.aload_n 0, 1) := by decide +kernel
theorem d_Arr_fill_AJJV_13 : decode b_Arr_fill_AJJV 13 = .ok (.iload_n 3, 1) := by decide +kernel
theorem d_Arr_fill_AJJV_14 : decode b_Arr_fill_AJJV 14 = .ok (.lload_n 1, 1) := by decide +kernel
theorem d_Arr_fill_AJJV_15 : decode b_Arr_fill_AJJV 15 = .ok (.lastore, 1) := by decide +kernel
theorem d_Arr_fill_AJJV_16 : decode b_Arr_fill_AJJV 16 = .ok (.iinc 3 1, 3) := by decide +kernel
theorem d_Arr_fill_AJJV_19 : decode b_Arr_fill_AJJV 19 = .ok (.goto (-13), 3) := by decide +kernel
theorem d_Arr_fill_AJJV_22 : decode b_Arr_fill_AJJV 22 = .ok (.return_, 1) := by decide +kernel
theorem d_La_law_0 : decode code 0 = .ok (.new 8, 3) := by decide +kernel
theorem d_La_law_3 : decode code 3 = .ok (.dup, 1) := by decide +kernel
theorem d_La_law_4 : decode code 4 = .ok (.invokespecial 54, 3) := by decide +kernel
theorem d_La_law_7 : decode code 7 = .ok (.astore_n 1, 1) := by decide +kernel
theorem d_La_law_8 : decode code 8 = .ok (.new 55, 3) := by decide +kernel
theorem d_La_law_11 : decode code 11 = .ok (.dup, 1) := by decide +kernel
theorem d_La_law_12 : decode code 12 = .ok (.invokespecial 57, 3) := by decide +kernel
theorem d_La_law_15 : decode code 15 = .ok (.astore_n 2, 1) := by decide +kernel
theorem d_La_law_16 : decode code 16 = .ok (.iconst 1, 1) := by decide +kernel
theorem d_La_law_17 : decode code 17 = .ok (.newarray .long, 2) := by decide +kernel
theorem d_La_law_19 : decode code 19 = .ok (.astore_n 3, 1) := by decide +kernel
theorem d_La_law_20 : decode code 20 = .ok (.iconst 0, 1) := by decide +kernel
theorem d_La_law_21 : decode code 21 = .ok (.istore 4, 2) := by decide +kernel
theorem d_La_law_23 : decode code 23 = .ok (.iload 4, 2) := by decide +kernel
theorem d_La_law_25 : decode code 25 = .ok (.aload_n 0, 1) := by decide +kernel
theorem d_La_law_26 : decode code 26 = .ok (.arraylength, 1) := by decide +kernel
theorem d_La_law_27 : decode code 27 = .ok (.iconst 5, 1) := by decide +kernel
theorem d_La_law_28 : decode code 28 = .ok (.isub, 1) := by decide +kernel
theorem d_La_law_29 : decode code 29 = .ok (.if_icmp .gt 821, 3) := by decide +kernel
theorem d_La_law_32 : decode code 32 = .ok (.aload_n 0, 1) := by decide +kernel
theorem d_La_law_33 : decode code 33 = .ok (.iload 4, 2) := by decide +kernel
theorem d_La_law_35 : decode code 35 = .ok (.iaload, 1) := by decide +kernel
theorem d_La_law_36 : decode code 36 = .ok (.bipush 15, 2) := by decide +kernel
theorem d_La_law_38 : decode code 38 = .ok (.iand, 1) := by decide +kernel
theorem d_La_law_39 : decode code 39 = .ok (.tableswitch 805 0 12 #[65, 133, 201, 273, 341, 385, 398, 470, 526, 582, 607, 682, 737], 65) := by decide +kernel
theorem d_La_law_104 : decode code 104 = .ok (.aload_n 1, 1) := by decide +kernel
theorem d_La_law_105 : decode code 105 = .ok (.aload_n 0, 1) := by decide +kernel
theorem d_La_law_106 : decode code 106 = .ok (.iload 4, 2) := by decide +kernel
theorem d_La_law_108 : decode code 108 = .ok (.iconst 1, 1) := by decide +kernel
theorem d_La_law_109 : decode code 109 = .ok (.iadd, 1) := by decide +kernel
theorem d_La_law_110 : decode code 110 = .ok (.iaload, 1) := by decide +kernel
theorem d_La_law_111 : decode code 111 = .ok (.aload_n 0, 1) := by decide +kernel
theorem d_La_law_112 : decode code 112 = .ok (.iload 4, 2) := by decide +kernel
theorem d_La_law_114 : decode code 114 = .ok (.iconst 2, 1) := by decide +kernel
theorem d_La_law_115 : decode code 115 = .ok (.iadd, 1) := by decide +kernel
theorem d_La_law_116 : decode code 116 = .ok (.iaload, 1) := by decide +kernel
theorem d_La_law_117 : decode code 117 = .ok (.aload_n 3, 1) := by decide +kernel
theorem d_La_law_118 : decode code 118 = .ok (.invokestatic 58, 3) := by decide +kernel
theorem d_La_law_121 : decode code 121 = .ok (.istore 5, 2) := by decide +kernel
theorem d_La_law_123 : decode code 123 = .ok (.aload_n 2, 1) := by decide +kernel
theorem d_La_law_124 : decode code 124 = .ok (.aload_n 0, 1) := by decide +kernel
theorem d_La_law_125 : decode code 125 = .ok (.iload 4, 2) := by decide +kernel
theorem d_La_law_127 : decode code 127 = .ok (.iconst 1, 1) := by decide +kernel
theorem d_La_law_128 : decode code 128 = .ok (.iadd, 1) := by decide +kernel
theorem d_La_law_129 : decode code 129 = .ok (.iaload, 1) := by decide +kernel
theorem d_La_law_130 : decode code 130 = .ok (.aload_n 0, 1) := by decide +kernel
theorem d_La_law_131 : decode code 131 = .ok (.iload 4, 2) := by decide +kernel
theorem d_La_law_133 : decode code 133 = .ok (.iconst 2, 1) := by decide +kernel
theorem d_La_law_134 : decode code 134 = .ok (.iadd, 1) := by decide +kernel
theorem d_La_law_135 : decode code 135 = .ok (.iaload, 1) := by decide +kernel
theorem d_La_law_136 : decode code 136 = .ok (.invokevirtual 63, 3) := by decide +kernel
theorem d_La_law_139 : decode code 139 = .ok (.istore 6, 2) := by decide +kernel
theorem d_La_law_141 : decode code 141 = .ok (.aload_n 2, 1) := by decide +kernel
theorem d_La_law_142 : decode code 142 = .ok (.invokevirtual 64, 3) := by decide +kernel
theorem d_La_law_145 : decode code 145 = .ok (.iload 5, 2) := by decide +kernel
theorem d_La_law_147 : decode code 147 = .ok (.if_icmp .eq 5, 3) := by decide +kernel
theorem d_La_law_150 : decode code 150 = .ok (.iconst 0, 1) := by decide +kernel
theorem d_La_law_151 : decode code 151 = .ok (.ireturn, 1) := by decide +kernel
theorem d_La_law_152 : decode code 152 = .ok (.iload 5, 2) := by decide +kernel
theorem d_La_law_154 : decode code 154 = .ok (.ifCond .ne 15, 3) := by decide +kernel
theorem d_La_law_157 : decode code 157 = .ok (.aload_n 3, 1) := by decide +kernel
theorem d_La_law_158 : decode code 158 = .ok (.iconst 0, 1) := by decide +kernel
theorem d_La_law_159 : decode code 159 = .ok (.laload, 1) := by decide +kernel
theorem d_La_law_160 : decode code 160 = .ok (.iload 6, 2) := by decide +kernel
theorem d_La_law_162 : decode code 162 = .ok (.i2l, 1) := by decide +kernel
theorem d_La_law_163 : decode code 163 = .ok (.lcmp, 1) := by decide +kernel
theorem d_La_law_164 : decode code 164 = .ok (.ifCond .eq 5, 3) := by decide +kernel
theorem d_La_law_167 : decode code 167 = .ok (.iconst 0, 1) := by decide +kernel
theorem d_La_law_168 : decode code 168 = .ok (.ireturn, 1) := by decide +kernel
theorem d_La_law_169 : decode code 169 = .ok (.goto 675, 3) := by decide +kernel
theorem d_La_law_172 : decode code 172 = .ok (.aload_n 1, 1) := by decide +kernel
theorem d_La_law_173 : decode code 173 = .ok (.aload_n 0, 1) := by decide +kernel
theorem d_La_law_174 : decode code 174 = .ok (.iload 4, 2) := by decide +kernel
theorem d_La_law_176 : decode code 176 = .ok (.iconst 1, 1) := by decide +kernel
theorem d_La_law_177 : decode code 177 = .ok (.iadd, 1) := by decide +kernel
theorem d_La_law_178 : decode code 178 = .ok (.iaload, 1) := by decide +kernel
theorem d_La_law_179 : decode code 179 = .ok (.aload_n 0, 1) := by decide +kernel
theorem d_La_law_180 : decode code 180 = .ok (.iload 4, 2) := by decide +kernel
theorem d_La_law_182 : decode code 182 = .ok (.iconst 2, 1) := by decide +kernel
theorem d_La_law_183 : decode code 183 = .ok (.iadd, 1) := by decide +kernel
theorem d_La_law_184 : decode code 184 = .ok (.iaload, 1) := by decide +kernel
theorem d_La_law_185 : decode code 185 = .ok (.aload_n 3, 1) := by decide +kernel
theorem d_La_law_186 : decode code 186 = .ok (.invokestatic 67, 3) := by decide +kernel
theorem d_La_law_189 : decode code 189 = .ok (.istore 5, 2) := by decide +kernel
theorem d_La_law_191 : decode code 191 = .ok (.aload_n 2, 1) := by decide +kernel
theorem d_La_law_192 : decode code 192 = .ok (.aload_n 0, 1) := by decide +kernel
theorem d_La_law_193 : decode code 193 = .ok (.iload 4, 2) := by decide +kernel
theorem d_La_law_195 : decode code 195 = .ok (.iconst 1, 1) := by decide +kernel
theorem d_La_law_196 : decode code 196 = .ok (.iadd, 1) := by decide +kernel
theorem d_La_law_197 : decode code 197 = .ok (.iaload, 1) := by decide +kernel
theorem d_La_law_198 : decode code 198 = .ok (.aload_n 0, 1) := by decide +kernel
theorem d_La_law_199 : decode code 199 = .ok (.iload 4, 2) := by decide +kernel
theorem d_La_law_201 : decode code 201 = .ok (.iconst 2, 1) := by decide +kernel
theorem d_La_law_202 : decode code 202 = .ok (.iadd, 1) := by decide +kernel
theorem d_La_law_203 : decode code 203 = .ok (.iaload, 1) := by decide +kernel
theorem d_La_law_204 : decode code 204 = .ok (.invokevirtual 69, 3) := by decide +kernel
theorem d_La_law_207 : decode code 207 = .ok (.istore 6, 2) := by decide +kernel
theorem d_La_law_209 : decode code 209 = .ok (.aload_n 2, 1) := by decide +kernel
theorem d_La_law_210 : decode code 210 = .ok (.invokevirtual 64, 3) := by decide +kernel
theorem d_La_law_213 : decode code 213 = .ok (.iload 5, 2) := by decide +kernel
theorem d_La_law_215 : decode code 215 = .ok (.if_icmp .eq 5, 3) := by decide +kernel
theorem d_La_law_218 : decode code 218 = .ok (.iconst 0, 1) := by decide +kernel
theorem d_La_law_219 : decode code 219 = .ok (.ireturn, 1) := by decide +kernel
theorem d_La_law_220 : decode code 220 = .ok (.iload 5, 2) := by decide +kernel
theorem d_La_law_222 : decode code 222 = .ok (.ifCond .ne 15, 3) := by decide +kernel
theorem d_La_law_225 : decode code 225 = .ok (.aload_n 3, 1) := by decide +kernel
theorem d_La_law_226 : decode code 226 = .ok (.iconst 0, 1) := by decide +kernel
theorem d_La_law_227 : decode code 227 = .ok (.laload, 1) := by decide +kernel
theorem d_La_law_228 : decode code 228 = .ok (.iload 6, 2) := by decide +kernel
theorem d_La_law_230 : decode code 230 = .ok (.i2l, 1) := by decide +kernel
theorem d_La_law_231 : decode code 231 = .ok (.lcmp, 1) := by decide +kernel
theorem d_La_law_232 : decode code 232 = .ok (.ifCond .eq 5, 3) := by decide +kernel
theorem d_La_law_235 : decode code 235 = .ok (.iconst 0, 1) := by decide +kernel
theorem d_La_law_236 : decode code 236 = .ok (.ireturn, 1) := by decide +kernel
theorem d_La_law_237 : decode code 237 = .ok (.goto 607, 3) := by decide +kernel
theorem d_La_law_240 : decode code 240 = .ok (.aload_n 1, 1) := by decide +kernel
theorem d_La_law_241 : decode code 241 = .ok (.aload_n 0, 1) := by decide +kernel
theorem d_La_law_242 : decode code 242 = .ok (.iload 4, 2) := by decide +kernel
theorem d_La_law_244 : decode code 244 = .ok (.iconst 1, 1) := by decide +kernel
theorem d_La_law_245 : decode code 245 = .ok (.iadd, 1) := by decide +kernel
theorem d_La_law_246 : decode code 246 = .ok (.iaload, 1) := by decide +kernel
theorem d_La_law_247 : decode code 247 = .ok (.aload_n 0, 1) := by decide +kernel
theorem d_La_law_248 : decode code 248 = .ok (.iload 4, 2) := by decide +kernel
theorem d_La_law_250 : decode code 250 = .ok (.iconst 2, 1) := by decide +kernel
theorem d_La_law_251 : decode code 251 = .ok (.iadd, 1) := by decide +kernel
theorem d_La_law_252 : decode code 252 = .ok (.iaload, 1) := by decide +kernel
theorem d_La_law_253 : decode code 253 = .ok (.aload_n 0, 1) := by decide +kernel
theorem d_La_law_254 : decode code 254 = .ok (.iload 4, 2) := by decide +kernel
theorem d_La_law_256 : decode code 256 = .ok (.iconst 3, 1) := by decide +kernel
theorem d_La_law_257 : decode code 257 = .ok (.iadd, 1) := by decide +kernel
theorem d_La_law_258 : decode code 258 = .ok (.iaload, 1) := by decide +kernel
theorem d_La_law_259 : decode code 259 = .ok (.aload_n 0, 1) := by decide +kernel
theorem d_La_law_260 : decode code 260 = .ok (.iload 4, 2) := by decide +kernel
theorem d_La_law_262 : decode code 262 = .ok (.iconst 4, 1) := by decide +kernel
theorem d_La_law_263 : decode code 263 = .ok (.iadd, 1) := by decide +kernel
theorem d_La_law_264 : decode code 264 = .ok (.iaload, 1) := by decide +kernel
theorem d_La_law_265 : decode code 265 = .ok (.invokestatic 70, 3) := by decide +kernel
theorem d_La_law_268 : decode code 268 = .ok (.istore 5, 2) := by decide +kernel
theorem d_La_law_270 : decode code 270 = .ok (.aload_n 2, 1) := by decide +kernel
theorem d_La_law_271 : decode code 271 = .ok (.aload_n 0, 1) := by decide +kernel
theorem d_La_law_272 : decode code 272 = .ok (.iload 4, 2) := by decide +kernel
theorem d_La_law_274 : decode code 274 = .ok (.iconst 1, 1) := by decide +kernel
theorem d_La_law_275 : decode code 275 = .ok (.iadd, 1) := by decide +kernel
theorem d_La_law_276 : decode code 276 = .ok (.iaload, 1) := by decide +kernel
theorem d_La_law_277 : decode code 277 = .ok (.aload_n 0, 1) := by decide +kernel
theorem d_La_law_278 : decode code 278 = .ok (.iload 4, 2) := by decide +kernel
theorem d_La_law_280 : decode code 280 = .ok (.iconst 2, 1) := by decide +kernel
theorem d_La_law_281 : decode code 281 = .ok (.iadd, 1) := by decide +kernel
theorem d_La_law_282 : decode code 282 = .ok (.iaload, 1) := by decide +kernel
theorem d_La_law_283 : decode code 283 = .ok (.aload_n 0, 1) := by decide +kernel
theorem d_La_law_284 : decode code 284 = .ok (.iload 4, 2) := by decide +kernel
theorem d_La_law_286 : decode code 286 = .ok (.iconst 3, 1) := by decide +kernel
theorem d_La_law_287 : decode code 287 = .ok (.iadd, 1) := by decide +kernel
theorem d_La_law_288 : decode code 288 = .ok (.iaload, 1) := by decide +kernel
theorem d_La_law_289 : decode code 289 = .ok (.aload_n 0, 1) := by decide +kernel
theorem d_La_law_290 : decode code 290 = .ok (.iload 4, 2) := by decide +kernel
theorem d_La_law_292 : decode code 292 = .ok (.iconst 4, 1) := by decide +kernel
theorem d_La_law_293 : decode code 293 = .ok (.iadd, 1) := by decide +kernel
theorem d_La_law_294 : decode code 294 = .ok (.iaload, 1) := by decide +kernel
theorem d_La_law_295 : decode code 295 = .ok (.invokevirtual 73, 3) := by decide +kernel
theorem d_La_law_298 : decode code 298 = .ok (.aload_n 2, 1) := by decide +kernel
theorem d_La_law_299 : decode code 299 = .ok (.invokevirtual 64, 3) := by decide +kernel
theorem d_La_law_302 : decode code 302 = .ok (.iload 5, 2) := by decide +kernel
theorem d_La_law_304 : decode code 304 = .ok (.if_icmp .eq 5, 3) := by decide +kernel
theorem d_La_law_307 : decode code 307 = .ok (.iconst 0, 1) := by decide +kernel
theorem d_La_law_308 : decode code 308 = .ok (.ireturn, 1) := by decide +kernel
theorem d_La_law_309 : decode code 309 = .ok (.goto 535, 3) := by decide +kernel
theorem d_La_law_312 : decode code 312 = .ok (.aload_n 1, 1) := by decide +kernel
theorem d_La_law_313 : decode code 313 = .ok (.aload_n 0, 1) := by decide +kernel
theorem d_La_law_314 : decode code 314 = .ok (.iload 4, 2) := by decide +kernel
theorem d_La_law_316 : decode code 316 = .ok (.iconst 1, 1) := by decide +kernel
theorem d_La_law_317 : decode code 317 = .ok (.iadd, 1) := by decide +kernel
theorem d_La_law_318 : decode code 318 = .ok (.iaload, 1) := by decide +kernel
theorem d_La_law_319 : decode code 319 = .ok (.aload_n 0, 1) := by decide +kernel
theorem d_La_law_320 : decode code 320 = .ok (.iload 4, 2) := by decide +kernel
theorem d_La_law_322 : decode code 322 = .ok (.iconst 2, 1) := by decide +kernel
theorem d_La_law_323 : decode code 323 = .ok (.iadd, 1) := by decide +kernel
theorem d_La_law_324 : decode code 324 = .ok (.iaload, 1) := by decide +kernel
theorem d_La_law_325 : decode code 325 = .ok (.aload_n 3, 1) := by decide +kernel
theorem d_La_law_326 : decode code 326 = .ok (.invokestatic 74, 3) := by decide +kernel
theorem d_La_law_329 : decode code 329 = .ok (.istore 5, 2) := by decide +kernel
theorem d_La_law_331 : decode code 331 = .ok (.aload_n 2, 1) := by decide +kernel
theorem d_La_law_332 : decode code 332 = .ok (.aload_n 0, 1) := by decide +kernel
theorem d_La_law_333 : decode code 333 = .ok (.iload 4, 2) := by decide +kernel
theorem d_La_law_335 : decode code 335 = .ok (.iconst 1, 1) := by decide +kernel
theorem d_La_law_336 : decode code 336 = .ok (.iadd, 1) := by decide +kernel
theorem d_La_law_337 : decode code 337 = .ok (.iaload, 1) := by decide +kernel
theorem d_La_law_338 : decode code 338 = .ok (.aload_n 0, 1) := by decide +kernel
theorem d_La_law_339 : decode code 339 = .ok (.iload 4, 2) := by decide +kernel
theorem d_La_law_341 : decode code 341 = .ok (.iconst 2, 1) := by decide +kernel
theorem d_La_law_342 : decode code 342 = .ok (.iadd, 1) := by decide +kernel
theorem d_La_law_343 : decode code 343 = .ok (.iaload, 1) := by decide +kernel
theorem d_La_law_344 : decode code 344 = .ok (.invokevirtual 76, 3) := by decide +kernel
theorem d_La_law_347 : decode code 347 = .ok (.istore 6, 2) := by decide +kernel
theorem d_La_law_349 : decode code 349 = .ok (.aload_n 2, 1) := by decide +kernel
theorem d_La_law_350 : decode code 350 = .ok (.invokevirtual 64, 3) := by decide +kernel
theorem d_La_law_353 : decode code 353 = .ok (.iload 5, 2) := by decide +kernel
theorem d_La_law_355 : decode code 355 = .ok (.if_icmp .eq 5, 3) := by decide +kernel
theorem d_La_law_358 : decode code 358 = .ok (.iconst 0, 1) := by decide +kernel
theorem d_La_law_359 : decode code 359 = .ok (.ireturn, 1) := by decide +kernel
theorem d_La_law_360 : decode code 360 = .ok (.iload 5, 2) := by decide +kernel
theorem d_La_law_362 : decode code 362 = .ok (.ifCond .ne 15, 3) := by decide +kernel
theorem d_La_law_365 : decode code 365 = .ok (.aload_n 3, 1) := by decide +kernel
theorem d_La_law_366 : decode code 366 = .ok (.iconst 0, 1) := by decide +kernel
theorem d_La_law_367 : decode code 367 = .ok (.laload, 1) := by decide +kernel
theorem d_La_law_368 : decode code 368 = .ok (.iload 6, 2) := by decide +kernel
theorem d_La_law_370 : decode code 370 = .ok (.i2l, 1) := by decide +kernel
theorem d_La_law_371 : decode code 371 = .ok (.lcmp, 1) := by decide +kernel
theorem d_La_law_372 : decode code 372 = .ok (.ifCond .eq 5, 3) := by decide +kernel
theorem d_La_law_375 : decode code 375 = .ok (.iconst 0, 1) := by decide +kernel
theorem d_La_law_376 : decode code 376 = .ok (.ireturn, 1) := by decide +kernel
theorem d_La_law_377 : decode code 377 = .ok (.goto 467, 3) := by decide +kernel
theorem d_La_law_380 : decode code 380 = .ok (.aload_n 1, 1) := by decide +kernel
theorem d_La_law_381 : decode code 381 = .ok (.aload_n 3, 1) := by decide +kernel
theorem d_La_law_382 : decode code 382 = .ok (.invokestatic 77, 3) := by decide +kernel
theorem d_La_law_385 : decode code 385 = .ok (.istore 5, 2) := by decide +kernel
theorem d_La_law_387 : decode code 387 = .ok (.aload_n 2, 1) := by decide +kernel
theorem d_La_law_388 : decode code 388 = .ok (.invokevirtual 80, 3) := by decide +kernel
theorem d_La_law_391 : decode code 391 = .ok (.istore 6, 2) := by decide +kernel
theorem d_La_law_393 : decode code 393 = .ok (.aload_n 2, 1) := by decide +kernel
theorem d_La_law_394 : decode code 394 = .ok (.invokevirtual 64, 3) := by decide +kernel
theorem d_La_law_397 : decode code 397 = .ok (.iload 5, 2) := by decide +kernel
theorem d_La_law_399 : decode code 399 = .ok (.if_icmp .eq 5, 3) := by decide +kernel
theorem d_La_law_402 : decode code 402 = .ok (.iconst 0, 1) := by decide +kernel
theorem d_La_law_403 : decode code 403 = .ok (.ireturn, 1) := by decide +kernel
theorem d_La_law_404 : decode code 404 = .ok (.iload 5, 2) := by decide +kernel
theorem d_La_law_406 : decode code 406 = .ok (.ifCond .ne 15, 3) := by decide +kernel
theorem d_La_law_409 : decode code 409 = .ok (.aload_n 3, 1) := by decide +kernel
theorem d_La_law_410 : decode code 410 = .ok (.iconst 0, 1) := by decide +kernel
theorem d_La_law_411 : decode code 411 = .ok (.laload, 1) := by decide +kernel
theorem d_La_law_412 : decode code 412 = .ok (.iload 6, 2) := by decide +kernel
theorem d_La_law_414 : decode code 414 = .ok (.i2l, 1) := by decide +kernel
theorem d_La_law_415 : decode code 415 = .ok (.lcmp, 1) := by decide +kernel
theorem d_La_law_416 : decode code 416 = .ok (.ifCond .eq 5, 3) := by decide +kernel
theorem d_La_law_419 : decode code 419 = .ok (.iconst 0, 1) := by decide +kernel
theorem d_La_law_420 : decode code 420 = .ok (.ireturn, 1) := by decide +kernel
theorem d_La_law_421 : decode code 421 = .ok (.goto 423, 3) := by decide +kernel
theorem d_La_law_424 : decode code 424 = .ok (.aload_n 1, 1) := by decide +kernel
theorem d_La_law_425 : decode code 425 = .ok (.invokevirtual 81, 3) := by decide +kernel
theorem d_La_law_428 : decode code 428 = .ok (.aload_n 2, 1) := by decide +kernel
theorem d_La_law_429 : decode code 429 = .ok (.invokevirtual 84, 3) := by decide +kernel
theorem d_La_law_432 : decode code 432 = .ok (.if_icmp .eq 412, 3) := by decide +kernel
theorem d_La_law_435 : decode code 435 = .ok (.iconst 0, 1) := by decide +kernel
theorem d_La_law_436 : decode code 436 = .ok (.ireturn, 1) := by decide +kernel
theorem d_La_law_437 : decode code 437 = .ok (.aload_n 1, 1) := by decide +kernel
theorem d_La_law_438 : decode code 438 = .ok (.aload_n 0, 1) := by decide +kernel
theorem d_La_law_439 : decode code 439 = .ok (.iload 4, 2) := by decide +kernel
theorem d_La_law_441 : decode code 441 = .ok (.iconst 1, 1) := by decide +kernel
theorem d_La_law_442 : decode code 442 = .ok (.iadd, 1) := by decide +kernel
theorem d_La_law_443 : decode code 443 = .ok (.iaload, 1) := by decide +kernel
theorem d_La_law_444 : decode code 444 = .ok (.aload_n 0, 1) := by decide +kernel
theorem d_La_law_445 : decode code 445 = .ok (.iload 4, 2) := by decide +kernel
theorem d_La_law_447 : decode code 447 = .ok (.iconst 2, 1) := by decide +kernel
theorem d_La_law_448 : decode code 448 = .ok (.iadd, 1) := by decide +kernel
theorem d_La_law_449 : decode code 449 = .ok (.iaload, 1) := by decide +kernel
theorem d_La_law_450 : decode code 450 = .ok (.aload_n 0, 1) := by decide +kernel
theorem d_La_law_451 : decode code 451 = .ok (.iload 4, 2) := by decide +kernel
theorem d_La_law_453 : decode code 453 = .ok (.iconst 3, 1) := by decide +kernel
theorem d_La_law_454 : decode code 454 = .ok (.iadd, 1) := by decide +kernel
theorem d_La_law_455 : decode code 455 = .ok (.iaload, 1) := by decide +kernel
theorem d_La_law_456 : decode code 456 = .ok (.aload_n 0, 1) := by decide +kernel
theorem d_La_law_457 : decode code 457 = .ok (.iload 4, 2) := by decide +kernel
theorem d_La_law_459 : decode code 459 = .ok (.iconst 4, 1) := by decide +kernel
theorem d_La_law_460 : decode code 460 = .ok (.iadd, 1) := by decide +kernel
theorem d_La_law_461 : decode code 461 = .ok (.iaload, 1) := by decide +kernel
theorem d_La_law_462 : decode code 462 = .ok (.invokestatic 85, 3) := by decide +kernel
theorem d_La_law_465 : decode code 465 = .ok (.istore 5, 2) := by decide +kernel
theorem d_La_law_467 : decode code 467 = .ok (.aload_n 2, 1) := by decide +kernel
theorem d_La_law_468 : decode code 468 = .ok (.aload_n 0, 1) := by decide +kernel
theorem d_La_law_469 : decode code 469 = .ok (.iload 4, 2) := by decide +kernel
theorem d_La_law_471 : decode code 471 = .ok (.iconst 1, 1) := by decide +kernel
theorem d_La_law_472 : decode code 472 = .ok (.iadd, 1) := by decide +kernel
theorem d_La_law_473 : decode code 473 = .ok (.iaload, 1) := by decide +kernel
theorem d_La_law_474 : decode code 474 = .ok (.aload_n 0, 1) := by decide +kernel
theorem d_La_law_475 : decode code 475 = .ok (.iload 4, 2) := by decide +kernel
theorem d_La_law_477 : decode code 477 = .ok (.iconst 2, 1) := by decide +kernel
theorem d_La_law_478 : decode code 478 = .ok (.iadd, 1) := by decide +kernel
theorem d_La_law_479 : decode code 479 = .ok (.iaload, 1) := by decide +kernel
theorem d_La_law_480 : decode code 480 = .ok (.aload_n 0, 1) := by decide +kernel
theorem d_La_law_481 : decode code 481 = .ok (.iload 4, 2) := by decide +kernel
theorem d_La_law_483 : decode code 483 = .ok (.iconst 3, 1) := by decide +kernel
theorem d_La_law_484 : decode code 484 = .ok (.iadd, 1) := by decide +kernel
theorem d_La_law_485 : decode code 485 = .ok (.iaload, 1) := by decide +kernel
theorem d_La_law_486 : decode code 486 = .ok (.aload_n 0, 1) := by decide +kernel
theorem d_La_law_487 : decode code 487 = .ok (.iload 4, 2) := by decide +kernel
theorem d_La_law_489 : decode code 489 = .ok (.iconst 4, 1) := by decide +kernel
theorem d_La_law_490 : decode code 490 = .ok (.iadd, 1) := by decide +kernel
theorem d_La_law_491 : decode code 491 = .ok (.iaload, 1) := by decide +kernel
theorem d_La_law_492 : decode code 492 = .ok (.invokevirtual 87, 3) := by decide +kernel
theorem d_La_law_495 : decode code 495 = .ok (.aload_n 2, 1) := by decide +kernel
theorem d_La_law_496 : decode code 496 = .ok (.invokevirtual 64, 3) := by decide +kernel
theorem d_La_law_499 : decode code 499 = .ok (.iload 5, 2) := by decide +kernel
theorem d_La_law_501 : decode code 501 = .ok (.if_icmp .eq 5, 3) := by decide +kernel
theorem d_La_law_504 : decode code 504 = .ok (.iconst 0, 1) := by decide +kernel
theorem d_La_law_505 : decode code 505 = .ok (.ireturn, 1) := by decide +kernel
theorem d_La_law_506 : decode code 506 = .ok (.goto 338, 3) := by decide +kernel
theorem d_La_law_509 : decode code 509 = .ok (.aload_n 1, 1) := by decide +kernel
theorem d_La_law_510 : decode code 510 = .ok (.aload_n 0, 1) := by decide +kernel
theorem d_La_law_511 : decode code 511 = .ok (.iload 4, 2) := by decide +kernel
theorem d_La_law_513 : decode code 513 = .ok (.iconst 1, 1) := by decide +kernel
theorem d_La_law_514 : decode code 514 = .ok (.iadd, 1) := by decide +kernel
theorem d_La_law_515 : decode code 515 = .ok (.iaload, 1) := by decide +kernel
theorem d_La_law_516 : decode code 516 = .ok (.aload_n 3, 1) := by decide +kernel
theorem d_La_law_517 : decode code 517 = .ok (.invokestatic 88, 3) := by decide +kernel
theorem d_La_law_520 : decode code 520 = .ok (.istore 5, 2) := by decide +kernel
theorem d_La_law_522 : decode code 522 = .ok (.aload_n 2, 1) := by decide +kernel
theorem d_La_law_523 : decode code 523 = .ok (.aload_n 0, 1) := by decide +kernel
theorem d_La_law_524 : decode code 524 = .ok (.iload 4, 2) := by decide +kernel
theorem d_La_law_526 : decode code 526 = .ok (.iconst 1, 1) := by decide +kernel
theorem d_La_law_527 : decode code 527 = .ok (.iadd, 1) := by decide +kernel
theorem d_La_law_528 : decode code 528 = .ok (.iaload, 1) := by decide +kernel
theorem d_La_law_529 : decode code 529 = .ok (.invokevirtual 91, 3) := by decide +kernel
theorem d_La_law_532 : decode code 532 = .ok (.istore 6, 2) := by decide +kernel
theorem d_La_law_534 : decode code 534 = .ok (.aload_n 2, 1) := by decide +kernel
theorem d_La_law_535 : decode code 535 = .ok (.invokevirtual 64, 3) := by decide +kernel
theorem d_La_law_538 : decode code 538 = .ok (.iload 5, 2) := by decide +kernel
theorem d_La_law_540 : decode code 540 = .ok (.if_icmp .eq 5, 3) := by decide +kernel
theorem d_La_law_543 : decode code 543 = .ok (.iconst 0, 1) := by decide +kernel
theorem d_La_law_544 : decode code 544 = .ok (.ireturn, 1) := by decide +kernel
theorem d_La_law_545 : decode code 545 = .ok (.iload 5, 2) := by decide +kernel
theorem d_La_law_547 : decode code 547 = .ok (.ifCond .ne 15, 3) := by decide +kernel
theorem d_La_law_550 : decode code 550 = .ok (.aload_n 3, 1) := by decide +kernel
theorem d_La_law_551 : decode code 551 = .ok (.iconst 0, 1) := by decide +kernel
theorem d_La_law_552 : decode code 552 = .ok (.laload, 1) := by decide +kernel
theorem d_La_law_553 : decode code 553 = .ok (.iload 6, 2) := by decide +kernel
theorem d_La_law_555 : decode code 555 = .ok (.i2l, 1) := by decide +kernel
theorem d_La_law_556 : decode code 556 = .ok (.lcmp, 1) := by decide +kernel
theorem d_La_law_557 : decode code 557 = .ok (.ifCond .eq 5, 3) := by decide +kernel
theorem d_La_law_560 : decode code 560 = .ok (.iconst 0, 1) := by decide +kernel
theorem d_La_law_561 : decode code 561 = .ok (.ireturn, 1) := by decide +kernel
theorem d_La_law_562 : decode code 562 = .ok (.goto 282, 3) := by decide +kernel
theorem d_La_law_565 : decode code 565 = .ok (.aload_n 1, 1) := by decide +kernel
theorem d_La_law_566 : decode code 566 = .ok (.aload_n 0, 1) := by decide +kernel
theorem d_La_law_567 : decode code 567 = .ok (.iload 4, 2) := by decide +kernel
theorem d_La_law_569 : decode code 569 = .ok (.iconst 1, 1) := by decide +kernel
theorem d_La_law_570 : decode code 570 = .ok (.iadd, 1) := by decide +kernel
theorem d_La_law_571 : decode code 571 = .ok (.iaload, 1) := by decide +kernel
theorem d_La_law_572 : decode code 572 = .ok (.aload_n 3, 1) := by decide +kernel
theorem d_La_law_573 : decode code 573 = .ok (.invokestatic 92, 3) := by decide +kernel
theorem d_La_law_576 : decode code 576 = .ok (.istore 5, 2) := by decide +kernel
theorem d_La_law_578 : decode code 578 = .ok (.aload_n 2, 1) := by decide +kernel
theorem d_La_law_579 : decode code 579 = .ok (.aload_n 0, 1) := by decide +kernel
theorem d_La_law_580 : decode code 580 = .ok (.iload 4, 2) := by decide +kernel
theorem d_La_law_582 : decode code 582 = .ok (.iconst 1, 1) := by decide +kernel
theorem d_La_law_583 : decode code 583 = .ok (.iadd, 1) := by decide +kernel
theorem d_La_law_584 : decode code 584 = .ok (.iaload, 1) := by decide +kernel
theorem d_La_law_585 : decode code 585 = .ok (.invokevirtual 94, 3) := by decide +kernel
theorem d_La_law_588 : decode code 588 = .ok (.istore 6, 2) := by decide +kernel
theorem d_La_law_590 : decode code 590 = .ok (.aload_n 2, 1) := by decide +kernel
theorem d_La_law_591 : decode code 591 = .ok (.invokevirtual 64, 3) := by decide +kernel
theorem d_La_law_594 : decode code 594 = .ok (.iload 5, 2) := by decide +kernel
theorem d_La_law_596 : decode code 596 = .ok (.if_icmp .eq 5, 3) := by decide +kernel
theorem d_La_law_599 : decode code 599 = .ok (.iconst 0, 1) := by decide +kernel
theorem d_La_law_600 : decode code 600 = .ok (.ireturn, 1) := by decide +kernel
theorem d_La_law_601 : decode code 601 = .ok (.iload 5, 2) := by decide +kernel
theorem d_La_law_603 : decode code 603 = .ok (.ifCond .ne 15, 3) := by decide +kernel
theorem d_La_law_606 : decode code 606 = .ok (.aload_n 3, 1) := by decide +kernel
theorem d_La_law_607 : decode code 607 = .ok (.iconst 0, 1) := by decide +kernel
theorem d_La_law_608 : decode code 608 = .ok (.laload, 1) := by decide +kernel
theorem d_La_law_609 : decode code 609 = .ok (.iload 6, 2) := by decide +kernel
theorem d_La_law_611 : decode code 611 = .ok (.i2l, 1) := by decide +kernel
theorem d_La_law_612 : decode code 612 = .ok (.lcmp, 1) := by decide +kernel
theorem d_La_law_613 : decode code 613 = .ok (.ifCond .eq 5, 3) := by decide +kernel
theorem d_La_law_616 : decode code 616 = .ok (.iconst 0, 1) := by decide +kernel
theorem d_La_law_617 : decode code 617 = .ok (.ireturn, 1) := by decide +kernel
theorem d_La_law_618 : decode code 618 = .ok (.goto 226, 3) := by decide +kernel
theorem d_La_law_621 : decode code 621 = .ok (.aload_n 1, 1) := by decide +kernel
theorem d_La_law_622 : decode code 622 = .ok (.aload_n 0, 1) := by decide +kernel
theorem d_La_law_623 : decode code 623 = .ok (.iload 4, 2) := by decide +kernel
theorem d_La_law_625 : decode code 625 = .ok (.iconst 1, 1) := by decide +kernel
theorem d_La_law_626 : decode code 626 = .ok (.iadd, 1) := by decide +kernel
theorem d_La_law_627 : decode code 627 = .ok (.iaload, 1) := by decide +kernel
theorem d_La_law_628 : decode code 628 = .ok (.invokevirtual 95, 3) := by decide +kernel
theorem d_La_law_631 : decode code 631 = .ok (.aload_n 2, 1) := by decide +kernel
theorem d_La_law_632 : decode code 632 = .ok (.aload_n 0, 1) := by decide +kernel
theorem d_La_law_633 : decode code 633 = .ok (.iload 4, 2) := by decide +kernel
theorem d_La_law_635 : decode code 635 = .ok (.iconst 1, 1) := by decide +kernel
theorem d_La_law_636 : decode code 636 = .ok (.iadd, 1) := by decide +kernel
theorem d_La_law_637 : decode code 637 = .ok (.iaload, 1) := by decide +kernel
theorem d_La_law_638 : decode code 638 = .ok (.invokevirtual 98, 3) := by decide +kernel
theorem d_La_law_641 : decode code 641 = .ok (.if_icmp .eq 203, 3) := by decide +kernel
theorem d_La_law_644 : decode code 644 = .ok (.iconst 0, 1) := by decide +kernel
theorem d_La_law_645 : decode code 645 = .ok (.ireturn, 1) := by decide +kernel
theorem d_La_law_646 : decode code 646 = .ok (.aload_n 1, 1) := by decide +kernel
theorem d_La_law_647 : decode code 647 = .ok (.aload_n 0, 1) := by decide +kernel
theorem d_La_law_648 : decode code 648 = .ok (.iload 4, 2) := by decide +kernel
theorem d_La_law_650 : decode code 650 = .ok (.iconst 1, 1) := by decide +kernel
theorem d_La_law_651 : decode code 651 = .ok (.iadd, 1) := by decide +kernel
theorem d_La_law_652 : decode code 652 = .ok (.iaload, 1) := by decide +kernel
theorem d_La_law_653 : decode code 653 = .ok (.aload_n 0, 1) := by decide +kernel
theorem d_La_law_654 : decode code 654 = .ok (.iload 4, 2) := by decide +kernel
theorem d_La_law_656 : decode code 656 = .ok (.iconst 2, 1) := by decide +kernel
theorem d_La_law_657 : decode code 657 = .ok (.iadd, 1) := by decide +kernel
theorem d_La_law_658 : decode code 658 = .ok (.iaload, 1) := by decide +kernel
theorem d_La_law_659 : decode code 659 = .ok (.aload_n 3, 1) := by decide +kernel
theorem d_La_law_660 : decode code 660 = .ok (.invokestatic 99, 3) := by decide +kernel
theorem d_La_law_663 : decode code 663 = .ok (.istore 5, 2) := by decide +kernel
theorem d_La_law_665 : decode code 665 = .ok (.aload_n 2, 1) := by decide +kernel
theorem d_La_law_666 : decode code 666 = .ok (.aload_n 0, 1) := by decide +kernel
theorem d_La_law_667 : decode code 667 = .ok (.iload 4, 2) := by decide +kernel
theorem d_La_law_669 : decode code 669 = .ok (.iconst 1, 1) := by decide +kernel
theorem d_La_law_670 : decode code 670 = .ok (.iadd, 1) := by decide +kernel
theorem d_La_law_671 : decode code 671 = .ok (.iaload, 1) := by decide +kernel
theorem d_La_law_672 : decode code 672 = .ok (.aload_n 0, 1) := by decide +kernel
theorem d_La_law_673 : decode code 673 = .ok (.iload 4, 2) := by decide +kernel
theorem d_La_law_675 : decode code 675 = .ok (.iconst 2, 1) := by decide +kernel
theorem d_La_law_676 : decode code 676 = .ok (.iadd, 1) := by decide +kernel
theorem d_La_law_677 : decode code 677 = .ok (.iaload, 1) := by decide +kernel
theorem d_La_law_678 : decode code 678 = .ok (.invokevirtual 101, 3) := by decide +kernel
theorem d_La_law_681 : decode code 681 = .ok (.istore 6, 2) := by decide +kernel
theorem d_La_law_683 : decode code 683 = .ok (.aload_n 2, 1) := by decide +kernel
theorem d_La_law_684 : decode code 684 = .ok (.invokevirtual 64, 3) := by decide +kernel
theorem d_La_law_687 : decode code 687 = .ok (.iload 5, 2) := by decide +kernel
theorem d_La_law_689 : decode code 689 = .ok (.if_icmp .eq 5, 3) := by decide +kernel
theorem d_La_law_692 : decode code 692 = .ok (.iconst 0, 1) := by decide +kernel
theorem d_La_law_693 : decode code 693 = .ok (.ireturn, 1) := by decide +kernel
theorem d_La_law_694 : decode code 694 = .ok (.iload 5, 2) := by decide +kernel
theorem d_La_law_696 : decode code 696 = .ok (.ifCond .ne 22, 3) := by decide +kernel
theorem d_La_law_699 : decode code 699 = .ok (.aload_n 3, 1) := by decide +kernel
theorem d_La_law_700 : decode code 700 = .ok (.iconst 0, 1) := by decide +kernel
theorem d_La_law_701 : decode code 701 = .ok (.laload, 1) := by decide +kernel
theorem d_La_law_702 : decode code 702 = .ok (.iload 6, 2) := by decide +kernel
theorem d_La_law_704 : decode code 704 = .ok (.ifCond .eq 7, 3) := by decide +kernel
theorem d_La_law_707 : decode code 707 = .ok (.lconst 1, 1) := by decide +kernel
theorem d_La_law_708 : decode code 708 = .ok (.goto 4, 3) := by decide +kernel
theorem d_La_law_711 : decode code 711 = .ok (.lconst 0, 1) := by decide +kernel
theorem d_La_law_712 : decode code 712 = .ok (.lcmp, 1) := by decide +kernel
theorem d_La_law_713 : decode code 713 = .ok (.ifCond .eq 5, 3) := by decide +kernel
theorem d_La_law_716 : decode code 716 = .ok (.iconst 0, 1) := by decide +kernel
theorem d_La_law_717 : decode code 717 = .ok (.ireturn, 1) := by decide +kernel
theorem d_La_law_718 : decode code 718 = .ok (.goto 126, 3) := by decide +kernel
theorem d_La_law_721 : decode code 721 = .ok (.aload_n 1, 1) := by decide +kernel
theorem d_La_law_722 : decode code 722 = .ok (.aload_n 0, 1) := by decide +kernel
theorem d_La_law_723 : decode code 723 = .ok (.iload 4, 2) := by decide +kernel
theorem d_La_law_725 : decode code 725 = .ok (.iconst 1, 1) := by decide +kernel
theorem d_La_law_726 : decode code 726 = .ok (.iadd, 1) := by decide +kernel
theorem d_La_law_727 : decode code 727 = .ok (.iaload, 1) := by decide +kernel
theorem d_La_law_728 : decode code 728 = .ok (.aload_n 3, 1) := by decide +kernel
theorem d_La_law_729 : decode code 729 = .ok (.invokestatic 102, 3) := by decide +kernel
theorem d_La_law_732 : decode code 732 = .ok (.istore 5, 2) := by decide +kernel
theorem d_La_law_734 : decode code 734 = .ok (.aload_n 2, 1) := by decide +kernel
theorem d_La_law_735 : decode code 735 = .ok (.aload_n 0, 1) := by decide +kernel
theorem d_La_law_736 : decode code 736 = .ok (.iload 4, 2) := by decide +kernel
theorem d_La_law_738 : decode code 738 = .ok (.iconst 1, 1) := by decide +kernel
theorem d_La_law_739 : decode code 739 = .ok (.iadd, 1) := by decide +kernel
theorem d_La_law_740 : decode code 740 = .ok (.iaload, 1) := by decide +kernel
theorem d_La_law_741 : decode code 741 = .ok (.invokevirtual 104, 3) := by decide +kernel
theorem d_La_law_744 : decode code 744 = .ok (.lstore 6, 2) := by decide +kernel
theorem d_La_law_746 : decode code 746 = .ok (.aload_n 2, 1) := by decide +kernel
theorem d_La_law_747 : decode code 747 = .ok (.invokevirtual 64, 3) := by decide +kernel
theorem d_La_law_750 : decode code 750 = .ok (.iload 5, 2) := by decide +kernel
theorem d_La_law_752 : decode code 752 = .ok (.if_icmp .eq 5, 3) := by decide +kernel
theorem d_La_law_755 : decode code 755 = .ok (.iconst 0, 1) := by decide +kernel
theorem d_La_law_756 : decode code 756 = .ok (.ireturn, 1) := by decide +kernel
theorem d_La_law_757 : decode code 757 = .ok (.iload 5, 2) := by decide +kernel
theorem d_La_law_759 : decode code 759 = .ok (.ifCond .ne 14, 3) := by decide +kernel
theorem d_La_law_762 : decode code 762 = .ok (.aload_n 3, 1) := by decide +kernel
theorem d_La_law_763 : decode code 763 = .ok (.iconst 0, 1) := by decide +kernel
theorem d_La_law_764 : decode code 764 = .ok (.laload, 1) := by decide +kernel
theorem d_La_law_765 : decode code 765 = .ok (.lload 6, 2) := by decide +kernel
theorem d_La_law_767 : decode code 767 = .ok (.lcmp, 1) := by decide +kernel
theorem d_La_law_768 : decode code 768 = .ok (.ifCond .eq 5, 3) := by decide +kernel
theorem d_La_law_771 : decode code 771 = .ok (.iconst 0, 1) := by decide +kernel
theorem d_La_law_772 : decode code 772 = .ok (.ireturn, 1) := by decide +kernel
theorem d_La_law_773 : decode code 773 = .ok (.goto 71, 3) := by decide +kernel
theorem d_La_law_776 : decode code 776 = .ok (.aload_n 1, 1) := by decide +kernel
theorem d_La_law_777 : decode code 777 = .ok (.aload_n 0, 1) := by decide +kernel
theorem d_La_law_778 : decode code 778 = .ok (.iload 4, 2) := by decide +kernel
theorem d_La_law_780 : decode code 780 = .ok (.iconst 1, 1) := by decide +kernel
theorem d_La_law_781 : decode code 781 = .ok (.iadd, 1) := by decide +kernel
theorem d_La_law_782 : decode code 782 = .ok (.iaload, 1) := by decide +kernel
theorem d_La_law_783 : decode code 783 = .ok (.aload_n 0, 1) := by decide +kernel
theorem d_La_law_784 : decode code 784 = .ok (.iload 4, 2) := by decide +kernel
theorem d_La_law_786 : decode code 786 = .ok (.iconst 2, 1) := by decide +kernel
theorem d_La_law_787 : decode code 787 = .ok (.iadd, 1) := by decide +kernel
theorem d_La_law_788 : decode code 788 = .ok (.iaload, 1) := by decide +kernel
theorem d_La_law_789 : decode code 789 = .ok (.aload_n 3, 1) := by decide +kernel
theorem d_La_law_790 : decode code 790 = .ok (.invokestatic 105, 3) := by decide +kernel
theorem d_La_law_793 : decode code 793 = .ok (.istore 5, 2) := by decide +kernel
theorem d_La_law_795 : decode code 795 = .ok (.aload_n 2, 1) := by decide +kernel
theorem d_La_law_796 : decode code 796 = .ok (.aload_n 0, 1) := by decide +kernel
theorem d_La_law_797 : decode code 797 = .ok (.iload 4, 2) := by decide +kernel
theorem d_La_law_799 : decode code 799 = .ok (.iconst 1, 1) := by decide +kernel
theorem d_La_law_800 : decode code 800 = .ok (.iadd, 1) := by decide +kernel
theorem d_La_law_801 : decode code 801 = .ok (.iaload, 1) := by decide +kernel
theorem d_La_law_802 : decode code 802 = .ok (.aload_n 0, 1) := by decide +kernel
theorem d_La_law_803 : decode code 803 = .ok (.iload 4, 2) := by decide +kernel
theorem d_La_law_805 : decode code 805 = .ok (.iconst 2, 1) := by decide +kernel
theorem d_La_law_806 : decode code 806 = .ok (.iadd, 1) := by decide +kernel
theorem d_La_law_807 : decode code 807 = .ok (.iaload, 1) := by decide +kernel
theorem d_La_law_808 : decode code 808 = .ok (.invokevirtual 107, 3) := by decide +kernel
theorem d_La_law_811 : decode code 811 = .ok (.istore 6, 2) := by decide +kernel
theorem d_La_law_813 : decode code 813 = .ok (.aload_n 2, 1) := by decide +kernel
theorem d_La_law_814 : decode code 814 = .ok (.invokevirtual 64, 3) := by decide +kernel
theorem d_La_law_817 : decode code 817 = .ok (.iload 5, 2) := by decide +kernel
theorem d_La_law_819 : decode code 819 = .ok (.if_icmp .eq 5, 3) := by decide +kernel
theorem d_La_law_822 : decode code 822 = .ok (.iconst 0, 1) := by decide +kernel
theorem d_La_law_823 : decode code 823 = .ok (.ireturn, 1) := by decide +kernel
theorem d_La_law_824 : decode code 824 = .ok (.iload 5, 2) := by decide +kernel
theorem d_La_law_826 : decode code 826 = .ok (.ifCond .ne 15, 3) := by decide +kernel
theorem d_La_law_829 : decode code 829 = .ok (.aload_n 3, 1) := by decide +kernel
theorem d_La_law_830 : decode code 830 = .ok (.iconst 0, 1) := by decide +kernel
theorem d_La_law_831 : decode code 831 = .ok (.laload, 1) := by decide +kernel
theorem d_La_law_832 : decode code 832 = .ok (.iload 6, 2) := by decide +kernel
theorem d_La_law_834 : decode code 834 = .ok (.i2l, 1) := by decide +kernel
theorem d_La_law_835 : decode code 835 = .ok (.lcmp, 1) := by decide +kernel
theorem d_La_law_836 : decode code 836 = .ok (.ifCond .eq 5, 3) := by decide +kernel
theorem d_La_law_839 : decode code 839 = .ok (.iconst 0, 1) := by decide +kernel
theorem d_La_law_840 : decode code 840 = .ok (.ireturn, 1) := by decide +kernel
theorem d_La_law_841 : decode code 841 = .ok (.goto 3, 3) := by decide +kernel
theorem d_La_law_844 : decode code 844 = .ok (.iinc 4 5, 3) := by decide +kernel
theorem d_La_law_847 : decode code 847 = .ok (.goto (-824), 3) := by decide +kernel
theorem d_La_law_850 : decode code 850 = .ok (.iconst 1, 1) := by decide +kernel
theorem d_La_law_851 : decode code 851 = .ok (.ireturn, 1) := by decide +kernel
