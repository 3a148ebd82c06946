theorem d_Path_init_0 : decode b_Path_init 0 = .ok (.aload_n 0, 1) := by decide +kernel
theorem d_Path_init_1 : decode b_Path_init 1 = .ok (.invokespecial 3, 3) := by decide +kernel
theorem d_Path_init_4 : decode b_Path_init 4 = .ok (.aload_n 0, 1) := by decide +kernel
theorem d_Path_init_5 : decode b_Path_init 5 = .ok (.bipush 16, 2) := by decide +kernel
theorem d_Path_init_7 : decode b_Path_init 7 = .ok (.newarray .int, 2) := by decide +kernel
theorem d_Path_init_9 : decode b_Path_init 9 = .ok (.putfield 9, 3) := by decide +kernel
theorem d_Path_init_12 : decode b_Path_init 12 = .ok (.aload_n 0, 1) := by decide +kernel
theorem d_Path_init_13 : decode b_Path_init 13 = .ok (.bipush 16, 2) := by decide +kernel
theorem d_Path_init_15 : decode b_Path_init 15 = .ok (.newarray .int, 2) := by decide +kernel
theorem d_Path_init_17 : decode b_Path_init 17 = .ok (.putfield 15, 3) := by decide +kernel
theorem d_Path_init_20 : decode b_Path_init 20 = .ok (.aload_n 0, 1) := by decide +kernel
theorem d_Path_init_21 : decode b_Path_init 21 = .ok (.bipush 64, 2) := by decide +kernel
theorem d_Path_init_23 : decode b_Path_init 23 = .ok (.newarray .int, 2) := by decide +kernel
theorem d_Path_init_25 : decode b_Path_init 25 = .ok (.putfield 18, 3) := by decide +kernel
theorem d_Path_init_28 : decode b_Path_init 28 = .ok (.aload_n 0, 1) := by decide +kernel
theorem d_Path_init_29 : decode b_Path_init 29 = .ok (.bipush 64, 2) := by decide +kernel
theorem d_Path_init_31 : decode b_Path_init 31 = .ok (.newarray .boolean, 2) := by decide +kernel
theorem d_Path_init_33 : decode b_Path_init 33 = .ok (.putfield 21, 3) := by decide +kernel
theorem d_Path_init_36 : decode b_Path_init 36 = .ok (.return_, 1) := by decide +kernel
theorem d_Path_begin_0 : decode b_Path_begin 0 = .ok (.aload_n 0, 1) := by decide +kernel
theorem d_Path_begin_1 : decode b_Path_begin 1 = .ok (.getfield 25, 3) := by decide +kernel
theorem d_Path_begin_4 : decode b_Path_begin 4 = .ok (.bipush 64, 2) := by decide +kernel
theorem d_Path_begin_6 : decode b_Path_begin 6 = .ok (.if_icmp .lt 4, 3) := by decide +kernel
theorem d_Path_begin_9 : decode b_Path_begin 9 = .ok (.return_, 1) := by decide +kernel
theorem d_Path_begin_10 : decode b_Path_begin 10 = .ok (.aload_n 0, 1) := by decide +kernel
theorem d_Path_begin_11 : decode b_Path_begin 11 = .ok (.getfield 18, 3) := by decide +kernel
theorem d_Path_begin_14 : decode b_Path_begin 14 = .ok (.aload_n 0, 1) := by decide +kernel
theorem d_Path_begin_15 : decode b_Path_begin 15 = .ok (.getfield 25, 3) := by decide +kernel
theorem d_Path_begin_18 : decode b_Path_begin 18 = .ok (.aload_n 0, 1) := by decide +kernel
theorem d_Path_begin_19 : decode b_Path_begin 19 = .ok (.getfield 29, 3) := by decide +kernel
theorem d_Path_begin_22 : decode b_Path_begin 22 = .ok (.iastore, 1) := by decide +kernel
theorem d_Path_begin_23 : decode b_Path_begin 23 = .ok (.aload_n 0, 1) := by decide +kernel
theorem d_Path_begin_24 : decode b_Path_begin 24 = .ok (.getfield 21, 3) := by decide +kernel
theorem d_Path_begin_27 : decode b_Path_begin 27 = .ok (.aload_n 0, 1) := by decide +kernel
theorem d_Path_begin_28 : decode b_Path_begin 28 = .ok (.getfield 25, 3) := by decide +kernel
theorem d_Path_begin_31 : decode b_Path_begin 31 = .ok (.iconst 0, 1) := by decide +kernel
theorem d_Path_begin_32 : decode b_Path_begin 32 = .ok (.bastore, 1) := by decide +kernel
theorem d_Path_begin_33 : decode b_Path_begin 33 = .ok (.aload_n 0, 1) := by decide +kernel
theorem d_Path_begin_34 : decode b_Path_begin 34 = .ok (.dup, 1) := by decide +kernel
theorem d_Path_begin_35 : decode b_Path_begin 35 = .ok (.getfield 25, 3) := by decide +kernel
theorem d_Path_begin_38 : decode b_Path_begin 38 = .ok (.iconst 1, 1) := by decide +kernel
theorem d_Path_begin_39 : decode b_Path_begin 39 = .ok (.iadd, 1) := by decide +kernel
theorem d_Path_begin_40 : decode b_Path_begin 40 = .ok (.putfield 25, 3) := by decide +kernel
theorem d_Path_begin_43 : decode b_Path_begin 43 = .ok (.aload_n 0, 1) := by decide +kernel
theorem d_Path_begin_44 : decode b_Path_begin 44 = .ok (.iload_n 1, 1) := by decide +kernel
theorem d_Path_begin_45 : decode b_Path_begin 45 = .ok (.iload_n 2, 1) := by decide +kernel
theorem d_Path_begin_46 : decode b_Path_begin 46 = .ok (.invokevirtual 32, 3) := by decide +kernel
theorem d_Path_begin_49 : decode b_Path_begin 49 = .ok (.return_, 1) := by decide +kernel
theorem d_Path_put_0 : decode b_Path_put 0 = .ok (.aload_n 0, 1) := by decide +kernel
theorem d_Path_put_1 : decode b_Path_put 1 = .ok (.getfield 29, 3) := by decide +kernel
theorem d_Path_put_4 : decode b_Path_put 4 = .ok (.sipush 1024, 3) := by decide +kernel
theorem d_Path_put_7 : decode b_Path_put 7 = .ok (.if_icmp .lt 4, 3) := by decide +kernel
theorem d_Path_put_10 : decode b_Path_put 10 = .ok (.return_, 1) := by decide +kernel
theorem d_Path_put_11 : decode b_Path_put 11 = .ok (.aload_n 0, 1) := by decide +kernel
theorem d_Path_put_12 : decode b_Path_put 12 = .ok (.getfield 29, 3) := by decide +kernel
theorem d_Path_put_15 : decode b_Path_put 15 = .ok (.aload_n 0, 1) := by decide +kernel
theorem d_Path_put_16 : decode b_Path_put 16 = .ok (.getfield 9, 3) := by decide +kernel
theorem d_Path_put_19 : decode b_Path_put 19 = .ok (.arraylength, 1) := by decide +kernel
theorem d_Path_put_20 : decode b_Path_put 20 = .ok (.if_icmp .lt 41, 3) := by decide +kernel
theorem d_Path_put_23 : decode b_Path_put 23 = .ok (.sipush 1024, 3) := by decide +kernel
theorem d_Path_put_26 : decode b_Path_put 26 = .ok (.iconst 2, 1) := by decide +kernel
theorem d_Path_put_27 : decode b_Path_put 27 = .ok (.aload_n 0, 1) := by decide +kernel
theorem d_Path_put_28 : decode b_Path_put 28 = .ok (.getfield 9, 3) := by decide +kernel
theorem d_Path_put_31 : decode b_Path_put 31 = .ok (.arraylength, 1) := by decide +kernel
theorem d_Path_put_32 : decode b_Path_put 32 = .ok (.imul, 1) := by decide +kernel
theorem d_Path_put_33 : decode b_Path_put 33 = .ok (.invokestatic 36, 3) := by decide +kernel
theorem d_Path_put_36 : decode b_Path_put 36 = .ok (.istore_n 3, 1) := by decide +kernel
theorem d_Path_put_37 : decode b_Path_put 37 = .ok (.aload_n 0, 1) := by decide +kernel
theorem d_Path_put_38 : decode b_Path_put 38 = .ok (.aload_n 0, 1) := by decide +kernel
theorem d_Path_put_39 : decode b_Path_put 39 = .ok (.getfield 9, 3) := by decide +kernel
theorem d_Path_put_42 : decode b_Path_put 42 = .ok (.iload_n 3, 1) := by decide +kernel
theorem d_Path_put_43 : decode b_Path_put 43 = .ok (.invokestatic 42, 3) := by decide +kernel
theorem d_Path_put_46 : decode b_Path_put 46 = .ok (.putfield 9, 3) := by decide +kernel
theorem d_Path_put_49 : decode b_Path_put 49 = .ok (.aload_n 0, 1) := by decide +kernel
theorem d_Path_put_50 : decode b_Path_put 50 = .ok (.aload_n 0, 1) := by decide +kernel
theorem d_Path_put_51 : decode b_Path_put 51 = .ok (.getfield 15, 3) := by decide +kernel
theorem d_Path_put_54 : decode b_Path_put 54 = .ok (.iload_n 3, 1) := by decide +kernel
theorem d_Path_put_55 : decode b_Path_put 55 = .ok (.invokestatic 42, 3) := by decide +kernel
theorem d_Path_put_58 : decode b_Path_put 58 = .ok (.putfield 15, 3) := by decide +kernel
theorem d_Path_put_61 : decode b_Path_put 61 = .ok (.aload_n 0, 1) := by decide +kernel
theorem d_Path_put_62 : decode b_Path_put 62 = .ok (.getfield 9, 3) := by decide +kernel
theorem d_Path_put_65 : decode b_Path_put 65 = .ok (.aload_n 0, 1) := by decide +kernel
theorem d_Path_put_66 : decode b_Path_put 66 = .ok (.getfield 29, 3) := by decide +kernel
theorem d_Path_put_69 : decode b_Path_put 69 = .ok (.iload_n 1, 1) := by decide +kernel
theorem d_Path_put_70 : decode b_Path_put 70 = .ok (.iastore, 1) := by decide +kernel
theorem d_Path_put_71 : decode b_Path_put 71 = .ok (.aload_n 0, 1) := by decide +kernel
theorem d_Path_put_72 : decode b_Path_put 72 = .ok (.getfield 15, 3) := by decide +kernel
theorem d_Path_put_75 : decode b_Path_put 75 = .ok (.aload_n 0, 1) := by decide +kernel
theorem d_Path_put_76 : decode b_Path_put 76 = .ok (.getfield 29, 3) := by decide +kernel
theorem d_Path_put_79 : decode b_Path_put 79 = .ok (.iload_n 2, 1) := by decide +kernel
theorem d_Path_put_80 : decode b_Path_put 80 = .ok (.iastore, 1) := by decide +kernel
theorem d_Path_put_81 : decode b_Path_put 81 = .ok (.aload_n 0, 1) := by decide +kernel
theorem d_Path_put_82 : decode b_Path_put 82 = .ok (.dup, 1) := by decide +kernel
theorem d_Path_put_83 : decode b_Path_put 83 = .ok (.getfield 29, 3) := by decide +kernel
theorem d_Path_put_86 : decode b_Path_put 86 = .ok (.iconst 1, 1) := by decide +kernel
theorem d_Path_put_87 : decode b_Path_put 87 = .ok (.iadd, 1) := by decide +kernel
theorem d_Path_put_88 : decode b_Path_put 88 = .ok (.putfield 29, 3) := by decide +kernel
theorem d_Path_put_91 : decode b_Path_put 91 = .ok (.return_, 1) := by decide +kernel
theorem d_Path_bend_0 : decode b_Path_bend 0 = .ok (.aload_n 0, 1) := by decide +kernel
theorem d_Path_bend_1 : decode b_Path_bend 1 = .ok (.getfield 29, 3) := by decide +kernel
theorem d_Path_bend_4 : decode b_Path_bend 4 = .ok (.iconst 1, 1) := by decide +kernel
theorem d_Path_bend_5 : decode b_Path_bend 5 = .ok (.if_icmp .ge 4, 3) := by decide +kernel
theorem d_Path_bend_8 : decode b_Path_bend 8 = .ok (.return_, 1) := by decide +kernel
theorem d_Path_bend_9 : decode b_Path_bend 9 = .ok (.aload_n 0, 1) := by decide +kernel
theorem d_Path_bend_10 : decode b_Path_bend 10 = .ok (.getfield 9, 3) := by decide +kernel
theorem d_Path_bend_13 : decode b_Path_bend 13 = .ok (.aload_n 0, 1) := by decide +kernel
theorem d_Path_bend_14 : decode b_Path_bend 14 = .ok (.getfield 29, 3) := by decide +kernel
theorem d_Path_bend_17 : decode b_Path_bend 17 = .ok (.iconst 1, 1) := by decide +kernel
theorem d_Path_bend_18 : decode b_Path_bend 18 = .ok (.isub, 1) := by decide +kernel
theorem d_Path_bend_19 : decode b_Path_bend 19 = .ok (.iaload, 1) := by decide +kernel
theorem d_Path_bend_20 : decode b_Path_bend 20 = .ok (.istore 7, 2) := by decide +kernel
theorem d_Path_bend_22 : decode b_Path_bend 22 = .ok (.aload_n 0, 1) := by decide +kernel
theorem d_Path_bend_23 : decode b_Path_bend 23 = .ok (.getfield 15, 3) := by decide +kernel
theorem d_Path_bend_26 : decode b_Path_bend 26 = .ok (.aload_n 0, 1) := by decide +kernel
theorem d_Path_bend_27 : decode b_Path_bend 27 = .ok (.getfield 29, 3) := by decide +kernel
theorem d_Path_bend_30 : decode b_Path_bend 30 = .ok (.iconst 1, 1) := by decide +kernel
theorem d_Path_bend_31 : decode b_Path_bend 31 = .ok (.isub, 1) := by decide +kernel
theorem d_Path_bend_32 : decode b_Path_bend 32 = .ok (.iaload, 1) := by decide +kernel
theorem d_Path_bend_33 : decode b_Path_bend 33 = .ok (.istore 8, 2) := by decide +kernel
theorem d_Path_bend_35 : decode b_Path_bend 35 = .ok (.iconst 1, 1) := by decide +kernel
theorem d_Path_bend_36 : decode b_Path_bend 36 = .ok (.istore 9, 2) := by decide +kernel
theorem d_Path_bend_38 : decode b_Path_bend 38 = .ok (.iload 9, 2) := by decide +kernel
theorem d_Path_bend_40 : decode b_Path_bend 40 = .ok (.bipush 16, 2) := by decide +kernel
theorem d_Path_bend_42 : decode b_Path_bend 42 = .ok (.if_icmp .gt 36, 3) := by decide +kernel
theorem d_Path_bend_45 : decode b_Path_bend 45 = .ok (.aload_n 0, 1) := by decide +kernel
theorem d_Path_bend_46 : decode b_Path_bend 46 = .ok (.iload 7, 2) := by decide +kernel
theorem d_Path_bend_48 : decode b_Path_bend 48 = .ok (.iload_n 1, 1) := by decide +kernel
theorem d_Path_bend_49 : decode b_Path_bend 49 = .ok (.iload_n 3, 1) := by decide +kernel
theorem d_Path_bend_50 : decode b_Path_bend 50 = .ok (.iload 5, 2) := by decide +kernel
theorem d_Path_bend_52 : decode b_Path_bend 52 = .ok (.iload 9, 2) := by decide +kernel
theorem d_Path_bend_54 : decode b_Path_bend 54 = .ok (.invokestatic 48, 3) := by decide +kernel
theorem d_Path_bend_57 : decode b_Path_bend 57 = .ok (.iload 8, 2) := by decide +kernel
theorem d_Path_bend_59 : decode b_Path_bend 59 = .ok (.iload_n 2, 1) := by decide +kernel
theorem d_Path_bend_60 : decode b_Path_bend 60 = .ok (.iload 4, 2) := by decide +kernel
theorem d_Path_bend_62 : decode b_Path_bend 62 = .ok (.iload 6, 2) := by decide +kernel
theorem d_Path_bend_64 : decode b_Path_bend 64 = .ok (.iload 9, 2) := by decide +kernel
theorem d_Path_bend_66 : decode b_Path_bend 66 = .ok (.invokestatic 48, 3) := by decide +kernel
theorem d_Path_bend_69 : decode b_Path_bend 69 = .ok (.invokevirtual 32, 3) := by decide +kernel
theorem d_Path_bend_72 : decode b_Path_bend 72 = .ok (.iinc 9 1, 3) := by decide +kernel
theorem d_Path_bend_75 : decode b_Path_bend 75 = .ok (.goto (-37), 3) := by decide +kernel
theorem d_Path_bend_78 : decode b_Path_bend 78 = .ok (.return_, 1) := by decide +kernel
theorem d_Path_between_0 : decode b_Path_between 0 = .ok (.bipush 16, 2) := by decide +kernel
theorem d_Path_between_2 : decode b_Path_between 2 = .ok (.iload 4, 2) := by decide +kernel
theorem d_Path_between_4 : decode b_Path_between 4 = .ok (.isub, 1) := by decide +kernel
theorem d_Path_between_5 : decode b_Path_between 5 = .ok (.istore 5, 2) := by decide +kernel
theorem d_Path_between_7 : decode b_Path_between 7 = .ok (.iload_n 0, 1) := by decide +kernel
theorem d_Path_between_8 : decode b_Path_between 8 = .ok (.iload 5, 2) := by decide +kernel
theorem d_Path_between_10 : decode b_Path_between 10 = .ok (.imul, 1) := by decide +kernel
theorem d_Path_between_11 : decode b_Path_between 11 = .ok (.iload 5, 2) := by decide +kernel
theorem d_Path_between_13 : decode b_Path_between 13 = .ok (.imul, 1) := by decide +kernel
theorem d_Path_between_14 : decode b_Path_between 14 = .ok (.iload 5, 2) := by decide +kernel
theorem d_Path_between_16 : decode b_Path_between 16 = .ok (.imul, 1) := by decide +kernel
theorem d_Path_between_17 : decode b_Path_between 17 = .ok (.iconst 3, 1) := by decide +kernel
theorem d_Path_between_18 : decode b_Path_between 18 = .ok (.iload_n 1, 1) := by decide +kernel
theorem d_Path_between_19 : decode b_Path_between 19 = .ok (.imul, 1) := by decide +kernel
theorem d_Path_between_20 : decode b_Path_between 20 = .ok (.iload 4, 2) := by decide +kernel
theorem d_Path_between_22 : decode b_Path_between 22 = .ok (.imul, 1) := by decide +kernel
theorem d_Path_between_23 : decode b_Path_between 23 = .ok (.iload 5, 2) := by decide +kernel
theorem d_Path_between_25 : decode b_Path_between 25 = .ok (.imul, 1) := by decide +kernel
theorem d_Path_between_26 : decode b_Path_between 26 = .ok (.iload 5, 2) := by decide +kernel
theorem d_Path_between_28 : decode b_Path_between 28 = .ok (.imul, 1) := by decide +kernel
theorem d_Path_between_29 : decode b_Path_between 29 = .ok (.iadd, 1) := by decide +kernel
theorem d_Path_between_30 : decode b_Path_between 30 = .ok (.iconst 3, 1) := by decide +kernel
theorem d_Path_between_31 : decode b_Path_between 31 = .ok (.iload_n 2, 1) := by decide +kernel
theorem d_Path_between_32 : decode b_Path_between 32 = .ok (.imul, 1) := by decide +kernel
theorem d_Path_between_33 : decode b_Path_between 33 = .ok (.iload 4, 2) := by decide +kernel
theorem d_Path_between_35 : decode b_Path_between 35 = .ok (.imul, 1) := by decide +kernel
theorem d_Path_between_36 : decode b_Path_between 36 = .ok (.iload 4, 2) := by decide +kernel
theorem d_Path_between_38 : decode b_Path_between 38 = .ok (.imul, 1) := by decide +kernel
theorem d_Path_between_39 : decode b_Path_between 39 = .ok (.iload 5, 2) := by decide +kernel
theorem d_Path_between_41 : decode b_Path_between 41 = .ok (.imul, 1) := by decide +kernel
theorem d_Path_between_42 : decode b_Path_between 42 = .ok (.iadd, 1) := by decide +kernel
theorem d_Path_between_43 : decode b_Path_between 43 = .ok (.iload_n 3, 1) := by decide +kernel
theorem d_Path_between_44 : decode b_Path_between 44 = .ok (.iload 4, 2) := by decide +kernel
theorem d_Path_between_46 : decode b_Path_between 46 = .ok (.imul, 1) := by decide +kernel
theorem d_Path_between_47 : decode b_Path_between 47 = .ok (.iload 4, 2) := by decide +kernel
theorem d_Path_between_49 : decode b_Path_between 49 = .ok (.imul, 1) := by decide +kernel
theorem d_Path_between_50 : decode b_Path_between 50 = .ok (.iload 4, 2) := by decide +kernel
theorem d_Path_between_52 : decode b_Path_between 52 = .ok (.imul, 1) := by decide +kernel
theorem d_Path_between_53 : decode b_Path_between 53 = .ok (.iadd, 1) := by decide +kernel
theorem d_Path_between_54 : decode b_Path_between 54 = .ok (.istore 6, 2) := by decide +kernel
theorem d_Path_between_56 : decode b_Path_between 56 = .ok (.iload 6, 2) := by decide +kernel
theorem d_Path_between_58 : decode b_Path_between 58 = .ok (.sipush 2048, 3) := by decide +kernel
theorem d_Path_between_61 : decode b_Path_between 61 = .ok (.iadd, 1) := by decide +kernel
theorem d_Path_between_62 : decode b_Path_between 62 = .ok (.sipush 4096, 3) := by decide +kernel
theorem d_Path_between_65 : decode b_Path_between 65 = .ok (.invokestatic 52, 3) := by decide +kernel
theorem d_Path_between_68 : decode b_Path_between 68 = .ok (.ireturn, 1) := by decide +kernel
theorem d_Path_isOpen_0 : decode b_Path_isOpen 0 = .ok (.aload_n 0, 1) := by decide +kernel
theorem d_Path_isOpen_1 : decode b_Path_isOpen 1 = .ok (.getfield 25, 3) := by decide +kernel
theorem d_Path_isOpen_4 : decode b_Path_isOpen 4 = .ok (.ifCond .le 21, 3) := by decide +kernel
theorem d_Path_isOpen_7 : decode b_Path_isOpen 7 = .ok (.aload_n 0, 1) := by decide +kernel
theorem d_Path_isOpen_8 : decode b_Path_isOpen 8 = .ok (.getfield 21, 3) := by decide +kernel
theorem d_Path_isOpen_11 : decode b_Path_isOpen 11 = .ok (.aload_n 0, 1) := by decide +kernel
theorem d_Path_isOpen_12 : decode b_Path_isOpen 12 = .ok (.getfield 25, 3) := by decide +kernel
theorem d_Path_isOpen_15 : decode b_Path_isOpen 15 = .ok (.iconst 1, 1) := by decide +kernel
theorem d_Path_isOpen_16 : decode b_Path_isOpen 16 = .ok (.isub, 1) := by decide +kernel
theorem d_Path_isOpen_17 : decode b_Path_isOpen 17 = .ok (.baload, 1) := by decide +kernel
theorem d_Path_isOpen_18 : decode b_Path_isOpen 18 = .ok (.ifCond .ne 7, 3) := by decide +kernel
theorem d_Path_isOpen_21 : decode b_Path_isOpen 21 = .ok (.iconst 1, 1) := by decide +kernel
theorem d_Path_isOpen_22 : decode b_Path_isOpen 22 = .ok (.goto 4, 3) := by decide +kernel
theorem d_Path_isOpen_25 : decode b_Path_isOpen 25 = .ok (.iconst 0, 1) := by decide +kernel
theorem d_Path_isOpen_26 : decode b_Path_isOpen 26 = .ok (.ireturn, 1) := by decide +kernel
theorem d_Path_takes_0 : decode b_Path_takes 0 = .ok (.aload_n 0, 1) := by decide +kernel
theorem d_Path_takes_1 : decode b_Path_takes 1 = .ok (.invokevirtual 55, 3) := by decide +kernel
theorem d_Path_takes_4 : decode b_Path_takes 4 = .ok (.ifCond .eq 19, 3) := by decide +kernel
theorem d_Path_takes_7 : decode b_Path_takes 7 = .ok (.aload_n 0, 1) := by decide +kernel
theorem d_Path_takes_8 : decode b_Path_takes 8 = .ok (.getfield 29, 3) := by decide +kernel
theorem d_Path_takes_11 : decode b_Path_takes 11 = .ok (.iload_n 1, 1) := by decide +kernel
theorem d_Path_takes_12 : decode b_Path_takes 12 = .ok (.iadd, 1) := by decide +kernel
theorem d_Path_takes_13 : decode b_Path_takes 13 = .ok (.sipush 1024, 3) := by decide +kernel
theorem d_Path_takes_16 : decode b_Path_takes 16 = .ok (.if_icmp .gt 7, 3) := by decide +kernel
theorem d_Path_takes_19 : decode b_Path_takes 19 = .ok (.iconst 1, 1) := by decide +kernel
theorem d_Path_takes_20 : decode b_Path_takes 20 = .ok (.goto 4, 3) := by decide +kernel
theorem d_Path_takes_23 : decode b_Path_takes 23 = .ok (.iconst 0, 1) := by decide +kernel
theorem d_Path_takes_24 : decode b_Path_takes 24 = .ok (.ireturn, 1) := by decide +kernel
theorem d_Path_shutLast_0 : decode b_Path_shutLast 0 = .ok (.aload_n 0, 1) := by decide +kernel
theorem d_Path_shutLast_1 : decode b_Path_shutLast 1 = .ok (.invokevirtual 55, 3) := by decide +kernel
theorem d_Path_shutLast_4 : decode b_Path_shutLast 4 = .ok (.ifCond .eq 25, 3) := by decide +kernel
theorem d_Path_shutLast_7 : decode b_Path_shutLast 7 = .ok (.aload_n 0, 1) := by decide +kernel
theorem d_Path_shutLast_8 : decode b_Path_shutLast 8 = .ok (.getfield 21, 3) := by decide +kernel
theorem d_Path_shutLast_11 : decode b_Path_shutLast 11 = .ok (.aload_n 0, 1) := by decide +kernel
theorem d_Path_shutLast_12 : decode b_Path_shutLast 12 = .ok (.getfield 25, 3) := by decide +kernel
theorem d_Path_shutLast_15 : decode b_Path_shutLast 15 = .ok (.iconst 1, 1) := by decide +kernel
theorem d_Path_shutLast_16 : decode b_Path_shutLast 16 = .ok (.isub, 1) := by decide +kernel
theorem d_Path_shutLast_17 : decode b_Path_shutLast 17 = .ok (.iconst 1, 1) := by decide +kernel
theorem d_Path_shutLast_18 : decode b_Path_shutLast 18 = .ok (.bastore, 1) := by decide +kernel
theorem d_Path_shutLast_19 : decode b_Path_shutLast 19 = .ok (.aload_n 0, 1) := by decide +kernel
theorem d_Path_shutLast_20 : decode b_Path_shutLast 20 = .ok (.dup, 1) := by decide +kernel
theorem d_Path_shutLast_21 : decode b_Path_shutLast 21 = .ok (.getfield 59, 3) := by decide +kernel
theorem d_Path_shutLast_24 : decode b_Path_shutLast 24 = .ok (.iconst 1, 1) := by decide +kernel
theorem d_Path_shutLast_25 : decode b_Path_shutLast 25 = .ok (.iadd, 1) := by decide +kernel
theorem d_Path_shutLast_26 : decode b_Path_shutLast 26 = .ok (.putfield 59, 3) := by decide +kernel
theorem d_Path_shutLast_29 : decode b_Path_shutLast 29 = .ok (.return_, 1) := by decide +kernel
theorem d_Path_drop_0 : decode b_Path_drop 0 = .ok (.aload_n 0, 1) := by decide +kernel
theorem d_Path_drop_1 : decode b_Path_drop 1 = .ok (.iconst 0, 1) := by decide +kernel
theorem d_Path_drop_2 : decode b_Path_drop 2 = .ok (.putfield 29, 3) := by decide +kernel
theorem d_Path_drop_5 : decode b_Path_drop 5 = .ok (.aload_n 0, 1) := by decide +kernel
theorem d_Path_drop_6 : decode b_Path_drop 6 = .ok (.iconst 0, 1) := by decide +kernel
theorem d_Path_drop_7 : decode b_Path_drop 7 = .ok (.putfield 25, 3) := by decide +kernel
theorem d_Path_drop_10 : decode b_Path_drop 10 = .ok (.aload_n 0, 1) := by decide +kernel
theorem d_Path_drop_11 : decode b_Path_drop 11 = .ok (.iconst 0, 1) := by decide +kernel
theorem d_Path_drop_12 : decode b_Path_drop 12 = .ok (.putfield 59, 3) := by decide +kernel
theorem d_Path_drop_15 : decode b_Path_drop 15 = .ok (.return_, 1) := by decide +kernel
theorem d_Path_behind_0 : decode b_Path_behind 0 = .ok (.iload_n 1, 1) := by decide +kernel
theorem d_Path_behind_1 : decode b_Path_behind 1 = .ok (.iconst 1, 1) := by decide +kernel
theorem d_Path_behind_2 : decode b_Path_behind 2 = .ok (.iadd, 1) := by decide +kernel
theorem d_Path_behind_3 : decode b_Path_behind 3 = .ok (.aload_n 0, 1) := by decide +kernel
theorem d_Path_behind_4 : decode b_Path_behind 4 = .ok (.getfield 25, 3) := by decide +kernel
theorem d_Path_behind_7 : decode b_Path_behind 7 = .ok (.if_icmp .ge 14, 3) := by decide +kernel
theorem d_Path_behind_10 : decode b_Path_behind 10 = .ok (.aload_n 0, 1) := by decide +kernel
theorem d_Path_behind_11 : decode b_Path_behind 11 = .ok (.getfield 18, 3) := by decide +kernel
theorem d_Path_behind_14 : decode b_Path_behind 14 = .ok (.iload_n 1, 1) := by decide +kernel
theorem d_Path_behind_15 : decode b_Path_behind 15 = .ok (.iconst 1, 1) := by decide +kernel
theorem d_Path_behind_16 : decode b_Path_behind 16 = .ok (.iadd, 1) := by decide +kernel
theorem d_Path_behind_17 : decode b_Path_behind 17 = .ok (.iaload, 1) := by decide +kernel
theorem d_Path_behind_18 : decode b_Path_behind 18 = .ok (.goto 7, 3) := by decide +kernel
theorem d_Path_behind_21 : decode b_Path_behind 21 = .ok (.aload_n 0, 1) := by decide +kernel
theorem d_Path_behind_22 : decode b_Path_behind 22 = .ok (.getfield 29, 3) := by decide +kernel
theorem d_Path_behind_25 : decode b_Path_behind 25 = .ok (.ireturn, 1) := by decide +kernel
theorem d_Pen_init_0 : decode b_Pen_init 0 = .ok (.aload_n 0, 1) := by decide +kernel
theorem d_Pen_init_1 : decode b_Pen_init 1 = .ok (.invokespecial 3, 3) := by decide +kernel
theorem d_Pen_init_4 : decode b_Pen_init 4 = .ok (.aload_n 0, 1) := by decide +kernel
theorem d_Pen_init_5 : decode b_Pen_init 5 = .ok (.sipush 512, 3) := by decide +kernel
theorem d_Pen_init_8 : decode b_Pen_init 8 = .ok (.putfield 9, 3) := by decide +kernel
theorem d_Pen_init_11 : decode b_Pen_init 11 = .ok (.aload_n 0, 1) := by decide +kernel
theorem d_Pen_init_12 : decode b_Pen_init 12 = .ok (.sipush 640, 3) := by decide +kernel
theorem d_Pen_init_15 : decode b_Pen_init 15 = .ok (.putfield 15, 3) := by decide +kernel
theorem d_Pen_init_18 : decode b_Pen_init 18 = .ok (.aload_n 0, 1) := by decide +kernel
theorem d_Pen_init_19 : decode b_Pen_init 19 = .ok (.bipush 8, 2) := by decide +kernel
theorem d_Pen_init_21 : decode b_Pen_init 21 = .ok (.newarray .int, 2) := by decide +kernel
theorem d_Pen_init_23 : decode b_Pen_init 23 = .ok (.putfield 18, 3) := by decide +kernel
theorem d_Pen_init_26 : decode b_Pen_init 26 = .ok (.return_, 1) := by decide +kernel
theorem d_Pen_shape_0 : decode b_Pen_shape 0 = .ok (.aload_n 0, 1) := by decide +kernel
theorem d_Pen_shape_1 : decode b_Pen_shape 1 = .ok (.bipush 8, 2) := by decide +kernel
theorem d_Pen_shape_3 : decode b_Pen_shape 3 = .ok (.iload_n 1, 1) := by decide +kernel
theorem d_Pen_shape_4 : decode b_Pen_shape 4 = .ok (.imul, 1) := by decide +kernel
theorem d_Pen_shape_5 : decode b_Pen_shape 5 = .ok (.putfield 9, 3) := by decide +kernel
theorem d_Pen_shape_8 : decode b_Pen_shape 8 = .ok (.aload_n 0, 1) := by decide +kernel
theorem d_Pen_shape_9 : decode b_Pen_shape 9 = .ok (.iload_n 2, 1) := by decide +kernel
theorem d_Pen_shape_10 : decode b_Pen_shape 10 = .ok (.putfield 22, 3) := by decide +kernel
theorem d_Pen_shape_13 : decode b_Pen_shape 13 = .ok (.aload_n 0, 1) := by decide +kernel
theorem d_Pen_shape_14 : decode b_Pen_shape 14 = .ok (.iload_n 3, 1) := by decide +kernel
theorem d_Pen_shape_15 : decode b_Pen_shape 15 = .ok (.putfield 25, 3) := by decide +kernel
theorem d_Pen_shape_18 : decode b_Pen_shape 18 = .ok (.aload_n 0, 1) := by decide +kernel
theorem d_Pen_shape_19 : decode b_Pen_shape 19 = .ok (.iload 4, 2) := by decide +kernel
theorem d_Pen_shape_21 : decode b_Pen_shape 21 = .ok (.putfield 15, 3) := by decide +kernel
theorem d_Pen_shape_24 : decode b_Pen_shape 24 = .ok (.return_, 1) := by decide +kernel
theorem d_Pen_addDash_0 : decode b_Pen_addDash 0 = .ok (.aload_n 0, 1) := by decide +kernel
theorem d_Pen_addDash_1 : decode b_Pen_addDash 1 = .ok (.getfield 28, 3) := by decide +kernel
theorem d_Pen_addDash_4 : decode b_Pen_addDash 4 = .ok (.bipush 8, 2) := by decide +kernel
theorem d_Pen_addDash_6 : decode b_Pen_addDash 6 = .ok (.if_icmp .ge 33, 3) := by decide +kernel
theorem d_Pen_addDash_9 : decode b_Pen_addDash 9 = .ok (.aload_n 0, 1) := by decide +kernel
theorem d_Pen_addDash_10 : decode b_Pen_addDash 10 = .ok (.getfield 18, 3) := by decide +kernel
theorem d_Pen_addDash_13 : decode b_Pen_addDash 13 = .ok (.aload_n 0, 1) := by decide +kernel
theorem d_Pen_addDash_14 : decode b_Pen_addDash 14 = .ok (.getfield 28, 3) := by decide +kernel
theorem d_Pen_addDash_17 : decode b_Pen_addDash 17 = .ok (.iload_n 1, 1) := by decide +kernel
theorem d_Pen_addDash_18 : decode b_Pen_addDash 18 = .ok (.iastore, 1) := by decide +kernel
theorem d_Pen_addDash_19 : decode b_Pen_addDash 19 = .ok (.aload_n 0, 1) := by decide +kernel
theorem d_Pen_addDash_20 : decode b_Pen_addDash 20 = .ok (.dup, 1) := by decide +kernel
theorem d_Pen_addDash_21 : decode b_Pen_addDash 21 = .ok (.getfield 28, 3) := by decide +kernel
theorem d_Pen_addDash_24 : decode b_Pen_addDash 24 = .ok (.iconst 1, 1) := by decide +kernel
theorem d_Pen_addDash_25 : decode b_Pen_addDash 25 = .ok (.iadd, 1) := by decide +kernel
theorem d_Pen_addDash_26 : decode b_Pen_addDash 26 = .ok (.putfield 28, 3) := by decide +kernel
theorem d_Pen_addDash_29 : decode b_Pen_addDash 29 = .ok (.aload_n 0, 1) := by decide +kernel
theorem d_Pen_addDash_30 : decode b_Pen_addDash 30 = .ok (.dup, 1) := by decide +kernel
theorem d_Pen_addDash_31 : decode b_Pen_addDash 31 = .ok (.getfield 31, 3) := by decide +kernel
theorem d_Pen_addDash_34 : decode b_Pen_addDash 34 = .ok (.iload_n 1, 1) := by decide +kernel
theorem d_Pen_addDash_35 : decode b_Pen_addDash 35 = .ok (.iadd, 1) := by decide +kernel
theorem d_Pen_addDash_36 : decode b_Pen_addDash 36 = .ok (.putfield 31, 3) := by decide +kernel
theorem d_Pen_addDash_39 : decode b_Pen_addDash 39 = .ok (.return_, 1) := by decide +kernel
theorem d_Pen_dropDashes_0 : decode b_Pen_dropDashes 0 = .ok (.aload_n 0, 1) := by decide +kernel
theorem d_Pen_dropDashes_1 : decode b_Pen_dropDashes 1 = .ok (.iload_n 1, 1) := by decide +kernel
theorem d_Pen_dropDashes_2 : decode b_Pen_dropDashes 2 = .ok (.putfield 34, 3) := by decide +kernel
theorem d_Pen_dropDashes_5 : decode b_Pen_dropDashes 5 = .ok (.aload_n 0, 1) := by decide +kernel
theorem d_Pen_dropDashes_6 : decode b_Pen_dropDashes 6 = .ok (.iconst 0, 1) := by decide +kernel
theorem d_Pen_dropDashes_7 : decode b_Pen_dropDashes 7 = .ok (.putfield 28, 3) := by decide +kernel
theorem d_Pen_dropDashes_10 : decode b_Pen_dropDashes 10 = .ok (.aload_n 0, 1) := by decide +kernel
theorem d_Pen_dropDashes_11 : decode b_Pen_dropDashes 11 = .ok (.iconst 0, 1) := by decide +kernel
theorem d_Pen_dropDashes_12 : decode b_Pen_dropDashes 12 = .ok (.putfield 31, 3) := by decide +kernel
theorem d_Pen_dropDashes_15 : decode b_Pen_dropDashes 15 = .ok (.return_, 1) := by decide +kernel
theorem d_Pen_isDashed_0 : decode b_Pen_isDashed 0 = .ok (.aload_n 0, 1) := by decide +kernel
theorem d_Pen_isDashed_1 : decode b_Pen_isDashed 1 = .ok (.getfield 31, 3) := by decide +kernel
theorem d_Pen_isDashed_4 : decode b_Pen_isDashed 4 = .ok (.ifCond .le 7, 3) := by decide +kernel
theorem d_Pen_isDashed_7 : decode b_Pen_isDashed 7 = .ok (.iconst 1, 1) := by decide +kernel
theorem d_Pen_isDashed_8 : decode b_Pen_isDashed 8 = .ok (.goto 4, 3) := by decide +kernel
theorem d_Pen_isDashed_11 : decode b_Pen_isDashed 11 = .ok (.iconst 0, 1) := by decide +kernel
theorem d_Pen_isDashed_12 : decode b_Pen_isDashed 12 = .ok (.ireturn, 1) := by decide +kernel
theorem d_Pieces_init_0 : decode b_Pieces_init 0 = .ok (.aload_n 0, 1) := by decide +kernel
theorem d_Pieces_init_1 : decode b_Pieces_init 1 = .ok (.invokespecial 3, 3) := by decide +kernel
theorem d_Pieces_init_4 : decode b_Pieces_init 4 = .ok (.aload_n 0, 1) := by decide +kernel
theorem d_Pieces_init_5 : decode b_Pieces_init 5 = .ok (.bipush 16, 2) := by decide +kernel
theorem d_Pieces_init_7 : decode b_Pieces_init 7 = .ok (.newarray .int, 2) := by decide +kernel
theorem d_Pieces_init_9 : decode b_Pieces_init 9 = .ok (.putfield 9, 3) := by decide +kernel
theorem d_Pieces_init_12 : decode b_Pieces_init 12 = .ok (.aload_n 0, 1) := by decide +kernel
theorem d_Pieces_init_13 : decode b_Pieces_init 13 = .ok (.bipush 16, 2) := by decide +kernel
theorem d_Pieces_init_15 : decode b_Pieces_init 15 = .ok (.newarray .int, 2) := by decide +kernel
theorem d_Pieces_init_17 : decode b_Pieces_init 17 = .ok (.putfield 15, 3) := by decide +kernel
theorem d_Pieces_init_20 : decode b_Pieces_init 20 = .ok (.aload_n 0, 1) := by decide +kernel
theorem d_Pieces_init_21 : decode b_Pieces_init 21 = .ok (.bipush 16, 2) := by decide +kernel
theorem d_Pieces_init_23 : decode b_Pieces_init 23 = .ok (.newarray .int, 2) := by decide +kernel
theorem d_Pieces_init_25 : decode b_Pieces_init 25 = .ok (.putfield 18, 3) := by decide +kernel
theorem d_Pieces_init_28 : decode b_Pieces_init 28 = .ok (.aload_n 0, 1) := by decide +kernel
theorem d_Pieces_init_29 : decode b_Pieces_init 29 = .ok (.bipush 16, 2) := by decide +kernel
theorem d_Pieces_init_31 : decode b_Pieces_init 31 = .ok (.newarray .int, 2) := by decide +kernel
theorem d_Pieces_init_33 : decode b_Pieces_init 33 = .ok (.putfield 21, 3) := by decide +kernel
theorem d_Pieces_init_36 : decode b_Pieces_init 36 = .ok (.aload_n 0, 1) := by decide +kernel
theorem d_Pieces_init_37 : decode b_Pieces_init 37 = .ok (.bipush 16, 2) := by decide +kernel
theorem d_Pieces_init_39 : decode b_Pieces_init 39 = .ok (.newarray .int, 2) := by decide +kernel
theorem d_Pieces_init_41 : decode b_Pieces_init 41 = .ok (.putfield 24, 3) := by decide +kernel
theorem d_Pieces_init_44 : decode b_Pieces_init 44 = .ok (.aload_n 0, 1) := by decide +kernel
theorem d_Pieces_init_45 : decode b_Pieces_init 45 = .ok (.bipush 16, 2) := by decide +kernel
theorem d_Pieces_init_47 : decode b_Pieces_init 47 = .ok (.newarray .int, 2) := by decide +kernel
theorem d_Pieces_init_49 : decode b_Pieces_init 49 = .ok (.putfield 27, 3) := by decide +kernel
theorem d_Pieces_init_52 : decode b_Pieces_init 52 = .ok (.aload_n 0, 1) := by decide +kernel
theorem d_Pieces_init_53 : decode b_Pieces_init 53 = .ok (.bipush 16, 2) := by decide +kernel
theorem d_Pieces_init_55 : decode b_Pieces_init 55 = .ok (.newarray .int, 2) := by decide +kernel
theorem d_Pieces_init_57 : decode b_Pieces_init 57 = .ok (.putfield 30, 3) := by decide +kernel
theorem d_Pieces_init_60 : decode b_Pieces_init 60 = .ok (.aload_n 0, 1) := by decide +kernel
theorem d_Pieces_init_61 : decode b_Pieces_init 61 = .ok (.bipush 16, 2) := by decide +kernel
theorem d_Pieces_init_63 : decode b_Pieces_init 63 = .ok (.newarray .int, 2) := by decide +kernel
theorem d_Pieces_init_65 : decode b_Pieces_init 65 = .ok (.putfield 33, 3) := by decide +kernel
theorem d_Pieces_init_68 : decode b_Pieces_init 68 = .ok (.aload_n 0, 1) := by decide +kernel
theorem d_Pieces_init_69 : decode b_Pieces_init 69 = .ok (.iconst (-1), 1) := by decide +kernel
theorem d_Pieces_init_70 : decode b_Pieces_init 70 = .ok (.putfield 36, 3) := by decide +kernel
theorem d_Pieces_init_73 : decode b_Pieces_init 73 = .ok (.return_, 1) := by decide +kernel
theorem d_Pieces_drop_0 : decode b_Pieces_drop 0 = .ok (.aload_n 0, 1) := by decide +kernel
theorem d_Pieces_drop_1 : decode b_Pieces_drop 1 = .ok (.iconst 0, 1) := by decide +kernel
theorem d_Pieces_drop_2 : decode b_Pieces_drop 2 = .ok (.putfield 40, 3) := by decide +kernel
theorem d_Pieces_drop_5 : decode b_Pieces_drop 5 = .ok (.aload_n 0, 1) := by decide +kernel
theorem d_Pieces_drop_6 : decode b_Pieces_drop 6 = .ok (.iconst 0, 1) := by decide +kernel
theorem d_Pieces_drop_7 : decode b_Pieces_drop 7 = .ok (.putfield 43, 3) := by decide +kernel
theorem d_Pieces_drop_10 : decode b_Pieces_drop 10 = .ok (.aload_n 0, 1) := by decide +kernel
theorem d_Pieces_drop_11 : decode b_Pieces_drop 11 = .ok (.iconst (-1), 1) := by decide +kernel
theorem d_Pieces_drop_12 : decode b_Pieces_drop 12 = .ok (.putfield 36, 3) := by decide +kernel
theorem d_Pieces_drop_15 : decode b_Pieces_drop 15 = .ok (.return_, 1) := by decide +kernel
theorem d_Pieces_add_0 : decode b_Pieces_add 0 = .ok (.aload_n 0, 1) := by decide +kernel
theorem d_Pieces_add_1 : decode b_Pieces_add 1 = .ok (.getfield 43, 3) := by decide +kernel
theorem d_Pieces_add_4 : decode b_Pieces_add 4 = .ok (.ifCond .ne 13, 3) := by decide +kernel
theorem d_Pieces_add_7 : decode b_Pieces_add 7 = .ok (.aload_n 0, 1) := by decide +kernel
theorem d_Pieces_add_8 : decode b_Pieces_add 8 = .ok (.getfield 40, 3) := by decide +kernel
theorem d_Pieces_add_11 : decode b_Pieces_add 11 = .ok (.sipush 2000, 3) := by decide +kernel
theorem d_Pieces_add_14 : decode b_Pieces_add 14 = .ok (.if_icmp .lt 19, 3) := by decide +kernel
theorem d_Pieces_add_17 : decode b_Pieces_add 17 = .ok (.aload_n 0, 1) := by decide +kernel
theorem d_Pieces_add_18 : decode b_Pieces_add 18 = .ok (.iconst 1, 1) := by decide +kernel
theorem d_Pieces_add_19 : decode b_Pieces_add 19 = .ok (.putfield 43, 3) := by decide +kernel
theorem d_Pieces_add_22 : decode b_Pieces_add 22 = .ok (.aload_n 0, 1) := by decide +kernel
theorem d_Pieces_add_23 : decode b_Pieces_add 23 = .ok (.iconst 0, 1) := by decide +kernel
theorem d_Pieces_add_24 : decode b_Pieces_add 24 = .ok (.putfield 40, 3) := by decide +kernel
theorem d_Pieces_add_27 : decode b_Pieces_add 27 = .ok (.aload_n 0, 1) := by decide +kernel
theorem d_Pieces_add_28 : decode b_Pieces_add 28 = .ok (.iconst (-1), 1) := by decide +kernel
theorem d_Pieces_add_29 : decode b_Pieces_add 29 = .ok (.putfield 36, 3) := by decide +kernel
theorem d_Pieces_add_32 : decode b_Pieces_add 32 = .ok (.return_, 1) := by decide +kernel
theorem d_Pieces_add_33 : decode b_Pieces_add 33 = .ok (.aload_n 0, 1) := by decide +kernel
theorem d_Pieces_add_34 : decode b_Pieces_add 34 = .ok (.getfield 40, 3) := by decide +kernel
theorem d_Pieces_add_37 : decode b_Pieces_add 37 = .ok (.aload_n 0, 1) := by decide +kernel
theorem d_Pieces_add_38 : decode b_Pieces_add 38 = .ok (.getfield 9, 3) := by decide +kernel
theorem d_Pieces_add_41 : decode b_Pieces_add 41 = .ok (.arraylength, 1) := by decide +kernel
theorem d_Pieces_add_42 : decode b_Pieces_add 42 = .ok (.if_icmp .lt 20, 3) := by decide +kernel
theorem d_Pieces_add_45 : decode b_Pieces_add 45 = .ok (.aload_n 0, 1) := by decide +kernel
theorem d_Pieces_add_46 : decode b_Pieces_add 46 = .ok (.sipush 2000, 3) := by decide +kernel
theorem d_Pieces_add_49 : decode b_Pieces_add 49 = .ok (.iconst 2, 1) := by decide +kernel
theorem d_Pieces_add_50 : decode b_Pieces_add 50 = .ok (.aload_n 0, 1) := by decide +kernel
theorem d_Pieces_add_51 : decode b_Pieces_add 51 = .ok (.getfield 9, 3) := by decide +kernel
theorem d_Pieces_add_54 : decode b_Pieces_add 54 = .ok (.arraylength, 1) := by decide +kernel
theorem d_Pieces_add_55 : decode b_Pieces_add 55 = .ok (.imul, 1) := by decide +kernel
theorem d_Pieces_add_56 : decode b_Pieces_add 56 = .ok (.invokestatic 47, 3) := by decide +kernel
theorem d_Pieces_add_59 : decode b_Pieces_add 59 = .ok (.invokevirtual 53, 3) := by decide +kernel
theorem d_Pieces_add_62 : decode b_Pieces_add 62 = .ok (.aload_n 0, 1) := by decide +kernel
theorem d_Pieces_add_63 : decode b_Pieces_add 63 = .ok (.getfield 9, 3) := by decide +kernel
theorem d_Pieces_add_66 : decode b_Pieces_add 66 = .ok (.aload_n 0, 1) := by decide +kernel
theorem d_Pieces_add_67 : decode b_Pieces_add 67 = .ok (.getfield 40, 3) := by decide +kernel
theorem d_Pieces_add_70 : decode b_Pieces_add 70 = .ok (.iload_n 1, 1) := by decide +kernel
theorem d_Pieces_add_71 : decode b_Pieces_add 71 = .ok (.iastore, 1) := by decide +kernel
theorem d_Pieces_add_72 : decode b_Pieces_add 72 = .ok (.aload_n 0, 1) := by decide +kernel
theorem d_Pieces_add_73 : decode b_Pieces_add 73 = .ok (.getfield 15, 3) := by decide +kernel
theorem d_Pieces_add_76 : decode b_Pieces_add 76 = .ok (.aload_n 0, 1) := by decide +kernel
theorem d_Pieces_add_77 : decode b_Pieces_add 77 = .ok (.getfield 40, 3) := by decide +kernel
theorem d_Pieces_add_80 : decode b_Pieces_add 80 = .ok (.iload_n 2, 1) := by decide +kernel
theorem d_Pieces_add_81 : decode b_Pieces_add 81 = .ok (.iastore, 1) := by decide +kernel
theorem d_Pieces_add_82 : decode b_Pieces_add 82 = .ok (.aload_n 0, 1) := by decide +kernel
theorem d_Pieces_add_83 : decode b_Pieces_add 83 = .ok (.getfield 18, 3) := by decide +kernel
theorem d_Pieces_add_86 : decode b_Pieces_add 86 = .ok (.aload_n 0, 1) := by decide +kernel
theorem d_Pieces_add_87 : decode b_Pieces_add 87 = .ok (.getfield 40, 3) := by decide +kernel
theorem d_Pieces_add_90 : decode b_Pieces_add 90 = .ok (.iload_n 3, 1) := by decide +kernel
theorem d_Pieces_add_91 : decode b_Pieces_add 91 = .ok (.iastore, 1) := by decide +kernel
theorem d_Pieces_add_92 : decode b_Pieces_add 92 = .ok (.aload_n 0, 1) := by decide +kernel
theorem d_Pieces_add_93 : decode b_Pieces_add 93 = .ok (.getfield 21, 3) := by decide +kernel
theorem d_Pieces_add_96 : decode b_Pieces_add 96 = .ok (.aload_n 0, 1) := by decide +kernel
theorem d_Pieces_add_97 : decode b_Pieces_add 97 = .ok (.getfield 40, 3) := by decide +kernel
theorem d_Pieces_add_100 : decode b_Pieces_add 100 = .ok (.iload 4, 2) := by decide +kernel
theorem d_Pieces_add_102 : decode b_Pieces_add 102 = .ok (.iastore, 1) := by decide +kernel
theorem d_Pieces_add_103 : decode b_Pieces_add 103 = .ok (.aload_n 0, 1) := by decide +kernel
theorem d_Pieces_add_104 : decode b_Pieces_add 104 = .ok (.getfield 24, 3) := by decide +kernel
theorem d_Pieces_add_107 : decode b_Pieces_add 107 = .ok (.aload_n 0, 1) := by decide +kernel
theorem d_Pieces_add_108 : decode b_Pieces_add 108 = .ok (.getfield 40, 3) := by decide +kernel
theorem d_Pieces_add_111 : decode b_Pieces_add 111 = .ok (.iload 5, 2) := by decide +kernel
theorem d_Pieces_add_113 : decode b_Pieces_add 113 = .ok (.iastore, 1) := by decide +kernel
theorem d_Pieces_add_114 : decode b_Pieces_add 114 = .ok (.aload_n 0, 1) := by decide +kernel
theorem d_Pieces_add_115 : decode b_Pieces_add 115 = .ok (.getfield 27, 3) := by decide +kernel
theorem d_Pieces_add_118 : decode b_Pieces_add 118 = .ok (.aload_n 0, 1) := by decide +kernel
theorem d_Pieces_add_119 : decode b_Pieces_add 119 = .ok (.getfield 40, 3) := by decide +kernel
theorem d_Pieces_add_122 : decode b_Pieces_add 122 = .ok (.iload 6, 2) := by decide +kernel
theorem d_Pieces_add_124 : decode b_Pieces_add 124 = .ok (.iastore, 1) := by decide +kernel
theorem d_Pieces_add_125 : decode b_Pieces_add 125 = .ok (.aload_n 0, 1) := by decide +kernel
theorem d_Pieces_add_126 : decode b_Pieces_add 126 = .ok (.getfield 30, 3) := by decide +kernel
theorem d_Pieces_add_129 : decode b_Pieces_add 129 = .ok (.aload_n 0, 1) := by decide +kernel
theorem d_Pieces_add_130 : decode b_Pieces_add 130 = .ok (.getfield 40, 3) := by decide +kernel
theorem d_Pieces_add_133 : decode b_Pieces_add 133 = .ok (.aload_n 0, 1) := by decide +kernel
theorem d_Pieces_add_134 : decode b_Pieces_add 134 = .ok (.getfield 36, 3) := by decide +kernel
theorem d_Pieces_add_137 : decode b_Pieces_add 137 = .ok (.iastore, 1) := by decide +kernel
theorem d_Pieces_add_138 : decode b_Pieces_add 138 = .ok (.aload_n 0, 1) := by decide +kernel
theorem d_Pieces_add_139 : decode b_Pieces_add 139 = .ok (.getfield 33, 3) := by decide +kernel
theorem d_Pieces_add_142 : decode b_Pieces_add 142 = .ok (.aload_n 0, 1) := by decide +kernel
theorem d_Pieces_add_143 : decode b_Pieces_add 143 = .ok (.getfield 40, 3) := by decide +kernel
theorem d_Pieces_add_146 : decode b_Pieces_add 146 = .ok (.iconst 0, 1) := by decide +kernel
theorem d_Pieces_add_147 : decode b_Pieces_add 147 = .ok (.iastore, 1) := by decide +kernel
theorem d_Pieces_add_148 : decode b_Pieces_add 148 = .ok (.aload_n 0, 1) := by decide +kernel
theorem d_Pieces_add_149 : decode b_Pieces_add 149 = .ok (.aload_n 0, 1) := by decide +kernel
theorem d_Pieces_add_150 : decode b_Pieces_add 150 = .ok (.getfield 40, 3) := by decide +kernel
theorem d_Pieces_add_153 : decode b_Pieces_add 153 = .ok (.putfield 36, 3) := by decide +kernel
theorem d_Pieces_add_156 : decode b_Pieces_add 156 = .ok (.aload_n 0, 1) := by decide +kernel
theorem d_Pieces_add_157 : decode b_Pieces_add 157 = .ok (.dup, 1) := by decide +kernel
theorem d_Pieces_add_158 : decode b_Pieces_add 158 = .ok (.getfield 40, 3) := by decide +kernel
theorem d_Pieces_add_161 : decode b_Pieces_add 161 = .ok (.iconst 1, 1) := by decide +kernel
theorem d_Pieces_add_162 : decode b_Pieces_add 162 = .ok (.iadd, 1) := by decide +kernel
theorem d_Pieces_add_163 : decode b_Pieces_add 163 = .ok (.putfield 40, 3) := by decide +kernel
theorem d_Pieces_add_166 : decode b_Pieces_add 166 = .ok (.return_, 1) := by decide +kernel
theorem d_Pieces_addDot_0 : decode b_Pieces_addDot 0 = .ok (.aload_n 0, 1) := by decide +kernel
theorem d_Pieces_addDot_1 : decode b_Pieces_addDot 1 = .ok (.iload_n 1, 1) := by decide +kernel
theorem d_Pieces_addDot_2 : decode b_Pieces_addDot 2 = .ok (.iload_n 2, 1) := by decide +kernel
theorem d_Pieces_addDot_3 : decode b_Pieces_addDot 3 = .ok (.iload_n 1, 1) := by decide +kernel
theorem d_Pieces_addDot_4 : decode b_Pieces_addDot 4 = .ok (.iload_n 2, 1) := by decide +kernel
theorem d_Pieces_addDot_5 : decode b_Pieces_addDot 5 = .ok (.iconst 0, 1) := by decide +kernel
theorem d_Pieces_addDot_6 : decode b_Pieces_addDot 6 = .ok (.iconst 0, 1) := by decide +kernel
theorem d_Pieces_addDot_7 : decode b_Pieces_addDot 7 = .ok (.invokevirtual 57, 3) := by decide +kernel
theorem d_Pieces_addDot_10 : decode b_Pieces_addDot 10 = .ok (.aload_n 0, 1) := by decide +kernel
theorem d_Pieces_addDot_11 : decode b_Pieces_addDot 11 = .ok (.iconst 2, 1) := by decide +kernel
theorem d_Pieces_addDot_12 : decode b_Pieces_addDot 12 = .ok (.invokevirtual 61, 3) := by decide +kernel
theorem d_Pieces_addDot_15 : decode b_Pieces_addDot 15 = .ok (.return_, 1) := by decide +kernel
theorem d_Pieces_endChain_0 : decode b_Pieces_endChain 0 = .ok (.aload_n 0, 1) := by decide +kernel
theorem d_Pieces_endChain_1 : decode b_Pieces_endChain 1 = .ok (.getfield 36, 3) := by decide +kernel
theorem d_Pieces_endChain_4 : decode b_Pieces_endChain 4 = .ok (.ifCond .lt 18, 3) := by decide +kernel
theorem d_Pieces_endChain_7 : decode b_Pieces_endChain 7 = .ok (.aload_n 0, 1) := by decide +kernel
theorem d_Pieces_endChain_8 : decode b_Pieces_endChain 8 = .ok (.getfield 33, 3) := by decide +kernel
theorem d_Pieces_endChain_11 : decode b_Pieces_endChain 11 = .ok (.aload_n 0, 1) := by decide +kernel
theorem d_Pieces_endChain_12 : decode b_Pieces_endChain 12 = .ok (.getfield 36, 3) := by decide +kernel
theorem d_Pieces_endChain_15 : decode b_Pieces_endChain 15 = .ok (.iload_n 1, 1) := by decide +kernel
theorem d_Pieces_endChain_16 : decode b_Pieces_endChain 16 = .ok (.iastore, 1) := by decide +kernel
theorem d_Pieces_endChain_17 : decode b_Pieces_endChain 17 = .ok (.aload_n 0, 1) := by decide +kernel
theorem d_Pieces_endChain_18 : decode b_Pieces_endChain 18 = .ok (.iconst (-1), 1) := by decide +kernel
theorem d_Pieces_endChain_19 : decode b_Pieces_endChain 19 = .ok (.putfield 36, 3) := by decide +kernel
theorem d_Pieces_endChain_22 : decode b_Pieces_endChain 22 = .ok (.return_, 1) := by decide +kernel
theorem d_Pieces_closeChain_0 : decode b_Pieces_closeChain 0 = .ok (.aload_n 0, 1) := by decide +kernel
theorem d_Pieces_closeChain_1 : decode b_Pieces_closeChain 1 = .ok (.getfield 36, 3) := by decide +kernel
theorem d_Pieces_closeChain_4 : decode b_Pieces_closeChain 4 = .ok (.ifCond .lt 30, 3) := by decide +kernel
theorem d_Pieces_closeChain_7 : decode b_Pieces_closeChain 7 = .ok (.iload_n 1, 1) := by decide +kernel
theorem d_Pieces_closeChain_8 : decode b_Pieces_closeChain 8 = .ok (.ifCond .lt 26, 3) := by decide +kernel
theorem d_Pieces_closeChain_11 : decode b_Pieces_closeChain 11 = .ok (.iload_n 1, 1) := by decide +kernel
theorem d_Pieces_closeChain_12 : decode b_Pieces_closeChain 12 = .ok (.aload_n 0, 1) := by decide +kernel
theorem d_Pieces_closeChain_13 : decode b_Pieces_closeChain 13 = .ok (.getfield 36, 3) := by decide +kernel
theorem d_Pieces_closeChain_16 : decode b_Pieces_closeChain 16 = .ok (.if_icmp .gt 18, 3) := by decide +kernel
theorem d_Pieces_closeChain_19 : decode b_Pieces_closeChain 19 = .ok (.aload_n 0, 1) := by decide +kernel
theorem d_Pieces_closeChain_20 : decode b_Pieces_closeChain 20 = .ok (.getfield 30, 3) := by decide +kernel
theorem d_Pieces_closeChain_23 : decode b_Pieces_closeChain 23 = .ok (.iload_n 1, 1) := by decide +kernel
theorem d_Pieces_closeChain_24 : decode b_Pieces_closeChain 24 = .ok (.aload_n 0, 1) := by decide +kernel
theorem d_Pieces_closeChain_25 : decode b_Pieces_closeChain 25 = .ok (.getfield 36, 3) := by decide +kernel
theorem d_Pieces_closeChain_28 : decode b_Pieces_closeChain 28 = .ok (.iastore, 1) := by decide +kernel
theorem d_Pieces_closeChain_29 : decode b_Pieces_closeChain 29 = .ok (.aload_n 0, 1) := by decide +kernel
theorem d_Pieces_closeChain_30 : decode b_Pieces_closeChain 30 = .ok (.iconst (-1), 1) := by decide +kernel
theorem d_Pieces_closeChain_31 : decode b_Pieces_closeChain 31 = .ok (.putfield 36, 3) := by decide +kernel
theorem d_Pieces_closeChain_34 : decode b_Pieces_closeChain 34 = .ok (.return_, 1) := by decide +kernel
theorem d_Pieces_grow_0 : decode b_Pieces_grow 0 = .ok (.aload_n 0, 1) := by decide +kernel
theorem d_Pieces_grow_1 : decode b_Pieces_grow 1 = .ok (.aload_n 0, 1) := by decide +kernel
theorem d_Pieces_grow_2 : decode b_Pieces_grow 2 = .ok (.getfield 9, 3) := by decide +kernel
theorem d_Pieces_grow_5 : decode b_Pieces_grow 5 = .ok (.iload_n 1, 1) := by decide +kernel
theorem d_Pieces_grow_6 : decode b_Pieces_grow 6 = .ok (.invokestatic 64, 3) := by decide +kernel
theorem d_Pieces_grow_9 : decode b_Pieces_grow 9 = .ok (.putfield 9, 3) := by decide +kernel
theorem d_Pieces_grow_12 : decode b_Pieces_grow 12 = .ok (.aload_n 0, 1) := by decide +kernel
theorem d_Pieces_grow_13 : decode b_Pieces_grow 13 = .ok (.aload_n 0, 1) := by decide +kernel
theorem d_Pieces_grow_14 : decode b_Pieces_grow 14 = .ok (.getfield 15, 3) := by decide +kernel
theorem d_Pieces_grow_17 : decode b_Pieces_grow 17 = .ok (.iload_n 1, 1) := by decide +kernel
theorem d_Pieces_grow_18 : decode b_Pieces_grow 18 = .ok (.invokestatic 64, 3) := by decide +kernel
theorem d_Pieces_grow_21 : decode b_Pieces_grow 21 = .ok (.putfield 15, 3) := by decide +kernel
theorem d_Pieces_grow_24 : decode b_Pieces_grow 24 = .ok (.aload_n 0, 1) := by decide +kernel
theorem d_Pieces_grow_25 : decode b_Pieces_grow 25 = .ok (.aload_n 0, 1) := by decide +kernel
theorem d_Pieces_grow_26 : decode b_Pieces_grow 26 = .ok (.getfield 18, 3) := by decide +kernel
theorem d_Pieces_grow_29 : decode b_Pieces_grow 29 = .ok (.iload_n 1, 1) := by decide +kernel
theorem d_Pieces_grow_30 : decode b_Pieces_grow 30 = .ok (.invokestatic 64, 3) := by decide +kernel
theorem d_Pieces_grow_33 : decode b_Pieces_grow 33 = .ok (.putfield 18, 3) := by decide +kernel
theorem d_Pieces_grow_36 : decode b_Pieces_grow 36 = .ok (.aload_n 0, 1) := by decide +kernel
theorem d_Pieces_grow_37 : decode b_Pieces_grow 37 = .ok (.aload_n 0, 1) := by decide +kernel
theorem d_Pieces_grow_38 : decode b_Pieces_grow 38 = .ok (.getfield 21, 3) := by decide +kernel
theorem d_Pieces_grow_41 : decode b_Pieces_grow 41 = .ok (.iload_n 1, 1) := by decide +kernel
theorem d_Pieces_grow_42 : decode b_Pieces_grow 42 = .ok (.invokestatic 64, 3) := by decide +kernel
theorem d_Pieces_grow_45 : decode b_Pieces_grow 45 = .ok (.putfield 21, 3) := by decide +kernel
theorem d_Pieces_grow_48 : decode b_Pieces_grow 48 = .ok (.aload_n 0, 1) := by decide +kernel
theorem d_Pieces_grow_49 : decode b_Pieces_grow 49 = .ok (.aload_n 0, 1) := by decide +kernel
theorem d_Pieces_grow_50 : decode b_Pieces_grow 50 = .ok (.getfield 24, 3) := by decide +kernel
theorem d_Pieces_grow_53 : decode b_Pieces_grow 53 = .ok (.iload_n 1, 1) := by decide +kernel
theorem d_Pieces_grow_54 : decode b_Pieces_grow 54 = .ok (.invokestatic 64, 3) := by decide +kernel
theorem d_Pieces_grow_57 : decode b_Pieces_grow 57 = .ok (.putfield 24, 3) := by decide +kernel
theorem d_Pieces_grow_60 : decode b_Pieces_grow 60 = .ok (.aload_n 0, 1) := by decide +kernel
theorem d_Pieces_grow_61 : decode b_Pieces_grow 61 = .ok (.aload_n 0, 1) := by decide +kernel
theorem d_Pieces_grow_62 : decode b_Pieces_grow 62 = .ok (.getfield 27, 3) := by decide +kernel
theorem d_Pieces_grow_65 : decode b_Pieces_grow 65 = .ok (.iload_n 1, 1) := by decide +kernel
theorem d_Pieces_grow_66 : decode b_Pieces_grow 66 = .ok (.invokestatic 64, 3) := by decide +kernel
theorem d_Pieces_grow_69 : decode b_Pieces_grow 69 = .ok (.putfield 27, 3) := by decide +kernel
theorem d_Pieces_grow_72 : decode b_Pieces_grow 72 = .ok (.aload_n 0, 1) := by decide +kernel
theorem d_Pieces_grow_73 : decode b_Pieces_grow 73 = .ok (.aload_n 0, 1) := by decide +kernel
theorem d_Pieces_grow_74 : decode b_Pieces_grow 74 = .ok (.getfield 30, 3) := by decide +kernel
theorem d_Pieces_grow_77 : decode b_Pieces_grow 77 = .ok (.iload_n 1, 1) := by decide +kernel
theorem d_Pieces_grow_78 : decode b_Pieces_grow 78 = .ok (.invokestatic 64, 3) := by decide +kernel
theorem d_Pieces_grow_81 : decode b_Pieces_grow 81 = .ok (.putfield 30, 3) := by decide +kernel
theorem d_Pieces_grow_84 : decode b_Pieces_grow 84 = .ok (.aload_n 0, 1) := by decide +kernel
theorem d_Pieces_grow_85 : decode b_Pieces_grow 85 = .ok (.aload_n 0, 1) := by decide +kernel
theorem d_Pieces_grow_86 : decode b_Pieces_grow 86 = .ok (.getfield 33, 3) := by decide +kernel
theorem d_Pieces_grow_89 : decode b_Pieces_grow 89 = .ok (.iload_n 1, 1) := by decide +kernel
theorem d_Pieces_grow_90 : decode b_Pieces_grow 90 = .ok (.invokestatic 64, 3) := by decide +kernel
theorem d_Pieces_grow_93 : decode b_Pieces_grow 93 = .ok (.putfield 33, 3) := by decide +kernel
theorem d_Pieces_grow_96 : decode b_Pieces_grow 96 = .ok (.return_, 1) := by decide +kernel
theorem d_Walker_init_0 : decode b_Walker_init 0 = .ok (.aload_n 0, 1) := by decide +kernel
theorem d_Walker_init_1 : decode b_Walker_init 1 = .ok (.invokespecial 3, 3) := by decide +kernel
theorem d_Walker_init_4 : decode b_Walker_init 4 = .ok (.aload_n 0, 1) := by decide +kernel
theorem d_Walker_init_5 : decode b_Walker_init 5 = .ok (.aload_n 1, 1) := by decide +kernel
theorem d_Walker_init_6 : decode b_Walker_init 6 = .ok (.putfield 9, 3) := by decide +kernel
theorem d_Walker_init_9 : decode b_Walker_init 9 = .ok (.aload_n 0, 1) := by decide +kernel
theorem d_Walker_init_10 : decode b_Walker_init 10 = .ok (.aload_n 2, 1) := by decide +kernel
theorem d_Walker_init_11 : decode b_Walker_init 11 = .ok (.putfield 15, 3) := by decide +kernel
theorem d_Walker_init_14 : decode b_Walker_init 14 = .ok (.aload_n 0, 1) := by decide +kernel
theorem d_Walker_init_15 : decode b_Walker_init 15 = .ok (.aload_n 3, 1) := by decide +kernel
theorem d_Walker_init_16 : decode b_Walker_init 16 = .ok (.putfield 19, 3) := by decide +kernel
theorem d_Walker_init_19 : decode b_Walker_init 19 = .ok (.return_, 1) := by decide +kernel
theorem d_Walker_forget_0 : decode b_Walker_forget 0 = .ok (.aload_n 0, 1) := by decide +kernel
theorem d_Walker_forget_1 : decode b_Walker_forget 1 = .ok (.iconst 0, 1) := by decide +kernel
theorem d_Walker_forget_2 : decode b_Walker_forget 2 = .ok (.putfield 23, 3) := by decide +kernel
theorem d_Walker_forget_5 : decode b_Walker_forget 5 = .ok (.return_, 1) := by decide +kernel
theorem d_Walker_walk_0 : decode b_Walker_walk 0 = .ok (.aload_n 0, 1) := by decide +kernel
theorem d_Walker_walk_1 : decode b_Walker_walk 1 = .ok (.getfield 23, 3) := by decide +kernel
theorem d_Walker_walk_4 : decode b_Walker_walk 4 = .ok (.ifCond .eq 4, 3) := by decide +kernel
theorem d_Walker_walk_7 : decode b_Walker_walk 7 = .ok (.return_, 1) := by decide +kernel
theorem d_Walker_walk_8 : decode b_Walker_walk 8 = .ok (.aload_n 0, 1) := by decide +kernel
theorem d_Walker_walk_9 : decode b_Walker_walk 9 = .ok (.getfield 19, 3) := by decide +kernel
theorem d_Walker_walk_12 : decode b_Walker_walk 12 = .ok (.invokevirtual 27, 3) := by decide +kernel
theorem d_Walker_walk_15 : decode b_Walker_walk 15 = .ok (.aload_n 0, 1) := by decide +kernel
theorem d_Walker_walk_16 : decode b_Walker_walk 16 = .ok (.invokevirtual 32, 3) := by decide +kernel
theorem d_Walker_walk_19 : decode b_Walker_walk 19 = .ok (.iconst 0, 1) := by decide +kernel
theorem d_Walker_walk_20 : decode b_Walker_walk 20 = .ok (.istore_n 1, 1) := by decide +kernel
theorem d_Walker_walk_21 : decode b_Walker_walk 21 = .ok (.iload_n 1, 1) := by decide +kernel
theorem d_Walker_walk_22 : decode b_Walker_walk 22 = .ok (.aload_n 0, 1) := by decide +kernel
theorem d_Walker_walk_23 : decode b_Walker_walk 23 = .ok (.getfield 9, 3) := by decide +kernel
theorem d_Walker_walk_26 : decode b_Walker_walk 26 = .ok (.getfield 35, 3) := by decide +kernel
theorem d_Walker_walk_29 : decode b_Walker_walk 29 = .ok (.if_icmp .ge 24, 3) := by decide +kernel
theorem d_Walker_walk_32 : decode b_Walker_walk 32 = .ok (.aload_n 0, 1) := by decide +kernel
theorem d_Walker_walk_33 : decode b_Walker_walk 33 = .ok (.getfield 19, 3) := by decide +kernel
theorem d_Walker_walk_36 : decode b_Walker_walk 36 = .ok (.getfield 41, 3) := by decide +kernel
theorem d_Walker_walk_39 : decode b_Walker_walk 39 = .ok (.ifCond .ne 14, 3) := by decide +kernel
theorem d_Walker_walk_42 : decode b_Walker_walk 42 = .ok (.aload_n 0, 1) := by decide +kernel
theorem d_Walker_walk_43 : decode b_Walker_walk 43 = .ok (.iload_n 1, 1) := by decide +kernel
theorem d_Walker_walk_44 : decode b_Walker_walk 44 = .ok (.invokevirtual 44, 3) := by decide +kernel
theorem d_Walker_walk_47 : decode b_Walker_walk 47 = .ok (.iinc 1 1, 3) := by decide +kernel
theorem d_Walker_walk_50 : decode b_Walker_walk 50 = .ok (.goto (-29), 3) := by decide +kernel
theorem d_Walker_walk_53 : decode b_Walker_walk 53 = .ok (.aload_n 0, 1) := by decide +kernel
theorem d_Walker_walk_54 : decode b_Walker_walk 54 = .ok (.iconst 1, 1) := by decide +kernel
theorem d_Walker_walk_55 : decode b_Walker_walk 55 = .ok (.putfield 23, 3) := by decide +kernel
theorem d_Walker_walk_58 : decode b_Walker_walk 58 = .ok (.return_, 1) := by decide +kernel
theorem d_Walker_passPhase_0 : decode b_Walker_passPhase 0 = .ok (.aload_n 0, 1) := by decide +kernel
theorem d_Walker_passPhase_1 : decode b_Walker_passPhase 1 = .ok (.iconst 0, 1) := by decide +kernel
theorem d_Walker_passPhase_2 : decode b_Walker_passPhase 2 = .ok (.putfield 48, 3) := by decide +kernel
theorem d_Walker_passPhase_5 : decode b_Walker_passPhase 5 = .ok (.aload_n 0, 1) := by decide +kernel
theorem d_Walker_passPhase_6 : decode b_Walker_passPhase 6 = .ok (.iconst 1, 1) := by decide +kernel
theorem d_Walker_passPhase_7 : decode b_Walker_passPhase 7 = .ok (.putfield 51, 3) := by decide +kernel
theorem d_Walker_passPhase_10 : decode b_Walker_passPhase 10 = .ok (.aload_n 0, 1) := by decide +kernel
theorem d_Walker_passPhase_11 : decode b_Walker_passPhase 11 = .ok (.getfield 15, 3) := by decide +kernel
theorem d_Walker_passPhase_14 : decode b_Walker_passPhase 14 = .ok (.getfield 54, 3) := by decide +kernel
theorem d_Walker_passPhase_17 : decode b_Walker_passPhase 17 = .ok (.ifCond .gt 4, 3) := by decide +kernel
theorem d_Walker_passPhase_20 : decode b_Walker_passPhase 20 = .ok (.return_, 1) := by decide +kernel
theorem d_Walker_passPhase_21 : decode b_Walker_passPhase 21 = .ok (.aload_n 0, 1) := by decide +kernel
theorem d_Walker_passPhase_22 : decode b_Walker_passPhase 22 = .ok (.getfield 15, 3) := by decide +kernel
theorem d_Walker_passPhase_25 : decode b_Walker_passPhase 25 = .ok (.getfield 59, 3) := by decide +kernel
theorem d_Walker_passPhase_28 : decode b_Walker_passPhase 28 = .ok (.iconst 2, 1) := by decide +kernel
theorem d_Walker_passPhase_29 : decode b_Walker_passPhase 29 = .ok (.aload_n 0, 1) := by decide +kernel
theorem d_Walker_passPhase_30 : decode b_Walker_passPhase 30 = .ok (.getfield 15, 3) := by decide +kernel
theorem d_Walker_passPhase_33 : decode b_Walker_passPhase 33 = .ok (.getfield 54, 3) := by decide +kernel
theorem d_Walker_passPhase_36 : decode b_Walker_passPhase 36 = .ok (.imul, 1) := by decide +kernel
theorem d_Walker_passPhase_37 : decode b_Walker_passPhase 37 = .ok (.invokestatic 62, 3) := by decide +kernel
theorem d_Walker_passPhase_40 : decode b_Walker_passPhase 40 = .ok (.istore_n 1, 1) := by decide +kernel
theorem d_Walker_passPhase_41 : decode b_Walker_passPhase 41 = .ok (.iconst 0, 1) := by decide +kernel
theorem d_Walker_passPhase_42 : decode b_Walker_passPhase 42 = .ok (.istore_n 2, 1) := by decide +kernel
theorem d_Walker_passPhase_43 : decode b_Walker_passPhase 43 = .ok (.iload_n 2, 1) := by decide +kernel
theorem d_Walker_passPhase_44 : decode b_Walker_passPhase 44 = .ok (.bipush 16, 2) := by decide +kernel
theorem d_Walker_passPhase_46 : decode b_Walker_passPhase 46 = .ok (.if_icmp .ge 68, 3) := by decide +kernel
theorem d_Walker_passPhase_49 : decode b_Walker_passPhase 49 = .ok (.iload_n 1, 1) := by decide +kernel
theorem d_Walker_passPhase_50 : decode b_Walker_passPhase 50 = .ok (.aload_n 0, 1) := by decide +kernel
theorem d_Walker_passPhase_51 : decode b_Walker_passPhase 51 = .ok (.getfield 15, 3) := by decide +kernel
theorem d_Walker_passPhase_54 : decode b_Walker_passPhase 54 = .ok (.getfield 68, 3) := by decide +kernel
theorem d_Walker_passPhase_57 : decode b_Walker_passPhase 57 = .ok (.aload_n 0, 1) := by decide +kernel
theorem d_Walker_passPhase_58 : decode b_Walker_passPhase 58 = .ok (.getfield 48, 3) := by decide +kernel
theorem d_Walker_passPhase_61 : decode b_Walker_passPhase 61 = .ok (.iaload, 1) := by decide +kernel
theorem d_Walker_passPhase_62 : decode b_Walker_passPhase 62 = .ok (.if_icmp .lt 52, 3) := by decide +kernel
theorem d_Walker_passPhase_65 : decode b_Walker_passPhase 65 = .ok (.iload_n 1, 1) := by decide +kernel
theorem d_Walker_passPhase_66 : decode b_Walker_passPhase 66 = .ok (.aload_n 0, 1) := by decide +kernel
theorem d_Walker_passPhase_67 : decode b_Walker_passPhase 67 = .ok (.getfield 15, 3) := by decide +kernel
theorem d_Walker_passPhase_70 : decode b_Walker_passPhase 70 = .ok (.getfield 68, 3) := by decide +kernel
theorem d_Walker_passPhase_73 : decode b_Walker_passPhase 73 = .ok (.aload_n 0, 1) := by decide +kernel
theorem d_Walker_passPhase_74 : decode b_Walker_passPhase 74 = .ok (.getfield 48, 3) := by decide +kernel
theorem d_Walker_passPhase_77 : decode b_Walker_passPhase 77 = .ok (.iaload, 1) := by decide +kernel
theorem d_Walker_passPhase_78 : decode b_Walker_passPhase 78 = .ok (.isub, 1) := by decide +kernel
theorem d_Walker_passPhase_79 : decode b_Walker_passPhase 79 = .ok (.istore_n 1, 1) := by decide +kernel
theorem d_Walker_passPhase_80 : decode b_Walker_passPhase 80 = .ok (.aload_n 0, 1) := by decide +kernel
theorem d_Walker_passPhase_81 : decode b_Walker_passPhase 81 = .ok (.aload_n 0, 1) := by decide +kernel
theorem d_Walker_passPhase_82 : decode b_Walker_passPhase 82 = .ok (.aload_n 0, 1) := by decide +kernel
theorem d_Walker_passPhase_83 : decode b_Walker_passPhase 83 = .ok (.getfield 48, 3) := by decide +kernel
theorem d_Walker_passPhase_86 : decode b_Walker_passPhase 86 = .ok (.invokevirtual 72, 3) := by decide +kernel
theorem d_Walker_passPhase_89 : decode b_Walker_passPhase 89 = .ok (.putfield 48, 3) := by decide +kernel
theorem d_Walker_passPhase_92 : decode b_Walker_passPhase 92 = .ok (.aload_n 0, 1) := by decide +kernel
theorem d_Walker_passPhase_93 : decode b_Walker_passPhase 93 = .ok (.aload_n 0, 1) := by decide +kernel
theorem d_Walker_passPhase_94 : decode b_Walker_passPhase 94 = .ok (.getfield 51, 3) := by decide +kernel
theorem d_Walker_passPhase_97 : decode b_Walker_passPhase 97 = .ok (.ifCond .ne 7, 3) := by decide +kernel
theorem d_Walker_passPhase_100 : decode b_Walker_passPhase 100 = .ok (.iconst 1, 1) := by decide +kernel
theorem d_Walker_passPhase_101 : decode b_Walker_passPhase 101 = .ok (.goto 4, 3) := by decide +kernel
theorem d_Walker_passPhase_104 : decode b_Walker_passPhase 104 = .ok (.iconst 0, 1) := by decide +kernel
theorem d_Walker_passPhase_105 : decode b_Walker_passPhase 105 = .ok (.putfield 51, 3) := by decide +kernel
theorem d_Walker_passPhase_108 : decode b_Walker_passPhase 108 = .ok (.iinc 2 1, 3) := by decide +kernel
theorem d_Walker_passPhase_111 : decode b_Walker_passPhase 111 = .ok (.goto (-68), 3) := by decide +kernel
theorem d_Walker_passPhase_114 : decode b_Walker_passPhase 114 = .ok (.aload_n 0, 1) := by decide +kernel
theorem d_Walker_passPhase_115 : decode b_Walker_passPhase 115 = .ok (.sipush 256, 3) := by decide +kernel
theorem d_Walker_passPhase_118 : decode b_Walker_passPhase 118 = .ok (.aload_n 0, 1) := by decide +kernel
theorem d_Walker_passPhase_119 : decode b_Walker_passPhase 119 = .ok (.getfield 15, 3) := by decide +kernel
theorem d_Walker_passPhase_122 : decode b_Walker_passPhase 122 = .ok (.getfield 68, 3) := by decide +kernel
theorem d_Walker_passPhase_125 : decode b_Walker_passPhase 125 = .ok (.aload_n 0, 1) := by decide +kernel
theorem d_Walker_passPhase_126 : decode b_Walker_passPhase 126 = .ok (.getfield 48, 3) := by decide +kernel
theorem d_Walker_passPhase_129 : decode b_Walker_passPhase 129 = .ok (.iaload, 1) := by decide +kernel
theorem d_Walker_passPhase_130 : decode b_Walker_passPhase 130 = .ok (.iload_n 1, 1) := by decide +kernel
theorem d_Walker_passPhase_131 : decode b_Walker_passPhase 131 = .ok (.isub, 1) := by decide +kernel
theorem d_Walker_passPhase_132 : decode b_Walker_passPhase 132 = .ok (.imul, 1) := by decide +kernel
theorem d_Walker_passPhase_133 : decode b_Walker_passPhase 133 = .ok (.putfield 76, 3) := by decide +kernel
theorem d_Walker_passPhase_136 : decode b_Walker_passPhase 136 = .ok (.return_, 1) := by decide +kernel
theorem d_Walker_dashAfter_0 : decode b_Walker_dashAfter 0 = .ok (.iload_n 1, 1) := by decide +kernel
theorem d_Walker_dashAfter_1 : decode b_Walker_dashAfter 1 = .ok (.iconst 1, 1) := by decide +kernel
theorem d_Walker_dashAfter_2 : decode b_Walker_dashAfter 2 = .ok (.iadd, 1) := by decide +kernel
theorem d_Walker_dashAfter_3 : decode b_Walker_dashAfter 3 = .ok (.aload_n 0, 1) := by decide +kernel
theorem d_Walker_dashAfter_4 : decode b_Walker_dashAfter 4 = .ok (.getfield 15, 3) := by decide +kernel
theorem d_Walker_dashAfter_7 : decode b_Walker_dashAfter 7 = .ok (.getfield 79, 3) := by decide +kernel
theorem d_Walker_dashAfter_10 : decode b_Walker_dashAfter 10 = .ok (.if_icmp .ge 9, 3) := by decide +kernel
theorem d_Walker_dashAfter_13 : decode b_Walker_dashAfter 13 = .ok (.iload_n 1, 1) := by decide +kernel
theorem d_Walker_dashAfter_14 : decode b_Walker_dashAfter 14 = .ok (.iconst 1, 1) := by decide +kernel
theorem d_Walker_dashAfter_15 : decode b_Walker_dashAfter 15 = .ok (.iadd, 1) := by decide +kernel
theorem d_Walker_dashAfter_16 : decode b_Walker_dashAfter 16 = .ok (.goto 4, 3) := by decide +kernel
theorem d_Walker_dashAfter_19 : decode b_Walker_dashAfter 19 = .ok (.iconst 0, 1) := by decide +kernel
theorem d_Walker_dashAfter_20 : decode b_Walker_dashAfter 20 = .ok (.ireturn, 1) := by decide +kernel
theorem d_Walker_walkSubpath_0 : decode b_Walker_walkSubpath 0 = .ok (.aload_n 0, 1) := by decide +kernel
theorem d_Walker_walkSubpath_1 : decode b_Walker_walkSubpath 1 = .ok (.getfield 9, 3) := by decide +kernel
theorem d_Walker_walkSubpath_4 : decode b_Walker_walkSubpath 4 = .ok (.getfield 82, 3) := by decide +kernel
theorem d_Walker_walkSubpath_7 : decode b_Walker_walkSubpath 7 = .ok (.iload_n 1, 1) := by decide +kernel
theorem d_Walker_walkSubpath_8 : decode b_Walker_walkSubpath 8 = .ok (.iaload, 1) := by decide +kernel
theorem d_Walker_walkSubpath_9 : decode b_Walker_walkSubpath 9 = .ok (.istore_n 2, 1) := by decide +kernel
theorem d_Walker_walkSubpath_10 : decode b_Walker_walkSubpath 10 = .ok (.aload_n 0, 1) := by decide +kernel
theorem d_Walker_walkSubpath_11 : decode b_Walker_walkSubpath 11 = .ok (.getfield 9, 3) := by decide +kernel
theorem d_Walker_walkSubpath_14 : decode b_Walker_walkSubpath 14 = .ok (.iload_n 1, 1) := by decide +kernel
theorem d_Walker_walkSubpath_15 : decode b_Walker_walkSubpath 15 = .ok (.invokevirtual 85, 3) := by decide +kernel
theorem d_Walker_walkSubpath_18 : decode b_Walker_walkSubpath 18 = .ok (.istore_n 3, 1) := by decide +kernel
theorem d_Walker_walkSubpath_19 : decode b_Walker_walkSubpath 19 = .ok (.aload_n 0, 1) := by decide +kernel
theorem d_Walker_walkSubpath_20 : decode b_Walker_walkSubpath 20 = .ok (.getfield 9, 3) := by decide +kernel
theorem d_Walker_walkSubpath_23 : decode b_Walker_walkSubpath 23 = .ok (.getfield 88, 3) := by decide +kernel
theorem d_Walker_walkSubpath_26 : decode b_Walker_walkSubpath 26 = .ok (.iload_n 1, 1) := by decide +kernel
theorem d_Walker_walkSubpath_27 : decode b_Walker_walkSubpath 27 = .ok (.baload, 1) := by decide +kernel
theorem d_Walker_walkSubpath_28 : decode b_Walker_walkSubpath 28 = .ok (.istore 4, 2) := by decide +kernel
theorem d_Walker_walkSubpath_30 : decode b_Walker_walkSubpath 30 = .ok (.aload_n 0, 1) := by decide +kernel
theorem d_Walker_walkSubpath_31 : decode b_Walker_walkSubpath 31 = .ok (.getfield 19, 3) := by decide +kernel
theorem d_Walker_walkSubpath_34 : decode b_Walker_walkSubpath 34 = .ok (.getfield 92, 3) := by decide +kernel
theorem d_Walker_walkSubpath_37 : decode b_Walker_walkSubpath 37 = .ok (.istore 5, 2) := by decide +kernel
theorem d_Walker_walkSubpath_39 : decode b_Walker_walkSubpath 39 = .ok (.iload 4, 2) := by decide +kernel
theorem d_Walker_walkSubpath_41 : decode b_Walker_walkSubpath 41 = .ok (.ifCond .eq 7, 3) := by decide +kernel
theorem d_Walker_walkSubpath_44 : decode b_Walker_walkSubpath 44 = .ok (.iload_n 3, 1) := by decide +kernel
theorem d_Walker_walkSubpath_45 : decode b_Walker_walkSubpath 45 = .ok (.goto 6, 3) := by decide +kernel
theorem d_Walker_walkSubpath_48 : decode b_Walker_walkSubpath 48 = .ok (.iload_n 3, 1) := by decide +kernel
theorem d_Walker_walkSubpath_49 : decode b_Walker_walkSubpath 49 = .ok (.iconst 1, 1) := by decide +kernel
theorem d_Walker_walkSubpath_50 : decode b_Walker_walkSubpath 50 = .ok (.isub, 1) := by decide +kernel
theorem d_Walker_walkSubpath_51 : decode b_Walker_walkSubpath 51 = .ok (.istore 6, 2) := by decide +kernel
theorem d_Walker_walkSubpath_53 : decode b_Walker_walkSubpath 53 = .ok (.aload_n 0, 1) := by decide +kernel
theorem d_Walker_walkSubpath_54 : decode b_Walker_walkSubpath 54 = .ok (.getfield 15, 3) := by decide +kernel
theorem d_Walker_walkSubpath_57 : decode b_Walker_walkSubpath 57 = .ok (.invokevirtual 95, 3) := by decide +kernel
theorem d_Walker_walkSubpath_60 : decode b_Walker_walkSubpath 60 = .ok (.istore 7, 2) := by decide +kernel
theorem d_Walker_walkSubpath_62 : decode b_Walker_walkSubpath 62 = .ok (.iconst 0, 1) := by decide +kernel
theorem d_Walker_walkSubpath_63 : decode b_Walker_walkSubpath 63 = .ok (.istore 8, 2) := by decide +kernel
theorem d_Walker_walkSubpath_65 : decode b_Walker_walkSubpath 65 = .ok (.aload_n 0, 1) := by decide +kernel
theorem d_Walker_walkSubpath_66 : decode b_Walker_walkSubpath 66 = .ok (.aload_n 0, 1) := by decide +kernel
theorem d_Walker_walkSubpath_67 : decode b_Walker_walkSubpath 67 = .ok (.getfield 48, 3) := by decide +kernel
theorem d_Walker_walkSubpath_70 : decode b_Walker_walkSubpath 70 = .ok (.putfield 99, 3) := by decide +kernel
theorem d_Walker_walkSubpath_73 : decode b_Walker_walkSubpath 73 = .ok (.aload_n 0, 1) := by decide +kernel
theorem d_Walker_walkSubpath_74 : decode b_Walker_walkSubpath 74 = .ok (.aload_n 0, 1) := by decide +kernel
theorem d_Walker_walkSubpath_75 : decode b_Walker_walkSubpath 75 = .ok (.getfield 51, 3) := by decide +kernel
theorem d_Walker_walkSubpath_78 : decode b_Walker_walkSubpath 78 = .ok (.putfield 102, 3) := by decide +kernel
theorem d_Walker_walkSubpath_81 : decode b_Walker_walkSubpath 81 = .ok (.aload_n 0, 1) := by decide +kernel
theorem d_Walker_walkSubpath_82 : decode b_Walker_walkSubpath 82 = .ok (.aload_n 0, 1) := by decide +kernel
theorem d_Walker_walkSubpath_83 : decode b_Walker_walkSubpath 83 = .ok (.getfield 76, 3) := by decide +kernel
theorem d_Walker_walkSubpath_86 : decode b_Walker_walkSubpath 86 = .ok (.putfield 105, 3) := by decide +kernel
theorem d_Walker_walkSubpath_89 : decode b_Walker_walkSubpath 89 = .ok (.iload_n 2, 1) := by decide +kernel
theorem d_Walker_walkSubpath_90 : decode b_Walker_walkSubpath 90 = .ok (.iconst 1, 1) := by decide +kernel
theorem d_Walker_walkSubpath_91 : decode b_Walker_walkSubpath 91 = .ok (.iadd, 1) := by decide +kernel
theorem d_Walker_walkSubpath_92 : decode b_Walker_walkSubpath 92 = .ok (.istore 9, 2) := by decide +kernel
theorem d_Walker_walkSubpath_94 : decode b_Walker_walkSubpath 94 = .ok (.iload 9, 2) := by decide +kernel
theorem d_Walker_walkSubpath_96 : decode b_Walker_walkSubpath 96 = .ok (.iload 6, 2) := by decide +kernel
theorem d_Walker_walkSubpath_98 : decode b_Walker_walkSubpath 98 = .ok (.if_icmp .gt 66, 3) := by decide +kernel
theorem d_Walker_walkSubpath_101 : decode b_Walker_walkSubpath 101 = .ok (.aload_n 0, 1) := by decide +kernel
theorem d_Walker_walkSubpath_102 : decode b_Walker_walkSubpath 102 = .ok (.getfield 19, 3) := by decide +kernel
theorem d_Walker_walkSubpath_105 : decode b_Walker_walkSubpath 105 = .ok (.getfield 41, 3) := by decide +kernel
theorem d_Walker_walkSubpath_108 : decode b_Walker_walkSubpath 108 = .ok (.ifCond .ne 56, 3) := by decide +kernel
theorem d_Walker_walkSubpath_111 : decode b_Walker_walkSubpath 111 = .ok (.aload_n 0, 1) := by decide +kernel
theorem d_Walker_walkSubpath_112 : decode b_Walker_walkSubpath 112 = .ok (.iload 9, 2) := by decide +kernel
theorem d_Walker_walkSubpath_114 : decode b_Walker_walkSubpath 114 = .ok (.iconst 1, 1) := by decide +kernel
theorem d_Walker_walkSubpath_115 : decode b_Walker_walkSubpath 115 = .ok (.isub, 1) := by decide +kernel
theorem d_Walker_walkSubpath_116 : decode b_Walker_walkSubpath 116 = .ok (.iload 9, 2) := by decide +kernel
theorem d_Walker_walkSubpath_118 : decode b_Walker_walkSubpath 118 = .ok (.iload_n 3, 1) := by decide +kernel
theorem d_Walker_walkSubpath_119 : decode b_Walker_walkSubpath 119 = .ok (.if_icmp .ge 8, 3) := by decide +kernel
theorem d_Walker_walkSubpath_122 : decode b_Walker_walkSubpath 122 = .ok (.iload 9, 2) := by decide +kernel
theorem d_Walker_walkSubpath_124 : decode b_Walker_walkSubpath 124 = .ok (.goto 4, 3) := by decide +kernel
theorem d_Walker_walkSubpath_127 : decode b_Walker_walkSubpath 127 = .ok (.iload_n 2, 1) := by decide +kernel
theorem d_Walker_walkSubpath_128 : decode b_Walker_walkSubpath 128 = .ok (.invokevirtual 108, 3) := by decide +kernel
theorem d_Walker_walkSubpath_131 : decode b_Walker_walkSubpath 131 = .ok (.ifCond .eq 27, 3) := by decide +kernel
theorem d_Walker_walkSubpath_134 : decode b_Walker_walkSubpath 134 = .ok (.iconst 1, 1) := by decide +kernel
theorem d_Walker_walkSubpath_135 : decode b_Walker_walkSubpath 135 = .ok (.istore 8, 2) := by decide +kernel
theorem d_Walker_walkSubpath_137 : decode b_Walker_walkSubpath 137 = .ok (.iload 7, 2) := by decide +kernel
theorem d_Walker_walkSubpath_139 : decode b_Walker_walkSubpath 139 = .ok (.ifCond .eq 10, 3) := by decide +kernel
theorem d_Walker_walkSubpath_142 : decode b_Walker_walkSubpath 142 = .ok (.aload_n 0, 1) := by decide +kernel
theorem d_Walker_walkSubpath_143 : decode b_Walker_walkSubpath 143 = .ok (.invokevirtual 112, 3) := by decide +kernel
theorem d_Walker_walkSubpath_146 : decode b_Walker_walkSubpath 146 = .ok (.goto 12, 3) := by decide +kernel
theorem d_Walker_walkSubpath_149 : decode b_Walker_walkSubpath 149 = .ok (.aload_n 0, 1) := by decide +kernel
theorem d_Walker_walkSubpath_150 : decode b_Walker_walkSubpath 150 = .ok (.iconst 0, 1) := by decide +kernel
theorem d_Walker_walkSubpath_151 : decode b_Walker_walkSubpath 151 = .ok (.aload_n 0, 1) := by decide +kernel
theorem d_Walker_walkSubpath_152 : decode b_Walker_walkSubpath 152 = .ok (.getfield 115, 3) := by decide +kernel
theorem d_Walker_walkSubpath_155 : decode b_Walker_walkSubpath 155 = .ok (.invokevirtual 118, 3) := by decide +kernel
theorem d_Walker_walkSubpath_158 : decode b_Walker_walkSubpath 158 = .ok (.iinc 9 1, 3) := by decide +kernel
theorem d_Walker_walkSubpath_161 : decode b_Walker_walkSubpath 161 = .ok (.goto (-67), 3) := by decide +kernel
theorem d_Walker_walkSubpath_164 : decode b_Walker_walkSubpath 164 = .ok (.iload 8, 2) := by decide +kernel
theorem d_Walker_walkSubpath_166 : decode b_Walker_walkSubpath 166 = .ok (.ifCond .ne 46, 3) := by decide +kernel
theorem d_Walker_walkSubpath_169 : decode b_Walker_walkSubpath 169 = .ok (.iload 4, 2) := by decide +kernel
theorem d_Walker_walkSubpath_171 : decode b_Walker_walkSubpath 171 = .ok (.ifCond .ne 10, 3) := by decide +kernel
theorem d_Walker_walkSubpath_174 : decode b_Walker_walkSubpath 174 = .ok (.iload_n 3, 1) := by decide +kernel
theorem d_Walker_walkSubpath_175 : decode b_Walker_walkSubpath 175 = .ok (.iload_n 2, 1) := by decide +kernel
theorem d_Walker_walkSubpath_176 : decode b_Walker_walkSubpath 176 = .ok (.isub, 1) := by decide +kernel
theorem d_Walker_walkSubpath_177 : decode b_Walker_walkSubpath 177 = .ok (.iconst 1, 1) := by decide +kernel
theorem d_Walker_walkSubpath_178 : decode b_Walker_walkSubpath 178 = .ok (.if_icmp .le 34, 3) := by decide +kernel
theorem d_Walker_walkSubpath_181 : decode b_Walker_walkSubpath 181 = .ok (.aload_n 0, 1) := by decide +kernel
theorem d_Walker_walkSubpath_182 : decode b_Walker_walkSubpath 182 = .ok (.getfield 19, 3) := by decide +kernel
theorem d_Walker_walkSubpath_185 : decode b_Walker_walkSubpath 185 = .ok (.bipush 16, 2) := by decide +kernel
theorem d_Walker_walkSubpath_187 : decode b_Walker_walkSubpath 187 = .ok (.aload_n 0, 1) := by decide +kernel
theorem d_Walker_walkSubpath_188 : decode b_Walker_walkSubpath 188 = .ok (.getfield 9, 3) := by decide +kernel
theorem d_Walker_walkSubpath_191 : decode b_Walker_walkSubpath 191 = .ok (.getfield 122, 3) := by decide +kernel
theorem d_Walker_walkSubpath_194 : decode b_Walker_walkSubpath 194 = .ok (.iload_n 2, 1) := by decide +kernel
theorem d_Walker_walkSubpath_195 : decode b_Walker_walkSubpath 195 = .ok (.iaload, 1) := by decide +kernel
theorem d_Walker_walkSubpath_196 : decode b_Walker_walkSubpath 196 = .ok (.imul, 1) := by decide +kernel
theorem d_Walker_walkSubpath_197 : decode b_Walker_walkSubpath 197 = .ok (.bipush 16, 2) := by decide +kernel
theorem d_Walker_walkSubpath_199 : decode b_Walker_walkSubpath 199 = .ok (.aload_n 0, 1) := by decide +kernel
theorem d_Walker_walkSubpath_200 : decode b_Walker_walkSubpath 200 = .ok (.getfield 9, 3) := by decide +kernel
theorem d_Walker_walkSubpath_203 : decode b_Walker_walkSubpath 203 = .ok (.getfield 125, 3) := by decide +kernel
theorem d_Walker_walkSubpath_206 : decode b_Walker_walkSubpath 206 = .ok (.iload_n 2, 1) := by decide +kernel
theorem d_Walker_walkSubpath_207 : decode b_Walker_walkSubpath 207 = .ok (.iaload, 1) := by decide +kernel
theorem d_Walker_walkSubpath_208 : decode b_Walker_walkSubpath 208 = .ok (.imul, 1) := by decide +kernel
theorem d_Walker_walkSubpath_209 : decode b_Walker_walkSubpath 209 = .ok (.invokevirtual 128, 3) := by decide +kernel
theorem d_Walker_walkSubpath_212 : decode b_Walker_walkSubpath 212 = .ok (.iload 4, 2) := by decide +kernel
theorem d_Walker_walkSubpath_214 : decode b_Walker_walkSubpath 214 = .ok (.ifCond .eq 17, 3) := by decide +kernel
theorem d_Walker_walkSubpath_217 : decode b_Walker_walkSubpath 217 = .ok (.iload 7, 2) := by decide +kernel
theorem d_Walker_walkSubpath_219 : decode b_Walker_walkSubpath 219 = .ok (.ifCond .ne 12, 3) := by decide +kernel
theorem d_Walker_walkSubpath_222 : decode b_Walker_walkSubpath 222 = .ok (.aload_n 0, 1) := by decide +kernel
theorem d_Walker_walkSubpath_223 : decode b_Walker_walkSubpath 223 = .ok (.getfield 19, 3) := by decide +kernel
theorem d_Walker_walkSubpath_226 : decode b_Walker_walkSubpath 226 = .ok (.iload 5, 2) := by decide +kernel
theorem d_Walker_walkSubpath_228 : decode b_Walker_walkSubpath 228 = .ok (.invokevirtual 131, 3) := by decide +kernel
theorem d_Walker_walkSubpath_231 : decode b_Walker_walkSubpath 231 = .ok (.aload_n 0, 1) := by decide +kernel
theorem d_Walker_walkSubpath_232 : decode b_Walker_walkSubpath 232 = .ok (.getfield 19, 3) := by decide +kernel
theorem d_Walker_walkSubpath_235 : decode b_Walker_walkSubpath 235 = .ok (.iconst 1, 1) := by decide +kernel
theorem d_Walker_walkSubpath_236 : decode b_Walker_walkSubpath 236 = .ok (.invokevirtual 134, 3) := by decide +kernel
theorem d_Walker_walkSubpath_239 : decode b_Walker_walkSubpath 239 = .ok (.return_, 1) := by decide +kernel
theorem d_Walker_takeSegment_0 : decode b_Walker_takeSegment 0 = .ok (.aload_n 0, 1) := by decide +kernel
theorem d_Walker_takeSegment_1 : decode b_Walker_takeSegment 1 = .ok (.aload_n 0, 1) := by decide +kernel
theorem d_Walker_takeSegment_2 : decode b_Walker_takeSegment 2 = .ok (.getfield 9, 3) := by decide +kernel
theorem d_Walker_takeSegment_5 : decode b_Walker_takeSegment 5 = .ok (.getfield 122, 3) := by decide +kernel
theorem d_Walker_takeSegment_8 : decode b_Walker_takeSegment 8 = .ok (.iload_n 1, 1) := by decide +kernel
theorem d_Walker_takeSegment_9 : decode b_Walker_takeSegment 9 = .ok (.iaload, 1) := by decide +kernel
theorem d_Walker_takeSegment_10 : decode b_Walker_takeSegment 10 = .ok (.putfield 137, 3) := by decide +kernel
theorem d_Walker_takeSegment_13 : decode b_Walker_takeSegment 13 = .ok (.aload_n 0, 1) := by decide +kernel
theorem d_Walker_takeSegment_14 : decode b_Walker_takeSegment 14 = .ok (.aload_n 0, 1) := by decide +kernel
theorem d_Walker_takeSegment_15 : decode b_Walker_takeSegment 15 = .ok (.getfield 9, 3) := by decide +kernel
theorem d_Walker_takeSegment_18 : decode b_Walker_takeSegment 18 = .ok (.getfield 125, 3) := by decide +kernel
theorem d_Walker_takeSegment_21 : decode b_Walker_takeSegment 21 = .ok (.iload_n 1, 1) := by decide +kernel
theorem d_Walker_takeSegment_22 : decode b_Walker_takeSegment 22 = .ok (.iaload, 1) := by decide +kernel
theorem d_Walker_takeSegment_23 : decode b_Walker_takeSegment 23 = .ok (.putfield 140, 3) := by decide +kernel
theorem d_Walker_takeSegment_26 : decode b_Walker_takeSegment 26 = .ok (.aload_n 0, 1) := by decide +kernel
theorem d_Walker_takeSegment_27 : decode b_Walker_takeSegment 27 = .ok (.aload_n 0, 1) := by decide +kernel
theorem d_Walker_takeSegment_28 : decode b_Walker_takeSegment 28 = .ok (.getfield 9, 3) := by decide +kernel
theorem d_Walker_takeSegment_31 : decode b_Walker_takeSegment 31 = .ok (.getfield 122, 3) := by decide +kernel
theorem d_Walker_takeSegment_34 : decode b_Walker_takeSegment 34 = .ok (.iload_n 2, 1) := by decide +kernel
theorem d_Walker_takeSegment_35 : decode b_Walker_takeSegment 35 = .ok (.iaload, 1) := by decide +kernel
theorem d_Walker_takeSegment_36 : decode b_Walker_takeSegment 36 = .ok (.aload_n 0, 1) := by decide +kernel
theorem d_Walker_takeSegment_37 : decode b_Walker_takeSegment 37 = .ok (.getfield 137, 3) := by decide +kernel
theorem d_Walker_takeSegment_40 : decode b_Walker_takeSegment 40 = .ok (.isub, 1) := by decide +kernel
theorem d_Walker_takeSegment_41 : decode b_Walker_takeSegment 41 = .ok (.putfield 143, 3) := by decide +kernel
theorem d_Walker_takeSegment_44 : decode b_Walker_takeSegment 44 = .ok (.aload_n 0, 1) := by decide +kernel
theorem d_Walker_takeSegment_45 : decode b_Walker_takeSegment 45 = .ok (.aload_n 0, 1) := by decide +kernel
theorem d_Walker_takeSegment_46 : decode b_Walker_takeSegment 46 = .ok (.getfield 9, 3) := by decide +kernel
theorem d_Walker_takeSegment_49 : decode b_Walker_takeSegment 49 = .ok (.getfield 125, 3) := by decide +kernel
theorem d_Walker_takeSegment_52 : decode b_Walker_takeSegment 52 = .ok (.iload_n 2, 1) := by decide +kernel
theorem d_Walker_takeSegment_53 : decode b_Walker_takeSegment 53 = .ok (.iaload, 1) := by decide +kernel
theorem d_Walker_takeSegment_54 : decode b_Walker_takeSegment 54 = .ok (.aload_n 0, 1) := by decide +kernel
theorem d_Walker_takeSegment_55 : decode b_Walker_takeSegment 55 = .ok (.getfield 140, 3) := by decide +kernel
theorem d_Walker_takeSegment_58 : decode b_Walker_takeSegment 58 = .ok (.isub, 1) := by decide +kernel
theorem d_Walker_takeSegment_59 : decode b_Walker_takeSegment 59 = .ok (.putfield 146, 3) := by decide +kernel
theorem d_Walker_takeSegment_62 : decode b_Walker_takeSegment 62 = .ok (.aload_n 0, 1) := by decide +kernel
theorem d_Walker_takeSegment_63 : decode b_Walker_takeSegment 63 = .ok (.getfield 143, 3) := by decide +kernel
theorem d_Walker_takeSegment_66 : decode b_Walker_takeSegment 66 = .ok (.ifCond .ne 12, 3) := by decide +kernel
theorem d_Walker_takeSegment_69 : decode b_Walker_takeSegment 69 = .ok (.aload_n 0, 1) := by decide +kernel
theorem d_Walker_takeSegment_70 : decode b_Walker_takeSegment 70 = .ok (.getfield 146, 3) := by decide +kernel
theorem d_Walker_takeSegment_73 : decode b_Walker_takeSegment 73 = .ok (.ifCond .ne 5, 3) := by decide +kernel
theorem d_Walker_takeSegment_76 : decode b_Walker_takeSegment 76 = .ok (.iconst 0, 1) := by decide +kernel
theorem d_Walker_takeSegment_77 : decode b_Walker_takeSegment 77 = .ok (.ireturn, 1) := by decide +kernel
theorem d_Walker_takeSegment_78 : decode b_Walker_takeSegment 78 = .ok (.aload_n 0, 1) := by decide +kernel
theorem d_Walker_takeSegment_79 : decode b_Walker_takeSegment 79 = .ok (.getfield 143, 3) := by decide +kernel
theorem d_Walker_takeSegment_82 : decode b_Walker_takeSegment 82 = .ok (.i2l, 1) := by decide +kernel
theorem d_Walker_takeSegment_83 : decode b_Walker_takeSegment 83 = .ok (.aload_n 0, 1) := by decide +kernel
theorem d_Walker_takeSegment_84 : decode b_Walker_takeSegment 84 = .ok (.getfield 143, 3) := by decide +kernel
theorem d_Walker_takeSegment_87 : decode b_Walker_takeSegment 87 = .ok (.i2l, 1) := by decide +kernel
theorem d_Walker_takeSegment_88 : decode b_Walker_takeSegment 88 = .ok (.lmul, 1) := by decide +kernel
theorem d_Walker_takeSegment_89 : decode b_Walker_takeSegment 89 = .ok (.aload_n 0, 1) := by decide +kernel
theorem d_Walker_takeSegment_90 : decode b_Walker_takeSegment 90 = .ok (.getfield 146, 3) := by decide +kernel
theorem d_Walker_takeSegment_93 : decode b_Walker_takeSegment 93 = .ok (.i2l, 1) := by decide +kernel
theorem d_Walker_takeSegment_94 : decode b_Walker_takeSegment 94 = .ok (.aload_n 0, 1) := by decide +kernel
theorem d_Walker_takeSegment_95 : decode b_Walker_takeSegment 95 = .ok (.getfield 146, 3) := by decide +kernel
theorem d_Walker_takeSegment_98 : decode b_Walker_takeSegment 98 = .ok (.i2l, 1) := by decide +kernel
theorem d_Walker_takeSegment_99 : decode b_Walker_takeSegment 99 = .ok (.lmul, 1) := by decide +kernel
theorem d_Walker_takeSegment_100 : decode b_Walker_takeSegment 100 = .ok (.ladd, 1) := by decide +kernel
theorem d_Walker_takeSegment_101 : decode b_Walker_takeSegment 101 = .ok (.lstore_n 3, 1) := by decide +kernel
theorem d_Walker_takeSegment_102 : decode b_Walker_takeSegment 102 = .ok (.aload_n 0, 1) := by decide +kernel
theorem d_Walker_takeSegment_103 : decode b_Walker_takeSegment 103 = .ok (.aload_n 0, 1) := by decide +kernel
theorem d_Walker_takeSegment_104 : decode b_Walker_takeSegment 104 = .ok (.aload_n 0, 1) := by decide +kernel
theorem d_Walker_takeSegment_105 : decode b_Walker_takeSegment 105 = .ok (.getfield 146, 3) := by decide +kernel
theorem d_Walker_takeSegment_108 : decode b_Walker_takeSegment 108 = .ok (.lload_n 3, 1) := by decide +kernel
theorem d_Walker_takeSegment_109 : decode b_Walker_takeSegment 109 = .ok (.invokevirtual 149, 3) := by decide +kernel
theorem d_Walker_takeSegment_112 : decode b_Walker_takeSegment 112 = .ok (.putfield 153, 3) := by decide +kernel
theorem d_Walker_takeSegment_115 : decode b_Walker_takeSegment 115 = .ok (.aload_n 0, 1) := by decide +kernel
theorem d_Walker_takeSegment_116 : decode b_Walker_takeSegment 116 = .ok (.aload_n 0, 1) := by decide +kernel
theorem d_Walker_takeSegment_117 : decode b_Walker_takeSegment 117 = .ok (.aload_n 0, 1) := by decide +kernel
theorem d_Walker_takeSegment_118 : decode b_Walker_takeSegment 118 = .ok (.getfield 143, 3) := by decide +kernel
theorem d_Walker_takeSegment_121 : decode b_Walker_takeSegment 121 = .ok (.lload_n 3, 1) := by decide +kernel
theorem d_Walker_takeSegment_122 : decode b_Walker_takeSegment 122 = .ok (.invokevirtual 149, 3) := by decide +kernel
theorem d_Walker_takeSegment_125 : decode b_Walker_takeSegment 125 = .ok (.ineg, 1) := by decide +kernel
theorem d_Walker_takeSegment_126 : decode b_Walker_takeSegment 126 = .ok (.putfield 156, 3) := by decide +kernel
theorem d_Walker_takeSegment_129 : decode b_Walker_takeSegment 129 = .ok (.aload_n 0, 1) := by decide +kernel
theorem d_Walker_takeSegment_130 : decode b_Walker_takeSegment 130 = .ok (.ldc2_w 159, 3) := by decide +kernel
theorem d_Walker_takeSegment_133 : decode b_Walker_takeSegment 133 = .ok (.lload_n 3, 1) := by decide +kernel
theorem d_Walker_takeSegment_134 : decode b_Walker_takeSegment 134 = .ok (.lmul, 1) := by decide +kernel
theorem d_Walker_takeSegment_135 : decode b_Walker_takeSegment 135 = .ok (.invokestatic 161, 3) := by decide +kernel
theorem d_Walker_takeSegment_138 : decode b_Walker_takeSegment 138 = .ok (.l2i, 1) := by decide +kernel
theorem d_Walker_takeSegment_139 : decode b_Walker_takeSegment 139 = .ok (.putfield 115, 3) := by decide +kernel
theorem d_Walker_takeSegment_142 : decode b_Walker_takeSegment 142 = .ok (.iconst 1, 1) := by decide +kernel
theorem d_Walker_takeSegment_143 : decode b_Walker_takeSegment 143 = .ok (.ireturn, 1) := by decide +kernel
theorem d_Walker_offsetPart_0 : decode b_Walker_offsetPart 0 = .ok (.lload_n 2, 1) := by decide +kernel
theorem d_Walker_offsetPart_1 : decode b_Walker_offsetPart 1 = .ok (.lconst 0, 1) := by decide +kernel
theorem d_Walker_offsetPart_2 : decode b_Walker_offsetPart 2 = .ok (.lcmp, 1) := by decide +kernel
theorem d_Walker_offsetPart_3 : decode b_Walker_offsetPart 3 = .ok (.ifCond .gt 5, 3) := by decide +kernel
theorem d_Walker_offsetPart_6 : decode b_Walker_offsetPart 6 = .ok (.iconst 0, 1) := by decide +kernel
theorem d_Walker_offsetPart_7 : decode b_Walker_offsetPart 7 = .ok (.ireturn, 1) := by decide +kernel
theorem d_Walker_offsetPart_8 : decode b_Walker_offsetPart 8 = .ok (.ldc2_w 165, 3) := by decide +kernel
theorem d_Walker_offsetPart_11 : decode b_Walker_offsetPart 11 = .ok (.aload_n 0, 1) := by decide +kernel
theorem d_Walker_offsetPart_12 : decode b_Walker_offsetPart 12 = .ok (.getfield 15, 3) := by decide +kernel
theorem d_Walker_offsetPart_15 : decode b_Walker_offsetPart 15 = .ok (.getfield 167, 3) := by decide +kernel
theorem d_Walker_offsetPart_18 : decode b_Walker_offsetPart 18 = .ok (.i2l, 1) := by decide +kernel
theorem d_Walker_offsetPart_19 : decode b_Walker_offsetPart 19 = .ok (.lmul, 1) := by decide +kernel
theorem d_Walker_offsetPart_20 : decode b_Walker_offsetPart 20 = .ok (.iload_n 1, 1) := by decide +kernel
theorem d_Walker_offsetPart_21 : decode b_Walker_offsetPart 21 = .ok (.i2l, 1) := by decide +kernel
theorem d_Walker_offsetPart_22 : decode b_Walker_offsetPart 22 = .ok (.lmul, 1) := by decide +kernel
theorem d_Walker_offsetPart_23 : decode b_Walker_offsetPart 23 = .ok (.lstore 4, 2) := by decide +kernel
theorem d_Walker_offsetPart_25 : decode b_Walker_offsetPart 25 = .ok (.lload 4, 2) := by decide +kernel
theorem d_Walker_offsetPart_27 : decode b_Walker_offsetPart 27 = .ok (.lload 4, 2) := by decide +kernel
theorem d_Walker_offsetPart_29 : decode b_Walker_offsetPart 29 = .ok (.lmul, 1) := by decide +kernel
theorem d_Walker_offsetPart_30 : decode b_Walker_offsetPart 30 = .ok (.lload_n 2, 1) := by decide +kernel
theorem d_Walker_offsetPart_31 : decode b_Walker_offsetPart 31 = .ok (.ldiv, 1) := by decide +kernel
theorem d_Walker_offsetPart_32 : decode b_Walker_offsetPart 32 = .ok (.invokestatic 161, 3) := by decide +kernel
theorem d_Walker_offsetPart_35 : decode b_Walker_offsetPart 35 = .ok (.lconst 1, 1) := by decide +kernel
theorem d_Walker_offsetPart_36 : decode b_Walker_offsetPart 36 = .ok (.ladd, 1) := by decide +kernel
theorem d_Walker_offsetPart_37 : decode b_Walker_offsetPart 37 = .ok (.ldc2_w 165, 3) := by decide +kernel
theorem d_Walker_offsetPart_40 : decode b_Walker_offsetPart 40 = .ok (.ldiv, 1) := by decide +kernel
theorem d_Walker_offsetPart_41 : decode b_Walker_offsetPart 41 = .ok (.l2i, 1) := by decide +kernel
theorem d_Walker_offsetPart_42 : decode b_Walker_offsetPart 42 = .ok (.istore 6, 2) := by decide +kernel
theorem d_Walker_offsetPart_44 : decode b_Walker_offsetPart 44 = .ok (.iload_n 1, 1) := by decide +kernel
theorem d_Walker_offsetPart_45 : decode b_Walker_offsetPart 45 = .ok (.ifCond .ge 9, 3) := by decide +kernel
theorem d_Walker_offsetPart_48 : decode b_Walker_offsetPart 48 = .ok (.iload 6, 2) := by decide +kernel
theorem d_Walker_offsetPart_50 : decode b_Walker_offsetPart 50 = .ok (.ineg, 1) := by decide +kernel
theorem d_Walker_offsetPart_51 : decode b_Walker_offsetPart 51 = .ok (.goto 5, 3) := by decide +kernel
theorem d_Walker_offsetPart_54 : decode b_Walker_offsetPart 54 = .ok (.iload 6, 2) := by decide +kernel
theorem d_Walker_offsetPart_56 : decode b_Walker_offsetPart 56 = .ok (.ireturn, 1) := by decide +kernel
theorem d_Walker_cutSegment_0 : decode b_Walker_cutSegment 0 = .ok (.iconst 0, 1) := by decide +kernel
theorem d_Walker_cutSegment_1 : decode b_Walker_cutSegment 1 = .ok (.istore_n 1, 1) := by decide +kernel
theorem d_Walker_cutSegment_2 : decode b_Walker_cutSegment 2 = .ok (.iconst 0, 1) := by decide +kernel
theorem d_Walker_cutSegment_3 : decode b_Walker_cutSegment 3 = .ok (.istore_n 2, 1) := by decide +kernel
theorem d_Walker_cutSegment_4 : decode b_Walker_cutSegment 4 = .ok (.iload_n 2, 1) := by decide +kernel
theorem d_Walker_cutSegment_5 : decode b_Walker_cutSegment 5 = .ok (.ldc 170, 2) := by decide +kernel
theorem d_Walker_cutSegment_7 : decode b_Walker_cutSegment 7 = .ok (.if_icmp .ge 138, 3) := by decide +kernel
theorem d_Walker_cutSegment_10 : decode b_Walker_cutSegment 10 = .ok (.iload_n 1, 1) := by decide +kernel
theorem d_Walker_cutSegment_11 : decode b_Walker_cutSegment 11 = .ok (.aload_n 0, 1) := by decide +kernel
theorem d_Walker_cutSegment_12 : decode b_Walker_cutSegment 12 = .ok (.getfield 115, 3) := by decide +kernel
theorem d_Walker_cutSegment_15 : decode b_Walker_cutSegment 15 = .ok (.if_icmp .lt 10, 3) := by decide +kernel
theorem d_Walker_cutSegment_18 : decode b_Walker_cutSegment 18 = .ok (.aload_n 0, 1) := by decide +kernel
theorem d_Walker_cutSegment_19 : decode b_Walker_cutSegment 19 = .ok (.getfield 105, 3) := by decide +kernel
theorem d_Walker_cutSegment_22 : decode b_Walker_cutSegment 22 = .ok (.ifCond .gt 123, 3) := by decide +kernel
theorem d_Walker_cutSegment_25 : decode b_Walker_cutSegment 25 = .ok (.aload_n 0, 1) := by decide +kernel
theorem d_Walker_cutSegment_26 : decode b_Walker_cutSegment 26 = .ok (.getfield 19, 3) := by decide +kernel
theorem d_Walker_cutSegment_29 : decode b_Walker_cutSegment 29 = .ok (.getfield 41, 3) := by decide +kernel
theorem d_Walker_cutSegment_32 : decode b_Walker_cutSegment 32 = .ok (.ifCond .ne 113, 3) := by decide +kernel
theorem d_Walker_cutSegment_35 : decode b_Walker_cutSegment 35 = .ok (.aload_n 0, 1) := by decide +kernel
theorem d_Walker_cutSegment_36 : decode b_Walker_cutSegment 36 = .ok (.getfield 115, 3) := by decide +kernel
theorem d_Walker_cutSegment_39 : decode b_Walker_cutSegment 39 = .ok (.iload_n 1, 1) := by decide +kernel
theorem d_Walker_cutSegment_40 : decode b_Walker_cutSegment 40 = .ok (.aload_n 0, 1) := by decide +kernel
theorem d_Walker_cutSegment_41 : decode b_Walker_cutSegment 41 = .ok (.getfield 105, 3) := by decide +kernel
theorem d_Walker_cutSegment_44 : decode b_Walker_cutSegment 44 = .ok (.iadd, 1) := by decide +kernel
theorem d_Walker_cutSegment_45 : decode b_Walker_cutSegment 45 = .ok (.invokestatic 171, 3) := by decide +kernel
theorem d_Walker_cutSegment_48 : decode b_Walker_cutSegment 48 = .ok (.istore_n 3, 1) := by decide +kernel
theorem d_Walker_cutSegment_49 : decode b_Walker_cutSegment 49 = .ok (.aload_n 0, 1) := by decide +kernel
theorem d_Walker_cutSegment_50 : decode b_Walker_cutSegment 50 = .ok (.getfield 102, 3) := by decide +kernel
theorem d_Walker_cutSegment_53 : decode b_Walker_cutSegment 53 = .ok (.ifCond .eq 9, 3) := by decide +kernel
theorem d_Walker_cutSegment_56 : decode b_Walker_cutSegment 56 = .ok (.aload_n 0, 1) := by decide +kernel
theorem d_Walker_cutSegment_57 : decode b_Walker_cutSegment 57 = .ok (.iload_n 1, 1) := by decide +kernel
theorem d_Walker_cutSegment_58 : decode b_Walker_cutSegment 58 = .ok (.iload_n 3, 1) := by decide +kernel
theorem d_Walker_cutSegment_59 : decode b_Walker_cutSegment 59 = .ok (.invokevirtual 118, 3) := by decide +kernel
theorem d_Walker_cutSegment_62 : decode b_Walker_cutSegment 62 = .ok (.aload_n 0, 1) := by decide +kernel
theorem d_Walker_cutSegment_63 : decode b_Walker_cutSegment 63 = .ok (.dup, 1) := by decide +kernel
theorem d_Walker_cutSegment_64 : decode b_Walker_cutSegment 64 = .ok (.getfield 105, 3) := by decide +kernel
theorem d_Walker_cutSegment_67 : decode b_Walker_cutSegment 67 = .ok (.iload_n 3, 1) := by decide +kernel
theorem d_Walker_cutSegment_68 : decode b_Walker_cutSegment 68 = .ok (.iload_n 1, 1) := by decide +kernel
theorem d_Walker_cutSegment_69 : decode b_Walker_cutSegment 69 = .ok (.isub, 1) := by decide +kernel
theorem d_Walker_cutSegment_70 : decode b_Walker_cutSegment 70 = .ok (.isub, 1) := by decide +kernel
theorem d_Walker_cutSegment_71 : decode b_Walker_cutSegment 71 = .ok (.putfield 105, 3) := by decide +kernel
theorem d_Walker_cutSegment_74 : decode b_Walker_cutSegment 74 = .ok (.iload_n 3, 1) := by decide +kernel
theorem d_Walker_cutSegment_75 : decode b_Walker_cutSegment 75 = .ok (.istore_n 1, 1) := by decide +kernel
theorem d_Walker_cutSegment_76 : decode b_Walker_cutSegment 76 = .ok (.aload_n 0, 1) := by decide +kernel
theorem d_Walker_cutSegment_77 : decode b_Walker_cutSegment 77 = .ok (.getfield 105, 3) := by decide +kernel
theorem d_Walker_cutSegment_80 : decode b_Walker_cutSegment 80 = .ok (.ifCond .gt 59, 3) := by decide +kernel
theorem d_Walker_cutSegment_83 : decode b_Walker_cutSegment 83 = .ok (.aload_n 0, 1) := by decide +kernel
theorem d_Walker_cutSegment_84 : decode b_Walker_cutSegment 84 = .ok (.getfield 19, 3) := by decide +kernel
theorem d_Walker_cutSegment_87 : decode b_Walker_cutSegment 87 = .ok (.iconst 1, 1) := by decide +kernel
theorem d_Walker_cutSegment_88 : decode b_Walker_cutSegment 88 = .ok (.invokevirtual 134, 3) := by decide +kernel
theorem d_Walker_cutSegment_91 : decode b_Walker_cutSegment 91 = .ok (.aload_n 0, 1) := by decide +kernel
theorem d_Walker_cutSegment_92 : decode b_Walker_cutSegment 92 = .ok (.aload_n 0, 1) := by decide +kernel
theorem d_Walker_cutSegment_93 : decode b_Walker_cutSegment 93 = .ok (.aload_n 0, 1) := by decide +kernel
theorem d_Walker_cutSegment_94 : decode b_Walker_cutSegment 94 = .ok (.getfield 99, 3) := by decide +kernel
theorem d_Walker_cutSegment_97 : decode b_Walker_cutSegment 97 = .ok (.invokevirtual 72, 3) := by decide +kernel
theorem d_Walker_cutSegment_100 : decode b_Walker_cutSegment 100 = .ok (.putfield 99, 3) := by decide +kernel
theorem d_Walker_cutSegment_103 : decode b_Walker_cutSegment 103 = .ok (.aload_n 0, 1) := by decide +kernel
theorem d_Walker_cutSegment_104 : decode b_Walker_cutSegment 104 = .ok (.aload_n 0, 1) := by decide +kernel
theorem d_Walker_cutSegment_105 : decode b_Walker_cutSegment 105 = .ok (.getfield 102, 3) := by decide +kernel
theorem d_Walker_cutSegment_108 : decode b_Walker_cutSegment 108 = .ok (.ifCond .ne 7, 3) := by decide +kernel
theorem d_Walker_cutSegment_111 : decode b_Walker_cutSegment 111 = .ok (.iconst 1, 1) := by decide +kernel
theorem d_Walker_cutSegment_112 : decode b_Walker_cutSegment 112 = .ok (.goto 4, 3) := by decide +kernel
theorem d_Walker_cutSegment_115 : decode b_Walker_cutSegment 115 = .ok (.iconst 0, 1) := by decide +kernel
theorem d_Walker_cutSegment_116 : decode b_Walker_cutSegment 116 = .ok (.putfield 102, 3) := by decide +kernel
theorem d_Walker_cutSegment_119 : decode b_Walker_cutSegment 119 = .ok (.aload_n 0, 1) := by decide +kernel
theorem d_Walker_cutSegment_120 : decode b_Walker_cutSegment 120 = .ok (.sipush 256, 3) := by decide +kernel
theorem d_Walker_cutSegment_123 : decode b_Walker_cutSegment 123 = .ok (.aload_n 0, 1) := by decide +kernel
theorem d_Walker_cutSegment_124 : decode b_Walker_cutSegment 124 = .ok (.getfield 15, 3) := by decide +kernel
theorem d_Walker_cutSegment_127 : decode b_Walker_cutSegment 127 = .ok (.getfield 68, 3) := by decide +kernel
theorem d_Walker_cutSegment_130 : decode b_Walker_cutSegment 130 = .ok (.aload_n 0, 1) := by decide +kernel
theorem d_Walker_cutSegment_131 : decode b_Walker_cutSegment 131 = .ok (.getfield 99, 3) := by decide +kernel
theorem d_Walker_cutSegment_134 : decode b_Walker_cutSegment 134 = .ok (.iaload, 1) := by decide +kernel
theorem d_Walker_cutSegment_135 : decode b_Walker_cutSegment 135 = .ok (.imul, 1) := by decide +kernel
theorem d_Walker_cutSegment_136 : decode b_Walker_cutSegment 136 = .ok (.putfield 105, 3) := by decide +kernel
theorem d_Walker_cutSegment_139 : decode b_Walker_cutSegment 139 = .ok (.iinc 2 1, 3) := by decide +kernel
theorem d_Walker_cutSegment_142 : decode b_Walker_cutSegment 142 = .ok (.goto (-138), 3) := by decide +kernel
theorem d_Walker_cutSegment_145 : decode b_Walker_cutSegment 145 = .ok (.return_, 1) := by decide +kernel
theorem d_Walker_addPiece_0 : decode b_Walker_addPiece 0 = .ok (.aload_n 0, 1) := by decide +kernel
theorem d_Walker_addPiece_1 : decode b_Walker_addPiece 1 = .ok (.getfield 19, 3) := by decide +kernel
theorem d_Walker_addPiece_4 : decode b_Walker_addPiece 4 = .ok (.aload_n 0, 1) := by decide +kernel
theorem d_Walker_addPiece_5 : decode b_Walker_addPiece 5 = .ok (.aload_n 0, 1) := by decide +kernel
theorem d_Walker_addPiece_6 : decode b_Walker_addPiece 6 = .ok (.getfield 137, 3) := by decide +kernel
theorem d_Walker_addPiece_9 : decode b_Walker_addPiece 9 = .ok (.aload_n 0, 1) := by decide +kernel
theorem d_Walker_addPiece_10 : decode b_Walker_addPiece 10 = .ok (.getfield 143, 3) := by decide +kernel
theorem d_Walker_addPiece_13 : decode b_Walker_addPiece 13 = .ok (.iload_n 1, 1) := by decide +kernel
theorem d_Walker_addPiece_14 : decode b_Walker_addPiece 14 = .ok (.invokevirtual 174, 3) := by decide +kernel
theorem d_Walker_addPiece_17 : decode b_Walker_addPiece 17 = .ok (.aload_n 0, 1) := by decide +kernel
theorem d_Walker_addPiece_18 : decode b_Walker_addPiece 18 = .ok (.aload_n 0, 1) := by decide +kernel
theorem d_Walker_addPiece_19 : decode b_Walker_addPiece 19 = .ok (.getfield 140, 3) := by decide +kernel
theorem d_Walker_addPiece_22 : decode b_Walker_addPiece 22 = .ok (.aload_n 0, 1) := by decide +kernel
theorem d_Walker_addPiece_23 : decode b_Walker_addPiece 23 = .ok (.getfield 146, 3) := by decide +kernel
theorem d_Walker_addPiece_26 : decode b_Walker_addPiece 26 = .ok (.iload_n 1, 1) := by decide +kernel
theorem d_Walker_addPiece_27 : decode b_Walker_addPiece 27 = .ok (.invokevirtual 174, 3) := by decide +kernel
theorem d_Walker_addPiece_30 : decode b_Walker_addPiece 30 = .ok (.aload_n 0, 1) := by decide +kernel
theorem d_Walker_addPiece_31 : decode b_Walker_addPiece 31 = .ok (.aload_n 0, 1) := by decide +kernel
theorem d_Walker_addPiece_32 : decode b_Walker_addPiece 32 = .ok (.getfield 137, 3) := by decide +kernel
theorem d_Walker_addPiece_35 : decode b_Walker_addPiece 35 = .ok (.aload_n 0, 1) := by decide +kernel
theorem d_Walker_addPiece_36 : decode b_Walker_addPiece 36 = .ok (.getfield 143, 3) := by decide +kernel
theorem d_Walker_addPiece_39 : decode b_Walker_addPiece 39 = .ok (.iload_n 2, 1) := by decide +kernel
theorem d_Walker_addPiece_40 : decode b_Walker_addPiece 40 = .ok (.invokevirtual 174, 3) := by decide +kernel
theorem d_Walker_addPiece_43 : decode b_Walker_addPiece 43 = .ok (.aload_n 0, 1) := by decide +kernel
theorem d_Walker_addPiece_44 : decode b_Walker_addPiece 44 = .ok (.aload_n 0, 1) := by decide +kernel
theorem d_Walker_addPiece_45 : decode b_Walker_addPiece 45 = .ok (.getfield 140, 3) := by decide +kernel
theorem d_Walker_addPiece_48 : decode b_Walker_addPiece 48 = .ok (.aload_n 0, 1) := by decide +kernel
theorem d_Walker_addPiece_49 : decode b_Walker_addPiece 49 = .ok (.getfield 146, 3) := by decide +kernel
theorem d_Walker_addPiece_52 : decode b_Walker_addPiece 52 = .ok (.iload_n 2, 1) := by decide +kernel
theorem d_Walker_addPiece_53 : decode b_Walker_addPiece 53 = .ok (.invokevirtual 174, 3) := by decide +kernel
theorem d_Walker_addPiece_56 : decode b_Walker_addPiece 56 = .ok (.aload_n 0, 1) := by decide +kernel
theorem d_Walker_addPiece_57 : decode b_Walker_addPiece 57 = .ok (.getfield 153, 3) := by decide +kernel
theorem d_Walker_addPiece_60 : decode b_Walker_addPiece 60 = .ok (.aload_n 0, 1) := by decide +kernel
theorem d_Walker_addPiece_61 : decode b_Walker_addPiece 61 = .ok (.getfield 156, 3) := by decide +kernel
theorem d_Walker_addPiece_64 : decode b_Walker_addPiece 64 = .ok (.invokevirtual 178, 3) := by decide +kernel
theorem d_Walker_addPiece_67 : decode b_Walker_addPiece 67 = .ok (.return_, 1) := by decide +kernel
theorem d_Walker_fineAt_0 : decode b_Walker_fineAt 0 = .ok (.aload_n 0, 1) := by decide +kernel
theorem d_Walker_fineAt_1 : decode b_Walker_fineAt 1 = .ok (.getfield 115, 3) := by decide +kernel
theorem d_Walker_fineAt_4 : decode b_Walker_fineAt 4 = .ok (.ifCond .gt 8, 3) := by decide +kernel
theorem d_Walker_fineAt_7 : decode b_Walker_fineAt 7 = .ok (.bipush 16, 2) := by decide +kernel
theorem d_Walker_fineAt_9 : decode b_Walker_fineAt 9 = .ok (.iload_n 1, 1) := by decide +kernel
theorem d_Walker_fineAt_10 : decode b_Walker_fineAt 10 = .ok (.imul, 1) := by decide +kernel
theorem d_Walker_fineAt_11 : decode b_Walker_fineAt 11 = .ok (.ireturn, 1) := by decide +kernel
theorem d_Walker_fineAt_12 : decode b_Walker_fineAt 12 = .ok (.bipush 16, 2) := by decide +kernel
theorem d_Walker_fineAt_14 : decode b_Walker_fineAt 14 = .ok (.iload_n 1, 1) := by decide +kernel
theorem d_Walker_fineAt_15 : decode b_Walker_fineAt 15 = .ok (.imul, 1) := by decide +kernel
theorem d_Walker_fineAt_16 : decode b_Walker_fineAt 16 = .ok (.ldc2_w 182, 3) := by decide +kernel
theorem d_Walker_fineAt_19 : decode b_Walker_fineAt 19 = .ok (.iload_n 2, 1) := by decide +kernel
theorem d_Walker_fineAt_20 : decode b_Walker_fineAt 20 = .ok (.i2l, 1) := by decide +kernel
theorem d_Walker_fineAt_21 : decode b_Walker_fineAt 21 = .ok (.lmul, 1) := by decide +kernel
theorem d_Walker_fineAt_22 : decode b_Walker_fineAt 22 = .ok (.iload_n 3, 1) := by decide +kernel
theorem d_Walker_fineAt_23 : decode b_Walker_fineAt 23 = .ok (.i2l, 1) := by decide +kernel
theorem d_Walker_fineAt_24 : decode b_Walker_fineAt 24 = .ok (.lmul, 1) := by decide +kernel
theorem d_Walker_fineAt_25 : decode b_Walker_fineAt 25 = .ok (.aload_n 0, 1) := by decide +kernel
theorem d_Walker_fineAt_26 : decode b_Walker_fineAt 26 = .ok (.getfield 115, 3) := by decide +kernel
theorem d_Walker_fineAt_29 : decode b_Walker_fineAt 29 = .ok (.i2l, 1) := by decide +kernel
theorem d_Walker_fineAt_30 : decode b_Walker_fineAt 30 = .ok (.ladd, 1) := by decide +kernel
theorem d_Walker_fineAt_31 : decode b_Walker_fineAt 31 = .ok (.ldc2_w 165, 3) := by decide +kernel
theorem d_Walker_fineAt_34 : decode b_Walker_fineAt 34 = .ok (.aload_n 0, 1) := by decide +kernel
theorem d_Walker_fineAt_35 : decode b_Walker_fineAt 35 = .ok (.getfield 115, 3) := by decide +kernel
theorem d_Walker_fineAt_38 : decode b_Walker_fineAt 38 = .ok (.i2l, 1) := by decide +kernel
theorem d_Walker_fineAt_39 : decode b_Walker_fineAt 39 = .ok (.lmul, 1) := by decide +kernel
theorem d_Walker_fineAt_40 : decode b_Walker_fineAt 40 = .ok (.invokestatic 184, 3) := by decide +kernel
theorem d_Walker_fineAt_43 : decode b_Walker_fineAt 43 = .ok (.l2i, 1) := by decide +kernel
theorem d_Walker_fineAt_44 : decode b_Walker_fineAt 44 = .ok (.iadd, 1) := by decide +kernel
theorem d_Walker_fineAt_45 : decode b_Walker_fineAt 45 = .ok (.ireturn, 1) := by decide +kernel
