theorem d_Mo_init_0 : decode b_Mo_init 0 = .ok (.aload_n 0, 1) := by decide +kernel
theorem d_Mo_init_1 : decode b_Mo_init 1 = .ok (.invokespecial 1, 3) := by decide +kernel
theorem d_Mo_init_4 : decode b_Mo_init 4 = .ok (.aload_n 0, 1) := by decide +kernel
theorem d_Mo_init_5 : decode b_Mo_init 5 = .ok (.sipush 1024, 3) := by decide +kernel
theorem d_Mo_init_8 : decode b_Mo_init 8 = .ok (.newarray .int, 2) := by decide +kernel
theorem d_Mo_init_10 : decode b_Mo_init 10 = .ok (.putfield 7, 3) := by decide +kernel
theorem d_Mo_init_13 : decode b_Mo_init 13 = .ok (.aload_n 0, 1) := by decide +kernel
theorem d_Mo_init_14 : decode b_Mo_init 14 = .ok (.sipush 1024, 3) := by decide +kernel
theorem d_Mo_init_17 : decode b_Mo_init 17 = .ok (.newarray .int, 2) := by decide +kernel
theorem d_Mo_init_19 : decode b_Mo_init 19 = .ok (.putfield 13, 3) := by decide +kernel
theorem d_Mo_init_22 : decode b_Mo_init 22 = .ok (.aload_n 0, 1) := by decide +kernel
theorem d_Mo_init_23 : decode b_Mo_init 23 = .ok (.bipush 65, 2) := by decide +kernel
theorem d_Mo_init_25 : decode b_Mo_init 25 = .ok (.newarray .int, 2) := by decide +kernel
theorem d_Mo_init_27 : decode b_Mo_init 27 = .ok (.putfield 16, 3) := by decide +kernel
theorem d_Mo_init_30 : decode b_Mo_init 30 = .ok (.aload_n 0, 1) := by decide +kernel
theorem d_Mo_init_31 : decode b_Mo_init 31 = .ok (.bipush 64, 2) := by decide +kernel
theorem d_Mo_init_33 : decode b_Mo_init 33 = .ok (.newarray .boolean, 2) := by decide +kernel
theorem d_Mo_init_35 : decode b_Mo_init 35 = .ok (.putfield 19, 3) := by decide +kernel
theorem d_Mo_init_38 : decode b_Mo_init 38 = .ok (.aload_n 0, 1) := by decide +kernel
theorem d_Mo_init_39 : decode b_Mo_init 39 = .ok (.bipush 64, 2) := by decide +kernel
theorem d_Mo_init_41 : decode b_Mo_init 41 = .ok (.newarray .boolean, 2) := by decide +kernel
theorem d_Mo_init_43 : decode b_Mo_init 43 = .ok (.putfield 23, 3) := by decide +kernel
theorem d_Mo_init_46 : decode b_Mo_init 46 = .ok (.aload_n 0, 1) := by decide +kernel
theorem d_Mo_init_47 : decode b_Mo_init 47 = .ok (.iconst 4, 1) := by decide +kernel
theorem d_Mo_init_48 : decode b_Mo_init 48 = .ok (.newarray .int, 2) := by decide +kernel
theorem d_Mo_init_50 : decode b_Mo_init 50 = .ok (.putfield 26, 3) := by decide +kernel
theorem d_Mo_init_53 : decode b_Mo_init 53 = .ok (.aload_n 0, 1) := by decide +kernel
theorem d_Mo_init_54 : decode b_Mo_init 54 = .ok (.bipush 64, 2) := by decide +kernel
theorem d_Mo_init_56 : decode b_Mo_init 56 = .ok (.putfield 29, 3) := by decide +kernel
theorem d_Mo_init_59 : decode b_Mo_init 59 = .ok (.aload_n 0, 1) := by decide +kernel
theorem d_Mo_init_60 : decode b_Mo_init 60 = .ok (.sipush 640, 3) := by decide +kernel
theorem d_Mo_init_63 : decode b_Mo_init 63 = .ok (.putfield 33, 3) := by decide +kernel
theorem d_Mo_init_66 : decode b_Mo_init 66 = .ok (.aload_n 0, 1) := by decide +kernel
theorem d_Mo_init_67 : decode b_Mo_init 67 = .ok (.bipush 8, 2) := by decide +kernel
theorem d_Mo_init_69 : decode b_Mo_init 69 = .ok (.newarray .int, 2) := by decide +kernel
theorem d_Mo_init_71 : decode b_Mo_init 71 = .ok (.putfield 36, 3) := by decide +kernel
theorem d_Mo_init_74 : decode b_Mo_init 74 = .ok (.aload_n 0, 1) := by decide +kernel
theorem d_Mo_init_75 : decode b_Mo_init 75 = .ok (.sipush 1024, 3) := by decide +kernel
theorem d_Mo_init_78 : decode b_Mo_init 78 = .ok (.newarray .int, 2) := by decide +kernel
theorem d_Mo_init_80 : decode b_Mo_init 80 = .ok (.putfield 39, 3) := by decide +kernel
theorem d_Mo_init_83 : decode b_Mo_init 83 = .ok (.aload_n 0, 1) := by decide +kernel
theorem d_Mo_init_84 : decode b_Mo_init 84 = .ok (.sipush 1024, 3) := by decide +kernel
theorem d_Mo_init_87 : decode b_Mo_init 87 = .ok (.newarray .int, 2) := by decide +kernel
theorem d_Mo_init_89 : decode b_Mo_init 89 = .ok (.putfield 42, 3) := by decide +kernel
theorem d_Mo_init_92 : decode b_Mo_init 92 = .ok (.aload_n 0, 1) := by decide +kernel
theorem d_Mo_init_93 : decode b_Mo_init 93 = .ok (.sipush 2001, 3) := by decide +kernel
theorem d_Mo_init_96 : decode b_Mo_init 96 = .ok (.newarray .int, 2) := by decide +kernel
theorem d_Mo_init_98 : decode b_Mo_init 98 = .ok (.putfield 45, 3) := by decide +kernel
theorem d_Mo_init_101 : decode b_Mo_init 101 = .ok (.aload_n 0, 1) := by decide +kernel
theorem d_Mo_init_102 : decode b_Mo_init 102 = .ok (.sipush 2001, 3) := by decide +kernel
theorem d_Mo_init_105 : decode b_Mo_init 105 = .ok (.newarray .int, 2) := by decide +kernel
theorem d_Mo_init_107 : decode b_Mo_init 107 = .ok (.putfield 48, 3) := by decide +kernel
theorem d_Mo_init_110 : decode b_Mo_init 110 = .ok (.aload_n 0, 1) := by decide +kernel
theorem d_Mo_init_111 : decode b_Mo_init 111 = .ok (.sipush 2001, 3) := by decide +kernel
theorem d_Mo_init_114 : decode b_Mo_init 114 = .ok (.newarray .int, 2) := by decide +kernel
theorem d_Mo_init_116 : decode b_Mo_init 116 = .ok (.putfield 51, 3) := by decide +kernel
theorem d_Mo_init_119 : decode b_Mo_init 119 = .ok (.aload_n 0, 1) := by decide +kernel
theorem d_Mo_init_120 : decode b_Mo_init 120 = .ok (.sipush 2001, 3) := by decide +kernel
theorem d_Mo_init_123 : decode b_Mo_init 123 = .ok (.newarray .int, 2) := by decide +kernel
theorem d_Mo_init_125 : decode b_Mo_init 125 = .ok (.putfield 54, 3) := by decide +kernel
theorem d_Mo_init_128 : decode b_Mo_init 128 = .ok (.aload_n 0, 1) := by decide +kernel
theorem d_Mo_init_129 : decode b_Mo_init 129 = .ok (.sipush 2001, 3) := by decide +kernel
theorem d_Mo_init_132 : decode b_Mo_init 132 = .ok (.newarray .int, 2) := by decide +kernel
theorem d_Mo_init_134 : decode b_Mo_init 134 = .ok (.putfield 57, 3) := by decide +kernel
theorem d_Mo_init_137 : decode b_Mo_init 137 = .ok (.aload_n 0, 1) := by decide +kernel
theorem d_Mo_init_138 : decode b_Mo_init 138 = .ok (.sipush 2001, 3) := by decide +kernel
theorem d_Mo_init_141 : decode b_Mo_init 141 = .ok (.newarray .int, 2) := by decide +kernel
theorem d_Mo_init_143 : decode b_Mo_init 143 = .ok (.putfield 60, 3) := by decide +kernel
theorem d_Mo_init_146 : decode b_Mo_init 146 = .ok (.aload_n 0, 1) := by decide +kernel
theorem d_Mo_init_147 : decode b_Mo_init 147 = .ok (.sipush 2001, 3) := by decide +kernel
theorem d_Mo_init_150 : decode b_Mo_init 150 = .ok (.newarray .boolean, 2) := by decide +kernel
theorem d_Mo_init_152 : decode b_Mo_init 152 = .ok (.putfield 63, 3) := by decide +kernel
theorem d_Mo_init_155 : decode b_Mo_init 155 = .ok (.aload_n 0, 1) := by decide +kernel
theorem d_Mo_init_156 : decode b_Mo_init 156 = .ok (.sipush 2001, 3) := by decide +kernel
theorem d_Mo_init_159 : decode b_Mo_init 159 = .ok (.newarray .boolean, 2) := by decide +kernel
theorem d_Mo_init_161 : decode b_Mo_init 161 = .ok (.putfield 66, 3) := by decide +kernel
theorem d_Mo_init_164 : decode b_Mo_init 164 = .ok (.aload_n 0, 1) := by decide +kernel
theorem d_Mo_init_165 : decode b_Mo_init 165 = .ok (.sipush 2001, 3) := by decide +kernel
theorem d_Mo_init_168 : decode b_Mo_init 168 = .ok (.newarray .int, 2) := by decide +kernel
theorem d_Mo_init_170 : decode b_Mo_init 170 = .ok (.putfield 69, 3) := by decide +kernel
theorem d_Mo_init_173 : decode b_Mo_init 173 = .ok (.aload_n 0, 1) := by decide +kernel
theorem d_Mo_init_174 : decode b_Mo_init 174 = .ok (.sipush 2001, 3) := by decide +kernel
theorem d_Mo_init_177 : decode b_Mo_init 177 = .ok (.newarray .boolean, 2) := by decide +kernel
theorem d_Mo_init_179 : decode b_Mo_init 179 = .ok (.putfield 72, 3) := by decide +kernel
theorem d_Mo_init_182 : decode b_Mo_init 182 = .ok (.aload_n 0, 1) := by decide +kernel
theorem d_Mo_init_183 : decode b_Mo_init 183 = .ok (.iconst 4, 1) := by decide +kernel
theorem d_Mo_init_184 : decode b_Mo_init 184 = .ok (.newarray .long, 2) := by decide +kernel
theorem d_Mo_init_186 : decode b_Mo_init 186 = .ok (.putfield 75, 3) := by decide +kernel
theorem d_Mo_init_189 : decode b_Mo_init 189 = .ok (.aload_n 0, 1) := by decide +kernel
theorem d_Mo_init_190 : decode b_Mo_init 190 = .ok (.iconst 4, 1) := by decide +kernel
theorem d_Mo_init_191 : decode b_Mo_init 191 = .ok (.newarray .long, 2) := by decide +kernel
theorem d_Mo_init_193 : decode b_Mo_init 193 = .ok (.putfield 79, 3) := by decide +kernel
theorem d_Mo_init_196 : decode b_Mo_init 196 = .ok (.return_, 1) := by decide +kernel
theorem d_Mo_thrown_0 : decode b_Mo_thrown 0 = .ok (.aload_n 0, 1) := by decide +kernel
theorem d_Mo_thrown_1 : decode b_Mo_thrown 1 = .ok (.getfield 82, 3) := by decide +kernel
theorem d_Mo_thrown_4 : decode b_Mo_thrown 4 = .ok (.ireturn, 1) := by decide +kernel
theorem d_Mo_refused_0 : decode b_Mo_refused 0 = .ok (.aload_n 0, 1) := by decide +kernel
theorem d_Mo_refused_1 : decode b_Mo_refused 1 = .ok (.iload_n 1, 1) := by decide +kernel
theorem d_Mo_refused_2 : decode b_Mo_refused 2 = .ok (.putfield 82, 3) := by decide +kernel
theorem d_Mo_refused_5 : decode b_Mo_refused 5 = .ok (.iload_n 1, 1) := by decide +kernel
theorem d_Mo_refused_6 : decode b_Mo_refused 6 = .ok (.ifCond .le 7, 3) := by decide +kernel
theorem d_Mo_refused_9 : decode b_Mo_refused 9 = .ok (.iconst 1, 1) := by decide +kernel
theorem d_Mo_refused_10 : decode b_Mo_refused 10 = .ok (.goto 4, 3) := by decide +kernel
theorem d_Mo_refused_13 : decode b_Mo_refused 13 = .ok (.iconst 0, 1) := by decide +kernel
theorem d_Mo_refused_14 : decode b_Mo_refused 14 = .ok (.ireturn, 1) := by decide +kernel
theorem d_Mo_isIn_0 : decode b_Mo_isIn 0 = .ok (.iload_n 0, 1) := by decide +kernel
theorem d_Mo_isIn_1 : decode b_Mo_isIn 1 = .ok (.iload_n 1, 1) := by decide +kernel
theorem d_Mo_isIn_2 : decode b_Mo_isIn 2 = .ok (.if_icmp .lt 12, 3) := by decide +kernel
theorem d_Mo_isIn_5 : decode b_Mo_isIn 5 = .ok (.iload_n 0, 1) := by decide +kernel
theorem d_Mo_isIn_6 : decode b_Mo_isIn 6 = .ok (.iload_n 2, 1) := by decide +kernel
theorem d_Mo_isIn_7 : decode b_Mo_isIn 7 = .ok (.if_icmp .gt 7, 3) := by decide +kernel
theorem d_Mo_isIn_10 : decode b_Mo_isIn 10 = .ok (.iconst 1, 1) := by decide +kernel
theorem d_Mo_isIn_11 : decode b_Mo_isIn 11 = .ok (.goto 4, 3) := by decide +kernel
theorem d_Mo_isIn_14 : decode b_Mo_isIn 14 = .ok (.iconst 0, 1) := by decide +kernel
theorem d_Mo_isIn_15 : decode b_Mo_isIn 15 = .ok (.ireturn, 1) := by decide +kernel
theorem d_Mo_isPoint_0 : decode b_Mo_isPoint 0 = .ok (.iload_n 0, 1) := by decide +kernel
theorem d_Mo_isPoint_1 : decode b_Mo_isPoint 1 = .ok (.sipush (-8192), 3) := by decide +kernel
theorem d_Mo_isPoint_4 : decode b_Mo_isPoint 4 = .ok (.sipush 8191, 3) := by decide +kernel
theorem d_Mo_isPoint_7 : decode b_Mo_isPoint 7 = .ok (.invokestatic 85, 3) := by decide +kernel
theorem d_Mo_isPoint_10 : decode b_Mo_isPoint 10 = .ok (.ifCond .eq 20, 3) := by decide +kernel
theorem d_Mo_isPoint_13 : decode b_Mo_isPoint 13 = .ok (.iload_n 1, 1) := by decide +kernel
theorem d_Mo_isPoint_14 : decode b_Mo_isPoint 14 = .ok (.sipush (-8192), 3) := by decide +kernel
theorem d_Mo_isPoint_17 : decode b_Mo_isPoint 17 = .ok (.sipush 8191, 3) := by decide +kernel
theorem d_Mo_isPoint_20 : decode b_Mo_isPoint 20 = .ok (.invokestatic 85, 3) := by decide +kernel
theorem d_Mo_isPoint_23 : decode b_Mo_isPoint 23 = .ok (.ifCond .eq 7, 3) := by decide +kernel
theorem d_Mo_isPoint_26 : decode b_Mo_isPoint 26 = .ok (.iconst 1, 1) := by decide +kernel
theorem d_Mo_isPoint_27 : decode b_Mo_isPoint 27 = .ok (.goto 4, 3) := by decide +kernel
theorem d_Mo_isPoint_30 : decode b_Mo_isPoint 30 = .ok (.iconst 0, 1) := by decide +kernel
theorem d_Mo_isPoint_31 : decode b_Mo_isPoint 31 = .ok (.ireturn, 1) := by decide +kernel
theorem d_Mo_add_0 : decode b_Mo_add 0 = .ok (.aload_n 0, 1) := by decide +kernel
theorem d_Mo_add_1 : decode b_Mo_add 1 = .ok (.getfield 7, 3) := by decide +kernel
theorem d_Mo_add_4 : decode b_Mo_add 4 = .ok (.aload_n 0, 1) := by decide +kernel
theorem d_Mo_add_5 : decode b_Mo_add 5 = .ok (.getfield 89, 3) := by decide +kernel
theorem d_Mo_add_8 : decode b_Mo_add 8 = .ok (.iload_n 1, 1) := by decide +kernel
theorem d_Mo_add_9 : decode b_Mo_add 9 = .ok (.iastore, 1) := by decide +kernel
theorem d_Mo_add_10 : decode b_Mo_add 10 = .ok (.aload_n 0, 1) := by decide +kernel
theorem d_Mo_add_11 : decode b_Mo_add 11 = .ok (.getfield 13, 3) := by decide +kernel
theorem d_Mo_add_14 : decode b_Mo_add 14 = .ok (.aload_n 0, 1) := by decide +kernel
theorem d_Mo_add_15 : decode b_Mo_add 15 = .ok (.getfield 89, 3) := by decide +kernel
theorem d_Mo_add_18 : decode b_Mo_add 18 = .ok (.iload_n 2, 1) := by decide +kernel
theorem d_Mo_add_19 : decode b_Mo_add 19 = .ok (.iastore, 1) := by decide +kernel
theorem d_Mo_add_20 : decode b_Mo_add 20 = .ok (.aload_n 0, 1) := by decide +kernel
theorem d_Mo_add_21 : decode b_Mo_add 21 = .ok (.dup, 1) := by decide +kernel
theorem d_Mo_add_22 : decode b_Mo_add 22 = .ok (.getfield 89, 3) := by decide +kernel
theorem d_Mo_add_25 : decode b_Mo_add 25 = .ok (.iconst 1, 1) := by decide +kernel
theorem d_Mo_add_26 : decode b_Mo_add 26 = .ok (.iadd, 1) := by decide +kernel
theorem d_Mo_add_27 : decode b_Mo_add 27 = .ok (.putfield 89, 3) := by decide +kernel
theorem d_Mo_add_30 : decode b_Mo_add 30 = .ok (.aload_n 0, 1) := by decide +kernel
theorem d_Mo_add_31 : decode b_Mo_add 31 = .ok (.getfield 16, 3) := by decide +kernel
theorem d_Mo_add_34 : decode b_Mo_add 34 = .ok (.aload_n 0, 1) := by decide +kernel
theorem d_Mo_add_35 : decode b_Mo_add 35 = .ok (.getfield 92, 3) := by decide +kernel
theorem d_Mo_add_38 : decode b_Mo_add 38 = .ok (.aload_n 0, 1) := by decide +kernel
theorem d_Mo_add_39 : decode b_Mo_add 39 = .ok (.getfield 89, 3) := by decide +kernel
theorem d_Mo_add_42 : decode b_Mo_add 42 = .ok (.iastore, 1) := by decide +kernel
theorem d_Mo_add_43 : decode b_Mo_add 43 = .ok (.return_, 1) := by decide +kernel
theorem d_Mo_move_0 : decode b_Mo_move 0 = .ok (.aload_n 0, 1) := by decide +kernel
theorem d_Mo_move_1 : decode b_Mo_move 1 = .ok (.iload_n 1, 1) := by decide +kernel
theorem d_Mo_move_2 : decode b_Mo_move 2 = .ok (.iload_n 2, 1) := by decide +kernel
theorem d_Mo_move_3 : decode b_Mo_move 3 = .ok (.invokestatic 95, 3) := by decide +kernel
theorem d_Mo_move_6 : decode b_Mo_move 6 = .ok (.ifCond .ne 7, 3) := by decide +kernel
theorem d_Mo_move_9 : decode b_Mo_move 9 = .ok (.iconst 1, 1) := by decide +kernel
theorem d_Mo_move_10 : decode b_Mo_move 10 = .ok (.goto 27, 3) := by decide +kernel
theorem d_Mo_move_13 : decode b_Mo_move 13 = .ok (.aload_n 0, 1) := by decide +kernel
theorem d_Mo_move_14 : decode b_Mo_move 14 = .ok (.getfield 92, 3) := by decide +kernel
theorem d_Mo_move_17 : decode b_Mo_move 17 = .ok (.bipush 64, 2) := by decide +kernel
theorem d_Mo_move_19 : decode b_Mo_move 19 = .ok (.if_icmp .eq 13, 3) := by decide +kernel
theorem d_Mo_move_22 : decode b_Mo_move 22 = .ok (.aload_n 0, 1) := by decide +kernel
theorem d_Mo_move_23 : decode b_Mo_move 23 = .ok (.getfield 89, 3) := by decide +kernel
theorem d_Mo_move_26 : decode b_Mo_move 26 = .ok (.sipush 1024, 3) := by decide +kernel
theorem d_Mo_move_29 : decode b_Mo_move 29 = .ok (.if_icmp .ne 7, 3) := by decide +kernel
theorem d_Mo_move_32 : decode b_Mo_move 32 = .ok (.iconst 2, 1) := by decide +kernel
theorem d_Mo_move_33 : decode b_Mo_move 33 = .ok (.goto 4, 3) := by decide +kernel
theorem d_Mo_move_36 : decode b_Mo_move 36 = .ok (.iconst 0, 1) := by decide +kernel
theorem d_Mo_move_37 : decode b_Mo_move 37 = .ok (.invokevirtual 99, 3) := by decide +kernel
theorem d_Mo_move_40 : decode b_Mo_move 40 = .ok (.ifCond .eq 5, 3) := by decide +kernel
theorem d_Mo_move_43 : decode b_Mo_move 43 = .ok (.iconst 0, 1) := by decide +kernel
theorem d_Mo_move_44 : decode b_Mo_move 44 = .ok (.ireturn, 1) := by decide +kernel
theorem d_Mo_move_45 : decode b_Mo_move 45 = .ok (.aload_n 0, 1) := by decide +kernel
theorem d_Mo_move_46 : decode b_Mo_move 46 = .ok (.getfield 19, 3) := by decide +kernel
theorem d_Mo_move_49 : decode b_Mo_move 49 = .ok (.aload_n 0, 1) := by decide +kernel
theorem d_Mo_move_50 : decode b_Mo_move 50 = .ok (.getfield 92, 3) := by decide +kernel
theorem d_Mo_move_53 : decode b_Mo_move 53 = .ok (.iconst 0, 1) := by decide +kernel
theorem d_Mo_move_54 : decode b_Mo_move 54 = .ok (.bastore, 1) := by decide +kernel
theorem d_Mo_move_55 : decode b_Mo_move 55 = .ok (.aload_n 0, 1) := by decide +kernel
theorem d_Mo_move_56 : decode b_Mo_move 56 = .ok (.getfield 23, 3) := by decide +kernel
theorem d_Mo_move_59 : decode b_Mo_move 59 = .ok (.aload_n 0, 1) := by decide +kernel
theorem d_Mo_move_60 : decode b_Mo_move 60 = .ok (.getfield 92, 3) := by decide +kernel
theorem d_Mo_move_63 : decode b_Mo_move 63 = .ok (.iconst 0, 1) := by decide +kernel
theorem d_Mo_move_64 : decode b_Mo_move 64 = .ok (.bastore, 1) := by decide +kernel
theorem d_Mo_move_65 : decode b_Mo_move 65 = .ok (.aload_n 0, 1) := by decide +kernel
theorem d_Mo_move_66 : decode b_Mo_move 66 = .ok (.dup, 1) := by decide +kernel
theorem d_Mo_move_67 : decode b_Mo_move 67 = .ok (.getfield 92, 3) := by decide +kernel
theorem d_Mo_move_70 : decode b_Mo_move 70 = .ok (.iconst 1, 1) := by decide +kernel
theorem d_Mo_move_71 : decode b_Mo_move 71 = .ok (.iadd, 1) := by decide +kernel
theorem d_Mo_move_72 : decode b_Mo_move 72 = .ok (.putfield 92, 3) := by decide +kernel
theorem d_Mo_move_75 : decode b_Mo_move 75 = .ok (.aload_n 0, 1) := by decide +kernel
theorem d_Mo_move_76 : decode b_Mo_move 76 = .ok (.iload_n 1, 1) := by decide +kernel
theorem d_Mo_move_77 : decode b_Mo_move 77 = .ok (.iload_n 2, 1) := by decide +kernel
theorem d_Mo_move_78 : decode b_Mo_move 78 = .ok (.invokevirtual 103, 3) := by decide +kernel
theorem d_Mo_move_81 : decode b_Mo_move 81 = .ok (.aload_n 0, 1) := by decide +kernel
theorem d_Mo_move_82 : decode b_Mo_move 82 = .ok (.getfield 92, 3) := by decide +kernel
theorem d_Mo_move_85 : decode b_Mo_move 85 = .ok (.ireturn, 1) := by decide +kernel
theorem d_Mo_isOpen_0 : decode b_Mo_isOpen 0 = .ok (.aload_n 0, 1) := by decide +kernel
theorem d_Mo_isOpen_1 : decode b_Mo_isOpen 1 = .ok (.getfield 92, 3) := by decide +kernel
theorem d_Mo_isOpen_4 : decode b_Mo_isOpen 4 = .ok (.ifCond .le 21, 3) := by decide +kernel
theorem d_Mo_isOpen_7 : decode b_Mo_isOpen 7 = .ok (.aload_n 0, 1) := by decide +kernel
theorem d_Mo_isOpen_8 : decode b_Mo_isOpen 8 = .ok (.getfield 19, 3) := by decide +kernel
theorem d_Mo_isOpen_11 : decode b_Mo_isOpen 11 = .ok (.aload_n 0, 1) := by decide +kernel
theorem d_Mo_isOpen_12 : decode b_Mo_isOpen 12 = .ok (.getfield 92, 3) := by decide +kernel
theorem d_Mo_isOpen_15 : decode b_Mo_isOpen 15 = .ok (.iconst 1, 1) := by decide +kernel
theorem d_Mo_isOpen_16 : decode b_Mo_isOpen 16 = .ok (.isub, 1) := by decide +kernel
theorem d_Mo_isOpen_17 : decode b_Mo_isOpen 17 = .ok (.baload, 1) := by decide +kernel
theorem d_Mo_isOpen_18 : decode b_Mo_isOpen 18 = .ok (.ifCond .ne 7, 3) := by decide +kernel
theorem d_Mo_isOpen_21 : decode b_Mo_isOpen 21 = .ok (.iconst 1, 1) := by decide +kernel
theorem d_Mo_isOpen_22 : decode b_Mo_isOpen 22 = .ok (.goto 4, 3) := by decide +kernel
theorem d_Mo_isOpen_25 : decode b_Mo_isOpen 25 = .ok (.iconst 0, 1) := by decide +kernel
theorem d_Mo_isOpen_26 : decode b_Mo_isOpen 26 = .ok (.ireturn, 1) := by decide +kernel
theorem d_Mo_line_0 : decode b_Mo_line 0 = .ok (.aload_n 0, 1) := by decide +kernel
theorem d_Mo_line_1 : decode b_Mo_line 1 = .ok (.iload_n 1, 1) := by decide +kernel
theorem d_Mo_line_2 : decode b_Mo_line 2 = .ok (.iload_n 2, 1) := by decide +kernel
theorem d_Mo_line_3 : decode b_Mo_line 3 = .ok (.invokestatic 95, 3) := by decide +kernel
theorem d_Mo_line_6 : decode b_Mo_line 6 = .ok (.ifCond .ne 7, 3) := by decide +kernel
theorem d_Mo_line_9 : decode b_Mo_line 9 = .ok (.iconst 1, 1) := by decide +kernel
theorem d_Mo_line_10 : decode b_Mo_line 10 = .ok (.goto 25, 3) := by decide +kernel
theorem d_Mo_line_13 : decode b_Mo_line 13 = .ok (.aload_n 0, 1) := by decide +kernel
theorem d_Mo_line_14 : decode b_Mo_line 14 = .ok (.invokevirtual 107, 3) := by decide +kernel
theorem d_Mo_line_17 : decode b_Mo_line 17 = .ok (.ifCond .eq 13, 3) := by decide +kernel
theorem d_Mo_line_20 : decode b_Mo_line 20 = .ok (.aload_n 0, 1) := by decide +kernel
theorem d_Mo_line_21 : decode b_Mo_line 21 = .ok (.getfield 89, 3) := by decide +kernel
theorem d_Mo_line_24 : decode b_Mo_line 24 = .ok (.sipush 1024, 3) := by decide +kernel
theorem d_Mo_line_27 : decode b_Mo_line 27 = .ok (.if_icmp .ne 7, 3) := by decide +kernel
theorem d_Mo_line_30 : decode b_Mo_line 30 = .ok (.iconst 2, 1) := by decide +kernel
theorem d_Mo_line_31 : decode b_Mo_line 31 = .ok (.goto 4, 3) := by decide +kernel
theorem d_Mo_line_34 : decode b_Mo_line 34 = .ok (.iconst 0, 1) := by decide +kernel
theorem d_Mo_line_35 : decode b_Mo_line 35 = .ok (.invokevirtual 99, 3) := by decide +kernel
theorem d_Mo_line_38 : decode b_Mo_line 38 = .ok (.ifCond .eq 5, 3) := by decide +kernel
theorem d_Mo_line_41 : decode b_Mo_line 41 = .ok (.iconst 0, 1) := by decide +kernel
theorem d_Mo_line_42 : decode b_Mo_line 42 = .ok (.ireturn, 1) := by decide +kernel
theorem d_Mo_line_43 : decode b_Mo_line 43 = .ok (.aload_n 0, 1) := by decide +kernel
theorem d_Mo_line_44 : decode b_Mo_line 44 = .ok (.getfield 23, 3) := by decide +kernel
theorem d_Mo_line_47 : decode b_Mo_line 47 = .ok (.aload_n 0, 1) := by decide +kernel
theorem d_Mo_line_48 : decode b_Mo_line 48 = .ok (.getfield 92, 3) := by decide +kernel
theorem d_Mo_line_51 : decode b_Mo_line 51 = .ok (.iconst 1, 1) := by decide +kernel
theorem d_Mo_line_52 : decode b_Mo_line 52 = .ok (.isub, 1) := by decide +kernel
theorem d_Mo_line_53 : decode b_Mo_line 53 = .ok (.iconst 1, 1) := by decide +kernel
theorem d_Mo_line_54 : decode b_Mo_line 54 = .ok (.bastore, 1) := by decide +kernel
theorem d_Mo_line_55 : decode b_Mo_line 55 = .ok (.aload_n 0, 1) := by decide +kernel
theorem d_Mo_line_56 : decode b_Mo_line 56 = .ok (.iload_n 1, 1) := by decide +kernel
theorem d_Mo_line_57 : decode b_Mo_line 57 = .ok (.iload_n 2, 1) := by decide +kernel
theorem d_Mo_line_58 : decode b_Mo_line 58 = .ok (.invokevirtual 103, 3) := by decide +kernel
theorem d_Mo_line_61 : decode b_Mo_line 61 = .ok (.aload_n 0, 1) := by decide +kernel
theorem d_Mo_line_62 : decode b_Mo_line 62 = .ok (.getfield 89, 3) := by decide +kernel
theorem d_Mo_line_65 : decode b_Mo_line 65 = .ok (.ireturn, 1) := by decide +kernel
theorem d_Mo_control_0 : decode b_Mo_control 0 = .ok (.aload_n 0, 1) := by decide +kernel
theorem d_Mo_control_1 : decode b_Mo_control 1 = .ok (.iload_n 1, 1) := by decide +kernel
theorem d_Mo_control_2 : decode b_Mo_control 2 = .ok (.iload_n 2, 1) := by decide +kernel
theorem d_Mo_control_3 : decode b_Mo_control 3 = .ok (.invokestatic 95, 3) := by decide +kernel
theorem d_Mo_control_6 : decode b_Mo_control 6 = .ok (.ifCond .eq 16, 3) := by decide +kernel
theorem d_Mo_control_9 : decode b_Mo_control 9 = .ok (.iload_n 3, 1) := by decide +kernel
theorem d_Mo_control_10 : decode b_Mo_control 10 = .ok (.iload 4, 2) := by decide +kernel
theorem d_Mo_control_12 : decode b_Mo_control 12 = .ok (.invokestatic 95, 3) := by decide +kernel
theorem d_Mo_control_15 : decode b_Mo_control 15 = .ok (.ifCond .eq 7, 3) := by decide +kernel
theorem d_Mo_control_18 : decode b_Mo_control 18 = .ok (.iconst 0, 1) := by decide +kernel
theorem d_Mo_control_19 : decode b_Mo_control 19 = .ok (.goto 4, 3) := by decide +kernel
theorem d_Mo_control_22 : decode b_Mo_control 22 = .ok (.iconst 1, 1) := by decide +kernel
theorem d_Mo_control_23 : decode b_Mo_control 23 = .ok (.invokevirtual 99, 3) := by decide +kernel
theorem d_Mo_control_26 : decode b_Mo_control 26 = .ok (.ifCond .eq 4, 3) := by decide +kernel
theorem d_Mo_control_29 : decode b_Mo_control 29 = .ok (.return_, 1) := by decide +kernel
theorem d_Mo_control_30 : decode b_Mo_control 30 = .ok (.aload_n 0, 1) := by decide +kernel
theorem d_Mo_control_31 : decode b_Mo_control 31 = .ok (.getfield 26, 3) := by decide +kernel
theorem d_Mo_control_34 : decode b_Mo_control 34 = .ok (.iconst 0, 1) := by decide +kernel
theorem d_Mo_control_35 : decode b_Mo_control 35 = .ok (.iload_n 1, 1) := by decide +kernel
theorem d_Mo_control_36 : decode b_Mo_control 36 = .ok (.iastore, 1) := by decide +kernel
theorem d_Mo_control_37 : decode b_Mo_control 37 = .ok (.aload_n 0, 1) := by decide +kernel
theorem d_Mo_control_38 : decode b_Mo_control 38 = .ok (.getfield 26, 3) := by decide +kernel
theorem d_Mo_control_41 : decode b_Mo_control 41 = .ok (.iconst 1, 1) := by decide +kernel
theorem d_Mo_control_42 : decode b_Mo_control 42 = .ok (.iload_n 2, 1) := by decide +kernel
theorem d_Mo_control_43 : decode b_Mo_control 43 = .ok (.iastore, 1) := by decide +kernel
theorem d_Mo_control_44 : decode b_Mo_control 44 = .ok (.aload_n 0, 1) := by decide +kernel
theorem d_Mo_control_45 : decode b_Mo_control 45 = .ok (.getfield 26, 3) := by decide +kernel
theorem d_Mo_control_48 : decode b_Mo_control 48 = .ok (.iconst 2, 1) := by decide +kernel
theorem d_Mo_control_49 : decode b_Mo_control 49 = .ok (.iload_n 3, 1) := by decide +kernel
theorem d_Mo_control_50 : decode b_Mo_control 50 = .ok (.iastore, 1) := by decide +kernel
theorem d_Mo_control_51 : decode b_Mo_control 51 = .ok (.aload_n 0, 1) := by decide +kernel
theorem d_Mo_control_52 : decode b_Mo_control 52 = .ok (.getfield 26, 3) := by decide +kernel
theorem d_Mo_control_55 : decode b_Mo_control 55 = .ok (.iconst 3, 1) := by decide +kernel
theorem d_Mo_control_56 : decode b_Mo_control 56 = .ok (.iload 4, 2) := by decide +kernel
theorem d_Mo_control_58 : decode b_Mo_control 58 = .ok (.iastore, 1) := by decide +kernel
theorem d_Mo_control_59 : decode b_Mo_control 59 = .ok (.return_, 1) := by decide +kernel
theorem d_Mo_along_0 : decode b_Mo_along 0 = .ok (.bipush 16, 2) := by decide +kernel
theorem d_Mo_along_2 : decode b_Mo_along 2 = .ok (.iload 4, 2) := by decide +kernel
theorem d_Mo_along_4 : decode b_Mo_along 4 = .ok (.isub, 1) := by decide +kernel
theorem d_Mo_along_5 : decode b_Mo_along 5 = .ok (.istore 5, 2) := by decide +kernel
theorem d_Mo_along_7 : decode b_Mo_along 7 = .ok (.iload_n 0, 1) := by decide +kernel
theorem d_Mo_along_8 : decode b_Mo_along 8 = .ok (.iload 5, 2) := by decide +kernel
theorem d_Mo_along_10 : decode b_Mo_along 10 = .ok (.imul, 1) := by decide +kernel
theorem d_Mo_along_11 : decode b_Mo_along 11 = .ok (.iload 5, 2) := by decide +kernel
theorem d_Mo_along_13 : decode b_Mo_along 13 = .ok (.imul, 1) := by decide +kernel
theorem d_Mo_along_14 : decode b_Mo_along 14 = .ok (.iload 5, 2) := by decide +kernel
theorem d_Mo_along_16 : decode b_Mo_along 16 = .ok (.imul, 1) := by decide +kernel
theorem d_Mo_along_17 : decode b_Mo_along 17 = .ok (.iconst 3, 1) := by decide +kernel
theorem d_Mo_along_18 : decode b_Mo_along 18 = .ok (.iload_n 1, 1) := by decide +kernel
theorem d_Mo_along_19 : decode b_Mo_along 19 = .ok (.imul, 1) := by decide +kernel
theorem d_Mo_along_20 : decode b_Mo_along 20 = .ok (.iload 4, 2) := by decide +kernel
theorem d_Mo_along_22 : decode b_Mo_along 22 = .ok (.imul, 1) := by decide +kernel
theorem d_Mo_along_23 : decode b_Mo_along 23 = .ok (.iload 5, 2) := by decide +kernel
theorem d_Mo_along_25 : decode b_Mo_along 25 = .ok (.imul, 1) := by decide +kernel
theorem d_Mo_along_26 : decode b_Mo_along 26 = .ok (.iload 5, 2) := by decide +kernel
theorem d_Mo_along_28 : decode b_Mo_along 28 = .ok (.imul, 1) := by decide +kernel
theorem d_Mo_along_29 : decode b_Mo_along 29 = .ok (.iadd, 1) := by decide +kernel
theorem d_Mo_along_30 : decode b_Mo_along 30 = .ok (.iconst 3, 1) := by decide +kernel
theorem d_Mo_along_31 : decode b_Mo_along 31 = .ok (.iload_n 2, 1) := by decide +kernel
theorem d_Mo_along_32 : decode b_Mo_along 32 = .ok (.imul, 1) := by decide +kernel
theorem d_Mo_along_33 : decode b_Mo_along 33 = .ok (.iload 4, 2) := by decide +kernel
theorem d_Mo_along_35 : decode b_Mo_along 35 = .ok (.imul, 1) := by decide +kernel
theorem d_Mo_along_36 : decode b_Mo_along 36 = .ok (.iload 4, 2) := by decide +kernel
theorem d_Mo_along_38 : decode b_Mo_along 38 = .ok (.imul, 1) := by decide +kernel
theorem d_Mo_along_39 : decode b_Mo_along 39 = .ok (.iload 5, 2) := by decide +kernel
theorem d_Mo_along_41 : decode b_Mo_along 41 = .ok (.imul, 1) := by decide +kernel
theorem d_Mo_along_42 : decode b_Mo_along 42 = .ok (.iadd, 1) := by decide +kernel
theorem d_Mo_along_43 : decode b_Mo_along 43 = .ok (.iload_n 3, 1) := by decide +kernel
theorem d_Mo_along_44 : decode b_Mo_along 44 = .ok (.iload 4, 2) := by decide +kernel
theorem d_Mo_along_46 : decode b_Mo_along 46 = .ok (.imul, 1) := by decide +kernel
theorem d_Mo_along_47 : decode b_Mo_along 47 = .ok (.iload 4, 2) := by decide +kernel
theorem d_Mo_along_49 : decode b_Mo_along 49 = .ok (.imul, 1) := by decide +kernel
theorem d_Mo_along_50 : decode b_Mo_along 50 = .ok (.iload 4, 2) := by decide +kernel
theorem d_Mo_along_52 : decode b_Mo_along 52 = .ok (.imul, 1) := by decide +kernel
theorem d_Mo_along_53 : decode b_Mo_along 53 = .ok (.iadd, 1) := by decide +kernel
theorem d_Mo_along_54 : decode b_Mo_along 54 = .ok (.sipush 2048, 3) := by decide +kernel
theorem d_Mo_along_57 : decode b_Mo_along 57 = .ok (.iadd, 1) := by decide +kernel
theorem d_Mo_along_58 : decode b_Mo_along 58 = .ok (.istore 6, 2) := by decide +kernel
theorem d_Mo_along_60 : decode b_Mo_along 60 = .ok (.iload 6, 2) := by decide +kernel
theorem d_Mo_along_62 : decode b_Mo_along 62 = .ok (.bipush 12, 2) := by decide +kernel
theorem d_Mo_along_64 : decode b_Mo_along 64 = .ok (.ishr, 1) := by decide +kernel
theorem d_Mo_along_65 : decode b_Mo_along 65 = .ok (.ireturn, 1) := by decide +kernel
theorem d_Mo_curve_0 : decode b_Mo_curve 0 = .ok (.aload_n 0, 1) := by decide +kernel
theorem d_Mo_curve_1 : decode b_Mo_curve 1 = .ok (.iload_n 1, 1) := by decide +kernel
theorem d_Mo_curve_2 : decode b_Mo_curve 2 = .ok (.iload_n 2, 1) := by decide +kernel
theorem d_Mo_curve_3 : decode b_Mo_curve 3 = .ok (.invokestatic 95, 3) := by decide +kernel
theorem d_Mo_curve_6 : decode b_Mo_curve 6 = .ok (.ifCond .ne 7, 3) := by decide +kernel
theorem d_Mo_curve_9 : decode b_Mo_curve 9 = .ok (.iconst 1, 1) := by decide +kernel
theorem d_Mo_curve_10 : decode b_Mo_curve 10 = .ok (.goto 28, 3) := by decide +kernel
theorem d_Mo_curve_13 : decode b_Mo_curve 13 = .ok (.aload_n 0, 1) := by decide +kernel
theorem d_Mo_curve_14 : decode b_Mo_curve 14 = .ok (.invokevirtual 107, 3) := by decide +kernel
theorem d_Mo_curve_17 : decode b_Mo_curve 17 = .ok (.ifCond .eq 16, 3) := by decide +kernel
theorem d_Mo_curve_20 : decode b_Mo_curve 20 = .ok (.aload_n 0, 1) := by decide +kernel
theorem d_Mo_curve_21 : decode b_Mo_curve 21 = .ok (.getfield 89, 3) := by decide +kernel
theorem d_Mo_curve_24 : decode b_Mo_curve 24 = .ok (.bipush 16, 2) := by decide +kernel
theorem d_Mo_curve_26 : decode b_Mo_curve 26 = .ok (.iadd, 1) := by decide +kernel
theorem d_Mo_curve_27 : decode b_Mo_curve 27 = .ok (.sipush 1024, 3) := by decide +kernel
theorem d_Mo_curve_30 : decode b_Mo_curve 30 = .ok (.if_icmp .le 7, 3) := by decide +kernel
theorem d_Mo_curve_33 : decode b_Mo_curve 33 = .ok (.iconst 2, 1) := by decide +kernel
theorem d_Mo_curve_34 : decode b_Mo_curve 34 = .ok (.goto 4, 3) := by decide +kernel
theorem d_Mo_curve_37 : decode b_Mo_curve 37 = .ok (.iconst 0, 1) := by decide +kernel
theorem d_Mo_curve_38 : decode b_Mo_curve 38 = .ok (.invokevirtual 99, 3) := by decide +kernel
theorem d_Mo_curve_41 : decode b_Mo_curve 41 = .ok (.ifCond .eq 5, 3) := by decide +kernel
theorem d_Mo_curve_44 : decode b_Mo_curve 44 = .ok (.iconst 0, 1) := by decide +kernel
theorem d_Mo_curve_45 : decode b_Mo_curve 45 = .ok (.ireturn, 1) := by decide +kernel
theorem d_Mo_curve_46 : decode b_Mo_curve 46 = .ok (.aload_n 0, 1) := by decide +kernel
theorem d_Mo_curve_47 : decode b_Mo_curve 47 = .ok (.getfield 23, 3) := by decide +kernel
theorem d_Mo_curve_50 : decode b_Mo_curve 50 = .ok (.aload_n 0, 1) := by decide +kernel
theorem d_Mo_curve_51 : decode b_Mo_curve 51 = .ok (.getfield 92, 3) := by decide +kernel
theorem d_Mo_curve_54 : decode b_Mo_curve 54 = .ok (.iconst 1, 1) := by decide +kernel
theorem d_Mo_curve_55 : decode b_Mo_curve 55 = .ok (.isub, 1) := by decide +kernel
theorem d_Mo_curve_56 : decode b_Mo_curve 56 = .ok (.iconst 1, 1) := by decide +kernel
theorem d_Mo_curve_57 : decode b_Mo_curve 57 = .ok (.bastore, 1) := by decide +kernel
theorem d_Mo_curve_58 : decode b_Mo_curve 58 = .ok (.aload_n 0, 1) := by decide +kernel
theorem d_Mo_curve_59 : decode b_Mo_curve 59 = .ok (.getfield 7, 3) := by decide +kernel
theorem d_Mo_curve_62 : decode b_Mo_curve 62 = .ok (.aload_n 0, 1) := by decide +kernel
theorem d_Mo_curve_63 : decode b_Mo_curve 63 = .ok (.getfield 89, 3) := by decide +kernel
theorem d_Mo_curve_66 : decode b_Mo_curve 66 = .ok (.iconst 1, 1) := by decide +kernel
theorem d_Mo_curve_67 : decode b_Mo_curve 67 = .ok (.isub, 1) := by decide +kernel
theorem d_Mo_curve_68 : decode b_Mo_curve 68 = .ok (.iaload, 1) := by decide +kernel
theorem d_Mo_curve_69 : decode b_Mo_curve 69 = .ok (.istore_n 3, 1) := by decide +kernel
theorem d_Mo_curve_70 : decode b_Mo_curve 70 = .ok (.aload_n 0, 1) := by decide +kernel
theorem d_Mo_curve_71 : decode b_Mo_curve 71 = .ok (.getfield 13, 3) := by decide +kernel
theorem d_Mo_curve_74 : decode b_Mo_curve 74 = .ok (.aload_n 0, 1) := by decide +kernel
theorem d_Mo_curve_75 : decode b_Mo_curve 75 = .ok (.getfield 89, 3) := by decide +kernel
theorem d_Mo_curve_78 : decode b_Mo_curve 78 = .ok (.iconst 1, 1) := by decide +kernel
theorem d_Mo_curve_79 : decode b_Mo_curve 79 = .ok (.isub, 1) := by decide +kernel
theorem d_Mo_curve_80 : decode b_Mo_curve 80 = .ok (.iaload, 1) := by decide +kernel
theorem d_Mo_curve_81 : decode b_Mo_curve 81 = .ok (.istore 4, 2) := by decide +kernel
theorem d_Mo_curve_83 : decode b_Mo_curve 83 = .ok (.iconst 1, 1) := by decide +kernel
theorem d_Mo_curve_84 : decode b_Mo_curve 84 = .ok (.istore 5, 2) := by decide +kernel
theorem d_Mo_curve_86 : decode b_Mo_curve 86 = .ok (.iload 5, 2) := by decide +kernel
theorem d_Mo_curve_88 : decode b_Mo_curve 88 = .ok (.bipush 16, 2) := by decide +kernel
theorem d_Mo_curve_90 : decode b_Mo_curve 90 = .ok (.if_icmp .gt 52, 3) := by decide +kernel
theorem d_Mo_curve_93 : decode b_Mo_curve 93 = .ok (.aload_n 0, 1) := by decide +kernel
theorem d_Mo_curve_94 : decode b_Mo_curve 94 = .ok (.iload_n 3, 1) := by decide +kernel
theorem d_Mo_curve_95 : decode b_Mo_curve 95 = .ok (.aload_n 0, 1) := by decide +kernel
theorem d_Mo_curve_96 : decode b_Mo_curve 96 = .ok (.getfield 26, 3) := by decide +kernel
theorem d_Mo_curve_99 : decode b_Mo_curve 99 = .ok (.iconst 0, 1) := by decide +kernel
theorem d_Mo_curve_100 : decode b_Mo_curve 100 = .ok (.iaload, 1) := by decide +kernel
theorem d_Mo_curve_101 : decode b_Mo_curve 101 = .ok (.aload_n 0, 1) := by decide +kernel
theorem d_Mo_curve_102 : decode b_Mo_curve 102 = .ok (.getfield 26, 3) := by decide +kernel
theorem d_Mo_curve_105 : decode b_Mo_curve 105 = .ok (.iconst 2, 1) := by decide +kernel
theorem d_Mo_curve_106 : decode b_Mo_curve 106 = .ok (.iaload, 1) := by decide +kernel
theorem d_Mo_curve_107 : decode b_Mo_curve 107 = .ok (.iload_n 1, 1) := by decide +kernel
theorem d_Mo_curve_108 : decode b_Mo_curve 108 = .ok (.iload 5, 2) := by decide +kernel
theorem d_Mo_curve_110 : decode b_Mo_curve 110 = .ok (.invokestatic 111, 3) := by decide +kernel
theorem d_Mo_curve_113 : decode b_Mo_curve 113 = .ok (.iload 4, 2) := by decide +kernel
theorem d_Mo_curve_115 : decode b_Mo_curve 115 = .ok (.aload_n 0, 1) := by decide +kernel
theorem d_Mo_curve_116 : decode b_Mo_curve 116 = .ok (.getfield 26, 3) := by decide +kernel
theorem d_Mo_curve_119 : decode b_Mo_curve 119 = .ok (.iconst 1, 1) := by decide +kernel
theorem d_Mo_curve_120 : decode b_Mo_curve 120 = .ok (.iaload, 1) := by decide +kernel
theorem d_Mo_curve_121 : decode b_Mo_curve 121 = .ok (.aload_n 0, 1) := by decide +kernel
theorem d_Mo_curve_122 : decode b_Mo_curve 122 = .ok (.getfield 26, 3) := by decide +kernel
theorem d_Mo_curve_125 : decode b_Mo_curve 125 = .ok (.iconst 3, 1) := by decide +kernel
theorem d_Mo_curve_126 : decode b_Mo_curve 126 = .ok (.iaload, 1) := by decide +kernel
theorem d_Mo_curve_127 : decode b_Mo_curve 127 = .ok (.iload_n 2, 1) := by decide +kernel
theorem d_Mo_curve_128 : decode b_Mo_curve 128 = .ok (.iload 5, 2) := by decide +kernel
theorem d_Mo_curve_130 : decode b_Mo_curve 130 = .ok (.invokestatic 111, 3) := by decide +kernel
theorem d_Mo_curve_133 : decode b_Mo_curve 133 = .ok (.invokevirtual 103, 3) := by decide +kernel
theorem d_Mo_curve_136 : decode b_Mo_curve 136 = .ok (.iinc 5 1, 3) := by decide +kernel
theorem d_Mo_curve_139 : decode b_Mo_curve 139 = .ok (.goto (-53), 3) := by decide +kernel
theorem d_Mo_curve_142 : decode b_Mo_curve 142 = .ok (.aload_n 0, 1) := by decide +kernel
theorem d_Mo_curve_143 : decode b_Mo_curve 143 = .ok (.getfield 89, 3) := by decide +kernel
theorem d_Mo_curve_146 : decode b_Mo_curve 146 = .ok (.ireturn, 1) := by decide +kernel
theorem d_Mo_closedOnes_0 : decode b_Mo_closedOnes 0 = .ok (.iconst 0, 1) := by decide +kernel
theorem d_Mo_closedOnes_1 : decode b_Mo_closedOnes 1 = .ok (.istore_n 1, 1) := by decide +kernel
theorem d_Mo_closedOnes_2 : decode b_Mo_closedOnes 2 = .ok (.iconst 0, 1) := by decide +kernel
theorem d_Mo_closedOnes_3 : decode b_Mo_closedOnes 3 = .ok (.istore_n 2, 1) := by decide +kernel
theorem d_Mo_closedOnes_4 : decode b_Mo_closedOnes 4 = .ok (.iload_n 2, 1) := by decide +kernel
theorem d_Mo_closedOnes_5 : decode b_Mo_closedOnes 5 = .ok (.aload_n 0, 1) := by decide +kernel
theorem d_Mo_closedOnes_6 : decode b_Mo_closedOnes 6 = .ok (.getfield 92, 3) := by decide +kernel
theorem d_Mo_closedOnes_9 : decode b_Mo_closedOnes 9 = .ok (.if_icmp .ge 26, 3) := by decide +kernel
theorem d_Mo_closedOnes_12 : decode b_Mo_closedOnes 12 = .ok (.aload_n 0, 1) := by decide +kernel
theorem d_Mo_closedOnes_13 : decode b_Mo_closedOnes 13 = .ok (.getfield 19, 3) := by decide +kernel
theorem d_Mo_closedOnes_16 : decode b_Mo_closedOnes 16 = .ok (.iload_n 2, 1) := by decide +kernel
theorem d_Mo_closedOnes_17 : decode b_Mo_closedOnes 17 = .ok (.baload, 1) := by decide +kernel
theorem d_Mo_closedOnes_18 : decode b_Mo_closedOnes 18 = .ok (.ifCond .eq 9, 3) := by decide +kernel
theorem d_Mo_closedOnes_21 : decode b_Mo_closedOnes 21 = .ok (.iload_n 1, 1) := by decide +kernel
theorem d_Mo_closedOnes_22 : decode b_Mo_closedOnes 22 = .ok (.iconst 1, 1) := by decide +kernel
theorem d_Mo_closedOnes_23 : decode b_Mo_closedOnes 23 = .ok (.iadd, 1) := by decide +kernel
theorem d_Mo_closedOnes_24 : decode b_Mo_closedOnes 24 = .ok (.goto 4, 3) := by decide +kernel
theorem d_Mo_closedOnes_27 : decode b_Mo_closedOnes 27 = .ok (.iload_n 1, 1) := by decide +kernel
theorem d_Mo_closedOnes_28 : decode b_Mo_closedOnes 28 = .ok (.istore_n 1, 1) := by decide +kernel
theorem d_Mo_closedOnes_29 : decode b_Mo_closedOnes 29 = .ok (.iinc 2 1, 3) := by decide +kernel
theorem d_Mo_closedOnes_32 : decode b_Mo_closedOnes 32 = .ok (.goto (-28), 3) := by decide +kernel
theorem d_Mo_closedOnes_35 : decode b_Mo_closedOnes 35 = .ok (.iload_n 1, 1) := by decide +kernel
theorem d_Mo_closedOnes_36 : decode b_Mo_closedOnes 36 = .ok (.ireturn, 1) := by decide +kernel
theorem d_Mo_close_0 : decode b_Mo_close 0 = .ok (.aload_n 0, 1) := by decide +kernel
theorem d_Mo_close_1 : decode b_Mo_close 1 = .ok (.aload_n 0, 1) := by decide +kernel
theorem d_Mo_close_2 : decode b_Mo_close 2 = .ok (.invokevirtual 107, 3) := by decide +kernel
theorem d_Mo_close_5 : decode b_Mo_close 5 = .ok (.ifCond .eq 7, 3) := by decide +kernel
theorem d_Mo_close_8 : decode b_Mo_close 8 = .ok (.iconst 0, 1) := by decide +kernel
theorem d_Mo_close_9 : decode b_Mo_close 9 = .ok (.goto 4, 3) := by decide +kernel
theorem d_Mo_close_12 : decode b_Mo_close 12 = .ok (.iconst 1, 1) := by decide +kernel
theorem d_Mo_close_13 : decode b_Mo_close 13 = .ok (.invokevirtual 99, 3) := by decide +kernel
theorem d_Mo_close_16 : decode b_Mo_close 16 = .ok (.ifCond .eq 5, 3) := by decide +kernel
theorem d_Mo_close_19 : decode b_Mo_close 19 = .ok (.iconst 0, 1) := by decide +kernel
theorem d_Mo_close_20 : decode b_Mo_close 20 = .ok (.ireturn, 1) := by decide +kernel
theorem d_Mo_close_21 : decode b_Mo_close 21 = .ok (.aload_n 0, 1) := by decide +kernel
theorem d_Mo_close_22 : decode b_Mo_close 22 = .ok (.getfield 19, 3) := by decide +kernel
theorem d_Mo_close_25 : decode b_Mo_close 25 = .ok (.aload_n 0, 1) := by decide +kernel
theorem d_Mo_close_26 : decode b_Mo_close 26 = .ok (.getfield 92, 3) := by decide +kernel
theorem d_Mo_close_29 : decode b_Mo_close 29 = .ok (.iconst 1, 1) := by decide +kernel
theorem d_Mo_close_30 : decode b_Mo_close 30 = .ok (.isub, 1) := by decide +kernel
theorem d_Mo_close_31 : decode b_Mo_close 31 = .ok (.iconst 1, 1) := by decide +kernel
theorem d_Mo_close_32 : decode b_Mo_close 32 = .ok (.bastore, 1) := by decide +kernel
theorem d_Mo_close_33 : decode b_Mo_close 33 = .ok (.aload_n 0, 1) := by decide +kernel
theorem d_Mo_close_34 : decode b_Mo_close 34 = .ok (.invokevirtual 115, 3) := by decide +kernel
theorem d_Mo_close_37 : decode b_Mo_close 37 = .ok (.ireturn, 1) := by decide +kernel
theorem d_Mo_clear_0 : decode b_Mo_clear 0 = .ok (.aload_n 0, 1) := by decide +kernel
theorem d_Mo_clear_1 : decode b_Mo_clear 1 = .ok (.iconst 0, 1) := by decide +kernel
theorem d_Mo_clear_2 : decode b_Mo_clear 2 = .ok (.putfield 82, 3) := by decide +kernel
theorem d_Mo_clear_5 : decode b_Mo_clear 5 = .ok (.aload_n 0, 1) := by decide +kernel
theorem d_Mo_clear_6 : decode b_Mo_clear 6 = .ok (.getfield 92, 3) := by decide +kernel
theorem d_Mo_clear_9 : decode b_Mo_clear 9 = .ok (.istore_n 1, 1) := by decide +kernel
theorem d_Mo_clear_10 : decode b_Mo_clear 10 = .ok (.aload_n 0, 1) := by decide +kernel
theorem d_Mo_clear_11 : decode b_Mo_clear 11 = .ok (.iconst 0, 1) := by decide +kernel
theorem d_Mo_clear_12 : decode b_Mo_clear 12 = .ok (.putfield 92, 3) := by decide +kernel
theorem d_Mo_clear_15 : decode b_Mo_clear 15 = .ok (.aload_n 0, 1) := by decide +kernel
theorem d_Mo_clear_16 : decode b_Mo_clear 16 = .ok (.iconst 0, 1) := by decide +kernel
theorem d_Mo_clear_17 : decode b_Mo_clear 17 = .ok (.putfield 89, 3) := by decide +kernel
theorem d_Mo_clear_20 : decode b_Mo_clear 20 = .ok (.iload_n 1, 1) := by decide +kernel
theorem d_Mo_clear_21 : decode b_Mo_clear 21 = .ok (.ireturn, 1) := by decide +kernel
theorem d_Mo_pen_0 : decode b_Mo_pen 0 = .ok (.iload_n 1, 1) := by decide +kernel
theorem d_Mo_pen_1 : decode b_Mo_pen 1 = .ok (.iconst 1, 1) := by decide +kernel
theorem d_Mo_pen_2 : decode b_Mo_pen 2 = .ok (.sipush 4096, 3) := by decide +kernel
theorem d_Mo_pen_5 : decode b_Mo_pen 5 = .ok (.invokestatic 85, 3) := by decide +kernel
theorem d_Mo_pen_8 : decode b_Mo_pen 8 = .ok (.ifCond .eq 38, 3) := by decide +kernel
theorem d_Mo_pen_11 : decode b_Mo_pen 11 = .ok (.iload_n 2, 1) := by decide +kernel
theorem d_Mo_pen_12 : decode b_Mo_pen 12 = .ok (.iconst 0, 1) := by decide +kernel
theorem d_Mo_pen_13 : decode b_Mo_pen 13 = .ok (.iconst 2, 1) := by decide +kernel
theorem d_Mo_pen_14 : decode b_Mo_pen 14 = .ok (.invokestatic 85, 3) := by decide +kernel
theorem d_Mo_pen_17 : decode b_Mo_pen 17 = .ok (.ifCond .eq 29, 3) := by decide +kernel
theorem d_Mo_pen_20 : decode b_Mo_pen 20 = .ok (.iload_n 3, 1) := by decide +kernel
theorem d_Mo_pen_21 : decode b_Mo_pen 21 = .ok (.iconst 0, 1) := by decide +kernel
theorem d_Mo_pen_22 : decode b_Mo_pen 22 = .ok (.iconst 2, 1) := by decide +kernel
theorem d_Mo_pen_23 : decode b_Mo_pen 23 = .ok (.invokestatic 85, 3) := by decide +kernel
theorem d_Mo_pen_26 : decode b_Mo_pen 26 = .ok (.ifCond .eq 20, 3) := by decide +kernel
theorem d_Mo_pen_29 : decode b_Mo_pen 29 = .ok (.iload 4, 2) := by decide +kernel
theorem d_Mo_pen_31 : decode b_Mo_pen 31 = .ok (.bipush 64, 2) := by decide +kernel
theorem d_Mo_pen_33 : decode b_Mo_pen 33 = .ok (.sipush 8192, 3) := by decide +kernel
theorem d_Mo_pen_36 : decode b_Mo_pen 36 = .ok (.invokestatic 85, 3) := by decide +kernel
theorem d_Mo_pen_39 : decode b_Mo_pen 39 = .ok (.ifCond .eq 7, 3) := by decide +kernel
theorem d_Mo_pen_42 : decode b_Mo_pen 42 = .ok (.iconst 1, 1) := by decide +kernel
theorem d_Mo_pen_43 : decode b_Mo_pen 43 = .ok (.goto 4, 3) := by decide +kernel
theorem d_Mo_pen_46 : decode b_Mo_pen 46 = .ok (.iconst 0, 1) := by decide +kernel
theorem d_Mo_pen_47 : decode b_Mo_pen 47 = .ok (.istore 5, 2) := by decide +kernel
theorem d_Mo_pen_49 : decode b_Mo_pen 49 = .ok (.aload_n 0, 1) := by decide +kernel
theorem d_Mo_pen_50 : decode b_Mo_pen 50 = .ok (.iload 5, 2) := by decide +kernel
theorem d_Mo_pen_52 : decode b_Mo_pen 52 = .ok (.ifCond .eq 7, 3) := by decide +kernel
theorem d_Mo_pen_55 : decode b_Mo_pen 55 = .ok (.iconst 0, 1) := by decide +kernel
theorem d_Mo_pen_56 : decode b_Mo_pen 56 = .ok (.goto 4, 3) := by decide +kernel
theorem d_Mo_pen_59 : decode b_Mo_pen 59 = .ok (.iconst 1, 1) := by decide +kernel
theorem d_Mo_pen_60 : decode b_Mo_pen 60 = .ok (.invokevirtual 99, 3) := by decide +kernel
theorem d_Mo_pen_63 : decode b_Mo_pen 63 = .ok (.ifCond .eq 4, 3) := by decide +kernel
theorem d_Mo_pen_66 : decode b_Mo_pen 66 = .ok (.return_, 1) := by decide +kernel
theorem d_Mo_pen_67 : decode b_Mo_pen 67 = .ok (.aload_n 0, 1) := by decide +kernel
theorem d_Mo_pen_68 : decode b_Mo_pen 68 = .ok (.iload_n 1, 1) := by decide +kernel
theorem d_Mo_pen_69 : decode b_Mo_pen 69 = .ok (.putfield 29, 3) := by decide +kernel
theorem d_Mo_pen_72 : decode b_Mo_pen 72 = .ok (.aload_n 0, 1) := by decide +kernel
theorem d_Mo_pen_73 : decode b_Mo_pen 73 = .ok (.iload_n 2, 1) := by decide +kernel
theorem d_Mo_pen_74 : decode b_Mo_pen 74 = .ok (.putfield 119, 3) := by decide +kernel
theorem d_Mo_pen_77 : decode b_Mo_pen 77 = .ok (.aload_n 0, 1) := by decide +kernel
theorem d_Mo_pen_78 : decode b_Mo_pen 78 = .ok (.iload_n 3, 1) := by decide +kernel
theorem d_Mo_pen_79 : decode b_Mo_pen 79 = .ok (.putfield 122, 3) := by decide +kernel
theorem d_Mo_pen_82 : decode b_Mo_pen 82 = .ok (.aload_n 0, 1) := by decide +kernel
theorem d_Mo_pen_83 : decode b_Mo_pen 83 = .ok (.iload 4, 2) := by decide +kernel
theorem d_Mo_pen_85 : decode b_Mo_pen 85 = .ok (.putfield 33, 3) := by decide +kernel
theorem d_Mo_pen_88 : decode b_Mo_pen 88 = .ok (.return_, 1) := by decide +kernel
theorem d_Mo_dash_0 : decode b_Mo_dash 0 = .ok (.aload_n 0, 1) := by decide +kernel
theorem d_Mo_dash_1 : decode b_Mo_dash 1 = .ok (.iload_n 1, 1) := by decide +kernel
theorem d_Mo_dash_2 : decode b_Mo_dash 2 = .ok (.iconst 0, 1) := by decide +kernel
theorem d_Mo_dash_3 : decode b_Mo_dash 3 = .ok (.sipush 8192, 3) := by decide +kernel
theorem d_Mo_dash_6 : decode b_Mo_dash 6 = .ok (.invokestatic 85, 3) := by decide +kernel
theorem d_Mo_dash_9 : decode b_Mo_dash 9 = .ok (.ifCond .ne 7, 3) := by decide +kernel
theorem d_Mo_dash_12 : decode b_Mo_dash 12 = .ok (.iconst 1, 1) := by decide +kernel
theorem d_Mo_dash_13 : decode b_Mo_dash 13 = .ok (.goto 17, 3) := by decide +kernel
theorem d_Mo_dash_16 : decode b_Mo_dash 16 = .ok (.aload_n 0, 1) := by decide +kernel
theorem d_Mo_dash_17 : decode b_Mo_dash 17 = .ok (.getfield 125, 3) := by decide +kernel
theorem d_Mo_dash_20 : decode b_Mo_dash 20 = .ok (.bipush 8, 2) := by decide +kernel
theorem d_Mo_dash_22 : decode b_Mo_dash 22 = .ok (.if_icmp .ne 7, 3) := by decide +kernel
theorem d_Mo_dash_25 : decode b_Mo_dash 25 = .ok (.iconst 2, 1) := by decide +kernel
theorem d_Mo_dash_26 : decode b_Mo_dash 26 = .ok (.goto 4, 3) := by decide +kernel
theorem d_Mo_dash_29 : decode b_Mo_dash 29 = .ok (.iconst 0, 1) := by decide +kernel
theorem d_Mo_dash_30 : decode b_Mo_dash 30 = .ok (.invokevirtual 99, 3) := by decide +kernel
theorem d_Mo_dash_33 : decode b_Mo_dash 33 = .ok (.ifCond .eq 5, 3) := by decide +kernel
theorem d_Mo_dash_36 : decode b_Mo_dash 36 = .ok (.iconst 0, 1) := by decide +kernel
theorem d_Mo_dash_37 : decode b_Mo_dash 37 = .ok (.ireturn, 1) := by decide +kernel
theorem d_Mo_dash_38 : decode b_Mo_dash 38 = .ok (.aload_n 0, 1) := by decide +kernel
theorem d_Mo_dash_39 : decode b_Mo_dash 39 = .ok (.getfield 36, 3) := by decide +kernel
theorem d_Mo_dash_42 : decode b_Mo_dash 42 = .ok (.aload_n 0, 1) := by decide +kernel
theorem d_Mo_dash_43 : decode b_Mo_dash 43 = .ok (.getfield 125, 3) := by decide +kernel
theorem d_Mo_dash_46 : decode b_Mo_dash 46 = .ok (.iload_n 1, 1) := by decide +kernel
theorem d_Mo_dash_47 : decode b_Mo_dash 47 = .ok (.iastore, 1) := by decide +kernel
theorem d_Mo_dash_48 : decode b_Mo_dash 48 = .ok (.aload_n 0, 1) := by decide +kernel
theorem d_Mo_dash_49 : decode b_Mo_dash 49 = .ok (.dup, 1) := by decide +kernel
theorem d_Mo_dash_50 : decode b_Mo_dash 50 = .ok (.getfield 125, 3) := by decide +kernel
theorem d_Mo_dash_53 : decode b_Mo_dash 53 = .ok (.iconst 1, 1) := by decide +kernel
theorem d_Mo_dash_54 : decode b_Mo_dash 54 = .ok (.iadd, 1) := by decide +kernel
theorem d_Mo_dash_55 : decode b_Mo_dash 55 = .ok (.putfield 125, 3) := by decide +kernel
theorem d_Mo_dash_58 : decode b_Mo_dash 58 = .ok (.aload_n 0, 1) := by decide +kernel
theorem d_Mo_dash_59 : decode b_Mo_dash 59 = .ok (.getfield 125, 3) := by decide +kernel
theorem d_Mo_dash_62 : decode b_Mo_dash 62 = .ok (.ireturn, 1) := by decide +kernel
theorem d_Mo_plain_0 : decode b_Mo_plain 0 = .ok (.aload_n 0, 1) := by decide +kernel
theorem d_Mo_plain_1 : decode b_Mo_plain 1 = .ok (.iload_n 1, 1) := by decide +kernel
theorem d_Mo_plain_2 : decode b_Mo_plain 2 = .ok (.iconst 0, 1) := by decide +kernel
theorem d_Mo_plain_3 : decode b_Mo_plain 3 = .ok (.ldc 128, 2) := by decide +kernel
theorem d_Mo_plain_5 : decode b_Mo_plain 5 = .ok (.invokestatic 85, 3) := by decide +kernel
theorem d_Mo_plain_8 : decode b_Mo_plain 8 = .ok (.ifCond .eq 7, 3) := by decide +kernel
theorem d_Mo_plain_11 : decode b_Mo_plain 11 = .ok (.iconst 0, 1) := by decide +kernel
theorem d_Mo_plain_12 : decode b_Mo_plain 12 = .ok (.goto 4, 3) := by decide +kernel
theorem d_Mo_plain_15 : decode b_Mo_plain 15 = .ok (.iconst 1, 1) := by decide +kernel
theorem d_Mo_plain_16 : decode b_Mo_plain 16 = .ok (.invokevirtual 99, 3) := by decide +kernel
theorem d_Mo_plain_19 : decode b_Mo_plain 19 = .ok (.ifCond .eq 5, 3) := by decide +kernel
theorem d_Mo_plain_22 : decode b_Mo_plain 22 = .ok (.iconst 0, 1) := by decide +kernel
theorem d_Mo_plain_23 : decode b_Mo_plain 23 = .ok (.ireturn, 1) := by decide +kernel
theorem d_Mo_plain_24 : decode b_Mo_plain 24 = .ok (.aload_n 0, 1) := by decide +kernel
theorem d_Mo_plain_25 : decode b_Mo_plain 25 = .ok (.getfield 125, 3) := by decide +kernel
theorem d_Mo_plain_28 : decode b_Mo_plain 28 = .ok (.istore_n 2, 1) := by decide +kernel
theorem d_Mo_plain_29 : decode b_Mo_plain 29 = .ok (.aload_n 0, 1) := by decide +kernel
theorem d_Mo_plain_30 : decode b_Mo_plain 30 = .ok (.iconst 0, 1) := by decide +kernel
theorem d_Mo_plain_31 : decode b_Mo_plain 31 = .ok (.putfield 125, 3) := by decide +kernel
theorem d_Mo_plain_34 : decode b_Mo_plain 34 = .ok (.aload_n 0, 1) := by decide +kernel
theorem d_Mo_plain_35 : decode b_Mo_plain 35 = .ok (.iload_n 1, 1) := by decide +kernel
theorem d_Mo_plain_36 : decode b_Mo_plain 36 = .ok (.putfield 129, 3) := by decide +kernel
theorem d_Mo_plain_39 : decode b_Mo_plain 39 = .ok (.iload_n 2, 1) := by decide +kernel
theorem d_Mo_plain_40 : decode b_Mo_plain 40 = .ok (.ireturn, 1) := by decide +kernel
theorem d_Mo_half_0 : decode b_Mo_half 0 = .ok (.ldc2_w 132, 3) := by decide +kernel
theorem d_Mo_half_3 : decode b_Mo_half 3 = .ok (.aload_n 0, 1) := by decide +kernel
theorem d_Mo_half_4 : decode b_Mo_half 4 = .ok (.getfield 29, 3) := by decide +kernel
theorem d_Mo_half_7 : decode b_Mo_half 7 = .ok (.i2l, 1) := by decide +kernel
theorem d_Mo_half_8 : decode b_Mo_half 8 = .ok (.lmul, 1) := by decide +kernel
theorem d_Mo_half_9 : decode b_Mo_half 9 = .ok (.lreturn, 1) := by decide +kernel
theorem d_Mo_nearest_0 : decode b_Mo_nearest 0 = .ok (.lload_n 2, 1) := by decide +kernel
theorem d_Mo_nearest_1 : decode b_Mo_nearest 1 = .ok (.lload_n 2, 1) := by decide +kernel
theorem d_Mo_nearest_2 : decode b_Mo_nearest 2 = .ok (.lmul, 1) := by decide +kernel
theorem d_Mo_nearest_3 : decode b_Mo_nearest 3 = .ok (.lstore 4, 2) := by decide +kernel
theorem d_Mo_nearest_5 : decode b_Mo_nearest 5 = .ok (.lconst 0, 1) := by decide +kernel
theorem d_Mo_nearest_6 : decode b_Mo_nearest 6 = .ok (.lstore 6, 2) := by decide +kernel
theorem d_Mo_nearest_8 : decode b_Mo_nearest 8 = .ok (.ldc2_w 134, 3) := by decide +kernel
theorem d_Mo_nearest_11 : decode b_Mo_nearest 11 = .ok (.lstore 8, 2) := by decide +kernel
theorem d_Mo_nearest_13 : decode b_Mo_nearest 13 = .ok (.lload 6, 2) := by decide +kernel
theorem d_Mo_nearest_15 : decode b_Mo_nearest 15 = .ok (.lload 8, 2) := by decide +kernel
theorem d_Mo_nearest_17 : decode b_Mo_nearest 17 = .ok (.lcmp, 1) := by decide +kernel
theorem d_Mo_nearest_18 : decode b_Mo_nearest 18 = .ok (.ifCond .ge 55, 3) := by decide +kernel
theorem d_Mo_nearest_21 : decode b_Mo_nearest 21 = .ok (.lload 6, 2) := by decide +kernel
theorem d_Mo_nearest_23 : decode b_Mo_nearest 23 = .ok (.lload 8, 2) := by decide +kernel
theorem d_Mo_nearest_25 : decode b_Mo_nearest 25 = .ok (.ladd, 1) := by decide +kernel
theorem d_Mo_nearest_26 : decode b_Mo_nearest 26 = .ok (.lconst 1, 1) := by decide +kernel
theorem d_Mo_nearest_27 : decode b_Mo_nearest 27 = .ok (.ladd, 1) := by decide +kernel
theorem d_Mo_nearest_28 : decode b_Mo_nearest 28 = .ok (.ldc2_w 136, 3) := by decide +kernel
theorem d_Mo_nearest_31 : decode b_Mo_nearest 31 = .ok (.ldiv, 1) := by decide +kernel
theorem d_Mo_nearest_32 : decode b_Mo_nearest 32 = .ok (.lstore 10, 2) := by decide +kernel
theorem d_Mo_nearest_34 : decode b_Mo_nearest 34 = .ok (.ldc2_w 136, 3) := by decide +kernel
theorem d_Mo_nearest_37 : decode b_Mo_nearest 37 = .ok (.lload 10, 2) := by decide +kernel
theorem d_Mo_nearest_39 : decode b_Mo_nearest 39 = .ok (.lmul, 1) := by decide +kernel
theorem d_Mo_nearest_40 : decode b_Mo_nearest 40 = .ok (.lconst 1, 1) := by decide +kernel
theorem d_Mo_nearest_41 : decode b_Mo_nearest 41 = .ok (.lsub, 1) := by decide +kernel
theorem d_Mo_nearest_42 : decode b_Mo_nearest 42 = .ok (.lstore 12, 2) := by decide +kernel
theorem d_Mo_nearest_44 : decode b_Mo_nearest 44 = .ok (.lload 12, 2) := by decide +kernel
theorem d_Mo_nearest_46 : decode b_Mo_nearest 46 = .ok (.lload 12, 2) := by decide +kernel
theorem d_Mo_nearest_48 : decode b_Mo_nearest 48 = .ok (.lmul, 1) := by decide +kernel
theorem d_Mo_nearest_49 : decode b_Mo_nearest 49 = .ok (.lload_n 0, 1) := by decide +kernel
theorem d_Mo_nearest_50 : decode b_Mo_nearest 50 = .ok (.lmul, 1) := by decide +kernel
theorem d_Mo_nearest_51 : decode b_Mo_nearest 51 = .ok (.lload 4, 2) := by decide +kernel
theorem d_Mo_nearest_53 : decode b_Mo_nearest 53 = .ok (.lcmp, 1) := by decide +kernel
theorem d_Mo_nearest_54 : decode b_Mo_nearest 54 = .ok (.ifCond .gt 10, 3) := by decide +kernel
theorem d_Mo_nearest_57 : decode b_Mo_nearest 57 = .ok (.lload 10, 2) := by decide +kernel
theorem d_Mo_nearest_59 : decode b_Mo_nearest 59 = .ok (.lstore 6, 2) := by decide +kernel
theorem d_Mo_nearest_61 : decode b_Mo_nearest 61 = .ok (.goto 9, 3) := by decide +kernel
theorem d_Mo_nearest_64 : decode b_Mo_nearest 64 = .ok (.lload 10, 2) := by decide +kernel
theorem d_Mo_nearest_66 : decode b_Mo_nearest 66 = .ok (.lconst 1, 1) := by decide +kernel
theorem d_Mo_nearest_67 : decode b_Mo_nearest 67 = .ok (.lsub, 1) := by decide +kernel
theorem d_Mo_nearest_68 : decode b_Mo_nearest 68 = .ok (.lstore 8, 2) := by decide +kernel
theorem d_Mo_nearest_70 : decode b_Mo_nearest 70 = .ok (.goto (-57), 3) := by decide +kernel
theorem d_Mo_nearest_73 : decode b_Mo_nearest 73 = .ok (.lload 6, 2) := by decide +kernel
theorem d_Mo_nearest_75 : decode b_Mo_nearest 75 = .ok (.l2i, 1) := by decide +kernel
theorem d_Mo_nearest_76 : decode b_Mo_nearest 76 = .ok (.ireturn, 1) := by decide +kernel
theorem d_Mo_offset_0 : decode b_Mo_offset 0 = .ok (.lload_n 1, 1) := by decide +kernel
theorem d_Mo_offset_1 : decode b_Mo_offset 1 = .ok (.lload_n 1, 1) := by decide +kernel
theorem d_Mo_offset_2 : decode b_Mo_offset 2 = .ok (.lmul, 1) := by decide +kernel
theorem d_Mo_offset_3 : decode b_Mo_offset 3 = .ok (.lload_n 3, 1) := by decide +kernel
theorem d_Mo_offset_4 : decode b_Mo_offset 4 = .ok (.lload_n 3, 1) := by decide +kernel
theorem d_Mo_offset_5 : decode b_Mo_offset 5 = .ok (.lmul, 1) := by decide +kernel
theorem d_Mo_offset_6 : decode b_Mo_offset 6 = .ok (.ladd, 1) := by decide +kernel
theorem d_Mo_offset_7 : decode b_Mo_offset 7 = .ok (.lstore 5, 2) := by decide +kernel
theorem d_Mo_offset_9 : decode b_Mo_offset 9 = .ok (.lload 5, 2) := by decide +kernel
theorem d_Mo_offset_11 : decode b_Mo_offset 11 = .ok (.ldc2_w 136, 3) := by decide +kernel
theorem d_Mo_offset_14 : decode b_Mo_offset 14 = .ok (.aload_n 0, 1) := by decide +kernel
theorem d_Mo_offset_15 : decode b_Mo_offset 15 = .ok (.invokevirtual 138, 3) := by decide +kernel
theorem d_Mo_offset_18 : decode b_Mo_offset 18 = .ok (.lmul, 1) := by decide +kernel
theorem d_Mo_offset_19 : decode b_Mo_offset 19 = .ok (.lload_n 3, 1) := by decide +kernel
theorem d_Mo_offset_20 : decode b_Mo_offset 20 = .ok (.lmul, 1) := by decide +kernel
theorem d_Mo_offset_21 : decode b_Mo_offset 21 = .ok (.invokestatic 142, 3) := by decide +kernel
theorem d_Mo_offset_24 : decode b_Mo_offset 24 = .ok (.istore 7, 2) := by decide +kernel
theorem d_Mo_offset_26 : decode b_Mo_offset 26 = .ok (.lload 5, 2) := by decide +kernel
theorem d_Mo_offset_28 : decode b_Mo_offset 28 = .ok (.ldc2_w 136, 3) := by decide +kernel
theorem d_Mo_offset_31 : decode b_Mo_offset 31 = .ok (.aload_n 0, 1) := by decide +kernel
theorem d_Mo_offset_32 : decode b_Mo_offset 32 = .ok (.invokevirtual 138, 3) := by decide +kernel
theorem d_Mo_offset_35 : decode b_Mo_offset 35 = .ok (.lmul, 1) := by decide +kernel
theorem d_Mo_offset_36 : decode b_Mo_offset 36 = .ok (.lload_n 1, 1) := by decide +kernel
theorem d_Mo_offset_37 : decode b_Mo_offset 37 = .ok (.lmul, 1) := by decide +kernel
theorem d_Mo_offset_38 : decode b_Mo_offset 38 = .ok (.invokestatic 142, 3) := by decide +kernel
theorem d_Mo_offset_41 : decode b_Mo_offset 41 = .ok (.istore 8, 2) := by decide +kernel
theorem d_Mo_offset_43 : decode b_Mo_offset 43 = .ok (.aload_n 0, 1) := by decide +kernel
theorem d_Mo_offset_44 : decode b_Mo_offset 44 = .ok (.lload_n 3, 1) := by decide +kernel
theorem d_Mo_offset_45 : decode b_Mo_offset 45 = .ok (.lconst 0, 1) := by decide +kernel
theorem d_Mo_offset_46 : decode b_Mo_offset 46 = .ok (.lcmp, 1) := by decide +kernel
theorem d_Mo_offset_47 : decode b_Mo_offset 47 = .ok (.ifCond .ge 9, 3) := by decide +kernel
theorem d_Mo_offset_50 : decode b_Mo_offset 50 = .ok (.iload 7, 2) := by decide +kernel
theorem d_Mo_offset_52 : decode b_Mo_offset 52 = .ok (.ineg, 1) := by decide +kernel
theorem d_Mo_offset_53 : decode b_Mo_offset 53 = .ok (.goto 5, 3) := by decide +kernel
theorem d_Mo_offset_56 : decode b_Mo_offset 56 = .ok (.iload 7, 2) := by decide +kernel
theorem d_Mo_offset_58 : decode b_Mo_offset 58 = .ok (.putfield 146, 3) := by decide +kernel
theorem d_Mo_offset_61 : decode b_Mo_offset 61 = .ok (.aload_n 0, 1) := by decide +kernel
theorem d_Mo_offset_62 : decode b_Mo_offset 62 = .ok (.lload_n 1, 1) := by decide +kernel
theorem d_Mo_offset_63 : decode b_Mo_offset 63 = .ok (.lconst 0, 1) := by decide +kernel
theorem d_Mo_offset_64 : decode b_Mo_offset 64 = .ok (.lcmp, 1) := by decide +kernel
theorem d_Mo_offset_65 : decode b_Mo_offset 65 = .ok (.ifCond .ge 8, 3) := by decide +kernel
theorem d_Mo_offset_68 : decode b_Mo_offset 68 = .ok (.iload 8, 2) := by decide +kernel
theorem d_Mo_offset_70 : decode b_Mo_offset 70 = .ok (.goto 6, 3) := by decide +kernel
theorem d_Mo_offset_73 : decode b_Mo_offset 73 = .ok (.iload 8, 2) := by decide +kernel
theorem d_Mo_offset_75 : decode b_Mo_offset 75 = .ok (.ineg, 1) := by decide +kernel
theorem d_Mo_offset_76 : decode b_Mo_offset 76 = .ok (.putfield 149, 3) := by decide +kernel
theorem d_Mo_offset_79 : decode b_Mo_offset 79 = .ok (.return_, 1) := by decide +kernel
theorem d_Mo_root_0 : decode b_Mo_root 0 = .ok (.lconst 0, 1) := by decide +kernel
theorem d_Mo_root_1 : decode b_Mo_root 1 = .ok (.lstore_n 2, 1) := by decide +kernel
theorem d_Mo_root_2 : decode b_Mo_root 2 = .ok (.ldc2_w 152, 3) := by decide +kernel
theorem d_Mo_root_5 : decode b_Mo_root 5 = .ok (.lstore 4, 2) := by decide +kernel
theorem d_Mo_root_7 : decode b_Mo_root 7 = .ok (.lload_n 2, 1) := by decide +kernel
theorem d_Mo_root_8 : decode b_Mo_root 8 = .ok (.lload 4, 2) := by decide +kernel
theorem d_Mo_root_10 : decode b_Mo_root 10 = .ok (.lcmp, 1) := by decide +kernel
theorem d_Mo_root_11 : decode b_Mo_root 11 = .ok (.ifCond .ge 40, 3) := by decide +kernel
theorem d_Mo_root_14 : decode b_Mo_root 14 = .ok (.lload_n 2, 1) := by decide +kernel
theorem d_Mo_root_15 : decode b_Mo_root 15 = .ok (.lload 4, 2) := by decide +kernel
theorem d_Mo_root_17 : decode b_Mo_root 17 = .ok (.ladd, 1) := by decide +kernel
theorem d_Mo_root_18 : decode b_Mo_root 18 = .ok (.lconst 1, 1) := by decide +kernel
theorem d_Mo_root_19 : decode b_Mo_root 19 = .ok (.ladd, 1) := by decide +kernel
theorem d_Mo_root_20 : decode b_Mo_root 20 = .ok (.ldc2_w 136, 3) := by decide +kernel
theorem d_Mo_root_23 : decode b_Mo_root 23 = .ok (.ldiv, 1) := by decide +kernel
theorem d_Mo_root_24 : decode b_Mo_root 24 = .ok (.lstore 6, 2) := by decide +kernel
theorem d_Mo_root_26 : decode b_Mo_root 26 = .ok (.lload 6, 2) := by decide +kernel
theorem d_Mo_root_28 : decode b_Mo_root 28 = .ok (.lload 6, 2) := by decide +kernel
theorem d_Mo_root_30 : decode b_Mo_root 30 = .ok (.lmul, 1) := by decide +kernel
theorem d_Mo_root_31 : decode b_Mo_root 31 = .ok (.lload_n 0, 1) := by decide +kernel
theorem d_Mo_root_32 : decode b_Mo_root 32 = .ok (.lcmp, 1) := by decide +kernel
theorem d_Mo_root_33 : decode b_Mo_root 33 = .ok (.ifCond .gt 9, 3) := by decide +kernel
theorem d_Mo_root_36 : decode b_Mo_root 36 = .ok (.lload 6, 2) := by decide +kernel
theorem d_Mo_root_38 : decode b_Mo_root 38 = .ok (.lstore_n 2, 1) := by decide +kernel
theorem d_Mo_root_39 : decode b_Mo_root 39 = .ok (.goto 9, 3) := by decide +kernel
theorem d_Mo_root_42 : decode b_Mo_root 42 = .ok (.lload 6, 2) := by decide +kernel
theorem d_Mo_root_44 : decode b_Mo_root 44 = .ok (.lconst 1, 1) := by decide +kernel
theorem d_Mo_root_45 : decode b_Mo_root 45 = .ok (.lsub, 1) := by decide +kernel
theorem d_Mo_root_46 : decode b_Mo_root 46 = .ok (.lstore 4, 2) := by decide +kernel
theorem d_Mo_root_48 : decode b_Mo_root 48 = .ok (.goto (-41), 3) := by decide +kernel
theorem d_Mo_root_51 : decode b_Mo_root 51 = .ok (.lload_n 2, 1) := by decide +kernel
theorem d_Mo_root_52 : decode b_Mo_root 52 = .ok (.lreturn, 1) := by decide +kernel
theorem d_Mo_floor_0 : decode b_Mo_floor 0 = .ok (.lload_n 0, 1) := by decide +kernel
theorem d_Mo_floor_1 : decode b_Mo_floor 1 = .ok (.lload_n 2, 1) := by decide +kernel
theorem d_Mo_floor_2 : decode b_Mo_floor 2 = .ok (.ldiv, 1) := by decide +kernel
theorem d_Mo_floor_3 : decode b_Mo_floor 3 = .ok (.lstore 4, 2) := by decide +kernel
theorem d_Mo_floor_5 : decode b_Mo_floor 5 = .ok (.lload_n 0, 1) := by decide +kernel
theorem d_Mo_floor_6 : decode b_Mo_floor 6 = .ok (.lload_n 2, 1) := by decide +kernel
theorem d_Mo_floor_7 : decode b_Mo_floor 7 = .ok (.lrem, 1) := by decide +kernel
theorem d_Mo_floor_8 : decode b_Mo_floor 8 = .ok (.lconst 0, 1) := by decide +kernel
theorem d_Mo_floor_9 : decode b_Mo_floor 9 = .ok (.lcmp, 1) := by decide +kernel
theorem d_Mo_floor_10 : decode b_Mo_floor 10 = .ok (.ifCond .ge 10, 3) := by decide +kernel
theorem d_Mo_floor_13 : decode b_Mo_floor 13 = .ok (.lload 4, 2) := by decide +kernel
theorem d_Mo_floor_15 : decode b_Mo_floor 15 = .ok (.lconst 1, 1) := by decide +kernel
theorem d_Mo_floor_16 : decode b_Mo_floor 16 = .ok (.lsub, 1) := by decide +kernel
theorem d_Mo_floor_17 : decode b_Mo_floor 17 = .ok (.goto 5, 3) := by decide +kernel
theorem d_Mo_floor_20 : decode b_Mo_floor 20 = .ok (.lload 4, 2) := by decide +kernel
theorem d_Mo_floor_22 : decode b_Mo_floor 22 = .ok (.lreturn, 1) := by decide +kernel
theorem d_Mo_piece_0 : decode b_Mo_piece 0 = .ok (.aload_n 0, 1) := by decide +kernel
theorem d_Mo_piece_1 : decode b_Mo_piece 1 = .ok (.getfield 154, 3) := by decide +kernel
theorem d_Mo_piece_4 : decode b_Mo_piece 4 = .ok (.sipush 2001, 3) := by decide +kernel
theorem d_Mo_piece_7 : decode b_Mo_piece 7 = .ok (.if_icmp .ge 126, 3) := by decide +kernel
theorem d_Mo_piece_10 : decode b_Mo_piece 10 = .ok (.aload_n 0, 1) := by decide +kernel
theorem d_Mo_piece_11 : decode b_Mo_piece 11 = .ok (.getfield 45, 3) := by decide +kernel
theorem d_Mo_piece_14 : decode b_Mo_piece 14 = .ok (.aload_n 0, 1) := by decide +kernel
theorem d_Mo_piece_15 : decode b_Mo_piece 15 = .ok (.getfield 154, 3) := by decide +kernel
theorem d_Mo_piece_18 : decode b_Mo_piece 18 = .ok (.lload_n 1, 1) := by decide +kernel
theorem d_Mo_piece_19 : decode b_Mo_piece 19 = .ok (.l2i, 1) := by decide +kernel
theorem d_Mo_piece_20 : decode b_Mo_piece 20 = .ok (.iastore, 1) := by decide +kernel
theorem d_Mo_piece_21 : decode b_Mo_piece 21 = .ok (.aload_n 0, 1) := by decide +kernel
theorem d_Mo_piece_22 : decode b_Mo_piece 22 = .ok (.getfield 48, 3) := by decide +kernel
theorem d_Mo_piece_25 : decode b_Mo_piece 25 = .ok (.aload_n 0, 1) := by decide +kernel
theorem d_Mo_piece_26 : decode b_Mo_piece 26 = .ok (.getfield 154, 3) := by decide +kernel
theorem d_Mo_piece_29 : decode b_Mo_piece 29 = .ok (.lload_n 3, 1) := by decide +kernel
theorem d_Mo_piece_30 : decode b_Mo_piece 30 = .ok (.l2i, 1) := by decide +kernel
theorem d_Mo_piece_31 : decode b_Mo_piece 31 = .ok (.iastore, 1) := by decide +kernel
theorem d_Mo_piece_32 : decode b_Mo_piece 32 = .ok (.aload_n 0, 1) := by decide +kernel
theorem d_Mo_piece_33 : decode b_Mo_piece 33 = .ok (.getfield 51, 3) := by decide +kernel
theorem d_Mo_piece_36 : decode b_Mo_piece 36 = .ok (.aload_n 0, 1) := by decide +kernel
theorem d_Mo_piece_37 : decode b_Mo_piece 37 = .ok (.getfield 154, 3) := by decide +kernel
theorem d_Mo_piece_40 : decode b_Mo_piece 40 = .ok (.lload 5, 2) := by decide +kernel
theorem d_Mo_piece_42 : decode b_Mo_piece 42 = .ok (.l2i, 1) := by decide +kernel
theorem d_Mo_piece_43 : decode b_Mo_piece 43 = .ok (.iastore, 1) := by decide +kernel
theorem d_Mo_piece_44 : decode b_Mo_piece 44 = .ok (.aload_n 0, 1) := by decide +kernel
theorem d_Mo_piece_45 : decode b_Mo_piece 45 = .ok (.getfield 54, 3) := by decide +kernel
theorem d_Mo_piece_48 : decode b_Mo_piece 48 = .ok (.aload_n 0, 1) := by decide +kernel
theorem d_Mo_piece_49 : decode b_Mo_piece 49 = .ok (.getfield 154, 3) := by decide +kernel
theorem d_Mo_piece_52 : decode b_Mo_piece 52 = .ok (.lload 7, 2) := by decide +kernel
theorem d_Mo_piece_54 : decode b_Mo_piece 54 = .ok (.l2i, 1) := by decide +kernel
theorem d_Mo_piece_55 : decode b_Mo_piece 55 = .ok (.iastore, 1) := by decide +kernel
theorem d_Mo_piece_56 : decode b_Mo_piece 56 = .ok (.aload_n 0, 1) := by decide +kernel
theorem d_Mo_piece_57 : decode b_Mo_piece 57 = .ok (.getfield 57, 3) := by decide +kernel
theorem d_Mo_piece_60 : decode b_Mo_piece 60 = .ok (.aload_n 0, 1) := by decide +kernel
theorem d_Mo_piece_61 : decode b_Mo_piece 61 = .ok (.getfield 154, 3) := by decide +kernel
theorem d_Mo_piece_64 : decode b_Mo_piece 64 = .ok (.aload_n 0, 1) := by decide +kernel
theorem d_Mo_piece_65 : decode b_Mo_piece 65 = .ok (.getfield 146, 3) := by decide +kernel
theorem d_Mo_piece_68 : decode b_Mo_piece 68 = .ok (.iastore, 1) := by decide +kernel
theorem d_Mo_piece_69 : decode b_Mo_piece 69 = .ok (.aload_n 0, 1) := by decide +kernel
theorem d_Mo_piece_70 : decode b_Mo_piece 70 = .ok (.getfield 60, 3) := by decide +kernel
theorem d_Mo_piece_73 : decode b_Mo_piece 73 = .ok (.aload_n 0, 1) := by decide +kernel
theorem d_Mo_piece_74 : decode b_Mo_piece 74 = .ok (.getfield 154, 3) := by decide +kernel
theorem d_Mo_piece_77 : decode b_Mo_piece 77 = .ok (.aload_n 0, 1) := by decide +kernel
theorem d_Mo_piece_78 : decode b_Mo_piece 78 = .ok (.getfield 149, 3) := by decide +kernel
theorem d_Mo_piece_81 : decode b_Mo_piece 81 = .ok (.iastore, 1) := by decide +kernel
theorem d_Mo_piece_82 : decode b_Mo_piece 82 = .ok (.aload_n 0, 1) := by decide +kernel
theorem d_Mo_piece_83 : decode b_Mo_piece 83 = .ok (.getfield 63, 3) := by decide +kernel
theorem d_Mo_piece_86 : decode b_Mo_piece 86 = .ok (.aload_n 0, 1) := by decide +kernel
theorem d_Mo_piece_87 : decode b_Mo_piece 87 = .ok (.getfield 154, 3) := by decide +kernel
theorem d_Mo_piece_90 : decode b_Mo_piece 90 = .ok (.iload 9, 2) := by decide +kernel
theorem d_Mo_piece_92 : decode b_Mo_piece 92 = .ok (.bastore, 1) := by decide +kernel
theorem d_Mo_piece_93 : decode b_Mo_piece 93 = .ok (.aload_n 0, 1) := by decide +kernel
theorem d_Mo_piece_94 : decode b_Mo_piece 94 = .ok (.getfield 66, 3) := by decide +kernel
theorem d_Mo_piece_97 : decode b_Mo_piece 97 = .ok (.aload_n 0, 1) := by decide +kernel
theorem d_Mo_piece_98 : decode b_Mo_piece 98 = .ok (.getfield 154, 3) := by decide +kernel
theorem d_Mo_piece_101 : decode b_Mo_piece 101 = .ok (.iconst 0, 1) := by decide +kernel
theorem d_Mo_piece_102 : decode b_Mo_piece 102 = .ok (.bastore, 1) := by decide +kernel
theorem d_Mo_piece_103 : decode b_Mo_piece 103 = .ok (.aload_n 0, 1) := by decide +kernel
theorem d_Mo_piece_104 : decode b_Mo_piece 104 = .ok (.getfield 69, 3) := by decide +kernel
theorem d_Mo_piece_107 : decode b_Mo_piece 107 = .ok (.aload_n 0, 1) := by decide +kernel
theorem d_Mo_piece_108 : decode b_Mo_piece 108 = .ok (.getfield 154, 3) := by decide +kernel
theorem d_Mo_piece_111 : decode b_Mo_piece 111 = .ok (.iconst (-1), 1) := by decide +kernel
theorem d_Mo_piece_112 : decode b_Mo_piece 112 = .ok (.iastore, 1) := by decide +kernel
theorem d_Mo_piece_113 : decode b_Mo_piece 113 = .ok (.aload_n 0, 1) := by decide +kernel
theorem d_Mo_piece_114 : decode b_Mo_piece 114 = .ok (.getfield 72, 3) := by decide +kernel
theorem d_Mo_piece_117 : decode b_Mo_piece 117 = .ok (.aload_n 0, 1) := by decide +kernel
theorem d_Mo_piece_118 : decode b_Mo_piece 118 = .ok (.getfield 154, 3) := by decide +kernel
theorem d_Mo_piece_121 : decode b_Mo_piece 121 = .ok (.iconst 0, 1) := by decide +kernel
theorem d_Mo_piece_122 : decode b_Mo_piece 122 = .ok (.bastore, 1) := by decide +kernel
theorem d_Mo_piece_123 : decode b_Mo_piece 123 = .ok (.aload_n 0, 1) := by decide +kernel
theorem d_Mo_piece_124 : decode b_Mo_piece 124 = .ok (.dup, 1) := by decide +kernel
theorem d_Mo_piece_125 : decode b_Mo_piece 125 = .ok (.getfield 154, 3) := by decide +kernel
theorem d_Mo_piece_128 : decode b_Mo_piece 128 = .ok (.iconst 1, 1) := by decide +kernel
theorem d_Mo_piece_129 : decode b_Mo_piece 129 = .ok (.iadd, 1) := by decide +kernel
theorem d_Mo_piece_130 : decode b_Mo_piece 130 = .ok (.putfield 154, 3) := by decide +kernel
theorem d_Mo_piece_133 : decode b_Mo_piece 133 = .ok (.return_, 1) := by decide +kernel
theorem d_Mo_leave_0 : decode b_Mo_leave 0 = .ok (.iload_n 1, 1) := by decide +kernel
theorem d_Mo_leave_1 : decode b_Mo_leave 1 = .ok (.ifCond .ne 7, 3) := by decide +kernel
theorem d_Mo_leave_4 : decode b_Mo_leave 4 = .ok (.iconst 0, 1) := by decide +kernel
theorem d_Mo_leave_5 : decode b_Mo_leave 5 = .ok (.goto 9, 3) := by decide +kernel
theorem d_Mo_leave_8 : decode b_Mo_leave 8 = .ok (.aload_n 0, 1) := by decide +kernel
theorem d_Mo_leave_9 : decode b_Mo_leave 9 = .ok (.getfield 16, 3) := by decide +kernel
theorem d_Mo_leave_12 : decode b_Mo_leave 12 = .ok (.iload_n 1, 1) := by decide +kernel
theorem d_Mo_leave_13 : decode b_Mo_leave 13 = .ok (.iaload, 1) := by decide +kernel
theorem d_Mo_leave_14 : decode b_Mo_leave 14 = .ok (.istore_n 2, 1) := by decide +kernel
theorem d_Mo_leave_15 : decode b_Mo_leave 15 = .ok (.aload_n 0, 1) := by decide +kernel
theorem d_Mo_leave_16 : decode b_Mo_leave 16 = .ok (.getfield 16, 3) := by decide +kernel
theorem d_Mo_leave_19 : decode b_Mo_leave 19 = .ok (.iload_n 1, 1) := by decide +kernel
theorem d_Mo_leave_20 : decode b_Mo_leave 20 = .ok (.iconst 1, 1) := by decide +kernel
theorem d_Mo_leave_21 : decode b_Mo_leave 21 = .ok (.iadd, 1) := by decide +kernel
theorem d_Mo_leave_22 : decode b_Mo_leave 22 = .ok (.iaload, 1) := by decide +kernel
theorem d_Mo_leave_23 : decode b_Mo_leave 23 = .ok (.istore_n 3, 1) := by decide +kernel
theorem d_Mo_leave_24 : decode b_Mo_leave 24 = .ok (.aload_n 0, 1) := by decide +kernel
theorem d_Mo_leave_25 : decode b_Mo_leave 25 = .ok (.iconst 0, 1) := by decide +kernel
theorem d_Mo_leave_26 : decode b_Mo_leave 26 = .ok (.putfield 157, 3) := by decide +kernel
theorem d_Mo_leave_29 : decode b_Mo_leave 29 = .ok (.iload_n 2, 1) := by decide +kernel
theorem d_Mo_leave_30 : decode b_Mo_leave 30 = .ok (.istore 4, 2) := by decide +kernel
theorem d_Mo_leave_32 : decode b_Mo_leave 32 = .ok (.iload 4, 2) := by decide +kernel
theorem d_Mo_leave_34 : decode b_Mo_leave 34 = .ok (.iload_n 3, 1) := by decide +kernel
theorem d_Mo_leave_35 : decode b_Mo_leave 35 = .ok (.if_icmp .ge 112, 3) := by decide +kernel
theorem d_Mo_leave_38 : decode b_Mo_leave 38 = .ok (.aload_n 0, 1) := by decide +kernel
theorem d_Mo_leave_39 : decode b_Mo_leave 39 = .ok (.getfield 157, 3) := by decide +kernel
theorem d_Mo_leave_42 : decode b_Mo_leave 42 = .ok (.ifCond .le 49, 3) := by decide +kernel
theorem d_Mo_leave_45 : decode b_Mo_leave 45 = .ok (.aload_n 0, 1) := by decide +kernel
theorem d_Mo_leave_46 : decode b_Mo_leave 46 = .ok (.getfield 39, 3) := by decide +kernel
theorem d_Mo_leave_49 : decode b_Mo_leave 49 = .ok (.aload_n 0, 1) := by decide +kernel
theorem d_Mo_leave_50 : decode b_Mo_leave 50 = .ok (.getfield 157, 3) := by decide +kernel
theorem d_Mo_leave_53 : decode b_Mo_leave 53 = .ok (.iconst 1, 1) := by decide +kernel
theorem d_Mo_leave_54 : decode b_Mo_leave 54 = .ok (.isub, 1) := by decide +kernel
theorem d_Mo_leave_55 : decode b_Mo_leave 55 = .ok (.iaload, 1) := by decide +kernel
theorem d_Mo_leave_56 : decode b_Mo_leave 56 = .ok (.aload_n 0, 1) := by decide +kernel
theorem d_Mo_leave_57 : decode b_Mo_leave 57 = .ok (.getfield 7, 3) := by decide +kernel
theorem d_Mo_leave_60 : decode b_Mo_leave 60 = .ok (.iload 4, 2) := by decide +kernel
theorem d_Mo_leave_62 : decode b_Mo_leave 62 = .ok (.iaload, 1) := by decide +kernel
theorem d_Mo_leave_63 : decode b_Mo_leave 63 = .ok (.if_icmp .ne 28, 3) := by decide +kernel
theorem d_Mo_leave_66 : decode b_Mo_leave 66 = .ok (.aload_n 0, 1) := by decide +kernel
theorem d_Mo_leave_67 : decode b_Mo_leave 67 = .ok (.getfield 42, 3) := by decide +kernel
theorem d_Mo_leave_70 : decode b_Mo_leave 70 = .ok (.aload_n 0, 1) := by decide +kernel
theorem d_Mo_leave_71 : decode b_Mo_leave 71 = .ok (.getfield 157, 3) := by decide +kernel
theorem d_Mo_leave_74 : decode b_Mo_leave 74 = .ok (.iconst 1, 1) := by decide +kernel
theorem d_Mo_leave_75 : decode b_Mo_leave 75 = .ok (.isub, 1) := by decide +kernel
theorem d_Mo_leave_76 : decode b_Mo_leave 76 = .ok (.iaload, 1) := by decide +kernel
theorem d_Mo_leave_77 : decode b_Mo_leave 77 = .ok (.aload_n 0, 1) := by decide +kernel
theorem d_Mo_leave_78 : decode b_Mo_leave 78 = .ok (.getfield 13, 3) := by decide +kernel
theorem d_Mo_leave_81 : decode b_Mo_leave 81 = .ok (.iload 4, 2) := by decide +kernel
theorem d_Mo_leave_83 : decode b_Mo_leave 83 = .ok (.iaload, 1) := by decide +kernel
theorem d_Mo_leave_84 : decode b_Mo_leave 84 = .ok (.if_icmp .ne 7, 3) := by decide +kernel
theorem d_Mo_leave_87 : decode b_Mo_leave 87 = .ok (.iconst 1, 1) := by decide +kernel
theorem d_Mo_leave_88 : decode b_Mo_leave 88 = .ok (.goto 4, 3) := by decide +kernel
theorem d_Mo_leave_91 : decode b_Mo_leave 91 = .ok (.iconst 0, 1) := by decide +kernel
theorem d_Mo_leave_92 : decode b_Mo_leave 92 = .ok (.istore 5, 2) := by decide +kernel
theorem d_Mo_leave_94 : decode b_Mo_leave 94 = .ok (.iload 5, 2) := by decide +kernel
theorem d_Mo_leave_96 : decode b_Mo_leave 96 = .ok (.ifCond .ne 45, 3) := by decide +kernel
theorem d_Mo_leave_99 : decode b_Mo_leave 99 = .ok (.aload_n 0, 1) := by decide +kernel
theorem d_Mo_leave_100 : decode b_Mo_leave 100 = .ok (.getfield 39, 3) := by decide +kernel
theorem d_Mo_leave_103 : decode b_Mo_leave 103 = .ok (.aload_n 0, 1) := by decide +kernel
theorem d_Mo_leave_104 : decode b_Mo_leave 104 = .ok (.getfield 157, 3) := by decide +kernel
theorem d_Mo_leave_107 : decode b_Mo_leave 107 = .ok (.aload_n 0, 1) := by decide +kernel
theorem d_Mo_leave_108 : decode b_Mo_leave 108 = .ok (.getfield 7, 3) := by decide +kernel
theorem d_Mo_leave_111 : decode b_Mo_leave 111 = .ok (.iload 4, 2) := by decide +kernel
theorem d_Mo_leave_113 : decode b_Mo_leave 113 = .ok (.iaload, 1) := by decide +kernel
theorem d_Mo_leave_114 : decode b_Mo_leave 114 = .ok (.iastore, 1) := by decide +kernel
theorem d_Mo_leave_115 : decode b_Mo_leave 115 = .ok (.aload_n 0, 1) := by decide +kernel
theorem d_Mo_leave_116 : decode b_Mo_leave 116 = .ok (.getfield 42, 3) := by decide +kernel
theorem d_Mo_leave_119 : decode b_Mo_leave 119 = .ok (.aload_n 0, 1) := by decide +kernel
theorem d_Mo_leave_120 : decode b_Mo_leave 120 = .ok (.getfield 157, 3) := by decide +kernel
theorem d_Mo_leave_123 : decode b_Mo_leave 123 = .ok (.aload_n 0, 1) := by decide +kernel
theorem d_Mo_leave_124 : decode b_Mo_leave 124 = .ok (.getfield 13, 3) := by decide +kernel
theorem d_Mo_leave_127 : decode b_Mo_leave 127 = .ok (.iload 4, 2) := by decide +kernel
theorem d_Mo_leave_129 : decode b_Mo_leave 129 = .ok (.iaload, 1) := by decide +kernel
theorem d_Mo_leave_130 : decode b_Mo_leave 130 = .ok (.iastore, 1) := by decide +kernel
theorem d_Mo_leave_131 : decode b_Mo_leave 131 = .ok (.aload_n 0, 1) := by decide +kernel
theorem d_Mo_leave_132 : decode b_Mo_leave 132 = .ok (.dup, 1) := by decide +kernel
theorem d_Mo_leave_133 : decode b_Mo_leave 133 = .ok (.getfield 157, 3) := by decide +kernel
theorem d_Mo_leave_136 : decode b_Mo_leave 136 = .ok (.iconst 1, 1) := by decide +kernel
theorem d_Mo_leave_137 : decode b_Mo_leave 137 = .ok (.iadd, 1) := by decide +kernel
theorem d_Mo_leave_138 : decode b_Mo_leave 138 = .ok (.putfield 157, 3) := by decide +kernel
theorem d_Mo_leave_141 : decode b_Mo_leave 141 = .ok (.iinc 4 1, 3) := by decide +kernel
theorem d_Mo_leave_144 : decode b_Mo_leave 144 = .ok (.goto (-112), 3) := by decide +kernel
theorem d_Mo_leave_147 : decode b_Mo_leave 147 = .ok (.aload_n 0, 1) := by decide +kernel
theorem d_Mo_leave_148 : decode b_Mo_leave 148 = .ok (.getfield 19, 3) := by decide +kernel
theorem d_Mo_leave_151 : decode b_Mo_leave 151 = .ok (.iload_n 1, 1) := by decide +kernel
theorem d_Mo_leave_152 : decode b_Mo_leave 152 = .ok (.baload, 1) := by decide +kernel
theorem d_Mo_leave_153 : decode b_Mo_leave 153 = .ok (.ifCond .eq 61, 3) := by decide +kernel
theorem d_Mo_leave_156 : decode b_Mo_leave 156 = .ok (.aload_n 0, 1) := by decide +kernel
theorem d_Mo_leave_157 : decode b_Mo_leave 157 = .ok (.getfield 157, 3) := by decide +kernel
theorem d_Mo_leave_160 : decode b_Mo_leave 160 = .ok (.iconst 1, 1) := by decide +kernel
theorem d_Mo_leave_161 : decode b_Mo_leave 161 = .ok (.if_icmp .le 53, 3) := by decide +kernel
theorem d_Mo_leave_164 : decode b_Mo_leave 164 = .ok (.aload_n 0, 1) := by decide +kernel
theorem d_Mo_leave_165 : decode b_Mo_leave 165 = .ok (.getfield 39, 3) := by decide +kernel
theorem d_Mo_leave_168 : decode b_Mo_leave 168 = .ok (.aload_n 0, 1) := by decide +kernel
theorem d_Mo_leave_169 : decode b_Mo_leave 169 = .ok (.getfield 157, 3) := by decide +kernel
theorem d_Mo_leave_172 : decode b_Mo_leave 172 = .ok (.iconst 1, 1) := by decide +kernel
theorem d_Mo_leave_173 : decode b_Mo_leave 173 = .ok (.isub, 1) := by decide +kernel
theorem d_Mo_leave_174 : decode b_Mo_leave 174 = .ok (.iaload, 1) := by decide +kernel
theorem d_Mo_leave_175 : decode b_Mo_leave 175 = .ok (.aload_n 0, 1) := by decide +kernel
theorem d_Mo_leave_176 : decode b_Mo_leave 176 = .ok (.getfield 39, 3) := by decide +kernel
theorem d_Mo_leave_179 : decode b_Mo_leave 179 = .ok (.iconst 0, 1) := by decide +kernel
theorem d_Mo_leave_180 : decode b_Mo_leave 180 = .ok (.iaload, 1) := by decide +kernel
theorem d_Mo_leave_181 : decode b_Mo_leave 181 = .ok (.if_icmp .ne 33, 3) := by decide +kernel
theorem d_Mo_leave_184 : decode b_Mo_leave 184 = .ok (.aload_n 0, 1) := by decide +kernel
theorem d_Mo_leave_185 : decode b_Mo_leave 185 = .ok (.getfield 42, 3) := by decide +kernel
theorem d_Mo_leave_188 : decode b_Mo_leave 188 = .ok (.aload_n 0, 1) := by decide +kernel
theorem d_Mo_leave_189 : decode b_Mo_leave 189 = .ok (.getfield 157, 3) := by decide +kernel
theorem d_Mo_leave_192 : decode b_Mo_leave 192 = .ok (.iconst 1, 1) := by decide +kernel
theorem d_Mo_leave_193 : decode b_Mo_leave 193 = .ok (.isub, 1) := by decide +kernel
theorem d_Mo_leave_194 : decode b_Mo_leave 194 = .ok (.iaload, 1) := by decide +kernel
theorem d_Mo_leave_195 : decode b_Mo_leave 195 = .ok (.aload_n 0, 1) := by decide +kernel
theorem d_Mo_leave_196 : decode b_Mo_leave 196 = .ok (.getfield 42, 3) := by decide +kernel
theorem d_Mo_leave_199 : decode b_Mo_leave 199 = .ok (.iconst 0, 1) := by decide +kernel
theorem d_Mo_leave_200 : decode b_Mo_leave 200 = .ok (.iaload, 1) := by decide +kernel
theorem d_Mo_leave_201 : decode b_Mo_leave 201 = .ok (.if_icmp .ne 13, 3) := by decide +kernel
theorem d_Mo_leave_204 : decode b_Mo_leave 204 = .ok (.aload_n 0, 1) := by decide +kernel
theorem d_Mo_leave_205 : decode b_Mo_leave 205 = .ok (.dup, 1) := by decide +kernel
theorem d_Mo_leave_206 : decode b_Mo_leave 206 = .ok (.getfield 157, 3) := by decide +kernel
theorem d_Mo_leave_209 : decode b_Mo_leave 209 = .ok (.iconst 1, 1) := by decide +kernel
theorem d_Mo_leave_210 : decode b_Mo_leave 210 = .ok (.isub, 1) := by decide +kernel
theorem d_Mo_leave_211 : decode b_Mo_leave 211 = .ok (.putfield 157, 3) := by decide +kernel
theorem d_Mo_leave_214 : decode b_Mo_leave 214 = .ok (.return_, 1) := by decide +kernel
theorem d_Mo_hasDashes_0 : decode b_Mo_hasDashes 0 = .ok (.iconst 0, 1) := by decide +kernel
theorem d_Mo_hasDashes_1 : decode b_Mo_hasDashes 1 = .ok (.istore_n 1, 1) := by decide +kernel
theorem d_Mo_hasDashes_2 : decode b_Mo_hasDashes 2 = .ok (.iconst 0, 1) := by decide +kernel
theorem d_Mo_hasDashes_3 : decode b_Mo_hasDashes 3 = .ok (.istore_n 2, 1) := by decide +kernel
theorem d_Mo_hasDashes_4 : decode b_Mo_hasDashes 4 = .ok (.iload_n 2, 1) := by decide +kernel
theorem d_Mo_hasDashes_5 : decode b_Mo_hasDashes 5 = .ok (.aload_n 0, 1) := by decide +kernel
theorem d_Mo_hasDashes_6 : decode b_Mo_hasDashes 6 = .ok (.getfield 125, 3) := by decide +kernel
theorem d_Mo_hasDashes_9 : decode b_Mo_hasDashes 9 = .ok (.if_icmp .ge 28, 3) := by decide +kernel
theorem d_Mo_hasDashes_12 : decode b_Mo_hasDashes 12 = .ok (.iload_n 1, 1) := by decide +kernel
theorem d_Mo_hasDashes_13 : decode b_Mo_hasDashes 13 = .ok (.ifCond .ne 12, 3) := by decide +kernel
theorem d_Mo_hasDashes_16 : decode b_Mo_hasDashes 16 = .ok (.aload_n 0, 1) := by decide +kernel
theorem d_Mo_hasDashes_17 : decode b_Mo_hasDashes 17 = .ok (.getfield 36, 3) := by decide +kernel
theorem d_Mo_hasDashes_20 : decode b_Mo_hasDashes 20 = .ok (.iload_n 2, 1) := by decide +kernel
theorem d_Mo_hasDashes_21 : decode b_Mo_hasDashes 21 = .ok (.iaload, 1) := by decide +kernel
theorem d_Mo_hasDashes_22 : decode b_Mo_hasDashes 22 = .ok (.ifCond .le 7, 3) := by decide +kernel
theorem d_Mo_hasDashes_25 : decode b_Mo_hasDashes 25 = .ok (.iconst 1, 1) := by decide +kernel
theorem d_Mo_hasDashes_26 : decode b_Mo_hasDashes 26 = .ok (.goto 4, 3) := by decide +kernel
theorem d_Mo_hasDashes_29 : decode b_Mo_hasDashes 29 = .ok (.iconst 0, 1) := by decide +kernel
theorem d_Mo_hasDashes_30 : decode b_Mo_hasDashes 30 = .ok (.istore_n 1, 1) := by decide +kernel
theorem d_Mo_hasDashes_31 : decode b_Mo_hasDashes 31 = .ok (.iinc 2 1, 3) := by decide +kernel
theorem d_Mo_hasDashes_34 : decode b_Mo_hasDashes 34 = .ok (.goto (-30), 3) := by decide +kernel
theorem d_Mo_hasDashes_37 : decode b_Mo_hasDashes 37 = .ok (.iload_n 1, 1) := by decide +kernel
theorem d_Mo_hasDashes_38 : decode b_Mo_hasDashes 38 = .ok (.ireturn, 1) := by decide +kernel
theorem d_Mo_plainPieces_0 : decode b_Mo_plainPieces 0 = .ok (.aload_n 0, 1) := by decide +kernel
theorem d_Mo_plainPieces_1 : decode b_Mo_plainPieces 1 = .ok (.getfield 154, 3) := by decide +kernel
theorem d_Mo_plainPieces_4 : decode b_Mo_plainPieces 4 = .ok (.istore_n 2, 1) := by decide +kernel
theorem d_Mo_plainPieces_5 : decode b_Mo_plainPieces 5 = .ok (.aload_n 0, 1) := by decide +kernel
theorem d_Mo_plainPieces_6 : decode b_Mo_plainPieces 6 = .ok (.getfield 19, 3) := by decide +kernel
theorem d_Mo_plainPieces_9 : decode b_Mo_plainPieces 9 = .ok (.iload_n 1, 1) := by decide +kernel
theorem d_Mo_plainPieces_10 : decode b_Mo_plainPieces 10 = .ok (.baload, 1) := by decide +kernel
theorem d_Mo_plainPieces_11 : decode b_Mo_plainPieces 11 = .ok (.ifCond .eq 10, 3) := by decide +kernel
theorem d_Mo_plainPieces_14 : decode b_Mo_plainPieces 14 = .ok (.aload_n 0, 1) := by decide +kernel
theorem d_Mo_plainPieces_15 : decode b_Mo_plainPieces 15 = .ok (.getfield 157, 3) := by decide +kernel
theorem d_Mo_plainPieces_18 : decode b_Mo_plainPieces 18 = .ok (.goto 9, 3) := by decide +kernel
theorem d_Mo_plainPieces_21 : decode b_Mo_plainPieces 21 = .ok (.aload_n 0, 1) := by decide +kernel
theorem d_Mo_plainPieces_22 : decode b_Mo_plainPieces 22 = .ok (.getfield 157, 3) := by decide +kernel
theorem d_Mo_plainPieces_25 : decode b_Mo_plainPieces 25 = .ok (.iconst 1, 1) := by decide +kernel
theorem d_Mo_plainPieces_26 : decode b_Mo_plainPieces 26 = .ok (.isub, 1) := by decide +kernel
theorem d_Mo_plainPieces_27 : decode b_Mo_plainPieces 27 = .ok (.istore_n 3, 1) := by decide +kernel
theorem d_Mo_plainPieces_28 : decode b_Mo_plainPieces 28 = .ok (.iconst 0, 1) := by decide +kernel
theorem d_Mo_plainPieces_29 : decode b_Mo_plainPieces 29 = .ok (.istore 4, 2) := by decide +kernel
theorem d_Mo_plainPieces_31 : decode b_Mo_plainPieces 31 = .ok (.iload 4, 2) := by decide +kernel
theorem d_Mo_plainPieces_33 : decode b_Mo_plainPieces 33 = .ok (.iload_n 3, 1) := by decide +kernel
theorem d_Mo_plainPieces_34 : decode b_Mo_plainPieces 34 = .ok (.if_icmp .ge 127, 3) := by decide +kernel
theorem d_Mo_plainPieces_37 : decode b_Mo_plainPieces 37 = .ok (.iload 4, 2) := by decide +kernel
theorem d_Mo_plainPieces_39 : decode b_Mo_plainPieces 39 = .ok (.iconst 1, 1) := by decide +kernel
theorem d_Mo_plainPieces_40 : decode b_Mo_plainPieces 40 = .ok (.iadd, 1) := by decide +kernel
theorem d_Mo_plainPieces_41 : decode b_Mo_plainPieces 41 = .ok (.aload_n 0, 1) := by decide +kernel
theorem d_Mo_plainPieces_42 : decode b_Mo_plainPieces 42 = .ok (.getfield 157, 3) := by decide +kernel
theorem d_Mo_plainPieces_45 : decode b_Mo_plainPieces 45 = .ok (.irem, 1) := by decide +kernel
theorem d_Mo_plainPieces_46 : decode b_Mo_plainPieces 46 = .ok (.istore 5, 2) := by decide +kernel
theorem d_Mo_plainPieces_48 : decode b_Mo_plainPieces 48 = .ok (.aload_n 0, 1) := by decide +kernel
theorem d_Mo_plainPieces_49 : decode b_Mo_plainPieces 49 = .ok (.aload_n 0, 1) := by decide +kernel
theorem d_Mo_plainPieces_50 : decode b_Mo_plainPieces 50 = .ok (.getfield 39, 3) := by decide +kernel
theorem d_Mo_plainPieces_53 : decode b_Mo_plainPieces 53 = .ok (.iload 5, 2) := by decide +kernel
theorem d_Mo_plainPieces_55 : decode b_Mo_plainPieces 55 = .ok (.iaload, 1) := by decide +kernel
theorem d_Mo_plainPieces_56 : decode b_Mo_plainPieces 56 = .ok (.aload_n 0, 1) := by decide +kernel
theorem d_Mo_plainPieces_57 : decode b_Mo_plainPieces 57 = .ok (.getfield 39, 3) := by decide +kernel
theorem d_Mo_plainPieces_60 : decode b_Mo_plainPieces 60 = .ok (.iload 4, 2) := by decide +kernel
theorem d_Mo_plainPieces_62 : decode b_Mo_plainPieces 62 = .ok (.iaload, 1) := by decide +kernel
theorem d_Mo_plainPieces_63 : decode b_Mo_plainPieces 63 = .ok (.isub, 1) := by decide +kernel
theorem d_Mo_plainPieces_64 : decode b_Mo_plainPieces 64 = .ok (.i2l, 1) := by decide +kernel
theorem d_Mo_plainPieces_65 : decode b_Mo_plainPieces 65 = .ok (.aload_n 0, 1) := by decide +kernel
theorem d_Mo_plainPieces_66 : decode b_Mo_plainPieces 66 = .ok (.getfield 42, 3) := by decide +kernel
theorem d_Mo_plainPieces_69 : decode b_Mo_plainPieces 69 = .ok (.iload 5, 2) := by decide +kernel
theorem d_Mo_plainPieces_71 : decode b_Mo_plainPieces 71 = .ok (.iaload, 1) := by decide +kernel
theorem d_Mo_plainPieces_72 : decode b_Mo_plainPieces 72 = .ok (.aload_n 0, 1) := by decide +kernel
theorem d_Mo_plainPieces_73 : decode b_Mo_plainPieces 73 = .ok (.getfield 42, 3) := by decide +kernel
theorem d_Mo_plainPieces_76 : decode b_Mo_plainPieces 76 = .ok (.iload 4, 2) := by decide +kernel
theorem d_Mo_plainPieces_78 : decode b_Mo_plainPieces 78 = .ok (.iaload, 1) := by decide +kernel
theorem d_Mo_plainPieces_79 : decode b_Mo_plainPieces 79 = .ok (.isub, 1) := by decide +kernel
theorem d_Mo_plainPieces_80 : decode b_Mo_plainPieces 80 = .ok (.i2l, 1) := by decide +kernel
theorem d_Mo_plainPieces_81 : decode b_Mo_plainPieces 81 = .ok (.invokevirtual 160, 3) := by decide +kernel
theorem d_Mo_plainPieces_84 : decode b_Mo_plainPieces 84 = .ok (.aload_n 0, 1) := by decide +kernel
theorem d_Mo_plainPieces_85 : decode b_Mo_plainPieces 85 = .ok (.ldc2_w 164, 3) := by decide +kernel
theorem d_Mo_plainPieces_88 : decode b_Mo_plainPieces 88 = .ok (.aload_n 0, 1) := by decide +kernel
theorem d_Mo_plainPieces_89 : decode b_Mo_plainPieces 89 = .ok (.getfield 39, 3) := by decide +kernel
theorem d_Mo_plainPieces_92 : decode b_Mo_plainPieces 92 = .ok (.iload 4, 2) := by decide +kernel
theorem d_Mo_plainPieces_94 : decode b_Mo_plainPieces 94 = .ok (.iaload, 1) := by decide +kernel
theorem d_Mo_plainPieces_95 : decode b_Mo_plainPieces 95 = .ok (.i2l, 1) := by decide +kernel
theorem d_Mo_plainPieces_96 : decode b_Mo_plainPieces 96 = .ok (.lmul, 1) := by decide +kernel
theorem d_Mo_plainPieces_97 : decode b_Mo_plainPieces 97 = .ok (.ldc2_w 164, 3) := by decide +kernel
theorem d_Mo_plainPieces_100 : decode b_Mo_plainPieces 100 = .ok (.aload_n 0, 1) := by decide +kernel
theorem d_Mo_plainPieces_101 : decode b_Mo_plainPieces 101 = .ok (.getfield 42, 3) := by decide +kernel
theorem d_Mo_plainPieces_104 : decode b_Mo_plainPieces 104 = .ok (.iload 4, 2) := by decide +kernel
theorem d_Mo_plainPieces_106 : decode b_Mo_plainPieces 106 = .ok (.iaload, 1) := by decide +kernel
theorem d_Mo_plainPieces_107 : decode b_Mo_plainPieces 107 = .ok (.i2l, 1) := by decide +kernel
theorem d_Mo_plainPieces_108 : decode b_Mo_plainPieces 108 = .ok (.lmul, 1) := by decide +kernel
theorem d_Mo_plainPieces_109 : decode b_Mo_plainPieces 109 = .ok (.ldc2_w 164, 3) := by decide +kernel
theorem d_Mo_plainPieces_112 : decode b_Mo_plainPieces 112 = .ok (.aload_n 0, 1) := by decide +kernel
theorem d_Mo_plainPieces_113 : decode b_Mo_plainPieces 113 = .ok (.getfield 39, 3) := by decide +kernel
theorem d_Mo_plainPieces_116 : decode b_Mo_plainPieces 116 = .ok (.iload 5, 2) := by decide +kernel
theorem d_Mo_plainPieces_118 : decode b_Mo_plainPieces 118 = .ok (.iaload, 1) := by decide +kernel
theorem d_Mo_plainPieces_119 : decode b_Mo_plainPieces 119 = .ok (.i2l, 1) := by decide +kernel
theorem d_Mo_plainPieces_120 : decode b_Mo_plainPieces 120 = .ok (.lmul, 1) := by decide +kernel
theorem d_Mo_plainPieces_121 : decode b_Mo_plainPieces 121 = .ok (.ldc2_w 164, 3) := by decide +kernel
theorem d_Mo_plainPieces_124 : decode b_Mo_plainPieces 124 = .ok (.aload_n 0, 1) := by decide +kernel
theorem d_Mo_plainPieces_125 : decode b_Mo_plainPieces 125 = .ok (.getfield 42, 3) := by decide +kernel
theorem d_Mo_plainPieces_128 : decode b_Mo_plainPieces 128 = .ok (.iload 5, 2) := by decide +kernel
theorem d_Mo_plainPieces_130 : decode b_Mo_plainPieces 130 = .ok (.iaload, 1) := by decide +kernel
theorem d_Mo_plainPieces_131 : decode b_Mo_plainPieces 131 = .ok (.i2l, 1) := by decide +kernel
theorem d_Mo_plainPieces_132 : decode b_Mo_plainPieces 132 = .ok (.lmul, 1) := by decide +kernel
theorem d_Mo_plainPieces_133 : decode b_Mo_plainPieces 133 = .ok (.iload 4, 2) := by decide +kernel
theorem d_Mo_plainPieces_135 : decode b_Mo_plainPieces 135 = .ok (.ifCond .ne 16, 3) := by decide +kernel
theorem d_Mo_plainPieces_138 : decode b_Mo_plainPieces 138 = .ok (.aload_n 0, 1) := by decide +kernel
theorem d_Mo_plainPieces_139 : decode b_Mo_plainPieces 139 = .ok (.getfield 19, 3) := by decide +kernel
theorem d_Mo_plainPieces_142 : decode b_Mo_plainPieces 142 = .ok (.iload_n 1, 1) := by decide +kernel
theorem d_Mo_plainPieces_143 : decode b_Mo_plainPieces 143 = .ok (.baload, 1) := by decide +kernel
theorem d_Mo_plainPieces_144 : decode b_Mo_plainPieces 144 = .ok (.ifCond .ne 7, 3) := by decide +kernel
theorem d_Mo_plainPieces_147 : decode b_Mo_plainPieces 147 = .ok (.iconst 1, 1) := by decide +kernel
theorem d_Mo_plainPieces_148 : decode b_Mo_plainPieces 148 = .ok (.goto 4, 3) := by decide +kernel
theorem d_Mo_plainPieces_151 : decode b_Mo_plainPieces 151 = .ok (.iconst 0, 1) := by decide +kernel
theorem d_Mo_plainPieces_152 : decode b_Mo_plainPieces 152 = .ok (.invokevirtual 166, 3) := by decide +kernel
theorem d_Mo_plainPieces_155 : decode b_Mo_plainPieces 155 = .ok (.iinc 4 1, 3) := by decide +kernel
theorem d_Mo_plainPieces_158 : decode b_Mo_plainPieces 158 = .ok (.goto (-127), 3) := by decide +kernel
theorem d_Mo_plainPieces_161 : decode b_Mo_plainPieces 161 = .ok (.aload_n 0, 1) := by decide +kernel
theorem d_Mo_plainPieces_162 : decode b_Mo_plainPieces 162 = .ok (.getfield 154, 3) := by decide +kernel
theorem d_Mo_plainPieces_165 : decode b_Mo_plainPieces 165 = .ok (.iload_n 2, 1) := by decide +kernel
theorem d_Mo_plainPieces_166 : decode b_Mo_plainPieces 166 = .ok (.if_icmp .le 53, 3) := by decide +kernel
theorem d_Mo_plainPieces_169 : decode b_Mo_plainPieces 169 = .ok (.aload_n 0, 1) := by decide +kernel
theorem d_Mo_plainPieces_170 : decode b_Mo_plainPieces 170 = .ok (.getfield 66, 3) := by decide +kernel
theorem d_Mo_plainPieces_173 : decode b_Mo_plainPieces 173 = .ok (.aload_n 0, 1) := by decide +kernel
theorem d_Mo_plainPieces_174 : decode b_Mo_plainPieces 174 = .ok (.getfield 154, 3) := by decide +kernel
theorem d_Mo_plainPieces_177 : decode b_Mo_plainPieces 177 = .ok (.iconst 1, 1) := by decide +kernel
theorem d_Mo_plainPieces_178 : decode b_Mo_plainPieces 178 = .ok (.isub, 1) := by decide +kernel
theorem d_Mo_plainPieces_179 : decode b_Mo_plainPieces 179 = .ok (.aload_n 0, 1) := by decide +kernel
theorem d_Mo_plainPieces_180 : decode b_Mo_plainPieces 180 = .ok (.getfield 19, 3) := by decide +kernel
theorem d_Mo_plainPieces_183 : decode b_Mo_plainPieces 183 = .ok (.iload_n 1, 1) := by decide +kernel
theorem d_Mo_plainPieces_184 : decode b_Mo_plainPieces 184 = .ok (.baload, 1) := by decide +kernel
theorem d_Mo_plainPieces_185 : decode b_Mo_plainPieces 185 = .ok (.ifCond .ne 7, 3) := by decide +kernel
theorem d_Mo_plainPieces_188 : decode b_Mo_plainPieces 188 = .ok (.iconst 1, 1) := by decide +kernel
theorem d_Mo_plainPieces_189 : decode b_Mo_plainPieces 189 = .ok (.goto 4, 3) := by decide +kernel
theorem d_Mo_plainPieces_192 : decode b_Mo_plainPieces 192 = .ok (.iconst 0, 1) := by decide +kernel
theorem d_Mo_plainPieces_193 : decode b_Mo_plainPieces 193 = .ok (.bastore, 1) := by decide +kernel
theorem d_Mo_plainPieces_194 : decode b_Mo_plainPieces 194 = .ok (.aload_n 0, 1) := by decide +kernel
theorem d_Mo_plainPieces_195 : decode b_Mo_plainPieces 195 = .ok (.getfield 69, 3) := by decide +kernel
theorem d_Mo_plainPieces_198 : decode b_Mo_plainPieces 198 = .ok (.aload_n 0, 1) := by decide +kernel
theorem d_Mo_plainPieces_199 : decode b_Mo_plainPieces 199 = .ok (.getfield 154, 3) := by decide +kernel
theorem d_Mo_plainPieces_202 : decode b_Mo_plainPieces 202 = .ok (.iconst 1, 1) := by decide +kernel
theorem d_Mo_plainPieces_203 : decode b_Mo_plainPieces 203 = .ok (.isub, 1) := by decide +kernel
theorem d_Mo_plainPieces_204 : decode b_Mo_plainPieces 204 = .ok (.aload_n 0, 1) := by decide +kernel
theorem d_Mo_plainPieces_205 : decode b_Mo_plainPieces 205 = .ok (.getfield 19, 3) := by decide +kernel
theorem d_Mo_plainPieces_208 : decode b_Mo_plainPieces 208 = .ok (.iload_n 1, 1) := by decide +kernel
theorem d_Mo_plainPieces_209 : decode b_Mo_plainPieces 209 = .ok (.baload, 1) := by decide +kernel
theorem d_Mo_plainPieces_210 : decode b_Mo_plainPieces 210 = .ok (.ifCond .eq 7, 3) := by decide +kernel
theorem d_Mo_plainPieces_213 : decode b_Mo_plainPieces 213 = .ok (.iload_n 2, 1) := by decide +kernel
theorem d_Mo_plainPieces_214 : decode b_Mo_plainPieces 214 = .ok (.goto 4, 3) := by decide +kernel
theorem d_Mo_plainPieces_217 : decode b_Mo_plainPieces 217 = .ok (.iconst (-1), 1) := by decide +kernel
theorem d_Mo_plainPieces_218 : decode b_Mo_plainPieces 218 = .ok (.iastore, 1) := by decide +kernel
theorem d_Mo_plainPieces_219 : decode b_Mo_plainPieces 219 = .ok (.return_, 1) := by decide +kernel
theorem d_Mo_firstDash_0 : decode b_Mo_firstDash 0 = .ok (.aload_n 0, 1) := by decide +kernel
theorem d_Mo_firstDash_1 : decode b_Mo_firstDash 1 = .ok (.iconst 0, 1) := by decide +kernel
theorem d_Mo_firstDash_2 : decode b_Mo_firstDash 2 = .ok (.putfield 170, 3) := by decide +kernel
theorem d_Mo_firstDash_5 : decode b_Mo_firstDash 5 = .ok (.aload_n 0, 1) := by decide +kernel
theorem d_Mo_firstDash_6 : decode b_Mo_firstDash 6 = .ok (.iconst 1, 1) := by decide +kernel
theorem d_Mo_firstDash_7 : decode b_Mo_firstDash 7 = .ok (.putfield 173, 3) := by decide +kernel
theorem d_Mo_firstDash_10 : decode b_Mo_firstDash 10 = .ok (.aload_n 0, 1) := by decide +kernel
theorem d_Mo_firstDash_11 : decode b_Mo_firstDash 11 = .ok (.getfield 129, 3) := by decide +kernel
theorem d_Mo_firstDash_14 : decode b_Mo_firstDash 14 = .ok (.i2l, 1) := by decide +kernel
theorem d_Mo_firstDash_15 : decode b_Mo_firstDash 15 = .ok (.lstore_n 1, 1) := by decide +kernel
theorem d_Mo_firstDash_16 : decode b_Mo_firstDash 16 = .ok (.lload_n 1, 1) := by decide +kernel
theorem d_Mo_firstDash_17 : decode b_Mo_firstDash 17 = .ok (.aload_n 0, 1) := by decide +kernel
theorem d_Mo_firstDash_18 : decode b_Mo_firstDash 18 = .ok (.getfield 36, 3) := by decide +kernel
theorem d_Mo_firstDash_21 : decode b_Mo_firstDash 21 = .ok (.aload_n 0, 1) := by decide +kernel
theorem d_Mo_firstDash_22 : decode b_Mo_firstDash 22 = .ok (.getfield 170, 3) := by decide +kernel
theorem d_Mo_firstDash_25 : decode b_Mo_firstDash 25 = .ok (.iaload, 1) := by decide +kernel
theorem d_Mo_firstDash_26 : decode b_Mo_firstDash 26 = .ok (.i2l, 1) := by decide +kernel
theorem d_Mo_firstDash_27 : decode b_Mo_firstDash 27 = .ok (.lcmp, 1) := by decide +kernel
theorem d_Mo_firstDash_28 : decode b_Mo_firstDash 28 = .ok (.ifCond .lt 50, 3) := by decide +kernel
theorem d_Mo_firstDash_31 : decode b_Mo_firstDash 31 = .ok (.lload_n 1, 1) := by decide +kernel
theorem d_Mo_firstDash_32 : decode b_Mo_firstDash 32 = .ok (.aload_n 0, 1) := by decide +kernel
theorem d_Mo_firstDash_33 : decode b_Mo_firstDash 33 = .ok (.getfield 36, 3) := by decide +kernel
theorem d_Mo_firstDash_36 : decode b_Mo_firstDash 36 = .ok (.aload_n 0, 1) := by decide +kernel
theorem d_Mo_firstDash_37 : decode b_Mo_firstDash 37 = .ok (.getfield 170, 3) := by decide +kernel
theorem d_Mo_firstDash_40 : decode b_Mo_firstDash 40 = .ok (.iaload, 1) := by decide +kernel
theorem d_Mo_firstDash_41 : decode b_Mo_firstDash 41 = .ok (.i2l, 1) := by decide +kernel
theorem d_Mo_firstDash_42 : decode b_Mo_firstDash 42 = .ok (.lsub, 1) := by decide +kernel
theorem d_Mo_firstDash_43 : decode b_Mo_firstDash 43 = .ok (.lstore_n 1, 1) := by decide +kernel
theorem d_Mo_firstDash_44 : decode b_Mo_firstDash 44 = .ok (.aload_n 0, 1) := by decide +kernel
theorem d_Mo_firstDash_45 : decode b_Mo_firstDash 45 = .ok (.aload_n 0, 1) := by decide +kernel
theorem d_Mo_firstDash_46 : decode b_Mo_firstDash 46 = .ok (.getfield 170, 3) := by decide +kernel
theorem d_Mo_firstDash_49 : decode b_Mo_firstDash 49 = .ok (.iconst 1, 1) := by decide +kernel
theorem d_Mo_firstDash_50 : decode b_Mo_firstDash 50 = .ok (.iadd, 1) := by decide +kernel
theorem d_Mo_firstDash_51 : decode b_Mo_firstDash 51 = .ok (.aload_n 0, 1) := by decide +kernel
theorem d_Mo_firstDash_52 : decode b_Mo_firstDash 52 = .ok (.getfield 125, 3) := by decide +kernel
theorem d_Mo_firstDash_55 : decode b_Mo_firstDash 55 = .ok (.irem, 1) := by decide +kernel
theorem d_Mo_firstDash_56 : decode b_Mo_firstDash 56 = .ok (.putfield 170, 3) := by decide +kernel
theorem d_Mo_firstDash_59 : decode b_Mo_firstDash 59 = .ok (.aload_n 0, 1) := by decide +kernel
theorem d_Mo_firstDash_60 : decode b_Mo_firstDash 60 = .ok (.aload_n 0, 1) := by decide +kernel
theorem d_Mo_firstDash_61 : decode b_Mo_firstDash 61 = .ok (.getfield 173, 3) := by decide +kernel
theorem d_Mo_firstDash_64 : decode b_Mo_firstDash 64 = .ok (.ifCond .ne 7, 3) := by decide +kernel
theorem d_Mo_firstDash_67 : decode b_Mo_firstDash 67 = .ok (.iconst 1, 1) := by decide +kernel
theorem d_Mo_firstDash_68 : decode b_Mo_firstDash 68 = .ok (.goto 4, 3) := by decide +kernel
theorem d_Mo_firstDash_71 : decode b_Mo_firstDash 71 = .ok (.iconst 0, 1) := by decide +kernel
theorem d_Mo_firstDash_72 : decode b_Mo_firstDash 72 = .ok (.putfield 173, 3) := by decide +kernel
theorem d_Mo_firstDash_75 : decode b_Mo_firstDash 75 = .ok (.goto (-59), 3) := by decide +kernel
theorem d_Mo_firstDash_78 : decode b_Mo_firstDash 78 = .ok (.aload_n 0, 1) := by decide +kernel
theorem d_Mo_firstDash_79 : decode b_Mo_firstDash 79 = .ok (.ldc2_w 177, 3) := by decide +kernel
theorem d_Mo_firstDash_82 : decode b_Mo_firstDash 82 = .ok (.aload_n 0, 1) := by decide +kernel
theorem d_Mo_firstDash_83 : decode b_Mo_firstDash 83 = .ok (.getfield 36, 3) := by decide +kernel
theorem d_Mo_firstDash_86 : decode b_Mo_firstDash 86 = .ok (.aload_n 0, 1) := by decide +kernel
theorem d_Mo_firstDash_87 : decode b_Mo_firstDash 87 = .ok (.getfield 170, 3) := by decide +kernel
theorem d_Mo_firstDash_90 : decode b_Mo_firstDash 90 = .ok (.iaload, 1) := by decide +kernel
theorem d_Mo_firstDash_91 : decode b_Mo_firstDash 91 = .ok (.i2l, 1) := by decide +kernel
theorem d_Mo_firstDash_92 : decode b_Mo_firstDash 92 = .ok (.lload_n 1, 1) := by decide +kernel
theorem d_Mo_firstDash_93 : decode b_Mo_firstDash 93 = .ok (.lsub, 1) := by decide +kernel
theorem d_Mo_firstDash_94 : decode b_Mo_firstDash 94 = .ok (.lmul, 1) := by decide +kernel
theorem d_Mo_firstDash_95 : decode b_Mo_firstDash 95 = .ok (.putfield 179, 3) := by decide +kernel
theorem d_Mo_firstDash_98 : decode b_Mo_firstDash 98 = .ok (.aload_n 0, 1) := by decide +kernel
theorem d_Mo_firstDash_99 : decode b_Mo_firstDash 99 = .ok (.iconst 0, 1) := by decide +kernel
theorem d_Mo_firstDash_100 : decode b_Mo_firstDash 100 = .ok (.putfield 183, 3) := by decide +kernel
theorem d_Mo_firstDash_103 : decode b_Mo_firstDash 103 = .ok (.return_, 1) := by decide +kernel
theorem d_Mo_dashPiece_0 : decode b_Mo_dashPiece 0 = .ok (.aload_n 0, 1) := by decide +kernel
theorem d_Mo_dashPiece_1 : decode b_Mo_dashPiece 1 = .ok (.getfield 39, 3) := by decide +kernel
theorem d_Mo_dashPiece_4 : decode b_Mo_dashPiece 4 = .ok (.iload_n 2, 1) := by decide +kernel
theorem d_Mo_dashPiece_5 : decode b_Mo_dashPiece 5 = .ok (.iaload, 1) := by decide +kernel
theorem d_Mo_dashPiece_6 : decode b_Mo_dashPiece 6 = .ok (.aload_n 0, 1) := by decide +kernel
theorem d_Mo_dashPiece_7 : decode b_Mo_dashPiece 7 = .ok (.getfield 39, 3) := by decide +kernel
theorem d_Mo_dashPiece_10 : decode b_Mo_dashPiece 10 = .ok (.iload_n 1, 1) := by decide +kernel
theorem d_Mo_dashPiece_11 : decode b_Mo_dashPiece 11 = .ok (.iaload, 1) := by decide +kernel
theorem d_Mo_dashPiece_12 : decode b_Mo_dashPiece 12 = .ok (.isub, 1) := by decide +kernel
theorem d_Mo_dashPiece_13 : decode b_Mo_dashPiece 13 = .ok (.i2l, 1) := by decide +kernel
theorem d_Mo_dashPiece_14 : decode b_Mo_dashPiece 14 = .ok (.lstore 9, 2) := by decide +kernel
theorem d_Mo_dashPiece_16 : decode b_Mo_dashPiece 16 = .ok (.aload_n 0, 1) := by decide +kernel
theorem d_Mo_dashPiece_17 : decode b_Mo_dashPiece 17 = .ok (.getfield 42, 3) := by decide +kernel
theorem d_Mo_dashPiece_20 : decode b_Mo_dashPiece 20 = .ok (.iload_n 2, 1) := by decide +kernel
theorem d_Mo_dashPiece_21 : decode b_Mo_dashPiece 21 = .ok (.iaload, 1) := by decide +kernel
theorem d_Mo_dashPiece_22 : decode b_Mo_dashPiece 22 = .ok (.aload_n 0, 1) := by decide +kernel
theorem d_Mo_dashPiece_23 : decode b_Mo_dashPiece 23 = .ok (.getfield 42, 3) := by decide +kernel
theorem d_Mo_dashPiece_26 : decode b_Mo_dashPiece 26 = .ok (.iload_n 1, 1) := by decide +kernel
theorem d_Mo_dashPiece_27 : decode b_Mo_dashPiece 27 = .ok (.iaload, 1) := by decide +kernel
theorem d_Mo_dashPiece_28 : decode b_Mo_dashPiece 28 = .ok (.isub, 1) := by decide +kernel
theorem d_Mo_dashPiece_29 : decode b_Mo_dashPiece 29 = .ok (.i2l, 1) := by decide +kernel
theorem d_Mo_dashPiece_30 : decode b_Mo_dashPiece 30 = .ok (.lstore 11, 2) := by decide +kernel
theorem d_Mo_dashPiece_32 : decode b_Mo_dashPiece 32 = .ok (.aload_n 0, 1) := by decide +kernel
theorem d_Mo_dashPiece_33 : decode b_Mo_dashPiece 33 = .ok (.ldc2_w 164, 3) := by decide +kernel
theorem d_Mo_dashPiece_36 : decode b_Mo_dashPiece 36 = .ok (.aload_n 0, 1) := by decide +kernel
theorem d_Mo_dashPiece_37 : decode b_Mo_dashPiece 37 = .ok (.getfield 39, 3) := by decide +kernel
theorem d_Mo_dashPiece_40 : decode b_Mo_dashPiece 40 = .ok (.iload_n 1, 1) := by decide +kernel
theorem d_Mo_dashPiece_41 : decode b_Mo_dashPiece 41 = .ok (.iaload, 1) := by decide +kernel
theorem d_Mo_dashPiece_42 : decode b_Mo_dashPiece 42 = .ok (.i2l, 1) := by decide +kernel
theorem d_Mo_dashPiece_43 : decode b_Mo_dashPiece 43 = .ok (.lmul, 1) := by decide +kernel
theorem d_Mo_dashPiece_44 : decode b_Mo_dashPiece 44 = .ok (.ldc2_w 186, 3) := by decide +kernel
theorem d_Mo_dashPiece_47 : decode b_Mo_dashPiece 47 = .ok (.lload 9, 2) := by decide +kernel
theorem d_Mo_dashPiece_49 : decode b_Mo_dashPiece 49 = .ok (.lmul, 1) := by decide +kernel
theorem d_Mo_dashPiece_50 : decode b_Mo_dashPiece 50 = .ok (.lload_n 3, 1) := by decide +kernel
theorem d_Mo_dashPiece_51 : decode b_Mo_dashPiece 51 = .ok (.lmul, 1) := by decide +kernel
theorem d_Mo_dashPiece_52 : decode b_Mo_dashPiece 52 = .ok (.lload 7, 2) := by decide +kernel
theorem d_Mo_dashPiece_54 : decode b_Mo_dashPiece 54 = .ok (.ladd, 1) := by decide +kernel
theorem d_Mo_dashPiece_55 : decode b_Mo_dashPiece 55 = .ok (.ldc2_w 136, 3) := by decide +kernel
theorem d_Mo_dashPiece_58 : decode b_Mo_dashPiece 58 = .ok (.lload 7, 2) := by decide +kernel
theorem d_Mo_dashPiece_60 : decode b_Mo_dashPiece 60 = .ok (.lmul, 1) := by decide +kernel
theorem d_Mo_dashPiece_61 : decode b_Mo_dashPiece 61 = .ok (.invokestatic 188, 3) := by decide +kernel
theorem d_Mo_dashPiece_64 : decode b_Mo_dashPiece 64 = .ok (.ladd, 1) := by decide +kernel
theorem d_Mo_dashPiece_65 : decode b_Mo_dashPiece 65 = .ok (.ldc2_w 164, 3) := by decide +kernel
theorem d_Mo_dashPiece_68 : decode b_Mo_dashPiece 68 = .ok (.aload_n 0, 1) := by decide +kernel
theorem d_Mo_dashPiece_69 : decode b_Mo_dashPiece 69 = .ok (.getfield 42, 3) := by decide +kernel
theorem d_Mo_dashPiece_72 : decode b_Mo_dashPiece 72 = .ok (.iload_n 1, 1) := by decide +kernel
theorem d_Mo_dashPiece_73 : decode b_Mo_dashPiece 73 = .ok (.iaload, 1) := by decide +kernel
theorem d_Mo_dashPiece_74 : decode b_Mo_dashPiece 74 = .ok (.i2l, 1) := by decide +kernel
theorem d_Mo_dashPiece_75 : decode b_Mo_dashPiece 75 = .ok (.lmul, 1) := by decide +kernel
theorem d_Mo_dashPiece_76 : decode b_Mo_dashPiece 76 = .ok (.ldc2_w 186, 3) := by decide +kernel
theorem d_Mo_dashPiece_79 : decode b_Mo_dashPiece 79 = .ok (.lload 11, 2) := by decide +kernel
theorem d_Mo_dashPiece_81 : decode b_Mo_dashPiece 81 = .ok (.lmul, 1) := by decide +kernel
theorem d_Mo_dashPiece_82 : decode b_Mo_dashPiece 82 = .ok (.lload_n 3, 1) := by decide +kernel
theorem d_Mo_dashPiece_83 : decode b_Mo_dashPiece 83 = .ok (.lmul, 1) := by decide +kernel
theorem d_Mo_dashPiece_84 : decode b_Mo_dashPiece 84 = .ok (.lload 7, 2) := by decide +kernel
theorem d_Mo_dashPiece_86 : decode b_Mo_dashPiece 86 = .ok (.ladd, 1) := by decide +kernel
theorem d_Mo_dashPiece_87 : decode b_Mo_dashPiece 87 = .ok (.ldc2_w 136, 3) := by decide +kernel
theorem d_Mo_dashPiece_90 : decode b_Mo_dashPiece 90 = .ok (.lload 7, 2) := by decide +kernel
theorem d_Mo_dashPiece_92 : decode b_Mo_dashPiece 92 = .ok (.lmul, 1) := by decide +kernel
theorem d_Mo_dashPiece_93 : decode b_Mo_dashPiece 93 = .ok (.invokestatic 188, 3) := by decide +kernel
theorem d_Mo_dashPiece_96 : decode b_Mo_dashPiece 96 = .ok (.ladd, 1) := by decide +kernel
theorem d_Mo_dashPiece_97 : decode b_Mo_dashPiece 97 = .ok (.ldc2_w 164, 3) := by decide +kernel
theorem d_Mo_dashPiece_100 : decode b_Mo_dashPiece 100 = .ok (.aload_n 0, 1) := by decide +kernel
theorem d_Mo_dashPiece_101 : decode b_Mo_dashPiece 101 = .ok (.getfield 39, 3) := by decide +kernel
theorem d_Mo_dashPiece_104 : decode b_Mo_dashPiece 104 = .ok (.iload_n 1, 1) := by decide +kernel
theorem d_Mo_dashPiece_105 : decode b_Mo_dashPiece 105 = .ok (.iaload, 1) := by decide +kernel
theorem d_Mo_dashPiece_106 : decode b_Mo_dashPiece 106 = .ok (.i2l, 1) := by decide +kernel
theorem d_Mo_dashPiece_107 : decode b_Mo_dashPiece 107 = .ok (.lmul, 1) := by decide +kernel
theorem d_Mo_dashPiece_108 : decode b_Mo_dashPiece 108 = .ok (.ldc2_w 186, 3) := by decide +kernel
theorem d_Mo_dashPiece_111 : decode b_Mo_dashPiece 111 = .ok (.lload 9, 2) := by decide +kernel
theorem d_Mo_dashPiece_113 : decode b_Mo_dashPiece 113 = .ok (.lmul, 1) := by decide +kernel
theorem d_Mo_dashPiece_114 : decode b_Mo_dashPiece 114 = .ok (.lload 5, 2) := by decide +kernel
theorem d_Mo_dashPiece_116 : decode b_Mo_dashPiece 116 = .ok (.lmul, 1) := by decide +kernel
theorem d_Mo_dashPiece_117 : decode b_Mo_dashPiece 117 = .ok (.lload 7, 2) := by decide +kernel
theorem d_Mo_dashPiece_119 : decode b_Mo_dashPiece 119 = .ok (.ladd, 1) := by decide +kernel
theorem d_Mo_dashPiece_120 : decode b_Mo_dashPiece 120 = .ok (.ldc2_w 136, 3) := by decide +kernel
theorem d_Mo_dashPiece_123 : decode b_Mo_dashPiece 123 = .ok (.lload 7, 2) := by decide +kernel
theorem d_Mo_dashPiece_125 : decode b_Mo_dashPiece 125 = .ok (.lmul, 1) := by decide +kernel
theorem d_Mo_dashPiece_126 : decode b_Mo_dashPiece 126 = .ok (.invokestatic 188, 3) := by decide +kernel
theorem d_Mo_dashPiece_129 : decode b_Mo_dashPiece 129 = .ok (.ladd, 1) := by decide +kernel
theorem d_Mo_dashPiece_130 : decode b_Mo_dashPiece 130 = .ok (.ldc2_w 164, 3) := by decide +kernel
theorem d_Mo_dashPiece_133 : decode b_Mo_dashPiece 133 = .ok (.aload_n 0, 1) := by decide +kernel
theorem d_Mo_dashPiece_134 : decode b_Mo_dashPiece 134 = .ok (.getfield 42, 3) := by decide +kernel
theorem d_Mo_dashPiece_137 : decode b_Mo_dashPiece 137 = .ok (.iload_n 1, 1) := by decide +kernel
theorem d_Mo_dashPiece_138 : decode b_Mo_dashPiece 138 = .ok (.iaload, 1) := by decide +kernel
theorem d_Mo_dashPiece_139 : decode b_Mo_dashPiece 139 = .ok (.i2l, 1) := by decide +kernel
theorem d_Mo_dashPiece_140 : decode b_Mo_dashPiece 140 = .ok (.lmul, 1) := by decide +kernel
theorem d_Mo_dashPiece_141 : decode b_Mo_dashPiece 141 = .ok (.ldc2_w 186, 3) := by decide +kernel
theorem d_Mo_dashPiece_144 : decode b_Mo_dashPiece 144 = .ok (.lload 11, 2) := by decide +kernel
theorem d_Mo_dashPiece_146 : decode b_Mo_dashPiece 146 = .ok (.lmul, 1) := by decide +kernel
theorem d_Mo_dashPiece_147 : decode b_Mo_dashPiece 147 = .ok (.lload 5, 2) := by decide +kernel
theorem d_Mo_dashPiece_149 : decode b_Mo_dashPiece 149 = .ok (.lmul, 1) := by decide +kernel
theorem d_Mo_dashPiece_150 : decode b_Mo_dashPiece 150 = .ok (.lload 7, 2) := by decide +kernel
theorem d_Mo_dashPiece_152 : decode b_Mo_dashPiece 152 = .ok (.ladd, 1) := by decide +kernel
theorem d_Mo_dashPiece_153 : decode b_Mo_dashPiece 153 = .ok (.ldc2_w 136, 3) := by decide +kernel
theorem d_Mo_dashPiece_156 : decode b_Mo_dashPiece 156 = .ok (.lload 7, 2) := by decide +kernel
theorem d_Mo_dashPiece_158 : decode b_Mo_dashPiece 158 = .ok (.lmul, 1) := by decide +kernel
theorem d_Mo_dashPiece_159 : decode b_Mo_dashPiece 159 = .ok (.invokestatic 188, 3) := by decide +kernel
theorem d_Mo_dashPiece_162 : decode b_Mo_dashPiece 162 = .ok (.ladd, 1) := by decide +kernel
theorem d_Mo_dashPiece_163 : decode b_Mo_dashPiece 163 = .ok (.aload_n 0, 1) := by decide +kernel
theorem d_Mo_dashPiece_164 : decode b_Mo_dashPiece 164 = .ok (.getfield 183, 3) := by decide +kernel
theorem d_Mo_dashPiece_167 : decode b_Mo_dashPiece 167 = .ok (.ifCond .ne 7, 3) := by decide +kernel
theorem d_Mo_dashPiece_170 : decode b_Mo_dashPiece 170 = .ok (.iconst 1, 1) := by decide +kernel
theorem d_Mo_dashPiece_171 : decode b_Mo_dashPiece 171 = .ok (.goto 4, 3) := by decide +kernel
theorem d_Mo_dashPiece_174 : decode b_Mo_dashPiece 174 = .ok (.iconst 0, 1) := by decide +kernel
theorem d_Mo_dashPiece_175 : decode b_Mo_dashPiece 175 = .ok (.invokevirtual 166, 3) := by decide +kernel
theorem d_Mo_dashPiece_178 : decode b_Mo_dashPiece 178 = .ok (.aload_n 0, 1) := by decide +kernel
theorem d_Mo_dashPiece_179 : decode b_Mo_dashPiece 179 = .ok (.iconst 1, 1) := by decide +kernel
theorem d_Mo_dashPiece_180 : decode b_Mo_dashPiece 180 = .ok (.putfield 183, 3) := by decide +kernel
theorem d_Mo_dashPiece_183 : decode b_Mo_dashPiece 183 = .ok (.return_, 1) := by decide +kernel
theorem d_Mo_endChain_0 : decode b_Mo_endChain 0 = .ok (.aload_n 0, 1) := by decide +kernel
theorem d_Mo_endChain_1 : decode b_Mo_endChain 1 = .ok (.getfield 183, 3) := by decide +kernel
theorem d_Mo_endChain_4 : decode b_Mo_endChain 4 = .ok (.ifCond .eq 22, 3) := by decide +kernel
theorem d_Mo_endChain_7 : decode b_Mo_endChain 7 = .ok (.aload_n 0, 1) := by decide +kernel
theorem d_Mo_endChain_8 : decode b_Mo_endChain 8 = .ok (.getfield 154, 3) := by decide +kernel
theorem d_Mo_endChain_11 : decode b_Mo_endChain 11 = .ok (.ifCond .le 15, 3) := by decide +kernel
theorem d_Mo_endChain_14 : decode b_Mo_endChain 14 = .ok (.aload_n 0, 1) := by decide +kernel
theorem d_Mo_endChain_15 : decode b_Mo_endChain 15 = .ok (.getfield 66, 3) := by decide +kernel
theorem d_Mo_endChain_18 : decode b_Mo_endChain 18 = .ok (.aload_n 0, 1) := by decide +kernel
theorem d_Mo_endChain_19 : decode b_Mo_endChain 19 = .ok (.getfield 154, 3) := by decide +kernel
theorem d_Mo_endChain_22 : decode b_Mo_endChain 22 = .ok (.iconst 1, 1) := by decide +kernel
theorem d_Mo_endChain_23 : decode b_Mo_endChain 23 = .ok (.isub, 1) := by decide +kernel
theorem d_Mo_endChain_24 : decode b_Mo_endChain 24 = .ok (.iconst 1, 1) := by decide +kernel
theorem d_Mo_endChain_25 : decode b_Mo_endChain 25 = .ok (.bastore, 1) := by decide +kernel
theorem d_Mo_endChain_26 : decode b_Mo_endChain 26 = .ok (.aload_n 0, 1) := by decide +kernel
theorem d_Mo_endChain_27 : decode b_Mo_endChain 27 = .ok (.iconst 0, 1) := by decide +kernel
theorem d_Mo_endChain_28 : decode b_Mo_endChain 28 = .ok (.putfield 183, 3) := by decide +kernel
theorem d_Mo_endChain_31 : decode b_Mo_endChain 31 = .ok (.return_, 1) := by decide +kernel
theorem d_Mo_dashSegment_0 : decode b_Mo_dashSegment 0 = .ok (.iload_n 1, 1) := by decide +kernel
theorem d_Mo_dashSegment_1 : decode b_Mo_dashSegment 1 = .ok (.iconst 1, 1) := by decide +kernel
theorem d_Mo_dashSegment_2 : decode b_Mo_dashSegment 2 = .ok (.iadd, 1) := by decide +kernel
theorem d_Mo_dashSegment_3 : decode b_Mo_dashSegment 3 = .ok (.aload_n 0, 1) := by decide +kernel
theorem d_Mo_dashSegment_4 : decode b_Mo_dashSegment 4 = .ok (.getfield 157, 3) := by decide +kernel
theorem d_Mo_dashSegment_7 : decode b_Mo_dashSegment 7 = .ok (.irem, 1) := by decide +kernel
theorem d_Mo_dashSegment_8 : decode b_Mo_dashSegment 8 = .ok (.istore_n 2, 1) := by decide +kernel
theorem d_Mo_dashSegment_9 : decode b_Mo_dashSegment 9 = .ok (.aload_n 0, 1) := by decide +kernel
theorem d_Mo_dashSegment_10 : decode b_Mo_dashSegment 10 = .ok (.getfield 39, 3) := by decide +kernel
theorem d_Mo_dashSegment_13 : decode b_Mo_dashSegment 13 = .ok (.iload_n 2, 1) := by decide +kernel
theorem d_Mo_dashSegment_14 : decode b_Mo_dashSegment 14 = .ok (.iaload, 1) := by decide +kernel
theorem d_Mo_dashSegment_15 : decode b_Mo_dashSegment 15 = .ok (.aload_n 0, 1) := by decide +kernel
theorem d_Mo_dashSegment_16 : decode b_Mo_dashSegment 16 = .ok (.getfield 39, 3) := by decide +kernel
theorem d_Mo_dashSegment_19 : decode b_Mo_dashSegment 19 = .ok (.iload_n 1, 1) := by decide +kernel
theorem d_Mo_dashSegment_20 : decode b_Mo_dashSegment 20 = .ok (.iaload, 1) := by decide +kernel
theorem d_Mo_dashSegment_21 : decode b_Mo_dashSegment 21 = .ok (.isub, 1) := by decide +kernel
theorem d_Mo_dashSegment_22 : decode b_Mo_dashSegment 22 = .ok (.i2l, 1) := by decide +kernel
theorem d_Mo_dashSegment_23 : decode b_Mo_dashSegment 23 = .ok (.lstore_n 3, 1) := by decide +kernel
theorem d_Mo_dashSegment_24 : decode b_Mo_dashSegment 24 = .ok (.aload_n 0, 1) := by decide +kernel
theorem d_Mo_dashSegment_25 : decode b_Mo_dashSegment 25 = .ok (.getfield 42, 3) := by decide +kernel
theorem d_Mo_dashSegment_28 : decode b_Mo_dashSegment 28 = .ok (.iload_n 2, 1) := by decide +kernel
theorem d_Mo_dashSegment_29 : decode b_Mo_dashSegment 29 = .ok (.iaload, 1) := by decide +kernel
theorem d_Mo_dashSegment_30 : decode b_Mo_dashSegment 30 = .ok (.aload_n 0, 1) := by decide +kernel
theorem d_Mo_dashSegment_31 : decode b_Mo_dashSegment 31 = .ok (.getfield 42, 3) := by decide +kernel
theorem d_Mo_dashSegment_34 : decode b_Mo_dashSegment 34 = .ok (.iload_n 1, 1) := by decide +kernel
theorem d_Mo_dashSegment_35 : decode b_Mo_dashSegment 35 = .ok (.iaload, 1) := by decide +kernel
theorem d_Mo_dashSegment_36 : decode b_Mo_dashSegment 36 = .ok (.isub, 1) := by decide +kernel
theorem d_Mo_dashSegment_37 : decode b_Mo_dashSegment 37 = .ok (.i2l, 1) := by decide +kernel
theorem d_Mo_dashSegment_38 : decode b_Mo_dashSegment 38 = .ok (.lstore 5, 2) := by decide +kernel
theorem d_Mo_dashSegment_40 : decode b_Mo_dashSegment 40 = .ok (.aload_n 0, 1) := by decide +kernel
theorem d_Mo_dashSegment_41 : decode b_Mo_dashSegment 41 = .ok (.lload_n 3, 1) := by decide +kernel
theorem d_Mo_dashSegment_42 : decode b_Mo_dashSegment 42 = .ok (.lload 5, 2) := by decide +kernel
theorem d_Mo_dashSegment_44 : decode b_Mo_dashSegment 44 = .ok (.invokevirtual 160, 3) := by decide +kernel
theorem d_Mo_dashSegment_47 : decode b_Mo_dashSegment 47 = .ok (.ldc2_w 192, 3) := by decide +kernel
theorem d_Mo_dashSegment_50 : decode b_Mo_dashSegment 50 = .ok (.lload_n 3, 1) := by decide +kernel
theorem d_Mo_dashSegment_51 : decode b_Mo_dashSegment 51 = .ok (.lload_n 3, 1) := by decide +kernel
theorem d_Mo_dashSegment_52 : decode b_Mo_dashSegment 52 = .ok (.lmul, 1) := by decide +kernel
theorem d_Mo_dashSegment_53 : decode b_Mo_dashSegment 53 = .ok (.lload 5, 2) := by decide +kernel
theorem d_Mo_dashSegment_55 : decode b_Mo_dashSegment 55 = .ok (.lload 5, 2) := by decide +kernel
theorem d_Mo_dashSegment_57 : decode b_Mo_dashSegment 57 = .ok (.lmul, 1) := by decide +kernel
theorem d_Mo_dashSegment_58 : decode b_Mo_dashSegment 58 = .ok (.ladd, 1) := by decide +kernel
theorem d_Mo_dashSegment_59 : decode b_Mo_dashSegment 59 = .ok (.lmul, 1) := by decide +kernel
theorem d_Mo_dashSegment_60 : decode b_Mo_dashSegment 60 = .ok (.invokestatic 194, 3) := by decide +kernel
theorem d_Mo_dashSegment_63 : decode b_Mo_dashSegment 63 = .ok (.lstore 7, 2) := by decide +kernel
theorem d_Mo_dashSegment_65 : decode b_Mo_dashSegment 65 = .ok (.lconst 0, 1) := by decide +kernel
theorem d_Mo_dashSegment_66 : decode b_Mo_dashSegment 66 = .ok (.lstore 9, 2) := by decide +kernel
theorem d_Mo_dashSegment_68 : decode b_Mo_dashSegment 68 = .ok (.aload_n 0, 1) := by decide +kernel
theorem d_Mo_dashSegment_69 : decode b_Mo_dashSegment 69 = .ok (.getfield 179, 3) := by decide +kernel
theorem d_Mo_dashSegment_72 : decode b_Mo_dashSegment 72 = .ok (.lload 7, 2) := by decide +kernel
theorem d_Mo_dashSegment_74 : decode b_Mo_dashSegment 74 = .ok (.lload 9, 2) := by decide +kernel
theorem d_Mo_dashSegment_76 : decode b_Mo_dashSegment 76 = .ok (.lsub, 1) := by decide +kernel
theorem d_Mo_dashSegment_77 : decode b_Mo_dashSegment 77 = .ok (.lcmp, 1) := by decide +kernel
theorem d_Mo_dashSegment_78 : decode b_Mo_dashSegment 78 = .ok (.ifCond .gt 122, 3) := by decide +kernel
theorem d_Mo_dashSegment_81 : decode b_Mo_dashSegment 81 = .ok (.aload_n 0, 1) := by decide +kernel
theorem d_Mo_dashSegment_82 : decode b_Mo_dashSegment 82 = .ok (.getfield 154, 3) := by decide +kernel
theorem d_Mo_dashSegment_85 : decode b_Mo_dashSegment 85 = .ok (.sipush 2001, 3) := by decide +kernel
theorem d_Mo_dashSegment_88 : decode b_Mo_dashSegment 88 = .ok (.if_icmp .ge 112, 3) := by decide +kernel
theorem d_Mo_dashSegment_91 : decode b_Mo_dashSegment 91 = .ok (.aload_n 0, 1) := by decide +kernel
theorem d_Mo_dashSegment_92 : decode b_Mo_dashSegment 92 = .ok (.getfield 173, 3) := by decide +kernel
theorem d_Mo_dashSegment_95 : decode b_Mo_dashSegment 95 = .ok (.ifCond .eq 44, 3) := by decide +kernel
theorem d_Mo_dashSegment_98 : decode b_Mo_dashSegment 98 = .ok (.aload_n 0, 1) := by decide +kernel
theorem d_Mo_dashSegment_99 : decode b_Mo_dashSegment 99 = .ok (.getfield 183, 3) := by decide +kernel
theorem d_Mo_dashSegment_102 : decode b_Mo_dashSegment 102 = .ok (.istore 11, 2) := by decide +kernel
theorem d_Mo_dashSegment_104 : decode b_Mo_dashSegment 104 = .ok (.aload_n 0, 1) := by decide +kernel
theorem d_Mo_dashSegment_105 : decode b_Mo_dashSegment 105 = .ok (.getfield 179, 3) := by decide +kernel
theorem d_Mo_dashSegment_108 : decode b_Mo_dashSegment 108 = .ok (.lconst 0, 1) := by decide +kernel
theorem d_Mo_dashSegment_109 : decode b_Mo_dashSegment 109 = .ok (.lcmp, 1) := by decide +kernel
theorem d_Mo_dashSegment_110 : decode b_Mo_dashSegment 110 = .ok (.ifCond .gt 8, 3) := by decide +kernel
theorem d_Mo_dashSegment_113 : decode b_Mo_dashSegment 113 = .ok (.iload 11, 2) := by decide +kernel
theorem d_Mo_dashSegment_115 : decode b_Mo_dashSegment 115 = .ok (.ifCond .ne 20, 3) := by decide +kernel
theorem d_Mo_dashSegment_118 : decode b_Mo_dashSegment 118 = .ok (.aload_n 0, 1) := by decide +kernel
theorem d_Mo_dashSegment_119 : decode b_Mo_dashSegment 119 = .ok (.iload_n 1, 1) := by decide +kernel
theorem d_Mo_dashSegment_120 : decode b_Mo_dashSegment 120 = .ok (.iload_n 2, 1) := by decide +kernel
theorem d_Mo_dashSegment_121 : decode b_Mo_dashSegment 121 = .ok (.lload 9, 2) := by decide +kernel
theorem d_Mo_dashSegment_123 : decode b_Mo_dashSegment 123 = .ok (.lload 9, 2) := by decide +kernel
theorem d_Mo_dashSegment_125 : decode b_Mo_dashSegment 125 = .ok (.aload_n 0, 1) := by decide +kernel
theorem d_Mo_dashSegment_126 : decode b_Mo_dashSegment 126 = .ok (.getfield 179, 3) := by decide +kernel
theorem d_Mo_dashSegment_129 : decode b_Mo_dashSegment 129 = .ok (.ladd, 1) := by decide +kernel
theorem d_Mo_dashSegment_130 : decode b_Mo_dashSegment 130 = .ok (.lload 7, 2) := by decide +kernel
theorem d_Mo_dashSegment_132 : decode b_Mo_dashSegment 132 = .ok (.invokevirtual 198, 3) := by decide +kernel
theorem d_Mo_dashSegment_135 : decode b_Mo_dashSegment 135 = .ok (.aload_n 0, 1) := by decide +kernel
theorem d_Mo_dashSegment_136 : decode b_Mo_dashSegment 136 = .ok (.invokevirtual 202, 3) := by decide +kernel
theorem d_Mo_dashSegment_139 : decode b_Mo_dashSegment 139 = .ok (.lload 9, 2) := by decide +kernel
theorem d_Mo_dashSegment_141 : decode b_Mo_dashSegment 141 = .ok (.aload_n 0, 1) := by decide +kernel
theorem d_Mo_dashSegment_142 : decode b_Mo_dashSegment 142 = .ok (.getfield 179, 3) := by decide +kernel
theorem d_Mo_dashSegment_145 : decode b_Mo_dashSegment 145 = .ok (.ladd, 1) := by decide +kernel
theorem d_Mo_dashSegment_146 : decode b_Mo_dashSegment 146 = .ok (.lstore 9, 2) := by decide +kernel
theorem d_Mo_dashSegment_148 : decode b_Mo_dashSegment 148 = .ok (.aload_n 0, 1) := by decide +kernel
theorem d_Mo_dashSegment_149 : decode b_Mo_dashSegment 149 = .ok (.aload_n 0, 1) := by decide +kernel
theorem d_Mo_dashSegment_150 : decode b_Mo_dashSegment 150 = .ok (.getfield 170, 3) := by decide +kernel
theorem d_Mo_dashSegment_153 : decode b_Mo_dashSegment 153 = .ok (.iconst 1, 1) := by decide +kernel
theorem d_Mo_dashSegment_154 : decode b_Mo_dashSegment 154 = .ok (.iadd, 1) := by decide +kernel
theorem d_Mo_dashSegment_155 : decode b_Mo_dashSegment 155 = .ok (.aload_n 0, 1) := by decide +kernel
theorem d_Mo_dashSegment_156 : decode b_Mo_dashSegment 156 = .ok (.getfield 125, 3) := by decide +kernel
theorem d_Mo_dashSegment_159 : decode b_Mo_dashSegment 159 = .ok (.irem, 1) := by decide +kernel
theorem d_Mo_dashSegment_160 : decode b_Mo_dashSegment 160 = .ok (.putfield 170, 3) := by decide +kernel
theorem d_Mo_dashSegment_163 : decode b_Mo_dashSegment 163 = .ok (.aload_n 0, 1) := by decide +kernel
theorem d_Mo_dashSegment_164 : decode b_Mo_dashSegment 164 = .ok (.aload_n 0, 1) := by decide +kernel
theorem d_Mo_dashSegment_165 : decode b_Mo_dashSegment 165 = .ok (.getfield 173, 3) := by decide +kernel
theorem d_Mo_dashSegment_168 : decode b_Mo_dashSegment 168 = .ok (.ifCond .ne 7, 3) := by decide +kernel
theorem d_Mo_dashSegment_171 : decode b_Mo_dashSegment 171 = .ok (.iconst 1, 1) := by decide +kernel
theorem d_Mo_dashSegment_172 : decode b_Mo_dashSegment 172 = .ok (.goto 4, 3) := by decide +kernel
theorem d_Mo_dashSegment_175 : decode b_Mo_dashSegment 175 = .ok (.iconst 0, 1) := by decide +kernel
theorem d_Mo_dashSegment_176 : decode b_Mo_dashSegment 176 = .ok (.putfield 173, 3) := by decide +kernel
theorem d_Mo_dashSegment_179 : decode b_Mo_dashSegment 179 = .ok (.aload_n 0, 1) := by decide +kernel
theorem d_Mo_dashSegment_180 : decode b_Mo_dashSegment 180 = .ok (.ldc2_w 177, 3) := by decide +kernel
theorem d_Mo_dashSegment_183 : decode b_Mo_dashSegment 183 = .ok (.aload_n 0, 1) := by decide +kernel
theorem d_Mo_dashSegment_184 : decode b_Mo_dashSegment 184 = .ok (.getfield 36, 3) := by decide +kernel
theorem d_Mo_dashSegment_187 : decode b_Mo_dashSegment 187 = .ok (.aload_n 0, 1) := by decide +kernel
theorem d_Mo_dashSegment_188 : decode b_Mo_dashSegment 188 = .ok (.getfield 170, 3) := by decide +kernel
theorem d_Mo_dashSegment_191 : decode b_Mo_dashSegment 191 = .ok (.iaload, 1) := by decide +kernel
theorem d_Mo_dashSegment_192 : decode b_Mo_dashSegment 192 = .ok (.i2l, 1) := by decide +kernel
theorem d_Mo_dashSegment_193 : decode b_Mo_dashSegment 193 = .ok (.lmul, 1) := by decide +kernel
theorem d_Mo_dashSegment_194 : decode b_Mo_dashSegment 194 = .ok (.putfield 179, 3) := by decide +kernel
theorem d_Mo_dashSegment_197 : decode b_Mo_dashSegment 197 = .ok (.goto (-129), 3) := by decide +kernel
theorem d_Mo_dashSegment_200 : decode b_Mo_dashSegment 200 = .ok (.aload_n 0, 1) := by decide +kernel
theorem d_Mo_dashSegment_201 : decode b_Mo_dashSegment 201 = .ok (.getfield 173, 3) := by decide +kernel
theorem d_Mo_dashSegment_204 : decode b_Mo_dashSegment 204 = .ok (.ifCond .eq 23, 3) := by decide +kernel
theorem d_Mo_dashSegment_207 : decode b_Mo_dashSegment 207 = .ok (.lload 9, 2) := by decide +kernel
theorem d_Mo_dashSegment_209 : decode b_Mo_dashSegment 209 = .ok (.lload 7, 2) := by decide +kernel
theorem d_Mo_dashSegment_211 : decode b_Mo_dashSegment 211 = .ok (.lcmp, 1) := by decide +kernel
theorem d_Mo_dashSegment_212 : decode b_Mo_dashSegment 212 = .ok (.ifCond .ge 15, 3) := by decide +kernel
theorem d_Mo_dashSegment_215 : decode b_Mo_dashSegment 215 = .ok (.aload_n 0, 1) := by decide +kernel
theorem d_Mo_dashSegment_216 : decode b_Mo_dashSegment 216 = .ok (.iload_n 1, 1) := by decide +kernel
theorem d_Mo_dashSegment_217 : decode b_Mo_dashSegment 217 = .ok (.iload_n 2, 1) := by decide +kernel
theorem d_Mo_dashSegment_218 : decode b_Mo_dashSegment 218 = .ok (.lload 9, 2) := by decide +kernel
theorem d_Mo_dashSegment_220 : decode b_Mo_dashSegment 220 = .ok (.lload 7, 2) := by decide +kernel
theorem d_Mo_dashSegment_222 : decode b_Mo_dashSegment 222 = .ok (.lload 7, 2) := by decide +kernel
theorem d_Mo_dashSegment_224 : decode b_Mo_dashSegment 224 = .ok (.invokevirtual 198, 3) := by decide +kernel
theorem d_Mo_dashSegment_227 : decode b_Mo_dashSegment 227 = .ok (.aload_n 0, 1) := by decide +kernel
theorem d_Mo_dashSegment_228 : decode b_Mo_dashSegment 228 = .ok (.aload_n 0, 1) := by decide +kernel
theorem d_Mo_dashSegment_229 : decode b_Mo_dashSegment 229 = .ok (.getfield 179, 3) := by decide +kernel
theorem d_Mo_dashSegment_232 : decode b_Mo_dashSegment 232 = .ok (.lload 7, 2) := by decide +kernel
theorem d_Mo_dashSegment_234 : decode b_Mo_dashSegment 234 = .ok (.lload 9, 2) := by decide +kernel
theorem d_Mo_dashSegment_236 : decode b_Mo_dashSegment 236 = .ok (.lsub, 1) := by decide +kernel
theorem d_Mo_dashSegment_237 : decode b_Mo_dashSegment 237 = .ok (.lsub, 1) := by decide +kernel
theorem d_Mo_dashSegment_238 : decode b_Mo_dashSegment 238 = .ok (.putfield 179, 3) := by decide +kernel
theorem d_Mo_dashSegment_241 : decode b_Mo_dashSegment 241 = .ok (.return_, 1) := by decide +kernel
theorem d_Mo_dashPieces_0 : decode b_Mo_dashPieces 0 = .ok (.aload_n 0, 1) := by decide +kernel
theorem d_Mo_dashPieces_1 : decode b_Mo_dashPieces 1 = .ok (.invokevirtual 205, 3) := by decide +kernel
theorem d_Mo_dashPieces_4 : decode b_Mo_dashPieces 4 = .ok (.aload_n 0, 1) := by decide +kernel
theorem d_Mo_dashPieces_5 : decode b_Mo_dashPieces 5 = .ok (.getfield 19, 3) := by decide +kernel
theorem d_Mo_dashPieces_8 : decode b_Mo_dashPieces 8 = .ok (.iload_n 1, 1) := by decide +kernel
theorem d_Mo_dashPieces_9 : decode b_Mo_dashPieces 9 = .ok (.baload, 1) := by decide +kernel
theorem d_Mo_dashPieces_10 : decode b_Mo_dashPieces 10 = .ok (.ifCond .eq 10, 3) := by decide +kernel
theorem d_Mo_dashPieces_13 : decode b_Mo_dashPieces 13 = .ok (.aload_n 0, 1) := by decide +kernel
theorem d_Mo_dashPieces_14 : decode b_Mo_dashPieces 14 = .ok (.getfield 157, 3) := by decide +kernel
theorem d_Mo_dashPieces_17 : decode b_Mo_dashPieces 17 = .ok (.goto 9, 3) := by decide +kernel
theorem d_Mo_dashPieces_20 : decode b_Mo_dashPieces 20 = .ok (.aload_n 0, 1) := by decide +kernel
theorem d_Mo_dashPieces_21 : decode b_Mo_dashPieces 21 = .ok (.getfield 157, 3) := by decide +kernel
theorem d_Mo_dashPieces_24 : decode b_Mo_dashPieces 24 = .ok (.iconst 1, 1) := by decide +kernel
theorem d_Mo_dashPieces_25 : decode b_Mo_dashPieces 25 = .ok (.isub, 1) := by decide +kernel
theorem d_Mo_dashPieces_26 : decode b_Mo_dashPieces 26 = .ok (.istore_n 2, 1) := by decide +kernel
theorem d_Mo_dashPieces_27 : decode b_Mo_dashPieces 27 = .ok (.iconst 0, 1) := by decide +kernel
theorem d_Mo_dashPieces_28 : decode b_Mo_dashPieces 28 = .ok (.istore_n 3, 1) := by decide +kernel
theorem d_Mo_dashPieces_29 : decode b_Mo_dashPieces 29 = .ok (.iload_n 3, 1) := by decide +kernel
theorem d_Mo_dashPieces_30 : decode b_Mo_dashPieces 30 = .ok (.iload_n 2, 1) := by decide +kernel
theorem d_Mo_dashPieces_31 : decode b_Mo_dashPieces 31 = .ok (.if_icmp .ge 24, 3) := by decide +kernel
theorem d_Mo_dashPieces_34 : decode b_Mo_dashPieces 34 = .ok (.aload_n 0, 1) := by decide +kernel
theorem d_Mo_dashPieces_35 : decode b_Mo_dashPieces 35 = .ok (.getfield 154, 3) := by decide +kernel
theorem d_Mo_dashPieces_38 : decode b_Mo_dashPieces 38 = .ok (.sipush 2001, 3) := by decide +kernel
theorem d_Mo_dashPieces_41 : decode b_Mo_dashPieces 41 = .ok (.if_icmp .ge 14, 3) := by decide +kernel
theorem d_Mo_dashPieces_44 : decode b_Mo_dashPieces 44 = .ok (.aload_n 0, 1) := by decide +kernel
theorem d_Mo_dashPieces_45 : decode b_Mo_dashPieces 45 = .ok (.iload_n 3, 1) := by decide +kernel
theorem d_Mo_dashPieces_46 : decode b_Mo_dashPieces 46 = .ok (.invokevirtual 208, 3) := by decide +kernel
theorem d_Mo_dashPieces_49 : decode b_Mo_dashPieces 49 = .ok (.iinc 3 1, 3) := by decide +kernel
theorem d_Mo_dashPieces_52 : decode b_Mo_dashPieces 52 = .ok (.goto (-23), 3) := by decide +kernel
theorem d_Mo_dashPieces_55 : decode b_Mo_dashPieces 55 = .ok (.aload_n 0, 1) := by decide +kernel
theorem d_Mo_dashPieces_56 : decode b_Mo_dashPieces 56 = .ok (.invokevirtual 202, 3) := by decide +kernel
theorem d_Mo_dashPieces_59 : decode b_Mo_dashPieces 59 = .ok (.return_, 1) := by decide +kernel
theorem d_Mo_findPieces_0 : decode b_Mo_findPieces 0 = .ok (.aload_n 0, 1) := by decide +kernel
theorem d_Mo_findPieces_1 : decode b_Mo_findPieces 1 = .ok (.iconst 0, 1) := by decide +kernel
theorem d_Mo_findPieces_2 : decode b_Mo_findPieces 2 = .ok (.putfield 154, 3) := by decide +kernel
theorem d_Mo_findPieces_5 : decode b_Mo_findPieces 5 = .ok (.aload_n 0, 1) := by decide +kernel
theorem d_Mo_findPieces_6 : decode b_Mo_findPieces 6 = .ok (.invokevirtual 212, 3) := by decide +kernel
theorem d_Mo_findPieces_9 : decode b_Mo_findPieces 9 = .ok (.istore_n 1, 1) := by decide +kernel
theorem d_Mo_findPieces_10 : decode b_Mo_findPieces 10 = .ok (.iconst 0, 1) := by decide +kernel
theorem d_Mo_findPieces_11 : decode b_Mo_findPieces 11 = .ok (.istore_n 2, 1) := by decide +kernel
theorem d_Mo_findPieces_12 : decode b_Mo_findPieces 12 = .ok (.iload_n 2, 1) := by decide +kernel
theorem d_Mo_findPieces_13 : decode b_Mo_findPieces 13 = .ok (.aload_n 0, 1) := by decide +kernel
theorem d_Mo_findPieces_14 : decode b_Mo_findPieces 14 = .ok (.getfield 92, 3) := by decide +kernel
theorem d_Mo_findPieces_17 : decode b_Mo_findPieces 17 = .ok (.if_icmp .ge 131, 3) := by decide +kernel
theorem d_Mo_findPieces_20 : decode b_Mo_findPieces 20 = .ok (.aload_n 0, 1) := by decide +kernel
theorem d_Mo_findPieces_21 : decode b_Mo_findPieces 21 = .ok (.iload_n 2, 1) := by decide +kernel
theorem d_Mo_findPieces_22 : decode b_Mo_findPieces 22 = .ok (.invokevirtual 215, 3) := by decide +kernel
theorem d_Mo_findPieces_25 : decode b_Mo_findPieces 25 = .ok (.aload_n 0, 1) := by decide +kernel
theorem d_Mo_findPieces_26 : decode b_Mo_findPieces 26 = .ok (.getfield 157, 3) := by decide +kernel
theorem d_Mo_findPieces_29 : decode b_Mo_findPieces 29 = .ok (.iconst 1, 1) := by decide +kernel
theorem d_Mo_findPieces_30 : decode b_Mo_findPieces 30 = .ok (.if_icmp .ne 95, 3) := by decide +kernel
theorem d_Mo_findPieces_33 : decode b_Mo_findPieces 33 = .ok (.aload_n 0, 1) := by decide +kernel
theorem d_Mo_findPieces_34 : decode b_Mo_findPieces 34 = .ok (.getfield 19, 3) := by decide +kernel
theorem d_Mo_findPieces_37 : decode b_Mo_findPieces 37 = .ok (.iload_n 2, 1) := by decide +kernel
theorem d_Mo_findPieces_38 : decode b_Mo_findPieces 38 = .ok (.baload, 1) := by decide +kernel
theorem d_Mo_findPieces_39 : decode b_Mo_findPieces 39 = .ok (.ifCond .ne 12, 3) := by decide +kernel
theorem d_Mo_findPieces_42 : decode b_Mo_findPieces 42 = .ok (.aload_n 0, 1) := by decide +kernel
theorem d_Mo_findPieces_43 : decode b_Mo_findPieces 43 = .ok (.getfield 23, 3) := by decide +kernel
theorem d_Mo_findPieces_46 : decode b_Mo_findPieces 46 = .ok (.iload_n 2, 1) := by decide +kernel
theorem d_Mo_findPieces_47 : decode b_Mo_findPieces 47 = .ok (.baload, 1) := by decide +kernel
theorem d_Mo_findPieces_48 : decode b_Mo_findPieces 48 = .ok (.ifCond .eq 94, 3) := by decide +kernel
theorem d_Mo_findPieces_51 : decode b_Mo_findPieces 51 = .ok (.aload_n 0, 1) := by decide +kernel
theorem d_Mo_findPieces_52 : decode b_Mo_findPieces 52 = .ok (.iconst 0, 1) := by decide +kernel
theorem d_Mo_findPieces_53 : decode b_Mo_findPieces 53 = .ok (.putfield 146, 3) := by decide +kernel
theorem d_Mo_findPieces_56 : decode b_Mo_findPieces 56 = .ok (.aload_n 0, 1) := by decide +kernel
theorem d_Mo_findPieces_57 : decode b_Mo_findPieces 57 = .ok (.iconst 0, 1) := by decide +kernel
theorem d_Mo_findPieces_58 : decode b_Mo_findPieces 58 = .ok (.putfield 149, 3) := by decide +kernel
theorem d_Mo_findPieces_61 : decode b_Mo_findPieces 61 = .ok (.aload_n 0, 1) := by decide +kernel
theorem d_Mo_findPieces_62 : decode b_Mo_findPieces 62 = .ok (.ldc2_w 164, 3) := by decide +kernel
theorem d_Mo_findPieces_65 : decode b_Mo_findPieces 65 = .ok (.aload_n 0, 1) := by decide +kernel
theorem d_Mo_findPieces_66 : decode b_Mo_findPieces 66 = .ok (.getfield 39, 3) := by decide +kernel
theorem d_Mo_findPieces_69 : decode b_Mo_findPieces 69 = .ok (.iconst 0, 1) := by decide +kernel
theorem d_Mo_findPieces_70 : decode b_Mo_findPieces 70 = .ok (.iaload, 1) := by decide +kernel
theorem d_Mo_findPieces_71 : decode b_Mo_findPieces 71 = .ok (.i2l, 1) := by decide +kernel
theorem d_Mo_findPieces_72 : decode b_Mo_findPieces 72 = .ok (.lmul, 1) := by decide +kernel
theorem d_Mo_findPieces_73 : decode b_Mo_findPieces 73 = .ok (.ldc2_w 164, 3) := by decide +kernel
theorem d_Mo_findPieces_76 : decode b_Mo_findPieces 76 = .ok (.aload_n 0, 1) := by decide +kernel
theorem d_Mo_findPieces_77 : decode b_Mo_findPieces 77 = .ok (.getfield 42, 3) := by decide +kernel
theorem d_Mo_findPieces_80 : decode b_Mo_findPieces 80 = .ok (.iconst 0, 1) := by decide +kernel
theorem d_Mo_findPieces_81 : decode b_Mo_findPieces 81 = .ok (.iaload, 1) := by decide +kernel
theorem d_Mo_findPieces_82 : decode b_Mo_findPieces 82 = .ok (.i2l, 1) := by decide +kernel
theorem d_Mo_findPieces_83 : decode b_Mo_findPieces 83 = .ok (.lmul, 1) := by decide +kernel
theorem d_Mo_findPieces_84 : decode b_Mo_findPieces 84 = .ok (.ldc2_w 164, 3) := by decide +kernel
theorem d_Mo_findPieces_87 : decode b_Mo_findPieces 87 = .ok (.aload_n 0, 1) := by decide +kernel
theorem d_Mo_findPieces_88 : decode b_Mo_findPieces 88 = .ok (.getfield 39, 3) := by decide +kernel
theorem d_Mo_findPieces_91 : decode b_Mo_findPieces 91 = .ok (.iconst 0, 1) := by decide +kernel
theorem d_Mo_findPieces_92 : decode b_Mo_findPieces 92 = .ok (.iaload, 1) := by decide +kernel
theorem d_Mo_findPieces_93 : decode b_Mo_findPieces 93 = .ok (.i2l, 1) := by decide +kernel
theorem d_Mo_findPieces_94 : decode b_Mo_findPieces 94 = .ok (.lmul, 1) := by decide +kernel
theorem d_Mo_findPieces_95 : decode b_Mo_findPieces 95 = .ok (.ldc2_w 164, 3) := by decide +kernel
theorem d_Mo_findPieces_98 : decode b_Mo_findPieces 98 = .ok (.aload_n 0, 1) := by decide +kernel
theorem d_Mo_findPieces_99 : decode b_Mo_findPieces 99 = .ok (.getfield 42, 3) := by decide +kernel
theorem d_Mo_findPieces_102 : decode b_Mo_findPieces 102 = .ok (.iconst 0, 1) := by decide +kernel
theorem d_Mo_findPieces_103 : decode b_Mo_findPieces 103 = .ok (.iaload, 1) := by decide +kernel
theorem d_Mo_findPieces_104 : decode b_Mo_findPieces 104 = .ok (.i2l, 1) := by decide +kernel
theorem d_Mo_findPieces_105 : decode b_Mo_findPieces 105 = .ok (.lmul, 1) := by decide +kernel
theorem d_Mo_findPieces_106 : decode b_Mo_findPieces 106 = .ok (.iconst 0, 1) := by decide +kernel
theorem d_Mo_findPieces_107 : decode b_Mo_findPieces 107 = .ok (.invokevirtual 166, 3) := by decide +kernel
theorem d_Mo_findPieces_110 : decode b_Mo_findPieces 110 = .ok (.aload_n 0, 1) := by decide +kernel
theorem d_Mo_findPieces_111 : decode b_Mo_findPieces 111 = .ok (.getfield 72, 3) := by decide +kernel
theorem d_Mo_findPieces_114 : decode b_Mo_findPieces 114 = .ok (.aload_n 0, 1) := by decide +kernel
theorem d_Mo_findPieces_115 : decode b_Mo_findPieces 115 = .ok (.getfield 154, 3) := by decide +kernel
theorem d_Mo_findPieces_118 : decode b_Mo_findPieces 118 = .ok (.iconst 1, 1) := by decide +kernel
theorem d_Mo_findPieces_119 : decode b_Mo_findPieces 119 = .ok (.isub, 1) := by decide +kernel
theorem d_Mo_findPieces_120 : decode b_Mo_findPieces 120 = .ok (.iconst 1, 1) := by decide +kernel
theorem d_Mo_findPieces_121 : decode b_Mo_findPieces 121 = .ok (.bastore, 1) := by decide +kernel
theorem d_Mo_findPieces_122 : decode b_Mo_findPieces 122 = .ok (.goto 20, 3) := by decide +kernel
theorem d_Mo_findPieces_125 : decode b_Mo_findPieces 125 = .ok (.iload_n 1, 1) := by decide +kernel
theorem d_Mo_findPieces_126 : decode b_Mo_findPieces 126 = .ok (.ifCond .eq 11, 3) := by decide +kernel
theorem d_Mo_findPieces_129 : decode b_Mo_findPieces 129 = .ok (.aload_n 0, 1) := by decide +kernel
theorem d_Mo_findPieces_130 : decode b_Mo_findPieces 130 = .ok (.iload_n 2, 1) := by decide +kernel
theorem d_Mo_findPieces_131 : decode b_Mo_findPieces 131 = .ok (.invokevirtual 218, 3) := by decide +kernel
theorem d_Mo_findPieces_134 : decode b_Mo_findPieces 134 = .ok (.goto 8, 3) := by decide +kernel
theorem d_Mo_findPieces_137 : decode b_Mo_findPieces 137 = .ok (.aload_n 0, 1) := by decide +kernel
theorem d_Mo_findPieces_138 : decode b_Mo_findPieces 138 = .ok (.iload_n 2, 1) := by decide +kernel
theorem d_Mo_findPieces_139 : decode b_Mo_findPieces 139 = .ok (.invokevirtual 221, 3) := by decide +kernel
theorem d_Mo_findPieces_142 : decode b_Mo_findPieces 142 = .ok (.iinc 2 1, 3) := by decide +kernel
theorem d_Mo_findPieces_145 : decode b_Mo_findPieces 145 = .ok (.goto (-133), 3) := by decide +kernel
theorem d_Mo_findPieces_148 : decode b_Mo_findPieces 148 = .ok (.aload_n 0, 1) := by decide +kernel
theorem d_Mo_findPieces_149 : decode b_Mo_findPieces 149 = .ok (.getfield 154, 3) := by decide +kernel
theorem d_Mo_findPieces_152 : decode b_Mo_findPieces 152 = .ok (.sipush 2000, 3) := by decide +kernel
theorem d_Mo_findPieces_155 : decode b_Mo_findPieces 155 = .ok (.if_icmp .le 9, 3) := by decide +kernel
theorem d_Mo_findPieces_158 : decode b_Mo_findPieces 158 = .ok (.aload_n 0, 1) := by decide +kernel
theorem d_Mo_findPieces_159 : decode b_Mo_findPieces 159 = .ok (.bipush (-2), 2) := by decide +kernel
theorem d_Mo_findPieces_161 : decode b_Mo_findPieces 161 = .ok (.putfield 154, 3) := by decide +kernel
theorem d_Mo_findPieces_164 : decode b_Mo_findPieces 164 = .ok (.return_, 1) := by decide +kernel
theorem d_Mo_cross_0 : decode b_Mo_cross 0 = .ok (.lload_n 0, 1) := by decide +kernel
theorem d_Mo_cross_1 : decode b_Mo_cross 1 = .ok (.lload 6, 2) := by decide +kernel
theorem d_Mo_cross_3 : decode b_Mo_cross 3 = .ok (.lmul, 1) := by decide +kernel
theorem d_Mo_cross_4 : decode b_Mo_cross 4 = .ok (.lload_n 2, 1) := by decide +kernel
theorem d_Mo_cross_5 : decode b_Mo_cross 5 = .ok (.lload 4, 2) := by decide +kernel
theorem d_Mo_cross_7 : decode b_Mo_cross 7 = .ok (.lmul, 1) := by decide +kernel
theorem d_Mo_cross_8 : decode b_Mo_cross 8 = .ok (.lsub, 1) := by decide +kernel
theorem d_Mo_cross_9 : decode b_Mo_cross 9 = .ok (.lreturn, 1) := by decide +kernel
theorem d_Mo_corner_0 : decode b_Mo_corner 0 = .ok (.aload_n 0, 1) := by decide +kernel
theorem d_Mo_corner_1 : decode b_Mo_corner 1 = .ok (.getfield 75, 3) := by decide +kernel
theorem d_Mo_corner_4 : decode b_Mo_corner 4 = .ok (.iload_n 1, 1) := by decide +kernel
theorem d_Mo_corner_5 : decode b_Mo_corner 5 = .ok (.lload_n 2, 1) := by decide +kernel
theorem d_Mo_corner_6 : decode b_Mo_corner 6 = .ok (.lastore, 1) := by decide +kernel
theorem d_Mo_corner_7 : decode b_Mo_corner 7 = .ok (.aload_n 0, 1) := by decide +kernel
theorem d_Mo_corner_8 : decode b_Mo_corner 8 = .ok (.getfield 79, 3) := by decide +kernel
theorem d_Mo_corner_11 : decode b_Mo_corner 11 = .ok (.iload_n 1, 1) := by decide +kernel
theorem d_Mo_corner_12 : decode b_Mo_corner 12 = .ok (.lload 4, 2) := by decide +kernel
theorem d_Mo_corner_14 : decode b_Mo_corner 14 = .ok (.lastore, 1) := by decide +kernel
theorem d_Mo_corner_15 : decode b_Mo_corner 15 = .ok (.return_, 1) := by decide +kernel
theorem d_Mo_inPolygon_0 : decode b_Mo_inPolygon 0 = .ok (.iconst 1, 1) := by decide +kernel
theorem d_Mo_inPolygon_1 : decode b_Mo_inPolygon 1 = .ok (.istore 6, 2) := by decide +kernel
theorem d_Mo_inPolygon_3 : decode b_Mo_inPolygon 3 = .ok (.iconst 1, 1) := by decide +kernel
theorem d_Mo_inPolygon_4 : decode b_Mo_inPolygon 4 = .ok (.istore 7, 2) := by decide +kernel
theorem d_Mo_inPolygon_6 : decode b_Mo_inPolygon 6 = .ok (.iconst 0, 1) := by decide +kernel
theorem d_Mo_inPolygon_7 : decode b_Mo_inPolygon 7 = .ok (.istore 8, 2) := by decide +kernel
theorem d_Mo_inPolygon_9 : decode b_Mo_inPolygon 9 = .ok (.iload 8, 2) := by decide +kernel
theorem d_Mo_inPolygon_11 : decode b_Mo_inPolygon 11 = .ok (.iload_n 1, 1) := by decide +kernel
theorem d_Mo_inPolygon_12 : decode b_Mo_inPolygon 12 = .ok (.if_icmp .ge 109, 3) := by decide +kernel
theorem d_Mo_inPolygon_15 : decode b_Mo_inPolygon 15 = .ok (.iload 8, 2) := by decide +kernel
theorem d_Mo_inPolygon_17 : decode b_Mo_inPolygon 17 = .ok (.iconst 1, 1) := by decide +kernel
theorem d_Mo_inPolygon_18 : decode b_Mo_inPolygon 18 = .ok (.iadd, 1) := by decide +kernel
theorem d_Mo_inPolygon_19 : decode b_Mo_inPolygon 19 = .ok (.iload_n 1, 1) := by decide +kernel
theorem d_Mo_inPolygon_20 : decode b_Mo_inPolygon 20 = .ok (.irem, 1) := by decide +kernel
theorem d_Mo_inPolygon_21 : decode b_Mo_inPolygon 21 = .ok (.istore 9, 2) := by decide +kernel
theorem d_Mo_inPolygon_23 : decode b_Mo_inPolygon 23 = .ok (.aload_n 0, 1) := by decide +kernel
theorem d_Mo_inPolygon_24 : decode b_Mo_inPolygon 24 = .ok (.getfield 75, 3) := by decide +kernel
theorem d_Mo_inPolygon_27 : decode b_Mo_inPolygon 27 = .ok (.iload 9, 2) := by decide +kernel
theorem d_Mo_inPolygon_29 : decode b_Mo_inPolygon 29 = .ok (.laload, 1) := by decide +kernel
theorem d_Mo_inPolygon_30 : decode b_Mo_inPolygon 30 = .ok (.aload_n 0, 1) := by decide +kernel
theorem d_Mo_inPolygon_31 : decode b_Mo_inPolygon 31 = .ok (.getfield 75, 3) := by decide +kernel
theorem d_Mo_inPolygon_34 : decode b_Mo_inPolygon 34 = .ok (.iload 8, 2) := by decide +kernel
theorem d_Mo_inPolygon_36 : decode b_Mo_inPolygon 36 = .ok (.laload, 1) := by decide +kernel
theorem d_Mo_inPolygon_37 : decode b_Mo_inPolygon 37 = .ok (.lsub, 1) := by decide +kernel
theorem d_Mo_inPolygon_38 : decode b_Mo_inPolygon 38 = .ok (.aload_n 0, 1) := by decide +kernel
theorem d_Mo_inPolygon_39 : decode b_Mo_inPolygon 39 = .ok (.getfield 79, 3) := by decide +kernel
theorem d_Mo_inPolygon_42 : decode b_Mo_inPolygon 42 = .ok (.iload 9, 2) := by decide +kernel
theorem d_Mo_inPolygon_44 : decode b_Mo_inPolygon 44 = .ok (.laload, 1) := by decide +kernel
theorem d_Mo_inPolygon_45 : decode b_Mo_inPolygon 45 = .ok (.aload_n 0, 1) := by decide +kernel
theorem d_Mo_inPolygon_46 : decode b_Mo_inPolygon 46 = .ok (.getfield 79, 3) := by decide +kernel
theorem d_Mo_inPolygon_49 : decode b_Mo_inPolygon 49 = .ok (.iload 8, 2) := by decide +kernel
theorem d_Mo_inPolygon_51 : decode b_Mo_inPolygon 51 = .ok (.laload, 1) := by decide +kernel
theorem d_Mo_inPolygon_52 : decode b_Mo_inPolygon 52 = .ok (.lsub, 1) := by decide +kernel
theorem d_Mo_inPolygon_53 : decode b_Mo_inPolygon 53 = .ok (.lload_n 2, 1) := by decide +kernel
theorem d_Mo_inPolygon_54 : decode b_Mo_inPolygon 54 = .ok (.aload_n 0, 1) := by decide +kernel
theorem d_Mo_inPolygon_55 : decode b_Mo_inPolygon 55 = .ok (.getfield 75, 3) := by decide +kernel
theorem d_Mo_inPolygon_58 : decode b_Mo_inPolygon 58 = .ok (.iload 8, 2) := by decide +kernel
theorem d_Mo_inPolygon_60 : decode b_Mo_inPolygon 60 = .ok (.laload, 1) := by decide +kernel
theorem d_Mo_inPolygon_61 : decode b_Mo_inPolygon 61 = .ok (.lsub, 1) := by decide +kernel
theorem d_Mo_inPolygon_62 : decode b_Mo_inPolygon 62 = .ok (.lload 4, 2) := by decide +kernel
theorem d_Mo_inPolygon_64 : decode b_Mo_inPolygon 64 = .ok (.aload_n 0, 1) := by decide +kernel
theorem d_Mo_inPolygon_65 : decode b_Mo_inPolygon 65 = .ok (.getfield 79, 3) := by decide +kernel
theorem d_Mo_inPolygon_68 : decode b_Mo_inPolygon 68 = .ok (.iload 8, 2) := by decide +kernel
theorem d_Mo_inPolygon_70 : decode b_Mo_inPolygon 70 = .ok (.laload, 1) := by decide +kernel
theorem d_Mo_inPolygon_71 : decode b_Mo_inPolygon 71 = .ok (.lsub, 1) := by decide +kernel
theorem d_Mo_inPolygon_72 : decode b_Mo_inPolygon 72 = .ok (.invokestatic 224, 3) := by decide +kernel
theorem d_Mo_inPolygon_75 : decode b_Mo_inPolygon 75 = .ok (.lstore 10, 2) := by decide +kernel
theorem d_Mo_inPolygon_77 : decode b_Mo_inPolygon 77 = .ok (.iload 6, 2) := by decide +kernel
theorem d_Mo_inPolygon_79 : decode b_Mo_inPolygon 79 = .ok (.ifCond .eq 14, 3) := by decide +kernel
theorem d_Mo_inPolygon_82 : decode b_Mo_inPolygon 82 = .ok (.lload 10, 2) := by decide +kernel
theorem d_Mo_inPolygon_84 : decode b_Mo_inPolygon 84 = .ok (.lconst 0, 1) := by decide +kernel
theorem d_Mo_inPolygon_85 : decode b_Mo_inPolygon 85 = .ok (.lcmp, 1) := by decide +kernel
theorem d_Mo_inPolygon_86 : decode b_Mo_inPolygon 86 = .ok (.ifCond .lt 7, 3) := by decide +kernel
theorem d_Mo_inPolygon_89 : decode b_Mo_inPolygon 89 = .ok (.iconst 1, 1) := by decide +kernel
theorem d_Mo_inPolygon_90 : decode b_Mo_inPolygon 90 = .ok (.goto 4, 3) := by decide +kernel
theorem d_Mo_inPolygon_93 : decode b_Mo_inPolygon 93 = .ok (.iconst 0, 1) := by decide +kernel
theorem d_Mo_inPolygon_94 : decode b_Mo_inPolygon 94 = .ok (.istore 6, 2) := by decide +kernel
theorem d_Mo_inPolygon_96 : decode b_Mo_inPolygon 96 = .ok (.iload 7, 2) := by decide +kernel
theorem d_Mo_inPolygon_98 : decode b_Mo_inPolygon 98 = .ok (.ifCond .eq 14, 3) := by decide +kernel
theorem d_Mo_inPolygon_101 : decode b_Mo_inPolygon 101 = .ok (.lload 10, 2) := by decide +kernel
theorem d_Mo_inPolygon_103 : decode b_Mo_inPolygon 103 = .ok (.lconst 0, 1) := by decide +kernel
theorem d_Mo_inPolygon_104 : decode b_Mo_inPolygon 104 = .ok (.lcmp, 1) := by decide +kernel
theorem d_Mo_inPolygon_105 : decode b_Mo_inPolygon 105 = .ok (.ifCond .gt 7, 3) := by decide +kernel
theorem d_Mo_inPolygon_108 : decode b_Mo_inPolygon 108 = .ok (.iconst 1, 1) := by decide +kernel
theorem d_Mo_inPolygon_109 : decode b_Mo_inPolygon 109 = .ok (.goto 4, 3) := by decide +kernel
theorem d_Mo_inPolygon_112 : decode b_Mo_inPolygon 112 = .ok (.iconst 0, 1) := by decide +kernel
theorem d_Mo_inPolygon_113 : decode b_Mo_inPolygon 113 = .ok (.istore 7, 2) := by decide +kernel
theorem d_Mo_inPolygon_115 : decode b_Mo_inPolygon 115 = .ok (.iinc 8 1, 3) := by decide +kernel
theorem d_Mo_inPolygon_118 : decode b_Mo_inPolygon 118 = .ok (.goto (-109), 3) := by decide +kernel
theorem d_Mo_inPolygon_121 : decode b_Mo_inPolygon 121 = .ok (.iload 6, 2) := by decide +kernel
theorem d_Mo_inPolygon_123 : decode b_Mo_inPolygon 123 = .ok (.ifCond .ne 8, 3) := by decide +kernel
theorem d_Mo_inPolygon_126 : decode b_Mo_inPolygon 126 = .ok (.iload 7, 2) := by decide +kernel
theorem d_Mo_inPolygon_128 : decode b_Mo_inPolygon 128 = .ok (.ifCond .eq 7, 3) := by decide +kernel
theorem d_Mo_inPolygon_131 : decode b_Mo_inPolygon 131 = .ok (.iconst 1, 1) := by decide +kernel
theorem d_Mo_inPolygon_132 : decode b_Mo_inPolygon 132 = .ok (.goto 4, 3) := by decide +kernel
theorem d_Mo_inPolygon_135 : decode b_Mo_inPolygon 135 = .ok (.iconst 0, 1) := by decide +kernel
theorem d_Mo_inPolygon_136 : decode b_Mo_inPolygon 136 = .ok (.ireturn, 1) := by decide +kernel
theorem d_Mo_inDisc_0 : decode b_Mo_inDisc 0 = .ok (.lload 5, 2) := by decide +kernel
theorem d_Mo_inDisc_2 : decode b_Mo_inDisc 2 = .ok (.lload_n 1, 1) := by decide +kernel
theorem d_Mo_inDisc_3 : decode b_Mo_inDisc 3 = .ok (.lsub, 1) := by decide +kernel
theorem d_Mo_inDisc_4 : decode b_Mo_inDisc 4 = .ok (.lstore 9, 2) := by decide +kernel
theorem d_Mo_inDisc_6 : decode b_Mo_inDisc 6 = .ok (.lload 7, 2) := by decide +kernel
theorem d_Mo_inDisc_8 : decode b_Mo_inDisc 8 = .ok (.lload_n 3, 1) := by decide +kernel
theorem d_Mo_inDisc_9 : decode b_Mo_inDisc 9 = .ok (.lsub, 1) := by decide +kernel
theorem d_Mo_inDisc_10 : decode b_Mo_inDisc 10 = .ok (.lstore 11, 2) := by decide +kernel
theorem d_Mo_inDisc_12 : decode b_Mo_inDisc 12 = .ok (.lload 9, 2) := by decide +kernel
theorem d_Mo_inDisc_14 : decode b_Mo_inDisc 14 = .ok (.lload 9, 2) := by decide +kernel
theorem d_Mo_inDisc_16 : decode b_Mo_inDisc 16 = .ok (.lmul, 1) := by decide +kernel
theorem d_Mo_inDisc_17 : decode b_Mo_inDisc 17 = .ok (.lload 11, 2) := by decide +kernel
theorem d_Mo_inDisc_19 : decode b_Mo_inDisc 19 = .ok (.lload 11, 2) := by decide +kernel
theorem d_Mo_inDisc_21 : decode b_Mo_inDisc 21 = .ok (.lmul, 1) := by decide +kernel
theorem d_Mo_inDisc_22 : decode b_Mo_inDisc 22 = .ok (.ladd, 1) := by decide +kernel
theorem d_Mo_inDisc_23 : decode b_Mo_inDisc 23 = .ok (.aload_n 0, 1) := by decide +kernel
theorem d_Mo_inDisc_24 : decode b_Mo_inDisc 24 = .ok (.invokevirtual 138, 3) := by decide +kernel
theorem d_Mo_inDisc_27 : decode b_Mo_inDisc 27 = .ok (.aload_n 0, 1) := by decide +kernel
theorem d_Mo_inDisc_28 : decode b_Mo_inDisc 28 = .ok (.invokevirtual 138, 3) := by decide +kernel
theorem d_Mo_inDisc_31 : decode b_Mo_inDisc 31 = .ok (.lmul, 1) := by decide +kernel
theorem d_Mo_inDisc_32 : decode b_Mo_inDisc 32 = .ok (.lcmp, 1) := by decide +kernel
theorem d_Mo_inDisc_33 : decode b_Mo_inDisc 33 = .ok (.ifCond .gt 7, 3) := by decide +kernel
theorem d_Mo_inDisc_36 : decode b_Mo_inDisc 36 = .ok (.iconst 1, 1) := by decide +kernel
theorem d_Mo_inDisc_37 : decode b_Mo_inDisc 37 = .ok (.goto 4, 3) := by decide +kernel
theorem d_Mo_inDisc_40 : decode b_Mo_inDisc 40 = .ok (.iconst 0, 1) := by decide +kernel
theorem d_Mo_inDisc_41 : decode b_Mo_inDisc 41 = .ok (.ireturn, 1) := by decide +kernel
theorem d_Mo_inBody_0 : decode b_Mo_inBody 0 = .ok (.aload_n 0, 1) := by decide +kernel
theorem d_Mo_inBody_1 : decode b_Mo_inBody 1 = .ok (.getfield 45, 3) := by decide +kernel
theorem d_Mo_inBody_4 : decode b_Mo_inBody 4 = .ok (.iload_n 1, 1) := by decide +kernel
theorem d_Mo_inBody_5 : decode b_Mo_inBody 5 = .ok (.iaload, 1) := by decide +kernel
theorem d_Mo_inBody_6 : decode b_Mo_inBody 6 = .ok (.aload_n 0, 1) := by decide +kernel
theorem d_Mo_inBody_7 : decode b_Mo_inBody 7 = .ok (.getfield 51, 3) := by decide +kernel
theorem d_Mo_inBody_10 : decode b_Mo_inBody 10 = .ok (.iload_n 1, 1) := by decide +kernel
theorem d_Mo_inBody_11 : decode b_Mo_inBody 11 = .ok (.iaload, 1) := by decide +kernel
theorem d_Mo_inBody_12 : decode b_Mo_inBody 12 = .ok (.if_icmp .ne 20, 3) := by decide +kernel
theorem d_Mo_inBody_15 : decode b_Mo_inBody 15 = .ok (.aload_n 0, 1) := by decide +kernel
theorem d_Mo_inBody_16 : decode b_Mo_inBody 16 = .ok (.getfield 48, 3) := by decide +kernel
theorem d_Mo_inBody_19 : decode b_Mo_inBody 19 = .ok (.iload_n 1, 1) := by decide +kernel
theorem d_Mo_inBody_20 : decode b_Mo_inBody 20 = .ok (.iaload, 1) := by decide +kernel
theorem d_Mo_inBody_21 : decode b_Mo_inBody 21 = .ok (.aload_n 0, 1) := by decide +kernel
theorem d_Mo_inBody_22 : decode b_Mo_inBody 22 = .ok (.getfield 54, 3) := by decide +kernel
theorem d_Mo_inBody_25 : decode b_Mo_inBody 25 = .ok (.iload_n 1, 1) := by decide +kernel
theorem d_Mo_inBody_26 : decode b_Mo_inBody 26 = .ok (.iaload, 1) := by decide +kernel
theorem d_Mo_inBody_27 : decode b_Mo_inBody 27 = .ok (.if_icmp .ne 5, 3) := by decide +kernel
theorem d_Mo_inBody_30 : decode b_Mo_inBody 30 = .ok (.iconst 0, 1) := by decide +kernel
theorem d_Mo_inBody_31 : decode b_Mo_inBody 31 = .ok (.ireturn, 1) := by decide +kernel
theorem d_Mo_inBody_32 : decode b_Mo_inBody 32 = .ok (.aload_n 0, 1) := by decide +kernel
theorem d_Mo_inBody_33 : decode b_Mo_inBody 33 = .ok (.iconst 0, 1) := by decide +kernel
theorem d_Mo_inBody_34 : decode b_Mo_inBody 34 = .ok (.aload_n 0, 1) := by decide +kernel
theorem d_Mo_inBody_35 : decode b_Mo_inBody 35 = .ok (.getfield 45, 3) := by decide +kernel
theorem d_Mo_inBody_38 : decode b_Mo_inBody 38 = .ok (.iload_n 1, 1) := by decide +kernel
theorem d_Mo_inBody_39 : decode b_Mo_inBody 39 = .ok (.iaload, 1) := by decide +kernel
theorem d_Mo_inBody_40 : decode b_Mo_inBody 40 = .ok (.aload_n 0, 1) := by decide +kernel
theorem d_Mo_inBody_41 : decode b_Mo_inBody 41 = .ok (.getfield 57, 3) := by decide +kernel
theorem d_Mo_inBody_44 : decode b_Mo_inBody 44 = .ok (.iload_n 1, 1) := by decide +kernel
theorem d_Mo_inBody_45 : decode b_Mo_inBody 45 = .ok (.iaload, 1) := by decide +kernel
theorem d_Mo_inBody_46 : decode b_Mo_inBody 46 = .ok (.iadd, 1) := by decide +kernel
theorem d_Mo_inBody_47 : decode b_Mo_inBody 47 = .ok (.i2l, 1) := by decide +kernel
theorem d_Mo_inBody_48 : decode b_Mo_inBody 48 = .ok (.aload_n 0, 1) := by decide +kernel
theorem d_Mo_inBody_49 : decode b_Mo_inBody 49 = .ok (.getfield 48, 3) := by decide +kernel
theorem d_Mo_inBody_52 : decode b_Mo_inBody 52 = .ok (.iload_n 1, 1) := by decide +kernel
theorem d_Mo_inBody_53 : decode b_Mo_inBody 53 = .ok (.iaload, 1) := by decide +kernel
theorem d_Mo_inBody_54 : decode b_Mo_inBody 54 = .ok (.aload_n 0, 1) := by decide +kernel
theorem d_Mo_inBody_55 : decode b_Mo_inBody 55 = .ok (.getfield 60, 3) := by decide +kernel
theorem d_Mo_inBody_58 : decode b_Mo_inBody 58 = .ok (.iload_n 1, 1) := by decide +kernel
theorem d_Mo_inBody_59 : decode b_Mo_inBody 59 = .ok (.iaload, 1) := by decide +kernel
theorem d_Mo_inBody_60 : decode b_Mo_inBody 60 = .ok (.iadd, 1) := by decide +kernel
theorem d_Mo_inBody_61 : decode b_Mo_inBody 61 = .ok (.i2l, 1) := by decide +kernel
theorem d_Mo_inBody_62 : decode b_Mo_inBody 62 = .ok (.invokevirtual 228, 3) := by decide +kernel
theorem d_Mo_inBody_65 : decode b_Mo_inBody 65 = .ok (.aload_n 0, 1) := by decide +kernel
theorem d_Mo_inBody_66 : decode b_Mo_inBody 66 = .ok (.iconst 1, 1) := by decide +kernel
theorem d_Mo_inBody_67 : decode b_Mo_inBody 67 = .ok (.aload_n 0, 1) := by decide +kernel
theorem d_Mo_inBody_68 : decode b_Mo_inBody 68 = .ok (.getfield 51, 3) := by decide +kernel
theorem d_Mo_inBody_71 : decode b_Mo_inBody 71 = .ok (.iload_n 1, 1) := by decide +kernel
theorem d_Mo_inBody_72 : decode b_Mo_inBody 72 = .ok (.iaload, 1) := by decide +kernel
theorem d_Mo_inBody_73 : decode b_Mo_inBody 73 = .ok (.aload_n 0, 1) := by decide +kernel
theorem d_Mo_inBody_74 : decode b_Mo_inBody 74 = .ok (.getfield 57, 3) := by decide +kernel
theorem d_Mo_inBody_77 : decode b_Mo_inBody 77 = .ok (.iload_n 1, 1) := by decide +kernel
theorem d_Mo_inBody_78 : decode b_Mo_inBody 78 = .ok (.iaload, 1) := by decide +kernel
theorem d_Mo_inBody_79 : decode b_Mo_inBody 79 = .ok (.iadd, 1) := by decide +kernel
theorem d_Mo_inBody_80 : decode b_Mo_inBody 80 = .ok (.i2l, 1) := by decide +kernel
theorem d_Mo_inBody_81 : decode b_Mo_inBody 81 = .ok (.aload_n 0, 1) := by decide +kernel
theorem d_Mo_inBody_82 : decode b_Mo_inBody 82 = .ok (.getfield 54, 3) := by decide +kernel
theorem d_Mo_inBody_85 : decode b_Mo_inBody 85 = .ok (.iload_n 1, 1) := by decide +kernel
theorem d_Mo_inBody_86 : decode b_Mo_inBody 86 = .ok (.iaload, 1) := by decide +kernel
theorem d_Mo_inBody_87 : decode b_Mo_inBody 87 = .ok (.aload_n 0, 1) := by decide +kernel
theorem d_Mo_inBody_88 : decode b_Mo_inBody 88 = .ok (.getfield 60, 3) := by decide +kernel
theorem d_Mo_inBody_91 : decode b_Mo_inBody 91 = .ok (.iload_n 1, 1) := by decide +kernel
theorem d_Mo_inBody_92 : decode b_Mo_inBody 92 = .ok (.iaload, 1) := by decide +kernel
theorem d_Mo_inBody_93 : decode b_Mo_inBody 93 = .ok (.iadd, 1) := by decide +kernel
theorem d_Mo_inBody_94 : decode b_Mo_inBody 94 = .ok (.i2l, 1) := by decide +kernel
theorem d_Mo_inBody_95 : decode b_Mo_inBody 95 = .ok (.invokevirtual 228, 3) := by decide +kernel
theorem d_Mo_inBody_98 : decode b_Mo_inBody 98 = .ok (.aload_n 0, 1) := by decide +kernel
theorem d_Mo_inBody_99 : decode b_Mo_inBody 99 = .ok (.iconst 2, 1) := by decide +kernel
theorem d_Mo_inBody_100 : decode b_Mo_inBody 100 = .ok (.aload_n 0, 1) := by decide +kernel
theorem d_Mo_inBody_101 : decode b_Mo_inBody 101 = .ok (.getfield 51, 3) := by decide +kernel
theorem d_Mo_inBody_104 : decode b_Mo_inBody 104 = .ok (.iload_n 1, 1) := by decide +kernel
theorem d_Mo_inBody_105 : decode b_Mo_inBody 105 = .ok (.iaload, 1) := by decide +kernel
theorem d_Mo_inBody_106 : decode b_Mo_inBody 106 = .ok (.aload_n 0, 1) := by decide +kernel
theorem d_Mo_inBody_107 : decode b_Mo_inBody 107 = .ok (.getfield 57, 3) := by decide +kernel
theorem d_Mo_inBody_110 : decode b_Mo_inBody 110 = .ok (.iload_n 1, 1) := by decide +kernel
theorem d_Mo_inBody_111 : decode b_Mo_inBody 111 = .ok (.iaload, 1) := by decide +kernel
theorem d_Mo_inBody_112 : decode b_Mo_inBody 112 = .ok (.isub, 1) := by decide +kernel
theorem d_Mo_inBody_113 : decode b_Mo_inBody 113 = .ok (.i2l, 1) := by decide +kernel
theorem d_Mo_inBody_114 : decode b_Mo_inBody 114 = .ok (.aload_n 0, 1) := by decide +kernel
theorem d_Mo_inBody_115 : decode b_Mo_inBody 115 = .ok (.getfield 54, 3) := by decide +kernel
theorem d_Mo_inBody_118 : decode b_Mo_inBody 118 = .ok (.iload_n 1, 1) := by decide +kernel
theorem d_Mo_inBody_119 : decode b_Mo_inBody 119 = .ok (.iaload, 1) := by decide +kernel
theorem d_Mo_inBody_120 : decode b_Mo_inBody 120 = .ok (.aload_n 0, 1) := by decide +kernel
theorem d_Mo_inBody_121 : decode b_Mo_inBody 121 = .ok (.getfield 60, 3) := by decide +kernel
theorem d_Mo_inBody_124 : decode b_Mo_inBody 124 = .ok (.iload_n 1, 1) := by decide +kernel
theorem d_Mo_inBody_125 : decode b_Mo_inBody 125 = .ok (.iaload, 1) := by decide +kernel
theorem d_Mo_inBody_126 : decode b_Mo_inBody 126 = .ok (.isub, 1) := by decide +kernel
theorem d_Mo_inBody_127 : decode b_Mo_inBody 127 = .ok (.i2l, 1) := by decide +kernel
theorem d_Mo_inBody_128 : decode b_Mo_inBody 128 = .ok (.invokevirtual 228, 3) := by decide +kernel
theorem d_Mo_inBody_131 : decode b_Mo_inBody 131 = .ok (.aload_n 0, 1) := by decide +kernel
theorem d_Mo_inBody_132 : decode b_Mo_inBody 132 = .ok (.iconst 3, 1) := by decide +kernel
theorem d_Mo_inBody_133 : decode b_Mo_inBody 133 = .ok (.aload_n 0, 1) := by decide +kernel
theorem d_Mo_inBody_134 : decode b_Mo_inBody 134 = .ok (.getfield 45, 3) := by decide +kernel
theorem d_Mo_inBody_137 : decode b_Mo_inBody 137 = .ok (.iload_n 1, 1) := by decide +kernel
theorem d_Mo_inBody_138 : decode b_Mo_inBody 138 = .ok (.iaload, 1) := by decide +kernel
theorem d_Mo_inBody_139 : decode b_Mo_inBody 139 = .ok (.aload_n 0, 1) := by decide +kernel
theorem d_Mo_inBody_140 : decode b_Mo_inBody 140 = .ok (.getfield 57, 3) := by decide +kernel
theorem d_Mo_inBody_143 : decode b_Mo_inBody 143 = .ok (.iload_n 1, 1) := by decide +kernel
theorem d_Mo_inBody_144 : decode b_Mo_inBody 144 = .ok (.iaload, 1) := by decide +kernel
theorem d_Mo_inBody_145 : decode b_Mo_inBody 145 = .ok (.isub, 1) := by decide +kernel
theorem d_Mo_inBody_146 : decode b_Mo_inBody 146 = .ok (.i2l, 1) := by decide +kernel
theorem d_Mo_inBody_147 : decode b_Mo_inBody 147 = .ok (.aload_n 0, 1) := by decide +kernel
theorem d_Mo_inBody_148 : decode b_Mo_inBody 148 = .ok (.getfield 48, 3) := by decide +kernel
theorem d_Mo_inBody_151 : decode b_Mo_inBody 151 = .ok (.iload_n 1, 1) := by decide +kernel
theorem d_Mo_inBody_152 : decode b_Mo_inBody 152 = .ok (.iaload, 1) := by decide +kernel
theorem d_Mo_inBody_153 : decode b_Mo_inBody 153 = .ok (.aload_n 0, 1) := by decide +kernel
theorem d_Mo_inBody_154 : decode b_Mo_inBody 154 = .ok (.getfield 60, 3) := by decide +kernel
theorem d_Mo_inBody_157 : decode b_Mo_inBody 157 = .ok (.iload_n 1, 1) := by decide +kernel
theorem d_Mo_inBody_158 : decode b_Mo_inBody 158 = .ok (.iaload, 1) := by decide +kernel
theorem d_Mo_inBody_159 : decode b_Mo_inBody 159 = .ok (.isub, 1) := by decide +kernel
theorem d_Mo_inBody_160 : decode b_Mo_inBody 160 = .ok (.i2l, 1) := by decide +kernel
theorem d_Mo_inBody_161 : decode b_Mo_inBody 161 = .ok (.invokevirtual 228, 3) := by decide +kernel
theorem d_Mo_inBody_164 : decode b_Mo_inBody 164 = .ok (.aload_n 0, 1) := by decide +kernel
theorem d_Mo_inBody_165 : decode b_Mo_inBody 165 = .ok (.iconst 4, 1) := by decide +kernel
theorem d_Mo_inBody_166 : decode b_Mo_inBody 166 = .ok (.lload_n 2, 1) := by decide +kernel
theorem d_Mo_inBody_167 : decode b_Mo_inBody 167 = .ok (.lload 4, 2) := by decide +kernel
theorem d_Mo_inBody_169 : decode b_Mo_inBody 169 = .ok (.invokevirtual 232, 3) := by decide +kernel
theorem d_Mo_inBody_172 : decode b_Mo_inBody 172 = .ok (.ireturn, 1) := by decide +kernel
theorem d_Mo_inCap_0 : decode b_Mo_inCap 0 = .ok (.aload_n 0, 1) := by decide +kernel
theorem d_Mo_inCap_1 : decode b_Mo_inCap 1 = .ok (.getfield 119, 3) := by decide +kernel
theorem d_Mo_inCap_4 : decode b_Mo_inCap 4 = .ok (.ifCond .ne 5, 3) := by decide +kernel
theorem d_Mo_inCap_7 : decode b_Mo_inCap 7 = .ok (.iconst 0, 1) := by decide +kernel
theorem d_Mo_inCap_8 : decode b_Mo_inCap 8 = .ok (.ireturn, 1) := by decide +kernel
theorem d_Mo_inCap_9 : decode b_Mo_inCap 9 = .ok (.aload_n 0, 1) := by decide +kernel
theorem d_Mo_inCap_10 : decode b_Mo_inCap 10 = .ok (.getfield 119, 3) := by decide +kernel
theorem d_Mo_inCap_13 : decode b_Mo_inCap 13 = .ok (.iconst 1, 1) := by decide +kernel
theorem d_Mo_inCap_14 : decode b_Mo_inCap 14 = .ok (.if_icmp .ne 15, 3) := by decide +kernel
theorem d_Mo_inCap_17 : decode b_Mo_inCap 17 = .ok (.aload_n 0, 1) := by decide +kernel
theorem d_Mo_inCap_18 : decode b_Mo_inCap 18 = .ok (.lload_n 2, 1) := by decide +kernel
theorem d_Mo_inCap_19 : decode b_Mo_inCap 19 = .ok (.lload 4, 2) := by decide +kernel
theorem d_Mo_inCap_21 : decode b_Mo_inCap 21 = .ok (.lload 7, 2) := by decide +kernel
theorem d_Mo_inCap_23 : decode b_Mo_inCap 23 = .ok (.lload 9, 2) := by decide +kernel
theorem d_Mo_inCap_25 : decode b_Mo_inCap 25 = .ok (.invokevirtual 236, 3) := by decide +kernel
theorem d_Mo_inCap_28 : decode b_Mo_inCap 28 = .ok (.ireturn, 1) := by decide +kernel
theorem d_Mo_inCap_29 : decode b_Mo_inCap 29 = .ok (.iload 6, 2) := by decide +kernel
theorem d_Mo_inCap_31 : decode b_Mo_inCap 31 = .ok (.i2l, 1) := by decide +kernel
theorem d_Mo_inCap_32 : decode b_Mo_inCap 32 = .ok (.lneg, 1) := by decide +kernel
theorem d_Mo_inCap_33 : decode b_Mo_inCap 33 = .ok (.aload_n 0, 1) := by decide +kernel
theorem d_Mo_inCap_34 : decode b_Mo_inCap 34 = .ok (.getfield 60, 3) := by decide +kernel
theorem d_Mo_inCap_37 : decode b_Mo_inCap 37 = .ok (.iload_n 1, 1) := by decide +kernel
theorem d_Mo_inCap_38 : decode b_Mo_inCap 38 = .ok (.iaload, 1) := by decide +kernel
theorem d_Mo_inCap_39 : decode b_Mo_inCap 39 = .ok (.i2l, 1) := by decide +kernel
theorem d_Mo_inCap_40 : decode b_Mo_inCap 40 = .ok (.lmul, 1) := by decide +kernel
theorem d_Mo_inCap_41 : decode b_Mo_inCap 41 = .ok (.lstore 11, 2) := by decide +kernel
theorem d_Mo_inCap_43 : decode b_Mo_inCap 43 = .ok (.iload 6, 2) := by decide +kernel
theorem d_Mo_inCap_45 : decode b_Mo_inCap 45 = .ok (.i2l, 1) := by decide +kernel
theorem d_Mo_inCap_46 : decode b_Mo_inCap 46 = .ok (.aload_n 0, 1) := by decide +kernel
theorem d_Mo_inCap_47 : decode b_Mo_inCap 47 = .ok (.getfield 57, 3) := by decide +kernel
theorem d_Mo_inCap_50 : decode b_Mo_inCap 50 = .ok (.iload_n 1, 1) := by decide +kernel
theorem d_Mo_inCap_51 : decode b_Mo_inCap 51 = .ok (.iaload, 1) := by decide +kernel
theorem d_Mo_inCap_52 : decode b_Mo_inCap 52 = .ok (.i2l, 1) := by decide +kernel
theorem d_Mo_inCap_53 : decode b_Mo_inCap 53 = .ok (.lmul, 1) := by decide +kernel
theorem d_Mo_inCap_54 : decode b_Mo_inCap 54 = .ok (.lstore 13, 2) := by decide +kernel
theorem d_Mo_inCap_56 : decode b_Mo_inCap 56 = .ok (.aload_n 0, 1) := by decide +kernel
theorem d_Mo_inCap_57 : decode b_Mo_inCap 57 = .ok (.iconst 0, 1) := by decide +kernel
theorem d_Mo_inCap_58 : decode b_Mo_inCap 58 = .ok (.lload_n 2, 1) := by decide +kernel
theorem d_Mo_inCap_59 : decode b_Mo_inCap 59 = .ok (.aload_n 0, 1) := by decide +kernel
theorem d_Mo_inCap_60 : decode b_Mo_inCap 60 = .ok (.getfield 57, 3) := by decide +kernel
theorem d_Mo_inCap_63 : decode b_Mo_inCap 63 = .ok (.iload_n 1, 1) := by decide +kernel
theorem d_Mo_inCap_64 : decode b_Mo_inCap 64 = .ok (.iaload, 1) := by decide +kernel
theorem d_Mo_inCap_65 : decode b_Mo_inCap 65 = .ok (.i2l, 1) := by decide +kernel
theorem d_Mo_inCap_66 : decode b_Mo_inCap 66 = .ok (.ladd, 1) := by decide +kernel
theorem d_Mo_inCap_67 : decode b_Mo_inCap 67 = .ok (.lload 4, 2) := by decide +kernel
theorem d_Mo_inCap_69 : decode b_Mo_inCap 69 = .ok (.aload_n 0, 1) := by decide +kernel
theorem d_Mo_inCap_70 : decode b_Mo_inCap 70 = .ok (.getfield 60, 3) := by decide +kernel
theorem d_Mo_inCap_73 : decode b_Mo_inCap 73 = .ok (.iload_n 1, 1) := by decide +kernel
theorem d_Mo_inCap_74 : decode b_Mo_inCap 74 = .ok (.iaload, 1) := by decide +kernel
theorem d_Mo_inCap_75 : decode b_Mo_inCap 75 = .ok (.i2l, 1) := by decide +kernel
theorem d_Mo_inCap_76 : decode b_Mo_inCap 76 = .ok (.ladd, 1) := by decide +kernel
theorem d_Mo_inCap_77 : decode b_Mo_inCap 77 = .ok (.invokevirtual 228, 3) := by decide +kernel
theorem d_Mo_inCap_80 : decode b_Mo_inCap 80 = .ok (.aload_n 0, 1) := by decide +kernel
theorem d_Mo_inCap_81 : decode b_Mo_inCap 81 = .ok (.iconst 1, 1) := by decide +kernel
theorem d_Mo_inCap_82 : decode b_Mo_inCap 82 = .ok (.lload_n 2, 1) := by decide +kernel
theorem d_Mo_inCap_83 : decode b_Mo_inCap 83 = .ok (.aload_n 0, 1) := by decide +kernel
theorem d_Mo_inCap_84 : decode b_Mo_inCap 84 = .ok (.getfield 57, 3) := by decide +kernel
theorem d_Mo_inCap_87 : decode b_Mo_inCap 87 = .ok (.iload_n 1, 1) := by decide +kernel
theorem d_Mo_inCap_88 : decode b_Mo_inCap 88 = .ok (.iaload, 1) := by decide +kernel
theorem d_Mo_inCap_89 : decode b_Mo_inCap 89 = .ok (.i2l, 1) := by decide +kernel
theorem d_Mo_inCap_90 : decode b_Mo_inCap 90 = .ok (.ladd, 1) := by decide +kernel
theorem d_Mo_inCap_91 : decode b_Mo_inCap 91 = .ok (.lload 11, 2) := by decide +kernel
theorem d_Mo_inCap_93 : decode b_Mo_inCap 93 = .ok (.ladd, 1) := by decide +kernel
theorem d_Mo_inCap_94 : decode b_Mo_inCap 94 = .ok (.lload 4, 2) := by decide +kernel
theorem d_Mo_inCap_96 : decode b_Mo_inCap 96 = .ok (.aload_n 0, 1) := by decide +kernel
theorem d_Mo_inCap_97 : decode b_Mo_inCap 97 = .ok (.getfield 60, 3) := by decide +kernel
theorem d_Mo_inCap_100 : decode b_Mo_inCap 100 = .ok (.iload_n 1, 1) := by decide +kernel
theorem d_Mo_inCap_101 : decode b_Mo_inCap 101 = .ok (.iaload, 1) := by decide +kernel
theorem d_Mo_inCap_102 : decode b_Mo_inCap 102 = .ok (.i2l, 1) := by decide +kernel
theorem d_Mo_inCap_103 : decode b_Mo_inCap 103 = .ok (.ladd, 1) := by decide +kernel
theorem d_Mo_inCap_104 : decode b_Mo_inCap 104 = .ok (.lload 13, 2) := by decide +kernel
theorem d_Mo_inCap_106 : decode b_Mo_inCap 106 = .ok (.ladd, 1) := by decide +kernel
theorem d_Mo_inCap_107 : decode b_Mo_inCap 107 = .ok (.invokevirtual 228, 3) := by decide +kernel
theorem d_Mo_inCap_110 : decode b_Mo_inCap 110 = .ok (.aload_n 0, 1) := by decide +kernel
theorem d_Mo_inCap_111 : decode b_Mo_inCap 111 = .ok (.iconst 2, 1) := by decide +kernel
theorem d_Mo_inCap_112 : decode b_Mo_inCap 112 = .ok (.lload_n 2, 1) := by decide +kernel
theorem d_Mo_inCap_113 : decode b_Mo_inCap 113 = .ok (.aload_n 0, 1) := by decide +kernel
theorem d_Mo_inCap_114 : decode b_Mo_inCap 114 = .ok (.getfield 57, 3) := by decide +kernel
theorem d_Mo_inCap_117 : decode b_Mo_inCap 117 = .ok (.iload_n 1, 1) := by decide +kernel
theorem d_Mo_inCap_118 : decode b_Mo_inCap 118 = .ok (.iaload, 1) := by decide +kernel
theorem d_Mo_inCap_119 : decode b_Mo_inCap 119 = .ok (.i2l, 1) := by decide +kernel
theorem d_Mo_inCap_120 : decode b_Mo_inCap 120 = .ok (.lsub, 1) := by decide +kernel
theorem d_Mo_inCap_121 : decode b_Mo_inCap 121 = .ok (.lload 11, 2) := by decide +kernel
theorem d_Mo_inCap_123 : decode b_Mo_inCap 123 = .ok (.ladd, 1) := by decide +kernel
theorem d_Mo_inCap_124 : decode b_Mo_inCap 124 = .ok (.lload 4, 2) := by decide +kernel
theorem d_Mo_inCap_126 : decode b_Mo_inCap 126 = .ok (.aload_n 0, 1) := by decide +kernel
theorem d_Mo_inCap_127 : decode b_Mo_inCap 127 = .ok (.getfield 60, 3) := by decide +kernel
theorem d_Mo_inCap_130 : decode b_Mo_inCap 130 = .ok (.iload_n 1, 1) := by decide +kernel
theorem d_Mo_inCap_131 : decode b_Mo_inCap 131 = .ok (.iaload, 1) := by decide +kernel
theorem d_Mo_inCap_132 : decode b_Mo_inCap 132 = .ok (.i2l, 1) := by decide +kernel
theorem d_Mo_inCap_133 : decode b_Mo_inCap 133 = .ok (.lsub, 1) := by decide +kernel
theorem d_Mo_inCap_134 : decode b_Mo_inCap 134 = .ok (.lload 13, 2) := by decide +kernel
theorem d_Mo_inCap_136 : decode b_Mo_inCap 136 = .ok (.ladd, 1) := by decide +kernel
theorem d_Mo_inCap_137 : decode b_Mo_inCap 137 = .ok (.invokevirtual 228, 3) := by decide +kernel
theorem d_Mo_inCap_140 : decode b_Mo_inCap 140 = .ok (.aload_n 0, 1) := by decide +kernel
theorem d_Mo_inCap_141 : decode b_Mo_inCap 141 = .ok (.iconst 3, 1) := by decide +kernel
theorem d_Mo_inCap_142 : decode b_Mo_inCap 142 = .ok (.lload_n 2, 1) := by decide +kernel
theorem d_Mo_inCap_143 : decode b_Mo_inCap 143 = .ok (.aload_n 0, 1) := by decide +kernel
theorem d_Mo_inCap_144 : decode b_Mo_inCap 144 = .ok (.getfield 57, 3) := by decide +kernel
theorem d_Mo_inCap_147 : decode b_Mo_inCap 147 = .ok (.iload_n 1, 1) := by decide +kernel
theorem d_Mo_inCap_148 : decode b_Mo_inCap 148 = .ok (.iaload, 1) := by decide +kernel
theorem d_Mo_inCap_149 : decode b_Mo_inCap 149 = .ok (.i2l, 1) := by decide +kernel
theorem d_Mo_inCap_150 : decode b_Mo_inCap 150 = .ok (.lsub, 1) := by decide +kernel
theorem d_Mo_inCap_151 : decode b_Mo_inCap 151 = .ok (.lload 4, 2) := by decide +kernel
theorem d_Mo_inCap_153 : decode b_Mo_inCap 153 = .ok (.aload_n 0, 1) := by decide +kernel
theorem d_Mo_inCap_154 : decode b_Mo_inCap 154 = .ok (.getfield 60, 3) := by decide +kernel
theorem d_Mo_inCap_157 : decode b_Mo_inCap 157 = .ok (.iload_n 1, 1) := by decide +kernel
theorem d_Mo_inCap_158 : decode b_Mo_inCap 158 = .ok (.iaload, 1) := by decide +kernel
theorem d_Mo_inCap_159 : decode b_Mo_inCap 159 = .ok (.i2l, 1) := by decide +kernel
theorem d_Mo_inCap_160 : decode b_Mo_inCap 160 = .ok (.lsub, 1) := by decide +kernel
theorem d_Mo_inCap_161 : decode b_Mo_inCap 161 = .ok (.invokevirtual 228, 3) := by decide +kernel
theorem d_Mo_inCap_164 : decode b_Mo_inCap 164 = .ok (.aload_n 0, 1) := by decide +kernel
theorem d_Mo_inCap_165 : decode b_Mo_inCap 165 = .ok (.iconst 4, 1) := by decide +kernel
theorem d_Mo_inCap_166 : decode b_Mo_inCap 166 = .ok (.lload 7, 2) := by decide +kernel
theorem d_Mo_inCap_168 : decode b_Mo_inCap 168 = .ok (.lload 9, 2) := by decide +kernel
theorem d_Mo_inCap_170 : decode b_Mo_inCap 170 = .ok (.invokevirtual 232, 3) := by decide +kernel
theorem d_Mo_inCap_173 : decode b_Mo_inCap 173 = .ok (.ireturn, 1) := by decide +kernel
theorem d_Mo_inJoin_0 : decode b_Mo_inJoin 0 = .ok (.aload_n 0, 1) := by decide +kernel
theorem d_Mo_inJoin_1 : decode b_Mo_inJoin 1 = .ok (.getfield 51, 3) := by decide +kernel
theorem d_Mo_inJoin_4 : decode b_Mo_inJoin 4 = .ok (.iload_n 1, 1) := by decide +kernel
theorem d_Mo_inJoin_5 : decode b_Mo_inJoin 5 = .ok (.iaload, 1) := by decide +kernel
theorem d_Mo_inJoin_6 : decode b_Mo_inJoin 6 = .ok (.i2l, 1) := by decide +kernel
theorem d_Mo_inJoin_7 : decode b_Mo_inJoin 7 = .ok (.lstore 7, 2) := by decide +kernel
theorem d_Mo_inJoin_9 : decode b_Mo_inJoin 9 = .ok (.aload_n 0, 1) := by decide +kernel
theorem d_Mo_inJoin_10 : decode b_Mo_inJoin 10 = .ok (.getfield 54, 3) := by decide +kernel
theorem d_Mo_inJoin_13 : decode b_Mo_inJoin 13 = .ok (.iload_n 1, 1) := by decide +kernel
theorem d_Mo_inJoin_14 : decode b_Mo_inJoin 14 = .ok (.iaload, 1) := by decide +kernel
theorem d_Mo_inJoin_15 : decode b_Mo_inJoin 15 = .ok (.i2l, 1) := by decide +kernel
theorem d_Mo_inJoin_16 : decode b_Mo_inJoin 16 = .ok (.lstore 9, 2) := by decide +kernel
theorem d_Mo_inJoin_18 : decode b_Mo_inJoin 18 = .ok (.aload_n 0, 1) := by decide +kernel
theorem d_Mo_inJoin_19 : decode b_Mo_inJoin 19 = .ok (.getfield 122, 3) := by decide +kernel
theorem d_Mo_inJoin_22 : decode b_Mo_inJoin 22 = .ok (.iconst 1, 1) := by decide +kernel
theorem d_Mo_inJoin_23 : decode b_Mo_inJoin 23 = .ok (.if_icmp .ne 15, 3) := by decide +kernel
theorem d_Mo_inJoin_26 : decode b_Mo_inJoin 26 = .ok (.aload_n 0, 1) := by decide +kernel
theorem d_Mo_inJoin_27 : decode b_Mo_inJoin 27 = .ok (.lload 7, 2) := by decide +kernel
theorem d_Mo_inJoin_29 : decode b_Mo_inJoin 29 = .ok (.lload 9, 2) := by decide +kernel
theorem d_Mo_inJoin_31 : decode b_Mo_inJoin 31 = .ok (.lload_n 3, 1) := by decide +kernel
theorem d_Mo_inJoin_32 : decode b_Mo_inJoin 32 = .ok (.lload 5, 2) := by decide +kernel
theorem d_Mo_inJoin_34 : decode b_Mo_inJoin 34 = .ok (.invokevirtual 236, 3) := by decide +kernel
theorem d_Mo_inJoin_37 : decode b_Mo_inJoin 37 = .ok (.ireturn, 1) := by decide +kernel
theorem d_Mo_inJoin_38 : decode b_Mo_inJoin 38 = .ok (.aload_n 0, 1) := by decide +kernel
theorem d_Mo_inJoin_39 : decode b_Mo_inJoin 39 = .ok (.getfield 57, 3) := by decide +kernel
theorem d_Mo_inJoin_42 : decode b_Mo_inJoin 42 = .ok (.iload_n 1, 1) := by decide +kernel
theorem d_Mo_inJoin_43 : decode b_Mo_inJoin 43 = .ok (.iaload, 1) := by decide +kernel
theorem d_Mo_inJoin_44 : decode b_Mo_inJoin 44 = .ok (.i2l, 1) := by decide +kernel
theorem d_Mo_inJoin_45 : decode b_Mo_inJoin 45 = .ok (.aload_n 0, 1) := by decide +kernel
theorem d_Mo_inJoin_46 : decode b_Mo_inJoin 46 = .ok (.getfield 60, 3) := by decide +kernel
theorem d_Mo_inJoin_49 : decode b_Mo_inJoin 49 = .ok (.iload_n 1, 1) := by decide +kernel
theorem d_Mo_inJoin_50 : decode b_Mo_inJoin 50 = .ok (.iaload, 1) := by decide +kernel
theorem d_Mo_inJoin_51 : decode b_Mo_inJoin 51 = .ok (.i2l, 1) := by decide +kernel
theorem d_Mo_inJoin_52 : decode b_Mo_inJoin 52 = .ok (.aload_n 0, 1) := by decide +kernel
theorem d_Mo_inJoin_53 : decode b_Mo_inJoin 53 = .ok (.getfield 57, 3) := by decide +kernel
theorem d_Mo_inJoin_56 : decode b_Mo_inJoin 56 = .ok (.iload_n 2, 1) := by decide +kernel
theorem d_Mo_inJoin_57 : decode b_Mo_inJoin 57 = .ok (.iaload, 1) := by decide +kernel
theorem d_Mo_inJoin_58 : decode b_Mo_inJoin 58 = .ok (.i2l, 1) := by decide +kernel
theorem d_Mo_inJoin_59 : decode b_Mo_inJoin 59 = .ok (.aload_n 0, 1) := by decide +kernel
theorem d_Mo_inJoin_60 : decode b_Mo_inJoin 60 = .ok (.getfield 60, 3) := by decide +kernel
theorem d_Mo_inJoin_63 : decode b_Mo_inJoin 63 = .ok (.iload_n 2, 1) := by decide +kernel
theorem d_Mo_inJoin_64 : decode b_Mo_inJoin 64 = .ok (.iaload, 1) := by decide +kernel
theorem d_Mo_inJoin_65 : decode b_Mo_inJoin 65 = .ok (.i2l, 1) := by decide +kernel
theorem d_Mo_inJoin_66 : decode b_Mo_inJoin 66 = .ok (.invokestatic 224, 3) := by decide +kernel
theorem d_Mo_inJoin_69 : decode b_Mo_inJoin 69 = .ok (.lstore 11, 2) := by decide +kernel
theorem d_Mo_inJoin_71 : decode b_Mo_inJoin 71 = .ok (.lload 11, 2) := by decide +kernel
theorem d_Mo_inJoin_73 : decode b_Mo_inJoin 73 = .ok (.lconst 0, 1) := by decide +kernel
theorem d_Mo_inJoin_74 : decode b_Mo_inJoin 74 = .ok (.lcmp, 1) := by decide +kernel
theorem d_Mo_inJoin_75 : decode b_Mo_inJoin 75 = .ok (.ifCond .ne 5, 3) := by decide +kernel
theorem d_Mo_inJoin_78 : decode b_Mo_inJoin 78 = .ok (.iconst 0, 1) := by decide +kernel
theorem d_Mo_inJoin_79 : decode b_Mo_inJoin 79 = .ok (.ireturn, 1) := by decide +kernel
theorem d_Mo_inJoin_80 : decode b_Mo_inJoin 80 = .ok (.lload 11, 2) := by decide +kernel
theorem d_Mo_inJoin_82 : decode b_Mo_inJoin 82 = .ok (.lconst 0, 1) := by decide +kernel
theorem d_Mo_inJoin_83 : decode b_Mo_inJoin 83 = .ok (.lcmp, 1) := by decide +kernel
theorem d_Mo_inJoin_84 : decode b_Mo_inJoin 84 = .ok (.ifCond .le 7, 3) := by decide +kernel
theorem d_Mo_inJoin_87 : decode b_Mo_inJoin 87 = .ok (.lconst 1, 1) := by decide +kernel
theorem d_Mo_inJoin_88 : decode b_Mo_inJoin 88 = .ok (.goto 6, 3) := by decide +kernel
theorem d_Mo_inJoin_91 : decode b_Mo_inJoin 91 = .ok (.ldc2_w 240, 3) := by decide +kernel
theorem d_Mo_inJoin_94 : decode b_Mo_inJoin 94 = .ok (.lstore 13, 2) := by decide +kernel
theorem d_Mo_inJoin_96 : decode b_Mo_inJoin 96 = .ok (.lload 13, 2) := by decide +kernel
theorem d_Mo_inJoin_98 : decode b_Mo_inJoin 98 = .ok (.aload_n 0, 1) := by decide +kernel
theorem d_Mo_inJoin_99 : decode b_Mo_inJoin 99 = .ok (.getfield 57, 3) := by decide +kernel
theorem d_Mo_inJoin_102 : decode b_Mo_inJoin 102 = .ok (.iload_n 1, 1) := by decide +kernel
theorem d_Mo_inJoin_103 : decode b_Mo_inJoin 103 = .ok (.iaload, 1) := by decide +kernel
theorem d_Mo_inJoin_104 : decode b_Mo_inJoin 104 = .ok (.i2l, 1) := by decide +kernel
theorem d_Mo_inJoin_105 : decode b_Mo_inJoin 105 = .ok (.lmul, 1) := by decide +kernel
theorem d_Mo_inJoin_106 : decode b_Mo_inJoin 106 = .ok (.lstore 15, 2) := by decide +kernel
theorem d_Mo_inJoin_108 : decode b_Mo_inJoin 108 = .ok (.lload 13, 2) := by decide +kernel
theorem d_Mo_inJoin_110 : decode b_Mo_inJoin 110 = .ok (.aload_n 0, 1) := by decide +kernel
theorem d_Mo_inJoin_111 : decode b_Mo_inJoin 111 = .ok (.getfield 60, 3) := by decide +kernel
theorem d_Mo_inJoin_114 : decode b_Mo_inJoin 114 = .ok (.iload_n 1, 1) := by decide +kernel
theorem d_Mo_inJoin_115 : decode b_Mo_inJoin 115 = .ok (.iaload, 1) := by decide +kernel
theorem d_Mo_inJoin_116 : decode b_Mo_inJoin 116 = .ok (.i2l, 1) := by decide +kernel
theorem d_Mo_inJoin_117 : decode b_Mo_inJoin 117 = .ok (.lmul, 1) := by decide +kernel
theorem d_Mo_inJoin_118 : decode b_Mo_inJoin 118 = .ok (.lstore 17, 2) := by decide +kernel
theorem d_Mo_inJoin_120 : decode b_Mo_inJoin 120 = .ok (.lload 13, 2) := by decide +kernel
theorem d_Mo_inJoin_122 : decode b_Mo_inJoin 122 = .ok (.aload_n 0, 1) := by decide +kernel
theorem d_Mo_inJoin_123 : decode b_Mo_inJoin 123 = .ok (.getfield 57, 3) := by decide +kernel
theorem d_Mo_inJoin_126 : decode b_Mo_inJoin 126 = .ok (.iload_n 2, 1) := by decide +kernel
theorem d_Mo_inJoin_127 : decode b_Mo_inJoin 127 = .ok (.iaload, 1) := by decide +kernel
theorem d_Mo_inJoin_128 : decode b_Mo_inJoin 128 = .ok (.i2l, 1) := by decide +kernel
theorem d_Mo_inJoin_129 : decode b_Mo_inJoin 129 = .ok (.lmul, 1) := by decide +kernel
theorem d_Mo_inJoin_130 : decode b_Mo_inJoin 130 = .ok (.lstore 19, 2) := by decide +kernel
theorem d_Mo_inJoin_132 : decode b_Mo_inJoin 132 = .ok (.lload 13, 2) := by decide +kernel
theorem d_Mo_inJoin_134 : decode b_Mo_inJoin 134 = .ok (.aload_n 0, 1) := by decide +kernel
theorem d_Mo_inJoin_135 : decode b_Mo_inJoin 135 = .ok (.getfield 60, 3) := by decide +kernel
theorem d_Mo_inJoin_138 : decode b_Mo_inJoin 138 = .ok (.iload_n 2, 1) := by decide +kernel
theorem d_Mo_inJoin_139 : decode b_Mo_inJoin 139 = .ok (.iaload, 1) := by decide +kernel
theorem d_Mo_inJoin_140 : decode b_Mo_inJoin 140 = .ok (.i2l, 1) := by decide +kernel
theorem d_Mo_inJoin_141 : decode b_Mo_inJoin 141 = .ok (.lmul, 1) := by decide +kernel
theorem d_Mo_inJoin_142 : decode b_Mo_inJoin 142 = .ok (.lstore 21, 2) := by decide +kernel
theorem d_Mo_inJoin_144 : decode b_Mo_inJoin 144 = .ok (.aload_n 0, 1) := by decide +kernel
theorem d_Mo_inJoin_145 : decode b_Mo_inJoin 145 = .ok (.iconst 0, 1) := by decide +kernel
theorem d_Mo_inJoin_146 : decode b_Mo_inJoin 146 = .ok (.lload 7, 2) := by decide +kernel
theorem d_Mo_inJoin_148 : decode b_Mo_inJoin 148 = .ok (.lload 9, 2) := by decide +kernel
theorem d_Mo_inJoin_150 : decode b_Mo_inJoin 150 = .ok (.invokevirtual 228, 3) := by decide +kernel
theorem d_Mo_inJoin_153 : decode b_Mo_inJoin 153 = .ok (.aload_n 0, 1) := by decide +kernel
theorem d_Mo_inJoin_154 : decode b_Mo_inJoin 154 = .ok (.iconst 1, 1) := by decide +kernel
theorem d_Mo_inJoin_155 : decode b_Mo_inJoin 155 = .ok (.lload 7, 2) := by decide +kernel
theorem d_Mo_inJoin_157 : decode b_Mo_inJoin 157 = .ok (.lload 15, 2) := by decide +kernel
theorem d_Mo_inJoin_159 : decode b_Mo_inJoin 159 = .ok (.ladd, 1) := by decide +kernel
theorem d_Mo_inJoin_160 : decode b_Mo_inJoin 160 = .ok (.lload 9, 2) := by decide +kernel
theorem d_Mo_inJoin_162 : decode b_Mo_inJoin 162 = .ok (.lload 17, 2) := by decide +kernel
theorem d_Mo_inJoin_164 : decode b_Mo_inJoin 164 = .ok (.ladd, 1) := by decide +kernel
theorem d_Mo_inJoin_165 : decode b_Mo_inJoin 165 = .ok (.invokevirtual 228, 3) := by decide +kernel
theorem d_Mo_inJoin_168 : decode b_Mo_inJoin 168 = .ok (.aload_n 0, 1) := by decide +kernel
theorem d_Mo_inJoin_169 : decode b_Mo_inJoin 169 = .ok (.iconst 2, 1) := by decide +kernel
theorem d_Mo_inJoin_170 : decode b_Mo_inJoin 170 = .ok (.lload 7, 2) := by decide +kernel
theorem d_Mo_inJoin_172 : decode b_Mo_inJoin 172 = .ok (.lload 19, 2) := by decide +kernel
theorem d_Mo_inJoin_174 : decode b_Mo_inJoin 174 = .ok (.ladd, 1) := by decide +kernel
theorem d_Mo_inJoin_175 : decode b_Mo_inJoin 175 = .ok (.lload 9, 2) := by decide +kernel
theorem d_Mo_inJoin_177 : decode b_Mo_inJoin 177 = .ok (.lload 21, 2) := by decide +kernel
theorem d_Mo_inJoin_179 : decode b_Mo_inJoin 179 = .ok (.ladd, 1) := by decide +kernel
theorem d_Mo_inJoin_180 : decode b_Mo_inJoin 180 = .ok (.invokevirtual 228, 3) := by decide +kernel
theorem d_Mo_inJoin_183 : decode b_Mo_inJoin 183 = .ok (.aload_n 0, 1) := by decide +kernel
theorem d_Mo_inJoin_184 : decode b_Mo_inJoin 184 = .ok (.iconst 3, 1) := by decide +kernel
theorem d_Mo_inJoin_185 : decode b_Mo_inJoin 185 = .ok (.lload_n 3, 1) := by decide +kernel
theorem d_Mo_inJoin_186 : decode b_Mo_inJoin 186 = .ok (.lload 5, 2) := by decide +kernel
theorem d_Mo_inJoin_188 : decode b_Mo_inJoin 188 = .ok (.invokevirtual 232, 3) := by decide +kernel
theorem d_Mo_inJoin_191 : decode b_Mo_inJoin 191 = .ok (.ifCond .eq 5, 3) := by decide +kernel
theorem d_Mo_inJoin_194 : decode b_Mo_inJoin 194 = .ok (.iconst 1, 1) := by decide +kernel
theorem d_Mo_inJoin_195 : decode b_Mo_inJoin 195 = .ok (.ireturn, 1) := by decide +kernel
theorem d_Mo_inJoin_196 : decode b_Mo_inJoin 196 = .ok (.aload_n 0, 1) := by decide +kernel
theorem d_Mo_inJoin_197 : decode b_Mo_inJoin 197 = .ok (.invokevirtual 138, 3) := by decide +kernel
theorem d_Mo_inJoin_200 : decode b_Mo_inJoin 200 = .ok (.aload_n 0, 1) := by decide +kernel
theorem d_Mo_inJoin_201 : decode b_Mo_inJoin 201 = .ok (.invokevirtual 138, 3) := by decide +kernel
theorem d_Mo_inJoin_204 : decode b_Mo_inJoin 204 = .ok (.lmul, 1) := by decide +kernel
theorem d_Mo_inJoin_205 : decode b_Mo_inJoin 205 = .ok (.lstore 23, 2) := by decide +kernel
theorem d_Mo_inJoin_207 : decode b_Mo_inJoin 207 = .ok (.aload_n 0, 1) := by decide +kernel
theorem d_Mo_inJoin_208 : decode b_Mo_inJoin 208 = .ok (.getfield 122, 3) := by decide +kernel
theorem d_Mo_inJoin_211 : decode b_Mo_inJoin 211 = .ok (.ifCond .ne 63, 3) := by decide +kernel
theorem d_Mo_inJoin_214 : decode b_Mo_inJoin 214 = .ok (.ldc2_w 242, 3) := by decide +kernel
theorem d_Mo_inJoin_217 : decode b_Mo_inJoin 217 = .ok (.lload 23, 2) := by decide +kernel
theorem d_Mo_inJoin_219 : decode b_Mo_inJoin 219 = .ok (.lmul, 1) := by decide +kernel
theorem d_Mo_inJoin_220 : decode b_Mo_inJoin 220 = .ok (.aload_n 0, 1) := by decide +kernel
theorem d_Mo_inJoin_221 : decode b_Mo_inJoin 221 = .ok (.getfield 33, 3) := by decide +kernel
theorem d_Mo_inJoin_224 : decode b_Mo_inJoin 224 = .ok (.i2l, 1) := by decide +kernel
theorem d_Mo_inJoin_225 : decode b_Mo_inJoin 225 = .ok (.aload_n 0, 1) := by decide +kernel
theorem d_Mo_inJoin_226 : decode b_Mo_inJoin 226 = .ok (.getfield 33, 3) := by decide +kernel
theorem d_Mo_inJoin_229 : decode b_Mo_inJoin 229 = .ok (.i2l, 1) := by decide +kernel
theorem d_Mo_inJoin_230 : decode b_Mo_inJoin 230 = .ok (.lmul, 1) := by decide +kernel
theorem d_Mo_inJoin_231 : decode b_Mo_inJoin 231 = .ok (.lload 23, 2) := by decide +kernel
theorem d_Mo_inJoin_233 : decode b_Mo_inJoin 233 = .ok (.aload_n 0, 1) := by decide +kernel
theorem d_Mo_inJoin_234 : decode b_Mo_inJoin 234 = .ok (.getfield 57, 3) := by decide +kernel
theorem d_Mo_inJoin_237 : decode b_Mo_inJoin 237 = .ok (.iload_n 1, 1) := by decide +kernel
theorem d_Mo_inJoin_238 : decode b_Mo_inJoin 238 = .ok (.iaload, 1) := by decide +kernel
theorem d_Mo_inJoin_239 : decode b_Mo_inJoin 239 = .ok (.i2l, 1) := by decide +kernel
theorem d_Mo_inJoin_240 : decode b_Mo_inJoin 240 = .ok (.aload_n 0, 1) := by decide +kernel
theorem d_Mo_inJoin_241 : decode b_Mo_inJoin 241 = .ok (.getfield 57, 3) := by decide +kernel
theorem d_Mo_inJoin_244 : decode b_Mo_inJoin 244 = .ok (.iload_n 2, 1) := by decide +kernel
theorem d_Mo_inJoin_245 : decode b_Mo_inJoin 245 = .ok (.iaload, 1) := by decide +kernel
theorem d_Mo_inJoin_246 : decode b_Mo_inJoin 246 = .ok (.i2l, 1) := by decide +kernel
theorem d_Mo_inJoin_247 : decode b_Mo_inJoin 247 = .ok (.lmul, 1) := by decide +kernel
theorem d_Mo_inJoin_248 : decode b_Mo_inJoin 248 = .ok (.ladd, 1) := by decide +kernel
theorem d_Mo_inJoin_249 : decode b_Mo_inJoin 249 = .ok (.aload_n 0, 1) := by decide +kernel
theorem d_Mo_inJoin_250 : decode b_Mo_inJoin 250 = .ok (.getfield 60, 3) := by decide +kernel
theorem d_Mo_inJoin_253 : decode b_Mo_inJoin 253 = .ok (.iload_n 1, 1) := by decide +kernel
theorem d_Mo_inJoin_254 : decode b_Mo_inJoin 254 = .ok (.iaload, 1) := by decide +kernel
theorem d_Mo_inJoin_255 : decode b_Mo_inJoin 255 = .ok (.i2l, 1) := by decide +kernel
theorem d_Mo_inJoin_256 : decode b_Mo_inJoin 256 = .ok (.aload_n 0, 1) := by decide +kernel
theorem d_Mo_inJoin_257 : decode b_Mo_inJoin 257 = .ok (.getfield 60, 3) := by decide +kernel
theorem d_Mo_inJoin_260 : decode b_Mo_inJoin 260 = .ok (.iload_n 2, 1) := by decide +kernel
theorem d_Mo_inJoin_261 : decode b_Mo_inJoin 261 = .ok (.iaload, 1) := by decide +kernel
theorem d_Mo_inJoin_262 : decode b_Mo_inJoin 262 = .ok (.i2l, 1) := by decide +kernel
theorem d_Mo_inJoin_263 : decode b_Mo_inJoin 263 = .ok (.lmul, 1) := by decide +kernel
theorem d_Mo_inJoin_264 : decode b_Mo_inJoin 264 = .ok (.ladd, 1) := by decide +kernel
theorem d_Mo_inJoin_265 : decode b_Mo_inJoin 265 = .ok (.lmul, 1) := by decide +kernel
theorem d_Mo_inJoin_266 : decode b_Mo_inJoin 266 = .ok (.lcmp, 1) := by decide +kernel
theorem d_Mo_inJoin_267 : decode b_Mo_inJoin 267 = .ok (.ifCond .gt 7, 3) := by decide +kernel
theorem d_Mo_inJoin_270 : decode b_Mo_inJoin 270 = .ok (.iconst 1, 1) := by decide +kernel
theorem d_Mo_inJoin_271 : decode b_Mo_inJoin 271 = .ok (.goto 4, 3) := by decide +kernel
theorem d_Mo_inJoin_274 : decode b_Mo_inJoin 274 = .ok (.iconst 0, 1) := by decide +kernel
theorem d_Mo_inJoin_275 : decode b_Mo_inJoin 275 = .ok (.istore 25, 2) := by decide +kernel
theorem d_Mo_inJoin_277 : decode b_Mo_inJoin 277 = .ok (.iload 25, 2) := by decide +kernel
theorem d_Mo_inJoin_279 : decode b_Mo_inJoin 279 = .ok (.ifCond .ne 5, 3) := by decide +kernel
theorem d_Mo_inJoin_282 : decode b_Mo_inJoin 282 = .ok (.iconst 0, 1) := by decide +kernel
theorem d_Mo_inJoin_283 : decode b_Mo_inJoin 283 = .ok (.ireturn, 1) := by decide +kernel
theorem d_Mo_inJoin_284 : decode b_Mo_inJoin 284 = .ok (.lload 23, 2) := by decide +kernel
theorem d_Mo_inJoin_286 : decode b_Mo_inJoin 286 = .ok (.lload 15, 2) := by decide +kernel
theorem d_Mo_inJoin_288 : decode b_Mo_inJoin 288 = .ok (.lload 19, 2) := by decide +kernel
theorem d_Mo_inJoin_290 : decode b_Mo_inJoin 290 = .ok (.lmul, 1) := by decide +kernel
theorem d_Mo_inJoin_291 : decode b_Mo_inJoin 291 = .ok (.ladd, 1) := by decide +kernel
theorem d_Mo_inJoin_292 : decode b_Mo_inJoin 292 = .ok (.lload 17, 2) := by decide +kernel
theorem d_Mo_inJoin_294 : decode b_Mo_inJoin 294 = .ok (.lload 21, 2) := by decide +kernel
theorem d_Mo_inJoin_296 : decode b_Mo_inJoin 296 = .ok (.lmul, 1) := by decide +kernel
theorem d_Mo_inJoin_297 : decode b_Mo_inJoin 297 = .ok (.ladd, 1) := by decide +kernel
theorem d_Mo_inJoin_298 : decode b_Mo_inJoin 298 = .ok (.lstore 26, 2) := by decide +kernel
theorem d_Mo_inJoin_300 : decode b_Mo_inJoin 300 = .ok (.aload_n 0, 1) := by decide +kernel
theorem d_Mo_inJoin_301 : decode b_Mo_inJoin 301 = .ok (.iconst 3, 1) := by decide +kernel
theorem d_Mo_inJoin_302 : decode b_Mo_inJoin 302 = .ok (.lload 7, 2) := by decide +kernel
theorem d_Mo_inJoin_304 : decode b_Mo_inJoin 304 = .ok (.lload 19, 2) := by decide +kernel
theorem d_Mo_inJoin_306 : decode b_Mo_inJoin 306 = .ok (.ladd, 1) := by decide +kernel
theorem d_Mo_inJoin_307 : decode b_Mo_inJoin 307 = .ok (.lload 9, 2) := by decide +kernel
theorem d_Mo_inJoin_309 : decode b_Mo_inJoin 309 = .ok (.lload 21, 2) := by decide +kernel
theorem d_Mo_inJoin_311 : decode b_Mo_inJoin 311 = .ok (.ladd, 1) := by decide +kernel
theorem d_Mo_inJoin_312 : decode b_Mo_inJoin 312 = .ok (.invokevirtual 228, 3) := by decide +kernel
theorem d_Mo_inJoin_315 : decode b_Mo_inJoin 315 = .ok (.aload_n 0, 1) := by decide +kernel
theorem d_Mo_inJoin_316 : decode b_Mo_inJoin 316 = .ok (.iconst 2, 1) := by decide +kernel
theorem d_Mo_inJoin_317 : decode b_Mo_inJoin 317 = .ok (.lload 7, 2) := by decide +kernel
theorem d_Mo_inJoin_319 : decode b_Mo_inJoin 319 = .ok (.lload 15, 2) := by decide +kernel
theorem d_Mo_inJoin_321 : decode b_Mo_inJoin 321 = .ok (.lload 19, 2) := by decide +kernel
theorem d_Mo_inJoin_323 : decode b_Mo_inJoin 323 = .ok (.ladd, 1) := by decide +kernel
theorem d_Mo_inJoin_324 : decode b_Mo_inJoin 324 = .ok (.lload 23, 2) := by decide +kernel
theorem d_Mo_inJoin_326 : decode b_Mo_inJoin 326 = .ok (.lmul, 1) := by decide +kernel
theorem d_Mo_inJoin_327 : decode b_Mo_inJoin 327 = .ok (.lload 26, 2) := by decide +kernel
theorem d_Mo_inJoin_329 : decode b_Mo_inJoin 329 = .ok (.invokestatic 188, 3) := by decide +kernel
theorem d_Mo_inJoin_332 : decode b_Mo_inJoin 332 = .ok (.ladd, 1) := by decide +kernel
theorem d_Mo_inJoin_333 : decode b_Mo_inJoin 333 = .ok (.lload 9, 2) := by decide +kernel
theorem d_Mo_inJoin_335 : decode b_Mo_inJoin 335 = .ok (.lload 17, 2) := by decide +kernel
theorem d_Mo_inJoin_337 : decode b_Mo_inJoin 337 = .ok (.lload 21, 2) := by decide +kernel
theorem d_Mo_inJoin_339 : decode b_Mo_inJoin 339 = .ok (.ladd, 1) := by decide +kernel
theorem d_Mo_inJoin_340 : decode b_Mo_inJoin 340 = .ok (.lload 23, 2) := by decide +kernel
theorem d_Mo_inJoin_342 : decode b_Mo_inJoin 342 = .ok (.lmul, 1) := by decide +kernel
theorem d_Mo_inJoin_343 : decode b_Mo_inJoin 343 = .ok (.lload 26, 2) := by decide +kernel
theorem d_Mo_inJoin_345 : decode b_Mo_inJoin 345 = .ok (.invokestatic 188, 3) := by decide +kernel
theorem d_Mo_inJoin_348 : decode b_Mo_inJoin 348 = .ok (.ladd, 1) := by decide +kernel
theorem d_Mo_inJoin_349 : decode b_Mo_inJoin 349 = .ok (.invokevirtual 228, 3) := by decide +kernel
theorem d_Mo_inJoin_352 : decode b_Mo_inJoin 352 = .ok (.aload_n 0, 1) := by decide +kernel
theorem d_Mo_inJoin_353 : decode b_Mo_inJoin 353 = .ok (.iconst 4, 1) := by decide +kernel
theorem d_Mo_inJoin_354 : decode b_Mo_inJoin 354 = .ok (.lload_n 3, 1) := by decide +kernel
theorem d_Mo_inJoin_355 : decode b_Mo_inJoin 355 = .ok (.lload 5, 2) := by decide +kernel
theorem d_Mo_inJoin_357 : decode b_Mo_inJoin 357 = .ok (.invokevirtual 232, 3) := by decide +kernel
theorem d_Mo_inJoin_360 : decode b_Mo_inJoin 360 = .ok (.ireturn, 1) := by decide +kernel
theorem d_Mo_inPiece_0 : decode b_Mo_inPiece 0 = .ok (.aload_n 0, 1) := by decide +kernel
theorem d_Mo_inPiece_1 : decode b_Mo_inPiece 1 = .ok (.getfield 72, 3) := by decide +kernel
theorem d_Mo_inPiece_4 : decode b_Mo_inPiece 4 = .ok (.iload_n 1, 1) := by decide +kernel
theorem d_Mo_inPiece_5 : decode b_Mo_inPiece 5 = .ok (.baload, 1) := by decide +kernel
theorem d_Mo_inPiece_6 : decode b_Mo_inPiece 6 = .ok (.ifCond .eq 41, 3) := by decide +kernel
theorem d_Mo_inPiece_9 : decode b_Mo_inPiece 9 = .ok (.aload_n 0, 1) := by decide +kernel
theorem d_Mo_inPiece_10 : decode b_Mo_inPiece 10 = .ok (.getfield 119, 3) := by decide +kernel
theorem d_Mo_inPiece_13 : decode b_Mo_inPiece 13 = .ok (.iconst 1, 1) := by decide +kernel
theorem d_Mo_inPiece_14 : decode b_Mo_inPiece 14 = .ok (.if_icmp .ne 31, 3) := by decide +kernel
theorem d_Mo_inPiece_17 : decode b_Mo_inPiece 17 = .ok (.aload_n 0, 1) := by decide +kernel
theorem d_Mo_inPiece_18 : decode b_Mo_inPiece 18 = .ok (.aload_n 0, 1) := by decide +kernel
theorem d_Mo_inPiece_19 : decode b_Mo_inPiece 19 = .ok (.getfield 45, 3) := by decide +kernel
theorem d_Mo_inPiece_22 : decode b_Mo_inPiece 22 = .ok (.iload_n 1, 1) := by decide +kernel
theorem d_Mo_inPiece_23 : decode b_Mo_inPiece 23 = .ok (.iaload, 1) := by decide +kernel
theorem d_Mo_inPiece_24 : decode b_Mo_inPiece 24 = .ok (.i2l, 1) := by decide +kernel
theorem d_Mo_inPiece_25 : decode b_Mo_inPiece 25 = .ok (.aload_n 0, 1) := by decide +kernel
theorem d_Mo_inPiece_26 : decode b_Mo_inPiece 26 = .ok (.getfield 48, 3) := by decide +kernel
theorem d_Mo_inPiece_29 : decode b_Mo_inPiece 29 = .ok (.iload_n 1, 1) := by decide +kernel
theorem d_Mo_inPiece_30 : decode b_Mo_inPiece 30 = .ok (.iaload, 1) := by decide +kernel
theorem d_Mo_inPiece_31 : decode b_Mo_inPiece 31 = .ok (.i2l, 1) := by decide +kernel
theorem d_Mo_inPiece_32 : decode b_Mo_inPiece 32 = .ok (.lload_n 2, 1) := by decide +kernel
theorem d_Mo_inPiece_33 : decode b_Mo_inPiece 33 = .ok (.lload 4, 2) := by decide +kernel
theorem d_Mo_inPiece_35 : decode b_Mo_inPiece 35 = .ok (.invokevirtual 236, 3) := by decide +kernel
theorem d_Mo_inPiece_38 : decode b_Mo_inPiece 38 = .ok (.ifCond .eq 7, 3) := by decide +kernel
theorem d_Mo_inPiece_41 : decode b_Mo_inPiece 41 = .ok (.iconst 1, 1) := by decide +kernel
theorem d_Mo_inPiece_42 : decode b_Mo_inPiece 42 = .ok (.goto 4, 3) := by decide +kernel
theorem d_Mo_inPiece_45 : decode b_Mo_inPiece 45 = .ok (.iconst 0, 1) := by decide +kernel
theorem d_Mo_inPiece_46 : decode b_Mo_inPiece 46 = .ok (.ireturn, 1) := by decide +kernel
theorem d_Mo_inPiece_47 : decode b_Mo_inPiece 47 = .ok (.aload_n 0, 1) := by decide +kernel
theorem d_Mo_inPiece_48 : decode b_Mo_inPiece 48 = .ok (.iload_n 1, 1) := by decide +kernel
theorem d_Mo_inPiece_49 : decode b_Mo_inPiece 49 = .ok (.lload_n 2, 1) := by decide +kernel
theorem d_Mo_inPiece_50 : decode b_Mo_inPiece 50 = .ok (.lload 4, 2) := by decide +kernel
theorem d_Mo_inPiece_52 : decode b_Mo_inPiece 52 = .ok (.invokevirtual 244, 3) := by decide +kernel
theorem d_Mo_inPiece_55 : decode b_Mo_inPiece 55 = .ok (.ifCond .ne 73, 3) := by decide +kernel
theorem d_Mo_inPiece_58 : decode b_Mo_inPiece 58 = .ok (.aload_n 0, 1) := by decide +kernel
theorem d_Mo_inPiece_59 : decode b_Mo_inPiece 59 = .ok (.getfield 63, 3) := by decide +kernel
theorem d_Mo_inPiece_62 : decode b_Mo_inPiece 62 = .ok (.iload_n 1, 1) := by decide +kernel
theorem d_Mo_inPiece_63 : decode b_Mo_inPiece 63 = .ok (.baload, 1) := by decide +kernel
theorem d_Mo_inPiece_64 : decode b_Mo_inPiece 64 = .ok (.ifCond .eq 29, 3) := by decide +kernel
theorem d_Mo_inPiece_67 : decode b_Mo_inPiece 67 = .ok (.aload_n 0, 1) := by decide +kernel
theorem d_Mo_inPiece_68 : decode b_Mo_inPiece 68 = .ok (.iload_n 1, 1) := by decide +kernel
theorem d_Mo_inPiece_69 : decode b_Mo_inPiece 69 = .ok (.aload_n 0, 1) := by decide +kernel
theorem d_Mo_inPiece_70 : decode b_Mo_inPiece 70 = .ok (.getfield 45, 3) := by decide +kernel
theorem d_Mo_inPiece_73 : decode b_Mo_inPiece 73 = .ok (.iload_n 1, 1) := by decide +kernel
theorem d_Mo_inPiece_74 : decode b_Mo_inPiece 74 = .ok (.iaload, 1) := by decide +kernel
theorem d_Mo_inPiece_75 : decode b_Mo_inPiece 75 = .ok (.i2l, 1) := by decide +kernel
theorem d_Mo_inPiece_76 : decode b_Mo_inPiece 76 = .ok (.aload_n 0, 1) := by decide +kernel
theorem d_Mo_inPiece_77 : decode b_Mo_inPiece 77 = .ok (.getfield 48, 3) := by decide +kernel
theorem d_Mo_inPiece_80 : decode b_Mo_inPiece 80 = .ok (.iload_n 1, 1) := by decide +kernel
theorem d_Mo_inPiece_81 : decode b_Mo_inPiece 81 = .ok (.iaload, 1) := by decide +kernel
theorem d_Mo_inPiece_82 : decode b_Mo_inPiece 82 = .ok (.i2l, 1) := by decide +kernel
theorem d_Mo_inPiece_83 : decode b_Mo_inPiece 83 = .ok (.iconst (-1), 1) := by decide +kernel
theorem d_Mo_inPiece_84 : decode b_Mo_inPiece 84 = .ok (.lload_n 2, 1) := by decide +kernel
theorem d_Mo_inPiece_85 : decode b_Mo_inPiece 85 = .ok (.lload 4, 2) := by decide +kernel
theorem d_Mo_inPiece_87 : decode b_Mo_inPiece 87 = .ok (.invokevirtual 247, 3) := by decide +kernel
theorem d_Mo_inPiece_90 : decode b_Mo_inPiece 90 = .ok (.ifCond .ne 38, 3) := by decide +kernel
theorem d_Mo_inPiece_93 : decode b_Mo_inPiece 93 = .ok (.aload_n 0, 1) := by decide +kernel
theorem d_Mo_inPiece_94 : decode b_Mo_inPiece 94 = .ok (.getfield 66, 3) := by decide +kernel
theorem d_Mo_inPiece_97 : decode b_Mo_inPiece 97 = .ok (.iload_n 1, 1) := by decide +kernel
theorem d_Mo_inPiece_98 : decode b_Mo_inPiece 98 = .ok (.baload, 1) := by decide +kernel
theorem d_Mo_inPiece_99 : decode b_Mo_inPiece 99 = .ok (.ifCond .eq 31, 3) := by decide +kernel
theorem d_Mo_inPiece_102 : decode b_Mo_inPiece 102 = .ok (.aload_n 0, 1) := by decide +kernel
theorem d_Mo_inPiece_103 : decode b_Mo_inPiece 103 = .ok (.iload_n 1, 1) := by decide +kernel
theorem d_Mo_inPiece_104 : decode b_Mo_inPiece 104 = .ok (.aload_n 0, 1) := by decide +kernel
theorem d_Mo_inPiece_105 : decode b_Mo_inPiece 105 = .ok (.getfield 51, 3) := by decide +kernel
theorem d_Mo_inPiece_108 : decode b_Mo_inPiece 108 = .ok (.iload_n 1, 1) := by decide +kernel
theorem d_Mo_inPiece_109 : decode b_Mo_inPiece 109 = .ok (.iaload, 1) := by decide +kernel
theorem d_Mo_inPiece_110 : decode b_Mo_inPiece 110 = .ok (.i2l, 1) := by decide +kernel
theorem d_Mo_inPiece_111 : decode b_Mo_inPiece 111 = .ok (.aload_n 0, 1) := by decide +kernel
theorem d_Mo_inPiece_112 : decode b_Mo_inPiece 112 = .ok (.getfield 54, 3) := by decide +kernel
theorem d_Mo_inPiece_115 : decode b_Mo_inPiece 115 = .ok (.iload_n 1, 1) := by decide +kernel
theorem d_Mo_inPiece_116 : decode b_Mo_inPiece 116 = .ok (.iaload, 1) := by decide +kernel
theorem d_Mo_inPiece_117 : decode b_Mo_inPiece 117 = .ok (.i2l, 1) := by decide +kernel
theorem d_Mo_inPiece_118 : decode b_Mo_inPiece 118 = .ok (.iconst 1, 1) := by decide +kernel
theorem d_Mo_inPiece_119 : decode b_Mo_inPiece 119 = .ok (.lload_n 2, 1) := by decide +kernel
theorem d_Mo_inPiece_120 : decode b_Mo_inPiece 120 = .ok (.lload 4, 2) := by decide +kernel
theorem d_Mo_inPiece_122 : decode b_Mo_inPiece 122 = .ok (.invokevirtual 247, 3) := by decide +kernel
theorem d_Mo_inPiece_125 : decode b_Mo_inPiece 125 = .ok (.ifCond .eq 5, 3) := by decide +kernel
theorem d_Mo_inPiece_128 : decode b_Mo_inPiece 128 = .ok (.iconst 1, 1) := by decide +kernel
theorem d_Mo_inPiece_129 : decode b_Mo_inPiece 129 = .ok (.ireturn, 1) := by decide +kernel
theorem d_Mo_inPiece_130 : decode b_Mo_inPiece 130 = .ok (.aload_n 0, 1) := by decide +kernel
theorem d_Mo_inPiece_131 : decode b_Mo_inPiece 131 = .ok (.getfield 69, 3) := by decide +kernel
theorem d_Mo_inPiece_134 : decode b_Mo_inPiece 134 = .ok (.iload_n 1, 1) := by decide +kernel
theorem d_Mo_inPiece_135 : decode b_Mo_inPiece 135 = .ok (.iaload, 1) := by decide +kernel
theorem d_Mo_inPiece_136 : decode b_Mo_inPiece 136 = .ok (.ifCond .lt 12, 3) := by decide +kernel
theorem d_Mo_inPiece_139 : decode b_Mo_inPiece 139 = .ok (.aload_n 0, 1) := by decide +kernel
theorem d_Mo_inPiece_140 : decode b_Mo_inPiece 140 = .ok (.getfield 69, 3) := by decide +kernel
theorem d_Mo_inPiece_143 : decode b_Mo_inPiece 143 = .ok (.iload_n 1, 1) := by decide +kernel
theorem d_Mo_inPiece_144 : decode b_Mo_inPiece 144 = .ok (.iaload, 1) := by decide +kernel
theorem d_Mo_inPiece_145 : decode b_Mo_inPiece 145 = .ok (.goto 19, 3) := by decide +kernel
theorem d_Mo_inPiece_148 : decode b_Mo_inPiece 148 = .ok (.aload_n 0, 1) := by decide +kernel
theorem d_Mo_inPiece_149 : decode b_Mo_inPiece 149 = .ok (.getfield 66, 3) := by decide +kernel
theorem d_Mo_inPiece_152 : decode b_Mo_inPiece 152 = .ok (.iload_n 1, 1) := by decide +kernel
theorem d_Mo_inPiece_153 : decode b_Mo_inPiece 153 = .ok (.baload, 1) := by decide +kernel
theorem d_Mo_inPiece_154 : decode b_Mo_inPiece 154 = .ok (.ifCond .eq 7, 3) := by decide +kernel
theorem d_Mo_inPiece_157 : decode b_Mo_inPiece 157 = .ok (.iconst (-1), 1) := by decide +kernel
theorem d_Mo_inPiece_158 : decode b_Mo_inPiece 158 = .ok (.goto 6, 3) := by decide +kernel
theorem d_Mo_inPiece_161 : decode b_Mo_inPiece 161 = .ok (.iload_n 1, 1) := by decide +kernel
theorem d_Mo_inPiece_162 : decode b_Mo_inPiece 162 = .ok (.iconst 1, 1) := by decide +kernel
theorem d_Mo_inPiece_163 : decode b_Mo_inPiece 163 = .ok (.iadd, 1) := by decide +kernel
theorem d_Mo_inPiece_164 : decode b_Mo_inPiece 164 = .ok (.istore 6, 2) := by decide +kernel
theorem d_Mo_inPiece_166 : decode b_Mo_inPiece 166 = .ok (.iload 6, 2) := by decide +kernel
theorem d_Mo_inPiece_168 : decode b_Mo_inPiece 168 = .ok (.ifCond .lt 20, 3) := by decide +kernel
theorem d_Mo_inPiece_171 : decode b_Mo_inPiece 171 = .ok (.aload_n 0, 1) := by decide +kernel
theorem d_Mo_inPiece_172 : decode b_Mo_inPiece 172 = .ok (.iload_n 1, 1) := by decide +kernel
theorem d_Mo_inPiece_173 : decode b_Mo_inPiece 173 = .ok (.iload 6, 2) := by decide +kernel
theorem d_Mo_inPiece_175 : decode b_Mo_inPiece 175 = .ok (.lload_n 2, 1) := by decide +kernel
theorem d_Mo_inPiece_176 : decode b_Mo_inPiece 176 = .ok (.lload 4, 2) := by decide +kernel
theorem d_Mo_inPiece_178 : decode b_Mo_inPiece 178 = .ok (.invokevirtual 251, 3) := by decide +kernel
theorem d_Mo_inPiece_181 : decode b_Mo_inPiece 181 = .ok (.ifCond .eq 7, 3) := by decide +kernel
theorem d_Mo_inPiece_184 : decode b_Mo_inPiece 184 = .ok (.iconst 1, 1) := by decide +kernel
theorem d_Mo_inPiece_185 : decode b_Mo_inPiece 185 = .ok (.goto 4, 3) := by decide +kernel
theorem d_Mo_inPiece_188 : decode b_Mo_inPiece 188 = .ok (.iconst 0, 1) := by decide +kernel
theorem d_Mo_inPiece_189 : decode b_Mo_inPiece 189 = .ok (.ireturn, 1) := by decide +kernel
theorem d_Mo_covers_0 : decode b_Mo_covers 0 = .ok (.iconst 0, 1) := by decide +kernel
theorem d_Mo_covers_1 : decode b_Mo_covers 1 = .ok (.istore_n 3, 1) := by decide +kernel
theorem d_Mo_covers_2 : decode b_Mo_covers 2 = .ok (.iload_n 3, 1) := by decide +kernel
theorem d_Mo_covers_3 : decode b_Mo_covers 3 = .ok (.aload_n 0, 1) := by decide +kernel
theorem d_Mo_covers_4 : decode b_Mo_covers 4 = .ok (.getfield 154, 3) := by decide +kernel
theorem d_Mo_covers_7 : decode b_Mo_covers 7 = .ok (.if_icmp .ge 31, 3) := by decide +kernel
theorem d_Mo_covers_10 : decode b_Mo_covers 10 = .ok (.aload_n 0, 1) := by decide +kernel
theorem d_Mo_covers_11 : decode b_Mo_covers 11 = .ok (.iload_n 3, 1) := by decide +kernel
theorem d_Mo_covers_12 : decode b_Mo_covers 12 = .ok (.ldc2_w 164, 3) := by decide +kernel
theorem d_Mo_covers_15 : decode b_Mo_covers 15 = .ok (.iload_n 1, 1) := by decide +kernel
theorem d_Mo_covers_16 : decode b_Mo_covers 16 = .ok (.i2l, 1) := by decide +kernel
theorem d_Mo_covers_17 : decode b_Mo_covers 17 = .ok (.lmul, 1) := by decide +kernel
theorem d_Mo_covers_18 : decode b_Mo_covers 18 = .ok (.ldc2_w 164, 3) := by decide +kernel
theorem d_Mo_covers_21 : decode b_Mo_covers 21 = .ok (.iload_n 2, 1) := by decide +kernel
theorem d_Mo_covers_22 : decode b_Mo_covers 22 = .ok (.i2l, 1) := by decide +kernel
theorem d_Mo_covers_23 : decode b_Mo_covers 23 = .ok (.lmul, 1) := by decide +kernel
theorem d_Mo_covers_24 : decode b_Mo_covers 24 = .ok (.invokevirtual 255, 3) := by decide +kernel
theorem d_Mo_covers_27 : decode b_Mo_covers 27 = .ok (.ifCond .eq 5, 3) := by decide +kernel
theorem d_Mo_covers_30 : decode b_Mo_covers 30 = .ok (.iconst 1, 1) := by decide +kernel
theorem d_Mo_covers_31 : decode b_Mo_covers 31 = .ok (.ireturn, 1) := by decide +kernel
theorem d_Mo_covers_32 : decode b_Mo_covers 32 = .ok (.iinc 3 1, 3) := by decide +kernel
theorem d_Mo_covers_35 : decode b_Mo_covers 35 = .ok (.goto (-33), 3) := by decide +kernel
theorem d_Mo_covers_38 : decode b_Mo_covers 38 = .ok (.iconst 0, 1) := by decide +kernel
theorem d_Mo_covers_39 : decode b_Mo_covers 39 = .ok (.ireturn, 1) := by decide +kernel
theorem d_Mo_isSet_0 : decode b_Mo_isSet 0 = .ok (.aload_n 0, 1) := by decide +kernel
theorem d_Mo_isSet_1 : decode b_Mo_isSet 1 = .ok (.bipush 64, 2) := by decide +kernel
theorem d_Mo_isSet_3 : decode b_Mo_isSet 3 = .ok (.iload_n 1, 1) := by decide +kernel
theorem d_Mo_isSet_4 : decode b_Mo_isSet 4 = .ok (.imul, 1) := by decide +kernel
theorem d_Mo_isSet_5 : decode b_Mo_isSet 5 = .ok (.bipush 32, 2) := by decide +kernel
theorem d_Mo_isSet_7 : decode b_Mo_isSet 7 = .ok (.iadd, 1) := by decide +kernel
theorem d_Mo_isSet_8 : decode b_Mo_isSet 8 = .ok (.bipush 64, 2) := by decide +kernel
theorem d_Mo_isSet_10 : decode b_Mo_isSet 10 = .ok (.bipush 63, 2) := by decide +kernel
theorem d_Mo_isSet_12 : decode b_Mo_isSet 12 = .ok (.iload_n 2, 1) := by decide +kernel
theorem d_Mo_isSet_13 : decode b_Mo_isSet 13 = .ok (.isub, 1) := by decide +kernel
theorem d_Mo_isSet_14 : decode b_Mo_isSet 14 = .ok (.imul, 1) := by decide +kernel
theorem d_Mo_isSet_15 : decode b_Mo_isSet 15 = .ok (.bipush 32, 2) := by decide +kernel
theorem d_Mo_isSet_17 : decode b_Mo_isSet 17 = .ok (.iadd, 1) := by decide +kernel
theorem d_Mo_isSet_18 : decode b_Mo_isSet 18 = .ok (.invokevirtual 258, 3) := by decide +kernel
theorem d_Mo_isSet_21 : decode b_Mo_isSet 21 = .ok (.ireturn, 1) := by decide +kernel
theorem d_Mo_setPixels_0 : decode b_Mo_setPixels 0 = .ok (.iconst 0, 1) := by decide +kernel
theorem d_Mo_setPixels_1 : decode b_Mo_setPixels 1 = .ok (.istore_n 1, 1) := by decide +kernel
theorem d_Mo_setPixels_2 : decode b_Mo_setPixels 2 = .ok (.iconst 0, 1) := by decide +kernel
theorem d_Mo_setPixels_3 : decode b_Mo_setPixels 3 = .ok (.istore_n 2, 1) := by decide +kernel
theorem d_Mo_setPixels_4 : decode b_Mo_setPixels 4 = .ok (.iload_n 2, 1) := by decide +kernel
theorem d_Mo_setPixels_5 : decode b_Mo_setPixels 5 = .ok (.sipush 4096, 3) := by decide +kernel
theorem d_Mo_setPixels_8 : decode b_Mo_setPixels 8 = .ok (.if_icmp .ge 32, 3) := by decide +kernel
theorem d_Mo_setPixels_11 : decode b_Mo_setPixels 11 = .ok (.aload_n 0, 1) := by decide +kernel
theorem d_Mo_setPixels_12 : decode b_Mo_setPixels 12 = .ok (.iload_n 2, 1) := by decide +kernel
theorem d_Mo_setPixels_13 : decode b_Mo_setPixels 13 = .ok (.bipush 64, 2) := by decide +kernel
theorem d_Mo_setPixels_15 : decode b_Mo_setPixels 15 = .ok (.irem, 1) := by decide +kernel
theorem d_Mo_setPixels_16 : decode b_Mo_setPixels 16 = .ok (.iload_n 2, 1) := by decide +kernel
theorem d_Mo_setPixels_17 : decode b_Mo_setPixels 17 = .ok (.bipush 64, 2) := by decide +kernel
theorem d_Mo_setPixels_19 : decode b_Mo_setPixels 19 = .ok (.idiv, 1) := by decide +kernel
theorem d_Mo_setPixels_20 : decode b_Mo_setPixels 20 = .ok (.invokevirtual 261, 3) := by decide +kernel
theorem d_Mo_setPixels_23 : decode b_Mo_setPixels 23 = .ok (.ifCond .eq 9, 3) := by decide +kernel
theorem d_Mo_setPixels_26 : decode b_Mo_setPixels 26 = .ok (.iload_n 1, 1) := by decide +kernel
theorem d_Mo_setPixels_27 : decode b_Mo_setPixels 27 = .ok (.iconst 1, 1) := by decide +kernel
theorem d_Mo_setPixels_28 : decode b_Mo_setPixels 28 = .ok (.iadd, 1) := by decide +kernel
theorem d_Mo_setPixels_29 : decode b_Mo_setPixels 29 = .ok (.goto 4, 3) := by decide +kernel
theorem d_Mo_setPixels_32 : decode b_Mo_setPixels 32 = .ok (.iload_n 1, 1) := by decide +kernel
theorem d_Mo_setPixels_33 : decode b_Mo_setPixels 33 = .ok (.istore_n 1, 1) := by decide +kernel
theorem d_Mo_setPixels_34 : decode b_Mo_setPixels 34 = .ok (.iinc 2 1, 3) := by decide +kernel
theorem d_Mo_setPixels_37 : decode b_Mo_setPixels 37 = .ok (.goto (-33), 3) := by decide +kernel
theorem d_Mo_setPixels_40 : decode b_Mo_setPixels 40 = .ok (.iload_n 1, 1) := by decide +kernel
theorem d_Mo_setPixels_41 : decode b_Mo_setPixels 41 = .ok (.ireturn, 1) := by decide +kernel
theorem d_Mo_count_0 : decode b_Mo_count 0 = .ok (.aload_n 0, 1) := by decide +kernel
theorem d_Mo_count_1 : decode b_Mo_count 1 = .ok (.iconst 0, 1) := by decide +kernel
theorem d_Mo_count_2 : decode b_Mo_count 2 = .ok (.putfield 82, 3) := by decide +kernel
theorem d_Mo_count_5 : decode b_Mo_count 5 = .ok (.aload_n 0, 1) := by decide +kernel
theorem d_Mo_count_6 : decode b_Mo_count 6 = .ok (.invokevirtual 264, 3) := by decide +kernel
theorem d_Mo_count_9 : decode b_Mo_count 9 = .ok (.iload_n 1, 1) := by decide +kernel
theorem d_Mo_count_10 : decode b_Mo_count 10 = .ok (.ifCond .ne 10, 3) := by decide +kernel
theorem d_Mo_count_13 : decode b_Mo_count 13 = .ok (.aload_n 0, 1) := by decide +kernel
theorem d_Mo_count_14 : decode b_Mo_count 14 = .ok (.getfield 92, 3) := by decide +kernel
theorem d_Mo_count_17 : decode b_Mo_count 17 = .ok (.goto 40, 3) := by decide +kernel
theorem d_Mo_count_20 : decode b_Mo_count 20 = .ok (.iload_n 1, 1) := by decide +kernel
theorem d_Mo_count_21 : decode b_Mo_count 21 = .ok (.iconst 1, 1) := by decide +kernel
theorem d_Mo_count_22 : decode b_Mo_count 22 = .ok (.if_icmp .ne 10, 3) := by decide +kernel
theorem d_Mo_count_25 : decode b_Mo_count 25 = .ok (.aload_n 0, 1) := by decide +kernel
theorem d_Mo_count_26 : decode b_Mo_count 26 = .ok (.getfield 89, 3) := by decide +kernel
theorem d_Mo_count_29 : decode b_Mo_count 29 = .ok (.goto 28, 3) := by decide +kernel
theorem d_Mo_count_32 : decode b_Mo_count 32 = .ok (.iload_n 1, 1) := by decide +kernel
theorem d_Mo_count_33 : decode b_Mo_count 33 = .ok (.iconst 2, 1) := by decide +kernel
theorem d_Mo_count_34 : decode b_Mo_count 34 = .ok (.if_icmp .ne 10, 3) := by decide +kernel
theorem d_Mo_count_37 : decode b_Mo_count 37 = .ok (.aload_n 0, 1) := by decide +kernel
theorem d_Mo_count_38 : decode b_Mo_count 38 = .ok (.getfield 154, 3) := by decide +kernel
theorem d_Mo_count_41 : decode b_Mo_count 41 = .ok (.goto 16, 3) := by decide +kernel
theorem d_Mo_count_44 : decode b_Mo_count 44 = .ok (.iload_n 1, 1) := by decide +kernel
theorem d_Mo_count_45 : decode b_Mo_count 45 = .ok (.iconst 3, 1) := by decide +kernel
theorem d_Mo_count_46 : decode b_Mo_count 46 = .ok (.if_icmp .ne 10, 3) := by decide +kernel
theorem d_Mo_count_49 : decode b_Mo_count 49 = .ok (.aload_n 0, 1) := by decide +kernel
theorem d_Mo_count_50 : decode b_Mo_count 50 = .ok (.invokevirtual 267, 3) := by decide +kernel
theorem d_Mo_count_53 : decode b_Mo_count 53 = .ok (.goto 4, 3) := by decide +kernel
theorem d_Mo_count_56 : decode b_Mo_count 56 = .ok (.iconst (-1), 1) := by decide +kernel
theorem d_Mo_count_57 : decode b_Mo_count 57 = .ok (.ireturn, 1) := by decide +kernel
theorem d_Mo_has_0 : decode b_Mo_has 0 = .ok (.iload_n 1, 1) := by decide +kernel
theorem d_Mo_has_1 : decode b_Mo_has 1 = .ok (.sipush (-16384), 3) := by decide +kernel
theorem d_Mo_has_4 : decode b_Mo_has 4 = .ok (.sipush 16383, 3) := by decide +kernel
theorem d_Mo_has_7 : decode b_Mo_has 7 = .ok (.invokestatic 85, 3) := by decide +kernel
theorem d_Mo_has_10 : decode b_Mo_has 10 = .ok (.ifCond .eq 20, 3) := by decide +kernel
theorem d_Mo_has_13 : decode b_Mo_has 13 = .ok (.iload_n 2, 1) := by decide +kernel
theorem d_Mo_has_14 : decode b_Mo_has 14 = .ok (.sipush (-16384), 3) := by decide +kernel
theorem d_Mo_has_17 : decode b_Mo_has 17 = .ok (.sipush 16383, 3) := by decide +kernel
theorem d_Mo_has_20 : decode b_Mo_has 20 = .ok (.invokestatic 85, 3) := by decide +kernel
theorem d_Mo_has_23 : decode b_Mo_has 23 = .ok (.ifCond .eq 7, 3) := by decide +kernel
theorem d_Mo_has_26 : decode b_Mo_has 26 = .ok (.iconst 1, 1) := by decide +kernel
theorem d_Mo_has_27 : decode b_Mo_has 27 = .ok (.goto 4, 3) := by decide +kernel
theorem d_Mo_has_30 : decode b_Mo_has 30 = .ok (.iconst 0, 1) := by decide +kernel
theorem d_Mo_has_31 : decode b_Mo_has 31 = .ok (.istore_n 3, 1) := by decide +kernel
theorem d_Mo_has_32 : decode b_Mo_has 32 = .ok (.aload_n 0, 1) := by decide +kernel
theorem d_Mo_has_33 : decode b_Mo_has 33 = .ok (.iload_n 3, 1) := by decide +kernel
theorem d_Mo_has_34 : decode b_Mo_has 34 = .ok (.ifCond .eq 7, 3) := by decide +kernel
theorem d_Mo_has_37 : decode b_Mo_has 37 = .ok (.iconst 0, 1) := by decide +kernel
theorem d_Mo_has_38 : decode b_Mo_has 38 = .ok (.goto 4, 3) := by decide +kernel
theorem d_Mo_has_41 : decode b_Mo_has 41 = .ok (.iconst 1, 1) := by decide +kernel
theorem d_Mo_has_42 : decode b_Mo_has 42 = .ok (.invokevirtual 99, 3) := by decide +kernel
theorem d_Mo_has_45 : decode b_Mo_has 45 = .ok (.ifCond .eq 5, 3) := by decide +kernel
theorem d_Mo_has_48 : decode b_Mo_has 48 = .ok (.iconst 0, 1) := by decide +kernel
theorem d_Mo_has_49 : decode b_Mo_has 49 = .ok (.ireturn, 1) := by decide +kernel
theorem d_Mo_has_50 : decode b_Mo_has 50 = .ok (.aload_n 0, 1) := by decide +kernel
theorem d_Mo_has_51 : decode b_Mo_has 51 = .ok (.invokevirtual 264, 3) := by decide +kernel
theorem d_Mo_has_54 : decode b_Mo_has 54 = .ok (.aload_n 0, 1) := by decide +kernel
theorem d_Mo_has_55 : decode b_Mo_has 55 = .ok (.iload_n 1, 1) := by decide +kernel
theorem d_Mo_has_56 : decode b_Mo_has 56 = .ok (.iload_n 2, 1) := by decide +kernel
theorem d_Mo_has_57 : decode b_Mo_has 57 = .ok (.invokevirtual 258, 3) := by decide +kernel
theorem d_Mo_has_60 : decode b_Mo_has 60 = .ok (.ireturn, 1) := by decide +kernel
theorem d_Mo_row_0 : decode b_Mo_row 0 = .ok (.aload_n 0, 1) := by decide +kernel
theorem d_Mo_row_1 : decode b_Mo_row 1 = .ok (.iload_n 1, 1) := by decide +kernel
theorem d_Mo_row_2 : decode b_Mo_row 2 = .ok (.iconst 0, 1) := by decide +kernel
theorem d_Mo_row_3 : decode b_Mo_row 3 = .ok (.bipush 63, 2) := by decide +kernel
theorem d_Mo_row_5 : decode b_Mo_row 5 = .ok (.invokestatic 85, 3) := by decide +kernel
theorem d_Mo_row_8 : decode b_Mo_row 8 = .ok (.ifCond .eq 7, 3) := by decide +kernel
theorem d_Mo_row_11 : decode b_Mo_row 11 = .ok (.iconst 0, 1) := by decide +kernel
theorem d_Mo_row_12 : decode b_Mo_row 12 = .ok (.goto 4, 3) := by decide +kernel
theorem d_Mo_row_15 : decode b_Mo_row 15 = .ok (.iconst 1, 1) := by decide +kernel
theorem d_Mo_row_16 : decode b_Mo_row 16 = .ok (.invokevirtual 99, 3) := by decide +kernel
theorem d_Mo_row_19 : decode b_Mo_row 19 = .ok (.ifCond .eq 5, 3) := by decide +kernel
theorem d_Mo_row_22 : decode b_Mo_row 22 = .ok (.lconst 0, 1) := by decide +kernel
theorem d_Mo_row_23 : decode b_Mo_row 23 = .ok (.lreturn, 1) := by decide +kernel
theorem d_Mo_row_24 : decode b_Mo_row 24 = .ok (.aload_n 0, 1) := by decide +kernel
theorem d_Mo_row_25 : decode b_Mo_row 25 = .ok (.invokevirtual 264, 3) := by decide +kernel
theorem d_Mo_row_28 : decode b_Mo_row 28 = .ok (.lconst 0, 1) := by decide +kernel
theorem d_Mo_row_29 : decode b_Mo_row 29 = .ok (.lstore_n 2, 1) := by decide +kernel
theorem d_Mo_row_30 : decode b_Mo_row 30 = .ok (.iconst 0, 1) := by decide +kernel
theorem d_Mo_row_31 : decode b_Mo_row 31 = .ok (.istore 4, 2) := by decide +kernel
theorem d_Mo_row_33 : decode b_Mo_row 33 = .ok (.iload 4, 2) := by decide +kernel
theorem d_Mo_row_35 : decode b_Mo_row 35 = .ok (.bipush 64, 2) := by decide +kernel
theorem d_Mo_row_37 : decode b_Mo_row 37 = .ok (.if_icmp .ge 30, 3) := by decide +kernel
theorem d_Mo_row_40 : decode b_Mo_row 40 = .ok (.aload_n 0, 1) := by decide +kernel
theorem d_Mo_row_41 : decode b_Mo_row 41 = .ok (.iload 4, 2) := by decide +kernel
theorem d_Mo_row_43 : decode b_Mo_row 43 = .ok (.iload_n 1, 1) := by decide +kernel
theorem d_Mo_row_44 : decode b_Mo_row 44 = .ok (.invokevirtual 261, 3) := by decide +kernel
theorem d_Mo_row_47 : decode b_Mo_row 47 = .ok (.ifCond .eq 12, 3) := by decide +kernel
theorem d_Mo_row_50 : decode b_Mo_row 50 = .ok (.lload_n 2, 1) := by decide +kernel
theorem d_Mo_row_51 : decode b_Mo_row 51 = .ok (.lconst 1, 1) := by decide +kernel
theorem d_Mo_row_52 : decode b_Mo_row 52 = .ok (.iload 4, 2) := by decide +kernel
theorem d_Mo_row_54 : decode b_Mo_row 54 = .ok (.lshl, 1) := by decide +kernel
theorem d_Mo_row_55 : decode b_Mo_row 55 = .ok (.lor, 1) := by decide +kernel
theorem d_Mo_row_56 : decode b_Mo_row 56 = .ok (.goto 4, 3) := by decide +kernel
theorem d_Mo_row_59 : decode b_Mo_row 59 = .ok (.lload_n 2, 1) := by decide +kernel
theorem d_Mo_row_60 : decode b_Mo_row 60 = .ok (.lstore_n 2, 1) := by decide +kernel
theorem d_Mo_row_61 : decode b_Mo_row 61 = .ok (.iinc 4 1, 3) := by decide +kernel
theorem d_Mo_row_64 : decode b_Mo_row 64 = .ok (.goto (-31), 3) := by decide +kernel
theorem d_Mo_row_67 : decode b_Mo_row 67 = .ok (.lload_n 2, 1) := by decide +kernel
theorem d_Mo_row_68 : decode b_Mo_row 68 = .ok (.lreturn, 1) := by decide +kernel
theorem d_Mo_share_0 : decode b_Mo_share 0 = .ok (.aload_n 0, 1) := by decide +kernel
theorem d_Mo_share_1 : decode b_Mo_share 1 = .ok (.iload_n 1, 1) := by decide +kernel
theorem d_Mo_share_2 : decode b_Mo_share 2 = .ok (.iconst 0, 1) := by decide +kernel
theorem d_Mo_share_3 : decode b_Mo_share 3 = .ok (.bipush 63, 2) := by decide +kernel
theorem d_Mo_share_5 : decode b_Mo_share 5 = .ok (.invokestatic 85, 3) := by decide +kernel
theorem d_Mo_share_8 : decode b_Mo_share 8 = .ok (.ifCond .eq 17, 3) := by decide +kernel
theorem d_Mo_share_11 : decode b_Mo_share 11 = .ok (.iload_n 2, 1) := by decide +kernel
theorem d_Mo_share_12 : decode b_Mo_share 12 = .ok (.iconst 0, 1) := by decide +kernel
theorem d_Mo_share_13 : decode b_Mo_share 13 = .ok (.bipush 63, 2) := by decide +kernel
theorem d_Mo_share_15 : decode b_Mo_share 15 = .ok (.invokestatic 85, 3) := by decide +kernel
theorem d_Mo_share_18 : decode b_Mo_share 18 = .ok (.ifCond .eq 7, 3) := by decide +kernel
theorem d_Mo_share_21 : decode b_Mo_share 21 = .ok (.iconst 0, 1) := by decide +kernel
theorem d_Mo_share_22 : decode b_Mo_share 22 = .ok (.goto 4, 3) := by decide +kernel
theorem d_Mo_share_25 : decode b_Mo_share 25 = .ok (.iconst 1, 1) := by decide +kernel
theorem d_Mo_share_26 : decode b_Mo_share 26 = .ok (.invokevirtual 99, 3) := by decide +kernel
theorem d_Mo_share_29 : decode b_Mo_share 29 = .ok (.ifCond .eq 5, 3) := by decide +kernel
theorem d_Mo_share_32 : decode b_Mo_share 32 = .ok (.iconst 0, 1) := by decide +kernel
theorem d_Mo_share_33 : decode b_Mo_share 33 = .ok (.ireturn, 1) := by decide +kernel
theorem d_Mo_share_34 : decode b_Mo_share 34 = .ok (.aload_n 0, 1) := by decide +kernel
theorem d_Mo_share_35 : decode b_Mo_share 35 = .ok (.invokevirtual 264, 3) := by decide +kernel
theorem d_Mo_share_38 : decode b_Mo_share 38 = .ok (.iconst 0, 1) := by decide +kernel
theorem d_Mo_share_39 : decode b_Mo_share 39 = .ok (.istore_n 3, 1) := by decide +kernel
theorem d_Mo_share_40 : decode b_Mo_share 40 = .ok (.iconst 0, 1) := by decide +kernel
theorem d_Mo_share_41 : decode b_Mo_share 41 = .ok (.istore 4, 2) := by decide +kernel
theorem d_Mo_share_43 : decode b_Mo_share 43 = .ok (.iload 4, 2) := by decide +kernel
theorem d_Mo_share_45 : decode b_Mo_share 45 = .ok (.bipush 16, 2) := by decide +kernel
theorem d_Mo_share_47 : decode b_Mo_share 47 = .ok (.if_icmp .ge 57, 3) := by decide +kernel
theorem d_Mo_share_50 : decode b_Mo_share 50 = .ok (.aload_n 0, 1) := by decide +kernel
theorem d_Mo_share_51 : decode b_Mo_share 51 = .ok (.bipush 64, 2) := by decide +kernel
theorem d_Mo_share_53 : decode b_Mo_share 53 = .ok (.iload_n 1, 1) := by decide +kernel
theorem d_Mo_share_54 : decode b_Mo_share 54 = .ok (.imul, 1) := by decide +kernel
theorem d_Mo_share_55 : decode b_Mo_share 55 = .ok (.bipush 8, 2) := by decide +kernel
theorem d_Mo_share_57 : decode b_Mo_share 57 = .ok (.iadd, 1) := by decide +kernel
theorem d_Mo_share_58 : decode b_Mo_share 58 = .ok (.bipush 16, 2) := by decide +kernel
theorem d_Mo_share_60 : decode b_Mo_share 60 = .ok (.iload 4, 2) := by decide +kernel
theorem d_Mo_share_62 : decode b_Mo_share 62 = .ok (.iconst 4, 1) := by decide +kernel
theorem d_Mo_share_63 : decode b_Mo_share 63 = .ok (.irem, 1) := by decide +kernel
theorem d_Mo_share_64 : decode b_Mo_share 64 = .ok (.imul, 1) := by decide +kernel
theorem d_Mo_share_65 : decode b_Mo_share 65 = .ok (.iadd, 1) := by decide +kernel
theorem d_Mo_share_66 : decode b_Mo_share 66 = .ok (.bipush 64, 2) := by decide +kernel
theorem d_Mo_share_68 : decode b_Mo_share 68 = .ok (.bipush 63, 2) := by decide +kernel
theorem d_Mo_share_70 : decode b_Mo_share 70 = .ok (.iload_n 2, 1) := by decide +kernel
theorem d_Mo_share_71 : decode b_Mo_share 71 = .ok (.isub, 1) := by decide +kernel
theorem d_Mo_share_72 : decode b_Mo_share 72 = .ok (.imul, 1) := by decide +kernel
theorem d_Mo_share_73 : decode b_Mo_share 73 = .ok (.bipush 8, 2) := by decide +kernel
theorem d_Mo_share_75 : decode b_Mo_share 75 = .ok (.iadd, 1) := by decide +kernel
theorem d_Mo_share_76 : decode b_Mo_share 76 = .ok (.bipush 16, 2) := by decide +kernel
theorem d_Mo_share_78 : decode b_Mo_share 78 = .ok (.iload 4, 2) := by decide +kernel
theorem d_Mo_share_80 : decode b_Mo_share 80 = .ok (.iconst 4, 1) := by decide +kernel
theorem d_Mo_share_81 : decode b_Mo_share 81 = .ok (.idiv, 1) := by decide +kernel
theorem d_Mo_share_82 : decode b_Mo_share 82 = .ok (.imul, 1) := by decide +kernel
theorem d_Mo_share_83 : decode b_Mo_share 83 = .ok (.iadd, 1) := by decide +kernel
theorem d_Mo_share_84 : decode b_Mo_share 84 = .ok (.invokevirtual 258, 3) := by decide +kernel
theorem d_Mo_share_87 : decode b_Mo_share 87 = .ok (.ifCond .eq 9, 3) := by decide +kernel
theorem d_Mo_share_90 : decode b_Mo_share 90 = .ok (.iload_n 3, 1) := by decide +kernel
theorem d_Mo_share_91 : decode b_Mo_share 91 = .ok (.iconst 1, 1) := by decide +kernel
theorem d_Mo_share_92 : decode b_Mo_share 92 = .ok (.iadd, 1) := by decide +kernel
theorem d_Mo_share_93 : decode b_Mo_share 93 = .ok (.goto 4, 3) := by decide +kernel
theorem d_Mo_share_96 : decode b_Mo_share 96 = .ok (.iload_n 3, 1) := by decide +kernel
theorem d_Mo_share_97 : decode b_Mo_share 97 = .ok (.istore_n 3, 1) := by decide +kernel
theorem d_Mo_share_98 : decode b_Mo_share 98 = .ok (.iinc 4 1, 3) := by decide +kernel
theorem d_Mo_share_101 : decode b_Mo_share 101 = .ok (.goto (-58), 3) := by decide +kernel
theorem d_Mo_share_104 : decode b_Mo_share 104 = .ok (.iload_n 3, 1) := by decide +kernel
theorem d_Mo_share_105 : decode b_Mo_share 105 = .ok (.ireturn, 1) := by decide +kernel
