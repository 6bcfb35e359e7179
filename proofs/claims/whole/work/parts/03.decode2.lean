theorem dX5_takeStatement_139 : decode cX5_takeStatement 139 = .ok (.getfield 22, 3) := by decide +kernel
theorem dX5_takeStatement_142 : decode cX5_takeStatement 142 = .ok (.iconst 1, 1) := by decide +kernel
theorem dX5_takeStatement_143 : decode cX5_takeStatement 143 = .ok (.iaload, 1) := by decide +kernel
theorem dX5_takeStatement_144 : decode cX5_takeStatement 144 = .ok (.aload_n 0, 1) := by decide +kernel
theorem dX5_takeStatement_145 : decode cX5_takeStatement 145 = .ok (.getfield 22, 3) := by decide +kernel
theorem dX5_takeStatement_148 : decode cX5_takeStatement 148 = .ok (.iconst 2, 1) := by decide +kernel
theorem dX5_takeStatement_149 : decode cX5_takeStatement 149 = .ok (.iaload, 1) := by decide +kernel
theorem dX5_takeStatement_150 : decode cX5_takeStatement 150 = .ok (.iconst 0, 1) := by decide +kernel
theorem dX5_takeStatement_151 : decode cX5_takeStatement 151 = .ok (.invokevirtual 137, 3) := by decide +kernel
theorem dX5_takeStatement_154 : decode cX5_takeStatement 154 = .ok (.pop, 1) := by decide +kernel
theorem dX5_takeStatement_155 : decode cX5_takeStatement 155 = .ok (.goto 23, 3) := by decide +kernel
theorem dX5_takeStatement_158 : decode cX5_takeStatement 158 = .ok (.aload_n 0, 1) := by decide +kernel
theorem dX5_takeStatement_159 : decode cX5_takeStatement 159 = .ok (.getfield 12, 3) := by decide +kernel
theorem dX5_takeStatement_162 : decode cX5_takeStatement 162 = .ok (.aload_n 0, 1) := by decide +kernel
theorem dX5_takeStatement_163 : decode cX5_takeStatement 163 = .ok (.getfield 22, 3) := by decide +kernel
theorem dX5_takeStatement_166 : decode cX5_takeStatement 166 = .ok (.iconst 0, 1) := by decide +kernel
theorem dX5_takeStatement_167 : decode cX5_takeStatement 167 = .ok (.iaload, 1) := by decide +kernel
theorem dX5_takeStatement_168 : decode cX5_takeStatement 168 = .ok (.aload_n 0, 1) := by decide +kernel
theorem dX5_takeStatement_169 : decode cX5_takeStatement 169 = .ok (.getfield 22, 3) := by decide +kernel
theorem dX5_takeStatement_172 : decode cX5_takeStatement 172 = .ok (.iconst 1, 1) := by decide +kernel
theorem dX5_takeStatement_173 : decode cX5_takeStatement 173 = .ok (.iaload, 1) := by decide +kernel
theorem dX5_takeStatement_174 : decode cX5_takeStatement 174 = .ok (.invokevirtual 141, 3) := by decide +kernel
theorem dX5_takeStatement_177 : decode cX5_takeStatement 177 = .ok (.pop, 1) := by decide +kernel
theorem dX5_takeStatement_178 : decode cX5_takeStatement 178 = .ok (.return_, 1) := by decide +kernel
theorem dX6_init_0 : decode cX6_init 0 = .ok (.aload_n 0, 1) := by decide +kernel
theorem dX6_init_1 : decode cX6_init 1 = .ok (.invokespecial 3, 3) := by decide +kernel
theorem dX6_init_4 : decode cX6_init 4 = .ok (.aload_n 0, 1) := by decide +kernel
theorem dX6_init_5 : decode cX6_init 5 = .ok (.iconst 3, 1) := by decide +kernel
theorem dX6_init_6 : decode cX6_init 6 = .ok (.newarray .int, 2) := by decide +kernel
theorem dX6_init_8 : decode cX6_init 8 = .ok (.putfield 9, 3) := by decide +kernel
theorem dX6_init_11 : decode cX6_init 11 = .ok (.aload_n 0, 1) := by decide +kernel
theorem dX6_init_12 : decode cX6_init 12 = .ok (.bipush 72, 2) := by decide +kernel
theorem dX6_init_14 : decode cX6_init 14 = .ok (.newarray .long, 2) := by decide +kernel
theorem dX6_init_16 : decode cX6_init 16 = .ok (.putfield 15, 3) := by decide +kernel
theorem dX6_init_19 : decode cX6_init 19 = .ok (.aload_n 0, 1) := by decide +kernel
theorem dX6_init_20 : decode cX6_init 20 = .ok (.getfield 9, 3) := by decide +kernel
theorem dX6_init_23 : decode cX6_init 23 = .ok (.iconst (-1), 1) := by decide +kernel
theorem dX6_init_24 : decode cX6_init 24 = .ok (.invokestatic 19, 3) := by decide +kernel
theorem dX6_init_27 : decode cX6_init 27 = .ok (.return_, 1) := by decide +kernel
theorem dX6_isThere_0 : decode cX6_isThere 0 = .ok (.iload_n 1, 1) := by decide +kernel
theorem dX6_isThere_1 : decode cX6_isThere 1 = .ok (.invokestatic 25, 3) := by decide +kernel
theorem dX6_isThere_4 : decode cX6_isThere 4 = .ok (.ifCond .eq 16, 3) := by decide +kernel
theorem dX6_isThere_7 : decode cX6_isThere 7 = .ok (.aload_n 0, 1) := by decide +kernel
theorem dX6_isThere_8 : decode cX6_isThere 8 = .ok (.getfield 9, 3) := by decide +kernel
theorem dX6_isThere_11 : decode cX6_isThere 11 = .ok (.iload_n 1, 1) := by decide +kernel
theorem dX6_isThere_12 : decode cX6_isThere 12 = .ok (.iaload, 1) := by decide +kernel
theorem dX6_isThere_13 : decode cX6_isThere 13 = .ok (.ifCond .lt 7, 3) := by decide +kernel
theorem dX6_isThere_16 : decode cX6_isThere 16 = .ok (.iconst 1, 1) := by decide +kernel
theorem dX6_isThere_17 : decode cX6_isThere 17 = .ok (.goto 4, 3) := by decide +kernel
theorem dX6_isThere_20 : decode cX6_isThere 20 = .ok (.iconst 0, 1) := by decide +kernel
theorem dX6_isThere_21 : decode cX6_isThere 21 = .ok (.ireturn, 1) := by decide +kernel
theorem dX6_has_0 : decode cX6_has 0 = .ok (.iload_n 1, 1) := by decide +kernel
theorem dX6_has_1 : decode cX6_has 1 = .ok (.invokestatic 25, 3) := by decide +kernel
theorem dX6_has_4 : decode cX6_has 4 = .ok (.ifCond .eq 21, 3) := by decide +kernel
theorem dX6_has_7 : decode cX6_has 7 = .ok (.iload_n 2, 1) := by decide +kernel
theorem dX6_has_8 : decode cX6_has 8 = .ok (.ifCond .lt 17, 3) := by decide +kernel
theorem dX6_has_11 : decode cX6_has 11 = .ok (.iload_n 2, 1) := by decide +kernel
theorem dX6_has_12 : decode cX6_has 12 = .ok (.aload_n 0, 1) := by decide +kernel
theorem dX6_has_13 : decode cX6_has 13 = .ok (.getfield 9, 3) := by decide +kernel
theorem dX6_has_16 : decode cX6_has 16 = .ok (.iload_n 1, 1) := by decide +kernel
theorem dX6_has_17 : decode cX6_has 17 = .ok (.iaload, 1) := by decide +kernel
theorem dX6_has_18 : decode cX6_has 18 = .ok (.if_icmp .ge 7, 3) := by decide +kernel
theorem dX6_has_21 : decode cX6_has 21 = .ok (.iconst 1, 1) := by decide +kernel
theorem dX6_has_22 : decode cX6_has 22 = .ok (.goto 4, 3) := by decide +kernel
theorem dX6_has_25 : decode cX6_has 25 = .ok (.iconst 0, 1) := by decide +kernel
theorem dX6_has_26 : decode cX6_has 26 = .ok (.ireturn, 1) := by decide +kernel
theorem dX6_begin_0 : decode cX6_begin 0 = .ok (.iload_n 1, 1) := by decide +kernel
theorem dX6_begin_1 : decode cX6_begin 1 = .ok (.invokestatic 25, 3) := by decide +kernel
theorem dX6_begin_4 : decode cX6_begin 4 = .ok (.ifCond .eq 13, 3) := by decide +kernel
theorem dX6_begin_7 : decode cX6_begin 7 = .ok (.iload_n 2, 1) := by decide +kernel
theorem dX6_begin_8 : decode cX6_begin 8 = .ok (.ifCond .lt 9, 3) := by decide +kernel
theorem dX6_begin_11 : decode cX6_begin 11 = .ok (.iload_n 2, 1) := by decide +kernel
theorem dX6_begin_12 : decode cX6_begin 12 = .ok (.bipush 24, 2) := by decide +kernel
theorem dX6_begin_14 : decode cX6_begin 14 = .ok (.if_icmp .le 4, 3) := by decide +kernel
theorem dX6_begin_17 : decode cX6_begin 17 = .ok (.return_, 1) := by decide +kernel
theorem dX6_begin_18 : decode cX6_begin 18 = .ok (.aload_n 0, 1) := by decide +kernel
theorem dX6_begin_19 : decode cX6_begin 19 = .ok (.getfield 9, 3) := by decide +kernel
theorem dX6_begin_22 : decode cX6_begin 22 = .ok (.iload_n 1, 1) := by decide +kernel
theorem dX6_begin_23 : decode cX6_begin 23 = .ok (.iload_n 2, 1) := by decide +kernel
theorem dX6_begin_24 : decode cX6_begin 24 = .ok (.iastore, 1) := by decide +kernel
theorem dX6_begin_25 : decode cX6_begin 25 = .ok (.iconst 0, 1) := by decide +kernel
theorem dX6_begin_26 : decode cX6_begin 26 = .ok (.istore_n 3, 1) := by decide +kernel
theorem dX6_begin_27 : decode cX6_begin 27 = .ok (.iload_n 3, 1) := by decide +kernel
theorem dX6_begin_28 : decode cX6_begin 28 = .ok (.iload_n 2, 1) := by decide +kernel
theorem dX6_begin_29 : decode cX6_begin 29 = .ok (.if_icmp .ge 21, 3) := by decide +kernel
theorem dX6_begin_32 : decode cX6_begin 32 = .ok (.aload_n 0, 1) := by decide +kernel
theorem dX6_begin_33 : decode cX6_begin 33 = .ok (.getfield 15, 3) := by decide +kernel
theorem dX6_begin_36 : decode cX6_begin 36 = .ok (.iload_n 1, 1) := by decide +kernel
theorem dX6_begin_37 : decode cX6_begin 37 = .ok (.bipush 24, 2) := by decide +kernel
theorem dX6_begin_39 : decode cX6_begin 39 = .ok (.imul, 1) := by decide +kernel
theorem dX6_begin_40 : decode cX6_begin 40 = .ok (.iload_n 3, 1) := by decide +kernel
theorem dX6_begin_41 : decode cX6_begin 41 = .ok (.iadd, 1) := by decide +kernel
theorem dX6_begin_42 : decode cX6_begin 42 = .ok (.lconst 0, 1) := by decide +kernel
theorem dX6_begin_43 : decode cX6_begin 43 = .ok (.lastore, 1) := by decide +kernel
theorem dX6_begin_44 : decode cX6_begin 44 = .ok (.iinc 3 1, 3) := by decide +kernel
theorem dX6_begin_47 : decode cX6_begin 47 = .ok (.goto (-20), 3) := by decide +kernel
theorem dX6_begin_50 : decode cX6_begin 50 = .ok (.return_, 1) := by decide +kernel
theorem dX6_put_0 : decode cX6_put 0 = .ok (.aload_n 0, 1) := by decide +kernel
theorem dX6_put_1 : decode cX6_put 1 = .ok (.iload_n 1, 1) := by decide +kernel
theorem dX6_put_2 : decode cX6_put 2 = .ok (.iload_n 2, 1) := by decide +kernel
theorem dX6_put_3 : decode cX6_put 3 = .ok (.invokevirtual 29, 3) := by decide +kernel
theorem dX6_put_6 : decode cX6_put 6 = .ok (.ifCond .eq 15, 3) := by decide +kernel
theorem dX6_put_9 : decode cX6_put 9 = .ok (.aload_n 0, 1) := by decide +kernel
theorem dX6_put_10 : decode cX6_put 10 = .ok (.getfield 15, 3) := by decide +kernel
theorem dX6_put_13 : decode cX6_put 13 = .ok (.iload_n 1, 1) := by decide +kernel
theorem dX6_put_14 : decode cX6_put 14 = .ok (.bipush 24, 2) := by decide +kernel
theorem dX6_put_16 : decode cX6_put 16 = .ok (.imul, 1) := by decide +kernel
theorem dX6_put_17 : decode cX6_put 17 = .ok (.iload_n 2, 1) := by decide +kernel
theorem dX6_put_18 : decode cX6_put 18 = .ok (.iadd, 1) := by decide +kernel
theorem dX6_put_19 : decode cX6_put 19 = .ok (.lload_n 3, 1) := by decide +kernel
theorem dX6_put_20 : decode cX6_put 20 = .ok (.lastore, 1) := by decide +kernel
theorem dX6_put_21 : decode cX6_put 21 = .ok (.return_, 1) := by decide +kernel
theorem dX6_at_0 : decode cX6_at 0 = .ok (.aload_n 0, 1) := by decide +kernel
theorem dX6_at_1 : decode cX6_at 1 = .ok (.iload_n 1, 1) := by decide +kernel
theorem dX6_at_2 : decode cX6_at 2 = .ok (.iload_n 2, 1) := by decide +kernel
theorem dX6_at_3 : decode cX6_at 3 = .ok (.invokevirtual 29, 3) := by decide +kernel
theorem dX6_at_6 : decode cX6_at 6 = .ok (.ifCond .eq 17, 3) := by decide +kernel
theorem dX6_at_9 : decode cX6_at 9 = .ok (.aload_n 0, 1) := by decide +kernel
theorem dX6_at_10 : decode cX6_at 10 = .ok (.getfield 15, 3) := by decide +kernel
theorem dX6_at_13 : decode cX6_at 13 = .ok (.iload_n 1, 1) := by decide +kernel
theorem dX6_at_14 : decode cX6_at 14 = .ok (.bipush 24, 2) := by decide +kernel
theorem dX6_at_16 : decode cX6_at 16 = .ok (.imul, 1) := by decide +kernel
theorem dX6_at_17 : decode cX6_at 17 = .ok (.iload_n 2, 1) := by decide +kernel
theorem dX6_at_18 : decode cX6_at 18 = .ok (.iadd, 1) := by decide +kernel
theorem dX6_at_19 : decode cX6_at 19 = .ok (.laload, 1) := by decide +kernel
theorem dX6_at_20 : decode cX6_at 20 = .ok (.goto 6, 3) := by decide +kernel
theorem dX6_at_23 : decode cX6_at 23 = .ok (.ldc2_w 33, 3) := by decide +kernel
theorem dX6_at_26 : decode cX6_at 26 = .ok (.lreturn, 1) := by decide +kernel
theorem dX7_init_0 : decode cX7_init 0 = .ok (.aload_n 0, 1) := by decide +kernel
theorem dX7_init_1 : decode cX7_init 1 = .ok (.invokespecial 3, 3) := by decide +kernel
theorem dX7_init_4 : decode cX7_init 4 = .ok (.aload_n 0, 1) := by decide +kernel
theorem dX7_init_5 : decode cX7_init 5 = .ok (.iconst 4, 1) := by decide +kernel
theorem dX7_init_6 : decode cX7_init 6 = .ok (.newarray .int, 2) := by decide +kernel
theorem dX7_init_8 : decode cX7_init 8 = .ok (.putfield 9, 3) := by decide +kernel
theorem dX7_init_11 : decode cX7_init 11 = .ok (.aload_n 0, 1) := by decide +kernel
theorem dX7_init_12 : decode cX7_init 12 = .ok (.iconst 4, 1) := by decide +kernel
theorem dX7_init_13 : decode cX7_init 13 = .ok (.newarray .int, 2) := by decide +kernel
theorem dX7_init_15 : decode cX7_init 15 = .ok (.putfield 15, 3) := by decide +kernel
theorem dX7_init_18 : decode cX7_init 18 = .ok (.aload_n 0, 1) := by decide +kernel
theorem dX7_init_19 : decode cX7_init 19 = .ok (.bipush 11, 2) := by decide +kernel
theorem dX7_init_21 : decode cX7_init 21 = .ok (.newarray .long, 2) := by decide +kernel
theorem dX7_init_23 : decode cX7_init 23 = .ok (.putfield 18, 3) := by decide +kernel
theorem dX7_init_26 : decode cX7_init 26 = .ok (.aload_n 0, 1) := by decide +kernel
theorem dX7_init_27 : decode cX7_init 27 = .ok (.bipush 11, 2) := by decide +kernel
theorem dX7_init_29 : decode cX7_init 29 = .ok (.newarray .long, 2) := by decide +kernel
theorem dX7_init_31 : decode cX7_init 31 = .ok (.putfield 22, 3) := by decide +kernel
theorem dX7_init_34 : decode cX7_init 34 = .ok (.aload_n 0, 1) := by decide +kernel
theorem dX7_init_35 : decode cX7_init 35 = .ok (.lconst 1, 1) := by decide +kernel
theorem dX7_init_36 : decode cX7_init 36 = .ok (.putfield 25, 3) := by decide +kernel
theorem dX7_init_39 : decode cX7_init 39 = .ok (.aload_n 0, 1) := by decide +kernel
theorem dX7_init_40 : decode cX7_init 40 = .ok (.iconst 4, 1) := by decide +kernel
theorem dX7_init_41 : decode cX7_init 41 = .ok (.newarray .long, 2) := by decide +kernel
theorem dX7_init_43 : decode cX7_init 43 = .ok (.putfield 29, 3) := by decide +kernel
theorem dX7_init_46 : decode cX7_init 46 = .ok (.aload_n 0, 1) := by decide +kernel
theorem dX7_init_47 : decode cX7_init 47 = .ok (.bipush 11, 2) := by decide +kernel
theorem dX7_init_49 : decode cX7_init 49 = .ok (.newarray .long, 2) := by decide +kernel
theorem dX7_init_51 : decode cX7_init 51 = .ok (.putfield 32, 3) := by decide +kernel
theorem dX7_init_54 : decode cX7_init 54 = .ok (.aload_n 0, 1) := by decide +kernel
theorem dX7_init_55 : decode cX7_init 55 = .ok (.bipush 11, 2) := by decide +kernel
theorem dX7_init_57 : decode cX7_init 57 = .ok (.newarray .long, 2) := by decide +kernel
theorem dX7_init_59 : decode cX7_init 59 = .ok (.putfield 35, 3) := by decide +kernel
theorem dX7_init_62 : decode cX7_init 62 = .ok (.aload_n 0, 1) := by decide +kernel
theorem dX7_init_63 : decode cX7_init 63 = .ok (.lconst 1, 1) := by decide +kernel
theorem dX7_init_64 : decode cX7_init 64 = .ok (.putfield 38, 3) := by decide +kernel
theorem dX7_init_67 : decode cX7_init 67 = .ok (.aload_n 0, 1) := by decide +kernel
theorem dX7_init_68 : decode cX7_init 68 = .ok (.bipush 11, 2) := by decide +kernel
theorem dX7_init_70 : decode cX7_init 70 = .ok (.newarray .long, 2) := by decide +kernel
theorem dX7_init_72 : decode cX7_init 72 = .ok (.putfield 41, 3) := by decide +kernel
theorem dX7_init_75 : decode cX7_init 75 = .ok (.aload_n 0, 1) := by decide +kernel
theorem dX7_init_76 : decode cX7_init 76 = .ok (.new 44, 3) := by decide +kernel
theorem dX7_init_79 : decode cX7_init 79 = .ok (.dup, 1) := by decide +kernel
theorem dX7_init_80 : decode cX7_init 80 = .ok (.iconst 1, 1) := by decide +kernel
theorem dX7_init_81 : decode cX7_init 81 = .ok (.invokespecial 46, 3) := by decide +kernel
theorem dX7_init_84 : decode cX7_init 84 = .ok (.putfield 49, 3) := by decide +kernel
theorem dX7_init_87 : decode cX7_init 87 = .ok (.aload_n 0, 1) := by decide +kernel
theorem dX7_init_88 : decode cX7_init 88 = .ok (.new 44, 3) := by decide +kernel
theorem dX7_init_91 : decode cX7_init 91 = .ok (.dup, 1) := by decide +kernel
theorem dX7_init_92 : decode cX7_init 92 = .ok (.iconst (-1), 1) := by decide +kernel
theorem dX7_init_93 : decode cX7_init 93 = .ok (.invokespecial 46, 3) := by decide +kernel
theorem dX7_init_96 : decode cX7_init 96 = .ok (.putfield 53, 3) := by decide +kernel
theorem dX7_init_99 : decode cX7_init 99 = .ok (.aload_n 0, 1) := by decide +kernel
theorem dX7_init_100 : decode cX7_init 100 = .ok (.lconst 1, 1) := by decide +kernel
theorem dX7_init_101 : decode cX7_init 101 = .ok (.putfield 56, 3) := by decide +kernel
theorem dX7_init_104 : decode cX7_init 104 = .ok (.aload_n 0, 1) := by decide +kernel
theorem dX7_init_105 : decode cX7_init 105 = .ok (.iconst 4, 1) := by decide +kernel
theorem dX7_init_106 : decode cX7_init 106 = .ok (.newarray .long, 2) := by decide +kernel
theorem dX7_init_108 : decode cX7_init 108 = .ok (.putfield 59, 3) := by decide +kernel
theorem dX7_init_111 : decode cX7_init 111 = .ok (.aload_n 0, 1) := by decide +kernel
theorem dX7_init_112 : decode cX7_init 112 = .ok (.new 62, 3) := by decide +kernel
theorem dX7_init_115 : decode cX7_init 115 = .ok (.dup, 1) := by decide +kernel
theorem dX7_init_116 : decode cX7_init 116 = .ok (.invokespecial 64, 3) := by decide +kernel
theorem dX7_init_119 : decode cX7_init 119 = .ok (.putfield 65, 3) := by decide +kernel
theorem dX7_init_122 : decode cX7_init 122 = .ok (.aload_n 0, 1) := by decide +kernel
theorem dX7_init_123 : decode cX7_init 123 = .ok (.new 62, 3) := by decide +kernel
theorem dX7_init_126 : decode cX7_init 126 = .ok (.dup, 1) := by decide +kernel
theorem dX7_init_127 : decode cX7_init 127 = .ok (.invokespecial 64, 3) := by decide +kernel
theorem dX7_init_130 : decode cX7_init 130 = .ok (.putfield 69, 3) := by decide +kernel
theorem dX7_init_133 : decode cX7_init 133 = .ok (.return_, 1) := by decide +kernel
theorem dX7_frame_0 : decode cX7_frame 0 = .ok (.aload_n 0, 1) := by decide +kernel
theorem dX7_frame_1 : decode cX7_frame 1 = .ok (.aload_n 1, 1) := by decide +kernel
theorem dX7_frame_2 : decode cX7_frame 2 = .ok (.getfield 72, 3) := by decide +kernel
theorem dX7_frame_5 : decode cX7_frame 5 = .ok (.putfield 78, 3) := by decide +kernel
theorem dX7_frame_8 : decode cX7_frame 8 = .ok (.aload_n 0, 1) := by decide +kernel
theorem dX7_frame_9 : decode cX7_frame 9 = .ok (.aload_n 1, 1) := by decide +kernel
theorem dX7_frame_10 : decode cX7_frame 10 = .ok (.getfield 79, 3) := by decide +kernel
theorem dX7_frame_13 : decode cX7_frame 13 = .ok (.putfield 82, 3) := by decide +kernel
theorem dX7_frame_16 : decode cX7_frame 16 = .ok (.aload_n 1, 1) := by decide +kernel
theorem dX7_frame_17 : decode cX7_frame 17 = .ok (.getfield 83, 3) := by decide +kernel
theorem dX7_frame_20 : decode cX7_frame 20 = .ok (.iconst 0, 1) := by decide +kernel
theorem dX7_frame_21 : decode cX7_frame 21 = .ok (.aload_n 0, 1) := by decide +kernel
theorem dX7_frame_22 : decode cX7_frame 22 = .ok (.getfield 9, 3) := by decide +kernel
theorem dX7_frame_25 : decode cX7_frame 25 = .ok (.iconst 0, 1) := by decide +kernel
theorem dX7_frame_26 : decode cX7_frame 26 = .ok (.iconst 4, 1) := by decide +kernel
theorem dX7_frame_27 : decode cX7_frame 27 = .ok (.invokestatic 84, 3) := by decide +kernel
theorem dX7_frame_30 : decode cX7_frame 30 = .ok (.aload_n 1, 1) := by decide +kernel
theorem dX7_frame_31 : decode cX7_frame 31 = .ok (.getfield 90, 3) := by decide +kernel
theorem dX7_frame_34 : decode cX7_frame 34 = .ok (.iconst 0, 1) := by decide +kernel
theorem dX7_frame_35 : decode cX7_frame 35 = .ok (.aload_n 0, 1) := by decide +kernel
theorem dX7_frame_36 : decode cX7_frame 36 = .ok (.getfield 15, 3) := by decide +kernel
theorem dX7_frame_39 : decode cX7_frame 39 = .ok (.iconst 0, 1) := by decide +kernel
theorem dX7_frame_40 : decode cX7_frame 40 = .ok (.iconst 4, 1) := by decide +kernel
theorem dX7_frame_41 : decode cX7_frame 41 = .ok (.invokestatic 84, 3) := by decide +kernel
theorem dX7_frame_44 : decode cX7_frame 44 = .ok (.aload_n 0, 1) := by decide +kernel
theorem dX7_frame_45 : decode cX7_frame 45 = .ok (.getfield 18, 3) := by decide +kernel
theorem dX7_frame_48 : decode cX7_frame 48 = .ok (.lconst 0, 1) := by decide +kernel
theorem dX7_frame_49 : decode cX7_frame 49 = .ok (.invokestatic 91, 3) := by decide +kernel
theorem dX7_frame_52 : decode cX7_frame 52 = .ok (.aload_n 0, 1) := by decide +kernel
theorem dX7_frame_53 : decode cX7_frame 53 = .ok (.getfield 22, 3) := by decide +kernel
theorem dX7_frame_56 : decode cX7_frame 56 = .ok (.lconst 0, 1) := by decide +kernel
theorem dX7_frame_57 : decode cX7_frame 57 = .ok (.invokestatic 91, 3) := by decide +kernel
theorem dX7_frame_60 : decode cX7_frame 60 = .ok (.return_, 1) := by decide +kernel
theorem dX7_bearPoint_0 : decode cX7_bearPoint 0 = .ok (.iload_n 1, 1) := by decide +kernel
theorem dX7_bearPoint_1 : decode cX7_bearPoint 1 = .ok (.ifCond .lt 22, 3) := by decide +kernel
theorem dX7_bearPoint_4 : decode cX7_bearPoint 4 = .ok (.iload_n 1, 1) := by decide +kernel
theorem dX7_bearPoint_5 : decode cX7_bearPoint 5 = .ok (.aload_n 0, 1) := by decide +kernel
theorem dX7_bearPoint_6 : decode cX7_bearPoint 6 = .ok (.getfield 78, 3) := by decide +kernel
theorem dX7_bearPoint_9 : decode cX7_bearPoint 9 = .ok (.if_icmp .gt 14, 3) := by decide +kernel
theorem dX7_bearPoint_12 : decode cX7_bearPoint 12 = .ok (.aload_n 0, 1) := by decide +kernel
theorem dX7_bearPoint_13 : decode cX7_bearPoint 13 = .ok (.getfield 18, 3) := by decide +kernel
theorem dX7_bearPoint_16 : decode cX7_bearPoint 16 = .ok (.iload_n 1, 1) := by decide +kernel
theorem dX7_bearPoint_17 : decode cX7_bearPoint 17 = .ok (.dup2, 1) := by decide +kernel
theorem dX7_bearPoint_18 : decode cX7_bearPoint 18 = .ok (.laload, 1) := by decide +kernel
theorem dX7_bearPoint_19 : decode cX7_bearPoint 19 = .ok (.iload_n 2, 1) := by decide +kernel
theorem dX7_bearPoint_20 : decode cX7_bearPoint 20 = .ok (.i2l, 1) := by decide +kernel
theorem dX7_bearPoint_21 : decode cX7_bearPoint 21 = .ok (.ladd, 1) := by decide +kernel
theorem dX7_bearPoint_22 : decode cX7_bearPoint 22 = .ok (.lastore, 1) := by decide +kernel
theorem dX7_bearPoint_23 : decode cX7_bearPoint 23 = .ok (.return_, 1) := by decide +kernel
theorem dX7_bearLoads_0 : decode cX7_bearLoads 0 = .ok (.iconst 0, 1) := by decide +kernel
theorem dX7_bearLoads_1 : decode cX7_bearLoads 1 = .ok (.istore_n 2, 1) := by decide +kernel
theorem dX7_bearLoads_2 : decode cX7_bearLoads 2 = .ok (.iload_n 2, 1) := by decide +kernel
theorem dX7_bearLoads_3 : decode cX7_bearLoads 3 = .ok (.aload_n 1, 1) := by decide +kernel
theorem dX7_bearLoads_4 : decode cX7_bearLoads 4 = .ok (.getfield 97, 3) := by decide +kernel
theorem dX7_bearLoads_7 : decode cX7_bearLoads 7 = .ok (.if_icmp .ge 77, 3) := by decide +kernel
theorem dX7_bearLoads_10 : decode cX7_bearLoads 10 = .ok (.aload_n 1, 1) := by decide +kernel
theorem dX7_bearLoads_11 : decode cX7_bearLoads 11 = .ok (.getfield 100, 3) := by decide +kernel
theorem dX7_bearLoads_14 : decode cX7_bearLoads 14 = .ok (.iload_n 2, 1) := by decide +kernel
theorem dX7_bearLoads_15 : decode cX7_bearLoads 15 = .ok (.iaload, 1) := by decide +kernel
theorem dX7_bearLoads_16 : decode cX7_bearLoads 16 = .ok (.iconst 1, 1) := by decide +kernel
theorem dX7_bearLoads_17 : decode cX7_bearLoads 17 = .ok (.if_icmp .ne 22, 3) := by decide +kernel
theorem dX7_bearLoads_20 : decode cX7_bearLoads 20 = .ok (.aload_n 0, 1) := by decide +kernel
theorem dX7_bearLoads_21 : decode cX7_bearLoads 21 = .ok (.aload_n 1, 1) := by decide +kernel
theorem dX7_bearLoads_22 : decode cX7_bearLoads 22 = .ok (.getfield 103, 3) := by decide +kernel
theorem dX7_bearLoads_25 : decode cX7_bearLoads 25 = .ok (.iload_n 2, 1) := by decide +kernel
theorem dX7_bearLoads_26 : decode cX7_bearLoads 26 = .ok (.iaload, 1) := by decide +kernel
theorem dX7_bearLoads_27 : decode cX7_bearLoads 27 = .ok (.aload_n 1, 1) := by decide +kernel
theorem dX7_bearLoads_28 : decode cX7_bearLoads 28 = .ok (.getfield 106, 3) := by decide +kernel
theorem dX7_bearLoads_31 : decode cX7_bearLoads 31 = .ok (.iload_n 2, 1) := by decide +kernel
theorem dX7_bearLoads_32 : decode cX7_bearLoads 32 = .ok (.iaload, 1) := by decide +kernel
theorem dX7_bearLoads_33 : decode cX7_bearLoads 33 = .ok (.invokevirtual 109, 3) := by decide +kernel
theorem dX7_bearLoads_36 : decode cX7_bearLoads 36 = .ok (.goto 42, 3) := by decide +kernel
theorem dX7_bearLoads_39 : decode cX7_bearLoads 39 = .ok (.aload_n 1, 1) := by decide +kernel
theorem dX7_bearLoads_40 : decode cX7_bearLoads 40 = .ok (.getfield 103, 3) := by decide +kernel
theorem dX7_bearLoads_43 : decode cX7_bearLoads 43 = .ok (.iload_n 2, 1) := by decide +kernel
theorem dX7_bearLoads_44 : decode cX7_bearLoads 44 = .ok (.iaload, 1) := by decide +kernel
theorem dX7_bearLoads_45 : decode cX7_bearLoads 45 = .ok (.istore_n 3, 1) := by decide +kernel
theorem dX7_bearLoads_46 : decode cX7_bearLoads 46 = .ok (.iload_n 3, 1) := by decide +kernel
theorem dX7_bearLoads_47 : decode cX7_bearLoads 47 = .ok (.aload_n 1, 1) := by decide +kernel
theorem dX7_bearLoads_48 : decode cX7_bearLoads 48 = .ok (.getfield 113, 3) := by decide +kernel
theorem dX7_bearLoads_51 : decode cX7_bearLoads 51 = .ok (.iload_n 2, 1) := by decide +kernel
theorem dX7_bearLoads_52 : decode cX7_bearLoads 52 = .ok (.iaload, 1) := by decide +kernel
theorem dX7_bearLoads_53 : decode cX7_bearLoads 53 = .ok (.if_icmp .ge 25, 3) := by decide +kernel
theorem dX7_bearLoads_56 : decode cX7_bearLoads 56 = .ok (.aload_n 0, 1) := by decide +kernel
theorem dX7_bearLoads_57 : decode cX7_bearLoads 57 = .ok (.getfield 22, 3) := by decide +kernel
theorem dX7_bearLoads_60 : decode cX7_bearLoads 60 = .ok (.iload_n 3, 1) := by decide +kernel
theorem dX7_bearLoads_61 : decode cX7_bearLoads 61 = .ok (.dup2, 1) := by decide +kernel
theorem dX7_bearLoads_62 : decode cX7_bearLoads 62 = .ok (.laload, 1) := by decide +kernel
theorem dX7_bearLoads_63 : decode cX7_bearLoads 63 = .ok (.aload_n 1, 1) := by decide +kernel
theorem dX7_bearLoads_64 : decode cX7_bearLoads 64 = .ok (.getfield 106, 3) := by decide +kernel
theorem dX7_bearLoads_67 : decode cX7_bearLoads 67 = .ok (.iload_n 2, 1) := by decide +kernel
theorem dX7_bearLoads_68 : decode cX7_bearLoads 68 = .ok (.iaload, 1) := by decide +kernel
theorem dX7_bearLoads_69 : decode cX7_bearLoads 69 = .ok (.i2l, 1) := by decide +kernel
theorem dX7_bearLoads_70 : decode cX7_bearLoads 70 = .ok (.ladd, 1) := by decide +kernel
theorem dX7_bearLoads_71 : decode cX7_bearLoads 71 = .ok (.lastore, 1) := by decide +kernel
theorem dX7_bearLoads_72 : decode cX7_bearLoads 72 = .ok (.iinc 3 1, 3) := by decide +kernel
theorem dX7_bearLoads_75 : decode cX7_bearLoads 75 = .ok (.goto (-29), 3) := by decide +kernel
theorem dX7_bearLoads_78 : decode cX7_bearLoads 78 = .ok (.iinc 2 1, 3) := by decide +kernel
theorem dX7_bearLoads_81 : decode cX7_bearLoads 81 = .ok (.goto (-79), 3) := by decide +kernel
theorem dX7_bearLoads_84 : decode cX7_bearLoads 84 = .ok (.return_, 1) := by decide +kernel
theorem dX7_solve_0 : decode cX7_solve 0 = .ok (.aload_n 0, 1) := by decide +kernel
theorem dX7_solve_1 : decode cX7_solve 1 = .ok (.getfield 82, 3) := by decide +kernel
theorem dX7_solve_4 : decode cX7_solve 4 = .ok (.iconst 2, 1) := by decide +kernel
theorem dX7_solve_5 : decode cX7_solve 5 = .ok (.if_icmp .ge 4, 3) := by decide +kernel
theorem dX7_solve_8 : decode cX7_solve 8 = .ok (.return_, 1) := by decide +kernel
theorem dX7_solve_9 : decode cX7_solve 9 = .ok (.aload_n 0, 1) := by decide +kernel
theorem dX7_solve_10 : decode cX7_solve 10 = .ok (.invokevirtual 116, 3) := by decide +kernel
theorem dX7_solve_13 : decode cX7_solve 13 = .ok (.aload_n 0, 1) := by decide +kernel
theorem dX7_solve_14 : decode cX7_solve 14 = .ok (.invokevirtual 119, 3) := by decide +kernel
theorem dX7_solve_17 : decode cX7_solve 17 = .ok (.aload_n 0, 1) := by decide +kernel
theorem dX7_solve_18 : decode cX7_solve 18 = .ok (.invokevirtual 122, 3) := by decide +kernel
theorem dX7_solve_21 : decode cX7_solve 21 = .ok (.return_, 1) := by decide +kernel
theorem dX7_span_0 : decode cX7_span 0 = .ok (.aload_n 0, 1) := by decide +kernel
theorem dX7_span_1 : decode cX7_span 1 = .ok (.getfield 9, 3) := by decide +kernel
theorem dX7_span_4 : decode cX7_span 4 = .ok (.iload_n 1, 1) := by decide +kernel
theorem dX7_span_5 : decode cX7_span 5 = .ok (.iconst 1, 1) := by decide +kernel
theorem dX7_span_6 : decode cX7_span 6 = .ok (.iadd, 1) := by decide +kernel
theorem dX7_span_7 : decode cX7_span 7 = .ok (.iaload, 1) := by decide +kernel
theorem dX7_span_8 : decode cX7_span 8 = .ok (.aload_n 0, 1) := by decide +kernel
theorem dX7_span_9 : decode cX7_span 9 = .ok (.getfield 9, 3) := by decide +kernel
theorem dX7_span_12 : decode cX7_span 12 = .ok (.iload_n 1, 1) := by decide +kernel
theorem dX7_span_13 : decode cX7_span 13 = .ok (.iaload, 1) := by decide +kernel
theorem dX7_span_14 : decode cX7_span 14 = .ok (.isub, 1) := by decide +kernel
theorem dX7_span_15 : decode cX7_span 15 = .ok (.i2l, 1) := by decide +kernel
theorem dX7_span_16 : decode cX7_span 16 = .ok (.lreturn, 1) := by decide +kernel
theorem dX7_isInner_0 : decode cX7_isInner 0 = .ok (.iload_n 1, 1) := by decide +kernel
theorem dX7_isInner_1 : decode cX7_isInner 1 = .ok (.ifCond .le 17, 3) := by decide +kernel
theorem dX7_isInner_4 : decode cX7_isInner 4 = .ok (.iload_n 1, 1) := by decide +kernel
theorem dX7_isInner_5 : decode cX7_isInner 5 = .ok (.aload_n 0, 1) := by decide +kernel
theorem dX7_isInner_6 : decode cX7_isInner 6 = .ok (.getfield 82, 3) := by decide +kernel
theorem dX7_isInner_9 : decode cX7_isInner 9 = .ok (.iconst 1, 1) := by decide +kernel
theorem dX7_isInner_10 : decode cX7_isInner 10 = .ok (.isub, 1) := by decide +kernel
theorem dX7_isInner_11 : decode cX7_isInner 11 = .ok (.if_icmp .ge 7, 3) := by decide +kernel
theorem dX7_isInner_14 : decode cX7_isInner 14 = .ok (.iconst 1, 1) := by decide +kernel
theorem dX7_isInner_15 : decode cX7_isInner 15 = .ok (.goto 4, 3) := by decide +kernel
theorem dX7_isInner_18 : decode cX7_isInner 18 = .ok (.iconst 0, 1) := by decide +kernel
theorem dX7_isInner_19 : decode cX7_isInner 19 = .ok (.ireturn, 1) := by decide +kernel
theorem dX7_hasRow_0 : decode cX7_hasRow 0 = .ok (.aload_n 0, 1) := by decide +kernel
theorem dX7_hasRow_1 : decode cX7_hasRow 1 = .ok (.iload_n 1, 1) := by decide +kernel
theorem dX7_hasRow_2 : decode cX7_hasRow 2 = .ok (.invokevirtual 125, 3) := by decide +kernel
theorem dX7_hasRow_5 : decode cX7_hasRow 5 = .ok (.ifCond .eq 16, 3) := by decide +kernel
theorem dX7_hasRow_8 : decode cX7_hasRow 8 = .ok (.aload_n 0, 1) := by decide +kernel
theorem dX7_hasRow_9 : decode cX7_hasRow 9 = .ok (.getfield 15, 3) := by decide +kernel
theorem dX7_hasRow_12 : decode cX7_hasRow 12 = .ok (.iload_n 1, 1) := by decide +kernel
theorem dX7_hasRow_13 : decode cX7_hasRow 13 = .ok (.iaload, 1) := by decide +kernel
theorem dX7_hasRow_14 : decode cX7_hasRow 14 = .ok (.ifCond .ne 7, 3) := by decide +kernel
theorem dX7_hasRow_17 : decode cX7_hasRow 17 = .ok (.iconst 1, 1) := by decide +kernel
theorem dX7_hasRow_18 : decode cX7_hasRow 18 = .ok (.goto 4, 3) := by decide +kernel
theorem dX7_hasRow_21 : decode cX7_hasRow 21 = .ok (.iconst 0, 1) := by decide +kernel
theorem dX7_hasRow_22 : decode cX7_hasRow 22 = .ok (.ireturn, 1) := by decide +kernel
theorem dX7_solveOverSupports_0 : decode cX7_solveOverSupports 0 = .ok (.aload_n 0, 1) := by decide +kernel
theorem dX7_solveOverSupports_1 : decode cX7_solveOverSupports 1 = .ok (.lconst 1, 1) := by decide +kernel
theorem dX7_solveOverSupports_2 : decode cX7_solveOverSupports 2 = .ok (.putfield 56, 3) := by decide +kernel
theorem dX7_solveOverSupports_5 : decode cX7_solveOverSupports 5 = .ok (.iconst 0, 1) := by decide +kernel
theorem dX7_solveOverSupports_6 : decode cX7_solveOverSupports 6 = .ok (.istore_n 1, 1) := by decide +kernel
theorem dX7_solveOverSupports_7 : decode cX7_solveOverSupports 7 = .ok (.iload_n 1, 1) := by decide +kernel
theorem dX7_solveOverSupports_8 : decode cX7_solveOverSupports 8 = .ok (.iconst 1, 1) := by decide +kernel
theorem dX7_solveOverSupports_9 : decode cX7_solveOverSupports 9 = .ok (.iadd, 1) := by decide +kernel
theorem dX7_solveOverSupports_10 : decode cX7_solveOverSupports 10 = .ok (.aload_n 0, 1) := by decide +kernel
theorem dX7_solveOverSupports_11 : decode cX7_solveOverSupports 11 = .ok (.getfield 82, 3) := by decide +kernel
theorem dX7_solveOverSupports_14 : decode cX7_solveOverSupports 14 = .ok (.if_icmp .ge 23, 3) := by decide +kernel
theorem dX7_solveOverSupports_17 : decode cX7_solveOverSupports 17 = .ok (.aload_n 0, 1) := by decide +kernel
theorem dX7_solveOverSupports_18 : decode cX7_solveOverSupports 18 = .ok (.dup, 1) := by decide +kernel
theorem dX7_solveOverSupports_19 : decode cX7_solveOverSupports 19 = .ok (.getfield 56, 3) := by decide +kernel
theorem dX7_solveOverSupports_22 : decode cX7_solveOverSupports 22 = .ok (.aload_n 0, 1) := by decide +kernel
theorem dX7_solveOverSupports_23 : decode cX7_solveOverSupports 23 = .ok (.iload_n 1, 1) := by decide +kernel
theorem dX7_solveOverSupports_24 : decode cX7_solveOverSupports 24 = .ok (.invokevirtual 129, 3) := by decide +kernel
theorem dX7_solveOverSupports_27 : decode cX7_solveOverSupports 27 = .ok (.lmul, 1) := by decide +kernel
theorem dX7_solveOverSupports_28 : decode cX7_solveOverSupports 28 = .ok (.putfield 56, 3) := by decide +kernel
theorem dX7_solveOverSupports_31 : decode cX7_solveOverSupports 31 = .ok (.iinc 1 1, 3) := by decide +kernel
theorem dX7_solveOverSupports_34 : decode cX7_solveOverSupports 34 = .ok (.goto (-27), 3) := by decide +kernel
theorem dX7_solveOverSupports_37 : decode cX7_solveOverSupports 37 = .ok (.aload_n 0, 1) := by decide +kernel
theorem dX7_solveOverSupports_38 : decode cX7_solveOverSupports 38 = .ok (.getfield 82, 3) := by decide +kernel
theorem dX7_solveOverSupports_41 : decode cX7_solveOverSupports 41 = .ok (.iconst 1, 1) := by decide +kernel
theorem dX7_solveOverSupports_42 : decode cX7_solveOverSupports 42 = .ok (.isub, 1) := by decide +kernel
theorem dX7_solveOverSupports_43 : decode cX7_solveOverSupports 43 = .ok (.istore_n 1, 1) := by decide +kernel
theorem dX7_solveOverSupports_44 : decode cX7_solveOverSupports 44 = .ok (.ldc2_w 133, 3) := by decide +kernel
theorem dX7_solveOverSupports_47 : decode cX7_solveOverSupports 47 = .ok (.aload_n 0, 1) := by decide +kernel
theorem dX7_solveOverSupports_48 : decode cX7_solveOverSupports 48 = .ok (.getfield 56, 3) := by decide +kernel
theorem dX7_solveOverSupports_51 : decode cX7_solveOverSupports 51 = .ok (.lmul, 1) := by decide +kernel
theorem dX7_solveOverSupports_52 : decode cX7_solveOverSupports 52 = .ok (.aload_n 0, 1) := by decide +kernel
theorem dX7_solveOverSupports_53 : decode cX7_solveOverSupports 53 = .ok (.invokevirtual 135, 3) := by decide +kernel
theorem dX7_solveOverSupports_56 : decode cX7_solveOverSupports 56 = .ok (.lmul, 1) := by decide +kernel
theorem dX7_solveOverSupports_57 : decode cX7_solveOverSupports 57 = .ok (.lstore_n 2, 1) := by decide +kernel
theorem dX7_solveOverSupports_58 : decode cX7_solveOverSupports 58 = .ok (.ldc2_w 133, 3) := by decide +kernel
theorem dX7_solveOverSupports_61 : decode cX7_solveOverSupports 61 = .ok (.aload_n 0, 1) := by decide +kernel
theorem dX7_solveOverSupports_62 : decode cX7_solveOverSupports 62 = .ok (.getfield 56, 3) := by decide +kernel
theorem dX7_solveOverSupports_65 : decode cX7_solveOverSupports 65 = .ok (.lmul, 1) := by decide +kernel
theorem dX7_solveOverSupports_66 : decode cX7_solveOverSupports 66 = .ok (.aload_n 0, 1) := by decide +kernel
theorem dX7_solveOverSupports_67 : decode cX7_solveOverSupports 67 = .ok (.invokevirtual 139, 3) := by decide +kernel
theorem dX7_solveOverSupports_70 : decode cX7_solveOverSupports 70 = .ok (.lmul, 1) := by decide +kernel
theorem dX7_solveOverSupports_71 : decode cX7_solveOverSupports 71 = .ok (.lstore 4, 2) := by decide +kernel
theorem dX7_solveOverSupports_73 : decode cX7_solveOverSupports 73 = .ok (.lconst 1, 1) := by decide +kernel
theorem dX7_solveOverSupports_74 : decode cX7_solveOverSupports 74 = .ok (.lstore 6, 2) := by decide +kernel
theorem dX7_solveOverSupports_76 : decode cX7_solveOverSupports 76 = .ok (.lconst 0, 1) := by decide +kernel
theorem dX7_solveOverSupports_77 : decode cX7_solveOverSupports 77 = .ok (.lstore 8, 2) := by decide +kernel
theorem dX7_solveOverSupports_79 : decode cX7_solveOverSupports 79 = .ok (.aload_n 0, 1) := by decide +kernel
theorem dX7_solveOverSupports_80 : decode cX7_solveOverSupports 80 = .ok (.iconst 1, 1) := by decide +kernel
theorem dX7_solveOverSupports_81 : decode cX7_solveOverSupports 81 = .ok (.invokevirtual 142, 3) := by decide +kernel
theorem dX7_solveOverSupports_84 : decode cX7_solveOverSupports 84 = .ok (.ifCond .eq 54, 3) := by decide +kernel
theorem dX7_solveOverSupports_87 : decode cX7_solveOverSupports 87 = .ok (.ldc2_w 133, 3) := by decide +kernel
theorem dX7_solveOverSupports_90 : decode cX7_solveOverSupports 90 = .ok (.aload_n 0, 1) := by decide +kernel
theorem dX7_solveOverSupports_91 : decode cX7_solveOverSupports 91 = .ok (.iconst 0, 1) := by decide +kernel
theorem dX7_solveOverSupports_92 : decode cX7_solveOverSupports 92 = .ok (.invokevirtual 129, 3) := by decide +kernel
theorem dX7_solveOverSupports_95 : decode cX7_solveOverSupports 95 = .ok (.aload_n 0, 1) := by decide +kernel
theorem dX7_solveOverSupports_96 : decode cX7_solveOverSupports 96 = .ok (.iconst 1, 1) := by decide +kernel
theorem dX7_solveOverSupports_97 : decode cX7_solveOverSupports 97 = .ok (.invokevirtual 129, 3) := by decide +kernel
theorem dX7_solveOverSupports_100 : decode cX7_solveOverSupports 100 = .ok (.ladd, 1) := by decide +kernel
theorem dX7_solveOverSupports_101 : decode cX7_solveOverSupports 101 = .ok (.lmul, 1) := by decide +kernel
theorem dX7_solveOverSupports_102 : decode cX7_solveOverSupports 102 = .ok (.lstore 6, 2) := by decide +kernel
theorem dX7_solveOverSupports_104 : decode cX7_solveOverSupports 104 = .ok (.aload_n 0, 1) := by decide +kernel
theorem dX7_solveOverSupports_105 : decode cX7_solveOverSupports 105 = .ok (.iconst 1, 1) := by decide +kernel
theorem dX7_solveOverSupports_106 : decode cX7_solveOverSupports 106 = .ok (.invokevirtual 145, 3) := by decide +kernel
theorem dX7_solveOverSupports_109 : decode cX7_solveOverSupports 109 = .ok (.lneg, 1) := by decide +kernel
theorem dX7_solveOverSupports_110 : decode cX7_solveOverSupports 110 = .ok (.aload_n 0, 1) := by decide +kernel
theorem dX7_solveOverSupports_111 : decode cX7_solveOverSupports 111 = .ok (.iconst 0, 1) := by decide +kernel
theorem dX7_solveOverSupports_112 : decode cX7_solveOverSupports 112 = .ok (.invokevirtual 129, 3) := by decide +kernel
theorem dX7_solveOverSupports_115 : decode cX7_solveOverSupports 115 = .ok (.lload_n 2, 1) := by decide +kernel
theorem dX7_solveOverSupports_116 : decode cX7_solveOverSupports 116 = .ok (.lmul, 1) := by decide +kernel
theorem dX7_solveOverSupports_117 : decode cX7_solveOverSupports 117 = .ok (.lsub, 1) := by decide +kernel
theorem dX7_solveOverSupports_118 : decode cX7_solveOverSupports 118 = .ok (.iload_n 1, 1) := by decide +kernel
theorem dX7_solveOverSupports_119 : decode cX7_solveOverSupports 119 = .ok (.iconst 2, 1) := by decide +kernel
theorem dX7_solveOverSupports_120 : decode cX7_solveOverSupports 120 = .ok (.if_icmp .ne 14, 3) := by decide +kernel
theorem dX7_solveOverSupports_123 : decode cX7_solveOverSupports 123 = .ok (.aload_n 0, 1) := by decide +kernel
theorem dX7_solveOverSupports_124 : decode cX7_solveOverSupports 124 = .ok (.iconst 1, 1) := by decide +kernel
theorem dX7_solveOverSupports_125 : decode cX7_solveOverSupports 125 = .ok (.invokevirtual 129, 3) := by decide +kernel
theorem dX7_solveOverSupports_128 : decode cX7_solveOverSupports 128 = .ok (.lload 4, 2) := by decide +kernel
theorem dX7_solveOverSupports_130 : decode cX7_solveOverSupports 130 = .ok (.lmul, 1) := by decide +kernel
theorem dX7_solveOverSupports_131 : decode cX7_solveOverSupports 131 = .ok (.goto 4, 3) := by decide +kernel
theorem dX7_solveOverSupports_134 : decode cX7_solveOverSupports 134 = .ok (.lconst 0, 1) := by decide +kernel
theorem dX7_solveOverSupports_135 : decode cX7_solveOverSupports 135 = .ok (.lsub, 1) := by decide +kernel
theorem dX7_solveOverSupports_136 : decode cX7_solveOverSupports 136 = .ok (.lstore 8, 2) := by decide +kernel
theorem dX7_solveOverSupports_138 : decode cX7_solveOverSupports 138 = .ok (.lconst 1, 1) := by decide +kernel
theorem dX7_solveOverSupports_139 : decode cX7_solveOverSupports 139 = .ok (.lstore 10, 2) := by decide +kernel
theorem dX7_solveOverSupports_141 : decode cX7_solveOverSupports 141 = .ok (.lconst 0, 1) := by decide +kernel
theorem dX7_solveOverSupports_142 : decode cX7_solveOverSupports 142 = .ok (.lstore 12, 2) := by decide +kernel
theorem dX7_solveOverSupports_144 : decode cX7_solveOverSupports 144 = .ok (.aload_n 0, 1) := by decide +kernel
theorem dX7_solveOverSupports_145 : decode cX7_solveOverSupports 145 = .ok (.iconst 2, 1) := by decide +kernel
theorem dX7_solveOverSupports_146 : decode cX7_solveOverSupports 146 = .ok (.invokevirtual 142, 3) := by decide +kernel
theorem dX7_solveOverSupports_149 : decode cX7_solveOverSupports 149 = .ok (.ifCond .eq 37, 3) := by decide +kernel
theorem dX7_solveOverSupports_152 : decode cX7_solveOverSupports 152 = .ok (.ldc2_w 133, 3) := by decide +kernel
theorem dX7_solveOverSupports_155 : decode cX7_solveOverSupports 155 = .ok (.aload_n 0, 1) := by decide +kernel
theorem dX7_solveOverSupports_156 : decode cX7_solveOverSupports 156 = .ok (.iconst 1, 1) := by decide +kernel
theorem dX7_solveOverSupports_157 : decode cX7_solveOverSupports 157 = .ok (.invokevirtual 129, 3) := by decide +kernel
theorem dX7_solveOverSupports_160 : decode cX7_solveOverSupports 160 = .ok (.aload_n 0, 1) := by decide +kernel
theorem dX7_solveOverSupports_161 : decode cX7_solveOverSupports 161 = .ok (.iconst 2, 1) := by decide +kernel
theorem dX7_solveOverSupports_162 : decode cX7_solveOverSupports 162 = .ok (.invokevirtual 129, 3) := by decide +kernel
theorem dX7_solveOverSupports_165 : decode cX7_solveOverSupports 165 = .ok (.ladd, 1) := by decide +kernel
theorem dX7_solveOverSupports_166 : decode cX7_solveOverSupports 166 = .ok (.lmul, 1) := by decide +kernel
theorem dX7_solveOverSupports_167 : decode cX7_solveOverSupports 167 = .ok (.lstore 10, 2) := by decide +kernel
theorem dX7_solveOverSupports_169 : decode cX7_solveOverSupports 169 = .ok (.aload_n 0, 1) := by decide +kernel
theorem dX7_solveOverSupports_170 : decode cX7_solveOverSupports 170 = .ok (.iconst 2, 1) := by decide +kernel
theorem dX7_solveOverSupports_171 : decode cX7_solveOverSupports 171 = .ok (.invokevirtual 145, 3) := by decide +kernel
theorem dX7_solveOverSupports_174 : decode cX7_solveOverSupports 174 = .ok (.lneg, 1) := by decide +kernel
theorem dX7_solveOverSupports_175 : decode cX7_solveOverSupports 175 = .ok (.aload_n 0, 1) := by decide +kernel
theorem dX7_solveOverSupports_176 : decode cX7_solveOverSupports 176 = .ok (.iconst 2, 1) := by decide +kernel
theorem dX7_solveOverSupports_177 : decode cX7_solveOverSupports 177 = .ok (.invokevirtual 129, 3) := by decide +kernel
theorem dX7_solveOverSupports_180 : decode cX7_solveOverSupports 180 = .ok (.lload 4, 2) := by decide +kernel
theorem dX7_solveOverSupports_182 : decode cX7_solveOverSupports 182 = .ok (.lmul, 1) := by decide +kernel
theorem dX7_solveOverSupports_183 : decode cX7_solveOverSupports 183 = .ok (.lsub, 1) := by decide +kernel
theorem dX7_solveOverSupports_184 : decode cX7_solveOverSupports 184 = .ok (.lstore 12, 2) := by decide +kernel
theorem dX7_solveOverSupports_186 : decode cX7_solveOverSupports 186 = .ok (.aload_n 0, 1) := by decide +kernel
theorem dX7_solveOverSupports_187 : decode cX7_solveOverSupports 187 = .ok (.iconst 1, 1) := by decide +kernel
theorem dX7_solveOverSupports_188 : decode cX7_solveOverSupports 188 = .ok (.invokevirtual 142, 3) := by decide +kernel
theorem dX7_solveOverSupports_191 : decode cX7_solveOverSupports 191 = .ok (.ifCond .eq 19, 3) := by decide +kernel
theorem dX7_solveOverSupports_194 : decode cX7_solveOverSupports 194 = .ok (.aload_n 0, 1) := by decide +kernel
theorem dX7_solveOverSupports_195 : decode cX7_solveOverSupports 195 = .ok (.iconst 2, 1) := by decide +kernel
theorem dX7_solveOverSupports_196 : decode cX7_solveOverSupports 196 = .ok (.invokevirtual 142, 3) := by decide +kernel
theorem dX7_solveOverSupports_199 : decode cX7_solveOverSupports 199 = .ok (.ifCond .eq 11, 3) := by decide +kernel
theorem dX7_solveOverSupports_202 : decode cX7_solveOverSupports 202 = .ok (.aload_n 0, 1) := by decide +kernel
theorem dX7_solveOverSupports_203 : decode cX7_solveOverSupports 203 = .ok (.iconst 1, 1) := by decide +kernel
theorem dX7_solveOverSupports_204 : decode cX7_solveOverSupports 204 = .ok (.invokevirtual 129, 3) := by decide +kernel
theorem dX7_solveOverSupports_207 : decode cX7_solveOverSupports 207 = .ok (.goto 4, 3) := by decide +kernel
theorem dX7_solveOverSupports_210 : decode cX7_solveOverSupports 210 = .ok (.lconst 0, 1) := by decide +kernel
theorem dX7_solveOverSupports_211 : decode cX7_solveOverSupports 211 = .ok (.lstore 14, 2) := by decide +kernel
theorem dX7_solveOverSupports_213 : decode cX7_solveOverSupports 213 = .ok (.lload 6, 2) := by decide +kernel
theorem dX7_solveOverSupports_215 : decode cX7_solveOverSupports 215 = .ok (.lload 10, 2) := by decide +kernel
theorem dX7_solveOverSupports_217 : decode cX7_solveOverSupports 217 = .ok (.lmul, 1) := by decide +kernel
theorem dX7_solveOverSupports_218 : decode cX7_solveOverSupports 218 = .ok (.lload 14, 2) := by decide +kernel
theorem dX7_solveOverSupports_220 : decode cX7_solveOverSupports 220 = .ok (.lload 14, 2) := by decide +kernel
theorem dX7_solveOverSupports_222 : decode cX7_solveOverSupports 222 = .ok (.lmul, 1) := by decide +kernel
theorem dX7_solveOverSupports_223 : decode cX7_solveOverSupports 223 = .ok (.lsub, 1) := by decide +kernel
theorem dX7_solveOverSupports_224 : decode cX7_solveOverSupports 224 = .ok (.lstore 16, 2) := by decide +kernel
theorem dX7_solveOverSupports_226 : decode cX7_solveOverSupports 226 = .ok (.aload_n 0, 1) := by decide +kernel
theorem dX7_solveOverSupports_227 : decode cX7_solveOverSupports 227 = .ok (.getfield 59, 3) := by decide +kernel
theorem dX7_solveOverSupports_230 : decode cX7_solveOverSupports 230 = .ok (.iconst 1, 1) := by decide +kernel
theorem dX7_solveOverSupports_231 : decode cX7_solveOverSupports 231 = .ok (.lload 10, 2) := by decide +kernel
theorem dX7_solveOverSupports_233 : decode cX7_solveOverSupports 233 = .ok (.lload 8, 2) := by decide +kernel
theorem dX7_solveOverSupports_235 : decode cX7_solveOverSupports 235 = .ok (.lmul, 1) := by decide +kernel
theorem dX7_solveOverSupports_236 : decode cX7_solveOverSupports 236 = .ok (.lload 14, 2) := by decide +kernel
theorem dX7_solveOverSupports_238 : decode cX7_solveOverSupports 238 = .ok (.lload 12, 2) := by decide +kernel
theorem dX7_solveOverSupports_240 : decode cX7_solveOverSupports 240 = .ok (.lmul, 1) := by decide +kernel
theorem dX7_solveOverSupports_241 : decode cX7_solveOverSupports 241 = .ok (.lsub, 1) := by decide +kernel
theorem dX7_solveOverSupports_242 : decode cX7_solveOverSupports 242 = .ok (.aload_n 0, 1) := by decide +kernel
theorem dX7_solveOverSupports_243 : decode cX7_solveOverSupports 243 = .ok (.getfield 56, 3) := by decide +kernel
theorem dX7_solveOverSupports_246 : decode cX7_solveOverSupports 246 = .ok (.lmul, 1) := by decide +kernel
theorem dX7_solveOverSupports_247 : decode cX7_solveOverSupports 247 = .ok (.lastore, 1) := by decide +kernel
theorem dX7_solveOverSupports_248 : decode cX7_solveOverSupports 248 = .ok (.aload_n 0, 1) := by decide +kernel
theorem dX7_solveOverSupports_249 : decode cX7_solveOverSupports 249 = .ok (.getfield 59, 3) := by decide +kernel
theorem dX7_solveOverSupports_252 : decode cX7_solveOverSupports 252 = .ok (.iconst 2, 1) := by decide +kernel
theorem dX7_solveOverSupports_253 : decode cX7_solveOverSupports 253 = .ok (.lload 6, 2) := by decide +kernel
theorem dX7_solveOverSupports_255 : decode cX7_solveOverSupports 255 = .ok (.lload 12, 2) := by decide +kernel
theorem dX7_solveOverSupports_257 : decode cX7_solveOverSupports 257 = .ok (.lmul, 1) := by decide +kernel
theorem dX7_solveOverSupports_258 : decode cX7_solveOverSupports 258 = .ok (.lload 14, 2) := by decide +kernel
theorem dX7_solveOverSupports_260 : decode cX7_solveOverSupports 260 = .ok (.lload 8, 2) := by decide +kernel
theorem dX7_solveOverSupports_262 : decode cX7_solveOverSupports 262 = .ok (.lmul, 1) := by decide +kernel
theorem dX7_solveOverSupports_263 : decode cX7_solveOverSupports 263 = .ok (.lsub, 1) := by decide +kernel
theorem dX7_solveOverSupports_264 : decode cX7_solveOverSupports 264 = .ok (.aload_n 0, 1) := by decide +kernel
theorem dX7_solveOverSupports_265 : decode cX7_solveOverSupports 265 = .ok (.getfield 56, 3) := by decide +kernel
theorem dX7_solveOverSupports_268 : decode cX7_solveOverSupports 268 = .ok (.lmul, 1) := by decide +kernel
theorem dX7_solveOverSupports_269 : decode cX7_solveOverSupports 269 = .ok (.lastore, 1) := by decide +kernel
theorem dX7_solveOverSupports_270 : decode cX7_solveOverSupports 270 = .ok (.aload_n 0, 1) := by decide +kernel
theorem dX7_solveOverSupports_271 : decode cX7_solveOverSupports 271 = .ok (.getfield 59, 3) := by decide +kernel
theorem dX7_solveOverSupports_274 : decode cX7_solveOverSupports 274 = .ok (.iconst 0, 1) := by decide +kernel
theorem dX7_solveOverSupports_275 : decode cX7_solveOverSupports 275 = .ok (.lload_n 2, 1) := by decide +kernel
theorem dX7_solveOverSupports_276 : decode cX7_solveOverSupports 276 = .ok (.lload 16, 2) := by decide +kernel
theorem dX7_solveOverSupports_278 : decode cX7_solveOverSupports 278 = .ok (.lmul, 1) := by decide +kernel
theorem dX7_solveOverSupports_279 : decode cX7_solveOverSupports 279 = .ok (.aload_n 0, 1) := by decide +kernel
theorem dX7_solveOverSupports_280 : decode cX7_solveOverSupports 280 = .ok (.getfield 56, 3) := by decide +kernel
theorem dX7_solveOverSupports_283 : decode cX7_solveOverSupports 283 = .ok (.lmul, 1) := by decide +kernel
theorem dX7_solveOverSupports_284 : decode cX7_solveOverSupports 284 = .ok (.lastore, 1) := by decide +kernel
theorem dX7_solveOverSupports_285 : decode cX7_solveOverSupports 285 = .ok (.aload_n 0, 1) := by decide +kernel
theorem dX7_solveOverSupports_286 : decode cX7_solveOverSupports 286 = .ok (.getfield 59, 3) := by decide +kernel
theorem dX7_solveOverSupports_289 : decode cX7_solveOverSupports 289 = .ok (.iload_n 1, 1) := by decide +kernel
theorem dX7_solveOverSupports_290 : decode cX7_solveOverSupports 290 = .ok (.lload 4, 2) := by decide +kernel
theorem dX7_solveOverSupports_292 : decode cX7_solveOverSupports 292 = .ok (.lload 16, 2) := by decide +kernel
theorem dX7_solveOverSupports_294 : decode cX7_solveOverSupports 294 = .ok (.lmul, 1) := by decide +kernel
theorem dX7_solveOverSupports_295 : decode cX7_solveOverSupports 295 = .ok (.aload_n 0, 1) := by decide +kernel
theorem dX7_solveOverSupports_296 : decode cX7_solveOverSupports 296 = .ok (.getfield 56, 3) := by decide +kernel
theorem dX7_solveOverSupports_299 : decode cX7_solveOverSupports 299 = .ok (.lmul, 1) := by decide +kernel
theorem dX7_solveOverSupports_300 : decode cX7_solveOverSupports 300 = .ok (.lastore, 1) := by decide +kernel
theorem dX7_solveOverSupports_301 : decode cX7_solveOverSupports 301 = .ok (.aload_n 0, 1) := by decide +kernel
theorem dX7_solveOverSupports_302 : decode cX7_solveOverSupports 302 = .ok (.ldc2_w 148, 3) := by decide +kernel
theorem dX7_solveOverSupports_305 : decode cX7_solveOverSupports 305 = .ok (.aload_n 0, 1) := by decide +kernel
theorem dX7_solveOverSupports_306 : decode cX7_solveOverSupports 306 = .ok (.getfield 56, 3) := by decide +kernel
theorem dX7_solveOverSupports_309 : decode cX7_solveOverSupports 309 = .ok (.lmul, 1) := by decide +kernel
theorem dX7_solveOverSupports_310 : decode cX7_solveOverSupports 310 = .ok (.aload_n 0, 1) := by decide +kernel
theorem dX7_solveOverSupports_311 : decode cX7_solveOverSupports 311 = .ok (.getfield 56, 3) := by decide +kernel
theorem dX7_solveOverSupports_314 : decode cX7_solveOverSupports 314 = .ok (.lmul, 1) := by decide +kernel
theorem dX7_solveOverSupports_315 : decode cX7_solveOverSupports 315 = .ok (.lload 16, 2) := by decide +kernel
theorem dX7_solveOverSupports_317 : decode cX7_solveOverSupports 317 = .ok (.lmul, 1) := by decide +kernel
theorem dX7_solveOverSupports_318 : decode cX7_solveOverSupports 318 = .ok (.putfield 25, 3) := by decide +kernel
theorem dX7_solveOverSupports_321 : decode cX7_solveOverSupports 321 = .ok (.return_, 1) := by decide +kernel
theorem dX7_twiceOverFirst_0 : decode cX7_twiceOverFirst 0 = .ok (.lconst 0, 1) := by decide +kernel
theorem dX7_twiceOverFirst_1 : decode cX7_twiceOverFirst 1 = .ok (.lstore_n 1, 1) := by decide +kernel
theorem dX7_twiceOverFirst_2 : decode cX7_twiceOverFirst 2 = .ok (.iconst 0, 1) := by decide +kernel
theorem dX7_twiceOverFirst_3 : decode cX7_twiceOverFirst 3 = .ok (.istore_n 3, 1) := by decide +kernel
theorem dX7_twiceOverFirst_4 : decode cX7_twiceOverFirst 4 = .ok (.iload_n 3, 1) := by decide +kernel
theorem dX7_twiceOverFirst_5 : decode cX7_twiceOverFirst 5 = .ok (.aload_n 0, 1) := by decide +kernel
theorem dX7_twiceOverFirst_6 : decode cX7_twiceOverFirst 6 = .ok (.getfield 9, 3) := by decide +kernel
theorem dX7_twiceOverFirst_9 : decode cX7_twiceOverFirst 9 = .ok (.iconst 0, 1) := by decide +kernel
theorem dX7_twiceOverFirst_10 : decode cX7_twiceOverFirst 10 = .ok (.iaload, 1) := by decide +kernel
theorem dX7_twiceOverFirst_11 : decode cX7_twiceOverFirst 11 = .ok (.if_icmp .ge 52, 3) := by decide +kernel
theorem dX7_twiceOverFirst_14 : decode cX7_twiceOverFirst 14 = .ok (.aload_n 0, 1) := by decide +kernel
theorem dX7_twiceOverFirst_15 : decode cX7_twiceOverFirst 15 = .ok (.getfield 9, 3) := by decide +kernel
theorem dX7_twiceOverFirst_18 : decode cX7_twiceOverFirst 18 = .ok (.iconst 0, 1) := by decide +kernel
theorem dX7_twiceOverFirst_19 : decode cX7_twiceOverFirst 19 = .ok (.iaload, 1) := by decide +kernel
theorem dX7_twiceOverFirst_20 : decode cX7_twiceOverFirst 20 = .ok (.iload_n 3, 1) := by decide +kernel
theorem dX7_twiceOverFirst_21 : decode cX7_twiceOverFirst 21 = .ok (.isub, 1) := by decide +kernel
theorem dX7_twiceOverFirst_22 : decode cX7_twiceOverFirst 22 = .ok (.i2l, 1) := by decide +kernel
theorem dX7_twiceOverFirst_23 : decode cX7_twiceOverFirst 23 = .ok (.lstore 4, 2) := by decide +kernel
theorem dX7_twiceOverFirst_25 : decode cX7_twiceOverFirst 25 = .ok (.lload_n 1, 1) := by decide +kernel
theorem dX7_twiceOverFirst_26 : decode cX7_twiceOverFirst 26 = .ok (.ldc2_w 133, 3) := by decide +kernel
theorem dX7_twiceOverFirst_29 : decode cX7_twiceOverFirst 29 = .ok (.aload_n 0, 1) := by decide +kernel
theorem dX7_twiceOverFirst_30 : decode cX7_twiceOverFirst 30 = .ok (.getfield 18, 3) := by decide +kernel
theorem dX7_twiceOverFirst_33 : decode cX7_twiceOverFirst 33 = .ok (.iload_n 3, 1) := by decide +kernel
theorem dX7_twiceOverFirst_34 : decode cX7_twiceOverFirst 34 = .ok (.laload, 1) := by decide +kernel
theorem dX7_twiceOverFirst_35 : decode cX7_twiceOverFirst 35 = .ok (.lmul, 1) := by decide +kernel
theorem dX7_twiceOverFirst_36 : decode cX7_twiceOverFirst 36 = .ok (.lload 4, 2) := by decide +kernel
theorem dX7_twiceOverFirst_38 : decode cX7_twiceOverFirst 38 = .ok (.lmul, 1) := by decide +kernel
theorem dX7_twiceOverFirst_39 : decode cX7_twiceOverFirst 39 = .ok (.aload_n 0, 1) := by decide +kernel
theorem dX7_twiceOverFirst_40 : decode cX7_twiceOverFirst 40 = .ok (.getfield 22, 3) := by decide +kernel
theorem dX7_twiceOverFirst_43 : decode cX7_twiceOverFirst 43 = .ok (.iload_n 3, 1) := by decide +kernel
theorem dX7_twiceOverFirst_44 : decode cX7_twiceOverFirst 44 = .ok (.laload, 1) := by decide +kernel
theorem dX7_twiceOverFirst_45 : decode cX7_twiceOverFirst 45 = .ok (.ldc2_w 133, 3) := by decide +kernel
theorem dX7_twiceOverFirst_48 : decode cX7_twiceOverFirst 48 = .ok (.lload 4, 2) := by decide +kernel
theorem dX7_twiceOverFirst_50 : decode cX7_twiceOverFirst 50 = .ok (.lmul, 1) := by decide +kernel
theorem dX7_twiceOverFirst_51 : decode cX7_twiceOverFirst 51 = .ok (.lconst 1, 1) := by decide +kernel
theorem dX7_twiceOverFirst_52 : decode cX7_twiceOverFirst 52 = .ok (.lsub, 1) := by decide +kernel
theorem dX7_twiceOverFirst_53 : decode cX7_twiceOverFirst 53 = .ok (.lmul, 1) := by decide +kernel
theorem dX7_twiceOverFirst_54 : decode cX7_twiceOverFirst 54 = .ok (.ladd, 1) := by decide +kernel
theorem dX7_twiceOverFirst_55 : decode cX7_twiceOverFirst 55 = .ok (.lsub, 1) := by decide +kernel
theorem dX7_twiceOverFirst_56 : decode cX7_twiceOverFirst 56 = .ok (.lstore_n 1, 1) := by decide +kernel
theorem dX7_twiceOverFirst_57 : decode cX7_twiceOverFirst 57 = .ok (.iinc 3 1, 3) := by decide +kernel
theorem dX7_twiceOverFirst_60 : decode cX7_twiceOverFirst 60 = .ok (.goto (-56), 3) := by decide +kernel
theorem dX7_twiceOverFirst_63 : decode cX7_twiceOverFirst 63 = .ok (.lload_n 1, 1) := by decide +kernel
theorem dX7_twiceOverFirst_64 : decode cX7_twiceOverFirst 64 = .ok (.lreturn, 1) := by decide +kernel
theorem dX7_twiceOverLast_0 : decode cX7_twiceOverLast 0 = .ok (.aload_n 0, 1) := by decide +kernel
theorem dX7_twiceOverLast_1 : decode cX7_twiceOverLast 1 = .ok (.getfield 9, 3) := by decide +kernel
theorem dX7_twiceOverLast_4 : decode cX7_twiceOverLast 4 = .ok (.aload_n 0, 1) := by decide +kernel
theorem dX7_twiceOverLast_5 : decode cX7_twiceOverLast 5 = .ok (.getfield 82, 3) := by decide +kernel
theorem dX7_twiceOverLast_8 : decode cX7_twiceOverLast 8 = .ok (.iconst 1, 1) := by decide +kernel
theorem dX7_twiceOverLast_9 : decode cX7_twiceOverLast 9 = .ok (.isub, 1) := by decide +kernel
theorem dX7_twiceOverLast_10 : decode cX7_twiceOverLast 10 = .ok (.iaload, 1) := by decide +kernel
theorem dX7_twiceOverLast_11 : decode cX7_twiceOverLast 11 = .ok (.istore_n 1, 1) := by decide +kernel
theorem dX7_twiceOverLast_12 : decode cX7_twiceOverLast 12 = .ok (.lconst 0, 1) := by decide +kernel
theorem dX7_twiceOverLast_13 : decode cX7_twiceOverLast 13 = .ok (.lstore_n 2, 1) := by decide +kernel
theorem dX7_twiceOverLast_14 : decode cX7_twiceOverLast 14 = .ok (.iload_n 1, 1) := by decide +kernel
theorem dX7_twiceOverLast_15 : decode cX7_twiceOverLast 15 = .ok (.istore 4, 2) := by decide +kernel
theorem dX7_twiceOverLast_17 : decode cX7_twiceOverLast 17 = .ok (.iload 4, 2) := by decide +kernel
theorem dX7_twiceOverLast_19 : decode cX7_twiceOverLast 19 = .ok (.aload_n 0, 1) := by decide +kernel
theorem dX7_twiceOverLast_20 : decode cX7_twiceOverLast 20 = .ok (.getfield 78, 3) := by decide +kernel
theorem dX7_twiceOverLast_23 : decode cX7_twiceOverLast 23 = .ok (.if_icmp .ge 54, 3) := by decide +kernel
theorem dX7_twiceOverLast_26 : decode cX7_twiceOverLast 26 = .ok (.iload 4, 2) := by decide +kernel
theorem dX7_twiceOverLast_28 : decode cX7_twiceOverLast 28 = .ok (.iconst 1, 1) := by decide +kernel
theorem dX7_twiceOverLast_29 : decode cX7_twiceOverLast 29 = .ok (.iadd, 1) := by decide +kernel
theorem dX7_twiceOverLast_30 : decode cX7_twiceOverLast 30 = .ok (.iload_n 1, 1) := by decide +kernel
theorem dX7_twiceOverLast_31 : decode cX7_twiceOverLast 31 = .ok (.isub, 1) := by decide +kernel
theorem dX7_twiceOverLast_32 : decode cX7_twiceOverLast 32 = .ok (.i2l, 1) := by decide +kernel
theorem dX7_twiceOverLast_33 : decode cX7_twiceOverLast 33 = .ok (.lstore 5, 2) := by decide +kernel
theorem dX7_twiceOverLast_35 : decode cX7_twiceOverLast 35 = .ok (.lload_n 2, 1) := by decide +kernel
theorem dX7_twiceOverLast_36 : decode cX7_twiceOverLast 36 = .ok (.ldc2_w 133, 3) := by decide +kernel
theorem dX7_twiceOverLast_39 : decode cX7_twiceOverLast 39 = .ok (.aload_n 0, 1) := by decide +kernel
theorem dX7_twiceOverLast_40 : decode cX7_twiceOverLast 40 = .ok (.getfield 18, 3) := by decide +kernel
theorem dX7_twiceOverLast_43 : decode cX7_twiceOverLast 43 = .ok (.iload 4, 2) := by decide +kernel
theorem dX7_twiceOverLast_45 : decode cX7_twiceOverLast 45 = .ok (.iconst 1, 1) := by decide +kernel
theorem dX7_twiceOverLast_46 : decode cX7_twiceOverLast 46 = .ok (.iadd, 1) := by decide +kernel
theorem dX7_twiceOverLast_47 : decode cX7_twiceOverLast 47 = .ok (.laload, 1) := by decide +kernel
theorem dX7_twiceOverLast_48 : decode cX7_twiceOverLast 48 = .ok (.lmul, 1) := by decide +kernel
theorem dX7_twiceOverLast_49 : decode cX7_twiceOverLast 49 = .ok (.lload 5, 2) := by decide +kernel
theorem dX7_twiceOverLast_51 : decode cX7_twiceOverLast 51 = .ok (.lmul, 1) := by decide +kernel
theorem dX7_twiceOverLast_52 : decode cX7_twiceOverLast 52 = .ok (.aload_n 0, 1) := by decide +kernel
theorem dX7_twiceOverLast_53 : decode cX7_twiceOverLast 53 = .ok (.getfield 22, 3) := by decide +kernel
theorem dX7_twiceOverLast_56 : decode cX7_twiceOverLast 56 = .ok (.iload 4, 2) := by decide +kernel
theorem dX7_twiceOverLast_58 : decode cX7_twiceOverLast 58 = .ok (.laload, 1) := by decide +kernel
theorem dX7_twiceOverLast_59 : decode cX7_twiceOverLast 59 = .ok (.ldc2_w 133, 3) := by decide +kernel
theorem dX7_twiceOverLast_62 : decode cX7_twiceOverLast 62 = .ok (.lload 5, 2) := by decide +kernel
theorem dX7_twiceOverLast_64 : decode cX7_twiceOverLast 64 = .ok (.lmul, 1) := by decide +kernel
theorem dX7_twiceOverLast_65 : decode cX7_twiceOverLast 65 = .ok (.lconst 1, 1) := by decide +kernel
theorem dX7_twiceOverLast_66 : decode cX7_twiceOverLast 66 = .ok (.lsub, 1) := by decide +kernel
theorem dX7_twiceOverLast_67 : decode cX7_twiceOverLast 67 = .ok (.lmul, 1) := by decide +kernel
theorem dX7_twiceOverLast_68 : decode cX7_twiceOverLast 68 = .ok (.ladd, 1) := by decide +kernel
theorem dX7_twiceOverLast_69 : decode cX7_twiceOverLast 69 = .ok (.lsub, 1) := by decide +kernel
theorem dX7_twiceOverLast_70 : decode cX7_twiceOverLast 70 = .ok (.lstore_n 2, 1) := by decide +kernel
theorem dX7_twiceOverLast_71 : decode cX7_twiceOverLast 71 = .ok (.iinc 4 1, 3) := by decide +kernel
theorem dX7_twiceOverLast_74 : decode cX7_twiceOverLast 74 = .ok (.goto (-57), 3) := by decide +kernel
theorem dX7_twiceOverLast_77 : decode cX7_twiceOverLast 77 = .ok (.lload_n 2, 1) := by decide +kernel
theorem dX7_twiceOverLast_78 : decode cX7_twiceOverLast 78 = .ok (.lreturn, 1) := by decide +kernel
theorem dX7_leans_0 : decode cX7_leans 0 = .ok (.aload_n 0, 1) := by decide +kernel
theorem dX7_leans_1 : decode cX7_leans 1 = .ok (.iload_n 1, 1) := by decide +kernel
theorem dX7_leans_2 : decode cX7_leans 2 = .ok (.iconst 1, 1) := by decide +kernel
theorem dX7_leans_3 : decode cX7_leans 3 = .ok (.isub, 1) := by decide +kernel
theorem dX7_leans_4 : decode cX7_leans 4 = .ok (.invokevirtual 150, 3) := by decide +kernel
theorem dX7_leans_7 : decode cX7_leans 7 = .ok (.aload_n 0, 1) := by decide +kernel
theorem dX7_leans_8 : decode cX7_leans 8 = .ok (.getfield 56, 3) := by decide +kernel
theorem dX7_leans_11 : decode cX7_leans 11 = .ok (.aload_n 0, 1) := by decide +kernel
theorem dX7_leans_12 : decode cX7_leans 12 = .ok (.iload_n 1, 1) := by decide +kernel
theorem dX7_leans_13 : decode cX7_leans 13 = .ok (.iconst 1, 1) := by decide +kernel
theorem dX7_leans_14 : decode cX7_leans 14 = .ok (.isub, 1) := by decide +kernel
theorem dX7_leans_15 : decode cX7_leans 15 = .ok (.invokevirtual 129, 3) := by decide +kernel
theorem dX7_leans_18 : decode cX7_leans 18 = .ok (.invokestatic 153, 3) := by decide +kernel
theorem dX7_leans_21 : decode cX7_leans 21 = .ok (.lmul, 1) := by decide +kernel
theorem dX7_leans_22 : decode cX7_leans 22 = .ok (.aload_n 0, 1) := by decide +kernel
theorem dX7_leans_23 : decode cX7_leans 23 = .ok (.iload_n 1, 1) := by decide +kernel
theorem dX7_leans_24 : decode cX7_leans 24 = .ok (.invokevirtual 157, 3) := by decide +kernel
theorem dX7_leans_27 : decode cX7_leans 27 = .ok (.aload_n 0, 1) := by decide +kernel
theorem dX7_leans_28 : decode cX7_leans 28 = .ok (.getfield 56, 3) := by decide +kernel
theorem dX7_leans_31 : decode cX7_leans 31 = .ok (.aload_n 0, 1) := by decide +kernel
theorem dX7_leans_32 : decode cX7_leans 32 = .ok (.iload_n 1, 1) := by decide +kernel
theorem dX7_leans_33 : decode cX7_leans 33 = .ok (.invokevirtual 129, 3) := by decide +kernel
theorem dX7_leans_36 : decode cX7_leans 36 = .ok (.invokestatic 153, 3) := by decide +kernel
theorem dX7_leans_39 : decode cX7_leans 39 = .ok (.lmul, 1) := by decide +kernel
theorem dX7_leans_40 : decode cX7_leans 40 = .ok (.ladd, 1) := by decide +kernel
theorem dX7_leans_41 : decode cX7_leans 41 = .ok (.lreturn, 1) := by decide +kernel
theorem dX7_leanToRight_0 : decode cX7_leanToRight 0 = .ok (.aload_n 0, 1) := by decide +kernel
theorem dX7_leanToRight_1 : decode cX7_leanToRight 1 = .ok (.iload_n 1, 1) := by decide +kernel
theorem dX7_leanToRight_2 : decode cX7_leanToRight 2 = .ok (.invokevirtual 129, 3) := by decide +kernel
theorem dX7_leanToRight_5 : decode cX7_leanToRight 5 = .ok (.lstore_n 2, 1) := by decide +kernel
theorem dX7_leanToRight_6 : decode cX7_leanToRight 6 = .ok (.lconst 0, 1) := by decide +kernel
theorem dX7_leanToRight_7 : decode cX7_leanToRight 7 = .ok (.lstore 4, 2) := by decide +kernel
theorem dX7_leanToRight_9 : decode cX7_leanToRight 9 = .ok (.iconst 0, 1) := by decide +kernel
theorem dX7_leanToRight_10 : decode cX7_leanToRight 10 = .ok (.istore 6, 2) := by decide +kernel
theorem dX7_leanToRight_12 : decode cX7_leanToRight 12 = .ok (.iload 6, 2) := by decide +kernel
theorem dX7_leanToRight_14 : decode cX7_leanToRight 14 = .ok (.i2l, 1) := by decide +kernel
theorem dX7_leanToRight_15 : decode cX7_leanToRight 15 = .ok (.lload_n 2, 1) := by decide +kernel
theorem dX7_leanToRight_16 : decode cX7_leanToRight 16 = .ok (.lcmp, 1) := by decide +kernel
theorem dX7_leanToRight_17 : decode cX7_leanToRight 17 = .ok (.ifCond .ge 79, 3) := by decide +kernel
theorem dX7_leanToRight_20 : decode cX7_leanToRight 20 = .ok (.aload_n 0, 1) := by decide +kernel
theorem dX7_leanToRight_21 : decode cX7_leanToRight 21 = .ok (.getfield 9, 3) := by decide +kernel
theorem dX7_leanToRight_24 : decode cX7_leanToRight 24 = .ok (.iload_n 1, 1) := by decide +kernel
theorem dX7_leanToRight_25 : decode cX7_leanToRight 25 = .ok (.iaload, 1) := by decide +kernel
theorem dX7_leanToRight_26 : decode cX7_leanToRight 26 = .ok (.iload 6, 2) := by decide +kernel
theorem dX7_leanToRight_28 : decode cX7_leanToRight 28 = .ok (.iadd, 1) := by decide +kernel
theorem dX7_leanToRight_29 : decode cX7_leanToRight 29 = .ok (.istore 7, 2) := by decide +kernel
theorem dX7_leanToRight_31 : decode cX7_leanToRight 31 = .ok (.lload 4, 2) := by decide +kernel
theorem dX7_leanToRight_33 : decode cX7_leanToRight 33 = .ok (.aload_n 0, 1) := by decide +kernel
theorem dX7_leanToRight_34 : decode cX7_leanToRight 34 = .ok (.getfield 22, 3) := by decide +kernel
theorem dX7_leanToRight_37 : decode cX7_leanToRight 37 = .ok (.iload 7, 2) := by decide +kernel
theorem dX7_leanToRight_39 : decode cX7_leanToRight 39 = .ok (.laload, 1) := by decide +kernel
theorem dX7_leanToRight_40 : decode cX7_leanToRight 40 = .ok (.lload_n 2, 1) := by decide +kernel
theorem dX7_leanToRight_41 : decode cX7_leanToRight 41 = .ok (.iload 6, 2) := by decide +kernel
theorem dX7_leanToRight_43 : decode cX7_leanToRight 43 = .ok (.iconst 1, 1) := by decide +kernel
theorem dX7_leanToRight_44 : decode cX7_leanToRight 44 = .ok (.iadd, 1) := by decide +kernel
theorem dX7_leanToRight_45 : decode cX7_leanToRight 45 = .ok (.i2l, 1) := by decide +kernel
theorem dX7_leanToRight_46 : decode cX7_leanToRight 46 = .ok (.invokestatic 160, 3) := by decide +kernel
theorem dX7_leanToRight_49 : decode cX7_leanToRight 49 = .ok (.lload_n 2, 1) := by decide +kernel
theorem dX7_leanToRight_50 : decode cX7_leanToRight 50 = .ok (.iload 6, 2) := by decide +kernel
theorem dX7_leanToRight_52 : decode cX7_leanToRight 52 = .ok (.i2l, 1) := by decide +kernel
theorem dX7_leanToRight_53 : decode cX7_leanToRight 53 = .ok (.invokestatic 160, 3) := by decide +kernel
theorem dX7_leanToRight_56 : decode cX7_leanToRight 56 = .ok (.lsub, 1) := by decide +kernel
theorem dX7_leanToRight_57 : decode cX7_leanToRight 57 = .ok (.lmul, 1) := by decide +kernel
theorem dX7_leanToRight_58 : decode cX7_leanToRight 58 = .ok (.ladd, 1) := by decide +kernel
theorem dX7_leanToRight_59 : decode cX7_leanToRight 59 = .ok (.lstore 4, 2) := by decide +kernel
theorem dX7_leanToRight_61 : decode cX7_leanToRight 61 = .ok (.lload 4, 2) := by decide +kernel
theorem dX7_leanToRight_63 : decode cX7_leanToRight 63 = .ok (.iload 6, 2) := by decide +kernel
theorem dX7_leanToRight_65 : decode cX7_leanToRight 65 = .ok (.ifCond .ne 7, 3) := by decide +kernel
theorem dX7_leanToRight_68 : decode cX7_leanToRight 68 = .ok (.lconst 0, 1) := by decide +kernel
theorem dX7_leanToRight_69 : decode cX7_leanToRight 69 = .ok (.goto 18, 3) := by decide +kernel
theorem dX7_leanToRight_72 : decode cX7_leanToRight 72 = .ok (.aload_n 0, 1) := by decide +kernel
theorem dX7_leanToRight_73 : decode cX7_leanToRight 73 = .ok (.getfield 18, 3) := by decide +kernel
theorem dX7_leanToRight_76 : decode cX7_leanToRight 76 = .ok (.iload 7, 2) := by decide +kernel
theorem dX7_leanToRight_78 : decode cX7_leanToRight 78 = .ok (.laload, 1) := by decide +kernel
theorem dX7_leanToRight_79 : decode cX7_leanToRight 79 = .ok (.lload_n 2, 1) := by decide +kernel
theorem dX7_leanToRight_80 : decode cX7_leanToRight 80 = .ok (.iload 6, 2) := by decide +kernel
theorem dX7_leanToRight_82 : decode cX7_leanToRight 82 = .ok (.i2l, 1) := by decide +kernel
theorem dX7_leanToRight_83 : decode cX7_leanToRight 83 = .ok (.invokestatic 163, 3) := by decide +kernel
theorem dX7_leanToRight_86 : decode cX7_leanToRight 86 = .ok (.lmul, 1) := by decide +kernel
theorem dX7_leanToRight_87 : decode cX7_leanToRight 87 = .ok (.ladd, 1) := by decide +kernel
theorem dX7_leanToRight_88 : decode cX7_leanToRight 88 = .ok (.lstore 4, 2) := by decide +kernel
theorem dX7_leanToRight_90 : decode cX7_leanToRight 90 = .ok (.iinc 6 1, 3) := by decide +kernel
theorem dX7_leanToRight_93 : decode cX7_leanToRight 93 = .ok (.goto (-81), 3) := by decide +kernel
theorem dX7_leanToRight_96 : decode cX7_leanToRight 96 = .ok (.lload 4, 2) := by decide +kernel
theorem dX7_leanToRight_98 : decode cX7_leanToRight 98 = .ok (.lreturn, 1) := by decide +kernel
theorem dX7_leanToLeft_0 : decode cX7_leanToLeft 0 = .ok (.aload_n 0, 1) := by decide +kernel
theorem dX7_leanToLeft_1 : decode cX7_leanToLeft 1 = .ok (.iload_n 1, 1) := by decide +kernel
theorem dX7_leanToLeft_2 : decode cX7_leanToLeft 2 = .ok (.invokevirtual 129, 3) := by decide +kernel
theorem dX7_leanToLeft_5 : decode cX7_leanToLeft 5 = .ok (.lstore_n 2, 1) := by decide +kernel
theorem dX7_leanToLeft_6 : decode cX7_leanToLeft 6 = .ok (.lconst 0, 1) := by decide +kernel
theorem dX7_leanToLeft_7 : decode cX7_leanToLeft 7 = .ok (.lstore 4, 2) := by decide +kernel
theorem dX7_leanToLeft_9 : decode cX7_leanToLeft 9 = .ok (.iconst 0, 1) := by decide +kernel
theorem dX7_leanToLeft_10 : decode cX7_leanToLeft 10 = .ok (.istore 6, 2) := by decide +kernel
theorem dX7_leanToLeft_12 : decode cX7_leanToLeft 12 = .ok (.iload 6, 2) := by decide +kernel
theorem dX7_leanToLeft_14 : decode cX7_leanToLeft 14 = .ok (.i2l, 1) := by decide +kernel
theorem dX7_leanToLeft_15 : decode cX7_leanToLeft 15 = .ok (.lload_n 2, 1) := by decide +kernel
theorem dX7_leanToLeft_16 : decode cX7_leanToLeft 16 = .ok (.lcmp, 1) := by decide +kernel
theorem dX7_leanToLeft_17 : decode cX7_leanToLeft 17 = .ok (.ifCond .ge 85, 3) := by decide +kernel
theorem dX7_leanToLeft_20 : decode cX7_leanToLeft 20 = .ok (.aload_n 0, 1) := by decide +kernel
theorem dX7_leanToLeft_21 : decode cX7_leanToLeft 21 = .ok (.getfield 9, 3) := by decide +kernel
theorem dX7_leanToLeft_24 : decode cX7_leanToLeft 24 = .ok (.iload_n 1, 1) := by decide +kernel
theorem dX7_leanToLeft_25 : decode cX7_leanToLeft 25 = .ok (.iaload, 1) := by decide +kernel
theorem dX7_leanToLeft_26 : decode cX7_leanToLeft 26 = .ok (.iload 6, 2) := by decide +kernel
theorem dX7_leanToLeft_28 : decode cX7_leanToLeft 28 = .ok (.iadd, 1) := by decide +kernel
theorem dX7_leanToLeft_29 : decode cX7_leanToLeft 29 = .ok (.istore 7, 2) := by decide +kernel
theorem dX7_leanToLeft_31 : decode cX7_leanToLeft 31 = .ok (.lload 4, 2) := by decide +kernel
theorem dX7_leanToLeft_33 : decode cX7_leanToLeft 33 = .ok (.aload_n 0, 1) := by decide +kernel
theorem dX7_leanToLeft_34 : decode cX7_leanToLeft 34 = .ok (.getfield 22, 3) := by decide +kernel
theorem dX7_leanToLeft_37 : decode cX7_leanToLeft 37 = .ok (.iload 7, 2) := by decide +kernel
theorem dX7_leanToLeft_39 : decode cX7_leanToLeft 39 = .ok (.laload, 1) := by decide +kernel
theorem dX7_leanToLeft_40 : decode cX7_leanToLeft 40 = .ok (.lload_n 2, 1) := by decide +kernel
theorem dX7_leanToLeft_41 : decode cX7_leanToLeft 41 = .ok (.lload_n 2, 1) := by decide +kernel
theorem dX7_leanToLeft_42 : decode cX7_leanToLeft 42 = .ok (.iload 6, 2) := by decide +kernel
theorem dX7_leanToLeft_44 : decode cX7_leanToLeft 44 = .ok (.i2l, 1) := by decide +kernel
theorem dX7_leanToLeft_45 : decode cX7_leanToLeft 45 = .ok (.lsub, 1) := by decide +kernel
theorem dX7_leanToLeft_46 : decode cX7_leanToLeft 46 = .ok (.invokestatic 160, 3) := by decide +kernel
theorem dX7_leanToLeft_49 : decode cX7_leanToLeft 49 = .ok (.lload_n 2, 1) := by decide +kernel
theorem dX7_leanToLeft_50 : decode cX7_leanToLeft 50 = .ok (.lload_n 2, 1) := by decide +kernel
theorem dX7_leanToLeft_51 : decode cX7_leanToLeft 51 = .ok (.iload 6, 2) := by decide +kernel
theorem dX7_leanToLeft_53 : decode cX7_leanToLeft 53 = .ok (.i2l, 1) := by decide +kernel
theorem dX7_leanToLeft_54 : decode cX7_leanToLeft 54 = .ok (.lsub, 1) := by decide +kernel
theorem dX7_leanToLeft_55 : decode cX7_leanToLeft 55 = .ok (.lconst 1, 1) := by decide +kernel
theorem dX7_leanToLeft_56 : decode cX7_leanToLeft 56 = .ok (.lsub, 1) := by decide +kernel
theorem dX7_leanToLeft_57 : decode cX7_leanToLeft 57 = .ok (.invokestatic 160, 3) := by decide +kernel
theorem dX7_leanToLeft_60 : decode cX7_leanToLeft 60 = .ok (.lsub, 1) := by decide +kernel
theorem dX7_leanToLeft_61 : decode cX7_leanToLeft 61 = .ok (.lmul, 1) := by decide +kernel
theorem dX7_leanToLeft_62 : decode cX7_leanToLeft 62 = .ok (.ladd, 1) := by decide +kernel
theorem dX7_leanToLeft_63 : decode cX7_leanToLeft 63 = .ok (.lstore 4, 2) := by decide +kernel
theorem dX7_leanToLeft_65 : decode cX7_leanToLeft 65 = .ok (.lload 4, 2) := by decide +kernel
theorem dX7_leanToLeft_67 : decode cX7_leanToLeft 67 = .ok (.iload 6, 2) := by decide +kernel
theorem dX7_leanToLeft_69 : decode cX7_leanToLeft 69 = .ok (.ifCond .ne 7, 3) := by decide +kernel
theorem dX7_leanToLeft_72 : decode cX7_leanToLeft 72 = .ok (.lconst 0, 1) := by decide +kernel
theorem dX7_leanToLeft_73 : decode cX7_leanToLeft 73 = .ok (.goto 20, 3) := by decide +kernel
theorem dX7_leanToLeft_76 : decode cX7_leanToLeft 76 = .ok (.aload_n 0, 1) := by decide +kernel
theorem dX7_leanToLeft_77 : decode cX7_leanToLeft 77 = .ok (.getfield 18, 3) := by decide +kernel
theorem dX7_leanToLeft_80 : decode cX7_leanToLeft 80 = .ok (.iload 7, 2) := by decide +kernel
theorem dX7_leanToLeft_82 : decode cX7_leanToLeft 82 = .ok (.laload, 1) := by decide +kernel
theorem dX7_leanToLeft_83 : decode cX7_leanToLeft 83 = .ok (.lload_n 2, 1) := by decide +kernel
theorem dX7_leanToLeft_84 : decode cX7_leanToLeft 84 = .ok (.lload_n 2, 1) := by decide +kernel
theorem dX7_leanToLeft_85 : decode cX7_leanToLeft 85 = .ok (.iload 6, 2) := by decide +kernel
theorem dX7_leanToLeft_87 : decode cX7_leanToLeft 87 = .ok (.i2l, 1) := by decide +kernel
theorem dX7_leanToLeft_88 : decode cX7_leanToLeft 88 = .ok (.lsub, 1) := by decide +kernel
theorem dX7_leanToLeft_89 : decode cX7_leanToLeft 89 = .ok (.invokestatic 163, 3) := by decide +kernel
theorem dX7_leanToLeft_92 : decode cX7_leanToLeft 92 = .ok (.lmul, 1) := by decide +kernel
theorem dX7_leanToLeft_93 : decode cX7_leanToLeft 93 = .ok (.ladd, 1) := by decide +kernel
theorem dX7_leanToLeft_94 : decode cX7_leanToLeft 94 = .ok (.lstore 4, 2) := by decide +kernel
theorem dX7_leanToLeft_96 : decode cX7_leanToLeft 96 = .ok (.iinc 6 1, 3) := by decide +kernel
theorem dX7_leanToLeft_99 : decode cX7_leanToLeft 99 = .ok (.goto (-87), 3) := by decide +kernel
theorem dX7_leanToLeft_102 : decode cX7_leanToLeft 102 = .ok (.lload 4, 2) := by decide +kernel
theorem dX7_leanToLeft_104 : decode cX7_leanToLeft 104 = .ok (.lreturn, 1) := by decide +kernel
theorem dX7_leanOfPoint_0 : decode cX7_leanOfPoint 0 = .ok (.ldc2_w 148, 3) := by decide +kernel
theorem dX7_leanOfPoint_3 : decode cX7_leanOfPoint 3 = .ok (.lload_n 2, 1) := by decide +kernel
theorem dX7_leanOfPoint_4 : decode cX7_leanOfPoint 4 = .ok (.lmul, 1) := by decide +kernel
theorem dX7_leanOfPoint_5 : decode cX7_leanOfPoint 5 = .ok (.lload_n 0, 1) := by decide +kernel
theorem dX7_leanOfPoint_6 : decode cX7_leanOfPoint 6 = .ok (.lload_n 0, 1) := by decide +kernel
theorem dX7_leanOfPoint_7 : decode cX7_leanOfPoint 7 = .ok (.lmul, 1) := by decide +kernel
theorem dX7_leanOfPoint_8 : decode cX7_leanOfPoint 8 = .ok (.lload_n 2, 1) := by decide +kernel
theorem dX7_leanOfPoint_9 : decode cX7_leanOfPoint 9 = .ok (.lload_n 2, 1) := by decide +kernel
theorem dX7_leanOfPoint_10 : decode cX7_leanOfPoint 10 = .ok (.lmul, 1) := by decide +kernel
theorem dX7_leanOfPoint_11 : decode cX7_leanOfPoint 11 = .ok (.lsub, 1) := by decide +kernel
theorem dX7_leanOfPoint_12 : decode cX7_leanOfPoint 12 = .ok (.lmul, 1) := by decide +kernel
theorem dX7_leanOfPoint_13 : decode cX7_leanOfPoint 13 = .ok (.lreturn, 1) := by decide +kernel
theorem dX7_leanOfSpread_0 : decode cX7_leanOfSpread 0 = .ok (.lload_n 2, 1) := by decide +kernel
theorem dX7_leanOfSpread_1 : decode cX7_leanOfSpread 1 = .ok (.lload_n 2, 1) := by decide +kernel
theorem dX7_leanOfSpread_2 : decode cX7_leanOfSpread 2 = .ok (.lmul, 1) := by decide +kernel
theorem dX7_leanOfSpread_3 : decode cX7_leanOfSpread 3 = .ok (.ldc2_w 133, 3) := by decide +kernel
theorem dX7_leanOfSpread_6 : decode cX7_leanOfSpread 6 = .ok (.lload_n 0, 1) := by decide +kernel
theorem dX7_leanOfSpread_7 : decode cX7_leanOfSpread 7 = .ok (.lmul, 1) := by decide +kernel
theorem dX7_leanOfSpread_8 : decode cX7_leanOfSpread 8 = .ok (.lload_n 0, 1) := by decide +kernel
theorem dX7_leanOfSpread_9 : decode cX7_leanOfSpread 9 = .ok (.lmul, 1) := by decide +kernel
theorem dX7_leanOfSpread_10 : decode cX7_leanOfSpread 10 = .ok (.lload_n 2, 1) := by decide +kernel
theorem dX7_leanOfSpread_11 : decode cX7_leanOfSpread 11 = .ok (.lload_n 2, 1) := by decide +kernel
theorem dX7_leanOfSpread_12 : decode cX7_leanOfSpread 12 = .ok (.lmul, 1) := by decide +kernel
theorem dX7_leanOfSpread_13 : decode cX7_leanOfSpread 13 = .ok (.lsub, 1) := by decide +kernel
theorem dX7_leanOfSpread_14 : decode cX7_leanOfSpread 14 = .ok (.lmul, 1) := by decide +kernel
theorem dX7_leanOfSpread_15 : decode cX7_leanOfSpread 15 = .ok (.lreturn, 1) := by decide +kernel
theorem dX7_shearAlong_0 : decode cX7_shearAlong 0 = .ok (.iconst 0, 1) := by decide +kernel
theorem dX7_shearAlong_1 : decode cX7_shearAlong 1 = .ok (.istore_n 1, 1) := by decide +kernel
theorem dX7_shearAlong_2 : decode cX7_shearAlong 2 = .ok (.lconst 0, 1) := by decide +kernel
theorem dX7_shearAlong_3 : decode cX7_shearAlong 3 = .ok (.lstore_n 2, 1) := by decide +kernel
theorem dX7_shearAlong_4 : decode cX7_shearAlong 4 = .ok (.iconst 0, 1) := by decide +kernel
theorem dX7_shearAlong_5 : decode cX7_shearAlong 5 = .ok (.istore 4, 2) := by decide +kernel
theorem dX7_shearAlong_7 : decode cX7_shearAlong 7 = .ok (.iload 4, 2) := by decide +kernel
theorem dX7_shearAlong_9 : decode cX7_shearAlong 9 = .ok (.aload_n 0, 1) := by decide +kernel
theorem dX7_shearAlong_10 : decode cX7_shearAlong 10 = .ok (.getfield 78, 3) := by decide +kernel
theorem dX7_shearAlong_13 : decode cX7_shearAlong 13 = .ok (.if_icmp .gt 124, 3) := by decide +kernel
theorem dX7_shearAlong_16 : decode cX7_shearAlong 16 = .ok (.aload_n 0, 1) := by decide +kernel
theorem dX7_shearAlong_17 : decode cX7_shearAlong 17 = .ok (.getfield 32, 3) := by decide +kernel
theorem dX7_shearAlong_20 : decode cX7_shearAlong 20 = .ok (.iload 4, 2) := by decide +kernel
theorem dX7_shearAlong_22 : decode cX7_shearAlong 22 = .ok (.lload_n 2, 1) := by decide +kernel
theorem dX7_shearAlong_23 : decode cX7_shearAlong 23 = .ok (.aload_n 0, 1) := by decide +kernel
theorem dX7_shearAlong_24 : decode cX7_shearAlong 24 = .ok (.getfield 18, 3) := by decide +kernel
theorem dX7_shearAlong_27 : decode cX7_shearAlong 27 = .ok (.iload 4, 2) := by decide +kernel
theorem dX7_shearAlong_29 : decode cX7_shearAlong 29 = .ok (.laload, 1) := by decide +kernel
theorem dX7_shearAlong_30 : decode cX7_shearAlong 30 = .ok (.aload_n 0, 1) := by decide +kernel
theorem dX7_shearAlong_31 : decode cX7_shearAlong 31 = .ok (.getfield 25, 3) := by decide +kernel
theorem dX7_shearAlong_34 : decode cX7_shearAlong 34 = .ok (.lmul, 1) := by decide +kernel
theorem dX7_shearAlong_35 : decode cX7_shearAlong 35 = .ok (.lsub, 1) := by decide +kernel
theorem dX7_shearAlong_36 : decode cX7_shearAlong 36 = .ok (.lastore, 1) := by decide +kernel
theorem dX7_shearAlong_37 : decode cX7_shearAlong 37 = .ok (.iload_n 1, 1) := by decide +kernel
theorem dX7_shearAlong_38 : decode cX7_shearAlong 38 = .ok (.aload_n 0, 1) := by decide +kernel
theorem dX7_shearAlong_39 : decode cX7_shearAlong 39 = .ok (.getfield 82, 3) := by decide +kernel
theorem dX7_shearAlong_42 : decode cX7_shearAlong 42 = .ok (.if_icmp .ge 68, 3) := by decide +kernel
theorem dX7_shearAlong_45 : decode cX7_shearAlong 45 = .ok (.aload_n 0, 1) := by decide +kernel
theorem dX7_shearAlong_46 : decode cX7_shearAlong 46 = .ok (.getfield 9, 3) := by decide +kernel
theorem dX7_shearAlong_49 : decode cX7_shearAlong 49 = .ok (.iload_n 1, 1) := by decide +kernel
theorem dX7_shearAlong_50 : decode cX7_shearAlong 50 = .ok (.iaload, 1) := by decide +kernel
theorem dX7_shearAlong_51 : decode cX7_shearAlong 51 = .ok (.iload 4, 2) := by decide +kernel
theorem dX7_shearAlong_53 : decode cX7_shearAlong 53 = .ok (.if_icmp .ne 57, 3) := by decide +kernel
theorem dX7_shearAlong_56 : decode cX7_shearAlong 56 = .ok (.iload_n 1, 1) := by decide +kernel
theorem dX7_shearAlong_57 : decode cX7_shearAlong 57 = .ok (.aload_n 0, 1) := by decide +kernel
theorem dX7_shearAlong_58 : decode cX7_shearAlong 58 = .ok (.getfield 82, 3) := by decide +kernel
theorem dX7_shearAlong_61 : decode cX7_shearAlong 61 = .ok (.iconst 1, 1) := by decide +kernel
theorem dX7_shearAlong_62 : decode cX7_shearAlong 62 = .ok (.isub, 1) := by decide +kernel
theorem dX7_shearAlong_63 : decode cX7_shearAlong 63 = .ok (.if_icmp .ne 12, 3) := by decide +kernel
theorem dX7_shearAlong_66 : decode cX7_shearAlong 66 = .ok (.aload_n 0, 1) := by decide +kernel
theorem dX7_shearAlong_67 : decode cX7_shearAlong 67 = .ok (.iload 4, 2) := by decide +kernel
theorem dX7_shearAlong_69 : decode cX7_shearAlong 69 = .ok (.invokevirtual 166, 3) := by decide +kernel
theorem dX7_shearAlong_72 : decode cX7_shearAlong 72 = .ok (.goto 8, 3) := by decide +kernel
theorem dX7_shearAlong_75 : decode cX7_shearAlong 75 = .ok (.aload_n 0, 1) := by decide +kernel
theorem dX7_shearAlong_76 : decode cX7_shearAlong 76 = .ok (.iload_n 1, 1) := by decide +kernel
theorem dX7_shearAlong_77 : decode cX7_shearAlong 77 = .ok (.invokevirtual 169, 3) := by decide +kernel
theorem dX7_shearAlong_80 : decode cX7_shearAlong 80 = .ok (.lstore 5, 2) := by decide +kernel
theorem dX7_shearAlong_82 : decode cX7_shearAlong 82 = .ok (.aload_n 0, 1) := by decide +kernel
theorem dX7_shearAlong_83 : decode cX7_shearAlong 83 = .ok (.getfield 29, 3) := by decide +kernel
theorem dX7_shearAlong_86 : decode cX7_shearAlong 86 = .ok (.iload_n 1, 1) := by decide +kernel
theorem dX7_shearAlong_87 : decode cX7_shearAlong 87 = .ok (.lload 5, 2) := by decide +kernel
theorem dX7_shearAlong_89 : decode cX7_shearAlong 89 = .ok (.aload_n 0, 1) := by decide +kernel
theorem dX7_shearAlong_90 : decode cX7_shearAlong 90 = .ok (.getfield 32, 3) := by decide +kernel
theorem dX7_shearAlong_93 : decode cX7_shearAlong 93 = .ok (.iload 4, 2) := by decide +kernel
theorem dX7_shearAlong_95 : decode cX7_shearAlong 95 = .ok (.laload, 1) := by decide +kernel
theorem dX7_shearAlong_96 : decode cX7_shearAlong 96 = .ok (.lsub, 1) := by decide +kernel
theorem dX7_shearAlong_97 : decode cX7_shearAlong 97 = .ok (.lastore, 1) := by decide +kernel
theorem dX7_shearAlong_98 : decode cX7_shearAlong 98 = .ok (.aload_n 0, 1) := by decide +kernel
theorem dX7_shearAlong_99 : decode cX7_shearAlong 99 = .ok (.getfield 32, 3) := by decide +kernel
theorem dX7_shearAlong_102 : decode cX7_shearAlong 102 = .ok (.iload 4, 2) := by decide +kernel
theorem dX7_shearAlong_104 : decode cX7_shearAlong 104 = .ok (.lload 5, 2) := by decide +kernel
theorem dX7_shearAlong_106 : decode cX7_shearAlong 106 = .ok (.lastore, 1) := by decide +kernel
theorem dX7_shearAlong_107 : decode cX7_shearAlong 107 = .ok (.iinc 1 1, 3) := by decide +kernel
theorem dX7_shearAlong_110 : decode cX7_shearAlong 110 = .ok (.aload_n 0, 1) := by decide +kernel
theorem dX7_shearAlong_111 : decode cX7_shearAlong 111 = .ok (.getfield 32, 3) := by decide +kernel
theorem dX7_shearAlong_114 : decode cX7_shearAlong 114 = .ok (.iload 4, 2) := by decide +kernel
theorem dX7_shearAlong_116 : decode cX7_shearAlong 116 = .ok (.laload, 1) := by decide +kernel
theorem dX7_shearAlong_117 : decode cX7_shearAlong 117 = .ok (.aload_n 0, 1) := by decide +kernel
theorem dX7_shearAlong_118 : decode cX7_shearAlong 118 = .ok (.getfield 22, 3) := by decide +kernel
theorem dX7_shearAlong_121 : decode cX7_shearAlong 121 = .ok (.iload 4, 2) := by decide +kernel
theorem dX7_shearAlong_123 : decode cX7_shearAlong 123 = .ok (.laload, 1) := by decide +kernel
theorem dX7_shearAlong_124 : decode cX7_shearAlong 124 = .ok (.aload_n 0, 1) := by decide +kernel
theorem dX7_shearAlong_125 : decode cX7_shearAlong 125 = .ok (.getfield 25, 3) := by decide +kernel
theorem dX7_shearAlong_128 : decode cX7_shearAlong 128 = .ok (.lmul, 1) := by decide +kernel
theorem dX7_shearAlong_129 : decode cX7_shearAlong 129 = .ok (.lsub, 1) := by decide +kernel
theorem dX7_shearAlong_130 : decode cX7_shearAlong 130 = .ok (.lstore_n 2, 1) := by decide +kernel
theorem dX7_shearAlong_131 : decode cX7_shearAlong 131 = .ok (.iinc 4 1, 3) := by decide +kernel
theorem dX7_shearAlong_134 : decode cX7_shearAlong 134 = .ok (.goto (-127), 3) := by decide +kernel
theorem dX7_shearAlong_137 : decode cX7_shearAlong 137 = .ok (.return_, 1) := by decide +kernel
theorem dX7_loadsBehind_0 : decode cX7_loadsBehind 0 = .ok (.lconst 0, 1) := by decide +kernel
theorem dX7_loadsBehind_1 : decode cX7_loadsBehind 1 = .ok (.lstore_n 2, 1) := by decide +kernel
theorem dX7_loadsBehind_2 : decode cX7_loadsBehind 2 = .ok (.iload_n 1, 1) := by decide +kernel
theorem dX7_loadsBehind_3 : decode cX7_loadsBehind 3 = .ok (.istore 4, 2) := by decide +kernel
theorem dX7_loadsBehind_5 : decode cX7_loadsBehind 5 = .ok (.iload 4, 2) := by decide +kernel
theorem dX7_loadsBehind_7 : decode cX7_loadsBehind 7 = .ok (.aload_n 0, 1) := by decide +kernel
theorem dX7_loadsBehind_8 : decode cX7_loadsBehind 8 = .ok (.getfield 78, 3) := by decide +kernel
theorem dX7_loadsBehind_11 : decode cX7_loadsBehind 11 = .ok (.if_icmp .ge 29, 3) := by decide +kernel
theorem dX7_loadsBehind_14 : decode cX7_loadsBehind 14 = .ok (.lload_n 2, 1) := by decide +kernel
theorem dX7_loadsBehind_15 : decode cX7_loadsBehind 15 = .ok (.aload_n 0, 1) := by decide +kernel
theorem dX7_loadsBehind_16 : decode cX7_loadsBehind 16 = .ok (.getfield 22, 3) := by decide +kernel
theorem dX7_loadsBehind_19 : decode cX7_loadsBehind 19 = .ok (.iload 4, 2) := by decide +kernel
theorem dX7_loadsBehind_21 : decode cX7_loadsBehind 21 = .ok (.laload, 1) := by decide +kernel
theorem dX7_loadsBehind_22 : decode cX7_loadsBehind 22 = .ok (.aload_n 0, 1) := by decide +kernel
theorem dX7_loadsBehind_23 : decode cX7_loadsBehind 23 = .ok (.getfield 18, 3) := by decide +kernel
theorem dX7_loadsBehind_26 : decode cX7_loadsBehind 26 = .ok (.iload 4, 2) := by decide +kernel
theorem dX7_loadsBehind_28 : decode cX7_loadsBehind 28 = .ok (.iconst 1, 1) := by decide +kernel
theorem dX7_loadsBehind_29 : decode cX7_loadsBehind 29 = .ok (.iadd, 1) := by decide +kernel
theorem dX7_loadsBehind_30 : decode cX7_loadsBehind 30 = .ok (.laload, 1) := by decide +kernel
theorem dX7_loadsBehind_31 : decode cX7_loadsBehind 31 = .ok (.ladd, 1) := by decide +kernel
theorem dX7_loadsBehind_32 : decode cX7_loadsBehind 32 = .ok (.ladd, 1) := by decide +kernel
theorem dX7_loadsBehind_33 : decode cX7_loadsBehind 33 = .ok (.lstore_n 2, 1) := by decide +kernel
theorem dX7_loadsBehind_34 : decode cX7_loadsBehind 34 = .ok (.iinc 4 1, 3) := by decide +kernel
theorem dX7_loadsBehind_37 : decode cX7_loadsBehind 37 = .ok (.goto (-32), 3) := by decide +kernel
theorem dX7_loadsBehind_40 : decode cX7_loadsBehind 40 = .ok (.lload_n 2, 1) := by decide +kernel
theorem dX7_loadsBehind_41 : decode cX7_loadsBehind 41 = .ok (.aload_n 0, 1) := by decide +kernel
theorem dX7_loadsBehind_42 : decode cX7_loadsBehind 42 = .ok (.getfield 25, 3) := by decide +kernel
theorem dX7_loadsBehind_45 : decode cX7_loadsBehind 45 = .ok (.lmul, 1) := by decide +kernel
theorem dX7_loadsBehind_46 : decode cX7_loadsBehind 46 = .ok (.lreturn, 1) := by decide +kernel
theorem dX7_shearOfSpan_0 : decode cX7_shearOfSpan 0 = .ok (.aload_n 0, 1) := by decide +kernel
theorem dX7_shearOfSpan_1 : decode cX7_shearOfSpan 1 = .ok (.iload_n 1, 1) := by decide +kernel
theorem dX7_shearOfSpan_2 : decode cX7_shearOfSpan 2 = .ok (.invokevirtual 129, 3) := by decide +kernel
theorem dX7_shearOfSpan_5 : decode cX7_shearOfSpan 5 = .ok (.lstore_n 2, 1) := by decide +kernel
theorem dX7_shearOfSpan_6 : decode cX7_shearOfSpan 6 = .ok (.lconst 0, 1) := by decide +kernel
theorem dX7_shearOfSpan_7 : decode cX7_shearOfSpan 7 = .ok (.lstore 4, 2) := by decide +kernel
theorem dX7_shearOfSpan_9 : decode cX7_shearOfSpan 9 = .ok (.iconst 0, 1) := by decide +kernel
theorem dX7_shearOfSpan_10 : decode cX7_shearOfSpan 10 = .ok (.istore 6, 2) := by decide +kernel
theorem dX7_shearOfSpan_12 : decode cX7_shearOfSpan 12 = .ok (.iload 6, 2) := by decide +kernel
theorem dX7_shearOfSpan_14 : decode cX7_shearOfSpan 14 = .ok (.i2l, 1) := by decide +kernel
theorem dX7_shearOfSpan_15 : decode cX7_shearOfSpan 15 = .ok (.lload_n 2, 1) := by decide +kernel
theorem dX7_shearOfSpan_16 : decode cX7_shearOfSpan 16 = .ok (.lcmp, 1) := by decide +kernel
theorem dX7_shearOfSpan_17 : decode cX7_shearOfSpan 17 = .ok (.ifCond .ge 75, 3) := by decide +kernel
theorem dX7_shearOfSpan_20 : decode cX7_shearOfSpan 20 = .ok (.aload_n 0, 1) := by decide +kernel
theorem dX7_shearOfSpan_21 : decode cX7_shearOfSpan 21 = .ok (.getfield 9, 3) := by decide +kernel
theorem dX7_shearOfSpan_24 : decode cX7_shearOfSpan 24 = .ok (.iload_n 1, 1) := by decide +kernel
theorem dX7_shearOfSpan_25 : decode cX7_shearOfSpan 25 = .ok (.iaload, 1) := by decide +kernel
theorem dX7_shearOfSpan_26 : decode cX7_shearOfSpan 26 = .ok (.iload 6, 2) := by decide +kernel
theorem dX7_shearOfSpan_28 : decode cX7_shearOfSpan 28 = .ok (.iadd, 1) := by decide +kernel
theorem dX7_shearOfSpan_29 : decode cX7_shearOfSpan 29 = .ok (.istore 7, 2) := by decide +kernel
theorem dX7_shearOfSpan_31 : decode cX7_shearOfSpan 31 = .ok (.lload 4, 2) := by decide +kernel
theorem dX7_shearOfSpan_33 : decode cX7_shearOfSpan 33 = .ok (.aload_n 0, 1) := by decide +kernel
theorem dX7_shearOfSpan_34 : decode cX7_shearOfSpan 34 = .ok (.getfield 22, 3) := by decide +kernel
theorem dX7_shearOfSpan_37 : decode cX7_shearOfSpan 37 = .ok (.iload 7, 2) := by decide +kernel
theorem dX7_shearOfSpan_39 : decode cX7_shearOfSpan 39 = .ok (.laload, 1) := by decide +kernel
theorem dX7_shearOfSpan_40 : decode cX7_shearOfSpan 40 = .ok (.ldc2_w 133, 3) := by decide +kernel
theorem dX7_shearOfSpan_43 : decode cX7_shearOfSpan 43 = .ok (.lload_n 2, 1) := by decide +kernel
theorem dX7_shearOfSpan_44 : decode cX7_shearOfSpan 44 = .ok (.iload 6, 2) := by decide +kernel
theorem dX7_shearOfSpan_46 : decode cX7_shearOfSpan 46 = .ok (.i2l, 1) := by decide +kernel
theorem dX7_shearOfSpan_47 : decode cX7_shearOfSpan 47 = .ok (.lsub, 1) := by decide +kernel
theorem dX7_shearOfSpan_48 : decode cX7_shearOfSpan 48 = .ok (.lmul, 1) := by decide +kernel
theorem dX7_shearOfSpan_49 : decode cX7_shearOfSpan 49 = .ok (.lconst 1, 1) := by decide +kernel
theorem dX7_shearOfSpan_50 : decode cX7_shearOfSpan 50 = .ok (.lsub, 1) := by decide +kernel
theorem dX7_shearOfSpan_51 : decode cX7_shearOfSpan 51 = .ok (.lmul, 1) := by decide +kernel
theorem dX7_shearOfSpan_52 : decode cX7_shearOfSpan 52 = .ok (.ladd, 1) := by decide +kernel
theorem dX7_shearOfSpan_53 : decode cX7_shearOfSpan 53 = .ok (.lstore 4, 2) := by decide +kernel
theorem dX7_shearOfSpan_55 : decode cX7_shearOfSpan 55 = .ok (.lload 4, 2) := by decide +kernel
theorem dX7_shearOfSpan_57 : decode cX7_shearOfSpan 57 = .ok (.iload 6, 2) := by decide +kernel
theorem dX7_shearOfSpan_59 : decode cX7_shearOfSpan 59 = .ok (.ifCond .ne 7, 3) := by decide +kernel
theorem dX7_shearOfSpan_62 : decode cX7_shearOfSpan 62 = .ok (.lconst 0, 1) := by decide +kernel
theorem dX7_shearOfSpan_63 : decode cX7_shearOfSpan 63 = .ok (.goto 20, 3) := by decide +kernel
theorem dX7_shearOfSpan_66 : decode cX7_shearOfSpan 66 = .ok (.ldc2_w 133, 3) := by decide +kernel
theorem dX7_shearOfSpan_69 : decode cX7_shearOfSpan 69 = .ok (.aload_n 0, 1) := by decide +kernel
theorem dX7_shearOfSpan_70 : decode cX7_shearOfSpan 70 = .ok (.getfield 18, 3) := by decide +kernel
theorem dX7_shearOfSpan_73 : decode cX7_shearOfSpan 73 = .ok (.iload 7, 2) := by decide +kernel
theorem dX7_shearOfSpan_75 : decode cX7_shearOfSpan 75 = .ok (.laload, 1) := by decide +kernel
theorem dX7_shearOfSpan_76 : decode cX7_shearOfSpan 76 = .ok (.lmul, 1) := by decide +kernel
theorem dX7_shearOfSpan_77 : decode cX7_shearOfSpan 77 = .ok (.lload_n 2, 1) := by decide +kernel
theorem dX7_shearOfSpan_78 : decode cX7_shearOfSpan 78 = .ok (.iload 6, 2) := by decide +kernel
theorem dX7_shearOfSpan_80 : decode cX7_shearOfSpan 80 = .ok (.i2l, 1) := by decide +kernel
theorem dX7_shearOfSpan_81 : decode cX7_shearOfSpan 81 = .ok (.lsub, 1) := by decide +kernel
theorem dX7_shearOfSpan_82 : decode cX7_shearOfSpan 82 = .ok (.lmul, 1) := by decide +kernel
theorem dX7_shearOfSpan_83 : decode cX7_shearOfSpan 83 = .ok (.ladd, 1) := by decide +kernel
theorem dX7_shearOfSpan_84 : decode cX7_shearOfSpan 84 = .ok (.lstore 4, 2) := by decide +kernel
theorem dX7_shearOfSpan_86 : decode cX7_shearOfSpan 86 = .ok (.iinc 6 1, 3) := by decide +kernel
theorem dX7_shearOfSpan_89 : decode cX7_shearOfSpan 89 = .ok (.goto (-77), 3) := by decide +kernel
theorem dX7_shearOfSpan_92 : decode cX7_shearOfSpan 92 = .ok (.aload_n 0, 1) := by decide +kernel
theorem dX7_shearOfSpan_93 : decode cX7_shearOfSpan 93 = .ok (.getfield 59, 3) := by decide +kernel
theorem dX7_shearOfSpan_96 : decode cX7_shearOfSpan 96 = .ok (.iload_n 1, 1) := by decide +kernel
theorem dX7_shearOfSpan_97 : decode cX7_shearOfSpan 97 = .ok (.iconst 1, 1) := by decide +kernel
theorem dX7_shearOfSpan_98 : decode cX7_shearOfSpan 98 = .ok (.iadd, 1) := by decide +kernel
theorem dX7_shearOfSpan_99 : decode cX7_shearOfSpan 99 = .ok (.laload, 1) := by decide +kernel
theorem dX7_shearOfSpan_100 : decode cX7_shearOfSpan 100 = .ok (.aload_n 0, 1) := by decide +kernel
theorem dX7_shearOfSpan_101 : decode cX7_shearOfSpan 101 = .ok (.getfield 59, 3) := by decide +kernel
theorem dX7_shearOfSpan_104 : decode cX7_shearOfSpan 104 = .ok (.iload_n 1, 1) := by decide +kernel
theorem dX7_shearOfSpan_105 : decode cX7_shearOfSpan 105 = .ok (.laload, 1) := by decide +kernel
theorem dX7_shearOfSpan_106 : decode cX7_shearOfSpan 106 = .ok (.lsub, 1) := by decide +kernel
theorem dX7_shearOfSpan_107 : decode cX7_shearOfSpan 107 = .ok (.lload_n 2, 1) := by decide +kernel
theorem dX7_shearOfSpan_108 : decode cX7_shearOfSpan 108 = .ok (.invokestatic 153, 3) := by decide +kernel
theorem dX7_shearOfSpan_111 : decode cX7_shearOfSpan 111 = .ok (.lload 4, 2) := by decide +kernel
theorem dX7_shearOfSpan_113 : decode cX7_shearOfSpan 113 = .ok (.aload_n 0, 1) := by decide +kernel
theorem dX7_shearOfSpan_114 : decode cX7_shearOfSpan 114 = .ok (.getfield 25, 3) := by decide +kernel
theorem dX7_shearOfSpan_117 : decode cX7_shearOfSpan 117 = .ok (.ldc2_w 133, 3) := by decide +kernel
theorem dX7_shearOfSpan_120 : decode cX7_shearOfSpan 120 = .ok (.lload_n 2, 1) := by decide +kernel
theorem dX7_shearOfSpan_121 : decode cX7_shearOfSpan 121 = .ok (.lmul, 1) := by decide +kernel
theorem dX7_shearOfSpan_122 : decode cX7_shearOfSpan 122 = .ok (.invokestatic 153, 3) := by decide +kernel
theorem dX7_shearOfSpan_125 : decode cX7_shearOfSpan 125 = .ok (.lmul, 1) := by decide +kernel
theorem dX7_shearOfSpan_126 : decode cX7_shearOfSpan 126 = .ok (.ladd, 1) := by decide +kernel
theorem dX7_shearOfSpan_127 : decode cX7_shearOfSpan 127 = .ok (.lreturn, 1) := by decide +kernel
theorem dX7_bendAlong_0 : decode cX7_bendAlong 0 = .ok (.aload_n 0, 1) := by decide +kernel
theorem dX7_bendAlong_1 : decode cX7_bendAlong 1 = .ok (.getfield 35, 3) := by decide +kernel
theorem dX7_bendAlong_4 : decode cX7_bendAlong 4 = .ok (.iconst 0, 1) := by decide +kernel
theorem dX7_bendAlong_5 : decode cX7_bendAlong 5 = .ok (.lconst 0, 1) := by decide +kernel
theorem dX7_bendAlong_6 : decode cX7_bendAlong 6 = .ok (.lastore, 1) := by decide +kernel
theorem dX7_bendAlong_7 : decode cX7_bendAlong 7 = .ok (.iconst 0, 1) := by decide +kernel
theorem dX7_bendAlong_8 : decode cX7_bendAlong 8 = .ok (.istore_n 1, 1) := by decide +kernel
theorem dX7_bendAlong_9 : decode cX7_bendAlong 9 = .ok (.iload_n 1, 1) := by decide +kernel
theorem dX7_bendAlong_10 : decode cX7_bendAlong 10 = .ok (.aload_n 0, 1) := by decide +kernel
theorem dX7_bendAlong_11 : decode cX7_bendAlong 11 = .ok (.getfield 78, 3) := by decide +kernel
theorem dX7_bendAlong_14 : decode cX7_bendAlong 14 = .ok (.if_icmp .ge 46, 3) := by decide +kernel
theorem dX7_bendAlong_17 : decode cX7_bendAlong 17 = .ok (.aload_n 0, 1) := by decide +kernel
theorem dX7_bendAlong_18 : decode cX7_bendAlong 18 = .ok (.getfield 35, 3) := by decide +kernel
theorem dX7_bendAlong_21 : decode cX7_bendAlong 21 = .ok (.iload_n 1, 1) := by decide +kernel
theorem dX7_bendAlong_22 : decode cX7_bendAlong 22 = .ok (.iconst 1, 1) := by decide +kernel
theorem dX7_bendAlong_23 : decode cX7_bendAlong 23 = .ok (.iadd, 1) := by decide +kernel
theorem dX7_bendAlong_24 : decode cX7_bendAlong 24 = .ok (.aload_n 0, 1) := by decide +kernel
theorem dX7_bendAlong_25 : decode cX7_bendAlong 25 = .ok (.getfield 35, 3) := by decide +kernel
theorem dX7_bendAlong_28 : decode cX7_bendAlong 28 = .ok (.iload_n 1, 1) := by decide +kernel
theorem dX7_bendAlong_29 : decode cX7_bendAlong 29 = .ok (.laload, 1) := by decide +kernel
theorem dX7_bendAlong_30 : decode cX7_bendAlong 30 = .ok (.aload_n 0, 1) := by decide +kernel
theorem dX7_bendAlong_31 : decode cX7_bendAlong 31 = .ok (.getfield 32, 3) := by decide +kernel
theorem dX7_bendAlong_34 : decode cX7_bendAlong 34 = .ok (.iload_n 1, 1) := by decide +kernel
theorem dX7_bendAlong_35 : decode cX7_bendAlong 35 = .ok (.laload, 1) := by decide +kernel
theorem dX7_bendAlong_36 : decode cX7_bendAlong 36 = .ok (.ladd, 1) := by decide +kernel
theorem dX7_bendAlong_37 : decode cX7_bendAlong 37 = .ok (.aload_n 0, 1) := by decide +kernel
theorem dX7_bendAlong_38 : decode cX7_bendAlong 38 = .ok (.getfield 22, 3) := by decide +kernel
theorem dX7_bendAlong_41 : decode cX7_bendAlong 41 = .ok (.iload_n 1, 1) := by decide +kernel
theorem dX7_bendAlong_42 : decode cX7_bendAlong 42 = .ok (.laload, 1) := by decide +kernel
theorem dX7_bendAlong_43 : decode cX7_bendAlong 43 = .ok (.aload_n 0, 1) := by decide +kernel
theorem dX7_bendAlong_44 : decode cX7_bendAlong 44 = .ok (.getfield 25, 3) := by decide +kernel
theorem dX7_bendAlong_47 : decode cX7_bendAlong 47 = .ok (.ldc2_w 133, 3) := by decide +kernel
theorem dX7_bendAlong_50 : decode cX7_bendAlong 50 = .ok (.ldiv, 1) := by decide +kernel
theorem dX7_bendAlong_51 : decode cX7_bendAlong 51 = .ok (.lmul, 1) := by decide +kernel
theorem dX7_bendAlong_52 : decode cX7_bendAlong 52 = .ok (.lsub, 1) := by decide +kernel
theorem dX7_bendAlong_53 : decode cX7_bendAlong 53 = .ok (.lastore, 1) := by decide +kernel
theorem dX7_bendAlong_54 : decode cX7_bendAlong 54 = .ok (.iinc 1 1, 3) := by decide +kernel
theorem dX7_bendAlong_57 : decode cX7_bendAlong 57 = .ok (.goto (-48), 3) := by decide +kernel
theorem dX7_bendAlong_60 : decode cX7_bendAlong 60 = .ok (.return_, 1) := by decide +kernel
theorem dX7_bendBetween_0 : decode cX7_bendBetween 0 = .ok (.lload_n 1, 1) := by decide +kernel
theorem dX7_bendBetween_1 : decode cX7_bendBetween 1 = .ok (.lload_n 3, 1) := by decide +kernel
theorem dX7_bendBetween_2 : decode cX7_bendBetween 2 = .ok (.invokestatic 153, 3) := by decide +kernel
theorem dX7_bendBetween_5 : decode cX7_bendBetween 5 = .ok (.aload_n 0, 1) := by decide +kernel
theorem dX7_bendBetween_6 : decode cX7_bendBetween 6 = .ok (.getfield 78, 3) := by decide +kernel
theorem dX7_bendBetween_9 : decode cX7_bendBetween 9 = .ok (.i2l, 1) := by decide +kernel
theorem dX7_bendBetween_10 : decode cX7_bendBetween 10 = .ok (.invokestatic 172, 3) := by decide +kernel
theorem dX7_bendBetween_13 : decode cX7_bendBetween 13 = .ok (.l2i, 1) := by decide +kernel
theorem dX7_bendBetween_14 : decode cX7_bendBetween 14 = .ok (.istore 6, 2) := by decide +kernel
theorem dX7_bendBetween_16 : decode cX7_bendBetween 16 = .ok (.lload_n 1, 1) := by decide +kernel
theorem dX7_bendBetween_17 : decode cX7_bendBetween 17 = .ok (.iload 6, 2) := by decide +kernel
theorem dX7_bendBetween_19 : decode cX7_bendBetween 19 = .ok (.i2l, 1) := by decide +kernel
theorem dX7_bendBetween_20 : decode cX7_bendBetween 20 = .ok (.lload_n 3, 1) := by decide +kernel
theorem dX7_bendBetween_21 : decode cX7_bendBetween 21 = .ok (.lmul, 1) := by decide +kernel
theorem dX7_bendBetween_22 : decode cX7_bendBetween 22 = .ok (.lsub, 1) := by decide +kernel
theorem dX7_bendBetween_23 : decode cX7_bendBetween 23 = .ok (.lstore 7, 2) := by decide +kernel
theorem dX7_bendBetween_25 : decode cX7_bendBetween 25 = .ok (.ldc2_w 133, 3) := by decide +kernel
theorem dX7_bendBetween_28 : decode cX7_bendBetween 28 = .ok (.lload_n 3, 1) := by decide +kernel
theorem dX7_bendBetween_29 : decode cX7_bendBetween 29 = .ok (.lmul, 1) := by decide +kernel
theorem dX7_bendBetween_30 : decode cX7_bendBetween 30 = .ok (.lload_n 3, 1) := by decide +kernel
theorem dX7_bendBetween_31 : decode cX7_bendBetween 31 = .ok (.lmul, 1) := by decide +kernel
theorem dX7_bendBetween_32 : decode cX7_bendBetween 32 = .ok (.aload_n 0, 1) := by decide +kernel
theorem dX7_bendBetween_33 : decode cX7_bendBetween 33 = .ok (.getfield 35, 3) := by decide +kernel
theorem dX7_bendBetween_36 : decode cX7_bendBetween 36 = .ok (.iload 6, 2) := by decide +kernel
theorem dX7_bendBetween_38 : decode cX7_bendBetween 38 = .ok (.laload, 1) := by decide +kernel
theorem dX7_bendBetween_39 : decode cX7_bendBetween 39 = .ok (.lmul, 1) := by decide +kernel
theorem dX7_bendBetween_40 : decode cX7_bendBetween 40 = .ok (.ldc2_w 133, 3) := by decide +kernel
theorem dX7_bendBetween_43 : decode cX7_bendBetween 43 = .ok (.lload_n 3, 1) := by decide +kernel
theorem dX7_bendBetween_44 : decode cX7_bendBetween 44 = .ok (.lmul, 1) := by decide +kernel
theorem dX7_bendBetween_45 : decode cX7_bendBetween 45 = .ok (.lload 7, 2) := by decide +kernel
theorem dX7_bendBetween_47 : decode cX7_bendBetween 47 = .ok (.lmul, 1) := by decide +kernel
theorem dX7_bendBetween_48 : decode cX7_bendBetween 48 = .ok (.aload_n 0, 1) := by decide +kernel
theorem dX7_bendBetween_49 : decode cX7_bendBetween 49 = .ok (.getfield 32, 3) := by decide +kernel
theorem dX7_bendBetween_52 : decode cX7_bendBetween 52 = .ok (.iload 6, 2) := by decide +kernel
theorem dX7_bendBetween_54 : decode cX7_bendBetween 54 = .ok (.laload, 1) := by decide +kernel
theorem dX7_bendBetween_55 : decode cX7_bendBetween 55 = .ok (.lmul, 1) := by decide +kernel
theorem dX7_bendBetween_56 : decode cX7_bendBetween 56 = .ok (.ladd, 1) := by decide +kernel
theorem dX7_bendBetween_57 : decode cX7_bendBetween 57 = .ok (.lload 7, 2) := by decide +kernel
theorem dX7_bendBetween_59 : decode cX7_bendBetween 59 = .ok (.lload 7, 2) := by decide +kernel
theorem dX7_bendBetween_61 : decode cX7_bendBetween 61 = .ok (.lmul, 1) := by decide +kernel
theorem dX7_bendBetween_62 : decode cX7_bendBetween 62 = .ok (.aload_n 0, 1) := by decide +kernel
theorem dX7_bendBetween_63 : decode cX7_bendBetween 63 = .ok (.getfield 22, 3) := by decide +kernel
theorem dX7_bendBetween_66 : decode cX7_bendBetween 66 = .ok (.iload 6, 2) := by decide +kernel
theorem dX7_bendBetween_68 : decode cX7_bendBetween 68 = .ok (.laload, 1) := by decide +kernel
theorem dX7_bendBetween_69 : decode cX7_bendBetween 69 = .ok (.lmul, 1) := by decide +kernel
theorem dX7_bendBetween_70 : decode cX7_bendBetween 70 = .ok (.aload_n 0, 1) := by decide +kernel
theorem dX7_bendBetween_71 : decode cX7_bendBetween 71 = .ok (.getfield 25, 3) := by decide +kernel
theorem dX7_bendBetween_74 : decode cX7_bendBetween 74 = .ok (.lmul, 1) := by decide +kernel
theorem dX7_bendBetween_75 : decode cX7_bendBetween 75 = .ok (.lsub, 1) := by decide +kernel
theorem dX7_bendBetween_76 : decode cX7_bendBetween 76 = .ok (.lstore 9, 2) := by decide +kernel
theorem dX7_bendBetween_78 : decode cX7_bendBetween 78 = .ok (.aload 5, 2) := by decide +kernel
theorem dX7_bendBetween_80 : decode cX7_bendBetween 80 = .ok (.lload 9, 2) := by decide +kernel
theorem dX7_bendBetween_82 : decode cX7_bendBetween 82 = .ok (.ldc2_w 133, 3) := by decide +kernel
theorem dX7_bendBetween_85 : decode cX7_bendBetween 85 = .ok (.lload_n 3, 1) := by decide +kernel
theorem dX7_bendBetween_86 : decode cX7_bendBetween 86 = .ok (.lmul, 1) := by decide +kernel
theorem dX7_bendBetween_87 : decode cX7_bendBetween 87 = .ok (.lload_n 3, 1) := by decide +kernel
theorem dX7_bendBetween_88 : decode cX7_bendBetween 88 = .ok (.lmul, 1) := by decide +kernel
theorem dX7_bendBetween_89 : decode cX7_bendBetween 89 = .ok (.aload_n 0, 1) := by decide +kernel
theorem dX7_bendBetween_90 : decode cX7_bendBetween 90 = .ok (.getfield 25, 3) := by decide +kernel
theorem dX7_bendBetween_93 : decode cX7_bendBetween 93 = .ok (.lmul, 1) := by decide +kernel
theorem dX7_bendBetween_94 : decode cX7_bendBetween 94 = .ok (.invokevirtual 177, 3) := by decide +kernel
theorem dX7_bendBetween_97 : decode cX7_bendBetween 97 = .ok (.return_, 1) := by decide +kernel
theorem dX7_findPeaks_0 : decode cX7_findPeaks 0 = .ok (.aload_n 0, 1) := by decide +kernel
theorem dX7_findPeaks_1 : decode cX7_findPeaks 1 = .ok (.getfield 49, 3) := by decide +kernel
theorem dX7_findPeaks_4 : decode cX7_findPeaks 4 = .ok (.iconst 0, 1) := by decide +kernel
theorem dX7_findPeaks_5 : decode cX7_findPeaks 5 = .ok (.putfield 181, 3) := by decide +kernel
theorem dX7_findPeaks_8 : decode cX7_findPeaks 8 = .ok (.aload_n 0, 1) := by decide +kernel
theorem dX7_findPeaks_9 : decode cX7_findPeaks 9 = .ok (.getfield 53, 3) := by decide +kernel
theorem dX7_findPeaks_12 : decode cX7_findPeaks 12 = .ok (.iconst 0, 1) := by decide +kernel
theorem dX7_findPeaks_13 : decode cX7_findPeaks 13 = .ok (.putfield 181, 3) := by decide +kernel
theorem dX7_findPeaks_16 : decode cX7_findPeaks 16 = .ok (.iconst 0, 1) := by decide +kernel
theorem dX7_findPeaks_17 : decode cX7_findPeaks 17 = .ok (.istore_n 1, 1) := by decide +kernel
theorem dX7_findPeaks_18 : decode cX7_findPeaks 18 = .ok (.iload_n 1, 1) := by decide +kernel
theorem dX7_findPeaks_19 : decode cX7_findPeaks 19 = .ok (.aload_n 0, 1) := by decide +kernel
theorem dX7_findPeaks_20 : decode cX7_findPeaks 20 = .ok (.getfield 78, 3) := by decide +kernel
theorem dX7_findPeaks_23 : decode cX7_findPeaks 23 = .ok (.if_icmp .gt 149, 3) := by decide +kernel
theorem dX7_findPeaks_26 : decode cX7_findPeaks 26 = .ok (.aload_n 0, 1) := by decide +kernel
theorem dX7_findPeaks_27 : decode cX7_findPeaks 27 = .ok (.getfield 65, 3) := by decide +kernel
theorem dX7_findPeaks_30 : decode cX7_findPeaks 30 = .ok (.aload_n 0, 1) := by decide +kernel
theorem dX7_findPeaks_31 : decode cX7_findPeaks 31 = .ok (.getfield 35, 3) := by decide +kernel
theorem dX7_findPeaks_34 : decode cX7_findPeaks 34 = .ok (.iload_n 1, 1) := by decide +kernel
theorem dX7_findPeaks_35 : decode cX7_findPeaks 35 = .ok (.laload, 1) := by decide +kernel
theorem dX7_findPeaks_36 : decode cX7_findPeaks 36 = .ok (.aload_n 0, 1) := by decide +kernel
theorem dX7_findPeaks_37 : decode cX7_findPeaks 37 = .ok (.getfield 25, 3) := by decide +kernel
theorem dX7_findPeaks_40 : decode cX7_findPeaks 40 = .ok (.invokevirtual 177, 3) := by decide +kernel
theorem dX7_findPeaks_43 : decode cX7_findPeaks 43 = .ok (.aload_n 0, 1) := by decide +kernel
theorem dX7_findPeaks_44 : decode cX7_findPeaks 44 = .ok (.getfield 69, 3) := by decide +kernel
theorem dX7_findPeaks_47 : decode cX7_findPeaks 47 = .ok (.iload_n 1, 1) := by decide +kernel
theorem dX7_findPeaks_48 : decode cX7_findPeaks 48 = .ok (.i2l, 1) := by decide +kernel
theorem dX7_findPeaks_49 : decode cX7_findPeaks 49 = .ok (.lconst 1, 1) := by decide +kernel
theorem dX7_findPeaks_50 : decode cX7_findPeaks 50 = .ok (.invokevirtual 177, 3) := by decide +kernel
theorem dX7_findPeaks_53 : decode cX7_findPeaks 53 = .ok (.aload_n 0, 1) := by decide +kernel
theorem dX7_findPeaks_54 : decode cX7_findPeaks 54 = .ok (.invokevirtual 185, 3) := by decide +kernel
theorem dX7_findPeaks_57 : decode cX7_findPeaks 57 = .ok (.iload_n 1, 1) := by decide +kernel
theorem dX7_findPeaks_58 : decode cX7_findPeaks 58 = .ok (.aload_n 0, 1) := by decide +kernel
theorem dX7_findPeaks_59 : decode cX7_findPeaks 59 = .ok (.getfield 78, 3) := by decide +kernel
theorem dX7_findPeaks_62 : decode cX7_findPeaks 62 = .ok (.if_icmp .ge 104, 3) := by decide +kernel
theorem dX7_findPeaks_65 : decode cX7_findPeaks 65 = .ok (.aload_n 0, 1) := by decide +kernel
theorem dX7_findPeaks_66 : decode cX7_findPeaks 66 = .ok (.iload_n 1, 1) := by decide +kernel
theorem dX7_findPeaks_67 : decode cX7_findPeaks 67 = .ok (.invokevirtual 188, 3) := by decide +kernel
theorem dX7_findPeaks_70 : decode cX7_findPeaks 70 = .ok (.ifCond .eq 96, 3) := by decide +kernel
theorem dX7_findPeaks_73 : decode cX7_findPeaks 73 = .ok (.aload_n 0, 1) := by decide +kernel
theorem dX7_findPeaks_74 : decode cX7_findPeaks 74 = .ok (.getfield 22, 3) := by decide +kernel
theorem dX7_findPeaks_77 : decode cX7_findPeaks 77 = .ok (.iload_n 1, 1) := by decide +kernel
theorem dX7_findPeaks_78 : decode cX7_findPeaks 78 = .ok (.laload, 1) := by decide +kernel
theorem dX7_findPeaks_79 : decode cX7_findPeaks 79 = .ok (.lstore_n 2, 1) := by decide +kernel
theorem dX7_findPeaks_80 : decode cX7_findPeaks 80 = .ok (.aload_n 0, 1) := by decide +kernel
theorem dX7_findPeaks_81 : decode cX7_findPeaks 81 = .ok (.getfield 65, 3) := by decide +kernel
theorem dX7_findPeaks_84 : decode cX7_findPeaks 84 = .ok (.ldc2_w 133, 3) := by decide +kernel
theorem dX7_findPeaks_87 : decode cX7_findPeaks 87 = .ok (.lload_n 2, 1) := by decide +kernel
theorem dX7_findPeaks_88 : decode cX7_findPeaks 88 = .ok (.lmul, 1) := by decide +kernel
theorem dX7_findPeaks_89 : decode cX7_findPeaks 89 = .ok (.aload_n 0, 1) := by decide +kernel
theorem dX7_findPeaks_90 : decode cX7_findPeaks 90 = .ok (.getfield 25, 3) := by decide +kernel
theorem dX7_findPeaks_93 : decode cX7_findPeaks 93 = .ok (.lmul, 1) := by decide +kernel
theorem dX7_findPeaks_94 : decode cX7_findPeaks 94 = .ok (.aload_n 0, 1) := by decide +kernel
theorem dX7_findPeaks_95 : decode cX7_findPeaks 95 = .ok (.getfield 35, 3) := by decide +kernel
theorem dX7_findPeaks_98 : decode cX7_findPeaks 98 = .ok (.iload_n 1, 1) := by decide +kernel
theorem dX7_findPeaks_99 : decode cX7_findPeaks 99 = .ok (.laload, 1) := by decide +kernel
theorem dX7_findPeaks_100 : decode cX7_findPeaks 100 = .ok (.lmul, 1) := by decide +kernel
theorem dX7_findPeaks_101 : decode cX7_findPeaks 101 = .ok (.aload_n 0, 1) := by decide +kernel
theorem dX7_findPeaks_102 : decode cX7_findPeaks 102 = .ok (.getfield 32, 3) := by decide +kernel
theorem dX7_findPeaks_105 : decode cX7_findPeaks 105 = .ok (.iload_n 1, 1) := by decide +kernel
theorem dX7_findPeaks_106 : decode cX7_findPeaks 106 = .ok (.laload, 1) := by decide +kernel
theorem dX7_findPeaks_107 : decode cX7_findPeaks 107 = .ok (.aload_n 0, 1) := by decide +kernel
theorem dX7_findPeaks_108 : decode cX7_findPeaks 108 = .ok (.getfield 32, 3) := by decide +kernel
theorem dX7_findPeaks_111 : decode cX7_findPeaks 111 = .ok (.iload_n 1, 1) := by decide +kernel
theorem dX7_findPeaks_112 : decode cX7_findPeaks 112 = .ok (.laload, 1) := by decide +kernel
theorem dX7_findPeaks_113 : decode cX7_findPeaks 113 = .ok (.lmul, 1) := by decide +kernel
theorem dX7_findPeaks_114 : decode cX7_findPeaks 114 = .ok (.ladd, 1) := by decide +kernel
theorem dX7_findPeaks_115 : decode cX7_findPeaks 115 = .ok (.ldc2_w 133, 3) := by decide +kernel
theorem dX7_findPeaks_118 : decode cX7_findPeaks 118 = .ok (.lload_n 2, 1) := by decide +kernel
theorem dX7_findPeaks_119 : decode cX7_findPeaks 119 = .ok (.lmul, 1) := by decide +kernel
theorem dX7_findPeaks_120 : decode cX7_findPeaks 120 = .ok (.aload_n 0, 1) := by decide +kernel
theorem dX7_findPeaks_121 : decode cX7_findPeaks 121 = .ok (.getfield 25, 3) := by decide +kernel
theorem dX7_findPeaks_124 : decode cX7_findPeaks 124 = .ok (.lmul, 1) := by decide +kernel
theorem dX7_findPeaks_125 : decode cX7_findPeaks 125 = .ok (.aload_n 0, 1) := by decide +kernel
theorem dX7_findPeaks_126 : decode cX7_findPeaks 126 = .ok (.getfield 25, 3) := by decide +kernel
theorem dX7_findPeaks_129 : decode cX7_findPeaks 129 = .ok (.lmul, 1) := by decide +kernel
theorem dX7_findPeaks_130 : decode cX7_findPeaks 130 = .ok (.invokevirtual 177, 3) := by decide +kernel
theorem dX7_findPeaks_133 : decode cX7_findPeaks 133 = .ok (.aload_n 0, 1) := by decide +kernel
theorem dX7_findPeaks_134 : decode cX7_findPeaks 134 = .ok (.getfield 69, 3) := by decide +kernel
theorem dX7_findPeaks_137 : decode cX7_findPeaks 137 = .ok (.iload_n 1, 1) := by decide +kernel
theorem dX7_findPeaks_138 : decode cX7_findPeaks 138 = .ok (.i2l, 1) := by decide +kernel
theorem dX7_findPeaks_139 : decode cX7_findPeaks 139 = .ok (.lload_n 2, 1) := by decide +kernel
theorem dX7_findPeaks_140 : decode cX7_findPeaks 140 = .ok (.lmul, 1) := by decide +kernel
theorem dX7_findPeaks_141 : decode cX7_findPeaks 141 = .ok (.aload_n 0, 1) := by decide +kernel
theorem dX7_findPeaks_142 : decode cX7_findPeaks 142 = .ok (.getfield 25, 3) := by decide +kernel
theorem dX7_findPeaks_145 : decode cX7_findPeaks 145 = .ok (.lmul, 1) := by decide +kernel
theorem dX7_findPeaks_146 : decode cX7_findPeaks 146 = .ok (.aload_n 0, 1) := by decide +kernel
theorem dX7_findPeaks_147 : decode cX7_findPeaks 147 = .ok (.getfield 32, 3) := by decide +kernel
theorem dX7_findPeaks_150 : decode cX7_findPeaks 150 = .ok (.iload_n 1, 1) := by decide +kernel
theorem dX7_findPeaks_151 : decode cX7_findPeaks 151 = .ok (.laload, 1) := by decide +kernel
theorem dX7_findPeaks_152 : decode cX7_findPeaks 152 = .ok (.ladd, 1) := by decide +kernel
theorem dX7_findPeaks_153 : decode cX7_findPeaks 153 = .ok (.lload_n 2, 1) := by decide +kernel
theorem dX7_findPeaks_154 : decode cX7_findPeaks 154 = .ok (.aload_n 0, 1) := by decide +kernel
theorem dX7_findPeaks_155 : decode cX7_findPeaks 155 = .ok (.getfield 25, 3) := by decide +kernel
theorem dX7_findPeaks_158 : decode cX7_findPeaks 158 = .ok (.lmul, 1) := by decide +kernel
theorem dX7_findPeaks_159 : decode cX7_findPeaks 159 = .ok (.invokevirtual 177, 3) := by decide +kernel
theorem dX7_findPeaks_162 : decode cX7_findPeaks 162 = .ok (.aload_n 0, 1) := by decide +kernel
theorem dX7_findPeaks_163 : decode cX7_findPeaks 163 = .ok (.invokevirtual 185, 3) := by decide +kernel
theorem dX7_findPeaks_166 : decode cX7_findPeaks 166 = .ok (.iinc 1 1, 3) := by decide +kernel
theorem dX7_findPeaks_169 : decode cX7_findPeaks 169 = .ok (.goto (-151), 3) := by decide +kernel
theorem dX7_findPeaks_172 : decode cX7_findPeaks 172 = .ok (.return_, 1) := by decide +kernel
theorem dX7_offerPeak_0 : decode cX7_offerPeak 0 = .ok (.aload_n 0, 1) := by decide +kernel
theorem dX7_offerPeak_1 : decode cX7_offerPeak 1 = .ok (.getfield 49, 3) := by decide +kernel
theorem dX7_offerPeak_4 : decode cX7_offerPeak 4 = .ok (.aload_n 0, 1) := by decide +kernel
theorem dX7_offerPeak_5 : decode cX7_offerPeak 5 = .ok (.getfield 65, 3) := by decide +kernel
theorem dX7_offerPeak_8 : decode cX7_offerPeak 8 = .ok (.aload_n 0, 1) := by decide +kernel
theorem dX7_offerPeak_9 : decode cX7_offerPeak 9 = .ok (.getfield 69, 3) := by decide +kernel
theorem dX7_offerPeak_12 : decode cX7_offerPeak 12 = .ok (.invokevirtual 191, 3) := by decide +kernel
theorem dX7_offerPeak_15 : decode cX7_offerPeak 15 = .ok (.aload_n 0, 1) := by decide +kernel
theorem dX7_offerPeak_16 : decode cX7_offerPeak 16 = .ok (.getfield 53, 3) := by decide +kernel
theorem dX7_offerPeak_19 : decode cX7_offerPeak 19 = .ok (.aload_n 0, 1) := by decide +kernel
theorem dX7_offerPeak_20 : decode cX7_offerPeak 20 = .ok (.getfield 65, 3) := by decide +kernel
theorem dX7_offerPeak_23 : decode cX7_offerPeak 23 = .ok (.aload_n 0, 1) := by decide +kernel
theorem dX7_offerPeak_24 : decode cX7_offerPeak 24 = .ok (.getfield 69, 3) := by decide +kernel
theorem dX7_offerPeak_27 : decode cX7_offerPeak 27 = .ok (.invokevirtual 191, 3) := by decide +kernel
theorem dX7_offerPeak_30 : decode cX7_offerPeak 30 = .ok (.return_, 1) := by decide +kernel
theorem dX7_turnsWithin_0 : decode cX7_turnsWithin 0 = .ok (.aload_n 0, 1) := by decide +kernel
theorem dX7_turnsWithin_1 : decode cX7_turnsWithin 1 = .ok (.getfield 22, 3) := by decide +kernel
theorem dX7_turnsWithin_4 : decode cX7_turnsWithin 4 = .ok (.iload_n 1, 1) := by decide +kernel
theorem dX7_turnsWithin_5 : decode cX7_turnsWithin 5 = .ok (.laload, 1) := by decide +kernel
theorem dX7_turnsWithin_6 : decode cX7_turnsWithin 6 = .ok (.aload_n 0, 1) := by decide +kernel
theorem dX7_turnsWithin_7 : decode cX7_turnsWithin 7 = .ok (.getfield 25, 3) := by decide +kernel
theorem dX7_turnsWithin_10 : decode cX7_turnsWithin 10 = .ok (.lmul, 1) := by decide +kernel
theorem dX7_turnsWithin_11 : decode cX7_turnsWithin 11 = .ok (.lstore_n 2, 1) := by decide +kernel
theorem dX7_turnsWithin_12 : decode cX7_turnsWithin 12 = .ok (.lload_n 2, 1) := by decide +kernel
theorem dX7_turnsWithin_13 : decode cX7_turnsWithin 13 = .ok (.lconst 0, 1) := by decide +kernel
theorem dX7_turnsWithin_14 : decode cX7_turnsWithin 14 = .ok (.lcmp, 1) := by decide +kernel
theorem dX7_turnsWithin_15 : decode cX7_turnsWithin 15 = .ok (.ifCond .le 33, 3) := by decide +kernel
theorem dX7_turnsWithin_18 : decode cX7_turnsWithin 18 = .ok (.aload_n 0, 1) := by decide +kernel
theorem dX7_turnsWithin_19 : decode cX7_turnsWithin 19 = .ok (.getfield 32, 3) := by decide +kernel
theorem dX7_turnsWithin_22 : decode cX7_turnsWithin 22 = .ok (.iload_n 1, 1) := by decide +kernel
theorem dX7_turnsWithin_23 : decode cX7_turnsWithin 23 = .ok (.laload, 1) := by decide +kernel
theorem dX7_turnsWithin_24 : decode cX7_turnsWithin 24 = .ok (.lconst 0, 1) := by decide +kernel
theorem dX7_turnsWithin_25 : decode cX7_turnsWithin 25 = .ok (.lcmp, 1) := by decide +kernel
theorem dX7_turnsWithin_26 : decode cX7_turnsWithin 26 = .ok (.ifCond .le 18, 3) := by decide +kernel
theorem dX7_turnsWithin_29 : decode cX7_turnsWithin 29 = .ok (.aload_n 0, 1) := by decide +kernel
theorem dX7_turnsWithin_30 : decode cX7_turnsWithin 30 = .ok (.getfield 32, 3) := by decide +kernel
theorem dX7_turnsWithin_33 : decode cX7_turnsWithin 33 = .ok (.iload_n 1, 1) := by decide +kernel
theorem dX7_turnsWithin_34 : decode cX7_turnsWithin 34 = .ok (.laload, 1) := by decide +kernel
theorem dX7_turnsWithin_35 : decode cX7_turnsWithin 35 = .ok (.lload_n 2, 1) := by decide +kernel
theorem dX7_turnsWithin_36 : decode cX7_turnsWithin 36 = .ok (.lcmp, 1) := by decide +kernel
theorem dX7_turnsWithin_37 : decode cX7_turnsWithin 37 = .ok (.ifCond .ge 7, 3) := by decide +kernel
theorem dX7_turnsWithin_40 : decode cX7_turnsWithin 40 = .ok (.iconst 1, 1) := by decide +kernel
theorem dX7_turnsWithin_41 : decode cX7_turnsWithin 41 = .ok (.goto 34, 3) := by decide +kernel
theorem dX7_turnsWithin_44 : decode cX7_turnsWithin 44 = .ok (.iconst 0, 1) := by decide +kernel
theorem dX7_turnsWithin_45 : decode cX7_turnsWithin 45 = .ok (.goto 30, 3) := by decide +kernel
theorem dX7_turnsWithin_48 : decode cX7_turnsWithin 48 = .ok (.aload_n 0, 1) := by decide +kernel
theorem dX7_turnsWithin_49 : decode cX7_turnsWithin 49 = .ok (.getfield 32, 3) := by decide +kernel
theorem dX7_turnsWithin_52 : decode cX7_turnsWithin 52 = .ok (.iload_n 1, 1) := by decide +kernel
theorem dX7_turnsWithin_53 : decode cX7_turnsWithin 53 = .ok (.laload, 1) := by decide +kernel
theorem dX7_turnsWithin_54 : decode cX7_turnsWithin 54 = .ok (.lconst 0, 1) := by decide +kernel
theorem dX7_turnsWithin_55 : decode cX7_turnsWithin 55 = .ok (.lcmp, 1) := by decide +kernel
theorem dX7_turnsWithin_56 : decode cX7_turnsWithin 56 = .ok (.ifCond .ge 18, 3) := by decide +kernel
theorem dX7_turnsWithin_59 : decode cX7_turnsWithin 59 = .ok (.aload_n 0, 1) := by decide +kernel
theorem dX7_turnsWithin_60 : decode cX7_turnsWithin 60 = .ok (.getfield 32, 3) := by decide +kernel
theorem dX7_turnsWithin_63 : decode cX7_turnsWithin 63 = .ok (.iload_n 1, 1) := by decide +kernel
theorem dX7_turnsWithin_64 : decode cX7_turnsWithin 64 = .ok (.laload, 1) := by decide +kernel
theorem dX7_turnsWithin_65 : decode cX7_turnsWithin 65 = .ok (.lload_n 2, 1) := by decide +kernel
theorem dX7_turnsWithin_66 : decode cX7_turnsWithin 66 = .ok (.lcmp, 1) := by decide +kernel
theorem dX7_turnsWithin_67 : decode cX7_turnsWithin 67 = .ok (.ifCond .le 7, 3) := by decide +kernel
theorem dX7_turnsWithin_70 : decode cX7_turnsWithin 70 = .ok (.iconst 1, 1) := by decide +kernel
theorem dX7_turnsWithin_71 : decode cX7_turnsWithin 71 = .ok (.goto 4, 3) := by decide +kernel
theorem dX7_turnsWithin_74 : decode cX7_turnsWithin 74 = .ok (.iconst 0, 1) := by decide +kernel
theorem dX7_turnsWithin_75 : decode cX7_turnsWithin 75 = .ok (.ireturn, 1) := by decide +kernel
theorem dX7_tellSpan_0 : decode cX7_tellSpan 0 = .ok (.aload_n 0, 1) := by decide +kernel
theorem dX7_tellSpan_1 : decode cX7_tellSpan 1 = .ok (.invokevirtual 195, 3) := by decide +kernel
theorem dX7_tellSpan_4 : decode cX7_tellSpan 4 = .ok (.aload_n 1, 1) := by decide +kernel
theorem dX7_tellSpan_5 : decode cX7_tellSpan 5 = .ok (.aload_n 0, 1) := by decide +kernel
theorem dX7_tellSpan_6 : decode cX7_tellSpan 6 = .ok (.getfield 53, 3) := by decide +kernel
theorem dX7_tellSpan_9 : decode cX7_tellSpan 9 = .ok (.getfield 198, 3) := by decide +kernel
theorem dX7_tellSpan_12 : decode cX7_tellSpan 12 = .ok (.getfield 199, 3) := by decide +kernel
theorem dX7_tellSpan_15 : decode cX7_tellSpan 15 = .ok (.lneg, 1) := by decide +kernel
theorem dX7_tellSpan_16 : decode cX7_tellSpan 16 = .ok (.aload_n 0, 1) := by decide +kernel
theorem dX7_tellSpan_17 : decode cX7_tellSpan 17 = .ok (.getfield 53, 3) := by decide +kernel
theorem dX7_tellSpan_20 : decode cX7_tellSpan 20 = .ok (.getfield 198, 3) := by decide +kernel
theorem dX7_tellSpan_23 : decode cX7_tellSpan 23 = .ok (.getfield 202, 3) := by decide +kernel
theorem dX7_tellSpan_26 : decode cX7_tellSpan 26 = .ok (.invokevirtual 177, 3) := by decide +kernel
theorem dX7_tellSpan_29 : decode cX7_tellSpan 29 = .ok (.aload_n 0, 1) := by decide +kernel
theorem dX7_tellSpan_30 : decode cX7_tellSpan 30 = .ok (.getfield 49, 3) := by decide +kernel
theorem dX7_tellSpan_33 : decode cX7_tellSpan 33 = .ok (.getfield 198, 3) := by decide +kernel
theorem dX7_tellSpan_36 : decode cX7_tellSpan 36 = .ok (.aload_n 1, 1) := by decide +kernel
theorem dX7_tellSpan_37 : decode cX7_tellSpan 37 = .ok (.invokevirtual 203, 3) := by decide +kernel
theorem dX7_tellSpan_40 : decode cX7_tellSpan 40 = .ok (.ifCond .le 14, 3) := by decide +kernel
theorem dX7_tellSpan_43 : decode cX7_tellSpan 43 = .ok (.aload_n 1, 1) := by decide +kernel
theorem dX7_tellSpan_44 : decode cX7_tellSpan 44 = .ok (.aload_n 0, 1) := by decide +kernel
theorem dX7_tellSpan_45 : decode cX7_tellSpan 45 = .ok (.getfield 49, 3) := by decide +kernel
theorem dX7_tellSpan_48 : decode cX7_tellSpan 48 = .ok (.getfield 198, 3) := by decide +kernel
theorem dX7_tellSpan_51 : decode cX7_tellSpan 51 = .ok (.invokevirtual 207, 3) := by decide +kernel
theorem dX7_tellSpan_54 : decode cX7_tellSpan 54 = .ok (.return_, 1) := by decide +kernel
theorem dX7_findSags_0 : decode cX7_findSags 0 = .ok (.aload_n 0, 1) := by decide +kernel
theorem dX7_findSags_1 : decode cX7_findSags 1 = .ok (.ldc2_w 211, 3) := by decide +kernel
theorem dX7_findSags_4 : decode cX7_findSags 4 = .ok (.aload_n 0, 1) := by decide +kernel
theorem dX7_findSags_5 : decode cX7_findSags 5 = .ok (.getfield 25, 3) := by decide +kernel
theorem dX7_findSags_8 : decode cX7_findSags 8 = .ok (.lmul, 1) := by decide +kernel
theorem dX7_findSags_9 : decode cX7_findSags 9 = .ok (.aload_n 0, 1) := by decide +kernel
theorem dX7_findSags_10 : decode cX7_findSags 10 = .ok (.getfield 56, 3) := by decide +kernel
theorem dX7_findSags_13 : decode cX7_findSags 13 = .ok (.lmul, 1) := by decide +kernel
theorem dX7_findSags_14 : decode cX7_findSags 14 = .ok (.putfield 38, 3) := by decide +kernel
theorem dX7_findSags_17 : decode cX7_findSags 17 = .ok (.iconst 0, 1) := by decide +kernel
theorem dX7_findSags_18 : decode cX7_findSags 18 = .ok (.istore_n 1, 1) := by decide +kernel
theorem dX7_findSags_19 : decode cX7_findSags 19 = .ok (.iload_n 1, 1) := by decide +kernel
theorem dX7_findSags_20 : decode cX7_findSags 20 = .ok (.iconst 1, 1) := by decide +kernel
theorem dX7_findSags_21 : decode cX7_findSags 21 = .ok (.iadd, 1) := by decide +kernel
theorem dX7_findSags_22 : decode cX7_findSags 22 = .ok (.aload_n 0, 1) := by decide +kernel
theorem dX7_findSags_23 : decode cX7_findSags 23 = .ok (.getfield 82, 3) := by decide +kernel
theorem dX7_findSags_26 : decode cX7_findSags 26 = .ok (.if_icmp .ge 39, 3) := by decide +kernel
theorem dX7_findSags_29 : decode cX7_findSags 29 = .ok (.aload_n 0, 1) := by decide +kernel
theorem dX7_findSags_30 : decode cX7_findSags 30 = .ok (.iload_n 1, 1) := by decide +kernel
theorem dX7_findSags_31 : decode cX7_findSags 31 = .ok (.invokevirtual 213, 3) := by decide +kernel
theorem dX7_findSags_34 : decode cX7_findSags 34 = .ok (.lstore_n 2, 1) := by decide +kernel
theorem dX7_findSags_35 : decode cX7_findSags 35 = .ok (.iload_n 1, 1) := by decide +kernel
theorem dX7_findSags_36 : decode cX7_findSags 36 = .ok (.ifCond .ne 8, 3) := by decide +kernel
theorem dX7_findSags_39 : decode cX7_findSags 39 = .ok (.aload_n 0, 1) := by decide +kernel
theorem dX7_findSags_40 : decode cX7_findSags 40 = .ok (.lload_n 2, 1) := by decide +kernel
theorem dX7_findSags_41 : decode cX7_findSags 41 = .ok (.invokevirtual 216, 3) := by decide +kernel
theorem dX7_findSags_44 : decode cX7_findSags 44 = .ok (.iload_n 1, 1) := by decide +kernel
theorem dX7_findSags_45 : decode cX7_findSags 45 = .ok (.aload_n 0, 1) := by decide +kernel
theorem dX7_findSags_46 : decode cX7_findSags 46 = .ok (.getfield 82, 3) := by decide +kernel
theorem dX7_findSags_49 : decode cX7_findSags 49 = .ok (.iconst 2, 1) := by decide +kernel
theorem dX7_findSags_50 : decode cX7_findSags 50 = .ok (.isub, 1) := by decide +kernel
theorem dX7_findSags_51 : decode cX7_findSags 51 = .ok (.if_icmp .ne 8, 3) := by decide +kernel
theorem dX7_findSags_54 : decode cX7_findSags 54 = .ok (.aload_n 0, 1) := by decide +kernel
theorem dX7_findSags_55 : decode cX7_findSags 55 = .ok (.lload_n 2, 1) := by decide +kernel
theorem dX7_findSags_56 : decode cX7_findSags 56 = .ok (.invokevirtual 220, 3) := by decide +kernel
theorem dX7_findSags_59 : decode cX7_findSags 59 = .ok (.iinc 1 1, 3) := by decide +kernel
theorem dX7_findSags_62 : decode cX7_findSags 62 = .ok (.goto (-43), 3) := by decide +kernel
theorem dX7_findSags_65 : decode cX7_findSags 65 = .ok (.return_, 1) := by decide +kernel
theorem dX7_sagOfSpan_0 : decode cX7_sagOfSpan 0 = .ok (.aload_n 0, 1) := by decide +kernel
theorem dX7_sagOfSpan_1 : decode cX7_sagOfSpan 1 = .ok (.getfield 41, 3) := by decide +kernel
theorem dX7_sagOfSpan_4 : decode cX7_sagOfSpan 4 = .ok (.aload_n 0, 1) := by decide +kernel
theorem dX7_sagOfSpan_5 : decode cX7_sagOfSpan 5 = .ok (.getfield 9, 3) := by decide +kernel
theorem dX7_sagOfSpan_8 : decode cX7_sagOfSpan 8 = .ok (.iload_n 1, 1) := by decide +kernel
theorem dX7_sagOfSpan_9 : decode cX7_sagOfSpan 9 = .ok (.iaload, 1) := by decide +kernel
theorem dX7_sagOfSpan_10 : decode cX7_sagOfSpan 10 = .ok (.lconst 0, 1) := by decide +kernel
theorem dX7_sagOfSpan_11 : decode cX7_sagOfSpan 11 = .ok (.lastore, 1) := by decide +kernel
theorem dX7_sagOfSpan_12 : decode cX7_sagOfSpan 12 = .ok (.lconst 0, 1) := by decide +kernel
theorem dX7_sagOfSpan_13 : decode cX7_sagOfSpan 13 = .ok (.lstore_n 2, 1) := by decide +kernel
theorem dX7_sagOfSpan_14 : decode cX7_sagOfSpan 14 = .ok (.aload_n 0, 1) := by decide +kernel
theorem dX7_sagOfSpan_15 : decode cX7_sagOfSpan 15 = .ok (.getfield 9, 3) := by decide +kernel
theorem dX7_sagOfSpan_18 : decode cX7_sagOfSpan 18 = .ok (.iload_n 1, 1) := by decide +kernel
theorem dX7_sagOfSpan_19 : decode cX7_sagOfSpan 19 = .ok (.iaload, 1) := by decide +kernel
theorem dX7_sagOfSpan_20 : decode cX7_sagOfSpan 20 = .ok (.istore 4, 2) := by decide +kernel
theorem dX7_sagOfSpan_22 : decode cX7_sagOfSpan 22 = .ok (.iload 4, 2) := by decide +kernel
theorem dX7_sagOfSpan_24 : decode cX7_sagOfSpan 24 = .ok (.aload_n 0, 1) := by decide +kernel
theorem dX7_sagOfSpan_25 : decode cX7_sagOfSpan 25 = .ok (.getfield 9, 3) := by decide +kernel
theorem dX7_sagOfSpan_28 : decode cX7_sagOfSpan 28 = .ok (.iload_n 1, 1) := by decide +kernel
theorem dX7_sagOfSpan_29 : decode cX7_sagOfSpan 29 = .ok (.iconst 1, 1) := by decide +kernel
theorem dX7_sagOfSpan_30 : decode cX7_sagOfSpan 30 = .ok (.iadd, 1) := by decide +kernel
theorem dX7_sagOfSpan_31 : decode cX7_sagOfSpan 31 = .ok (.iaload, 1) := by decide +kernel
theorem dX7_sagOfSpan_32 : decode cX7_sagOfSpan 32 = .ok (.if_icmp .ge 43, 3) := by decide +kernel
theorem dX7_sagOfSpan_35 : decode cX7_sagOfSpan 35 = .ok (.aload_n 0, 1) := by decide +kernel
theorem dX7_sagOfSpan_36 : decode cX7_sagOfSpan 36 = .ok (.getfield 41, 3) := by decide +kernel
theorem dX7_sagOfSpan_39 : decode cX7_sagOfSpan 39 = .ok (.iload 4, 2) := by decide +kernel
theorem dX7_sagOfSpan_41 : decode cX7_sagOfSpan 41 = .ok (.iconst 1, 1) := by decide +kernel
theorem dX7_sagOfSpan_42 : decode cX7_sagOfSpan 42 = .ok (.iadd, 1) := by decide +kernel
theorem dX7_sagOfSpan_43 : decode cX7_sagOfSpan 43 = .ok (.aload_n 0, 1) := by decide +kernel
theorem dX7_sagOfSpan_44 : decode cX7_sagOfSpan 44 = .ok (.getfield 41, 3) := by decide +kernel
theorem dX7_sagOfSpan_47 : decode cX7_sagOfSpan 47 = .ok (.iload 4, 2) := by decide +kernel
theorem dX7_sagOfSpan_49 : decode cX7_sagOfSpan 49 = .ok (.laload, 1) := by decide +kernel
theorem dX7_sagOfSpan_50 : decode cX7_sagOfSpan 50 = .ok (.lload_n 2, 1) := by decide +kernel
theorem dX7_sagOfSpan_51 : decode cX7_sagOfSpan 51 = .ok (.ladd, 1) := by decide +kernel
theorem dX7_sagOfSpan_52 : decode cX7_sagOfSpan 52 = .ok (.aload_n 0, 1) := by decide +kernel
theorem dX7_sagOfSpan_53 : decode cX7_sagOfSpan 53 = .ok (.iload 4, 2) := by decide +kernel
theorem dX7_sagOfSpan_55 : decode cX7_sagOfSpan 55 = .ok (.invokevirtual 223, 3) := by decide +kernel
theorem dX7_sagOfSpan_58 : decode cX7_sagOfSpan 58 = .ok (.lsub, 1) := by decide +kernel
theorem dX7_sagOfSpan_59 : decode cX7_sagOfSpan 59 = .ok (.lastore, 1) := by decide +kernel
theorem dX7_sagOfSpan_60 : decode cX7_sagOfSpan 60 = .ok (.lload_n 2, 1) := by decide +kernel
theorem dX7_sagOfSpan_61 : decode cX7_sagOfSpan 61 = .ok (.aload_n 0, 1) := by decide +kernel
theorem dX7_sagOfSpan_62 : decode cX7_sagOfSpan 62 = .ok (.iload 4, 2) := by decide +kernel
theorem dX7_sagOfSpan_64 : decode cX7_sagOfSpan 64 = .ok (.invokevirtual 226, 3) := by decide +kernel
theorem dX7_sagOfSpan_67 : decode cX7_sagOfSpan 67 = .ok (.lsub, 1) := by decide +kernel
theorem dX7_sagOfSpan_68 : decode cX7_sagOfSpan 68 = .ok (.lstore_n 2, 1) := by decide +kernel
theorem dX7_sagOfSpan_69 : decode cX7_sagOfSpan 69 = .ok (.iinc 4 1, 3) := by decide +kernel
theorem dX7_sagOfSpan_72 : decode cX7_sagOfSpan 72 = .ok (.goto (-50), 3) := by decide +kernel
theorem dX7_sagOfSpan_75 : decode cX7_sagOfSpan 75 = .ok (.aload_n 0, 1) := by decide +kernel
theorem dX7_sagOfSpan_76 : decode cX7_sagOfSpan 76 = .ok (.getfield 41, 3) := by decide +kernel
theorem dX7_sagOfSpan_79 : decode cX7_sagOfSpan 79 = .ok (.aload_n 0, 1) := by decide +kernel
theorem dX7_sagOfSpan_80 : decode cX7_sagOfSpan 80 = .ok (.getfield 9, 3) := by decide +kernel
theorem dX7_sagOfSpan_83 : decode cX7_sagOfSpan 83 = .ok (.iload_n 1, 1) := by decide +kernel
theorem dX7_sagOfSpan_84 : decode cX7_sagOfSpan 84 = .ok (.iconst 1, 1) := by decide +kernel
theorem dX7_sagOfSpan_85 : decode cX7_sagOfSpan 85 = .ok (.iadd, 1) := by decide +kernel
theorem dX7_sagOfSpan_86 : decode cX7_sagOfSpan 86 = .ok (.iaload, 1) := by decide +kernel
theorem dX7_sagOfSpan_87 : decode cX7_sagOfSpan 87 = .ok (.laload, 1) := by decide +kernel
theorem dX7_sagOfSpan_88 : decode cX7_sagOfSpan 88 = .ok (.lneg, 1) := by decide +kernel
theorem dX7_sagOfSpan_89 : decode cX7_sagOfSpan 89 = .ok (.aload_n 0, 1) := by decide +kernel
theorem dX7_sagOfSpan_90 : decode cX7_sagOfSpan 90 = .ok (.getfield 56, 3) := by decide +kernel
theorem dX7_sagOfSpan_93 : decode cX7_sagOfSpan 93 = .ok (.aload_n 0, 1) := by decide +kernel
theorem dX7_sagOfSpan_94 : decode cX7_sagOfSpan 94 = .ok (.iload_n 1, 1) := by decide +kernel
theorem dX7_sagOfSpan_95 : decode cX7_sagOfSpan 95 = .ok (.invokevirtual 129, 3) := by decide +kernel
theorem dX7_sagOfSpan_98 : decode cX7_sagOfSpan 98 = .ok (.invokestatic 153, 3) := by decide +kernel
theorem dX7_sagOfSpan_101 : decode cX7_sagOfSpan 101 = .ok (.lmul, 1) := by decide +kernel
theorem dX7_sagOfSpan_102 : decode cX7_sagOfSpan 102 = .ok (.lstore 4, 2) := by decide +kernel
theorem dX7_sagOfSpan_104 : decode cX7_sagOfSpan 104 = .ok (.aload_n 0, 1) := by decide +kernel
theorem dX7_sagOfSpan_105 : decode cX7_sagOfSpan 105 = .ok (.getfield 9, 3) := by decide +kernel
theorem dX7_sagOfSpan_108 : decode cX7_sagOfSpan 108 = .ok (.iload_n 1, 1) := by decide +kernel
theorem dX7_sagOfSpan_109 : decode cX7_sagOfSpan 109 = .ok (.iaload, 1) := by decide +kernel
theorem dX7_sagOfSpan_110 : decode cX7_sagOfSpan 110 = .ok (.istore 6, 2) := by decide +kernel
theorem dX7_sagOfSpan_112 : decode cX7_sagOfSpan 112 = .ok (.iload 6, 2) := by decide +kernel
theorem dX7_sagOfSpan_114 : decode cX7_sagOfSpan 114 = .ok (.aload_n 0, 1) := by decide +kernel
theorem dX7_sagOfSpan_115 : decode cX7_sagOfSpan 115 = .ok (.getfield 9, 3) := by decide +kernel
theorem dX7_sagOfSpan_118 : decode cX7_sagOfSpan 118 = .ok (.iload_n 1, 1) := by decide +kernel
theorem dX7_sagOfSpan_119 : decode cX7_sagOfSpan 119 = .ok (.iconst 1, 1) := by decide +kernel
theorem dX7_sagOfSpan_120 : decode cX7_sagOfSpan 120 = .ok (.iadd, 1) := by decide +kernel
theorem dX7_sagOfSpan_121 : decode cX7_sagOfSpan 121 = .ok (.iaload, 1) := by decide +kernel
theorem dX7_sagOfSpan_122 : decode cX7_sagOfSpan 122 = .ok (.if_icmp .gt 42, 3) := by decide +kernel
theorem dX7_sagOfSpan_125 : decode cX7_sagOfSpan 125 = .ok (.aload_n 0, 1) := by decide +kernel
theorem dX7_sagOfSpan_126 : decode cX7_sagOfSpan 126 = .ok (.getfield 41, 3) := by decide +kernel
theorem dX7_sagOfSpan_129 : decode cX7_sagOfSpan 129 = .ok (.iload 6, 2) := by decide +kernel
theorem dX7_sagOfSpan_131 : decode cX7_sagOfSpan 131 = .ok (.aload_n 0, 1) := by decide +kernel
theorem dX7_sagOfSpan_132 : decode cX7_sagOfSpan 132 = .ok (.getfield 41, 3) := by decide +kernel
theorem dX7_sagOfSpan_135 : decode cX7_sagOfSpan 135 = .ok (.iload 6, 2) := by decide +kernel
theorem dX7_sagOfSpan_137 : decode cX7_sagOfSpan 137 = .ok (.laload, 1) := by decide +kernel
theorem dX7_sagOfSpan_138 : decode cX7_sagOfSpan 138 = .ok (.aload_n 0, 1) := by decide +kernel
theorem dX7_sagOfSpan_139 : decode cX7_sagOfSpan 139 = .ok (.getfield 56, 3) := by decide +kernel
theorem dX7_sagOfSpan_142 : decode cX7_sagOfSpan 142 = .ok (.lmul, 1) := by decide +kernel
theorem dX7_sagOfSpan_143 : decode cX7_sagOfSpan 143 = .ok (.iload 6, 2) := by decide +kernel
theorem dX7_sagOfSpan_145 : decode cX7_sagOfSpan 145 = .ok (.aload_n 0, 1) := by decide +kernel
theorem dX7_sagOfSpan_146 : decode cX7_sagOfSpan 146 = .ok (.getfield 9, 3) := by decide +kernel
theorem dX7_sagOfSpan_149 : decode cX7_sagOfSpan 149 = .ok (.iload_n 1, 1) := by decide +kernel
theorem dX7_sagOfSpan_150 : decode cX7_sagOfSpan 150 = .ok (.iaload, 1) := by decide +kernel
theorem dX7_sagOfSpan_151 : decode cX7_sagOfSpan 151 = .ok (.isub, 1) := by decide +kernel
theorem dX7_sagOfSpan_152 : decode cX7_sagOfSpan 152 = .ok (.i2l, 1) := by decide +kernel
theorem dX7_sagOfSpan_153 : decode cX7_sagOfSpan 153 = .ok (.lload 4, 2) := by decide +kernel
theorem dX7_sagOfSpan_155 : decode cX7_sagOfSpan 155 = .ok (.lmul, 1) := by decide +kernel
theorem dX7_sagOfSpan_156 : decode cX7_sagOfSpan 156 = .ok (.ladd, 1) := by decide +kernel
theorem dX7_sagOfSpan_157 : decode cX7_sagOfSpan 157 = .ok (.lastore, 1) := by decide +kernel
theorem dX7_sagOfSpan_158 : decode cX7_sagOfSpan 158 = .ok (.iinc 6 1, 3) := by decide +kernel
theorem dX7_sagOfSpan_161 : decode cX7_sagOfSpan 161 = .ok (.goto (-49), 3) := by decide +kernel
theorem dX7_sagOfSpan_164 : decode cX7_sagOfSpan 164 = .ok (.lload 4, 2) := by decide +kernel
theorem dX7_sagOfSpan_166 : decode cX7_sagOfSpan 166 = .ok (.lreturn, 1) := by decide +kernel
theorem dX7_sagAheadOfFirst_0 : decode cX7_sagAheadOfFirst 0 = .ok (.lload_n 1, 1) := by decide +kernel
theorem dX7_sagAheadOfFirst_1 : decode cX7_sagAheadOfFirst 1 = .ok (.lstore_n 3, 1) := by decide +kernel
theorem dX7_sagAheadOfFirst_2 : decode cX7_sagAheadOfFirst 2 = .ok (.aload_n 0, 1) := by decide +kernel
theorem dX7_sagAheadOfFirst_3 : decode cX7_sagAheadOfFirst 3 = .ok (.getfield 9, 3) := by decide +kernel
theorem dX7_sagAheadOfFirst_6 : decode cX7_sagAheadOfFirst 6 = .ok (.iconst 0, 1) := by decide +kernel
theorem dX7_sagAheadOfFirst_7 : decode cX7_sagAheadOfFirst 7 = .ok (.iaload, 1) := by decide +kernel
theorem dX7_sagAheadOfFirst_8 : decode cX7_sagAheadOfFirst 8 = .ok (.iconst 1, 1) := by decide +kernel
theorem dX7_sagAheadOfFirst_9 : decode cX7_sagAheadOfFirst 9 = .ok (.isub, 1) := by decide +kernel
theorem dX7_sagAheadOfFirst_10 : decode cX7_sagAheadOfFirst 10 = .ok (.istore 5, 2) := by decide +kernel
theorem dX7_sagAheadOfFirst_12 : decode cX7_sagAheadOfFirst 12 = .ok (.iload 5, 2) := by decide +kernel
theorem dX7_sagAheadOfFirst_14 : decode cX7_sagAheadOfFirst 14 = .ok (.ifCond .lt 53, 3) := by decide +kernel
theorem dX7_sagAheadOfFirst_17 : decode cX7_sagAheadOfFirst 17 = .ok (.lload_n 3, 1) := by decide +kernel
theorem dX7_sagAheadOfFirst_18 : decode cX7_sagAheadOfFirst 18 = .ok (.aload_n 0, 1) := by decide +kernel
theorem dX7_sagAheadOfFirst_19 : decode cX7_sagAheadOfFirst 19 = .ok (.iload 5, 2) := by decide +kernel
theorem dX7_sagAheadOfFirst_21 : decode cX7_sagAheadOfFirst 21 = .ok (.invokevirtual 226, 3) := by decide +kernel
theorem dX7_sagAheadOfFirst_24 : decode cX7_sagAheadOfFirst 24 = .ok (.aload_n 0, 1) := by decide +kernel
theorem dX7_sagAheadOfFirst_25 : decode cX7_sagAheadOfFirst 25 = .ok (.getfield 56, 3) := by decide +kernel
theorem dX7_sagAheadOfFirst_28 : decode cX7_sagAheadOfFirst 28 = .ok (.lmul, 1) := by decide +kernel
theorem dX7_sagAheadOfFirst_29 : decode cX7_sagAheadOfFirst 29 = .ok (.ladd, 1) := by decide +kernel
theorem dX7_sagAheadOfFirst_30 : decode cX7_sagAheadOfFirst 30 = .ok (.lstore_n 3, 1) := by decide +kernel
theorem dX7_sagAheadOfFirst_31 : decode cX7_sagAheadOfFirst 31 = .ok (.aload_n 0, 1) := by decide +kernel
theorem dX7_sagAheadOfFirst_32 : decode cX7_sagAheadOfFirst 32 = .ok (.getfield 41, 3) := by decide +kernel
theorem dX7_sagAheadOfFirst_35 : decode cX7_sagAheadOfFirst 35 = .ok (.iload 5, 2) := by decide +kernel
theorem dX7_sagAheadOfFirst_37 : decode cX7_sagAheadOfFirst 37 = .ok (.aload_n 0, 1) := by decide +kernel
theorem dX7_sagAheadOfFirst_38 : decode cX7_sagAheadOfFirst 38 = .ok (.getfield 41, 3) := by decide +kernel
theorem dX7_sagAheadOfFirst_41 : decode cX7_sagAheadOfFirst 41 = .ok (.iload 5, 2) := by decide +kernel
theorem dX7_sagAheadOfFirst_43 : decode cX7_sagAheadOfFirst 43 = .ok (.iconst 1, 1) := by decide +kernel
theorem dX7_sagAheadOfFirst_44 : decode cX7_sagAheadOfFirst 44 = .ok (.iadd, 1) := by decide +kernel
theorem dX7_sagAheadOfFirst_45 : decode cX7_sagAheadOfFirst 45 = .ok (.laload, 1) := by decide +kernel
theorem dX7_sagAheadOfFirst_46 : decode cX7_sagAheadOfFirst 46 = .ok (.lload_n 3, 1) := by decide +kernel
theorem dX7_sagAheadOfFirst_47 : decode cX7_sagAheadOfFirst 47 = .ok (.lsub, 1) := by decide +kernel
theorem dX7_sagAheadOfFirst_48 : decode cX7_sagAheadOfFirst 48 = .ok (.aload_n 0, 1) := by decide +kernel
theorem dX7_sagAheadOfFirst_49 : decode cX7_sagAheadOfFirst 49 = .ok (.iload 5, 2) := by decide +kernel
theorem dX7_sagAheadOfFirst_51 : decode cX7_sagAheadOfFirst 51 = .ok (.invokevirtual 223, 3) := by decide +kernel
theorem dX7_sagAheadOfFirst_54 : decode cX7_sagAheadOfFirst 54 = .ok (.aload_n 0, 1) := by decide +kernel
theorem dX7_sagAheadOfFirst_55 : decode cX7_sagAheadOfFirst 55 = .ok (.getfield 56, 3) := by decide +kernel
theorem dX7_sagAheadOfFirst_58 : decode cX7_sagAheadOfFirst 58 = .ok (.lmul, 1) := by decide +kernel
theorem dX7_sagAheadOfFirst_59 : decode cX7_sagAheadOfFirst 59 = .ok (.ladd, 1) := by decide +kernel
theorem dX7_sagAheadOfFirst_60 : decode cX7_sagAheadOfFirst 60 = .ok (.lastore, 1) := by decide +kernel
theorem dX7_sagAheadOfFirst_61 : decode cX7_sagAheadOfFirst 61 = .ok (.iinc 5 (-1), 3) := by decide +kernel
theorem dX7_sagAheadOfFirst_64 : decode cX7_sagAheadOfFirst 64 = .ok (.goto (-52), 3) := by decide +kernel
theorem dX7_sagAheadOfFirst_67 : decode cX7_sagAheadOfFirst 67 = .ok (.return_, 1) := by decide +kernel
theorem dX7_sagBehindLast_0 : decode cX7_sagBehindLast 0 = .ok (.lload_n 1, 1) := by decide +kernel
theorem dX7_sagBehindLast_1 : decode cX7_sagBehindLast 1 = .ok (.lstore_n 3, 1) := by decide +kernel
theorem dX7_sagBehindLast_2 : decode cX7_sagBehindLast 2 = .ok (.aload_n 0, 1) := by decide +kernel
theorem dX7_sagBehindLast_3 : decode cX7_sagBehindLast 3 = .ok (.getfield 9, 3) := by decide +kernel
theorem dX7_sagBehindLast_6 : decode cX7_sagBehindLast 6 = .ok (.aload_n 0, 1) := by decide +kernel
theorem dX7_sagBehindLast_7 : decode cX7_sagBehindLast 7 = .ok (.getfield 82, 3) := by decide +kernel
theorem dX7_sagBehindLast_10 : decode cX7_sagBehindLast 10 = .ok (.iconst 2, 1) := by decide +kernel
theorem dX7_sagBehindLast_11 : decode cX7_sagBehindLast 11 = .ok (.isub, 1) := by decide +kernel
theorem dX7_sagBehindLast_12 : decode cX7_sagBehindLast 12 = .ok (.iaload, 1) := by decide +kernel
theorem dX7_sagBehindLast_13 : decode cX7_sagBehindLast 13 = .ok (.istore 5, 2) := by decide +kernel
theorem dX7_sagBehindLast_15 : decode cX7_sagBehindLast 15 = .ok (.iload 5, 2) := by decide +kernel
theorem dX7_sagBehindLast_17 : decode cX7_sagBehindLast 17 = .ok (.aload_n 0, 1) := by decide +kernel
theorem dX7_sagBehindLast_18 : decode cX7_sagBehindLast 18 = .ok (.getfield 78, 3) := by decide +kernel
theorem dX7_sagBehindLast_21 : decode cX7_sagBehindLast 21 = .ok (.if_icmp .ge 69, 3) := by decide +kernel
theorem dX7_sagBehindLast_24 : decode cX7_sagBehindLast 24 = .ok (.iload 5, 2) := by decide +kernel
theorem dX7_sagBehindLast_26 : decode cX7_sagBehindLast 26 = .ok (.aload_n 0, 1) := by decide +kernel
theorem dX7_sagBehindLast_27 : decode cX7_sagBehindLast 27 = .ok (.getfield 9, 3) := by decide +kernel
theorem dX7_sagBehindLast_30 : decode cX7_sagBehindLast 30 = .ok (.aload_n 0, 1) := by decide +kernel
theorem dX7_sagBehindLast_31 : decode cX7_sagBehindLast 31 = .ok (.getfield 82, 3) := by decide +kernel
theorem dX7_sagBehindLast_34 : decode cX7_sagBehindLast 34 = .ok (.iconst 1, 1) := by decide +kernel
theorem dX7_sagBehindLast_35 : decode cX7_sagBehindLast 35 = .ok (.isub, 1) := by decide +kernel
theorem dX7_sagBehindLast_36 : decode cX7_sagBehindLast 36 = .ok (.iaload, 1) := by decide +kernel
theorem dX7_sagBehindLast_37 : decode cX7_sagBehindLast 37 = .ok (.if_icmp .lt 33, 3) := by decide +kernel
theorem dX7_sagBehindLast_40 : decode cX7_sagBehindLast 40 = .ok (.aload_n 0, 1) := by decide +kernel
theorem dX7_sagBehindLast_41 : decode cX7_sagBehindLast 41 = .ok (.getfield 41, 3) := by decide +kernel
theorem dX7_sagBehindLast_44 : decode cX7_sagBehindLast 44 = .ok (.iload 5, 2) := by decide +kernel
theorem dX7_sagBehindLast_46 : decode cX7_sagBehindLast 46 = .ok (.iconst 1, 1) := by decide +kernel
theorem dX7_sagBehindLast_47 : decode cX7_sagBehindLast 47 = .ok (.iadd, 1) := by decide +kernel
