theorem dX9_wideAt_9 : decode cX9_wideAt 9 = .ok (.iconst 2, 1) := by decide +kernel
theorem dX9_wideAt_10 : decode cX9_wideAt 10 = .ok (.isub, 1) := by decide +kernel
theorem dX9_wideAt_11 : decode cX9_wideAt 11 = .ok (.if_icmp .ge 23, 3) := by decide +kernel
theorem dX9_wideAt_14 : decode cX9_wideAt 14 = .ok (.aload_n 0, 1) := by decide +kernel
theorem dX9_wideAt_15 : decode cX9_wideAt 15 = .ok (.getfield 11, 3) := by decide +kernel
theorem dX9_wideAt_18 : decode cX9_wideAt 18 = .ok (.iconst 2, 1) := by decide +kernel
theorem dX9_wideAt_19 : decode cX9_wideAt 19 = .ok (.iload_n 2, 1) := by decide +kernel
theorem dX9_wideAt_20 : decode cX9_wideAt 20 = .ok (.iadd, 1) := by decide +kernel
theorem dX9_wideAt_21 : decode cX9_wideAt 21 = .ok (.iconst 1, 1) := by decide +kernel
theorem dX9_wideAt_22 : decode cX9_wideAt 22 = .ok (.iadd, 1) := by decide +kernel
theorem dX9_wideAt_23 : decode cX9_wideAt 23 = .ok (.iaload, 1) := by decide +kernel
theorem dX9_wideAt_24 : decode cX9_wideAt 24 = .ok (.iload_n 1, 1) := by decide +kernel
theorem dX9_wideAt_25 : decode cX9_wideAt 25 = .ok (.if_icmp .ge 9, 3) := by decide +kernel
theorem dX9_wideAt_28 : decode cX9_wideAt 28 = .ok (.iinc 2 1, 3) := by decide +kernel
theorem dX9_wideAt_31 : decode cX9_wideAt 31 = .ok (.goto (-29), 3) := by decide +kernel
theorem dX9_wideAt_34 : decode cX9_wideAt 34 = .ok (.aload_n 0, 1) := by decide +kernel
theorem dX9_wideAt_35 : decode cX9_wideAt 35 = .ok (.iload_n 2, 1) := by decide +kernel
theorem dX9_wideAt_36 : decode cX9_wideAt 36 = .ok (.invokevirtual 152, 3) := by decide +kernel
theorem dX9_wideAt_39 : decode cX9_wideAt 39 = .ok (.ireturn, 1) := by decide +kernel
theorem dX9_sag_0 : decode cX9_sag 0 = .ok (.aload_n 0, 1) := by decide +kernel
theorem dX9_sag_1 : decode cX9_sag 1 = .ok (.iload_n 1, 1) := by decide +kernel
theorem dX9_sag_2 : decode cX9_sag 2 = .ok (.invokevirtual 90, 3) := by decide +kernel
theorem dX9_sag_5 : decode cX9_sag 5 = .ok (.ifCond .eq 20, 3) := by decide +kernel
theorem dX9_sag_8 : decode cX9_sag 8 = .ok (.iload_n 2, 1) := by decide +kernel
theorem dX9_sag_9 : decode cX9_sag 9 = .ok (.i2l, 1) := by decide +kernel
theorem dX9_sag_10 : decode cX9_sag 10 = .ok (.lconst 0, 1) := by decide +kernel
theorem dX9_sag_11 : decode cX9_sag 11 = .ok (.lconst 1, 1) := by decide +kernel
theorem dX9_sag_12 : decode cX9_sag 12 = .ok (.invokestatic 82, 3) := by decide +kernel
theorem dX9_sag_15 : decode cX9_sag 15 = .ok (.ifCond .eq 10, 3) := by decide +kernel
theorem dX9_sag_18 : decode cX9_sag 18 = .ok (.aload_n 0, 1) := by decide +kernel
theorem dX9_sag_19 : decode cX9_sag 19 = .ok (.invokevirtual 196, 3) := by decide +kernel
theorem dX9_sag_22 : decode cX9_sag 22 = .ok (.ifCond .ne 7, 3) := by decide +kernel
theorem dX9_sag_25 : decode cX9_sag 25 = .ok (.ldc2_w 200, 3) := by decide +kernel
theorem dX9_sag_28 : decode cX9_sag 28 = .ok (.lreturn, 1) := by decide +kernel
theorem dX9_sag_29 : decode cX9_sag 29 = .ok (.aload_n 0, 1) := by decide +kernel
theorem dX9_sag_30 : decode cX9_sag 30 = .ok (.invokevirtual 202, 3) := by decide +kernel
theorem dX9_sag_33 : decode cX9_sag 33 = .ok (.aload_n 0, 1) := by decide +kernel
theorem dX9_sag_34 : decode cX9_sag 34 = .ok (.aload_n 0, 1) := by decide +kernel
theorem dX9_sag_35 : decode cX9_sag 35 = .ok (.iload_n 1, 1) := by decide +kernel
theorem dX9_sag_36 : decode cX9_sag 36 = .ok (.invokevirtual 220, 3) := by decide +kernel
theorem dX9_sag_39 : decode cX9_sag 39 = .ok (.ldc2_w 223, 3) := by decide +kernel
theorem dX9_sag_42 : decode cX9_sag 42 = .ok (.aload_n 0, 1) := by decide +kernel
theorem dX9_sag_43 : decode cX9_sag 43 = .ok (.getfield 182, 3) := by decide +kernel
theorem dX9_sag_46 : decode cX9_sag 46 = .ok (.lmul, 1) := by decide +kernel
theorem dX9_sag_47 : decode cX9_sag 47 = .ok (.aload_n 0, 1) := by decide +kernel
theorem dX9_sag_48 : decode cX9_sag 48 = .ok (.iload_n 1, 1) := by decide +kernel
theorem dX9_sag_49 : decode cX9_sag 49 = .ok (.invokevirtual 225, 3) := by decide +kernel
theorem dX9_sag_52 : decode cX9_sag 52 = .ok (.i2l, 1) := by decide +kernel
theorem dX9_sag_53 : decode cX9_sag 53 = .ok (.lmul, 1) := by decide +kernel
theorem dX9_sag_54 : decode cX9_sag 54 = .ok (.invokevirtual 133, 3) := by decide +kernel
theorem dX9_sag_57 : decode cX9_sag 57 = .ok (.iload_n 2, 1) := by decide +kernel
theorem dX9_sag_58 : decode cX9_sag 58 = .ok (.ifCond .ne 10, 3) := by decide +kernel
theorem dX9_sag_61 : decode cX9_sag 61 = .ok (.aload_n 0, 1) := by decide +kernel
theorem dX9_sag_62 : decode cX9_sag 62 = .ok (.getfield 130, 3) := by decide +kernel
theorem dX9_sag_65 : decode cX9_sag 65 = .ok (.goto 7, 3) := by decide +kernel
theorem dX9_sag_68 : decode cX9_sag 68 = .ok (.aload_n 0, 1) := by decide +kernel
theorem dX9_sag_69 : decode cX9_sag 69 = .ok (.getfield 21, 3) := by decide +kernel
theorem dX9_sag_72 : decode cX9_sag 72 = .ok (.lreturn, 1) := by decide +kernel
theorem dX9_lowest_0 : decode cX9_lowest 0 = .ok (.aload_n 0, 1) := by decide +kernel
theorem dX9_lowest_1 : decode cX9_lowest 1 = .ok (.invokevirtual 196, 3) := by decide +kernel
theorem dX9_lowest_4 : decode cX9_lowest 4 = .ok (.ifCond .ne 6, 3) := by decide +kernel
theorem dX9_lowest_7 : decode cX9_lowest 7 = .ok (.bipush (-6), 2) := by decide +kernel
theorem dX9_lowest_9 : decode cX9_lowest 9 = .ok (.ireturn, 1) := by decide +kernel
theorem dX9_lowest_10 : decode cX9_lowest 10 = .ok (.aload_n 0, 1) := by decide +kernel
theorem dX9_lowest_11 : decode cX9_lowest 11 = .ok (.invokevirtual 202, 3) := by decide +kernel
theorem dX9_lowest_14 : decode cX9_lowest 14 = .ok (.iconst 0, 1) := by decide +kernel
theorem dX9_lowest_15 : decode cX9_lowest 15 = .ok (.istore_n 1, 1) := by decide +kernel
theorem dX9_lowest_16 : decode cX9_lowest 16 = .ok (.iconst 1, 1) := by decide +kernel
theorem dX9_lowest_17 : decode cX9_lowest 17 = .ok (.istore_n 2, 1) := by decide +kernel
theorem dX9_lowest_18 : decode cX9_lowest 18 = .ok (.iload_n 2, 1) := by decide +kernel
theorem dX9_lowest_19 : decode cX9_lowest 19 = .ok (.aload_n 0, 1) := by decide +kernel
theorem dX9_lowest_20 : decode cX9_lowest 20 = .ok (.getfield 11, 3) := by decide +kernel
theorem dX9_lowest_23 : decode cX9_lowest 23 = .ok (.iconst 0, 1) := by decide +kernel
theorem dX9_lowest_24 : decode cX9_lowest 24 = .ok (.iaload, 1) := by decide +kernel
theorem dX9_lowest_25 : decode cX9_lowest 25 = .ok (.if_icmp .gt 43, 3) := by decide +kernel
theorem dX9_lowest_28 : decode cX9_lowest 28 = .ok (.aload_n 0, 1) := by decide +kernel
theorem dX9_lowest_29 : decode cX9_lowest 29 = .ok (.iload_n 1, 1) := by decide +kernel
theorem dX9_lowest_30 : decode cX9_lowest 30 = .ok (.invokevirtual 220, 3) := by decide +kernel
theorem dX9_lowest_33 : decode cX9_lowest 33 = .ok (.aload_n 0, 1) := by decide +kernel
theorem dX9_lowest_34 : decode cX9_lowest 34 = .ok (.iload_n 1, 1) := by decide +kernel
theorem dX9_lowest_35 : decode cX9_lowest 35 = .ok (.invokevirtual 225, 3) := by decide +kernel
theorem dX9_lowest_38 : decode cX9_lowest 38 = .ok (.i2l, 1) := by decide +kernel
theorem dX9_lowest_39 : decode cX9_lowest 39 = .ok (.aload_n 0, 1) := by decide +kernel
theorem dX9_lowest_40 : decode cX9_lowest 40 = .ok (.iload_n 2, 1) := by decide +kernel
theorem dX9_lowest_41 : decode cX9_lowest 41 = .ok (.invokevirtual 220, 3) := by decide +kernel
theorem dX9_lowest_44 : decode cX9_lowest 44 = .ok (.aload_n 0, 1) := by decide +kernel
theorem dX9_lowest_45 : decode cX9_lowest 45 = .ok (.iload_n 2, 1) := by decide +kernel
theorem dX9_lowest_46 : decode cX9_lowest 46 = .ok (.invokevirtual 225, 3) := by decide +kernel
theorem dX9_lowest_49 : decode cX9_lowest 49 = .ok (.i2l, 1) := by decide +kernel
theorem dX9_lowest_50 : decode cX9_lowest 50 = .ok (.invokestatic 228, 3) := by decide +kernel
theorem dX9_lowest_53 : decode cX9_lowest 53 = .ok (.ifCond .eq 7, 3) := by decide +kernel
theorem dX9_lowest_56 : decode cX9_lowest 56 = .ok (.iload_n 2, 1) := by decide +kernel
theorem dX9_lowest_57 : decode cX9_lowest 57 = .ok (.goto 4, 3) := by decide +kernel
theorem dX9_lowest_60 : decode cX9_lowest 60 = .ok (.iload_n 1, 1) := by decide +kernel
theorem dX9_lowest_61 : decode cX9_lowest 61 = .ok (.istore_n 1, 1) := by decide +kernel
theorem dX9_lowest_62 : decode cX9_lowest 62 = .ok (.iinc 2 1, 3) := by decide +kernel
theorem dX9_lowest_65 : decode cX9_lowest 65 = .ok (.goto (-47), 3) := by decide +kernel
theorem dX9_lowest_68 : decode cX9_lowest 68 = .ok (.iload_n 1, 1) := by decide +kernel
theorem dX9_lowest_69 : decode cX9_lowest 69 = .ok (.ireturn, 1) := by decide +kernel
theorem dX9_tries_0 : decode cX9_tries 0 = .ok (.aload_n 0, 1) := by decide +kernel
theorem dX9_tries_1 : decode cX9_tries 1 = .ok (.getfield 232, 3) := by decide +kernel
theorem dX9_tries_4 : decode cX9_tries 4 = .ok (.lconst 0, 1) := by decide +kernel
theorem dX9_tries_5 : decode cX9_tries 5 = .ok (.lcmp, 1) := by decide +kernel
theorem dX9_tries_6 : decode cX9_tries 6 = .ok (.ifCond .eq 19, 3) := by decide +kernel
theorem dX9_tries_9 : decode cX9_tries 9 = .ok (.aload_n 0, 1) := by decide +kernel
theorem dX9_tries_10 : decode cX9_tries 10 = .ok (.getfield 235, 3) := by decide +kernel
theorem dX9_tries_13 : decode cX9_tries 13 = .ok (.aload_n 0, 1) := by decide +kernel
theorem dX9_tries_14 : decode cX9_tries 14 = .ok (.getfield 232, 3) := by decide +kernel
theorem dX9_tries_17 : decode cX9_tries 17 = .ok (.lload_n 1, 1) := by decide +kernel
theorem dX9_tries_18 : decode cX9_tries 18 = .ok (.lload_n 3, 1) := by decide +kernel
theorem dX9_tries_19 : decode cX9_tries 19 = .ok (.invokestatic 228, 3) := by decide +kernel
theorem dX9_tries_22 : decode cX9_tries 22 = .ok (.ifCond .eq 25, 3) := by decide +kernel
theorem dX9_tries_25 : decode cX9_tries 25 = .ok (.aload_n 0, 1) := by decide +kernel
theorem dX9_tries_26 : decode cX9_tries 26 = .ok (.lload_n 1, 1) := by decide +kernel
theorem dX9_tries_27 : decode cX9_tries 27 = .ok (.putfield 235, 3) := by decide +kernel
theorem dX9_tries_30 : decode cX9_tries 30 = .ok (.aload_n 0, 1) := by decide +kernel
theorem dX9_tries_31 : decode cX9_tries 31 = .ok (.lload_n 3, 1) := by decide +kernel
theorem dX9_tries_32 : decode cX9_tries 32 = .ok (.putfield 232, 3) := by decide +kernel
theorem dX9_tries_35 : decode cX9_tries 35 = .ok (.aload_n 0, 1) := by decide +kernel
theorem dX9_tries_36 : decode cX9_tries 36 = .ok (.lload 5, 2) := by decide +kernel
theorem dX9_tries_38 : decode cX9_tries 38 = .ok (.putfield 238, 3) := by decide +kernel
theorem dX9_tries_41 : decode cX9_tries 41 = .ok (.aload_n 0, 1) := by decide +kernel
theorem dX9_tries_42 : decode cX9_tries 42 = .ok (.lload 7, 2) := by decide +kernel
theorem dX9_tries_44 : decode cX9_tries 44 = .ok (.putfield 241, 3) := by decide +kernel
theorem dX9_tries_47 : decode cX9_tries 47 = .ok (.return_, 1) := by decide +kernel
theorem dX9_looks_0 : decode cX9_looks 0 = .ok (.aload_n 0, 1) := by decide +kernel
theorem dX9_looks_1 : decode cX9_looks 1 = .ok (.lconst 0, 1) := by decide +kernel
theorem dX9_looks_2 : decode cX9_looks 2 = .ok (.putfield 232, 3) := by decide +kernel
theorem dX9_looks_5 : decode cX9_looks 5 = .ok (.iconst 0, 1) := by decide +kernel
theorem dX9_looks_6 : decode cX9_looks 6 = .ok (.istore_n 2, 1) := by decide +kernel
theorem dX9_looks_7 : decode cX9_looks 7 = .ok (.iload_n 2, 1) := by decide +kernel
theorem dX9_looks_8 : decode cX9_looks 8 = .ok (.aload_n 0, 1) := by decide +kernel
theorem dX9_looks_9 : decode cX9_looks 9 = .ok (.getfield 11, 3) := by decide +kernel
theorem dX9_looks_12 : decode cX9_looks 12 = .ok (.iconst 0, 1) := by decide +kernel
theorem dX9_looks_13 : decode cX9_looks 13 = .ok (.iaload, 1) := by decide +kernel
theorem dX9_looks_14 : decode cX9_looks 14 = .ok (.if_icmp .ge 170, 3) := by decide +kernel
theorem dX9_looks_17 : decode cX9_looks 17 = .ok (.iload_n 1, 1) := by decide +kernel
theorem dX9_looks_18 : decode cX9_looks 18 = .ok (.i2l, 1) := by decide +kernel
theorem dX9_looks_19 : decode cX9_looks 19 = .ok (.aload_n 0, 1) := by decide +kernel
theorem dX9_looks_20 : decode cX9_looks 20 = .ok (.iload_n 2, 1) := by decide +kernel
theorem dX9_looks_21 : decode cX9_looks 21 = .ok (.i2l, 1) := by decide +kernel
theorem dX9_looks_22 : decode cX9_looks 22 = .ok (.lconst 1, 1) := by decide +kernel
theorem dX9_looks_23 : decode cX9_looks 23 = .ok (.invokevirtual 210, 3) := by decide +kernel
theorem dX9_looks_26 : decode cX9_looks 26 = .ok (.lmul, 1) := by decide +kernel
theorem dX9_looks_27 : decode cX9_looks 27 = .ok (.lstore_n 3, 1) := by decide +kernel
theorem dX9_looks_28 : decode cX9_looks 28 = .ok (.iload_n 1, 1) := by decide +kernel
theorem dX9_looks_29 : decode cX9_looks 29 = .ok (.i2l, 1) := by decide +kernel
theorem dX9_looks_30 : decode cX9_looks 30 = .ok (.aload_n 0, 1) := by decide +kernel
theorem dX9_looks_31 : decode cX9_looks 31 = .ok (.iload_n 2, 1) := by decide +kernel
theorem dX9_looks_32 : decode cX9_looks 32 = .ok (.invokevirtual 205, 3) := by decide +kernel
theorem dX9_looks_35 : decode cX9_looks 35 = .ok (.lmul, 1) := by decide +kernel
theorem dX9_looks_36 : decode cX9_looks 36 = .ok (.lstore 5, 2) := by decide +kernel
theorem dX9_looks_38 : decode cX9_looks 38 = .ok (.iload_n 1, 1) := by decide +kernel
theorem dX9_looks_39 : decode cX9_looks 39 = .ok (.aload_n 0, 1) := by decide +kernel
theorem dX9_looks_40 : decode cX9_looks 40 = .ok (.iload_n 2, 1) := by decide +kernel
theorem dX9_looks_41 : decode cX9_looks 41 = .ok (.invokevirtual 213, 3) := by decide +kernel
theorem dX9_looks_44 : decode cX9_looks 44 = .ok (.imul, 1) := by decide +kernel
theorem dX9_looks_45 : decode cX9_looks 45 = .ok (.i2l, 1) := by decide +kernel
theorem dX9_looks_46 : decode cX9_looks 46 = .ok (.lstore 7, 2) := by decide +kernel
theorem dX9_looks_48 : decode cX9_looks 48 = .ok (.aload_n 0, 1) := by decide +kernel
theorem dX9_looks_49 : decode cX9_looks 49 = .ok (.lload_n 3, 1) := by decide +kernel
theorem dX9_looks_50 : decode cX9_looks 50 = .ok (.ldc2_w 86, 3) := by decide +kernel
theorem dX9_looks_53 : decode cX9_looks 53 = .ok (.aload_n 0, 1) := by decide +kernel
theorem dX9_looks_54 : decode cX9_looks 54 = .ok (.getfield 182, 3) := by decide +kernel
theorem dX9_looks_57 : decode cX9_looks 57 = .ok (.lmul, 1) := by decide +kernel
theorem dX9_looks_58 : decode cX9_looks 58 = .ok (.iload_n 2, 1) := by decide +kernel
theorem dX9_looks_59 : decode cX9_looks 59 = .ok (.i2l, 1) := by decide +kernel
theorem dX9_looks_60 : decode cX9_looks 60 = .ok (.lconst 1, 1) := by decide +kernel
theorem dX9_looks_61 : decode cX9_looks 61 = .ok (.invokevirtual 244, 3) := by decide +kernel
theorem dX9_looks_64 : decode cX9_looks 64 = .ok (.lload 7, 2) := by decide +kernel
theorem dX9_looks_66 : decode cX9_looks 66 = .ok (.lconst 0, 1) := by decide +kernel
theorem dX9_looks_67 : decode cX9_looks 67 = .ok (.lcmp, 1) := by decide +kernel
theorem dX9_looks_68 : decode cX9_looks 68 = .ok (.ifCond .le 110, 3) := by decide +kernel
theorem dX9_looks_71 : decode cX9_looks 71 = .ok (.lload 5, 2) := by decide +kernel
theorem dX9_looks_73 : decode cX9_looks 73 = .ok (.lconst 0, 1) := by decide +kernel
theorem dX9_looks_74 : decode cX9_looks 74 = .ok (.lcmp, 1) := by decide +kernel
theorem dX9_looks_75 : decode cX9_looks 75 = .ok (.ifCond .le 103, 3) := by decide +kernel
theorem dX9_looks_78 : decode cX9_looks 78 = .ok (.lload 5, 2) := by decide +kernel
theorem dX9_looks_80 : decode cX9_looks 80 = .ok (.lload 7, 2) := by decide +kernel
theorem dX9_looks_82 : decode cX9_looks 82 = .ok (.aload_n 0, 1) := by decide +kernel
theorem dX9_looks_83 : decode cX9_looks 83 = .ok (.getfield 182, 3) := by decide +kernel
theorem dX9_looks_86 : decode cX9_looks 86 = .ok (.lmul, 1) := by decide +kernel
theorem dX9_looks_87 : decode cX9_looks 87 = .ok (.lcmp, 1) := by decide +kernel
theorem dX9_looks_88 : decode cX9_looks 88 = .ok (.ifCond .ge 90, 3) := by decide +kernel
theorem dX9_looks_91 : decode cX9_looks 91 = .ok (.aload_n 0, 1) := by decide +kernel
theorem dX9_looks_92 : decode cX9_looks 92 = .ok (.lload_n 3, 1) := by decide +kernel
theorem dX9_looks_93 : decode cX9_looks 93 = .ok (.lload 7, 2) := by decide +kernel
theorem dX9_looks_95 : decode cX9_looks 95 = .ok (.lmul, 1) := by decide +kernel
theorem dX9_looks_96 : decode cX9_looks 96 = .ok (.aload_n 0, 1) := by decide +kernel
theorem dX9_looks_97 : decode cX9_looks 97 = .ok (.getfield 182, 3) := by decide +kernel
theorem dX9_looks_100 : decode cX9_looks 100 = .ok (.lmul, 1) := by decide +kernel
theorem dX9_looks_101 : decode cX9_looks 101 = .ok (.lload 5, 2) := by decide +kernel
theorem dX9_looks_103 : decode cX9_looks 103 = .ok (.lload 5, 2) := by decide +kernel
theorem dX9_looks_105 : decode cX9_looks 105 = .ok (.lmul, 1) := by decide +kernel
theorem dX9_looks_106 : decode cX9_looks 106 = .ok (.ladd, 1) := by decide +kernel
theorem dX9_looks_107 : decode cX9_looks 107 = .ok (.ldc2_w 86, 3) := by decide +kernel
theorem dX9_looks_110 : decode cX9_looks 110 = .ok (.lload 7, 2) := by decide +kernel
theorem dX9_looks_112 : decode cX9_looks 112 = .ok (.lmul, 1) := by decide +kernel
theorem dX9_looks_113 : decode cX9_looks 113 = .ok (.aload_n 0, 1) := by decide +kernel
theorem dX9_looks_114 : decode cX9_looks 114 = .ok (.getfield 182, 3) := by decide +kernel
theorem dX9_looks_117 : decode cX9_looks 117 = .ok (.lmul, 1) := by decide +kernel
theorem dX9_looks_118 : decode cX9_looks 118 = .ok (.aload_n 0, 1) := by decide +kernel
theorem dX9_looks_119 : decode cX9_looks 119 = .ok (.getfield 182, 3) := by decide +kernel
theorem dX9_looks_122 : decode cX9_looks 122 = .ok (.lmul, 1) := by decide +kernel
theorem dX9_looks_123 : decode cX9_looks 123 = .ok (.invokevirtual 133, 3) := by decide +kernel
theorem dX9_looks_126 : decode cX9_looks 126 = .ok (.aload_n 0, 1) := by decide +kernel
theorem dX9_looks_127 : decode cX9_looks 127 = .ok (.getfield 130, 3) := by decide +kernel
theorem dX9_looks_130 : decode cX9_looks 130 = .ok (.lstore 9, 2) := by decide +kernel
theorem dX9_looks_132 : decode cX9_looks 132 = .ok (.aload_n 0, 1) := by decide +kernel
theorem dX9_looks_133 : decode cX9_looks 133 = .ok (.getfield 21, 3) := by decide +kernel
theorem dX9_looks_136 : decode cX9_looks 136 = .ok (.lstore 11, 2) := by decide +kernel
theorem dX9_looks_138 : decode cX9_looks 138 = .ok (.aload_n 0, 1) := by decide +kernel
theorem dX9_looks_139 : decode cX9_looks 139 = .ok (.iload_n 2, 1) := by decide +kernel
theorem dX9_looks_140 : decode cX9_looks 140 = .ok (.i2l, 1) := by decide +kernel
theorem dX9_looks_141 : decode cX9_looks 141 = .ok (.lload 7, 2) := by decide +kernel
theorem dX9_looks_143 : decode cX9_looks 143 = .ok (.lmul, 1) := by decide +kernel
theorem dX9_looks_144 : decode cX9_looks 144 = .ok (.aload_n 0, 1) := by decide +kernel
theorem dX9_looks_145 : decode cX9_looks 145 = .ok (.getfield 182, 3) := by decide +kernel
theorem dX9_looks_148 : decode cX9_looks 148 = .ok (.lmul, 1) := by decide +kernel
theorem dX9_looks_149 : decode cX9_looks 149 = .ok (.lload 5, 2) := by decide +kernel
theorem dX9_looks_151 : decode cX9_looks 151 = .ok (.ladd, 1) := by decide +kernel
theorem dX9_looks_152 : decode cX9_looks 152 = .ok (.lload 7, 2) := by decide +kernel
theorem dX9_looks_154 : decode cX9_looks 154 = .ok (.aload_n 0, 1) := by decide +kernel
theorem dX9_looks_155 : decode cX9_looks 155 = .ok (.getfield 182, 3) := by decide +kernel
theorem dX9_looks_158 : decode cX9_looks 158 = .ok (.lmul, 1) := by decide +kernel
theorem dX9_looks_159 : decode cX9_looks 159 = .ok (.invokevirtual 133, 3) := by decide +kernel
theorem dX9_looks_162 : decode cX9_looks 162 = .ok (.aload_n 0, 1) := by decide +kernel
theorem dX9_looks_163 : decode cX9_looks 163 = .ok (.lload 9, 2) := by decide +kernel
theorem dX9_looks_165 : decode cX9_looks 165 = .ok (.lload 11, 2) := by decide +kernel
theorem dX9_looks_167 : decode cX9_looks 167 = .ok (.aload_n 0, 1) := by decide +kernel
theorem dX9_looks_168 : decode cX9_looks 168 = .ok (.getfield 130, 3) := by decide +kernel
theorem dX9_looks_171 : decode cX9_looks 171 = .ok (.aload_n 0, 1) := by decide +kernel
theorem dX9_looks_172 : decode cX9_looks 172 = .ok (.getfield 21, 3) := by decide +kernel
theorem dX9_looks_175 : decode cX9_looks 175 = .ok (.invokevirtual 244, 3) := by decide +kernel
theorem dX9_looks_178 : decode cX9_looks 178 = .ok (.iinc 2 1, 3) := by decide +kernel
theorem dX9_looks_181 : decode cX9_looks 181 = .ok (.goto (-174), 3) := by decide +kernel
theorem dX9_looks_184 : decode cX9_looks 184 = .ok (.aload_n 0, 1) := by decide +kernel
theorem dX9_looks_185 : decode cX9_looks 185 = .ok (.iload_n 1, 1) := by decide +kernel
theorem dX9_looks_186 : decode cX9_looks 186 = .ok (.i2l, 1) := by decide +kernel
theorem dX9_looks_187 : decode cX9_looks 187 = .ok (.aload_n 0, 1) := by decide +kernel
theorem dX9_looks_188 : decode cX9_looks 188 = .ok (.aload_n 0, 1) := by decide +kernel
theorem dX9_looks_189 : decode cX9_looks 189 = .ok (.getfield 11, 3) := by decide +kernel
theorem dX9_looks_192 : decode cX9_looks 192 = .ok (.iconst 0, 1) := by decide +kernel
theorem dX9_looks_193 : decode cX9_looks 193 = .ok (.iaload, 1) := by decide +kernel
theorem dX9_looks_194 : decode cX9_looks 194 = .ok (.i2l, 1) := by decide +kernel
theorem dX9_looks_195 : decode cX9_looks 195 = .ok (.lconst 1, 1) := by decide +kernel
theorem dX9_looks_196 : decode cX9_looks 196 = .ok (.invokevirtual 210, 3) := by decide +kernel
theorem dX9_looks_199 : decode cX9_looks 199 = .ok (.lmul, 1) := by decide +kernel
theorem dX9_looks_200 : decode cX9_looks 200 = .ok (.ldc2_w 86, 3) := by decide +kernel
theorem dX9_looks_203 : decode cX9_looks 203 = .ok (.aload_n 0, 1) := by decide +kernel
theorem dX9_looks_204 : decode cX9_looks 204 = .ok (.getfield 182, 3) := by decide +kernel
theorem dX9_looks_207 : decode cX9_looks 207 = .ok (.lmul, 1) := by decide +kernel
theorem dX9_looks_208 : decode cX9_looks 208 = .ok (.aload_n 0, 1) := by decide +kernel
theorem dX9_looks_209 : decode cX9_looks 209 = .ok (.getfield 11, 3) := by decide +kernel
theorem dX9_looks_212 : decode cX9_looks 212 = .ok (.iconst 0, 1) := by decide +kernel
theorem dX9_looks_213 : decode cX9_looks 213 = .ok (.iaload, 1) := by decide +kernel
theorem dX9_looks_214 : decode cX9_looks 214 = .ok (.i2l, 1) := by decide +kernel
theorem dX9_looks_215 : decode cX9_looks 215 = .ok (.lconst 1, 1) := by decide +kernel
theorem dX9_looks_216 : decode cX9_looks 216 = .ok (.invokevirtual 244, 3) := by decide +kernel
theorem dX9_looks_219 : decode cX9_looks 219 = .ok (.return_, 1) := by decide +kernel
theorem dX9_greatest_0 : decode cX9_greatest 0 = .ok (.iload_n 1, 1) := by decide +kernel
theorem dX9_greatest_1 : decode cX9_greatest 1 = .ok (.i2l, 1) := by decide +kernel
theorem dX9_greatest_2 : decode cX9_greatest 2 = .ok (.lconst 0, 1) := by decide +kernel
theorem dX9_greatest_3 : decode cX9_greatest 3 = .ok (.lconst 1, 1) := by decide +kernel
theorem dX9_greatest_4 : decode cX9_greatest 4 = .ok (.invokestatic 82, 3) := by decide +kernel
theorem dX9_greatest_7 : decode cX9_greatest 7 = .ok (.ifCond .eq 22, 3) := by decide +kernel
theorem dX9_greatest_10 : decode cX9_greatest 10 = .ok (.iload_n 2, 1) := by decide +kernel
theorem dX9_greatest_11 : decode cX9_greatest 11 = .ok (.i2l, 1) := by decide +kernel
theorem dX9_greatest_12 : decode cX9_greatest 12 = .ok (.lconst 0, 1) := by decide +kernel
theorem dX9_greatest_13 : decode cX9_greatest 13 = .ok (.ldc2_w 111, 3) := by decide +kernel
theorem dX9_greatest_16 : decode cX9_greatest 16 = .ok (.invokestatic 82, 3) := by decide +kernel
theorem dX9_greatest_19 : decode cX9_greatest 19 = .ok (.ifCond .eq 10, 3) := by decide +kernel
theorem dX9_greatest_22 : decode cX9_greatest 22 = .ok (.aload_n 0, 1) := by decide +kernel
theorem dX9_greatest_23 : decode cX9_greatest 23 = .ok (.invokevirtual 196, 3) := by decide +kernel
theorem dX9_greatest_26 : decode cX9_greatest 26 = .ok (.ifCond .ne 7, 3) := by decide +kernel
theorem dX9_greatest_29 : decode cX9_greatest 29 = .ok (.ldc2_w 200, 3) := by decide +kernel
theorem dX9_greatest_32 : decode cX9_greatest 32 = .ok (.lreturn, 1) := by decide +kernel
theorem dX9_greatest_33 : decode cX9_greatest 33 = .ok (.aload_n 0, 1) := by decide +kernel
theorem dX9_greatest_34 : decode cX9_greatest 34 = .ok (.invokevirtual 202, 3) := by decide +kernel
theorem dX9_greatest_37 : decode cX9_greatest 37 = .ok (.iload_n 1, 1) := by decide +kernel
theorem dX9_greatest_38 : decode cX9_greatest 38 = .ok (.ifCond .ne 7, 3) := by decide +kernel
theorem dX9_greatest_41 : decode cX9_greatest 41 = .ok (.iconst 1, 1) := by decide +kernel
theorem dX9_greatest_42 : decode cX9_greatest 42 = .ok (.goto 4, 3) := by decide +kernel
theorem dX9_greatest_45 : decode cX9_greatest 45 = .ok (.iconst (-1), 1) := by decide +kernel
theorem dX9_greatest_46 : decode cX9_greatest 46 = .ok (.istore_n 3, 1) := by decide +kernel
theorem dX9_greatest_47 : decode cX9_greatest 47 = .ok (.aload_n 0, 1) := by decide +kernel
theorem dX9_greatest_48 : decode cX9_greatest 48 = .ok (.iload_n 3, 1) := by decide +kernel
theorem dX9_greatest_49 : decode cX9_greatest 49 = .ok (.invokevirtual 248, 3) := by decide +kernel
theorem dX9_greatest_52 : decode cX9_greatest 52 = .ok (.iload_n 2, 1) := by decide +kernel
theorem dX9_greatest_53 : decode cX9_greatest 53 = .ok (.iconst 1, 1) := by decide +kernel
theorem dX9_greatest_54 : decode cX9_greatest 54 = .ok (.if_icmp .le 20, 3) := by decide +kernel
theorem dX9_greatest_57 : decode cX9_greatest 57 = .ok (.iload_n 2, 1) := by decide +kernel
theorem dX9_greatest_58 : decode cX9_greatest 58 = .ok (.iconst 2, 1) := by decide +kernel
theorem dX9_greatest_59 : decode cX9_greatest 59 = .ok (.if_icmp .ne 10, 3) := by decide +kernel
theorem dX9_greatest_62 : decode cX9_greatest 62 = .ok (.aload_n 0, 1) := by decide +kernel
theorem dX9_greatest_63 : decode cX9_greatest 63 = .ok (.getfield 238, 3) := by decide +kernel
theorem dX9_greatest_66 : decode cX9_greatest 66 = .ok (.goto 7, 3) := by decide +kernel
theorem dX9_greatest_69 : decode cX9_greatest 69 = .ok (.aload_n 0, 1) := by decide +kernel
theorem dX9_greatest_70 : decode cX9_greatest 70 = .ok (.getfield 241, 3) := by decide +kernel
theorem dX9_greatest_73 : decode cX9_greatest 73 = .ok (.lreturn, 1) := by decide +kernel
theorem dX9_greatest_74 : decode cX9_greatest 74 = .ok (.aload_n 0, 1) := by decide +kernel
theorem dX9_greatest_75 : decode cX9_greatest 75 = .ok (.iload_n 3, 1) := by decide +kernel
theorem dX9_greatest_76 : decode cX9_greatest 76 = .ok (.i2l, 1) := by decide +kernel
theorem dX9_greatest_77 : decode cX9_greatest 77 = .ok (.aload_n 0, 1) := by decide +kernel
theorem dX9_greatest_78 : decode cX9_greatest 78 = .ok (.getfield 235, 3) := by decide +kernel
theorem dX9_greatest_81 : decode cX9_greatest 81 = .ok (.lmul, 1) := by decide +kernel
theorem dX9_greatest_82 : decode cX9_greatest 82 = .ok (.aload_n 0, 1) := by decide +kernel
theorem dX9_greatest_83 : decode cX9_greatest 83 = .ok (.getfield 232, 3) := by decide +kernel
theorem dX9_greatest_86 : decode cX9_greatest 86 = .ok (.invokevirtual 133, 3) := by decide +kernel
theorem dX9_greatest_89 : decode cX9_greatest 89 = .ok (.iload_n 2, 1) := by decide +kernel
theorem dX9_greatest_90 : decode cX9_greatest 90 = .ok (.ifCond .ne 10, 3) := by decide +kernel
theorem dX9_greatest_93 : decode cX9_greatest 93 = .ok (.aload_n 0, 1) := by decide +kernel
theorem dX9_greatest_94 : decode cX9_greatest 94 = .ok (.getfield 130, 3) := by decide +kernel
theorem dX9_greatest_97 : decode cX9_greatest 97 = .ok (.goto 7, 3) := by decide +kernel
theorem dX9_greatest_100 : decode cX9_greatest 100 = .ok (.aload_n 0, 1) := by decide +kernel
theorem dX9_greatest_101 : decode cX9_greatest 101 = .ok (.getfield 21, 3) := by decide +kernel
theorem dX9_greatest_104 : decode cX9_greatest 104 = .ok (.lreturn, 1) := by decide +kernel
theorem dX9_span_0 : decode cX9_span 0 = .ok (.aload_n 0, 1) := by decide +kernel
theorem dX9_span_1 : decode cX9_span 1 = .ok (.invokevirtual 202, 3) := by decide +kernel
theorem dX9_span_4 : decode cX9_span 4 = .ok (.aload_n 0, 1) := by decide +kernel
theorem dX9_span_5 : decode cX9_span 5 = .ok (.iconst 1, 1) := by decide +kernel
theorem dX9_span_6 : decode cX9_span 6 = .ok (.invokevirtual 248, 3) := by decide +kernel
theorem dX9_span_9 : decode cX9_span 9 = .ok (.aload_n 0, 1) := by decide +kernel
theorem dX9_span_10 : decode cX9_span 10 = .ok (.getfield 235, 3) := by decide +kernel
theorem dX9_span_13 : decode cX9_span 13 = .ok (.lstore_n 1, 1) := by decide +kernel
theorem dX9_span_14 : decode cX9_span 14 = .ok (.aload_n 0, 1) := by decide +kernel
theorem dX9_span_15 : decode cX9_span 15 = .ok (.getfield 232, 3) := by decide +kernel
theorem dX9_span_18 : decode cX9_span 18 = .ok (.lstore_n 3, 1) := by decide +kernel
theorem dX9_span_19 : decode cX9_span 19 = .ok (.aload_n 0, 1) := by decide +kernel
theorem dX9_span_20 : decode cX9_span 20 = .ok (.iconst (-1), 1) := by decide +kernel
theorem dX9_span_21 : decode cX9_span 21 = .ok (.invokevirtual 248, 3) := by decide +kernel
theorem dX9_span_24 : decode cX9_span 24 = .ok (.aload_n 0, 1) := by decide +kernel
theorem dX9_span_25 : decode cX9_span 25 = .ok (.getfield 235, 3) := by decide +kernel
theorem dX9_span_28 : decode cX9_span 28 = .ok (.aload_n 0, 1) := by decide +kernel
theorem dX9_span_29 : decode cX9_span 29 = .ok (.getfield 232, 3) := by decide +kernel
theorem dX9_span_32 : decode cX9_span 32 = .ok (.lload_n 1, 1) := by decide +kernel
theorem dX9_span_33 : decode cX9_span 33 = .ok (.lload_n 3, 1) := by decide +kernel
theorem dX9_span_34 : decode cX9_span 34 = .ok (.invokestatic 228, 3) := by decide +kernel
theorem dX9_span_37 : decode cX9_span 37 = .ok (.istore 5, 2) := by decide +kernel
theorem dX9_span_39 : decode cX9_span 39 = .ok (.aload_n 0, 1) := by decide +kernel
theorem dX9_span_40 : decode cX9_span 40 = .ok (.iload 5, 2) := by decide +kernel
theorem dX9_span_42 : decode cX9_span 42 = .ok (.ifCond .eq 7, 3) := by decide +kernel
theorem dX9_span_45 : decode cX9_span 45 = .ok (.lload_n 1, 1) := by decide +kernel
theorem dX9_span_46 : decode cX9_span 46 = .ok (.goto 7, 3) := by decide +kernel
theorem dX9_span_49 : decode cX9_span 49 = .ok (.aload_n 0, 1) := by decide +kernel
theorem dX9_span_50 : decode cX9_span 50 = .ok (.getfield 235, 3) := by decide +kernel
theorem dX9_span_53 : decode cX9_span 53 = .ok (.iload 5, 2) := by decide +kernel
theorem dX9_span_55 : decode cX9_span 55 = .ok (.ifCond .eq 7, 3) := by decide +kernel
theorem dX9_span_58 : decode cX9_span 58 = .ok (.lload_n 3, 1) := by decide +kernel
theorem dX9_span_59 : decode cX9_span 59 = .ok (.goto 7, 3) := by decide +kernel
theorem dX9_span_62 : decode cX9_span 62 = .ok (.aload_n 0, 1) := by decide +kernel
theorem dX9_span_63 : decode cX9_span 63 = .ok (.getfield 232, 3) := by decide +kernel
theorem dX9_span_66 : decode cX9_span 66 = .ok (.invokevirtual 133, 3) := by decide +kernel
theorem dX9_span_69 : decode cX9_span 69 = .ok (.aload_n 0, 1) := by decide +kernel
theorem dX9_span_70 : decode cX9_span 70 = .ok (.aload_n 0, 1) := by decide +kernel
theorem dX9_span_71 : decode cX9_span 71 = .ok (.getfield 130, 3) := by decide +kernel
theorem dX9_span_74 : decode cX9_span 74 = .ok (.putfield 251, 3) := by decide +kernel
theorem dX9_span_77 : decode cX9_span 77 = .ok (.aload_n 0, 1) := by decide +kernel
theorem dX9_span_78 : decode cX9_span 78 = .ok (.aload_n 0, 1) := by decide +kernel
theorem dX9_span_79 : decode cX9_span 79 = .ok (.getfield 21, 3) := by decide +kernel
theorem dX9_span_82 : decode cX9_span 82 = .ok (.putfield 254, 3) := by decide +kernel
theorem dX9_span_85 : decode cX9_span 85 = .ok (.return_, 1) := by decide +kernel
theorem dX9_times_0 : decode cX9_times 0 = .ok (.iload_n 1, 1) := by decide +kernel
theorem dX9_times_1 : decode cX9_times 1 = .ok (.i2l, 1) := by decide +kernel
theorem dX9_times_2 : decode cX9_times 2 = .ok (.lconst 0, 1) := by decide +kernel
theorem dX9_times_3 : decode cX9_times 3 = .ok (.ldc2_w 257, 3) := by decide +kernel
theorem dX9_times_6 : decode cX9_times 6 = .ok (.invokestatic 82, 3) := by decide +kernel
theorem dX9_times_9 : decode cX9_times 9 = .ok (.ifCond .ne 5, 3) := by decide +kernel
theorem dX9_times_12 : decode cX9_times 12 = .ok (.iconst (-1), 1) := by decide +kernel
theorem dX9_times_13 : decode cX9_times 13 = .ok (.ireturn, 1) := by decide +kernel
theorem dX9_times_14 : decode cX9_times 14 = .ok (.aload_n 0, 1) := by decide +kernel
theorem dX9_times_15 : decode cX9_times 15 = .ok (.invokevirtual 196, 3) := by decide +kernel
theorem dX9_times_18 : decode cX9_times 18 = .ok (.ifCond .ne 6, 3) := by decide +kernel
theorem dX9_times_21 : decode cX9_times 21 = .ok (.bipush (-6), 2) := by decide +kernel
theorem dX9_times_23 : decode cX9_times 23 = .ok (.ireturn, 1) := by decide +kernel
theorem dX9_times_24 : decode cX9_times 24 = .ok (.aload_n 0, 1) := by decide +kernel
theorem dX9_times_25 : decode cX9_times 25 = .ok (.invokevirtual 259, 3) := by decide +kernel
theorem dX9_times_28 : decode cX9_times 28 = .ok (.aload_n 0, 1) := by decide +kernel
theorem dX9_times_29 : decode cX9_times 29 = .ok (.getfield 251, 3) := by decide +kernel
theorem dX9_times_32 : decode cX9_times 32 = .ok (.lconst 0, 1) := by decide +kernel
theorem dX9_times_33 : decode cX9_times 33 = .ok (.lcmp, 1) := by decide +kernel
theorem dX9_times_34 : decode cX9_times 34 = .ok (.ifCond .ne 6, 3) := by decide +kernel
theorem dX9_times_37 : decode cX9_times 37 = .ok (.bipush (-2), 2) := by decide +kernel
theorem dX9_times_39 : decode cX9_times 39 = .ok (.ireturn, 1) := by decide +kernel
theorem dX9_times_40 : decode cX9_times 40 = .ok (.iconst 0, 1) := by decide +kernel
theorem dX9_times_41 : decode cX9_times 41 = .ok (.istore_n 2, 1) := by decide +kernel
theorem dX9_times_42 : decode cX9_times 42 = .ok (.iload_n 2, 1) := by decide +kernel
theorem dX9_times_43 : decode cX9_times 43 = .ok (.bipush 99, 2) := by decide +kernel
theorem dX9_times_45 : decode cX9_times 45 = .ok (.if_icmp .ge 31, 3) := by decide +kernel
theorem dX9_times_48 : decode cX9_times 48 = .ok (.iload_n 1, 1) := by decide +kernel
theorem dX9_times_49 : decode cX9_times 49 = .ok (.i2l, 1) := by decide +kernel
theorem dX9_times_50 : decode cX9_times 50 = .ok (.lconst 1, 1) := by decide +kernel
theorem dX9_times_51 : decode cX9_times 51 = .ok (.iload_n 2, 1) := by decide +kernel
theorem dX9_times_52 : decode cX9_times 52 = .ok (.iconst 1, 1) := by decide +kernel
theorem dX9_times_53 : decode cX9_times 53 = .ok (.iadd, 1) := by decide +kernel
theorem dX9_times_54 : decode cX9_times 54 = .ok (.i2l, 1) := by decide +kernel
theorem dX9_times_55 : decode cX9_times 55 = .ok (.aload_n 0, 1) := by decide +kernel
theorem dX9_times_56 : decode cX9_times 56 = .ok (.getfield 251, 3) := by decide +kernel
theorem dX9_times_59 : decode cX9_times 59 = .ok (.lmul, 1) := by decide +kernel
theorem dX9_times_60 : decode cX9_times 60 = .ok (.aload_n 0, 1) := by decide +kernel
theorem dX9_times_61 : decode cX9_times 61 = .ok (.getfield 254, 3) := by decide +kernel
theorem dX9_times_64 : decode cX9_times 64 = .ok (.invokestatic 228, 3) := by decide +kernel
theorem dX9_times_67 : decode cX9_times 67 = .ok (.ifCond .ne 9, 3) := by decide +kernel
theorem dX9_times_70 : decode cX9_times 70 = .ok (.iinc 2 1, 3) := by decide +kernel
theorem dX9_times_73 : decode cX9_times 73 = .ok (.goto (-31), 3) := by decide +kernel
theorem dX9_times_76 : decode cX9_times 76 = .ok (.iload_n 2, 1) := by decide +kernel
theorem dX9_times_77 : decode cX9_times 77 = .ok (.ireturn, 1) := by decide +kernel
theorem dX9_thinks_0 : decode cX9_thinks 0 = .ok (.aload_n 0, 1) := by decide +kernel
theorem dX9_thinks_1 : decode cX9_thinks 1 = .ok (.getfield 11, 3) := by decide +kernel
theorem dX9_thinks_4 : decode cX9_thinks 4 = .ok (.aload_n 0, 1) := by decide +kernel
theorem dX9_thinks_5 : decode cX9_thinks 5 = .ok (.getfield 47, 3) := by decide +kernel
theorem dX9_thinks_8 : decode cX9_thinks 8 = .ok (.invokestatic 262, 3) := by decide +kernel
theorem dX9_thinks_11 : decode cX9_thinks 11 = .ok (.return_, 1) := by decide +kernel
theorem dX9_laysBack_0 : decode cX9_laysBack 0 = .ok (.aload_n 0, 1) := by decide +kernel
theorem dX9_laysBack_1 : decode cX9_laysBack 1 = .ok (.getfield 47, 3) := by decide +kernel
theorem dX9_laysBack_4 : decode cX9_laysBack 4 = .ok (.aload_n 0, 1) := by decide +kernel
theorem dX9_laysBack_5 : decode cX9_laysBack 5 = .ok (.getfield 11, 3) := by decide +kernel
theorem dX9_laysBack_8 : decode cX9_laysBack 8 = .ok (.invokestatic 262, 3) := by decide +kernel
theorem dX9_laysBack_11 : decode cX9_laysBack 11 = .ok (.return_, 1) := by decide +kernel
theorem dX9_alone__0 : decode cX9_alone_ 0 = .ok (.aload_n 0, 1) := by decide +kernel
theorem dX9_alone__1 : decode cX9_alone_ 1 = .ok (.getfield 11, 3) := by decide +kernel
theorem dX9_alone__4 : decode cX9_alone_ 4 = .ok (.bipush 11, 2) := by decide +kernel
theorem dX9_alone__6 : decode cX9_alone_ 6 = .ok (.aload_n 0, 1) := by decide +kernel
theorem dX9_alone__7 : decode cX9_alone_ 7 = .ok (.getfield 11, 3) := by decide +kernel
theorem dX9_alone__10 : decode cX9_alone_ 10 = .ok (.bipush 10, 2) := by decide +kernel
theorem dX9_alone__12 : decode cX9_alone_ 12 = .ok (.iaload, 1) := by decide +kernel
theorem dX9_alone__13 : decode cX9_alone_ 13 = .ok (.iadd, 1) := by decide +kernel
theorem dX9_alone__14 : decode cX9_alone_ 14 = .ok (.iload_n 1, 1) := by decide +kernel
theorem dX9_alone__15 : decode cX9_alone_ 15 = .ok (.iastore, 1) := by decide +kernel
theorem dX9_alone__16 : decode cX9_alone_ 16 = .ok (.aload_n 0, 1) := by decide +kernel
theorem dX9_alone__17 : decode cX9_alone_ 17 = .ok (.getfield 11, 3) := by decide +kernel
theorem dX9_alone__20 : decode cX9_alone_ 20 = .ok (.bipush 17, 2) := by decide +kernel
theorem dX9_alone__22 : decode cX9_alone_ 22 = .ok (.aload_n 0, 1) := by decide +kernel
theorem dX9_alone__23 : decode cX9_alone_ 23 = .ok (.getfield 11, 3) := by decide +kernel
theorem dX9_alone__26 : decode cX9_alone_ 26 = .ok (.bipush 10, 2) := by decide +kernel
theorem dX9_alone__28 : decode cX9_alone_ 28 = .ok (.iaload, 1) := by decide +kernel
theorem dX9_alone__29 : decode cX9_alone_ 29 = .ok (.iadd, 1) := by decide +kernel
theorem dX9_alone__30 : decode cX9_alone_ 30 = .ok (.iload_n 1, 1) := by decide +kernel
theorem dX9_alone__31 : decode cX9_alone_ 31 = .ok (.iastore, 1) := by decide +kernel
theorem dX9_alone__32 : decode cX9_alone_ 32 = .ok (.aload_n 0, 1) := by decide +kernel
theorem dX9_alone__33 : decode cX9_alone_ 33 = .ok (.getfield 11, 3) := by decide +kernel
theorem dX9_alone__36 : decode cX9_alone_ 36 = .ok (.bipush 23, 2) := by decide +kernel
theorem dX9_alone__38 : decode cX9_alone_ 38 = .ok (.aload_n 0, 1) := by decide +kernel
theorem dX9_alone__39 : decode cX9_alone_ 39 = .ok (.getfield 11, 3) := by decide +kernel
theorem dX9_alone__42 : decode cX9_alone_ 42 = .ok (.bipush 10, 2) := by decide +kernel
theorem dX9_alone__44 : decode cX9_alone_ 44 = .ok (.iaload, 1) := by decide +kernel
theorem dX9_alone__45 : decode cX9_alone_ 45 = .ok (.iadd, 1) := by decide +kernel
theorem dX9_alone__46 : decode cX9_alone_ 46 = .ok (.iload_n 2, 1) := by decide +kernel
theorem dX9_alone__47 : decode cX9_alone_ 47 = .ok (.iastore, 1) := by decide +kernel
theorem dX9_alone__48 : decode cX9_alone_ 48 = .ok (.aload_n 0, 1) := by decide +kernel
theorem dX9_alone__49 : decode cX9_alone_ 49 = .ok (.getfield 11, 3) := by decide +kernel
theorem dX9_alone__52 : decode cX9_alone_ 52 = .ok (.bipush 10, 2) := by decide +kernel
theorem dX9_alone__54 : decode cX9_alone_ 54 = .ok (.dup2, 1) := by decide +kernel
theorem dX9_alone__55 : decode cX9_alone_ 55 = .ok (.iaload, 1) := by decide +kernel
theorem dX9_alone__56 : decode cX9_alone_ 56 = .ok (.iconst 1, 1) := by decide +kernel
theorem dX9_alone__57 : decode cX9_alone_ 57 = .ok (.iadd, 1) := by decide +kernel
theorem dX9_alone__58 : decode cX9_alone_ 58 = .ok (.iastore, 1) := by decide +kernel
theorem dX9_alone__59 : decode cX9_alone_ 59 = .ok (.return_, 1) := by decide +kernel
theorem dX9_asked_0 : decode cX9_asked 0 = .ok (.aload_n 0, 1) := by decide +kernel
theorem dX9_asked_1 : decode cX9_asked 1 = .ok (.invokevirtual 202, 3) := by decide +kernel
theorem dX9_asked_4 : decode cX9_asked 4 = .ok (.iload_n 2, 1) := by decide +kernel
theorem dX9_asked_5 : decode cX9_asked 5 = .ok (.ifCond .ge 25, 3) := by decide +kernel
theorem dX9_asked_8 : decode cX9_asked 8 = .ok (.aload_n 0, 1) := by decide +kernel
theorem dX9_asked_9 : decode cX9_asked 9 = .ok (.aload_n 0, 1) := by decide +kernel
theorem dX9_asked_10 : decode cX9_asked 10 = .ok (.iload_n 1, 1) := by decide +kernel
theorem dX9_asked_11 : decode cX9_asked 11 = .ok (.i2l, 1) := by decide +kernel
theorem dX9_asked_12 : decode cX9_asked 12 = .ok (.lconst 1, 1) := by decide +kernel
theorem dX9_asked_13 : decode cX9_asked 13 = .ok (.invokevirtual 210, 3) := by decide +kernel
theorem dX9_asked_16 : decode cX9_asked 16 = .ok (.ldc2_w 86, 3) := by decide +kernel
theorem dX9_asked_19 : decode cX9_asked 19 = .ok (.aload_n 0, 1) := by decide +kernel
theorem dX9_asked_20 : decode cX9_asked 20 = .ok (.getfield 182, 3) := by decide +kernel
theorem dX9_asked_23 : decode cX9_asked 23 = .ok (.lmul, 1) := by decide +kernel
theorem dX9_asked_24 : decode cX9_asked 24 = .ok (.invokevirtual 133, 3) := by decide +kernel
theorem dX9_asked_27 : decode cX9_asked 27 = .ok (.goto 17, 3) := by decide +kernel
theorem dX9_asked_30 : decode cX9_asked 30 = .ok (.aload_n 0, 1) := by decide +kernel
theorem dX9_asked_31 : decode cX9_asked 31 = .ok (.aload_n 0, 1) := by decide +kernel
theorem dX9_asked_32 : decode cX9_asked 32 = .ok (.getfield 38, 3) := by decide +kernel
theorem dX9_asked_35 : decode cX9_asked 35 = .ok (.iload_n 2, 1) := by decide +kernel
theorem dX9_asked_36 : decode cX9_asked 36 = .ok (.laload, 1) := by decide +kernel
theorem dX9_asked_37 : decode cX9_asked 37 = .ok (.aload_n 0, 1) := by decide +kernel
theorem dX9_asked_38 : decode cX9_asked 38 = .ok (.getfield 182, 3) := by decide +kernel
theorem dX9_asked_41 : decode cX9_asked 41 = .ok (.invokevirtual 133, 3) := by decide +kernel
theorem dX9_asked_44 : decode cX9_asked 44 = .ok (.return_, 1) := by decide +kernel
theorem dX9_most_0 : decode cX9_most 0 = .ok (.aload_n 0, 1) := by decide +kernel
theorem dX9_most_1 : decode cX9_most 1 = .ok (.invokevirtual 266, 3) := by decide +kernel
theorem dX9_most_4 : decode cX9_most 4 = .ok (.aload_n 0, 1) := by decide +kernel
theorem dX9_most_5 : decode cX9_most 5 = .ok (.lconst 0, 1) := by decide +kernel
theorem dX9_most_6 : decode cX9_most 6 = .ok (.putfield 232, 3) := by decide +kernel
theorem dX9_most_9 : decode cX9_most 9 = .ok (.iconst 0, 1) := by decide +kernel
theorem dX9_most_10 : decode cX9_most 10 = .ok (.istore 4, 2) := by decide +kernel
theorem dX9_most_12 : decode cX9_most 12 = .ok (.iload 4, 2) := by decide +kernel
theorem dX9_most_14 : decode cX9_most 14 = .ok (.bipush 20, 2) := by decide +kernel
theorem dX9_most_16 : decode cX9_most 16 = .ok (.if_icmp .ge 107, 3) := by decide +kernel
theorem dX9_most_19 : decode cX9_most 19 = .ok (.aload_n 0, 1) := by decide +kernel
theorem dX9_most_20 : decode cX9_most 20 = .ok (.getfield 11, 3) := by decide +kernel
theorem dX9_most_23 : decode cX9_most 23 = .ok (.bipush 10, 2) := by decide +kernel
theorem dX9_most_25 : decode cX9_most 25 = .ok (.iconst 0, 1) := by decide +kernel
theorem dX9_most_26 : decode cX9_most 26 = .ok (.iastore, 1) := by decide +kernel
theorem dX9_most_27 : decode cX9_most 27 = .ok (.iconst 0, 1) := by decide +kernel
theorem dX9_most_28 : decode cX9_most 28 = .ok (.istore 5, 2) := by decide +kernel
theorem dX9_most_30 : decode cX9_most 30 = .ok (.iload 5, 2) := by decide +kernel
theorem dX9_most_32 : decode cX9_most 32 = .ok (.aload_n 0, 1) := by decide +kernel
theorem dX9_most_33 : decode cX9_most 33 = .ok (.getfield 11, 3) := by decide +kernel
theorem dX9_most_36 : decode cX9_most 36 = .ok (.bipush 29, 2) := by decide +kernel
theorem dX9_most_38 : decode cX9_most 38 = .ok (.iaload, 1) := by decide +kernel
theorem dX9_most_39 : decode cX9_most 39 = .ok (.if_icmp .ge 56, 3) := by decide +kernel
theorem dX9_most_42 : decode cX9_most 42 = .ok (.aload_n 0, 1) := by decide +kernel
theorem dX9_most_43 : decode cX9_most 43 = .ok (.iload 4, 2) := by decide +kernel
theorem dX9_most_45 : decode cX9_most 45 = .ok (.aload_n 0, 1) := by decide +kernel
theorem dX9_most_46 : decode cX9_most 46 = .ok (.getfield 11, 3) := by decide +kernel
theorem dX9_most_49 : decode cX9_most 49 = .ok (.bipush 30, 2) := by decide +kernel
theorem dX9_most_51 : decode cX9_most 51 = .ok (.iload 5, 2) := by decide +kernel
theorem dX9_most_53 : decode cX9_most 53 = .ok (.iadd, 1) := by decide +kernel
theorem dX9_most_54 : decode cX9_most 54 = .ok (.iaload, 1) := by decide +kernel
theorem dX9_most_55 : decode cX9_most 55 = .ok (.isub, 1) := by decide +kernel
theorem dX9_most_56 : decode cX9_most 56 = .ok (.invokevirtual 90, 3) := by decide +kernel
theorem dX9_most_59 : decode cX9_most 59 = .ok (.ifCond .eq 30, 3) := by decide +kernel
theorem dX9_most_62 : decode cX9_most 62 = .ok (.aload_n 0, 1) := by decide +kernel
theorem dX9_most_63 : decode cX9_most 63 = .ok (.iload 4, 2) := by decide +kernel
theorem dX9_most_65 : decode cX9_most 65 = .ok (.aload_n 0, 1) := by decide +kernel
theorem dX9_most_66 : decode cX9_most 66 = .ok (.getfield 11, 3) := by decide +kernel
theorem dX9_most_69 : decode cX9_most 69 = .ok (.bipush 30, 2) := by decide +kernel
theorem dX9_most_71 : decode cX9_most 71 = .ok (.iload 5, 2) := by decide +kernel
theorem dX9_most_73 : decode cX9_most 73 = .ok (.iadd, 1) := by decide +kernel
theorem dX9_most_74 : decode cX9_most 74 = .ok (.iaload, 1) := by decide +kernel
theorem dX9_most_75 : decode cX9_most 75 = .ok (.isub, 1) := by decide +kernel
theorem dX9_most_76 : decode cX9_most 76 = .ok (.aload_n 0, 1) := by decide +kernel
theorem dX9_most_77 : decode cX9_most 77 = .ok (.getfield 11, 3) := by decide +kernel
theorem dX9_most_80 : decode cX9_most 80 = .ok (.bipush 33, 2) := by decide +kernel
theorem dX9_most_82 : decode cX9_most 82 = .ok (.iload 5, 2) := by decide +kernel
theorem dX9_most_84 : decode cX9_most 84 = .ok (.iadd, 1) := by decide +kernel
theorem dX9_most_85 : decode cX9_most 85 = .ok (.iaload, 1) := by decide +kernel
theorem dX9_most_86 : decode cX9_most 86 = .ok (.invokevirtual 269, 3) := by decide +kernel
theorem dX9_most_89 : decode cX9_most 89 = .ok (.iinc 5 1, 3) := by decide +kernel
theorem dX9_most_92 : decode cX9_most 92 = .ok (.goto (-62), 3) := by decide +kernel
theorem dX9_most_95 : decode cX9_most 95 = .ok (.aload_n 0, 1) := by decide +kernel
theorem dX9_most_96 : decode cX9_most 96 = .ok (.iload_n 1, 1) := by decide +kernel
theorem dX9_most_97 : decode cX9_most 97 = .ok (.iload_n 2, 1) := by decide +kernel
theorem dX9_most_98 : decode cX9_most 98 = .ok (.invokevirtual 272, 3) := by decide +kernel
theorem dX9_most_101 : decode cX9_most 101 = .ok (.aload_n 0, 1) := by decide +kernel
theorem dX9_most_102 : decode cX9_most 102 = .ok (.aload_n 0, 1) := by decide +kernel
theorem dX9_most_103 : decode cX9_most 103 = .ok (.getfield 130, 3) := by decide +kernel
theorem dX9_most_106 : decode cX9_most 106 = .ok (.aload_n 0, 1) := by decide +kernel
theorem dX9_most_107 : decode cX9_most 107 = .ok (.getfield 21, 3) := by decide +kernel
theorem dX9_most_110 : decode cX9_most 110 = .ok (.iload 4, 2) := by decide +kernel
theorem dX9_most_112 : decode cX9_most 112 = .ok (.i2l, 1) := by decide +kernel
theorem dX9_most_113 : decode cX9_most 113 = .ok (.lconst 1, 1) := by decide +kernel
theorem dX9_most_114 : decode cX9_most 114 = .ok (.invokevirtual 244, 3) := by decide +kernel
theorem dX9_most_117 : decode cX9_most 117 = .ok (.iinc 4 1, 3) := by decide +kernel
theorem dX9_most_120 : decode cX9_most 120 = .ok (.goto (-108), 3) := by decide +kernel
theorem dX9_most_123 : decode cX9_most 123 = .ok (.aload_n 0, 1) := by decide +kernel
theorem dX9_most_124 : decode cX9_most 124 = .ok (.invokevirtual 275, 3) := by decide +kernel
theorem dX9_most_127 : decode cX9_most 127 = .ok (.iload_n 3, 1) := by decide +kernel
theorem dX9_most_128 : decode cX9_most 128 = .ok (.ifCond .ne 10, 3) := by decide +kernel
theorem dX9_most_131 : decode cX9_most 131 = .ok (.aload_n 0, 1) := by decide +kernel
theorem dX9_most_132 : decode cX9_most 132 = .ok (.getfield 235, 3) := by decide +kernel
theorem dX9_most_135 : decode cX9_most 135 = .ok (.goto 19, 3) := by decide +kernel
theorem dX9_most_138 : decode cX9_most 138 = .ok (.iload_n 3, 1) := by decide +kernel
theorem dX9_most_139 : decode cX9_most 139 = .ok (.iconst 1, 1) := by decide +kernel
theorem dX9_most_140 : decode cX9_most 140 = .ok (.if_icmp .ne 10, 3) := by decide +kernel
theorem dX9_most_143 : decode cX9_most 143 = .ok (.aload_n 0, 1) := by decide +kernel
theorem dX9_most_144 : decode cX9_most 144 = .ok (.getfield 232, 3) := by decide +kernel
theorem dX9_most_147 : decode cX9_most 147 = .ok (.goto 7, 3) := by decide +kernel
theorem dX9_most_150 : decode cX9_most 150 = .ok (.aload_n 0, 1) := by decide +kernel
theorem dX9_most_151 : decode cX9_most 151 = .ok (.getfield 238, 3) := by decide +kernel
theorem dX9_most_154 : decode cX9_most 154 = .ok (.lreturn, 1) := by decide +kernel
theorem dX9_rolls_0 : decode cX9_rolls 0 = .ok (.aload_n 0, 1) := by decide +kernel
theorem dX9_rolls_1 : decode cX9_rolls 1 = .ok (.iload_n 1, 1) := by decide +kernel
theorem dX9_rolls_2 : decode cX9_rolls 2 = .ok (.invokevirtual 90, 3) := by decide +kernel
theorem dX9_rolls_5 : decode cX9_rolls 5 = .ok (.ifCond .eq 32, 3) := by decide +kernel
theorem dX9_rolls_8 : decode cX9_rolls 8 = .ok (.iload_n 2, 1) := by decide +kernel
theorem dX9_rolls_9 : decode cX9_rolls 9 = .ok (.i2l, 1) := by decide +kernel
theorem dX9_rolls_10 : decode cX9_rolls 10 = .ok (.lconst 0, 1) := by decide +kernel
theorem dX9_rolls_11 : decode cX9_rolls 11 = .ok (.ldc2_w 86, 3) := by decide +kernel
theorem dX9_rolls_14 : decode cX9_rolls 14 = .ok (.invokestatic 82, 3) := by decide +kernel
theorem dX9_rolls_17 : decode cX9_rolls 17 = .ok (.ifCond .eq 20, 3) := by decide +kernel
theorem dX9_rolls_20 : decode cX9_rolls 20 = .ok (.aload_n 0, 1) := by decide +kernel
theorem dX9_rolls_21 : decode cX9_rolls 21 = .ok (.invokevirtual 196, 3) := by decide +kernel
theorem dX9_rolls_24 : decode cX9_rolls 24 = .ok (.ifCond .eq 13, 3) := by decide +kernel
theorem dX9_rolls_27 : decode cX9_rolls 27 = .ok (.aload_n 0, 1) := by decide +kernel
theorem dX9_rolls_28 : decode cX9_rolls 28 = .ok (.getfield 11, 3) := by decide +kernel
theorem dX9_rolls_31 : decode cX9_rolls 31 = .ok (.bipush 29, 2) := by decide +kernel
theorem dX9_rolls_33 : decode cX9_rolls 33 = .ok (.iaload, 1) := by decide +kernel
theorem dX9_rolls_34 : decode cX9_rolls 34 = .ok (.ifCond .ne 7, 3) := by decide +kernel
theorem dX9_rolls_37 : decode cX9_rolls 37 = .ok (.ldc2_w 200, 3) := by decide +kernel
theorem dX9_rolls_40 : decode cX9_rolls 40 = .ok (.lreturn, 1) := by decide +kernel
theorem dX9_rolls_41 : decode cX9_rolls 41 = .ok (.aload_n 0, 1) := by decide +kernel
theorem dX9_rolls_42 : decode cX9_rolls 42 = .ok (.iload_n 1, 1) := by decide +kernel
theorem dX9_rolls_43 : decode cX9_rolls 43 = .ok (.iconst (-1), 1) := by decide +kernel
theorem dX9_rolls_44 : decode cX9_rolls 44 = .ok (.iload_n 2, 1) := by decide +kernel
theorem dX9_rolls_45 : decode cX9_rolls 45 = .ok (.invokevirtual 278, 3) := by decide +kernel
theorem dX9_rolls_48 : decode cX9_rolls 48 = .ok (.lreturn, 1) := by decide +kernel
theorem dX9_presses_0 : decode cX9_presses 0 = .ok (.aload_n 0, 1) := by decide +kernel
theorem dX9_presses_1 : decode cX9_presses 1 = .ok (.iload_n 1, 1) := by decide +kernel
theorem dX9_presses_2 : decode cX9_presses 2 = .ok (.invokevirtual 113, 3) := by decide +kernel
theorem dX9_presses_5 : decode cX9_presses 5 = .ok (.ifCond .eq 32, 3) := by decide +kernel
theorem dX9_presses_8 : decode cX9_presses 8 = .ok (.iload_n 2, 1) := by decide +kernel
theorem dX9_presses_9 : decode cX9_presses 9 = .ok (.i2l, 1) := by decide +kernel
theorem dX9_presses_10 : decode cX9_presses 10 = .ok (.lconst 0, 1) := by decide +kernel
theorem dX9_presses_11 : decode cX9_presses 11 = .ok (.ldc2_w 86, 3) := by decide +kernel
theorem dX9_presses_14 : decode cX9_presses 14 = .ok (.invokestatic 82, 3) := by decide +kernel
theorem dX9_presses_17 : decode cX9_presses 17 = .ok (.ifCond .eq 20, 3) := by decide +kernel
theorem dX9_presses_20 : decode cX9_presses 20 = .ok (.aload_n 0, 1) := by decide +kernel
theorem dX9_presses_21 : decode cX9_presses 21 = .ok (.invokevirtual 196, 3) := by decide +kernel
theorem dX9_presses_24 : decode cX9_presses 24 = .ok (.ifCond .eq 13, 3) := by decide +kernel
theorem dX9_presses_27 : decode cX9_presses 27 = .ok (.aload_n 0, 1) := by decide +kernel
theorem dX9_presses_28 : decode cX9_presses 28 = .ok (.getfield 11, 3) := by decide +kernel
theorem dX9_presses_31 : decode cX9_presses 31 = .ok (.bipush 29, 2) := by decide +kernel
theorem dX9_presses_33 : decode cX9_presses 33 = .ok (.iaload, 1) := by decide +kernel
theorem dX9_presses_34 : decode cX9_presses 34 = .ok (.ifCond .ne 7, 3) := by decide +kernel
theorem dX9_presses_37 : decode cX9_presses 37 = .ok (.ldc2_w 200, 3) := by decide +kernel
theorem dX9_presses_40 : decode cX9_presses 40 = .ok (.lreturn, 1) := by decide +kernel
theorem dX9_presses_41 : decode cX9_presses 41 = .ok (.aload_n 0, 1) := by decide +kernel
theorem dX9_presses_42 : decode cX9_presses 42 = .ok (.iconst 0, 1) := by decide +kernel
theorem dX9_presses_43 : decode cX9_presses 43 = .ok (.iload_n 1, 1) := by decide +kernel
theorem dX9_presses_44 : decode cX9_presses 44 = .ok (.iload_n 2, 1) := by decide +kernel
theorem dX9_presses_45 : decode cX9_presses 45 = .ok (.invokevirtual 278, 3) := by decide +kernel
theorem dX9_presses_48 : decode cX9_presses 48 = .ok (.lreturn, 1) := by decide +kernel
theorem dX9_byUnit_0 : decode cX9_byUnit 0 = .ok (.aload_n 0, 1) := by decide +kernel
theorem dX9_byUnit_1 : decode cX9_byUnit 1 = .ok (.invokevirtual 266, 3) := by decide +kernel
theorem dX9_byUnit_4 : decode cX9_byUnit 4 = .ok (.aload_n 0, 1) := by decide +kernel
theorem dX9_byUnit_5 : decode cX9_byUnit 5 = .ok (.getfield 11, 3) := by decide +kernel
theorem dX9_byUnit_8 : decode cX9_byUnit 8 = .ok (.bipush 10, 2) := by decide +kernel
theorem dX9_byUnit_10 : decode cX9_byUnit 10 = .ok (.iconst 0, 1) := by decide +kernel
theorem dX9_byUnit_11 : decode cX9_byUnit 11 = .ok (.iastore, 1) := by decide +kernel
theorem dX9_byUnit_12 : decode cX9_byUnit 12 = .ok (.aload_n 0, 1) := by decide +kernel
theorem dX9_byUnit_13 : decode cX9_byUnit 13 = .ok (.iload_n 1, 1) := by decide +kernel
theorem dX9_byUnit_14 : decode cX9_byUnit 14 = .ok (.iconst 1, 1) := by decide +kernel
theorem dX9_byUnit_15 : decode cX9_byUnit 15 = .ok (.invokevirtual 269, 3) := by decide +kernel
theorem dX9_byUnit_18 : decode cX9_byUnit 18 = .ok (.aload_n 0, 1) := by decide +kernel
theorem dX9_byUnit_19 : decode cX9_byUnit 19 = .ok (.iload_n 2, 1) := by decide +kernel
theorem dX9_byUnit_20 : decode cX9_byUnit 20 = .ok (.iload_n 3, 1) := by decide +kernel
theorem dX9_byUnit_21 : decode cX9_byUnit 21 = .ok (.invokevirtual 272, 3) := by decide +kernel
theorem dX9_byUnit_24 : decode cX9_byUnit 24 = .ok (.aload_n 0, 1) := by decide +kernel
theorem dX9_byUnit_25 : decode cX9_byUnit 25 = .ok (.invokevirtual 275, 3) := by decide +kernel
theorem dX9_byUnit_28 : decode cX9_byUnit 28 = .ok (.iload 4, 2) := by decide +kernel
theorem dX9_byUnit_30 : decode cX9_byUnit 30 = .ok (.ifCond .ne 10, 3) := by decide +kernel
theorem dX9_byUnit_33 : decode cX9_byUnit 33 = .ok (.aload_n 0, 1) := by decide +kernel
theorem dX9_byUnit_34 : decode cX9_byUnit 34 = .ok (.getfield 130, 3) := by decide +kernel
theorem dX9_byUnit_37 : decode cX9_byUnit 37 = .ok (.goto 7, 3) := by decide +kernel
theorem dX9_byUnit_40 : decode cX9_byUnit 40 = .ok (.aload_n 0, 1) := by decide +kernel
theorem dX9_byUnit_41 : decode cX9_byUnit 41 = .ok (.getfield 21, 3) := by decide +kernel
theorem dX9_byUnit_44 : decode cX9_byUnit 44 = .ok (.lreturn, 1) := by decide +kernel
theorem dX9_unit_0 : decode cX9_unit 0 = .ok (.aload_n 0, 1) := by decide +kernel
theorem dX9_unit_1 : decode cX9_unit 1 = .ok (.iload_n 1, 1) := by decide +kernel
theorem dX9_unit_2 : decode cX9_unit 2 = .ok (.invokevirtual 90, 3) := by decide +kernel
theorem dX9_unit_5 : decode cX9_unit 5 = .ok (.ifCond .eq 28, 3) := by decide +kernel
theorem dX9_unit_8 : decode cX9_unit 8 = .ok (.aload_n 0, 1) := by decide +kernel
theorem dX9_unit_9 : decode cX9_unit 9 = .ok (.iload_n 2, 1) := by decide +kernel
theorem dX9_unit_10 : decode cX9_unit 10 = .ok (.invokevirtual 90, 3) := by decide +kernel
theorem dX9_unit_13 : decode cX9_unit 13 = .ok (.ifCond .eq 20, 3) := by decide +kernel
theorem dX9_unit_16 : decode cX9_unit 16 = .ok (.iload_n 3, 1) := by decide +kernel
theorem dX9_unit_17 : decode cX9_unit 17 = .ok (.i2l, 1) := by decide +kernel
theorem dX9_unit_18 : decode cX9_unit 18 = .ok (.lconst 0, 1) := by decide +kernel
theorem dX9_unit_19 : decode cX9_unit 19 = .ok (.lconst 1, 1) := by decide +kernel
theorem dX9_unit_20 : decode cX9_unit 20 = .ok (.invokestatic 82, 3) := by decide +kernel
theorem dX9_unit_23 : decode cX9_unit 23 = .ok (.ifCond .eq 10, 3) := by decide +kernel
theorem dX9_unit_26 : decode cX9_unit 26 = .ok (.aload_n 0, 1) := by decide +kernel
theorem dX9_unit_27 : decode cX9_unit 27 = .ok (.invokevirtual 196, 3) := by decide +kernel
theorem dX9_unit_30 : decode cX9_unit 30 = .ok (.ifCond .ne 7, 3) := by decide +kernel
theorem dX9_unit_33 : decode cX9_unit 33 = .ok (.ldc2_w 200, 3) := by decide +kernel
theorem dX9_unit_36 : decode cX9_unit 36 = .ok (.lreturn, 1) := by decide +kernel
theorem dX9_unit_37 : decode cX9_unit 37 = .ok (.aload_n 0, 1) := by decide +kernel
theorem dX9_unit_38 : decode cX9_unit 38 = .ok (.iload_n 1, 1) := by decide +kernel
theorem dX9_unit_39 : decode cX9_unit 39 = .ok (.iload_n 2, 1) := by decide +kernel
theorem dX9_unit_40 : decode cX9_unit 40 = .ok (.iconst (-1), 1) := by decide +kernel
theorem dX9_unit_41 : decode cX9_unit 41 = .ok (.iload_n 3, 1) := by decide +kernel
theorem dX9_unit_42 : decode cX9_unit 42 = .ok (.invokevirtual 282, 3) := by decide +kernel
theorem dX9_unit_45 : decode cX9_unit 45 = .ok (.lreturn, 1) := by decide +kernel
theorem dX9_bears__0 : decode cX9_bears_ 0 = .ok (.aload_n 0, 1) := by decide +kernel
theorem dX9_bears__1 : decode cX9_bears_ 1 = .ok (.iload_n 1, 1) := by decide +kernel
theorem dX9_bears__2 : decode cX9_bears_ 2 = .ok (.invokevirtual 90, 3) := by decide +kernel
theorem dX9_bears__5 : decode cX9_bears_ 5 = .ok (.ifCond .eq 28, 3) := by decide +kernel
theorem dX9_bears__8 : decode cX9_bears_ 8 = .ok (.aload_n 0, 1) := by decide +kernel
theorem dX9_bears__9 : decode cX9_bears_ 9 = .ok (.iload_n 2, 1) := by decide +kernel
theorem dX9_bears__10 : decode cX9_bears_ 10 = .ok (.invokevirtual 113, 3) := by decide +kernel
theorem dX9_bears__13 : decode cX9_bears_ 13 = .ok (.ifCond .eq 20, 3) := by decide +kernel
theorem dX9_bears__16 : decode cX9_bears_ 16 = .ok (.iload_n 3, 1) := by decide +kernel
theorem dX9_bears__17 : decode cX9_bears_ 17 = .ok (.i2l, 1) := by decide +kernel
theorem dX9_bears__18 : decode cX9_bears_ 18 = .ok (.lconst 0, 1) := by decide +kernel
theorem dX9_bears__19 : decode cX9_bears_ 19 = .ok (.lconst 1, 1) := by decide +kernel
theorem dX9_bears__20 : decode cX9_bears_ 20 = .ok (.invokestatic 82, 3) := by decide +kernel
theorem dX9_bears__23 : decode cX9_bears_ 23 = .ok (.ifCond .eq 10, 3) := by decide +kernel
theorem dX9_bears__26 : decode cX9_bears_ 26 = .ok (.aload_n 0, 1) := by decide +kernel
theorem dX9_bears__27 : decode cX9_bears_ 27 = .ok (.invokevirtual 196, 3) := by decide +kernel
theorem dX9_bears__30 : decode cX9_bears_ 30 = .ok (.ifCond .ne 7, 3) := by decide +kernel
theorem dX9_bears__33 : decode cX9_bears_ 33 = .ok (.ldc2_w 200, 3) := by decide +kernel
theorem dX9_bears__36 : decode cX9_bears_ 36 = .ok (.lreturn, 1) := by decide +kernel
theorem dX9_bears__37 : decode cX9_bears_ 37 = .ok (.aload_n 0, 1) := by decide +kernel
theorem dX9_bears__38 : decode cX9_bears_ 38 = .ok (.iload_n 1, 1) := by decide +kernel
theorem dX9_bears__39 : decode cX9_bears_ 39 = .ok (.iconst 0, 1) := by decide +kernel
theorem dX9_bears__40 : decode cX9_bears_ 40 = .ok (.iload_n 2, 1) := by decide +kernel
theorem dX9_bears__41 : decode cX9_bears_ 41 = .ok (.iload_n 3, 1) := by decide +kernel
theorem dX9_bears__42 : decode cX9_bears_ 42 = .ok (.invokevirtual 282, 3) := by decide +kernel
theorem dX9_bears__45 : decode cX9_bears_ 45 = .ok (.lreturn, 1) := by decide +kernel
theorem dX9_best_0 : decode cX9_best 0 = .ok (.aload_n 0, 1) := by decide +kernel
theorem dX9_best_1 : decode cX9_best 1 = .ok (.iload_n 1, 1) := by decide +kernel
theorem dX9_best_2 : decode cX9_best 2 = .ok (.invokevirtual 113, 3) := by decide +kernel
theorem dX9_best_5 : decode cX9_best 5 = .ok (.ifCond .ne 5, 3) := by decide +kernel
theorem dX9_best_8 : decode cX9_best 8 = .ok (.iconst (-1), 1) := by decide +kernel
theorem dX9_best_9 : decode cX9_best 9 = .ok (.ireturn, 1) := by decide +kernel
theorem dX9_best_10 : decode cX9_best 10 = .ok (.aload_n 0, 1) := by decide +kernel
theorem dX9_best_11 : decode cX9_best 11 = .ok (.invokevirtual 196, 3) := by decide +kernel
theorem dX9_best_14 : decode cX9_best 14 = .ok (.ifCond .ne 6, 3) := by decide +kernel
theorem dX9_best_17 : decode cX9_best 17 = .ok (.bipush (-6), 2) := by decide +kernel
theorem dX9_best_19 : decode cX9_best 19 = .ok (.ireturn, 1) := by decide +kernel
theorem dX9_best_20 : decode cX9_best 20 = .ok (.aload_n 0, 1) := by decide +kernel
theorem dX9_best_21 : decode cX9_best 21 = .ok (.invokevirtual 266, 3) := by decide +kernel
theorem dX9_best_24 : decode cX9_best 24 = .ok (.iload_n 1, 1) := by decide +kernel
theorem dX9_best_25 : decode cX9_best 25 = .ok (.ifCond .ne 7, 3) := by decide +kernel
theorem dX9_best_28 : decode cX9_best 28 = .ok (.iconst 0, 1) := by decide +kernel
theorem dX9_best_29 : decode cX9_best 29 = .ok (.goto 15, 3) := by decide +kernel
theorem dX9_best_32 : decode cX9_best 32 = .ok (.aload_n 0, 1) := by decide +kernel
theorem dX9_best_33 : decode cX9_best 33 = .ok (.getfield 11, 3) := by decide +kernel
theorem dX9_best_36 : decode cX9_best 36 = .ok (.iconst 2, 1) := by decide +kernel
theorem dX9_best_37 : decode cX9_best 37 = .ok (.iload_n 1, 1) := by decide +kernel
theorem dX9_best_38 : decode cX9_best 38 = .ok (.iadd, 1) := by decide +kernel
theorem dX9_best_39 : decode cX9_best 39 = .ok (.iconst 1, 1) := by decide +kernel
theorem dX9_best_40 : decode cX9_best 40 = .ok (.isub, 1) := by decide +kernel
theorem dX9_best_41 : decode cX9_best 41 = .ok (.iaload, 1) := by decide +kernel
theorem dX9_best_42 : decode cX9_best 42 = .ok (.iconst 1, 1) := by decide +kernel
theorem dX9_best_43 : decode cX9_best 43 = .ok (.iadd, 1) := by decide +kernel
theorem dX9_best_44 : decode cX9_best 44 = .ok (.istore_n 2, 1) := by decide +kernel
theorem dX9_best_45 : decode cX9_best 45 = .ok (.iload_n 1, 1) := by decide +kernel
theorem dX9_best_46 : decode cX9_best 46 = .ok (.aload_n 0, 1) := by decide +kernel
theorem dX9_best_47 : decode cX9_best 47 = .ok (.getfield 11, 3) := by decide +kernel
theorem dX9_best_50 : decode cX9_best 50 = .ok (.iconst 1, 1) := by decide +kernel
theorem dX9_best_51 : decode cX9_best 51 = .ok (.iaload, 1) := by decide +kernel
theorem dX9_best_52 : decode cX9_best 52 = .ok (.iconst 1, 1) := by decide +kernel
theorem dX9_best_53 : decode cX9_best 53 = .ok (.isub, 1) := by decide +kernel
theorem dX9_best_54 : decode cX9_best 54 = .ok (.if_icmp .ne 12, 3) := by decide +kernel
theorem dX9_best_57 : decode cX9_best 57 = .ok (.aload_n 0, 1) := by decide +kernel
theorem dX9_best_58 : decode cX9_best 58 = .ok (.getfield 11, 3) := by decide +kernel
theorem dX9_best_61 : decode cX9_best 61 = .ok (.iconst 0, 1) := by decide +kernel
theorem dX9_best_62 : decode cX9_best 62 = .ok (.iaload, 1) := by decide +kernel
theorem dX9_best_63 : decode cX9_best 63 = .ok (.goto 15, 3) := by decide +kernel
theorem dX9_best_66 : decode cX9_best 66 = .ok (.aload_n 0, 1) := by decide +kernel
theorem dX9_best_67 : decode cX9_best 67 = .ok (.getfield 11, 3) := by decide +kernel
theorem dX9_best_70 : decode cX9_best 70 = .ok (.iconst 2, 1) := by decide +kernel
theorem dX9_best_71 : decode cX9_best 71 = .ok (.iload_n 1, 1) := by decide +kernel
theorem dX9_best_72 : decode cX9_best 72 = .ok (.iadd, 1) := by decide +kernel
theorem dX9_best_73 : decode cX9_best 73 = .ok (.iconst 1, 1) := by decide +kernel
theorem dX9_best_74 : decode cX9_best 74 = .ok (.iadd, 1) := by decide +kernel
theorem dX9_best_75 : decode cX9_best 75 = .ok (.iaload, 1) := by decide +kernel
theorem dX9_best_76 : decode cX9_best 76 = .ok (.iconst 1, 1) := by decide +kernel
theorem dX9_best_77 : decode cX9_best 77 = .ok (.isub, 1) := by decide +kernel
theorem dX9_best_78 : decode cX9_best 78 = .ok (.istore_n 3, 1) := by decide +kernel
theorem dX9_best_79 : decode cX9_best 79 = .ok (.iload_n 2, 1) := by decide +kernel
theorem dX9_best_80 : decode cX9_best 80 = .ok (.istore 4, 2) := by decide +kernel
theorem dX9_best_82 : decode cX9_best 82 = .ok (.lconst 0, 1) := by decide +kernel
theorem dX9_best_83 : decode cX9_best 83 = .ok (.lstore 5, 2) := by decide +kernel
theorem dX9_best_85 : decode cX9_best 85 = .ok (.lconst 0, 1) := by decide +kernel
theorem dX9_best_86 : decode cX9_best 86 = .ok (.lstore 7, 2) := by decide +kernel
theorem dX9_best_88 : decode cX9_best 88 = .ok (.iload_n 2, 1) := by decide +kernel
theorem dX9_best_89 : decode cX9_best 89 = .ok (.istore 9, 2) := by decide +kernel
theorem dX9_best_91 : decode cX9_best 91 = .ok (.iload 9, 2) := by decide +kernel
theorem dX9_best_93 : decode cX9_best 93 = .ok (.iload_n 3, 1) := by decide +kernel
theorem dX9_best_94 : decode cX9_best 94 = .ok (.if_icmp .gt 63, 3) := by decide +kernel
theorem dX9_best_97 : decode cX9_best 97 = .ok (.aload_n 0, 1) := by decide +kernel
theorem dX9_best_98 : decode cX9_best 98 = .ok (.getfield 11, 3) := by decide +kernel
theorem dX9_best_101 : decode cX9_best 101 = .ok (.iconst 2, 1) := by decide +kernel
theorem dX9_best_102 : decode cX9_best 102 = .ok (.iload_n 1, 1) := by decide +kernel
theorem dX9_best_103 : decode cX9_best 103 = .ok (.iadd, 1) := by decide +kernel
theorem dX9_best_104 : decode cX9_best 104 = .ok (.iload 9, 2) := by decide +kernel
theorem dX9_best_106 : decode cX9_best 106 = .ok (.iastore, 1) := by decide +kernel
theorem dX9_best_107 : decode cX9_best 107 = .ok (.aload_n 0, 1) := by decide +kernel
theorem dX9_best_108 : decode cX9_best 108 = .ok (.invokevirtual 259, 3) := by decide +kernel
theorem dX9_best_111 : decode cX9_best 111 = .ok (.iload 9, 2) := by decide +kernel
theorem dX9_best_113 : decode cX9_best 113 = .ok (.iload_n 2, 1) := by decide +kernel
theorem dX9_best_114 : decode cX9_best 114 = .ok (.if_icmp .eq 21, 3) := by decide +kernel
theorem dX9_best_117 : decode cX9_best 117 = .ok (.aload_n 0, 1) := by decide +kernel
theorem dX9_best_118 : decode cX9_best 118 = .ok (.getfield 251, 3) := by decide +kernel
theorem dX9_best_121 : decode cX9_best 121 = .ok (.aload_n 0, 1) := by decide +kernel
theorem dX9_best_122 : decode cX9_best 122 = .ok (.getfield 254, 3) := by decide +kernel
theorem dX9_best_125 : decode cX9_best 125 = .ok (.lload 5, 2) := by decide +kernel
theorem dX9_best_127 : decode cX9_best 127 = .ok (.lload 7, 2) := by decide +kernel
theorem dX9_best_129 : decode cX9_best 129 = .ok (.invokestatic 228, 3) := by decide +kernel
theorem dX9_best_132 : decode cX9_best 132 = .ok (.ifCond .eq 19, 3) := by decide +kernel
theorem dX9_best_135 : decode cX9_best 135 = .ok (.iload 9, 2) := by decide +kernel
theorem dX9_best_137 : decode cX9_best 137 = .ok (.istore 4, 2) := by decide +kernel
theorem dX9_best_139 : decode cX9_best 139 = .ok (.aload_n 0, 1) := by decide +kernel
theorem dX9_best_140 : decode cX9_best 140 = .ok (.getfield 251, 3) := by decide +kernel
theorem dX9_best_143 : decode cX9_best 143 = .ok (.lstore 5, 2) := by decide +kernel
theorem dX9_best_145 : decode cX9_best 145 = .ok (.aload_n 0, 1) := by decide +kernel
theorem dX9_best_146 : decode cX9_best 146 = .ok (.getfield 254, 3) := by decide +kernel
theorem dX9_best_149 : decode cX9_best 149 = .ok (.lstore 7, 2) := by decide +kernel
theorem dX9_best_151 : decode cX9_best 151 = .ok (.iinc 9 1, 3) := by decide +kernel
theorem dX9_best_154 : decode cX9_best 154 = .ok (.goto (-63), 3) := by decide +kernel
theorem dX9_best_157 : decode cX9_best 157 = .ok (.aload_n 0, 1) := by decide +kernel
theorem dX9_best_158 : decode cX9_best 158 = .ok (.invokevirtual 275, 3) := by decide +kernel
theorem dX9_best_161 : decode cX9_best 161 = .ok (.iload 4, 2) := by decide +kernel
theorem dX9_best_163 : decode cX9_best 163 = .ok (.ireturn, 1) := by decide +kernel
theorem dX9_hinged_0 : decode cX9_hinged 0 = .ok (.iload_n 1, 1) := by decide +kernel
theorem dX9_hinged_1 : decode cX9_hinged 1 = .ok (.i2l, 1) := by decide +kernel
theorem dX9_hinged_2 : decode cX9_hinged 2 = .ok (.lconst 1, 1) := by decide +kernel
theorem dX9_hinged_3 : decode cX9_hinged 3 = .ok (.aload_n 0, 1) := by decide +kernel
theorem dX9_hinged_4 : decode cX9_hinged 4 = .ok (.getfield 11, 3) := by decide +kernel
theorem dX9_hinged_7 : decode cX9_hinged 7 = .ok (.iconst 1, 1) := by decide +kernel
theorem dX9_hinged_8 : decode cX9_hinged 8 = .ok (.iaload, 1) := by decide +kernel
theorem dX9_hinged_9 : decode cX9_hinged 9 = .ok (.iconst 2, 1) := by decide +kernel
theorem dX9_hinged_10 : decode cX9_hinged 10 = .ok (.isub, 1) := by decide +kernel
theorem dX9_hinged_11 : decode cX9_hinged 11 = .ok (.i2l, 1) := by decide +kernel
theorem dX9_hinged_12 : decode cX9_hinged 12 = .ok (.invokestatic 82, 3) := by decide +kernel
theorem dX9_hinged_15 : decode cX9_hinged 15 = .ok (.ifCond .eq 26, 3) := by decide +kernel
theorem dX9_hinged_18 : decode cX9_hinged 18 = .ok (.aload_n 0, 1) := by decide +kernel
theorem dX9_hinged_19 : decode cX9_hinged 19 = .ok (.getfield 11, 3) := by decide +kernel
theorem dX9_hinged_22 : decode cX9_hinged 22 = .ok (.bipush 6, 2) := by decide +kernel
theorem dX9_hinged_24 : decode cX9_hinged 24 = .ok (.iload_n 1, 1) := by decide +kernel
theorem dX9_hinged_25 : decode cX9_hinged 25 = .ok (.iadd, 1) := by decide +kernel
theorem dX9_hinged_26 : decode cX9_hinged 26 = .ok (.iaload, 1) := by decide +kernel
theorem dX9_hinged_27 : decode cX9_hinged 27 = .ok (.iconst 1, 1) := by decide +kernel
theorem dX9_hinged_28 : decode cX9_hinged 28 = .ok (.if_icmp .eq 13, 3) := by decide +kernel
theorem dX9_hinged_31 : decode cX9_hinged 31 = .ok (.iload_n 2, 1) := by decide +kernel
theorem dX9_hinged_32 : decode cX9_hinged 32 = .ok (.i2l, 1) := by decide +kernel
theorem dX9_hinged_33 : decode cX9_hinged 33 = .ok (.lconst 0, 1) := by decide +kernel
theorem dX9_hinged_34 : decode cX9_hinged 34 = .ok (.lconst 1, 1) := by decide +kernel
theorem dX9_hinged_35 : decode cX9_hinged 35 = .ok (.invokestatic 82, 3) := by decide +kernel
theorem dX9_hinged_38 : decode cX9_hinged 38 = .ok (.ifCond .ne 7, 3) := by decide +kernel
theorem dX9_hinged_41 : decode cX9_hinged 41 = .ok (.ldc2_w 200, 3) := by decide +kernel
theorem dX9_hinged_44 : decode cX9_hinged 44 = .ok (.lreturn, 1) := by decide +kernel
theorem dX9_hinged_45 : decode cX9_hinged 45 = .ok (.aload_n 0, 1) := by decide +kernel
theorem dX9_hinged_46 : decode cX9_hinged 46 = .ok (.getfield 11, 3) := by decide +kernel
theorem dX9_hinged_49 : decode cX9_hinged 49 = .ok (.bipush 6, 2) := by decide +kernel
theorem dX9_hinged_51 : decode cX9_hinged 51 = .ok (.iload_n 1, 1) := by decide +kernel
theorem dX9_hinged_52 : decode cX9_hinged 52 = .ok (.iadd, 1) := by decide +kernel
theorem dX9_hinged_53 : decode cX9_hinged 53 = .ok (.iconst 1, 1) := by decide +kernel
theorem dX9_hinged_54 : decode cX9_hinged 54 = .ok (.iastore, 1) := by decide +kernel
theorem dX9_hinged_55 : decode cX9_hinged 55 = .ok (.aload_n 0, 1) := by decide +kernel
theorem dX9_hinged_56 : decode cX9_hinged 56 = .ok (.invokevirtual 259, 3) := by decide +kernel
theorem dX9_hinged_59 : decode cX9_hinged 59 = .ok (.aload_n 0, 1) := by decide +kernel
theorem dX9_hinged_60 : decode cX9_hinged 60 = .ok (.getfield 11, 3) := by decide +kernel
theorem dX9_hinged_63 : decode cX9_hinged 63 = .ok (.bipush 6, 2) := by decide +kernel
theorem dX9_hinged_65 : decode cX9_hinged 65 = .ok (.iload_n 1, 1) := by decide +kernel
theorem dX9_hinged_66 : decode cX9_hinged 66 = .ok (.iadd, 1) := by decide +kernel
theorem dX9_hinged_67 : decode cX9_hinged 67 = .ok (.iconst 0, 1) := by decide +kernel
theorem dX9_hinged_68 : decode cX9_hinged 68 = .ok (.iastore, 1) := by decide +kernel
theorem dX9_hinged_69 : decode cX9_hinged 69 = .ok (.iload_n 2, 1) := by decide +kernel
theorem dX9_hinged_70 : decode cX9_hinged 70 = .ok (.ifCond .ne 10, 3) := by decide +kernel
theorem dX9_hinged_73 : decode cX9_hinged 73 = .ok (.aload_n 0, 1) := by decide +kernel
theorem dX9_hinged_74 : decode cX9_hinged 74 = .ok (.getfield 251, 3) := by decide +kernel
theorem dX9_hinged_77 : decode cX9_hinged 77 = .ok (.goto 7, 3) := by decide +kernel
theorem dX9_hinged_80 : decode cX9_hinged 80 = .ok (.aload_n 0, 1) := by decide +kernel
theorem dX9_hinged_81 : decode cX9_hinged 81 = .ok (.getfield 254, 3) := by decide +kernel
theorem dX9_hinged_84 : decode cX9_hinged 84 = .ok (.lreturn, 1) := by decide +kernel
theorem dX9_feed_0 : decode cX9_feed 0 = .ok (.iload_n 1, 1) := by decide +kernel
theorem dX9_feed_1 : decode cX9_feed 1 = .ok (.i2l, 1) := by decide +kernel
theorem dX9_feed_2 : decode cX9_feed 2 = .ok (.lconst 1, 1) := by decide +kernel
theorem dX9_feed_3 : decode cX9_feed 3 = .ok (.ldc2_w 286, 3) := by decide +kernel
theorem dX9_feed_6 : decode cX9_feed 6 = .ok (.invokestatic 82, 3) := by decide +kernel
theorem dX9_feed_9 : decode cX9_feed 9 = .ok (.ifCond .ne 5, 3) := by decide +kernel
theorem dX9_feed_12 : decode cX9_feed 12 = .ok (.iconst (-1), 1) := by decide +kernel
theorem dX9_feed_13 : decode cX9_feed 13 = .ok (.ireturn, 1) := by decide +kernel
theorem dX9_feed_14 : decode cX9_feed 14 = .ok (.aload_n 0, 1) := by decide +kernel
theorem dX9_feed_15 : decode cX9_feed 15 = .ok (.getfield 116, 3) := by decide +kernel
theorem dX9_feed_18 : decode cX9_feed 18 = .ok (.bipush 120, 2) := by decide +kernel
theorem dX9_feed_20 : decode cX9_feed 20 = .ok (.if_icmp .ne 6, 3) := by decide +kernel
theorem dX9_feed_23 : decode cX9_feed 23 = .ok (.bipush (-3), 2) := by decide +kernel
theorem dX9_feed_25 : decode cX9_feed 25 = .ok (.ireturn, 1) := by decide +kernel
theorem dX9_feed_26 : decode cX9_feed 26 = .ok (.aload_n 0, 1) := by decide +kernel
theorem dX9_feed_27 : decode cX9_feed 27 = .ok (.getfield 50, 3) := by decide +kernel
theorem dX9_feed_30 : decode cX9_feed 30 = .ok (.aload_n 0, 1) := by decide +kernel
theorem dX9_feed_31 : decode cX9_feed 31 = .ok (.getfield 116, 3) := by decide +kernel
theorem dX9_feed_34 : decode cX9_feed 34 = .ok (.iload_n 1, 1) := by decide +kernel
theorem dX9_feed_35 : decode cX9_feed 35 = .ok (.iastore, 1) := by decide +kernel
theorem dX9_feed_36 : decode cX9_feed 36 = .ok (.aload_n 0, 1) := by decide +kernel
theorem dX9_feed_37 : decode cX9_feed 37 = .ok (.dup, 1) := by decide +kernel
theorem dX9_feed_38 : decode cX9_feed 38 = .ok (.getfield 116, 3) := by decide +kernel
theorem dX9_feed_41 : decode cX9_feed 41 = .ok (.iconst 1, 1) := by decide +kernel
theorem dX9_feed_42 : decode cX9_feed 42 = .ok (.iadd, 1) := by decide +kernel
theorem dX9_feed_43 : decode cX9_feed 43 = .ok (.putfield 116, 3) := by decide +kernel
theorem dX9_feed_46 : decode cX9_feed 46 = .ok (.aload_n 0, 1) := by decide +kernel
theorem dX9_feed_47 : decode cX9_feed 47 = .ok (.getfield 116, 3) := by decide +kernel
theorem dX9_feed_50 : decode cX9_feed 50 = .ok (.ireturn, 1) := by decide +kernel
theorem dX9_here_0 : decode cX9_here 0 = .ok (.aload_n 0, 1) := by decide +kernel
theorem dX9_here_1 : decode cX9_here 1 = .ok (.getfield 288, 3) := by decide +kernel
theorem dX9_here_4 : decode cX9_here 4 = .ok (.aload_n 0, 1) := by decide +kernel
theorem dX9_here_5 : decode cX9_here 5 = .ok (.getfield 116, 3) := by decide +kernel
theorem dX9_here_8 : decode cX9_here 8 = .ok (.if_icmp .ge 15, 3) := by decide +kernel
theorem dX9_here_11 : decode cX9_here 11 = .ok (.aload_n 0, 1) := by decide +kernel
theorem dX9_here_12 : decode cX9_here 12 = .ok (.getfield 50, 3) := by decide +kernel
theorem dX9_here_15 : decode cX9_here 15 = .ok (.aload_n 0, 1) := by decide +kernel
theorem dX9_here_16 : decode cX9_here 16 = .ok (.getfield 288, 3) := by decide +kernel
theorem dX9_here_19 : decode cX9_here 19 = .ok (.iaload, 1) := by decide +kernel
theorem dX9_here_20 : decode cX9_here 20 = .ok (.goto 4, 3) := by decide +kernel
theorem dX9_here_23 : decode cX9_here 23 = .ok (.iconst (-1), 1) := by decide +kernel
theorem dX9_here_24 : decode cX9_here 24 = .ok (.ireturn, 1) := by decide +kernel
theorem dX9_word_0 : decode cX9_word 0 = .ok (.aload_n 0, 1) := by decide +kernel
theorem dX9_word_1 : decode cX9_word 1 = .ok (.getfield 288, 3) := by decide +kernel
theorem dX9_word_4 : decode cX9_word 4 = .ok (.istore_n 1, 1) := by decide +kernel
theorem dX9_word_5 : decode cX9_word 5 = .ok (.iload_n 1, 1) := by decide +kernel
theorem dX9_word_6 : decode cX9_word 6 = .ok (.aload_n 0, 1) := by decide +kernel
theorem dX9_word_7 : decode cX9_word 7 = .ok (.getfield 116, 3) := by decide +kernel
theorem dX9_word_10 : decode cX9_word 10 = .ok (.if_icmp .ge 28, 3) := by decide +kernel
theorem dX9_word_13 : decode cX9_word 13 = .ok (.aload_n 0, 1) := by decide +kernel
theorem dX9_word_14 : decode cX9_word 14 = .ok (.getfield 50, 3) := by decide +kernel
theorem dX9_word_17 : decode cX9_word 17 = .ok (.iload_n 1, 1) := by decide +kernel
theorem dX9_word_18 : decode cX9_word 18 = .ok (.iaload, 1) := by decide +kernel
theorem dX9_word_19 : decode cX9_word 19 = .ok (.i2l, 1) := by decide +kernel
theorem dX9_word_20 : decode cX9_word 20 = .ok (.ldc2_w 291, 3) := by decide +kernel
theorem dX9_word_23 : decode cX9_word 23 = .ok (.ldc2_w 293, 3) := by decide +kernel
theorem dX9_word_26 : decode cX9_word 26 = .ok (.invokestatic 82, 3) := by decide +kernel
theorem dX9_word_29 : decode cX9_word 29 = .ok (.ifCond .eq 9, 3) := by decide +kernel
theorem dX9_word_32 : decode cX9_word 32 = .ok (.iinc 1 1, 3) := by decide +kernel
theorem dX9_word_35 : decode cX9_word 35 = .ok (.goto (-30), 3) := by decide +kernel
theorem dX9_word_38 : decode cX9_word 38 = .ok (.iconst 0, 1) := by decide +kernel
theorem dX9_word_39 : decode cX9_word 39 = .ok (.istore_n 2, 1) := by decide +kernel
theorem dX9_word_40 : decode cX9_word 40 = .ok (.iload_n 2, 1) := by decide +kernel
theorem dX9_word_41 : decode cX9_word 41 = .ok (.bipush 6, 2) := by decide +kernel
theorem dX9_word_43 : decode cX9_word 43 = .ok (.if_icmp .ge 109, 3) := by decide +kernel
theorem dX9_word_46 : decode cX9_word 46 = .ok (.iload_n 1, 1) := by decide +kernel
theorem dX9_word_47 : decode cX9_word 47 = .ok (.aload_n 0, 1) := by decide +kernel
theorem dX9_word_48 : decode cX9_word 48 = .ok (.getfield 288, 3) := by decide +kernel
theorem dX9_word_51 : decode cX9_word 51 = .ok (.isub, 1) := by decide +kernel
theorem dX9_word_52 : decode cX9_word 52 = .ok (.aload_n 0, 1) := by decide +kernel
theorem dX9_word_53 : decode cX9_word 53 = .ok (.getfield 57, 3) := by decide +kernel
theorem dX9_word_56 : decode cX9_word 56 = .ok (.iload_n 2, 1) := by decide +kernel
theorem dX9_word_57 : decode cX9_word 57 = .ok (.iconst 1, 1) := by decide +kernel
theorem dX9_word_58 : decode cX9_word 58 = .ok (.iadd, 1) := by decide +kernel
theorem dX9_word_59 : decode cX9_word 59 = .ok (.iaload, 1) := by decide +kernel
theorem dX9_word_60 : decode cX9_word 60 = .ok (.aload_n 0, 1) := by decide +kernel
theorem dX9_word_61 : decode cX9_word 61 = .ok (.getfield 57, 3) := by decide +kernel
theorem dX9_word_64 : decode cX9_word 64 = .ok (.iload_n 2, 1) := by decide +kernel
theorem dX9_word_65 : decode cX9_word 65 = .ok (.iaload, 1) := by decide +kernel
theorem dX9_word_66 : decode cX9_word 66 = .ok (.isub, 1) := by decide +kernel
theorem dX9_word_67 : decode cX9_word 67 = .ok (.if_icmp .ne 7, 3) := by decide +kernel
theorem dX9_word_70 : decode cX9_word 70 = .ok (.iconst 1, 1) := by decide +kernel
theorem dX9_word_71 : decode cX9_word 71 = .ok (.goto 4, 3) := by decide +kernel
theorem dX9_word_74 : decode cX9_word 74 = .ok (.iconst 0, 1) := by decide +kernel
theorem dX9_word_75 : decode cX9_word 75 = .ok (.istore_n 3, 1) := by decide +kernel
theorem dX9_word_76 : decode cX9_word 76 = .ok (.iconst 0, 1) := by decide +kernel
theorem dX9_word_77 : decode cX9_word 77 = .ok (.istore 4, 2) := by decide +kernel
theorem dX9_word_79 : decode cX9_word 79 = .ok (.iload 4, 2) := by decide +kernel
theorem dX9_word_81 : decode cX9_word 81 = .ok (.iload_n 1, 1) := by decide +kernel
theorem dX9_word_82 : decode cX9_word 82 = .ok (.aload_n 0, 1) := by decide +kernel
theorem dX9_word_83 : decode cX9_word 83 = .ok (.getfield 288, 3) := by decide +kernel
theorem dX9_word_86 : decode cX9_word 86 = .ok (.isub, 1) := by decide +kernel
theorem dX9_word_87 : decode cX9_word 87 = .ok (.if_icmp .ge 48, 3) := by decide +kernel
theorem dX9_word_90 : decode cX9_word 90 = .ok (.iload_n 3, 1) := by decide +kernel
theorem dX9_word_91 : decode cX9_word 91 = .ok (.ifCond .eq 44, 3) := by decide +kernel
theorem dX9_word_94 : decode cX9_word 94 = .ok (.aload_n 0, 1) := by decide +kernel
theorem dX9_word_95 : decode cX9_word 95 = .ok (.getfield 50, 3) := by decide +kernel
theorem dX9_word_98 : decode cX9_word 98 = .ok (.aload_n 0, 1) := by decide +kernel
theorem dX9_word_99 : decode cX9_word 99 = .ok (.getfield 288, 3) := by decide +kernel
theorem dX9_word_102 : decode cX9_word 102 = .ok (.iload 4, 2) := by decide +kernel
theorem dX9_word_104 : decode cX9_word 104 = .ok (.iadd, 1) := by decide +kernel
theorem dX9_word_105 : decode cX9_word 105 = .ok (.iaload, 1) := by decide +kernel
theorem dX9_word_106 : decode cX9_word 106 = .ok (.aload_n 0, 1) := by decide +kernel
theorem dX9_word_107 : decode cX9_word 107 = .ok (.getfield 53, 3) := by decide +kernel
theorem dX9_word_110 : decode cX9_word 110 = .ok (.aload_n 0, 1) := by decide +kernel
theorem dX9_word_111 : decode cX9_word 111 = .ok (.getfield 57, 3) := by decide +kernel
theorem dX9_word_114 : decode cX9_word 114 = .ok (.iload_n 2, 1) := by decide +kernel
theorem dX9_word_115 : decode cX9_word 115 = .ok (.iaload, 1) := by decide +kernel
theorem dX9_word_116 : decode cX9_word 116 = .ok (.iload 4, 2) := by decide +kernel
theorem dX9_word_118 : decode cX9_word 118 = .ok (.iadd, 1) := by decide +kernel
theorem dX9_word_119 : decode cX9_word 119 = .ok (.caload, 1) := by decide +kernel
theorem dX9_word_120 : decode cX9_word 120 = .ok (.if_icmp .ne 7, 3) := by decide +kernel
theorem dX9_word_123 : decode cX9_word 123 = .ok (.iconst 1, 1) := by decide +kernel
theorem dX9_word_124 : decode cX9_word 124 = .ok (.goto 4, 3) := by decide +kernel
theorem dX9_word_127 : decode cX9_word 127 = .ok (.iconst 0, 1) := by decide +kernel
theorem dX9_word_128 : decode cX9_word 128 = .ok (.istore_n 3, 1) := by decide +kernel
theorem dX9_word_129 : decode cX9_word 129 = .ok (.iinc 4 1, 3) := by decide +kernel
theorem dX9_word_132 : decode cX9_word 132 = .ok (.goto (-53), 3) := by decide +kernel
theorem dX9_word_135 : decode cX9_word 135 = .ok (.iload_n 3, 1) := by decide +kernel
theorem dX9_word_136 : decode cX9_word 136 = .ok (.ifCond .eq 10, 3) := by decide +kernel
theorem dX9_word_139 : decode cX9_word 139 = .ok (.aload_n 0, 1) := by decide +kernel
theorem dX9_word_140 : decode cX9_word 140 = .ok (.iload_n 1, 1) := by decide +kernel
theorem dX9_word_141 : decode cX9_word 141 = .ok (.putfield 288, 3) := by decide +kernel
theorem dX9_word_144 : decode cX9_word 144 = .ok (.iload_n 2, 1) := by decide +kernel
theorem dX9_word_145 : decode cX9_word 145 = .ok (.ireturn, 1) := by decide +kernel
theorem dX9_word_146 : decode cX9_word 146 = .ok (.iinc 2 1, 3) := by decide +kernel
theorem dX9_word_149 : decode cX9_word 149 = .ok (.goto (-109), 3) := by decide +kernel
theorem dX9_word_152 : decode cX9_word 152 = .ok (.iconst (-1), 1) := by decide +kernel
theorem dX9_word_153 : decode cX9_word 153 = .ok (.ireturn, 1) := by decide +kernel
theorem dX9_takes_0 : decode cX9_takes 0 = .ok (.aload_n 0, 1) := by decide +kernel
theorem dX9_takes_1 : decode cX9_takes 1 = .ok (.invokevirtual 295, 3) := by decide +kernel
theorem dX9_takes_4 : decode cX9_takes 4 = .ok (.bipush 32, 2) := by decide +kernel
theorem dX9_takes_6 : decode cX9_takes 6 = .ok (.if_icmp .eq 5, 3) := by decide +kernel
theorem dX9_takes_9 : decode cX9_takes 9 = .ok (.iconst 0, 1) := by decide +kernel
theorem dX9_takes_10 : decode cX9_takes 10 = .ok (.ireturn, 1) := by decide +kernel
theorem dX9_takes_11 : decode cX9_takes 11 = .ok (.aload_n 0, 1) := by decide +kernel
theorem dX9_takes_12 : decode cX9_takes 12 = .ok (.dup, 1) := by decide +kernel
theorem dX9_takes_13 : decode cX9_takes 13 = .ok (.getfield 288, 3) := by decide +kernel
theorem dX9_takes_16 : decode cX9_takes 16 = .ok (.iconst 1, 1) := by decide +kernel
theorem dX9_takes_17 : decode cX9_takes 17 = .ok (.iadd, 1) := by decide +kernel
theorem dX9_takes_18 : decode cX9_takes 18 = .ok (.putfield 288, 3) := by decide +kernel
theorem dX9_takes_21 : decode cX9_takes 21 = .ok (.iload_n 2, 1) := by decide +kernel
theorem dX9_takes_22 : decode cX9_takes 22 = .ok (.ifCond .eq 16, 3) := by decide +kernel
theorem dX9_takes_25 : decode cX9_takes 25 = .ok (.aload_n 0, 1) := by decide +kernel
theorem dX9_takes_26 : decode cX9_takes 26 = .ok (.invokevirtual 295, 3) := by decide +kernel
theorem dX9_takes_29 : decode cX9_takes 29 = .ok (.bipush 45, 2) := by decide +kernel
theorem dX9_takes_31 : decode cX9_takes 31 = .ok (.if_icmp .ne 7, 3) := by decide +kernel
theorem dX9_takes_34 : decode cX9_takes 34 = .ok (.iconst 1, 1) := by decide +kernel
theorem dX9_takes_35 : decode cX9_takes 35 = .ok (.goto 4, 3) := by decide +kernel
theorem dX9_takes_38 : decode cX9_takes 38 = .ok (.iconst 0, 1) := by decide +kernel
theorem dX9_takes_39 : decode cX9_takes 39 = .ok (.istore_n 3, 1) := by decide +kernel
theorem dX9_takes_40 : decode cX9_takes 40 = .ok (.aload_n 0, 1) := by decide +kernel
theorem dX9_takes_41 : decode cX9_takes 41 = .ok (.dup, 1) := by decide +kernel
theorem dX9_takes_42 : decode cX9_takes 42 = .ok (.getfield 288, 3) := by decide +kernel
theorem dX9_takes_45 : decode cX9_takes 45 = .ok (.iload_n 3, 1) := by decide +kernel
theorem dX9_takes_46 : decode cX9_takes 46 = .ok (.ifCond .eq 7, 3) := by decide +kernel
theorem dX9_takes_49 : decode cX9_takes 49 = .ok (.iconst 1, 1) := by decide +kernel
theorem dX9_takes_50 : decode cX9_takes 50 = .ok (.goto 4, 3) := by decide +kernel
theorem dX9_takes_53 : decode cX9_takes 53 = .ok (.iconst 0, 1) := by decide +kernel
theorem dX9_takes_54 : decode cX9_takes 54 = .ok (.iadd, 1) := by decide +kernel
theorem dX9_takes_55 : decode cX9_takes 55 = .ok (.putfield 288, 3) := by decide +kernel
theorem dX9_takes_58 : decode cX9_takes 58 = .ok (.iconst 0, 1) := by decide +kernel
theorem dX9_takes_59 : decode cX9_takes 59 = .ok (.istore 4, 2) := by decide +kernel
theorem dX9_takes_61 : decode cX9_takes 61 = .ok (.iconst 0, 1) := by decide +kernel
theorem dX9_takes_62 : decode cX9_takes 62 = .ok (.istore 5, 2) := by decide +kernel
theorem dX9_takes_64 : decode cX9_takes 64 = .ok (.iload 4, 2) := by decide +kernel
theorem dX9_takes_66 : decode cX9_takes 66 = .ok (.iconst 2, 1) := by decide +kernel
theorem dX9_takes_67 : decode cX9_takes 67 = .ok (.if_icmp .ge 51, 3) := by decide +kernel
theorem dX9_takes_70 : decode cX9_takes 70 = .ok (.aload_n 0, 1) := by decide +kernel
theorem dX9_takes_71 : decode cX9_takes 71 = .ok (.invokevirtual 295, 3) := by decide +kernel
theorem dX9_takes_74 : decode cX9_takes 74 = .ok (.i2l, 1) := by decide +kernel
theorem dX9_takes_75 : decode cX9_takes 75 = .ok (.ldc2_w 298, 3) := by decide +kernel
theorem dX9_takes_78 : decode cX9_takes 78 = .ok (.ldc2_w 300, 3) := by decide +kernel
theorem dX9_takes_81 : decode cX9_takes 81 = .ok (.invokestatic 82, 3) := by decide +kernel
theorem dX9_takes_84 : decode cX9_takes 84 = .ok (.ifCond .eq 34, 3) := by decide +kernel
theorem dX9_takes_87 : decode cX9_takes 87 = .ok (.bipush 10, 2) := by decide +kernel
theorem dX9_takes_89 : decode cX9_takes 89 = .ok (.iload 5, 2) := by decide +kernel
theorem dX9_takes_91 : decode cX9_takes 91 = .ok (.imul, 1) := by decide +kernel
theorem dX9_takes_92 : decode cX9_takes 92 = .ok (.aload_n 0, 1) := by decide +kernel
theorem dX9_takes_93 : decode cX9_takes 93 = .ok (.invokevirtual 295, 3) := by decide +kernel
theorem dX9_takes_96 : decode cX9_takes 96 = .ok (.iadd, 1) := by decide +kernel
theorem dX9_takes_97 : decode cX9_takes 97 = .ok (.bipush 48, 2) := by decide +kernel
theorem dX9_takes_99 : decode cX9_takes 99 = .ok (.isub, 1) := by decide +kernel
theorem dX9_takes_100 : decode cX9_takes 100 = .ok (.istore 5, 2) := by decide +kernel
theorem dX9_takes_102 : decode cX9_takes 102 = .ok (.iinc 4 1, 3) := by decide +kernel
theorem dX9_takes_105 : decode cX9_takes 105 = .ok (.aload_n 0, 1) := by decide +kernel
theorem dX9_takes_106 : decode cX9_takes 106 = .ok (.dup, 1) := by decide +kernel
theorem dX9_takes_107 : decode cX9_takes 107 = .ok (.getfield 288, 3) := by decide +kernel
theorem dX9_takes_110 : decode cX9_takes 110 = .ok (.iconst 1, 1) := by decide +kernel
theorem dX9_takes_111 : decode cX9_takes 111 = .ok (.iadd, 1) := by decide +kernel
theorem dX9_takes_112 : decode cX9_takes 112 = .ok (.putfield 288, 3) := by decide +kernel
theorem dX9_takes_115 : decode cX9_takes 115 = .ok (.goto (-51), 3) := by decide +kernel
theorem dX9_takes_118 : decode cX9_takes 118 = .ok (.aload_n 0, 1) := by decide +kernel
theorem dX9_takes_119 : decode cX9_takes 119 = .ok (.getfield 63, 3) := by decide +kernel
theorem dX9_takes_122 : decode cX9_takes 122 = .ok (.iload_n 1, 1) := by decide +kernel
theorem dX9_takes_123 : decode cX9_takes 123 = .ok (.iload_n 3, 1) := by decide +kernel
theorem dX9_takes_124 : decode cX9_takes 124 = .ok (.ifCond .eq 9, 3) := by decide +kernel
theorem dX9_takes_127 : decode cX9_takes 127 = .ok (.iload 5, 2) := by decide +kernel
theorem dX9_takes_129 : decode cX9_takes 129 = .ok (.ineg, 1) := by decide +kernel
theorem dX9_takes_130 : decode cX9_takes 130 = .ok (.goto 5, 3) := by decide +kernel
theorem dX9_takes_133 : decode cX9_takes 133 = .ok (.iload 5, 2) := by decide +kernel
theorem dX9_takes_135 : decode cX9_takes 135 = .ok (.iastore, 1) := by decide +kernel
theorem dX9_takes_136 : decode cX9_takes 136 = .ok (.iload 4, 2) := by decide +kernel
theorem dX9_takes_138 : decode cX9_takes 138 = .ok (.ifCond .le 7, 3) := by decide +kernel
theorem dX9_takes_141 : decode cX9_takes 141 = .ok (.iconst 1, 1) := by decide +kernel
theorem dX9_takes_142 : decode cX9_takes 142 = .ok (.goto 4, 3) := by decide +kernel
theorem dX9_takes_145 : decode cX9_takes 145 = .ok (.iconst 0, 1) := by decide +kernel
theorem dX9_takes_146 : decode cX9_takes 146 = .ok (.ireturn, 1) := by decide +kernel
theorem dX9_does_0 : decode cX9_does 0 = .ok (.aload_n 0, 1) := by decide +kernel
theorem dX9_does_1 : decode cX9_does 1 = .ok (.getfield 63, 3) := by decide +kernel
theorem dX9_does_4 : decode cX9_does 4 = .ok (.iconst 0, 1) := by decide +kernel
theorem dX9_does_5 : decode cX9_does 5 = .ok (.iaload, 1) := by decide +kernel
theorem dX9_does_6 : decode cX9_does 6 = .ok (.istore_n 2, 1) := by decide +kernel
theorem dX9_does_7 : decode cX9_does 7 = .ok (.aload_n 0, 1) := by decide +kernel
theorem dX9_does_8 : decode cX9_does 8 = .ok (.getfield 63, 3) := by decide +kernel
theorem dX9_does_11 : decode cX9_does 11 = .ok (.iconst 1, 1) := by decide +kernel
theorem dX9_does_12 : decode cX9_does 12 = .ok (.iaload, 1) := by decide +kernel
theorem dX9_does_13 : decode cX9_does 13 = .ok (.istore_n 3, 1) := by decide +kernel
theorem dX9_does_14 : decode cX9_does 14 = .ok (.iload_n 1, 1) := by decide +kernel
theorem dX9_does_15 : decode cX9_does 15 = .ok (.tableswitch 72 0 4 #[33, 39, 45, 52, 59], 33) := by decide +kernel
theorem dX9_does_48 : decode cX9_does 48 = .ok (.aload_n 0, 1) := by decide +kernel
theorem dX9_does_49 : decode cX9_does 49 = .ok (.iload_n 2, 1) := by decide +kernel
theorem dX9_does_50 : decode cX9_does 50 = .ok (.invokevirtual 302, 3) := by decide +kernel
theorem dX9_does_53 : decode cX9_does 53 = .ok (.ireturn, 1) := by decide +kernel
theorem dX9_does_54 : decode cX9_does 54 = .ok (.aload_n 0, 1) := by decide +kernel
theorem dX9_does_55 : decode cX9_does 55 = .ok (.iload_n 2, 1) := by decide +kernel
theorem dX9_does_56 : decode cX9_does 56 = .ok (.invokevirtual 305, 3) := by decide +kernel
theorem dX9_does_59 : decode cX9_does 59 = .ok (.ireturn, 1) := by decide +kernel
theorem dX9_does_60 : decode cX9_does 60 = .ok (.aload_n 0, 1) := by decide +kernel
theorem dX9_does_61 : decode cX9_does 61 = .ok (.iload_n 2, 1) := by decide +kernel
theorem dX9_does_62 : decode cX9_does 62 = .ok (.iconst 1, 1) := by decide +kernel
theorem dX9_does_63 : decode cX9_does 63 = .ok (.invokevirtual 308, 3) := by decide +kernel
theorem dX9_does_66 : decode cX9_does 66 = .ok (.ireturn, 1) := by decide +kernel
theorem dX9_does_67 : decode cX9_does 67 = .ok (.aload_n 0, 1) := by decide +kernel
theorem dX9_does_68 : decode cX9_does 68 = .ok (.iload_n 2, 1) := by decide +kernel
theorem dX9_does_69 : decode cX9_does 69 = .ok (.iload_n 3, 1) := by decide +kernel
theorem dX9_does_70 : decode cX9_does 70 = .ok (.invokevirtual 311, 3) := by decide +kernel
theorem dX9_does_73 : decode cX9_does 73 = .ok (.ireturn, 1) := by decide +kernel
theorem dX9_does_74 : decode cX9_does 74 = .ok (.aload_n 0, 1) := by decide +kernel
theorem dX9_does_75 : decode cX9_does 75 = .ok (.iload_n 2, 1) := by decide +kernel
theorem dX9_does_76 : decode cX9_does 76 = .ok (.iload_n 3, 1) := by decide +kernel
theorem dX9_does_77 : decode cX9_does 77 = .ok (.aload_n 0, 1) := by decide +kernel
theorem dX9_does_78 : decode cX9_does 78 = .ok (.getfield 63, 3) := by decide +kernel
theorem dX9_does_81 : decode cX9_does 81 = .ok (.iconst 2, 1) := by decide +kernel
theorem dX9_does_82 : decode cX9_does 82 = .ok (.iaload, 1) := by decide +kernel
theorem dX9_does_83 : decode cX9_does 83 = .ok (.invokevirtual 314, 3) := by decide +kernel
theorem dX9_does_86 : decode cX9_does 86 = .ok (.ireturn, 1) := by decide +kernel
theorem dX9_does_87 : decode cX9_does 87 = .ok (.aload_n 0, 1) := by decide +kernel
theorem dX9_does_88 : decode cX9_does 88 = .ok (.iload_n 2, 1) := by decide +kernel
theorem dX9_does_89 : decode cX9_does 89 = .ok (.iload_n 3, 1) := by decide +kernel
theorem dX9_does_90 : decode cX9_does 90 = .ok (.invokevirtual 317, 3) := by decide +kernel
theorem dX9_does_93 : decode cX9_does 93 = .ok (.ireturn, 1) := by decide +kernel
theorem dX9_takesOne_0 : decode cX9_takesOne 0 = .ok (.aload_n 0, 1) := by decide +kernel
theorem dX9_takesOne_1 : decode cX9_takesOne 1 = .ok (.getfield 288, 3) := by decide +kernel
theorem dX9_takesOne_4 : decode cX9_takesOne 4 = .ok (.istore_n 1, 1) := by decide +kernel
theorem dX9_takesOne_5 : decode cX9_takesOne 5 = .ok (.aload_n 0, 1) := by decide +kernel
theorem dX9_takesOne_6 : decode cX9_takesOne 6 = .ok (.invokevirtual 320, 3) := by decide +kernel
theorem dX9_takesOne_9 : decode cX9_takesOne 9 = .ok (.istore_n 2, 1) := by decide +kernel
theorem dX9_takesOne_10 : decode cX9_takesOne 10 = .ok (.iload_n 2, 1) := by decide +kernel
theorem dX9_takesOne_11 : decode cX9_takesOne 11 = .ok (.ifCond .ge 5, 3) := by decide +kernel
theorem dX9_takesOne_14 : decode cX9_takesOne 14 = .ok (.iconst 0, 1) := by decide +kernel
theorem dX9_takesOne_15 : decode cX9_takesOne 15 = .ok (.ireturn, 1) := by decide +kernel
theorem dX9_takesOne_16 : decode cX9_takesOne 16 = .ok (.iconst 0, 1) := by decide +kernel
theorem dX9_takesOne_17 : decode cX9_takesOne 17 = .ok (.istore_n 3, 1) := by decide +kernel
theorem dX9_takesOne_18 : decode cX9_takesOne 18 = .ok (.iload_n 3, 1) := by decide +kernel
theorem dX9_takesOne_19 : decode cX9_takesOne 19 = .ok (.aload_n 0, 1) := by decide +kernel
theorem dX9_takesOne_20 : decode cX9_takesOne 20 = .ok (.getfield 60, 3) := by decide +kernel
theorem dX9_takesOne_23 : decode cX9_takesOne 23 = .ok (.iload_n 2, 1) := by decide +kernel
theorem dX9_takesOne_24 : decode cX9_takesOne 24 = .ok (.iaload, 1) := by decide +kernel
theorem dX9_takesOne_25 : decode cX9_takesOne 25 = .ok (.if_icmp .ge 44, 3) := by decide +kernel
theorem dX9_takesOne_28 : decode cX9_takesOne 28 = .ok (.aload_n 0, 1) := by decide +kernel
theorem dX9_takesOne_29 : decode cX9_takesOne 29 = .ok (.iload_n 3, 1) := by decide +kernel
theorem dX9_takesOne_30 : decode cX9_takesOne 30 = .ok (.iload_n 2, 1) := by decide +kernel
theorem dX9_takesOne_31 : decode cX9_takesOne 31 = .ok (.iconst 3, 1) := by decide +kernel
theorem dX9_takesOne_32 : decode cX9_takesOne 32 = .ok (.if_icmp .ne 8, 3) := by decide +kernel
theorem dX9_takesOne_35 : decode cX9_takesOne 35 = .ok (.iload_n 3, 1) := by decide +kernel
theorem dX9_takesOne_36 : decode cX9_takesOne 36 = .ok (.iconst 1, 1) := by decide +kernel
theorem dX9_takesOne_37 : decode cX9_takesOne 37 = .ok (.if_icmp .eq 13, 3) := by decide +kernel
theorem dX9_takesOne_40 : decode cX9_takesOne 40 = .ok (.iload_n 2, 1) := by decide +kernel
theorem dX9_takesOne_41 : decode cX9_takesOne 41 = .ok (.iconst 4, 1) := by decide +kernel
theorem dX9_takesOne_42 : decode cX9_takesOne 42 = .ok (.if_icmp .ne 12, 3) := by decide +kernel
theorem dX9_takesOne_45 : decode cX9_takesOne 45 = .ok (.iload_n 3, 1) := by decide +kernel
theorem dX9_takesOne_46 : decode cX9_takesOne 46 = .ok (.iconst 2, 1) := by decide +kernel
theorem dX9_takesOne_47 : decode cX9_takesOne 47 = .ok (.if_icmp .ne 7, 3) := by decide +kernel
theorem dX9_takesOne_50 : decode cX9_takesOne 50 = .ok (.iconst 1, 1) := by decide +kernel
theorem dX9_takesOne_51 : decode cX9_takesOne 51 = .ok (.goto 4, 3) := by decide +kernel
theorem dX9_takesOne_54 : decode cX9_takesOne 54 = .ok (.iconst 0, 1) := by decide +kernel
theorem dX9_takesOne_55 : decode cX9_takesOne 55 = .ok (.invokevirtual 323, 3) := by decide +kernel
theorem dX9_takesOne_58 : decode cX9_takesOne 58 = .ok (.ifCond .ne 5, 3) := by decide +kernel
theorem dX9_takesOne_61 : decode cX9_takesOne 61 = .ok (.iconst 0, 1) := by decide +kernel
theorem dX9_takesOne_62 : decode cX9_takesOne 62 = .ok (.ireturn, 1) := by decide +kernel
theorem dX9_takesOne_63 : decode cX9_takesOne 63 = .ok (.iinc 3 1, 3) := by decide +kernel
theorem dX9_takesOne_66 : decode cX9_takesOne 66 = .ok (.goto (-48), 3) := by decide +kernel
theorem dX9_takesOne_69 : decode cX9_takesOne 69 = .ok (.aload_n 0, 1) := by decide +kernel
theorem dX9_takesOne_70 : decode cX9_takesOne 70 = .ok (.invokevirtual 295, 3) := by decide +kernel
theorem dX9_takesOne_73 : decode cX9_takesOne 73 = .ok (.bipush 59, 2) := by decide +kernel
theorem dX9_takesOne_75 : decode cX9_takesOne 75 = .ok (.if_icmp .eq 16, 3) := by decide +kernel
theorem dX9_takesOne_78 : decode cX9_takesOne 78 = .ok (.aload_n 0, 1) := by decide +kernel
theorem dX9_takesOne_79 : decode cX9_takesOne 79 = .ok (.getfield 288, 3) := by decide +kernel
theorem dX9_takesOne_82 : decode cX9_takesOne 82 = .ok (.aload_n 0, 1) := by decide +kernel
theorem dX9_takesOne_83 : decode cX9_takesOne 83 = .ok (.getfield 116, 3) := by decide +kernel
theorem dX9_takesOne_86 : decode cX9_takesOne 86 = .ok (.if_icmp .ge 5, 3) := by decide +kernel
theorem dX9_takesOne_89 : decode cX9_takesOne 89 = .ok (.iconst 0, 1) := by decide +kernel
theorem dX9_takesOne_90 : decode cX9_takesOne 90 = .ok (.ireturn, 1) := by decide +kernel
theorem dX9_takesOne_91 : decode cX9_takesOne 91 = .ok (.aload_n 0, 1) := by decide +kernel
theorem dX9_takesOne_92 : decode cX9_takesOne 92 = .ok (.getfield 327, 3) := by decide +kernel
theorem dX9_takesOne_95 : decode cX9_takesOne 95 = .ok (.ifCond .ge 16, 3) := by decide +kernel
theorem dX9_takesOne_98 : decode cX9_takesOne 98 = .ok (.aload_n 0, 1) := by decide +kernel
theorem dX9_takesOne_99 : decode cX9_takesOne 99 = .ok (.iload_n 2, 1) := by decide +kernel
theorem dX9_takesOne_100 : decode cX9_takesOne 100 = .ok (.invokevirtual 330, 3) := by decide +kernel
theorem dX9_takesOne_103 : decode cX9_takesOne 103 = .ok (.ifCond .ge 8, 3) := by decide +kernel
theorem dX9_takesOne_106 : decode cX9_takesOne 106 = .ok (.aload_n 0, 1) := by decide +kernel
theorem dX9_takesOne_107 : decode cX9_takesOne 107 = .ok (.iload_n 1, 1) := by decide +kernel
theorem dX9_takesOne_108 : decode cX9_takesOne 108 = .ok (.putfield 327, 3) := by decide +kernel
theorem dX9_takesOne_111 : decode cX9_takesOne 111 = .ok (.iconst 1, 1) := by decide +kernel
theorem dX9_takesOne_112 : decode cX9_takesOne 112 = .ok (.ireturn, 1) := by decide +kernel
theorem dX9_takesAll_0 : decode cX9_takesAll 0 = .ok (.aload_n 0, 1) := by decide +kernel
theorem dX9_takesAll_1 : decode cX9_takesAll 1 = .ok (.iconst 0, 1) := by decide +kernel
theorem dX9_takesAll_2 : decode cX9_takesAll 2 = .ok (.putfield 288, 3) := by decide +kernel
theorem dX9_takesAll_5 : decode cX9_takesAll 5 = .ok (.aload_n 0, 1) := by decide +kernel
theorem dX9_takesAll_6 : decode cX9_takesAll 6 = .ok (.iconst (-1), 1) := by decide +kernel
theorem dX9_takesAll_7 : decode cX9_takesAll 7 = .ok (.putfield 327, 3) := by decide +kernel
theorem dX9_takesAll_10 : decode cX9_takesAll 10 = .ok (.iconst 0, 1) := by decide +kernel
theorem dX9_takesAll_11 : decode cX9_takesAll 11 = .ok (.istore_n 1, 1) := by decide +kernel
theorem dX9_takesAll_12 : decode cX9_takesAll 12 = .ok (.aload_n 0, 1) := by decide +kernel
theorem dX9_takesAll_13 : decode cX9_takesAll 13 = .ok (.invokevirtual 333, 3) := by decide +kernel
theorem dX9_takesAll_16 : decode cX9_takesAll 16 = .ok (.ifCond .ne 12, 3) := by decide +kernel
theorem dX9_takesAll_19 : decode cX9_takesAll 19 = .ok (.sipush (-1000), 3) := by decide +kernel
theorem dX9_takesAll_22 : decode cX9_takesAll 22 = .ok (.aload_n 0, 1) := by decide +kernel
theorem dX9_takesAll_23 : decode cX9_takesAll 23 = .ok (.getfield 288, 3) := by decide +kernel
theorem dX9_takesAll_26 : decode cX9_takesAll 26 = .ok (.isub, 1) := by decide +kernel
theorem dX9_takesAll_27 : decode cX9_takesAll 27 = .ok (.ireturn, 1) := by decide +kernel
theorem dX9_takesAll_28 : decode cX9_takesAll 28 = .ok (.iinc 1 1, 3) := by decide +kernel
theorem dX9_takesAll_31 : decode cX9_takesAll 31 = .ok (.aload_n 0, 1) := by decide +kernel
theorem dX9_takesAll_32 : decode cX9_takesAll 32 = .ok (.getfield 288, 3) := by decide +kernel
theorem dX9_takesAll_35 : decode cX9_takesAll 35 = .ok (.aload_n 0, 1) := by decide +kernel
theorem dX9_takesAll_36 : decode cX9_takesAll 36 = .ok (.getfield 116, 3) := by decide +kernel
theorem dX9_takesAll_39 : decode cX9_takesAll 39 = .ok (.if_icmp .ne 5, 3) := by decide +kernel
theorem dX9_takesAll_42 : decode cX9_takesAll 42 = .ok (.iload_n 1, 1) := by decide +kernel
theorem dX9_takesAll_43 : decode cX9_takesAll 43 = .ok (.ireturn, 1) := by decide +kernel
theorem dX9_takesAll_44 : decode cX9_takesAll 44 = .ok (.aload_n 0, 1) := by decide +kernel
theorem dX9_takesAll_45 : decode cX9_takesAll 45 = .ok (.dup, 1) := by decide +kernel
theorem dX9_takesAll_46 : decode cX9_takesAll 46 = .ok (.getfield 288, 3) := by decide +kernel
theorem dX9_takesAll_49 : decode cX9_takesAll 49 = .ok (.iconst 1, 1) := by decide +kernel
theorem dX9_takesAll_50 : decode cX9_takesAll 50 = .ok (.iadd, 1) := by decide +kernel
theorem dX9_takesAll_51 : decode cX9_takesAll 51 = .ok (.putfield 288, 3) := by decide +kernel
theorem dX9_takesAll_54 : decode cX9_takesAll 54 = .ok (.goto (-42), 3) := by decide +kernel
theorem dX9_reads_0 : decode cX9_reads 0 = .ok (.aload_n 0, 1) := by decide +kernel
theorem dX9_reads_1 : decode cX9_reads 1 = .ok (.getfield 78, 3) := by decide +kernel
theorem dX9_reads_4 : decode cX9_reads 4 = .ok (.istore_n 1, 1) := by decide +kernel
theorem dX9_reads_5 : decode cX9_reads 5 = .ok (.iconst 0, 1) := by decide +kernel
theorem dX9_reads_6 : decode cX9_reads 6 = .ok (.istore_n 2, 1) := by decide +kernel
theorem dX9_reads_7 : decode cX9_reads 7 = .ok (.iload_n 2, 1) := by decide +kernel
theorem dX9_reads_8 : decode cX9_reads 8 = .ok (.sipush 360, 3) := by decide +kernel
theorem dX9_reads_11 : decode cX9_reads 11 = .ok (.if_icmp .ge 21, 3) := by decide +kernel
theorem dX9_reads_14 : decode cX9_reads 14 = .ok (.aload_n 0, 1) := by decide +kernel
theorem dX9_reads_15 : decode cX9_reads 15 = .ok (.getfield 66, 3) := by decide +kernel
theorem dX9_reads_18 : decode cX9_reads 18 = .ok (.iload_n 2, 1) := by decide +kernel
theorem dX9_reads_19 : decode cX9_reads 19 = .ok (.aload_n 0, 1) := by decide +kernel
theorem dX9_reads_20 : decode cX9_reads 20 = .ok (.getfield 18, 3) := by decide +kernel
theorem dX9_reads_23 : decode cX9_reads 23 = .ok (.iload_n 2, 1) := by decide +kernel
theorem dX9_reads_24 : decode cX9_reads 24 = .ok (.iaload, 1) := by decide +kernel
theorem dX9_reads_25 : decode cX9_reads 25 = .ok (.iastore, 1) := by decide +kernel
theorem dX9_reads_26 : decode cX9_reads 26 = .ok (.iinc 2 1, 3) := by decide +kernel
theorem dX9_reads_29 : decode cX9_reads 29 = .ok (.goto (-22), 3) := by decide +kernel
theorem dX9_reads_32 : decode cX9_reads 32 = .ok (.aload_n 0, 1) := by decide +kernel
theorem dX9_reads_33 : decode cX9_reads 33 = .ok (.invokevirtual 266, 3) := by decide +kernel
theorem dX9_reads_36 : decode cX9_reads 36 = .ok (.aload_n 0, 1) := by decide +kernel
theorem dX9_reads_37 : decode cX9_reads 37 = .ok (.invokevirtual 336, 3) := by decide +kernel
theorem dX9_reads_40 : decode cX9_reads 40 = .ok (.istore_n 2, 1) := by decide +kernel
theorem dX9_reads_41 : decode cX9_reads 41 = .ok (.aload_n 0, 1) := by decide +kernel
theorem dX9_reads_42 : decode cX9_reads 42 = .ok (.iconst 0, 1) := by decide +kernel
theorem dX9_reads_43 : decode cX9_reads 43 = .ok (.putfield 116, 3) := by decide +kernel
theorem dX9_reads_46 : decode cX9_reads 46 = .ok (.iload_n 2, 1) := by decide +kernel
theorem dX9_reads_47 : decode cX9_reads 47 = .ok (.ifCond .lt 17, 3) := by decide +kernel
theorem dX9_reads_50 : decode cX9_reads 50 = .ok (.aload_n 0, 1) := by decide +kernel
theorem dX9_reads_51 : decode cX9_reads 51 = .ok (.getfield 327, 3) := by decide +kernel
theorem dX9_reads_54 : decode cX9_reads 54 = .ok (.ifCond .ge 10, 3) := by decide +kernel
theorem dX9_reads_57 : decode cX9_reads 57 = .ok (.aload_n 0, 1) := by decide +kernel
theorem dX9_reads_58 : decode cX9_reads 58 = .ok (.iconst 0, 1) := by decide +kernel
theorem dX9_reads_59 : decode cX9_reads 59 = .ok (.putfield 78, 3) := by decide +kernel
theorem dX9_reads_62 : decode cX9_reads 62 = .ok (.iload_n 2, 1) := by decide +kernel
theorem dX9_reads_63 : decode cX9_reads 63 = .ok (.ireturn, 1) := by decide +kernel
theorem dX9_reads_64 : decode cX9_reads 64 = .ok (.aload_n 0, 1) := by decide +kernel
theorem dX9_reads_65 : decode cX9_reads 65 = .ok (.invokevirtual 275, 3) := by decide +kernel
theorem dX9_reads_68 : decode cX9_reads 68 = .ok (.aload_n 0, 1) := by decide +kernel
theorem dX9_reads_69 : decode cX9_reads 69 = .ok (.iload_n 1, 1) := by decide +kernel
theorem dX9_reads_70 : decode cX9_reads 70 = .ok (.putfield 78, 3) := by decide +kernel
theorem dX9_reads_73 : decode cX9_reads 73 = .ok (.iconst 0, 1) := by decide +kernel
theorem dX9_reads_74 : decode cX9_reads 74 = .ok (.istore_n 3, 1) := by decide +kernel
theorem dX9_reads_75 : decode cX9_reads 75 = .ok (.iload_n 3, 1) := by decide +kernel
theorem dX9_reads_76 : decode cX9_reads 76 = .ok (.sipush 360, 3) := by decide +kernel
theorem dX9_reads_79 : decode cX9_reads 79 = .ok (.if_icmp .ge 21, 3) := by decide +kernel
theorem dX9_reads_82 : decode cX9_reads 82 = .ok (.aload_n 0, 1) := by decide +kernel
theorem dX9_reads_83 : decode cX9_reads 83 = .ok (.getfield 18, 3) := by decide +kernel
theorem dX9_reads_86 : decode cX9_reads 86 = .ok (.iload_n 3, 1) := by decide +kernel
theorem dX9_reads_87 : decode cX9_reads 87 = .ok (.aload_n 0, 1) := by decide +kernel
theorem dX9_reads_88 : decode cX9_reads 88 = .ok (.getfield 66, 3) := by decide +kernel
theorem dX9_reads_91 : decode cX9_reads 91 = .ok (.iload_n 3, 1) := by decide +kernel
theorem dX9_reads_92 : decode cX9_reads 92 = .ok (.iaload, 1) := by decide +kernel
theorem dX9_reads_93 : decode cX9_reads 93 = .ok (.iastore, 1) := by decide +kernel
theorem dX9_reads_94 : decode cX9_reads 94 = .ok (.iinc 3 1, 3) := by decide +kernel
theorem dX9_reads_97 : decode cX9_reads 97 = .ok (.goto (-22), 3) := by decide +kernel
theorem dX9_reads_100 : decode cX9_reads 100 = .ok (.iload_n 2, 1) := by decide +kernel
theorem dX9_reads_101 : decode cX9_reads 101 = .ok (.ifCond .ge 7, 3) := by decide +kernel
theorem dX9_reads_104 : decode cX9_reads 104 = .ok (.iload_n 2, 1) := by decide +kernel
theorem dX9_reads_105 : decode cX9_reads 105 = .ok (.goto 11, 3) := by decide +kernel
theorem dX9_reads_108 : decode cX9_reads 108 = .ok (.sipush (-2000), 3) := by decide +kernel
theorem dX9_reads_111 : decode cX9_reads 111 = .ok (.aload_n 0, 1) := by decide +kernel
theorem dX9_reads_112 : decode cX9_reads 112 = .ok (.getfield 327, 3) := by decide +kernel
theorem dX9_reads_115 : decode cX9_reads 115 = .ok (.isub, 1) := by decide +kernel
theorem dX9_reads_116 : decode cX9_reads 116 = .ok (.ireturn, 1) := by decide +kernel
theorem dX9_sign_0 : decode cX9_sign 0 = .ok (.aload_n 0, 1) := by decide +kernel
theorem dX9_sign_1 : decode cX9_sign 1 = .ok (.getfield 69, 3) := by decide +kernel
theorem dX9_sign_4 : decode cX9_sign 4 = .ok (.aload_n 0, 1) := by decide +kernel
theorem dX9_sign_5 : decode cX9_sign 5 = .ok (.getfield 119, 3) := by decide +kernel
theorem dX9_sign_8 : decode cX9_sign 8 = .ok (.iload_n 1, 1) := by decide +kernel
theorem dX9_sign_9 : decode cX9_sign 9 = .ok (.iastore, 1) := by decide +kernel
theorem dX9_sign_10 : decode cX9_sign 10 = .ok (.aload_n 0, 1) := by decide +kernel
theorem dX9_sign_11 : decode cX9_sign 11 = .ok (.dup, 1) := by decide +kernel
theorem dX9_sign_12 : decode cX9_sign 12 = .ok (.getfield 119, 3) := by decide +kernel
theorem dX9_sign_15 : decode cX9_sign 15 = .ok (.iconst 1, 1) := by decide +kernel
theorem dX9_sign_16 : decode cX9_sign 16 = .ok (.iadd, 1) := by decide +kernel
theorem dX9_sign_17 : decode cX9_sign 17 = .ok (.putfield 119, 3) := by decide +kernel
theorem dX9_sign_20 : decode cX9_sign 20 = .ok (.return_, 1) := by decide +kernel
theorem dX9_number_0 : decode cX9_number 0 = .ok (.lconst 1, 1) := by decide +kernel
theorem dX9_number_1 : decode cX9_number 1 = .ok (.lstore_n 3, 1) := by decide +kernel
theorem dX9_number_2 : decode cX9_number 2 = .ok (.lload_n 3, 1) := by decide +kernel
theorem dX9_number_3 : decode cX9_number 3 = .ok (.ldc2_w 88, 3) := by decide +kernel
theorem dX9_number_6 : decode cX9_number 6 = .ok (.lmul, 1) := by decide +kernel
theorem dX9_number_7 : decode cX9_number 7 = .ok (.lload_n 1, 1) := by decide +kernel
theorem dX9_number_8 : decode cX9_number 8 = .ok (.lcmp, 1) := by decide +kernel
theorem dX9_number_9 : decode cX9_number 9 = .ok (.ifCond .gt 12, 3) := by decide +kernel
theorem dX9_number_12 : decode cX9_number 12 = .ok (.lload_n 3, 1) := by decide +kernel
theorem dX9_number_13 : decode cX9_number 13 = .ok (.ldc2_w 88, 3) := by decide +kernel
theorem dX9_number_16 : decode cX9_number 16 = .ok (.lmul, 1) := by decide +kernel
theorem dX9_number_17 : decode cX9_number 17 = .ok (.lstore_n 3, 1) := by decide +kernel
theorem dX9_number_18 : decode cX9_number 18 = .ok (.goto (-16), 3) := by decide +kernel
theorem dX9_number_21 : decode cX9_number 21 = .ok (.lload_n 3, 1) := by decide +kernel
theorem dX9_number_22 : decode cX9_number 22 = .ok (.lconst 0, 1) := by decide +kernel
theorem dX9_number_23 : decode cX9_number 23 = .ok (.lcmp, 1) := by decide +kernel
theorem dX9_number_24 : decode cX9_number 24 = .ok (.ifCond .le 27, 3) := by decide +kernel
theorem dX9_number_27 : decode cX9_number 27 = .ok (.aload_n 0, 1) := by decide +kernel
theorem dX9_number_28 : decode cX9_number 28 = .ok (.bipush 48, 2) := by decide +kernel
theorem dX9_number_30 : decode cX9_number 30 = .ok (.lload_n 1, 1) := by decide +kernel
theorem dX9_number_31 : decode cX9_number 31 = .ok (.lload_n 3, 1) := by decide +kernel
theorem dX9_number_32 : decode cX9_number 32 = .ok (.ldiv, 1) := by decide +kernel
theorem dX9_number_33 : decode cX9_number 33 = .ok (.ldc2_w 88, 3) := by decide +kernel
theorem dX9_number_36 : decode cX9_number 36 = .ok (.lrem, 1) := by decide +kernel
theorem dX9_number_37 : decode cX9_number 37 = .ok (.l2i, 1) := by decide +kernel
theorem dX9_number_38 : decode cX9_number 38 = .ok (.iadd, 1) := by decide +kernel
theorem dX9_number_39 : decode cX9_number 39 = .ok (.invokevirtual 339, 3) := by decide +kernel
theorem dX9_number_42 : decode cX9_number 42 = .ok (.lload_n 3, 1) := by decide +kernel
theorem dX9_number_43 : decode cX9_number 43 = .ok (.ldc2_w 88, 3) := by decide +kernel
theorem dX9_number_46 : decode cX9_number 46 = .ok (.ldiv, 1) := by decide +kernel
theorem dX9_number_47 : decode cX9_number 47 = .ok (.lstore_n 3, 1) := by decide +kernel
theorem dX9_number_48 : decode cX9_number 48 = .ok (.goto (-27), 3) := by decide +kernel
theorem dX9_number_51 : decode cX9_number 51 = .ok (.return_, 1) := by decide +kernel
theorem dX9_fraction_0 : decode cX9_fraction 0 = .ok (.aload_n 0, 1) := by decide +kernel
theorem dX9_fraction_1 : decode cX9_fraction 1 = .ok (.lload_n 1, 1) := by decide +kernel
theorem dX9_fraction_2 : decode cX9_fraction 2 = .ok (.lload_n 3, 1) := by decide +kernel
theorem dX9_fraction_3 : decode cX9_fraction 3 = .ok (.invokevirtual 133, 3) := by decide +kernel
theorem dX9_fraction_6 : decode cX9_fraction 6 = .ok (.aload_n 0, 1) := by decide +kernel
theorem dX9_fraction_7 : decode cX9_fraction 7 = .ok (.getfield 130, 3) := by decide +kernel
theorem dX9_fraction_10 : decode cX9_fraction 10 = .ok (.lconst 0, 1) := by decide +kernel
theorem dX9_fraction_11 : decode cX9_fraction 11 = .ok (.lcmp, 1) := by decide +kernel
theorem dX9_fraction_12 : decode cX9_fraction 12 = .ok (.ifCond .ge 12, 3) := by decide +kernel
theorem dX9_fraction_15 : decode cX9_fraction 15 = .ok (.aload_n 0, 1) := by decide +kernel
theorem dX9_fraction_16 : decode cX9_fraction 16 = .ok (.bipush 45, 2) := by decide +kernel
theorem dX9_fraction_18 : decode cX9_fraction 18 = .ok (.invokevirtual 339, 3) := by decide +kernel
theorem dX9_fraction_21 : decode cX9_fraction 21 = .ok (.goto 14, 3) := by decide +kernel
theorem dX9_fraction_24 : decode cX9_fraction 24 = .ok (.iload 5, 2) := by decide +kernel
theorem dX9_fraction_26 : decode cX9_fraction 26 = .ok (.ifCond .eq 9, 3) := by decide +kernel
theorem dX9_fraction_29 : decode cX9_fraction 29 = .ok (.aload_n 0, 1) := by decide +kernel
theorem dX9_fraction_30 : decode cX9_fraction 30 = .ok (.bipush 43, 2) := by decide +kernel
theorem dX9_fraction_32 : decode cX9_fraction 32 = .ok (.invokevirtual 339, 3) := by decide +kernel
theorem dX9_fraction_35 : decode cX9_fraction 35 = .ok (.aload_n 0, 1) := by decide +kernel
theorem dX9_fraction_36 : decode cX9_fraction 36 = .ok (.aload_n 0, 1) := by decide +kernel
theorem dX9_fraction_37 : decode cX9_fraction 37 = .ok (.getfield 130, 3) := by decide +kernel
theorem dX9_fraction_40 : decode cX9_fraction 40 = .ok (.lconst 0, 1) := by decide +kernel
theorem dX9_fraction_41 : decode cX9_fraction 41 = .ok (.lcmp, 1) := by decide +kernel
theorem dX9_fraction_42 : decode cX9_fraction 42 = .ok (.ifCond .ge 11, 3) := by decide +kernel
theorem dX9_fraction_45 : decode cX9_fraction 45 = .ok (.aload_n 0, 1) := by decide +kernel
theorem dX9_fraction_46 : decode cX9_fraction 46 = .ok (.getfield 130, 3) := by decide +kernel
theorem dX9_fraction_49 : decode cX9_fraction 49 = .ok (.lneg, 1) := by decide +kernel
theorem dX9_fraction_50 : decode cX9_fraction 50 = .ok (.goto 7, 3) := by decide +kernel
theorem dX9_fraction_53 : decode cX9_fraction 53 = .ok (.aload_n 0, 1) := by decide +kernel
theorem dX9_fraction_54 : decode cX9_fraction 54 = .ok (.getfield 130, 3) := by decide +kernel
theorem dX9_fraction_57 : decode cX9_fraction 57 = .ok (.invokevirtual 342, 3) := by decide +kernel
theorem dX9_fraction_60 : decode cX9_fraction 60 = .ok (.aload_n 0, 1) := by decide +kernel
theorem dX9_fraction_61 : decode cX9_fraction 61 = .ok (.getfield 21, 3) := by decide +kernel
theorem dX9_fraction_64 : decode cX9_fraction 64 = .ok (.lconst 1, 1) := by decide +kernel
theorem dX9_fraction_65 : decode cX9_fraction 65 = .ok (.lcmp, 1) := by decide +kernel
theorem dX9_fraction_66 : decode cX9_fraction 66 = .ok (.ifCond .le 17, 3) := by decide +kernel
theorem dX9_fraction_69 : decode cX9_fraction 69 = .ok (.aload_n 0, 1) := by decide +kernel
theorem dX9_fraction_70 : decode cX9_fraction 70 = .ok (.bipush 47, 2) := by decide +kernel
theorem dX9_fraction_72 : decode cX9_fraction 72 = .ok (.invokevirtual 339, 3) := by decide +kernel
theorem dX9_fraction_75 : decode cX9_fraction 75 = .ok (.aload_n 0, 1) := by decide +kernel
theorem dX9_fraction_76 : decode cX9_fraction 76 = .ok (.aload_n 0, 1) := by decide +kernel
theorem dX9_fraction_77 : decode cX9_fraction 77 = .ok (.getfield 21, 3) := by decide +kernel
theorem dX9_fraction_80 : decode cX9_fraction 80 = .ok (.invokevirtual 342, 3) := by decide +kernel
theorem dX9_fraction_83 : decode cX9_fraction 83 = .ok (.return_, 1) := by decide +kernel
theorem dX9_prints_0 : decode cX9_prints 0 = .ok (.aload_n 0, 1) := by decide +kernel
theorem dX9_prints_1 : decode cX9_prints 1 = .ok (.invokevirtual 196, 3) := by decide +kernel
theorem dX9_prints_4 : decode cX9_prints 4 = .ok (.ifCond .ne 6, 3) := by decide +kernel
theorem dX9_prints_7 : decode cX9_prints 7 = .ok (.bipush (-6), 2) := by decide +kernel
theorem dX9_prints_9 : decode cX9_prints 9 = .ok (.ireturn, 1) := by decide +kernel
theorem dX9_prints_10 : decode cX9_prints 10 = .ok (.aload_n 0, 1) := by decide +kernel
theorem dX9_prints_11 : decode cX9_prints 11 = .ok (.invokevirtual 202, 3) := by decide +kernel
theorem dX9_prints_14 : decode cX9_prints 14 = .ok (.aload_n 0, 1) := by decide +kernel
theorem dX9_prints_15 : decode cX9_prints 15 = .ok (.iconst 0, 1) := by decide +kernel
theorem dX9_prints_16 : decode cX9_prints 16 = .ok (.putfield 119, 3) := by decide +kernel
theorem dX9_prints_19 : decode cX9_prints 19 = .ok (.iconst 0, 1) := by decide +kernel
theorem dX9_prints_20 : decode cX9_prints 20 = .ok (.istore_n 1, 1) := by decide +kernel
theorem dX9_prints_21 : decode cX9_prints 21 = .ok (.iload_n 1, 1) := by decide +kernel
theorem dX9_prints_22 : decode cX9_prints 22 = .ok (.aload_n 0, 1) := by decide +kernel
theorem dX9_prints_23 : decode cX9_prints 23 = .ok (.getfield 11, 3) := by decide +kernel
theorem dX9_prints_26 : decode cX9_prints 26 = .ok (.iconst 0, 1) := by decide +kernel
theorem dX9_prints_27 : decode cX9_prints 27 = .ok (.iaload, 1) := by decide +kernel
theorem dX9_prints_28 : decode cX9_prints 28 = .ok (.if_icmp .ge 117, 3) := by decide +kernel
theorem dX9_prints_31 : decode cX9_prints 31 = .ok (.aload_n 0, 1) := by decide +kernel
theorem dX9_prints_32 : decode cX9_prints 32 = .ok (.iload_n 1, 1) := by decide +kernel
theorem dX9_prints_33 : decode cX9_prints 33 = .ok (.i2l, 1) := by decide +kernel
theorem dX9_prints_34 : decode cX9_prints 34 = .ok (.invokevirtual 342, 3) := by decide +kernel
theorem dX9_prints_37 : decode cX9_prints 37 = .ok (.aload_n 0, 1) := by decide +kernel
theorem dX9_prints_38 : decode cX9_prints 38 = .ok (.bipush 58, 2) := by decide +kernel
theorem dX9_prints_40 : decode cX9_prints 40 = .ok (.invokevirtual 339, 3) := by decide +kernel
theorem dX9_prints_43 : decode cX9_prints 43 = .ok (.aload_n 0, 1) := by decide +kernel
theorem dX9_prints_44 : decode cX9_prints 44 = .ok (.bipush 32, 2) := by decide +kernel
theorem dX9_prints_46 : decode cX9_prints 46 = .ok (.invokevirtual 339, 3) := by decide +kernel
theorem dX9_prints_49 : decode cX9_prints 49 = .ok (.aload_n 0, 1) := by decide +kernel
theorem dX9_prints_50 : decode cX9_prints 50 = .ok (.aload_n 0, 1) := by decide +kernel
theorem dX9_prints_51 : decode cX9_prints 51 = .ok (.iload_n 1, 1) := by decide +kernel
theorem dX9_prints_52 : decode cX9_prints 52 = .ok (.i2l, 1) := by decide +kernel
theorem dX9_prints_53 : decode cX9_prints 53 = .ok (.lconst 1, 1) := by decide +kernel
theorem dX9_prints_54 : decode cX9_prints 54 = .ok (.invokevirtual 210, 3) := by decide +kernel
theorem dX9_prints_57 : decode cX9_prints 57 = .ok (.ldc2_w 86, 3) := by decide +kernel
theorem dX9_prints_60 : decode cX9_prints 60 = .ok (.aload_n 0, 1) := by decide +kernel
theorem dX9_prints_61 : decode cX9_prints 61 = .ok (.getfield 182, 3) := by decide +kernel
theorem dX9_prints_64 : decode cX9_prints 64 = .ok (.lmul, 1) := by decide +kernel
theorem dX9_prints_65 : decode cX9_prints 65 = .ok (.iconst 0, 1) := by decide +kernel
theorem dX9_prints_66 : decode cX9_prints 66 = .ok (.invokevirtual 346, 3) := by decide +kernel
theorem dX9_prints_69 : decode cX9_prints 69 = .ok (.aload_n 0, 1) := by decide +kernel
theorem dX9_prints_70 : decode cX9_prints 70 = .ok (.iload_n 1, 1) := by decide +kernel
theorem dX9_prints_71 : decode cX9_prints 71 = .ok (.invokevirtual 205, 3) := by decide +kernel
theorem dX9_prints_74 : decode cX9_prints 74 = .ok (.lstore_n 2, 1) := by decide +kernel
theorem dX9_prints_75 : decode cX9_prints 75 = .ok (.lload_n 2, 1) := by decide +kernel
theorem dX9_prints_76 : decode cX9_prints 76 = .ok (.lconst 0, 1) := by decide +kernel
theorem dX9_prints_77 : decode cX9_prints 77 = .ok (.lcmp, 1) := by decide +kernel
theorem dX9_prints_78 : decode cX9_prints 78 = .ok (.ifCond .eq 19, 3) := by decide +kernel
theorem dX9_prints_81 : decode cX9_prints 81 = .ok (.aload_n 0, 1) := by decide +kernel
theorem dX9_prints_82 : decode cX9_prints 82 = .ok (.lload_n 2, 1) := by decide +kernel
theorem dX9_prints_83 : decode cX9_prints 83 = .ok (.aload_n 0, 1) := by decide +kernel
theorem dX9_prints_84 : decode cX9_prints 84 = .ok (.getfield 182, 3) := by decide +kernel
theorem dX9_prints_87 : decode cX9_prints 87 = .ok (.iconst 1, 1) := by decide +kernel
theorem dX9_prints_88 : decode cX9_prints 88 = .ok (.invokevirtual 346, 3) := by decide +kernel
theorem dX9_prints_91 : decode cX9_prints 91 = .ok (.aload_n 0, 1) := by decide +kernel
theorem dX9_prints_92 : decode cX9_prints 92 = .ok (.bipush 120, 2) := by decide +kernel
theorem dX9_prints_94 : decode cX9_prints 94 = .ok (.invokevirtual 339, 3) := by decide +kernel
theorem dX9_prints_97 : decode cX9_prints 97 = .ok (.aload_n 0, 1) := by decide +kernel
theorem dX9_prints_98 : decode cX9_prints 98 = .ok (.iload_n 1, 1) := by decide +kernel
theorem dX9_prints_99 : decode cX9_prints 99 = .ok (.invokevirtual 213, 3) := by decide +kernel
theorem dX9_prints_102 : decode cX9_prints 102 = .ok (.istore 4, 2) := by decide +kernel
theorem dX9_prints_104 : decode cX9_prints 104 = .ok (.iload 4, 2) := by decide +kernel
theorem dX9_prints_106 : decode cX9_prints 106 = .ok (.ifCond .eq 27, 3) := by decide +kernel
theorem dX9_prints_109 : decode cX9_prints 109 = .ok (.aload_n 0, 1) := by decide +kernel
theorem dX9_prints_110 : decode cX9_prints 110 = .ok (.iload 4, 2) := by decide +kernel
theorem dX9_prints_112 : decode cX9_prints 112 = .ok (.ineg, 1) := by decide +kernel
theorem dX9_prints_113 : decode cX9_prints 113 = .ok (.i2l, 1) := by decide +kernel
theorem dX9_prints_114 : decode cX9_prints 114 = .ok (.ldc2_w 86, 3) := by decide +kernel
theorem dX9_prints_117 : decode cX9_prints 117 = .ok (.iconst 1, 1) := by decide +kernel
theorem dX9_prints_118 : decode cX9_prints 118 = .ok (.invokevirtual 346, 3) := by decide +kernel
theorem dX9_prints_121 : decode cX9_prints 121 = .ok (.aload_n 0, 1) := by decide +kernel
theorem dX9_prints_122 : decode cX9_prints 122 = .ok (.bipush 120, 2) := by decide +kernel
theorem dX9_prints_124 : decode cX9_prints 124 = .ok (.invokevirtual 339, 3) := by decide +kernel
theorem dX9_prints_127 : decode cX9_prints 127 = .ok (.aload_n 0, 1) := by decide +kernel
theorem dX9_prints_128 : decode cX9_prints 128 = .ok (.bipush 120, 2) := by decide +kernel
theorem dX9_prints_130 : decode cX9_prints 130 = .ok (.invokevirtual 339, 3) := by decide +kernel
theorem dX9_prints_133 : decode cX9_prints 133 = .ok (.aload_n 0, 1) := by decide +kernel
theorem dX9_prints_134 : decode cX9_prints 134 = .ok (.bipush 59, 2) := by decide +kernel
theorem dX9_prints_136 : decode cX9_prints 136 = .ok (.invokevirtual 339, 3) := by decide +kernel
theorem dX9_prints_139 : decode cX9_prints 139 = .ok (.iinc 1 1, 3) := by decide +kernel
theorem dX9_prints_142 : decode cX9_prints 142 = .ok (.goto (-121), 3) := by decide +kernel
theorem dX9_prints_145 : decode cX9_prints 145 = .ok (.aload_n 0, 1) := by decide +kernel
theorem dX9_prints_146 : decode cX9_prints 146 = .ok (.getfield 119, 3) := by decide +kernel
theorem dX9_prints_149 : decode cX9_prints 149 = .ok (.ireturn, 1) := by decide +kernel
theorem dX9_paper_0 : decode cX9_paper 0 = .ok (.iload_n 1, 1) := by decide +kernel
theorem dX9_paper_1 : decode cX9_paper 1 = .ok (.ifCond .ge 7, 3) := by decide +kernel
theorem dX9_paper_4 : decode cX9_paper 4 = .ok (.iconst (-1), 1) := by decide +kernel
theorem dX9_paper_5 : decode cX9_paper 5 = .ok (.goto 22, 3) := by decide +kernel
theorem dX9_paper_8 : decode cX9_paper 8 = .ok (.iload_n 1, 1) := by decide +kernel
theorem dX9_paper_9 : decode cX9_paper 9 = .ok (.aload_n 0, 1) := by decide +kernel
theorem dX9_paper_10 : decode cX9_paper 10 = .ok (.getfield 119, 3) := by decide +kernel
theorem dX9_paper_13 : decode cX9_paper 13 = .ok (.if_icmp .ge 12, 3) := by decide +kernel
theorem dX9_paper_16 : decode cX9_paper 16 = .ok (.aload_n 0, 1) := by decide +kernel
theorem dX9_paper_17 : decode cX9_paper 17 = .ok (.getfield 69, 3) := by decide +kernel
theorem dX9_paper_20 : decode cX9_paper 20 = .ok (.iload_n 1, 1) := by decide +kernel
theorem dX9_paper_21 : decode cX9_paper 21 = .ok (.iaload, 1) := by decide +kernel
theorem dX9_paper_22 : decode cX9_paper 22 = .ok (.goto 5, 3) := by decide +kernel
theorem dX9_paper_25 : decode cX9_paper 25 = .ok (.bipush (-2), 2) := by decide +kernel
theorem dX9_paper_27 : decode cX9_paper 27 = .ok (.ireturn, 1) := by decide +kernel
theorem dX9_isList_0 : decode cX9_isList 0 = .ok (.iload_n 0, 1) := by decide +kernel
theorem dX9_isList_1 : decode cX9_isList 1 = .ok (.i2l, 1) := by decide +kernel
theorem dX9_isList_2 : decode cX9_isList 2 = .ok (.lconst 0, 1) := by decide +kernel
theorem dX9_isList_3 : decode cX9_isList 3 = .ok (.ldc2_w 86, 3) := by decide +kernel
theorem dX9_isList_6 : decode cX9_isList 6 = .ok (.invokestatic 82, 3) := by decide +kernel
theorem dX9_isList_9 : decode cX9_isList 9 = .ok (.ireturn, 1) := by decide +kernel
theorem dX9_list_0 : decode cX9_list 0 = .ok (.iload_n 1, 1) := by decide +kernel
theorem dX9_list_1 : decode cX9_list 1 = .ok (.invokestatic 350, 3) := by decide +kernel
theorem dX9_list_4 : decode cX9_list 4 = .ok (.ifCond .eq 9, 3) := by decide +kernel
theorem dX9_list_7 : decode cX9_list 7 = .ok (.iload_n 2, 1) := by decide +kernel
theorem dX9_list_8 : decode cX9_list 8 = .ok (.bipush 24, 2) := by decide +kernel
theorem dX9_list_10 : decode cX9_list 10 = .ok (.if_icmp .le 5, 3) := by decide +kernel
theorem dX9_list_13 : decode cX9_list 13 = .ok (.iconst (-1), 1) := by decide +kernel
theorem dX9_list_14 : decode cX9_list 14 = .ok (.ireturn, 1) := by decide +kernel
theorem dX9_list_15 : decode cX9_list 15 = .ok (.iload_n 2, 1) := by decide +kernel
theorem dX9_list_16 : decode cX9_list 16 = .ok (.ifCond .ge 6, 3) := by decide +kernel
theorem dX9_list_19 : decode cX9_list 19 = .ok (.bipush (-14), 2) := by decide +kernel
theorem dX9_list_21 : decode cX9_list 21 = .ok (.ireturn, 1) := by decide +kernel
theorem dX9_list_22 : decode cX9_list 22 = .ok (.aload_n 0, 1) := by decide +kernel
theorem dX9_list_23 : decode cX9_list 23 = .ok (.getfield 75, 3) := by decide +kernel
theorem dX9_list_26 : decode cX9_list 26 = .ok (.iload_n 1, 1) := by decide +kernel
theorem dX9_list_27 : decode cX9_list 27 = .ok (.iload_n 2, 1) := by decide +kernel
theorem dX9_list_28 : decode cX9_list 28 = .ok (.iastore, 1) := by decide +kernel
theorem dX9_list_29 : decode cX9_list 29 = .ok (.iconst 0, 1) := by decide +kernel
theorem dX9_list_30 : decode cX9_list 30 = .ok (.istore_n 3, 1) := by decide +kernel
theorem dX9_list_31 : decode cX9_list 31 = .ok (.iload_n 3, 1) := by decide +kernel
theorem dX9_list_32 : decode cX9_list 32 = .ok (.bipush 24, 2) := by decide +kernel
theorem dX9_list_34 : decode cX9_list 34 = .ok (.if_icmp .ge 21, 3) := by decide +kernel
theorem dX9_list_37 : decode cX9_list 37 = .ok (.aload_n 0, 1) := by decide +kernel
theorem dX9_list_38 : decode cX9_list 38 = .ok (.getfield 72, 3) := by decide +kernel
theorem dX9_list_41 : decode cX9_list 41 = .ok (.bipush 24, 2) := by decide +kernel
theorem dX9_list_43 : decode cX9_list 43 = .ok (.iload_n 1, 1) := by decide +kernel
theorem dX9_list_44 : decode cX9_list 44 = .ok (.imul, 1) := by decide +kernel
theorem dX9_list_45 : decode cX9_list 45 = .ok (.iload_n 3, 1) := by decide +kernel
theorem dX9_list_46 : decode cX9_list 46 = .ok (.iadd, 1) := by decide +kernel
theorem dX9_list_47 : decode cX9_list 47 = .ok (.lconst 0, 1) := by decide +kernel
theorem dX9_list_48 : decode cX9_list 48 = .ok (.lastore, 1) := by decide +kernel
theorem dX9_list_49 : decode cX9_list 49 = .ok (.iinc 3 1, 3) := by decide +kernel
theorem dX9_list_52 : decode cX9_list 52 = .ok (.goto (-21), 3) := by decide +kernel
theorem dX9_list_55 : decode cX9_list 55 = .ok (.iconst 1, 1) := by decide +kernel
theorem dX9_list_56 : decode cX9_list 56 = .ok (.ireturn, 1) := by decide +kernel
theorem dX9_set_0 : decode cX9_set 0 = .ok (.iload_n 1, 1) := by decide +kernel
theorem dX9_set_1 : decode cX9_set 1 = .ok (.invokestatic 350, 3) := by decide +kernel
theorem dX9_set_4 : decode cX9_set 4 = .ok (.ifCond .ne 5, 3) := by decide +kernel
theorem dX9_set_7 : decode cX9_set 7 = .ok (.iconst (-1), 1) := by decide +kernel
theorem dX9_set_8 : decode cX9_set 8 = .ok (.ireturn, 1) := by decide +kernel
theorem dX9_set_9 : decode cX9_set 9 = .ok (.aload_n 0, 1) := by decide +kernel
theorem dX9_set_10 : decode cX9_set 10 = .ok (.getfield 75, 3) := by decide +kernel
theorem dX9_set_13 : decode cX9_set 13 = .ok (.iload_n 1, 1) := by decide +kernel
theorem dX9_set_14 : decode cX9_set 14 = .ok (.iaload, 1) := by decide +kernel
theorem dX9_set_15 : decode cX9_set 15 = .ok (.ifCond .ge 6, 3) := by decide +kernel
theorem dX9_set_18 : decode cX9_set 18 = .ok (.bipush (-11), 2) := by decide +kernel
theorem dX9_set_20 : decode cX9_set 20 = .ok (.ireturn, 1) := by decide +kernel
theorem dX9_set_21 : decode cX9_set 21 = .ok (.iload_n 2, 1) := by decide +kernel
theorem dX9_set_22 : decode cX9_set 22 = .ok (.i2l, 1) := by decide +kernel
