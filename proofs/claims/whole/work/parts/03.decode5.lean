theorem dX9_sums_227 : decode cX9_sums 227 = .ok (.lmul, 1) := by decide +kernel
theorem dX9_sums_228 : decode cX9_sums 228 = .ok (.lload 13, 2) := by decide +kernel
theorem dX9_sums_230 : decode cX9_sums 230 = .ok (.lmul, 1) := by decide +kernel
theorem dX9_sums_231 : decode cX9_sums 231 = .ok (.lload 4, 2) := by decide +kernel
theorem dX9_sums_233 : decode cX9_sums 233 = .ok (.lload 4, 2) := by decide +kernel
theorem dX9_sums_235 : decode cX9_sums 235 = .ok (.lmul, 1) := by decide +kernel
theorem dX9_sums_236 : decode cX9_sums 236 = .ok (.lload 13, 2) := by decide +kernel
theorem dX9_sums_238 : decode cX9_sums 238 = .ok (.lload 13, 2) := by decide +kernel
theorem dX9_sums_240 : decode cX9_sums 240 = .ok (.lmul, 1) := by decide +kernel
theorem dX9_sums_241 : decode cX9_sums 241 = .ok (.lsub, 1) := by decide +kernel
theorem dX9_sums_242 : decode cX9_sums 242 = .ok (.lmul, 1) := by decide +kernel
theorem dX9_sums_243 : decode cX9_sums 243 = .ok (.ladd, 1) := by decide +kernel
theorem dX9_sums_244 : decode cX9_sums 244 = .ok (.lstore 6, 2) := by decide +kernel
theorem dX9_sums_246 : decode cX9_sums 246 = .ok (.iinc 8 1, 3) := by decide +kernel
theorem dX9_sums_249 : decode cX9_sums 249 = .ok (.goto (-237), 3) := by decide +kernel
theorem dX9_sums_252 : decode cX9_sums 252 = .ok (.lload 6, 2) := by decide +kernel
theorem dX9_sums_254 : decode cX9_sums 254 = .ok (.lreturn, 1) := by decide +kernel
theorem dX9_beyond_0 : decode cX9_beyond 0 = .ok (.lconst 0, 1) := by decide +kernel
theorem dX9_beyond_1 : decode cX9_beyond 1 = .ok (.lstore_n 3, 1) := by decide +kernel
theorem dX9_beyond_2 : decode cX9_beyond 2 = .ok (.iconst 0, 1) := by decide +kernel
theorem dX9_beyond_3 : decode cX9_beyond 3 = .ok (.istore 5, 2) := by decide +kernel
theorem dX9_beyond_5 : decode cX9_beyond 5 = .ok (.iload 5, 2) := by decide +kernel
theorem dX9_beyond_7 : decode cX9_beyond 7 = .ok (.aload_n 0, 1) := by decide +kernel
theorem dX9_beyond_8 : decode cX9_beyond 8 = .ok (.getfield 11, 3) := by decide +kernel
theorem dX9_beyond_11 : decode cX9_beyond 11 = .ok (.bipush 10, 2) := by decide +kernel
theorem dX9_beyond_13 : decode cX9_beyond 13 = .ok (.iaload, 1) := by decide +kernel
theorem dX9_beyond_14 : decode cX9_beyond 14 = .ok (.if_icmp .ge 140, 3) := by decide +kernel
theorem dX9_beyond_17 : decode cX9_beyond 17 = .ok (.aload_n 0, 1) := by decide +kernel
theorem dX9_beyond_18 : decode cX9_beyond 18 = .ok (.getfield 11, 3) := by decide +kernel
theorem dX9_beyond_21 : decode cX9_beyond 21 = .ok (.bipush 23, 2) := by decide +kernel
theorem dX9_beyond_23 : decode cX9_beyond 23 = .ok (.iload 5, 2) := by decide +kernel
theorem dX9_beyond_25 : decode cX9_beyond 25 = .ok (.iadd, 1) := by decide +kernel
theorem dX9_beyond_26 : decode cX9_beyond 26 = .ok (.iaload, 1) := by decide +kernel
theorem dX9_beyond_27 : decode cX9_beyond 27 = .ok (.i2l, 1) := by decide +kernel
theorem dX9_beyond_28 : decode cX9_beyond 28 = .ok (.lstore 6, 2) := by decide +kernel
theorem dX9_beyond_30 : decode cX9_beyond 30 = .ok (.iload_n 2, 1) := by decide +kernel
theorem dX9_beyond_31 : decode cX9_beyond 31 = .ok (.ifCond .eq 19, 3) := by decide +kernel
theorem dX9_beyond_34 : decode cX9_beyond 34 = .ok (.iload_n 1, 1) := by decide +kernel
theorem dX9_beyond_35 : decode cX9_beyond 35 = .ok (.aload_n 0, 1) := by decide +kernel
theorem dX9_beyond_36 : decode cX9_beyond 36 = .ok (.getfield 11, 3) := by decide +kernel
theorem dX9_beyond_39 : decode cX9_beyond 39 = .ok (.bipush 11, 2) := by decide +kernel
theorem dX9_beyond_41 : decode cX9_beyond 41 = .ok (.iload 5, 2) := by decide +kernel
theorem dX9_beyond_43 : decode cX9_beyond 43 = .ok (.iadd, 1) := by decide +kernel
theorem dX9_beyond_44 : decode cX9_beyond 44 = .ok (.iaload, 1) := by decide +kernel
theorem dX9_beyond_45 : decode cX9_beyond 45 = .ok (.isub, 1) := by decide +kernel
theorem dX9_beyond_46 : decode cX9_beyond 46 = .ok (.i2l, 1) := by decide +kernel
theorem dX9_beyond_47 : decode cX9_beyond 47 = .ok (.goto 16, 3) := by decide +kernel
theorem dX9_beyond_50 : decode cX9_beyond 50 = .ok (.aload_n 0, 1) := by decide +kernel
theorem dX9_beyond_51 : decode cX9_beyond 51 = .ok (.getfield 11, 3) := by decide +kernel
theorem dX9_beyond_54 : decode cX9_beyond 54 = .ok (.bipush 17, 2) := by decide +kernel
theorem dX9_beyond_56 : decode cX9_beyond 56 = .ok (.iload 5, 2) := by decide +kernel
theorem dX9_beyond_58 : decode cX9_beyond 58 = .ok (.iadd, 1) := by decide +kernel
theorem dX9_beyond_59 : decode cX9_beyond 59 = .ok (.iaload, 1) := by decide +kernel
theorem dX9_beyond_60 : decode cX9_beyond 60 = .ok (.iload_n 1, 1) := by decide +kernel
theorem dX9_beyond_61 : decode cX9_beyond 61 = .ok (.isub, 1) := by decide +kernel
theorem dX9_beyond_62 : decode cX9_beyond 62 = .ok (.i2l, 1) := by decide +kernel
theorem dX9_beyond_63 : decode cX9_beyond 63 = .ok (.lstore 8, 2) := by decide +kernel
theorem dX9_beyond_65 : decode cX9_beyond 65 = .ok (.iconst 0, 1) := by decide +kernel
theorem dX9_beyond_66 : decode cX9_beyond 66 = .ok (.iload_n 2, 1) := by decide +kernel
theorem dX9_beyond_67 : decode cX9_beyond 67 = .ok (.ifCond .eq 18, 3) := by decide +kernel
theorem dX9_beyond_70 : decode cX9_beyond 70 = .ok (.iload_n 1, 1) := by decide +kernel
theorem dX9_beyond_71 : decode cX9_beyond 71 = .ok (.aload_n 0, 1) := by decide +kernel
theorem dX9_beyond_72 : decode cX9_beyond 72 = .ok (.getfield 11, 3) := by decide +kernel
theorem dX9_beyond_75 : decode cX9_beyond 75 = .ok (.bipush 17, 2) := by decide +kernel
theorem dX9_beyond_77 : decode cX9_beyond 77 = .ok (.iload 5, 2) := by decide +kernel
theorem dX9_beyond_79 : decode cX9_beyond 79 = .ok (.iadd, 1) := by decide +kernel
theorem dX9_beyond_80 : decode cX9_beyond 80 = .ok (.iaload, 1) := by decide +kernel
theorem dX9_beyond_81 : decode cX9_beyond 81 = .ok (.isub, 1) := by decide +kernel
theorem dX9_beyond_82 : decode cX9_beyond 82 = .ok (.goto 15, 3) := by decide +kernel
theorem dX9_beyond_85 : decode cX9_beyond 85 = .ok (.aload_n 0, 1) := by decide +kernel
theorem dX9_beyond_86 : decode cX9_beyond 86 = .ok (.getfield 11, 3) := by decide +kernel
theorem dX9_beyond_89 : decode cX9_beyond 89 = .ok (.bipush 11, 2) := by decide +kernel
theorem dX9_beyond_91 : decode cX9_beyond 91 = .ok (.iload 5, 2) := by decide +kernel
theorem dX9_beyond_93 : decode cX9_beyond 93 = .ok (.iadd, 1) := by decide +kernel
theorem dX9_beyond_94 : decode cX9_beyond 94 = .ok (.iaload, 1) := by decide +kernel
theorem dX9_beyond_95 : decode cX9_beyond 95 = .ok (.iload_n 1, 1) := by decide +kernel
theorem dX9_beyond_96 : decode cX9_beyond 96 = .ok (.isub, 1) := by decide +kernel
theorem dX9_beyond_97 : decode cX9_beyond 97 = .ok (.invokestatic 137, 3) := by decide +kernel
theorem dX9_beyond_100 : decode cX9_beyond 100 = .ok (.i2l, 1) := by decide +kernel
theorem dX9_beyond_101 : decode cX9_beyond 101 = .ok (.lstore 10, 2) := by decide +kernel
theorem dX9_beyond_103 : decode cX9_beyond 103 = .ok (.lload 8, 2) := by decide +kernel
theorem dX9_beyond_105 : decode cX9_beyond 105 = .ok (.lconst 0, 1) := by decide +kernel
theorem dX9_beyond_106 : decode cX9_beyond 106 = .ok (.lcmp, 1) := by decide +kernel
theorem dX9_beyond_107 : decode cX9_beyond 107 = .ok (.ifCond .le 41, 3) := by decide +kernel
theorem dX9_beyond_110 : decode cX9_beyond 110 = .ok (.lload_n 3, 1) := by decide +kernel
theorem dX9_beyond_111 : decode cX9_beyond 111 = .ok (.aload_n 0, 1) := by decide +kernel
theorem dX9_beyond_112 : decode cX9_beyond 112 = .ok (.iload 5, 2) := by decide +kernel
theorem dX9_beyond_114 : decode cX9_beyond 114 = .ok (.invokevirtual 144, 3) := by decide +kernel
theorem dX9_beyond_117 : decode cX9_beyond 117 = .ok (.ifCond .eq 20, 3) := by decide +kernel
theorem dX9_beyond_120 : decode cX9_beyond 120 = .ok (.lload 6, 2) := by decide +kernel
theorem dX9_beyond_122 : decode cX9_beyond 122 = .ok (.lload 8, 2) := by decide +kernel
theorem dX9_beyond_124 : decode cX9_beyond 124 = .ok (.lload 8, 2) := by decide +kernel
theorem dX9_beyond_126 : decode cX9_beyond 126 = .ok (.lmul, 1) := by decide +kernel
theorem dX9_beyond_127 : decode cX9_beyond 127 = .ok (.lload 10, 2) := by decide +kernel
theorem dX9_beyond_129 : decode cX9_beyond 129 = .ok (.lload 10, 2) := by decide +kernel
theorem dX9_beyond_131 : decode cX9_beyond 131 = .ok (.lmul, 1) := by decide +kernel
theorem dX9_beyond_132 : decode cX9_beyond 132 = .ok (.lsub, 1) := by decide +kernel
theorem dX9_beyond_133 : decode cX9_beyond 133 = .ok (.lmul, 1) := by decide +kernel
theorem dX9_beyond_134 : decode cX9_beyond 134 = .ok (.goto 12, 3) := by decide +kernel
theorem dX9_beyond_137 : decode cX9_beyond 137 = .ok (.ldc2_w 86, 3) := by decide +kernel
theorem dX9_beyond_140 : decode cX9_beyond 140 = .ok (.lload 6, 2) := by decide +kernel
theorem dX9_beyond_142 : decode cX9_beyond 142 = .ok (.lmul, 1) := by decide +kernel
theorem dX9_beyond_143 : decode cX9_beyond 143 = .ok (.lload 8, 2) := by decide +kernel
theorem dX9_beyond_145 : decode cX9_beyond 145 = .ok (.lmul, 1) := by decide +kernel
theorem dX9_beyond_146 : decode cX9_beyond 146 = .ok (.lsub, 1) := by decide +kernel
theorem dX9_beyond_147 : decode cX9_beyond 147 = .ok (.lstore_n 3, 1) := by decide +kernel
theorem dX9_beyond_148 : decode cX9_beyond 148 = .ok (.iinc 5 1, 3) := by decide +kernel
theorem dX9_beyond_151 : decode cX9_beyond 151 = .ok (.goto (-146), 3) := by decide +kernel
theorem dX9_beyond_154 : decode cX9_beyond 154 = .ok (.lload_n 3, 1) := by decide +kernel
theorem dX9_beyond_155 : decode cX9_beyond 155 = .ok (.lreturn, 1) := by decide +kernel
theorem dX9_gives_0 : decode cX9_gives 0 = .ok (.aload_n 0, 1) := by decide +kernel
theorem dX9_gives_1 : decode cX9_gives 1 = .ok (.iload_n 1, 1) := by decide +kernel
theorem dX9_gives_2 : decode cX9_gives 2 = .ok (.iconst 1, 1) := by decide +kernel
theorem dX9_gives_3 : decode cX9_gives 3 = .ok (.isub, 1) := by decide +kernel
theorem dX9_gives_4 : decode cX9_gives 4 = .ok (.invokevirtual 152, 3) := by decide +kernel
theorem dX9_gives_7 : decode cX9_gives 7 = .ok (.istore_n 2, 1) := by decide +kernel
theorem dX9_gives_8 : decode cX9_gives 8 = .ok (.aload_n 0, 1) := by decide +kernel
theorem dX9_gives_9 : decode cX9_gives 9 = .ok (.iload_n 1, 1) := by decide +kernel
theorem dX9_gives_10 : decode cX9_gives 10 = .ok (.invokevirtual 152, 3) := by decide +kernel
theorem dX9_gives_13 : decode cX9_gives 13 = .ok (.istore_n 3, 1) := by decide +kernel
theorem dX9_gives_14 : decode cX9_gives 14 = .ok (.aload_n 0, 1) := by decide +kernel
theorem dX9_gives_15 : decode cX9_gives 15 = .ok (.aload_n 0, 1) := by decide +kernel
theorem dX9_gives_16 : decode cX9_gives 16 = .ok (.aload_n 0, 1) := by decide +kernel
theorem dX9_gives_17 : decode cX9_gives 17 = .ok (.getfield 11, 3) := by decide +kernel
theorem dX9_gives_20 : decode cX9_gives 20 = .ok (.iconst 2, 1) := by decide +kernel
theorem dX9_gives_21 : decode cX9_gives 21 = .ok (.iload_n 1, 1) := by decide +kernel
theorem dX9_gives_22 : decode cX9_gives 22 = .ok (.iadd, 1) := by decide +kernel
theorem dX9_gives_23 : decode cX9_gives 23 = .ok (.iconst 1, 1) := by decide +kernel
theorem dX9_gives_24 : decode cX9_gives 24 = .ok (.isub, 1) := by decide +kernel
theorem dX9_gives_25 : decode cX9_gives 25 = .ok (.iaload, 1) := by decide +kernel
theorem dX9_gives_26 : decode cX9_gives 26 = .ok (.aload_n 0, 1) := by decide +kernel
theorem dX9_gives_27 : decode cX9_gives 27 = .ok (.getfield 11, 3) := by decide +kernel
theorem dX9_gives_30 : decode cX9_gives 30 = .ok (.iconst 2, 1) := by decide +kernel
theorem dX9_gives_31 : decode cX9_gives 31 = .ok (.iload_n 1, 1) := by decide +kernel
theorem dX9_gives_32 : decode cX9_gives 32 = .ok (.iadd, 1) := by decide +kernel
theorem dX9_gives_33 : decode cX9_gives 33 = .ok (.iaload, 1) := by decide +kernel
theorem dX9_gives_34 : decode cX9_gives 34 = .ok (.iconst 0, 1) := by decide +kernel
theorem dX9_gives_35 : decode cX9_gives 35 = .ok (.invokevirtual 155, 3) := by decide +kernel
theorem dX9_gives_38 : decode cX9_gives 38 = .ok (.lneg, 1) := by decide +kernel
theorem dX9_gives_39 : decode cX9_gives 39 = .ok (.ldc2_w 150, 3) := by decide +kernel
theorem dX9_gives_42 : decode cX9_gives 42 = .ok (.iload_n 2, 1) := by decide +kernel
theorem dX9_gives_43 : decode cX9_gives 43 = .ok (.i2l, 1) := by decide +kernel
theorem dX9_gives_44 : decode cX9_gives 44 = .ok (.lmul, 1) := by decide +kernel
theorem dX9_gives_45 : decode cX9_gives 45 = .ok (.invokevirtual 133, 3) := by decide +kernel
theorem dX9_gives_48 : decode cX9_gives 48 = .ok (.aload_n 0, 1) := by decide +kernel
theorem dX9_gives_49 : decode cX9_gives 49 = .ok (.aload_n 0, 1) := by decide +kernel
theorem dX9_gives_50 : decode cX9_gives 50 = .ok (.aload_n 0, 1) := by decide +kernel
theorem dX9_gives_51 : decode cX9_gives 51 = .ok (.getfield 11, 3) := by decide +kernel
theorem dX9_gives_54 : decode cX9_gives 54 = .ok (.iconst 2, 1) := by decide +kernel
theorem dX9_gives_55 : decode cX9_gives 55 = .ok (.iload_n 1, 1) := by decide +kernel
theorem dX9_gives_56 : decode cX9_gives 56 = .ok (.iadd, 1) := by decide +kernel
theorem dX9_gives_57 : decode cX9_gives 57 = .ok (.iaload, 1) := by decide +kernel
theorem dX9_gives_58 : decode cX9_gives 58 = .ok (.aload_n 0, 1) := by decide +kernel
theorem dX9_gives_59 : decode cX9_gives 59 = .ok (.getfield 11, 3) := by decide +kernel
theorem dX9_gives_62 : decode cX9_gives 62 = .ok (.iconst 2, 1) := by decide +kernel
theorem dX9_gives_63 : decode cX9_gives 63 = .ok (.iload_n 1, 1) := by decide +kernel
theorem dX9_gives_64 : decode cX9_gives 64 = .ok (.iadd, 1) := by decide +kernel
theorem dX9_gives_65 : decode cX9_gives 65 = .ok (.iconst 1, 1) := by decide +kernel
theorem dX9_gives_66 : decode cX9_gives 66 = .ok (.iadd, 1) := by decide +kernel
theorem dX9_gives_67 : decode cX9_gives 67 = .ok (.iaload, 1) := by decide +kernel
theorem dX9_gives_68 : decode cX9_gives 68 = .ok (.iconst 1, 1) := by decide +kernel
theorem dX9_gives_69 : decode cX9_gives 69 = .ok (.invokevirtual 155, 3) := by decide +kernel
theorem dX9_gives_72 : decode cX9_gives 72 = .ok (.lneg, 1) := by decide +kernel
theorem dX9_gives_73 : decode cX9_gives 73 = .ok (.ldc2_w 150, 3) := by decide +kernel
theorem dX9_gives_76 : decode cX9_gives 76 = .ok (.iload_n 3, 1) := by decide +kernel
theorem dX9_gives_77 : decode cX9_gives 77 = .ok (.i2l, 1) := by decide +kernel
theorem dX9_gives_78 : decode cX9_gives 78 = .ok (.lmul, 1) := by decide +kernel
theorem dX9_gives_79 : decode cX9_gives 79 = .ok (.invokevirtual 159, 3) := by decide +kernel
theorem dX9_gives_82 : decode cX9_gives 82 = .ok (.iload_n 1, 1) := by decide +kernel
theorem dX9_gives_83 : decode cX9_gives 83 = .ok (.iconst 1, 1) := by decide +kernel
theorem dX9_gives_84 : decode cX9_gives 84 = .ok (.if_icmp .ne 23, 3) := by decide +kernel
theorem dX9_gives_87 : decode cX9_gives 87 = .ok (.aload_n 0, 1) := by decide +kernel
theorem dX9_gives_88 : decode cX9_gives 88 = .ok (.iload_n 2, 1) := by decide +kernel
theorem dX9_gives_89 : decode cX9_gives 89 = .ok (.ineg, 1) := by decide +kernel
theorem dX9_gives_90 : decode cX9_gives 90 = .ok (.i2l, 1) := by decide +kernel
theorem dX9_gives_91 : decode cX9_gives 91 = .ok (.aload_n 0, 1) := by decide +kernel
theorem dX9_gives_92 : decode cX9_gives 92 = .ok (.getfield 25, 3) := by decide +kernel
theorem dX9_gives_95 : decode cX9_gives 95 = .ok (.iconst 0, 1) := by decide +kernel
theorem dX9_gives_96 : decode cX9_gives 96 = .ok (.laload, 1) := by decide +kernel
theorem dX9_gives_97 : decode cX9_gives 97 = .ok (.lmul, 1) := by decide +kernel
theorem dX9_gives_98 : decode cX9_gives 98 = .ok (.aload_n 0, 1) := by decide +kernel
theorem dX9_gives_99 : decode cX9_gives 99 = .ok (.getfield 29, 3) := by decide +kernel
theorem dX9_gives_102 : decode cX9_gives 102 = .ok (.iconst 0, 1) := by decide +kernel
theorem dX9_gives_103 : decode cX9_gives 103 = .ok (.laload, 1) := by decide +kernel
theorem dX9_gives_104 : decode cX9_gives 104 = .ok (.invokevirtual 159, 3) := by decide +kernel
theorem dX9_gives_107 : decode cX9_gives 107 = .ok (.iload_n 1, 1) := by decide +kernel
theorem dX9_gives_108 : decode cX9_gives 108 = .ok (.iconst 1, 1) := by decide +kernel
theorem dX9_gives_109 : decode cX9_gives 109 = .ok (.iadd, 1) := by decide +kernel
theorem dX9_gives_110 : decode cX9_gives 110 = .ok (.aload_n 0, 1) := by decide +kernel
theorem dX9_gives_111 : decode cX9_gives 111 = .ok (.getfield 11, 3) := by decide +kernel
theorem dX9_gives_114 : decode cX9_gives 114 = .ok (.iconst 1, 1) := by decide +kernel
theorem dX9_gives_115 : decode cX9_gives 115 = .ok (.iaload, 1) := by decide +kernel
theorem dX9_gives_116 : decode cX9_gives 116 = .ok (.iconst 1, 1) := by decide +kernel
theorem dX9_gives_117 : decode cX9_gives 117 = .ok (.isub, 1) := by decide +kernel
theorem dX9_gives_118 : decode cX9_gives 118 = .ok (.if_icmp .ne 27, 3) := by decide +kernel
theorem dX9_gives_121 : decode cX9_gives 121 = .ok (.aload_n 0, 1) := by decide +kernel
theorem dX9_gives_122 : decode cX9_gives 122 = .ok (.iload_n 3, 1) := by decide +kernel
theorem dX9_gives_123 : decode cX9_gives 123 = .ok (.ineg, 1) := by decide +kernel
theorem dX9_gives_124 : decode cX9_gives 124 = .ok (.i2l, 1) := by decide +kernel
theorem dX9_gives_125 : decode cX9_gives 125 = .ok (.aload_n 0, 1) := by decide +kernel
theorem dX9_gives_126 : decode cX9_gives 126 = .ok (.getfield 25, 3) := by decide +kernel
theorem dX9_gives_129 : decode cX9_gives 129 = .ok (.iload_n 1, 1) := by decide +kernel
theorem dX9_gives_130 : decode cX9_gives 130 = .ok (.iconst 1, 1) := by decide +kernel
theorem dX9_gives_131 : decode cX9_gives 131 = .ok (.iadd, 1) := by decide +kernel
theorem dX9_gives_132 : decode cX9_gives 132 = .ok (.laload, 1) := by decide +kernel
theorem dX9_gives_133 : decode cX9_gives 133 = .ok (.lmul, 1) := by decide +kernel
theorem dX9_gives_134 : decode cX9_gives 134 = .ok (.aload_n 0, 1) := by decide +kernel
theorem dX9_gives_135 : decode cX9_gives 135 = .ok (.getfield 29, 3) := by decide +kernel
theorem dX9_gives_138 : decode cX9_gives 138 = .ok (.iload_n 1, 1) := by decide +kernel
theorem dX9_gives_139 : decode cX9_gives 139 = .ok (.iconst 1, 1) := by decide +kernel
theorem dX9_gives_140 : decode cX9_gives 140 = .ok (.iadd, 1) := by decide +kernel
theorem dX9_gives_141 : decode cX9_gives 141 = .ok (.laload, 1) := by decide +kernel
theorem dX9_gives_142 : decode cX9_gives 142 = .ok (.invokevirtual 159, 3) := by decide +kernel
theorem dX9_gives_145 : decode cX9_gives 145 = .ok (.aload_n 0, 1) := by decide +kernel
theorem dX9_gives_146 : decode cX9_gives 146 = .ok (.getfield 32, 3) := by decide +kernel
theorem dX9_gives_149 : decode cX9_gives 149 = .ok (.iload_n 1, 1) := by decide +kernel
theorem dX9_gives_150 : decode cX9_gives 150 = .ok (.iconst 1, 1) := by decide +kernel
theorem dX9_gives_151 : decode cX9_gives 151 = .ok (.isub, 1) := by decide +kernel
theorem dX9_gives_152 : decode cX9_gives 152 = .ok (.aload_n 0, 1) := by decide +kernel
theorem dX9_gives_153 : decode cX9_gives 153 = .ok (.getfield 130, 3) := by decide +kernel
theorem dX9_gives_156 : decode cX9_gives 156 = .ok (.lastore, 1) := by decide +kernel
theorem dX9_gives_157 : decode cX9_gives 157 = .ok (.aload_n 0, 1) := by decide +kernel
theorem dX9_gives_158 : decode cX9_gives 158 = .ok (.getfield 35, 3) := by decide +kernel
theorem dX9_gives_161 : decode cX9_gives 161 = .ok (.iload_n 1, 1) := by decide +kernel
theorem dX9_gives_162 : decode cX9_gives 162 = .ok (.iconst 1, 1) := by decide +kernel
theorem dX9_gives_163 : decode cX9_gives 163 = .ok (.isub, 1) := by decide +kernel
theorem dX9_gives_164 : decode cX9_gives 164 = .ok (.aload_n 0, 1) := by decide +kernel
theorem dX9_gives_165 : decode cX9_gives 165 = .ok (.getfield 21, 3) := by decide +kernel
theorem dX9_gives_168 : decode cX9_gives 168 = .ok (.lastore, 1) := by decide +kernel
theorem dX9_gives_169 : decode cX9_gives 169 = .ok (.return_, 1) := by decide +kernel
theorem dX9_keeps_0 : decode cX9_keeps 0 = .ok (.aload_n 0, 1) := by decide +kernel
theorem dX9_keeps_1 : decode cX9_keeps 1 = .ok (.getfield 25, 3) := by decide +kernel
theorem dX9_keeps_4 : decode cX9_keeps 4 = .ok (.iload_n 1, 1) := by decide +kernel
theorem dX9_keeps_5 : decode cX9_keeps 5 = .ok (.aload_n 0, 1) := by decide +kernel
theorem dX9_keeps_6 : decode cX9_keeps 6 = .ok (.getfield 130, 3) := by decide +kernel
theorem dX9_keeps_9 : decode cX9_keeps 9 = .ok (.lastore, 1) := by decide +kernel
theorem dX9_keeps_10 : decode cX9_keeps 10 = .ok (.aload_n 0, 1) := by decide +kernel
theorem dX9_keeps_11 : decode cX9_keeps 11 = .ok (.getfield 29, 3) := by decide +kernel
theorem dX9_keeps_14 : decode cX9_keeps 14 = .ok (.iload_n 1, 1) := by decide +kernel
theorem dX9_keeps_15 : decode cX9_keeps 15 = .ok (.aload_n 0, 1) := by decide +kernel
theorem dX9_keeps_16 : decode cX9_keeps 16 = .ok (.getfield 21, 3) := by decide +kernel
theorem dX9_keeps_19 : decode cX9_keeps 19 = .ok (.lastore, 1) := by decide +kernel
theorem dX9_keeps_20 : decode cX9_keeps 20 = .ok (.return_, 1) := by decide +kernel
theorem dX9_isLoose_0 : decode cX9_isLoose 0 = .ok (.aload_n 0, 1) := by decide +kernel
theorem dX9_isLoose_1 : decode cX9_isLoose 1 = .ok (.getfield 11, 3) := by decide +kernel
theorem dX9_isLoose_4 : decode cX9_isLoose 4 = .ok (.bipush 6, 2) := by decide +kernel
theorem dX9_isLoose_6 : decode cX9_isLoose 6 = .ok (.iload_n 1, 1) := by decide +kernel
theorem dX9_isLoose_7 : decode cX9_isLoose 7 = .ok (.iadd, 1) := by decide +kernel
theorem dX9_isLoose_8 : decode cX9_isLoose 8 = .ok (.iaload, 1) := by decide +kernel
theorem dX9_isLoose_9 : decode cX9_isLoose 9 = .ok (.iconst 1, 1) := by decide +kernel
theorem dX9_isLoose_10 : decode cX9_isLoose 10 = .ok (.if_icmp .ne 7, 3) := by decide +kernel
theorem dX9_isLoose_13 : decode cX9_isLoose 13 = .ok (.iconst 1, 1) := by decide +kernel
theorem dX9_isLoose_14 : decode cX9_isLoose 14 = .ok (.goto 4, 3) := by decide +kernel
theorem dX9_isLoose_17 : decode cX9_isLoose 17 = .ok (.iconst 0, 1) := by decide +kernel
theorem dX9_isLoose_18 : decode cX9_isLoose 18 = .ok (.ireturn, 1) := by decide +kernel
theorem dX9_alone_0 : decode cX9_alone 0 = .ok (.iconst 2, 1) := by decide +kernel
theorem dX9_alone_1 : decode cX9_alone 1 = .ok (.aload_n 0, 1) := by decide +kernel
theorem dX9_alone_2 : decode cX9_alone 2 = .ok (.iload_n 1, 1) := by decide +kernel
theorem dX9_alone_3 : decode cX9_alone 3 = .ok (.iconst 1, 1) := by decide +kernel
theorem dX9_alone_4 : decode cX9_alone 4 = .ok (.isub, 1) := by decide +kernel
theorem dX9_alone_5 : decode cX9_alone 5 = .ok (.invokevirtual 152, 3) := by decide +kernel
theorem dX9_alone_8 : decode cX9_alone 8 = .ok (.aload_n 0, 1) := by decide +kernel
theorem dX9_alone_9 : decode cX9_alone 9 = .ok (.iload_n 1, 1) := by decide +kernel
theorem dX9_alone_10 : decode cX9_alone 10 = .ok (.invokevirtual 152, 3) := by decide +kernel
theorem dX9_alone_13 : decode cX9_alone 13 = .ok (.iadd, 1) := by decide +kernel
theorem dX9_alone_14 : decode cX9_alone 14 = .ok (.imul, 1) := by decide +kernel
theorem dX9_alone_15 : decode cX9_alone 15 = .ok (.istore_n 2, 1) := by decide +kernel
theorem dX9_alone_16 : decode cX9_alone 16 = .ok (.aload_n 0, 1) := by decide +kernel
theorem dX9_alone_17 : decode cX9_alone 17 = .ok (.aload_n 0, 1) := by decide +kernel
theorem dX9_alone_18 : decode cX9_alone 18 = .ok (.iload_n 1, 1) := by decide +kernel
theorem dX9_alone_19 : decode cX9_alone 19 = .ok (.invokevirtual 162, 3) := by decide +kernel
theorem dX9_alone_22 : decode cX9_alone 22 = .ok (.ifCond .eq 7, 3) := by decide +kernel
theorem dX9_alone_25 : decode cX9_alone 25 = .ok (.lconst 0, 1) := by decide +kernel
theorem dX9_alone_26 : decode cX9_alone 26 = .ok (.goto 11, 3) := by decide +kernel
theorem dX9_alone_29 : decode cX9_alone 29 = .ok (.aload_n 0, 1) := by decide +kernel
theorem dX9_alone_30 : decode cX9_alone 30 = .ok (.getfield 32, 3) := by decide +kernel
theorem dX9_alone_33 : decode cX9_alone 33 = .ok (.iload_n 1, 1) := by decide +kernel
theorem dX9_alone_34 : decode cX9_alone 34 = .ok (.iconst 1, 1) := by decide +kernel
theorem dX9_alone_35 : decode cX9_alone 35 = .ok (.isub, 1) := by decide +kernel
theorem dX9_alone_36 : decode cX9_alone 36 = .ok (.laload, 1) := by decide +kernel
theorem dX9_alone_37 : decode cX9_alone 37 = .ok (.aload_n 0, 1) := by decide +kernel
theorem dX9_alone_38 : decode cX9_alone 38 = .ok (.iload_n 1, 1) := by decide +kernel
theorem dX9_alone_39 : decode cX9_alone 39 = .ok (.invokevirtual 162, 3) := by decide +kernel
theorem dX9_alone_42 : decode cX9_alone 42 = .ok (.ifCond .eq 7, 3) := by decide +kernel
theorem dX9_alone_45 : decode cX9_alone 45 = .ok (.lconst 1, 1) := by decide +kernel
theorem dX9_alone_46 : decode cX9_alone 46 = .ok (.goto 14, 3) := by decide +kernel
theorem dX9_alone_49 : decode cX9_alone 49 = .ok (.aload_n 0, 1) := by decide +kernel
theorem dX9_alone_50 : decode cX9_alone 50 = .ok (.getfield 35, 3) := by decide +kernel
theorem dX9_alone_53 : decode cX9_alone 53 = .ok (.iload_n 1, 1) := by decide +kernel
theorem dX9_alone_54 : decode cX9_alone 54 = .ok (.iconst 1, 1) := by decide +kernel
theorem dX9_alone_55 : decode cX9_alone 55 = .ok (.isub, 1) := by decide +kernel
theorem dX9_alone_56 : decode cX9_alone 56 = .ok (.laload, 1) := by decide +kernel
theorem dX9_alone_57 : decode cX9_alone 57 = .ok (.iload_n 2, 1) := by decide +kernel
theorem dX9_alone_58 : decode cX9_alone 58 = .ok (.i2l, 1) := by decide +kernel
theorem dX9_alone_59 : decode cX9_alone 59 = .ok (.lmul, 1) := by decide +kernel
theorem dX9_alone_60 : decode cX9_alone 60 = .ok (.invokevirtual 133, 3) := by decide +kernel
theorem dX9_alone_63 : decode cX9_alone 63 = .ok (.aload_n 0, 1) := by decide +kernel
theorem dX9_alone_64 : decode cX9_alone 64 = .ok (.iload_n 1, 1) := by decide +kernel
theorem dX9_alone_65 : decode cX9_alone 65 = .ok (.invokevirtual 165, 3) := by decide +kernel
theorem dX9_alone_68 : decode cX9_alone 68 = .ok (.return_, 1) := by decide +kernel
theorem dX9_moments_0 : decode cX9_moments 0 = .ok (.aload_n 0, 1) := by decide +kernel
theorem dX9_moments_1 : decode cX9_moments 1 = .ok (.getfield 11, 3) := by decide +kernel
theorem dX9_moments_4 : decode cX9_moments 4 = .ok (.iconst 1, 1) := by decide +kernel
theorem dX9_moments_5 : decode cX9_moments 5 = .ok (.iaload, 1) := by decide +kernel
theorem dX9_moments_6 : decode cX9_moments 6 = .ok (.istore_n 1, 1) := by decide +kernel
theorem dX9_moments_7 : decode cX9_moments 7 = .ok (.aload_n 0, 1) := by decide +kernel
theorem dX9_moments_8 : decode cX9_moments 8 = .ok (.aload_n 0, 1) := by decide +kernel
theorem dX9_moments_9 : decode cX9_moments 9 = .ok (.aload_n 0, 1) := by decide +kernel
theorem dX9_moments_10 : decode cX9_moments 10 = .ok (.getfield 11, 3) := by decide +kernel
theorem dX9_moments_13 : decode cX9_moments 13 = .ok (.iconst 2, 1) := by decide +kernel
theorem dX9_moments_14 : decode cX9_moments 14 = .ok (.iaload, 1) := by decide +kernel
theorem dX9_moments_15 : decode cX9_moments 15 = .ok (.iconst 1, 1) := by decide +kernel
theorem dX9_moments_16 : decode cX9_moments 16 = .ok (.invokevirtual 169, 3) := by decide +kernel
theorem dX9_moments_19 : decode cX9_moments 19 = .ok (.ldc2_w 86, 3) := by decide +kernel
theorem dX9_moments_22 : decode cX9_moments 22 = .ok (.invokevirtual 133, 3) := by decide +kernel
theorem dX9_moments_25 : decode cX9_moments 25 = .ok (.aload_n 0, 1) := by decide +kernel
theorem dX9_moments_26 : decode cX9_moments 26 = .ok (.iconst 0, 1) := by decide +kernel
theorem dX9_moments_27 : decode cX9_moments 27 = .ok (.invokevirtual 165, 3) := by decide +kernel
theorem dX9_moments_30 : decode cX9_moments 30 = .ok (.aload_n 0, 1) := by decide +kernel
theorem dX9_moments_31 : decode cX9_moments 31 = .ok (.aload_n 0, 1) := by decide +kernel
theorem dX9_moments_32 : decode cX9_moments 32 = .ok (.aload_n 0, 1) := by decide +kernel
theorem dX9_moments_33 : decode cX9_moments 33 = .ok (.getfield 11, 3) := by decide +kernel
theorem dX9_moments_36 : decode cX9_moments 36 = .ok (.iconst 2, 1) := by decide +kernel
theorem dX9_moments_37 : decode cX9_moments 37 = .ok (.iload_n 1, 1) := by decide +kernel
theorem dX9_moments_38 : decode cX9_moments 38 = .ok (.iadd, 1) := by decide +kernel
theorem dX9_moments_39 : decode cX9_moments 39 = .ok (.iconst 1, 1) := by decide +kernel
theorem dX9_moments_40 : decode cX9_moments 40 = .ok (.isub, 1) := by decide +kernel
theorem dX9_moments_41 : decode cX9_moments 41 = .ok (.iaload, 1) := by decide +kernel
theorem dX9_moments_42 : decode cX9_moments 42 = .ok (.iconst 0, 1) := by decide +kernel
theorem dX9_moments_43 : decode cX9_moments 43 = .ok (.invokevirtual 169, 3) := by decide +kernel
theorem dX9_moments_46 : decode cX9_moments 46 = .ok (.ldc2_w 86, 3) := by decide +kernel
theorem dX9_moments_49 : decode cX9_moments 49 = .ok (.invokevirtual 133, 3) := by decide +kernel
theorem dX9_moments_52 : decode cX9_moments 52 = .ok (.aload_n 0, 1) := by decide +kernel
theorem dX9_moments_53 : decode cX9_moments 53 = .ok (.iload_n 1, 1) := by decide +kernel
theorem dX9_moments_54 : decode cX9_moments 54 = .ok (.iconst 1, 1) := by decide +kernel
theorem dX9_moments_55 : decode cX9_moments 55 = .ok (.isub, 1) := by decide +kernel
theorem dX9_moments_56 : decode cX9_moments 56 = .ok (.invokevirtual 165, 3) := by decide +kernel
theorem dX9_moments_59 : decode cX9_moments 59 = .ok (.iconst 1, 1) := by decide +kernel
theorem dX9_moments_60 : decode cX9_moments 60 = .ok (.istore_n 2, 1) := by decide +kernel
theorem dX9_moments_61 : decode cX9_moments 61 = .ok (.iload_n 2, 1) := by decide +kernel
theorem dX9_moments_62 : decode cX9_moments 62 = .ok (.iload_n 1, 1) := by decide +kernel
theorem dX9_moments_63 : decode cX9_moments 63 = .ok (.iconst 1, 1) := by decide +kernel
theorem dX9_moments_64 : decode cX9_moments 64 = .ok (.isub, 1) := by decide +kernel
theorem dX9_moments_65 : decode cX9_moments 65 = .ok (.if_icmp .ge 14, 3) := by decide +kernel
theorem dX9_moments_68 : decode cX9_moments 68 = .ok (.aload_n 0, 1) := by decide +kernel
theorem dX9_moments_69 : decode cX9_moments 69 = .ok (.iload_n 2, 1) := by decide +kernel
theorem dX9_moments_70 : decode cX9_moments 70 = .ok (.invokevirtual 173, 3) := by decide +kernel
theorem dX9_moments_73 : decode cX9_moments 73 = .ok (.iinc 2 1, 3) := by decide +kernel
theorem dX9_moments_76 : decode cX9_moments 76 = .ok (.goto (-15), 3) := by decide +kernel
theorem dX9_moments_79 : decode cX9_moments 79 = .ok (.iload_n 1, 1) := by decide +kernel
theorem dX9_moments_80 : decode cX9_moments 80 = .ok (.iconst 3, 1) := by decide +kernel
theorem dX9_moments_81 : decode cX9_moments 81 = .ok (.if_icmp .eq 24, 3) := by decide +kernel
theorem dX9_moments_84 : decode cX9_moments 84 = .ok (.iload_n 1, 1) := by decide +kernel
theorem dX9_moments_85 : decode cX9_moments 85 = .ok (.iconst 4, 1) := by decide +kernel
theorem dX9_moments_86 : decode cX9_moments 86 = .ok (.if_icmp .ne 42, 3) := by decide +kernel
theorem dX9_moments_89 : decode cX9_moments 89 = .ok (.aload_n 0, 1) := by decide +kernel
theorem dX9_moments_90 : decode cX9_moments 90 = .ok (.iconst 1, 1) := by decide +kernel
theorem dX9_moments_91 : decode cX9_moments 91 = .ok (.invokevirtual 162, 3) := by decide +kernel
theorem dX9_moments_94 : decode cX9_moments 94 = .ok (.ifCond .ne 11, 3) := by decide +kernel
theorem dX9_moments_97 : decode cX9_moments 97 = .ok (.aload_n 0, 1) := by decide +kernel
theorem dX9_moments_98 : decode cX9_moments 98 = .ok (.iconst 2, 1) := by decide +kernel
theorem dX9_moments_99 : decode cX9_moments 99 = .ok (.invokevirtual 162, 3) := by decide +kernel
theorem dX9_moments_102 : decode cX9_moments 102 = .ok (.ifCond .eq 26, 3) := by decide +kernel
theorem dX9_moments_105 : decode cX9_moments 105 = .ok (.iconst 1, 1) := by decide +kernel
theorem dX9_moments_106 : decode cX9_moments 106 = .ok (.istore_n 2, 1) := by decide +kernel
theorem dX9_moments_107 : decode cX9_moments 107 = .ok (.iload_n 2, 1) := by decide +kernel
theorem dX9_moments_108 : decode cX9_moments 108 = .ok (.iload_n 1, 1) := by decide +kernel
theorem dX9_moments_109 : decode cX9_moments 109 = .ok (.iconst 1, 1) := by decide +kernel
theorem dX9_moments_110 : decode cX9_moments 110 = .ok (.isub, 1) := by decide +kernel
theorem dX9_moments_111 : decode cX9_moments 111 = .ok (.if_icmp .ge 14, 3) := by decide +kernel
theorem dX9_moments_114 : decode cX9_moments 114 = .ok (.aload_n 0, 1) := by decide +kernel
theorem dX9_moments_115 : decode cX9_moments 115 = .ok (.iload_n 2, 1) := by decide +kernel
theorem dX9_moments_116 : decode cX9_moments 116 = .ok (.invokevirtual 176, 3) := by decide +kernel
theorem dX9_moments_119 : decode cX9_moments 119 = .ok (.iinc 2 1, 3) := by decide +kernel
theorem dX9_moments_122 : decode cX9_moments 122 = .ok (.goto (-15), 3) := by decide +kernel
theorem dX9_moments_125 : decode cX9_moments 125 = .ok (.goto 162, 3) := by decide +kernel
theorem dX9_moments_128 : decode cX9_moments 128 = .ok (.iload_n 1, 1) := by decide +kernel
theorem dX9_moments_129 : decode cX9_moments 129 = .ok (.iconst 4, 1) := by decide +kernel
theorem dX9_moments_130 : decode cX9_moments 130 = .ok (.if_icmp .ne 157, 3) := by decide +kernel
theorem dX9_moments_133 : decode cX9_moments 133 = .ok (.ldc2_w 86, 3) := by decide +kernel
theorem dX9_moments_136 : decode cX9_moments 136 = .ok (.aload_n 0, 1) := by decide +kernel
theorem dX9_moments_137 : decode cX9_moments 137 = .ok (.iconst 0, 1) := by decide +kernel
theorem dX9_moments_138 : decode cX9_moments 138 = .ok (.invokevirtual 152, 3) := by decide +kernel
theorem dX9_moments_141 : decode cX9_moments 141 = .ok (.aload_n 0, 1) := by decide +kernel
theorem dX9_moments_142 : decode cX9_moments 142 = .ok (.iconst 1, 1) := by decide +kernel
theorem dX9_moments_143 : decode cX9_moments 143 = .ok (.invokevirtual 152, 3) := by decide +kernel
theorem dX9_moments_146 : decode cX9_moments 146 = .ok (.iadd, 1) := by decide +kernel
theorem dX9_moments_147 : decode cX9_moments 147 = .ok (.i2l, 1) := by decide +kernel
theorem dX9_moments_148 : decode cX9_moments 148 = .ok (.lmul, 1) := by decide +kernel
theorem dX9_moments_149 : decode cX9_moments 149 = .ok (.lstore_n 2, 1) := by decide +kernel
theorem dX9_moments_150 : decode cX9_moments 150 = .ok (.aload_n 0, 1) := by decide +kernel
theorem dX9_moments_151 : decode cX9_moments 151 = .ok (.iconst 1, 1) := by decide +kernel
theorem dX9_moments_152 : decode cX9_moments 152 = .ok (.invokevirtual 152, 3) := by decide +kernel
theorem dX9_moments_155 : decode cX9_moments 155 = .ok (.i2l, 1) := by decide +kernel
theorem dX9_moments_156 : decode cX9_moments 156 = .ok (.lstore 4, 2) := by decide +kernel
theorem dX9_moments_158 : decode cX9_moments 158 = .ok (.ldc2_w 86, 3) := by decide +kernel
theorem dX9_moments_161 : decode cX9_moments 161 = .ok (.aload_n 0, 1) := by decide +kernel
theorem dX9_moments_162 : decode cX9_moments 162 = .ok (.iconst 1, 1) := by decide +kernel
theorem dX9_moments_163 : decode cX9_moments 163 = .ok (.invokevirtual 152, 3) := by decide +kernel
theorem dX9_moments_166 : decode cX9_moments 166 = .ok (.aload_n 0, 1) := by decide +kernel
theorem dX9_moments_167 : decode cX9_moments 167 = .ok (.iconst 2, 1) := by decide +kernel
theorem dX9_moments_168 : decode cX9_moments 168 = .ok (.invokevirtual 152, 3) := by decide +kernel
theorem dX9_moments_171 : decode cX9_moments 171 = .ok (.iadd, 1) := by decide +kernel
theorem dX9_moments_172 : decode cX9_moments 172 = .ok (.i2l, 1) := by decide +kernel
theorem dX9_moments_173 : decode cX9_moments 173 = .ok (.lmul, 1) := by decide +kernel
theorem dX9_moments_174 : decode cX9_moments 174 = .ok (.lstore 6, 2) := by decide +kernel
theorem dX9_moments_176 : decode cX9_moments 176 = .ok (.lload_n 2, 1) := by decide +kernel
theorem dX9_moments_177 : decode cX9_moments 177 = .ok (.lload 6, 2) := by decide +kernel
theorem dX9_moments_179 : decode cX9_moments 179 = .ok (.lmul, 1) := by decide +kernel
theorem dX9_moments_180 : decode cX9_moments 180 = .ok (.lload 4, 2) := by decide +kernel
theorem dX9_moments_182 : decode cX9_moments 182 = .ok (.lload 4, 2) := by decide +kernel
theorem dX9_moments_184 : decode cX9_moments 184 = .ok (.lmul, 1) := by decide +kernel
theorem dX9_moments_185 : decode cX9_moments 185 = .ok (.lsub, 1) := by decide +kernel
theorem dX9_moments_186 : decode cX9_moments 186 = .ok (.lstore 8, 2) := by decide +kernel
theorem dX9_moments_188 : decode cX9_moments 188 = .ok (.aload_n 0, 1) := by decide +kernel
theorem dX9_moments_189 : decode cX9_moments 189 = .ok (.lload 6, 2) := by decide +kernel
theorem dX9_moments_191 : decode cX9_moments 191 = .ok (.aload_n 0, 1) := by decide +kernel
theorem dX9_moments_192 : decode cX9_moments 192 = .ok (.getfield 32, 3) := by decide +kernel
theorem dX9_moments_195 : decode cX9_moments 195 = .ok (.iconst 0, 1) := by decide +kernel
theorem dX9_moments_196 : decode cX9_moments 196 = .ok (.laload, 1) := by decide +kernel
theorem dX9_moments_197 : decode cX9_moments 197 = .ok (.lmul, 1) := by decide +kernel
theorem dX9_moments_198 : decode cX9_moments 198 = .ok (.aload_n 0, 1) := by decide +kernel
theorem dX9_moments_199 : decode cX9_moments 199 = .ok (.getfield 35, 3) := by decide +kernel
theorem dX9_moments_202 : decode cX9_moments 202 = .ok (.iconst 0, 1) := by decide +kernel
theorem dX9_moments_203 : decode cX9_moments 203 = .ok (.laload, 1) := by decide +kernel
theorem dX9_moments_204 : decode cX9_moments 204 = .ok (.lload 8, 2) := by decide +kernel
theorem dX9_moments_206 : decode cX9_moments 206 = .ok (.lmul, 1) := by decide +kernel
theorem dX9_moments_207 : decode cX9_moments 207 = .ok (.invokevirtual 133, 3) := by decide +kernel
theorem dX9_moments_210 : decode cX9_moments 210 = .ok (.aload_n 0, 1) := by decide +kernel
theorem dX9_moments_211 : decode cX9_moments 211 = .ok (.lload 4, 2) := by decide +kernel
theorem dX9_moments_213 : decode cX9_moments 213 = .ok (.lneg, 1) := by decide +kernel
theorem dX9_moments_214 : decode cX9_moments 214 = .ok (.aload_n 0, 1) := by decide +kernel
theorem dX9_moments_215 : decode cX9_moments 215 = .ok (.getfield 32, 3) := by decide +kernel
theorem dX9_moments_218 : decode cX9_moments 218 = .ok (.iconst 1, 1) := by decide +kernel
theorem dX9_moments_219 : decode cX9_moments 219 = .ok (.laload, 1) := by decide +kernel
theorem dX9_moments_220 : decode cX9_moments 220 = .ok (.lmul, 1) := by decide +kernel
theorem dX9_moments_221 : decode cX9_moments 221 = .ok (.aload_n 0, 1) := by decide +kernel
theorem dX9_moments_222 : decode cX9_moments 222 = .ok (.getfield 35, 3) := by decide +kernel
theorem dX9_moments_225 : decode cX9_moments 225 = .ok (.iconst 1, 1) := by decide +kernel
theorem dX9_moments_226 : decode cX9_moments 226 = .ok (.laload, 1) := by decide +kernel
theorem dX9_moments_227 : decode cX9_moments 227 = .ok (.lload 8, 2) := by decide +kernel
theorem dX9_moments_229 : decode cX9_moments 229 = .ok (.lmul, 1) := by decide +kernel
theorem dX9_moments_230 : decode cX9_moments 230 = .ok (.invokevirtual 159, 3) := by decide +kernel
theorem dX9_moments_233 : decode cX9_moments 233 = .ok (.aload_n 0, 1) := by decide +kernel
theorem dX9_moments_234 : decode cX9_moments 234 = .ok (.iconst 1, 1) := by decide +kernel
theorem dX9_moments_235 : decode cX9_moments 235 = .ok (.invokevirtual 165, 3) := by decide +kernel
theorem dX9_moments_238 : decode cX9_moments 238 = .ok (.aload_n 0, 1) := by decide +kernel
theorem dX9_moments_239 : decode cX9_moments 239 = .ok (.lload_n 2, 1) := by decide +kernel
theorem dX9_moments_240 : decode cX9_moments 240 = .ok (.aload_n 0, 1) := by decide +kernel
theorem dX9_moments_241 : decode cX9_moments 241 = .ok (.getfield 32, 3) := by decide +kernel
theorem dX9_moments_244 : decode cX9_moments 244 = .ok (.iconst 1, 1) := by decide +kernel
theorem dX9_moments_245 : decode cX9_moments 245 = .ok (.laload, 1) := by decide +kernel
theorem dX9_moments_246 : decode cX9_moments 246 = .ok (.lmul, 1) := by decide +kernel
theorem dX9_moments_247 : decode cX9_moments 247 = .ok (.aload_n 0, 1) := by decide +kernel
theorem dX9_moments_248 : decode cX9_moments 248 = .ok (.getfield 35, 3) := by decide +kernel
theorem dX9_moments_251 : decode cX9_moments 251 = .ok (.iconst 1, 1) := by decide +kernel
theorem dX9_moments_252 : decode cX9_moments 252 = .ok (.laload, 1) := by decide +kernel
theorem dX9_moments_253 : decode cX9_moments 253 = .ok (.lload 8, 2) := by decide +kernel
theorem dX9_moments_255 : decode cX9_moments 255 = .ok (.lmul, 1) := by decide +kernel
theorem dX9_moments_256 : decode cX9_moments 256 = .ok (.invokevirtual 133, 3) := by decide +kernel
theorem dX9_moments_259 : decode cX9_moments 259 = .ok (.aload_n 0, 1) := by decide +kernel
theorem dX9_moments_260 : decode cX9_moments 260 = .ok (.lload 4, 2) := by decide +kernel
theorem dX9_moments_262 : decode cX9_moments 262 = .ok (.lneg, 1) := by decide +kernel
theorem dX9_moments_263 : decode cX9_moments 263 = .ok (.aload_n 0, 1) := by decide +kernel
theorem dX9_moments_264 : decode cX9_moments 264 = .ok (.getfield 32, 3) := by decide +kernel
theorem dX9_moments_267 : decode cX9_moments 267 = .ok (.iconst 0, 1) := by decide +kernel
theorem dX9_moments_268 : decode cX9_moments 268 = .ok (.laload, 1) := by decide +kernel
theorem dX9_moments_269 : decode cX9_moments 269 = .ok (.lmul, 1) := by decide +kernel
theorem dX9_moments_270 : decode cX9_moments 270 = .ok (.aload_n 0, 1) := by decide +kernel
theorem dX9_moments_271 : decode cX9_moments 271 = .ok (.getfield 35, 3) := by decide +kernel
theorem dX9_moments_274 : decode cX9_moments 274 = .ok (.iconst 0, 1) := by decide +kernel
theorem dX9_moments_275 : decode cX9_moments 275 = .ok (.laload, 1) := by decide +kernel
theorem dX9_moments_276 : decode cX9_moments 276 = .ok (.lload 8, 2) := by decide +kernel
theorem dX9_moments_278 : decode cX9_moments 278 = .ok (.lmul, 1) := by decide +kernel
theorem dX9_moments_279 : decode cX9_moments 279 = .ok (.invokevirtual 159, 3) := by decide +kernel
theorem dX9_moments_282 : decode cX9_moments 282 = .ok (.aload_n 0, 1) := by decide +kernel
theorem dX9_moments_283 : decode cX9_moments 283 = .ok (.iconst 2, 1) := by decide +kernel
theorem dX9_moments_284 : decode cX9_moments 284 = .ok (.invokevirtual 165, 3) := by decide +kernel
theorem dX9_moments_287 : decode cX9_moments 287 = .ok (.return_, 1) := by decide +kernel
theorem dX9_bears_0 : decode cX9_bears 0 = .ok (.iload_n 2, 1) := by decide +kernel
theorem dX9_bears_1 : decode cX9_bears 1 = .ok (.iload_n 1, 1) := by decide +kernel
theorem dX9_bears_2 : decode cX9_bears 2 = .ok (.isub, 1) := by decide +kernel
theorem dX9_bears_3 : decode cX9_bears 3 = .ok (.istore 4, 2) := by decide +kernel
theorem dX9_bears_5 : decode cX9_bears 5 = .ok (.iconst 0, 1) := by decide +kernel
theorem dX9_bears_6 : decode cX9_bears 6 = .ok (.istore 5, 2) := by decide +kernel
theorem dX9_bears_8 : decode cX9_bears 8 = .ok (.iload 5, 2) := by decide +kernel
theorem dX9_bears_10 : decode cX9_bears 10 = .ok (.aload_n 0, 1) := by decide +kernel
theorem dX9_bears_11 : decode cX9_bears 11 = .ok (.getfield 11, 3) := by decide +kernel
theorem dX9_bears_14 : decode cX9_bears 14 = .ok (.bipush 10, 2) := by decide +kernel
theorem dX9_bears_16 : decode cX9_bears 16 = .ok (.iaload, 1) := by decide +kernel
theorem dX9_bears_17 : decode cX9_bears 17 = .ok (.if_icmp .ge 215, 3) := by decide +kernel
theorem dX9_bears_20 : decode cX9_bears 20 = .ok (.aload_n 0, 1) := by decide +kernel
theorem dX9_bears_21 : decode cX9_bears 21 = .ok (.getfield 11, 3) := by decide +kernel
theorem dX9_bears_24 : decode cX9_bears 24 = .ok (.bipush 11, 2) := by decide +kernel
theorem dX9_bears_26 : decode cX9_bears 26 = .ok (.iload 5, 2) := by decide +kernel
theorem dX9_bears_28 : decode cX9_bears 28 = .ok (.iadd, 1) := by decide +kernel
theorem dX9_bears_29 : decode cX9_bears 29 = .ok (.iaload, 1) := by decide +kernel
theorem dX9_bears_30 : decode cX9_bears 30 = .ok (.iload_n 1, 1) := by decide +kernel
theorem dX9_bears_31 : decode cX9_bears 31 = .ok (.invokestatic 137, 3) := by decide +kernel
theorem dX9_bears_34 : decode cX9_bears 34 = .ok (.istore 6, 2) := by decide +kernel
theorem dX9_bears_36 : decode cX9_bears 36 = .ok (.aload_n 0, 1) := by decide +kernel
theorem dX9_bears_37 : decode cX9_bears 37 = .ok (.getfield 11, 3) := by decide +kernel
theorem dX9_bears_40 : decode cX9_bears 40 = .ok (.bipush 17, 2) := by decide +kernel
theorem dX9_bears_42 : decode cX9_bears 42 = .ok (.iload 5, 2) := by decide +kernel
theorem dX9_bears_44 : decode cX9_bears 44 = .ok (.iadd, 1) := by decide +kernel
theorem dX9_bears_45 : decode cX9_bears 45 = .ok (.iaload, 1) := by decide +kernel
theorem dX9_bears_46 : decode cX9_bears 46 = .ok (.iload_n 2, 1) := by decide +kernel
theorem dX9_bears_47 : decode cX9_bears 47 = .ok (.invokestatic 141, 3) := by decide +kernel
theorem dX9_bears_50 : decode cX9_bears 50 = .ok (.istore 7, 2) := by decide +kernel
theorem dX9_bears_52 : decode cX9_bears 52 = .ok (.aload_n 0, 1) := by decide +kernel
theorem dX9_bears_53 : decode cX9_bears 53 = .ok (.getfield 11, 3) := by decide +kernel
theorem dX9_bears_56 : decode cX9_bears 56 = .ok (.bipush 23, 2) := by decide +kernel
theorem dX9_bears_58 : decode cX9_bears 58 = .ok (.iload 5, 2) := by decide +kernel
theorem dX9_bears_60 : decode cX9_bears 60 = .ok (.iadd, 1) := by decide +kernel
theorem dX9_bears_61 : decode cX9_bears 61 = .ok (.iaload, 1) := by decide +kernel
theorem dX9_bears_62 : decode cX9_bears 62 = .ok (.i2l, 1) := by decide +kernel
theorem dX9_bears_63 : decode cX9_bears 63 = .ok (.lstore 8, 2) := by decide +kernel
theorem dX9_bears_65 : decode cX9_bears 65 = .ok (.aload_n 0, 1) := by decide +kernel
theorem dX9_bears_66 : decode cX9_bears 66 = .ok (.iload 5, 2) := by decide +kernel
theorem dX9_bears_68 : decode cX9_bears 68 = .ok (.invokevirtual 144, 3) := by decide +kernel
theorem dX9_bears_71 : decode cX9_bears 71 = .ok (.ifCond .eq 76, 3) := by decide +kernel
theorem dX9_bears_74 : decode cX9_bears 74 = .ok (.iload 6, 2) := by decide +kernel
theorem dX9_bears_76 : decode cX9_bears 76 = .ok (.iload 7, 2) := by decide +kernel
theorem dX9_bears_78 : decode cX9_bears 78 = .ok (.if_icmp .ge 69, 3) := by decide +kernel
theorem dX9_bears_81 : decode cX9_bears 81 = .ok (.iload_n 3, 1) := by decide +kernel
theorem dX9_bears_82 : decode cX9_bears 82 = .ok (.ifCond .eq 11, 3) := by decide +kernel
theorem dX9_bears_85 : decode cX9_bears 85 = .ok (.iload 7, 2) := by decide +kernel
theorem dX9_bears_87 : decode cX9_bears 87 = .ok (.iload_n 1, 1) := by decide +kernel
theorem dX9_bears_88 : decode cX9_bears 88 = .ok (.isub, 1) := by decide +kernel
theorem dX9_bears_89 : decode cX9_bears 89 = .ok (.i2l, 1) := by decide +kernel
theorem dX9_bears_90 : decode cX9_bears 90 = .ok (.goto 8, 3) := by decide +kernel
theorem dX9_bears_93 : decode cX9_bears 93 = .ok (.iload_n 2, 1) := by decide +kernel
theorem dX9_bears_94 : decode cX9_bears 94 = .ok (.iload 6, 2) := by decide +kernel
theorem dX9_bears_96 : decode cX9_bears 96 = .ok (.isub, 1) := by decide +kernel
theorem dX9_bears_97 : decode cX9_bears 97 = .ok (.i2l, 1) := by decide +kernel
theorem dX9_bears_98 : decode cX9_bears 98 = .ok (.lstore 10, 2) := by decide +kernel
theorem dX9_bears_100 : decode cX9_bears 100 = .ok (.iload_n 3, 1) := by decide +kernel
theorem dX9_bears_101 : decode cX9_bears 101 = .ok (.ifCond .eq 11, 3) := by decide +kernel
theorem dX9_bears_104 : decode cX9_bears 104 = .ok (.iload 6, 2) := by decide +kernel
theorem dX9_bears_106 : decode cX9_bears 106 = .ok (.iload_n 1, 1) := by decide +kernel
theorem dX9_bears_107 : decode cX9_bears 107 = .ok (.isub, 1) := by decide +kernel
theorem dX9_bears_108 : decode cX9_bears 108 = .ok (.i2l, 1) := by decide +kernel
theorem dX9_bears_109 : decode cX9_bears 109 = .ok (.goto 8, 3) := by decide +kernel
theorem dX9_bears_112 : decode cX9_bears 112 = .ok (.iload_n 2, 1) := by decide +kernel
theorem dX9_bears_113 : decode cX9_bears 113 = .ok (.iload 7, 2) := by decide +kernel
theorem dX9_bears_115 : decode cX9_bears 115 = .ok (.isub, 1) := by decide +kernel
theorem dX9_bears_116 : decode cX9_bears 116 = .ok (.i2l, 1) := by decide +kernel
theorem dX9_bears_117 : decode cX9_bears 117 = .ok (.lstore 12, 2) := by decide +kernel
theorem dX9_bears_119 : decode cX9_bears 119 = .ok (.aload_n 0, 1) := by decide +kernel
theorem dX9_bears_120 : decode cX9_bears 120 = .ok (.lload 8, 2) := by decide +kernel
theorem dX9_bears_122 : decode cX9_bears 122 = .ok (.lload 10, 2) := by decide +kernel
theorem dX9_bears_124 : decode cX9_bears 124 = .ok (.lload 10, 2) := by decide +kernel
theorem dX9_bears_126 : decode cX9_bears 126 = .ok (.lmul, 1) := by decide +kernel
theorem dX9_bears_127 : decode cX9_bears 127 = .ok (.lload 12, 2) := by decide +kernel
theorem dX9_bears_129 : decode cX9_bears 129 = .ok (.lload 12, 2) := by decide +kernel
theorem dX9_bears_131 : decode cX9_bears 131 = .ok (.lmul, 1) := by decide +kernel
theorem dX9_bears_132 : decode cX9_bears 132 = .ok (.lsub, 1) := by decide +kernel
theorem dX9_bears_133 : decode cX9_bears 133 = .ok (.lmul, 1) := by decide +kernel
theorem dX9_bears_134 : decode cX9_bears 134 = .ok (.ldc2_w 86, 3) := by decide +kernel
theorem dX9_bears_137 : decode cX9_bears 137 = .ok (.iload 4, 2) := by decide +kernel
theorem dX9_bears_139 : decode cX9_bears 139 = .ok (.i2l, 1) := by decide +kernel
theorem dX9_bears_140 : decode cX9_bears 140 = .ok (.lmul, 1) := by decide +kernel
theorem dX9_bears_141 : decode cX9_bears 141 = .ok (.invokevirtual 159, 3) := by decide +kernel
theorem dX9_bears_144 : decode cX9_bears 144 = .ok (.goto 82, 3) := by decide +kernel
theorem dX9_bears_147 : decode cX9_bears 147 = .ok (.aload_n 0, 1) := by decide +kernel
theorem dX9_bears_148 : decode cX9_bears 148 = .ok (.iload 5, 2) := by decide +kernel
theorem dX9_bears_150 : decode cX9_bears 150 = .ok (.invokevirtual 144, 3) := by decide +kernel
theorem dX9_bears_153 : decode cX9_bears 153 = .ok (.ifCond .ne 73, 3) := by decide +kernel
theorem dX9_bears_156 : decode cX9_bears 156 = .ok (.aload_n 0, 1) := by decide +kernel
theorem dX9_bears_157 : decode cX9_bears 157 = .ok (.getfield 11, 3) := by decide +kernel
theorem dX9_bears_160 : decode cX9_bears 160 = .ok (.bipush 11, 2) := by decide +kernel
theorem dX9_bears_162 : decode cX9_bears 162 = .ok (.iload 5, 2) := by decide +kernel
theorem dX9_bears_164 : decode cX9_bears 164 = .ok (.iadd, 1) := by decide +kernel
theorem dX9_bears_165 : decode cX9_bears 165 = .ok (.iaload, 1) := by decide +kernel
theorem dX9_bears_166 : decode cX9_bears 166 = .ok (.iload_n 1, 1) := by decide +kernel
theorem dX9_bears_167 : decode cX9_bears 167 = .ok (.if_icmp .le 59, 3) := by decide +kernel
theorem dX9_bears_170 : decode cX9_bears 170 = .ok (.aload_n 0, 1) := by decide +kernel
theorem dX9_bears_171 : decode cX9_bears 171 = .ok (.getfield 11, 3) := by decide +kernel
theorem dX9_bears_174 : decode cX9_bears 174 = .ok (.bipush 11, 2) := by decide +kernel
theorem dX9_bears_176 : decode cX9_bears 176 = .ok (.iload 5, 2) := by decide +kernel
theorem dX9_bears_178 : decode cX9_bears 178 = .ok (.iadd, 1) := by decide +kernel
theorem dX9_bears_179 : decode cX9_bears 179 = .ok (.iaload, 1) := by decide +kernel
theorem dX9_bears_180 : decode cX9_bears 180 = .ok (.iload_n 2, 1) := by decide +kernel
theorem dX9_bears_181 : decode cX9_bears 181 = .ok (.if_icmp .ge 45, 3) := by decide +kernel
theorem dX9_bears_184 : decode cX9_bears 184 = .ok (.aload_n 0, 1) := by decide +kernel
theorem dX9_bears_185 : decode cX9_bears 185 = .ok (.lload 8, 2) := by decide +kernel
theorem dX9_bears_187 : decode cX9_bears 187 = .ok (.iload_n 3, 1) := by decide +kernel
theorem dX9_bears_188 : decode cX9_bears 188 = .ok (.ifCond .eq 18, 3) := by decide +kernel
theorem dX9_bears_191 : decode cX9_bears 191 = .ok (.aload_n 0, 1) := by decide +kernel
theorem dX9_bears_192 : decode cX9_bears 192 = .ok (.getfield 11, 3) := by decide +kernel
theorem dX9_bears_195 : decode cX9_bears 195 = .ok (.bipush 11, 2) := by decide +kernel
theorem dX9_bears_197 : decode cX9_bears 197 = .ok (.iload 5, 2) := by decide +kernel
theorem dX9_bears_199 : decode cX9_bears 199 = .ok (.iadd, 1) := by decide +kernel
theorem dX9_bears_200 : decode cX9_bears 200 = .ok (.iaload, 1) := by decide +kernel
theorem dX9_bears_201 : decode cX9_bears 201 = .ok (.iload_n 1, 1) := by decide +kernel
theorem dX9_bears_202 : decode cX9_bears 202 = .ok (.isub, 1) := by decide +kernel
theorem dX9_bears_203 : decode cX9_bears 203 = .ok (.goto 15, 3) := by decide +kernel
theorem dX9_bears_206 : decode cX9_bears 206 = .ok (.iload_n 2, 1) := by decide +kernel
theorem dX9_bears_207 : decode cX9_bears 207 = .ok (.aload_n 0, 1) := by decide +kernel
theorem dX9_bears_208 : decode cX9_bears 208 = .ok (.getfield 11, 3) := by decide +kernel
theorem dX9_bears_211 : decode cX9_bears 211 = .ok (.bipush 11, 2) := by decide +kernel
theorem dX9_bears_213 : decode cX9_bears 213 = .ok (.iload 5, 2) := by decide +kernel
theorem dX9_bears_215 : decode cX9_bears 215 = .ok (.iadd, 1) := by decide +kernel
theorem dX9_bears_216 : decode cX9_bears 216 = .ok (.iaload, 1) := by decide +kernel
theorem dX9_bears_217 : decode cX9_bears 217 = .ok (.isub, 1) := by decide +kernel
theorem dX9_bears_218 : decode cX9_bears 218 = .ok (.i2l, 1) := by decide +kernel
theorem dX9_bears_219 : decode cX9_bears 219 = .ok (.lmul, 1) := by decide +kernel
theorem dX9_bears_220 : decode cX9_bears 220 = .ok (.iload 4, 2) := by decide +kernel
theorem dX9_bears_222 : decode cX9_bears 222 = .ok (.i2l, 1) := by decide +kernel
theorem dX9_bears_223 : decode cX9_bears 223 = .ok (.invokevirtual 159, 3) := by decide +kernel
theorem dX9_bears_226 : decode cX9_bears 226 = .ok (.iinc 5 1, 3) := by decide +kernel
theorem dX9_bears_229 : decode cX9_bears 229 = .ok (.goto (-221), 3) := by decide +kernel
theorem dX9_bears_232 : decode cX9_bears 232 = .ok (.return_, 1) := by decide +kernel
theorem dX9_beside_0 : decode cX9_beside 0 = .ok (.lconst 0, 1) := by decide +kernel
theorem dX9_beside_1 : decode cX9_beside 1 = .ok (.lstore_n 3, 1) := by decide +kernel
theorem dX9_beside_2 : decode cX9_beside 2 = .ok (.iconst 0, 1) := by decide +kernel
theorem dX9_beside_3 : decode cX9_beside 3 = .ok (.istore 5, 2) := by decide +kernel
theorem dX9_beside_5 : decode cX9_beside 5 = .ok (.iload 5, 2) := by decide +kernel
theorem dX9_beside_7 : decode cX9_beside 7 = .ok (.aload_n 0, 1) := by decide +kernel
theorem dX9_beside_8 : decode cX9_beside 8 = .ok (.getfield 11, 3) := by decide +kernel
theorem dX9_beside_11 : decode cX9_beside 11 = .ok (.bipush 10, 2) := by decide +kernel
theorem dX9_beside_13 : decode cX9_beside 13 = .ok (.iaload, 1) := by decide +kernel
theorem dX9_beside_14 : decode cX9_beside 14 = .ok (.if_icmp .ge 154, 3) := by decide +kernel
theorem dX9_beside_17 : decode cX9_beside 17 = .ok (.aload_n 0, 1) := by decide +kernel
theorem dX9_beside_18 : decode cX9_beside 18 = .ok (.iload 5, 2) := by decide +kernel
theorem dX9_beside_20 : decode cX9_beside 20 = .ok (.invokevirtual 144, 3) := by decide +kernel
theorem dX9_beside_23 : decode cX9_beside 23 = .ok (.ifCond .eq 86, 3) := by decide +kernel
theorem dX9_beside_26 : decode cX9_beside 26 = .ok (.lload_n 3, 1) := by decide +kernel
theorem dX9_beside_27 : decode cX9_beside 27 = .ok (.aload_n 0, 1) := by decide +kernel
theorem dX9_beside_28 : decode cX9_beside 28 = .ok (.getfield 11, 3) := by decide +kernel
theorem dX9_beside_31 : decode cX9_beside 31 = .ok (.bipush 23, 2) := by decide +kernel
theorem dX9_beside_33 : decode cX9_beside 33 = .ok (.iload 5, 2) := by decide +kernel
theorem dX9_beside_35 : decode cX9_beside 35 = .ok (.iadd, 1) := by decide +kernel
theorem dX9_beside_36 : decode cX9_beside 36 = .ok (.iaload, 1) := by decide +kernel
theorem dX9_beside_37 : decode cX9_beside 37 = .ok (.iload_n 2, 1) := by decide +kernel
theorem dX9_beside_38 : decode cX9_beside 38 = .ok (.ifCond .eq 35, 3) := by decide +kernel
theorem dX9_beside_41 : decode cX9_beside 41 = .ok (.iconst 0, 1) := by decide +kernel
theorem dX9_beside_42 : decode cX9_beside 42 = .ok (.aload_n 0, 1) := by decide +kernel
theorem dX9_beside_43 : decode cX9_beside 43 = .ok (.getfield 11, 3) := by decide +kernel
theorem dX9_beside_46 : decode cX9_beside 46 = .ok (.bipush 17, 2) := by decide +kernel
theorem dX9_beside_48 : decode cX9_beside 48 = .ok (.iload 5, 2) := by decide +kernel
theorem dX9_beside_50 : decode cX9_beside 50 = .ok (.iadd, 1) := by decide +kernel
theorem dX9_beside_51 : decode cX9_beside 51 = .ok (.iaload, 1) := by decide +kernel
theorem dX9_beside_52 : decode cX9_beside 52 = .ok (.iload_n 1, 1) := by decide +kernel
theorem dX9_beside_53 : decode cX9_beside 53 = .ok (.invokestatic 141, 3) := by decide +kernel
theorem dX9_beside_56 : decode cX9_beside 56 = .ok (.aload_n 0, 1) := by decide +kernel
theorem dX9_beside_57 : decode cX9_beside 57 = .ok (.getfield 11, 3) := by decide +kernel
theorem dX9_beside_60 : decode cX9_beside 60 = .ok (.bipush 11, 2) := by decide +kernel
theorem dX9_beside_62 : decode cX9_beside 62 = .ok (.iload 5, 2) := by decide +kernel
theorem dX9_beside_64 : decode cX9_beside 64 = .ok (.iadd, 1) := by decide +kernel
theorem dX9_beside_65 : decode cX9_beside 65 = .ok (.iaload, 1) := by decide +kernel
theorem dX9_beside_66 : decode cX9_beside 66 = .ok (.isub, 1) := by decide +kernel
theorem dX9_beside_67 : decode cX9_beside 67 = .ok (.invokestatic 137, 3) := by decide +kernel
theorem dX9_beside_70 : decode cX9_beside 70 = .ok (.goto 32, 3) := by decide +kernel
theorem dX9_beside_73 : decode cX9_beside 73 = .ok (.iconst 0, 1) := by decide +kernel
theorem dX9_beside_74 : decode cX9_beside 74 = .ok (.aload_n 0, 1) := by decide +kernel
theorem dX9_beside_75 : decode cX9_beside 75 = .ok (.getfield 11, 3) := by decide +kernel
theorem dX9_beside_78 : decode cX9_beside 78 = .ok (.bipush 17, 2) := by decide +kernel
theorem dX9_beside_80 : decode cX9_beside 80 = .ok (.iload 5, 2) := by decide +kernel
theorem dX9_beside_82 : decode cX9_beside 82 = .ok (.iadd, 1) := by decide +kernel
theorem dX9_beside_83 : decode cX9_beside 83 = .ok (.iaload, 1) := by decide +kernel
theorem dX9_beside_84 : decode cX9_beside 84 = .ok (.aload_n 0, 1) := by decide +kernel
theorem dX9_beside_85 : decode cX9_beside 85 = .ok (.getfield 11, 3) := by decide +kernel
theorem dX9_beside_88 : decode cX9_beside 88 = .ok (.bipush 11, 2) := by decide +kernel
theorem dX9_beside_90 : decode cX9_beside 90 = .ok (.iload 5, 2) := by decide +kernel
theorem dX9_beside_92 : decode cX9_beside 92 = .ok (.iadd, 1) := by decide +kernel
theorem dX9_beside_93 : decode cX9_beside 93 = .ok (.iaload, 1) := by decide +kernel
theorem dX9_beside_94 : decode cX9_beside 94 = .ok (.iload_n 1, 1) := by decide +kernel
theorem dX9_beside_95 : decode cX9_beside 95 = .ok (.invokestatic 137, 3) := by decide +kernel
theorem dX9_beside_98 : decode cX9_beside 98 = .ok (.isub, 1) := by decide +kernel
theorem dX9_beside_99 : decode cX9_beside 99 = .ok (.invokestatic 137, 3) := by decide +kernel
theorem dX9_beside_102 : decode cX9_beside 102 = .ok (.imul, 1) := by decide +kernel
theorem dX9_beside_103 : decode cX9_beside 103 = .ok (.i2l, 1) := by decide +kernel
theorem dX9_beside_104 : decode cX9_beside 104 = .ok (.ladd, 1) := by decide +kernel
theorem dX9_beside_105 : decode cX9_beside 105 = .ok (.lstore_n 3, 1) := by decide +kernel
theorem dX9_beside_106 : decode cX9_beside 106 = .ok (.goto 56, 3) := by decide +kernel
theorem dX9_beside_109 : decode cX9_beside 109 = .ok (.lload_n 3, 1) := by decide +kernel
theorem dX9_beside_110 : decode cX9_beside 110 = .ok (.iload_n 2, 1) := by decide +kernel
theorem dX9_beside_111 : decode cX9_beside 111 = .ok (.ifCond .eq 20, 3) := by decide +kernel
theorem dX9_beside_114 : decode cX9_beside 114 = .ok (.aload_n 0, 1) := by decide +kernel
theorem dX9_beside_115 : decode cX9_beside 115 = .ok (.getfield 11, 3) := by decide +kernel
theorem dX9_beside_118 : decode cX9_beside 118 = .ok (.bipush 11, 2) := by decide +kernel
theorem dX9_beside_120 : decode cX9_beside 120 = .ok (.iload 5, 2) := by decide +kernel
theorem dX9_beside_122 : decode cX9_beside 122 = .ok (.iadd, 1) := by decide +kernel
theorem dX9_beside_123 : decode cX9_beside 123 = .ok (.iaload, 1) := by decide +kernel
theorem dX9_beside_124 : decode cX9_beside 124 = .ok (.iload_n 1, 1) := by decide +kernel
theorem dX9_beside_125 : decode cX9_beside 125 = .ok (.if_icmp .ge 34, 3) := by decide +kernel
theorem dX9_beside_128 : decode cX9_beside 128 = .ok (.goto 17, 3) := by decide +kernel
theorem dX9_beside_131 : decode cX9_beside 131 = .ok (.aload_n 0, 1) := by decide +kernel
theorem dX9_beside_132 : decode cX9_beside 132 = .ok (.getfield 11, 3) := by decide +kernel
theorem dX9_beside_135 : decode cX9_beside 135 = .ok (.bipush 11, 2) := by decide +kernel
theorem dX9_beside_137 : decode cX9_beside 137 = .ok (.iload 5, 2) := by decide +kernel
theorem dX9_beside_139 : decode cX9_beside 139 = .ok (.iadd, 1) := by decide +kernel
theorem dX9_beside_140 : decode cX9_beside 140 = .ok (.iaload, 1) := by decide +kernel
theorem dX9_beside_141 : decode cX9_beside 141 = .ok (.iload_n 1, 1) := by decide +kernel
theorem dX9_beside_142 : decode cX9_beside 142 = .ok (.if_icmp .le 17, 3) := by decide +kernel
theorem dX9_beside_145 : decode cX9_beside 145 = .ok (.aload_n 0, 1) := by decide +kernel
theorem dX9_beside_146 : decode cX9_beside 146 = .ok (.getfield 11, 3) := by decide +kernel
theorem dX9_beside_149 : decode cX9_beside 149 = .ok (.bipush 23, 2) := by decide +kernel
theorem dX9_beside_151 : decode cX9_beside 151 = .ok (.iload 5, 2) := by decide +kernel
theorem dX9_beside_153 : decode cX9_beside 153 = .ok (.iadd, 1) := by decide +kernel
theorem dX9_beside_154 : decode cX9_beside 154 = .ok (.iaload, 1) := by decide +kernel
theorem dX9_beside_155 : decode cX9_beside 155 = .ok (.i2l, 1) := by decide +kernel
theorem dX9_beside_156 : decode cX9_beside 156 = .ok (.goto 4, 3) := by decide +kernel
theorem dX9_beside_159 : decode cX9_beside 159 = .ok (.lconst 0, 1) := by decide +kernel
theorem dX9_beside_160 : decode cX9_beside 160 = .ok (.ladd, 1) := by decide +kernel
theorem dX9_beside_161 : decode cX9_beside 161 = .ok (.lstore_n 3, 1) := by decide +kernel
theorem dX9_beside_162 : decode cX9_beside 162 = .ok (.iinc 5 1, 3) := by decide +kernel
theorem dX9_beside_165 : decode cX9_beside 165 = .ok (.goto (-160), 3) := by decide +kernel
theorem dX9_beside_168 : decode cX9_beside 168 = .ok (.lload_n 3, 1) := by decide +kernel
theorem dX9_beside_169 : decode cX9_beside 169 = .ok (.lreturn, 1) := by decide +kernel
theorem dX9_pointsAt_0 : decode cX9_pointsAt 0 = .ok (.lconst 0, 1) := by decide +kernel
theorem dX9_pointsAt_1 : decode cX9_pointsAt 1 = .ok (.lstore_n 2, 1) := by decide +kernel
theorem dX9_pointsAt_2 : decode cX9_pointsAt 2 = .ok (.iconst 0, 1) := by decide +kernel
theorem dX9_pointsAt_3 : decode cX9_pointsAt 3 = .ok (.istore 4, 2) := by decide +kernel
theorem dX9_pointsAt_5 : decode cX9_pointsAt 5 = .ok (.iload 4, 2) := by decide +kernel
theorem dX9_pointsAt_7 : decode cX9_pointsAt 7 = .ok (.aload_n 0, 1) := by decide +kernel
theorem dX9_pointsAt_8 : decode cX9_pointsAt 8 = .ok (.getfield 11, 3) := by decide +kernel
theorem dX9_pointsAt_11 : decode cX9_pointsAt 11 = .ok (.bipush 10, 2) := by decide +kernel
theorem dX9_pointsAt_13 : decode cX9_pointsAt 13 = .ok (.iaload, 1) := by decide +kernel
theorem dX9_pointsAt_14 : decode cX9_pointsAt 14 = .ok (.if_icmp .ge 50, 3) := by decide +kernel
theorem dX9_pointsAt_17 : decode cX9_pointsAt 17 = .ok (.lload_n 2, 1) := by decide +kernel
theorem dX9_pointsAt_18 : decode cX9_pointsAt 18 = .ok (.aload_n 0, 1) := by decide +kernel
theorem dX9_pointsAt_19 : decode cX9_pointsAt 19 = .ok (.iload 4, 2) := by decide +kernel
theorem dX9_pointsAt_21 : decode cX9_pointsAt 21 = .ok (.invokevirtual 144, 3) := by decide +kernel
theorem dX9_pointsAt_24 : decode cX9_pointsAt 24 = .ok (.ifCond .ne 31, 3) := by decide +kernel
theorem dX9_pointsAt_27 : decode cX9_pointsAt 27 = .ok (.aload_n 0, 1) := by decide +kernel
theorem dX9_pointsAt_28 : decode cX9_pointsAt 28 = .ok (.getfield 11, 3) := by decide +kernel
theorem dX9_pointsAt_31 : decode cX9_pointsAt 31 = .ok (.bipush 11, 2) := by decide +kernel
theorem dX9_pointsAt_33 : decode cX9_pointsAt 33 = .ok (.iload 4, 2) := by decide +kernel
theorem dX9_pointsAt_35 : decode cX9_pointsAt 35 = .ok (.iadd, 1) := by decide +kernel
theorem dX9_pointsAt_36 : decode cX9_pointsAt 36 = .ok (.iaload, 1) := by decide +kernel
theorem dX9_pointsAt_37 : decode cX9_pointsAt 37 = .ok (.iload_n 1, 1) := by decide +kernel
theorem dX9_pointsAt_38 : decode cX9_pointsAt 38 = .ok (.if_icmp .ne 17, 3) := by decide +kernel
theorem dX9_pointsAt_41 : decode cX9_pointsAt 41 = .ok (.aload_n 0, 1) := by decide +kernel
theorem dX9_pointsAt_42 : decode cX9_pointsAt 42 = .ok (.getfield 11, 3) := by decide +kernel
theorem dX9_pointsAt_45 : decode cX9_pointsAt 45 = .ok (.bipush 23, 2) := by decide +kernel
theorem dX9_pointsAt_47 : decode cX9_pointsAt 47 = .ok (.iload 4, 2) := by decide +kernel
theorem dX9_pointsAt_49 : decode cX9_pointsAt 49 = .ok (.iadd, 1) := by decide +kernel
theorem dX9_pointsAt_50 : decode cX9_pointsAt 50 = .ok (.iaload, 1) := by decide +kernel
theorem dX9_pointsAt_51 : decode cX9_pointsAt 51 = .ok (.i2l, 1) := by decide +kernel
theorem dX9_pointsAt_52 : decode cX9_pointsAt 52 = .ok (.goto 4, 3) := by decide +kernel
theorem dX9_pointsAt_55 : decode cX9_pointsAt 55 = .ok (.lconst 0, 1) := by decide +kernel
theorem dX9_pointsAt_56 : decode cX9_pointsAt 56 = .ok (.ladd, 1) := by decide +kernel
theorem dX9_pointsAt_57 : decode cX9_pointsAt 57 = .ok (.lstore_n 2, 1) := by decide +kernel
theorem dX9_pointsAt_58 : decode cX9_pointsAt 58 = .ok (.iinc 4 1, 3) := by decide +kernel
theorem dX9_pointsAt_61 : decode cX9_pointsAt 61 = .ok (.goto (-56), 3) := by decide +kernel
theorem dX9_pointsAt_64 : decode cX9_pointsAt 64 = .ok (.lload_n 2, 1) := by decide +kernel
theorem dX9_pointsAt_65 : decode cX9_pointsAt 65 = .ok (.lreturn, 1) := by decide +kernel
theorem dX9_reactions_0 : decode cX9_reactions 0 = .ok (.aload_n 0, 1) := by decide +kernel
theorem dX9_reactions_1 : decode cX9_reactions 1 = .ok (.invokevirtual 179, 3) := by decide +kernel
theorem dX9_reactions_4 : decode cX9_reactions 4 = .ok (.aload_n 0, 1) := by decide +kernel
theorem dX9_reactions_5 : decode cX9_reactions 5 = .ok (.getfield 11, 3) := by decide +kernel
theorem dX9_reactions_8 : decode cX9_reactions 8 = .ok (.iconst 1, 1) := by decide +kernel
theorem dX9_reactions_9 : decode cX9_reactions 9 = .ok (.iaload, 1) := by decide +kernel
theorem dX9_reactions_10 : decode cX9_reactions 10 = .ok (.istore_n 1, 1) := by decide +kernel
theorem dX9_reactions_11 : decode cX9_reactions 11 = .ok (.aload_n 0, 1) := by decide +kernel
theorem dX9_reactions_12 : decode cX9_reactions 12 = .ok (.lconst 1, 1) := by decide +kernel
theorem dX9_reactions_13 : decode cX9_reactions 13 = .ok (.putfield 182, 3) := by decide +kernel
theorem dX9_reactions_16 : decode cX9_reactions 16 = .ok (.iconst 0, 1) := by decide +kernel
theorem dX9_reactions_17 : decode cX9_reactions 17 = .ok (.istore_n 2, 1) := by decide +kernel
theorem dX9_reactions_18 : decode cX9_reactions 18 = .ok (.iload_n 2, 1) := by decide +kernel
theorem dX9_reactions_19 : decode cX9_reactions 19 = .ok (.iload_n 1, 1) := by decide +kernel
theorem dX9_reactions_20 : decode cX9_reactions 20 = .ok (.if_icmp .ge 243, 3) := by decide +kernel
theorem dX9_reactions_23 : decode cX9_reactions 23 = .ok (.aload_n 0, 1) := by decide +kernel
theorem dX9_reactions_24 : decode cX9_reactions 24 = .ok (.getfield 11, 3) := by decide +kernel
theorem dX9_reactions_27 : decode cX9_reactions 27 = .ok (.iconst 2, 1) := by decide +kernel
theorem dX9_reactions_28 : decode cX9_reactions 28 = .ok (.iload_n 2, 1) := by decide +kernel
theorem dX9_reactions_29 : decode cX9_reactions 29 = .ok (.iadd, 1) := by decide +kernel
theorem dX9_reactions_30 : decode cX9_reactions 30 = .ok (.iaload, 1) := by decide +kernel
theorem dX9_reactions_31 : decode cX9_reactions 31 = .ok (.istore_n 3, 1) := by decide +kernel
theorem dX9_reactions_32 : decode cX9_reactions 32 = .ok (.aload_n 0, 1) := by decide +kernel
theorem dX9_reactions_33 : decode cX9_reactions 33 = .ok (.aload_n 0, 1) := by decide +kernel
theorem dX9_reactions_34 : decode cX9_reactions 34 = .ok (.iload_n 3, 1) := by decide +kernel
theorem dX9_reactions_35 : decode cX9_reactions 35 = .ok (.invokevirtual 185, 3) := by decide +kernel
theorem dX9_reactions_38 : decode cX9_reactions 38 = .ok (.iload_n 2, 1) := by decide +kernel
theorem dX9_reactions_39 : decode cX9_reactions 39 = .ok (.ifCond .ne 12, 3) := by decide +kernel
theorem dX9_reactions_42 : decode cX9_reactions 42 = .ok (.aload_n 0, 1) := by decide +kernel
theorem dX9_reactions_43 : decode cX9_reactions 43 = .ok (.iload_n 3, 1) := by decide +kernel
theorem dX9_reactions_44 : decode cX9_reactions 44 = .ok (.iconst 1, 1) := by decide +kernel
theorem dX9_reactions_45 : decode cX9_reactions 45 = .ok (.invokevirtual 189, 3) := by decide +kernel
theorem dX9_reactions_48 : decode cX9_reactions 48 = .ok (.goto 4, 3) := by decide +kernel
theorem dX9_reactions_51 : decode cX9_reactions 51 = .ok (.lconst 0, 1) := by decide +kernel
theorem dX9_reactions_52 : decode cX9_reactions 52 = .ok (.ladd, 1) := by decide +kernel
theorem dX9_reactions_53 : decode cX9_reactions 53 = .ok (.iload_n 2, 1) := by decide +kernel
theorem dX9_reactions_54 : decode cX9_reactions 54 = .ok (.iload_n 1, 1) := by decide +kernel
theorem dX9_reactions_55 : decode cX9_reactions 55 = .ok (.iconst 1, 1) := by decide +kernel
theorem dX9_reactions_56 : decode cX9_reactions 56 = .ok (.isub, 1) := by decide +kernel
theorem dX9_reactions_57 : decode cX9_reactions 57 = .ok (.if_icmp .ne 12, 3) := by decide +kernel
theorem dX9_reactions_60 : decode cX9_reactions 60 = .ok (.aload_n 0, 1) := by decide +kernel
theorem dX9_reactions_61 : decode cX9_reactions 61 = .ok (.iload_n 3, 1) := by decide +kernel
theorem dX9_reactions_62 : decode cX9_reactions 62 = .ok (.iconst 0, 1) := by decide +kernel
theorem dX9_reactions_63 : decode cX9_reactions 63 = .ok (.invokevirtual 189, 3) := by decide +kernel
theorem dX9_reactions_66 : decode cX9_reactions 66 = .ok (.goto 4, 3) := by decide +kernel
theorem dX9_reactions_69 : decode cX9_reactions 69 = .ok (.lconst 0, 1) := by decide +kernel
theorem dX9_reactions_70 : decode cX9_reactions 70 = .ok (.ladd, 1) := by decide +kernel
theorem dX9_reactions_71 : decode cX9_reactions 71 = .ok (.lconst 1, 1) := by decide +kernel
theorem dX9_reactions_72 : decode cX9_reactions 72 = .ok (.invokevirtual 133, 3) := by decide +kernel
theorem dX9_reactions_75 : decode cX9_reactions 75 = .ok (.iload_n 2, 1) := by decide +kernel
theorem dX9_reactions_76 : decode cX9_reactions 76 = .ok (.ifCond .le 67, 3) := by decide +kernel
theorem dX9_reactions_79 : decode cX9_reactions 79 = .ok (.aload_n 0, 1) := by decide +kernel
theorem dX9_reactions_80 : decode cX9_reactions 80 = .ok (.iload_n 2, 1) := by decide +kernel
theorem dX9_reactions_81 : decode cX9_reactions 81 = .ok (.iconst 1, 1) := by decide +kernel
theorem dX9_reactions_82 : decode cX9_reactions 82 = .ok (.isub, 1) := by decide +kernel
theorem dX9_reactions_83 : decode cX9_reactions 83 = .ok (.invokevirtual 152, 3) := by decide +kernel
theorem dX9_reactions_86 : decode cX9_reactions 86 = .ok (.istore 4, 2) := by decide +kernel
theorem dX9_reactions_88 : decode cX9_reactions 88 = .ok (.aload_n 0, 1) := by decide +kernel
theorem dX9_reactions_89 : decode cX9_reactions 89 = .ok (.iload_n 3, 1) := by decide +kernel
theorem dX9_reactions_90 : decode cX9_reactions 90 = .ok (.iload 4, 2) := by decide +kernel
theorem dX9_reactions_92 : decode cX9_reactions 92 = .ok (.isub, 1) := by decide +kernel
theorem dX9_reactions_93 : decode cX9_reactions 93 = .ok (.iload_n 3, 1) := by decide +kernel
theorem dX9_reactions_94 : decode cX9_reactions 94 = .ok (.iconst 1, 1) := by decide +kernel
theorem dX9_reactions_95 : decode cX9_reactions 95 = .ok (.invokevirtual 192, 3) := by decide +kernel
theorem dX9_reactions_98 : decode cX9_reactions 98 = .ok (.aload_n 0, 1) := by decide +kernel
theorem dX9_reactions_99 : decode cX9_reactions 99 = .ok (.aload_n 0, 1) := by decide +kernel
theorem dX9_reactions_100 : decode cX9_reactions 100 = .ok (.getfield 25, 3) := by decide +kernel
theorem dX9_reactions_103 : decode cX9_reactions 103 = .ok (.iload_n 2, 1) := by decide +kernel
theorem dX9_reactions_104 : decode cX9_reactions 104 = .ok (.iconst 1, 1) := by decide +kernel
theorem dX9_reactions_105 : decode cX9_reactions 105 = .ok (.isub, 1) := by decide +kernel
theorem dX9_reactions_106 : decode cX9_reactions 106 = .ok (.laload, 1) := by decide +kernel
theorem dX9_reactions_107 : decode cX9_reactions 107 = .ok (.aload_n 0, 1) := by decide +kernel
theorem dX9_reactions_108 : decode cX9_reactions 108 = .ok (.getfield 29, 3) := by decide +kernel
theorem dX9_reactions_111 : decode cX9_reactions 111 = .ok (.iload_n 2, 1) := by decide +kernel
theorem dX9_reactions_112 : decode cX9_reactions 112 = .ok (.iconst 1, 1) := by decide +kernel
theorem dX9_reactions_113 : decode cX9_reactions 113 = .ok (.isub, 1) := by decide +kernel
theorem dX9_reactions_114 : decode cX9_reactions 114 = .ok (.laload, 1) := by decide +kernel
theorem dX9_reactions_115 : decode cX9_reactions 115 = .ok (.iload 4, 2) := by decide +kernel
theorem dX9_reactions_117 : decode cX9_reactions 117 = .ok (.i2l, 1) := by decide +kernel
theorem dX9_reactions_118 : decode cX9_reactions 118 = .ok (.lmul, 1) := by decide +kernel
theorem dX9_reactions_119 : decode cX9_reactions 119 = .ok (.invokevirtual 159, 3) := by decide +kernel
theorem dX9_reactions_122 : decode cX9_reactions 122 = .ok (.aload_n 0, 1) := by decide +kernel
theorem dX9_reactions_123 : decode cX9_reactions 123 = .ok (.aload_n 0, 1) := by decide +kernel
theorem dX9_reactions_124 : decode cX9_reactions 124 = .ok (.getfield 25, 3) := by decide +kernel
theorem dX9_reactions_127 : decode cX9_reactions 127 = .ok (.iload_n 2, 1) := by decide +kernel
theorem dX9_reactions_128 : decode cX9_reactions 128 = .ok (.laload, 1) := by decide +kernel
theorem dX9_reactions_129 : decode cX9_reactions 129 = .ok (.lneg, 1) := by decide +kernel
theorem dX9_reactions_130 : decode cX9_reactions 130 = .ok (.aload_n 0, 1) := by decide +kernel
theorem dX9_reactions_131 : decode cX9_reactions 131 = .ok (.getfield 29, 3) := by decide +kernel
theorem dX9_reactions_134 : decode cX9_reactions 134 = .ok (.iload_n 2, 1) := by decide +kernel
theorem dX9_reactions_135 : decode cX9_reactions 135 = .ok (.laload, 1) := by decide +kernel
theorem dX9_reactions_136 : decode cX9_reactions 136 = .ok (.iload 4, 2) := by decide +kernel
theorem dX9_reactions_138 : decode cX9_reactions 138 = .ok (.i2l, 1) := by decide +kernel
theorem dX9_reactions_139 : decode cX9_reactions 139 = .ok (.lmul, 1) := by decide +kernel
theorem dX9_reactions_140 : decode cX9_reactions 140 = .ok (.invokevirtual 159, 3) := by decide +kernel
theorem dX9_reactions_143 : decode cX9_reactions 143 = .ok (.iload_n 2, 1) := by decide +kernel
theorem dX9_reactions_144 : decode cX9_reactions 144 = .ok (.iload_n 1, 1) := by decide +kernel
theorem dX9_reactions_145 : decode cX9_reactions 145 = .ok (.iconst 1, 1) := by decide +kernel
theorem dX9_reactions_146 : decode cX9_reactions 146 = .ok (.isub, 1) := by decide +kernel
theorem dX9_reactions_147 : decode cX9_reactions 147 = .ok (.if_icmp .ge 65, 3) := by decide +kernel
theorem dX9_reactions_150 : decode cX9_reactions 150 = .ok (.aload_n 0, 1) := by decide +kernel
theorem dX9_reactions_151 : decode cX9_reactions 151 = .ok (.iload_n 2, 1) := by decide +kernel
theorem dX9_reactions_152 : decode cX9_reactions 152 = .ok (.invokevirtual 152, 3) := by decide +kernel
theorem dX9_reactions_155 : decode cX9_reactions 155 = .ok (.istore 4, 2) := by decide +kernel
theorem dX9_reactions_157 : decode cX9_reactions 157 = .ok (.aload_n 0, 1) := by decide +kernel
theorem dX9_reactions_158 : decode cX9_reactions 158 = .ok (.iload_n 3, 1) := by decide +kernel
theorem dX9_reactions_159 : decode cX9_reactions 159 = .ok (.iload_n 3, 1) := by decide +kernel
theorem dX9_reactions_160 : decode cX9_reactions 160 = .ok (.iload 4, 2) := by decide +kernel
theorem dX9_reactions_162 : decode cX9_reactions 162 = .ok (.iadd, 1) := by decide +kernel
theorem dX9_reactions_163 : decode cX9_reactions 163 = .ok (.iconst 0, 1) := by decide +kernel
theorem dX9_reactions_164 : decode cX9_reactions 164 = .ok (.invokevirtual 192, 3) := by decide +kernel
theorem dX9_reactions_167 : decode cX9_reactions 167 = .ok (.aload_n 0, 1) := by decide +kernel
theorem dX9_reactions_168 : decode cX9_reactions 168 = .ok (.aload_n 0, 1) := by decide +kernel
theorem dX9_reactions_169 : decode cX9_reactions 169 = .ok (.getfield 25, 3) := by decide +kernel
theorem dX9_reactions_172 : decode cX9_reactions 172 = .ok (.iload_n 2, 1) := by decide +kernel
theorem dX9_reactions_173 : decode cX9_reactions 173 = .ok (.iconst 1, 1) := by decide +kernel
theorem dX9_reactions_174 : decode cX9_reactions 174 = .ok (.iadd, 1) := by decide +kernel
theorem dX9_reactions_175 : decode cX9_reactions 175 = .ok (.laload, 1) := by decide +kernel
theorem dX9_reactions_176 : decode cX9_reactions 176 = .ok (.aload_n 0, 1) := by decide +kernel
theorem dX9_reactions_177 : decode cX9_reactions 177 = .ok (.getfield 29, 3) := by decide +kernel
theorem dX9_reactions_180 : decode cX9_reactions 180 = .ok (.iload_n 2, 1) := by decide +kernel
theorem dX9_reactions_181 : decode cX9_reactions 181 = .ok (.iconst 1, 1) := by decide +kernel
theorem dX9_reactions_182 : decode cX9_reactions 182 = .ok (.iadd, 1) := by decide +kernel
theorem dX9_reactions_183 : decode cX9_reactions 183 = .ok (.laload, 1) := by decide +kernel
theorem dX9_reactions_184 : decode cX9_reactions 184 = .ok (.iload 4, 2) := by decide +kernel
theorem dX9_reactions_186 : decode cX9_reactions 186 = .ok (.i2l, 1) := by decide +kernel
theorem dX9_reactions_187 : decode cX9_reactions 187 = .ok (.lmul, 1) := by decide +kernel
theorem dX9_reactions_188 : decode cX9_reactions 188 = .ok (.invokevirtual 159, 3) := by decide +kernel
theorem dX9_reactions_191 : decode cX9_reactions 191 = .ok (.aload_n 0, 1) := by decide +kernel
theorem dX9_reactions_192 : decode cX9_reactions 192 = .ok (.aload_n 0, 1) := by decide +kernel
theorem dX9_reactions_193 : decode cX9_reactions 193 = .ok (.getfield 25, 3) := by decide +kernel
theorem dX9_reactions_196 : decode cX9_reactions 196 = .ok (.iload_n 2, 1) := by decide +kernel
theorem dX9_reactions_197 : decode cX9_reactions 197 = .ok (.laload, 1) := by decide +kernel
theorem dX9_reactions_198 : decode cX9_reactions 198 = .ok (.lneg, 1) := by decide +kernel
theorem dX9_reactions_199 : decode cX9_reactions 199 = .ok (.aload_n 0, 1) := by decide +kernel
theorem dX9_reactions_200 : decode cX9_reactions 200 = .ok (.getfield 29, 3) := by decide +kernel
theorem dX9_reactions_203 : decode cX9_reactions 203 = .ok (.iload_n 2, 1) := by decide +kernel
theorem dX9_reactions_204 : decode cX9_reactions 204 = .ok (.laload, 1) := by decide +kernel
theorem dX9_reactions_205 : decode cX9_reactions 205 = .ok (.iload 4, 2) := by decide +kernel
theorem dX9_reactions_207 : decode cX9_reactions 207 = .ok (.i2l, 1) := by decide +kernel
theorem dX9_reactions_208 : decode cX9_reactions 208 = .ok (.lmul, 1) := by decide +kernel
theorem dX9_reactions_209 : decode cX9_reactions 209 = .ok (.invokevirtual 159, 3) := by decide +kernel
theorem dX9_reactions_212 : decode cX9_reactions 212 = .ok (.aload_n 0, 1) := by decide +kernel
theorem dX9_reactions_213 : decode cX9_reactions 213 = .ok (.getfield 38, 3) := by decide +kernel
theorem dX9_reactions_216 : decode cX9_reactions 216 = .ok (.iload_n 2, 1) := by decide +kernel
theorem dX9_reactions_217 : decode cX9_reactions 217 = .ok (.aload_n 0, 1) := by decide +kernel
theorem dX9_reactions_218 : decode cX9_reactions 218 = .ok (.getfield 130, 3) := by decide +kernel
theorem dX9_reactions_221 : decode cX9_reactions 221 = .ok (.lastore, 1) := by decide +kernel
theorem dX9_reactions_222 : decode cX9_reactions 222 = .ok (.aload_n 0, 1) := by decide +kernel
theorem dX9_reactions_223 : decode cX9_reactions 223 = .ok (.getfield 41, 3) := by decide +kernel
theorem dX9_reactions_226 : decode cX9_reactions 226 = .ok (.iload_n 2, 1) := by decide +kernel
theorem dX9_reactions_227 : decode cX9_reactions 227 = .ok (.aload_n 0, 1) := by decide +kernel
theorem dX9_reactions_228 : decode cX9_reactions 228 = .ok (.getfield 21, 3) := by decide +kernel
theorem dX9_reactions_231 : decode cX9_reactions 231 = .ok (.lastore, 1) := by decide +kernel
theorem dX9_reactions_232 : decode cX9_reactions 232 = .ok (.aload_n 0, 1) := by decide +kernel
theorem dX9_reactions_233 : decode cX9_reactions 233 = .ok (.aload_n 0, 1) := by decide +kernel
theorem dX9_reactions_234 : decode cX9_reactions 234 = .ok (.getfield 182, 3) := by decide +kernel
theorem dX9_reactions_237 : decode cX9_reactions 237 = .ok (.aload_n 0, 1) := by decide +kernel
theorem dX9_reactions_238 : decode cX9_reactions 238 = .ok (.getfield 182, 3) := by decide +kernel
theorem dX9_reactions_241 : decode cX9_reactions 241 = .ok (.aload_n 0, 1) := by decide +kernel
theorem dX9_reactions_242 : decode cX9_reactions 242 = .ok (.getfield 21, 3) := by decide +kernel
theorem dX9_reactions_245 : decode cX9_reactions 245 = .ok (.invokestatic 126, 3) := by decide +kernel
theorem dX9_reactions_248 : decode cX9_reactions 248 = .ok (.ldiv, 1) := by decide +kernel
theorem dX9_reactions_249 : decode cX9_reactions 249 = .ok (.aload_n 0, 1) := by decide +kernel
theorem dX9_reactions_250 : decode cX9_reactions 250 = .ok (.getfield 21, 3) := by decide +kernel
theorem dX9_reactions_253 : decode cX9_reactions 253 = .ok (.lmul, 1) := by decide +kernel
theorem dX9_reactions_254 : decode cX9_reactions 254 = .ok (.putfield 182, 3) := by decide +kernel
theorem dX9_reactions_257 : decode cX9_reactions 257 = .ok (.iinc 2 1, 3) := by decide +kernel
theorem dX9_reactions_260 : decode cX9_reactions 260 = .ok (.goto (-242), 3) := by decide +kernel
theorem dX9_reactions_263 : decode cX9_reactions 263 = .ok (.iconst 0, 1) := by decide +kernel
theorem dX9_reactions_264 : decode cX9_reactions 264 = .ok (.istore_n 2, 1) := by decide +kernel
theorem dX9_reactions_265 : decode cX9_reactions 265 = .ok (.iload_n 2, 1) := by decide +kernel
theorem dX9_reactions_266 : decode cX9_reactions 266 = .ok (.iload_n 1, 1) := by decide +kernel
theorem dX9_reactions_267 : decode cX9_reactions 267 = .ok (.if_icmp .ge 33, 3) := by decide +kernel
theorem dX9_reactions_270 : decode cX9_reactions 270 = .ok (.aload_n 0, 1) := by decide +kernel
theorem dX9_reactions_271 : decode cX9_reactions 271 = .ok (.getfield 38, 3) := by decide +kernel
theorem dX9_reactions_274 : decode cX9_reactions 274 = .ok (.iload_n 2, 1) := by decide +kernel
theorem dX9_reactions_275 : decode cX9_reactions 275 = .ok (.aload_n 0, 1) := by decide +kernel
theorem dX9_reactions_276 : decode cX9_reactions 276 = .ok (.getfield 38, 3) := by decide +kernel
theorem dX9_reactions_279 : decode cX9_reactions 279 = .ok (.iload_n 2, 1) := by decide +kernel
theorem dX9_reactions_280 : decode cX9_reactions 280 = .ok (.laload, 1) := by decide +kernel
theorem dX9_reactions_281 : decode cX9_reactions 281 = .ok (.aload_n 0, 1) := by decide +kernel
theorem dX9_reactions_282 : decode cX9_reactions 282 = .ok (.getfield 182, 3) := by decide +kernel
theorem dX9_reactions_285 : decode cX9_reactions 285 = .ok (.aload_n 0, 1) := by decide +kernel
theorem dX9_reactions_286 : decode cX9_reactions 286 = .ok (.getfield 41, 3) := by decide +kernel
theorem dX9_reactions_289 : decode cX9_reactions 289 = .ok (.iload_n 2, 1) := by decide +kernel
theorem dX9_reactions_290 : decode cX9_reactions 290 = .ok (.laload, 1) := by decide +kernel
theorem dX9_reactions_291 : decode cX9_reactions 291 = .ok (.ldiv, 1) := by decide +kernel
theorem dX9_reactions_292 : decode cX9_reactions 292 = .ok (.lmul, 1) := by decide +kernel
theorem dX9_reactions_293 : decode cX9_reactions 293 = .ok (.lastore, 1) := by decide +kernel
theorem dX9_reactions_294 : decode cX9_reactions 294 = .ok (.iinc 2 1, 3) := by decide +kernel
theorem dX9_reactions_297 : decode cX9_reactions 297 = .ok (.goto (-32), 3) := by decide +kernel
theorem dX9_reactions_300 : decode cX9_reactions 300 = .ok (.return_, 1) := by decide +kernel
theorem dX9_stands_0 : decode cX9_stands 0 = .ok (.aload_n 0, 1) := by decide +kernel
theorem dX9_stands_1 : decode cX9_stands 1 = .ok (.getfield 11, 3) := by decide +kernel
theorem dX9_stands_4 : decode cX9_stands 4 = .ok (.iconst 1, 1) := by decide +kernel
theorem dX9_stands_5 : decode cX9_stands 5 = .ok (.iaload, 1) := by decide +kernel
theorem dX9_stands_6 : decode cX9_stands 6 = .ok (.iconst 1, 1) := by decide +kernel
theorem dX9_stands_7 : decode cX9_stands 7 = .ok (.if_icmp .le 7, 3) := by decide +kernel
theorem dX9_stands_10 : decode cX9_stands 10 = .ok (.iconst 1, 1) := by decide +kernel
theorem dX9_stands_11 : decode cX9_stands 11 = .ok (.goto 4, 3) := by decide +kernel
theorem dX9_stands_14 : decode cX9_stands 14 = .ok (.iconst 0, 1) := by decide +kernel
theorem dX9_stands_15 : decode cX9_stands 15 = .ok (.ireturn, 1) := by decide +kernel
theorem dX9_reaction_0 : decode cX9_reaction 0 = .ok (.aload_n 0, 1) := by decide +kernel
theorem dX9_reaction_1 : decode cX9_reaction 1 = .ok (.iload_n 1, 1) := by decide +kernel
theorem dX9_reaction_2 : decode cX9_reaction 2 = .ok (.invokevirtual 113, 3) := by decide +kernel
theorem dX9_reaction_5 : decode cX9_reaction 5 = .ok (.ifCond .eq 20, 3) := by decide +kernel
theorem dX9_reaction_8 : decode cX9_reaction 8 = .ok (.iload_n 2, 1) := by decide +kernel
theorem dX9_reaction_9 : decode cX9_reaction 9 = .ok (.i2l, 1) := by decide +kernel
theorem dX9_reaction_10 : decode cX9_reaction 10 = .ok (.lconst 0, 1) := by decide +kernel
theorem dX9_reaction_11 : decode cX9_reaction 11 = .ok (.lconst 1, 1) := by decide +kernel
theorem dX9_reaction_12 : decode cX9_reaction 12 = .ok (.invokestatic 82, 3) := by decide +kernel
theorem dX9_reaction_15 : decode cX9_reaction 15 = .ok (.ifCond .eq 10, 3) := by decide +kernel
theorem dX9_reaction_18 : decode cX9_reaction 18 = .ok (.aload_n 0, 1) := by decide +kernel
theorem dX9_reaction_19 : decode cX9_reaction 19 = .ok (.invokevirtual 196, 3) := by decide +kernel
theorem dX9_reaction_22 : decode cX9_reaction 22 = .ok (.ifCond .ne 7, 3) := by decide +kernel
theorem dX9_reaction_25 : decode cX9_reaction 25 = .ok (.ldc2_w 200, 3) := by decide +kernel
theorem dX9_reaction_28 : decode cX9_reaction 28 = .ok (.lreturn, 1) := by decide +kernel
theorem dX9_reaction_29 : decode cX9_reaction 29 = .ok (.aload_n 0, 1) := by decide +kernel
theorem dX9_reaction_30 : decode cX9_reaction 30 = .ok (.invokevirtual 202, 3) := by decide +kernel
theorem dX9_reaction_33 : decode cX9_reaction 33 = .ok (.aload_n 0, 1) := by decide +kernel
theorem dX9_reaction_34 : decode cX9_reaction 34 = .ok (.aload_n 0, 1) := by decide +kernel
theorem dX9_reaction_35 : decode cX9_reaction 35 = .ok (.getfield 38, 3) := by decide +kernel
theorem dX9_reaction_38 : decode cX9_reaction 38 = .ok (.iload_n 1, 1) := by decide +kernel
theorem dX9_reaction_39 : decode cX9_reaction 39 = .ok (.laload, 1) := by decide +kernel
theorem dX9_reaction_40 : decode cX9_reaction 40 = .ok (.aload_n 0, 1) := by decide +kernel
theorem dX9_reaction_41 : decode cX9_reaction 41 = .ok (.getfield 182, 3) := by decide +kernel
theorem dX9_reaction_44 : decode cX9_reaction 44 = .ok (.invokevirtual 133, 3) := by decide +kernel
theorem dX9_reaction_47 : decode cX9_reaction 47 = .ok (.iload_n 2, 1) := by decide +kernel
theorem dX9_reaction_48 : decode cX9_reaction 48 = .ok (.ifCond .ne 10, 3) := by decide +kernel
theorem dX9_reaction_51 : decode cX9_reaction 51 = .ok (.aload_n 0, 1) := by decide +kernel
theorem dX9_reaction_52 : decode cX9_reaction 52 = .ok (.getfield 130, 3) := by decide +kernel
theorem dX9_reaction_55 : decode cX9_reaction 55 = .ok (.goto 7, 3) := by decide +kernel
theorem dX9_reaction_58 : decode cX9_reaction 58 = .ok (.aload_n 0, 1) := by decide +kernel
theorem dX9_reaction_59 : decode cX9_reaction 59 = .ok (.getfield 21, 3) := by decide +kernel
theorem dX9_reaction_62 : decode cX9_reaction 62 = .ok (.lreturn, 1) := by decide +kernel
theorem dX9_momentAt_0 : decode cX9_momentAt 0 = .ok (.lconst 0, 1) := by decide +kernel
theorem dX9_momentAt_1 : decode cX9_momentAt 1 = .ok (.lstore 5, 2) := by decide +kernel
theorem dX9_momentAt_3 : decode cX9_momentAt 3 = .ok (.iconst 0, 1) := by decide +kernel
theorem dX9_momentAt_4 : decode cX9_momentAt 4 = .ok (.istore 7, 2) := by decide +kernel
theorem dX9_momentAt_6 : decode cX9_momentAt 6 = .ok (.iload 7, 2) := by decide +kernel
theorem dX9_momentAt_8 : decode cX9_momentAt 8 = .ok (.aload_n 0, 1) := by decide +kernel
theorem dX9_momentAt_9 : decode cX9_momentAt 9 = .ok (.getfield 11, 3) := by decide +kernel
theorem dX9_momentAt_12 : decode cX9_momentAt 12 = .ok (.iconst 1, 1) := by decide +kernel
theorem dX9_momentAt_13 : decode cX9_momentAt 13 = .ok (.iaload, 1) := by decide +kernel
theorem dX9_momentAt_14 : decode cX9_momentAt 14 = .ok (.if_icmp .ge 57, 3) := by decide +kernel
theorem dX9_momentAt_17 : decode cX9_momentAt 17 = .ok (.lload_n 1, 1) := by decide +kernel
theorem dX9_momentAt_18 : decode cX9_momentAt 18 = .ok (.lload_n 3, 1) := by decide +kernel
theorem dX9_momentAt_19 : decode cX9_momentAt 19 = .ok (.aload_n 0, 1) := by decide +kernel
theorem dX9_momentAt_20 : decode cX9_momentAt 20 = .ok (.getfield 11, 3) := by decide +kernel
theorem dX9_momentAt_23 : decode cX9_momentAt 23 = .ok (.iconst 2, 1) := by decide +kernel
theorem dX9_momentAt_24 : decode cX9_momentAt 24 = .ok (.iload 7, 2) := by decide +kernel
theorem dX9_momentAt_26 : decode cX9_momentAt 26 = .ok (.iadd, 1) := by decide +kernel
theorem dX9_momentAt_27 : decode cX9_momentAt 27 = .ok (.iaload, 1) := by decide +kernel
theorem dX9_momentAt_28 : decode cX9_momentAt 28 = .ok (.i2l, 1) := by decide +kernel
theorem dX9_momentAt_29 : decode cX9_momentAt 29 = .ok (.lmul, 1) := by decide +kernel
theorem dX9_momentAt_30 : decode cX9_momentAt 30 = .ok (.lsub, 1) := by decide +kernel
theorem dX9_momentAt_31 : decode cX9_momentAt 31 = .ok (.lstore 8, 2) := by decide +kernel
theorem dX9_momentAt_33 : decode cX9_momentAt 33 = .ok (.lload 5, 2) := by decide +kernel
theorem dX9_momentAt_35 : decode cX9_momentAt 35 = .ok (.lload 8, 2) := by decide +kernel
theorem dX9_momentAt_37 : decode cX9_momentAt 37 = .ok (.lconst 0, 1) := by decide +kernel
theorem dX9_momentAt_38 : decode cX9_momentAt 38 = .ok (.lcmp, 1) := by decide +kernel
theorem dX9_momentAt_39 : decode cX9_momentAt 39 = .ok (.ifCond .le 22, 3) := by decide +kernel
theorem dX9_momentAt_42 : decode cX9_momentAt 42 = .ok (.ldc2_w 86, 3) := by decide +kernel
theorem dX9_momentAt_45 : decode cX9_momentAt 45 = .ok (.lload_n 3, 1) := by decide +kernel
theorem dX9_momentAt_46 : decode cX9_momentAt 46 = .ok (.lmul, 1) := by decide +kernel
theorem dX9_momentAt_47 : decode cX9_momentAt 47 = .ok (.lload 8, 2) := by decide +kernel
theorem dX9_momentAt_49 : decode cX9_momentAt 49 = .ok (.lmul, 1) := by decide +kernel
theorem dX9_momentAt_50 : decode cX9_momentAt 50 = .ok (.aload_n 0, 1) := by decide +kernel
theorem dX9_momentAt_51 : decode cX9_momentAt 51 = .ok (.getfield 38, 3) := by decide +kernel
theorem dX9_momentAt_54 : decode cX9_momentAt 54 = .ok (.iload 7, 2) := by decide +kernel
theorem dX9_momentAt_56 : decode cX9_momentAt 56 = .ok (.laload, 1) := by decide +kernel
theorem dX9_momentAt_57 : decode cX9_momentAt 57 = .ok (.lmul, 1) := by decide +kernel
theorem dX9_momentAt_58 : decode cX9_momentAt 58 = .ok (.goto 4, 3) := by decide +kernel
theorem dX9_momentAt_61 : decode cX9_momentAt 61 = .ok (.lconst 0, 1) := by decide +kernel
theorem dX9_momentAt_62 : decode cX9_momentAt 62 = .ok (.ladd, 1) := by decide +kernel
theorem dX9_momentAt_63 : decode cX9_momentAt 63 = .ok (.lstore 5, 2) := by decide +kernel
theorem dX9_momentAt_65 : decode cX9_momentAt 65 = .ok (.iinc 7 1, 3) := by decide +kernel
theorem dX9_momentAt_68 : decode cX9_momentAt 68 = .ok (.goto (-62), 3) := by decide +kernel
theorem dX9_momentAt_71 : decode cX9_momentAt 71 = .ok (.lconst 0, 1) := by decide +kernel
theorem dX9_momentAt_72 : decode cX9_momentAt 72 = .ok (.lstore 7, 2) := by decide +kernel
theorem dX9_momentAt_74 : decode cX9_momentAt 74 = .ok (.iconst 0, 1) := by decide +kernel
theorem dX9_momentAt_75 : decode cX9_momentAt 75 = .ok (.istore 9, 2) := by decide +kernel
theorem dX9_momentAt_77 : decode cX9_momentAt 77 = .ok (.iload 9, 2) := by decide +kernel
theorem dX9_momentAt_79 : decode cX9_momentAt 79 = .ok (.aload_n 0, 1) := by decide +kernel
theorem dX9_momentAt_80 : decode cX9_momentAt 80 = .ok (.getfield 11, 3) := by decide +kernel
theorem dX9_momentAt_83 : decode cX9_momentAt 83 = .ok (.bipush 10, 2) := by decide +kernel
theorem dX9_momentAt_85 : decode cX9_momentAt 85 = .ok (.iaload, 1) := by decide +kernel
theorem dX9_momentAt_86 : decode cX9_momentAt 86 = .ok (.if_icmp .ge 133, 3) := by decide +kernel
theorem dX9_momentAt_89 : decode cX9_momentAt 89 = .ok (.lload_n 1, 1) := by decide +kernel
theorem dX9_momentAt_90 : decode cX9_momentAt 90 = .ok (.lload_n 3, 1) := by decide +kernel
theorem dX9_momentAt_91 : decode cX9_momentAt 91 = .ok (.aload_n 0, 1) := by decide +kernel
theorem dX9_momentAt_92 : decode cX9_momentAt 92 = .ok (.getfield 11, 3) := by decide +kernel
theorem dX9_momentAt_95 : decode cX9_momentAt 95 = .ok (.bipush 11, 2) := by decide +kernel
theorem dX9_momentAt_97 : decode cX9_momentAt 97 = .ok (.iload 9, 2) := by decide +kernel
theorem dX9_momentAt_99 : decode cX9_momentAt 99 = .ok (.iadd, 1) := by decide +kernel
theorem dX9_momentAt_100 : decode cX9_momentAt 100 = .ok (.iaload, 1) := by decide +kernel
theorem dX9_momentAt_101 : decode cX9_momentAt 101 = .ok (.i2l, 1) := by decide +kernel
theorem dX9_momentAt_102 : decode cX9_momentAt 102 = .ok (.lmul, 1) := by decide +kernel
theorem dX9_momentAt_103 : decode cX9_momentAt 103 = .ok (.lsub, 1) := by decide +kernel
theorem dX9_momentAt_104 : decode cX9_momentAt 104 = .ok (.lstore 10, 2) := by decide +kernel
theorem dX9_momentAt_106 : decode cX9_momentAt 106 = .ok (.lload_n 1, 1) := by decide +kernel
theorem dX9_momentAt_107 : decode cX9_momentAt 107 = .ok (.lload_n 3, 1) := by decide +kernel
theorem dX9_momentAt_108 : decode cX9_momentAt 108 = .ok (.aload_n 0, 1) := by decide +kernel
theorem dX9_momentAt_109 : decode cX9_momentAt 109 = .ok (.getfield 11, 3) := by decide +kernel
theorem dX9_momentAt_112 : decode cX9_momentAt 112 = .ok (.bipush 17, 2) := by decide +kernel
theorem dX9_momentAt_114 : decode cX9_momentAt 114 = .ok (.iload 9, 2) := by decide +kernel
theorem dX9_momentAt_116 : decode cX9_momentAt 116 = .ok (.iadd, 1) := by decide +kernel
theorem dX9_momentAt_117 : decode cX9_momentAt 117 = .ok (.iaload, 1) := by decide +kernel
theorem dX9_momentAt_118 : decode cX9_momentAt 118 = .ok (.i2l, 1) := by decide +kernel
theorem dX9_momentAt_119 : decode cX9_momentAt 119 = .ok (.lmul, 1) := by decide +kernel
theorem dX9_momentAt_120 : decode cX9_momentAt 120 = .ok (.lsub, 1) := by decide +kernel
theorem dX9_momentAt_121 : decode cX9_momentAt 121 = .ok (.lstore 12, 2) := by decide +kernel
theorem dX9_momentAt_123 : decode cX9_momentAt 123 = .ok (.lload 10, 2) := by decide +kernel
theorem dX9_momentAt_125 : decode cX9_momentAt 125 = .ok (.lconst 0, 1) := by decide +kernel
theorem dX9_momentAt_126 : decode cX9_momentAt 126 = .ok (.lcmp, 1) := by decide +kernel
theorem dX9_momentAt_127 : decode cX9_momentAt 127 = .ok (.ifCond .le 54, 3) := by decide +kernel
theorem dX9_momentAt_130 : decode cX9_momentAt 130 = .ok (.aload_n 0, 1) := by decide +kernel
theorem dX9_momentAt_131 : decode cX9_momentAt 131 = .ok (.iload 9, 2) := by decide +kernel
theorem dX9_momentAt_133 : decode cX9_momentAt 133 = .ok (.invokevirtual 144, 3) := by decide +kernel
theorem dX9_momentAt_136 : decode cX9_momentAt 136 = .ok (.ifCond .eq 45, 3) := by decide +kernel
theorem dX9_momentAt_139 : decode cX9_momentAt 139 = .ok (.lload 7, 2) := by decide +kernel
theorem dX9_momentAt_141 : decode cX9_momentAt 141 = .ok (.aload_n 0, 1) := by decide +kernel
theorem dX9_momentAt_142 : decode cX9_momentAt 142 = .ok (.getfield 11, 3) := by decide +kernel
theorem dX9_momentAt_145 : decode cX9_momentAt 145 = .ok (.bipush 23, 2) := by decide +kernel
theorem dX9_momentAt_147 : decode cX9_momentAt 147 = .ok (.iload 9, 2) := by decide +kernel
theorem dX9_momentAt_149 : decode cX9_momentAt 149 = .ok (.iadd, 1) := by decide +kernel
theorem dX9_momentAt_150 : decode cX9_momentAt 150 = .ok (.iaload, 1) := by decide +kernel
theorem dX9_momentAt_151 : decode cX9_momentAt 151 = .ok (.i2l, 1) := by decide +kernel
theorem dX9_momentAt_152 : decode cX9_momentAt 152 = .ok (.lload 10, 2) := by decide +kernel
theorem dX9_momentAt_154 : decode cX9_momentAt 154 = .ok (.lload 10, 2) := by decide +kernel
theorem dX9_momentAt_156 : decode cX9_momentAt 156 = .ok (.lmul, 1) := by decide +kernel
theorem dX9_momentAt_157 : decode cX9_momentAt 157 = .ok (.lload 12, 2) := by decide +kernel
theorem dX9_momentAt_159 : decode cX9_momentAt 159 = .ok (.lconst 0, 1) := by decide +kernel
theorem dX9_momentAt_160 : decode cX9_momentAt 160 = .ok (.lcmp, 1) := by decide +kernel
theorem dX9_momentAt_161 : decode cX9_momentAt 161 = .ok (.ifCond .le 11, 3) := by decide +kernel
theorem dX9_momentAt_164 : decode cX9_momentAt 164 = .ok (.lload 12, 2) := by decide +kernel
theorem dX9_momentAt_166 : decode cX9_momentAt 166 = .ok (.lload 12, 2) := by decide +kernel
theorem dX9_momentAt_168 : decode cX9_momentAt 168 = .ok (.lmul, 1) := by decide +kernel
theorem dX9_momentAt_169 : decode cX9_momentAt 169 = .ok (.goto 4, 3) := by decide +kernel
theorem dX9_momentAt_172 : decode cX9_momentAt 172 = .ok (.lconst 0, 1) := by decide +kernel
theorem dX9_momentAt_173 : decode cX9_momentAt 173 = .ok (.lsub, 1) := by decide +kernel
theorem dX9_momentAt_174 : decode cX9_momentAt 174 = .ok (.lmul, 1) := by decide +kernel
theorem dX9_momentAt_175 : decode cX9_momentAt 175 = .ok (.ladd, 1) := by decide +kernel
theorem dX9_momentAt_176 : decode cX9_momentAt 176 = .ok (.lstore 7, 2) := by decide +kernel
theorem dX9_momentAt_178 : decode cX9_momentAt 178 = .ok (.goto 35, 3) := by decide +kernel
theorem dX9_momentAt_181 : decode cX9_momentAt 181 = .ok (.lload 10, 2) := by decide +kernel
theorem dX9_momentAt_183 : decode cX9_momentAt 183 = .ok (.lconst 0, 1) := by decide +kernel
theorem dX9_momentAt_184 : decode cX9_momentAt 184 = .ok (.lcmp, 1) := by decide +kernel
theorem dX9_momentAt_185 : decode cX9_momentAt 185 = .ok (.ifCond .le 28, 3) := by decide +kernel
theorem dX9_momentAt_188 : decode cX9_momentAt 188 = .ok (.lload 7, 2) := by decide +kernel
theorem dX9_momentAt_190 : decode cX9_momentAt 190 = .ok (.ldc2_w 86, 3) := by decide +kernel
theorem dX9_momentAt_193 : decode cX9_momentAt 193 = .ok (.lload_n 3, 1) := by decide +kernel
theorem dX9_momentAt_194 : decode cX9_momentAt 194 = .ok (.lmul, 1) := by decide +kernel
theorem dX9_momentAt_195 : decode cX9_momentAt 195 = .ok (.lload 10, 2) := by decide +kernel
theorem dX9_momentAt_197 : decode cX9_momentAt 197 = .ok (.lmul, 1) := by decide +kernel
theorem dX9_momentAt_198 : decode cX9_momentAt 198 = .ok (.aload_n 0, 1) := by decide +kernel
theorem dX9_momentAt_199 : decode cX9_momentAt 199 = .ok (.getfield 11, 3) := by decide +kernel
theorem dX9_momentAt_202 : decode cX9_momentAt 202 = .ok (.bipush 23, 2) := by decide +kernel
theorem dX9_momentAt_204 : decode cX9_momentAt 204 = .ok (.iload 9, 2) := by decide +kernel
theorem dX9_momentAt_206 : decode cX9_momentAt 206 = .ok (.iadd, 1) := by decide +kernel
theorem dX9_momentAt_207 : decode cX9_momentAt 207 = .ok (.iaload, 1) := by decide +kernel
theorem dX9_momentAt_208 : decode cX9_momentAt 208 = .ok (.i2l, 1) := by decide +kernel
theorem dX9_momentAt_209 : decode cX9_momentAt 209 = .ok (.lmul, 1) := by decide +kernel
theorem dX9_momentAt_210 : decode cX9_momentAt 210 = .ok (.ladd, 1) := by decide +kernel
theorem dX9_momentAt_211 : decode cX9_momentAt 211 = .ok (.lstore 7, 2) := by decide +kernel
theorem dX9_momentAt_213 : decode cX9_momentAt 213 = .ok (.iinc 9 1, 3) := by decide +kernel
theorem dX9_momentAt_216 : decode cX9_momentAt 216 = .ok (.goto (-139), 3) := by decide +kernel
theorem dX9_momentAt_219 : decode cX9_momentAt 219 = .ok (.lload 5, 2) := by decide +kernel
theorem dX9_momentAt_221 : decode cX9_momentAt 221 = .ok (.aload_n 0, 1) := by decide +kernel
theorem dX9_momentAt_222 : decode cX9_momentAt 222 = .ok (.getfield 182, 3) := by decide +kernel
theorem dX9_momentAt_225 : decode cX9_momentAt 225 = .ok (.lload 7, 2) := by decide +kernel
theorem dX9_momentAt_227 : decode cX9_momentAt 227 = .ok (.lmul, 1) := by decide +kernel
theorem dX9_momentAt_228 : decode cX9_momentAt 228 = .ok (.lsub, 1) := by decide +kernel
theorem dX9_momentAt_229 : decode cX9_momentAt 229 = .ok (.lreturn, 1) := by decide +kernel
theorem dX9_shearBehind_0 : decode cX9_shearBehind 0 = .ok (.lconst 0, 1) := by decide +kernel
theorem dX9_shearBehind_1 : decode cX9_shearBehind 1 = .ok (.lstore_n 2, 1) := by decide +kernel
theorem dX9_shearBehind_2 : decode cX9_shearBehind 2 = .ok (.iconst 0, 1) := by decide +kernel
theorem dX9_shearBehind_3 : decode cX9_shearBehind 3 = .ok (.istore 4, 2) := by decide +kernel
theorem dX9_shearBehind_5 : decode cX9_shearBehind 5 = .ok (.iload 4, 2) := by decide +kernel
theorem dX9_shearBehind_7 : decode cX9_shearBehind 7 = .ok (.aload_n 0, 1) := by decide +kernel
theorem dX9_shearBehind_8 : decode cX9_shearBehind 8 = .ok (.getfield 11, 3) := by decide +kernel
theorem dX9_shearBehind_11 : decode cX9_shearBehind 11 = .ok (.iconst 1, 1) := by decide +kernel
theorem dX9_shearBehind_12 : decode cX9_shearBehind 12 = .ok (.iaload, 1) := by decide +kernel
theorem dX9_shearBehind_13 : decode cX9_shearBehind 13 = .ok (.if_icmp .ge 36, 3) := by decide +kernel
theorem dX9_shearBehind_16 : decode cX9_shearBehind 16 = .ok (.lload_n 2, 1) := by decide +kernel
theorem dX9_shearBehind_17 : decode cX9_shearBehind 17 = .ok (.aload_n 0, 1) := by decide +kernel
theorem dX9_shearBehind_18 : decode cX9_shearBehind 18 = .ok (.getfield 11, 3) := by decide +kernel
theorem dX9_shearBehind_21 : decode cX9_shearBehind 21 = .ok (.iconst 2, 1) := by decide +kernel
theorem dX9_shearBehind_22 : decode cX9_shearBehind 22 = .ok (.iload 4, 2) := by decide +kernel
theorem dX9_shearBehind_24 : decode cX9_shearBehind 24 = .ok (.iadd, 1) := by decide +kernel
theorem dX9_shearBehind_25 : decode cX9_shearBehind 25 = .ok (.iaload, 1) := by decide +kernel
theorem dX9_shearBehind_26 : decode cX9_shearBehind 26 = .ok (.iload_n 1, 1) := by decide +kernel
theorem dX9_shearBehind_27 : decode cX9_shearBehind 27 = .ok (.if_icmp .gt 13, 3) := by decide +kernel
theorem dX9_shearBehind_30 : decode cX9_shearBehind 30 = .ok (.aload_n 0, 1) := by decide +kernel
theorem dX9_shearBehind_31 : decode cX9_shearBehind 31 = .ok (.getfield 38, 3) := by decide +kernel
theorem dX9_shearBehind_34 : decode cX9_shearBehind 34 = .ok (.iload 4, 2) := by decide +kernel
theorem dX9_shearBehind_36 : decode cX9_shearBehind 36 = .ok (.laload, 1) := by decide +kernel
theorem dX9_shearBehind_37 : decode cX9_shearBehind 37 = .ok (.goto 4, 3) := by decide +kernel
theorem dX9_shearBehind_40 : decode cX9_shearBehind 40 = .ok (.lconst 0, 1) := by decide +kernel
theorem dX9_shearBehind_41 : decode cX9_shearBehind 41 = .ok (.ladd, 1) := by decide +kernel
theorem dX9_shearBehind_42 : decode cX9_shearBehind 42 = .ok (.lstore_n 2, 1) := by decide +kernel
theorem dX9_shearBehind_43 : decode cX9_shearBehind 43 = .ok (.iinc 4 1, 3) := by decide +kernel
theorem dX9_shearBehind_46 : decode cX9_shearBehind 46 = .ok (.goto (-41), 3) := by decide +kernel
theorem dX9_shearBehind_49 : decode cX9_shearBehind 49 = .ok (.aload_n 0, 1) := by decide +kernel
theorem dX9_shearBehind_50 : decode cX9_shearBehind 50 = .ok (.iload_n 1, 1) := by decide +kernel
theorem dX9_shearBehind_51 : decode cX9_shearBehind 51 = .ok (.invokevirtual 185, 3) := by decide +kernel
theorem dX9_shearBehind_54 : decode cX9_shearBehind 54 = .ok (.aload_n 0, 1) := by decide +kernel
theorem dX9_shearBehind_55 : decode cX9_shearBehind 55 = .ok (.iload_n 1, 1) := by decide +kernel
theorem dX9_shearBehind_56 : decode cX9_shearBehind 56 = .ok (.iconst 1, 1) := by decide +kernel
theorem dX9_shearBehind_57 : decode cX9_shearBehind 57 = .ok (.invokevirtual 189, 3) := by decide +kernel
theorem dX9_shearBehind_60 : decode cX9_shearBehind 60 = .ok (.ladd, 1) := by decide +kernel
theorem dX9_shearBehind_61 : decode cX9_shearBehind 61 = .ok (.lstore 4, 2) := by decide +kernel
theorem dX9_shearBehind_63 : decode cX9_shearBehind 63 = .ok (.lload_n 2, 1) := by decide +kernel
theorem dX9_shearBehind_64 : decode cX9_shearBehind 64 = .ok (.aload_n 0, 1) := by decide +kernel
theorem dX9_shearBehind_65 : decode cX9_shearBehind 65 = .ok (.getfield 182, 3) := by decide +kernel
theorem dX9_shearBehind_68 : decode cX9_shearBehind 68 = .ok (.lload 4, 2) := by decide +kernel
theorem dX9_shearBehind_70 : decode cX9_shearBehind 70 = .ok (.lmul, 1) := by decide +kernel
theorem dX9_shearBehind_71 : decode cX9_shearBehind 71 = .ok (.lsub, 1) := by decide +kernel
theorem dX9_shearBehind_72 : decode cX9_shearBehind 72 = .ok (.lreturn, 1) := by decide +kernel
theorem dX9_spreadOn_0 : decode cX9_spreadOn 0 = .ok (.iconst 0, 1) := by decide +kernel
theorem dX9_spreadOn_1 : decode cX9_spreadOn 1 = .ok (.istore_n 2, 1) := by decide +kernel
theorem dX9_spreadOn_2 : decode cX9_spreadOn 2 = .ok (.iconst 0, 1) := by decide +kernel
theorem dX9_spreadOn_3 : decode cX9_spreadOn 3 = .ok (.istore_n 3, 1) := by decide +kernel
theorem dX9_spreadOn_4 : decode cX9_spreadOn 4 = .ok (.iload_n 3, 1) := by decide +kernel
theorem dX9_spreadOn_5 : decode cX9_spreadOn 5 = .ok (.aload_n 0, 1) := by decide +kernel
theorem dX9_spreadOn_6 : decode cX9_spreadOn 6 = .ok (.getfield 11, 3) := by decide +kernel
theorem dX9_spreadOn_9 : decode cX9_spreadOn 9 = .ok (.bipush 10, 2) := by decide +kernel
theorem dX9_spreadOn_11 : decode cX9_spreadOn 11 = .ok (.iaload, 1) := by decide +kernel
theorem dX9_spreadOn_12 : decode cX9_spreadOn 12 = .ok (.if_icmp .ge 51, 3) := by decide +kernel
theorem dX9_spreadOn_15 : decode cX9_spreadOn 15 = .ok (.iload_n 2, 1) := by decide +kernel
theorem dX9_spreadOn_16 : decode cX9_spreadOn 16 = .ok (.aload_n 0, 1) := by decide +kernel
theorem dX9_spreadOn_17 : decode cX9_spreadOn 17 = .ok (.getfield 11, 3) := by decide +kernel
theorem dX9_spreadOn_20 : decode cX9_spreadOn 20 = .ok (.bipush 11, 2) := by decide +kernel
theorem dX9_spreadOn_22 : decode cX9_spreadOn 22 = .ok (.iload_n 3, 1) := by decide +kernel
theorem dX9_spreadOn_23 : decode cX9_spreadOn 23 = .ok (.iadd, 1) := by decide +kernel
theorem dX9_spreadOn_24 : decode cX9_spreadOn 24 = .ok (.iaload, 1) := by decide +kernel
theorem dX9_spreadOn_25 : decode cX9_spreadOn 25 = .ok (.iload_n 1, 1) := by decide +kernel
theorem dX9_spreadOn_26 : decode cX9_spreadOn 26 = .ok (.if_icmp .gt 28, 3) := by decide +kernel
theorem dX9_spreadOn_29 : decode cX9_spreadOn 29 = .ok (.aload_n 0, 1) := by decide +kernel
theorem dX9_spreadOn_30 : decode cX9_spreadOn 30 = .ok (.getfield 11, 3) := by decide +kernel
theorem dX9_spreadOn_33 : decode cX9_spreadOn 33 = .ok (.bipush 17, 2) := by decide +kernel
theorem dX9_spreadOn_35 : decode cX9_spreadOn 35 = .ok (.iload_n 3, 1) := by decide +kernel
theorem dX9_spreadOn_36 : decode cX9_spreadOn 36 = .ok (.iadd, 1) := by decide +kernel
theorem dX9_spreadOn_37 : decode cX9_spreadOn 37 = .ok (.iaload, 1) := by decide +kernel
theorem dX9_spreadOn_38 : decode cX9_spreadOn 38 = .ok (.iload_n 1, 1) := by decide +kernel
theorem dX9_spreadOn_39 : decode cX9_spreadOn 39 = .ok (.if_icmp .le 15, 3) := by decide +kernel
theorem dX9_spreadOn_42 : decode cX9_spreadOn 42 = .ok (.aload_n 0, 1) := by decide +kernel
theorem dX9_spreadOn_43 : decode cX9_spreadOn 43 = .ok (.getfield 11, 3) := by decide +kernel
theorem dX9_spreadOn_46 : decode cX9_spreadOn 46 = .ok (.bipush 23, 2) := by decide +kernel
theorem dX9_spreadOn_48 : decode cX9_spreadOn 48 = .ok (.iload_n 3, 1) := by decide +kernel
theorem dX9_spreadOn_49 : decode cX9_spreadOn 49 = .ok (.iadd, 1) := by decide +kernel
theorem dX9_spreadOn_50 : decode cX9_spreadOn 50 = .ok (.iaload, 1) := by decide +kernel
theorem dX9_spreadOn_51 : decode cX9_spreadOn 51 = .ok (.goto 4, 3) := by decide +kernel
theorem dX9_spreadOn_54 : decode cX9_spreadOn 54 = .ok (.iconst 0, 1) := by decide +kernel
theorem dX9_spreadOn_55 : decode cX9_spreadOn 55 = .ok (.iadd, 1) := by decide +kernel
theorem dX9_spreadOn_56 : decode cX9_spreadOn 56 = .ok (.istore_n 2, 1) := by decide +kernel
theorem dX9_spreadOn_57 : decode cX9_spreadOn 57 = .ok (.iinc 3 1, 3) := by decide +kernel
theorem dX9_spreadOn_60 : decode cX9_spreadOn 60 = .ok (.goto (-56), 3) := by decide +kernel
theorem dX9_spreadOn_63 : decode cX9_spreadOn 63 = .ok (.iload_n 2, 1) := by decide +kernel
theorem dX9_spreadOn_64 : decode cX9_spreadOn 64 = .ok (.ireturn, 1) := by decide +kernel
theorem dX9_shear_0 : decode cX9_shear 0 = .ok (.aload_n 0, 1) := by decide +kernel
theorem dX9_shear_1 : decode cX9_shear 1 = .ok (.iload_n 1, 1) := by decide +kernel
theorem dX9_shear_2 : decode cX9_shear 2 = .ok (.invokevirtual 90, 3) := by decide +kernel
theorem dX9_shear_5 : decode cX9_shear 5 = .ok (.ifCond .eq 20, 3) := by decide +kernel
theorem dX9_shear_8 : decode cX9_shear 8 = .ok (.iload_n 2, 1) := by decide +kernel
theorem dX9_shear_9 : decode cX9_shear 9 = .ok (.i2l, 1) := by decide +kernel
theorem dX9_shear_10 : decode cX9_shear 10 = .ok (.lconst 0, 1) := by decide +kernel
theorem dX9_shear_11 : decode cX9_shear 11 = .ok (.lconst 1, 1) := by decide +kernel
theorem dX9_shear_12 : decode cX9_shear 12 = .ok (.invokestatic 82, 3) := by decide +kernel
theorem dX9_shear_15 : decode cX9_shear 15 = .ok (.ifCond .eq 10, 3) := by decide +kernel
theorem dX9_shear_18 : decode cX9_shear 18 = .ok (.aload_n 0, 1) := by decide +kernel
theorem dX9_shear_19 : decode cX9_shear 19 = .ok (.invokevirtual 196, 3) := by decide +kernel
theorem dX9_shear_22 : decode cX9_shear 22 = .ok (.ifCond .ne 7, 3) := by decide +kernel
theorem dX9_shear_25 : decode cX9_shear 25 = .ok (.ldc2_w 200, 3) := by decide +kernel
theorem dX9_shear_28 : decode cX9_shear 28 = .ok (.lreturn, 1) := by decide +kernel
theorem dX9_shear_29 : decode cX9_shear 29 = .ok (.aload_n 0, 1) := by decide +kernel
theorem dX9_shear_30 : decode cX9_shear 30 = .ok (.invokevirtual 202, 3) := by decide +kernel
theorem dX9_shear_33 : decode cX9_shear 33 = .ok (.aload_n 0, 1) := by decide +kernel
theorem dX9_shear_34 : decode cX9_shear 34 = .ok (.aload_n 0, 1) := by decide +kernel
theorem dX9_shear_35 : decode cX9_shear 35 = .ok (.iload_n 1, 1) := by decide +kernel
theorem dX9_shear_36 : decode cX9_shear 36 = .ok (.invokevirtual 205, 3) := by decide +kernel
theorem dX9_shear_39 : decode cX9_shear 39 = .ok (.aload_n 0, 1) := by decide +kernel
theorem dX9_shear_40 : decode cX9_shear 40 = .ok (.getfield 182, 3) := by decide +kernel
theorem dX9_shear_43 : decode cX9_shear 43 = .ok (.invokevirtual 133, 3) := by decide +kernel
theorem dX9_shear_46 : decode cX9_shear 46 = .ok (.iload_n 2, 1) := by decide +kernel
theorem dX9_shear_47 : decode cX9_shear 47 = .ok (.ifCond .ne 10, 3) := by decide +kernel
theorem dX9_shear_50 : decode cX9_shear 50 = .ok (.aload_n 0, 1) := by decide +kernel
theorem dX9_shear_51 : decode cX9_shear 51 = .ok (.getfield 130, 3) := by decide +kernel
theorem dX9_shear_54 : decode cX9_shear 54 = .ok (.goto 7, 3) := by decide +kernel
theorem dX9_shear_57 : decode cX9_shear 57 = .ok (.aload_n 0, 1) := by decide +kernel
theorem dX9_shear_58 : decode cX9_shear 58 = .ok (.getfield 21, 3) := by decide +kernel
theorem dX9_shear_61 : decode cX9_shear 61 = .ok (.lreturn, 1) := by decide +kernel
theorem dX9_moment_0 : decode cX9_moment 0 = .ok (.iload_n 2, 1) := by decide +kernel
theorem dX9_moment_1 : decode cX9_moment 1 = .ok (.i2l, 1) := by decide +kernel
theorem dX9_moment_2 : decode cX9_moment 2 = .ok (.lconst 1, 1) := by decide +kernel
theorem dX9_moment_3 : decode cX9_moment 3 = .ok (.ldc2_w 208, 3) := by decide +kernel
theorem dX9_moment_6 : decode cX9_moment 6 = .ok (.invokestatic 82, 3) := by decide +kernel
theorem dX9_moment_9 : decode cX9_moment 9 = .ok (.ifCond .eq 39, 3) := by decide +kernel
theorem dX9_moment_12 : decode cX9_moment 12 = .ok (.iload_n 1, 1) := by decide +kernel
theorem dX9_moment_13 : decode cX9_moment 13 = .ok (.i2l, 1) := by decide +kernel
theorem dX9_moment_14 : decode cX9_moment 14 = .ok (.lconst 0, 1) := by decide +kernel
theorem dX9_moment_15 : decode cX9_moment 15 = .ok (.iload_n 2, 1) := by decide +kernel
theorem dX9_moment_16 : decode cX9_moment 16 = .ok (.i2l, 1) := by decide +kernel
theorem dX9_moment_17 : decode cX9_moment 17 = .ok (.aload_n 0, 1) := by decide +kernel
theorem dX9_moment_18 : decode cX9_moment 18 = .ok (.getfield 11, 3) := by decide +kernel
theorem dX9_moment_21 : decode cX9_moment 21 = .ok (.iconst 0, 1) := by decide +kernel
theorem dX9_moment_22 : decode cX9_moment 22 = .ok (.iaload, 1) := by decide +kernel
theorem dX9_moment_23 : decode cX9_moment 23 = .ok (.i2l, 1) := by decide +kernel
theorem dX9_moment_24 : decode cX9_moment 24 = .ok (.lmul, 1) := by decide +kernel
theorem dX9_moment_25 : decode cX9_moment 25 = .ok (.invokestatic 82, 3) := by decide +kernel
theorem dX9_moment_28 : decode cX9_moment 28 = .ok (.ifCond .eq 20, 3) := by decide +kernel
theorem dX9_moment_31 : decode cX9_moment 31 = .ok (.iload_n 3, 1) := by decide +kernel
theorem dX9_moment_32 : decode cX9_moment 32 = .ok (.i2l, 1) := by decide +kernel
theorem dX9_moment_33 : decode cX9_moment 33 = .ok (.lconst 0, 1) := by decide +kernel
theorem dX9_moment_34 : decode cX9_moment 34 = .ok (.lconst 1, 1) := by decide +kernel
theorem dX9_moment_35 : decode cX9_moment 35 = .ok (.invokestatic 82, 3) := by decide +kernel
theorem dX9_moment_38 : decode cX9_moment 38 = .ok (.ifCond .eq 10, 3) := by decide +kernel
theorem dX9_moment_41 : decode cX9_moment 41 = .ok (.aload_n 0, 1) := by decide +kernel
theorem dX9_moment_42 : decode cX9_moment 42 = .ok (.invokevirtual 196, 3) := by decide +kernel
theorem dX9_moment_45 : decode cX9_moment 45 = .ok (.ifCond .ne 7, 3) := by decide +kernel
theorem dX9_moment_48 : decode cX9_moment 48 = .ok (.ldc2_w 200, 3) := by decide +kernel
theorem dX9_moment_51 : decode cX9_moment 51 = .ok (.lreturn, 1) := by decide +kernel
theorem dX9_moment_52 : decode cX9_moment 52 = .ok (.aload_n 0, 1) := by decide +kernel
theorem dX9_moment_53 : decode cX9_moment 53 = .ok (.invokevirtual 202, 3) := by decide +kernel
theorem dX9_moment_56 : decode cX9_moment 56 = .ok (.aload_n 0, 1) := by decide +kernel
theorem dX9_moment_57 : decode cX9_moment 57 = .ok (.aload_n 0, 1) := by decide +kernel
theorem dX9_moment_58 : decode cX9_moment 58 = .ok (.iload_n 1, 1) := by decide +kernel
theorem dX9_moment_59 : decode cX9_moment 59 = .ok (.i2l, 1) := by decide +kernel
theorem dX9_moment_60 : decode cX9_moment 60 = .ok (.iload_n 2, 1) := by decide +kernel
theorem dX9_moment_61 : decode cX9_moment 61 = .ok (.i2l, 1) := by decide +kernel
theorem dX9_moment_62 : decode cX9_moment 62 = .ok (.invokevirtual 210, 3) := by decide +kernel
theorem dX9_moment_65 : decode cX9_moment 65 = .ok (.ldc2_w 86, 3) := by decide +kernel
theorem dX9_moment_68 : decode cX9_moment 68 = .ok (.iload_n 2, 1) := by decide +kernel
theorem dX9_moment_69 : decode cX9_moment 69 = .ok (.i2l, 1) := by decide +kernel
theorem dX9_moment_70 : decode cX9_moment 70 = .ok (.lmul, 1) := by decide +kernel
theorem dX9_moment_71 : decode cX9_moment 71 = .ok (.iload_n 2, 1) := by decide +kernel
theorem dX9_moment_72 : decode cX9_moment 72 = .ok (.i2l, 1) := by decide +kernel
theorem dX9_moment_73 : decode cX9_moment 73 = .ok (.lmul, 1) := by decide +kernel
theorem dX9_moment_74 : decode cX9_moment 74 = .ok (.aload_n 0, 1) := by decide +kernel
theorem dX9_moment_75 : decode cX9_moment 75 = .ok (.getfield 182, 3) := by decide +kernel
theorem dX9_moment_78 : decode cX9_moment 78 = .ok (.lmul, 1) := by decide +kernel
theorem dX9_moment_79 : decode cX9_moment 79 = .ok (.invokevirtual 133, 3) := by decide +kernel
theorem dX9_moment_82 : decode cX9_moment 82 = .ok (.iload_n 3, 1) := by decide +kernel
theorem dX9_moment_83 : decode cX9_moment 83 = .ok (.ifCond .ne 10, 3) := by decide +kernel
theorem dX9_moment_86 : decode cX9_moment 86 = .ok (.aload_n 0, 1) := by decide +kernel
theorem dX9_moment_87 : decode cX9_moment 87 = .ok (.getfield 130, 3) := by decide +kernel
theorem dX9_moment_90 : decode cX9_moment 90 = .ok (.goto 7, 3) := by decide +kernel
theorem dX9_moment_93 : decode cX9_moment 93 = .ok (.aload_n 0, 1) := by decide +kernel
theorem dX9_moment_94 : decode cX9_moment 94 = .ok (.getfield 21, 3) := by decide +kernel
theorem dX9_moment_97 : decode cX9_moment 97 = .ok (.lreturn, 1) := by decide +kernel
theorem dX9_sagAt_0 : decode cX9_sagAt 0 = .ok (.iconst 0, 1) := by decide +kernel
theorem dX9_sagAt_1 : decode cX9_sagAt 1 = .ok (.istore_n 2, 1) := by decide +kernel
theorem dX9_sagAt_2 : decode cX9_sagAt 2 = .ok (.iload_n 2, 1) := by decide +kernel
theorem dX9_sagAt_3 : decode cX9_sagAt 3 = .ok (.aload_n 0, 1) := by decide +kernel
theorem dX9_sagAt_4 : decode cX9_sagAt 4 = .ok (.getfield 11, 3) := by decide +kernel
theorem dX9_sagAt_7 : decode cX9_sagAt 7 = .ok (.iconst 1, 1) := by decide +kernel
theorem dX9_sagAt_8 : decode cX9_sagAt 8 = .ok (.iaload, 1) := by decide +kernel
theorem dX9_sagAt_9 : decode cX9_sagAt 9 = .ok (.iconst 2, 1) := by decide +kernel
theorem dX9_sagAt_10 : decode cX9_sagAt 10 = .ok (.isub, 1) := by decide +kernel
theorem dX9_sagAt_11 : decode cX9_sagAt 11 = .ok (.if_icmp .ge 23, 3) := by decide +kernel
theorem dX9_sagAt_14 : decode cX9_sagAt 14 = .ok (.aload_n 0, 1) := by decide +kernel
theorem dX9_sagAt_15 : decode cX9_sagAt 15 = .ok (.getfield 11, 3) := by decide +kernel
theorem dX9_sagAt_18 : decode cX9_sagAt 18 = .ok (.iconst 2, 1) := by decide +kernel
theorem dX9_sagAt_19 : decode cX9_sagAt 19 = .ok (.iload_n 2, 1) := by decide +kernel
theorem dX9_sagAt_20 : decode cX9_sagAt 20 = .ok (.iadd, 1) := by decide +kernel
theorem dX9_sagAt_21 : decode cX9_sagAt 21 = .ok (.iconst 1, 1) := by decide +kernel
theorem dX9_sagAt_22 : decode cX9_sagAt 22 = .ok (.iadd, 1) := by decide +kernel
theorem dX9_sagAt_23 : decode cX9_sagAt 23 = .ok (.iaload, 1) := by decide +kernel
theorem dX9_sagAt_24 : decode cX9_sagAt 24 = .ok (.iload_n 1, 1) := by decide +kernel
theorem dX9_sagAt_25 : decode cX9_sagAt 25 = .ok (.if_icmp .ge 9, 3) := by decide +kernel
theorem dX9_sagAt_28 : decode cX9_sagAt 28 = .ok (.iinc 2 1, 3) := by decide +kernel
theorem dX9_sagAt_31 : decode cX9_sagAt 31 = .ok (.goto (-29), 3) := by decide +kernel
theorem dX9_sagAt_34 : decode cX9_sagAt 34 = .ok (.aload_n 0, 1) := by decide +kernel
theorem dX9_sagAt_35 : decode cX9_sagAt 35 = .ok (.getfield 11, 3) := by decide +kernel
theorem dX9_sagAt_38 : decode cX9_sagAt 38 = .ok (.iconst 2, 1) := by decide +kernel
theorem dX9_sagAt_39 : decode cX9_sagAt 39 = .ok (.iload_n 2, 1) := by decide +kernel
theorem dX9_sagAt_40 : decode cX9_sagAt 40 = .ok (.iadd, 1) := by decide +kernel
theorem dX9_sagAt_41 : decode cX9_sagAt 41 = .ok (.iaload, 1) := by decide +kernel
theorem dX9_sagAt_42 : decode cX9_sagAt 42 = .ok (.istore_n 3, 1) := by decide +kernel
theorem dX9_sagAt_43 : decode cX9_sagAt 43 = .ok (.aload_n 0, 1) := by decide +kernel
theorem dX9_sagAt_44 : decode cX9_sagAt 44 = .ok (.getfield 11, 3) := by decide +kernel
theorem dX9_sagAt_47 : decode cX9_sagAt 47 = .ok (.iconst 2, 1) := by decide +kernel
theorem dX9_sagAt_48 : decode cX9_sagAt 48 = .ok (.iload_n 2, 1) := by decide +kernel
theorem dX9_sagAt_49 : decode cX9_sagAt 49 = .ok (.iadd, 1) := by decide +kernel
theorem dX9_sagAt_50 : decode cX9_sagAt 50 = .ok (.iconst 1, 1) := by decide +kernel
theorem dX9_sagAt_51 : decode cX9_sagAt 51 = .ok (.iadd, 1) := by decide +kernel
theorem dX9_sagAt_52 : decode cX9_sagAt 52 = .ok (.iaload, 1) := by decide +kernel
theorem dX9_sagAt_53 : decode cX9_sagAt 53 = .ok (.istore 4, 2) := by decide +kernel
theorem dX9_sagAt_55 : decode cX9_sagAt 55 = .ok (.lconst 0, 1) := by decide +kernel
theorem dX9_sagAt_56 : decode cX9_sagAt 56 = .ok (.lstore 5, 2) := by decide +kernel
theorem dX9_sagAt_58 : decode cX9_sagAt 58 = .ok (.aload_n 0, 1) := by decide +kernel
theorem dX9_sagAt_59 : decode cX9_sagAt 59 = .ok (.getfield 44, 3) := by decide +kernel
theorem dX9_sagAt_62 : decode cX9_sagAt 62 = .ok (.iload_n 3, 1) := by decide +kernel
theorem dX9_sagAt_63 : decode cX9_sagAt 63 = .ok (.lconst 0, 1) := by decide +kernel
theorem dX9_sagAt_64 : decode cX9_sagAt 64 = .ok (.lastore, 1) := by decide +kernel
theorem dX9_sagAt_65 : decode cX9_sagAt 65 = .ok (.iload_n 3, 1) := by decide +kernel
theorem dX9_sagAt_66 : decode cX9_sagAt 66 = .ok (.istore 7, 2) := by decide +kernel
theorem dX9_sagAt_68 : decode cX9_sagAt 68 = .ok (.iload 7, 2) := by decide +kernel
theorem dX9_sagAt_70 : decode cX9_sagAt 70 = .ok (.aload_n 0, 1) := by decide +kernel
theorem dX9_sagAt_71 : decode cX9_sagAt 71 = .ok (.getfield 11, 3) := by decide +kernel
theorem dX9_sagAt_74 : decode cX9_sagAt 74 = .ok (.iconst 0, 1) := by decide +kernel
theorem dX9_sagAt_75 : decode cX9_sagAt 75 = .ok (.iaload, 1) := by decide +kernel
theorem dX9_sagAt_76 : decode cX9_sagAt 76 = .ok (.if_icmp .ge 102, 3) := by decide +kernel
theorem dX9_sagAt_79 : decode cX9_sagAt 79 = .ok (.aload_n 0, 1) := by decide +kernel
theorem dX9_sagAt_80 : decode cX9_sagAt 80 = .ok (.iload 7, 2) := by decide +kernel
theorem dX9_sagAt_82 : decode cX9_sagAt 82 = .ok (.i2l, 1) := by decide +kernel
theorem dX9_sagAt_83 : decode cX9_sagAt 83 = .ok (.lconst 1, 1) := by decide +kernel
theorem dX9_sagAt_84 : decode cX9_sagAt 84 = .ok (.invokevirtual 210, 3) := by decide +kernel
theorem dX9_sagAt_87 : decode cX9_sagAt 87 = .ok (.lstore 8, 2) := by decide +kernel
theorem dX9_sagAt_89 : decode cX9_sagAt 89 = .ok (.aload_n 0, 1) := by decide +kernel
theorem dX9_sagAt_90 : decode cX9_sagAt 90 = .ok (.iload 7, 2) := by decide +kernel
theorem dX9_sagAt_92 : decode cX9_sagAt 92 = .ok (.invokevirtual 205, 3) := by decide +kernel
theorem dX9_sagAt_95 : decode cX9_sagAt 95 = .ok (.lstore 10, 2) := by decide +kernel
theorem dX9_sagAt_97 : decode cX9_sagAt 97 = .ok (.aload_n 0, 1) := by decide +kernel
theorem dX9_sagAt_98 : decode cX9_sagAt 98 = .ok (.iload 7, 2) := by decide +kernel
theorem dX9_sagAt_100 : decode cX9_sagAt 100 = .ok (.invokevirtual 213, 3) := by decide +kernel
theorem dX9_sagAt_103 : decode cX9_sagAt 103 = .ok (.i2l, 1) := by decide +kernel
theorem dX9_sagAt_104 : decode cX9_sagAt 104 = .ok (.aload_n 0, 1) := by decide +kernel
theorem dX9_sagAt_105 : decode cX9_sagAt 105 = .ok (.getfield 182, 3) := by decide +kernel
theorem dX9_sagAt_108 : decode cX9_sagAt 108 = .ok (.lmul, 1) := by decide +kernel
theorem dX9_sagAt_109 : decode cX9_sagAt 109 = .ok (.lstore 12, 2) := by decide +kernel
theorem dX9_sagAt_111 : decode cX9_sagAt 111 = .ok (.aload_n 0, 1) := by decide +kernel
theorem dX9_sagAt_112 : decode cX9_sagAt 112 = .ok (.getfield 44, 3) := by decide +kernel
theorem dX9_sagAt_115 : decode cX9_sagAt 115 = .ok (.iload 7, 2) := by decide +kernel
theorem dX9_sagAt_117 : decode cX9_sagAt 117 = .ok (.iconst 1, 1) := by decide +kernel
theorem dX9_sagAt_118 : decode cX9_sagAt 118 = .ok (.iadd, 1) := by decide +kernel
theorem dX9_sagAt_119 : decode cX9_sagAt 119 = .ok (.aload_n 0, 1) := by decide +kernel
theorem dX9_sagAt_120 : decode cX9_sagAt 120 = .ok (.getfield 44, 3) := by decide +kernel
theorem dX9_sagAt_123 : decode cX9_sagAt 123 = .ok (.iload 7, 2) := by decide +kernel
theorem dX9_sagAt_125 : decode cX9_sagAt 125 = .ok (.laload, 1) := by decide +kernel
theorem dX9_sagAt_126 : decode cX9_sagAt 126 = .ok (.lload 5, 2) := by decide +kernel
theorem dX9_sagAt_128 : decode cX9_sagAt 128 = .ok (.ladd, 1) := by decide +kernel
theorem dX9_sagAt_129 : decode cX9_sagAt 129 = .ok (.ldc2_w 216, 3) := by decide +kernel
theorem dX9_sagAt_132 : decode cX9_sagAt 132 = .ok (.lload 8, 2) := by decide +kernel
theorem dX9_sagAt_134 : decode cX9_sagAt 134 = .ok (.lmul, 1) := by decide +kernel
theorem dX9_sagAt_135 : decode cX9_sagAt 135 = .ok (.ladd, 1) := by decide +kernel
theorem dX9_sagAt_136 : decode cX9_sagAt 136 = .ok (.ldc2_w 150, 3) := by decide +kernel
theorem dX9_sagAt_139 : decode cX9_sagAt 139 = .ok (.lload 10, 2) := by decide +kernel
theorem dX9_sagAt_141 : decode cX9_sagAt 141 = .ok (.lmul, 1) := by decide +kernel
theorem dX9_sagAt_142 : decode cX9_sagAt 142 = .ok (.ladd, 1) := by decide +kernel
theorem dX9_sagAt_143 : decode cX9_sagAt 143 = .ok (.lload 12, 2) := by decide +kernel
theorem dX9_sagAt_145 : decode cX9_sagAt 145 = .ok (.lsub, 1) := by decide +kernel
theorem dX9_sagAt_146 : decode cX9_sagAt 146 = .ok (.lastore, 1) := by decide +kernel
theorem dX9_sagAt_147 : decode cX9_sagAt 147 = .ok (.lload 5, 2) := by decide +kernel
theorem dX9_sagAt_149 : decode cX9_sagAt 149 = .ok (.ldc2_w 218, 3) := by decide +kernel
theorem dX9_sagAt_152 : decode cX9_sagAt 152 = .ok (.lload 8, 2) := by decide +kernel
theorem dX9_sagAt_154 : decode cX9_sagAt 154 = .ok (.lmul, 1) := by decide +kernel
theorem dX9_sagAt_155 : decode cX9_sagAt 155 = .ok (.ldc2_w 218, 3) := by decide +kernel
theorem dX9_sagAt_158 : decode cX9_sagAt 158 = .ok (.lload 10, 2) := by decide +kernel
theorem dX9_sagAt_160 : decode cX9_sagAt 160 = .ok (.lmul, 1) := by decide +kernel
theorem dX9_sagAt_161 : decode cX9_sagAt 161 = .ok (.ladd, 1) := by decide +kernel
theorem dX9_sagAt_162 : decode cX9_sagAt 162 = .ok (.ldc2_w 150, 3) := by decide +kernel
theorem dX9_sagAt_165 : decode cX9_sagAt 165 = .ok (.lload 12, 2) := by decide +kernel
theorem dX9_sagAt_167 : decode cX9_sagAt 167 = .ok (.lmul, 1) := by decide +kernel
theorem dX9_sagAt_168 : decode cX9_sagAt 168 = .ok (.lsub, 1) := by decide +kernel
theorem dX9_sagAt_169 : decode cX9_sagAt 169 = .ok (.ladd, 1) := by decide +kernel
theorem dX9_sagAt_170 : decode cX9_sagAt 170 = .ok (.lstore 5, 2) := by decide +kernel
theorem dX9_sagAt_172 : decode cX9_sagAt 172 = .ok (.iinc 7 1, 3) := by decide +kernel
theorem dX9_sagAt_175 : decode cX9_sagAt 175 = .ok (.goto (-107), 3) := by decide +kernel
theorem dX9_sagAt_178 : decode cX9_sagAt 178 = .ok (.lconst 0, 1) := by decide +kernel
theorem dX9_sagAt_179 : decode cX9_sagAt 179 = .ok (.lstore 5, 2) := by decide +kernel
theorem dX9_sagAt_181 : decode cX9_sagAt 181 = .ok (.iload_n 3, 1) := by decide +kernel
theorem dX9_sagAt_182 : decode cX9_sagAt 182 = .ok (.iconst 1, 1) := by decide +kernel
theorem dX9_sagAt_183 : decode cX9_sagAt 183 = .ok (.isub, 1) := by decide +kernel
theorem dX9_sagAt_184 : decode cX9_sagAt 184 = .ok (.istore 7, 2) := by decide +kernel
theorem dX9_sagAt_186 : decode cX9_sagAt 186 = .ok (.iload 7, 2) := by decide +kernel
theorem dX9_sagAt_188 : decode cX9_sagAt 188 = .ok (.ifCond .lt 102, 3) := by decide +kernel
theorem dX9_sagAt_191 : decode cX9_sagAt 191 = .ok (.aload_n 0, 1) := by decide +kernel
theorem dX9_sagAt_192 : decode cX9_sagAt 192 = .ok (.iload 7, 2) := by decide +kernel
theorem dX9_sagAt_194 : decode cX9_sagAt 194 = .ok (.i2l, 1) := by decide +kernel
theorem dX9_sagAt_195 : decode cX9_sagAt 195 = .ok (.lconst 1, 1) := by decide +kernel
theorem dX9_sagAt_196 : decode cX9_sagAt 196 = .ok (.invokevirtual 210, 3) := by decide +kernel
theorem dX9_sagAt_199 : decode cX9_sagAt 199 = .ok (.lstore 8, 2) := by decide +kernel
theorem dX9_sagAt_201 : decode cX9_sagAt 201 = .ok (.aload_n 0, 1) := by decide +kernel
theorem dX9_sagAt_202 : decode cX9_sagAt 202 = .ok (.iload 7, 2) := by decide +kernel
theorem dX9_sagAt_204 : decode cX9_sagAt 204 = .ok (.invokevirtual 205, 3) := by decide +kernel
theorem dX9_sagAt_207 : decode cX9_sagAt 207 = .ok (.lstore 10, 2) := by decide +kernel
theorem dX9_sagAt_209 : decode cX9_sagAt 209 = .ok (.aload_n 0, 1) := by decide +kernel
theorem dX9_sagAt_210 : decode cX9_sagAt 210 = .ok (.iload 7, 2) := by decide +kernel
theorem dX9_sagAt_212 : decode cX9_sagAt 212 = .ok (.invokevirtual 213, 3) := by decide +kernel
theorem dX9_sagAt_215 : decode cX9_sagAt 215 = .ok (.i2l, 1) := by decide +kernel
theorem dX9_sagAt_216 : decode cX9_sagAt 216 = .ok (.aload_n 0, 1) := by decide +kernel
theorem dX9_sagAt_217 : decode cX9_sagAt 217 = .ok (.getfield 182, 3) := by decide +kernel
theorem dX9_sagAt_220 : decode cX9_sagAt 220 = .ok (.lmul, 1) := by decide +kernel
theorem dX9_sagAt_221 : decode cX9_sagAt 221 = .ok (.lstore 12, 2) := by decide +kernel
theorem dX9_sagAt_223 : decode cX9_sagAt 223 = .ok (.lload 5, 2) := by decide +kernel
theorem dX9_sagAt_225 : decode cX9_sagAt 225 = .ok (.ldc2_w 218, 3) := by decide +kernel
theorem dX9_sagAt_228 : decode cX9_sagAt 228 = .ok (.lload 8, 2) := by decide +kernel
theorem dX9_sagAt_230 : decode cX9_sagAt 230 = .ok (.lmul, 1) := by decide +kernel
theorem dX9_sagAt_231 : decode cX9_sagAt 231 = .ok (.ldc2_w 218, 3) := by decide +kernel
theorem dX9_sagAt_234 : decode cX9_sagAt 234 = .ok (.lload 10, 2) := by decide +kernel
theorem dX9_sagAt_236 : decode cX9_sagAt 236 = .ok (.lmul, 1) := by decide +kernel
theorem dX9_sagAt_237 : decode cX9_sagAt 237 = .ok (.ladd, 1) := by decide +kernel
theorem dX9_sagAt_238 : decode cX9_sagAt 238 = .ok (.ldc2_w 150, 3) := by decide +kernel
theorem dX9_sagAt_241 : decode cX9_sagAt 241 = .ok (.lload 12, 2) := by decide +kernel
theorem dX9_sagAt_243 : decode cX9_sagAt 243 = .ok (.lmul, 1) := by decide +kernel
theorem dX9_sagAt_244 : decode cX9_sagAt 244 = .ok (.lsub, 1) := by decide +kernel
theorem dX9_sagAt_245 : decode cX9_sagAt 245 = .ok (.lsub, 1) := by decide +kernel
theorem dX9_sagAt_246 : decode cX9_sagAt 246 = .ok (.lstore 5, 2) := by decide +kernel
theorem dX9_sagAt_248 : decode cX9_sagAt 248 = .ok (.aload_n 0, 1) := by decide +kernel
theorem dX9_sagAt_249 : decode cX9_sagAt 249 = .ok (.getfield 44, 3) := by decide +kernel
theorem dX9_sagAt_252 : decode cX9_sagAt 252 = .ok (.iload 7, 2) := by decide +kernel
theorem dX9_sagAt_254 : decode cX9_sagAt 254 = .ok (.aload_n 0, 1) := by decide +kernel
theorem dX9_sagAt_255 : decode cX9_sagAt 255 = .ok (.getfield 44, 3) := by decide +kernel
theorem dX9_sagAt_258 : decode cX9_sagAt 258 = .ok (.iload 7, 2) := by decide +kernel
theorem dX9_sagAt_260 : decode cX9_sagAt 260 = .ok (.iconst 1, 1) := by decide +kernel
theorem dX9_sagAt_261 : decode cX9_sagAt 261 = .ok (.iadd, 1) := by decide +kernel
theorem dX9_sagAt_262 : decode cX9_sagAt 262 = .ok (.laload, 1) := by decide +kernel
theorem dX9_sagAt_263 : decode cX9_sagAt 263 = .ok (.lload 5, 2) := by decide +kernel
theorem dX9_sagAt_265 : decode cX9_sagAt 265 = .ok (.lsub, 1) := by decide +kernel
theorem dX9_sagAt_266 : decode cX9_sagAt 266 = .ok (.ldc2_w 216, 3) := by decide +kernel
theorem dX9_sagAt_269 : decode cX9_sagAt 269 = .ok (.lload 8, 2) := by decide +kernel
theorem dX9_sagAt_271 : decode cX9_sagAt 271 = .ok (.lmul, 1) := by decide +kernel
theorem dX9_sagAt_272 : decode cX9_sagAt 272 = .ok (.lsub, 1) := by decide +kernel
theorem dX9_sagAt_273 : decode cX9_sagAt 273 = .ok (.ldc2_w 150, 3) := by decide +kernel
theorem dX9_sagAt_276 : decode cX9_sagAt 276 = .ok (.lload 10, 2) := by decide +kernel
theorem dX9_sagAt_278 : decode cX9_sagAt 278 = .ok (.lmul, 1) := by decide +kernel
theorem dX9_sagAt_279 : decode cX9_sagAt 279 = .ok (.lsub, 1) := by decide +kernel
theorem dX9_sagAt_280 : decode cX9_sagAt 280 = .ok (.lload 12, 2) := by decide +kernel
theorem dX9_sagAt_282 : decode cX9_sagAt 282 = .ok (.ladd, 1) := by decide +kernel
theorem dX9_sagAt_283 : decode cX9_sagAt 283 = .ok (.lastore, 1) := by decide +kernel
theorem dX9_sagAt_284 : decode cX9_sagAt 284 = .ok (.iinc 7 (-1), 3) := by decide +kernel
theorem dX9_sagAt_287 : decode cX9_sagAt 287 = .ok (.goto (-101), 3) := by decide +kernel
theorem dX9_sagAt_290 : decode cX9_sagAt 290 = .ok (.aload_n 0, 1) := by decide +kernel
theorem dX9_sagAt_291 : decode cX9_sagAt 291 = .ok (.getfield 44, 3) := by decide +kernel
theorem dX9_sagAt_294 : decode cX9_sagAt 294 = .ok (.iload 4, 2) := by decide +kernel
theorem dX9_sagAt_296 : decode cX9_sagAt 296 = .ok (.laload, 1) := by decide +kernel
theorem dX9_sagAt_297 : decode cX9_sagAt 297 = .ok (.iload_n 1, 1) := by decide +kernel
theorem dX9_sagAt_298 : decode cX9_sagAt 298 = .ok (.iload_n 3, 1) := by decide +kernel
theorem dX9_sagAt_299 : decode cX9_sagAt 299 = .ok (.isub, 1) := by decide +kernel
theorem dX9_sagAt_300 : decode cX9_sagAt 300 = .ok (.i2l, 1) := by decide +kernel
theorem dX9_sagAt_301 : decode cX9_sagAt 301 = .ok (.lmul, 1) := by decide +kernel
theorem dX9_sagAt_302 : decode cX9_sagAt 302 = .ok (.aload_n 0, 1) := by decide +kernel
theorem dX9_sagAt_303 : decode cX9_sagAt 303 = .ok (.getfield 44, 3) := by decide +kernel
theorem dX9_sagAt_306 : decode cX9_sagAt 306 = .ok (.iload_n 1, 1) := by decide +kernel
theorem dX9_sagAt_307 : decode cX9_sagAt 307 = .ok (.laload, 1) := by decide +kernel
theorem dX9_sagAt_308 : decode cX9_sagAt 308 = .ok (.iload 4, 2) := by decide +kernel
theorem dX9_sagAt_310 : decode cX9_sagAt 310 = .ok (.iload_n 3, 1) := by decide +kernel
theorem dX9_sagAt_311 : decode cX9_sagAt 311 = .ok (.isub, 1) := by decide +kernel
theorem dX9_sagAt_312 : decode cX9_sagAt 312 = .ok (.i2l, 1) := by decide +kernel
theorem dX9_sagAt_313 : decode cX9_sagAt 313 = .ok (.lmul, 1) := by decide +kernel
theorem dX9_sagAt_314 : decode cX9_sagAt 314 = .ok (.lsub, 1) := by decide +kernel
theorem dX9_sagAt_315 : decode cX9_sagAt 315 = .ok (.lreturn, 1) := by decide +kernel
theorem dX9_wideAt_0 : decode cX9_wideAt 0 = .ok (.iconst 0, 1) := by decide +kernel
theorem dX9_wideAt_1 : decode cX9_wideAt 1 = .ok (.istore_n 2, 1) := by decide +kernel
theorem dX9_wideAt_2 : decode cX9_wideAt 2 = .ok (.iload_n 2, 1) := by decide +kernel
theorem dX9_wideAt_3 : decode cX9_wideAt 3 = .ok (.aload_n 0, 1) := by decide +kernel
theorem dX9_wideAt_4 : decode cX9_wideAt 4 = .ok (.getfield 11, 3) := by decide +kernel
theorem dX9_wideAt_7 : decode cX9_wideAt 7 = .ok (.iconst 1, 1) := by decide +kernel
theorem dX9_wideAt_8 : decode cX9_wideAt 8 = .ok (.iaload, 1) := by decide +kernel
