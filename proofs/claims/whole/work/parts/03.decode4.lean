theorem dX8_printPiece_41 : decode cX8_printPiece 41 = .ok (.getfield 31, 3) := by decide +kernel
theorem dX8_printPiece_44 : decode cX8_printPiece 44 = .ok (.getfield 187, 3) := by decide +kernel
theorem dX8_printPiece_47 : decode cX8_printPiece 47 = .ok (.invokevirtual 341, 3) := by decide +kernel
theorem dX8_printPiece_50 : decode cX8_printPiece 50 = .ok (.aload_n 0, 1) := by decide +kernel
theorem dX8_printPiece_51 : decode cX8_printPiece 51 = .ok (.getfield 55, 3) := by decide +kernel
theorem dX8_printPiece_54 : decode cX8_printPiece 54 = .ok (.aload_n 0, 1) := by decide +kernel
theorem dX8_printPiece_55 : decode cX8_printPiece 55 = .ok (.getfield 38, 3) := by decide +kernel
theorem dX8_printPiece_58 : decode cX8_printPiece 58 = .ok (.invokevirtual 362, 3) := by decide +kernel
theorem dX8_printPiece_61 : decode cX8_printPiece 61 = .ok (.aload_n 0, 1) := by decide +kernel
theorem dX8_printPiece_62 : decode cX8_printPiece 62 = .ok (.getfield 38, 3) := by decide +kernel
theorem dX8_printPiece_65 : decode cX8_printPiece 65 = .ok (.aload_n 0, 1) := by decide +kernel
theorem dX8_printPiece_66 : decode cX8_printPiece 66 = .ok (.getfield 31, 3) := by decide +kernel
theorem dX8_printPiece_69 : decode cX8_printPiece 69 = .ok (.getfield 198, 3) := by decide +kernel
theorem dX8_printPiece_72 : decode cX8_printPiece 72 = .ok (.iload_n 1, 1) := by decide +kernel
theorem dX8_printPiece_73 : decode cX8_printPiece 73 = .ok (.laload, 1) := by decide +kernel
theorem dX8_printPiece_74 : decode cX8_printPiece 74 = .ok (.aload_n 0, 1) := by decide +kernel
theorem dX8_printPiece_75 : decode cX8_printPiece 75 = .ok (.getfield 31, 3) := by decide +kernel
theorem dX8_printPiece_78 : decode cX8_printPiece 78 = .ok (.getfield 187, 3) := by decide +kernel
theorem dX8_printPiece_81 : decode cX8_printPiece 81 = .ok (.invokevirtual 341, 3) := by decide +kernel
theorem dX8_printPiece_84 : decode cX8_printPiece 84 = .ok (.aload_n 0, 1) := by decide +kernel
theorem dX8_printPiece_85 : decode cX8_printPiece 85 = .ok (.getfield 55, 3) := by decide +kernel
theorem dX8_printPiece_88 : decode cX8_printPiece 88 = .ok (.aload_n 0, 1) := by decide +kernel
theorem dX8_printPiece_89 : decode cX8_printPiece 89 = .ok (.getfield 38, 3) := by decide +kernel
theorem dX8_printPiece_92 : decode cX8_printPiece 92 = .ok (.iconst 1, 1) := by decide +kernel
theorem dX8_printPiece_93 : decode cX8_printPiece 93 = .ok (.invokevirtual 365, 3) := by decide +kernel
theorem dX8_printPiece_96 : decode cX8_printPiece 96 = .ok (.aload_n 0, 1) := by decide +kernel
theorem dX8_printPiece_97 : decode cX8_printPiece 97 = .ok (.getfield 38, 3) := by decide +kernel
theorem dX8_printPiece_100 : decode cX8_printPiece 100 = .ok (.aload_n 0, 1) := by decide +kernel
theorem dX8_printPiece_101 : decode cX8_printPiece 101 = .ok (.getfield 31, 3) := by decide +kernel
theorem dX8_printPiece_104 : decode cX8_printPiece 104 = .ok (.getfield 369, 3) := by decide +kernel
theorem dX8_printPiece_107 : decode cX8_printPiece 107 = .ok (.iload_n 1, 1) := by decide +kernel
theorem dX8_printPiece_108 : decode cX8_printPiece 108 = .ok (.laload, 1) := by decide +kernel
theorem dX8_printPiece_109 : decode cX8_printPiece 109 = .ok (.lneg, 1) := by decide +kernel
theorem dX8_printPiece_110 : decode cX8_printPiece 110 = .ok (.ldc2_w 372, 3) := by decide +kernel
theorem dX8_printPiece_113 : decode cX8_printPiece 113 = .ok (.invokevirtual 341, 3) := by decide +kernel
theorem dX8_printPiece_116 : decode cX8_printPiece 116 = .ok (.aload_n 0, 1) := by decide +kernel
theorem dX8_printPiece_117 : decode cX8_printPiece 117 = .ok (.getfield 55, 3) := by decide +kernel
theorem dX8_printPiece_120 : decode cX8_printPiece 120 = .ok (.aload_n 0, 1) := by decide +kernel
theorem dX8_printPiece_121 : decode cX8_printPiece 121 = .ok (.getfield 38, 3) := by decide +kernel
theorem dX8_printPiece_124 : decode cX8_printPiece 124 = .ok (.iconst 2, 1) := by decide +kernel
theorem dX8_printPiece_125 : decode cX8_printPiece 125 = .ok (.invokevirtual 365, 3) := by decide +kernel
theorem dX8_printPiece_128 : decode cX8_printPiece 128 = .ok (.aload_n 0, 1) := by decide +kernel
theorem dX8_printPiece_129 : decode cX8_printPiece 129 = .ok (.getfield 55, 3) := by decide +kernel
theorem dX8_printPiece_132 : decode cX8_printPiece 132 = .ok (.bipush 59, 2) := by decide +kernel
theorem dX8_printPiece_134 : decode cX8_printPiece 134 = .ok (.invokevirtual 360, 3) := by decide +kernel
theorem dX8_printPiece_137 : decode cX8_printPiece 137 = .ok (.return_, 1) := by decide +kernel
theorem dX9_init_0 : decode cX9_init 0 = .ok (.aload_n 0, 1) := by decide +kernel
theorem dX9_init_1 : decode cX9_init 1 = .ok (.invokespecial 3, 3) := by decide +kernel
theorem dX9_init_4 : decode cX9_init 4 = .ok (.aload_n 0, 1) := by decide +kernel
theorem dX9_init_5 : decode cX9_init 5 = .ok (.bipush 36, 2) := by decide +kernel
theorem dX9_init_7 : decode cX9_init 7 = .ok (.newarray .int, 2) := by decide +kernel
theorem dX9_init_9 : decode cX9_init 9 = .ok (.putfield 11, 3) := by decide +kernel
theorem dX9_init_12 : decode cX9_init 12 = .ok (.aload_n 0, 1) := by decide +kernel
theorem dX9_init_13 : decode cX9_init 13 = .ok (.bipush 36, 2) := by decide +kernel
theorem dX9_init_15 : decode cX9_init 15 = .ok (.newarray .int, 2) := by decide +kernel
theorem dX9_init_17 : decode cX9_init 17 = .ok (.putfield 15, 3) := by decide +kernel
theorem dX9_init_20 : decode cX9_init 20 = .ok (.aload_n 0, 1) := by decide +kernel
theorem dX9_init_21 : decode cX9_init 21 = .ok (.sipush 360, 3) := by decide +kernel
theorem dX9_init_24 : decode cX9_init 24 = .ok (.newarray .int, 2) := by decide +kernel
theorem dX9_init_26 : decode cX9_init 26 = .ok (.putfield 18, 3) := by decide +kernel
theorem dX9_init_29 : decode cX9_init 29 = .ok (.aload_n 0, 1) := by decide +kernel
theorem dX9_init_30 : decode cX9_init 30 = .ok (.lconst 1, 1) := by decide +kernel
theorem dX9_init_31 : decode cX9_init 31 = .ok (.putfield 21, 3) := by decide +kernel
theorem dX9_init_34 : decode cX9_init 34 = .ok (.aload_n 0, 1) := by decide +kernel
theorem dX9_init_35 : decode cX9_init 35 = .ok (.iconst 4, 1) := by decide +kernel
theorem dX9_init_36 : decode cX9_init 36 = .ok (.newarray .long, 2) := by decide +kernel
theorem dX9_init_38 : decode cX9_init 38 = .ok (.putfield 25, 3) := by decide +kernel
theorem dX9_init_41 : decode cX9_init 41 = .ok (.aload_n 0, 1) := by decide +kernel
theorem dX9_init_42 : decode cX9_init 42 = .ok (.iconst 4, 1) := by decide +kernel
theorem dX9_init_43 : decode cX9_init 43 = .ok (.newarray .long, 2) := by decide +kernel
theorem dX9_init_45 : decode cX9_init 45 = .ok (.putfield 29, 3) := by decide +kernel
theorem dX9_init_48 : decode cX9_init 48 = .ok (.aload_n 0, 1) := by decide +kernel
theorem dX9_init_49 : decode cX9_init 49 = .ok (.iconst 2, 1) := by decide +kernel
theorem dX9_init_50 : decode cX9_init 50 = .ok (.newarray .long, 2) := by decide +kernel
theorem dX9_init_52 : decode cX9_init 52 = .ok (.putfield 32, 3) := by decide +kernel
theorem dX9_init_55 : decode cX9_init 55 = .ok (.aload_n 0, 1) := by decide +kernel
theorem dX9_init_56 : decode cX9_init 56 = .ok (.iconst 2, 1) := by decide +kernel
theorem dX9_init_57 : decode cX9_init 57 = .ok (.newarray .long, 2) := by decide +kernel
theorem dX9_init_59 : decode cX9_init 59 = .ok (.putfield 35, 3) := by decide +kernel
theorem dX9_init_62 : decode cX9_init 62 = .ok (.aload_n 0, 1) := by decide +kernel
theorem dX9_init_63 : decode cX9_init 63 = .ok (.iconst 4, 1) := by decide +kernel
theorem dX9_init_64 : decode cX9_init 64 = .ok (.newarray .long, 2) := by decide +kernel
theorem dX9_init_66 : decode cX9_init 66 = .ok (.putfield 38, 3) := by decide +kernel
theorem dX9_init_69 : decode cX9_init 69 = .ok (.aload_n 0, 1) := by decide +kernel
theorem dX9_init_70 : decode cX9_init 70 = .ok (.iconst 4, 1) := by decide +kernel
theorem dX9_init_71 : decode cX9_init 71 = .ok (.newarray .long, 2) := by decide +kernel
theorem dX9_init_73 : decode cX9_init 73 = .ok (.putfield 41, 3) := by decide +kernel
theorem dX9_init_76 : decode cX9_init 76 = .ok (.aload_n 0, 1) := by decide +kernel
theorem dX9_init_77 : decode cX9_init 77 = .ok (.bipush 11, 2) := by decide +kernel
theorem dX9_init_79 : decode cX9_init 79 = .ok (.newarray .long, 2) := by decide +kernel
theorem dX9_init_81 : decode cX9_init 81 = .ok (.putfield 44, 3) := by decide +kernel
theorem dX9_init_84 : decode cX9_init 84 = .ok (.aload_n 0, 1) := by decide +kernel
theorem dX9_init_85 : decode cX9_init 85 = .ok (.bipush 36, 2) := by decide +kernel
theorem dX9_init_87 : decode cX9_init 87 = .ok (.newarray .int, 2) := by decide +kernel
theorem dX9_init_89 : decode cX9_init 89 = .ok (.putfield 47, 3) := by decide +kernel
theorem dX9_init_92 : decode cX9_init 92 = .ok (.aload_n 0, 1) := by decide +kernel
theorem dX9_init_93 : decode cX9_init 93 = .ok (.bipush 120, 2) := by decide +kernel
theorem dX9_init_95 : decode cX9_init 95 = .ok (.newarray .int, 2) := by decide +kernel
theorem dX9_init_97 : decode cX9_init 97 = .ok (.putfield 50, 3) := by decide +kernel
theorem dX9_init_100 : decode cX9_init 100 = .ok (.aload_n 0, 1) := by decide +kernel
theorem dX9_init_101 : decode cX9_init 101 = .ok (.bipush 31, 2) := by decide +kernel
theorem dX9_init_103 : decode cX9_init 103 = .ok (.newarray .char, 2) := by decide +kernel
theorem dX9_init_105 : decode cX9_init 105 = .ok (.dup, 1) := by decide +kernel
theorem dX9_init_106 : decode cX9_init 106 = .ok (.iconst 0, 1) := by decide +kernel
theorem dX9_init_107 : decode cX9_init 107 = .ok (.bipush 98, 2) := by decide +kernel
theorem dX9_init_109 : decode cX9_init 109 = .ok (.castore, 1) := by decide +kernel
theorem dX9_init_110 : decode cX9_init 110 = .ok (.dup, 1) := by decide +kernel
theorem dX9_init_111 : decode cX9_init 111 = .ok (.iconst 1, 1) := by decide +kernel
theorem dX9_init_112 : decode cX9_init 112 = .ok (.bipush 101, 2) := by decide +kernel
theorem dX9_init_114 : decode cX9_init 114 = .ok (.castore, 1) := by decide +kernel
theorem dX9_init_115 : decode cX9_init 115 = .ok (.dup, 1) := by decide +kernel
theorem dX9_init_116 : decode cX9_init 116 = .ok (.iconst 2, 1) := by decide +kernel
theorem dX9_init_117 : decode cX9_init 117 = .ok (.bipush 97, 2) := by decide +kernel
theorem dX9_init_119 : decode cX9_init 119 = .ok (.castore, 1) := by decide +kernel
theorem dX9_init_120 : decode cX9_init 120 = .ok (.dup, 1) := by decide +kernel
theorem dX9_init_121 : decode cX9_init 121 = .ok (.iconst 3, 1) := by decide +kernel
theorem dX9_init_122 : decode cX9_init 122 = .ok (.bipush 109, 2) := by decide +kernel
theorem dX9_init_124 : decode cX9_init 124 = .ok (.castore, 1) := by decide +kernel
theorem dX9_init_125 : decode cX9_init 125 = .ok (.dup, 1) := by decide +kernel
theorem dX9_init_126 : decode cX9_init 126 = .ok (.iconst 4, 1) := by decide +kernel
theorem dX9_init_127 : decode cX9_init 127 = .ok (.bipush 115, 2) := by decide +kernel
theorem dX9_init_129 : decode cX9_init 129 = .ok (.castore, 1) := by decide +kernel
theorem dX9_init_130 : decode cX9_init 130 = .ok (.dup, 1) := by decide +kernel
theorem dX9_init_131 : decode cX9_init 131 = .ok (.iconst 5, 1) := by decide +kernel
theorem dX9_init_132 : decode cX9_init 132 = .ok (.bipush 117, 2) := by decide +kernel
theorem dX9_init_134 : decode cX9_init 134 = .ok (.castore, 1) := by decide +kernel
theorem dX9_init_135 : decode cX9_init 135 = .ok (.dup, 1) := by decide +kernel
theorem dX9_init_136 : decode cX9_init 136 = .ok (.bipush 6, 2) := by decide +kernel
theorem dX9_init_138 : decode cX9_init 138 = .ok (.bipush 112, 2) := by decide +kernel
theorem dX9_init_140 : decode cX9_init 140 = .ok (.castore, 1) := by decide +kernel
theorem dX9_init_141 : decode cX9_init 141 = .ok (.dup, 1) := by decide +kernel
theorem dX9_init_142 : decode cX9_init 142 = .ok (.bipush 7, 2) := by decide +kernel
theorem dX9_init_144 : decode cX9_init 144 = .ok (.bipush 112, 2) := by decide +kernel
theorem dX9_init_146 : decode cX9_init 146 = .ok (.castore, 1) := by decide +kernel
theorem dX9_init_147 : decode cX9_init 147 = .ok (.dup, 1) := by decide +kernel
theorem dX9_init_148 : decode cX9_init 148 = .ok (.bipush 8, 2) := by decide +kernel
theorem dX9_init_150 : decode cX9_init 150 = .ok (.bipush 111, 2) := by decide +kernel
theorem dX9_init_152 : decode cX9_init 152 = .ok (.castore, 1) := by decide +kernel
theorem dX9_init_153 : decode cX9_init 153 = .ok (.dup, 1) := by decide +kernel
theorem dX9_init_154 : decode cX9_init 154 = .ok (.bipush 9, 2) := by decide +kernel
theorem dX9_init_156 : decode cX9_init 156 = .ok (.bipush 114, 2) := by decide +kernel
theorem dX9_init_158 : decode cX9_init 158 = .ok (.castore, 1) := by decide +kernel
theorem dX9_init_159 : decode cX9_init 159 = .ok (.dup, 1) := by decide +kernel
theorem dX9_init_160 : decode cX9_init 160 = .ok (.bipush 10, 2) := by decide +kernel
theorem dX9_init_162 : decode cX9_init 162 = .ok (.bipush 116, 2) := by decide +kernel
theorem dX9_init_164 : decode cX9_init 164 = .ok (.castore, 1) := by decide +kernel
theorem dX9_init_165 : decode cX9_init 165 = .ok (.dup, 1) := by decide +kernel
theorem dX9_init_166 : decode cX9_init 166 = .ok (.bipush 11, 2) := by decide +kernel
theorem dX9_init_168 : decode cX9_init 168 = .ok (.bipush 104, 2) := by decide +kernel
theorem dX9_init_170 : decode cX9_init 170 = .ok (.castore, 1) := by decide +kernel
theorem dX9_init_171 : decode cX9_init 171 = .ok (.dup, 1) := by decide +kernel
theorem dX9_init_172 : decode cX9_init 172 = .ok (.bipush 12, 2) := by decide +kernel
theorem dX9_init_174 : decode cX9_init 174 = .ok (.bipush 105, 2) := by decide +kernel
theorem dX9_init_176 : decode cX9_init 176 = .ok (.castore, 1) := by decide +kernel
theorem dX9_init_177 : decode cX9_init 177 = .ok (.dup, 1) := by decide +kernel
theorem dX9_init_178 : decode cX9_init 178 = .ok (.bipush 13, 2) := by decide +kernel
theorem dX9_init_180 : decode cX9_init 180 = .ok (.bipush 110, 2) := by decide +kernel
theorem dX9_init_182 : decode cX9_init 182 = .ok (.castore, 1) := by decide +kernel
theorem dX9_init_183 : decode cX9_init 183 = .ok (.dup, 1) := by decide +kernel
theorem dX9_init_184 : decode cX9_init 184 = .ok (.bipush 14, 2) := by decide +kernel
theorem dX9_init_186 : decode cX9_init 186 = .ok (.bipush 103, 2) := by decide +kernel
theorem dX9_init_188 : decode cX9_init 188 = .ok (.castore, 1) := by decide +kernel
theorem dX9_init_189 : decode cX9_init 189 = .ok (.dup, 1) := by decide +kernel
theorem dX9_init_190 : decode cX9_init 190 = .ok (.bipush 15, 2) := by decide +kernel
theorem dX9_init_192 : decode cX9_init 192 = .ok (.bipush 101, 2) := by decide +kernel
theorem dX9_init_194 : decode cX9_init 194 = .ok (.castore, 1) := by decide +kernel
theorem dX9_init_195 : decode cX9_init 195 = .ok (.dup, 1) := by decide +kernel
theorem dX9_init_196 : decode cX9_init 196 = .ok (.bipush 16, 2) := by decide +kernel
theorem dX9_init_198 : decode cX9_init 198 = .ok (.bipush 112, 2) := by decide +kernel
theorem dX9_init_200 : decode cX9_init 200 = .ok (.castore, 1) := by decide +kernel
theorem dX9_init_201 : decode cX9_init 201 = .ok (.dup, 1) := by decide +kernel
theorem dX9_init_202 : decode cX9_init 202 = .ok (.bipush 17, 2) := by decide +kernel
theorem dX9_init_204 : decode cX9_init 204 = .ok (.bipush 111, 2) := by decide +kernel
theorem dX9_init_206 : decode cX9_init 206 = .ok (.castore, 1) := by decide +kernel
theorem dX9_init_207 : decode cX9_init 207 = .ok (.dup, 1) := by decide +kernel
theorem dX9_init_208 : decode cX9_init 208 = .ok (.bipush 18, 2) := by decide +kernel
theorem dX9_init_210 : decode cX9_init 210 = .ok (.bipush 105, 2) := by decide +kernel
theorem dX9_init_212 : decode cX9_init 212 = .ok (.castore, 1) := by decide +kernel
theorem dX9_init_213 : decode cX9_init 213 = .ok (.dup, 1) := by decide +kernel
theorem dX9_init_214 : decode cX9_init 214 = .ok (.bipush 19, 2) := by decide +kernel
theorem dX9_init_216 : decode cX9_init 216 = .ok (.bipush 110, 2) := by decide +kernel
theorem dX9_init_218 : decode cX9_init 218 = .ok (.castore, 1) := by decide +kernel
theorem dX9_init_219 : decode cX9_init 219 = .ok (.dup, 1) := by decide +kernel
theorem dX9_init_220 : decode cX9_init 220 = .ok (.bipush 20, 2) := by decide +kernel
theorem dX9_init_222 : decode cX9_init 222 = .ok (.bipush 116, 2) := by decide +kernel
theorem dX9_init_224 : decode cX9_init 224 = .ok (.castore, 1) := by decide +kernel
theorem dX9_init_225 : decode cX9_init 225 = .ok (.dup, 1) := by decide +kernel
theorem dX9_init_226 : decode cX9_init 226 = .ok (.bipush 21, 2) := by decide +kernel
theorem dX9_init_228 : decode cX9_init 228 = .ok (.bipush 115, 2) := by decide +kernel
theorem dX9_init_230 : decode cX9_init 230 = .ok (.castore, 1) := by decide +kernel
theorem dX9_init_231 : decode cX9_init 231 = .ok (.dup, 1) := by decide +kernel
theorem dX9_init_232 : decode cX9_init 232 = .ok (.bipush 22, 2) := by decide +kernel
theorem dX9_init_234 : decode cX9_init 234 = .ok (.bipush 112, 2) := by decide +kernel
theorem dX9_init_236 : decode cX9_init 236 = .ok (.castore, 1) := by decide +kernel
theorem dX9_init_237 : decode cX9_init 237 = .ok (.dup, 1) := by decide +kernel
theorem dX9_init_238 : decode cX9_init 238 = .ok (.bipush 23, 2) := by decide +kernel
theorem dX9_init_240 : decode cX9_init 240 = .ok (.bipush 114, 2) := by decide +kernel
theorem dX9_init_242 : decode cX9_init 242 = .ok (.castore, 1) := by decide +kernel
theorem dX9_init_243 : decode cX9_init 243 = .ok (.dup, 1) := by decide +kernel
theorem dX9_init_244 : decode cX9_init 244 = .ok (.bipush 24, 2) := by decide +kernel
theorem dX9_init_246 : decode cX9_init 246 = .ok (.bipush 101, 2) := by decide +kernel
theorem dX9_init_248 : decode cX9_init 248 = .ok (.castore, 1) := by decide +kernel
theorem dX9_init_249 : decode cX9_init 249 = .ok (.dup, 1) := by decide +kernel
theorem dX9_init_250 : decode cX9_init 250 = .ok (.bipush 25, 2) := by decide +kernel
theorem dX9_init_252 : decode cX9_init 252 = .ok (.bipush 97, 2) := by decide +kernel
theorem dX9_init_254 : decode cX9_init 254 = .ok (.castore, 1) := by decide +kernel
theorem dX9_init_255 : decode cX9_init 255 = .ok (.dup, 1) := by decide +kernel
theorem dX9_init_256 : decode cX9_init 256 = .ok (.bipush 26, 2) := by decide +kernel
theorem dX9_init_258 : decode cX9_init 258 = .ok (.bipush 100, 2) := by decide +kernel
theorem dX9_init_260 : decode cX9_init 260 = .ok (.castore, 1) := by decide +kernel
theorem dX9_init_261 : decode cX9_init 261 = .ok (.dup, 1) := by decide +kernel
theorem dX9_init_262 : decode cX9_init 262 = .ok (.bipush 27, 2) := by decide +kernel
theorem dX9_init_264 : decode cX9_init 264 = .ok (.bipush 97, 2) := by decide +kernel
theorem dX9_init_266 : decode cX9_init 266 = .ok (.castore, 1) := by decide +kernel
theorem dX9_init_267 : decode cX9_init 267 = .ok (.dup, 1) := by decide +kernel
theorem dX9_init_268 : decode cX9_init 268 = .ok (.bipush 28, 2) := by decide +kernel
theorem dX9_init_270 : decode cX9_init 270 = .ok (.bipush 120, 2) := by decide +kernel
theorem dX9_init_272 : decode cX9_init 272 = .ok (.castore, 1) := by decide +kernel
theorem dX9_init_273 : decode cX9_init 273 = .ok (.dup, 1) := by decide +kernel
theorem dX9_init_274 : decode cX9_init 274 = .ok (.bipush 29, 2) := by decide +kernel
theorem dX9_init_276 : decode cX9_init 276 = .ok (.bipush 108, 2) := by decide +kernel
theorem dX9_init_278 : decode cX9_init 278 = .ok (.castore, 1) := by decide +kernel
theorem dX9_init_279 : decode cX9_init 279 = .ok (.dup, 1) := by decide +kernel
theorem dX9_init_280 : decode cX9_init 280 = .ok (.bipush 30, 2) := by decide +kernel
theorem dX9_init_282 : decode cX9_init 282 = .ok (.bipush 101, 2) := by decide +kernel
theorem dX9_init_284 : decode cX9_init 284 = .ok (.castore, 1) := by decide +kernel
theorem dX9_init_285 : decode cX9_init 285 = .ok (.putfield 53, 3) := by decide +kernel
theorem dX9_init_288 : decode cX9_init 288 = .ok (.aload_n 0, 1) := by decide +kernel
theorem dX9_init_289 : decode cX9_init 289 = .ok (.bipush 7, 2) := by decide +kernel
theorem dX9_init_291 : decode cX9_init 291 = .ok (.newarray .int, 2) := by decide +kernel
theorem dX9_init_293 : decode cX9_init 293 = .ok (.dup, 1) := by decide +kernel
theorem dX9_init_294 : decode cX9_init 294 = .ok (.iconst 0, 1) := by decide +kernel
theorem dX9_init_295 : decode cX9_init 295 = .ok (.iconst 0, 1) := by decide +kernel
theorem dX9_init_296 : decode cX9_init 296 = .ok (.iastore, 1) := by decide +kernel
theorem dX9_init_297 : decode cX9_init 297 = .ok (.dup, 1) := by decide +kernel
theorem dX9_init_298 : decode cX9_init 298 = .ok (.iconst 1, 1) := by decide +kernel
theorem dX9_init_299 : decode cX9_init 299 = .ok (.iconst 4, 1) := by decide +kernel
theorem dX9_init_300 : decode cX9_init 300 = .ok (.iastore, 1) := by decide +kernel
theorem dX9_init_301 : decode cX9_init 301 = .ok (.dup, 1) := by decide +kernel
theorem dX9_init_302 : decode cX9_init 302 = .ok (.iconst 2, 1) := by decide +kernel
theorem dX9_init_303 : decode cX9_init 303 = .ok (.bipush 11, 2) := by decide +kernel
theorem dX9_init_305 : decode cX9_init 305 = .ok (.iastore, 1) := by decide +kernel
theorem dX9_init_306 : decode cX9_init 306 = .ok (.dup, 1) := by decide +kernel
theorem dX9_init_307 : decode cX9_init 307 = .ok (.iconst 3, 1) := by decide +kernel
theorem dX9_init_308 : decode cX9_init 308 = .ok (.bipush 16, 2) := by decide +kernel
theorem dX9_init_310 : decode cX9_init 310 = .ok (.iastore, 1) := by decide +kernel
theorem dX9_init_311 : decode cX9_init 311 = .ok (.dup, 1) := by decide +kernel
theorem dX9_init_312 : decode cX9_init 312 = .ok (.iconst 4, 1) := by decide +kernel
theorem dX9_init_313 : decode cX9_init 313 = .ok (.bipush 21, 2) := by decide +kernel
theorem dX9_init_315 : decode cX9_init 315 = .ok (.iastore, 1) := by decide +kernel
theorem dX9_init_316 : decode cX9_init 316 = .ok (.dup, 1) := by decide +kernel
theorem dX9_init_317 : decode cX9_init 317 = .ok (.iconst 5, 1) := by decide +kernel
theorem dX9_init_318 : decode cX9_init 318 = .ok (.bipush 27, 2) := by decide +kernel
theorem dX9_init_320 : decode cX9_init 320 = .ok (.iastore, 1) := by decide +kernel
theorem dX9_init_321 : decode cX9_init 321 = .ok (.dup, 1) := by decide +kernel
theorem dX9_init_322 : decode cX9_init 322 = .ok (.bipush 6, 2) := by decide +kernel
theorem dX9_init_324 : decode cX9_init 324 = .ok (.bipush 31, 2) := by decide +kernel
theorem dX9_init_326 : decode cX9_init 326 = .ok (.iastore, 1) := by decide +kernel
theorem dX9_init_327 : decode cX9_init 327 = .ok (.putfield 57, 3) := by decide +kernel
theorem dX9_init_330 : decode cX9_init 330 = .ok (.aload_n 0, 1) := by decide +kernel
theorem dX9_init_331 : decode cX9_init 331 = .ok (.bipush 6, 2) := by decide +kernel
theorem dX9_init_333 : decode cX9_init 333 = .ok (.newarray .int, 2) := by decide +kernel
theorem dX9_init_335 : decode cX9_init 335 = .ok (.dup, 1) := by decide +kernel
theorem dX9_init_336 : decode cX9_init 336 = .ok (.iconst 0, 1) := by decide +kernel
theorem dX9_init_337 : decode cX9_init 337 = .ok (.iconst 1, 1) := by decide +kernel
theorem dX9_init_338 : decode cX9_init 338 = .ok (.iastore, 1) := by decide +kernel
theorem dX9_init_339 : decode cX9_init 339 = .ok (.dup, 1) := by decide +kernel
theorem dX9_init_340 : decode cX9_init 340 = .ok (.iconst 1, 1) := by decide +kernel
theorem dX9_init_341 : decode cX9_init 341 = .ok (.iconst 1, 1) := by decide +kernel
theorem dX9_init_342 : decode cX9_init 342 = .ok (.iastore, 1) := by decide +kernel
theorem dX9_init_343 : decode cX9_init 343 = .ok (.dup, 1) := by decide +kernel
theorem dX9_init_344 : decode cX9_init 344 = .ok (.iconst 2, 1) := by decide +kernel
theorem dX9_init_345 : decode cX9_init 345 = .ok (.iconst 1, 1) := by decide +kernel
theorem dX9_init_346 : decode cX9_init 346 = .ok (.iastore, 1) := by decide +kernel
theorem dX9_init_347 : decode cX9_init 347 = .ok (.dup, 1) := by decide +kernel
theorem dX9_init_348 : decode cX9_init 348 = .ok (.iconst 3, 1) := by decide +kernel
theorem dX9_init_349 : decode cX9_init 349 = .ok (.iconst 2, 1) := by decide +kernel
theorem dX9_init_350 : decode cX9_init 350 = .ok (.iastore, 1) := by decide +kernel
theorem dX9_init_351 : decode cX9_init 351 = .ok (.dup, 1) := by decide +kernel
theorem dX9_init_352 : decode cX9_init 352 = .ok (.iconst 4, 1) := by decide +kernel
theorem dX9_init_353 : decode cX9_init 353 = .ok (.iconst 3, 1) := by decide +kernel
theorem dX9_init_354 : decode cX9_init 354 = .ok (.iastore, 1) := by decide +kernel
theorem dX9_init_355 : decode cX9_init 355 = .ok (.dup, 1) := by decide +kernel
theorem dX9_init_356 : decode cX9_init 356 = .ok (.iconst 5, 1) := by decide +kernel
theorem dX9_init_357 : decode cX9_init 357 = .ok (.iconst 2, 1) := by decide +kernel
theorem dX9_init_358 : decode cX9_init 358 = .ok (.iastore, 1) := by decide +kernel
theorem dX9_init_359 : decode cX9_init 359 = .ok (.putfield 60, 3) := by decide +kernel
theorem dX9_init_362 : decode cX9_init 362 = .ok (.aload_n 0, 1) := by decide +kernel
theorem dX9_init_363 : decode cX9_init 363 = .ok (.iconst 3, 1) := by decide +kernel
theorem dX9_init_364 : decode cX9_init 364 = .ok (.newarray .int, 2) := by decide +kernel
theorem dX9_init_366 : decode cX9_init 366 = .ok (.putfield 63, 3) := by decide +kernel
theorem dX9_init_369 : decode cX9_init 369 = .ok (.aload_n 0, 1) := by decide +kernel
theorem dX9_init_370 : decode cX9_init 370 = .ok (.sipush 360, 3) := by decide +kernel
theorem dX9_init_373 : decode cX9_init 373 = .ok (.newarray .int, 2) := by decide +kernel
theorem dX9_init_375 : decode cX9_init 375 = .ok (.putfield 66, 3) := by decide +kernel
theorem dX9_init_378 : decode cX9_init 378 = .ok (.aload_n 0, 1) := by decide +kernel
theorem dX9_init_379 : decode cX9_init 379 = .ok (.sipush 1000, 3) := by decide +kernel
theorem dX9_init_382 : decode cX9_init 382 = .ok (.newarray .int, 2) := by decide +kernel
theorem dX9_init_384 : decode cX9_init 384 = .ok (.putfield 69, 3) := by decide +kernel
theorem dX9_init_387 : decode cX9_init 387 = .ok (.aload_n 0, 1) := by decide +kernel
theorem dX9_init_388 : decode cX9_init 388 = .ok (.bipush 72, 2) := by decide +kernel
theorem dX9_init_390 : decode cX9_init 390 = .ok (.newarray .long, 2) := by decide +kernel
theorem dX9_init_392 : decode cX9_init 392 = .ok (.putfield 72, 3) := by decide +kernel
theorem dX9_init_395 : decode cX9_init 395 = .ok (.aload_n 0, 1) := by decide +kernel
theorem dX9_init_396 : decode cX9_init 396 = .ok (.iconst 3, 1) := by decide +kernel
theorem dX9_init_397 : decode cX9_init 397 = .ok (.newarray .int, 2) := by decide +kernel
theorem dX9_init_399 : decode cX9_init 399 = .ok (.dup, 1) := by decide +kernel
theorem dX9_init_400 : decode cX9_init 400 = .ok (.iconst 0, 1) := by decide +kernel
theorem dX9_init_401 : decode cX9_init 401 = .ok (.iconst (-1), 1) := by decide +kernel
theorem dX9_init_402 : decode cX9_init 402 = .ok (.iastore, 1) := by decide +kernel
theorem dX9_init_403 : decode cX9_init 403 = .ok (.dup, 1) := by decide +kernel
theorem dX9_init_404 : decode cX9_init 404 = .ok (.iconst 1, 1) := by decide +kernel
theorem dX9_init_405 : decode cX9_init 405 = .ok (.iconst (-1), 1) := by decide +kernel
theorem dX9_init_406 : decode cX9_init 406 = .ok (.iastore, 1) := by decide +kernel
theorem dX9_init_407 : decode cX9_init 407 = .ok (.dup, 1) := by decide +kernel
theorem dX9_init_408 : decode cX9_init 408 = .ok (.iconst 2, 1) := by decide +kernel
theorem dX9_init_409 : decode cX9_init 409 = .ok (.iconst (-1), 1) := by decide +kernel
theorem dX9_init_410 : decode cX9_init 410 = .ok (.iastore, 1) := by decide +kernel
theorem dX9_init_411 : decode cX9_init 411 = .ok (.putfield 75, 3) := by decide +kernel
theorem dX9_init_414 : decode cX9_init 414 = .ok (.aload_n 0, 1) := by decide +kernel
theorem dX9_init_415 : decode cX9_init 415 = .ok (.getfield 11, 3) := by decide +kernel
theorem dX9_init_418 : decode cX9_init 418 = .ok (.iconst 0, 1) := by decide +kernel
theorem dX9_init_419 : decode cX9_init 419 = .ok (.bipush 8, 2) := by decide +kernel
theorem dX9_init_421 : decode cX9_init 421 = .ok (.iastore, 1) := by decide +kernel
theorem dX9_init_422 : decode cX9_init 422 = .ok (.return_, 1) := by decide +kernel
theorem dX9_in_0 : decode cX9_in 0 = .ok (.lload_n 0, 1) := by decide +kernel
theorem dX9_in_1 : decode cX9_in 1 = .ok (.lload_n 2, 1) := by decide +kernel
theorem dX9_in_2 : decode cX9_in 2 = .ok (.lcmp, 1) := by decide +kernel
theorem dX9_in_3 : decode cX9_in 3 = .ok (.ifCond .lt 14, 3) := by decide +kernel
theorem dX9_in_6 : decode cX9_in 6 = .ok (.lload_n 0, 1) := by decide +kernel
theorem dX9_in_7 : decode cX9_in 7 = .ok (.lload 4, 2) := by decide +kernel
theorem dX9_in_9 : decode cX9_in 9 = .ok (.lcmp, 1) := by decide +kernel
theorem dX9_in_10 : decode cX9_in 10 = .ok (.ifCond .gt 7, 3) := by decide +kernel
theorem dX9_in_13 : decode cX9_in 13 = .ok (.iconst 1, 1) := by decide +kernel
theorem dX9_in_14 : decode cX9_in 14 = .ok (.goto 4, 3) := by decide +kernel
theorem dX9_in_17 : decode cX9_in 17 = .ok (.iconst 0, 1) := by decide +kernel
theorem dX9_in_18 : decode cX9_in 18 = .ok (.ireturn, 1) := by decide +kernel
theorem dX9_copies_0 : decode cX9_copies 0 = .ok (.iconst 0, 1) := by decide +kernel
theorem dX9_copies_1 : decode cX9_copies 1 = .ok (.istore_n 2, 1) := by decide +kernel
theorem dX9_copies_2 : decode cX9_copies 2 = .ok (.iload_n 2, 1) := by decide +kernel
theorem dX9_copies_3 : decode cX9_copies 3 = .ok (.bipush 36, 2) := by decide +kernel
theorem dX9_copies_5 : decode cX9_copies 5 = .ok (.if_icmp .ge 15, 3) := by decide +kernel
theorem dX9_copies_8 : decode cX9_copies 8 = .ok (.aload_n 1, 1) := by decide +kernel
theorem dX9_copies_9 : decode cX9_copies 9 = .ok (.iload_n 2, 1) := by decide +kernel
theorem dX9_copies_10 : decode cX9_copies 10 = .ok (.aload_n 0, 1) := by decide +kernel
theorem dX9_copies_11 : decode cX9_copies 11 = .ok (.iload_n 2, 1) := by decide +kernel
theorem dX9_copies_12 : decode cX9_copies 12 = .ok (.iaload, 1) := by decide +kernel
theorem dX9_copies_13 : decode cX9_copies 13 = .ok (.iastore, 1) := by decide +kernel
theorem dX9_copies_14 : decode cX9_copies 14 = .ok (.iinc 2 1, 3) := by decide +kernel
theorem dX9_copies_17 : decode cX9_copies 17 = .ok (.goto (-15), 3) := by decide +kernel
theorem dX9_copies_20 : decode cX9_copies 20 = .ok (.return_, 1) := by decide +kernel
theorem dX9_changes_0 : decode cX9_changes 0 = .ok (.aload_n 0, 1) := by decide +kernel
theorem dX9_changes_1 : decode cX9_changes 1 = .ok (.getfield 78, 3) := by decide +kernel
theorem dX9_changes_4 : decode cX9_changes 4 = .ok (.bipush 10, 2) := by decide +kernel
theorem dX9_changes_6 : decode cX9_changes 6 = .ok (.if_icmp .ne 43, 3) := by decide +kernel
theorem dX9_changes_9 : decode cX9_changes 9 = .ok (.iconst 0, 1) := by decide +kernel
theorem dX9_changes_10 : decode cX9_changes 10 = .ok (.istore_n 1, 1) := by decide +kernel
theorem dX9_changes_11 : decode cX9_changes 11 = .ok (.iload_n 1, 1) := by decide +kernel
theorem dX9_changes_12 : decode cX9_changes 12 = .ok (.sipush 324, 3) := by decide +kernel
theorem dX9_changes_15 : decode cX9_changes 15 = .ok (.if_icmp .ge 24, 3) := by decide +kernel
theorem dX9_changes_18 : decode cX9_changes 18 = .ok (.aload_n 0, 1) := by decide +kernel
theorem dX9_changes_19 : decode cX9_changes 19 = .ok (.getfield 18, 3) := by decide +kernel
theorem dX9_changes_22 : decode cX9_changes 22 = .ok (.iload_n 1, 1) := by decide +kernel
theorem dX9_changes_23 : decode cX9_changes 23 = .ok (.aload_n 0, 1) := by decide +kernel
theorem dX9_changes_24 : decode cX9_changes 24 = .ok (.getfield 18, 3) := by decide +kernel
theorem dX9_changes_27 : decode cX9_changes 27 = .ok (.iload_n 1, 1) := by decide +kernel
theorem dX9_changes_28 : decode cX9_changes 28 = .ok (.bipush 36, 2) := by decide +kernel
theorem dX9_changes_30 : decode cX9_changes 30 = .ok (.iadd, 1) := by decide +kernel
theorem dX9_changes_31 : decode cX9_changes 31 = .ok (.iaload, 1) := by decide +kernel
theorem dX9_changes_32 : decode cX9_changes 32 = .ok (.iastore, 1) := by decide +kernel
theorem dX9_changes_33 : decode cX9_changes 33 = .ok (.iinc 1 1, 3) := by decide +kernel
theorem dX9_changes_36 : decode cX9_changes 36 = .ok (.goto (-25), 3) := by decide +kernel
theorem dX9_changes_39 : decode cX9_changes 39 = .ok (.aload_n 0, 1) := by decide +kernel
theorem dX9_changes_40 : decode cX9_changes 40 = .ok (.dup, 1) := by decide +kernel
theorem dX9_changes_41 : decode cX9_changes 41 = .ok (.getfield 78, 3) := by decide +kernel
theorem dX9_changes_44 : decode cX9_changes 44 = .ok (.iconst 1, 1) := by decide +kernel
theorem dX9_changes_45 : decode cX9_changes 45 = .ok (.isub, 1) := by decide +kernel
theorem dX9_changes_46 : decode cX9_changes 46 = .ok (.putfield 78, 3) := by decide +kernel
theorem dX9_changes_49 : decode cX9_changes 49 = .ok (.iconst 0, 1) := by decide +kernel
theorem dX9_changes_50 : decode cX9_changes 50 = .ok (.istore_n 1, 1) := by decide +kernel
theorem dX9_changes_51 : decode cX9_changes 51 = .ok (.iload_n 1, 1) := by decide +kernel
theorem dX9_changes_52 : decode cX9_changes 52 = .ok (.bipush 36, 2) := by decide +kernel
theorem dX9_changes_54 : decode cX9_changes 54 = .ok (.if_icmp .ge 29, 3) := by decide +kernel
theorem dX9_changes_57 : decode cX9_changes 57 = .ok (.aload_n 0, 1) := by decide +kernel
theorem dX9_changes_58 : decode cX9_changes 58 = .ok (.getfield 18, 3) := by decide +kernel
theorem dX9_changes_61 : decode cX9_changes 61 = .ok (.aload_n 0, 1) := by decide +kernel
theorem dX9_changes_62 : decode cX9_changes 62 = .ok (.getfield 78, 3) := by decide +kernel
theorem dX9_changes_65 : decode cX9_changes 65 = .ok (.bipush 36, 2) := by decide +kernel
theorem dX9_changes_67 : decode cX9_changes 67 = .ok (.imul, 1) := by decide +kernel
theorem dX9_changes_68 : decode cX9_changes 68 = .ok (.iload_n 1, 1) := by decide +kernel
theorem dX9_changes_69 : decode cX9_changes 69 = .ok (.iadd, 1) := by decide +kernel
theorem dX9_changes_70 : decode cX9_changes 70 = .ok (.aload_n 0, 1) := by decide +kernel
theorem dX9_changes_71 : decode cX9_changes 71 = .ok (.getfield 11, 3) := by decide +kernel
theorem dX9_changes_74 : decode cX9_changes 74 = .ok (.iload_n 1, 1) := by decide +kernel
theorem dX9_changes_75 : decode cX9_changes 75 = .ok (.iaload, 1) := by decide +kernel
theorem dX9_changes_76 : decode cX9_changes 76 = .ok (.iastore, 1) := by decide +kernel
theorem dX9_changes_77 : decode cX9_changes 77 = .ok (.iinc 1 1, 3) := by decide +kernel
theorem dX9_changes_80 : decode cX9_changes 80 = .ok (.goto (-29), 3) := by decide +kernel
theorem dX9_changes_83 : decode cX9_changes 83 = .ok (.aload_n 0, 1) := by decide +kernel
theorem dX9_changes_84 : decode cX9_changes 84 = .ok (.dup, 1) := by decide +kernel
theorem dX9_changes_85 : decode cX9_changes 85 = .ok (.getfield 78, 3) := by decide +kernel
theorem dX9_changes_88 : decode cX9_changes 88 = .ok (.iconst 1, 1) := by decide +kernel
theorem dX9_changes_89 : decode cX9_changes 89 = .ok (.iadd, 1) := by decide +kernel
theorem dX9_changes_90 : decode cX9_changes 90 = .ok (.putfield 78, 3) := by decide +kernel
theorem dX9_changes_93 : decode cX9_changes 93 = .ok (.return_, 1) := by decide +kernel
theorem dX9_isPlace_0 : decode cX9_isPlace 0 = .ok (.iload_n 1, 1) := by decide +kernel
theorem dX9_isPlace_1 : decode cX9_isPlace 1 = .ok (.i2l, 1) := by decide +kernel
theorem dX9_isPlace_2 : decode cX9_isPlace 2 = .ok (.lconst 0, 1) := by decide +kernel
theorem dX9_isPlace_3 : decode cX9_isPlace 3 = .ok (.aload_n 0, 1) := by decide +kernel
theorem dX9_isPlace_4 : decode cX9_isPlace 4 = .ok (.getfield 11, 3) := by decide +kernel
theorem dX9_isPlace_7 : decode cX9_isPlace 7 = .ok (.iconst 0, 1) := by decide +kernel
theorem dX9_isPlace_8 : decode cX9_isPlace 8 = .ok (.iaload, 1) := by decide +kernel
theorem dX9_isPlace_9 : decode cX9_isPlace 9 = .ok (.i2l, 1) := by decide +kernel
theorem dX9_isPlace_10 : decode cX9_isPlace 10 = .ok (.invokestatic 82, 3) := by decide +kernel
theorem dX9_isPlace_13 : decode cX9_isPlace 13 = .ok (.ireturn, 1) := by decide +kernel
theorem dX9_isSupport_0 : decode cX9_isSupport 0 = .ok (.iload_n 1, 1) := by decide +kernel
theorem dX9_isSupport_1 : decode cX9_isSupport 1 = .ok (.i2l, 1) := by decide +kernel
theorem dX9_isSupport_2 : decode cX9_isSupport 2 = .ok (.lconst 0, 1) := by decide +kernel
theorem dX9_isSupport_3 : decode cX9_isSupport 3 = .ok (.aload_n 0, 1) := by decide +kernel
theorem dX9_isSupport_4 : decode cX9_isSupport 4 = .ok (.getfield 11, 3) := by decide +kernel
theorem dX9_isSupport_7 : decode cX9_isSupport 7 = .ok (.iconst 1, 1) := by decide +kernel
theorem dX9_isSupport_8 : decode cX9_isSupport 8 = .ok (.iaload, 1) := by decide +kernel
theorem dX9_isSupport_9 : decode cX9_isSupport 9 = .ok (.iconst 1, 1) := by decide +kernel
theorem dX9_isSupport_10 : decode cX9_isSupport 10 = .ok (.isub, 1) := by decide +kernel
theorem dX9_isSupport_11 : decode cX9_isSupport 11 = .ok (.i2l, 1) := by decide +kernel
theorem dX9_isSupport_12 : decode cX9_isSupport 12 = .ok (.invokestatic 82, 3) := by decide +kernel
theorem dX9_isSupport_15 : decode cX9_isSupport 15 = .ok (.ireturn, 1) := by decide +kernel
theorem dX9_isLoad_0 : decode cX9_isLoad 0 = .ok (.iload_n 1, 1) := by decide +kernel
theorem dX9_isLoad_1 : decode cX9_isLoad 1 = .ok (.i2l, 1) := by decide +kernel
theorem dX9_isLoad_2 : decode cX9_isLoad 2 = .ok (.lconst 0, 1) := by decide +kernel
theorem dX9_isLoad_3 : decode cX9_isLoad 3 = .ok (.aload_n 0, 1) := by decide +kernel
theorem dX9_isLoad_4 : decode cX9_isLoad 4 = .ok (.getfield 11, 3) := by decide +kernel
theorem dX9_isLoad_7 : decode cX9_isLoad 7 = .ok (.bipush 10, 2) := by decide +kernel
theorem dX9_isLoad_9 : decode cX9_isLoad 9 = .ok (.iaload, 1) := by decide +kernel
theorem dX9_isLoad_10 : decode cX9_isLoad 10 = .ok (.iconst 1, 1) := by decide +kernel
theorem dX9_isLoad_11 : decode cX9_isLoad 11 = .ok (.isub, 1) := by decide +kernel
theorem dX9_isLoad_12 : decode cX9_isLoad 12 = .ok (.i2l, 1) := by decide +kernel
theorem dX9_isLoad_13 : decode cX9_isLoad 13 = .ok (.invokestatic 82, 3) := by decide +kernel
theorem dX9_isLoad_16 : decode cX9_isLoad 16 = .ok (.ireturn, 1) := by decide +kernel
theorem dX9_supportAt_0 : decode cX9_supportAt 0 = .ok (.iconst 0, 1) := by decide +kernel
theorem dX9_supportAt_1 : decode cX9_supportAt 1 = .ok (.istore_n 2, 1) := by decide +kernel
theorem dX9_supportAt_2 : decode cX9_supportAt 2 = .ok (.iload_n 2, 1) := by decide +kernel
theorem dX9_supportAt_3 : decode cX9_supportAt 3 = .ok (.aload_n 0, 1) := by decide +kernel
theorem dX9_supportAt_4 : decode cX9_supportAt 4 = .ok (.getfield 11, 3) := by decide +kernel
theorem dX9_supportAt_7 : decode cX9_supportAt 7 = .ok (.iconst 1, 1) := by decide +kernel
theorem dX9_supportAt_8 : decode cX9_supportAt 8 = .ok (.iaload, 1) := by decide +kernel
theorem dX9_supportAt_9 : decode cX9_supportAt 9 = .ok (.if_icmp .ge 23, 3) := by decide +kernel
theorem dX9_supportAt_12 : decode cX9_supportAt 12 = .ok (.aload_n 0, 1) := by decide +kernel
theorem dX9_supportAt_13 : decode cX9_supportAt 13 = .ok (.getfield 11, 3) := by decide +kernel
theorem dX9_supportAt_16 : decode cX9_supportAt 16 = .ok (.iconst 2, 1) := by decide +kernel
theorem dX9_supportAt_17 : decode cX9_supportAt 17 = .ok (.iload_n 2, 1) := by decide +kernel
theorem dX9_supportAt_18 : decode cX9_supportAt 18 = .ok (.iadd, 1) := by decide +kernel
theorem dX9_supportAt_19 : decode cX9_supportAt 19 = .ok (.iaload, 1) := by decide +kernel
theorem dX9_supportAt_20 : decode cX9_supportAt 20 = .ok (.iload_n 1, 1) := by decide +kernel
theorem dX9_supportAt_21 : decode cX9_supportAt 21 = .ok (.if_icmp .ne 5, 3) := by decide +kernel
theorem dX9_supportAt_24 : decode cX9_supportAt 24 = .ok (.iload_n 2, 1) := by decide +kernel
theorem dX9_supportAt_25 : decode cX9_supportAt 25 = .ok (.ireturn, 1) := by decide +kernel
theorem dX9_supportAt_26 : decode cX9_supportAt 26 = .ok (.iinc 2 1, 3) := by decide +kernel
theorem dX9_supportAt_29 : decode cX9_supportAt 29 = .ok (.goto (-27), 3) := by decide +kernel
theorem dX9_supportAt_32 : decode cX9_supportAt 32 = .ok (.iconst (-1), 1) := by decide +kernel
theorem dX9_supportAt_33 : decode cX9_supportAt 33 = .ok (.ireturn, 1) := by decide +kernel
theorem dX9_beam_0 : decode cX9_beam 0 = .ok (.iload_n 1, 1) := by decide +kernel
theorem dX9_beam_1 : decode cX9_beam 1 = .ok (.i2l, 1) := by decide +kernel
theorem dX9_beam_2 : decode cX9_beam 2 = .ok (.ldc2_w 86, 3) := by decide +kernel
theorem dX9_beam_5 : decode cX9_beam 5 = .ok (.ldc2_w 88, 3) := by decide +kernel
theorem dX9_beam_8 : decode cX9_beam 8 = .ok (.invokestatic 82, 3) := by decide +kernel
theorem dX9_beam_11 : decode cX9_beam 11 = .ok (.ifCond .ne 5, 3) := by decide +kernel
theorem dX9_beam_14 : decode cX9_beam 14 = .ok (.iconst (-1), 1) := by decide +kernel
theorem dX9_beam_15 : decode cX9_beam 15 = .ok (.ireturn, 1) := by decide +kernel
theorem dX9_beam_16 : decode cX9_beam 16 = .ok (.aload_n 0, 1) := by decide +kernel
theorem dX9_beam_17 : decode cX9_beam 17 = .ok (.getfield 11, 3) := by decide +kernel
theorem dX9_beam_20 : decode cX9_beam 20 = .ok (.iconst 0, 1) := by decide +kernel
theorem dX9_beam_21 : decode cX9_beam 21 = .ok (.iaload, 1) := by decide +kernel
theorem dX9_beam_22 : decode cX9_beam 22 = .ok (.istore_n 2, 1) := by decide +kernel
theorem dX9_beam_23 : decode cX9_beam 23 = .ok (.iconst 0, 1) := by decide +kernel
theorem dX9_beam_24 : decode cX9_beam 24 = .ok (.istore_n 3, 1) := by decide +kernel
theorem dX9_beam_25 : decode cX9_beam 25 = .ok (.iload_n 3, 1) := by decide +kernel
theorem dX9_beam_26 : decode cX9_beam 26 = .ok (.bipush 36, 2) := by decide +kernel
theorem dX9_beam_28 : decode cX9_beam 28 = .ok (.if_icmp .ge 16, 3) := by decide +kernel
theorem dX9_beam_31 : decode cX9_beam 31 = .ok (.aload_n 0, 1) := by decide +kernel
theorem dX9_beam_32 : decode cX9_beam 32 = .ok (.getfield 11, 3) := by decide +kernel
theorem dX9_beam_35 : decode cX9_beam 35 = .ok (.iload_n 3, 1) := by decide +kernel
theorem dX9_beam_36 : decode cX9_beam 36 = .ok (.iconst 0, 1) := by decide +kernel
theorem dX9_beam_37 : decode cX9_beam 37 = .ok (.iastore, 1) := by decide +kernel
theorem dX9_beam_38 : decode cX9_beam 38 = .ok (.iinc 3 1, 3) := by decide +kernel
theorem dX9_beam_41 : decode cX9_beam 41 = .ok (.goto (-16), 3) := by decide +kernel
theorem dX9_beam_44 : decode cX9_beam 44 = .ok (.aload_n 0, 1) := by decide +kernel
theorem dX9_beam_45 : decode cX9_beam 45 = .ok (.getfield 11, 3) := by decide +kernel
theorem dX9_beam_48 : decode cX9_beam 48 = .ok (.iconst 0, 1) := by decide +kernel
theorem dX9_beam_49 : decode cX9_beam 49 = .ok (.iload_n 1, 1) := by decide +kernel
theorem dX9_beam_50 : decode cX9_beam 50 = .ok (.iastore, 1) := by decide +kernel
theorem dX9_beam_51 : decode cX9_beam 51 = .ok (.aload_n 0, 1) := by decide +kernel
theorem dX9_beam_52 : decode cX9_beam 52 = .ok (.iconst 0, 1) := by decide +kernel
theorem dX9_beam_53 : decode cX9_beam 53 = .ok (.putfield 78, 3) := by decide +kernel
theorem dX9_beam_56 : decode cX9_beam 56 = .ok (.iload_n 2, 1) := by decide +kernel
theorem dX9_beam_57 : decode cX9_beam 57 = .ok (.ireturn, 1) := by decide +kernel
theorem dX9_support_0 : decode cX9_support 0 = .ok (.aload_n 0, 1) := by decide +kernel
theorem dX9_support_1 : decode cX9_support 1 = .ok (.iload_n 1, 1) := by decide +kernel
theorem dX9_support_2 : decode cX9_support 2 = .ok (.invokevirtual 90, 3) := by decide +kernel
theorem dX9_support_5 : decode cX9_support 5 = .ok (.ifCond .ne 5, 3) := by decide +kernel
theorem dX9_support_8 : decode cX9_support 8 = .ok (.iconst (-1), 1) := by decide +kernel
theorem dX9_support_9 : decode cX9_support 9 = .ok (.ireturn, 1) := by decide +kernel
theorem dX9_support_10 : decode cX9_support 10 = .ok (.aload_n 0, 1) := by decide +kernel
theorem dX9_support_11 : decode cX9_support 11 = .ok (.iload_n 1, 1) := by decide +kernel
theorem dX9_support_12 : decode cX9_support 12 = .ok (.invokevirtual 94, 3) := by decide +kernel
theorem dX9_support_15 : decode cX9_support 15 = .ok (.ifCond .lt 6, 3) := by decide +kernel
theorem dX9_support_18 : decode cX9_support 18 = .ok (.bipush (-6), 2) := by decide +kernel
theorem dX9_support_20 : decode cX9_support 20 = .ok (.ireturn, 1) := by decide +kernel
theorem dX9_support_21 : decode cX9_support 21 = .ok (.aload_n 0, 1) := by decide +kernel
theorem dX9_support_22 : decode cX9_support 22 = .ok (.getfield 11, 3) := by decide +kernel
theorem dX9_support_25 : decode cX9_support 25 = .ok (.iconst 1, 1) := by decide +kernel
theorem dX9_support_26 : decode cX9_support 26 = .ok (.iaload, 1) := by decide +kernel
theorem dX9_support_27 : decode cX9_support 27 = .ok (.iconst 4, 1) := by decide +kernel
theorem dX9_support_28 : decode cX9_support 28 = .ok (.if_icmp .ne 6, 3) := by decide +kernel
theorem dX9_support_31 : decode cX9_support 31 = .ok (.bipush (-3), 2) := by decide +kernel
theorem dX9_support_33 : decode cX9_support 33 = .ok (.ireturn, 1) := by decide +kernel
theorem dX9_support_34 : decode cX9_support 34 = .ok (.aload_n 0, 1) := by decide +kernel
theorem dX9_support_35 : decode cX9_support 35 = .ok (.invokevirtual 98, 3) := by decide +kernel
theorem dX9_support_38 : decode cX9_support 38 = .ok (.aload_n 0, 1) := by decide +kernel
theorem dX9_support_39 : decode cX9_support 39 = .ok (.getfield 11, 3) := by decide +kernel
theorem dX9_support_42 : decode cX9_support 42 = .ok (.iconst 1, 1) := by decide +kernel
theorem dX9_support_43 : decode cX9_support 43 = .ok (.iaload, 1) := by decide +kernel
theorem dX9_support_44 : decode cX9_support 44 = .ok (.istore_n 2, 1) := by decide +kernel
theorem dX9_support_45 : decode cX9_support 45 = .ok (.iload_n 2, 1) := by decide +kernel
theorem dX9_support_46 : decode cX9_support 46 = .ok (.ifCond .le 61, 3) := by decide +kernel
theorem dX9_support_49 : decode cX9_support 49 = .ok (.aload_n 0, 1) := by decide +kernel
theorem dX9_support_50 : decode cX9_support 50 = .ok (.getfield 11, 3) := by decide +kernel
theorem dX9_support_53 : decode cX9_support 53 = .ok (.iconst 2, 1) := by decide +kernel
theorem dX9_support_54 : decode cX9_support 54 = .ok (.iload_n 2, 1) := by decide +kernel
theorem dX9_support_55 : decode cX9_support 55 = .ok (.iadd, 1) := by decide +kernel
theorem dX9_support_56 : decode cX9_support 56 = .ok (.iconst 1, 1) := by decide +kernel
theorem dX9_support_57 : decode cX9_support 57 = .ok (.isub, 1) := by decide +kernel
theorem dX9_support_58 : decode cX9_support 58 = .ok (.iaload, 1) := by decide +kernel
theorem dX9_support_59 : decode cX9_support 59 = .ok (.iload_n 1, 1) := by decide +kernel
theorem dX9_support_60 : decode cX9_support 60 = .ok (.if_icmp .le 47, 3) := by decide +kernel
theorem dX9_support_63 : decode cX9_support 63 = .ok (.aload_n 0, 1) := by decide +kernel
theorem dX9_support_64 : decode cX9_support 64 = .ok (.getfield 11, 3) := by decide +kernel
theorem dX9_support_67 : decode cX9_support 67 = .ok (.iconst 2, 1) := by decide +kernel
theorem dX9_support_68 : decode cX9_support 68 = .ok (.iload_n 2, 1) := by decide +kernel
theorem dX9_support_69 : decode cX9_support 69 = .ok (.iadd, 1) := by decide +kernel
theorem dX9_support_70 : decode cX9_support 70 = .ok (.aload_n 0, 1) := by decide +kernel
theorem dX9_support_71 : decode cX9_support 71 = .ok (.getfield 11, 3) := by decide +kernel
theorem dX9_support_74 : decode cX9_support 74 = .ok (.iconst 2, 1) := by decide +kernel
theorem dX9_support_75 : decode cX9_support 75 = .ok (.iload_n 2, 1) := by decide +kernel
theorem dX9_support_76 : decode cX9_support 76 = .ok (.iadd, 1) := by decide +kernel
theorem dX9_support_77 : decode cX9_support 77 = .ok (.iconst 1, 1) := by decide +kernel
theorem dX9_support_78 : decode cX9_support 78 = .ok (.isub, 1) := by decide +kernel
theorem dX9_support_79 : decode cX9_support 79 = .ok (.iaload, 1) := by decide +kernel
theorem dX9_support_80 : decode cX9_support 80 = .ok (.iastore, 1) := by decide +kernel
theorem dX9_support_81 : decode cX9_support 81 = .ok (.aload_n 0, 1) := by decide +kernel
theorem dX9_support_82 : decode cX9_support 82 = .ok (.getfield 11, 3) := by decide +kernel
theorem dX9_support_85 : decode cX9_support 85 = .ok (.bipush 6, 2) := by decide +kernel
theorem dX9_support_87 : decode cX9_support 87 = .ok (.iload_n 2, 1) := by decide +kernel
theorem dX9_support_88 : decode cX9_support 88 = .ok (.iadd, 1) := by decide +kernel
theorem dX9_support_89 : decode cX9_support 89 = .ok (.aload_n 0, 1) := by decide +kernel
theorem dX9_support_90 : decode cX9_support 90 = .ok (.getfield 11, 3) := by decide +kernel
theorem dX9_support_93 : decode cX9_support 93 = .ok (.bipush 6, 2) := by decide +kernel
theorem dX9_support_95 : decode cX9_support 95 = .ok (.iload_n 2, 1) := by decide +kernel
theorem dX9_support_96 : decode cX9_support 96 = .ok (.iadd, 1) := by decide +kernel
theorem dX9_support_97 : decode cX9_support 97 = .ok (.iconst 1, 1) := by decide +kernel
theorem dX9_support_98 : decode cX9_support 98 = .ok (.isub, 1) := by decide +kernel
theorem dX9_support_99 : decode cX9_support 99 = .ok (.iaload, 1) := by decide +kernel
theorem dX9_support_100 : decode cX9_support 100 = .ok (.iastore, 1) := by decide +kernel
theorem dX9_support_101 : decode cX9_support 101 = .ok (.iinc 2 (-1), 3) := by decide +kernel
theorem dX9_support_104 : decode cX9_support 104 = .ok (.goto (-59), 3) := by decide +kernel
theorem dX9_support_107 : decode cX9_support 107 = .ok (.aload_n 0, 1) := by decide +kernel
theorem dX9_support_108 : decode cX9_support 108 = .ok (.getfield 11, 3) := by decide +kernel
theorem dX9_support_111 : decode cX9_support 111 = .ok (.iconst 2, 1) := by decide +kernel
theorem dX9_support_112 : decode cX9_support 112 = .ok (.iload_n 2, 1) := by decide +kernel
theorem dX9_support_113 : decode cX9_support 113 = .ok (.iadd, 1) := by decide +kernel
theorem dX9_support_114 : decode cX9_support 114 = .ok (.iload_n 1, 1) := by decide +kernel
theorem dX9_support_115 : decode cX9_support 115 = .ok (.iastore, 1) := by decide +kernel
theorem dX9_support_116 : decode cX9_support 116 = .ok (.aload_n 0, 1) := by decide +kernel
theorem dX9_support_117 : decode cX9_support 117 = .ok (.getfield 11, 3) := by decide +kernel
theorem dX9_support_120 : decode cX9_support 120 = .ok (.bipush 6, 2) := by decide +kernel
theorem dX9_support_122 : decode cX9_support 122 = .ok (.iload_n 2, 1) := by decide +kernel
theorem dX9_support_123 : decode cX9_support 123 = .ok (.iadd, 1) := by decide +kernel
theorem dX9_support_124 : decode cX9_support 124 = .ok (.iconst 0, 1) := by decide +kernel
theorem dX9_support_125 : decode cX9_support 125 = .ok (.iastore, 1) := by decide +kernel
theorem dX9_support_126 : decode cX9_support 126 = .ok (.aload_n 0, 1) := by decide +kernel
theorem dX9_support_127 : decode cX9_support 127 = .ok (.getfield 11, 3) := by decide +kernel
theorem dX9_support_130 : decode cX9_support 130 = .ok (.iconst 1, 1) := by decide +kernel
theorem dX9_support_131 : decode cX9_support 131 = .ok (.dup2, 1) := by decide +kernel
theorem dX9_support_132 : decode cX9_support 132 = .ok (.iaload, 1) := by decide +kernel
theorem dX9_support_133 : decode cX9_support 133 = .ok (.iconst 1, 1) := by decide +kernel
theorem dX9_support_134 : decode cX9_support 134 = .ok (.iadd, 1) := by decide +kernel
theorem dX9_support_135 : decode cX9_support 135 = .ok (.iastore, 1) := by decide +kernel
theorem dX9_support_136 : decode cX9_support 136 = .ok (.iload_n 2, 1) := by decide +kernel
theorem dX9_support_137 : decode cX9_support 137 = .ok (.ireturn, 1) := by decide +kernel
theorem dX9_drop_0 : decode cX9_drop 0 = .ok (.aload_n 0, 1) := by decide +kernel
theorem dX9_drop_1 : decode cX9_drop 1 = .ok (.iload_n 1, 1) := by decide +kernel
theorem dX9_drop_2 : decode cX9_drop 2 = .ok (.invokevirtual 90, 3) := by decide +kernel
theorem dX9_drop_5 : decode cX9_drop 5 = .ok (.ifCond .ne 5, 3) := by decide +kernel
theorem dX9_drop_8 : decode cX9_drop 8 = .ok (.iconst (-1), 1) := by decide +kernel
theorem dX9_drop_9 : decode cX9_drop 9 = .ok (.ireturn, 1) := by decide +kernel
theorem dX9_drop_10 : decode cX9_drop 10 = .ok (.aload_n 0, 1) := by decide +kernel
theorem dX9_drop_11 : decode cX9_drop 11 = .ok (.iload_n 1, 1) := by decide +kernel
theorem dX9_drop_12 : decode cX9_drop 12 = .ok (.invokevirtual 94, 3) := by decide +kernel
theorem dX9_drop_15 : decode cX9_drop 15 = .ok (.istore_n 2, 1) := by decide +kernel
theorem dX9_drop_16 : decode cX9_drop 16 = .ok (.iload_n 2, 1) := by decide +kernel
theorem dX9_drop_17 : decode cX9_drop 17 = .ok (.ifCond .ge 6, 3) := by decide +kernel
theorem dX9_drop_20 : decode cX9_drop 20 = .ok (.bipush (-6), 2) := by decide +kernel
theorem dX9_drop_22 : decode cX9_drop 22 = .ok (.ireturn, 1) := by decide +kernel
theorem dX9_drop_23 : decode cX9_drop 23 = .ok (.aload_n 0, 1) := by decide +kernel
theorem dX9_drop_24 : decode cX9_drop 24 = .ok (.invokevirtual 98, 3) := by decide +kernel
theorem dX9_drop_27 : decode cX9_drop 27 = .ok (.aload_n 0, 1) := by decide +kernel
theorem dX9_drop_28 : decode cX9_drop 28 = .ok (.getfield 11, 3) := by decide +kernel
theorem dX9_drop_31 : decode cX9_drop 31 = .ok (.iconst 1, 1) := by decide +kernel
theorem dX9_drop_32 : decode cX9_drop 32 = .ok (.dup2, 1) := by decide +kernel
theorem dX9_drop_33 : decode cX9_drop 33 = .ok (.iaload, 1) := by decide +kernel
theorem dX9_drop_34 : decode cX9_drop 34 = .ok (.iconst 1, 1) := by decide +kernel
theorem dX9_drop_35 : decode cX9_drop 35 = .ok (.isub, 1) := by decide +kernel
theorem dX9_drop_36 : decode cX9_drop 36 = .ok (.iastore, 1) := by decide +kernel
theorem dX9_drop_37 : decode cX9_drop 37 = .ok (.iload_n 2, 1) := by decide +kernel
theorem dX9_drop_38 : decode cX9_drop 38 = .ok (.istore_n 3, 1) := by decide +kernel
theorem dX9_drop_39 : decode cX9_drop 39 = .ok (.iload_n 3, 1) := by decide +kernel
theorem dX9_drop_40 : decode cX9_drop 40 = .ok (.aload_n 0, 1) := by decide +kernel
theorem dX9_drop_41 : decode cX9_drop 41 = .ok (.getfield 11, 3) := by decide +kernel
theorem dX9_drop_44 : decode cX9_drop 44 = .ok (.iconst 1, 1) := by decide +kernel
theorem dX9_drop_45 : decode cX9_drop 45 = .ok (.iaload, 1) := by decide +kernel
theorem dX9_drop_46 : decode cX9_drop 46 = .ok (.if_icmp .ge 47, 3) := by decide +kernel
theorem dX9_drop_49 : decode cX9_drop 49 = .ok (.aload_n 0, 1) := by decide +kernel
theorem dX9_drop_50 : decode cX9_drop 50 = .ok (.getfield 11, 3) := by decide +kernel
theorem dX9_drop_53 : decode cX9_drop 53 = .ok (.iconst 2, 1) := by decide +kernel
theorem dX9_drop_54 : decode cX9_drop 54 = .ok (.iload_n 3, 1) := by decide +kernel
theorem dX9_drop_55 : decode cX9_drop 55 = .ok (.iadd, 1) := by decide +kernel
theorem dX9_drop_56 : decode cX9_drop 56 = .ok (.aload_n 0, 1) := by decide +kernel
theorem dX9_drop_57 : decode cX9_drop 57 = .ok (.getfield 11, 3) := by decide +kernel
theorem dX9_drop_60 : decode cX9_drop 60 = .ok (.iconst 2, 1) := by decide +kernel
theorem dX9_drop_61 : decode cX9_drop 61 = .ok (.iload_n 3, 1) := by decide +kernel
theorem dX9_drop_62 : decode cX9_drop 62 = .ok (.iadd, 1) := by decide +kernel
theorem dX9_drop_63 : decode cX9_drop 63 = .ok (.iconst 1, 1) := by decide +kernel
theorem dX9_drop_64 : decode cX9_drop 64 = .ok (.iadd, 1) := by decide +kernel
theorem dX9_drop_65 : decode cX9_drop 65 = .ok (.iaload, 1) := by decide +kernel
theorem dX9_drop_66 : decode cX9_drop 66 = .ok (.iastore, 1) := by decide +kernel
theorem dX9_drop_67 : decode cX9_drop 67 = .ok (.aload_n 0, 1) := by decide +kernel
theorem dX9_drop_68 : decode cX9_drop 68 = .ok (.getfield 11, 3) := by decide +kernel
theorem dX9_drop_71 : decode cX9_drop 71 = .ok (.bipush 6, 2) := by decide +kernel
theorem dX9_drop_73 : decode cX9_drop 73 = .ok (.iload_n 3, 1) := by decide +kernel
theorem dX9_drop_74 : decode cX9_drop 74 = .ok (.iadd, 1) := by decide +kernel
theorem dX9_drop_75 : decode cX9_drop 75 = .ok (.aload_n 0, 1) := by decide +kernel
theorem dX9_drop_76 : decode cX9_drop 76 = .ok (.getfield 11, 3) := by decide +kernel
theorem dX9_drop_79 : decode cX9_drop 79 = .ok (.bipush 6, 2) := by decide +kernel
theorem dX9_drop_81 : decode cX9_drop 81 = .ok (.iload_n 3, 1) := by decide +kernel
theorem dX9_drop_82 : decode cX9_drop 82 = .ok (.iadd, 1) := by decide +kernel
theorem dX9_drop_83 : decode cX9_drop 83 = .ok (.iconst 1, 1) := by decide +kernel
theorem dX9_drop_84 : decode cX9_drop 84 = .ok (.iadd, 1) := by decide +kernel
theorem dX9_drop_85 : decode cX9_drop 85 = .ok (.iaload, 1) := by decide +kernel
theorem dX9_drop_86 : decode cX9_drop 86 = .ok (.iastore, 1) := by decide +kernel
theorem dX9_drop_87 : decode cX9_drop 87 = .ok (.iinc 3 1, 3) := by decide +kernel
theorem dX9_drop_90 : decode cX9_drop 90 = .ok (.goto (-51), 3) := by decide +kernel
theorem dX9_drop_93 : decode cX9_drop 93 = .ok (.aload_n 0, 1) := by decide +kernel
theorem dX9_drop_94 : decode cX9_drop 94 = .ok (.getfield 11, 3) := by decide +kernel
theorem dX9_drop_97 : decode cX9_drop 97 = .ok (.iconst 1, 1) := by decide +kernel
theorem dX9_drop_98 : decode cX9_drop 98 = .ok (.iaload, 1) := by decide +kernel
theorem dX9_drop_99 : decode cX9_drop 99 = .ok (.ireturn, 1) := by decide +kernel
theorem dX9_hinge_0 : decode cX9_hinge 0 = .ok (.aload_n 0, 1) := by decide +kernel
theorem dX9_hinge_1 : decode cX9_hinge 1 = .ok (.iload_n 1, 1) := by decide +kernel
theorem dX9_hinge_2 : decode cX9_hinge 2 = .ok (.invokevirtual 90, 3) := by decide +kernel
theorem dX9_hinge_5 : decode cX9_hinge 5 = .ok (.ifCond .eq 13, 3) := by decide +kernel
theorem dX9_hinge_8 : decode cX9_hinge 8 = .ok (.iload_n 2, 1) := by decide +kernel
theorem dX9_hinge_9 : decode cX9_hinge 9 = .ok (.i2l, 1) := by decide +kernel
theorem dX9_hinge_10 : decode cX9_hinge 10 = .ok (.lconst 0, 1) := by decide +kernel
theorem dX9_hinge_11 : decode cX9_hinge 11 = .ok (.lconst 1, 1) := by decide +kernel
theorem dX9_hinge_12 : decode cX9_hinge 12 = .ok (.invokestatic 82, 3) := by decide +kernel
theorem dX9_hinge_15 : decode cX9_hinge 15 = .ok (.ifCond .ne 5, 3) := by decide +kernel
theorem dX9_hinge_18 : decode cX9_hinge 18 = .ok (.iconst (-1), 1) := by decide +kernel
theorem dX9_hinge_19 : decode cX9_hinge 19 = .ok (.ireturn, 1) := by decide +kernel
theorem dX9_hinge_20 : decode cX9_hinge 20 = .ok (.aload_n 0, 1) := by decide +kernel
theorem dX9_hinge_21 : decode cX9_hinge 21 = .ok (.iload_n 1, 1) := by decide +kernel
theorem dX9_hinge_22 : decode cX9_hinge 22 = .ok (.invokevirtual 94, 3) := by decide +kernel
theorem dX9_hinge_25 : decode cX9_hinge 25 = .ok (.istore_n 3, 1) := by decide +kernel
theorem dX9_hinge_26 : decode cX9_hinge 26 = .ok (.iload_n 3, 1) := by decide +kernel
theorem dX9_hinge_27 : decode cX9_hinge 27 = .ok (.ifCond .ge 6, 3) := by decide +kernel
theorem dX9_hinge_30 : decode cX9_hinge 30 = .ok (.bipush (-6), 2) := by decide +kernel
theorem dX9_hinge_32 : decode cX9_hinge 32 = .ok (.ireturn, 1) := by decide +kernel
theorem dX9_hinge_33 : decode cX9_hinge 33 = .ok (.aload_n 0, 1) := by decide +kernel
theorem dX9_hinge_34 : decode cX9_hinge 34 = .ok (.getfield 11, 3) := by decide +kernel
theorem dX9_hinge_37 : decode cX9_hinge 37 = .ok (.bipush 6, 2) := by decide +kernel
theorem dX9_hinge_39 : decode cX9_hinge 39 = .ok (.iload_n 3, 1) := by decide +kernel
theorem dX9_hinge_40 : decode cX9_hinge 40 = .ok (.iadd, 1) := by decide +kernel
theorem dX9_hinge_41 : decode cX9_hinge 41 = .ok (.iaload, 1) := by decide +kernel
theorem dX9_hinge_42 : decode cX9_hinge 42 = .ok (.istore 4, 2) := by decide +kernel
theorem dX9_hinge_44 : decode cX9_hinge 44 = .ok (.aload_n 0, 1) := by decide +kernel
theorem dX9_hinge_45 : decode cX9_hinge 45 = .ok (.invokevirtual 98, 3) := by decide +kernel
theorem dX9_hinge_48 : decode cX9_hinge 48 = .ok (.aload_n 0, 1) := by decide +kernel
theorem dX9_hinge_49 : decode cX9_hinge 49 = .ok (.getfield 11, 3) := by decide +kernel
theorem dX9_hinge_52 : decode cX9_hinge 52 = .ok (.bipush 6, 2) := by decide +kernel
theorem dX9_hinge_54 : decode cX9_hinge 54 = .ok (.iload_n 3, 1) := by decide +kernel
theorem dX9_hinge_55 : decode cX9_hinge 55 = .ok (.iadd, 1) := by decide +kernel
theorem dX9_hinge_56 : decode cX9_hinge 56 = .ok (.iload_n 2, 1) := by decide +kernel
theorem dX9_hinge_57 : decode cX9_hinge 57 = .ok (.iastore, 1) := by decide +kernel
theorem dX9_hinge_58 : decode cX9_hinge 58 = .ok (.iload 4, 2) := by decide +kernel
theorem dX9_hinge_60 : decode cX9_hinge 60 = .ok (.ireturn, 1) := by decide +kernel
theorem dX9_comes_0 : decode cX9_comes 0 = .ok (.aload_n 0, 1) := by decide +kernel
theorem dX9_comes_1 : decode cX9_comes 1 = .ok (.getfield 11, 3) := by decide +kernel
theorem dX9_comes_4 : decode cX9_comes 4 = .ok (.bipush 10, 2) := by decide +kernel
theorem dX9_comes_6 : decode cX9_comes 6 = .ok (.iaload, 1) := by decide +kernel
theorem dX9_comes_7 : decode cX9_comes 7 = .ok (.bipush 6, 2) := by decide +kernel
theorem dX9_comes_9 : decode cX9_comes 9 = .ok (.if_icmp .ne 6, 3) := by decide +kernel
theorem dX9_comes_12 : decode cX9_comes 12 = .ok (.bipush (-3), 2) := by decide +kernel
theorem dX9_comes_14 : decode cX9_comes 14 = .ok (.ireturn, 1) := by decide +kernel
theorem dX9_comes_15 : decode cX9_comes 15 = .ok (.aload_n 0, 1) := by decide +kernel
theorem dX9_comes_16 : decode cX9_comes 16 = .ok (.invokevirtual 98, 3) := by decide +kernel
theorem dX9_comes_19 : decode cX9_comes 19 = .ok (.aload_n 0, 1) := by decide +kernel
theorem dX9_comes_20 : decode cX9_comes 20 = .ok (.getfield 11, 3) := by decide +kernel
theorem dX9_comes_23 : decode cX9_comes 23 = .ok (.bipush 10, 2) := by decide +kernel
theorem dX9_comes_25 : decode cX9_comes 25 = .ok (.iaload, 1) := by decide +kernel
theorem dX9_comes_26 : decode cX9_comes 26 = .ok (.istore 4, 2) := by decide +kernel
theorem dX9_comes_28 : decode cX9_comes 28 = .ok (.aload_n 0, 1) := by decide +kernel
theorem dX9_comes_29 : decode cX9_comes 29 = .ok (.getfield 11, 3) := by decide +kernel
theorem dX9_comes_32 : decode cX9_comes 32 = .ok (.bipush 11, 2) := by decide +kernel
theorem dX9_comes_34 : decode cX9_comes 34 = .ok (.iload 4, 2) := by decide +kernel
theorem dX9_comes_36 : decode cX9_comes 36 = .ok (.iadd, 1) := by decide +kernel
theorem dX9_comes_37 : decode cX9_comes 37 = .ok (.iload_n 1, 1) := by decide +kernel
theorem dX9_comes_38 : decode cX9_comes 38 = .ok (.iastore, 1) := by decide +kernel
theorem dX9_comes_39 : decode cX9_comes 39 = .ok (.aload_n 0, 1) := by decide +kernel
theorem dX9_comes_40 : decode cX9_comes 40 = .ok (.getfield 11, 3) := by decide +kernel
theorem dX9_comes_43 : decode cX9_comes 43 = .ok (.bipush 17, 2) := by decide +kernel
theorem dX9_comes_45 : decode cX9_comes 45 = .ok (.iload 4, 2) := by decide +kernel
theorem dX9_comes_47 : decode cX9_comes 47 = .ok (.iadd, 1) := by decide +kernel
theorem dX9_comes_48 : decode cX9_comes 48 = .ok (.iload_n 2, 1) := by decide +kernel
theorem dX9_comes_49 : decode cX9_comes 49 = .ok (.iastore, 1) := by decide +kernel
theorem dX9_comes_50 : decode cX9_comes 50 = .ok (.aload_n 0, 1) := by decide +kernel
theorem dX9_comes_51 : decode cX9_comes 51 = .ok (.getfield 11, 3) := by decide +kernel
theorem dX9_comes_54 : decode cX9_comes 54 = .ok (.bipush 23, 2) := by decide +kernel
theorem dX9_comes_56 : decode cX9_comes 56 = .ok (.iload 4, 2) := by decide +kernel
theorem dX9_comes_58 : decode cX9_comes 58 = .ok (.iadd, 1) := by decide +kernel
theorem dX9_comes_59 : decode cX9_comes 59 = .ok (.iload_n 3, 1) := by decide +kernel
theorem dX9_comes_60 : decode cX9_comes 60 = .ok (.iastore, 1) := by decide +kernel
theorem dX9_comes_61 : decode cX9_comes 61 = .ok (.aload_n 0, 1) := by decide +kernel
theorem dX9_comes_62 : decode cX9_comes 62 = .ok (.getfield 11, 3) := by decide +kernel
theorem dX9_comes_65 : decode cX9_comes 65 = .ok (.bipush 10, 2) := by decide +kernel
theorem dX9_comes_67 : decode cX9_comes 67 = .ok (.dup2, 1) := by decide +kernel
theorem dX9_comes_68 : decode cX9_comes 68 = .ok (.iaload, 1) := by decide +kernel
theorem dX9_comes_69 : decode cX9_comes 69 = .ok (.iconst 1, 1) := by decide +kernel
theorem dX9_comes_70 : decode cX9_comes 70 = .ok (.iadd, 1) := by decide +kernel
theorem dX9_comes_71 : decode cX9_comes 71 = .ok (.iastore, 1) := by decide +kernel
theorem dX9_comes_72 : decode cX9_comes 72 = .ok (.iload 4, 2) := by decide +kernel
theorem dX9_comes_74 : decode cX9_comes 74 = .ok (.ireturn, 1) := by decide +kernel
theorem dX9_point_0 : decode cX9_point 0 = .ok (.aload_n 0, 1) := by decide +kernel
theorem dX9_point_1 : decode cX9_point 1 = .ok (.iload_n 1, 1) := by decide +kernel
theorem dX9_point_2 : decode cX9_point 2 = .ok (.invokevirtual 90, 3) := by decide +kernel
theorem dX9_point_5 : decode cX9_point 5 = .ok (.ifCond .eq 27, 3) := by decide +kernel
theorem dX9_point_8 : decode cX9_point 8 = .ok (.iload_n 2, 1) := by decide +kernel
theorem dX9_point_9 : decode cX9_point 9 = .ok (.i2l, 1) := by decide +kernel
theorem dX9_point_10 : decode cX9_point 10 = .ok (.ldc2_w 100, 3) := by decide +kernel
theorem dX9_point_13 : decode cX9_point 13 = .ok (.ldc2_w 102, 3) := by decide +kernel
theorem dX9_point_16 : decode cX9_point 16 = .ok (.invokestatic 82, 3) := by decide +kernel
theorem dX9_point_19 : decode cX9_point 19 = .ok (.ifCond .eq 13, 3) := by decide +kernel
theorem dX9_point_22 : decode cX9_point 22 = .ok (.aload_n 0, 1) := by decide +kernel
theorem dX9_point_23 : decode cX9_point 23 = .ok (.iload_n 1, 1) := by decide +kernel
theorem dX9_point_24 : decode cX9_point 24 = .ok (.iload_n 1, 1) := by decide +kernel
theorem dX9_point_25 : decode cX9_point 25 = .ok (.iload_n 2, 1) := by decide +kernel
theorem dX9_point_26 : decode cX9_point 26 = .ok (.invokevirtual 104, 3) := by decide +kernel
theorem dX9_point_29 : decode cX9_point 29 = .ok (.goto 4, 3) := by decide +kernel
theorem dX9_point_32 : decode cX9_point 32 = .ok (.iconst (-1), 1) := by decide +kernel
theorem dX9_point_33 : decode cX9_point 33 = .ok (.ireturn, 1) := by decide +kernel
theorem dX9_spread_0 : decode cX9_spread 0 = .ok (.aload_n 0, 1) := by decide +kernel
theorem dX9_spread_1 : decode cX9_spread 1 = .ok (.iload_n 1, 1) := by decide +kernel
theorem dX9_spread_2 : decode cX9_spread 2 = .ok (.invokevirtual 90, 3) := by decide +kernel
theorem dX9_spread_5 : decode cX9_spread 5 = .ok (.ifCond .eq 40, 3) := by decide +kernel
theorem dX9_spread_8 : decode cX9_spread 8 = .ok (.aload_n 0, 1) := by decide +kernel
theorem dX9_spread_9 : decode cX9_spread 9 = .ok (.iload_n 2, 1) := by decide +kernel
theorem dX9_spread_10 : decode cX9_spread 10 = .ok (.invokevirtual 90, 3) := by decide +kernel
theorem dX9_spread_13 : decode cX9_spread 13 = .ok (.ifCond .eq 32, 3) := by decide +kernel
theorem dX9_spread_16 : decode cX9_spread 16 = .ok (.iload_n 1, 1) := by decide +kernel
theorem dX9_spread_17 : decode cX9_spread 17 = .ok (.iload_n 2, 1) := by decide +kernel
theorem dX9_spread_18 : decode cX9_spread 18 = .ok (.if_icmp .ge 27, 3) := by decide +kernel
theorem dX9_spread_21 : decode cX9_spread 21 = .ok (.iload_n 3, 1) := by decide +kernel
theorem dX9_spread_22 : decode cX9_spread 22 = .ok (.i2l, 1) := by decide +kernel
theorem dX9_spread_23 : decode cX9_spread 23 = .ok (.ldc2_w 100, 3) := by decide +kernel
theorem dX9_spread_26 : decode cX9_spread 26 = .ok (.ldc2_w 102, 3) := by decide +kernel
theorem dX9_spread_29 : decode cX9_spread 29 = .ok (.invokestatic 82, 3) := by decide +kernel
theorem dX9_spread_32 : decode cX9_spread 32 = .ok (.ifCond .eq 13, 3) := by decide +kernel
theorem dX9_spread_35 : decode cX9_spread 35 = .ok (.aload_n 0, 1) := by decide +kernel
theorem dX9_spread_36 : decode cX9_spread 36 = .ok (.iload_n 1, 1) := by decide +kernel
theorem dX9_spread_37 : decode cX9_spread 37 = .ok (.iload_n 2, 1) := by decide +kernel
theorem dX9_spread_38 : decode cX9_spread 38 = .ok (.iload_n 3, 1) := by decide +kernel
theorem dX9_spread_39 : decode cX9_spread 39 = .ok (.invokevirtual 104, 3) := by decide +kernel
theorem dX9_spread_42 : decode cX9_spread 42 = .ok (.goto 4, 3) := by decide +kernel
theorem dX9_spread_45 : decode cX9_spread 45 = .ok (.iconst (-1), 1) := by decide +kernel
theorem dX9_spread_46 : decode cX9_spread 46 = .ok (.ireturn, 1) := by decide +kernel
theorem dX9_heavier_0 : decode cX9_heavier 0 = .ok (.aload_n 0, 1) := by decide +kernel
theorem dX9_heavier_1 : decode cX9_heavier 1 = .ok (.iload_n 1, 1) := by decide +kernel
theorem dX9_heavier_2 : decode cX9_heavier 2 = .ok (.invokevirtual 108, 3) := by decide +kernel
theorem dX9_heavier_5 : decode cX9_heavier 5 = .ok (.ifCond .eq 17, 3) := by decide +kernel
theorem dX9_heavier_8 : decode cX9_heavier 8 = .ok (.iload_n 2, 1) := by decide +kernel
theorem dX9_heavier_9 : decode cX9_heavier 9 = .ok (.i2l, 1) := by decide +kernel
theorem dX9_heavier_10 : decode cX9_heavier 10 = .ok (.ldc2_w 100, 3) := by decide +kernel
theorem dX9_heavier_13 : decode cX9_heavier 13 = .ok (.ldc2_w 102, 3) := by decide +kernel
theorem dX9_heavier_16 : decode cX9_heavier 16 = .ok (.invokestatic 82, 3) := by decide +kernel
theorem dX9_heavier_19 : decode cX9_heavier 19 = .ok (.ifCond .ne 5, 3) := by decide +kernel
theorem dX9_heavier_22 : decode cX9_heavier 22 = .ok (.iconst (-1), 1) := by decide +kernel
theorem dX9_heavier_23 : decode cX9_heavier 23 = .ok (.ireturn, 1) := by decide +kernel
theorem dX9_heavier_24 : decode cX9_heavier 24 = .ok (.aload_n 0, 1) := by decide +kernel
theorem dX9_heavier_25 : decode cX9_heavier 25 = .ok (.getfield 11, 3) := by decide +kernel
theorem dX9_heavier_28 : decode cX9_heavier 28 = .ok (.bipush 23, 2) := by decide +kernel
theorem dX9_heavier_30 : decode cX9_heavier 30 = .ok (.iload_n 1, 1) := by decide +kernel
theorem dX9_heavier_31 : decode cX9_heavier 31 = .ok (.iadd, 1) := by decide +kernel
theorem dX9_heavier_32 : decode cX9_heavier 32 = .ok (.iaload, 1) := by decide +kernel
theorem dX9_heavier_33 : decode cX9_heavier 33 = .ok (.istore_n 3, 1) := by decide +kernel
theorem dX9_heavier_34 : decode cX9_heavier 34 = .ok (.aload_n 0, 1) := by decide +kernel
theorem dX9_heavier_35 : decode cX9_heavier 35 = .ok (.invokevirtual 98, 3) := by decide +kernel
theorem dX9_heavier_38 : decode cX9_heavier 38 = .ok (.aload_n 0, 1) := by decide +kernel
theorem dX9_heavier_39 : decode cX9_heavier 39 = .ok (.getfield 11, 3) := by decide +kernel
theorem dX9_heavier_42 : decode cX9_heavier 42 = .ok (.bipush 23, 2) := by decide +kernel
theorem dX9_heavier_44 : decode cX9_heavier 44 = .ok (.iload_n 1, 1) := by decide +kernel
theorem dX9_heavier_45 : decode cX9_heavier 45 = .ok (.iadd, 1) := by decide +kernel
theorem dX9_heavier_46 : decode cX9_heavier 46 = .ok (.iload_n 2, 1) := by decide +kernel
theorem dX9_heavier_47 : decode cX9_heavier 47 = .ok (.iastore, 1) := by decide +kernel
theorem dX9_heavier_48 : decode cX9_heavier 48 = .ok (.iload_n 3, 1) := by decide +kernel
theorem dX9_heavier_49 : decode cX9_heavier 49 = .ok (.ireturn, 1) := by decide +kernel
theorem dX9_lift_0 : decode cX9_lift 0 = .ok (.aload_n 0, 1) := by decide +kernel
theorem dX9_lift_1 : decode cX9_lift 1 = .ok (.iload_n 1, 1) := by decide +kernel
theorem dX9_lift_2 : decode cX9_lift 2 = .ok (.invokevirtual 108, 3) := by decide +kernel
theorem dX9_lift_5 : decode cX9_lift 5 = .ok (.ifCond .ne 5, 3) := by decide +kernel
theorem dX9_lift_8 : decode cX9_lift 8 = .ok (.iconst (-1), 1) := by decide +kernel
theorem dX9_lift_9 : decode cX9_lift 9 = .ok (.ireturn, 1) := by decide +kernel
theorem dX9_lift_10 : decode cX9_lift 10 = .ok (.aload_n 0, 1) := by decide +kernel
theorem dX9_lift_11 : decode cX9_lift 11 = .ok (.invokevirtual 98, 3) := by decide +kernel
theorem dX9_lift_14 : decode cX9_lift 14 = .ok (.aload_n 0, 1) := by decide +kernel
theorem dX9_lift_15 : decode cX9_lift 15 = .ok (.getfield 11, 3) := by decide +kernel
theorem dX9_lift_18 : decode cX9_lift 18 = .ok (.bipush 10, 2) := by decide +kernel
theorem dX9_lift_20 : decode cX9_lift 20 = .ok (.dup2, 1) := by decide +kernel
theorem dX9_lift_21 : decode cX9_lift 21 = .ok (.iaload, 1) := by decide +kernel
theorem dX9_lift_22 : decode cX9_lift 22 = .ok (.iconst 1, 1) := by decide +kernel
theorem dX9_lift_23 : decode cX9_lift 23 = .ok (.isub, 1) := by decide +kernel
theorem dX9_lift_24 : decode cX9_lift 24 = .ok (.iastore, 1) := by decide +kernel
theorem dX9_lift_25 : decode cX9_lift 25 = .ok (.iload_n 1, 1) := by decide +kernel
theorem dX9_lift_26 : decode cX9_lift 26 = .ok (.istore_n 2, 1) := by decide +kernel
theorem dX9_lift_27 : decode cX9_lift 27 = .ok (.iload_n 2, 1) := by decide +kernel
theorem dX9_lift_28 : decode cX9_lift 28 = .ok (.aload_n 0, 1) := by decide +kernel
theorem dX9_lift_29 : decode cX9_lift 29 = .ok (.getfield 11, 3) := by decide +kernel
theorem dX9_lift_32 : decode cX9_lift 32 = .ok (.bipush 10, 2) := by decide +kernel
theorem dX9_lift_34 : decode cX9_lift 34 = .ok (.iaload, 1) := by decide +kernel
theorem dX9_lift_35 : decode cX9_lift 35 = .ok (.if_icmp .ge 69, 3) := by decide +kernel
theorem dX9_lift_38 : decode cX9_lift 38 = .ok (.aload_n 0, 1) := by decide +kernel
theorem dX9_lift_39 : decode cX9_lift 39 = .ok (.getfield 11, 3) := by decide +kernel
theorem dX9_lift_42 : decode cX9_lift 42 = .ok (.bipush 11, 2) := by decide +kernel
theorem dX9_lift_44 : decode cX9_lift 44 = .ok (.iload_n 2, 1) := by decide +kernel
theorem dX9_lift_45 : decode cX9_lift 45 = .ok (.iadd, 1) := by decide +kernel
theorem dX9_lift_46 : decode cX9_lift 46 = .ok (.aload_n 0, 1) := by decide +kernel
theorem dX9_lift_47 : decode cX9_lift 47 = .ok (.getfield 11, 3) := by decide +kernel
theorem dX9_lift_50 : decode cX9_lift 50 = .ok (.bipush 11, 2) := by decide +kernel
theorem dX9_lift_52 : decode cX9_lift 52 = .ok (.iload_n 2, 1) := by decide +kernel
theorem dX9_lift_53 : decode cX9_lift 53 = .ok (.iadd, 1) := by decide +kernel
theorem dX9_lift_54 : decode cX9_lift 54 = .ok (.iconst 1, 1) := by decide +kernel
theorem dX9_lift_55 : decode cX9_lift 55 = .ok (.iadd, 1) := by decide +kernel
theorem dX9_lift_56 : decode cX9_lift 56 = .ok (.iaload, 1) := by decide +kernel
theorem dX9_lift_57 : decode cX9_lift 57 = .ok (.iastore, 1) := by decide +kernel
theorem dX9_lift_58 : decode cX9_lift 58 = .ok (.aload_n 0, 1) := by decide +kernel
theorem dX9_lift_59 : decode cX9_lift 59 = .ok (.getfield 11, 3) := by decide +kernel
theorem dX9_lift_62 : decode cX9_lift 62 = .ok (.bipush 17, 2) := by decide +kernel
theorem dX9_lift_64 : decode cX9_lift 64 = .ok (.iload_n 2, 1) := by decide +kernel
theorem dX9_lift_65 : decode cX9_lift 65 = .ok (.iadd, 1) := by decide +kernel
theorem dX9_lift_66 : decode cX9_lift 66 = .ok (.aload_n 0, 1) := by decide +kernel
theorem dX9_lift_67 : decode cX9_lift 67 = .ok (.getfield 11, 3) := by decide +kernel
theorem dX9_lift_70 : decode cX9_lift 70 = .ok (.bipush 17, 2) := by decide +kernel
theorem dX9_lift_72 : decode cX9_lift 72 = .ok (.iload_n 2, 1) := by decide +kernel
theorem dX9_lift_73 : decode cX9_lift 73 = .ok (.iadd, 1) := by decide +kernel
theorem dX9_lift_74 : decode cX9_lift 74 = .ok (.iconst 1, 1) := by decide +kernel
theorem dX9_lift_75 : decode cX9_lift 75 = .ok (.iadd, 1) := by decide +kernel
theorem dX9_lift_76 : decode cX9_lift 76 = .ok (.iaload, 1) := by decide +kernel
theorem dX9_lift_77 : decode cX9_lift 77 = .ok (.iastore, 1) := by decide +kernel
theorem dX9_lift_78 : decode cX9_lift 78 = .ok (.aload_n 0, 1) := by decide +kernel
theorem dX9_lift_79 : decode cX9_lift 79 = .ok (.getfield 11, 3) := by decide +kernel
theorem dX9_lift_82 : decode cX9_lift 82 = .ok (.bipush 23, 2) := by decide +kernel
theorem dX9_lift_84 : decode cX9_lift 84 = .ok (.iload_n 2, 1) := by decide +kernel
theorem dX9_lift_85 : decode cX9_lift 85 = .ok (.iadd, 1) := by decide +kernel
theorem dX9_lift_86 : decode cX9_lift 86 = .ok (.aload_n 0, 1) := by decide +kernel
theorem dX9_lift_87 : decode cX9_lift 87 = .ok (.getfield 11, 3) := by decide +kernel
theorem dX9_lift_90 : decode cX9_lift 90 = .ok (.bipush 23, 2) := by decide +kernel
theorem dX9_lift_92 : decode cX9_lift 92 = .ok (.iload_n 2, 1) := by decide +kernel
theorem dX9_lift_93 : decode cX9_lift 93 = .ok (.iadd, 1) := by decide +kernel
theorem dX9_lift_94 : decode cX9_lift 94 = .ok (.iconst 1, 1) := by decide +kernel
theorem dX9_lift_95 : decode cX9_lift 95 = .ok (.iadd, 1) := by decide +kernel
theorem dX9_lift_96 : decode cX9_lift 96 = .ok (.iaload, 1) := by decide +kernel
theorem dX9_lift_97 : decode cX9_lift 97 = .ok (.iastore, 1) := by decide +kernel
theorem dX9_lift_98 : decode cX9_lift 98 = .ok (.iinc 2 1, 3) := by decide +kernel
theorem dX9_lift_101 : decode cX9_lift 101 = .ok (.goto (-74), 3) := by decide +kernel
theorem dX9_lift_104 : decode cX9_lift 104 = .ok (.aload_n 0, 1) := by decide +kernel
theorem dX9_lift_105 : decode cX9_lift 105 = .ok (.getfield 11, 3) := by decide +kernel
theorem dX9_lift_108 : decode cX9_lift 108 = .ok (.bipush 10, 2) := by decide +kernel
theorem dX9_lift_110 : decode cX9_lift 110 = .ok (.iaload, 1) := by decide +kernel
theorem dX9_lift_111 : decode cX9_lift 111 = .ok (.ireturn, 1) := by decide +kernel
theorem dX9_axle_0 : decode cX9_axle 0 = .ok (.iload_n 1, 1) := by decide +kernel
theorem dX9_axle_1 : decode cX9_axle 1 = .ok (.i2l, 1) := by decide +kernel
theorem dX9_axle_2 : decode cX9_axle 2 = .ok (.lconst 0, 1) := by decide +kernel
theorem dX9_axle_3 : decode cX9_axle 3 = .ok (.ldc2_w 102, 3) := by decide +kernel
theorem dX9_axle_6 : decode cX9_axle 6 = .ok (.invokestatic 82, 3) := by decide +kernel
theorem dX9_axle_9 : decode cX9_axle 9 = .ok (.ifCond .eq 15, 3) := by decide +kernel
theorem dX9_axle_12 : decode cX9_axle 12 = .ok (.iload_n 2, 1) := by decide +kernel
theorem dX9_axle_13 : decode cX9_axle 13 = .ok (.i2l, 1) := by decide +kernel
theorem dX9_axle_14 : decode cX9_axle 14 = .ok (.lconst 1, 1) := by decide +kernel
theorem dX9_axle_15 : decode cX9_axle 15 = .ok (.ldc2_w 102, 3) := by decide +kernel
theorem dX9_axle_18 : decode cX9_axle 18 = .ok (.invokestatic 82, 3) := by decide +kernel
theorem dX9_axle_21 : decode cX9_axle 21 = .ok (.ifCond .ne 5, 3) := by decide +kernel
theorem dX9_axle_24 : decode cX9_axle 24 = .ok (.iconst (-1), 1) := by decide +kernel
theorem dX9_axle_25 : decode cX9_axle 25 = .ok (.ireturn, 1) := by decide +kernel
theorem dX9_axle_26 : decode cX9_axle 26 = .ok (.aload_n 0, 1) := by decide +kernel
theorem dX9_axle_27 : decode cX9_axle 27 = .ok (.getfield 11, 3) := by decide +kernel
theorem dX9_axle_30 : decode cX9_axle 30 = .ok (.bipush 29, 2) := by decide +kernel
theorem dX9_axle_32 : decode cX9_axle 32 = .ok (.iaload, 1) := by decide +kernel
theorem dX9_axle_33 : decode cX9_axle 33 = .ok (.iconst 3, 1) := by decide +kernel
theorem dX9_axle_34 : decode cX9_axle 34 = .ok (.if_icmp .ne 6, 3) := by decide +kernel
theorem dX9_axle_37 : decode cX9_axle 37 = .ok (.bipush (-3), 2) := by decide +kernel
theorem dX9_axle_39 : decode cX9_axle 39 = .ok (.ireturn, 1) := by decide +kernel
theorem dX9_axle_40 : decode cX9_axle 40 = .ok (.aload_n 0, 1) := by decide +kernel
theorem dX9_axle_41 : decode cX9_axle 41 = .ok (.invokevirtual 98, 3) := by decide +kernel
theorem dX9_axle_44 : decode cX9_axle 44 = .ok (.aload_n 0, 1) := by decide +kernel
theorem dX9_axle_45 : decode cX9_axle 45 = .ok (.getfield 11, 3) := by decide +kernel
theorem dX9_axle_48 : decode cX9_axle 48 = .ok (.bipush 30, 2) := by decide +kernel
theorem dX9_axle_50 : decode cX9_axle 50 = .ok (.aload_n 0, 1) := by decide +kernel
theorem dX9_axle_51 : decode cX9_axle 51 = .ok (.getfield 11, 3) := by decide +kernel
theorem dX9_axle_54 : decode cX9_axle 54 = .ok (.bipush 29, 2) := by decide +kernel
theorem dX9_axle_56 : decode cX9_axle 56 = .ok (.iaload, 1) := by decide +kernel
theorem dX9_axle_57 : decode cX9_axle 57 = .ok (.iadd, 1) := by decide +kernel
theorem dX9_axle_58 : decode cX9_axle 58 = .ok (.iload_n 1, 1) := by decide +kernel
theorem dX9_axle_59 : decode cX9_axle 59 = .ok (.iastore, 1) := by decide +kernel
theorem dX9_axle_60 : decode cX9_axle 60 = .ok (.aload_n 0, 1) := by decide +kernel
theorem dX9_axle_61 : decode cX9_axle 61 = .ok (.getfield 11, 3) := by decide +kernel
theorem dX9_axle_64 : decode cX9_axle 64 = .ok (.bipush 33, 2) := by decide +kernel
theorem dX9_axle_66 : decode cX9_axle 66 = .ok (.aload_n 0, 1) := by decide +kernel
theorem dX9_axle_67 : decode cX9_axle 67 = .ok (.getfield 11, 3) := by decide +kernel
theorem dX9_axle_70 : decode cX9_axle 70 = .ok (.bipush 29, 2) := by decide +kernel
theorem dX9_axle_72 : decode cX9_axle 72 = .ok (.iaload, 1) := by decide +kernel
theorem dX9_axle_73 : decode cX9_axle 73 = .ok (.iadd, 1) := by decide +kernel
theorem dX9_axle_74 : decode cX9_axle 74 = .ok (.iload_n 2, 1) := by decide +kernel
theorem dX9_axle_75 : decode cX9_axle 75 = .ok (.iastore, 1) := by decide +kernel
theorem dX9_axle_76 : decode cX9_axle 76 = .ok (.aload_n 0, 1) := by decide +kernel
theorem dX9_axle_77 : decode cX9_axle 77 = .ok (.getfield 11, 3) := by decide +kernel
theorem dX9_axle_80 : decode cX9_axle 80 = .ok (.bipush 29, 2) := by decide +kernel
theorem dX9_axle_82 : decode cX9_axle 82 = .ok (.dup2, 1) := by decide +kernel
theorem dX9_axle_83 : decode cX9_axle 83 = .ok (.iaload, 1) := by decide +kernel
theorem dX9_axle_84 : decode cX9_axle 84 = .ok (.iconst 1, 1) := by decide +kernel
theorem dX9_axle_85 : decode cX9_axle 85 = .ok (.iadd, 1) := by decide +kernel
theorem dX9_axle_86 : decode cX9_axle 86 = .ok (.iastore, 1) := by decide +kernel
theorem dX9_axle_87 : decode cX9_axle 87 = .ok (.aload_n 0, 1) := by decide +kernel
theorem dX9_axle_88 : decode cX9_axle 88 = .ok (.getfield 11, 3) := by decide +kernel
theorem dX9_axle_91 : decode cX9_axle 91 = .ok (.bipush 29, 2) := by decide +kernel
theorem dX9_axle_93 : decode cX9_axle 93 = .ok (.iaload, 1) := by decide +kernel
theorem dX9_axle_94 : decode cX9_axle 94 = .ok (.ireturn, 1) := by decide +kernel
theorem dX9_unhitch_0 : decode cX9_unhitch 0 = .ok (.aload_n 0, 1) := by decide +kernel
theorem dX9_unhitch_1 : decode cX9_unhitch 1 = .ok (.getfield 11, 3) := by decide +kernel
theorem dX9_unhitch_4 : decode cX9_unhitch 4 = .ok (.bipush 29, 2) := by decide +kernel
theorem dX9_unhitch_6 : decode cX9_unhitch 6 = .ok (.iaload, 1) := by decide +kernel
theorem dX9_unhitch_7 : decode cX9_unhitch 7 = .ok (.istore_n 1, 1) := by decide +kernel
theorem dX9_unhitch_8 : decode cX9_unhitch 8 = .ok (.aload_n 0, 1) := by decide +kernel
theorem dX9_unhitch_9 : decode cX9_unhitch 9 = .ok (.invokevirtual 98, 3) := by decide +kernel
theorem dX9_unhitch_12 : decode cX9_unhitch 12 = .ok (.aload_n 0, 1) := by decide +kernel
theorem dX9_unhitch_13 : decode cX9_unhitch 13 = .ok (.getfield 11, 3) := by decide +kernel
theorem dX9_unhitch_16 : decode cX9_unhitch 16 = .ok (.bipush 29, 2) := by decide +kernel
theorem dX9_unhitch_18 : decode cX9_unhitch 18 = .ok (.iconst 0, 1) := by decide +kernel
theorem dX9_unhitch_19 : decode cX9_unhitch 19 = .ok (.iastore, 1) := by decide +kernel
theorem dX9_unhitch_20 : decode cX9_unhitch 20 = .ok (.iload_n 1, 1) := by decide +kernel
theorem dX9_unhitch_21 : decode cX9_unhitch 21 = .ok (.ireturn, 1) := by decide +kernel
theorem dX9_loadOf_0 : decode cX9_loadOf 0 = .ok (.aload_n 0, 1) := by decide +kernel
theorem dX9_loadOf_1 : decode cX9_loadOf 1 = .ok (.iload_n 1, 1) := by decide +kernel
theorem dX9_loadOf_2 : decode cX9_loadOf 2 = .ok (.invokevirtual 108, 3) := by decide +kernel
theorem dX9_loadOf_5 : decode cX9_loadOf 5 = .ok (.ifCond .eq 15, 3) := by decide +kernel
theorem dX9_loadOf_8 : decode cX9_loadOf 8 = .ok (.iload_n 2, 1) := by decide +kernel
theorem dX9_loadOf_9 : decode cX9_loadOf 9 = .ok (.i2l, 1) := by decide +kernel
theorem dX9_loadOf_10 : decode cX9_loadOf 10 = .ok (.lconst 0, 1) := by decide +kernel
theorem dX9_loadOf_11 : decode cX9_loadOf 11 = .ok (.ldc2_w 111, 3) := by decide +kernel
theorem dX9_loadOf_14 : decode cX9_loadOf 14 = .ok (.invokestatic 82, 3) := by decide +kernel
theorem dX9_loadOf_17 : decode cX9_loadOf 17 = .ok (.ifCond .ne 5, 3) := by decide +kernel
theorem dX9_loadOf_20 : decode cX9_loadOf 20 = .ok (.iconst (-1), 1) := by decide +kernel
theorem dX9_loadOf_21 : decode cX9_loadOf 21 = .ok (.ireturn, 1) := by decide +kernel
theorem dX9_loadOf_22 : decode cX9_loadOf 22 = .ok (.aload_n 0, 1) := by decide +kernel
theorem dX9_loadOf_23 : decode cX9_loadOf 23 = .ok (.getfield 11, 3) := by decide +kernel
theorem dX9_loadOf_26 : decode cX9_loadOf 26 = .ok (.bipush 11, 2) := by decide +kernel
theorem dX9_loadOf_28 : decode cX9_loadOf 28 = .ok (.iload_n 1, 1) := by decide +kernel
theorem dX9_loadOf_29 : decode cX9_loadOf 29 = .ok (.iadd, 1) := by decide +kernel
theorem dX9_loadOf_30 : decode cX9_loadOf 30 = .ok (.iaload, 1) := by decide +kernel
theorem dX9_loadOf_31 : decode cX9_loadOf 31 = .ok (.istore_n 3, 1) := by decide +kernel
theorem dX9_loadOf_32 : decode cX9_loadOf 32 = .ok (.aload_n 0, 1) := by decide +kernel
theorem dX9_loadOf_33 : decode cX9_loadOf 33 = .ok (.getfield 11, 3) := by decide +kernel
theorem dX9_loadOf_36 : decode cX9_loadOf 36 = .ok (.bipush 17, 2) := by decide +kernel
theorem dX9_loadOf_38 : decode cX9_loadOf 38 = .ok (.iload_n 1, 1) := by decide +kernel
theorem dX9_loadOf_39 : decode cX9_loadOf 39 = .ok (.iadd, 1) := by decide +kernel
theorem dX9_loadOf_40 : decode cX9_loadOf 40 = .ok (.iaload, 1) := by decide +kernel
theorem dX9_loadOf_41 : decode cX9_loadOf 41 = .ok (.istore 4, 2) := by decide +kernel
theorem dX9_loadOf_43 : decode cX9_loadOf 43 = .ok (.iload_n 2, 1) := by decide +kernel
theorem dX9_loadOf_44 : decode cX9_loadOf 44 = .ok (.ifCond .ne 7, 3) := by decide +kernel
theorem dX9_loadOf_47 : decode cX9_loadOf 47 = .ok (.iload_n 3, 1) := by decide +kernel
theorem dX9_loadOf_48 : decode cX9_loadOf 48 = .ok (.goto 41, 3) := by decide +kernel
theorem dX9_loadOf_51 : decode cX9_loadOf 51 = .ok (.iload_n 2, 1) := by decide +kernel
theorem dX9_loadOf_52 : decode cX9_loadOf 52 = .ok (.iconst 1, 1) := by decide +kernel
theorem dX9_loadOf_53 : decode cX9_loadOf 53 = .ok (.if_icmp .ne 8, 3) := by decide +kernel
theorem dX9_loadOf_56 : decode cX9_loadOf 56 = .ok (.iload 4, 2) := by decide +kernel
theorem dX9_loadOf_58 : decode cX9_loadOf 58 = .ok (.goto 31, 3) := by decide +kernel
theorem dX9_loadOf_61 : decode cX9_loadOf 61 = .ok (.iload_n 2, 1) := by decide +kernel
theorem dX9_loadOf_62 : decode cX9_loadOf 62 = .ok (.iconst 2, 1) := by decide +kernel
theorem dX9_loadOf_63 : decode cX9_loadOf 63 = .ok (.if_icmp .ne 15, 3) := by decide +kernel
theorem dX9_loadOf_66 : decode cX9_loadOf 66 = .ok (.aload_n 0, 1) := by decide +kernel
theorem dX9_loadOf_67 : decode cX9_loadOf 67 = .ok (.getfield 11, 3) := by decide +kernel
theorem dX9_loadOf_70 : decode cX9_loadOf 70 = .ok (.bipush 23, 2) := by decide +kernel
theorem dX9_loadOf_72 : decode cX9_loadOf 72 = .ok (.iload_n 1, 1) := by decide +kernel
theorem dX9_loadOf_73 : decode cX9_loadOf 73 = .ok (.iadd, 1) := by decide +kernel
theorem dX9_loadOf_74 : decode cX9_loadOf 74 = .ok (.iaload, 1) := by decide +kernel
theorem dX9_loadOf_75 : decode cX9_loadOf 75 = .ok (.goto 14, 3) := by decide +kernel
theorem dX9_loadOf_78 : decode cX9_loadOf 78 = .ok (.iload_n 3, 1) := by decide +kernel
theorem dX9_loadOf_79 : decode cX9_loadOf 79 = .ok (.iload 4, 2) := by decide +kernel
theorem dX9_loadOf_81 : decode cX9_loadOf 81 = .ok (.if_icmp .ne 7, 3) := by decide +kernel
theorem dX9_loadOf_84 : decode cX9_loadOf 84 = .ok (.iconst 1, 1) := by decide +kernel
theorem dX9_loadOf_85 : decode cX9_loadOf 85 = .ok (.goto 4, 3) := by decide +kernel
theorem dX9_loadOf_88 : decode cX9_loadOf 88 = .ok (.iconst 0, 1) := by decide +kernel
theorem dX9_loadOf_89 : decode cX9_loadOf 89 = .ok (.ireturn, 1) := by decide +kernel
theorem dX9_supportOf_0 : decode cX9_supportOf 0 = .ok (.aload_n 0, 1) := by decide +kernel
theorem dX9_supportOf_1 : decode cX9_supportOf 1 = .ok (.iload_n 1, 1) := by decide +kernel
theorem dX9_supportOf_2 : decode cX9_supportOf 2 = .ok (.invokevirtual 113, 3) := by decide +kernel
theorem dX9_supportOf_5 : decode cX9_supportOf 5 = .ok (.ifCond .eq 13, 3) := by decide +kernel
theorem dX9_supportOf_8 : decode cX9_supportOf 8 = .ok (.iload_n 2, 1) := by decide +kernel
theorem dX9_supportOf_9 : decode cX9_supportOf 9 = .ok (.i2l, 1) := by decide +kernel
theorem dX9_supportOf_10 : decode cX9_supportOf 10 = .ok (.lconst 0, 1) := by decide +kernel
theorem dX9_supportOf_11 : decode cX9_supportOf 11 = .ok (.lconst 1, 1) := by decide +kernel
theorem dX9_supportOf_12 : decode cX9_supportOf 12 = .ok (.invokestatic 82, 3) := by decide +kernel
theorem dX9_supportOf_15 : decode cX9_supportOf 15 = .ok (.ifCond .ne 5, 3) := by decide +kernel
theorem dX9_supportOf_18 : decode cX9_supportOf 18 = .ok (.iconst (-1), 1) := by decide +kernel
theorem dX9_supportOf_19 : decode cX9_supportOf 19 = .ok (.ireturn, 1) := by decide +kernel
theorem dX9_supportOf_20 : decode cX9_supportOf 20 = .ok (.iload_n 2, 1) := by decide +kernel
theorem dX9_supportOf_21 : decode cX9_supportOf 21 = .ok (.ifCond .ne 14, 3) := by decide +kernel
theorem dX9_supportOf_24 : decode cX9_supportOf 24 = .ok (.aload_n 0, 1) := by decide +kernel
theorem dX9_supportOf_25 : decode cX9_supportOf 25 = .ok (.getfield 11, 3) := by decide +kernel
theorem dX9_supportOf_28 : decode cX9_supportOf 28 = .ok (.iconst 2, 1) := by decide +kernel
theorem dX9_supportOf_29 : decode cX9_supportOf 29 = .ok (.iload_n 1, 1) := by decide +kernel
theorem dX9_supportOf_30 : decode cX9_supportOf 30 = .ok (.iadd, 1) := by decide +kernel
theorem dX9_supportOf_31 : decode cX9_supportOf 31 = .ok (.iaload, 1) := by decide +kernel
theorem dX9_supportOf_32 : decode cX9_supportOf 32 = .ok (.goto 12, 3) := by decide +kernel
theorem dX9_supportOf_35 : decode cX9_supportOf 35 = .ok (.aload_n 0, 1) := by decide +kernel
theorem dX9_supportOf_36 : decode cX9_supportOf 36 = .ok (.getfield 11, 3) := by decide +kernel
theorem dX9_supportOf_39 : decode cX9_supportOf 39 = .ok (.bipush 6, 2) := by decide +kernel
theorem dX9_supportOf_41 : decode cX9_supportOf 41 = .ok (.iload_n 1, 1) := by decide +kernel
theorem dX9_supportOf_42 : decode cX9_supportOf 42 = .ok (.iadd, 1) := by decide +kernel
theorem dX9_supportOf_43 : decode cX9_supportOf 43 = .ok (.iaload, 1) := by decide +kernel
theorem dX9_supportOf_44 : decode cX9_supportOf 44 = .ok (.ireturn, 1) := by decide +kernel
theorem dX9_count_0 : decode cX9_count 0 = .ok (.iload_n 1, 1) := by decide +kernel
theorem dX9_count_1 : decode cX9_count 1 = .ok (.tableswitch 97 0 7 #[47, 54, 61, 69, 77, 82, 87, 92], 47) := by decide +kernel
theorem dX9_count_48 : decode cX9_count 48 = .ok (.aload_n 0, 1) := by decide +kernel
theorem dX9_count_49 : decode cX9_count 49 = .ok (.getfield 11, 3) := by decide +kernel
theorem dX9_count_52 : decode cX9_count 52 = .ok (.iconst 0, 1) := by decide +kernel
theorem dX9_count_53 : decode cX9_count 53 = .ok (.iaload, 1) := by decide +kernel
theorem dX9_count_54 : decode cX9_count 54 = .ok (.ireturn, 1) := by decide +kernel
theorem dX9_count_55 : decode cX9_count 55 = .ok (.aload_n 0, 1) := by decide +kernel
theorem dX9_count_56 : decode cX9_count 56 = .ok (.getfield 11, 3) := by decide +kernel
theorem dX9_count_59 : decode cX9_count 59 = .ok (.iconst 1, 1) := by decide +kernel
theorem dX9_count_60 : decode cX9_count 60 = .ok (.iaload, 1) := by decide +kernel
theorem dX9_count_61 : decode cX9_count 61 = .ok (.ireturn, 1) := by decide +kernel
theorem dX9_count_62 : decode cX9_count 62 = .ok (.aload_n 0, 1) := by decide +kernel
theorem dX9_count_63 : decode cX9_count 63 = .ok (.getfield 11, 3) := by decide +kernel
theorem dX9_count_66 : decode cX9_count 66 = .ok (.bipush 10, 2) := by decide +kernel
theorem dX9_count_68 : decode cX9_count 68 = .ok (.iaload, 1) := by decide +kernel
theorem dX9_count_69 : decode cX9_count 69 = .ok (.ireturn, 1) := by decide +kernel
theorem dX9_count_70 : decode cX9_count 70 = .ok (.aload_n 0, 1) := by decide +kernel
theorem dX9_count_71 : decode cX9_count 71 = .ok (.getfield 11, 3) := by decide +kernel
theorem dX9_count_74 : decode cX9_count 74 = .ok (.bipush 29, 2) := by decide +kernel
theorem dX9_count_76 : decode cX9_count 76 = .ok (.iaload, 1) := by decide +kernel
theorem dX9_count_77 : decode cX9_count 77 = .ok (.ireturn, 1) := by decide +kernel
theorem dX9_count_78 : decode cX9_count 78 = .ok (.aload_n 0, 1) := by decide +kernel
theorem dX9_count_79 : decode cX9_count 79 = .ok (.getfield 78, 3) := by decide +kernel
theorem dX9_count_82 : decode cX9_count 82 = .ok (.ireturn, 1) := by decide +kernel
theorem dX9_count_83 : decode cX9_count 83 = .ok (.aload_n 0, 1) := by decide +kernel
theorem dX9_count_84 : decode cX9_count 84 = .ok (.getfield 116, 3) := by decide +kernel
theorem dX9_count_87 : decode cX9_count 87 = .ok (.ireturn, 1) := by decide +kernel
theorem dX9_count_88 : decode cX9_count 88 = .ok (.aload_n 0, 1) := by decide +kernel
theorem dX9_count_89 : decode cX9_count 89 = .ok (.getfield 119, 3) := by decide +kernel
theorem dX9_count_92 : decode cX9_count 92 = .ok (.ireturn, 1) := by decide +kernel
theorem dX9_count_93 : decode cX9_count 93 = .ok (.aload_n 0, 1) := by decide +kernel
theorem dX9_count_94 : decode cX9_count 94 = .ok (.invokevirtual 122, 3) := by decide +kernel
theorem dX9_count_97 : decode cX9_count 97 = .ok (.ireturn, 1) := by decide +kernel
theorem dX9_count_98 : decode cX9_count 98 = .ok (.iconst (-1), 1) := by decide +kernel
theorem dX9_count_99 : decode cX9_count 99 = .ok (.ireturn, 1) := by decide +kernel
theorem dX9_allLoads_0 : decode cX9_allLoads 0 = .ok (.iconst 0, 1) := by decide +kernel
theorem dX9_allLoads_1 : decode cX9_allLoads 1 = .ok (.istore_n 1, 1) := by decide +kernel
theorem dX9_allLoads_2 : decode cX9_allLoads 2 = .ok (.iconst 0, 1) := by decide +kernel
theorem dX9_allLoads_3 : decode cX9_allLoads 3 = .ok (.istore_n 2, 1) := by decide +kernel
theorem dX9_allLoads_4 : decode cX9_allLoads 4 = .ok (.iload_n 2, 1) := by decide +kernel
theorem dX9_allLoads_5 : decode cX9_allLoads 5 = .ok (.aload_n 0, 1) := by decide +kernel
theorem dX9_allLoads_6 : decode cX9_allLoads 6 = .ok (.getfield 11, 3) := by decide +kernel
theorem dX9_allLoads_9 : decode cX9_allLoads 9 = .ok (.bipush 10, 2) := by decide +kernel
theorem dX9_allLoads_11 : decode cX9_allLoads 11 = .ok (.iaload, 1) := by decide +kernel
theorem dX9_allLoads_12 : decode cX9_allLoads 12 = .ok (.if_icmp .ge 51, 3) := by decide +kernel
theorem dX9_allLoads_15 : decode cX9_allLoads 15 = .ok (.aload_n 0, 1) := by decide +kernel
theorem dX9_allLoads_16 : decode cX9_allLoads 16 = .ok (.getfield 11, 3) := by decide +kernel
theorem dX9_allLoads_19 : decode cX9_allLoads 19 = .ok (.bipush 17, 2) := by decide +kernel
theorem dX9_allLoads_21 : decode cX9_allLoads 21 = .ok (.iload_n 2, 1) := by decide +kernel
theorem dX9_allLoads_22 : decode cX9_allLoads 22 = .ok (.iadd, 1) := by decide +kernel
theorem dX9_allLoads_23 : decode cX9_allLoads 23 = .ok (.iaload, 1) := by decide +kernel
theorem dX9_allLoads_24 : decode cX9_allLoads 24 = .ok (.aload_n 0, 1) := by decide +kernel
theorem dX9_allLoads_25 : decode cX9_allLoads 25 = .ok (.getfield 11, 3) := by decide +kernel
theorem dX9_allLoads_28 : decode cX9_allLoads 28 = .ok (.bipush 11, 2) := by decide +kernel
theorem dX9_allLoads_30 : decode cX9_allLoads 30 = .ok (.iload_n 2, 1) := by decide +kernel
theorem dX9_allLoads_31 : decode cX9_allLoads 31 = .ok (.iadd, 1) := by decide +kernel
theorem dX9_allLoads_32 : decode cX9_allLoads 32 = .ok (.iaload, 1) := by decide +kernel
theorem dX9_allLoads_33 : decode cX9_allLoads 33 = .ok (.isub, 1) := by decide +kernel
theorem dX9_allLoads_34 : decode cX9_allLoads 34 = .ok (.istore_n 3, 1) := by decide +kernel
theorem dX9_allLoads_35 : decode cX9_allLoads 35 = .ok (.iload_n 1, 1) := by decide +kernel
theorem dX9_allLoads_36 : decode cX9_allLoads 36 = .ok (.aload_n 0, 1) := by decide +kernel
theorem dX9_allLoads_37 : decode cX9_allLoads 37 = .ok (.getfield 11, 3) := by decide +kernel
theorem dX9_allLoads_40 : decode cX9_allLoads 40 = .ok (.bipush 23, 2) := by decide +kernel
theorem dX9_allLoads_42 : decode cX9_allLoads 42 = .ok (.iload_n 2, 1) := by decide +kernel
theorem dX9_allLoads_43 : decode cX9_allLoads 43 = .ok (.iadd, 1) := by decide +kernel
theorem dX9_allLoads_44 : decode cX9_allLoads 44 = .ok (.iaload, 1) := by decide +kernel
theorem dX9_allLoads_45 : decode cX9_allLoads 45 = .ok (.iload_n 3, 1) := by decide +kernel
theorem dX9_allLoads_46 : decode cX9_allLoads 46 = .ok (.ifCond .ne 7, 3) := by decide +kernel
theorem dX9_allLoads_49 : decode cX9_allLoads 49 = .ok (.iconst 1, 1) := by decide +kernel
theorem dX9_allLoads_50 : decode cX9_allLoads 50 = .ok (.goto 4, 3) := by decide +kernel
theorem dX9_allLoads_53 : decode cX9_allLoads 53 = .ok (.iload_n 3, 1) := by decide +kernel
theorem dX9_allLoads_54 : decode cX9_allLoads 54 = .ok (.imul, 1) := by decide +kernel
theorem dX9_allLoads_55 : decode cX9_allLoads 55 = .ok (.iadd, 1) := by decide +kernel
theorem dX9_allLoads_56 : decode cX9_allLoads 56 = .ok (.istore_n 1, 1) := by decide +kernel
theorem dX9_allLoads_57 : decode cX9_allLoads 57 = .ok (.iinc 2 1, 3) := by decide +kernel
theorem dX9_allLoads_60 : decode cX9_allLoads 60 = .ok (.goto (-56), 3) := by decide +kernel
theorem dX9_allLoads_63 : decode cX9_allLoads 63 = .ok (.iload_n 1, 1) := by decide +kernel
theorem dX9_allLoads_64 : decode cX9_allLoads 64 = .ok (.ireturn, 1) := by decide +kernel
theorem dX9_divisor_0 : decode cX9_divisor 0 = .ok (.lload_n 0, 1) := by decide +kernel
theorem dX9_divisor_1 : decode cX9_divisor 1 = .ok (.lconst 0, 1) := by decide +kernel
theorem dX9_divisor_2 : decode cX9_divisor 2 = .ok (.lcmp, 1) := by decide +kernel
theorem dX9_divisor_3 : decode cX9_divisor 3 = .ok (.ifCond .ge 8, 3) := by decide +kernel
theorem dX9_divisor_6 : decode cX9_divisor 6 = .ok (.lload_n 0, 1) := by decide +kernel
theorem dX9_divisor_7 : decode cX9_divisor 7 = .ok (.lneg, 1) := by decide +kernel
theorem dX9_divisor_8 : decode cX9_divisor 8 = .ok (.goto 4, 3) := by decide +kernel
theorem dX9_divisor_11 : decode cX9_divisor 11 = .ok (.lload_n 0, 1) := by decide +kernel
theorem dX9_divisor_12 : decode cX9_divisor 12 = .ok (.lstore 4, 2) := by decide +kernel
theorem dX9_divisor_14 : decode cX9_divisor 14 = .ok (.lload_n 2, 1) := by decide +kernel
theorem dX9_divisor_15 : decode cX9_divisor 15 = .ok (.lstore 6, 2) := by decide +kernel
theorem dX9_divisor_17 : decode cX9_divisor 17 = .ok (.lload 6, 2) := by decide +kernel
theorem dX9_divisor_19 : decode cX9_divisor 19 = .ok (.lconst 0, 1) := by decide +kernel
theorem dX9_divisor_20 : decode cX9_divisor 20 = .ok (.lcmp, 1) := by decide +kernel
theorem dX9_divisor_21 : decode cX9_divisor 21 = .ok (.ifCond .eq 21, 3) := by decide +kernel
theorem dX9_divisor_24 : decode cX9_divisor 24 = .ok (.lload 4, 2) := by decide +kernel
theorem dX9_divisor_26 : decode cX9_divisor 26 = .ok (.lload 6, 2) := by decide +kernel
theorem dX9_divisor_28 : decode cX9_divisor 28 = .ok (.lrem, 1) := by decide +kernel
theorem dX9_divisor_29 : decode cX9_divisor 29 = .ok (.lstore 8, 2) := by decide +kernel
theorem dX9_divisor_31 : decode cX9_divisor 31 = .ok (.lload 6, 2) := by decide +kernel
theorem dX9_divisor_33 : decode cX9_divisor 33 = .ok (.lstore 4, 2) := by decide +kernel
theorem dX9_divisor_35 : decode cX9_divisor 35 = .ok (.lload 8, 2) := by decide +kernel
theorem dX9_divisor_37 : decode cX9_divisor 37 = .ok (.lstore 6, 2) := by decide +kernel
theorem dX9_divisor_39 : decode cX9_divisor 39 = .ok (.goto (-22), 3) := by decide +kernel
theorem dX9_divisor_42 : decode cX9_divisor 42 = .ok (.lload 4, 2) := by decide +kernel
theorem dX9_divisor_44 : decode cX9_divisor 44 = .ok (.lreturn, 1) := by decide +kernel
theorem dX9_is_0 : decode cX9_is 0 = .ok (.lload_n 1, 1) := by decide +kernel
theorem dX9_is_1 : decode cX9_is 1 = .ok (.lload_n 3, 1) := by decide +kernel
theorem dX9_is_2 : decode cX9_is 2 = .ok (.invokestatic 126, 3) := by decide +kernel
theorem dX9_is_5 : decode cX9_is 5 = .ok (.lstore 5, 2) := by decide +kernel
theorem dX9_is_7 : decode cX9_is 7 = .ok (.aload_n 0, 1) := by decide +kernel
theorem dX9_is_8 : decode cX9_is 8 = .ok (.lload_n 1, 1) := by decide +kernel
theorem dX9_is_9 : decode cX9_is 9 = .ok (.lload 5, 2) := by decide +kernel
theorem dX9_is_11 : decode cX9_is 11 = .ok (.ldiv, 1) := by decide +kernel
theorem dX9_is_12 : decode cX9_is 12 = .ok (.putfield 130, 3) := by decide +kernel
theorem dX9_is_15 : decode cX9_is 15 = .ok (.aload_n 0, 1) := by decide +kernel
theorem dX9_is_16 : decode cX9_is 16 = .ok (.lload_n 3, 1) := by decide +kernel
theorem dX9_is_17 : decode cX9_is 17 = .ok (.lload 5, 2) := by decide +kernel
theorem dX9_is_19 : decode cX9_is 19 = .ok (.ldiv, 1) := by decide +kernel
theorem dX9_is_20 : decode cX9_is 20 = .ok (.putfield 21, 3) := by decide +kernel
theorem dX9_is_23 : decode cX9_is 23 = .ok (.return_, 1) := by decide +kernel
theorem dX9_plus_0 : decode cX9_plus 0 = .ok (.aload_n 0, 1) := by decide +kernel
theorem dX9_plus_1 : decode cX9_plus 1 = .ok (.getfield 21, 3) := by decide +kernel
theorem dX9_plus_4 : decode cX9_plus 4 = .ok (.lload_n 3, 1) := by decide +kernel
theorem dX9_plus_5 : decode cX9_plus 5 = .ok (.invokestatic 126, 3) := by decide +kernel
theorem dX9_plus_8 : decode cX9_plus 8 = .ok (.lstore 5, 2) := by decide +kernel
theorem dX9_plus_10 : decode cX9_plus 10 = .ok (.aload_n 0, 1) := by decide +kernel
theorem dX9_plus_11 : decode cX9_plus 11 = .ok (.aload_n 0, 1) := by decide +kernel
theorem dX9_plus_12 : decode cX9_plus 12 = .ok (.getfield 130, 3) := by decide +kernel
theorem dX9_plus_15 : decode cX9_plus 15 = .ok (.lload_n 3, 1) := by decide +kernel
theorem dX9_plus_16 : decode cX9_plus 16 = .ok (.lload 5, 2) := by decide +kernel
theorem dX9_plus_18 : decode cX9_plus 18 = .ok (.ldiv, 1) := by decide +kernel
theorem dX9_plus_19 : decode cX9_plus 19 = .ok (.lmul, 1) := by decide +kernel
theorem dX9_plus_20 : decode cX9_plus 20 = .ok (.lload_n 1, 1) := by decide +kernel
theorem dX9_plus_21 : decode cX9_plus 21 = .ok (.aload_n 0, 1) := by decide +kernel
theorem dX9_plus_22 : decode cX9_plus 22 = .ok (.getfield 21, 3) := by decide +kernel
theorem dX9_plus_25 : decode cX9_plus 25 = .ok (.lload 5, 2) := by decide +kernel
theorem dX9_plus_27 : decode cX9_plus 27 = .ok (.ldiv, 1) := by decide +kernel
theorem dX9_plus_28 : decode cX9_plus 28 = .ok (.lmul, 1) := by decide +kernel
theorem dX9_plus_29 : decode cX9_plus 29 = .ok (.ladd, 1) := by decide +kernel
theorem dX9_plus_30 : decode cX9_plus 30 = .ok (.aload_n 0, 1) := by decide +kernel
theorem dX9_plus_31 : decode cX9_plus 31 = .ok (.getfield 21, 3) := by decide +kernel
theorem dX9_plus_34 : decode cX9_plus 34 = .ok (.lload 5, 2) := by decide +kernel
theorem dX9_plus_36 : decode cX9_plus 36 = .ok (.ldiv, 1) := by decide +kernel
theorem dX9_plus_37 : decode cX9_plus 37 = .ok (.lload_n 3, 1) := by decide +kernel
theorem dX9_plus_38 : decode cX9_plus 38 = .ok (.lmul, 1) := by decide +kernel
theorem dX9_plus_39 : decode cX9_plus 39 = .ok (.invokevirtual 133, 3) := by decide +kernel
theorem dX9_plus_42 : decode cX9_plus 42 = .ok (.return_, 1) := by decide +kernel
theorem dX9_isLess_0 : decode cX9_isLess 0 = .ok (.lload_n 0, 1) := by decide +kernel
theorem dX9_isLess_1 : decode cX9_isLess 1 = .ok (.lstore 8, 2) := by decide +kernel
theorem dX9_isLess_3 : decode cX9_isLess 3 = .ok (.lload_n 2, 1) := by decide +kernel
theorem dX9_isLess_4 : decode cX9_isLess 4 = .ok (.lstore 10, 2) := by decide +kernel
theorem dX9_isLess_6 : decode cX9_isLess 6 = .ok (.lload 4, 2) := by decide +kernel
theorem dX9_isLess_8 : decode cX9_isLess 8 = .ok (.lstore 12, 2) := by decide +kernel
theorem dX9_isLess_10 : decode cX9_isLess 10 = .ok (.lload 6, 2) := by decide +kernel
theorem dX9_isLess_12 : decode cX9_isLess 12 = .ok (.lstore 14, 2) := by decide +kernel
theorem dX9_isLess_14 : decode cX9_isLess 14 = .ok (.iconst 0, 1) := by decide +kernel
theorem dX9_isLess_15 : decode cX9_isLess 15 = .ok (.istore 16, 2) := by decide +kernel
theorem dX9_isLess_17 : decode cX9_isLess 17 = .ok (.lload 8, 2) := by decide +kernel
theorem dX9_isLess_19 : decode cX9_isLess 19 = .ok (.lload 10, 2) := by decide +kernel
theorem dX9_isLess_21 : decode cX9_isLess 21 = .ok (.ldiv, 1) := by decide +kernel
theorem dX9_isLess_22 : decode cX9_isLess 22 = .ok (.lload 8, 2) := by decide +kernel
theorem dX9_isLess_24 : decode cX9_isLess 24 = .ok (.lload 10, 2) := by decide +kernel
theorem dX9_isLess_26 : decode cX9_isLess 26 = .ok (.lrem, 1) := by decide +kernel
theorem dX9_isLess_27 : decode cX9_isLess 27 = .ok (.lconst 0, 1) := by decide +kernel
theorem dX9_isLess_28 : decode cX9_isLess 28 = .ok (.lcmp, 1) := by decide +kernel
theorem dX9_isLess_29 : decode cX9_isLess 29 = .ok (.ifCond .ge 7, 3) := by decide +kernel
theorem dX9_isLess_32 : decode cX9_isLess 32 = .ok (.lconst 1, 1) := by decide +kernel
theorem dX9_isLess_33 : decode cX9_isLess 33 = .ok (.goto 4, 3) := by decide +kernel
theorem dX9_isLess_36 : decode cX9_isLess 36 = .ok (.lconst 0, 1) := by decide +kernel
theorem dX9_isLess_37 : decode cX9_isLess 37 = .ok (.lsub, 1) := by decide +kernel
theorem dX9_isLess_38 : decode cX9_isLess 38 = .ok (.lstore 17, 2) := by decide +kernel
theorem dX9_isLess_40 : decode cX9_isLess 40 = .ok (.lload 12, 2) := by decide +kernel
theorem dX9_isLess_42 : decode cX9_isLess 42 = .ok (.lload 14, 2) := by decide +kernel
theorem dX9_isLess_44 : decode cX9_isLess 44 = .ok (.ldiv, 1) := by decide +kernel
theorem dX9_isLess_45 : decode cX9_isLess 45 = .ok (.lload 12, 2) := by decide +kernel
theorem dX9_isLess_47 : decode cX9_isLess 47 = .ok (.lload 14, 2) := by decide +kernel
theorem dX9_isLess_49 : decode cX9_isLess 49 = .ok (.lrem, 1) := by decide +kernel
theorem dX9_isLess_50 : decode cX9_isLess 50 = .ok (.lconst 0, 1) := by decide +kernel
theorem dX9_isLess_51 : decode cX9_isLess 51 = .ok (.lcmp, 1) := by decide +kernel
theorem dX9_isLess_52 : decode cX9_isLess 52 = .ok (.ifCond .ge 7, 3) := by decide +kernel
theorem dX9_isLess_55 : decode cX9_isLess 55 = .ok (.lconst 1, 1) := by decide +kernel
theorem dX9_isLess_56 : decode cX9_isLess 56 = .ok (.goto 4, 3) := by decide +kernel
theorem dX9_isLess_59 : decode cX9_isLess 59 = .ok (.lconst 0, 1) := by decide +kernel
theorem dX9_isLess_60 : decode cX9_isLess 60 = .ok (.lsub, 1) := by decide +kernel
theorem dX9_isLess_61 : decode cX9_isLess 61 = .ok (.lstore 19, 2) := by decide +kernel
theorem dX9_isLess_63 : decode cX9_isLess 63 = .ok (.lload 8, 2) := by decide +kernel
theorem dX9_isLess_65 : decode cX9_isLess 65 = .ok (.lload 17, 2) := by decide +kernel
theorem dX9_isLess_67 : decode cX9_isLess 67 = .ok (.lload 10, 2) := by decide +kernel
theorem dX9_isLess_69 : decode cX9_isLess 69 = .ok (.lmul, 1) := by decide +kernel
theorem dX9_isLess_70 : decode cX9_isLess 70 = .ok (.lsub, 1) := by decide +kernel
theorem dX9_isLess_71 : decode cX9_isLess 71 = .ok (.lstore 21, 2) := by decide +kernel
theorem dX9_isLess_73 : decode cX9_isLess 73 = .ok (.lload 12, 2) := by decide +kernel
theorem dX9_isLess_75 : decode cX9_isLess 75 = .ok (.lload 19, 2) := by decide +kernel
theorem dX9_isLess_77 : decode cX9_isLess 77 = .ok (.lload 14, 2) := by decide +kernel
theorem dX9_isLess_79 : decode cX9_isLess 79 = .ok (.lmul, 1) := by decide +kernel
theorem dX9_isLess_80 : decode cX9_isLess 80 = .ok (.lsub, 1) := by decide +kernel
theorem dX9_isLess_81 : decode cX9_isLess 81 = .ok (.lstore 23, 2) := by decide +kernel
theorem dX9_isLess_83 : decode cX9_isLess 83 = .ok (.lload 17, 2) := by decide +kernel
theorem dX9_isLess_85 : decode cX9_isLess 85 = .ok (.lload 19, 2) := by decide +kernel
theorem dX9_isLess_87 : decode cX9_isLess 87 = .ok (.lcmp, 1) := by decide +kernel
theorem dX9_isLess_88 : decode cX9_isLess 88 = .ok (.ifCond .eq 38, 3) := by decide +kernel
theorem dX9_isLess_91 : decode cX9_isLess 91 = .ok (.iload 16, 2) := by decide +kernel
theorem dX9_isLess_93 : decode cX9_isLess 93 = .ok (.ifCond .eq 19, 3) := by decide +kernel
theorem dX9_isLess_96 : decode cX9_isLess 96 = .ok (.lload 17, 2) := by decide +kernel
theorem dX9_isLess_98 : decode cX9_isLess 98 = .ok (.lload 19, 2) := by decide +kernel
theorem dX9_isLess_100 : decode cX9_isLess 100 = .ok (.lcmp, 1) := by decide +kernel
theorem dX9_isLess_101 : decode cX9_isLess 101 = .ok (.ifCond .le 7, 3) := by decide +kernel
theorem dX9_isLess_104 : decode cX9_isLess 104 = .ok (.iconst 1, 1) := by decide +kernel
theorem dX9_isLess_105 : decode cX9_isLess 105 = .ok (.goto 20, 3) := by decide +kernel
theorem dX9_isLess_108 : decode cX9_isLess 108 = .ok (.iconst 0, 1) := by decide +kernel
theorem dX9_isLess_109 : decode cX9_isLess 109 = .ok (.goto 16, 3) := by decide +kernel
theorem dX9_isLess_112 : decode cX9_isLess 112 = .ok (.lload 17, 2) := by decide +kernel
theorem dX9_isLess_114 : decode cX9_isLess 114 = .ok (.lload 19, 2) := by decide +kernel
theorem dX9_isLess_116 : decode cX9_isLess 116 = .ok (.lcmp, 1) := by decide +kernel
theorem dX9_isLess_117 : decode cX9_isLess 117 = .ok (.ifCond .ge 7, 3) := by decide +kernel
theorem dX9_isLess_120 : decode cX9_isLess 120 = .ok (.iconst 1, 1) := by decide +kernel
theorem dX9_isLess_121 : decode cX9_isLess 121 = .ok (.goto 4, 3) := by decide +kernel
theorem dX9_isLess_124 : decode cX9_isLess 124 = .ok (.iconst 0, 1) := by decide +kernel
theorem dX9_isLess_125 : decode cX9_isLess 125 = .ok (.ireturn, 1) := by decide +kernel
theorem dX9_isLess_126 : decode cX9_isLess 126 = .ok (.lload 21, 2) := by decide +kernel
theorem dX9_isLess_128 : decode cX9_isLess 128 = .ok (.lconst 0, 1) := by decide +kernel
theorem dX9_isLess_129 : decode cX9_isLess 129 = .ok (.lcmp, 1) := by decide +kernel
theorem dX9_isLess_130 : decode cX9_isLess 130 = .ok (.ifCond .eq 10, 3) := by decide +kernel
theorem dX9_isLess_133 : decode cX9_isLess 133 = .ok (.lload 23, 2) := by decide +kernel
theorem dX9_isLess_135 : decode cX9_isLess 135 = .ok (.lconst 0, 1) := by decide +kernel
theorem dX9_isLess_136 : decode cX9_isLess 136 = .ok (.lcmp, 1) := by decide +kernel
theorem dX9_isLess_137 : decode cX9_isLess 137 = .ok (.ifCond .ne 50, 3) := by decide +kernel
theorem dX9_isLess_140 : decode cX9_isLess 140 = .ok (.iload 16, 2) := by decide +kernel
theorem dX9_isLess_142 : decode cX9_isLess 142 = .ok (.ifCond .eq 25, 3) := by decide +kernel
theorem dX9_isLess_145 : decode cX9_isLess 145 = .ok (.lload 23, 2) := by decide +kernel
theorem dX9_isLess_147 : decode cX9_isLess 147 = .ok (.lconst 0, 1) := by decide +kernel
theorem dX9_isLess_148 : decode cX9_isLess 148 = .ok (.lcmp, 1) := by decide +kernel
theorem dX9_isLess_149 : decode cX9_isLess 149 = .ok (.ifCond .ne 14, 3) := by decide +kernel
theorem dX9_isLess_152 : decode cX9_isLess 152 = .ok (.lload 21, 2) := by decide +kernel
theorem dX9_isLess_154 : decode cX9_isLess 154 = .ok (.lconst 0, 1) := by decide +kernel
theorem dX9_isLess_155 : decode cX9_isLess 155 = .ok (.lcmp, 1) := by decide +kernel
theorem dX9_isLess_156 : decode cX9_isLess 156 = .ok (.ifCond .eq 7, 3) := by decide +kernel
theorem dX9_isLess_159 : decode cX9_isLess 159 = .ok (.iconst 1, 1) := by decide +kernel
theorem dX9_isLess_160 : decode cX9_isLess 160 = .ok (.goto 26, 3) := by decide +kernel
theorem dX9_isLess_163 : decode cX9_isLess 163 = .ok (.iconst 0, 1) := by decide +kernel
theorem dX9_isLess_164 : decode cX9_isLess 164 = .ok (.goto 22, 3) := by decide +kernel
theorem dX9_isLess_167 : decode cX9_isLess 167 = .ok (.lload 21, 2) := by decide +kernel
theorem dX9_isLess_169 : decode cX9_isLess 169 = .ok (.lconst 0, 1) := by decide +kernel
theorem dX9_isLess_170 : decode cX9_isLess 170 = .ok (.lcmp, 1) := by decide +kernel
theorem dX9_isLess_171 : decode cX9_isLess 171 = .ok (.ifCond .ne 14, 3) := by decide +kernel
theorem dX9_isLess_174 : decode cX9_isLess 174 = .ok (.lload 23, 2) := by decide +kernel
theorem dX9_isLess_176 : decode cX9_isLess 176 = .ok (.lconst 0, 1) := by decide +kernel
theorem dX9_isLess_177 : decode cX9_isLess 177 = .ok (.lcmp, 1) := by decide +kernel
theorem dX9_isLess_178 : decode cX9_isLess 178 = .ok (.ifCond .eq 7, 3) := by decide +kernel
theorem dX9_isLess_181 : decode cX9_isLess 181 = .ok (.iconst 1, 1) := by decide +kernel
theorem dX9_isLess_182 : decode cX9_isLess 182 = .ok (.goto 4, 3) := by decide +kernel
theorem dX9_isLess_185 : decode cX9_isLess 185 = .ok (.iconst 0, 1) := by decide +kernel
theorem dX9_isLess_186 : decode cX9_isLess 186 = .ok (.ireturn, 1) := by decide +kernel
theorem dX9_isLess_187 : decode cX9_isLess 187 = .ok (.lload 10, 2) := by decide +kernel
theorem dX9_isLess_189 : decode cX9_isLess 189 = .ok (.lstore 8, 2) := by decide +kernel
theorem dX9_isLess_191 : decode cX9_isLess 191 = .ok (.lload 21, 2) := by decide +kernel
theorem dX9_isLess_193 : decode cX9_isLess 193 = .ok (.lstore 10, 2) := by decide +kernel
theorem dX9_isLess_195 : decode cX9_isLess 195 = .ok (.lload 14, 2) := by decide +kernel
theorem dX9_isLess_197 : decode cX9_isLess 197 = .ok (.lstore 12, 2) := by decide +kernel
theorem dX9_isLess_199 : decode cX9_isLess 199 = .ok (.lload 23, 2) := by decide +kernel
theorem dX9_isLess_201 : decode cX9_isLess 201 = .ok (.lstore 14, 2) := by decide +kernel
theorem dX9_isLess_203 : decode cX9_isLess 203 = .ok (.iload 16, 2) := by decide +kernel
theorem dX9_isLess_205 : decode cX9_isLess 205 = .ok (.ifCond .ne 7, 3) := by decide +kernel
theorem dX9_isLess_208 : decode cX9_isLess 208 = .ok (.iconst 1, 1) := by decide +kernel
theorem dX9_isLess_209 : decode cX9_isLess 209 = .ok (.goto 4, 3) := by decide +kernel
theorem dX9_isLess_212 : decode cX9_isLess 212 = .ok (.iconst 0, 1) := by decide +kernel
theorem dX9_isLess_213 : decode cX9_isLess 213 = .ok (.istore 16, 2) := by decide +kernel
theorem dX9_isLess_215 : decode cX9_isLess 215 = .ok (.goto (-198), 3) := by decide +kernel
theorem dX9_spanOf_0 : decode cX9_spanOf 0 = .ok (.aload_n 0, 1) := by decide +kernel
theorem dX9_spanOf_1 : decode cX9_spanOf 1 = .ok (.getfield 11, 3) := by decide +kernel
theorem dX9_spanOf_4 : decode cX9_spanOf 4 = .ok (.iconst 2, 1) := by decide +kernel
theorem dX9_spanOf_5 : decode cX9_spanOf 5 = .ok (.iload_n 1, 1) := by decide +kernel
theorem dX9_spanOf_6 : decode cX9_spanOf 6 = .ok (.iadd, 1) := by decide +kernel
theorem dX9_spanOf_7 : decode cX9_spanOf 7 = .ok (.iconst 1, 1) := by decide +kernel
theorem dX9_spanOf_8 : decode cX9_spanOf 8 = .ok (.iadd, 1) := by decide +kernel
theorem dX9_spanOf_9 : decode cX9_spanOf 9 = .ok (.iaload, 1) := by decide +kernel
theorem dX9_spanOf_10 : decode cX9_spanOf 10 = .ok (.aload_n 0, 1) := by decide +kernel
theorem dX9_spanOf_11 : decode cX9_spanOf 11 = .ok (.getfield 11, 3) := by decide +kernel
theorem dX9_spanOf_14 : decode cX9_spanOf 14 = .ok (.iconst 2, 1) := by decide +kernel
theorem dX9_spanOf_15 : decode cX9_spanOf 15 = .ok (.iload_n 1, 1) := by decide +kernel
theorem dX9_spanOf_16 : decode cX9_spanOf 16 = .ok (.iadd, 1) := by decide +kernel
theorem dX9_spanOf_17 : decode cX9_spanOf 17 = .ok (.iaload, 1) := by decide +kernel
theorem dX9_spanOf_18 : decode cX9_spanOf 18 = .ok (.isub, 1) := by decide +kernel
theorem dX9_spanOf_19 : decode cX9_spanOf 19 = .ok (.ireturn, 1) := by decide +kernel
theorem dX9_isSpread_0 : decode cX9_isSpread 0 = .ok (.aload_n 0, 1) := by decide +kernel
theorem dX9_isSpread_1 : decode cX9_isSpread 1 = .ok (.getfield 11, 3) := by decide +kernel
theorem dX9_isSpread_4 : decode cX9_isSpread 4 = .ok (.bipush 11, 2) := by decide +kernel
theorem dX9_isSpread_6 : decode cX9_isSpread 6 = .ok (.iload_n 1, 1) := by decide +kernel
theorem dX9_isSpread_7 : decode cX9_isSpread 7 = .ok (.iadd, 1) := by decide +kernel
theorem dX9_isSpread_8 : decode cX9_isSpread 8 = .ok (.iaload, 1) := by decide +kernel
theorem dX9_isSpread_9 : decode cX9_isSpread 9 = .ok (.aload_n 0, 1) := by decide +kernel
theorem dX9_isSpread_10 : decode cX9_isSpread 10 = .ok (.getfield 11, 3) := by decide +kernel
theorem dX9_isSpread_13 : decode cX9_isSpread 13 = .ok (.bipush 17, 2) := by decide +kernel
theorem dX9_isSpread_15 : decode cX9_isSpread 15 = .ok (.iload_n 1, 1) := by decide +kernel
theorem dX9_isSpread_16 : decode cX9_isSpread 16 = .ok (.iadd, 1) := by decide +kernel
theorem dX9_isSpread_17 : decode cX9_isSpread 17 = .ok (.iaload, 1) := by decide +kernel
theorem dX9_isSpread_18 : decode cX9_isSpread 18 = .ok (.if_icmp .ge 7, 3) := by decide +kernel
theorem dX9_isSpread_21 : decode cX9_isSpread 21 = .ok (.iconst 1, 1) := by decide +kernel
theorem dX9_isSpread_22 : decode cX9_isSpread 22 = .ok (.goto 4, 3) := by decide +kernel
theorem dX9_isSpread_25 : decode cX9_isSpread 25 = .ok (.iconst 0, 1) := by decide +kernel
theorem dX9_isSpread_26 : decode cX9_isSpread 26 = .ok (.ireturn, 1) := by decide +kernel
theorem dX9_less_0 : decode cX9_less 0 = .ok (.iload_n 0, 1) := by decide +kernel
theorem dX9_less_1 : decode cX9_less 1 = .ok (.iload_n 1, 1) := by decide +kernel
theorem dX9_less_2 : decode cX9_less 2 = .ok (.if_icmp .ge 7, 3) := by decide +kernel
theorem dX9_less_5 : decode cX9_less 5 = .ok (.iload_n 0, 1) := by decide +kernel
theorem dX9_less_6 : decode cX9_less 6 = .ok (.goto 4, 3) := by decide +kernel
theorem dX9_less_9 : decode cX9_less 9 = .ok (.iload_n 1, 1) := by decide +kernel
theorem dX9_less_10 : decode cX9_less 10 = .ok (.ireturn, 1) := by decide +kernel
theorem dX9_more_0 : decode cX9_more 0 = .ok (.iload_n 0, 1) := by decide +kernel
theorem dX9_more_1 : decode cX9_more 1 = .ok (.iload_n 1, 1) := by decide +kernel
theorem dX9_more_2 : decode cX9_more 2 = .ok (.if_icmp .le 7, 3) := by decide +kernel
theorem dX9_more_5 : decode cX9_more 5 = .ok (.iload_n 0, 1) := by decide +kernel
theorem dX9_more_6 : decode cX9_more 6 = .ok (.goto 4, 3) := by decide +kernel
theorem dX9_more_9 : decode cX9_more 9 = .ok (.iload_n 1, 1) := by decide +kernel
theorem dX9_more_10 : decode cX9_more 10 = .ok (.ireturn, 1) := by decide +kernel
theorem dX9_whole_0 : decode cX9_whole 0 = .ok (.ldc2_w 86, 3) := by decide +kernel
theorem dX9_whole_3 : decode cX9_whole 3 = .ok (.lload_n 0, 1) := by decide +kernel
theorem dX9_whole_4 : decode cX9_whole 4 = .ok (.lmul, 1) := by decide +kernel
theorem dX9_whole_5 : decode cX9_whole 5 = .ok (.lload_n 0, 1) := by decide +kernel
theorem dX9_whole_6 : decode cX9_whole 6 = .ok (.lmul, 1) := by decide +kernel
theorem dX9_whole_7 : decode cX9_whole 7 = .ok (.lload_n 2, 1) := by decide +kernel
theorem dX9_whole_8 : decode cX9_whole 8 = .ok (.lmul, 1) := by decide +kernel
theorem dX9_whole_9 : decode cX9_whole 9 = .ok (.lload_n 2, 1) := by decide +kernel
theorem dX9_whole_10 : decode cX9_whole 10 = .ok (.lmul, 1) := by decide +kernel
theorem dX9_whole_11 : decode cX9_whole 11 = .ok (.lload_n 2, 1) := by decide +kernel
theorem dX9_whole_12 : decode cX9_whole 12 = .ok (.lload_n 2, 1) := by decide +kernel
theorem dX9_whole_13 : decode cX9_whole 13 = .ok (.lmul, 1) := by decide +kernel
theorem dX9_whole_14 : decode cX9_whole 14 = .ok (.lload_n 2, 1) := by decide +kernel
theorem dX9_whole_15 : decode cX9_whole 15 = .ok (.lmul, 1) := by decide +kernel
theorem dX9_whole_16 : decode cX9_whole 16 = .ok (.lload_n 2, 1) := by decide +kernel
theorem dX9_whole_17 : decode cX9_whole 17 = .ok (.lmul, 1) := by decide +kernel
theorem dX9_whole_18 : decode cX9_whole 18 = .ok (.lsub, 1) := by decide +kernel
theorem dX9_whole_19 : decode cX9_whole 19 = .ok (.lreturn, 1) := by decide +kernel
theorem dX9_sums_0 : decode cX9_sums 0 = .ok (.iload_n 2, 1) := by decide +kernel
theorem dX9_sums_1 : decode cX9_sums 1 = .ok (.iload_n 1, 1) := by decide +kernel
theorem dX9_sums_2 : decode cX9_sums 2 = .ok (.isub, 1) := by decide +kernel
theorem dX9_sums_3 : decode cX9_sums 3 = .ok (.i2l, 1) := by decide +kernel
theorem dX9_sums_4 : decode cX9_sums 4 = .ok (.lstore 4, 2) := by decide +kernel
theorem dX9_sums_6 : decode cX9_sums 6 = .ok (.lconst 0, 1) := by decide +kernel
theorem dX9_sums_7 : decode cX9_sums 7 = .ok (.lstore 6, 2) := by decide +kernel
theorem dX9_sums_9 : decode cX9_sums 9 = .ok (.iconst 0, 1) := by decide +kernel
theorem dX9_sums_10 : decode cX9_sums 10 = .ok (.istore 8, 2) := by decide +kernel
theorem dX9_sums_12 : decode cX9_sums 12 = .ok (.iload 8, 2) := by decide +kernel
theorem dX9_sums_14 : decode cX9_sums 14 = .ok (.aload_n 0, 1) := by decide +kernel
theorem dX9_sums_15 : decode cX9_sums 15 = .ok (.getfield 11, 3) := by decide +kernel
theorem dX9_sums_18 : decode cX9_sums 18 = .ok (.bipush 10, 2) := by decide +kernel
theorem dX9_sums_20 : decode cX9_sums 20 = .ok (.iaload, 1) := by decide +kernel
theorem dX9_sums_21 : decode cX9_sums 21 = .ok (.if_icmp .ge 231, 3) := by decide +kernel
theorem dX9_sums_24 : decode cX9_sums 24 = .ok (.aload_n 0, 1) := by decide +kernel
theorem dX9_sums_25 : decode cX9_sums 25 = .ok (.getfield 11, 3) := by decide +kernel
theorem dX9_sums_28 : decode cX9_sums 28 = .ok (.bipush 11, 2) := by decide +kernel
theorem dX9_sums_30 : decode cX9_sums 30 = .ok (.iload 8, 2) := by decide +kernel
theorem dX9_sums_32 : decode cX9_sums 32 = .ok (.iadd, 1) := by decide +kernel
theorem dX9_sums_33 : decode cX9_sums 33 = .ok (.iaload, 1) := by decide +kernel
theorem dX9_sums_34 : decode cX9_sums 34 = .ok (.iload_n 1, 1) := by decide +kernel
theorem dX9_sums_35 : decode cX9_sums 35 = .ok (.invokestatic 137, 3) := by decide +kernel
theorem dX9_sums_38 : decode cX9_sums 38 = .ok (.istore 9, 2) := by decide +kernel
theorem dX9_sums_40 : decode cX9_sums 40 = .ok (.aload_n 0, 1) := by decide +kernel
theorem dX9_sums_41 : decode cX9_sums 41 = .ok (.getfield 11, 3) := by decide +kernel
theorem dX9_sums_44 : decode cX9_sums 44 = .ok (.bipush 17, 2) := by decide +kernel
theorem dX9_sums_46 : decode cX9_sums 46 = .ok (.iload 8, 2) := by decide +kernel
theorem dX9_sums_48 : decode cX9_sums 48 = .ok (.iadd, 1) := by decide +kernel
theorem dX9_sums_49 : decode cX9_sums 49 = .ok (.iaload, 1) := by decide +kernel
theorem dX9_sums_50 : decode cX9_sums 50 = .ok (.iload_n 2, 1) := by decide +kernel
theorem dX9_sums_51 : decode cX9_sums 51 = .ok (.invokestatic 141, 3) := by decide +kernel
theorem dX9_sums_54 : decode cX9_sums 54 = .ok (.istore 10, 2) := by decide +kernel
theorem dX9_sums_56 : decode cX9_sums 56 = .ok (.aload_n 0, 1) := by decide +kernel
theorem dX9_sums_57 : decode cX9_sums 57 = .ok (.getfield 11, 3) := by decide +kernel
theorem dX9_sums_60 : decode cX9_sums 60 = .ok (.bipush 23, 2) := by decide +kernel
theorem dX9_sums_62 : decode cX9_sums 62 = .ok (.iload 8, 2) := by decide +kernel
theorem dX9_sums_64 : decode cX9_sums 64 = .ok (.iadd, 1) := by decide +kernel
theorem dX9_sums_65 : decode cX9_sums 65 = .ok (.iaload, 1) := by decide +kernel
theorem dX9_sums_66 : decode cX9_sums 66 = .ok (.i2l, 1) := by decide +kernel
theorem dX9_sums_67 : decode cX9_sums 67 = .ok (.lstore 11, 2) := by decide +kernel
theorem dX9_sums_69 : decode cX9_sums 69 = .ok (.aload_n 0, 1) := by decide +kernel
theorem dX9_sums_70 : decode cX9_sums 70 = .ok (.iload 8, 2) := by decide +kernel
theorem dX9_sums_72 : decode cX9_sums 72 = .ok (.invokevirtual 144, 3) := by decide +kernel
theorem dX9_sums_75 : decode cX9_sums 75 = .ok (.ifCond .eq 73, 3) := by decide +kernel
theorem dX9_sums_78 : decode cX9_sums 78 = .ok (.iload 9, 2) := by decide +kernel
theorem dX9_sums_80 : decode cX9_sums 80 = .ok (.iload 10, 2) := by decide +kernel
theorem dX9_sums_82 : decode cX9_sums 82 = .ok (.if_icmp .ge 66, 3) := by decide +kernel
theorem dX9_sums_85 : decode cX9_sums 85 = .ok (.lload 6, 2) := by decide +kernel
theorem dX9_sums_87 : decode cX9_sums 87 = .ok (.iload_n 3, 1) := by decide +kernel
theorem dX9_sums_88 : decode cX9_sums 88 = .ok (.ifCond .eq 30, 3) := by decide +kernel
theorem dX9_sums_91 : decode cX9_sums 91 = .ok (.lload 11, 2) := by decide +kernel
theorem dX9_sums_93 : decode cX9_sums 93 = .ok (.lload 4, 2) := by decide +kernel
theorem dX9_sums_95 : decode cX9_sums 95 = .ok (.iload_n 2, 1) := by decide +kernel
theorem dX9_sums_96 : decode cX9_sums 96 = .ok (.iload 9, 2) := by decide +kernel
theorem dX9_sums_98 : decode cX9_sums 98 = .ok (.isub, 1) := by decide +kernel
theorem dX9_sums_99 : decode cX9_sums 99 = .ok (.i2l, 1) := by decide +kernel
theorem dX9_sums_100 : decode cX9_sums 100 = .ok (.invokestatic 147, 3) := by decide +kernel
theorem dX9_sums_103 : decode cX9_sums 103 = .ok (.lload 4, 2) := by decide +kernel
theorem dX9_sums_105 : decode cX9_sums 105 = .ok (.iload_n 2, 1) := by decide +kernel
theorem dX9_sums_106 : decode cX9_sums 106 = .ok (.iload 10, 2) := by decide +kernel
theorem dX9_sums_108 : decode cX9_sums 108 = .ok (.isub, 1) := by decide +kernel
theorem dX9_sums_109 : decode cX9_sums 109 = .ok (.i2l, 1) := by decide +kernel
theorem dX9_sums_110 : decode cX9_sums 110 = .ok (.invokestatic 147, 3) := by decide +kernel
theorem dX9_sums_113 : decode cX9_sums 113 = .ok (.lsub, 1) := by decide +kernel
theorem dX9_sums_114 : decode cX9_sums 114 = .ok (.lmul, 1) := by decide +kernel
theorem dX9_sums_115 : decode cX9_sums 115 = .ok (.goto 27, 3) := by decide +kernel
theorem dX9_sums_118 : decode cX9_sums 118 = .ok (.lload 11, 2) := by decide +kernel
theorem dX9_sums_120 : decode cX9_sums 120 = .ok (.lload 4, 2) := by decide +kernel
theorem dX9_sums_122 : decode cX9_sums 122 = .ok (.iload 10, 2) := by decide +kernel
theorem dX9_sums_124 : decode cX9_sums 124 = .ok (.iload_n 1, 1) := by decide +kernel
theorem dX9_sums_125 : decode cX9_sums 125 = .ok (.isub, 1) := by decide +kernel
theorem dX9_sums_126 : decode cX9_sums 126 = .ok (.i2l, 1) := by decide +kernel
theorem dX9_sums_127 : decode cX9_sums 127 = .ok (.invokestatic 147, 3) := by decide +kernel
theorem dX9_sums_130 : decode cX9_sums 130 = .ok (.lload 4, 2) := by decide +kernel
theorem dX9_sums_132 : decode cX9_sums 132 = .ok (.iload 9, 2) := by decide +kernel
theorem dX9_sums_134 : decode cX9_sums 134 = .ok (.iload_n 1, 1) := by decide +kernel
theorem dX9_sums_135 : decode cX9_sums 135 = .ok (.isub, 1) := by decide +kernel
theorem dX9_sums_136 : decode cX9_sums 136 = .ok (.i2l, 1) := by decide +kernel
theorem dX9_sums_137 : decode cX9_sums 137 = .ok (.invokestatic 147, 3) := by decide +kernel
theorem dX9_sums_140 : decode cX9_sums 140 = .ok (.lsub, 1) := by decide +kernel
theorem dX9_sums_141 : decode cX9_sums 141 = .ok (.lmul, 1) := by decide +kernel
theorem dX9_sums_142 : decode cX9_sums 142 = .ok (.ladd, 1) := by decide +kernel
theorem dX9_sums_143 : decode cX9_sums 143 = .ok (.lstore 6, 2) := by decide +kernel
theorem dX9_sums_145 : decode cX9_sums 145 = .ok (.goto 101, 3) := by decide +kernel
theorem dX9_sums_148 : decode cX9_sums 148 = .ok (.aload_n 0, 1) := by decide +kernel
theorem dX9_sums_149 : decode cX9_sums 149 = .ok (.iload 8, 2) := by decide +kernel
theorem dX9_sums_151 : decode cX9_sums 151 = .ok (.invokevirtual 144, 3) := by decide +kernel
theorem dX9_sums_154 : decode cX9_sums 154 = .ok (.ifCond .ne 92, 3) := by decide +kernel
theorem dX9_sums_157 : decode cX9_sums 157 = .ok (.aload_n 0, 1) := by decide +kernel
theorem dX9_sums_158 : decode cX9_sums 158 = .ok (.getfield 11, 3) := by decide +kernel
theorem dX9_sums_161 : decode cX9_sums 161 = .ok (.bipush 11, 2) := by decide +kernel
theorem dX9_sums_163 : decode cX9_sums 163 = .ok (.iload 8, 2) := by decide +kernel
theorem dX9_sums_165 : decode cX9_sums 165 = .ok (.iadd, 1) := by decide +kernel
theorem dX9_sums_166 : decode cX9_sums 166 = .ok (.iaload, 1) := by decide +kernel
theorem dX9_sums_167 : decode cX9_sums 167 = .ok (.iload_n 1, 1) := by decide +kernel
theorem dX9_sums_168 : decode cX9_sums 168 = .ok (.if_icmp .le 78, 3) := by decide +kernel
theorem dX9_sums_171 : decode cX9_sums 171 = .ok (.aload_n 0, 1) := by decide +kernel
theorem dX9_sums_172 : decode cX9_sums 172 = .ok (.getfield 11, 3) := by decide +kernel
theorem dX9_sums_175 : decode cX9_sums 175 = .ok (.bipush 11, 2) := by decide +kernel
theorem dX9_sums_177 : decode cX9_sums 177 = .ok (.iload 8, 2) := by decide +kernel
theorem dX9_sums_179 : decode cX9_sums 179 = .ok (.iadd, 1) := by decide +kernel
theorem dX9_sums_180 : decode cX9_sums 180 = .ok (.iaload, 1) := by decide +kernel
theorem dX9_sums_181 : decode cX9_sums 181 = .ok (.iload_n 2, 1) := by decide +kernel
theorem dX9_sums_182 : decode cX9_sums 182 = .ok (.if_icmp .ge 64, 3) := by decide +kernel
theorem dX9_sums_185 : decode cX9_sums 185 = .ok (.iload_n 3, 1) := by decide +kernel
theorem dX9_sums_186 : decode cX9_sums 186 = .ok (.ifCond .eq 19, 3) := by decide +kernel
theorem dX9_sums_189 : decode cX9_sums 189 = .ok (.iload_n 2, 1) := by decide +kernel
theorem dX9_sums_190 : decode cX9_sums 190 = .ok (.aload_n 0, 1) := by decide +kernel
theorem dX9_sums_191 : decode cX9_sums 191 = .ok (.getfield 11, 3) := by decide +kernel
theorem dX9_sums_194 : decode cX9_sums 194 = .ok (.bipush 11, 2) := by decide +kernel
theorem dX9_sums_196 : decode cX9_sums 196 = .ok (.iload 8, 2) := by decide +kernel
theorem dX9_sums_198 : decode cX9_sums 198 = .ok (.iadd, 1) := by decide +kernel
theorem dX9_sums_199 : decode cX9_sums 199 = .ok (.iaload, 1) := by decide +kernel
theorem dX9_sums_200 : decode cX9_sums 200 = .ok (.isub, 1) := by decide +kernel
theorem dX9_sums_201 : decode cX9_sums 201 = .ok (.i2l, 1) := by decide +kernel
theorem dX9_sums_202 : decode cX9_sums 202 = .ok (.goto 16, 3) := by decide +kernel
theorem dX9_sums_205 : decode cX9_sums 205 = .ok (.aload_n 0, 1) := by decide +kernel
theorem dX9_sums_206 : decode cX9_sums 206 = .ok (.getfield 11, 3) := by decide +kernel
theorem dX9_sums_209 : decode cX9_sums 209 = .ok (.bipush 11, 2) := by decide +kernel
theorem dX9_sums_211 : decode cX9_sums 211 = .ok (.iload 8, 2) := by decide +kernel
theorem dX9_sums_213 : decode cX9_sums 213 = .ok (.iadd, 1) := by decide +kernel
theorem dX9_sums_214 : decode cX9_sums 214 = .ok (.iaload, 1) := by decide +kernel
theorem dX9_sums_215 : decode cX9_sums 215 = .ok (.iload_n 1, 1) := by decide +kernel
theorem dX9_sums_216 : decode cX9_sums 216 = .ok (.isub, 1) := by decide +kernel
theorem dX9_sums_217 : decode cX9_sums 217 = .ok (.i2l, 1) := by decide +kernel
theorem dX9_sums_218 : decode cX9_sums 218 = .ok (.lstore 13, 2) := by decide +kernel
theorem dX9_sums_220 : decode cX9_sums 220 = .ok (.lload 6, 2) := by decide +kernel
theorem dX9_sums_222 : decode cX9_sums 222 = .ok (.ldc2_w 150, 3) := by decide +kernel
theorem dX9_sums_225 : decode cX9_sums 225 = .ok (.lload 11, 2) := by decide +kernel
