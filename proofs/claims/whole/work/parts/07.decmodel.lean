theorem dX9_init_0 : decode cX9_init 0 = .ok (.aload_n 0, 1) := by decide +kernel
theorem dX9_init_1 : decode cX9_init 1 = .ok (.invokespecial 1, 3) := by decide +kernel
theorem dX9_init_4 : decode cX9_init 4 = .ok (.aload_n 0, 1) := by decide +kernel
theorem dX9_init_5 : decode cX9_init 5 = .ok (.bipush 40, 2) := by decide +kernel
theorem dX9_init_7 : decode cX9_init 7 = .ok (.newarray .int, 2) := by decide +kernel
theorem dX9_init_9 : decode cX9_init 9 = .ok (.putfield 7, 3) := by decide +kernel
theorem dX9_init_12 : decode cX9_init 12 = .ok (.aload_n 0, 1) := by decide +kernel
theorem dX9_init_13 : decode cX9_init 13 = .ok (.bipush 40, 2) := by decide +kernel
theorem dX9_init_15 : decode cX9_init 15 = .ok (.newarray .int, 2) := by decide +kernel
theorem dX9_init_17 : decode cX9_init 17 = .ok (.putfield 13, 3) := by decide +kernel
theorem dX9_init_20 : decode cX9_init 20 = .ok (.aload_n 0, 1) := by decide +kernel
theorem dX9_init_21 : decode cX9_init 21 = .ok (.bipush 40, 2) := by decide +kernel
theorem dX9_init_23 : decode cX9_init 23 = .ok (.newarray .int, 2) := by decide +kernel
theorem dX9_init_25 : decode cX9_init 25 = .ok (.putfield 16, 3) := by decide +kernel
theorem dX9_init_28 : decode cX9_init 28 = .ok (.aload_n 0, 1) := by decide +kernel
theorem dX9_init_29 : decode cX9_init 29 = .ok (.bipush 40, 2) := by decide +kernel
theorem dX9_init_31 : decode cX9_init 31 = .ok (.newarray .int, 2) := by decide +kernel
theorem dX9_init_33 : decode cX9_init 33 = .ok (.putfield 19, 3) := by decide +kernel
theorem dX9_init_36 : decode cX9_init 36 = .ok (.aload_n 0, 1) := by decide +kernel
theorem dX9_init_37 : decode cX9_init 37 = .ok (.bipush 40, 2) := by decide +kernel
theorem dX9_init_39 : decode cX9_init 39 = .ok (.newarray .int, 2) := by decide +kernel
theorem dX9_init_41 : decode cX9_init 41 = .ok (.putfield 22, 3) := by decide +kernel
theorem dX9_init_44 : decode cX9_init 44 = .ok (.aload_n 0, 1) := by decide +kernel
theorem dX9_init_45 : decode cX9_init 45 = .ok (.bipush 40, 2) := by decide +kernel
theorem dX9_init_47 : decode cX9_init 47 = .ok (.newarray .int, 2) := by decide +kernel
theorem dX9_init_49 : decode cX9_init 49 = .ok (.putfield 25, 3) := by decide +kernel
theorem dX9_init_52 : decode cX9_init 52 = .ok (.aload_n 0, 1) := by decide +kernel
theorem dX9_init_53 : decode cX9_init 53 = .ok (.bipush 40, 2) := by decide +kernel
theorem dX9_init_55 : decode cX9_init 55 = .ok (.newarray .int, 2) := by decide +kernel
theorem dX9_init_57 : decode cX9_init 57 = .ok (.putfield 28, 3) := by decide +kernel
theorem dX9_init_60 : decode cX9_init 60 = .ok (.aload_n 0, 1) := by decide +kernel
theorem dX9_init_61 : decode cX9_init 61 = .ok (.bipush 40, 2) := by decide +kernel
theorem dX9_init_63 : decode cX9_init 63 = .ok (.newarray .int, 2) := by decide +kernel
theorem dX9_init_65 : decode cX9_init 65 = .ok (.putfield 31, 3) := by decide +kernel
theorem dX9_init_68 : decode cX9_init 68 = .ok (.aload_n 0, 1) := by decide +kernel
theorem dX9_init_69 : decode cX9_init 69 = .ok (.bipush 40, 2) := by decide +kernel
theorem dX9_init_71 : decode cX9_init 71 = .ok (.newarray .int, 2) := by decide +kernel
theorem dX9_init_73 : decode cX9_init 73 = .ok (.putfield 34, 3) := by decide +kernel
theorem dX9_init_76 : decode cX9_init 76 = .ok (.aload_n 0, 1) := by decide +kernel
theorem dX9_init_77 : decode cX9_init 77 = .ok (.bipush 40, 2) := by decide +kernel
theorem dX9_init_79 : decode cX9_init 79 = .ok (.newarray .int, 2) := by decide +kernel
theorem dX9_init_81 : decode cX9_init 81 = .ok (.putfield 37, 3) := by decide +kernel
theorem dX9_init_84 : decode cX9_init 84 = .ok (.aload_n 0, 1) := by decide +kernel
theorem dX9_init_85 : decode cX9_init 85 = .ok (.bipush 40, 2) := by decide +kernel
theorem dX9_init_87 : decode cX9_init 87 = .ok (.newarray .int, 2) := by decide +kernel
theorem dX9_init_89 : decode cX9_init 89 = .ok (.putfield 40, 3) := by decide +kernel
theorem dX9_init_92 : decode cX9_init 92 = .ok (.aload_n 0, 1) := by decide +kernel
theorem dX9_init_93 : decode cX9_init 93 = .ok (.bipush 40, 2) := by decide +kernel
theorem dX9_init_95 : decode cX9_init 95 = .ok (.newarray .int, 2) := by decide +kernel
theorem dX9_init_97 : decode cX9_init 97 = .ok (.putfield 43, 3) := by decide +kernel
theorem dX9_init_100 : decode cX9_init 100 = .ok (.aload_n 0, 1) := by decide +kernel
theorem dX9_init_101 : decode cX9_init 101 = .ok (.bipush 40, 2) := by decide +kernel
theorem dX9_init_103 : decode cX9_init 103 = .ok (.newarray .boolean, 2) := by decide +kernel
theorem dX9_init_105 : decode cX9_init 105 = .ok (.putfield 46, 3) := by decide +kernel
theorem dX9_init_108 : decode cX9_init 108 = .ok (.aload_n 0, 1) := by decide +kernel
theorem dX9_init_109 : decode cX9_init 109 = .ok (.bipush 40, 2) := by decide +kernel
theorem dX9_init_111 : decode cX9_init 111 = .ok (.newarray .int, 2) := by decide +kernel
theorem dX9_init_113 : decode cX9_init 113 = .ok (.putfield 50, 3) := by decide +kernel
theorem dX9_init_116 : decode cX9_init 116 = .ok (.aload_n 0, 1) := by decide +kernel
theorem dX9_init_117 : decode cX9_init 117 = .ok (.sipush 160, 3) := by decide +kernel
theorem dX9_init_120 : decode cX9_init 120 = .ok (.newarray .int, 2) := by decide +kernel
theorem dX9_init_122 : decode cX9_init 122 = .ok (.putfield 53, 3) := by decide +kernel
theorem dX9_init_125 : decode cX9_init 125 = .ok (.aload_n 0, 1) := by decide +kernel
theorem dX9_init_126 : decode cX9_init 126 = .ok (.sipush 160, 3) := by decide +kernel
theorem dX9_init_129 : decode cX9_init 129 = .ok (.newarray .int, 2) := by decide +kernel
theorem dX9_init_131 : decode cX9_init 131 = .ok (.putfield 56, 3) := by decide +kernel
theorem dX9_init_134 : decode cX9_init 134 = .ok (.aload_n 0, 1) := by decide +kernel
theorem dX9_init_135 : decode cX9_init 135 = .ok (.sipush 1201, 3) := by decide +kernel
theorem dX9_init_138 : decode cX9_init 138 = .ok (.newarray .boolean, 2) := by decide +kernel
theorem dX9_init_140 : decode cX9_init 140 = .ok (.putfield 59, 3) := by decide +kernel
theorem dX9_init_143 : decode cX9_init 143 = .ok (.aload_n 0, 1) := by decide +kernel
theorem dX9_init_144 : decode cX9_init 144 = .ok (.ldc 62, 2) := by decide +kernel
theorem dX9_init_146 : decode cX9_init 146 = .ok (.newarray .int, 2) := by decide +kernel
theorem dX9_init_148 : decode cX9_init 148 = .ok (.putfield 63, 3) := by decide +kernel
theorem dX9_init_151 : decode cX9_init 151 = .ok (.aload_n 0, 1) := by decide +kernel
theorem dX9_init_152 : decode cX9_init 152 = .ok (.bipush 61, 2) := by decide +kernel
theorem dX9_init_154 : decode cX9_init 154 = .ok (.newarray .int, 2) := by decide +kernel
theorem dX9_init_156 : decode cX9_init 156 = .ok (.putfield 66, 3) := by decide +kernel
theorem dX9_init_159 : decode cX9_init 159 = .ok (.aload_n 0, 1) := by decide +kernel
theorem dX9_init_160 : decode cX9_init 160 = .ok (.sipush 2440, 3) := by decide +kernel
theorem dX9_init_163 : decode cX9_init 163 = .ok (.newarray .int, 2) := by decide +kernel
theorem dX9_init_165 : decode cX9_init 165 = .ok (.putfield 69, 3) := by decide +kernel
theorem dX9_init_168 : decode cX9_init 168 = .ok (.aload_n 0, 1) := by decide +kernel
theorem dX9_init_169 : decode cX9_init 169 = .ok (.iconst 4, 1) := by decide +kernel
theorem dX9_init_170 : decode cX9_init 170 = .ok (.newarray .int, 2) := by decide +kernel
theorem dX9_init_172 : decode cX9_init 172 = .ok (.putfield 72, 3) := by decide +kernel
theorem dX9_init_175 : decode cX9_init 175 = .ok (.aload_n 0, 1) := by decide +kernel
theorem dX9_init_176 : decode cX9_init 176 = .ok (.bipush 40, 2) := by decide +kernel
theorem dX9_init_178 : decode cX9_init 178 = .ok (.newarray .int, 2) := by decide +kernel
theorem dX9_init_180 : decode cX9_init 180 = .ok (.putfield 75, 3) := by decide +kernel
theorem dX9_init_183 : decode cX9_init 183 = .ok (.aload_n 0, 1) := by decide +kernel
theorem dX9_init_184 : decode cX9_init 184 = .ok (.bipush 40, 2) := by decide +kernel
theorem dX9_init_186 : decode cX9_init 186 = .ok (.newarray .int, 2) := by decide +kernel
theorem dX9_init_188 : decode cX9_init 188 = .ok (.putfield 78, 3) := by decide +kernel
theorem dX9_init_191 : decode cX9_init 191 = .ok (.aload_n 0, 1) := by decide +kernel
theorem dX9_init_192 : decode cX9_init 192 = .ok (.bipush 100, 2) := by decide +kernel
theorem dX9_init_194 : decode cX9_init 194 = .ok (.newarray .byte, 2) := by decide +kernel
theorem dX9_init_196 : decode cX9_init 196 = .ok (.putfield 81, 3) := by decide +kernel
theorem dX9_init_199 : decode cX9_init 199 = .ok (.aload_n 0, 1) := by decide +kernel
theorem dX9_init_200 : decode cX9_init 200 = .ok (.bipush 51, 2) := by decide +kernel
theorem dX9_init_202 : decode cX9_init 202 = .ok (.newarray .int, 2) := by decide +kernel
theorem dX9_init_204 : decode cX9_init 204 = .ok (.putfield 85, 3) := by decide +kernel
theorem dX9_init_207 : decode cX9_init 207 = .ok (.aload_n 0, 1) := by decide +kernel
theorem dX9_init_208 : decode cX9_init 208 = .ok (.sipush 5100, 3) := by decide +kernel
theorem dX9_init_211 : decode cX9_init 211 = .ok (.newarray .int, 2) := by decide +kernel
theorem dX9_init_213 : decode cX9_init 213 = .ok (.putfield 88, 3) := by decide +kernel
theorem dX9_init_216 : decode cX9_init 216 = .ok (.aload_n 0, 1) := by decide +kernel
theorem dX9_init_217 : decode cX9_init 217 = .ok (.bipush 21, 2) := by decide +kernel
theorem dX9_init_219 : decode cX9_init 219 = .ok (.newarray .int, 2) := by decide +kernel
theorem dX9_init_221 : decode cX9_init 221 = .ok (.putfield 91, 3) := by decide +kernel
theorem dX9_init_224 : decode cX9_init 224 = .ok (.aload_n 0, 1) := by decide +kernel
theorem dX9_init_225 : decode cX9_init 225 = .ok (.bipush 100, 2) := by decide +kernel
theorem dX9_init_227 : decode cX9_init 227 = .ok (.newarray .int, 2) := by decide +kernel
theorem dX9_init_229 : decode cX9_init 229 = .ok (.putfield 94, 3) := by decide +kernel
theorem dX9_init_232 : decode cX9_init 232 = .ok (.aload_n 0, 1) := by decide +kernel
theorem dX9_init_233 : decode cX9_init 233 = .ok (.bipush 30, 2) := by decide +kernel
theorem dX9_init_235 : decode cX9_init 235 = .ok (.newarray .int, 2) := by decide +kernel
theorem dX9_init_237 : decode cX9_init 237 = .ok (.putfield 97, 3) := by decide +kernel
theorem dX9_init_240 : decode cX9_init 240 = .ok (.aload_n 0, 1) := by decide +kernel
theorem dX9_init_241 : decode cX9_init 241 = .ok (.bipush 30, 2) := by decide +kernel
theorem dX9_init_243 : decode cX9_init 243 = .ok (.newarray .int, 2) := by decide +kernel
theorem dX9_init_245 : decode cX9_init 245 = .ok (.putfield 100, 3) := by decide +kernel
theorem dX9_init_248 : decode cX9_init 248 = .ok (.aload_n 0, 1) := by decide +kernel
theorem dX9_init_249 : decode cX9_init 249 = .ok (.bipush 30, 2) := by decide +kernel
theorem dX9_init_251 : decode cX9_init 251 = .ok (.newarray .int, 2) := by decide +kernel
theorem dX9_init_253 : decode cX9_init 253 = .ok (.putfield 103, 3) := by decide +kernel
theorem dX9_init_256 : decode cX9_init 256 = .ok (.aload_n 0, 1) := by decide +kernel
theorem dX9_init_257 : decode cX9_init 257 = .ok (.bipush 20, 2) := by decide +kernel
theorem dX9_init_259 : decode cX9_init 259 = .ok (.newarray .int, 2) := by decide +kernel
theorem dX9_init_261 : decode cX9_init 261 = .ok (.putfield 106, 3) := by decide +kernel
theorem dX9_init_264 : decode cX9_init 264 = .ok (.aload_n 0, 1) := by decide +kernel
theorem dX9_init_265 : decode cX9_init 265 = .ok (.bipush 20, 2) := by decide +kernel
theorem dX9_init_267 : decode cX9_init 267 = .ok (.newarray .int, 2) := by decide +kernel
theorem dX9_init_269 : decode cX9_init 269 = .ok (.putfield 109, 3) := by decide +kernel
theorem dX9_init_272 : decode cX9_init 272 = .ok (.aload_n 0, 1) := by decide +kernel
theorem dX9_init_273 : decode cX9_init 273 = .ok (.bipush 30, 2) := by decide +kernel
theorem dX9_init_275 : decode cX9_init 275 = .ok (.newarray .boolean, 2) := by decide +kernel
theorem dX9_init_277 : decode cX9_init 277 = .ok (.putfield 112, 3) := by decide +kernel
theorem dX9_init_280 : decode cX9_init 280 = .ok (.aload_n 0, 1) := by decide +kernel
theorem dX9_init_281 : decode cX9_init 281 = .ok (.bipush 40, 2) := by decide +kernel
theorem dX9_init_283 : decode cX9_init 283 = .ok (.newarray .boolean, 2) := by decide +kernel
theorem dX9_init_285 : decode cX9_init 285 = .ok (.putfield 115, 3) := by decide +kernel
theorem dX9_init_288 : decode cX9_init 288 = .ok (.return_, 1) := by decide +kernel
theorem dX9_in_0 : decode cX9_in 0 = .ok (.iload_n 0, 1) := by decide +kernel
theorem dX9_in_1 : decode cX9_in 1 = .ok (.iload_n 1, 1) := by decide +kernel
theorem dX9_in_2 : decode cX9_in 2 = .ok (.if_icmp .lt 12, 3) := by decide +kernel
theorem dX9_in_5 : decode cX9_in 5 = .ok (.iload_n 0, 1) := by decide +kernel
theorem dX9_in_6 : decode cX9_in 6 = .ok (.iload_n 2, 1) := by decide +kernel
theorem dX9_in_7 : decode cX9_in 7 = .ok (.if_icmp .gt 7, 3) := by decide +kernel
theorem dX9_in_10 : decode cX9_in 10 = .ok (.iconst 1, 1) := by decide +kernel
theorem dX9_in_11 : decode cX9_in 11 = .ok (.goto 4, 3) := by decide +kernel
theorem dX9_in_14 : decode cX9_in 14 = .ok (.iconst 0, 1) := by decide +kernel
theorem dX9_in_15 : decode cX9_in 15 = .ok (.ireturn, 1) := by decide +kernel
theorem dX9_isPart_0 : decode cX9_isPart 0 = .ok (.iload_n 1, 1) := by decide +kernel
theorem dX9_isPart_1 : decode cX9_isPart 1 = .ok (.iconst 0, 1) := by decide +kernel
theorem dX9_isPart_2 : decode cX9_isPart 2 = .ok (.aload_n 0, 1) := by decide +kernel
theorem dX9_isPart_3 : decode cX9_isPart 3 = .ok (.getfield 122, 3) := by decide +kernel
theorem dX9_isPart_6 : decode cX9_isPart 6 = .ok (.iconst 1, 1) := by decide +kernel
theorem dX9_isPart_7 : decode cX9_isPart 7 = .ok (.isub, 1) := by decide +kernel
theorem dX9_isPart_8 : decode cX9_isPart 8 = .ok (.invokestatic 125, 3) := by decide +kernel
theorem dX9_isPart_11 : decode cX9_isPart 11 = .ok (.ireturn, 1) := by decide +kernel
theorem dX9_newPart_0 : decode cX9_newPart 0 = .ok (.aload_n 0, 1) := by decide +kernel
theorem dX9_newPart_1 : decode cX9_newPart 1 = .ok (.getfield 122, 3) := by decide +kernel
theorem dX9_newPart_4 : decode cX9_newPart 4 = .ok (.istore 5, 2) := by decide +kernel
theorem dX9_newPart_6 : decode cX9_newPart 6 = .ok (.aload_n 0, 1) := by decide +kernel
theorem dX9_newPart_7 : decode cX9_newPart 7 = .ok (.getfield 7, 3) := by decide +kernel
theorem dX9_newPart_10 : decode cX9_newPart 10 = .ok (.iload 5, 2) := by decide +kernel
theorem dX9_newPart_12 : decode cX9_newPart 12 = .ok (.iload_n 1, 1) := by decide +kernel
theorem dX9_newPart_13 : decode cX9_newPart 13 = .ok (.iastore, 1) := by decide +kernel
theorem dX9_newPart_14 : decode cX9_newPart 14 = .ok (.aload_n 0, 1) := by decide +kernel
theorem dX9_newPart_15 : decode cX9_newPart 15 = .ok (.getfield 13, 3) := by decide +kernel
theorem dX9_newPart_18 : decode cX9_newPart 18 = .ok (.iload 5, 2) := by decide +kernel
theorem dX9_newPart_20 : decode cX9_newPart 20 = .ok (.iload_n 2, 1) := by decide +kernel
theorem dX9_newPart_21 : decode cX9_newPart 21 = .ok (.iastore, 1) := by decide +kernel
theorem dX9_newPart_22 : decode cX9_newPart 22 = .ok (.aload_n 0, 1) := by decide +kernel
theorem dX9_newPart_23 : decode cX9_newPart 23 = .ok (.getfield 16, 3) := by decide +kernel
theorem dX9_newPart_26 : decode cX9_newPart 26 = .ok (.iload 5, 2) := by decide +kernel
theorem dX9_newPart_28 : decode cX9_newPart 28 = .ok (.iload_n 2, 1) := by decide +kernel
theorem dX9_newPart_29 : decode cX9_newPart 29 = .ok (.iastore, 1) := by decide +kernel
theorem dX9_newPart_30 : decode cX9_newPart 30 = .ok (.aload_n 0, 1) := by decide +kernel
theorem dX9_newPart_31 : decode cX9_newPart 31 = .ok (.getfield 19, 3) := by decide +kernel
theorem dX9_newPart_34 : decode cX9_newPart 34 = .ok (.iload 5, 2) := by decide +kernel
theorem dX9_newPart_36 : decode cX9_newPart 36 = .ok (.iload_n 3, 1) := by decide +kernel
theorem dX9_newPart_37 : decode cX9_newPart 37 = .ok (.iastore, 1) := by decide +kernel
theorem dX9_newPart_38 : decode cX9_newPart 38 = .ok (.aload_n 0, 1) := by decide +kernel
theorem dX9_newPart_39 : decode cX9_newPart 39 = .ok (.getfield 22, 3) := by decide +kernel
theorem dX9_newPart_42 : decode cX9_newPart 42 = .ok (.iload 5, 2) := by decide +kernel
theorem dX9_newPart_44 : decode cX9_newPart 44 = .ok (.iload 4, 2) := by decide +kernel
theorem dX9_newPart_46 : decode cX9_newPart 46 = .ok (.iastore, 1) := by decide +kernel
theorem dX9_newPart_47 : decode cX9_newPart 47 = .ok (.aload_n 0, 1) := by decide +kernel
theorem dX9_newPart_48 : decode cX9_newPart 48 = .ok (.getfield 25, 3) := by decide +kernel
theorem dX9_newPart_51 : decode cX9_newPart 51 = .ok (.iload 5, 2) := by decide +kernel
theorem dX9_newPart_53 : decode cX9_newPart 53 = .ok (.ldc 129, 2) := by decide +kernel
theorem dX9_newPart_55 : decode cX9_newPart 55 = .ok (.iastore, 1) := by decide +kernel
theorem dX9_newPart_56 : decode cX9_newPart 56 = .ok (.aload_n 0, 1) := by decide +kernel
theorem dX9_newPart_57 : decode cX9_newPart 57 = .ok (.getfield 28, 3) := by decide +kernel
theorem dX9_newPart_60 : decode cX9_newPart 60 = .ok (.iload 5, 2) := by decide +kernel
theorem dX9_newPart_62 : decode cX9_newPart 62 = .ok (.iconst 0, 1) := by decide +kernel
theorem dX9_newPart_63 : decode cX9_newPart 63 = .ok (.iastore, 1) := by decide +kernel
theorem dX9_newPart_64 : decode cX9_newPart 64 = .ok (.aload_n 0, 1) := by decide +kernel
theorem dX9_newPart_65 : decode cX9_newPart 65 = .ok (.getfield 31, 3) := by decide +kernel
theorem dX9_newPart_68 : decode cX9_newPart 68 = .ok (.iload 5, 2) := by decide +kernel
theorem dX9_newPart_70 : decode cX9_newPart 70 = .ok (.bipush 50, 2) := by decide +kernel
theorem dX9_newPart_72 : decode cX9_newPart 72 = .ok (.iastore, 1) := by decide +kernel
theorem dX9_newPart_73 : decode cX9_newPart 73 = .ok (.aload_n 0, 1) := by decide +kernel
theorem dX9_newPart_74 : decode cX9_newPart 74 = .ok (.getfield 34, 3) := by decide +kernel
theorem dX9_newPart_77 : decode cX9_newPart 77 = .ok (.iload 5, 2) := by decide +kernel
theorem dX9_newPart_79 : decode cX9_newPart 79 = .ok (.iconst 3, 1) := by decide +kernel
theorem dX9_newPart_80 : decode cX9_newPart 80 = .ok (.iastore, 1) := by decide +kernel
theorem dX9_newPart_81 : decode cX9_newPart 81 = .ok (.aload_n 0, 1) := by decide +kernel
theorem dX9_newPart_82 : decode cX9_newPart 82 = .ok (.getfield 37, 3) := by decide +kernel
theorem dX9_newPart_85 : decode cX9_newPart 85 = .ok (.iload 5, 2) := by decide +kernel
theorem dX9_newPart_87 : decode cX9_newPart 87 = .ok (.iconst 0, 1) := by decide +kernel
theorem dX9_newPart_88 : decode cX9_newPart 88 = .ok (.iastore, 1) := by decide +kernel
theorem dX9_newPart_89 : decode cX9_newPart 89 = .ok (.aload_n 0, 1) := by decide +kernel
theorem dX9_newPart_90 : decode cX9_newPart 90 = .ok (.getfield 40, 3) := by decide +kernel
theorem dX9_newPart_93 : decode cX9_newPart 93 = .ok (.iload 5, 2) := by decide +kernel
theorem dX9_newPart_95 : decode cX9_newPart 95 = .ok (.iconst 0, 1) := by decide +kernel
theorem dX9_newPart_96 : decode cX9_newPart 96 = .ok (.iastore, 1) := by decide +kernel
theorem dX9_newPart_97 : decode cX9_newPart 97 = .ok (.aload_n 0, 1) := by decide +kernel
theorem dX9_newPart_98 : decode cX9_newPart 98 = .ok (.getfield 43, 3) := by decide +kernel
theorem dX9_newPart_101 : decode cX9_newPart 101 = .ok (.iload 5, 2) := by decide +kernel
theorem dX9_newPart_103 : decode cX9_newPart 103 = .ok (.iconst 0, 1) := by decide +kernel
theorem dX9_newPart_104 : decode cX9_newPart 104 = .ok (.iastore, 1) := by decide +kernel
theorem dX9_newPart_105 : decode cX9_newPart 105 = .ok (.aload_n 0, 1) := by decide +kernel
theorem dX9_newPart_106 : decode cX9_newPart 106 = .ok (.getfield 46, 3) := by decide +kernel
theorem dX9_newPart_109 : decode cX9_newPart 109 = .ok (.iload 5, 2) := by decide +kernel
theorem dX9_newPart_111 : decode cX9_newPart 111 = .ok (.iconst 0, 1) := by decide +kernel
theorem dX9_newPart_112 : decode cX9_newPart 112 = .ok (.bastore, 1) := by decide +kernel
theorem dX9_newPart_113 : decode cX9_newPart 113 = .ok (.aload_n 0, 1) := by decide +kernel
theorem dX9_newPart_114 : decode cX9_newPart 114 = .ok (.getfield 50, 3) := by decide +kernel
theorem dX9_newPart_117 : decode cX9_newPart 117 = .ok (.iload 5, 2) := by decide +kernel
theorem dX9_newPart_119 : decode cX9_newPart 119 = .ok (.iconst 0, 1) := by decide +kernel
theorem dX9_newPart_120 : decode cX9_newPart 120 = .ok (.iastore, 1) := by decide +kernel
theorem dX9_newPart_121 : decode cX9_newPart 121 = .ok (.aload_n 0, 1) := by decide +kernel
theorem dX9_newPart_122 : decode cX9_newPart 122 = .ok (.dup, 1) := by decide +kernel
theorem dX9_newPart_123 : decode cX9_newPart 123 = .ok (.getfield 122, 3) := by decide +kernel
theorem dX9_newPart_126 : decode cX9_newPart 126 = .ok (.iconst 1, 1) := by decide +kernel
theorem dX9_newPart_127 : decode cX9_newPart 127 = .ok (.iadd, 1) := by decide +kernel
theorem dX9_newPart_128 : decode cX9_newPart 128 = .ok (.putfield 122, 3) := by decide +kernel
theorem dX9_newPart_131 : decode cX9_newPart 131 = .ok (.iload 5, 2) := by decide +kernel
theorem dX9_newPart_133 : decode cX9_newPart 133 = .ok (.ireturn, 1) := by decide +kernel
theorem dX9_isPlan_0 : decode cX9_isPlan 0 = .ok (.iload_n 0, 1) := by decide +kernel
theorem dX9_isPlan_1 : decode cX9_isPlan 1 = .ok (.iconst 1, 1) := by decide +kernel
theorem dX9_isPlan_2 : decode cX9_isPlan 2 = .ok (.bipush 30, 2) := by decide +kernel
theorem dX9_isPlan_4 : decode cX9_isPlan 4 = .ok (.invokestatic 125, 3) := by decide +kernel
theorem dX9_isPlan_7 : decode cX9_isPlan 7 = .ok (.ifCond .eq 29, 3) := by decide +kernel
theorem dX9_isPlan_10 : decode cX9_isPlan 10 = .ok (.iload_n 1, 1) := by decide +kernel
theorem dX9_isPlan_11 : decode cX9_isPlan 11 = .ok (.iconst 1, 1) := by decide +kernel
theorem dX9_isPlan_12 : decode cX9_isPlan 12 = .ok (.sipush 999, 3) := by decide +kernel
theorem dX9_isPlan_15 : decode cX9_isPlan 15 = .ok (.invokestatic 125, 3) := by decide +kernel
theorem dX9_isPlan_18 : decode cX9_isPlan 18 = .ok (.ifCond .eq 18, 3) := by decide +kernel
theorem dX9_isPlan_21 : decode cX9_isPlan 21 = .ok (.iload_n 2, 1) := by decide +kernel
theorem dX9_isPlan_22 : decode cX9_isPlan 22 = .ok (.iconst 0, 1) := by decide +kernel
theorem dX9_isPlan_23 : decode cX9_isPlan 23 = .ok (.sipush 999, 3) := by decide +kernel
theorem dX9_isPlan_26 : decode cX9_isPlan 26 = .ok (.invokestatic 125, 3) := by decide +kernel
theorem dX9_isPlan_29 : decode cX9_isPlan 29 = .ok (.ifCond .eq 7, 3) := by decide +kernel
theorem dX9_isPlan_32 : decode cX9_isPlan 32 = .ok (.iconst 1, 1) := by decide +kernel
theorem dX9_isPlan_33 : decode cX9_isPlan 33 = .ok (.goto 4, 3) := by decide +kernel
theorem dX9_isPlan_36 : decode cX9_isPlan 36 = .ok (.iconst 0, 1) := by decide +kernel
theorem dX9_isPlan_37 : decode cX9_isPlan 37 = .ok (.ireturn, 1) := by decide +kernel
theorem dX9_part_0 : decode cX9_part 0 = .ok (.iload_n 1, 1) := by decide +kernel
theorem dX9_part_1 : decode cX9_part 1 = .ok (.iload_n 2, 1) := by decide +kernel
theorem dX9_part_2 : decode cX9_part 2 = .ok (.iload_n 3, 1) := by decide +kernel
theorem dX9_part_3 : decode cX9_part 3 = .ok (.invokestatic 130, 3) := by decide +kernel
theorem dX9_part_6 : decode cX9_part 6 = .ok (.ifCond .ne 5, 3) := by decide +kernel
theorem dX9_part_9 : decode cX9_part 9 = .ok (.iconst (-1), 1) := by decide +kernel
theorem dX9_part_10 : decode cX9_part 10 = .ok (.ireturn, 1) := by decide +kernel
theorem dX9_part_11 : decode cX9_part 11 = .ok (.aload_n 0, 1) := by decide +kernel
theorem dX9_part_12 : decode cX9_part 12 = .ok (.getfield 122, 3) := by decide +kernel
theorem dX9_part_15 : decode cX9_part 15 = .ok (.bipush 40, 2) := by decide +kernel
theorem dX9_part_17 : decode cX9_part 17 = .ok (.if_icmp .ne 8, 3) := by decide +kernel
theorem dX9_part_20 : decode cX9_part 20 = .ok (.bipush (-3), 2) := by decide +kernel
theorem dX9_part_22 : decode cX9_part 22 = .ok (.goto 11, 3) := by decide +kernel
theorem dX9_part_25 : decode cX9_part 25 = .ok (.aload_n 0, 1) := by decide +kernel
theorem dX9_part_26 : decode cX9_part 26 = .ok (.iconst 0, 1) := by decide +kernel
theorem dX9_part_27 : decode cX9_part 27 = .ok (.iload_n 1, 1) := by decide +kernel
theorem dX9_part_28 : decode cX9_part 28 = .ok (.iload_n 2, 1) := by decide +kernel
theorem dX9_part_29 : decode cX9_part 29 = .ok (.iload_n 3, 1) := by decide +kernel
theorem dX9_part_30 : decode cX9_part 30 = .ok (.invokevirtual 133, 3) := by decide +kernel
theorem dX9_part_33 : decode cX9_part 33 = .ok (.ireturn, 1) := by decide +kernel
theorem dX9_support0_0 : decode cX9_support0 0 = .ok (.aload_n 0, 1) := by decide +kernel
theorem dX9_support0_1 : decode cX9_support0 1 = .ok (.getfield 53, 3) := by decide +kernel
theorem dX9_support0_4 : decode cX9_support0 4 = .ok (.iconst 4, 1) := by decide +kernel
theorem dX9_support0_5 : decode cX9_support0 5 = .ok (.iload_n 1, 1) := by decide +kernel
theorem dX9_support0_6 : decode cX9_support0 6 = .ok (.imul, 1) := by decide +kernel
theorem dX9_support0_7 : decode cX9_support0 7 = .ok (.iload_n 2, 1) := by decide +kernel
theorem dX9_support0_8 : decode cX9_support0 8 = .ok (.iadd, 1) := by decide +kernel
theorem dX9_support0_9 : decode cX9_support0 9 = .ok (.iload_n 3, 1) := by decide +kernel
theorem dX9_support0_10 : decode cX9_support0 10 = .ok (.iastore, 1) := by decide +kernel
theorem dX9_support0_11 : decode cX9_support0 11 = .ok (.aload_n 0, 1) := by decide +kernel
theorem dX9_support0_12 : decode cX9_support0 12 = .ok (.getfield 56, 3) := by decide +kernel
theorem dX9_support0_15 : decode cX9_support0 15 = .ok (.iconst 4, 1) := by decide +kernel
theorem dX9_support0_16 : decode cX9_support0 16 = .ok (.iload_n 1, 1) := by decide +kernel
theorem dX9_support0_17 : decode cX9_support0 17 = .ok (.imul, 1) := by decide +kernel
theorem dX9_support0_18 : decode cX9_support0 18 = .ok (.iload_n 2, 1) := by decide +kernel
theorem dX9_support0_19 : decode cX9_support0 19 = .ok (.iadd, 1) := by decide +kernel
theorem dX9_support0_20 : decode cX9_support0 20 = .ok (.iload 4, 2) := by decide +kernel
theorem dX9_support0_22 : decode cX9_support0 22 = .ok (.iastore, 1) := by decide +kernel
theorem dX9_support0_23 : decode cX9_support0 23 = .ok (.aload_n 0, 1) := by decide +kernel
theorem dX9_support0_24 : decode cX9_support0 24 = .ok (.getfield 50, 3) := by decide +kernel
theorem dX9_support0_27 : decode cX9_support0 27 = .ok (.iload_n 1, 1) := by decide +kernel
theorem dX9_support0_28 : decode cX9_support0 28 = .ok (.iload_n 2, 1) := by decide +kernel
theorem dX9_support0_29 : decode cX9_support0 29 = .ok (.iconst 1, 1) := by decide +kernel
theorem dX9_support0_30 : decode cX9_support0 30 = .ok (.iadd, 1) := by decide +kernel
theorem dX9_support0_31 : decode cX9_support0 31 = .ok (.iastore, 1) := by decide +kernel
theorem dX9_support0_32 : decode cX9_support0 32 = .ok (.return_, 1) := by decide +kernel
theorem dX9_arch_0 : decode cX9_arch 0 = .ok (.iload_n 1, 1) := by decide +kernel
theorem dX9_arch_1 : decode cX9_arch 1 = .ok (.iload_n 2, 1) := by decide +kernel
theorem dX9_arch_2 : decode cX9_arch 2 = .ok (.iload_n 3, 1) := by decide +kernel
theorem dX9_arch_3 : decode cX9_arch 3 = .ok (.invokestatic 130, 3) := by decide +kernel
theorem dX9_arch_6 : decode cX9_arch 6 = .ok (.ifCond .eq 28, 3) := by decide +kernel
theorem dX9_arch_9 : decode cX9_arch 9 = .ok (.aload_n 0, 1) := by decide +kernel
theorem dX9_arch_10 : decode cX9_arch 10 = .ok (.iload 4, 2) := by decide +kernel
theorem dX9_arch_12 : decode cX9_arch 12 = .ok (.invokevirtual 137, 3) := by decide +kernel
theorem dX9_arch_15 : decode cX9_arch 15 = .ok (.ifCond .eq 19, 3) := by decide +kernel
theorem dX9_arch_18 : decode cX9_arch 18 = .ok (.aload_n 0, 1) := by decide +kernel
theorem dX9_arch_19 : decode cX9_arch 19 = .ok (.iload 5, 2) := by decide +kernel
theorem dX9_arch_21 : decode cX9_arch 21 = .ok (.invokevirtual 137, 3) := by decide +kernel
theorem dX9_arch_24 : decode cX9_arch 24 = .ok (.ifCond .eq 10, 3) := by decide +kernel
theorem dX9_arch_27 : decode cX9_arch 27 = .ok (.iload 4, 2) := by decide +kernel
theorem dX9_arch_29 : decode cX9_arch 29 = .ok (.iload 5, 2) := by decide +kernel
theorem dX9_arch_31 : decode cX9_arch 31 = .ok (.if_icmp .ne 5, 3) := by decide +kernel
theorem dX9_arch_34 : decode cX9_arch 34 = .ok (.iconst (-1), 1) := by decide +kernel
theorem dX9_arch_35 : decode cX9_arch 35 = .ok (.ireturn, 1) := by decide +kernel
theorem dX9_arch_36 : decode cX9_arch 36 = .ok (.aload_n 0, 1) := by decide +kernel
theorem dX9_arch_37 : decode cX9_arch 37 = .ok (.getfield 122, 3) := by decide +kernel
theorem dX9_arch_40 : decode cX9_arch 40 = .ok (.bipush 40, 2) := by decide +kernel
theorem dX9_arch_42 : decode cX9_arch 42 = .ok (.if_icmp .ne 6, 3) := by decide +kernel
theorem dX9_arch_45 : decode cX9_arch 45 = .ok (.bipush (-3), 2) := by decide +kernel
theorem dX9_arch_47 : decode cX9_arch 47 = .ok (.ireturn, 1) := by decide +kernel
theorem dX9_arch_48 : decode cX9_arch 48 = .ok (.aload_n 0, 1) := by decide +kernel
theorem dX9_arch_49 : decode cX9_arch 49 = .ok (.iconst 1, 1) := by decide +kernel
theorem dX9_arch_50 : decode cX9_arch 50 = .ok (.iload_n 1, 1) := by decide +kernel
theorem dX9_arch_51 : decode cX9_arch 51 = .ok (.iload_n 2, 1) := by decide +kernel
theorem dX9_arch_52 : decode cX9_arch 52 = .ok (.iload_n 3, 1) := by decide +kernel
theorem dX9_arch_53 : decode cX9_arch 53 = .ok (.invokevirtual 133, 3) := by decide +kernel
theorem dX9_arch_56 : decode cX9_arch 56 = .ok (.istore 6, 2) := by decide +kernel
theorem dX9_arch_58 : decode cX9_arch 58 = .ok (.aload_n 0, 1) := by decide +kernel
theorem dX9_arch_59 : decode cX9_arch 59 = .ok (.iload 6, 2) := by decide +kernel
theorem dX9_arch_61 : decode cX9_arch 61 = .ok (.iconst 0, 1) := by decide +kernel
theorem dX9_arch_62 : decode cX9_arch 62 = .ok (.iload 4, 2) := by decide +kernel
theorem dX9_arch_64 : decode cX9_arch 64 = .ok (.bipush 6, 2) := by decide +kernel
theorem dX9_arch_66 : decode cX9_arch 66 = .ok (.invokevirtual 141, 3) := by decide +kernel
theorem dX9_arch_69 : decode cX9_arch 69 = .ok (.aload_n 0, 1) := by decide +kernel
theorem dX9_arch_70 : decode cX9_arch 70 = .ok (.iload 6, 2) := by decide +kernel
theorem dX9_arch_72 : decode cX9_arch 72 = .ok (.iconst 1, 1) := by decide +kernel
theorem dX9_arch_73 : decode cX9_arch 73 = .ok (.iload 5, 2) := by decide +kernel
theorem dX9_arch_75 : decode cX9_arch 75 = .ok (.bipush 6, 2) := by decide +kernel
theorem dX9_arch_77 : decode cX9_arch 77 = .ok (.invokevirtual 141, 3) := by decide +kernel
theorem dX9_arch_80 : decode cX9_arch 80 = .ok (.iload 6, 2) := by decide +kernel
theorem dX9_arch_82 : decode cX9_arch 82 = .ok (.ireturn, 1) := by decide +kernel
theorem dX9_edition_0 : decode cX9_edition 0 = .ok (.aload_n 0, 1) := by decide +kernel
theorem dX9_edition_1 : decode cX9_edition 1 = .ok (.dup, 1) := by decide +kernel
theorem dX9_edition_2 : decode cX9_edition 2 = .ok (.getfield 145, 3) := by decide +kernel
theorem dX9_edition_5 : decode cX9_edition 5 = .ok (.iconst 1, 1) := by decide +kernel
theorem dX9_edition_6 : decode cX9_edition 6 = .ok (.iadd, 1) := by decide +kernel
theorem dX9_edition_7 : decode cX9_edition 7 = .ok (.putfield 145, 3) := by decide +kernel
theorem dX9_edition_10 : decode cX9_edition 10 = .ok (.aload_n 0, 1) := by decide +kernel
theorem dX9_edition_11 : decode cX9_edition 11 = .ok (.getfield 66, 3) := by decide +kernel
theorem dX9_edition_14 : decode cX9_edition 14 = .ok (.aload_n 0, 1) := by decide +kernel
theorem dX9_edition_15 : decode cX9_edition 15 = .ok (.getfield 145, 3) := by decide +kernel
theorem dX9_edition_18 : decode cX9_edition 18 = .ok (.aload_n 0, 1) := by decide +kernel
theorem dX9_edition_19 : decode cX9_edition 19 = .ok (.getfield 122, 3) := by decide +kernel
theorem dX9_edition_22 : decode cX9_edition 22 = .ok (.iastore, 1) := by decide +kernel
theorem dX9_edition_23 : decode cX9_edition 23 = .ok (.iconst 0, 1) := by decide +kernel
theorem dX9_edition_24 : decode cX9_edition 24 = .ok (.istore_n 1, 1) := by decide +kernel
theorem dX9_edition_25 : decode cX9_edition 25 = .ok (.iload_n 1, 1) := by decide +kernel
theorem dX9_edition_26 : decode cX9_edition 26 = .ok (.aload_n 0, 1) := by decide +kernel
theorem dX9_edition_27 : decode cX9_edition 27 = .ok (.getfield 122, 3) := by decide +kernel
theorem dX9_edition_30 : decode cX9_edition 30 = .ok (.if_icmp .ge 29, 3) := by decide +kernel
theorem dX9_edition_33 : decode cX9_edition 33 = .ok (.aload_n 0, 1) := by decide +kernel
theorem dX9_edition_34 : decode cX9_edition 34 = .ok (.getfield 69, 3) := by decide +kernel
theorem dX9_edition_37 : decode cX9_edition 37 = .ok (.bipush 40, 2) := by decide +kernel
theorem dX9_edition_39 : decode cX9_edition 39 = .ok (.aload_n 0, 1) := by decide +kernel
theorem dX9_edition_40 : decode cX9_edition 40 = .ok (.getfield 145, 3) := by decide +kernel
theorem dX9_edition_43 : decode cX9_edition 43 = .ok (.imul, 1) := by decide +kernel
theorem dX9_edition_44 : decode cX9_edition 44 = .ok (.iload_n 1, 1) := by decide +kernel
theorem dX9_edition_45 : decode cX9_edition 45 = .ok (.iadd, 1) := by decide +kernel
theorem dX9_edition_46 : decode cX9_edition 46 = .ok (.aload_n 0, 1) := by decide +kernel
theorem dX9_edition_47 : decode cX9_edition 47 = .ok (.getfield 13, 3) := by decide +kernel
theorem dX9_edition_50 : decode cX9_edition 50 = .ok (.iload_n 1, 1) := by decide +kernel
theorem dX9_edition_51 : decode cX9_edition 51 = .ok (.iaload, 1) := by decide +kernel
theorem dX9_edition_52 : decode cX9_edition 52 = .ok (.iastore, 1) := by decide +kernel
theorem dX9_edition_53 : decode cX9_edition 53 = .ok (.iinc 1 1, 3) := by decide +kernel
theorem dX9_edition_56 : decode cX9_edition 56 = .ok (.goto (-31), 3) := by decide +kernel
theorem dX9_edition_59 : decode cX9_edition 59 = .ok (.return_, 1) := by decide +kernel
theorem dX9_bear_0 : decode cX9_bear 0 = .ok (.aload_n 0, 1) := by decide +kernel
theorem dX9_bear_1 : decode cX9_bear 1 = .ok (.iload_n 1, 1) := by decide +kernel
theorem dX9_bear_2 : decode cX9_bear 2 = .ok (.invokevirtual 137, 3) := by decide +kernel
theorem dX9_bear_5 : decode cX9_bear 5 = .ok (.ifCond .ne 5, 3) := by decide +kernel
theorem dX9_bear_8 : decode cX9_bear 8 = .ok (.iconst (-1), 1) := by decide +kernel
theorem dX9_bear_9 : decode cX9_bear 9 = .ok (.ireturn, 1) := by decide +kernel
theorem dX9_bear_10 : decode cX9_bear 10 = .ok (.aload_n 0, 1) := by decide +kernel
theorem dX9_bear_11 : decode cX9_bear 11 = .ok (.getfield 72, 3) := by decide +kernel
theorem dX9_bear_14 : decode cX9_bear 14 = .ok (.iconst 0, 1) := by decide +kernel
theorem dX9_bear_15 : decode cX9_bear 15 = .ok (.iload_n 2, 1) := by decide +kernel
theorem dX9_bear_16 : decode cX9_bear 16 = .ok (.iastore, 1) := by decide +kernel
theorem dX9_bear_17 : decode cX9_bear 17 = .ok (.aload_n 0, 1) := by decide +kernel
theorem dX9_bear_18 : decode cX9_bear 18 = .ok (.getfield 72, 3) := by decide +kernel
theorem dX9_bear_21 : decode cX9_bear 21 = .ok (.iconst 1, 1) := by decide +kernel
theorem dX9_bear_22 : decode cX9_bear 22 = .ok (.iload_n 3, 1) := by decide +kernel
theorem dX9_bear_23 : decode cX9_bear 23 = .ok (.iastore, 1) := by decide +kernel
theorem dX9_bear_24 : decode cX9_bear 24 = .ok (.aload_n 0, 1) := by decide +kernel
theorem dX9_bear_25 : decode cX9_bear 25 = .ok (.getfield 72, 3) := by decide +kernel
theorem dX9_bear_28 : decode cX9_bear 28 = .ok (.iconst 2, 1) := by decide +kernel
theorem dX9_bear_29 : decode cX9_bear 29 = .ok (.iload 4, 2) := by decide +kernel
theorem dX9_bear_31 : decode cX9_bear 31 = .ok (.iastore, 1) := by decide +kernel
theorem dX9_bear_32 : decode cX9_bear 32 = .ok (.aload_n 0, 1) := by decide +kernel
theorem dX9_bear_33 : decode cX9_bear 33 = .ok (.getfield 72, 3) := by decide +kernel
theorem dX9_bear_36 : decode cX9_bear 36 = .ok (.iconst 3, 1) := by decide +kernel
theorem dX9_bear_37 : decode cX9_bear 37 = .ok (.iload 5, 2) := by decide +kernel
theorem dX9_bear_39 : decode cX9_bear 39 = .ok (.iastore, 1) := by decide +kernel
theorem dX9_bear_40 : decode cX9_bear 40 = .ok (.iconst 0, 1) := by decide +kernel
theorem dX9_bear_41 : decode cX9_bear 41 = .ok (.istore 6, 2) := by decide +kernel
theorem dX9_bear_43 : decode cX9_bear 43 = .ok (.iload 6, 2) := by decide +kernel
theorem dX9_bear_45 : decode cX9_bear 45 = .ok (.iconst 4, 1) := by decide +kernel
theorem dX9_bear_46 : decode cX9_bear 46 = .ok (.if_icmp .ge 20, 3) := by decide +kernel
theorem dX9_bear_49 : decode cX9_bear 49 = .ok (.aload_n 0, 1) := by decide +kernel
theorem dX9_bear_50 : decode cX9_bear 50 = .ok (.getfield 72, 3) := by decide +kernel
theorem dX9_bear_53 : decode cX9_bear 53 = .ok (.iload 6, 2) := by decide +kernel
theorem dX9_bear_55 : decode cX9_bear 55 = .ok (.iaload, 1) := by decide +kernel
theorem dX9_bear_56 : decode cX9_bear 56 = .ok (.iconst (-1), 1) := by decide +kernel
theorem dX9_bear_57 : decode cX9_bear 57 = .ok (.if_icmp .eq 9, 3) := by decide +kernel
theorem dX9_bear_60 : decode cX9_bear 60 = .ok (.iinc 6 1, 3) := by decide +kernel
theorem dX9_bear_63 : decode cX9_bear 63 = .ok (.goto (-20), 3) := by decide +kernel
theorem dX9_bear_66 : decode cX9_bear 66 = .ok (.iconst 0, 1) := by decide +kernel
theorem dX9_bear_67 : decode cX9_bear 67 = .ok (.istore 7, 2) := by decide +kernel
theorem dX9_bear_69 : decode cX9_bear 69 = .ok (.iconst 0, 1) := by decide +kernel
theorem dX9_bear_70 : decode cX9_bear 70 = .ok (.istore 8, 2) := by decide +kernel
theorem dX9_bear_72 : decode cX9_bear 72 = .ok (.iload 8, 2) := by decide +kernel
theorem dX9_bear_74 : decode cX9_bear 74 = .ok (.iconst 4, 1) := by decide +kernel
theorem dX9_bear_75 : decode cX9_bear 75 = .ok (.if_icmp .ge 130, 3) := by decide +kernel
theorem dX9_bear_78 : decode cX9_bear 78 = .ok (.iload 8, 2) := by decide +kernel
theorem dX9_bear_80 : decode cX9_bear 80 = .ok (.iload 6, 2) := by decide +kernel
theorem dX9_bear_82 : decode cX9_bear 82 = .ok (.if_icmp .lt 16, 3) := by decide +kernel
theorem dX9_bear_85 : decode cX9_bear 85 = .ok (.aload_n 0, 1) := by decide +kernel
theorem dX9_bear_86 : decode cX9_bear 86 = .ok (.getfield 72, 3) := by decide +kernel
theorem dX9_bear_89 : decode cX9_bear 89 = .ok (.iload 8, 2) := by decide +kernel
theorem dX9_bear_91 : decode cX9_bear 91 = .ok (.iaload, 1) := by decide +kernel
theorem dX9_bear_92 : decode cX9_bear 92 = .ok (.iconst (-1), 1) := by decide +kernel
theorem dX9_bear_93 : decode cX9_bear 93 = .ok (.if_icmp .eq 106, 3) := by decide +kernel
theorem dX9_bear_96 : decode cX9_bear 96 = .ok (.iconst (-1), 1) := by decide +kernel
theorem dX9_bear_97 : decode cX9_bear 97 = .ok (.ireturn, 1) := by decide +kernel
theorem dX9_bear_98 : decode cX9_bear 98 = .ok (.aload_n 0, 1) := by decide +kernel
theorem dX9_bear_99 : decode cX9_bear 99 = .ok (.getfield 72, 3) := by decide +kernel
theorem dX9_bear_102 : decode cX9_bear 102 = .ok (.iload 8, 2) := by decide +kernel
theorem dX9_bear_104 : decode cX9_bear 104 = .ok (.iaload, 1) := by decide +kernel
theorem dX9_bear_105 : decode cX9_bear 105 = .ok (.ifCond .lt 36, 3) := by decide +kernel
theorem dX9_bear_108 : decode cX9_bear 108 = .ok (.aload_n 0, 1) := by decide +kernel
theorem dX9_bear_109 : decode cX9_bear 109 = .ok (.getfield 72, 3) := by decide +kernel
theorem dX9_bear_112 : decode cX9_bear 112 = .ok (.iload 8, 2) := by decide +kernel
theorem dX9_bear_114 : decode cX9_bear 114 = .ok (.iaload, 1) := by decide +kernel
theorem dX9_bear_115 : decode cX9_bear 115 = .ok (.bipush 100, 2) := by decide +kernel
theorem dX9_bear_117 : decode cX9_bear 117 = .ok (.idiv, 1) := by decide +kernel
theorem dX9_bear_118 : decode cX9_bear 118 = .ok (.iload_n 1, 1) := by decide +kernel
theorem dX9_bear_119 : decode cX9_bear 119 = .ok (.if_icmp .ge 22, 3) := by decide +kernel
theorem dX9_bear_122 : decode cX9_bear 122 = .ok (.aload_n 0, 1) := by decide +kernel
theorem dX9_bear_123 : decode cX9_bear 123 = .ok (.getfield 72, 3) := by decide +kernel
theorem dX9_bear_126 : decode cX9_bear 126 = .ok (.iload 8, 2) := by decide +kernel
theorem dX9_bear_128 : decode cX9_bear 128 = .ok (.iaload, 1) := by decide +kernel
theorem dX9_bear_129 : decode cX9_bear 129 = .ok (.bipush 100, 2) := by decide +kernel
theorem dX9_bear_131 : decode cX9_bear 131 = .ok (.irem, 1) := by decide +kernel
theorem dX9_bear_132 : decode cX9_bear 132 = .ok (.iconst 1, 1) := by decide +kernel
theorem dX9_bear_133 : decode cX9_bear 133 = .ok (.bipush 12, 2) := by decide +kernel
theorem dX9_bear_135 : decode cX9_bear 135 = .ok (.invokestatic 125, 3) := by decide +kernel
theorem dX9_bear_138 : decode cX9_bear 138 = .ok (.ifCond .ne 5, 3) := by decide +kernel
theorem dX9_bear_141 : decode cX9_bear 141 = .ok (.iconst (-1), 1) := by decide +kernel
theorem dX9_bear_142 : decode cX9_bear 142 = .ok (.ireturn, 1) := by decide +kernel
theorem dX9_bear_143 : decode cX9_bear 143 = .ok (.iload 7, 2) := by decide +kernel
theorem dX9_bear_145 : decode cX9_bear 145 = .ok (.aload_n 0, 1) := by decide +kernel
theorem dX9_bear_146 : decode cX9_bear 146 = .ok (.getfield 72, 3) := by decide +kernel
theorem dX9_bear_149 : decode cX9_bear 149 = .ok (.iload 8, 2) := by decide +kernel
theorem dX9_bear_151 : decode cX9_bear 151 = .ok (.iaload, 1) := by decide +kernel
theorem dX9_bear_152 : decode cX9_bear 152 = .ok (.bipush 100, 2) := by decide +kernel
theorem dX9_bear_154 : decode cX9_bear 154 = .ok (.irem, 1) := by decide +kernel
theorem dX9_bear_155 : decode cX9_bear 155 = .ok (.iadd, 1) := by decide +kernel
theorem dX9_bear_156 : decode cX9_bear 156 = .ok (.istore 7, 2) := by decide +kernel
theorem dX9_bear_158 : decode cX9_bear 158 = .ok (.iconst 0, 1) := by decide +kernel
theorem dX9_bear_159 : decode cX9_bear 159 = .ok (.istore 9, 2) := by decide +kernel
theorem dX9_bear_161 : decode cX9_bear 161 = .ok (.iload 9, 2) := by decide +kernel
theorem dX9_bear_163 : decode cX9_bear 163 = .ok (.iload 8, 2) := by decide +kernel
theorem dX9_bear_165 : decode cX9_bear 165 = .ok (.if_icmp .ge 34, 3) := by decide +kernel
theorem dX9_bear_168 : decode cX9_bear 168 = .ok (.aload_n 0, 1) := by decide +kernel
theorem dX9_bear_169 : decode cX9_bear 169 = .ok (.getfield 72, 3) := by decide +kernel
theorem dX9_bear_172 : decode cX9_bear 172 = .ok (.iload 9, 2) := by decide +kernel
theorem dX9_bear_174 : decode cX9_bear 174 = .ok (.iaload, 1) := by decide +kernel
theorem dX9_bear_175 : decode cX9_bear 175 = .ok (.bipush 100, 2) := by decide +kernel
theorem dX9_bear_177 : decode cX9_bear 177 = .ok (.idiv, 1) := by decide +kernel
theorem dX9_bear_178 : decode cX9_bear 178 = .ok (.aload_n 0, 1) := by decide +kernel
theorem dX9_bear_179 : decode cX9_bear 179 = .ok (.getfield 72, 3) := by decide +kernel
theorem dX9_bear_182 : decode cX9_bear 182 = .ok (.iload 8, 2) := by decide +kernel
theorem dX9_bear_184 : decode cX9_bear 184 = .ok (.iaload, 1) := by decide +kernel
theorem dX9_bear_185 : decode cX9_bear 185 = .ok (.bipush 100, 2) := by decide +kernel
theorem dX9_bear_187 : decode cX9_bear 187 = .ok (.idiv, 1) := by decide +kernel
theorem dX9_bear_188 : decode cX9_bear 188 = .ok (.if_icmp .ne 5, 3) := by decide +kernel
theorem dX9_bear_191 : decode cX9_bear 191 = .ok (.iconst (-1), 1) := by decide +kernel
theorem dX9_bear_192 : decode cX9_bear 192 = .ok (.ireturn, 1) := by decide +kernel
theorem dX9_bear_193 : decode cX9_bear 193 = .ok (.iinc 9 1, 3) := by decide +kernel
theorem dX9_bear_196 : decode cX9_bear 196 = .ok (.goto (-35), 3) := by decide +kernel
theorem dX9_bear_199 : decode cX9_bear 199 = .ok (.iinc 8 1, 3) := by decide +kernel
theorem dX9_bear_202 : decode cX9_bear 202 = .ok (.goto (-130), 3) := by decide +kernel
theorem dX9_bear_205 : decode cX9_bear 205 = .ok (.iload 6, 2) := by decide +kernel
theorem dX9_bear_207 : decode cX9_bear 207 = .ok (.ifCond .ne 16, 3) := by decide +kernel
theorem dX9_bear_210 : decode cX9_bear 210 = .ok (.aload_n 0, 1) := by decide +kernel
theorem dX9_bear_211 : decode cX9_bear 211 = .ok (.getfield 7, 3) := by decide +kernel
theorem dX9_bear_214 : decode cX9_bear 214 = .ok (.iload_n 1, 1) := by decide +kernel
theorem dX9_bear_215 : decode cX9_bear 215 = .ok (.iaload, 1) := by decide +kernel
theorem dX9_bear_216 : decode cX9_bear 216 = .ok (.iconst 1, 1) := by decide +kernel
theorem dX9_bear_217 : decode cX9_bear 217 = .ok (.if_icmp .ne 31, 3) := by decide +kernel
theorem dX9_bear_220 : decode cX9_bear 220 = .ok (.goto 26, 3) := by decide +kernel
theorem dX9_bear_223 : decode cX9_bear 223 = .ok (.iload 7, 2) := by decide +kernel
theorem dX9_bear_225 : decode cX9_bear 225 = .ok (.bipush 12, 2) := by decide +kernel
theorem dX9_bear_227 : decode cX9_bear 227 = .ok (.if_icmp .ne 19, 3) := by decide +kernel
theorem dX9_bear_230 : decode cX9_bear 230 = .ok (.aload_n 0, 1) := by decide +kernel
theorem dX9_bear_231 : decode cX9_bear 231 = .ok (.getfield 7, 3) := by decide +kernel
theorem dX9_bear_234 : decode cX9_bear 234 = .ok (.iload_n 1, 1) := by decide +kernel
theorem dX9_bear_235 : decode cX9_bear 235 = .ok (.iaload, 1) := by decide +kernel
theorem dX9_bear_236 : decode cX9_bear 236 = .ok (.iconst 1, 1) := by decide +kernel
theorem dX9_bear_237 : decode cX9_bear 237 = .ok (.if_icmp .ne 11, 3) := by decide +kernel
theorem dX9_bear_240 : decode cX9_bear 240 = .ok (.iload 6, 2) := by decide +kernel
theorem dX9_bear_242 : decode cX9_bear 242 = .ok (.iconst 2, 1) := by decide +kernel
theorem dX9_bear_243 : decode cX9_bear 243 = .ok (.if_icmp .ge 5, 3) := by decide +kernel
theorem dX9_bear_246 : decode cX9_bear 246 = .ok (.iconst (-1), 1) := by decide +kernel
theorem dX9_bear_247 : decode cX9_bear 247 = .ok (.ireturn, 1) := by decide +kernel
theorem dX9_bear_248 : decode cX9_bear 248 = .ok (.aload_n 0, 1) := by decide +kernel
theorem dX9_bear_249 : decode cX9_bear 249 = .ok (.getfield 40, 3) := by decide +kernel
theorem dX9_bear_252 : decode cX9_bear 252 = .ok (.iload_n 1, 1) := by decide +kernel
theorem dX9_bear_253 : decode cX9_bear 253 = .ok (.iaload, 1) := by decide +kernel
theorem dX9_bear_254 : decode cX9_bear 254 = .ok (.ifCond .le 6, 3) := by decide +kernel
theorem dX9_bear_257 : decode cX9_bear 257 = .ok (.bipush (-2), 2) := by decide +kernel
theorem dX9_bear_259 : decode cX9_bear 259 = .ok (.ireturn, 1) := by decide +kernel
theorem dX9_bear_260 : decode cX9_bear 260 = .ok (.aload_n 0, 1) := by decide +kernel
theorem dX9_bear_261 : decode cX9_bear 261 = .ok (.getfield 145, 3) := by decide +kernel
theorem dX9_bear_264 : decode cX9_bear 264 = .ok (.bipush 60, 2) := by decide +kernel
theorem dX9_bear_266 : decode cX9_bear 266 = .ok (.if_icmp .ne 6, 3) := by decide +kernel
theorem dX9_bear_269 : decode cX9_bear 269 = .ok (.bipush (-3), 2) := by decide +kernel
theorem dX9_bear_271 : decode cX9_bear 271 = .ok (.ireturn, 1) := by decide +kernel
theorem dX9_bear_272 : decode cX9_bear 272 = .ok (.aload_n 0, 1) := by decide +kernel
theorem dX9_bear_273 : decode cX9_bear 273 = .ok (.getfield 50, 3) := by decide +kernel
theorem dX9_bear_276 : decode cX9_bear 276 = .ok (.iload_n 1, 1) := by decide +kernel
theorem dX9_bear_277 : decode cX9_bear 277 = .ok (.iconst 0, 1) := by decide +kernel
theorem dX9_bear_278 : decode cX9_bear 278 = .ok (.iastore, 1) := by decide +kernel
theorem dX9_bear_279 : decode cX9_bear 279 = .ok (.iconst 0, 1) := by decide +kernel
theorem dX9_bear_280 : decode cX9_bear 280 = .ok (.istore 8, 2) := by decide +kernel
theorem dX9_bear_282 : decode cX9_bear 282 = .ok (.iload 8, 2) := by decide +kernel
theorem dX9_bear_284 : decode cX9_bear 284 = .ok (.iload 6, 2) := by decide +kernel
theorem dX9_bear_286 : decode cX9_bear 286 = .ok (.if_icmp .ge 36, 3) := by decide +kernel
theorem dX9_bear_289 : decode cX9_bear 289 = .ok (.aload_n 0, 1) := by decide +kernel
theorem dX9_bear_290 : decode cX9_bear 290 = .ok (.iload_n 1, 1) := by decide +kernel
theorem dX9_bear_291 : decode cX9_bear 291 = .ok (.iload 8, 2) := by decide +kernel
theorem dX9_bear_293 : decode cX9_bear 293 = .ok (.aload_n 0, 1) := by decide +kernel
theorem dX9_bear_294 : decode cX9_bear 294 = .ok (.getfield 72, 3) := by decide +kernel
theorem dX9_bear_297 : decode cX9_bear 297 = .ok (.iload 8, 2) := by decide +kernel
theorem dX9_bear_299 : decode cX9_bear 299 = .ok (.iaload, 1) := by decide +kernel
theorem dX9_bear_300 : decode cX9_bear 300 = .ok (.bipush 100, 2) := by decide +kernel
theorem dX9_bear_302 : decode cX9_bear 302 = .ok (.idiv, 1) := by decide +kernel
theorem dX9_bear_303 : decode cX9_bear 303 = .ok (.aload_n 0, 1) := by decide +kernel
theorem dX9_bear_304 : decode cX9_bear 304 = .ok (.getfield 72, 3) := by decide +kernel
theorem dX9_bear_307 : decode cX9_bear 307 = .ok (.iload 8, 2) := by decide +kernel
theorem dX9_bear_309 : decode cX9_bear 309 = .ok (.iaload, 1) := by decide +kernel
theorem dX9_bear_310 : decode cX9_bear 310 = .ok (.bipush 100, 2) := by decide +kernel
theorem dX9_bear_312 : decode cX9_bear 312 = .ok (.irem, 1) := by decide +kernel
theorem dX9_bear_313 : decode cX9_bear 313 = .ok (.invokevirtual 141, 3) := by decide +kernel
theorem dX9_bear_316 : decode cX9_bear 316 = .ok (.iinc 8 1, 3) := by decide +kernel
theorem dX9_bear_319 : decode cX9_bear 319 = .ok (.goto (-37), 3) := by decide +kernel
theorem dX9_bear_322 : decode cX9_bear 322 = .ok (.aload_n 0, 1) := by decide +kernel
theorem dX9_bear_323 : decode cX9_bear 323 = .ok (.invokevirtual 148, 3) := by decide +kernel
theorem dX9_bear_326 : decode cX9_bear 326 = .ok (.iload 6, 2) := by decide +kernel
theorem dX9_bear_328 : decode cX9_bear 328 = .ok (.ireturn, 1) := by decide +kernel
theorem dX9_edit_0 : decode cX9_edit 0 = .ok (.aload_n 0, 1) := by decide +kernel
theorem dX9_edit_1 : decode cX9_edit 1 = .ok (.iload_n 1, 1) := by decide +kernel
theorem dX9_edit_2 : decode cX9_edit 2 = .ok (.invokevirtual 137, 3) := by decide +kernel
theorem dX9_edit_5 : decode cX9_edit 5 = .ok (.ifCond .eq 13, 3) := by decide +kernel
theorem dX9_edit_8 : decode cX9_edit 8 = .ok (.iload_n 2, 1) := by decide +kernel
theorem dX9_edit_9 : decode cX9_edit 9 = .ok (.iconst 1, 1) := by decide +kernel
theorem dX9_edit_10 : decode cX9_edit 10 = .ok (.bipush 30, 2) := by decide +kernel
theorem dX9_edit_12 : decode cX9_edit 12 = .ok (.invokestatic 125, 3) := by decide +kernel
theorem dX9_edit_15 : decode cX9_edit 15 = .ok (.ifCond .ne 5, 3) := by decide +kernel
theorem dX9_edit_18 : decode cX9_edit 18 = .ok (.iconst (-1), 1) := by decide +kernel
theorem dX9_edit_19 : decode cX9_edit 19 = .ok (.ireturn, 1) := by decide +kernel
theorem dX9_edit_20 : decode cX9_edit 20 = .ok (.aload_n 0, 1) := by decide +kernel
theorem dX9_edit_21 : decode cX9_edit 21 = .ok (.getfield 40, 3) := by decide +kernel
theorem dX9_edit_24 : decode cX9_edit 24 = .ok (.iload_n 1, 1) := by decide +kernel
theorem dX9_edit_25 : decode cX9_edit 25 = .ok (.iaload, 1) := by decide +kernel
theorem dX9_edit_26 : decode cX9_edit 26 = .ok (.ifCond .le 6, 3) := by decide +kernel
theorem dX9_edit_29 : decode cX9_edit 29 = .ok (.bipush (-2), 2) := by decide +kernel
theorem dX9_edit_31 : decode cX9_edit 31 = .ok (.ireturn, 1) := by decide +kernel
theorem dX9_edit_32 : decode cX9_edit 32 = .ok (.aload_n 0, 1) := by decide +kernel
theorem dX9_edit_33 : decode cX9_edit 33 = .ok (.getfield 145, 3) := by decide +kernel
theorem dX9_edit_36 : decode cX9_edit 36 = .ok (.bipush 60, 2) := by decide +kernel
theorem dX9_edit_38 : decode cX9_edit 38 = .ok (.if_icmp .ne 6, 3) := by decide +kernel
theorem dX9_edit_41 : decode cX9_edit 41 = .ok (.bipush (-3), 2) := by decide +kernel
theorem dX9_edit_43 : decode cX9_edit 43 = .ok (.ireturn, 1) := by decide +kernel
theorem dX9_edit_44 : decode cX9_edit 44 = .ok (.aload_n 0, 1) := by decide +kernel
theorem dX9_edit_45 : decode cX9_edit 45 = .ok (.getfield 13, 3) := by decide +kernel
theorem dX9_edit_48 : decode cX9_edit 48 = .ok (.iload_n 1, 1) := by decide +kernel
theorem dX9_edit_49 : decode cX9_edit 49 = .ok (.iload_n 2, 1) := by decide +kernel
theorem dX9_edit_50 : decode cX9_edit 50 = .ok (.iastore, 1) := by decide +kernel
theorem dX9_edit_51 : decode cX9_edit 51 = .ok (.aload_n 0, 1) := by decide +kernel
theorem dX9_edit_52 : decode cX9_edit 52 = .ok (.invokevirtual 148, 3) := by decide +kernel
theorem dX9_edit_55 : decode cX9_edit 55 = .ok (.aload_n 0, 1) := by decide +kernel
theorem dX9_edit_56 : decode cX9_edit 56 = .ok (.getfield 145, 3) := by decide +kernel
theorem dX9_edit_59 : decode cX9_edit 59 = .ok (.ireturn, 1) := by decide +kernel
theorem dX9_wanted_0 : decode cX9_wanted 0 = .ok (.iload_n 1, 1) := by decide +kernel
theorem dX9_wanted_1 : decode cX9_wanted 1 = .ok (.iconst 0, 1) := by decide +kernel
theorem dX9_wanted_2 : decode cX9_wanted 2 = .ok (.aload_n 0, 1) := by decide +kernel
theorem dX9_wanted_3 : decode cX9_wanted 3 = .ok (.getfield 145, 3) := by decide +kernel
theorem dX9_wanted_6 : decode cX9_wanted 6 = .ok (.invokestatic 125, 3) := by decide +kernel
theorem dX9_wanted_9 : decode cX9_wanted 9 = .ok (.ifCond .eq 11, 3) := by decide +kernel
theorem dX9_wanted_12 : decode cX9_wanted 12 = .ok (.aload_n 0, 1) := by decide +kernel
theorem dX9_wanted_13 : decode cX9_wanted 13 = .ok (.iload_n 2, 1) := by decide +kernel
theorem dX9_wanted_14 : decode cX9_wanted 14 = .ok (.invokevirtual 137, 3) := by decide +kernel
theorem dX9_wanted_17 : decode cX9_wanted 17 = .ok (.ifCond .ne 5, 3) := by decide +kernel
theorem dX9_wanted_20 : decode cX9_wanted 20 = .ok (.iconst (-1), 1) := by decide +kernel
theorem dX9_wanted_21 : decode cX9_wanted 21 = .ok (.ireturn, 1) := by decide +kernel
theorem dX9_wanted_22 : decode cX9_wanted 22 = .ok (.iload_n 1, 1) := by decide +kernel
theorem dX9_wanted_23 : decode cX9_wanted 23 = .ok (.ifCond .ne 10, 3) := by decide +kernel
theorem dX9_wanted_26 : decode cX9_wanted 26 = .ok (.aload_n 0, 1) := by decide +kernel
theorem dX9_wanted_27 : decode cX9_wanted 27 = .ok (.getfield 16, 3) := by decide +kernel
theorem dX9_wanted_30 : decode cX9_wanted 30 = .ok (.iload_n 2, 1) := by decide +kernel
theorem dX9_wanted_31 : decode cX9_wanted 31 = .ok (.iaload, 1) := by decide +kernel
theorem dX9_wanted_32 : decode cX9_wanted 32 = .ok (.ireturn, 1) := by decide +kernel
theorem dX9_wanted_33 : decode cX9_wanted 33 = .ok (.iload_n 2, 1) := by decide +kernel
theorem dX9_wanted_34 : decode cX9_wanted 34 = .ok (.aload_n 0, 1) := by decide +kernel
theorem dX9_wanted_35 : decode cX9_wanted 35 = .ok (.getfield 66, 3) := by decide +kernel
theorem dX9_wanted_38 : decode cX9_wanted 38 = .ok (.iload_n 1, 1) := by decide +kernel
theorem dX9_wanted_39 : decode cX9_wanted 39 = .ok (.iaload, 1) := by decide +kernel
theorem dX9_wanted_40 : decode cX9_wanted 40 = .ok (.if_icmp .ge 17, 3) := by decide +kernel
theorem dX9_wanted_43 : decode cX9_wanted 43 = .ok (.aload_n 0, 1) := by decide +kernel
theorem dX9_wanted_44 : decode cX9_wanted 44 = .ok (.getfield 69, 3) := by decide +kernel
theorem dX9_wanted_47 : decode cX9_wanted 47 = .ok (.bipush 40, 2) := by decide +kernel
theorem dX9_wanted_49 : decode cX9_wanted 49 = .ok (.iload_n 1, 1) := by decide +kernel
theorem dX9_wanted_50 : decode cX9_wanted 50 = .ok (.imul, 1) := by decide +kernel
theorem dX9_wanted_51 : decode cX9_wanted 51 = .ok (.iload_n 2, 1) := by decide +kernel
theorem dX9_wanted_52 : decode cX9_wanted 52 = .ok (.iadd, 1) := by decide +kernel
theorem dX9_wanted_53 : decode cX9_wanted 53 = .ok (.iaload, 1) := by decide +kernel
theorem dX9_wanted_54 : decode cX9_wanted 54 = .ok (.goto 4, 3) := by decide +kernel
theorem dX9_wanted_57 : decode cX9_wanted 57 = .ok (.iconst (-1), 1) := by decide +kernel
theorem dX9_wanted_58 : decode cX9_wanted 58 = .ok (.ireturn, 1) := by decide +kernel
theorem dX9_goes_0 : decode cX9_goes 0 = .ok (.iload_n 2, 1) := by decide +kernel
theorem dX9_goes_1 : decode cX9_goes 1 = .ok (.ifCond .le 24, 3) := by decide +kernel
theorem dX9_goes_4 : decode cX9_goes 4 = .ok (.aload_n 0, 1) := by decide +kernel
theorem dX9_goes_5 : decode cX9_goes 5 = .ok (.getfield 75, 3) := by decide +kernel
theorem dX9_goes_8 : decode cX9_goes 8 = .ok (.iload_n 1, 1) := by decide +kernel
theorem dX9_goes_9 : decode cX9_goes 9 = .ok (.iaload, 1) := by decide +kernel
theorem dX9_goes_10 : decode cX9_goes 10 = .ok (.aload_n 0, 1) := by decide +kernel
theorem dX9_goes_11 : decode cX9_goes 11 = .ok (.getfield 56, 3) := by decide +kernel
theorem dX9_goes_14 : decode cX9_goes 14 = .ok (.iconst 4, 1) := by decide +kernel
theorem dX9_goes_15 : decode cX9_goes 15 = .ok (.iload_n 1, 1) := by decide +kernel
theorem dX9_goes_16 : decode cX9_goes 16 = .ok (.imul, 1) := by decide +kernel
theorem dX9_goes_17 : decode cX9_goes 17 = .ok (.iload_n 2, 1) := by decide +kernel
theorem dX9_goes_18 : decode cX9_goes 18 = .ok (.iadd, 1) := by decide +kernel
theorem dX9_goes_19 : decode cX9_goes 19 = .ok (.iaload, 1) := by decide +kernel
theorem dX9_goes_20 : decode cX9_goes 20 = .ok (.imul, 1) := by decide +kernel
theorem dX9_goes_21 : decode cX9_goes 21 = .ok (.bipush 12, 2) := by decide +kernel
theorem dX9_goes_23 : decode cX9_goes 23 = .ok (.idiv, 1) := by decide +kernel
theorem dX9_goes_24 : decode cX9_goes 24 = .ok (.ireturn, 1) := by decide +kernel
theorem dX9_goes_25 : decode cX9_goes 25 = .ok (.aload_n 0, 1) := by decide +kernel
theorem dX9_goes_26 : decode cX9_goes 26 = .ok (.getfield 75, 3) := by decide +kernel
theorem dX9_goes_29 : decode cX9_goes 29 = .ok (.iload_n 1, 1) := by decide +kernel
theorem dX9_goes_30 : decode cX9_goes 30 = .ok (.iaload, 1) := by decide +kernel
theorem dX9_goes_31 : decode cX9_goes 31 = .ok (.istore_n 3, 1) := by decide +kernel
theorem dX9_goes_32 : decode cX9_goes 32 = .ok (.iconst 1, 1) := by decide +kernel
theorem dX9_goes_33 : decode cX9_goes 33 = .ok (.istore 4, 2) := by decide +kernel
theorem dX9_goes_35 : decode cX9_goes 35 = .ok (.iload 4, 2) := by decide +kernel
theorem dX9_goes_37 : decode cX9_goes 37 = .ok (.aload_n 0, 1) := by decide +kernel
theorem dX9_goes_38 : decode cX9_goes 38 = .ok (.getfield 50, 3) := by decide +kernel
theorem dX9_goes_41 : decode cX9_goes 41 = .ok (.iload_n 1, 1) := by decide +kernel
theorem dX9_goes_42 : decode cX9_goes 42 = .ok (.iaload, 1) := by decide +kernel
theorem dX9_goes_43 : decode cX9_goes 43 = .ok (.if_icmp .ge 33, 3) := by decide +kernel
theorem dX9_goes_46 : decode cX9_goes 46 = .ok (.iload_n 3, 1) := by decide +kernel
theorem dX9_goes_47 : decode cX9_goes 47 = .ok (.aload_n 0, 1) := by decide +kernel
theorem dX9_goes_48 : decode cX9_goes 48 = .ok (.getfield 75, 3) := by decide +kernel
theorem dX9_goes_51 : decode cX9_goes 51 = .ok (.iload_n 1, 1) := by decide +kernel
theorem dX9_goes_52 : decode cX9_goes 52 = .ok (.iaload, 1) := by decide +kernel
theorem dX9_goes_53 : decode cX9_goes 53 = .ok (.aload_n 0, 1) := by decide +kernel
theorem dX9_goes_54 : decode cX9_goes 54 = .ok (.getfield 56, 3) := by decide +kernel
theorem dX9_goes_57 : decode cX9_goes 57 = .ok (.iconst 4, 1) := by decide +kernel
theorem dX9_goes_58 : decode cX9_goes 58 = .ok (.iload_n 1, 1) := by decide +kernel
theorem dX9_goes_59 : decode cX9_goes 59 = .ok (.imul, 1) := by decide +kernel
theorem dX9_goes_60 : decode cX9_goes 60 = .ok (.iload 4, 2) := by decide +kernel
theorem dX9_goes_62 : decode cX9_goes 62 = .ok (.iadd, 1) := by decide +kernel
theorem dX9_goes_63 : decode cX9_goes 63 = .ok (.iaload, 1) := by decide +kernel
theorem dX9_goes_64 : decode cX9_goes 64 = .ok (.imul, 1) := by decide +kernel
theorem dX9_goes_65 : decode cX9_goes 65 = .ok (.bipush 12, 2) := by decide +kernel
theorem dX9_goes_67 : decode cX9_goes 67 = .ok (.idiv, 1) := by decide +kernel
theorem dX9_goes_68 : decode cX9_goes 68 = .ok (.isub, 1) := by decide +kernel
theorem dX9_goes_69 : decode cX9_goes 69 = .ok (.istore_n 3, 1) := by decide +kernel
theorem dX9_goes_70 : decode cX9_goes 70 = .ok (.iinc 4 1, 3) := by decide +kernel
theorem dX9_goes_73 : decode cX9_goes 73 = .ok (.goto (-38), 3) := by decide +kernel
theorem dX9_goes_76 : decode cX9_goes 76 = .ok (.iload_n 3, 1) := by decide +kernel
theorem dX9_goes_77 : decode cX9_goes 77 = .ok (.ireturn, 1) := by decide +kernel
theorem dX9_weigh_0 : decode cX9_weigh 0 = .ok (.iconst 0, 1) := by decide +kernel
theorem dX9_weigh_1 : decode cX9_weigh 1 = .ok (.istore_n 1, 1) := by decide +kernel
theorem dX9_weigh_2 : decode cX9_weigh 2 = .ok (.iload_n 1, 1) := by decide +kernel
theorem dX9_weigh_3 : decode cX9_weigh 3 = .ok (.aload_n 0, 1) := by decide +kernel
theorem dX9_weigh_4 : decode cX9_weigh 4 = .ok (.getfield 122, 3) := by decide +kernel
theorem dX9_weigh_7 : decode cX9_weigh 7 = .ok (.if_icmp .ge 35, 3) := by decide +kernel
theorem dX9_weigh_10 : decode cX9_weigh 10 = .ok (.aload_n 0, 1) := by decide +kernel
theorem dX9_weigh_11 : decode cX9_weigh 11 = .ok (.getfield 75, 3) := by decide +kernel
theorem dX9_weigh_14 : decode cX9_weigh 14 = .ok (.iload_n 1, 1) := by decide +kernel
theorem dX9_weigh_15 : decode cX9_weigh 15 = .ok (.aload_n 0, 1) := by decide +kernel
theorem dX9_weigh_16 : decode cX9_weigh 16 = .ok (.getfield 40, 3) := by decide +kernel
theorem dX9_weigh_19 : decode cX9_weigh 19 = .ok (.iload_n 1, 1) := by decide +kernel
theorem dX9_weigh_20 : decode cX9_weigh 20 = .ok (.iaload, 1) := by decide +kernel
theorem dX9_weigh_21 : decode cX9_weigh 21 = .ok (.aload_n 0, 1) := by decide +kernel
theorem dX9_weigh_22 : decode cX9_weigh 22 = .ok (.getfield 19, 3) := by decide +kernel
theorem dX9_weigh_25 : decode cX9_weigh 25 = .ok (.iload_n 1, 1) := by decide +kernel
theorem dX9_weigh_26 : decode cX9_weigh 26 = .ok (.iaload, 1) := by decide +kernel
theorem dX9_weigh_27 : decode cX9_weigh 27 = .ok (.imul, 1) := by decide +kernel
theorem dX9_weigh_28 : decode cX9_weigh 28 = .ok (.iastore, 1) := by decide +kernel
theorem dX9_weigh_29 : decode cX9_weigh 29 = .ok (.aload_n 0, 1) := by decide +kernel
theorem dX9_weigh_30 : decode cX9_weigh 30 = .ok (.getfield 78, 3) := by decide +kernel
theorem dX9_weigh_33 : decode cX9_weigh 33 = .ok (.iload_n 1, 1) := by decide +kernel
theorem dX9_weigh_34 : decode cX9_weigh 34 = .ok (.iconst 0, 1) := by decide +kernel
theorem dX9_weigh_35 : decode cX9_weigh 35 = .ok (.iastore, 1) := by decide +kernel
theorem dX9_weigh_36 : decode cX9_weigh 36 = .ok (.iinc 1 1, 3) := by decide +kernel
theorem dX9_weigh_39 : decode cX9_weigh 39 = .ok (.goto (-37), 3) := by decide +kernel
theorem dX9_weigh_42 : decode cX9_weigh 42 = .ok (.aload_n 0, 1) := by decide +kernel
theorem dX9_weigh_43 : decode cX9_weigh 43 = .ok (.getfield 122, 3) := by decide +kernel
theorem dX9_weigh_46 : decode cX9_weigh 46 = .ok (.iconst 1, 1) := by decide +kernel
theorem dX9_weigh_47 : decode cX9_weigh 47 = .ok (.isub, 1) := by decide +kernel
theorem dX9_weigh_48 : decode cX9_weigh 48 = .ok (.istore_n 1, 1) := by decide +kernel
theorem dX9_weigh_49 : decode cX9_weigh 49 = .ok (.iload_n 1, 1) := by decide +kernel
theorem dX9_weigh_50 : decode cX9_weigh 50 = .ok (.ifCond .lt 141, 3) := by decide +kernel
theorem dX9_weigh_53 : decode cX9_weigh 53 = .ok (.aload_n 0, 1) := by decide +kernel
theorem dX9_weigh_54 : decode cX9_weigh 54 = .ok (.getfield 46, 3) := by decide +kernel
theorem dX9_weigh_57 : decode cX9_weigh 57 = .ok (.iload_n 1, 1) := by decide +kernel
theorem dX9_weigh_58 : decode cX9_weigh 58 = .ok (.baload, 1) := by decide +kernel
theorem dX9_weigh_59 : decode cX9_weigh 59 = .ok (.ifCond .eq 6, 3) := by decide +kernel
theorem dX9_weigh_62 : decode cX9_weigh 62 = .ok (.goto 123, 3) := by decide +kernel
theorem dX9_weigh_65 : decode cX9_weigh 65 = .ok (.iconst 0, 1) := by decide +kernel
theorem dX9_weigh_66 : decode cX9_weigh 66 = .ok (.istore_n 2, 1) := by decide +kernel
theorem dX9_weigh_67 : decode cX9_weigh 67 = .ok (.iload_n 2, 1) := by decide +kernel
theorem dX9_weigh_68 : decode cX9_weigh 68 = .ok (.aload_n 0, 1) := by decide +kernel
theorem dX9_weigh_69 : decode cX9_weigh 69 = .ok (.getfield 50, 3) := by decide +kernel
theorem dX9_weigh_72 : decode cX9_weigh 72 = .ok (.iload_n 1, 1) := by decide +kernel
theorem dX9_weigh_73 : decode cX9_weigh 73 = .ok (.iaload, 1) := by decide +kernel
theorem dX9_weigh_74 : decode cX9_weigh 74 = .ok (.if_icmp .ge 33, 3) := by decide +kernel
theorem dX9_weigh_77 : decode cX9_weigh 77 = .ok (.aload_n 0, 1) := by decide +kernel
theorem dX9_weigh_78 : decode cX9_weigh 78 = .ok (.getfield 75, 3) := by decide +kernel
theorem dX9_weigh_81 : decode cX9_weigh 81 = .ok (.aload_n 0, 1) := by decide +kernel
theorem dX9_weigh_82 : decode cX9_weigh 82 = .ok (.getfield 53, 3) := by decide +kernel
theorem dX9_weigh_85 : decode cX9_weigh 85 = .ok (.iconst 4, 1) := by decide +kernel
theorem dX9_weigh_86 : decode cX9_weigh 86 = .ok (.iload_n 1, 1) := by decide +kernel
theorem dX9_weigh_87 : decode cX9_weigh 87 = .ok (.imul, 1) := by decide +kernel
theorem dX9_weigh_88 : decode cX9_weigh 88 = .ok (.iload_n 2, 1) := by decide +kernel
theorem dX9_weigh_89 : decode cX9_weigh 89 = .ok (.iadd, 1) := by decide +kernel
theorem dX9_weigh_90 : decode cX9_weigh 90 = .ok (.iaload, 1) := by decide +kernel
theorem dX9_weigh_91 : decode cX9_weigh 91 = .ok (.dup2, 1) := by decide +kernel
theorem dX9_weigh_92 : decode cX9_weigh 92 = .ok (.iaload, 1) := by decide +kernel
theorem dX9_weigh_93 : decode cX9_weigh 93 = .ok (.aload_n 0, 1) := by decide +kernel
theorem dX9_weigh_94 : decode cX9_weigh 94 = .ok (.iload_n 1, 1) := by decide +kernel
theorem dX9_weigh_95 : decode cX9_weigh 95 = .ok (.iload_n 2, 1) := by decide +kernel
theorem dX9_weigh_96 : decode cX9_weigh 96 = .ok (.invokevirtual 151, 3) := by decide +kernel
theorem dX9_weigh_99 : decode cX9_weigh 99 = .ok (.iadd, 1) := by decide +kernel
theorem dX9_weigh_100 : decode cX9_weigh 100 = .ok (.iastore, 1) := by decide +kernel
theorem dX9_weigh_101 : decode cX9_weigh 101 = .ok (.iinc 2 1, 3) := by decide +kernel
theorem dX9_weigh_104 : decode cX9_weigh 104 = .ok (.goto (-37), 3) := by decide +kernel
theorem dX9_weigh_107 : decode cX9_weigh 107 = .ok (.aload_n 0, 1) := by decide +kernel
theorem dX9_weigh_108 : decode cX9_weigh 108 = .ok (.getfield 7, 3) := by decide +kernel
theorem dX9_weigh_111 : decode cX9_weigh 111 = .ok (.iload_n 1, 1) := by decide +kernel
theorem dX9_weigh_112 : decode cX9_weigh 112 = .ok (.iaload, 1) := by decide +kernel
theorem dX9_weigh_113 : decode cX9_weigh 113 = .ok (.ifCond .eq 72, 3) := by decide +kernel
theorem dX9_weigh_116 : decode cX9_weigh 116 = .ok (.aload_n 0, 1) := by decide +kernel
theorem dX9_weigh_117 : decode cX9_weigh 117 = .ok (.getfield 40, 3) := by decide +kernel
theorem dX9_weigh_120 : decode cX9_weigh 120 = .ok (.iload_n 1, 1) := by decide +kernel
theorem dX9_weigh_121 : decode cX9_weigh 121 = .ok (.iaload, 1) := by decide +kernel
theorem dX9_weigh_122 : decode cX9_weigh 122 = .ok (.ifCond .ne 6, 3) := by decide +kernel
theorem dX9_weigh_125 : decode cX9_weigh 125 = .ok (.goto 60, 3) := by decide +kernel
theorem dX9_weigh_128 : decode cX9_weigh 128 = .ok (.aload_n 0, 1) := by decide +kernel
theorem dX9_weigh_129 : decode cX9_weigh 129 = .ok (.getfield 75, 3) := by decide +kernel
theorem dX9_weigh_132 : decode cX9_weigh 132 = .ok (.iload_n 1, 1) := by decide +kernel
theorem dX9_weigh_133 : decode cX9_weigh 133 = .ok (.iaload, 1) := by decide +kernel
theorem dX9_weigh_134 : decode cX9_weigh 134 = .ok (.i2l, 1) := by decide +kernel
theorem dX9_weigh_135 : decode cX9_weigh 135 = .ok (.aload_n 0, 1) := by decide +kernel
theorem dX9_weigh_136 : decode cX9_weigh 136 = .ok (.getfield 31, 3) := by decide +kernel
theorem dX9_weigh_139 : decode cX9_weigh 139 = .ok (.iload_n 1, 1) := by decide +kernel
theorem dX9_weigh_140 : decode cX9_weigh 140 = .ok (.iaload, 1) := by decide +kernel
theorem dX9_weigh_141 : decode cX9_weigh 141 = .ok (.i2l, 1) := by decide +kernel
theorem dX9_weigh_142 : decode cX9_weigh 142 = .ok (.lmul, 1) := by decide +kernel
theorem dX9_weigh_143 : decode cX9_weigh 143 = .ok (.ldc2_w 155, 3) := by decide +kernel
theorem dX9_weigh_146 : decode cX9_weigh 146 = .ok (.ldiv, 1) := by decide +kernel
theorem dX9_weigh_147 : decode cX9_weigh 147 = .ok (.l2i, 1) := by decide +kernel
theorem dX9_weigh_148 : decode cX9_weigh 148 = .ok (.istore_n 2, 1) := by decide +kernel
theorem dX9_weigh_149 : decode cX9_weigh 149 = .ok (.aload_n 0, 1) := by decide +kernel
theorem dX9_weigh_150 : decode cX9_weigh 150 = .ok (.getfield 78, 3) := by decide +kernel
theorem dX9_weigh_153 : decode cX9_weigh 153 = .ok (.aload_n 0, 1) := by decide +kernel
theorem dX9_weigh_154 : decode cX9_weigh 154 = .ok (.getfield 53, 3) := by decide +kernel
theorem dX9_weigh_157 : decode cX9_weigh 157 = .ok (.iconst 4, 1) := by decide +kernel
theorem dX9_weigh_158 : decode cX9_weigh 158 = .ok (.iload_n 1, 1) := by decide +kernel
theorem dX9_weigh_159 : decode cX9_weigh 159 = .ok (.imul, 1) := by decide +kernel
theorem dX9_weigh_160 : decode cX9_weigh 160 = .ok (.iaload, 1) := by decide +kernel
theorem dX9_weigh_161 : decode cX9_weigh 161 = .ok (.dup2, 1) := by decide +kernel
theorem dX9_weigh_162 : decode cX9_weigh 162 = .ok (.iaload, 1) := by decide +kernel
theorem dX9_weigh_163 : decode cX9_weigh 163 = .ok (.iload_n 2, 1) := by decide +kernel
theorem dX9_weigh_164 : decode cX9_weigh 164 = .ok (.isub, 1) := by decide +kernel
theorem dX9_weigh_165 : decode cX9_weigh 165 = .ok (.iastore, 1) := by decide +kernel
theorem dX9_weigh_166 : decode cX9_weigh 166 = .ok (.aload_n 0, 1) := by decide +kernel
theorem dX9_weigh_167 : decode cX9_weigh 167 = .ok (.getfield 78, 3) := by decide +kernel
theorem dX9_weigh_170 : decode cX9_weigh 170 = .ok (.aload_n 0, 1) := by decide +kernel
theorem dX9_weigh_171 : decode cX9_weigh 171 = .ok (.getfield 53, 3) := by decide +kernel
theorem dX9_weigh_174 : decode cX9_weigh 174 = .ok (.iconst 4, 1) := by decide +kernel
theorem dX9_weigh_175 : decode cX9_weigh 175 = .ok (.iload_n 1, 1) := by decide +kernel
theorem dX9_weigh_176 : decode cX9_weigh 176 = .ok (.imul, 1) := by decide +kernel
theorem dX9_weigh_177 : decode cX9_weigh 177 = .ok (.iconst 1, 1) := by decide +kernel
theorem dX9_weigh_178 : decode cX9_weigh 178 = .ok (.iadd, 1) := by decide +kernel
theorem dX9_weigh_179 : decode cX9_weigh 179 = .ok (.iaload, 1) := by decide +kernel
theorem dX9_weigh_180 : decode cX9_weigh 180 = .ok (.dup2, 1) := by decide +kernel
theorem dX9_weigh_181 : decode cX9_weigh 181 = .ok (.iaload, 1) := by decide +kernel
theorem dX9_weigh_182 : decode cX9_weigh 182 = .ok (.iload_n 2, 1) := by decide +kernel
theorem dX9_weigh_183 : decode cX9_weigh 183 = .ok (.iadd, 1) := by decide +kernel
theorem dX9_weigh_184 : decode cX9_weigh 184 = .ok (.iastore, 1) := by decide +kernel
theorem dX9_weigh_185 : decode cX9_weigh 185 = .ok (.iinc 1 (-1), 3) := by decide +kernel
theorem dX9_weigh_188 : decode cX9_weigh 188 = .ok (.goto (-139), 3) := by decide +kernel
theorem dX9_weigh_191 : decode cX9_weigh 191 = .ok (.return_, 1) := by decide +kernel
theorem dX9_net_0 : decode cX9_net 0 = .ok (.aload_n 0, 1) := by decide +kernel
theorem dX9_net_1 : decode cX9_net 1 = .ok (.getfield 78, 3) := by decide +kernel
theorem dX9_net_4 : decode cX9_net 4 = .ok (.iload_n 1, 1) := by decide +kernel
theorem dX9_net_5 : decode cX9_net 5 = .ok (.iaload, 1) := by decide +kernel
theorem dX9_net_6 : decode cX9_net 6 = .ok (.ifCond .ge 13, 3) := by decide +kernel
theorem dX9_net_9 : decode cX9_net 9 = .ok (.aload_n 0, 1) := by decide +kernel
theorem dX9_net_10 : decode cX9_net 10 = .ok (.getfield 78, 3) := by decide +kernel
theorem dX9_net_13 : decode cX9_net 13 = .ok (.iload_n 1, 1) := by decide +kernel
theorem dX9_net_14 : decode cX9_net 14 = .ok (.iaload, 1) := by decide +kernel
theorem dX9_net_15 : decode cX9_net 15 = .ok (.ineg, 1) := by decide +kernel
theorem dX9_net_16 : decode cX9_net 16 = .ok (.goto 9, 3) := by decide +kernel
theorem dX9_net_19 : decode cX9_net 19 = .ok (.aload_n 0, 1) := by decide +kernel
theorem dX9_net_20 : decode cX9_net 20 = .ok (.getfield 78, 3) := by decide +kernel
theorem dX9_net_23 : decode cX9_net 23 = .ok (.iload_n 1, 1) := by decide +kernel
theorem dX9_net_24 : decode cX9_net 24 = .ok (.iaload, 1) := by decide +kernel
theorem dX9_net_25 : decode cX9_net 25 = .ok (.ireturn, 1) := by decide +kernel
theorem dX9_falling_0 : decode cX9_falling 0 = .ok (.aload_n 0, 1) := by decide +kernel
theorem dX9_falling_1 : decode cX9_falling 1 = .ok (.invokevirtual 157, 3) := by decide +kernel
theorem dX9_falling_4 : decode cX9_falling 4 = .ok (.iconst 0, 1) := by decide +kernel
theorem dX9_falling_5 : decode cX9_falling 5 = .ok (.istore_n 1, 1) := by decide +kernel
theorem dX9_falling_6 : decode cX9_falling 6 = .ok (.iload_n 1, 1) := by decide +kernel
theorem dX9_falling_7 : decode cX9_falling 7 = .ok (.aload_n 0, 1) := by decide +kernel
theorem dX9_falling_8 : decode cX9_falling 8 = .ok (.getfield 122, 3) := by decide +kernel
theorem dX9_falling_11 : decode cX9_falling 11 = .ok (.if_icmp .ge 82, 3) := by decide +kernel
theorem dX9_falling_14 : decode cX9_falling 14 = .ok (.aload_n 0, 1) := by decide +kernel
theorem dX9_falling_15 : decode cX9_falling 15 = .ok (.getfield 40, 3) := by decide +kernel
theorem dX9_falling_18 : decode cX9_falling 18 = .ok (.iload_n 1, 1) := by decide +kernel
theorem dX9_falling_19 : decode cX9_falling 19 = .ok (.iaload, 1) := by decide +kernel
theorem dX9_falling_20 : decode cX9_falling 20 = .ok (.ifCond .eq 67, 3) := by decide +kernel
theorem dX9_falling_23 : decode cX9_falling 23 = .ok (.aload_n 0, 1) := by decide +kernel
theorem dX9_falling_24 : decode cX9_falling 24 = .ok (.getfield 46, 3) := by decide +kernel
theorem dX9_falling_27 : decode cX9_falling 27 = .ok (.iload_n 1, 1) := by decide +kernel
theorem dX9_falling_28 : decode cX9_falling 28 = .ok (.baload, 1) := by decide +kernel
theorem dX9_falling_29 : decode cX9_falling 29 = .ok (.ifCond .eq 6, 3) := by decide +kernel
theorem dX9_falling_32 : decode cX9_falling 32 = .ok (.goto 55, 3) := by decide +kernel
theorem dX9_falling_35 : decode cX9_falling 35 = .ok (.aload_n 0, 1) := by decide +kernel
theorem dX9_falling_36 : decode cX9_falling 36 = .ok (.getfield 75, 3) := by decide +kernel
theorem dX9_falling_39 : decode cX9_falling 39 = .ok (.iload_n 1, 1) := by decide +kernel
theorem dX9_falling_40 : decode cX9_falling 40 = .ok (.iaload, 1) := by decide +kernel
theorem dX9_falling_41 : decode cX9_falling 41 = .ok (.aload_n 0, 1) := by decide +kernel
theorem dX9_falling_42 : decode cX9_falling 42 = .ok (.getfield 25, 3) := by decide +kernel
theorem dX9_falling_45 : decode cX9_falling 45 = .ok (.iload_n 1, 1) := by decide +kernel
theorem dX9_falling_46 : decode cX9_falling 46 = .ok (.iaload, 1) := by decide +kernel
theorem dX9_falling_47 : decode cX9_falling 47 = .ok (.if_icmp .le 5, 3) := by decide +kernel
theorem dX9_falling_50 : decode cX9_falling 50 = .ok (.iload_n 1, 1) := by decide +kernel
theorem dX9_falling_51 : decode cX9_falling 51 = .ok (.ireturn, 1) := by decide +kernel
theorem dX9_falling_52 : decode cX9_falling 52 = .ok (.aload_n 0, 1) := by decide +kernel
theorem dX9_falling_53 : decode cX9_falling 53 = .ok (.iload_n 1, 1) := by decide +kernel
theorem dX9_falling_54 : decode cX9_falling 54 = .ok (.invokevirtual 160, 3) := by decide +kernel
theorem dX9_falling_57 : decode cX9_falling 57 = .ok (.aload_n 0, 1) := by decide +kernel
theorem dX9_falling_58 : decode cX9_falling 58 = .ok (.getfield 28, 3) := by decide +kernel
theorem dX9_falling_61 : decode cX9_falling 61 = .ok (.iload_n 1, 1) := by decide +kernel
theorem dX9_falling_62 : decode cX9_falling 62 = .ok (.iaload, 1) := by decide +kernel
theorem dX9_falling_63 : decode cX9_falling 63 = .ok (.aload_n 0, 1) := by decide +kernel
theorem dX9_falling_64 : decode cX9_falling 64 = .ok (.getfield 37, 3) := by decide +kernel
theorem dX9_falling_67 : decode cX9_falling 67 = .ok (.iload_n 1, 1) := by decide +kernel
theorem dX9_falling_68 : decode cX9_falling 68 = .ok (.iaload, 1) := by decide +kernel
theorem dX9_falling_69 : decode cX9_falling 69 = .ok (.iadd, 1) := by decide +kernel
theorem dX9_falling_70 : decode cX9_falling 70 = .ok (.aload_n 0, 1) := by decide +kernel
theorem dX9_falling_71 : decode cX9_falling 71 = .ok (.getfield 75, 3) := by decide +kernel
theorem dX9_falling_74 : decode cX9_falling 74 = .ok (.iload_n 1, 1) := by decide +kernel
theorem dX9_falling_75 : decode cX9_falling 75 = .ok (.iaload, 1) := by decide +kernel
theorem dX9_falling_76 : decode cX9_falling 76 = .ok (.iconst 4, 1) := by decide +kernel
theorem dX9_falling_77 : decode cX9_falling 77 = .ok (.idiv, 1) := by decide +kernel
theorem dX9_falling_78 : decode cX9_falling 78 = .ok (.iadd, 1) := by decide +kernel
theorem dX9_falling_79 : decode cX9_falling 79 = .ok (.if_icmp .le 8, 3) := by decide +kernel
theorem dX9_falling_82 : decode cX9_falling 82 = .ok (.bipush 100, 2) := by decide +kernel
theorem dX9_falling_84 : decode cX9_falling 84 = .ok (.iload_n 1, 1) := by decide +kernel
theorem dX9_falling_85 : decode cX9_falling 85 = .ok (.iadd, 1) := by decide +kernel
theorem dX9_falling_86 : decode cX9_falling 86 = .ok (.ireturn, 1) := by decide +kernel
theorem dX9_falling_87 : decode cX9_falling 87 = .ok (.iinc 1 1, 3) := by decide +kernel
theorem dX9_falling_90 : decode cX9_falling 90 = .ok (.goto (-84), 3) := by decide +kernel
theorem dX9_falling_93 : decode cX9_falling 93 = .ok (.bipush (-5), 2) := by decide +kernel
theorem dX9_falling_95 : decode cX9_falling 95 = .ok (.ireturn, 1) := by decide +kernel
theorem dX9_fallingBy_0 : decode cX9_fallingBy 0 = .ok (.aload_n 0, 1) := by decide +kernel
theorem dX9_fallingBy_1 : decode cX9_fallingBy 1 = .ok (.getfield 46, 3) := by decide +kernel
theorem dX9_fallingBy_4 : decode cX9_fallingBy 4 = .ok (.iload_n 1, 1) := by decide +kernel
theorem dX9_fallingBy_5 : decode cX9_fallingBy 5 = .ok (.baload, 1) := by decide +kernel
theorem dX9_fallingBy_6 : decode cX9_fallingBy 6 = .ok (.istore_n 2, 1) := by decide +kernel
theorem dX9_fallingBy_7 : decode cX9_fallingBy 7 = .ok (.aload_n 0, 1) := by decide +kernel
theorem dX9_fallingBy_8 : decode cX9_fallingBy 8 = .ok (.getfield 46, 3) := by decide +kernel
theorem dX9_fallingBy_11 : decode cX9_fallingBy 11 = .ok (.iload_n 1, 1) := by decide +kernel
theorem dX9_fallingBy_12 : decode cX9_fallingBy 12 = .ok (.iload_n 2, 1) := by decide +kernel
theorem dX9_fallingBy_13 : decode cX9_fallingBy 13 = .ok (.ifCond .ne 22, 3) := by decide +kernel
theorem dX9_fallingBy_16 : decode cX9_fallingBy 16 = .ok (.aload_n 0, 1) := by decide +kernel
theorem dX9_fallingBy_17 : decode cX9_fallingBy 17 = .ok (.getfield 7, 3) := by decide +kernel
theorem dX9_fallingBy_20 : decode cX9_fallingBy 20 = .ok (.iload_n 1, 1) := by decide +kernel
theorem dX9_fallingBy_21 : decode cX9_fallingBy 21 = .ok (.iaload, 1) := by decide +kernel
theorem dX9_fallingBy_22 : decode cX9_fallingBy 22 = .ok (.iconst 1, 1) := by decide +kernel
theorem dX9_fallingBy_23 : decode cX9_fallingBy 23 = .ok (.if_icmp .ne 16, 3) := by decide +kernel
theorem dX9_fallingBy_26 : decode cX9_fallingBy 26 = .ok (.aload_n 0, 1) := by decide +kernel
theorem dX9_fallingBy_27 : decode cX9_fallingBy 27 = .ok (.getfield 40, 3) := by decide +kernel
theorem dX9_fallingBy_30 : decode cX9_fallingBy 30 = .ok (.iload_n 1, 1) := by decide +kernel
theorem dX9_fallingBy_31 : decode cX9_fallingBy 31 = .ok (.iaload, 1) := by decide +kernel
theorem dX9_fallingBy_32 : decode cX9_fallingBy 32 = .ok (.ifCond .ne 7, 3) := by decide +kernel
theorem dX9_fallingBy_35 : decode cX9_fallingBy 35 = .ok (.iconst 1, 1) := by decide +kernel
theorem dX9_fallingBy_36 : decode cX9_fallingBy 36 = .ok (.goto 4, 3) := by decide +kernel
theorem dX9_fallingBy_39 : decode cX9_fallingBy 39 = .ok (.iconst 0, 1) := by decide +kernel
theorem dX9_fallingBy_40 : decode cX9_fallingBy 40 = .ok (.bastore, 1) := by decide +kernel
theorem dX9_fallingBy_41 : decode cX9_fallingBy 41 = .ok (.aload_n 0, 1) := by decide +kernel
theorem dX9_fallingBy_42 : decode cX9_fallingBy 42 = .ok (.getfield 40, 3) := by decide +kernel
theorem dX9_fallingBy_45 : decode cX9_fallingBy 45 = .ok (.iload_n 1, 1) := by decide +kernel
theorem dX9_fallingBy_46 : decode cX9_fallingBy 46 = .ok (.dup2, 1) := by decide +kernel
theorem dX9_fallingBy_47 : decode cX9_fallingBy 47 = .ok (.iaload, 1) := by decide +kernel
theorem dX9_fallingBy_48 : decode cX9_fallingBy 48 = .ok (.iconst 1, 1) := by decide +kernel
theorem dX9_fallingBy_49 : decode cX9_fallingBy 49 = .ok (.iadd, 1) := by decide +kernel
theorem dX9_fallingBy_50 : decode cX9_fallingBy 50 = .ok (.iastore, 1) := by decide +kernel
theorem dX9_fallingBy_51 : decode cX9_fallingBy 51 = .ok (.aload_n 0, 1) := by decide +kernel
theorem dX9_fallingBy_52 : decode cX9_fallingBy 52 = .ok (.invokevirtual 164, 3) := by decide +kernel
theorem dX9_fallingBy_55 : decode cX9_fallingBy 55 = .ok (.istore_n 3, 1) := by decide +kernel
theorem dX9_fallingBy_56 : decode cX9_fallingBy 56 = .ok (.aload_n 0, 1) := by decide +kernel
theorem dX9_fallingBy_57 : decode cX9_fallingBy 57 = .ok (.getfield 40, 3) := by decide +kernel
theorem dX9_fallingBy_60 : decode cX9_fallingBy 60 = .ok (.iload_n 1, 1) := by decide +kernel
theorem dX9_fallingBy_61 : decode cX9_fallingBy 61 = .ok (.dup2, 1) := by decide +kernel
theorem dX9_fallingBy_62 : decode cX9_fallingBy 62 = .ok (.iaload, 1) := by decide +kernel
theorem dX9_fallingBy_63 : decode cX9_fallingBy 63 = .ok (.iconst 1, 1) := by decide +kernel
theorem dX9_fallingBy_64 : decode cX9_fallingBy 64 = .ok (.isub, 1) := by decide +kernel
theorem dX9_fallingBy_65 : decode cX9_fallingBy 65 = .ok (.iastore, 1) := by decide +kernel
theorem dX9_fallingBy_66 : decode cX9_fallingBy 66 = .ok (.aload_n 0, 1) := by decide +kernel
theorem dX9_fallingBy_67 : decode cX9_fallingBy 67 = .ok (.getfield 46, 3) := by decide +kernel
theorem dX9_fallingBy_70 : decode cX9_fallingBy 70 = .ok (.iload_n 1, 1) := by decide +kernel
theorem dX9_fallingBy_71 : decode cX9_fallingBy 71 = .ok (.iload_n 2, 1) := by decide +kernel
theorem dX9_fallingBy_72 : decode cX9_fallingBy 72 = .ok (.bastore, 1) := by decide +kernel
theorem dX9_fallingBy_73 : decode cX9_fallingBy 73 = .ok (.iload_n 3, 1) := by decide +kernel
theorem dX9_fallingBy_74 : decode cX9_fallingBy 74 = .ok (.ireturn, 1) := by decide +kernel
theorem dX9_tell_0 : decode cX9_tell 0 = .ok (.aload_n 0, 1) := by decide +kernel
theorem dX9_tell_1 : decode cX9_tell 1 = .ok (.iload_n 1, 1) := by decide +kernel
theorem dX9_tell_2 : decode cX9_tell 2 = .ok (.invokevirtual 137, 3) := by decide +kernel
theorem dX9_tell_5 : decode cX9_tell 5 = .ok (.ifCond .ne 5, 3) := by decide +kernel
theorem dX9_tell_8 : decode cX9_tell 8 = .ok (.iconst (-1), 1) := by decide +kernel
theorem dX9_tell_9 : decode cX9_tell 9 = .ok (.ireturn, 1) := by decide +kernel
theorem dX9_tell_10 : decode cX9_tell 10 = .ok (.iload_n 2, 1) := by decide +kernel
theorem dX9_tell_11 : decode cX9_tell 11 = .ok (.tableswitch 209 0 3 #[29, 79, 129, 179], 29) := by decide +kernel
theorem dX9_tell_40 : decode cX9_tell 40 = .ok (.iload_n 3, 1) := by decide +kernel
theorem dX9_tell_41 : decode cX9_tell 41 = .ok (.iconst 0, 1) := by decide +kernel
theorem dX9_tell_42 : decode cX9_tell 42 = .ok (.ldc 129, 2) := by decide +kernel
theorem dX9_tell_44 : decode cX9_tell 44 = .ok (.invokestatic 125, 3) := by decide +kernel
theorem dX9_tell_47 : decode cX9_tell 47 = .ok (.ifCond .ne 5, 3) := by decide +kernel
theorem dX9_tell_50 : decode cX9_tell 50 = .ok (.iconst (-1), 1) := by decide +kernel
theorem dX9_tell_51 : decode cX9_tell 51 = .ok (.ireturn, 1) := by decide +kernel
theorem dX9_tell_52 : decode cX9_tell 52 = .ok (.aload_n 0, 1) := by decide +kernel
theorem dX9_tell_53 : decode cX9_tell 53 = .ok (.getfield 25, 3) := by decide +kernel
theorem dX9_tell_56 : decode cX9_tell 56 = .ok (.iload_n 1, 1) := by decide +kernel
theorem dX9_tell_57 : decode cX9_tell 57 = .ok (.iaload, 1) := by decide +kernel
theorem dX9_tell_58 : decode cX9_tell 58 = .ok (.istore 4, 2) := by decide +kernel
theorem dX9_tell_60 : decode cX9_tell 60 = .ok (.aload_n 0, 1) := by decide +kernel
theorem dX9_tell_61 : decode cX9_tell 61 = .ok (.getfield 25, 3) := by decide +kernel
theorem dX9_tell_64 : decode cX9_tell 64 = .ok (.iload_n 1, 1) := by decide +kernel
theorem dX9_tell_65 : decode cX9_tell 65 = .ok (.iload_n 3, 1) := by decide +kernel
theorem dX9_tell_66 : decode cX9_tell 66 = .ok (.iastore, 1) := by decide +kernel
theorem dX9_tell_67 : decode cX9_tell 67 = .ok (.aload_n 0, 1) := by decide +kernel
theorem dX9_tell_68 : decode cX9_tell 68 = .ok (.invokevirtual 164, 3) := by decide +kernel
theorem dX9_tell_71 : decode cX9_tell 71 = .ok (.bipush (-5), 2) := by decide +kernel
theorem dX9_tell_73 : decode cX9_tell 73 = .ok (.if_icmp .ne 6, 3) := by decide +kernel
theorem dX9_tell_76 : decode cX9_tell 76 = .ok (.iload 4, 2) := by decide +kernel
theorem dX9_tell_78 : decode cX9_tell 78 = .ok (.ireturn, 1) := by decide +kernel
theorem dX9_tell_79 : decode cX9_tell 79 = .ok (.aload_n 0, 1) := by decide +kernel
theorem dX9_tell_80 : decode cX9_tell 80 = .ok (.getfield 25, 3) := by decide +kernel
theorem dX9_tell_83 : decode cX9_tell 83 = .ok (.iload_n 1, 1) := by decide +kernel
theorem dX9_tell_84 : decode cX9_tell 84 = .ok (.iload 4, 2) := by decide +kernel
theorem dX9_tell_86 : decode cX9_tell 86 = .ok (.iastore, 1) := by decide +kernel
theorem dX9_tell_87 : decode cX9_tell 87 = .ok (.bipush (-15), 2) := by decide +kernel
theorem dX9_tell_89 : decode cX9_tell 89 = .ok (.ireturn, 1) := by decide +kernel
theorem dX9_tell_90 : decode cX9_tell 90 = .ok (.iload_n 3, 1) := by decide +kernel
theorem dX9_tell_91 : decode cX9_tell 91 = .ok (.iconst 0, 1) := by decide +kernel
theorem dX9_tell_92 : decode cX9_tell 92 = .ok (.ldc 168, 2) := by decide +kernel
theorem dX9_tell_94 : decode cX9_tell 94 = .ok (.invokestatic 125, 3) := by decide +kernel
theorem dX9_tell_97 : decode cX9_tell 97 = .ok (.ifCond .ne 5, 3) := by decide +kernel
theorem dX9_tell_100 : decode cX9_tell 100 = .ok (.iconst (-1), 1) := by decide +kernel
theorem dX9_tell_101 : decode cX9_tell 101 = .ok (.ireturn, 1) := by decide +kernel
theorem dX9_tell_102 : decode cX9_tell 102 = .ok (.aload_n 0, 1) := by decide +kernel
theorem dX9_tell_103 : decode cX9_tell 103 = .ok (.getfield 28, 3) := by decide +kernel
theorem dX9_tell_106 : decode cX9_tell 106 = .ok (.iload_n 1, 1) := by decide +kernel
theorem dX9_tell_107 : decode cX9_tell 107 = .ok (.iaload, 1) := by decide +kernel
theorem dX9_tell_108 : decode cX9_tell 108 = .ok (.istore 4, 2) := by decide +kernel
theorem dX9_tell_110 : decode cX9_tell 110 = .ok (.aload_n 0, 1) := by decide +kernel
theorem dX9_tell_111 : decode cX9_tell 111 = .ok (.getfield 28, 3) := by decide +kernel
theorem dX9_tell_114 : decode cX9_tell 114 = .ok (.iload_n 1, 1) := by decide +kernel
theorem dX9_tell_115 : decode cX9_tell 115 = .ok (.iload_n 3, 1) := by decide +kernel
theorem dX9_tell_116 : decode cX9_tell 116 = .ok (.iastore, 1) := by decide +kernel
theorem dX9_tell_117 : decode cX9_tell 117 = .ok (.aload_n 0, 1) := by decide +kernel
theorem dX9_tell_118 : decode cX9_tell 118 = .ok (.invokevirtual 164, 3) := by decide +kernel
theorem dX9_tell_121 : decode cX9_tell 121 = .ok (.bipush (-5), 2) := by decide +kernel
theorem dX9_tell_123 : decode cX9_tell 123 = .ok (.if_icmp .ne 6, 3) := by decide +kernel
theorem dX9_tell_126 : decode cX9_tell 126 = .ok (.iload 4, 2) := by decide +kernel
theorem dX9_tell_128 : decode cX9_tell 128 = .ok (.ireturn, 1) := by decide +kernel
theorem dX9_tell_129 : decode cX9_tell 129 = .ok (.aload_n 0, 1) := by decide +kernel
theorem dX9_tell_130 : decode cX9_tell 130 = .ok (.getfield 28, 3) := by decide +kernel
theorem dX9_tell_133 : decode cX9_tell 133 = .ok (.iload_n 1, 1) := by decide +kernel
theorem dX9_tell_134 : decode cX9_tell 134 = .ok (.iload 4, 2) := by decide +kernel
theorem dX9_tell_136 : decode cX9_tell 136 = .ok (.iastore, 1) := by decide +kernel
theorem dX9_tell_137 : decode cX9_tell 137 = .ok (.bipush (-15), 2) := by decide +kernel
theorem dX9_tell_139 : decode cX9_tell 139 = .ok (.ireturn, 1) := by decide +kernel
theorem dX9_tell_140 : decode cX9_tell 140 = .ok (.iload_n 3, 1) := by decide +kernel
theorem dX9_tell_141 : decode cX9_tell 141 = .ok (.iconst 0, 1) := by decide +kernel
theorem dX9_tell_142 : decode cX9_tell 142 = .ok (.bipush 100, 2) := by decide +kernel
theorem dX9_tell_144 : decode cX9_tell 144 = .ok (.invokestatic 125, 3) := by decide +kernel
theorem dX9_tell_147 : decode cX9_tell 147 = .ok (.ifCond .ne 5, 3) := by decide +kernel
theorem dX9_tell_150 : decode cX9_tell 150 = .ok (.iconst (-1), 1) := by decide +kernel
theorem dX9_tell_151 : decode cX9_tell 151 = .ok (.ireturn, 1) := by decide +kernel
theorem dX9_tell_152 : decode cX9_tell 152 = .ok (.aload_n 0, 1) := by decide +kernel
theorem dX9_tell_153 : decode cX9_tell 153 = .ok (.getfield 31, 3) := by decide +kernel
theorem dX9_tell_156 : decode cX9_tell 156 = .ok (.iload_n 1, 1) := by decide +kernel
theorem dX9_tell_157 : decode cX9_tell 157 = .ok (.iaload, 1) := by decide +kernel
theorem dX9_tell_158 : decode cX9_tell 158 = .ok (.istore 4, 2) := by decide +kernel
theorem dX9_tell_160 : decode cX9_tell 160 = .ok (.aload_n 0, 1) := by decide +kernel
theorem dX9_tell_161 : decode cX9_tell 161 = .ok (.getfield 31, 3) := by decide +kernel
theorem dX9_tell_164 : decode cX9_tell 164 = .ok (.iload_n 1, 1) := by decide +kernel
theorem dX9_tell_165 : decode cX9_tell 165 = .ok (.iload_n 3, 1) := by decide +kernel
theorem dX9_tell_166 : decode cX9_tell 166 = .ok (.iastore, 1) := by decide +kernel
theorem dX9_tell_167 : decode cX9_tell 167 = .ok (.aload_n 0, 1) := by decide +kernel
theorem dX9_tell_168 : decode cX9_tell 168 = .ok (.invokevirtual 164, 3) := by decide +kernel
theorem dX9_tell_171 : decode cX9_tell 171 = .ok (.bipush (-5), 2) := by decide +kernel
theorem dX9_tell_173 : decode cX9_tell 173 = .ok (.if_icmp .ne 6, 3) := by decide +kernel
theorem dX9_tell_176 : decode cX9_tell 176 = .ok (.iload 4, 2) := by decide +kernel
theorem dX9_tell_178 : decode cX9_tell 178 = .ok (.ireturn, 1) := by decide +kernel
theorem dX9_tell_179 : decode cX9_tell 179 = .ok (.aload_n 0, 1) := by decide +kernel
theorem dX9_tell_180 : decode cX9_tell 180 = .ok (.getfield 31, 3) := by decide +kernel
theorem dX9_tell_183 : decode cX9_tell 183 = .ok (.iload_n 1, 1) := by decide +kernel
theorem dX9_tell_184 : decode cX9_tell 184 = .ok (.iload 4, 2) := by decide +kernel
theorem dX9_tell_186 : decode cX9_tell 186 = .ok (.iastore, 1) := by decide +kernel
theorem dX9_tell_187 : decode cX9_tell 187 = .ok (.bipush (-15), 2) := by decide +kernel
theorem dX9_tell_189 : decode cX9_tell 189 = .ok (.ireturn, 1) := by decide +kernel
theorem dX9_tell_190 : decode cX9_tell 190 = .ok (.iload_n 3, 1) := by decide +kernel
theorem dX9_tell_191 : decode cX9_tell 191 = .ok (.iconst 0, 1) := by decide +kernel
theorem dX9_tell_192 : decode cX9_tell 192 = .ok (.bipush 24, 2) := by decide +kernel
theorem dX9_tell_194 : decode cX9_tell 194 = .ok (.invokestatic 125, 3) := by decide +kernel
theorem dX9_tell_197 : decode cX9_tell 197 = .ok (.ifCond .ne 5, 3) := by decide +kernel
theorem dX9_tell_200 : decode cX9_tell 200 = .ok (.iconst (-1), 1) := by decide +kernel
theorem dX9_tell_201 : decode cX9_tell 201 = .ok (.ireturn, 1) := by decide +kernel
theorem dX9_tell_202 : decode cX9_tell 202 = .ok (.aload_n 0, 1) := by decide +kernel
theorem dX9_tell_203 : decode cX9_tell 203 = .ok (.getfield 34, 3) := by decide +kernel
theorem dX9_tell_206 : decode cX9_tell 206 = .ok (.iload_n 1, 1) := by decide +kernel
theorem dX9_tell_207 : decode cX9_tell 207 = .ok (.iaload, 1) := by decide +kernel
theorem dX9_tell_208 : decode cX9_tell 208 = .ok (.istore 4, 2) := by decide +kernel
theorem dX9_tell_210 : decode cX9_tell 210 = .ok (.aload_n 0, 1) := by decide +kernel
theorem dX9_tell_211 : decode cX9_tell 211 = .ok (.getfield 34, 3) := by decide +kernel
theorem dX9_tell_214 : decode cX9_tell 214 = .ok (.iload_n 1, 1) := by decide +kernel
theorem dX9_tell_215 : decode cX9_tell 215 = .ok (.iload_n 3, 1) := by decide +kernel
theorem dX9_tell_216 : decode cX9_tell 216 = .ok (.iastore, 1) := by decide +kernel
theorem dX9_tell_217 : decode cX9_tell 217 = .ok (.iload 4, 2) := by decide +kernel
theorem dX9_tell_219 : decode cX9_tell 219 = .ok (.ireturn, 1) := by decide +kernel
theorem dX9_tell_220 : decode cX9_tell 220 = .ok (.iconst (-1), 1) := by decide +kernel
theorem dX9_tell_221 : decode cX9_tell 221 = .ok (.ireturn, 1) := by decide +kernel
theorem dX9_feed_0 : decode cX9_feed 0 = .ok (.iload_n 1, 1) := by decide +kernel
theorem dX9_feed_1 : decode cX9_feed 1 = .ok (.iconst 1, 1) := by decide +kernel
theorem dX9_feed_2 : decode cX9_feed 2 = .ok (.iconst 4, 1) := by decide +kernel
theorem dX9_feed_3 : decode cX9_feed 3 = .ok (.invokestatic 125, 3) := by decide +kernel
theorem dX9_feed_6 : decode cX9_feed 6 = .ok (.ifCond .ne 5, 3) := by decide +kernel
theorem dX9_feed_9 : decode cX9_feed 9 = .ok (.iconst (-1), 1) := by decide +kernel
theorem dX9_feed_10 : decode cX9_feed 10 = .ok (.ireturn, 1) := by decide +kernel
theorem dX9_feed_11 : decode cX9_feed 11 = .ok (.aload_n 0, 1) := by decide +kernel
theorem dX9_feed_12 : decode cX9_feed 12 = .ok (.getfield 169, 3) := by decide +kernel
theorem dX9_feed_15 : decode cX9_feed 15 = .ok (.iload_n 1, 1) := by decide +kernel
theorem dX9_feed_16 : decode cX9_feed 16 = .ok (.iadd, 1) := by decide +kernel
theorem dX9_feed_17 : decode cX9_feed 17 = .ok (.bipush 100, 2) := by decide +kernel
theorem dX9_feed_19 : decode cX9_feed 19 = .ok (.if_icmp .le 6, 3) := by decide +kernel
theorem dX9_feed_22 : decode cX9_feed 22 = .ok (.bipush (-3), 2) := by decide +kernel
theorem dX9_feed_24 : decode cX9_feed 24 = .ok (.ireturn, 1) := by decide +kernel
theorem dX9_feed_25 : decode cX9_feed 25 = .ok (.iconst 0, 1) := by decide +kernel
theorem dX9_feed_26 : decode cX9_feed 26 = .ok (.istore_n 3, 1) := by decide +kernel
theorem dX9_feed_27 : decode cX9_feed 27 = .ok (.iload_n 3, 1) := by decide +kernel
theorem dX9_feed_28 : decode cX9_feed 28 = .ok (.iload_n 1, 1) := by decide +kernel
theorem dX9_feed_29 : decode cX9_feed 29 = .ok (.if_icmp .ge 35, 3) := by decide +kernel
theorem dX9_feed_32 : decode cX9_feed 32 = .ok (.aload_n 0, 1) := by decide +kernel
theorem dX9_feed_33 : decode cX9_feed 33 = .ok (.getfield 81, 3) := by decide +kernel
theorem dX9_feed_36 : decode cX9_feed 36 = .ok (.aload_n 0, 1) := by decide +kernel
theorem dX9_feed_37 : decode cX9_feed 37 = .ok (.getfield 169, 3) := by decide +kernel
theorem dX9_feed_40 : decode cX9_feed 40 = .ok (.iload_n 2, 1) := by decide +kernel
theorem dX9_feed_41 : decode cX9_feed 41 = .ok (.bipush 8, 2) := by decide +kernel
theorem dX9_feed_43 : decode cX9_feed 43 = .ok (.iload_n 3, 1) := by decide +kernel
theorem dX9_feed_44 : decode cX9_feed 44 = .ok (.imul, 1) := by decide +kernel
theorem dX9_feed_45 : decode cX9_feed 45 = .ok (.ishr, 1) := by decide +kernel
theorem dX9_feed_46 : decode cX9_feed 46 = .ok (.i2b, 1) := by decide +kernel
theorem dX9_feed_47 : decode cX9_feed 47 = .ok (.bastore, 1) := by decide +kernel
theorem dX9_feed_48 : decode cX9_feed 48 = .ok (.aload_n 0, 1) := by decide +kernel
theorem dX9_feed_49 : decode cX9_feed 49 = .ok (.dup, 1) := by decide +kernel
theorem dX9_feed_50 : decode cX9_feed 50 = .ok (.getfield 169, 3) := by decide +kernel
theorem dX9_feed_53 : decode cX9_feed 53 = .ok (.iconst 1, 1) := by decide +kernel
theorem dX9_feed_54 : decode cX9_feed 54 = .ok (.iadd, 1) := by decide +kernel
theorem dX9_feed_55 : decode cX9_feed 55 = .ok (.putfield 169, 3) := by decide +kernel
theorem dX9_feed_58 : decode cX9_feed 58 = .ok (.iinc 3 1, 3) := by decide +kernel
theorem dX9_feed_61 : decode cX9_feed 61 = .ok (.goto (-34), 3) := by decide +kernel
theorem dX9_feed_64 : decode cX9_feed 64 = .ok (.aload_n 0, 1) := by decide +kernel
theorem dX9_feed_65 : decode cX9_feed 65 = .ok (.getfield 169, 3) := by decide +kernel
theorem dX9_feed_68 : decode cX9_feed 68 = .ok (.ireturn, 1) := by decide +kernel
theorem dX9_isDigit_0 : decode cX9_isDigit 0 = .ok (.iload_n 0, 1) := by decide +kernel
theorem dX9_isDigit_1 : decode cX9_isDigit 1 = .ok (.bipush 48, 2) := by decide +kernel
theorem dX9_isDigit_3 : decode cX9_isDigit 3 = .ok (.if_icmp .lt 13, 3) := by decide +kernel
theorem dX9_isDigit_6 : decode cX9_isDigit 6 = .ok (.iload_n 0, 1) := by decide +kernel
theorem dX9_isDigit_7 : decode cX9_isDigit 7 = .ok (.bipush 57, 2) := by decide +kernel
theorem dX9_isDigit_9 : decode cX9_isDigit 9 = .ok (.if_icmp .gt 7, 3) := by decide +kernel
theorem dX9_isDigit_12 : decode cX9_isDigit 12 = .ok (.iconst 1, 1) := by decide +kernel
theorem dX9_isDigit_13 : decode cX9_isDigit 13 = .ok (.goto 4, 3) := by decide +kernel
theorem dX9_isDigit_16 : decode cX9_isDigit 16 = .ok (.iconst 0, 1) := by decide +kernel
theorem dX9_isDigit_17 : decode cX9_isDigit 17 = .ok (.ireturn, 1) := by decide +kernel
theorem dX9_isName_0 : decode cX9_isName 0 = .ok (.iload_n 0, 1) := by decide +kernel
theorem dX9_isName_1 : decode cX9_isName 1 = .ok (.bipush 112, 2) := by decide +kernel
theorem dX9_isName_3 : decode cX9_isName 3 = .ok (.if_icmp .eq 45, 3) := by decide +kernel
theorem dX9_isName_6 : decode cX9_isName 6 = .ok (.iload_n 0, 1) := by decide +kernel
theorem dX9_isName_7 : decode cX9_isName 7 = .ok (.bipush 107, 2) := by decide +kernel
theorem dX9_isName_9 : decode cX9_isName 9 = .ok (.if_icmp .eq 39, 3) := by decide +kernel
theorem dX9_isName_12 : decode cX9_isName 12 = .ok (.iload_n 0, 1) := by decide +kernel
theorem dX9_isName_13 : decode cX9_isName 13 = .ok (.bipush 110, 2) := by decide +kernel
theorem dX9_isName_15 : decode cX9_isName 15 = .ok (.if_icmp .eq 33, 3) := by decide +kernel
theorem dX9_isName_18 : decode cX9_isName 18 = .ok (.iload_n 0, 1) := by decide +kernel
theorem dX9_isName_19 : decode cX9_isName 19 = .ok (.bipush 119, 2) := by decide +kernel
theorem dX9_isName_21 : decode cX9_isName 21 = .ok (.if_icmp .eq 27, 3) := by decide +kernel
theorem dX9_isName_24 : decode cX9_isName 24 = .ok (.iload_n 0, 1) := by decide +kernel
theorem dX9_isName_25 : decode cX9_isName 25 = .ok (.bipush 109, 2) := by decide +kernel
theorem dX9_isName_27 : decode cX9_isName 27 = .ok (.if_icmp .eq 21, 3) := by decide +kernel
theorem dX9_isName_30 : decode cX9_isName 30 = .ok (.iload_n 0, 1) := by decide +kernel
theorem dX9_isName_31 : decode cX9_isName 31 = .ok (.bipush 121, 2) := by decide +kernel
theorem dX9_isName_33 : decode cX9_isName 33 = .ok (.if_icmp .eq 15, 3) := by decide +kernel
theorem dX9_isName_36 : decode cX9_isName 36 = .ok (.iload_n 0, 1) := by decide +kernel
theorem dX9_isName_37 : decode cX9_isName 37 = .ok (.bipush 102, 2) := by decide +kernel
theorem dX9_isName_39 : decode cX9_isName 39 = .ok (.if_icmp .eq 9, 3) := by decide +kernel
theorem dX9_isName_42 : decode cX9_isName 42 = .ok (.iload_n 0, 1) := by decide +kernel
theorem dX9_isName_43 : decode cX9_isName 43 = .ok (.bipush 100, 2) := by decide +kernel
theorem dX9_isName_45 : decode cX9_isName 45 = .ok (.if_icmp .ne 7, 3) := by decide +kernel
theorem dX9_isName_48 : decode cX9_isName 48 = .ok (.iconst 1, 1) := by decide +kernel
theorem dX9_isName_49 : decode cX9_isName 49 = .ok (.goto 4, 3) := by decide +kernel
theorem dX9_isName_52 : decode cX9_isName 52 = .ok (.iconst 0, 1) := by decide +kernel
theorem dX9_isName_53 : decode cX9_isName 53 = .ok (.ireturn, 1) := by decide +kernel
theorem dX9_isSign_0 : decode cX9_isSign 0 = .ok (.iload_n 0, 1) := by decide +kernel
theorem dX9_isSign_1 : decode cX9_isSign 1 = .ok (.bipush 43, 2) := by decide +kernel
theorem dX9_isSign_3 : decode cX9_isSign 3 = .ok (.if_icmp .eq 45, 3) := by decide +kernel
theorem dX9_isSign_6 : decode cX9_isSign 6 = .ok (.iload_n 0, 1) := by decide +kernel
theorem dX9_isSign_7 : decode cX9_isSign 7 = .ok (.bipush 45, 2) := by decide +kernel
theorem dX9_isSign_9 : decode cX9_isSign 9 = .ok (.if_icmp .eq 39, 3) := by decide +kernel
theorem dX9_isSign_12 : decode cX9_isSign 12 = .ok (.iload_n 0, 1) := by decide +kernel
theorem dX9_isSign_13 : decode cX9_isSign 13 = .ok (.bipush 42, 2) := by decide +kernel
theorem dX9_isSign_15 : decode cX9_isSign 15 = .ok (.if_icmp .eq 33, 3) := by decide +kernel
theorem dX9_isSign_18 : decode cX9_isSign 18 = .ok (.iload_n 0, 1) := by decide +kernel
theorem dX9_isSign_19 : decode cX9_isSign 19 = .ok (.bipush 60, 2) := by decide +kernel
theorem dX9_isSign_21 : decode cX9_isSign 21 = .ok (.if_icmp .eq 27, 3) := by decide +kernel
theorem dX9_isSign_24 : decode cX9_isSign 24 = .ok (.iload_n 0, 1) := by decide +kernel
theorem dX9_isSign_25 : decode cX9_isSign 25 = .ok (.bipush 61, 2) := by decide +kernel
theorem dX9_isSign_27 : decode cX9_isSign 27 = .ok (.if_icmp .eq 21, 3) := by decide +kernel
theorem dX9_isSign_30 : decode cX9_isSign 30 = .ok (.iload_n 0, 1) := by decide +kernel
theorem dX9_isSign_31 : decode cX9_isSign 31 = .ok (.bipush 62, 2) := by decide +kernel
theorem dX9_isSign_33 : decode cX9_isSign 33 = .ok (.if_icmp .eq 15, 3) := by decide +kernel
theorem dX9_isSign_36 : decode cX9_isSign 36 = .ok (.iload_n 0, 1) := by decide +kernel
theorem dX9_isSign_37 : decode cX9_isSign 37 = .ok (.bipush 38, 2) := by decide +kernel
theorem dX9_isSign_39 : decode cX9_isSign 39 = .ok (.if_icmp .eq 9, 3) := by decide +kernel
theorem dX9_isSign_42 : decode cX9_isSign 42 = .ok (.iload_n 0, 1) := by decide +kernel
theorem dX9_isSign_43 : decode cX9_isSign 43 = .ok (.bipush 124, 2) := by decide +kernel
theorem dX9_isSign_45 : decode cX9_isSign 45 = .ok (.if_icmp .ne 7, 3) := by decide +kernel
theorem dX9_isSign_48 : decode cX9_isSign 48 = .ok (.iconst 1, 1) := by decide +kernel
theorem dX9_isSign_49 : decode cX9_isSign 49 = .ok (.goto 4, 3) := by decide +kernel
theorem dX9_isSign_52 : decode cX9_isSign 52 = .ok (.iconst 0, 1) := by decide +kernel
theorem dX9_isSign_53 : decode cX9_isSign 53 = .ok (.ireturn, 1) := by decide +kernel
theorem dX9_lay0_0 : decode cX9_lay0 0 = .ok (.aload_n 0, 1) := by decide +kernel
theorem dX9_lay0_1 : decode cX9_lay0 1 = .ok (.getfield 88, 3) := by decide +kernel
theorem dX9_lay0_4 : decode cX9_lay0 4 = .ok (.aload_n 0, 1) := by decide +kernel
theorem dX9_lay0_5 : decode cX9_lay0 5 = .ok (.getfield 172, 3) := by decide +kernel
theorem dX9_lay0_8 : decode cX9_lay0 8 = .ok (.iload_n 1, 1) := by decide +kernel
theorem dX9_lay0_9 : decode cX9_lay0 9 = .ok (.iastore, 1) := by decide +kernel
theorem dX9_lay0_10 : decode cX9_lay0 10 = .ok (.aload_n 0, 1) := by decide +kernel
theorem dX9_lay0_11 : decode cX9_lay0 11 = .ok (.dup, 1) := by decide +kernel
theorem dX9_lay0_12 : decode cX9_lay0 12 = .ok (.getfield 172, 3) := by decide +kernel
theorem dX9_lay0_15 : decode cX9_lay0 15 = .ok (.iconst 1, 1) := by decide +kernel
theorem dX9_lay0_16 : decode cX9_lay0 16 = .ok (.iadd, 1) := by decide +kernel
theorem dX9_lay0_17 : decode cX9_lay0 17 = .ok (.putfield 172, 3) := by decide +kernel
theorem dX9_lay0_20 : decode cX9_lay0 20 = .ok (.return_, 1) := by decide +kernel
theorem dX9_read_0 : decode cX9_read 0 = .ok (.aload_n 0, 1) := by decide +kernel
theorem dX9_read_1 : decode cX9_read 1 = .ok (.aload_n 0, 1) := by decide +kernel
theorem dX9_read_2 : decode cX9_read 2 = .ok (.getfield 85, 3) := by decide +kernel
theorem dX9_read_5 : decode cX9_read 5 = .ok (.aload_n 0, 1) := by decide +kernel
theorem dX9_read_6 : decode cX9_read 6 = .ok (.getfield 175, 3) := by decide +kernel
theorem dX9_read_9 : decode cX9_read 9 = .ok (.iaload, 1) := by decide +kernel
theorem dX9_read_10 : decode cX9_read 10 = .ok (.putfield 172, 3) := by decide +kernel
theorem dX9_read_13 : decode cX9_read 13 = .ok (.iconst 0, 1) := by decide +kernel
theorem dX9_read_14 : decode cX9_read 14 = .ok (.istore_n 1, 1) := by decide +kernel
theorem dX9_read_15 : decode cX9_read 15 = .ok (.iconst 0, 1) := by decide +kernel
theorem dX9_read_16 : decode cX9_read 16 = .ok (.istore_n 2, 1) := by decide +kernel
theorem dX9_read_17 : decode cX9_read 17 = .ok (.iload_n 2, 1) := by decide +kernel
theorem dX9_read_18 : decode cX9_read 18 = .ok (.aload_n 0, 1) := by decide +kernel
theorem dX9_read_19 : decode cX9_read 19 = .ok (.getfield 169, 3) := by decide +kernel
theorem dX9_read_22 : decode cX9_read 22 = .ok (.if_icmp .ge 308, 3) := by decide +kernel
theorem dX9_read_25 : decode cX9_read 25 = .ok (.aload_n 0, 1) := by decide +kernel
theorem dX9_read_26 : decode cX9_read 26 = .ok (.getfield 81, 3) := by decide +kernel
theorem dX9_read_29 : decode cX9_read 29 = .ok (.iload_n 2, 1) := by decide +kernel
theorem dX9_read_30 : decode cX9_read 30 = .ok (.baload, 1) := by decide +kernel
theorem dX9_read_31 : decode cX9_read 31 = .ok (.istore_n 3, 1) := by decide +kernel
theorem dX9_read_32 : decode cX9_read 32 = .ok (.iload_n 3, 1) := by decide +kernel
theorem dX9_read_33 : decode cX9_read 33 = .ok (.invokestatic 178, 3) := by decide +kernel
theorem dX9_read_36 : decode cX9_read 36 = .ok (.ifCond .ne 9, 3) := by decide +kernel
theorem dX9_read_39 : decode cX9_read 39 = .ok (.iload_n 3, 1) := by decide +kernel
theorem dX9_read_40 : decode cX9_read 40 = .ok (.bipush 33, 2) := by decide +kernel
theorem dX9_read_42 : decode cX9_read 42 = .ok (.if_icmp .ne 42, 3) := by decide +kernel
theorem dX9_read_45 : decode cX9_read 45 = .ok (.iload_n 1, 1) := by decide +kernel
theorem dX9_read_46 : decode cX9_read 46 = .ok (.bipush 20, 2) := by decide +kernel
theorem dX9_read_48 : decode cX9_read 48 = .ok (.if_icmp .ne 5, 3) := by decide +kernel
theorem dX9_read_51 : decode cX9_read 51 = .ok (.iload_n 2, 1) := by decide +kernel
theorem dX9_read_52 : decode cX9_read 52 = .ok (.ireturn, 1) := by decide +kernel
theorem dX9_read_53 : decode cX9_read 53 = .ok (.aload_n 0, 1) := by decide +kernel
theorem dX9_read_54 : decode cX9_read 54 = .ok (.getfield 91, 3) := by decide +kernel
theorem dX9_read_57 : decode cX9_read 57 = .ok (.iload_n 1, 1) := by decide +kernel
theorem dX9_read_58 : decode cX9_read 58 = .ok (.iload_n 3, 1) := by decide +kernel
theorem dX9_read_59 : decode cX9_read 59 = .ok (.bipush 33, 2) := by decide +kernel
theorem dX9_read_61 : decode cX9_read 61 = .ok (.if_icmp .ne 7, 3) := by decide +kernel
theorem dX9_read_64 : decode cX9_read 64 = .ok (.iconst 1, 1) := by decide +kernel
theorem dX9_read_65 : decode cX9_read 65 = .ok (.goto 4, 3) := by decide +kernel
theorem dX9_read_68 : decode cX9_read 68 = .ok (.iconst 2, 1) := by decide +kernel
theorem dX9_read_69 : decode cX9_read 69 = .ok (.iastore, 1) := by decide +kernel
theorem dX9_read_70 : decode cX9_read 70 = .ok (.iinc 1 1, 3) := by decide +kernel
theorem dX9_read_73 : decode cX9_read 73 = .ok (.aload_n 0, 1) := by decide +kernel
theorem dX9_read_74 : decode cX9_read 74 = .ok (.iload_n 3, 1) := by decide +kernel
theorem dX9_read_75 : decode cX9_read 75 = .ok (.invokevirtual 181, 3) := by decide +kernel
theorem dX9_read_78 : decode cX9_read 78 = .ok (.iinc 2 1, 3) := by decide +kernel
theorem dX9_read_81 : decode cX9_read 81 = .ok (.goto (-64), 3) := by decide +kernel
theorem dX9_read_84 : decode cX9_read 84 = .ok (.iload_n 3, 1) := by decide +kernel
theorem dX9_read_85 : decode cX9_read 85 = .ok (.bipush 35, 2) := by decide +kernel
theorem dX9_read_87 : decode cX9_read 87 = .ok (.if_icmp .ne 104, 3) := by decide +kernel
theorem dX9_read_90 : decode cX9_read 90 = .ok (.iconst 0, 1) := by decide +kernel
theorem dX9_read_91 : decode cX9_read 91 = .ok (.istore 4, 2) := by decide +kernel
theorem dX9_read_93 : decode cX9_read 93 = .ok (.iconst 0, 1) := by decide +kernel
theorem dX9_read_94 : decode cX9_read 94 = .ok (.istore 5, 2) := by decide +kernel
theorem dX9_read_96 : decode cX9_read 96 = .ok (.iinc 2 1, 3) := by decide +kernel
theorem dX9_read_99 : decode cX9_read 99 = .ok (.iload_n 2, 1) := by decide +kernel
theorem dX9_read_100 : decode cX9_read 100 = .ok (.aload_n 0, 1) := by decide +kernel
theorem dX9_read_101 : decode cX9_read 101 = .ok (.getfield 169, 3) := by decide +kernel
theorem dX9_read_104 : decode cX9_read 104 = .ok (.if_icmp .ge 49, 3) := by decide +kernel
theorem dX9_read_107 : decode cX9_read 107 = .ok (.aload_n 0, 1) := by decide +kernel
theorem dX9_read_108 : decode cX9_read 108 = .ok (.getfield 81, 3) := by decide +kernel
theorem dX9_read_111 : decode cX9_read 111 = .ok (.iload_n 2, 1) := by decide +kernel
theorem dX9_read_112 : decode cX9_read 112 = .ok (.baload, 1) := by decide +kernel
theorem dX9_read_113 : decode cX9_read 113 = .ok (.invokestatic 185, 3) := by decide +kernel
theorem dX9_read_116 : decode cX9_read 116 = .ok (.ifCond .eq 37, 3) := by decide +kernel
theorem dX9_read_119 : decode cX9_read 119 = .ok (.iload 4, 2) := by decide +kernel
theorem dX9_read_121 : decode cX9_read 121 = .ok (.iconst 5, 1) := by decide +kernel
theorem dX9_read_122 : decode cX9_read 122 = .ok (.if_icmp .ne 5, 3) := by decide +kernel
theorem dX9_read_125 : decode cX9_read 125 = .ok (.iload_n 2, 1) := by decide +kernel
theorem dX9_read_126 : decode cX9_read 126 = .ok (.ireturn, 1) := by decide +kernel
theorem dX9_read_127 : decode cX9_read 127 = .ok (.bipush 10, 2) := by decide +kernel
theorem dX9_read_129 : decode cX9_read 129 = .ok (.iload 5, 2) := by decide +kernel
theorem dX9_read_131 : decode cX9_read 131 = .ok (.imul, 1) := by decide +kernel
theorem dX9_read_132 : decode cX9_read 132 = .ok (.aload_n 0, 1) := by decide +kernel
theorem dX9_read_133 : decode cX9_read 133 = .ok (.getfield 81, 3) := by decide +kernel
theorem dX9_read_136 : decode cX9_read 136 = .ok (.iload_n 2, 1) := by decide +kernel
theorem dX9_read_137 : decode cX9_read 137 = .ok (.baload, 1) := by decide +kernel
theorem dX9_read_138 : decode cX9_read 138 = .ok (.iadd, 1) := by decide +kernel
theorem dX9_read_139 : decode cX9_read 139 = .ok (.bipush 48, 2) := by decide +kernel
theorem dX9_read_141 : decode cX9_read 141 = .ok (.isub, 1) := by decide +kernel
theorem dX9_read_142 : decode cX9_read 142 = .ok (.istore 5, 2) := by decide +kernel
theorem dX9_read_144 : decode cX9_read 144 = .ok (.iinc 4 1, 3) := by decide +kernel
theorem dX9_read_147 : decode cX9_read 147 = .ok (.iinc 2 1, 3) := by decide +kernel
theorem dX9_read_150 : decode cX9_read 150 = .ok (.goto (-51), 3) := by decide +kernel
theorem dX9_read_153 : decode cX9_read 153 = .ok (.iload_n 2, 1) := by decide +kernel
theorem dX9_read_154 : decode cX9_read 154 = .ok (.aload_n 0, 1) := by decide +kernel
theorem dX9_read_155 : decode cX9_read 155 = .ok (.getfield 169, 3) := by decide +kernel
theorem dX9_read_158 : decode cX9_read 158 = .ok (.if_icmp .eq 20, 3) := by decide +kernel
theorem dX9_read_161 : decode cX9_read 161 = .ok (.iload 4, 2) := by decide +kernel
theorem dX9_read_163 : decode cX9_read 163 = .ok (.iconst 2, 1) := by decide +kernel
theorem dX9_read_164 : decode cX9_read 164 = .ok (.if_icmp .lt 14, 3) := by decide +kernel
theorem dX9_read_167 : decode cX9_read 167 = .ok (.aload_n 0, 1) := by decide +kernel
theorem dX9_read_168 : decode cX9_read 168 = .ok (.getfield 81, 3) := by decide +kernel
theorem dX9_read_171 : decode cX9_read 171 = .ok (.iload_n 2, 1) := by decide +kernel
theorem dX9_read_172 : decode cX9_read 172 = .ok (.baload, 1) := by decide +kernel
theorem dX9_read_173 : decode cX9_read 173 = .ok (.bipush 32, 2) := by decide +kernel
theorem dX9_read_175 : decode cX9_read 175 = .ok (.if_icmp .eq 5, 3) := by decide +kernel
theorem dX9_read_178 : decode cX9_read 178 = .ok (.iload_n 2, 1) := by decide +kernel
theorem dX9_read_179 : decode cX9_read 179 = .ok (.ireturn, 1) := by decide +kernel
theorem dX9_read_180 : decode cX9_read 180 = .ok (.aload_n 0, 1) := by decide +kernel
theorem dX9_read_181 : decode cX9_read 181 = .ok (.iconst (-1), 1) := by decide +kernel
theorem dX9_read_182 : decode cX9_read 182 = .ok (.iload 5, 2) := by decide +kernel
theorem dX9_read_184 : decode cX9_read 184 = .ok (.isub, 1) := by decide +kernel
theorem dX9_read_185 : decode cX9_read 185 = .ok (.invokevirtual 181, 3) := by decide +kernel
theorem dX9_read_188 : decode cX9_read 188 = .ok (.goto 40, 3) := by decide +kernel
theorem dX9_read_191 : decode cX9_read 191 = .ok (.iload_n 3, 1) := by decide +kernel
theorem dX9_read_192 : decode cX9_read 192 = .ok (.invokestatic 185, 3) := by decide +kernel
theorem dX9_read_195 : decode cX9_read 195 = .ok (.ifCond .eq 16, 3) := by decide +kernel
theorem dX9_read_198 : decode cX9_read 198 = .ok (.aload_n 0, 1) := by decide +kernel
theorem dX9_read_199 : decode cX9_read 199 = .ok (.iconst (-1), 1) := by decide +kernel
theorem dX9_read_200 : decode cX9_read 200 = .ok (.iload_n 3, 1) := by decide +kernel
theorem dX9_read_201 : decode cX9_read 201 = .ok (.bipush 48, 2) := by decide +kernel
theorem dX9_read_203 : decode cX9_read 203 = .ok (.isub, 1) := by decide +kernel
theorem dX9_read_204 : decode cX9_read 204 = .ok (.isub, 1) := by decide +kernel
theorem dX9_read_205 : decode cX9_read 205 = .ok (.invokevirtual 181, 3) := by decide +kernel
theorem dX9_read_208 : decode cX9_read 208 = .ok (.goto 20, 3) := by decide +kernel
theorem dX9_read_211 : decode cX9_read 211 = .ok (.iload_n 3, 1) := by decide +kernel
theorem dX9_read_212 : decode cX9_read 212 = .ok (.invokestatic 188, 3) := by decide +kernel
theorem dX9_read_215 : decode cX9_read 215 = .ok (.ifCond .eq 11, 3) := by decide +kernel
theorem dX9_read_218 : decode cX9_read 218 = .ok (.aload_n 0, 1) := by decide +kernel
theorem dX9_read_219 : decode cX9_read 219 = .ok (.iload_n 3, 1) := by decide +kernel
theorem dX9_read_220 : decode cX9_read 220 = .ok (.invokevirtual 181, 3) := by decide +kernel
theorem dX9_read_223 : decode cX9_read 223 = .ok (.goto 5, 3) := by decide +kernel
theorem dX9_read_226 : decode cX9_read 226 = .ok (.iload_n 2, 1) := by decide +kernel
theorem dX9_read_227 : decode cX9_read 227 = .ok (.ireturn, 1) := by decide +kernel
theorem dX9_read_228 : decode cX9_read 228 = .ok (.iinc 2 1, 3) := by decide +kernel
theorem dX9_read_231 : decode cX9_read 231 = .ok (.iload_n 1, 1) := by decide +kernel
theorem dX9_read_232 : decode cX9_read 232 = .ok (.ifCond .le 7, 3) := by decide +kernel
theorem dX9_read_235 : decode cX9_read 235 = .ok (.iconst 1, 1) := by decide +kernel
theorem dX9_read_236 : decode cX9_read 236 = .ok (.goto 4, 3) := by decide +kernel
theorem dX9_read_239 : decode cX9_read 239 = .ok (.iconst 0, 1) := by decide +kernel
theorem dX9_read_240 : decode cX9_read 240 = .ok (.istore 4, 2) := by decide +kernel
theorem dX9_read_242 : decode cX9_read 242 = .ok (.iload 4, 2) := by decide +kernel
theorem dX9_read_244 : decode cX9_read 244 = .ok (.ifCond .eq 65, 3) := by decide +kernel
theorem dX9_read_247 : decode cX9_read 247 = .ok (.aload_n 0, 1) := by decide +kernel
theorem dX9_read_248 : decode cX9_read 248 = .ok (.getfield 91, 3) := by decide +kernel
theorem dX9_read_251 : decode cX9_read 251 = .ok (.iload_n 1, 1) := by decide +kernel
theorem dX9_read_252 : decode cX9_read 252 = .ok (.iconst 1, 1) := by decide +kernel
theorem dX9_read_253 : decode cX9_read 253 = .ok (.isub, 1) := by decide +kernel
theorem dX9_read_254 : decode cX9_read 254 = .ok (.dup2, 1) := by decide +kernel
theorem dX9_read_255 : decode cX9_read 255 = .ok (.iaload, 1) := by decide +kernel
theorem dX9_read_256 : decode cX9_read 256 = .ok (.iconst 1, 1) := by decide +kernel
theorem dX9_read_257 : decode cX9_read 257 = .ok (.isub, 1) := by decide +kernel
theorem dX9_read_258 : decode cX9_read 258 = .ok (.iastore, 1) := by decide +kernel
theorem dX9_read_259 : decode cX9_read 259 = .ok (.aload_n 0, 1) := by decide +kernel
theorem dX9_read_260 : decode cX9_read 260 = .ok (.getfield 91, 3) := by decide +kernel
theorem dX9_read_263 : decode cX9_read 263 = .ok (.iload_n 1, 1) := by decide +kernel
theorem dX9_read_264 : decode cX9_read 264 = .ok (.iconst 1, 1) := by decide +kernel
theorem dX9_read_265 : decode cX9_read 265 = .ok (.isub, 1) := by decide +kernel
theorem dX9_read_266 : decode cX9_read 266 = .ok (.iaload, 1) := by decide +kernel
theorem dX9_read_267 : decode cX9_read 267 = .ok (.ifCond .ne 7, 3) := by decide +kernel
theorem dX9_read_270 : decode cX9_read 270 = .ok (.iconst 1, 1) := by decide +kernel
theorem dX9_read_271 : decode cX9_read 271 = .ok (.goto 4, 3) := by decide +kernel
theorem dX9_read_274 : decode cX9_read 274 = .ok (.iconst 0, 1) := by decide +kernel
theorem dX9_read_275 : decode cX9_read 275 = .ok (.istore 4, 2) := by decide +kernel
theorem dX9_read_277 : decode cX9_read 277 = .ok (.iload_n 1, 1) := by decide +kernel
theorem dX9_read_278 : decode cX9_read 278 = .ok (.iload 4, 2) := by decide +kernel
theorem dX9_read_280 : decode cX9_read 280 = .ok (.ifCond .eq 7, 3) := by decide +kernel
theorem dX9_read_283 : decode cX9_read 283 = .ok (.iconst 1, 1) := by decide +kernel
theorem dX9_read_284 : decode cX9_read 284 = .ok (.goto 4, 3) := by decide +kernel
theorem dX9_read_287 : decode cX9_read 287 = .ok (.iconst 0, 1) := by decide +kernel
theorem dX9_read_288 : decode cX9_read 288 = .ok (.isub, 1) := by decide +kernel
theorem dX9_read_289 : decode cX9_read 289 = .ok (.istore_n 1, 1) := by decide +kernel
theorem dX9_read_290 : decode cX9_read 290 = .ok (.iload 4, 2) := by decide +kernel
theorem dX9_read_292 : decode cX9_read 292 = .ok (.ifCond .eq 11, 3) := by decide +kernel
theorem dX9_read_295 : decode cX9_read 295 = .ok (.iload_n 1, 1) := by decide +kernel
theorem dX9_read_296 : decode cX9_read 296 = .ok (.ifCond .le 7, 3) := by decide +kernel
theorem dX9_read_299 : decode cX9_read 299 = .ok (.iconst 1, 1) := by decide +kernel
theorem dX9_read_300 : decode cX9_read 300 = .ok (.goto 4, 3) := by decide +kernel
theorem dX9_read_303 : decode cX9_read 303 = .ok (.iconst 0, 1) := by decide +kernel
theorem dX9_read_304 : decode cX9_read 304 = .ok (.istore 4, 2) := by decide +kernel
theorem dX9_read_306 : decode cX9_read 306 = .ok (.goto (-64), 3) := by decide +kernel
theorem dX9_read_309 : decode cX9_read 309 = .ok (.iload_n 1, 1) := by decide +kernel
theorem dX9_read_310 : decode cX9_read 310 = .ok (.ifCond .ne 17, 3) := by decide +kernel
theorem dX9_read_313 : decode cX9_read 313 = .ok (.iload_n 2, 1) := by decide +kernel
theorem dX9_read_314 : decode cX9_read 314 = .ok (.aload_n 0, 1) := by decide +kernel
theorem dX9_read_315 : decode cX9_read 315 = .ok (.getfield 169, 3) := by decide +kernel
theorem dX9_read_318 : decode cX9_read 318 = .ok (.if_icmp .ne 7, 3) := by decide +kernel
theorem dX9_read_321 : decode cX9_read 321 = .ok (.iconst (-1), 1) := by decide +kernel
theorem dX9_read_322 : decode cX9_read 322 = .ok (.goto 4, 3) := by decide +kernel
theorem dX9_read_325 : decode cX9_read 325 = .ok (.iload_n 2, 1) := by decide +kernel
theorem dX9_read_326 : decode cX9_read 326 = .ok (.ireturn, 1) := by decide +kernel
theorem dX9_read_327 : decode cX9_read 327 = .ok (.goto (-310), 3) := by decide +kernel
theorem dX9_read_330 : decode cX9_read 330 = .ok (.aload_n 0, 1) := by decide +kernel
theorem dX9_read_331 : decode cX9_read 331 = .ok (.getfield 169, 3) := by decide +kernel
theorem dX9_read_334 : decode cX9_read 334 = .ok (.ireturn, 1) := by decide +kernel
theorem dX9_keep_0 : decode cX9_keep 0 = .ok (.aload_n 0, 1) := by decide +kernel
theorem dX9_keep_1 : decode cX9_keep 1 = .ok (.dup, 1) := by decide +kernel
theorem dX9_keep_2 : decode cX9_keep 2 = .ok (.getfield 175, 3) := by decide +kernel
theorem dX9_keep_5 : decode cX9_keep 5 = .ok (.iconst 1, 1) := by decide +kernel
theorem dX9_keep_6 : decode cX9_keep 6 = .ok (.iadd, 1) := by decide +kernel
theorem dX9_keep_7 : decode cX9_keep 7 = .ok (.putfield 175, 3) := by decide +kernel
theorem dX9_keep_10 : decode cX9_keep 10 = .ok (.aload_n 0, 1) := by decide +kernel
theorem dX9_keep_11 : decode cX9_keep 11 = .ok (.getfield 85, 3) := by decide +kernel
theorem dX9_keep_14 : decode cX9_keep 14 = .ok (.aload_n 0, 1) := by decide +kernel
theorem dX9_keep_15 : decode cX9_keep 15 = .ok (.getfield 175, 3) := by decide +kernel
theorem dX9_keep_18 : decode cX9_keep 18 = .ok (.aload_n 0, 1) := by decide +kernel
theorem dX9_keep_19 : decode cX9_keep 19 = .ok (.getfield 172, 3) := by decide +kernel
theorem dX9_keep_22 : decode cX9_keep 22 = .ok (.iastore, 1) := by decide +kernel
theorem dX9_keep_23 : decode cX9_keep 23 = .ok (.aload_n 0, 1) := by decide +kernel
theorem dX9_keep_24 : decode cX9_keep 24 = .ok (.iconst 0, 1) := by decide +kernel
theorem dX9_keep_25 : decode cX9_keep 25 = .ok (.putfield 169, 3) := by decide +kernel
theorem dX9_keep_28 : decode cX9_keep 28 = .ok (.aload_n 0, 1) := by decide +kernel
theorem dX9_keep_29 : decode cX9_keep 29 = .ok (.getfield 175, 3) := by decide +kernel
theorem dX9_keep_32 : decode cX9_keep 32 = .ok (.iconst 1, 1) := by decide +kernel
theorem dX9_keep_33 : decode cX9_keep 33 = .ok (.isub, 1) := by decide +kernel
theorem dX9_keep_34 : decode cX9_keep 34 = .ok (.ireturn, 1) := by decide +kernel
theorem dX9_isFrost_0 : decode cX9_isFrost 0 = .ok (.aload_n 0, 1) := by decide +kernel
theorem dX9_isFrost_1 : decode cX9_isFrost 1 = .ok (.getfield 191, 3) := by decide +kernel
theorem dX9_isFrost_4 : decode cX9_isFrost 4 = .ok (.iload_n 1, 1) := by decide +kernel
theorem dX9_isFrost_5 : decode cX9_isFrost 5 = .ok (.bipush 12, 2) := by decide +kernel
theorem dX9_isFrost_7 : decode cX9_isFrost 7 = .ok (.irem, 1) := by decide +kernel
theorem dX9_isFrost_8 : decode cX9_isFrost 8 = .ok (.ishr, 1) := by decide +kernel
theorem dX9_isFrost_9 : decode cX9_isFrost 9 = .ok (.iconst 1, 1) := by decide +kernel
theorem dX9_isFrost_10 : decode cX9_isFrost 10 = .ok (.iand, 1) := by decide +kernel
theorem dX9_isFrost_11 : decode cX9_isFrost 11 = .ok (.iconst 1, 1) := by decide +kernel
theorem dX9_isFrost_12 : decode cX9_isFrost 12 = .ok (.if_icmp .eq 12, 3) := by decide +kernel
theorem dX9_isFrost_15 : decode cX9_isFrost 15 = .ok (.aload_n 0, 1) := by decide +kernel
theorem dX9_isFrost_16 : decode cX9_isFrost 16 = .ok (.getfield 59, 3) := by decide +kernel
theorem dX9_isFrost_19 : decode cX9_isFrost 19 = .ok (.iload_n 1, 1) := by decide +kernel
theorem dX9_isFrost_20 : decode cX9_isFrost 20 = .ok (.baload, 1) := by decide +kernel
theorem dX9_isFrost_21 : decode cX9_isFrost 21 = .ok (.ifCond .eq 7, 3) := by decide +kernel
theorem dX9_isFrost_24 : decode cX9_isFrost 24 = .ok (.iconst 1, 1) := by decide +kernel
theorem dX9_isFrost_25 : decode cX9_isFrost 25 = .ok (.goto 4, 3) := by decide +kernel
theorem dX9_isFrost_28 : decode cX9_isFrost 28 = .ok (.iconst 0, 1) := by decide +kernel
theorem dX9_isFrost_29 : decode cX9_isFrost 29 = .ok (.ireturn, 1) := by decide +kernel
theorem dX9_named_0 : decode cX9_named 0 = .ok (.iload_n 1, 1) := by decide +kernel
theorem dX9_named_1 : decode cX9_named 1 = .ok (.tableswitch 183 102 121 #[166, 183, 183, 183, 183, 105, 183, 150, 120, 183, 95, 183, 183, 183, 183, 183, 183, 135, 183, 158], 95) := by decide +kernel
theorem dX9_named_96 : decode cX9_named 96 = .ok (.iload_n 2, 1) := by decide +kernel
theorem dX9_named_97 : decode cX9_named 97 = .ok (.ifCond .ge 7, 3) := by decide +kernel
theorem dX9_named_100 : decode cX9_named 100 = .ok (.iconst 0, 1) := by decide +kernel
theorem dX9_named_101 : decode cX9_named 101 = .ok (.goto 4, 3) := by decide +kernel
theorem dX9_named_104 : decode cX9_named 104 = .ok (.iload_n 2, 1) := by decide +kernel
theorem dX9_named_105 : decode cX9_named 105 = .ok (.ireturn, 1) := by decide +kernel
theorem dX9_named_106 : decode cX9_named 106 = .ok (.iload_n 2, 1) := by decide +kernel
theorem dX9_named_107 : decode cX9_named 107 = .ok (.ifCond .ge 7, 3) := by decide +kernel
theorem dX9_named_110 : decode cX9_named 110 = .ok (.iconst 0, 1) := by decide +kernel
theorem dX9_named_111 : decode cX9_named 111 = .ok (.goto 9, 3) := by decide +kernel
theorem dX9_named_114 : decode cX9_named 114 = .ok (.aload_n 0, 1) := by decide +kernel
theorem dX9_named_115 : decode cX9_named 115 = .ok (.getfield 7, 3) := by decide +kernel
theorem dX9_named_118 : decode cX9_named 118 = .ok (.iload_n 2, 1) := by decide +kernel
theorem dX9_named_119 : decode cX9_named 119 = .ok (.iaload, 1) := by decide +kernel
theorem dX9_named_120 : decode cX9_named 120 = .ok (.ireturn, 1) := by decide +kernel
theorem dX9_named_121 : decode cX9_named 121 = .ok (.iload_n 2, 1) := by decide +kernel
theorem dX9_named_122 : decode cX9_named 122 = .ok (.ifCond .ge 7, 3) := by decide +kernel
theorem dX9_named_125 : decode cX9_named 125 = .ok (.iconst 0, 1) := by decide +kernel
theorem dX9_named_126 : decode cX9_named 126 = .ok (.goto 9, 3) := by decide +kernel
theorem dX9_named_129 : decode cX9_named 129 = .ok (.aload_n 0, 1) := by decide +kernel
theorem dX9_named_130 : decode cX9_named 130 = .ok (.getfield 40, 3) := by decide +kernel
theorem dX9_named_133 : decode cX9_named 133 = .ok (.iload_n 2, 1) := by decide +kernel
theorem dX9_named_134 : decode cX9_named 134 = .ok (.iaload, 1) := by decide +kernel
theorem dX9_named_135 : decode cX9_named 135 = .ok (.ireturn, 1) := by decide +kernel
theorem dX9_named_136 : decode cX9_named 136 = .ok (.iload_n 2, 1) := by decide +kernel
theorem dX9_named_137 : decode cX9_named 137 = .ok (.ifCond .ge 7, 3) := by decide +kernel
theorem dX9_named_140 : decode cX9_named 140 = .ok (.iconst 0, 1) := by decide +kernel
theorem dX9_named_141 : decode cX9_named 141 = .ok (.goto 9, 3) := by decide +kernel
theorem dX9_named_144 : decode cX9_named 144 = .ok (.aload_n 0, 1) := by decide +kernel
theorem dX9_named_145 : decode cX9_named 145 = .ok (.getfield 13, 3) := by decide +kernel
theorem dX9_named_148 : decode cX9_named 148 = .ok (.iload_n 2, 1) := by decide +kernel
theorem dX9_named_149 : decode cX9_named 149 = .ok (.iaload, 1) := by decide +kernel
theorem dX9_named_150 : decode cX9_named 150 = .ok (.ireturn, 1) := by decide +kernel
theorem dX9_named_151 : decode cX9_named 151 = .ok (.aload_n 0, 1) := by decide +kernel
theorem dX9_named_152 : decode cX9_named 152 = .ok (.getfield 194, 3) := by decide +kernel
theorem dX9_named_155 : decode cX9_named 155 = .ok (.bipush 12, 2) := by decide +kernel
theorem dX9_named_157 : decode cX9_named 157 = .ok (.irem, 1) := by decide +kernel
theorem dX9_named_158 : decode cX9_named 158 = .ok (.ireturn, 1) := by decide +kernel
theorem dX9_named_159 : decode cX9_named 159 = .ok (.aload_n 0, 1) := by decide +kernel
theorem dX9_named_160 : decode cX9_named 160 = .ok (.getfield 194, 3) := by decide +kernel
theorem dX9_named_163 : decode cX9_named 163 = .ok (.bipush 12, 2) := by decide +kernel
theorem dX9_named_165 : decode cX9_named 165 = .ok (.idiv, 1) := by decide +kernel
theorem dX9_named_166 : decode cX9_named 166 = .ok (.ireturn, 1) := by decide +kernel
theorem dX9_named_167 : decode cX9_named 167 = .ok (.aload_n 0, 1) := by decide +kernel
theorem dX9_named_168 : decode cX9_named 168 = .ok (.aload_n 0, 1) := by decide +kernel
theorem dX9_named_169 : decode cX9_named 169 = .ok (.getfield 194, 3) := by decide +kernel
theorem dX9_named_172 : decode cX9_named 172 = .ok (.invokevirtual 197, 3) := by decide +kernel
theorem dX9_named_175 : decode cX9_named 175 = .ok (.ifCond .eq 7, 3) := by decide +kernel
theorem dX9_named_178 : decode cX9_named 178 = .ok (.iconst 1, 1) := by decide +kernel
theorem dX9_named_179 : decode cX9_named 179 = .ok (.goto 4, 3) := by decide +kernel
theorem dX9_named_182 : decode cX9_named 182 = .ok (.iconst 0, 1) := by decide +kernel
theorem dX9_named_183 : decode cX9_named 183 = .ok (.ireturn, 1) := by decide +kernel
theorem dX9_named_184 : decode cX9_named 184 = .ok (.aload_n 0, 1) := by decide +kernel
theorem dX9_named_185 : decode cX9_named 185 = .ok (.getfield 200, 3) := by decide +kernel
theorem dX9_named_188 : decode cX9_named 188 = .ok (.ireturn, 1) := by decide +kernel
theorem dX9_both_0 : decode cX9_both 0 = .ok (.iload_n 0, 1) := by decide +kernel
theorem dX9_both_1 : decode cX9_both 1 = .ok (.tableswitch 174 38 62 #[160, 174, 174, 174, 123, 115, 174, 119, 174, 174, 174, 174, 174, 174, 174, 174, 174, 174, 174, 174, 174, 174, 127, 138, 149], 115) := by decide +kernel
theorem dX9_both_116 : decode cX9_both 116 = .ok (.iload_n 1, 1) := by decide +kernel
theorem dX9_both_117 : decode cX9_both 117 = .ok (.iload_n 2, 1) := by decide +kernel
theorem dX9_both_118 : decode cX9_both 118 = .ok (.iadd, 1) := by decide +kernel
theorem dX9_both_119 : decode cX9_both 119 = .ok (.ireturn, 1) := by decide +kernel
theorem dX9_both_120 : decode cX9_both 120 = .ok (.iload_n 1, 1) := by decide +kernel
theorem dX9_both_121 : decode cX9_both 121 = .ok (.iload_n 2, 1) := by decide +kernel
theorem dX9_both_122 : decode cX9_both 122 = .ok (.isub, 1) := by decide +kernel
theorem dX9_both_123 : decode cX9_both 123 = .ok (.ireturn, 1) := by decide +kernel
theorem dX9_both_124 : decode cX9_both 124 = .ok (.iload_n 1, 1) := by decide +kernel
theorem dX9_both_125 : decode cX9_both 125 = .ok (.iload_n 2, 1) := by decide +kernel
theorem dX9_both_126 : decode cX9_both 126 = .ok (.imul, 1) := by decide +kernel
theorem dX9_both_127 : decode cX9_both 127 = .ok (.ireturn, 1) := by decide +kernel
theorem dX9_both_128 : decode cX9_both 128 = .ok (.iload_n 1, 1) := by decide +kernel
theorem dX9_both_129 : decode cX9_both 129 = .ok (.iload_n 2, 1) := by decide +kernel
theorem dX9_both_130 : decode cX9_both 130 = .ok (.if_icmp .ge 7, 3) := by decide +kernel
theorem dX9_both_133 : decode cX9_both 133 = .ok (.iconst 1, 1) := by decide +kernel
theorem dX9_both_134 : decode cX9_both 134 = .ok (.goto 4, 3) := by decide +kernel
theorem dX9_both_137 : decode cX9_both 137 = .ok (.iconst 0, 1) := by decide +kernel
theorem dX9_both_138 : decode cX9_both 138 = .ok (.ireturn, 1) := by decide +kernel
theorem dX9_both_139 : decode cX9_both 139 = .ok (.iload_n 1, 1) := by decide +kernel
theorem dX9_both_140 : decode cX9_both 140 = .ok (.iload_n 2, 1) := by decide +kernel
theorem dX9_both_141 : decode cX9_both 141 = .ok (.if_icmp .ne 7, 3) := by decide +kernel
theorem dX9_both_144 : decode cX9_both 144 = .ok (.iconst 1, 1) := by decide +kernel
theorem dX9_both_145 : decode cX9_both 145 = .ok (.goto 4, 3) := by decide +kernel
theorem dX9_both_148 : decode cX9_both 148 = .ok (.iconst 0, 1) := by decide +kernel
theorem dX9_both_149 : decode cX9_both 149 = .ok (.ireturn, 1) := by decide +kernel
theorem dX9_both_150 : decode cX9_both 150 = .ok (.iload_n 1, 1) := by decide +kernel
theorem dX9_both_151 : decode cX9_both 151 = .ok (.iload_n 2, 1) := by decide +kernel
theorem dX9_both_152 : decode cX9_both 152 = .ok (.if_icmp .le 7, 3) := by decide +kernel
theorem dX9_both_155 : decode cX9_both 155 = .ok (.iconst 1, 1) := by decide +kernel
theorem dX9_both_156 : decode cX9_both 156 = .ok (.goto 4, 3) := by decide +kernel
theorem dX9_both_159 : decode cX9_both 159 = .ok (.iconst 0, 1) := by decide +kernel
theorem dX9_both_160 : decode cX9_both 160 = .ok (.ireturn, 1) := by decide +kernel
theorem dX9_both_161 : decode cX9_both 161 = .ok (.iload_n 1, 1) := by decide +kernel
theorem dX9_both_162 : decode cX9_both 162 = .ok (.ifCond .eq 11, 3) := by decide +kernel
theorem dX9_both_165 : decode cX9_both 165 = .ok (.iload_n 2, 1) := by decide +kernel
theorem dX9_both_166 : decode cX9_both 166 = .ok (.ifCond .eq 7, 3) := by decide +kernel
theorem dX9_both_169 : decode cX9_both 169 = .ok (.iconst 1, 1) := by decide +kernel
theorem dX9_both_170 : decode cX9_both 170 = .ok (.goto 4, 3) := by decide +kernel
theorem dX9_both_173 : decode cX9_both 173 = .ok (.iconst 0, 1) := by decide +kernel
theorem dX9_both_174 : decode cX9_both 174 = .ok (.ireturn, 1) := by decide +kernel
theorem dX9_both_175 : decode cX9_both 175 = .ok (.iload_n 1, 1) := by decide +kernel
theorem dX9_both_176 : decode cX9_both 176 = .ok (.ifCond .ne 7, 3) := by decide +kernel
theorem dX9_both_179 : decode cX9_both 179 = .ok (.iload_n 2, 1) := by decide +kernel
theorem dX9_both_180 : decode cX9_both 180 = .ok (.ifCond .eq 7, 3) := by decide +kernel
theorem dX9_both_183 : decode cX9_both 183 = .ok (.iconst 1, 1) := by decide +kernel
theorem dX9_both_184 : decode cX9_both 184 = .ok (.goto 4, 3) := by decide +kernel
theorem dX9_both_187 : decode cX9_both 187 = .ok (.iconst 0, 1) := by decide +kernel
theorem dX9_both_188 : decode cX9_both 188 = .ok (.ireturn, 1) := by decide +kernel
theorem dX9_says_0 : decode cX9_says 0 = .ok (.iconst 0, 1) := by decide +kernel
theorem dX9_says_1 : decode cX9_says 1 = .ok (.istore_n 3, 1) := by decide +kernel
theorem dX9_says_2 : decode cX9_says 2 = .ok (.aload_n 0, 1) := by decide +kernel
theorem dX9_says_3 : decode cX9_says 3 = .ok (.getfield 85, 3) := by decide +kernel
theorem dX9_says_6 : decode cX9_says 6 = .ok (.iload_n 1, 1) := by decide +kernel
theorem dX9_says_7 : decode cX9_says 7 = .ok (.iconst 1, 1) := by decide +kernel
theorem dX9_says_8 : decode cX9_says 8 = .ok (.iadd, 1) := by decide +kernel
theorem dX9_says_9 : decode cX9_says 9 = .ok (.iaload, 1) := by decide +kernel
theorem dX9_says_10 : decode cX9_says 10 = .ok (.iconst 1, 1) := by decide +kernel
theorem dX9_says_11 : decode cX9_says 11 = .ok (.isub, 1) := by decide +kernel
theorem dX9_says_12 : decode cX9_says 12 = .ok (.istore 4, 2) := by decide +kernel
theorem dX9_says_14 : decode cX9_says 14 = .ok (.iload 4, 2) := by decide +kernel
theorem dX9_says_16 : decode cX9_says 16 = .ok (.aload_n 0, 1) := by decide +kernel
theorem dX9_says_17 : decode cX9_says 17 = .ok (.getfield 85, 3) := by decide +kernel
theorem dX9_says_20 : decode cX9_says 20 = .ok (.iload_n 1, 1) := by decide +kernel
theorem dX9_says_21 : decode cX9_says 21 = .ok (.iaload, 1) := by decide +kernel
theorem dX9_says_22 : decode cX9_says 22 = .ok (.if_icmp .lt 126, 3) := by decide +kernel
theorem dX9_says_25 : decode cX9_says 25 = .ok (.aload_n 0, 1) := by decide +kernel
theorem dX9_says_26 : decode cX9_says 26 = .ok (.getfield 88, 3) := by decide +kernel
theorem dX9_says_29 : decode cX9_says 29 = .ok (.iload 4, 2) := by decide +kernel
theorem dX9_says_31 : decode cX9_says 31 = .ok (.iaload, 1) := by decide +kernel
theorem dX9_says_32 : decode cX9_says 32 = .ok (.istore 5, 2) := by decide +kernel
theorem dX9_says_34 : decode cX9_says 34 = .ok (.iload 5, 2) := by decide +kernel
theorem dX9_says_36 : decode cX9_says 36 = .ok (.ifCond .lt 11, 3) := by decide +kernel
theorem dX9_says_39 : decode cX9_says 39 = .ok (.iload 5, 2) := by decide +kernel
theorem dX9_says_41 : decode cX9_says 41 = .ok (.invokestatic 188, 3) := by decide +kernel
theorem dX9_says_44 : decode cX9_says 44 = .ok (.ifCond .eq 34, 3) := by decide +kernel
theorem dX9_says_47 : decode cX9_says 47 = .ok (.aload_n 0, 1) := by decide +kernel
theorem dX9_says_48 : decode cX9_says 48 = .ok (.getfield 94, 3) := by decide +kernel
theorem dX9_says_51 : decode cX9_says 51 = .ok (.iload_n 3, 1) := by decide +kernel
theorem dX9_says_52 : decode cX9_says 52 = .ok (.iload 5, 2) := by decide +kernel
theorem dX9_says_54 : decode cX9_says 54 = .ok (.ifCond .ge 10, 3) := by decide +kernel
theorem dX9_says_57 : decode cX9_says 57 = .ok (.iconst (-1), 1) := by decide +kernel
theorem dX9_says_58 : decode cX9_says 58 = .ok (.iload 5, 2) := by decide +kernel
theorem dX9_says_60 : decode cX9_says 60 = .ok (.isub, 1) := by decide +kernel
theorem dX9_says_61 : decode cX9_says 61 = .ok (.goto 10, 3) := by decide +kernel
theorem dX9_says_64 : decode cX9_says 64 = .ok (.aload_n 0, 1) := by decide +kernel
theorem dX9_says_65 : decode cX9_says 65 = .ok (.iload 5, 2) := by decide +kernel
theorem dX9_says_67 : decode cX9_says 67 = .ok (.iload_n 2, 1) := by decide +kernel
theorem dX9_says_68 : decode cX9_says 68 = .ok (.invokevirtual 203, 3) := by decide +kernel
theorem dX9_says_71 : decode cX9_says 71 = .ok (.iastore, 1) := by decide +kernel
theorem dX9_says_72 : decode cX9_says 72 = .ok (.iinc 3 1, 3) := by decide +kernel
theorem dX9_says_75 : decode cX9_says 75 = .ok (.goto 67, 3) := by decide +kernel
theorem dX9_says_78 : decode cX9_says 78 = .ok (.iload 5, 2) := by decide +kernel
theorem dX9_says_80 : decode cX9_says 80 = .ok (.bipush 33, 2) := by decide +kernel
theorem dX9_says_82 : decode cX9_says 82 = .ok (.if_icmp .ne 30, 3) := by decide +kernel
theorem dX9_says_85 : decode cX9_says 85 = .ok (.aload_n 0, 1) := by decide +kernel
theorem dX9_says_86 : decode cX9_says 86 = .ok (.getfield 94, 3) := by decide +kernel
theorem dX9_says_89 : decode cX9_says 89 = .ok (.iload_n 3, 1) := by decide +kernel
theorem dX9_says_90 : decode cX9_says 90 = .ok (.iconst 1, 1) := by decide +kernel
theorem dX9_says_91 : decode cX9_says 91 = .ok (.isub, 1) := by decide +kernel
theorem dX9_says_92 : decode cX9_says 92 = .ok (.aload_n 0, 1) := by decide +kernel
theorem dX9_says_93 : decode cX9_says 93 = .ok (.getfield 94, 3) := by decide +kernel
theorem dX9_says_96 : decode cX9_says 96 = .ok (.iload_n 3, 1) := by decide +kernel
theorem dX9_says_97 : decode cX9_says 97 = .ok (.iconst 1, 1) := by decide +kernel
theorem dX9_says_98 : decode cX9_says 98 = .ok (.isub, 1) := by decide +kernel
theorem dX9_says_99 : decode cX9_says 99 = .ok (.iaload, 1) := by decide +kernel
theorem dX9_says_100 : decode cX9_says 100 = .ok (.ifCond .ne 7, 3) := by decide +kernel
theorem dX9_says_103 : decode cX9_says 103 = .ok (.iconst 1, 1) := by decide +kernel
theorem dX9_says_104 : decode cX9_says 104 = .ok (.goto 4, 3) := by decide +kernel
theorem dX9_says_107 : decode cX9_says 107 = .ok (.iconst 0, 1) := by decide +kernel
theorem dX9_says_108 : decode cX9_says 108 = .ok (.iastore, 1) := by decide +kernel
theorem dX9_says_109 : decode cX9_says 109 = .ok (.goto 33, 3) := by decide +kernel
theorem dX9_says_112 : decode cX9_says 112 = .ok (.iinc 3 (-1), 3) := by decide +kernel
theorem dX9_says_115 : decode cX9_says 115 = .ok (.aload_n 0, 1) := by decide +kernel
theorem dX9_says_116 : decode cX9_says 116 = .ok (.getfield 94, 3) := by decide +kernel
theorem dX9_says_119 : decode cX9_says 119 = .ok (.iload_n 3, 1) := by decide +kernel
theorem dX9_says_120 : decode cX9_says 120 = .ok (.iconst 1, 1) := by decide +kernel
theorem dX9_says_121 : decode cX9_says 121 = .ok (.isub, 1) := by decide +kernel
theorem dX9_says_122 : decode cX9_says 122 = .ok (.iload 5, 2) := by decide +kernel
theorem dX9_says_124 : decode cX9_says 124 = .ok (.aload_n 0, 1) := by decide +kernel
theorem dX9_says_125 : decode cX9_says 125 = .ok (.getfield 94, 3) := by decide +kernel
theorem dX9_says_128 : decode cX9_says 128 = .ok (.iload_n 3, 1) := by decide +kernel
theorem dX9_says_129 : decode cX9_says 129 = .ok (.iaload, 1) := by decide +kernel
theorem dX9_says_130 : decode cX9_says 130 = .ok (.aload_n 0, 1) := by decide +kernel
theorem dX9_says_131 : decode cX9_says 131 = .ok (.getfield 94, 3) := by decide +kernel
theorem dX9_says_134 : decode cX9_says 134 = .ok (.iload_n 3, 1) := by decide +kernel
theorem dX9_says_135 : decode cX9_says 135 = .ok (.iconst 1, 1) := by decide +kernel
theorem dX9_says_136 : decode cX9_says 136 = .ok (.isub, 1) := by decide +kernel
theorem dX9_says_137 : decode cX9_says 137 = .ok (.iaload, 1) := by decide +kernel
theorem dX9_says_138 : decode cX9_says 138 = .ok (.invokestatic 206, 3) := by decide +kernel
theorem dX9_says_141 : decode cX9_says 141 = .ok (.iastore, 1) := by decide +kernel
theorem dX9_says_142 : decode cX9_says 142 = .ok (.iinc 4 (-1), 3) := by decide +kernel
theorem dX9_says_145 : decode cX9_says 145 = .ok (.goto (-131), 3) := by decide +kernel
theorem dX9_says_148 : decode cX9_says 148 = .ok (.aload_n 0, 1) := by decide +kernel
theorem dX9_says_149 : decode cX9_says 149 = .ok (.getfield 94, 3) := by decide +kernel
theorem dX9_says_152 : decode cX9_says 152 = .ok (.iconst 0, 1) := by decide +kernel
theorem dX9_says_153 : decode cX9_says 153 = .ok (.iaload, 1) := by decide +kernel
theorem dX9_says_154 : decode cX9_says 154 = .ok (.ireturn, 1) := by decide +kernel
theorem dX9_isGift_0 : decode cX9_isGift 0 = .ok (.iload_n 1, 1) := by decide +kernel
theorem dX9_isGift_1 : decode cX9_isGift 1 = .ok (.iconst 0, 1) := by decide +kernel
theorem dX9_isGift_2 : decode cX9_isGift 2 = .ok (.aload_n 0, 1) := by decide +kernel
theorem dX9_isGift_3 : decode cX9_isGift 3 = .ok (.getfield 210, 3) := by decide +kernel
theorem dX9_isGift_6 : decode cX9_isGift 6 = .ok (.iconst 1, 1) := by decide +kernel
theorem dX9_isGift_7 : decode cX9_isGift 7 = .ok (.isub, 1) := by decide +kernel
theorem dX9_isGift_8 : decode cX9_isGift 8 = .ok (.invokestatic 125, 3) := by decide +kernel
theorem dX9_isGift_11 : decode cX9_isGift 11 = .ok (.ireturn, 1) := by decide +kernel
theorem dX9_gift_0 : decode cX9_gift 0 = .ok (.iload_n 1, 1) := by decide +kernel
theorem dX9_gift_1 : decode cX9_gift 1 = .ok (.iconst 1, 1) := by decide +kernel
theorem dX9_gift_2 : decode cX9_gift 2 = .ok (.ldc 129, 2) := by decide +kernel
theorem dX9_gift_4 : decode cX9_gift 4 = .ok (.invokestatic 125, 3) := by decide +kernel
theorem dX9_gift_7 : decode cX9_gift 7 = .ok (.ifCond .ne 5, 3) := by decide +kernel
theorem dX9_gift_10 : decode cX9_gift 10 = .ok (.iconst (-1), 1) := by decide +kernel
theorem dX9_gift_11 : decode cX9_gift 11 = .ok (.ireturn, 1) := by decide +kernel
theorem dX9_gift_12 : decode cX9_gift 12 = .ok (.aload_n 0, 1) := by decide +kernel
theorem dX9_gift_13 : decode cX9_gift 13 = .ok (.getfield 210, 3) := by decide +kernel
theorem dX9_gift_16 : decode cX9_gift 16 = .ok (.bipush 30, 2) := by decide +kernel
theorem dX9_gift_18 : decode cX9_gift 18 = .ok (.if_icmp .ne 6, 3) := by decide +kernel
theorem dX9_gift_21 : decode cX9_gift 21 = .ok (.bipush (-3), 2) := by decide +kernel
theorem dX9_gift_23 : decode cX9_gift 23 = .ok (.ireturn, 1) := by decide +kernel
theorem dX9_gift_24 : decode cX9_gift 24 = .ok (.iconst (-1), 1) := by decide +kernel
theorem dX9_gift_25 : decode cX9_gift 25 = .ok (.istore_n 2, 1) := by decide +kernel
theorem dX9_gift_26 : decode cX9_gift 26 = .ok (.aload_n 0, 1) := by decide +kernel
theorem dX9_gift_27 : decode cX9_gift 27 = .ok (.getfield 169, 3) := by decide +kernel
theorem dX9_gift_30 : decode cX9_gift 30 = .ok (.ifCond .le 27, 3) := by decide +kernel
theorem dX9_gift_33 : decode cX9_gift 33 = .ok (.aload_n 0, 1) := by decide +kernel
theorem dX9_gift_34 : decode cX9_gift 34 = .ok (.invokevirtual 213, 3) := by decide +kernel
theorem dX9_gift_37 : decode cX9_gift 37 = .ok (.istore_n 3, 1) := by decide +kernel
theorem dX9_gift_38 : decode cX9_gift 38 = .ok (.iload_n 3, 1) := by decide +kernel
theorem dX9_gift_39 : decode cX9_gift 39 = .ok (.ifCond .lt 13, 3) := by decide +kernel
theorem dX9_gift_42 : decode cX9_gift 42 = .ok (.aload_n 0, 1) := by decide +kernel
theorem dX9_gift_43 : decode cX9_gift 43 = .ok (.iconst 0, 1) := by decide +kernel
theorem dX9_gift_44 : decode cX9_gift 44 = .ok (.putfield 169, 3) := by decide +kernel
theorem dX9_gift_47 : decode cX9_gift 47 = .ok (.bipush (-100), 2) := by decide +kernel
theorem dX9_gift_49 : decode cX9_gift 49 = .ok (.iload_n 3, 1) := by decide +kernel
theorem dX9_gift_50 : decode cX9_gift 50 = .ok (.isub, 1) := by decide +kernel
theorem dX9_gift_51 : decode cX9_gift 51 = .ok (.ireturn, 1) := by decide +kernel
theorem dX9_gift_52 : decode cX9_gift 52 = .ok (.aload_n 0, 1) := by decide +kernel
theorem dX9_gift_53 : decode cX9_gift 53 = .ok (.invokevirtual 216, 3) := by decide +kernel
theorem dX9_gift_56 : decode cX9_gift 56 = .ok (.istore_n 2, 1) := by decide +kernel
theorem dX9_gift_57 : decode cX9_gift 57 = .ok (.aload_n 0, 1) := by decide +kernel
theorem dX9_gift_58 : decode cX9_gift 58 = .ok (.getfield 97, 3) := by decide +kernel
theorem dX9_gift_61 : decode cX9_gift 61 = .ok (.aload_n 0, 1) := by decide +kernel
theorem dX9_gift_62 : decode cX9_gift 62 = .ok (.getfield 210, 3) := by decide +kernel
theorem dX9_gift_65 : decode cX9_gift 65 = .ok (.iload_n 1, 1) := by decide +kernel
theorem dX9_gift_66 : decode cX9_gift 66 = .ok (.iastore, 1) := by decide +kernel
theorem dX9_gift_67 : decode cX9_gift 67 = .ok (.aload_n 0, 1) := by decide +kernel
theorem dX9_gift_68 : decode cX9_gift 68 = .ok (.getfield 100, 3) := by decide +kernel
theorem dX9_gift_71 : decode cX9_gift 71 = .ok (.aload_n 0, 1) := by decide +kernel
theorem dX9_gift_72 : decode cX9_gift 72 = .ok (.getfield 210, 3) := by decide +kernel
theorem dX9_gift_75 : decode cX9_gift 75 = .ok (.iload_n 1, 1) := by decide +kernel
theorem dX9_gift_76 : decode cX9_gift 76 = .ok (.iastore, 1) := by decide +kernel
theorem dX9_gift_77 : decode cX9_gift 77 = .ok (.aload_n 0, 1) := by decide +kernel
theorem dX9_gift_78 : decode cX9_gift 78 = .ok (.getfield 103, 3) := by decide +kernel
theorem dX9_gift_81 : decode cX9_gift 81 = .ok (.aload_n 0, 1) := by decide +kernel
theorem dX9_gift_82 : decode cX9_gift 82 = .ok (.getfield 210, 3) := by decide +kernel
theorem dX9_gift_85 : decode cX9_gift 85 = .ok (.iload_n 2, 1) := by decide +kernel
theorem dX9_gift_86 : decode cX9_gift 86 = .ok (.iastore, 1) := by decide +kernel
theorem dX9_gift_87 : decode cX9_gift 87 = .ok (.aload_n 0, 1) := by decide +kernel
theorem dX9_gift_88 : decode cX9_gift 88 = .ok (.dup, 1) := by decide +kernel
theorem dX9_gift_89 : decode cX9_gift 89 = .ok (.getfield 210, 3) := by decide +kernel
theorem dX9_gift_92 : decode cX9_gift 92 = .ok (.iconst 1, 1) := by decide +kernel
theorem dX9_gift_93 : decode cX9_gift 93 = .ok (.iadd, 1) := by decide +kernel
theorem dX9_gift_94 : decode cX9_gift 94 = .ok (.putfield 210, 3) := by decide +kernel
theorem dX9_gift_97 : decode cX9_gift 97 = .ok (.aload_n 0, 1) := by decide +kernel
theorem dX9_gift_98 : decode cX9_gift 98 = .ok (.getfield 210, 3) := by decide +kernel
theorem dX9_gift_101 : decode cX9_gift 101 = .ok (.iconst 1, 1) := by decide +kernel
theorem dX9_gift_102 : decode cX9_gift 102 = .ok (.isub, 1) := by decide +kernel
theorem dX9_gift_103 : decode cX9_gift 103 = .ok (.ireturn, 1) := by decide +kernel
theorem dX9_statute_0 : decode cX9_statute 0 = .ok (.iload_n 1, 1) := by decide +kernel
theorem dX9_statute_1 : decode cX9_statute 1 = .ok (.aload_n 0, 1) := by decide +kernel
theorem dX9_statute_2 : decode cX9_statute 2 = .ok (.getfield 194, 3) := by decide +kernel
theorem dX9_statute_5 : decode cX9_statute 5 = .ok (.sipush 1200, 3) := by decide +kernel
theorem dX9_statute_8 : decode cX9_statute 8 = .ok (.invokestatic 125, 3) := by decide +kernel
theorem dX9_statute_11 : decode cX9_statute 11 = .ok (.ifCond .ne 5, 3) := by decide +kernel
theorem dX9_statute_14 : decode cX9_statute 14 = .ok (.iconst (-1), 1) := by decide +kernel
theorem dX9_statute_15 : decode cX9_statute 15 = .ok (.ireturn, 1) := by decide +kernel
theorem dX9_statute_16 : decode cX9_statute 16 = .ok (.aload_n 0, 1) := by decide +kernel
theorem dX9_statute_17 : decode cX9_statute 17 = .ok (.getfield 219, 3) := by decide +kernel
theorem dX9_statute_20 : decode cX9_statute 20 = .ok (.bipush 20, 2) := by decide +kernel
theorem dX9_statute_22 : decode cX9_statute 22 = .ok (.if_icmp .ne 6, 3) := by decide +kernel
theorem dX9_statute_25 : decode cX9_statute 25 = .ok (.bipush (-3), 2) := by decide +kernel
theorem dX9_statute_27 : decode cX9_statute 27 = .ok (.ireturn, 1) := by decide +kernel
theorem dX9_statute_28 : decode cX9_statute 28 = .ok (.aload_n 0, 1) := by decide +kernel
theorem dX9_statute_29 : decode cX9_statute 29 = .ok (.invokevirtual 213, 3) := by decide +kernel
theorem dX9_statute_32 : decode cX9_statute 32 = .ok (.istore_n 2, 1) := by decide +kernel
theorem dX9_statute_33 : decode cX9_statute 33 = .ok (.iload_n 2, 1) := by decide +kernel
theorem dX9_statute_34 : decode cX9_statute 34 = .ok (.ifCond .lt 13, 3) := by decide +kernel
theorem dX9_statute_37 : decode cX9_statute 37 = .ok (.aload_n 0, 1) := by decide +kernel
theorem dX9_statute_38 : decode cX9_statute 38 = .ok (.iconst 0, 1) := by decide +kernel
theorem dX9_statute_39 : decode cX9_statute 39 = .ok (.putfield 169, 3) := by decide +kernel
theorem dX9_statute_42 : decode cX9_statute 42 = .ok (.bipush (-100), 2) := by decide +kernel
theorem dX9_statute_44 : decode cX9_statute 44 = .ok (.iload_n 2, 1) := by decide +kernel
theorem dX9_statute_45 : decode cX9_statute 45 = .ok (.isub, 1) := by decide +kernel
theorem dX9_statute_46 : decode cX9_statute 46 = .ok (.ireturn, 1) := by decide +kernel
theorem dX9_statute_47 : decode cX9_statute 47 = .ok (.aload_n 0, 1) := by decide +kernel
theorem dX9_statute_48 : decode cX9_statute 48 = .ok (.getfield 106, 3) := by decide +kernel
theorem dX9_statute_51 : decode cX9_statute 51 = .ok (.aload_n 0, 1) := by decide +kernel
theorem dX9_statute_52 : decode cX9_statute 52 = .ok (.getfield 219, 3) := by decide +kernel
theorem dX9_statute_55 : decode cX9_statute 55 = .ok (.aload_n 0, 1) := by decide +kernel
theorem dX9_statute_56 : decode cX9_statute 56 = .ok (.invokevirtual 216, 3) := by decide +kernel
theorem dX9_statute_59 : decode cX9_statute 59 = .ok (.iastore, 1) := by decide +kernel
theorem dX9_statute_60 : decode cX9_statute 60 = .ok (.aload_n 0, 1) := by decide +kernel
theorem dX9_statute_61 : decode cX9_statute 61 = .ok (.getfield 109, 3) := by decide +kernel
theorem dX9_statute_64 : decode cX9_statute 64 = .ok (.aload_n 0, 1) := by decide +kernel
theorem dX9_statute_65 : decode cX9_statute 65 = .ok (.getfield 219, 3) := by decide +kernel
theorem dX9_statute_68 : decode cX9_statute 68 = .ok (.iload_n 1, 1) := by decide +kernel
theorem dX9_statute_69 : decode cX9_statute 69 = .ok (.iastore, 1) := by decide +kernel
theorem dX9_statute_70 : decode cX9_statute 70 = .ok (.aload_n 0, 1) := by decide +kernel
theorem dX9_statute_71 : decode cX9_statute 71 = .ok (.dup, 1) := by decide +kernel
theorem dX9_statute_72 : decode cX9_statute 72 = .ok (.getfield 219, 3) := by decide +kernel
theorem dX9_statute_75 : decode cX9_statute 75 = .ok (.iconst 1, 1) := by decide +kernel
theorem dX9_statute_76 : decode cX9_statute 76 = .ok (.iadd, 1) := by decide +kernel
theorem dX9_statute_77 : decode cX9_statute 77 = .ok (.putfield 219, 3) := by decide +kernel
theorem dX9_statute_80 : decode cX9_statute 80 = .ok (.aload_n 0, 1) := by decide +kernel
theorem dX9_statute_81 : decode cX9_statute 81 = .ok (.getfield 219, 3) := by decide +kernel
theorem dX9_statute_84 : decode cX9_statute 84 = .ok (.ireturn, 1) := by decide +kernel
theorem dX9_work_0 : decode cX9_work 0 = .ok (.aload_n 0, 1) := by decide +kernel
theorem dX9_work_1 : decode cX9_work 1 = .ok (.getfield 219, 3) := by decide +kernel
theorem dX9_work_4 : decode cX9_work 4 = .ok (.iconst 1, 1) := by decide +kernel
theorem dX9_work_5 : decode cX9_work 5 = .ok (.isub, 1) := by decide +kernel
theorem dX9_work_6 : decode cX9_work 6 = .ok (.istore_n 1, 1) := by decide +kernel
theorem dX9_work_7 : decode cX9_work 7 = .ok (.iload_n 1, 1) := by decide +kernel
theorem dX9_work_8 : decode cX9_work 8 = .ok (.ifCond .lt 47, 3) := by decide +kernel
theorem dX9_work_11 : decode cX9_work 11 = .ok (.aload_n 0, 1) := by decide +kernel
theorem dX9_work_12 : decode cX9_work 12 = .ok (.getfield 109, 3) := by decide +kernel
theorem dX9_work_15 : decode cX9_work 15 = .ok (.iload_n 1, 1) := by decide +kernel
theorem dX9_work_16 : decode cX9_work 16 = .ok (.iaload, 1) := by decide +kernel
theorem dX9_work_17 : decode cX9_work 17 = .ok (.aload_n 0, 1) := by decide +kernel
theorem dX9_work_18 : decode cX9_work 18 = .ok (.getfield 194, 3) := by decide +kernel
theorem dX9_work_21 : decode cX9_work 21 = .ok (.if_icmp .le 6, 3) := by decide +kernel
theorem dX9_work_24 : decode cX9_work 24 = .ok (.goto 25, 3) := by decide +kernel
theorem dX9_work_27 : decode cX9_work 27 = .ok (.aload_n 0, 1) := by decide +kernel
theorem dX9_work_28 : decode cX9_work 28 = .ok (.aload_n 0, 1) := by decide +kernel
theorem dX9_work_29 : decode cX9_work 29 = .ok (.getfield 106, 3) := by decide +kernel
theorem dX9_work_32 : decode cX9_work 32 = .ok (.iload_n 1, 1) := by decide +kernel
theorem dX9_work_33 : decode cX9_work 33 = .ok (.iaload, 1) := by decide +kernel
theorem dX9_work_34 : decode cX9_work 34 = .ok (.iconst (-1), 1) := by decide +kernel
theorem dX9_work_35 : decode cX9_work 35 = .ok (.invokevirtual 222, 3) := by decide +kernel
theorem dX9_work_38 : decode cX9_work 38 = .ok (.istore_n 2, 1) := by decide +kernel
theorem dX9_work_39 : decode cX9_work 39 = .ok (.iload_n 2, 1) := by decide +kernel
theorem dX9_work_40 : decode cX9_work 40 = .ok (.ifCond .ge 7, 3) := by decide +kernel
theorem dX9_work_43 : decode cX9_work 43 = .ok (.iconst 0, 1) := by decide +kernel
theorem dX9_work_44 : decode cX9_work 44 = .ok (.goto 4, 3) := by decide +kernel
theorem dX9_work_47 : decode cX9_work 47 = .ok (.iload_n 2, 1) := by decide +kernel
theorem dX9_work_48 : decode cX9_work 48 = .ok (.ireturn, 1) := by decide +kernel
theorem dX9_work_49 : decode cX9_work 49 = .ok (.iinc 1 (-1), 3) := by decide +kernel
theorem dX9_work_52 : decode cX9_work 52 = .ok (.goto (-45), 3) := by decide +kernel
theorem dX9_work_55 : decode cX9_work 55 = .ok (.bipush 10, 2) := by decide +kernel
theorem dX9_work_57 : decode cX9_work 57 = .ok (.ireturn, 1) := by decide +kernel
theorem dX9_endFor_0 : decode cX9_endFor 0 = .ok (.aload_n 0, 1) := by decide +kernel
theorem dX9_endFor_1 : decode cX9_endFor 1 = .ok (.getfield 103, 3) := by decide +kernel
theorem dX9_endFor_4 : decode cX9_endFor 4 = .ok (.iload_n 1, 1) := by decide +kernel
theorem dX9_endFor_5 : decode cX9_endFor 5 = .ok (.iaload, 1) := by decide +kernel
theorem dX9_endFor_6 : decode cX9_endFor 6 = .ok (.ifCond .ge 7, 3) := by decide +kernel
theorem dX9_endFor_9 : decode cX9_endFor 9 = .ok (.iconst 1, 1) := by decide +kernel
theorem dX9_endFor_10 : decode cX9_endFor 10 = .ok (.goto 14, 3) := by decide +kernel
theorem dX9_endFor_13 : decode cX9_endFor 13 = .ok (.aload_n 0, 1) := by decide +kernel
theorem dX9_endFor_14 : decode cX9_endFor 14 = .ok (.aload_n 0, 1) := by decide +kernel
theorem dX9_endFor_15 : decode cX9_endFor 15 = .ok (.getfield 103, 3) := by decide +kernel
theorem dX9_endFor_18 : decode cX9_endFor 18 = .ok (.iload_n 1, 1) := by decide +kernel
theorem dX9_endFor_19 : decode cX9_endFor 19 = .ok (.iaload, 1) := by decide +kernel
theorem dX9_endFor_20 : decode cX9_endFor 20 = .ok (.iload_n 2, 1) := by decide +kernel
theorem dX9_endFor_21 : decode cX9_endFor 21 = .ok (.invokevirtual 222, 3) := by decide +kernel
theorem dX9_endFor_24 : decode cX9_endFor 24 = .ok (.ireturn, 1) := by decide +kernel
theorem dX9_end_0 : decode cX9_end 0 = .ok (.aload_n 0, 1) := by decide +kernel
theorem dX9_end_1 : decode cX9_end 1 = .ok (.iload_n 1, 1) := by decide +kernel
theorem dX9_end_2 : decode cX9_end 2 = .ok (.invokevirtual 225, 3) := by decide +kernel
theorem dX9_end_5 : decode cX9_end 5 = .ok (.ifCond .eq 20, 3) := by decide +kernel
theorem dX9_end_8 : decode cX9_end 8 = .ok (.aload_n 0, 1) := by decide +kernel
theorem dX9_end_9 : decode cX9_end 9 = .ok (.iload_n 2, 1) := by decide +kernel
theorem dX9_end_10 : decode cX9_end 10 = .ok (.invokevirtual 137, 3) := by decide +kernel
theorem dX9_end_13 : decode cX9_end 13 = .ok (.ifCond .eq 12, 3) := by decide +kernel
theorem dX9_end_16 : decode cX9_end 16 = .ok (.aload_n 0, 1) := by decide +kernel
theorem dX9_end_17 : decode cX9_end 17 = .ok (.iload_n 1, 1) := by decide +kernel
theorem dX9_end_18 : decode cX9_end 18 = .ok (.iload_n 2, 1) := by decide +kernel
theorem dX9_end_19 : decode cX9_end 19 = .ok (.invokevirtual 228, 3) := by decide +kernel
theorem dX9_end_22 : decode cX9_end 22 = .ok (.goto 5, 3) := by decide +kernel
theorem dX9_end_25 : decode cX9_end 25 = .ok (.ldc 231, 2) := by decide +kernel
theorem dX9_end_27 : decode cX9_end 27 = .ok (.ireturn, 1) := by decide +kernel
theorem dX9_hinders_0 : decode cX9_hinders 0 = .ok (.aload_n 0, 1) := by decide +kernel
theorem dX9_hinders_1 : decode cX9_hinders 1 = .ok (.getfield 40, 3) := by decide +kernel
theorem dX9_hinders_4 : decode cX9_hinders 4 = .ok (.iload_n 1, 1) := by decide +kernel
theorem dX9_hinders_5 : decode cX9_hinders 5 = .ok (.iaload, 1) := by decide +kernel
theorem dX9_hinders_6 : decode cX9_hinders 6 = .ok (.aload_n 0, 1) := by decide +kernel
theorem dX9_hinders_7 : decode cX9_hinders 7 = .ok (.getfield 13, 3) := by decide +kernel
theorem dX9_hinders_10 : decode cX9_hinders 10 = .ok (.iload_n 1, 1) := by decide +kernel
theorem dX9_hinders_11 : decode cX9_hinders 11 = .ok (.iaload, 1) := by decide +kernel
theorem dX9_hinders_12 : decode cX9_hinders 12 = .ok (.if_icmp .ne 5, 3) := by decide +kernel
theorem dX9_hinders_15 : decode cX9_hinders 15 = .ok (.iconst 1, 1) := by decide +kernel
theorem dX9_hinders_16 : decode cX9_hinders 16 = .ok (.ireturn, 1) := by decide +kernel
theorem dX9_hinders_17 : decode cX9_hinders 17 = .ok (.iconst 0, 1) := by decide +kernel
theorem dX9_hinders_18 : decode cX9_hinders 18 = .ok (.istore_n 2, 1) := by decide +kernel
theorem dX9_hinders_19 : decode cX9_hinders 19 = .ok (.iload_n 2, 1) := by decide +kernel
theorem dX9_hinders_20 : decode cX9_hinders 20 = .ok (.aload_n 0, 1) := by decide +kernel
theorem dX9_hinders_21 : decode cX9_hinders 21 = .ok (.getfield 50, 3) := by decide +kernel
theorem dX9_hinders_24 : decode cX9_hinders 24 = .ok (.iload_n 1, 1) := by decide +kernel
theorem dX9_hinders_25 : decode cX9_hinders 25 = .ok (.iaload, 1) := by decide +kernel
theorem dX9_hinders_26 : decode cX9_hinders 26 = .ok (.if_icmp .ge 46, 3) := by decide +kernel
theorem dX9_hinders_29 : decode cX9_hinders 29 = .ok (.aload_n 0, 1) := by decide +kernel
theorem dX9_hinders_30 : decode cX9_hinders 30 = .ok (.getfield 53, 3) := by decide +kernel
theorem dX9_hinders_33 : decode cX9_hinders 33 = .ok (.iconst 4, 1) := by decide +kernel
theorem dX9_hinders_34 : decode cX9_hinders 34 = .ok (.iload_n 1, 1) := by decide +kernel
theorem dX9_hinders_35 : decode cX9_hinders 35 = .ok (.imul, 1) := by decide +kernel
theorem dX9_hinders_36 : decode cX9_hinders 36 = .ok (.iload_n 2, 1) := by decide +kernel
theorem dX9_hinders_37 : decode cX9_hinders 37 = .ok (.iadd, 1) := by decide +kernel
theorem dX9_hinders_38 : decode cX9_hinders 38 = .ok (.iaload, 1) := by decide +kernel
theorem dX9_hinders_39 : decode cX9_hinders 39 = .ok (.istore_n 3, 1) := by decide +kernel
theorem dX9_hinders_40 : decode cX9_hinders 40 = .ok (.aload_n 0, 1) := by decide +kernel
theorem dX9_hinders_41 : decode cX9_hinders 41 = .ok (.getfield 40, 3) := by decide +kernel
theorem dX9_hinders_44 : decode cX9_hinders 44 = .ok (.iload_n 3, 1) := by decide +kernel
theorem dX9_hinders_45 : decode cX9_hinders 45 = .ok (.iaload, 1) := by decide +kernel
theorem dX9_hinders_46 : decode cX9_hinders 46 = .ok (.aload_n 0, 1) := by decide +kernel
theorem dX9_hinders_47 : decode cX9_hinders 47 = .ok (.getfield 13, 3) := by decide +kernel
theorem dX9_hinders_50 : decode cX9_hinders 50 = .ok (.iload_n 3, 1) := by decide +kernel
theorem dX9_hinders_51 : decode cX9_hinders 51 = .ok (.iaload, 1) := by decide +kernel
theorem dX9_hinders_52 : decode cX9_hinders 52 = .ok (.if_icmp .lt 12, 3) := by decide +kernel
theorem dX9_hinders_55 : decode cX9_hinders 55 = .ok (.aload_n 0, 1) := by decide +kernel
theorem dX9_hinders_56 : decode cX9_hinders 56 = .ok (.getfield 46, 3) := by decide +kernel
theorem dX9_hinders_59 : decode cX9_hinders 59 = .ok (.iload_n 3, 1) := by decide +kernel
theorem dX9_hinders_60 : decode cX9_hinders 60 = .ok (.baload, 1) := by decide +kernel
theorem dX9_hinders_61 : decode cX9_hinders 61 = .ok (.ifCond .eq 5, 3) := by decide +kernel
theorem dX9_hinders_64 : decode cX9_hinders 64 = .ok (.iconst 2, 1) := by decide +kernel
theorem dX9_hinders_65 : decode cX9_hinders 65 = .ok (.ireturn, 1) := by decide +kernel
theorem dX9_hinders_66 : decode cX9_hinders 66 = .ok (.iinc 2 1, 3) := by decide +kernel
theorem dX9_hinders_69 : decode cX9_hinders 69 = .ok (.goto (-50), 3) := by decide +kernel
theorem dX9_hinders_72 : decode cX9_hinders 72 = .ok (.aload_n 0, 1) := by decide +kernel
theorem dX9_hinders_73 : decode cX9_hinders 73 = .ok (.getfield 200, 3) := by decide +kernel
theorem dX9_hinders_76 : decode cX9_hinders 76 = .ok (.aload_n 0, 1) := by decide +kernel
theorem dX9_hinders_77 : decode cX9_hinders 77 = .ok (.invokevirtual 232, 3) := by decide +kernel
theorem dX9_hinders_80 : decode cX9_hinders 80 = .ok (.if_icmp .lt 5, 3) := by decide +kernel
theorem dX9_hinders_83 : decode cX9_hinders 83 = .ok (.iconst 3, 1) := by decide +kernel
theorem dX9_hinders_84 : decode cX9_hinders 84 = .ok (.ireturn, 1) := by decide +kernel
theorem dX9_hinders_85 : decode cX9_hinders 85 = .ok (.lconst 0, 1) := by decide +kernel
theorem dX9_hinders_86 : decode cX9_hinders 86 = .ok (.lstore_n 2, 1) := by decide +kernel
theorem dX9_hinders_87 : decode cX9_hinders 87 = .ok (.iconst 0, 1) := by decide +kernel
theorem dX9_hinders_88 : decode cX9_hinders 88 = .ok (.istore 4, 2) := by decide +kernel
theorem dX9_hinders_90 : decode cX9_hinders 90 = .ok (.iload 4, 2) := by decide +kernel
theorem dX9_hinders_92 : decode cX9_hinders 92 = .ok (.aload_n 0, 1) := by decide +kernel
theorem dX9_hinders_93 : decode cX9_hinders 93 = .ok (.getfield 210, 3) := by decide +kernel
theorem dX9_hinders_96 : decode cX9_hinders 96 = .ok (.if_icmp .ge 44, 3) := by decide +kernel
theorem dX9_hinders_99 : decode cX9_hinders 99 = .ok (.lload_n 2, 1) := by decide +kernel
theorem dX9_hinders_100 : decode cX9_hinders 100 = .ok (.aload_n 0, 1) := by decide +kernel
theorem dX9_hinders_101 : decode cX9_hinders 101 = .ok (.getfield 100, 3) := by decide +kernel
theorem dX9_hinders_104 : decode cX9_hinders 104 = .ok (.iload 4, 2) := by decide +kernel
theorem dX9_hinders_106 : decode cX9_hinders 106 = .ok (.iaload, 1) := by decide +kernel
theorem dX9_hinders_107 : decode cX9_hinders 107 = .ok (.ifCond .le 24, 3) := by decide +kernel
theorem dX9_hinders_110 : decode cX9_hinders 110 = .ok (.aload_n 0, 1) := by decide +kernel
theorem dX9_hinders_111 : decode cX9_hinders 111 = .ok (.iload 4, 2) := by decide +kernel
theorem dX9_hinders_113 : decode cX9_hinders 113 = .ok (.iload_n 1, 1) := by decide +kernel
theorem dX9_hinders_114 : decode cX9_hinders 114 = .ok (.invokevirtual 228, 3) := by decide +kernel
theorem dX9_hinders_117 : decode cX9_hinders 117 = .ok (.ifCond .eq 14, 3) := by decide +kernel
theorem dX9_hinders_120 : decode cX9_hinders 120 = .ok (.aload_n 0, 1) := by decide +kernel
theorem dX9_hinders_121 : decode cX9_hinders 121 = .ok (.getfield 100, 3) := by decide +kernel
theorem dX9_hinders_124 : decode cX9_hinders 124 = .ok (.iload 4, 2) := by decide +kernel
theorem dX9_hinders_126 : decode cX9_hinders 126 = .ok (.iaload, 1) := by decide +kernel
theorem dX9_hinders_127 : decode cX9_hinders 127 = .ok (.i2l, 1) := by decide +kernel
theorem dX9_hinders_128 : decode cX9_hinders 128 = .ok (.goto 4, 3) := by decide +kernel
theorem dX9_hinders_131 : decode cX9_hinders 131 = .ok (.lconst 0, 1) := by decide +kernel
theorem dX9_hinders_132 : decode cX9_hinders 132 = .ok (.ladd, 1) := by decide +kernel
theorem dX9_hinders_133 : decode cX9_hinders 133 = .ok (.lstore_n 2, 1) := by decide +kernel
theorem dX9_hinders_134 : decode cX9_hinders 134 = .ok (.iinc 4 1, 3) := by decide +kernel
theorem dX9_hinders_137 : decode cX9_hinders 137 = .ok (.goto (-47), 3) := by decide +kernel
theorem dX9_hinders_140 : decode cX9_hinders 140 = .ok (.lload_n 2, 1) := by decide +kernel
theorem dX9_hinders_141 : decode cX9_hinders 141 = .ok (.aload_n 0, 1) := by decide +kernel
theorem dX9_hinders_142 : decode cX9_hinders 142 = .ok (.getfield 22, 3) := by decide +kernel
theorem dX9_hinders_145 : decode cX9_hinders 145 = .ok (.iload_n 1, 1) := by decide +kernel
theorem dX9_hinders_146 : decode cX9_hinders 146 = .ok (.iaload, 1) := by decide +kernel
theorem dX9_hinders_147 : decode cX9_hinders 147 = .ok (.i2l, 1) := by decide +kernel
theorem dX9_hinders_148 : decode cX9_hinders 148 = .ok (.lcmp, 1) := by decide +kernel
theorem dX9_hinders_149 : decode cX9_hinders 149 = .ok (.ifCond .ge 5, 3) := by decide +kernel
theorem dX9_hinders_152 : decode cX9_hinders 152 = .ok (.iconst 4, 1) := by decide +kernel
theorem dX9_hinders_153 : decode cX9_hinders 153 = .ok (.ireturn, 1) := by decide +kernel
theorem dX9_hinders_154 : decode cX9_hinders 154 = .ok (.aload_n 0, 1) := by decide +kernel
theorem dX9_hinders_155 : decode cX9_hinders 155 = .ok (.iload_n 1, 1) := by decide +kernel
theorem dX9_hinders_156 : decode cX9_hinders 156 = .ok (.invokevirtual 235, 3) := by decide +kernel
theorem dX9_hinders_159 : decode cX9_hinders 159 = .ok (.bipush (-5), 2) := by decide +kernel
theorem dX9_hinders_161 : decode cX9_hinders 161 = .ok (.if_icmp .ne 7, 3) := by decide +kernel
theorem dX9_hinders_164 : decode cX9_hinders 164 = .ok (.iconst 0, 1) := by decide +kernel
theorem dX9_hinders_165 : decode cX9_hinders 165 = .ok (.goto 4, 3) := by decide +kernel
theorem dX9_hinders_168 : decode cX9_hinders 168 = .ok (.iconst 5, 1) := by decide +kernel
theorem dX9_hinders_169 : decode cX9_hinders 169 = .ok (.ireturn, 1) := by decide +kernel
theorem dX9_may_0 : decode cX9_may 0 = .ok (.aload_n 0, 1) := by decide +kernel
theorem dX9_may_1 : decode cX9_may 1 = .ok (.iload_n 1, 1) := by decide +kernel
theorem dX9_may_2 : decode cX9_may 2 = .ok (.invokevirtual 137, 3) := by decide +kernel
theorem dX9_may_5 : decode cX9_may 5 = .ok (.ifCond .eq 11, 3) := by decide +kernel
theorem dX9_may_8 : decode cX9_may 8 = .ok (.aload_n 0, 1) := by decide +kernel
theorem dX9_may_9 : decode cX9_may 9 = .ok (.iload_n 1, 1) := by decide +kernel
theorem dX9_may_10 : decode cX9_may 10 = .ok (.invokevirtual 238, 3) := by decide +kernel
theorem dX9_may_13 : decode cX9_may 13 = .ok (.goto 4, 3) := by decide +kernel
theorem dX9_may_16 : decode cX9_may 16 = .ok (.iconst (-1), 1) := by decide +kernel
theorem dX9_may_17 : decode cX9_may 17 = .ok (.ireturn, 1) := by decide +kernel
theorem dX9_falls_0 : decode cX9_falls 0 = .ok (.aload_n 0, 1) := by decide +kernel
theorem dX9_falls_1 : decode cX9_falls 1 = .ok (.iload_n 1, 1) := by decide +kernel
theorem dX9_falls_2 : decode cX9_falls 2 = .ok (.invokevirtual 137, 3) := by decide +kernel
theorem dX9_falls_5 : decode cX9_falls 5 = .ok (.ifCond .eq 11, 3) := by decide +kernel
theorem dX9_falls_8 : decode cX9_falls 8 = .ok (.aload_n 0, 1) := by decide +kernel
theorem dX9_falls_9 : decode cX9_falls 9 = .ok (.iload_n 1, 1) := by decide +kernel
theorem dX9_falls_10 : decode cX9_falls 10 = .ok (.invokevirtual 235, 3) := by decide +kernel
theorem dX9_falls_13 : decode cX9_falls 13 = .ok (.goto 4, 3) := by decide +kernel
theorem dX9_falls_16 : decode cX9_falls 16 = .ok (.iconst (-1), 1) := by decide +kernel
theorem dX9_falls_17 : decode cX9_falls 17 = .ok (.ireturn, 1) := by decide +kernel
theorem dX9_lay_0 : decode cX9_lay 0 = .ok (.aload_n 0, 1) := by decide +kernel
theorem dX9_lay_1 : decode cX9_lay 1 = .ok (.iload_n 1, 1) := by decide +kernel
theorem dX9_lay_2 : decode cX9_lay 2 = .ok (.invokevirtual 137, 3) := by decide +kernel
theorem dX9_lay_5 : decode cX9_lay 5 = .ok (.ifCond .ne 5, 3) := by decide +kernel
theorem dX9_lay_8 : decode cX9_lay 8 = .ok (.iconst (-1), 1) := by decide +kernel
theorem dX9_lay_9 : decode cX9_lay 9 = .ok (.ireturn, 1) := by decide +kernel
theorem dX9_lay_10 : decode cX9_lay 10 = .ok (.aload_n 0, 1) := by decide +kernel
theorem dX9_lay_11 : decode cX9_lay 11 = .ok (.iload_n 1, 1) := by decide +kernel
theorem dX9_lay_12 : decode cX9_lay 12 = .ok (.invokevirtual 238, 3) := by decide +kernel
theorem dX9_lay_15 : decode cX9_lay 15 = .ok (.istore_n 2, 1) := by decide +kernel
theorem dX9_lay_16 : decode cX9_lay 16 = .ok (.iload_n 2, 1) := by decide +kernel
theorem dX9_lay_17 : decode cX9_lay 17 = .ok (.ifCond .le 8, 3) := by decide +kernel
theorem dX9_lay_20 : decode cX9_lay 20 = .ok (.bipush (-10), 2) := by decide +kernel
theorem dX9_lay_22 : decode cX9_lay 22 = .ok (.iload_n 2, 1) := by decide +kernel
theorem dX9_lay_23 : decode cX9_lay 23 = .ok (.isub, 1) := by decide +kernel
theorem dX9_lay_24 : decode cX9_lay 24 = .ok (.ireturn, 1) := by decide +kernel
theorem dX9_lay_25 : decode cX9_lay 25 = .ok (.aload_n 0, 1) := by decide +kernel
theorem dX9_lay_26 : decode cX9_lay 26 = .ok (.getfield 22, 3) := by decide +kernel
theorem dX9_lay_29 : decode cX9_lay 29 = .ok (.iload_n 1, 1) := by decide +kernel
theorem dX9_lay_30 : decode cX9_lay 30 = .ok (.iaload, 1) := by decide +kernel
theorem dX9_lay_31 : decode cX9_lay 31 = .ok (.istore_n 3, 1) := by decide +kernel
theorem dX9_lay_32 : decode cX9_lay 32 = .ok (.iconst 0, 1) := by decide +kernel
theorem dX9_lay_33 : decode cX9_lay 33 = .ok (.istore 4, 2) := by decide +kernel
theorem dX9_lay_35 : decode cX9_lay 35 = .ok (.iload 4, 2) := by decide +kernel
theorem dX9_lay_37 : decode cX9_lay 37 = .ok (.aload_n 0, 1) := by decide +kernel
theorem dX9_lay_38 : decode cX9_lay 38 = .ok (.getfield 210, 3) := by decide +kernel
theorem dX9_lay_41 : decode cX9_lay 41 = .ok (.if_icmp .ge 31, 3) := by decide +kernel
theorem dX9_lay_44 : decode cX9_lay 44 = .ok (.aload_n 0, 1) := by decide +kernel
theorem dX9_lay_45 : decode cX9_lay 45 = .ok (.getfield 112, 3) := by decide +kernel
theorem dX9_lay_48 : decode cX9_lay 48 = .ok (.iload 4, 2) := by decide +kernel
theorem dX9_lay_50 : decode cX9_lay 50 = .ok (.aload_n 0, 1) := by decide +kernel
theorem dX9_lay_51 : decode cX9_lay 51 = .ok (.iload 4, 2) := by decide +kernel
theorem dX9_lay_53 : decode cX9_lay 53 = .ok (.iload_n 1, 1) := by decide +kernel
theorem dX9_lay_54 : decode cX9_lay 54 = .ok (.invokevirtual 228, 3) := by decide +kernel
theorem dX9_lay_57 : decode cX9_lay 57 = .ok (.ifCond .eq 7, 3) := by decide +kernel
theorem dX9_lay_60 : decode cX9_lay 60 = .ok (.iconst 1, 1) := by decide +kernel
theorem dX9_lay_61 : decode cX9_lay 61 = .ok (.goto 4, 3) := by decide +kernel
theorem dX9_lay_64 : decode cX9_lay 64 = .ok (.iconst 0, 1) := by decide +kernel
theorem dX9_lay_65 : decode cX9_lay 65 = .ok (.bastore, 1) := by decide +kernel
theorem dX9_lay_66 : decode cX9_lay 66 = .ok (.iinc 4 1, 3) := by decide +kernel
theorem dX9_lay_69 : decode cX9_lay 69 = .ok (.goto (-34), 3) := by decide +kernel
theorem dX9_lay_72 : decode cX9_lay 72 = .ok (.iconst 0, 1) := by decide +kernel
theorem dX9_lay_73 : decode cX9_lay 73 = .ok (.istore 4, 2) := by decide +kernel
theorem dX9_lay_75 : decode cX9_lay 75 = .ok (.iload 4, 2) := by decide +kernel
theorem dX9_lay_77 : decode cX9_lay 77 = .ok (.aload_n 0, 1) := by decide +kernel
theorem dX9_lay_78 : decode cX9_lay 78 = .ok (.getfield 210, 3) := by decide +kernel
theorem dX9_lay_81 : decode cX9_lay 81 = .ok (.if_icmp .ge 63, 3) := by decide +kernel
theorem dX9_lay_84 : decode cX9_lay 84 = .ok (.aload_n 0, 1) := by decide +kernel
theorem dX9_lay_85 : decode cX9_lay 85 = .ok (.getfield 112, 3) := by decide +kernel
theorem dX9_lay_88 : decode cX9_lay 88 = .ok (.iload 4, 2) := by decide +kernel
theorem dX9_lay_90 : decode cX9_lay 90 = .ok (.baload, 1) := by decide +kernel
theorem dX9_lay_91 : decode cX9_lay 91 = .ok (.ifCond .ne 6, 3) := by decide +kernel
theorem dX9_lay_94 : decode cX9_lay 94 = .ok (.goto 44, 3) := by decide +kernel
theorem dX9_lay_97 : decode cX9_lay 97 = .ok (.aload_n 0, 1) := by decide +kernel
theorem dX9_lay_98 : decode cX9_lay 98 = .ok (.getfield 100, 3) := by decide +kernel
theorem dX9_lay_101 : decode cX9_lay 101 = .ok (.iload 4, 2) := by decide +kernel
theorem dX9_lay_103 : decode cX9_lay 103 = .ok (.iaload, 1) := by decide +kernel
theorem dX9_lay_104 : decode cX9_lay 104 = .ok (.iload_n 3, 1) := by decide +kernel
theorem dX9_lay_105 : decode cX9_lay 105 = .ok (.if_icmp .ge 13, 3) := by decide +kernel
theorem dX9_lay_108 : decode cX9_lay 108 = .ok (.aload_n 0, 1) := by decide +kernel
theorem dX9_lay_109 : decode cX9_lay 109 = .ok (.getfield 100, 3) := by decide +kernel
theorem dX9_lay_112 : decode cX9_lay 112 = .ok (.iload 4, 2) := by decide +kernel
theorem dX9_lay_114 : decode cX9_lay 114 = .ok (.iaload, 1) := by decide +kernel
theorem dX9_lay_115 : decode cX9_lay 115 = .ok (.goto 4, 3) := by decide +kernel
theorem dX9_lay_118 : decode cX9_lay 118 = .ok (.iload_n 3, 1) := by decide +kernel
theorem dX9_lay_119 : decode cX9_lay 119 = .ok (.istore 5, 2) := by decide +kernel
theorem dX9_lay_121 : decode cX9_lay 121 = .ok (.aload_n 0, 1) := by decide +kernel
theorem dX9_lay_122 : decode cX9_lay 122 = .ok (.getfield 100, 3) := by decide +kernel
theorem dX9_lay_125 : decode cX9_lay 125 = .ok (.iload 4, 2) := by decide +kernel
theorem dX9_lay_127 : decode cX9_lay 127 = .ok (.dup2, 1) := by decide +kernel
theorem dX9_lay_128 : decode cX9_lay 128 = .ok (.iaload, 1) := by decide +kernel
theorem dX9_lay_129 : decode cX9_lay 129 = .ok (.iload 5, 2) := by decide +kernel
theorem dX9_lay_131 : decode cX9_lay 131 = .ok (.isub, 1) := by decide +kernel
theorem dX9_lay_132 : decode cX9_lay 132 = .ok (.iastore, 1) := by decide +kernel
theorem dX9_lay_133 : decode cX9_lay 133 = .ok (.iload_n 3, 1) := by decide +kernel
theorem dX9_lay_134 : decode cX9_lay 134 = .ok (.iload 5, 2) := by decide +kernel
theorem dX9_lay_136 : decode cX9_lay 136 = .ok (.isub, 1) := by decide +kernel
theorem dX9_lay_137 : decode cX9_lay 137 = .ok (.istore_n 3, 1) := by decide +kernel
theorem dX9_lay_138 : decode cX9_lay 138 = .ok (.iinc 4 1, 3) := by decide +kernel
theorem dX9_lay_141 : decode cX9_lay 141 = .ok (.goto (-66), 3) := by decide +kernel
theorem dX9_lay_144 : decode cX9_lay 144 = .ok (.aload_n 0, 1) := by decide +kernel
theorem dX9_lay_145 : decode cX9_lay 145 = .ok (.dup, 1) := by decide +kernel
theorem dX9_lay_146 : decode cX9_lay 146 = .ok (.getfield 241, 3) := by decide +kernel
theorem dX9_lay_149 : decode cX9_lay 149 = .ok (.aload_n 0, 1) := by decide +kernel
theorem dX9_lay_150 : decode cX9_lay 150 = .ok (.getfield 22, 3) := by decide +kernel
theorem dX9_lay_153 : decode cX9_lay 153 = .ok (.iload_n 1, 1) := by decide +kernel
theorem dX9_lay_154 : decode cX9_lay 154 = .ok (.iaload, 1) := by decide +kernel
theorem dX9_lay_155 : decode cX9_lay 155 = .ok (.iadd, 1) := by decide +kernel
theorem dX9_lay_156 : decode cX9_lay 156 = .ok (.putfield 241, 3) := by decide +kernel
theorem dX9_lay_159 : decode cX9_lay 159 = .ok (.aload_n 0, 1) := by decide +kernel
theorem dX9_lay_160 : decode cX9_lay 160 = .ok (.getfield 46, 3) := by decide +kernel
theorem dX9_lay_163 : decode cX9_lay 163 = .ok (.iload_n 1, 1) := by decide +kernel
theorem dX9_lay_164 : decode cX9_lay 164 = .ok (.aload_n 0, 1) := by decide +kernel
theorem dX9_lay_165 : decode cX9_lay 165 = .ok (.getfield 46, 3) := by decide +kernel
theorem dX9_lay_168 : decode cX9_lay 168 = .ok (.iload_n 1, 1) := by decide +kernel
theorem dX9_lay_169 : decode cX9_lay 169 = .ok (.baload, 1) := by decide +kernel
theorem dX9_lay_170 : decode cX9_lay 170 = .ok (.ifCond .ne 22, 3) := by decide +kernel
theorem dX9_lay_173 : decode cX9_lay 173 = .ok (.aload_n 0, 1) := by decide +kernel
theorem dX9_lay_174 : decode cX9_lay 174 = .ok (.getfield 7, 3) := by decide +kernel
theorem dX9_lay_177 : decode cX9_lay 177 = .ok (.iload_n 1, 1) := by decide +kernel
theorem dX9_lay_178 : decode cX9_lay 178 = .ok (.iaload, 1) := by decide +kernel
theorem dX9_lay_179 : decode cX9_lay 179 = .ok (.iconst 1, 1) := by decide +kernel
theorem dX9_lay_180 : decode cX9_lay 180 = .ok (.if_icmp .ne 16, 3) := by decide +kernel
theorem dX9_lay_183 : decode cX9_lay 183 = .ok (.aload_n 0, 1) := by decide +kernel
theorem dX9_lay_184 : decode cX9_lay 184 = .ok (.getfield 40, 3) := by decide +kernel
theorem dX9_lay_187 : decode cX9_lay 187 = .ok (.iload_n 1, 1) := by decide +kernel
theorem dX9_lay_188 : decode cX9_lay 188 = .ok (.iaload, 1) := by decide +kernel
theorem dX9_lay_189 : decode cX9_lay 189 = .ok (.ifCond .ne 7, 3) := by decide +kernel
theorem dX9_lay_192 : decode cX9_lay 192 = .ok (.iconst 1, 1) := by decide +kernel
theorem dX9_lay_193 : decode cX9_lay 193 = .ok (.goto 4, 3) := by decide +kernel
theorem dX9_lay_196 : decode cX9_lay 196 = .ok (.iconst 0, 1) := by decide +kernel
theorem dX9_lay_197 : decode cX9_lay 197 = .ok (.bastore, 1) := by decide +kernel
theorem dX9_lay_198 : decode cX9_lay 198 = .ok (.aload_n 0, 1) := by decide +kernel
theorem dX9_lay_199 : decode cX9_lay 199 = .ok (.getfield 40, 3) := by decide +kernel
theorem dX9_lay_202 : decode cX9_lay 202 = .ok (.iload_n 1, 1) := by decide +kernel
theorem dX9_lay_203 : decode cX9_lay 203 = .ok (.dup2, 1) := by decide +kernel
theorem dX9_lay_204 : decode cX9_lay 204 = .ok (.iaload, 1) := by decide +kernel
theorem dX9_lay_205 : decode cX9_lay 205 = .ok (.iconst 1, 1) := by decide +kernel
theorem dX9_lay_206 : decode cX9_lay 206 = .ok (.iadd, 1) := by decide +kernel
theorem dX9_lay_207 : decode cX9_lay 207 = .ok (.iastore, 1) := by decide +kernel
theorem dX9_lay_208 : decode cX9_lay 208 = .ok (.aload_n 0, 1) := by decide +kernel
theorem dX9_lay_209 : decode cX9_lay 209 = .ok (.getfield 43, 3) := by decide +kernel
theorem dX9_lay_212 : decode cX9_lay 212 = .ok (.iload_n 1, 1) := by decide +kernel
theorem dX9_lay_213 : decode cX9_lay 213 = .ok (.iconst 0, 1) := by decide +kernel
theorem dX9_lay_214 : decode cX9_lay 214 = .ok (.iastore, 1) := by decide +kernel
theorem dX9_lay_215 : decode cX9_lay 215 = .ok (.aload_n 0, 1) := by decide +kernel
theorem dX9_lay_216 : decode cX9_lay 216 = .ok (.dup, 1) := by decide +kernel
theorem dX9_lay_217 : decode cX9_lay 217 = .ok (.getfield 200, 3) := by decide +kernel
theorem dX9_lay_220 : decode cX9_lay 220 = .ok (.iconst 1, 1) := by decide +kernel
theorem dX9_lay_221 : decode cX9_lay 221 = .ok (.iadd, 1) := by decide +kernel
theorem dX9_lay_222 : decode cX9_lay 222 = .ok (.putfield 200, 3) := by decide +kernel
theorem dX9_lay_225 : decode cX9_lay 225 = .ok (.aload_n 0, 1) := by decide +kernel
theorem dX9_lay_226 : decode cX9_lay 226 = .ok (.getfield 40, 3) := by decide +kernel
theorem dX9_lay_229 : decode cX9_lay 229 = .ok (.iload_n 1, 1) := by decide +kernel
theorem dX9_lay_230 : decode cX9_lay 230 = .ok (.iaload, 1) := by decide +kernel
theorem dX9_lay_231 : decode cX9_lay 231 = .ok (.ireturn, 1) := by decide +kernel
theorem dX9_strike_0 : decode cX9_strike 0 = .ok (.aload_n 0, 1) := by decide +kernel
theorem dX9_strike_1 : decode cX9_strike 1 = .ok (.iload_n 1, 1) := by decide +kernel
theorem dX9_strike_2 : decode cX9_strike 2 = .ok (.invokevirtual 137, 3) := by decide +kernel
theorem dX9_strike_5 : decode cX9_strike 5 = .ok (.ifCond .ne 5, 3) := by decide +kernel
theorem dX9_strike_8 : decode cX9_strike 8 = .ok (.iconst (-1), 1) := by decide +kernel
theorem dX9_strike_9 : decode cX9_strike 9 = .ok (.ireturn, 1) := by decide +kernel
theorem dX9_strike_10 : decode cX9_strike 10 = .ok (.aload_n 0, 1) := by decide +kernel
theorem dX9_strike_11 : decode cX9_strike 11 = .ok (.getfield 46, 3) := by decide +kernel
theorem dX9_strike_14 : decode cX9_strike 14 = .ok (.iload_n 1, 1) := by decide +kernel
theorem dX9_strike_15 : decode cX9_strike 15 = .ok (.baload, 1) := by decide +kernel
theorem dX9_strike_16 : decode cX9_strike 16 = .ok (.ifCond .ne 6, 3) := by decide +kernel
theorem dX9_strike_19 : decode cX9_strike 19 = .ok (.bipush (-11), 2) := by decide +kernel
theorem dX9_strike_21 : decode cX9_strike 21 = .ok (.ireturn, 1) := by decide +kernel
theorem dX9_strike_22 : decode cX9_strike 22 = .ok (.aload_n 0, 1) := by decide +kernel
theorem dX9_strike_23 : decode cX9_strike 23 = .ok (.getfield 40, 3) := by decide +kernel
theorem dX9_strike_26 : decode cX9_strike 26 = .ok (.iload_n 1, 1) := by decide +kernel
theorem dX9_strike_27 : decode cX9_strike 27 = .ok (.iaload, 1) := by decide +kernel
theorem dX9_strike_28 : decode cX9_strike 28 = .ok (.aload_n 0, 1) := by decide +kernel
theorem dX9_strike_29 : decode cX9_strike 29 = .ok (.getfield 13, 3) := by decide +kernel
theorem dX9_strike_32 : decode cX9_strike 32 = .ok (.iload_n 1, 1) := by decide +kernel
theorem dX9_strike_33 : decode cX9_strike 33 = .ok (.iaload, 1) := by decide +kernel
theorem dX9_strike_34 : decode cX9_strike 34 = .ok (.if_icmp .ge 6, 3) := by decide +kernel
theorem dX9_strike_37 : decode cX9_strike 37 = .ok (.bipush (-12), 2) := by decide +kernel
theorem dX9_strike_39 : decode cX9_strike 39 = .ok (.ireturn, 1) := by decide +kernel
theorem dX9_strike_40 : decode cX9_strike 40 = .ok (.aload_n 0, 1) := by decide +kernel
theorem dX9_strike_41 : decode cX9_strike 41 = .ok (.getfield 43, 3) := by decide +kernel
theorem dX9_strike_44 : decode cX9_strike 44 = .ok (.iload_n 1, 1) := by decide +kernel
theorem dX9_strike_45 : decode cX9_strike 45 = .ok (.iaload, 1) := by decide +kernel
theorem dX9_strike_46 : decode cX9_strike 46 = .ok (.aload_n 0, 1) := by decide +kernel
theorem dX9_strike_47 : decode cX9_strike 47 = .ok (.getfield 34, 3) := by decide +kernel
theorem dX9_strike_50 : decode cX9_strike 50 = .ok (.iload_n 1, 1) := by decide +kernel
theorem dX9_strike_51 : decode cX9_strike 51 = .ok (.iaload, 1) := by decide +kernel
theorem dX9_strike_52 : decode cX9_strike 52 = .ok (.if_icmp .ge 6, 3) := by decide +kernel
theorem dX9_strike_55 : decode cX9_strike 55 = .ok (.bipush (-13), 2) := by decide +kernel
theorem dX9_strike_57 : decode cX9_strike 57 = .ok (.ireturn, 1) := by decide +kernel
theorem dX9_strike_58 : decode cX9_strike 58 = .ok (.aload_n 0, 1) := by decide +kernel
theorem dX9_strike_59 : decode cX9_strike 59 = .ok (.getfield 46, 3) := by decide +kernel
theorem dX9_strike_62 : decode cX9_strike 62 = .ok (.iload_n 1, 1) := by decide +kernel
theorem dX9_strike_63 : decode cX9_strike 63 = .ok (.iconst 0, 1) := by decide +kernel
theorem dX9_strike_64 : decode cX9_strike 64 = .ok (.bastore, 1) := by decide +kernel
theorem dX9_strike_65 : decode cX9_strike 65 = .ok (.aload_n 0, 1) := by decide +kernel
theorem dX9_strike_66 : decode cX9_strike 66 = .ok (.invokevirtual 164, 3) := by decide +kernel
theorem dX9_strike_69 : decode cX9_strike 69 = .ok (.bipush (-5), 2) := by decide +kernel
theorem dX9_strike_71 : decode cX9_strike 71 = .ok (.if_icmp .ne 5, 3) := by decide +kernel
theorem dX9_strike_74 : decode cX9_strike 74 = .ok (.iconst 1, 1) := by decide +kernel
theorem dX9_strike_75 : decode cX9_strike 75 = .ok (.ireturn, 1) := by decide +kernel
theorem dX9_strike_76 : decode cX9_strike 76 = .ok (.aload_n 0, 1) := by decide +kernel
theorem dX9_strike_77 : decode cX9_strike 77 = .ok (.getfield 46, 3) := by decide +kernel
theorem dX9_strike_80 : decode cX9_strike 80 = .ok (.iload_n 1, 1) := by decide +kernel
theorem dX9_strike_81 : decode cX9_strike 81 = .ok (.iconst 1, 1) := by decide +kernel
theorem dX9_strike_82 : decode cX9_strike 82 = .ok (.bastore, 1) := by decide +kernel
theorem dX9_strike_83 : decode cX9_strike 83 = .ok (.bipush (-15), 2) := by decide +kernel
theorem dX9_strike_85 : decode cX9_strike 85 = .ok (.ireturn, 1) := by decide +kernel
theorem dX9_prop_0 : decode cX9_prop 0 = .ok (.aload_n 0, 1) := by decide +kernel
theorem dX9_prop_1 : decode cX9_prop 1 = .ok (.iload_n 1, 1) := by decide +kernel
theorem dX9_prop_2 : decode cX9_prop 2 = .ok (.invokevirtual 137, 3) := by decide +kernel
theorem dX9_prop_5 : decode cX9_prop 5 = .ok (.ifCond .eq 13, 3) := by decide +kernel
theorem dX9_prop_8 : decode cX9_prop 8 = .ok (.iload_n 2, 1) := by decide +kernel
theorem dX9_prop_9 : decode cX9_prop 9 = .ok (.iconst 0, 1) := by decide +kernel
theorem dX9_prop_10 : decode cX9_prop 10 = .ok (.ldc 168, 2) := by decide +kernel
theorem dX9_prop_12 : decode cX9_prop 12 = .ok (.invokestatic 125, 3) := by decide +kernel
theorem dX9_prop_15 : decode cX9_prop 15 = .ok (.ifCond .ne 5, 3) := by decide +kernel
theorem dX9_prop_18 : decode cX9_prop 18 = .ok (.iconst (-1), 1) := by decide +kernel
theorem dX9_prop_19 : decode cX9_prop 19 = .ok (.ireturn, 1) := by decide +kernel
theorem dX9_prop_20 : decode cX9_prop 20 = .ok (.aload_n 0, 1) := by decide +kernel
theorem dX9_prop_21 : decode cX9_prop 21 = .ok (.getfield 37, 3) := by decide +kernel
theorem dX9_prop_24 : decode cX9_prop 24 = .ok (.iload_n 1, 1) := by decide +kernel
theorem dX9_prop_25 : decode cX9_prop 25 = .ok (.iaload, 1) := by decide +kernel
theorem dX9_prop_26 : decode cX9_prop 26 = .ok (.istore_n 3, 1) := by decide +kernel
theorem dX9_prop_27 : decode cX9_prop 27 = .ok (.aload_n 0, 1) := by decide +kernel
theorem dX9_prop_28 : decode cX9_prop 28 = .ok (.getfield 37, 3) := by decide +kernel
theorem dX9_prop_31 : decode cX9_prop 31 = .ok (.iload_n 1, 1) := by decide +kernel
theorem dX9_prop_32 : decode cX9_prop 32 = .ok (.iload_n 2, 1) := by decide +kernel
theorem dX9_prop_33 : decode cX9_prop 33 = .ok (.iastore, 1) := by decide +kernel
theorem dX9_prop_34 : decode cX9_prop 34 = .ok (.iload_n 2, 1) := by decide +kernel
theorem dX9_prop_35 : decode cX9_prop 35 = .ok (.iload_n 3, 1) := by decide +kernel
theorem dX9_prop_36 : decode cX9_prop 36 = .ok (.if_icmp .ge 12, 3) := by decide +kernel
theorem dX9_prop_39 : decode cX9_prop 39 = .ok (.aload_n 0, 1) := by decide +kernel
theorem dX9_prop_40 : decode cX9_prop 40 = .ok (.invokevirtual 164, 3) := by decide +kernel
theorem dX9_prop_43 : decode cX9_prop 43 = .ok (.bipush (-5), 2) := by decide +kernel
theorem dX9_prop_45 : decode cX9_prop 45 = .ok (.if_icmp .ne 5, 3) := by decide +kernel
theorem dX9_prop_48 : decode cX9_prop 48 = .ok (.iload_n 3, 1) := by decide +kernel
theorem dX9_prop_49 : decode cX9_prop 49 = .ok (.ireturn, 1) := by decide +kernel
theorem dX9_prop_50 : decode cX9_prop 50 = .ok (.aload_n 0, 1) := by decide +kernel
theorem dX9_prop_51 : decode cX9_prop 51 = .ok (.getfield 37, 3) := by decide +kernel
theorem dX9_prop_54 : decode cX9_prop 54 = .ok (.iload_n 1, 1) := by decide +kernel
theorem dX9_prop_55 : decode cX9_prop 55 = .ok (.iload_n 3, 1) := by decide +kernel
theorem dX9_prop_56 : decode cX9_prop 56 = .ok (.iastore, 1) := by decide +kernel
theorem dX9_prop_57 : decode cX9_prop 57 = .ok (.bipush (-15), 2) := by decide +kernel
theorem dX9_prop_59 : decode cX9_prop 59 = .ok (.ireturn, 1) := by decide +kernel
theorem dX9_month_0 : decode cX9_month 0 = .ok (.iload_n 1, 1) := by decide +kernel
theorem dX9_month_1 : decode cX9_month 1 = .ok (.iconst 1, 1) := by decide +kernel
theorem dX9_month_2 : decode cX9_month 2 = .ok (.bipush 100, 2) := by decide +kernel
theorem dX9_month_4 : decode cX9_month 4 = .ok (.invokestatic 125, 3) := by decide +kernel
theorem dX9_month_7 : decode cX9_month 7 = .ok (.ifCond .eq 15, 3) := by decide +kernel
theorem dX9_month_10 : decode cX9_month 10 = .ok (.aload_n 0, 1) := by decide +kernel
theorem dX9_month_11 : decode cX9_month 11 = .ok (.getfield 194, 3) := by decide +kernel
theorem dX9_month_14 : decode cX9_month 14 = .ok (.iload_n 1, 1) := by decide +kernel
theorem dX9_month_15 : decode cX9_month 15 = .ok (.iadd, 1) := by decide +kernel
theorem dX9_month_16 : decode cX9_month 16 = .ok (.sipush 1200, 3) := by decide +kernel
theorem dX9_month_19 : decode cX9_month 19 = .ok (.if_icmp .le 5, 3) := by decide +kernel
theorem dX9_month_22 : decode cX9_month 22 = .ok (.iconst (-1), 1) := by decide +kernel
theorem dX9_month_23 : decode cX9_month 23 = .ok (.ireturn, 1) := by decide +kernel
theorem dX9_month_24 : decode cX9_month 24 = .ok (.iconst 0, 1) := by decide +kernel
theorem dX9_month_25 : decode cX9_month 25 = .ok (.istore_n 2, 1) := by decide +kernel
theorem dX9_month_26 : decode cX9_month 26 = .ok (.iload_n 2, 1) := by decide +kernel
theorem dX9_month_27 : decode cX9_month 27 = .ok (.iload_n 1, 1) := by decide +kernel
theorem dX9_month_28 : decode cX9_month 28 = .ok (.if_icmp .ge 103, 3) := by decide +kernel
theorem dX9_month_31 : decode cX9_month 31 = .ok (.aload_n 0, 1) := by decide +kernel
theorem dX9_month_32 : decode cX9_month 32 = .ok (.aload_n 0, 1) := by decide +kernel
theorem dX9_month_33 : decode cX9_month 33 = .ok (.getfield 194, 3) := by decide +kernel
theorem dX9_month_36 : decode cX9_month 36 = .ok (.invokevirtual 197, 3) := by decide +kernel
theorem dX9_month_39 : decode cX9_month 39 = .ok (.istore_n 3, 1) := by decide +kernel
theorem dX9_month_40 : decode cX9_month 40 = .ok (.iconst 0, 1) := by decide +kernel
theorem dX9_month_41 : decode cX9_month 41 = .ok (.istore 4, 2) := by decide +kernel
theorem dX9_month_43 : decode cX9_month 43 = .ok (.iload 4, 2) := by decide +kernel
theorem dX9_month_45 : decode cX9_month 45 = .ok (.aload_n 0, 1) := by decide +kernel
theorem dX9_month_46 : decode cX9_month 46 = .ok (.getfield 122, 3) := by decide +kernel
theorem dX9_month_49 : decode cX9_month 49 = .ok (.if_icmp .ge 61, 3) := by decide +kernel
theorem dX9_month_52 : decode cX9_month 52 = .ok (.aload_n 0, 1) := by decide +kernel
theorem dX9_month_53 : decode cX9_month 53 = .ok (.getfield 63, 3) := by decide +kernel
theorem dX9_month_56 : decode cX9_month 56 = .ok (.sipush 1201, 3) := by decide +kernel
theorem dX9_month_59 : decode cX9_month 59 = .ok (.iload 4, 2) := by decide +kernel
theorem dX9_month_61 : decode cX9_month 61 = .ok (.imul, 1) := by decide +kernel
theorem dX9_month_62 : decode cX9_month 62 = .ok (.aload_n 0, 1) := by decide +kernel
theorem dX9_month_63 : decode cX9_month 63 = .ok (.getfield 194, 3) := by decide +kernel
theorem dX9_month_66 : decode cX9_month 66 = .ok (.iadd, 1) := by decide +kernel
theorem dX9_month_67 : decode cX9_month 67 = .ok (.aload_n 0, 1) := by decide +kernel
theorem dX9_month_68 : decode cX9_month 68 = .ok (.getfield 40, 3) := by decide +kernel
theorem dX9_month_71 : decode cX9_month 71 = .ok (.iload 4, 2) := by decide +kernel
theorem dX9_month_73 : decode cX9_month 73 = .ok (.iaload, 1) := by decide +kernel
theorem dX9_month_74 : decode cX9_month 74 = .ok (.iastore, 1) := by decide +kernel
theorem dX9_month_75 : decode cX9_month 75 = .ok (.aload_n 0, 1) := by decide +kernel
theorem dX9_month_76 : decode cX9_month 76 = .ok (.getfield 43, 3) := by decide +kernel
theorem dX9_month_79 : decode cX9_month 79 = .ok (.iload 4, 2) := by decide +kernel
theorem dX9_month_81 : decode cX9_month 81 = .ok (.dup2, 1) := by decide +kernel
theorem dX9_month_82 : decode cX9_month 82 = .ok (.iaload, 1) := by decide +kernel
theorem dX9_month_83 : decode cX9_month 83 = .ok (.aload_n 0, 1) := by decide +kernel
theorem dX9_month_84 : decode cX9_month 84 = .ok (.getfield 40, 3) := by decide +kernel
theorem dX9_month_87 : decode cX9_month 87 = .ok (.iload 4, 2) := by decide +kernel
theorem dX9_month_89 : decode cX9_month 89 = .ok (.iaload, 1) := by decide +kernel
theorem dX9_month_90 : decode cX9_month 90 = .ok (.ifCond .le 11, 3) := by decide +kernel
theorem dX9_month_93 : decode cX9_month 93 = .ok (.iload_n 3, 1) := by decide +kernel
theorem dX9_month_94 : decode cX9_month 94 = .ok (.ifCond .ne 7, 3) := by decide +kernel
theorem dX9_month_97 : decode cX9_month 97 = .ok (.iconst 1, 1) := by decide +kernel
theorem dX9_month_98 : decode cX9_month 98 = .ok (.goto 4, 3) := by decide +kernel
theorem dX9_month_101 : decode cX9_month 101 = .ok (.iconst 0, 1) := by decide +kernel
theorem dX9_month_102 : decode cX9_month 102 = .ok (.iadd, 1) := by decide +kernel
theorem dX9_month_103 : decode cX9_month 103 = .ok (.iastore, 1) := by decide +kernel
theorem dX9_month_104 : decode cX9_month 104 = .ok (.iinc 4 1, 3) := by decide +kernel
theorem dX9_month_107 : decode cX9_month 107 = .ok (.goto (-64), 3) := by decide +kernel
theorem dX9_month_110 : decode cX9_month 110 = .ok (.aload_n 0, 1) := by decide +kernel
theorem dX9_month_111 : decode cX9_month 111 = .ok (.dup, 1) := by decide +kernel
theorem dX9_month_112 : decode cX9_month 112 = .ok (.getfield 194, 3) := by decide +kernel
theorem dX9_month_115 : decode cX9_month 115 = .ok (.iconst 1, 1) := by decide +kernel
theorem dX9_month_116 : decode cX9_month 116 = .ok (.iadd, 1) := by decide +kernel
theorem dX9_month_117 : decode cX9_month 117 = .ok (.putfield 194, 3) := by decide +kernel
theorem dX9_month_120 : decode cX9_month 120 = .ok (.aload_n 0, 1) := by decide +kernel
theorem dX9_month_121 : decode cX9_month 121 = .ok (.iconst 0, 1) := by decide +kernel
theorem dX9_month_122 : decode cX9_month 122 = .ok (.putfield 200, 3) := by decide +kernel
theorem dX9_month_125 : decode cX9_month 125 = .ok (.iinc 2 1, 3) := by decide +kernel
theorem dX9_month_128 : decode cX9_month 128 = .ok (.goto (-102), 3) := by decide +kernel
theorem dX9_month_131 : decode cX9_month 131 = .ok (.aload_n 0, 1) := by decide +kernel
theorem dX9_month_132 : decode cX9_month 132 = .ok (.getfield 194, 3) := by decide +kernel
theorem dX9_month_135 : decode cX9_month 135 = .ok (.ireturn, 1) := by decide +kernel
theorem dX9_frost_0 : decode cX9_frost 0 = .ok (.iload_n 1, 1) := by decide +kernel
theorem dX9_frost_1 : decode cX9_frost 1 = .ok (.iconst 0, 1) := by decide +kernel
theorem dX9_frost_2 : decode cX9_frost 2 = .ok (.sipush 4095, 3) := by decide +kernel
theorem dX9_frost_5 : decode cX9_frost 5 = .ok (.invokestatic 125, 3) := by decide +kernel
theorem dX9_frost_8 : decode cX9_frost 8 = .ok (.ifCond .ne 5, 3) := by decide +kernel
theorem dX9_frost_11 : decode cX9_frost 11 = .ok (.iconst (-1), 1) := by decide +kernel
theorem dX9_frost_12 : decode cX9_frost 12 = .ok (.ireturn, 1) := by decide +kernel
theorem dX9_frost_13 : decode cX9_frost 13 = .ok (.aload_n 0, 1) := by decide +kernel
theorem dX9_frost_14 : decode cX9_frost 14 = .ok (.getfield 191, 3) := by decide +kernel
theorem dX9_frost_17 : decode cX9_frost 17 = .ok (.istore_n 2, 1) := by decide +kernel
theorem dX9_frost_18 : decode cX9_frost 18 = .ok (.aload_n 0, 1) := by decide +kernel
theorem dX9_frost_19 : decode cX9_frost 19 = .ok (.iload_n 1, 1) := by decide +kernel
theorem dX9_frost_20 : decode cX9_frost 20 = .ok (.putfield 191, 3) := by decide +kernel
theorem dX9_frost_23 : decode cX9_frost 23 = .ok (.iload_n 2, 1) := by decide +kernel
theorem dX9_frost_24 : decode cX9_frost 24 = .ok (.ireturn, 1) := by decide +kernel
theorem dX9_bitter_0 : decode cX9_bitter 0 = .ok (.iload_n 1, 1) := by decide +kernel
theorem dX9_bitter_1 : decode cX9_bitter 1 = .ok (.aload_n 0, 1) := by decide +kernel
theorem dX9_bitter_2 : decode cX9_bitter 2 = .ok (.getfield 194, 3) := by decide +kernel
theorem dX9_bitter_5 : decode cX9_bitter 5 = .ok (.sipush 1200, 3) := by decide +kernel
theorem dX9_bitter_8 : decode cX9_bitter 8 = .ok (.invokestatic 125, 3) := by decide +kernel
theorem dX9_bitter_11 : decode cX9_bitter 11 = .ok (.ifCond .ne 5, 3) := by decide +kernel
theorem dX9_bitter_14 : decode cX9_bitter 14 = .ok (.iconst (-1), 1) := by decide +kernel
theorem dX9_bitter_15 : decode cX9_bitter 15 = .ok (.ireturn, 1) := by decide +kernel
theorem dX9_bitter_16 : decode cX9_bitter 16 = .ok (.aload_n 0, 1) := by decide +kernel
theorem dX9_bitter_17 : decode cX9_bitter 17 = .ok (.getfield 59, 3) := by decide +kernel
theorem dX9_bitter_20 : decode cX9_bitter 20 = .ok (.iload_n 1, 1) := by decide +kernel
theorem dX9_bitter_21 : decode cX9_bitter 21 = .ok (.baload, 1) := by decide +kernel
theorem dX9_bitter_22 : decode cX9_bitter 22 = .ok (.ifCond .eq 7, 3) := by decide +kernel
theorem dX9_bitter_25 : decode cX9_bitter 25 = .ok (.iconst 0, 1) := by decide +kernel
theorem dX9_bitter_26 : decode cX9_bitter 26 = .ok (.goto 4, 3) := by decide +kernel
theorem dX9_bitter_29 : decode cX9_bitter 29 = .ok (.iconst 1, 1) := by decide +kernel
theorem dX9_bitter_30 : decode cX9_bitter 30 = .ok (.istore_n 2, 1) := by decide +kernel
theorem dX9_bitter_31 : decode cX9_bitter 31 = .ok (.aload_n 0, 1) := by decide +kernel
theorem dX9_bitter_32 : decode cX9_bitter 32 = .ok (.getfield 59, 3) := by decide +kernel
theorem dX9_bitter_35 : decode cX9_bitter 35 = .ok (.iload_n 1, 1) := by decide +kernel
theorem dX9_bitter_36 : decode cX9_bitter 36 = .ok (.iconst 1, 1) := by decide +kernel
theorem dX9_bitter_37 : decode cX9_bitter 37 = .ok (.bastore, 1) := by decide +kernel
theorem dX9_bitter_38 : decode cX9_bitter 38 = .ok (.iload_n 2, 1) := by decide +kernel
theorem dX9_bitter_39 : decode cX9_bitter 39 = .ok (.ireturn, 1) := by decide +kernel
theorem dX9_about_0 : decode cX9_about 0 = .ok (.aload_n 0, 1) := by decide +kernel
theorem dX9_about_1 : decode cX9_about 1 = .ok (.iload_n 1, 1) := by decide +kernel
theorem dX9_about_2 : decode cX9_about 2 = .ok (.invokevirtual 137, 3) := by decide +kernel
theorem dX9_about_5 : decode cX9_about 5 = .ok (.ifCond .ne 5, 3) := by decide +kernel
theorem dX9_about_8 : decode cX9_about 8 = .ok (.iconst (-1), 1) := by decide +kernel
theorem dX9_about_9 : decode cX9_about 9 = .ok (.ireturn, 1) := by decide +kernel
theorem dX9_about_10 : decode cX9_about 10 = .ok (.iconst 0, 1) := by decide +kernel
theorem dX9_about_11 : decode cX9_about 11 = .ok (.istore_n 3, 1) := by decide +kernel
theorem dX9_about_12 : decode cX9_about 12 = .ok (.iload_n 2, 1) := by decide +kernel
theorem dX9_about_13 : decode cX9_about 13 = .ok (.tableswitch 216 0 12 #[67, 74, 81, 88, 99, 106, 121, 131, 150, 157, 164, 202, 209], 67) := by decide +kernel
theorem dX9_about_80 : decode cX9_about 80 = .ok (.aload_n 0, 1) := by decide +kernel
theorem dX9_about_81 : decode cX9_about 81 = .ok (.getfield 7, 3) := by decide +kernel
theorem dX9_about_84 : decode cX9_about 84 = .ok (.iload_n 1, 1) := by decide +kernel
theorem dX9_about_85 : decode cX9_about 85 = .ok (.iaload, 1) := by decide +kernel
theorem dX9_about_86 : decode cX9_about 86 = .ok (.ireturn, 1) := by decide +kernel
theorem dX9_about_87 : decode cX9_about 87 = .ok (.aload_n 0, 1) := by decide +kernel
theorem dX9_about_88 : decode cX9_about 88 = .ok (.getfield 13, 3) := by decide +kernel
theorem dX9_about_91 : decode cX9_about 91 = .ok (.iload_n 1, 1) := by decide +kernel
theorem dX9_about_92 : decode cX9_about 92 = .ok (.iaload, 1) := by decide +kernel
theorem dX9_about_93 : decode cX9_about 93 = .ok (.ireturn, 1) := by decide +kernel
theorem dX9_about_94 : decode cX9_about 94 = .ok (.aload_n 0, 1) := by decide +kernel
theorem dX9_about_95 : decode cX9_about 95 = .ok (.getfield 40, 3) := by decide +kernel
theorem dX9_about_98 : decode cX9_about 98 = .ok (.iload_n 1, 1) := by decide +kernel
theorem dX9_about_99 : decode cX9_about 99 = .ok (.iaload, 1) := by decide +kernel
theorem dX9_about_100 : decode cX9_about 100 = .ok (.ireturn, 1) := by decide +kernel
theorem dX9_about_101 : decode cX9_about 101 = .ok (.aload_n 0, 1) := by decide +kernel
theorem dX9_about_102 : decode cX9_about 102 = .ok (.invokevirtual 157, 3) := by decide +kernel
theorem dX9_about_105 : decode cX9_about 105 = .ok (.aload_n 0, 1) := by decide +kernel
theorem dX9_about_106 : decode cX9_about 106 = .ok (.getfield 75, 3) := by decide +kernel
theorem dX9_about_109 : decode cX9_about 109 = .ok (.iload_n 1, 1) := by decide +kernel
theorem dX9_about_110 : decode cX9_about 110 = .ok (.iaload, 1) := by decide +kernel
theorem dX9_about_111 : decode cX9_about 111 = .ok (.ireturn, 1) := by decide +kernel
theorem dX9_about_112 : decode cX9_about 112 = .ok (.aload_n 0, 1) := by decide +kernel
theorem dX9_about_113 : decode cX9_about 113 = .ok (.getfield 43, 3) := by decide +kernel
theorem dX9_about_116 : decode cX9_about 116 = .ok (.iload_n 1, 1) := by decide +kernel
theorem dX9_about_117 : decode cX9_about 117 = .ok (.iaload, 1) := by decide +kernel
theorem dX9_about_118 : decode cX9_about 118 = .ok (.ireturn, 1) := by decide +kernel
theorem dX9_about_119 : decode cX9_about 119 = .ok (.aload_n 0, 1) := by decide +kernel
theorem dX9_about_120 : decode cX9_about 120 = .ok (.getfield 46, 3) := by decide +kernel
theorem dX9_about_123 : decode cX9_about 123 = .ok (.iload_n 1, 1) := by decide +kernel
theorem dX9_about_124 : decode cX9_about 124 = .ok (.baload, 1) := by decide +kernel
theorem dX9_about_125 : decode cX9_about 125 = .ok (.ifCond .eq 7, 3) := by decide +kernel
theorem dX9_about_128 : decode cX9_about 128 = .ok (.iconst 1, 1) := by decide +kernel
theorem dX9_about_129 : decode cX9_about 129 = .ok (.goto 4, 3) := by decide +kernel
theorem dX9_about_132 : decode cX9_about 132 = .ok (.iconst 0, 1) := by decide +kernel
theorem dX9_about_133 : decode cX9_about 133 = .ok (.ireturn, 1) := by decide +kernel
theorem dX9_about_134 : decode cX9_about 134 = .ok (.aload_n 0, 1) := by decide +kernel
theorem dX9_about_135 : decode cX9_about 135 = .ok (.invokevirtual 157, 3) := by decide +kernel
theorem dX9_about_138 : decode cX9_about 138 = .ok (.aload_n 0, 1) := by decide +kernel
theorem dX9_about_139 : decode cX9_about 139 = .ok (.iload_n 1, 1) := by decide +kernel
theorem dX9_about_140 : decode cX9_about 140 = .ok (.invokevirtual 160, 3) := by decide +kernel
theorem dX9_about_143 : decode cX9_about 143 = .ok (.ireturn, 1) := by decide +kernel
theorem dX9_about_144 : decode cX9_about 144 = .ok (.aload_n 0, 1) := by decide +kernel
theorem dX9_about_145 : decode cX9_about 145 = .ok (.invokevirtual 157, 3) := by decide +kernel
theorem dX9_about_148 : decode cX9_about 148 = .ok (.aload_n 0, 1) := by decide +kernel
theorem dX9_about_149 : decode cX9_about 149 = .ok (.getfield 78, 3) := by decide +kernel
theorem dX9_about_152 : decode cX9_about 152 = .ok (.iload_n 1, 1) := by decide +kernel
theorem dX9_about_153 : decode cX9_about 153 = .ok (.iaload, 1) := by decide +kernel
theorem dX9_about_154 : decode cX9_about 154 = .ok (.ifCond .le 7, 3) := by decide +kernel
theorem dX9_about_157 : decode cX9_about 157 = .ok (.iconst 1, 1) := by decide +kernel
theorem dX9_about_158 : decode cX9_about 158 = .ok (.goto 4, 3) := by decide +kernel
theorem dX9_about_161 : decode cX9_about 161 = .ok (.iconst 0, 1) := by decide +kernel
theorem dX9_about_162 : decode cX9_about 162 = .ok (.ireturn, 1) := by decide +kernel
theorem dX9_about_163 : decode cX9_about 163 = .ok (.aload_n 0, 1) := by decide +kernel
theorem dX9_about_164 : decode cX9_about 164 = .ok (.getfield 37, 3) := by decide +kernel
theorem dX9_about_167 : decode cX9_about 167 = .ok (.iload_n 1, 1) := by decide +kernel
theorem dX9_about_168 : decode cX9_about 168 = .ok (.iaload, 1) := by decide +kernel
theorem dX9_about_169 : decode cX9_about 169 = .ok (.ireturn, 1) := by decide +kernel
theorem dX9_about_170 : decode cX9_about 170 = .ok (.aload_n 0, 1) := by decide +kernel
theorem dX9_about_171 : decode cX9_about 171 = .ok (.getfield 50, 3) := by decide +kernel
theorem dX9_about_174 : decode cX9_about 174 = .ok (.iload_n 1, 1) := by decide +kernel
theorem dX9_about_175 : decode cX9_about 175 = .ok (.iaload, 1) := by decide +kernel
theorem dX9_about_176 : decode cX9_about 176 = .ok (.ireturn, 1) := by decide +kernel
theorem dX9_about_177 : decode cX9_about 177 = .ok (.iconst 0, 1) := by decide +kernel
theorem dX9_about_178 : decode cX9_about 178 = .ok (.istore 4, 2) := by decide +kernel
theorem dX9_about_180 : decode cX9_about 180 = .ok (.iload 4, 2) := by decide +kernel
theorem dX9_about_182 : decode cX9_about 182 = .ok (.aload_n 0, 1) := by decide +kernel
theorem dX9_about_183 : decode cX9_about 183 = .ok (.getfield 122, 3) := by decide +kernel
theorem dX9_about_186 : decode cX9_about 186 = .ok (.if_icmp .ge 27, 3) := by decide +kernel
theorem dX9_about_189 : decode cX9_about 189 = .ok (.iload_n 3, 1) := by decide +kernel
theorem dX9_about_190 : decode cX9_about 190 = .ok (.aload_n 0, 1) := by decide +kernel
theorem dX9_about_191 : decode cX9_about 191 = .ok (.iload 4, 2) := by decide +kernel
theorem dX9_about_193 : decode cX9_about 193 = .ok (.iload_n 1, 1) := by decide +kernel
theorem dX9_about_194 : decode cX9_about 194 = .ok (.invokevirtual 244, 3) := by decide +kernel
theorem dX9_about_197 : decode cX9_about 197 = .ok (.ifCond .eq 7, 3) := by decide +kernel
theorem dX9_about_200 : decode cX9_about 200 = .ok (.iconst 1, 1) := by decide +kernel
theorem dX9_about_201 : decode cX9_about 201 = .ok (.goto 4, 3) := by decide +kernel
theorem dX9_about_204 : decode cX9_about 204 = .ok (.iconst 0, 1) := by decide +kernel
theorem dX9_about_205 : decode cX9_about 205 = .ok (.iadd, 1) := by decide +kernel
theorem dX9_about_206 : decode cX9_about 206 = .ok (.istore_n 3, 1) := by decide +kernel
theorem dX9_about_207 : decode cX9_about 207 = .ok (.iinc 4 1, 3) := by decide +kernel
theorem dX9_about_210 : decode cX9_about 210 = .ok (.goto (-30), 3) := by decide +kernel
theorem dX9_about_213 : decode cX9_about 213 = .ok (.iload_n 3, 1) := by decide +kernel
theorem dX9_about_214 : decode cX9_about 214 = .ok (.ireturn, 1) := by decide +kernel
theorem dX9_about_215 : decode cX9_about 215 = .ok (.aload_n 0, 1) := by decide +kernel
theorem dX9_about_216 : decode cX9_about 216 = .ok (.getfield 19, 3) := by decide +kernel
theorem dX9_about_219 : decode cX9_about 219 = .ok (.iload_n 1, 1) := by decide +kernel
theorem dX9_about_220 : decode cX9_about 220 = .ok (.iaload, 1) := by decide +kernel
theorem dX9_about_221 : decode cX9_about 221 = .ok (.ireturn, 1) := by decide +kernel
theorem dX9_about_222 : decode cX9_about 222 = .ok (.aload_n 0, 1) := by decide +kernel
theorem dX9_about_223 : decode cX9_about 223 = .ok (.getfield 22, 3) := by decide +kernel
theorem dX9_about_226 : decode cX9_about 226 = .ok (.iload_n 1, 1) := by decide +kernel
theorem dX9_about_227 : decode cX9_about 227 = .ok (.iaload, 1) := by decide +kernel
theorem dX9_about_228 : decode cX9_about 228 = .ok (.ireturn, 1) := by decide +kernel
theorem dX9_about_229 : decode cX9_about 229 = .ok (.iconst (-1), 1) := by decide +kernel
theorem dX9_about_230 : decode cX9_about 230 = .ok (.ireturn, 1) := by decide +kernel
theorem dX9_stands_0 : decode cX9_stands 0 = .ok (.iconst 0, 1) := by decide +kernel
theorem dX9_stands_1 : decode cX9_stands 1 = .ok (.istore_n 3, 1) := by decide +kernel
theorem dX9_stands_2 : decode cX9_stands 2 = .ok (.iload_n 3, 1) := by decide +kernel
theorem dX9_stands_3 : decode cX9_stands 3 = .ok (.aload_n 0, 1) := by decide +kernel
theorem dX9_stands_4 : decode cX9_stands 4 = .ok (.getfield 50, 3) := by decide +kernel
theorem dX9_stands_7 : decode cX9_stands 7 = .ok (.iload_n 1, 1) := by decide +kernel
theorem dX9_stands_8 : decode cX9_stands 8 = .ok (.iaload, 1) := by decide +kernel
theorem dX9_stands_9 : decode cX9_stands 9 = .ok (.if_icmp .ge 25, 3) := by decide +kernel
theorem dX9_stands_12 : decode cX9_stands 12 = .ok (.aload_n 0, 1) := by decide +kernel
theorem dX9_stands_13 : decode cX9_stands 13 = .ok (.getfield 53, 3) := by decide +kernel
theorem dX9_stands_16 : decode cX9_stands 16 = .ok (.iconst 4, 1) := by decide +kernel
theorem dX9_stands_17 : decode cX9_stands 17 = .ok (.iload_n 1, 1) := by decide +kernel
theorem dX9_stands_18 : decode cX9_stands 18 = .ok (.imul, 1) := by decide +kernel
theorem dX9_stands_19 : decode cX9_stands 19 = .ok (.iload_n 3, 1) := by decide +kernel
theorem dX9_stands_20 : decode cX9_stands 20 = .ok (.iadd, 1) := by decide +kernel
theorem dX9_stands_21 : decode cX9_stands 21 = .ok (.iaload, 1) := by decide +kernel
theorem dX9_stands_22 : decode cX9_stands 22 = .ok (.iload_n 2, 1) := by decide +kernel
theorem dX9_stands_23 : decode cX9_stands 23 = .ok (.if_icmp .ne 5, 3) := by decide +kernel
theorem dX9_stands_26 : decode cX9_stands 26 = .ok (.iconst 1, 1) := by decide +kernel
theorem dX9_stands_27 : decode cX9_stands 27 = .ok (.ireturn, 1) := by decide +kernel
theorem dX9_stands_28 : decode cX9_stands 28 = .ok (.iinc 3 1, 3) := by decide +kernel
theorem dX9_stands_31 : decode cX9_stands 31 = .ok (.goto (-29), 3) := by decide +kernel
theorem dX9_stands_34 : decode cX9_stands 34 = .ok (.iconst 0, 1) := by decide +kernel
theorem dX9_stands_35 : decode cX9_stands 35 = .ok (.ireturn, 1) := by decide +kernel
theorem dX9_support_0 : decode cX9_support 0 = .ok (.aload_n 0, 1) := by decide +kernel
theorem dX9_support_1 : decode cX9_support 1 = .ok (.iload_n 1, 1) := by decide +kernel
theorem dX9_support_2 : decode cX9_support 2 = .ok (.invokevirtual 137, 3) := by decide +kernel
theorem dX9_support_5 : decode cX9_support 5 = .ok (.ifCond .eq 46, 3) := by decide +kernel
theorem dX9_support_8 : decode cX9_support 8 = .ok (.iload_n 2, 1) := by decide +kernel
theorem dX9_support_9 : decode cX9_support 9 = .ok (.iconst 0, 1) := by decide +kernel
theorem dX9_support_10 : decode cX9_support 10 = .ok (.aload_n 0, 1) := by decide +kernel
theorem dX9_support_11 : decode cX9_support 11 = .ok (.getfield 50, 3) := by decide +kernel
theorem dX9_support_14 : decode cX9_support 14 = .ok (.iload_n 1, 1) := by decide +kernel
theorem dX9_support_15 : decode cX9_support 15 = .ok (.iaload, 1) := by decide +kernel
theorem dX9_support_16 : decode cX9_support 16 = .ok (.iconst 1, 1) := by decide +kernel
theorem dX9_support_17 : decode cX9_support 17 = .ok (.isub, 1) := by decide +kernel
theorem dX9_support_18 : decode cX9_support 18 = .ok (.invokestatic 125, 3) := by decide +kernel
theorem dX9_support_21 : decode cX9_support 21 = .ok (.ifCond .eq 30, 3) := by decide +kernel
theorem dX9_support_24 : decode cX9_support 24 = .ok (.bipush 100, 2) := by decide +kernel
theorem dX9_support_26 : decode cX9_support 26 = .ok (.aload_n 0, 1) := by decide +kernel
theorem dX9_support_27 : decode cX9_support 27 = .ok (.getfield 53, 3) := by decide +kernel
theorem dX9_support_30 : decode cX9_support 30 = .ok (.iconst 4, 1) := by decide +kernel
theorem dX9_support_31 : decode cX9_support 31 = .ok (.iload_n 1, 1) := by decide +kernel
theorem dX9_support_32 : decode cX9_support 32 = .ok (.imul, 1) := by decide +kernel
theorem dX9_support_33 : decode cX9_support 33 = .ok (.iload_n 2, 1) := by decide +kernel
theorem dX9_support_34 : decode cX9_support 34 = .ok (.iadd, 1) := by decide +kernel
theorem dX9_support_35 : decode cX9_support 35 = .ok (.iaload, 1) := by decide +kernel
theorem dX9_support_36 : decode cX9_support 36 = .ok (.imul, 1) := by decide +kernel
theorem dX9_support_37 : decode cX9_support 37 = .ok (.aload_n 0, 1) := by decide +kernel
theorem dX9_support_38 : decode cX9_support 38 = .ok (.getfield 56, 3) := by decide +kernel
theorem dX9_support_41 : decode cX9_support 41 = .ok (.iconst 4, 1) := by decide +kernel
theorem dX9_support_42 : decode cX9_support 42 = .ok (.iload_n 1, 1) := by decide +kernel
theorem dX9_support_43 : decode cX9_support 43 = .ok (.imul, 1) := by decide +kernel
theorem dX9_support_44 : decode cX9_support 44 = .ok (.iload_n 2, 1) := by decide +kernel
theorem dX9_support_45 : decode cX9_support 45 = .ok (.iadd, 1) := by decide +kernel
theorem dX9_support_46 : decode cX9_support 46 = .ok (.iaload, 1) := by decide +kernel
theorem dX9_support_47 : decode cX9_support 47 = .ok (.iadd, 1) := by decide +kernel
theorem dX9_support_48 : decode cX9_support 48 = .ok (.goto 4, 3) := by decide +kernel
theorem dX9_support_51 : decode cX9_support 51 = .ok (.iconst (-1), 1) := by decide +kernel
theorem dX9_support_52 : decode cX9_support 52 = .ok (.ireturn, 1) := by decide +kernel
theorem dX9_left_0 : decode cX9_left 0 = .ok (.aload_n 0, 1) := by decide +kernel
theorem dX9_left_1 : decode cX9_left 1 = .ok (.iload_n 1, 1) := by decide +kernel
theorem dX9_left_2 : decode cX9_left 2 = .ok (.invokevirtual 225, 3) := by decide +kernel
theorem dX9_left_5 : decode cX9_left 5 = .ok (.ifCond .eq 12, 3) := by decide +kernel
theorem dX9_left_8 : decode cX9_left 8 = .ok (.iload_n 2, 1) := by decide +kernel
theorem dX9_left_9 : decode cX9_left 9 = .ok (.iconst 0, 1) := by decide +kernel
theorem dX9_left_10 : decode cX9_left 10 = .ok (.iconst 1, 1) := by decide +kernel
theorem dX9_left_11 : decode cX9_left 11 = .ok (.invokestatic 125, 3) := by decide +kernel
theorem dX9_left_14 : decode cX9_left 14 = .ok (.ifCond .ne 7, 3) := by decide +kernel
theorem dX9_left_17 : decode cX9_left 17 = .ok (.iconst (-1), 1) := by decide +kernel
theorem dX9_left_18 : decode cX9_left 18 = .ok (.goto 22, 3) := by decide +kernel
theorem dX9_left_21 : decode cX9_left 21 = .ok (.iload_n 2, 1) := by decide +kernel
theorem dX9_left_22 : decode cX9_left 22 = .ok (.ifCond .ne 12, 3) := by decide +kernel
theorem dX9_left_25 : decode cX9_left 25 = .ok (.aload_n 0, 1) := by decide +kernel
theorem dX9_left_26 : decode cX9_left 26 = .ok (.getfield 100, 3) := by decide +kernel
theorem dX9_left_29 : decode cX9_left 29 = .ok (.iload_n 1, 1) := by decide +kernel
theorem dX9_left_30 : decode cX9_left 30 = .ok (.iaload, 1) := by decide +kernel
theorem dX9_left_31 : decode cX9_left 31 = .ok (.goto 9, 3) := by decide +kernel
theorem dX9_left_34 : decode cX9_left 34 = .ok (.aload_n 0, 1) := by decide +kernel
theorem dX9_left_35 : decode cX9_left 35 = .ok (.getfield 97, 3) := by decide +kernel
theorem dX9_left_38 : decode cX9_left 38 = .ok (.iload_n 1, 1) := by decide +kernel
theorem dX9_left_39 : decode cX9_left 39 = .ok (.iaload, 1) := by decide +kernel
theorem dX9_left_40 : decode cX9_left 40 = .ok (.ireturn, 1) := by decide +kernel
theorem dX9_as_0 : decode cX9_as 0 = .ok (.aload_n 0, 1) := by decide +kernel
theorem dX9_as_1 : decode cX9_as 1 = .ok (.iload_n 1, 1) := by decide +kernel
theorem dX9_as_2 : decode cX9_as 2 = .ok (.invokevirtual 137, 3) := by decide +kernel
theorem dX9_as_5 : decode cX9_as 5 = .ok (.ifCond .eq 15, 3) := by decide +kernel
theorem dX9_as_8 : decode cX9_as 8 = .ok (.iload_n 2, 1) := by decide +kernel
theorem dX9_as_9 : decode cX9_as 9 = .ok (.iconst 0, 1) := by decide +kernel
theorem dX9_as_10 : decode cX9_as 10 = .ok (.aload_n 0, 1) := by decide +kernel
theorem dX9_as_11 : decode cX9_as 11 = .ok (.getfield 194, 3) := by decide +kernel
theorem dX9_as_14 : decode cX9_as 14 = .ok (.invokestatic 125, 3) := by decide +kernel
theorem dX9_as_17 : decode cX9_as 17 = .ok (.ifCond .ne 7, 3) := by decide +kernel
theorem dX9_as_20 : decode cX9_as 20 = .ok (.iconst (-1), 1) := by decide +kernel
theorem dX9_as_21 : decode cX9_as 21 = .ok (.goto 32, 3) := by decide +kernel
theorem dX9_as_24 : decode cX9_as 24 = .ok (.iload_n 2, 1) := by decide +kernel
theorem dX9_as_25 : decode cX9_as 25 = .ok (.aload_n 0, 1) := by decide +kernel
theorem dX9_as_26 : decode cX9_as 26 = .ok (.getfield 194, 3) := by decide +kernel
theorem dX9_as_29 : decode cX9_as 29 = .ok (.if_icmp .ne 12, 3) := by decide +kernel
theorem dX9_as_32 : decode cX9_as 32 = .ok (.aload_n 0, 1) := by decide +kernel
theorem dX9_as_33 : decode cX9_as 33 = .ok (.getfield 40, 3) := by decide +kernel
theorem dX9_as_36 : decode cX9_as 36 = .ok (.iload_n 1, 1) := by decide +kernel
theorem dX9_as_37 : decode cX9_as 37 = .ok (.iaload, 1) := by decide +kernel
theorem dX9_as_38 : decode cX9_as 38 = .ok (.goto 15, 3) := by decide +kernel
theorem dX9_as_41 : decode cX9_as 41 = .ok (.aload_n 0, 1) := by decide +kernel
theorem dX9_as_42 : decode cX9_as 42 = .ok (.getfield 63, 3) := by decide +kernel
theorem dX9_as_45 : decode cX9_as 45 = .ok (.sipush 1201, 3) := by decide +kernel
theorem dX9_as_48 : decode cX9_as 48 = .ok (.iload_n 1, 1) := by decide +kernel
theorem dX9_as_49 : decode cX9_as 49 = .ok (.imul, 1) := by decide +kernel
theorem dX9_as_50 : decode cX9_as 50 = .ok (.iload_n 2, 1) := by decide +kernel
theorem dX9_as_51 : decode cX9_as 51 = .ok (.iadd, 1) := by decide +kernel
theorem dX9_as_52 : decode cX9_as 52 = .ok (.iaload, 1) := by decide +kernel
theorem dX9_as_53 : decode cX9_as 53 = .ok (.ireturn, 1) := by decide +kernel
theorem dX9_down_0 : decode cX9_down 0 = .ok (.aload_n 0, 1) := by decide +kernel
theorem dX9_down_1 : decode cX9_down 1 = .ok (.iload_n 1, 1) := by decide +kernel
theorem dX9_down_2 : decode cX9_down 2 = .ok (.invokevirtual 137, 3) := by decide +kernel
theorem dX9_down_5 : decode cX9_down 5 = .ok (.ifCond .ne 5, 3) := by decide +kernel
theorem dX9_down_8 : decode cX9_down 8 = .ok (.iconst (-1), 1) := by decide +kernel
theorem dX9_down_9 : decode cX9_down 9 = .ok (.ireturn, 1) := by decide +kernel
theorem dX9_down_10 : decode cX9_down 10 = .ok (.aload_n 0, 1) := by decide +kernel
theorem dX9_down_11 : decode cX9_down 11 = .ok (.getfield 50, 3) := by decide +kernel
theorem dX9_down_14 : decode cX9_down 14 = .ok (.iload_n 1, 1) := by decide +kernel
theorem dX9_down_15 : decode cX9_down 15 = .ok (.iaload, 1) := by decide +kernel
theorem dX9_down_16 : decode cX9_down 16 = .ok (.ifCond .eq 12, 3) := by decide +kernel
theorem dX9_down_19 : decode cX9_down 19 = .ok (.aload_n 0, 1) := by decide +kernel
theorem dX9_down_20 : decode cX9_down 20 = .ok (.getfield 46, 3) := by decide +kernel
theorem dX9_down_23 : decode cX9_down 23 = .ok (.iload_n 1, 1) := by decide +kernel
theorem dX9_down_24 : decode cX9_down 24 = .ok (.baload, 1) := by decide +kernel
theorem dX9_down_25 : decode cX9_down 25 = .ok (.ifCond .eq 6, 3) := by decide +kernel
theorem dX9_down_28 : decode cX9_down 28 = .ok (.bipush (-5), 2) := by decide +kernel
theorem dX9_down_30 : decode cX9_down 30 = .ok (.ireturn, 1) := by decide +kernel
theorem dX9_down_31 : decode cX9_down 31 = .ok (.aload_n 0, 1) := by decide +kernel
theorem dX9_down_32 : decode cX9_down 32 = .ok (.invokevirtual 157, 3) := by decide +kernel
theorem dX9_down_35 : decode cX9_down 35 = .ok (.iconst 0, 1) := by decide +kernel
theorem dX9_down_36 : decode cX9_down 36 = .ok (.istore_n 2, 1) := by decide +kernel
theorem dX9_down_37 : decode cX9_down 37 = .ok (.iconst 1, 1) := by decide +kernel
theorem dX9_down_38 : decode cX9_down 38 = .ok (.istore_n 3, 1) := by decide +kernel
theorem dX9_down_39 : decode cX9_down 39 = .ok (.iload_n 3, 1) := by decide +kernel
theorem dX9_down_40 : decode cX9_down 40 = .ok (.aload_n 0, 1) := by decide +kernel
theorem dX9_down_41 : decode cX9_down 41 = .ok (.getfield 50, 3) := by decide +kernel
theorem dX9_down_44 : decode cX9_down 44 = .ok (.iload_n 1, 1) := by decide +kernel
theorem dX9_down_45 : decode cX9_down 45 = .ok (.iaload, 1) := by decide +kernel
theorem dX9_down_46 : decode cX9_down 46 = .ok (.if_icmp .ge 26, 3) := by decide +kernel
theorem dX9_down_49 : decode cX9_down 49 = .ok (.aload_n 0, 1) := by decide +kernel
theorem dX9_down_50 : decode cX9_down 50 = .ok (.iload_n 1, 1) := by decide +kernel
theorem dX9_down_51 : decode cX9_down 51 = .ok (.iload_n 3, 1) := by decide +kernel
theorem dX9_down_52 : decode cX9_down 52 = .ok (.invokevirtual 151, 3) := by decide +kernel
theorem dX9_down_55 : decode cX9_down 55 = .ok (.aload_n 0, 1) := by decide +kernel
theorem dX9_down_56 : decode cX9_down 56 = .ok (.iload_n 1, 1) := by decide +kernel
theorem dX9_down_57 : decode cX9_down 57 = .ok (.iload_n 2, 1) := by decide +kernel
theorem dX9_down_58 : decode cX9_down 58 = .ok (.invokevirtual 151, 3) := by decide +kernel
theorem dX9_down_61 : decode cX9_down 61 = .ok (.if_icmp .le 5, 3) := by decide +kernel
theorem dX9_down_64 : decode cX9_down 64 = .ok (.iload_n 3, 1) := by decide +kernel
theorem dX9_down_65 : decode cX9_down 65 = .ok (.istore_n 2, 1) := by decide +kernel
theorem dX9_down_66 : decode cX9_down 66 = .ok (.iinc 3 1, 3) := by decide +kernel
theorem dX9_down_69 : decode cX9_down 69 = .ok (.goto (-30), 3) := by decide +kernel
theorem dX9_down_72 : decode cX9_down 72 = .ok (.aload_n 0, 1) := by decide +kernel
theorem dX9_down_73 : decode cX9_down 73 = .ok (.getfield 53, 3) := by decide +kernel
theorem dX9_down_76 : decode cX9_down 76 = .ok (.iconst 4, 1) := by decide +kernel
theorem dX9_down_77 : decode cX9_down 77 = .ok (.iload_n 1, 1) := by decide +kernel
theorem dX9_down_78 : decode cX9_down 78 = .ok (.imul, 1) := by decide +kernel
theorem dX9_down_79 : decode cX9_down 79 = .ok (.iload_n 2, 1) := by decide +kernel
theorem dX9_down_80 : decode cX9_down 80 = .ok (.iadd, 1) := by decide +kernel
theorem dX9_down_81 : decode cX9_down 81 = .ok (.iaload, 1) := by decide +kernel
theorem dX9_down_82 : decode cX9_down 82 = .ok (.ireturn, 1) := by decide +kernel
theorem dX9_needs_0 : decode cX9_needs 0 = .ok (.aload_n 0, 1) := by decide +kernel
theorem dX9_needs_1 : decode cX9_needs 1 = .ok (.iload_n 1, 1) := by decide +kernel
theorem dX9_needs_2 : decode cX9_needs 2 = .ok (.invokevirtual 137, 3) := by decide +kernel
theorem dX9_needs_5 : decode cX9_needs 5 = .ok (.ifCond .ne 5, 3) := by decide +kernel
theorem dX9_needs_8 : decode cX9_needs 8 = .ok (.iconst (-1), 1) := by decide +kernel
theorem dX9_needs_9 : decode cX9_needs 9 = .ok (.ireturn, 1) := by decide +kernel
theorem dX9_needs_10 : decode cX9_needs 10 = .ok (.iconst 0, 1) := by decide +kernel
theorem dX9_needs_11 : decode cX9_needs 11 = .ok (.istore_n 2, 1) := by decide +kernel
theorem dX9_needs_12 : decode cX9_needs 12 = .ok (.iload_n 2, 1) := by decide +kernel
theorem dX9_needs_13 : decode cX9_needs 13 = .ok (.aload_n 0, 1) := by decide +kernel
theorem dX9_needs_14 : decode cX9_needs 14 = .ok (.getfield 122, 3) := by decide +kernel
theorem dX9_needs_17 : decode cX9_needs 17 = .ok (.if_icmp .ge 25, 3) := by decide +kernel
theorem dX9_needs_20 : decode cX9_needs 20 = .ok (.aload_n 0, 1) := by decide +kernel
theorem dX9_needs_21 : decode cX9_needs 21 = .ok (.getfield 115, 3) := by decide +kernel
theorem dX9_needs_24 : decode cX9_needs 24 = .ok (.iload_n 2, 1) := by decide +kernel
theorem dX9_needs_25 : decode cX9_needs 25 = .ok (.iload_n 2, 1) := by decide +kernel
theorem dX9_needs_26 : decode cX9_needs 26 = .ok (.iload_n 1, 1) := by decide +kernel
theorem dX9_needs_27 : decode cX9_needs 27 = .ok (.if_icmp .ne 7, 3) := by decide +kernel
theorem dX9_needs_30 : decode cX9_needs 30 = .ok (.iconst 1, 1) := by decide +kernel
theorem dX9_needs_31 : decode cX9_needs 31 = .ok (.goto 4, 3) := by decide +kernel
theorem dX9_needs_34 : decode cX9_needs 34 = .ok (.iconst 0, 1) := by decide +kernel
theorem dX9_needs_35 : decode cX9_needs 35 = .ok (.bastore, 1) := by decide +kernel
theorem dX9_needs_36 : decode cX9_needs 36 = .ok (.iinc 2 1, 3) := by decide +kernel
theorem dX9_needs_39 : decode cX9_needs 39 = .ok (.goto (-27), 3) := by decide +kernel
theorem dX9_needs_42 : decode cX9_needs 42 = .ok (.iconst 0, 1) := by decide +kernel
theorem dX9_needs_43 : decode cX9_needs 43 = .ok (.istore_n 2, 1) := by decide +kernel
theorem dX9_needs_44 : decode cX9_needs 44 = .ok (.iload_n 1, 1) := by decide +kernel
theorem dX9_needs_45 : decode cX9_needs 45 = .ok (.istore_n 3, 1) := by decide +kernel
theorem dX9_needs_46 : decode cX9_needs 46 = .ok (.iload_n 3, 1) := by decide +kernel
theorem dX9_needs_47 : decode cX9_needs 47 = .ok (.ifCond .lt 74, 3) := by decide +kernel
theorem dX9_needs_50 : decode cX9_needs 50 = .ok (.aload_n 0, 1) := by decide +kernel
theorem dX9_needs_51 : decode cX9_needs 51 = .ok (.getfield 115, 3) := by decide +kernel
theorem dX9_needs_54 : decode cX9_needs 54 = .ok (.iload_n 3, 1) := by decide +kernel
theorem dX9_needs_55 : decode cX9_needs 55 = .ok (.baload, 1) := by decide +kernel
theorem dX9_needs_56 : decode cX9_needs 56 = .ok (.ifCond .ne 6, 3) := by decide +kernel
theorem dX9_needs_59 : decode cX9_needs 59 = .ok (.goto 56, 3) := by decide +kernel
theorem dX9_needs_62 : decode cX9_needs 62 = .ok (.iload_n 2, 1) := by decide +kernel
theorem dX9_needs_63 : decode cX9_needs 63 = .ok (.aload_n 0, 1) := by decide +kernel
theorem dX9_needs_64 : decode cX9_needs 64 = .ok (.getfield 13, 3) := by decide +kernel
theorem dX9_needs_67 : decode cX9_needs 67 = .ok (.iload_n 3, 1) := by decide +kernel
theorem dX9_needs_68 : decode cX9_needs 68 = .ok (.iaload, 1) := by decide +kernel
theorem dX9_needs_69 : decode cX9_needs 69 = .ok (.aload_n 0, 1) := by decide +kernel
theorem dX9_needs_70 : decode cX9_needs 70 = .ok (.getfield 40, 3) := by decide +kernel
theorem dX9_needs_73 : decode cX9_needs 73 = .ok (.iload_n 3, 1) := by decide +kernel
theorem dX9_needs_74 : decode cX9_needs 74 = .ok (.iaload, 1) := by decide +kernel
theorem dX9_needs_75 : decode cX9_needs 75 = .ok (.isub, 1) := by decide +kernel
theorem dX9_needs_76 : decode cX9_needs 76 = .ok (.iadd, 1) := by decide +kernel
theorem dX9_needs_77 : decode cX9_needs 77 = .ok (.istore_n 2, 1) := by decide +kernel
theorem dX9_needs_78 : decode cX9_needs 78 = .ok (.iconst 0, 1) := by decide +kernel
theorem dX9_needs_79 : decode cX9_needs 79 = .ok (.istore 4, 2) := by decide +kernel
theorem dX9_needs_81 : decode cX9_needs 81 = .ok (.iload 4, 2) := by decide +kernel
theorem dX9_needs_83 : decode cX9_needs 83 = .ok (.aload_n 0, 1) := by decide +kernel
theorem dX9_needs_84 : decode cX9_needs 84 = .ok (.getfield 50, 3) := by decide +kernel
theorem dX9_needs_87 : decode cX9_needs 87 = .ok (.iload_n 3, 1) := by decide +kernel
theorem dX9_needs_88 : decode cX9_needs 88 = .ok (.iaload, 1) := by decide +kernel
theorem dX9_needs_89 : decode cX9_needs 89 = .ok (.if_icmp .ge 26, 3) := by decide +kernel
theorem dX9_needs_92 : decode cX9_needs 92 = .ok (.aload_n 0, 1) := by decide +kernel
theorem dX9_needs_93 : decode cX9_needs 93 = .ok (.getfield 115, 3) := by decide +kernel
theorem dX9_needs_96 : decode cX9_needs 96 = .ok (.aload_n 0, 1) := by decide +kernel
theorem dX9_needs_97 : decode cX9_needs 97 = .ok (.getfield 53, 3) := by decide +kernel
theorem dX9_needs_100 : decode cX9_needs 100 = .ok (.iconst 4, 1) := by decide +kernel
theorem dX9_needs_101 : decode cX9_needs 101 = .ok (.iload_n 3, 1) := by decide +kernel
theorem dX9_needs_102 : decode cX9_needs 102 = .ok (.imul, 1) := by decide +kernel
theorem dX9_needs_103 : decode cX9_needs 103 = .ok (.iload 4, 2) := by decide +kernel
theorem dX9_needs_105 : decode cX9_needs 105 = .ok (.iadd, 1) := by decide +kernel
theorem dX9_needs_106 : decode cX9_needs 106 = .ok (.iaload, 1) := by decide +kernel
theorem dX9_needs_107 : decode cX9_needs 107 = .ok (.iconst 1, 1) := by decide +kernel
theorem dX9_needs_108 : decode cX9_needs 108 = .ok (.bastore, 1) := by decide +kernel
theorem dX9_needs_109 : decode cX9_needs 109 = .ok (.iinc 4 1, 3) := by decide +kernel
theorem dX9_needs_112 : decode cX9_needs 112 = .ok (.goto (-31), 3) := by decide +kernel
theorem dX9_needs_115 : decode cX9_needs 115 = .ok (.iinc 3 (-1), 3) := by decide +kernel
theorem dX9_needs_118 : decode cX9_needs 118 = .ok (.goto (-72), 3) := by decide +kernel
theorem dX9_needs_121 : decode cX9_needs 121 = .ok (.iload_n 2, 1) := by decide +kernel
theorem dX9_needs_122 : decode cX9_needs 122 = .ok (.ireturn, 1) := by decide +kernel
theorem dX9_count_0 : decode cX9_count 0 = .ok (.iconst 0, 1) := by decide +kernel
theorem dX9_count_1 : decode cX9_count 1 = .ok (.istore_n 2, 1) := by decide +kernel
theorem dX9_count_2 : decode cX9_count 2 = .ok (.iload_n 1, 1) := by decide +kernel
theorem dX9_count_3 : decode cX9_count 3 = .ok (.tableswitch 147 0 9 #[53, 58, 63, 68, 73, 78, 105, 132, 137, 142], 53) := by decide +kernel
theorem dX9_count_56 : decode cX9_count 56 = .ok (.aload_n 0, 1) := by decide +kernel
theorem dX9_count_57 : decode cX9_count 57 = .ok (.getfield 122, 3) := by decide +kernel
theorem dX9_count_60 : decode cX9_count 60 = .ok (.ireturn, 1) := by decide +kernel
theorem dX9_count_61 : decode cX9_count 61 = .ok (.aload_n 0, 1) := by decide +kernel
theorem dX9_count_62 : decode cX9_count 62 = .ok (.getfield 210, 3) := by decide +kernel
theorem dX9_count_65 : decode cX9_count 65 = .ok (.ireturn, 1) := by decide +kernel
theorem dX9_count_66 : decode cX9_count 66 = .ok (.aload_n 0, 1) := by decide +kernel
theorem dX9_count_67 : decode cX9_count 67 = .ok (.getfield 194, 3) := by decide +kernel
theorem dX9_count_70 : decode cX9_count 70 = .ok (.ireturn, 1) := by decide +kernel
theorem dX9_count_71 : decode cX9_count 71 = .ok (.aload_n 0, 1) := by decide +kernel
theorem dX9_count_72 : decode cX9_count 72 = .ok (.getfield 145, 3) := by decide +kernel
theorem dX9_count_75 : decode cX9_count 75 = .ok (.ireturn, 1) := by decide +kernel
theorem dX9_count_76 : decode cX9_count 76 = .ok (.aload_n 0, 1) := by decide +kernel
theorem dX9_count_77 : decode cX9_count 77 = .ok (.getfield 200, 3) := by decide +kernel
theorem dX9_count_80 : decode cX9_count 80 = .ok (.ireturn, 1) := by decide +kernel
theorem dX9_count_81 : decode cX9_count 81 = .ok (.iconst 0, 1) := by decide +kernel
theorem dX9_count_82 : decode cX9_count 82 = .ok (.istore_n 3, 1) := by decide +kernel
theorem dX9_count_83 : decode cX9_count 83 = .ok (.iload_n 3, 1) := by decide +kernel
theorem dX9_count_84 : decode cX9_count 84 = .ok (.aload_n 0, 1) := by decide +kernel
theorem dX9_count_85 : decode cX9_count 85 = .ok (.getfield 122, 3) := by decide +kernel
theorem dX9_count_88 : decode cX9_count 88 = .ok (.if_icmp .ge 18, 3) := by decide +kernel
theorem dX9_count_91 : decode cX9_count 91 = .ok (.iload_n 2, 1) := by decide +kernel
theorem dX9_count_92 : decode cX9_count 92 = .ok (.aload_n 0, 1) := by decide +kernel
theorem dX9_count_93 : decode cX9_count 93 = .ok (.getfield 40, 3) := by decide +kernel
theorem dX9_count_96 : decode cX9_count 96 = .ok (.iload_n 3, 1) := by decide +kernel
theorem dX9_count_97 : decode cX9_count 97 = .ok (.iaload, 1) := by decide +kernel
theorem dX9_count_98 : decode cX9_count 98 = .ok (.iadd, 1) := by decide +kernel
theorem dX9_count_99 : decode cX9_count 99 = .ok (.istore_n 2, 1) := by decide +kernel
theorem dX9_count_100 : decode cX9_count 100 = .ok (.iinc 3 1, 3) := by decide +kernel
theorem dX9_count_103 : decode cX9_count 103 = .ok (.goto (-20), 3) := by decide +kernel
theorem dX9_count_106 : decode cX9_count 106 = .ok (.iload_n 2, 1) := by decide +kernel
theorem dX9_count_107 : decode cX9_count 107 = .ok (.ireturn, 1) := by decide +kernel
theorem dX9_count_108 : decode cX9_count 108 = .ok (.iconst 0, 1) := by decide +kernel
theorem dX9_count_109 : decode cX9_count 109 = .ok (.istore_n 3, 1) := by decide +kernel
theorem dX9_count_110 : decode cX9_count 110 = .ok (.iload_n 3, 1) := by decide +kernel
theorem dX9_count_111 : decode cX9_count 111 = .ok (.aload_n 0, 1) := by decide +kernel
theorem dX9_count_112 : decode cX9_count 112 = .ok (.getfield 210, 3) := by decide +kernel
theorem dX9_count_115 : decode cX9_count 115 = .ok (.if_icmp .ge 18, 3) := by decide +kernel
theorem dX9_count_118 : decode cX9_count 118 = .ok (.iload_n 2, 1) := by decide +kernel
theorem dX9_count_119 : decode cX9_count 119 = .ok (.aload_n 0, 1) := by decide +kernel
theorem dX9_count_120 : decode cX9_count 120 = .ok (.getfield 100, 3) := by decide +kernel
theorem dX9_count_123 : decode cX9_count 123 = .ok (.iload_n 3, 1) := by decide +kernel
theorem dX9_count_124 : decode cX9_count 124 = .ok (.iaload, 1) := by decide +kernel
theorem dX9_count_125 : decode cX9_count 125 = .ok (.iadd, 1) := by decide +kernel
theorem dX9_count_126 : decode cX9_count 126 = .ok (.istore_n 2, 1) := by decide +kernel
theorem dX9_count_127 : decode cX9_count 127 = .ok (.iinc 3 1, 3) := by decide +kernel
theorem dX9_count_130 : decode cX9_count 130 = .ok (.goto (-20), 3) := by decide +kernel
theorem dX9_count_133 : decode cX9_count 133 = .ok (.iload_n 2, 1) := by decide +kernel
theorem dX9_count_134 : decode cX9_count 134 = .ok (.ireturn, 1) := by decide +kernel
theorem dX9_count_135 : decode cX9_count 135 = .ok (.aload_n 0, 1) := by decide +kernel
theorem dX9_count_136 : decode cX9_count 136 = .ok (.getfield 241, 3) := by decide +kernel
theorem dX9_count_139 : decode cX9_count 139 = .ok (.ireturn, 1) := by decide +kernel
theorem dX9_count_140 : decode cX9_count 140 = .ok (.aload_n 0, 1) := by decide +kernel
theorem dX9_count_141 : decode cX9_count 141 = .ok (.getfield 219, 3) := by decide +kernel
theorem dX9_count_144 : decode cX9_count 144 = .ok (.ireturn, 1) := by decide +kernel
theorem dX9_count_145 : decode cX9_count 145 = .ok (.aload_n 0, 1) := by decide +kernel
theorem dX9_count_146 : decode cX9_count 146 = .ok (.getfield 169, 3) := by decide +kernel
theorem dX9_count_149 : decode cX9_count 149 = .ok (.ireturn, 1) := by decide +kernel
theorem dX9_count_150 : decode cX9_count 150 = .ok (.iconst (-1), 1) := by decide +kernel
theorem dX9_count_151 : decode cX9_count 151 = .ok (.ireturn, 1) := by decide +kernel
