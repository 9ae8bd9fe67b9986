theorem dX9_init_0 : decode cX9_init 0 = .ok (.aload_n 0, 1) := by decide +kernel
theorem dX9_init_1 : decode cX9_init 1 = .ok (.invokespecial 1, 3) := by decide +kernel
theorem dX9_init_4 : decode cX9_init 4 = .ok (.aload_n 0, 1) := by decide +kernel
theorem dX9_init_5 : decode cX9_init 5 = .ok (.bipush 6, 2) := by decide +kernel
theorem dX9_init_7 : decode cX9_init 7 = .ok (.newarray .int, 2) := by decide +kernel
theorem dX9_init_9 : decode cX9_init 9 = .ok (.putfield 7, 3) := by decide +kernel
theorem dX9_init_12 : decode cX9_init 12 = .ok (.aload_n 0, 1) := by decide +kernel
theorem dX9_init_13 : decode cX9_init 13 = .ok (.bipush 6, 2) := by decide +kernel
theorem dX9_init_15 : decode cX9_init 15 = .ok (.newarray .long, 2) := by decide +kernel
theorem dX9_init_17 : decode cX9_init 17 = .ok (.putfield 13, 3) := by decide +kernel
theorem dX9_init_20 : decode cX9_init 20 = .ok (.aload_n 0, 1) := by decide +kernel
theorem dX9_init_21 : decode cX9_init 21 = .ok (.bipush 6, 2) := by decide +kernel
theorem dX9_init_23 : decode cX9_init 23 = .ok (.newarray .int, 2) := by decide +kernel
theorem dX9_init_25 : decode cX9_init 25 = .ok (.putfield 17, 3) := by decide +kernel
theorem dX9_init_28 : decode cX9_init 28 = .ok (.aload_n 0, 1) := by decide +kernel
theorem dX9_init_29 : decode cX9_init 29 = .ok (.bipush 6, 2) := by decide +kernel
theorem dX9_init_31 : decode cX9_init 31 = .ok (.newarray .int, 2) := by decide +kernel
theorem dX9_init_33 : decode cX9_init 33 = .ok (.putfield 20, 3) := by decide +kernel
theorem dX9_init_36 : decode cX9_init 36 = .ok (.aload_n 0, 1) := by decide +kernel
theorem dX9_init_37 : decode cX9_init 37 = .ok (.iconst 4, 1) := by decide +kernel
theorem dX9_init_38 : decode cX9_init 38 = .ok (.newarray .int, 2) := by decide +kernel
theorem dX9_init_40 : decode cX9_init 40 = .ok (.putfield 23, 3) := by decide +kernel
theorem dX9_init_43 : decode cX9_init 43 = .ok (.aload_n 0, 1) := by decide +kernel
theorem dX9_init_44 : decode cX9_init 44 = .ok (.bipush 12, 2) := by decide +kernel
theorem dX9_init_46 : decode cX9_init 46 = .ok (.newarray .int, 2) := by decide +kernel
theorem dX9_init_48 : decode cX9_init 48 = .ok (.putfield 26, 3) := by decide +kernel
theorem dX9_init_51 : decode cX9_init 51 = .ok (.aload_n 0, 1) := by decide +kernel
theorem dX9_init_52 : decode cX9_init 52 = .ok (.iconst 3, 1) := by decide +kernel
theorem dX9_init_53 : decode cX9_init 53 = .ok (.newarray .int, 2) := by decide +kernel
theorem dX9_init_55 : decode cX9_init 55 = .ok (.putfield 29, 3) := by decide +kernel
theorem dX9_init_58 : decode cX9_init 58 = .ok (.aload_n 0, 1) := by decide +kernel
theorem dX9_init_59 : decode cX9_init 59 = .ok (.bipush 64, 2) := by decide +kernel
theorem dX9_init_61 : decode cX9_init 61 = .ok (.newarray .int, 2) := by decide +kernel
theorem dX9_init_63 : decode cX9_init 63 = .ok (.putfield 32, 3) := by decide +kernel
theorem dX9_init_66 : decode cX9_init 66 = .ok (.aload_n 0, 1) := by decide +kernel
theorem dX9_init_67 : decode cX9_init 67 = .ok (.bipush 64, 2) := by decide +kernel
theorem dX9_init_69 : decode cX9_init 69 = .ok (.newarray .int, 2) := by decide +kernel
theorem dX9_init_71 : decode cX9_init 71 = .ok (.putfield 35, 3) := by decide +kernel
theorem dX9_init_74 : decode cX9_init 74 = .ok (.aload_n 0, 1) := by decide +kernel
theorem dX9_init_75 : decode cX9_init 75 = .ok (.bipush 24, 2) := by decide +kernel
theorem dX9_init_77 : decode cX9_init 77 = .ok (.newarray .int, 2) := by decide +kernel
theorem dX9_init_79 : decode cX9_init 79 = .ok (.putfield 38, 3) := by decide +kernel
theorem dX9_init_82 : decode cX9_init 82 = .ok (.aload_n 0, 1) := by decide +kernel
theorem dX9_init_83 : decode cX9_init 83 = .ok (.bipush 24, 2) := by decide +kernel
theorem dX9_init_85 : decode cX9_init 85 = .ok (.newarray .int, 2) := by decide +kernel
theorem dX9_init_87 : decode cX9_init 87 = .ok (.putfield 41, 3) := by decide +kernel
theorem dX9_init_90 : decode cX9_init 90 = .ok (.aload_n 0, 1) := by decide +kernel
theorem dX9_init_91 : decode cX9_init 91 = .ok (.bipush 24, 2) := by decide +kernel
theorem dX9_init_93 : decode cX9_init 93 = .ok (.newarray .int, 2) := by decide +kernel
theorem dX9_init_95 : decode cX9_init 95 = .ok (.putfield 44, 3) := by decide +kernel
theorem dX9_init_98 : decode cX9_init 98 = .ok (.aload_n 0, 1) := by decide +kernel
theorem dX9_init_99 : decode cX9_init 99 = .ok (.bipush 6, 2) := by decide +kernel
theorem dX9_init_101 : decode cX9_init 101 = .ok (.newarray .int, 2) := by decide +kernel
theorem dX9_init_103 : decode cX9_init 103 = .ok (.putfield 47, 3) := by decide +kernel
theorem dX9_init_106 : decode cX9_init 106 = .ok (.aload_n 0, 1) := by decide +kernel
theorem dX9_init_107 : decode cX9_init 107 = .ok (.bipush 6, 2) := by decide +kernel
theorem dX9_init_109 : decode cX9_init 109 = .ok (.newarray .int, 2) := by decide +kernel
theorem dX9_init_111 : decode cX9_init 111 = .ok (.putfield 50, 3) := by decide +kernel
theorem dX9_init_114 : decode cX9_init 114 = .ok (.aload_n 0, 1) := by decide +kernel
theorem dX9_init_115 : decode cX9_init 115 = .ok (.bipush 6, 2) := by decide +kernel
theorem dX9_init_117 : decode cX9_init 117 = .ok (.newarray .int, 2) := by decide +kernel
theorem dX9_init_119 : decode cX9_init 119 = .ok (.putfield 53, 3) := by decide +kernel
theorem dX9_init_122 : decode cX9_init 122 = .ok (.aload_n 0, 1) := by decide +kernel
theorem dX9_init_123 : decode cX9_init 123 = .ok (.bipush 18, 2) := by decide +kernel
theorem dX9_init_125 : decode cX9_init 125 = .ok (.newarray .int, 2) := by decide +kernel
theorem dX9_init_127 : decode cX9_init 127 = .ok (.putfield 56, 3) := by decide +kernel
theorem dX9_init_130 : decode cX9_init 130 = .ok (.aload_n 0, 1) := by decide +kernel
theorem dX9_init_131 : decode cX9_init 131 = .ok (.bipush 6, 2) := by decide +kernel
theorem dX9_init_133 : decode cX9_init 133 = .ok (.newarray .int, 2) := by decide +kernel
theorem dX9_init_135 : decode cX9_init 135 = .ok (.putfield 59, 3) := by decide +kernel
theorem dX9_init_138 : decode cX9_init 138 = .ok (.aload_n 0, 1) := by decide +kernel
theorem dX9_init_139 : decode cX9_init 139 = .ok (.bipush 6, 2) := by decide +kernel
theorem dX9_init_141 : decode cX9_init 141 = .ok (.newarray .int, 2) := by decide +kernel
theorem dX9_init_143 : decode cX9_init 143 = .ok (.putfield 62, 3) := by decide +kernel
theorem dX9_init_146 : decode cX9_init 146 = .ok (.aload_n 0, 1) := by decide +kernel
theorem dX9_init_147 : decode cX9_init 147 = .ok (.bipush 6, 2) := by decide +kernel
theorem dX9_init_149 : decode cX9_init 149 = .ok (.newarray .int, 2) := by decide +kernel
theorem dX9_init_151 : decode cX9_init 151 = .ok (.putfield 65, 3) := by decide +kernel
theorem dX9_init_154 : decode cX9_init 154 = .ok (.aload_n 0, 1) := by decide +kernel
theorem dX9_init_155 : decode cX9_init 155 = .ok (.iconst 3, 1) := by decide +kernel
theorem dX9_init_156 : decode cX9_init 156 = .ok (.newarray .int, 2) := by decide +kernel
theorem dX9_init_158 : decode cX9_init 158 = .ok (.putfield 68, 3) := by decide +kernel
theorem dX9_init_161 : decode cX9_init 161 = .ok (.aload_n 0, 1) := by decide +kernel
theorem dX9_init_162 : decode cX9_init 162 = .ok (.sipush 128, 3) := by decide +kernel
theorem dX9_init_165 : decode cX9_init 165 = .ok (.newarray .int, 2) := by decide +kernel
theorem dX9_init_167 : decode cX9_init 167 = .ok (.putfield 71, 3) := by decide +kernel
theorem dX9_init_170 : decode cX9_init 170 = .ok (.aload_n 0, 1) := by decide +kernel
theorem dX9_init_171 : decode cX9_init 171 = .ok (.sipush 128, 3) := by decide +kernel
theorem dX9_init_174 : decode cX9_init 174 = .ok (.newarray .int, 2) := by decide +kernel
theorem dX9_init_176 : decode cX9_init 176 = .ok (.putfield 74, 3) := by decide +kernel
theorem dX9_init_179 : decode cX9_init 179 = .ok (.aload_n 0, 1) := by decide +kernel
theorem dX9_init_180 : decode cX9_init 180 = .ok (.sipush 128, 3) := by decide +kernel
theorem dX9_init_183 : decode cX9_init 183 = .ok (.newarray .int, 2) := by decide +kernel
theorem dX9_init_185 : decode cX9_init 185 = .ok (.putfield 77, 3) := by decide +kernel
theorem dX9_init_188 : decode cX9_init 188 = .ok (.aload_n 0, 1) := by decide +kernel
theorem dX9_init_189 : decode cX9_init 189 = .ok (.sipush 128, 3) := by decide +kernel
theorem dX9_init_192 : decode cX9_init 192 = .ok (.newarray .int, 2) := by decide +kernel
theorem dX9_init_194 : decode cX9_init 194 = .ok (.putfield 80, 3) := by decide +kernel
theorem dX9_init_197 : decode cX9_init 197 = .ok (.aload_n 0, 1) := by decide +kernel
theorem dX9_init_198 : decode cX9_init 198 = .ok (.sipush 128, 3) := by decide +kernel
theorem dX9_init_201 : decode cX9_init 201 = .ok (.newarray .int, 2) := by decide +kernel
theorem dX9_init_203 : decode cX9_init 203 = .ok (.putfield 83, 3) := by decide +kernel
theorem dX9_init_206 : decode cX9_init 206 = .ok (.aload_n 0, 1) := by decide +kernel
theorem dX9_init_207 : decode cX9_init 207 = .ok (.iconst 5, 1) := by decide +kernel
theorem dX9_init_208 : decode cX9_init 208 = .ok (.newarray .int, 2) := by decide +kernel
theorem dX9_init_210 : decode cX9_init 210 = .ok (.putfield 86, 3) := by decide +kernel
theorem dX9_init_213 : decode cX9_init 213 = .ok (.aload_n 0, 1) := by decide +kernel
theorem dX9_init_214 : decode cX9_init 214 = .ok (.bipush 64, 2) := by decide +kernel
theorem dX9_init_216 : decode cX9_init 216 = .ok (.newarray .int, 2) := by decide +kernel
theorem dX9_init_218 : decode cX9_init 218 = .ok (.putfield 89, 3) := by decide +kernel
theorem dX9_init_221 : decode cX9_init 221 = .ok (.aload_n 0, 1) := by decide +kernel
theorem dX9_init_222 : decode cX9_init 222 = .ok (.iconst 5, 1) := by decide +kernel
theorem dX9_init_223 : decode cX9_init 223 = .ok (.newarray .int, 2) := by decide +kernel
theorem dX9_init_225 : decode cX9_init 225 = .ok (.putfield 92, 3) := by decide +kernel
theorem dX9_init_228 : decode cX9_init 228 = .ok (.aload_n 0, 1) := by decide +kernel
theorem dX9_init_229 : decode cX9_init 229 = .ok (.bipush 64, 2) := by decide +kernel
theorem dX9_init_231 : decode cX9_init 231 = .ok (.newarray .int, 2) := by decide +kernel
theorem dX9_init_233 : decode cX9_init 233 = .ok (.putfield 95, 3) := by decide +kernel
theorem dX9_init_236 : decode cX9_init 236 = .ok (.aload_n 0, 1) := by decide +kernel
theorem dX9_init_237 : decode cX9_init 237 = .ok (.bipush 64, 2) := by decide +kernel
theorem dX9_init_239 : decode cX9_init 239 = .ok (.newarray .int, 2) := by decide +kernel
theorem dX9_init_241 : decode cX9_init 241 = .ok (.putfield 98, 3) := by decide +kernel
theorem dX9_init_244 : decode cX9_init 244 = .ok (.aload_n 0, 1) := by decide +kernel
theorem dX9_init_245 : decode cX9_init 245 = .ok (.iconst 5, 1) := by decide +kernel
theorem dX9_init_246 : decode cX9_init 246 = .ok (.newarray .int, 2) := by decide +kernel
theorem dX9_init_248 : decode cX9_init 248 = .ok (.putfield 101, 3) := by decide +kernel
theorem dX9_init_251 : decode cX9_init 251 = .ok (.aload_n 0, 1) := by decide +kernel
theorem dX9_init_252 : decode cX9_init 252 = .ok (.iconst 4, 1) := by decide +kernel
theorem dX9_init_253 : decode cX9_init 253 = .ok (.newarray .int, 2) := by decide +kernel
theorem dX9_init_255 : decode cX9_init 255 = .ok (.putfield 104, 3) := by decide +kernel
theorem dX9_init_258 : decode cX9_init 258 = .ok (.aload_n 0, 1) := by decide +kernel
theorem dX9_init_259 : decode cX9_init 259 = .ok (.bipush 96, 2) := by decide +kernel
theorem dX9_init_261 : decode cX9_init 261 = .ok (.newarray .int, 2) := by decide +kernel
theorem dX9_init_263 : decode cX9_init 263 = .ok (.putfield 107, 3) := by decide +kernel
theorem dX9_init_266 : decode cX9_init 266 = .ok (.aload_n 0, 1) := by decide +kernel
theorem dX9_init_267 : decode cX9_init 267 = .ok (.bipush 24, 2) := by decide +kernel
theorem dX9_init_269 : decode cX9_init 269 = .ok (.newarray .int, 2) := by decide +kernel
theorem dX9_init_271 : decode cX9_init 271 = .ok (.putfield 110, 3) := by decide +kernel
theorem dX9_init_274 : decode cX9_init 274 = .ok (.iconst 0, 1) := by decide +kernel
theorem dX9_init_275 : decode cX9_init 275 = .ok (.istore_n 1, 1) := by decide +kernel
theorem dX9_init_276 : decode cX9_init 276 = .ok (.iload_n 1, 1) := by decide +kernel
theorem dX9_init_277 : decode cX9_init 277 = .ok (.iconst 4, 1) := by decide +kernel
theorem dX9_init_278 : decode cX9_init 278 = .ok (.if_icmp .ge 17, 3) := by decide +kernel
theorem dX9_init_281 : decode cX9_init 281 = .ok (.aload_n 0, 1) := by decide +kernel
theorem dX9_init_282 : decode cX9_init 282 = .ok (.getfield 104, 3) := by decide +kernel
theorem dX9_init_285 : decode cX9_init 285 = .ok (.iload_n 1, 1) := by decide +kernel
theorem dX9_init_286 : decode cX9_init 286 = .ok (.bipush (-9), 2) := by decide +kernel
theorem dX9_init_288 : decode cX9_init 288 = .ok (.iastore, 1) := by decide +kernel
theorem dX9_init_289 : decode cX9_init 289 = .ok (.iinc 1 1, 3) := by decide +kernel
theorem dX9_init_292 : decode cX9_init 292 = .ok (.goto (-16), 3) := by decide +kernel
theorem dX9_init_295 : decode cX9_init 295 = .ok (.iconst 0, 1) := by decide +kernel
theorem dX9_init_296 : decode cX9_init 296 = .ok (.istore_n 1, 1) := by decide +kernel
theorem dX9_init_297 : decode cX9_init 297 = .ok (.iload_n 1, 1) := by decide +kernel
theorem dX9_init_298 : decode cX9_init 298 = .ok (.bipush 64, 2) := by decide +kernel
theorem dX9_init_300 : decode cX9_init 300 = .ok (.if_icmp .ge 17, 3) := by decide +kernel
theorem dX9_init_303 : decode cX9_init 303 = .ok (.aload_n 0, 1) := by decide +kernel
theorem dX9_init_304 : decode cX9_init 304 = .ok (.getfield 89, 3) := by decide +kernel
theorem dX9_init_307 : decode cX9_init 307 = .ok (.iload_n 1, 1) := by decide +kernel
theorem dX9_init_308 : decode cX9_init 308 = .ok (.bipush (-9), 2) := by decide +kernel
theorem dX9_init_310 : decode cX9_init 310 = .ok (.iastore, 1) := by decide +kernel
theorem dX9_init_311 : decode cX9_init 311 = .ok (.iinc 1 1, 3) := by decide +kernel
theorem dX9_init_314 : decode cX9_init 314 = .ok (.goto (-17), 3) := by decide +kernel
theorem dX9_init_317 : decode cX9_init 317 = .ok (.return_, 1) := by decide +kernel
theorem dX9_in_0 : decode cX9_in 0 = .ok (.iload_n 0, 1) := by decide +kernel
theorem dX9_in_1 : decode cX9_in 1 = .ok (.iload_n 1, 1) := by decide +kernel
theorem dX9_in_2 : decode cX9_in 2 = .ok (.if_icmp .lt 12, 3) := by decide +kernel
theorem dX9_in_5 : decode cX9_in 5 = .ok (.iload_n 0, 1) := by decide +kernel
theorem dX9_in_6 : decode cX9_in 6 = .ok (.iload_n 2, 1) := by decide +kernel
theorem dX9_in_7 : decode cX9_in 7 = .ok (.if_icmp .gt 7, 3) := by decide +kernel
theorem dX9_in_10 : decode cX9_in 10 = .ok (.iconst 1, 1) := by decide +kernel
theorem dX9_in_11 : decode cX9_in 11 = .ok (.goto 4, 3) := by decide +kernel
theorem dX9_in_14 : decode cX9_in 14 = .ok (.iconst 0, 1) := by decide +kernel
theorem dX9_in_15 : decode cX9_in 15 = .ok (.ireturn, 1) := by decide +kernel
theorem dX9_meets_0 : decode cX9_meets 0 = .ok (.aload_n 0, 1) := by decide +kernel
theorem dX9_meets_1 : decode cX9_meets 1 = .ok (.iload_n 1, 1) := by decide +kernel
theorem dX9_meets_2 : decode cX9_meets 2 = .ok (.putfield 113, 3) := by decide +kernel
theorem dX9_meets_5 : decode cX9_meets 5 = .ok (.aload_n 0, 1) := by decide +kernel
theorem dX9_meets_6 : decode cX9_meets 6 = .ok (.getfield 7, 3) := by decide +kernel
theorem dX9_meets_9 : decode cX9_meets 9 = .ok (.iload_n 1, 1) := by decide +kernel
theorem dX9_meets_10 : decode cX9_meets 10 = .ok (.dup2, 1) := by decide +kernel
theorem dX9_meets_11 : decode cX9_meets 11 = .ok (.iaload, 1) := by decide +kernel
theorem dX9_meets_12 : decode cX9_meets 12 = .ok (.iconst 1, 1) := by decide +kernel
theorem dX9_meets_13 : decode cX9_meets 13 = .ok (.iadd, 1) := by decide +kernel
theorem dX9_meets_14 : decode cX9_meets 14 = .ok (.iastore, 1) := by decide +kernel
theorem dX9_meets_15 : decode cX9_meets 15 = .ok (.bipush (-3), 2) := by decide +kernel
theorem dX9_meets_17 : decode cX9_meets 17 = .ok (.ireturn, 1) := by decide +kernel
theorem dX9_ask_0 : decode cX9_ask 0 = .ok (.aload_n 0, 1) := by decide +kernel
theorem dX9_ask_1 : decode cX9_ask 1 = .ok (.lload_n 1, 1) := by decide +kernel
theorem dX9_ask_2 : decode cX9_ask 2 = .ok (.putfield 117, 3) := by decide +kernel
theorem dX9_ask_5 : decode cX9_ask 5 = .ok (.iload_n 3, 1) := by decide +kernel
theorem dX9_ask_6 : decode cX9_ask 6 = .ok (.ireturn, 1) := by decide +kernel
theorem dX9_isFigure_0 : decode cX9_isFigure 0 = .ok (.iload_n 0, 1) := by decide +kernel
theorem dX9_isFigure_1 : decode cX9_isFigure 1 = .ok (.iconst 0, 1) := by decide +kernel
theorem dX9_isFigure_2 : decode cX9_isFigure 2 = .ok (.iconst 5, 1) := by decide +kernel
theorem dX9_isFigure_3 : decode cX9_isFigure 3 = .ok (.invokestatic 121, 3) := by decide +kernel
theorem dX9_isFigure_6 : decode cX9_isFigure 6 = .ok (.ireturn, 1) := by decide +kernel
theorem dX9_isBox_0 : decode cX9_isBox 0 = .ok (.iload_n 0, 1) := by decide +kernel
theorem dX9_isBox_1 : decode cX9_isBox 1 = .ok (.iconst 0, 1) := by decide +kernel
theorem dX9_isBox_2 : decode cX9_isBox 2 = .ok (.iconst 3, 1) := by decide +kernel
theorem dX9_isBox_3 : decode cX9_isBox 3 = .ok (.invokestatic 121, 3) := by decide +kernel
theorem dX9_isBox_6 : decode cX9_isBox 6 = .ok (.ireturn, 1) := by decide +kernel
theorem dX9_looked_0 : decode cX9_looked 0 = .ok (.iload_n 1, 1) := by decide +kernel
theorem dX9_looked_1 : decode cX9_looked 1 = .ok (.invokestatic 125, 3) := by decide +kernel
theorem dX9_looked_4 : decode cX9_looked 4 = .ok (.ifCond .ne 7, 3) := by decide +kernel
theorem dX9_looked_7 : decode cX9_looked 7 = .ok (.iconst (-1), 1) := by decide +kernel
theorem dX9_looked_8 : decode cX9_looked 8 = .ok (.goto 23, 3) := by decide +kernel
theorem dX9_looked_11 : decode cX9_looked 11 = .ok (.aload_n 0, 1) := by decide +kernel
theorem dX9_looked_12 : decode cX9_looked 12 = .ok (.getfield 13, 3) := by decide +kernel
theorem dX9_looked_15 : decode cX9_looked 15 = .ok (.iload_n 1, 1) := by decide +kernel
theorem dX9_looked_16 : decode cX9_looked 16 = .ok (.laload, 1) := by decide +kernel
theorem dX9_looked_17 : decode cX9_looked 17 = .ok (.lconst 0, 1) := by decide +kernel
theorem dX9_looked_18 : decode cX9_looked 18 = .ok (.lcmp, 1) := by decide +kernel
theorem dX9_looked_19 : decode cX9_looked 19 = .ok (.ifCond .ne 11, 3) := by decide +kernel
theorem dX9_looked_22 : decode cX9_looked 22 = .ok (.aload_n 0, 1) := by decide +kernel
theorem dX9_looked_23 : decode cX9_looked 23 = .ok (.iconst 1, 1) := by decide +kernel
theorem dX9_looked_24 : decode cX9_looked 24 = .ok (.invokevirtual 129, 3) := by decide +kernel
theorem dX9_looked_27 : decode cX9_looked 27 = .ok (.goto 4, 3) := by decide +kernel
theorem dX9_looked_30 : decode cX9_looked 30 = .ok (.iconst 0, 1) := by decide +kernel
theorem dX9_looked_31 : decode cX9_looked 31 = .ok (.ireturn, 1) := by decide +kernel
theorem dX9_bits_0 : decode cX9_bits 0 = .ok (.iconst 0, 1) := by decide +kernel
theorem dX9_bits_1 : decode cX9_bits 1 = .ok (.istore_n 2, 1) := by decide +kernel
theorem dX9_bits_2 : decode cX9_bits 2 = .ok (.iconst 0, 1) := by decide +kernel
theorem dX9_bits_3 : decode cX9_bits 3 = .ok (.istore_n 3, 1) := by decide +kernel
theorem dX9_bits_4 : decode cX9_bits 4 = .ok (.iload_n 3, 1) := by decide +kernel
theorem dX9_bits_5 : decode cX9_bits 5 = .ok (.bipush 64, 2) := by decide +kernel
theorem dX9_bits_7 : decode cX9_bits 7 = .ok (.if_icmp .ge 18, 3) := by decide +kernel
theorem dX9_bits_10 : decode cX9_bits 10 = .ok (.iload_n 2, 1) := by decide +kernel
theorem dX9_bits_11 : decode cX9_bits 11 = .ok (.lload_n 0, 1) := by decide +kernel
theorem dX9_bits_12 : decode cX9_bits 12 = .ok (.iload_n 3, 1) := by decide +kernel
theorem dX9_bits_13 : decode cX9_bits 13 = .ok (.lushr, 1) := by decide +kernel
theorem dX9_bits_14 : decode cX9_bits 14 = .ok (.lconst 1, 1) := by decide +kernel
theorem dX9_bits_15 : decode cX9_bits 15 = .ok (.land, 1) := by decide +kernel
theorem dX9_bits_16 : decode cX9_bits 16 = .ok (.l2i, 1) := by decide +kernel
theorem dX9_bits_17 : decode cX9_bits 17 = .ok (.iadd, 1) := by decide +kernel
theorem dX9_bits_18 : decode cX9_bits 18 = .ok (.istore_n 2, 1) := by decide +kernel
theorem dX9_bits_19 : decode cX9_bits 19 = .ok (.iinc 3 1, 3) := by decide +kernel
theorem dX9_bits_22 : decode cX9_bits 22 = .ok (.goto (-18), 3) := by decide +kernel
theorem dX9_bits_25 : decode cX9_bits 25 = .ok (.iload_n 2, 1) := by decide +kernel
theorem dX9_bits_26 : decode cX9_bits 26 = .ok (.ireturn, 1) := by decide +kernel
theorem dX9_has_0 : decode cX9_has 0 = .ok (.iload_n 2, 1) := by decide +kernel
theorem dX9_has_1 : decode cX9_has 1 = .ok (.ifCond .lt 17, 3) := by decide +kernel
theorem dX9_has_4 : decode cX9_has 4 = .ok (.lload_n 0, 1) := by decide +kernel
theorem dX9_has_5 : decode cX9_has 5 = .ok (.iload_n 2, 1) := by decide +kernel
theorem dX9_has_6 : decode cX9_has 6 = .ok (.lushr, 1) := by decide +kernel
theorem dX9_has_7 : decode cX9_has 7 = .ok (.lconst 1, 1) := by decide +kernel
theorem dX9_has_8 : decode cX9_has 8 = .ok (.land, 1) := by decide +kernel
theorem dX9_has_9 : decode cX9_has 9 = .ok (.lconst 1, 1) := by decide +kernel
theorem dX9_has_10 : decode cX9_has 10 = .ok (.lcmp, 1) := by decide +kernel
theorem dX9_has_11 : decode cX9_has 11 = .ok (.ifCond .ne 7, 3) := by decide +kernel
theorem dX9_has_14 : decode cX9_has 14 = .ok (.iconst 1, 1) := by decide +kernel
theorem dX9_has_15 : decode cX9_has 15 = .ok (.goto 4, 3) := by decide +kernel
theorem dX9_has_18 : decode cX9_has 18 = .ok (.iconst 0, 1) := by decide +kernel
theorem dX9_has_19 : decode cX9_has 19 = .ok (.ireturn, 1) := by decide +kernel
theorem dX9_beside_0 : decode cX9_beside 0 = .ok (.iload_n 0, 1) := by decide +kernel
theorem dX9_beside_1 : decode cX9_beside 1 = .ok (.bipush 8, 2) := by decide +kernel
theorem dX9_beside_3 : decode cX9_beside 3 = .ok (.irem, 1) := by decide +kernel
theorem dX9_beside_4 : decode cX9_beside 4 = .ok (.iload_n 1, 1) := by decide +kernel
theorem dX9_beside_5 : decode cX9_beside 5 = .ok (.ifCond .ne 7, 3) := by decide +kernel
theorem dX9_beside_8 : decode cX9_beside 8 = .ok (.iconst 1, 1) := by decide +kernel
theorem dX9_beside_9 : decode cX9_beside 9 = .ok (.goto 13, 3) := by decide +kernel
theorem dX9_beside_12 : decode cX9_beside 12 = .ok (.iload_n 1, 1) := by decide +kernel
theorem dX9_beside_13 : decode cX9_beside 13 = .ok (.iconst 2, 1) := by decide +kernel
theorem dX9_beside_14 : decode cX9_beside 14 = .ok (.if_icmp .ne 7, 3) := by decide +kernel
theorem dX9_beside_17 : decode cX9_beside 17 = .ok (.iconst (-1), 1) := by decide +kernel
theorem dX9_beside_18 : decode cX9_beside 18 = .ok (.goto 4, 3) := by decide +kernel
theorem dX9_beside_21 : decode cX9_beside 21 = .ok (.iconst 0, 1) := by decide +kernel
theorem dX9_beside_22 : decode cX9_beside 22 = .ok (.iadd, 1) := by decide +kernel
theorem dX9_beside_23 : decode cX9_beside 23 = .ok (.istore_n 2, 1) := by decide +kernel
theorem dX9_beside_24 : decode cX9_beside 24 = .ok (.iload_n 0, 1) := by decide +kernel
theorem dX9_beside_25 : decode cX9_beside 25 = .ok (.bipush 8, 2) := by decide +kernel
theorem dX9_beside_27 : decode cX9_beside 27 = .ok (.idiv, 1) := by decide +kernel
theorem dX9_beside_28 : decode cX9_beside 28 = .ok (.iload_n 1, 1) := by decide +kernel
theorem dX9_beside_29 : decode cX9_beside 29 = .ok (.iconst 1, 1) := by decide +kernel
theorem dX9_beside_30 : decode cX9_beside 30 = .ok (.if_icmp .ne 7, 3) := by decide +kernel
theorem dX9_beside_33 : decode cX9_beside 33 = .ok (.iconst 1, 1) := by decide +kernel
theorem dX9_beside_34 : decode cX9_beside 34 = .ok (.goto 13, 3) := by decide +kernel
theorem dX9_beside_37 : decode cX9_beside 37 = .ok (.iload_n 1, 1) := by decide +kernel
theorem dX9_beside_38 : decode cX9_beside 38 = .ok (.iconst 3, 1) := by decide +kernel
theorem dX9_beside_39 : decode cX9_beside 39 = .ok (.if_icmp .ne 7, 3) := by decide +kernel
theorem dX9_beside_42 : decode cX9_beside 42 = .ok (.iconst (-1), 1) := by decide +kernel
theorem dX9_beside_43 : decode cX9_beside 43 = .ok (.goto 4, 3) := by decide +kernel
theorem dX9_beside_46 : decode cX9_beside 46 = .ok (.iconst 0, 1) := by decide +kernel
theorem dX9_beside_47 : decode cX9_beside 47 = .ok (.iadd, 1) := by decide +kernel
theorem dX9_beside_48 : decode cX9_beside 48 = .ok (.istore_n 3, 1) := by decide +kernel
theorem dX9_beside_49 : decode cX9_beside 49 = .ok (.iload_n 0, 1) := by decide +kernel
theorem dX9_beside_50 : decode cX9_beside 50 = .ok (.ifCond .lt 23, 3) := by decide +kernel
theorem dX9_beside_53 : decode cX9_beside 53 = .ok (.iload_n 2, 1) := by decide +kernel
theorem dX9_beside_54 : decode cX9_beside 54 = .ok (.iconst 0, 1) := by decide +kernel
theorem dX9_beside_55 : decode cX9_beside 55 = .ok (.bipush 7, 2) := by decide +kernel
theorem dX9_beside_57 : decode cX9_beside 57 = .ok (.invokestatic 121, 3) := by decide +kernel
theorem dX9_beside_60 : decode cX9_beside 60 = .ok (.ifCond .eq 13, 3) := by decide +kernel
theorem dX9_beside_63 : decode cX9_beside 63 = .ok (.iload_n 3, 1) := by decide +kernel
theorem dX9_beside_64 : decode cX9_beside 64 = .ok (.iconst 0, 1) := by decide +kernel
theorem dX9_beside_65 : decode cX9_beside 65 = .ok (.bipush 7, 2) := by decide +kernel
theorem dX9_beside_67 : decode cX9_beside 67 = .ok (.invokestatic 121, 3) := by decide +kernel
theorem dX9_beside_70 : decode cX9_beside 70 = .ok (.ifCond .ne 8, 3) := by decide +kernel
theorem dX9_beside_73 : decode cX9_beside 73 = .ok (.bipush (-9), 2) := by decide +kernel
theorem dX9_beside_75 : decode cX9_beside 75 = .ok (.goto 9, 3) := by decide +kernel
theorem dX9_beside_78 : decode cX9_beside 78 = .ok (.bipush 8, 2) := by decide +kernel
theorem dX9_beside_80 : decode cX9_beside 80 = .ok (.iload_n 3, 1) := by decide +kernel
theorem dX9_beside_81 : decode cX9_beside 81 = .ok (.imul, 1) := by decide +kernel
theorem dX9_beside_82 : decode cX9_beside 82 = .ok (.iload_n 2, 1) := by decide +kernel
theorem dX9_beside_83 : decode cX9_beside 83 = .ok (.iadd, 1) := by decide +kernel
theorem dX9_beside_84 : decode cX9_beside 84 = .ok (.ireturn, 1) := by decide +kernel
theorem dX9_leastOf_0 : decode cX9_leastOf 0 = .ok (.iconst 0, 1) := by decide +kernel
theorem dX9_leastOf_1 : decode cX9_leastOf 1 = .ok (.istore_n 2, 1) := by decide +kernel
theorem dX9_leastOf_2 : decode cX9_leastOf 2 = .ok (.lload_n 0, 1) := by decide +kernel
theorem dX9_leastOf_3 : decode cX9_leastOf 3 = .ok (.iload_n 2, 1) := by decide +kernel
theorem dX9_leastOf_4 : decode cX9_leastOf 4 = .ok (.invokestatic 133, 3) := by decide +kernel
theorem dX9_leastOf_7 : decode cX9_leastOf 7 = .ok (.ifCond .ne 9, 3) := by decide +kernel
theorem dX9_leastOf_10 : decode cX9_leastOf 10 = .ok (.iinc 2 1, 3) := by decide +kernel
theorem dX9_leastOf_13 : decode cX9_leastOf 13 = .ok (.goto (-11), 3) := by decide +kernel
theorem dX9_leastOf_16 : decode cX9_leastOf 16 = .ok (.iload_n 2, 1) := by decide +kernel
theorem dX9_leastOf_17 : decode cX9_leastOf 17 = .ok (.ireturn, 1) := by decide +kernel
theorem dX9_hangs_0 : decode cX9_hangs 0 = .ok (.lconst 1, 1) := by decide +kernel
theorem dX9_hangs_1 : decode cX9_hangs 1 = .ok (.lload_n 0, 1) := by decide +kernel
theorem dX9_hangs_2 : decode cX9_hangs 2 = .ok (.invokestatic 137, 3) := by decide +kernel
theorem dX9_hangs_5 : decode cX9_hangs 5 = .ok (.lshl, 1) := by decide +kernel
theorem dX9_hangs_6 : decode cX9_hangs 6 = .ok (.lstore_n 2, 1) := by decide +kernel
theorem dX9_hangs_7 : decode cX9_hangs 7 = .ok (.iconst 1, 1) := by decide +kernel
theorem dX9_hangs_8 : decode cX9_hangs 8 = .ok (.istore 4, 2) := by decide +kernel
theorem dX9_hangs_10 : decode cX9_hangs 10 = .ok (.iload 4, 2) := by decide +kernel
theorem dX9_hangs_12 : decode cX9_hangs 12 = .ok (.ifCond .eq 97, 3) := by decide +kernel
theorem dX9_hangs_15 : decode cX9_hangs 15 = .ok (.lload_n 2, 1) := by decide +kernel
theorem dX9_hangs_16 : decode cX9_hangs 16 = .ok (.lstore 5, 2) := by decide +kernel
theorem dX9_hangs_18 : decode cX9_hangs 18 = .ok (.iconst 0, 1) := by decide +kernel
theorem dX9_hangs_19 : decode cX9_hangs 19 = .ok (.istore 7, 2) := by decide +kernel
theorem dX9_hangs_21 : decode cX9_hangs 21 = .ok (.iload 7, 2) := by decide +kernel
theorem dX9_hangs_23 : decode cX9_hangs 23 = .ok (.bipush 64, 2) := by decide +kernel
theorem dX9_hangs_25 : decode cX9_hangs 25 = .ok (.if_icmp .ge 64, 3) := by decide +kernel
theorem dX9_hangs_28 : decode cX9_hangs 28 = .ok (.iconst 0, 1) := by decide +kernel
theorem dX9_hangs_29 : decode cX9_hangs 29 = .ok (.istore 8, 2) := by decide +kernel
theorem dX9_hangs_31 : decode cX9_hangs 31 = .ok (.iload 8, 2) := by decide +kernel
theorem dX9_hangs_33 : decode cX9_hangs 33 = .ok (.iconst 4, 1) := by decide +kernel
theorem dX9_hangs_34 : decode cX9_hangs 34 = .ok (.if_icmp .ge 49, 3) := by decide +kernel
theorem dX9_hangs_37 : decode cX9_hangs 37 = .ok (.lload_n 2, 1) := by decide +kernel
theorem dX9_hangs_38 : decode cX9_hangs 38 = .ok (.iload 7, 2) := by decide +kernel
theorem dX9_hangs_40 : decode cX9_hangs 40 = .ok (.invokestatic 133, 3) := by decide +kernel
theorem dX9_hangs_43 : decode cX9_hangs 43 = .ok (.ifCond .eq 40, 3) := by decide +kernel
theorem dX9_hangs_46 : decode cX9_hangs 46 = .ok (.iload 7, 2) := by decide +kernel
theorem dX9_hangs_48 : decode cX9_hangs 48 = .ok (.iload 8, 2) := by decide +kernel
theorem dX9_hangs_50 : decode cX9_hangs 50 = .ok (.invokestatic 141, 3) := by decide +kernel
theorem dX9_hangs_53 : decode cX9_hangs 53 = .ok (.istore 9, 2) := by decide +kernel
theorem dX9_hangs_55 : decode cX9_hangs 55 = .ok (.lload 5, 2) := by decide +kernel
theorem dX9_hangs_57 : decode cX9_hangs 57 = .ok (.lload_n 0, 1) := by decide +kernel
theorem dX9_hangs_58 : decode cX9_hangs 58 = .ok (.iload 9, 2) := by decide +kernel
theorem dX9_hangs_60 : decode cX9_hangs 60 = .ok (.invokestatic 133, 3) := by decide +kernel
theorem dX9_hangs_63 : decode cX9_hangs 63 = .ok (.ifCond .eq 10, 3) := by decide +kernel
theorem dX9_hangs_66 : decode cX9_hangs 66 = .ok (.lconst 1, 1) := by decide +kernel
theorem dX9_hangs_67 : decode cX9_hangs 67 = .ok (.iload 9, 2) := by decide +kernel
theorem dX9_hangs_69 : decode cX9_hangs 69 = .ok (.lshl, 1) := by decide +kernel
theorem dX9_hangs_70 : decode cX9_hangs 70 = .ok (.goto 4, 3) := by decide +kernel
theorem dX9_hangs_73 : decode cX9_hangs 73 = .ok (.lconst 0, 1) := by decide +kernel
theorem dX9_hangs_74 : decode cX9_hangs 74 = .ok (.lor, 1) := by decide +kernel
theorem dX9_hangs_75 : decode cX9_hangs 75 = .ok (.lstore 5, 2) := by decide +kernel
theorem dX9_hangs_77 : decode cX9_hangs 77 = .ok (.iinc 8 1, 3) := by decide +kernel
theorem dX9_hangs_80 : decode cX9_hangs 80 = .ok (.goto (-49), 3) := by decide +kernel
theorem dX9_hangs_83 : decode cX9_hangs 83 = .ok (.iinc 7 1, 3) := by decide +kernel
theorem dX9_hangs_86 : decode cX9_hangs 86 = .ok (.goto (-65), 3) := by decide +kernel
theorem dX9_hangs_89 : decode cX9_hangs 89 = .ok (.lload 5, 2) := by decide +kernel
theorem dX9_hangs_91 : decode cX9_hangs 91 = .ok (.lload_n 2, 1) := by decide +kernel
theorem dX9_hangs_92 : decode cX9_hangs 92 = .ok (.lcmp, 1) := by decide +kernel
theorem dX9_hangs_93 : decode cX9_hangs 93 = .ok (.ifCond .eq 7, 3) := by decide +kernel
theorem dX9_hangs_96 : decode cX9_hangs 96 = .ok (.iconst 1, 1) := by decide +kernel
theorem dX9_hangs_97 : decode cX9_hangs 97 = .ok (.goto 4, 3) := by decide +kernel
theorem dX9_hangs_100 : decode cX9_hangs 100 = .ok (.iconst 0, 1) := by decide +kernel
theorem dX9_hangs_101 : decode cX9_hangs 101 = .ok (.istore 4, 2) := by decide +kernel
theorem dX9_hangs_103 : decode cX9_hangs 103 = .ok (.lload 5, 2) := by decide +kernel
theorem dX9_hangs_105 : decode cX9_hangs 105 = .ok (.lstore_n 2, 1) := by decide +kernel
theorem dX9_hangs_106 : decode cX9_hangs 106 = .ok (.goto (-96), 3) := by decide +kernel
theorem dX9_hangs_109 : decode cX9_hangs 109 = .ok (.lload_n 2, 1) := by decide +kernel
theorem dX9_hangs_110 : decode cX9_hangs 110 = .ok (.lload_n 0, 1) := by decide +kernel
theorem dX9_hangs_111 : decode cX9_hangs 111 = .ok (.lcmp, 1) := by decide +kernel
theorem dX9_hangs_112 : decode cX9_hangs 112 = .ok (.ifCond .ne 7, 3) := by decide +kernel
theorem dX9_hangs_115 : decode cX9_hangs 115 = .ok (.iconst 1, 1) := by decide +kernel
theorem dX9_hangs_116 : decode cX9_hangs 116 = .ok (.goto 4, 3) := by decide +kernel
theorem dX9_hangs_119 : decode cX9_hangs 119 = .ok (.iconst 0, 1) := by decide +kernel
theorem dX9_hangs_120 : decode cX9_hangs 120 = .ok (.ireturn, 1) := by decide +kernel
theorem dX9_setEnds_0 : decode cX9_setEnds 0 = .ok (.aload_n 0, 1) := by decide +kernel
theorem dX9_setEnds_1 : decode cX9_setEnds 1 = .ok (.getfield 23, 3) := by decide +kernel
theorem dX9_setEnds_4 : decode cX9_setEnds 4 = .ok (.iconst 0, 1) := by decide +kernel
theorem dX9_setEnds_5 : decode cX9_setEnds 5 = .ok (.bipush 8, 2) := by decide +kernel
theorem dX9_setEnds_7 : decode cX9_setEnds 7 = .ok (.iastore, 1) := by decide +kernel
theorem dX9_setEnds_8 : decode cX9_setEnds 8 = .ok (.aload_n 0, 1) := by decide +kernel
theorem dX9_setEnds_9 : decode cX9_setEnds 9 = .ok (.getfield 23, 3) := by decide +kernel
theorem dX9_setEnds_12 : decode cX9_setEnds 12 = .ok (.iconst 1, 1) := by decide +kernel
theorem dX9_setEnds_13 : decode cX9_setEnds 13 = .ok (.iconst (-1), 1) := by decide +kernel
theorem dX9_setEnds_14 : decode cX9_setEnds 14 = .ok (.iastore, 1) := by decide +kernel
theorem dX9_setEnds_15 : decode cX9_setEnds 15 = .ok (.aload_n 0, 1) := by decide +kernel
theorem dX9_setEnds_16 : decode cX9_setEnds 16 = .ok (.getfield 23, 3) := by decide +kernel
theorem dX9_setEnds_19 : decode cX9_setEnds 19 = .ok (.iconst 2, 1) := by decide +kernel
theorem dX9_setEnds_20 : decode cX9_setEnds 20 = .ok (.bipush 8, 2) := by decide +kernel
theorem dX9_setEnds_22 : decode cX9_setEnds 22 = .ok (.iastore, 1) := by decide +kernel
theorem dX9_setEnds_23 : decode cX9_setEnds 23 = .ok (.aload_n 0, 1) := by decide +kernel
theorem dX9_setEnds_24 : decode cX9_setEnds 24 = .ok (.getfield 23, 3) := by decide +kernel
theorem dX9_setEnds_27 : decode cX9_setEnds 27 = .ok (.iconst 3, 1) := by decide +kernel
theorem dX9_setEnds_28 : decode cX9_setEnds 28 = .ok (.iconst (-1), 1) := by decide +kernel
theorem dX9_setEnds_29 : decode cX9_setEnds 29 = .ok (.iastore, 1) := by decide +kernel
theorem dX9_setEnds_30 : decode cX9_setEnds 30 = .ok (.iconst 0, 1) := by decide +kernel
theorem dX9_setEnds_31 : decode cX9_setEnds 31 = .ok (.istore_n 3, 1) := by decide +kernel
theorem dX9_setEnds_32 : decode cX9_setEnds 32 = .ok (.iload_n 3, 1) := by decide +kernel
theorem dX9_setEnds_33 : decode cX9_setEnds 33 = .ok (.bipush 64, 2) := by decide +kernel
theorem dX9_setEnds_35 : decode cX9_setEnds 35 = .ok (.if_icmp .ge 145, 3) := by decide +kernel
theorem dX9_setEnds_38 : decode cX9_setEnds 38 = .ok (.lload_n 1, 1) := by decide +kernel
theorem dX9_setEnds_39 : decode cX9_setEnds 39 = .ok (.iload_n 3, 1) := by decide +kernel
theorem dX9_setEnds_40 : decode cX9_setEnds 40 = .ok (.invokestatic 133, 3) := by decide +kernel
theorem dX9_setEnds_43 : decode cX9_setEnds 43 = .ok (.ifCond .eq 131, 3) := by decide +kernel
theorem dX9_setEnds_46 : decode cX9_setEnds 46 = .ok (.aload_n 0, 1) := by decide +kernel
theorem dX9_setEnds_47 : decode cX9_setEnds 47 = .ok (.getfield 23, 3) := by decide +kernel
theorem dX9_setEnds_50 : decode cX9_setEnds 50 = .ok (.iconst 0, 1) := by decide +kernel
theorem dX9_setEnds_51 : decode cX9_setEnds 51 = .ok (.iload_n 3, 1) := by decide +kernel
theorem dX9_setEnds_52 : decode cX9_setEnds 52 = .ok (.bipush 8, 2) := by decide +kernel
theorem dX9_setEnds_54 : decode cX9_setEnds 54 = .ok (.irem, 1) := by decide +kernel
theorem dX9_setEnds_55 : decode cX9_setEnds 55 = .ok (.aload_n 0, 1) := by decide +kernel
theorem dX9_setEnds_56 : decode cX9_setEnds 56 = .ok (.getfield 23, 3) := by decide +kernel
theorem dX9_setEnds_59 : decode cX9_setEnds 59 = .ok (.iconst 0, 1) := by decide +kernel
theorem dX9_setEnds_60 : decode cX9_setEnds 60 = .ok (.iaload, 1) := by decide +kernel
theorem dX9_setEnds_61 : decode cX9_setEnds 61 = .ok (.if_icmp .ge 10, 3) := by decide +kernel
theorem dX9_setEnds_64 : decode cX9_setEnds 64 = .ok (.iload_n 3, 1) := by decide +kernel
theorem dX9_setEnds_65 : decode cX9_setEnds 65 = .ok (.bipush 8, 2) := by decide +kernel
theorem dX9_setEnds_67 : decode cX9_setEnds 67 = .ok (.irem, 1) := by decide +kernel
theorem dX9_setEnds_68 : decode cX9_setEnds 68 = .ok (.goto 9, 3) := by decide +kernel
theorem dX9_setEnds_71 : decode cX9_setEnds 71 = .ok (.aload_n 0, 1) := by decide +kernel
theorem dX9_setEnds_72 : decode cX9_setEnds 72 = .ok (.getfield 23, 3) := by decide +kernel
theorem dX9_setEnds_75 : decode cX9_setEnds 75 = .ok (.iconst 0, 1) := by decide +kernel
theorem dX9_setEnds_76 : decode cX9_setEnds 76 = .ok (.iaload, 1) := by decide +kernel
theorem dX9_setEnds_77 : decode cX9_setEnds 77 = .ok (.iastore, 1) := by decide +kernel
theorem dX9_setEnds_78 : decode cX9_setEnds 78 = .ok (.aload_n 0, 1) := by decide +kernel
theorem dX9_setEnds_79 : decode cX9_setEnds 79 = .ok (.getfield 23, 3) := by decide +kernel
theorem dX9_setEnds_82 : decode cX9_setEnds 82 = .ok (.iconst 1, 1) := by decide +kernel
theorem dX9_setEnds_83 : decode cX9_setEnds 83 = .ok (.iload_n 3, 1) := by decide +kernel
theorem dX9_setEnds_84 : decode cX9_setEnds 84 = .ok (.bipush 8, 2) := by decide +kernel
theorem dX9_setEnds_86 : decode cX9_setEnds 86 = .ok (.irem, 1) := by decide +kernel
theorem dX9_setEnds_87 : decode cX9_setEnds 87 = .ok (.aload_n 0, 1) := by decide +kernel
theorem dX9_setEnds_88 : decode cX9_setEnds 88 = .ok (.getfield 23, 3) := by decide +kernel
theorem dX9_setEnds_91 : decode cX9_setEnds 91 = .ok (.iconst 1, 1) := by decide +kernel
theorem dX9_setEnds_92 : decode cX9_setEnds 92 = .ok (.iaload, 1) := by decide +kernel
theorem dX9_setEnds_93 : decode cX9_setEnds 93 = .ok (.if_icmp .le 10, 3) := by decide +kernel
theorem dX9_setEnds_96 : decode cX9_setEnds 96 = .ok (.iload_n 3, 1) := by decide +kernel
theorem dX9_setEnds_97 : decode cX9_setEnds 97 = .ok (.bipush 8, 2) := by decide +kernel
theorem dX9_setEnds_99 : decode cX9_setEnds 99 = .ok (.irem, 1) := by decide +kernel
theorem dX9_setEnds_100 : decode cX9_setEnds 100 = .ok (.goto 9, 3) := by decide +kernel
theorem dX9_setEnds_103 : decode cX9_setEnds 103 = .ok (.aload_n 0, 1) := by decide +kernel
theorem dX9_setEnds_104 : decode cX9_setEnds 104 = .ok (.getfield 23, 3) := by decide +kernel
theorem dX9_setEnds_107 : decode cX9_setEnds 107 = .ok (.iconst 1, 1) := by decide +kernel
theorem dX9_setEnds_108 : decode cX9_setEnds 108 = .ok (.iaload, 1) := by decide +kernel
theorem dX9_setEnds_109 : decode cX9_setEnds 109 = .ok (.iastore, 1) := by decide +kernel
theorem dX9_setEnds_110 : decode cX9_setEnds 110 = .ok (.aload_n 0, 1) := by decide +kernel
theorem dX9_setEnds_111 : decode cX9_setEnds 111 = .ok (.getfield 23, 3) := by decide +kernel
theorem dX9_setEnds_114 : decode cX9_setEnds 114 = .ok (.iconst 2, 1) := by decide +kernel
theorem dX9_setEnds_115 : decode cX9_setEnds 115 = .ok (.iload_n 3, 1) := by decide +kernel
theorem dX9_setEnds_116 : decode cX9_setEnds 116 = .ok (.bipush 8, 2) := by decide +kernel
theorem dX9_setEnds_118 : decode cX9_setEnds 118 = .ok (.idiv, 1) := by decide +kernel
theorem dX9_setEnds_119 : decode cX9_setEnds 119 = .ok (.aload_n 0, 1) := by decide +kernel
theorem dX9_setEnds_120 : decode cX9_setEnds 120 = .ok (.getfield 23, 3) := by decide +kernel
theorem dX9_setEnds_123 : decode cX9_setEnds 123 = .ok (.iconst 2, 1) := by decide +kernel
theorem dX9_setEnds_124 : decode cX9_setEnds 124 = .ok (.iaload, 1) := by decide +kernel
theorem dX9_setEnds_125 : decode cX9_setEnds 125 = .ok (.if_icmp .ge 10, 3) := by decide +kernel
theorem dX9_setEnds_128 : decode cX9_setEnds 128 = .ok (.iload_n 3, 1) := by decide +kernel
theorem dX9_setEnds_129 : decode cX9_setEnds 129 = .ok (.bipush 8, 2) := by decide +kernel
theorem dX9_setEnds_131 : decode cX9_setEnds 131 = .ok (.idiv, 1) := by decide +kernel
theorem dX9_setEnds_132 : decode cX9_setEnds 132 = .ok (.goto 9, 3) := by decide +kernel
theorem dX9_setEnds_135 : decode cX9_setEnds 135 = .ok (.aload_n 0, 1) := by decide +kernel
theorem dX9_setEnds_136 : decode cX9_setEnds 136 = .ok (.getfield 23, 3) := by decide +kernel
theorem dX9_setEnds_139 : decode cX9_setEnds 139 = .ok (.iconst 2, 1) := by decide +kernel
theorem dX9_setEnds_140 : decode cX9_setEnds 140 = .ok (.iaload, 1) := by decide +kernel
theorem dX9_setEnds_141 : decode cX9_setEnds 141 = .ok (.iastore, 1) := by decide +kernel
theorem dX9_setEnds_142 : decode cX9_setEnds 142 = .ok (.aload_n 0, 1) := by decide +kernel
theorem dX9_setEnds_143 : decode cX9_setEnds 143 = .ok (.getfield 23, 3) := by decide +kernel
theorem dX9_setEnds_146 : decode cX9_setEnds 146 = .ok (.iconst 3, 1) := by decide +kernel
theorem dX9_setEnds_147 : decode cX9_setEnds 147 = .ok (.iload_n 3, 1) := by decide +kernel
theorem dX9_setEnds_148 : decode cX9_setEnds 148 = .ok (.bipush 8, 2) := by decide +kernel
theorem dX9_setEnds_150 : decode cX9_setEnds 150 = .ok (.idiv, 1) := by decide +kernel
theorem dX9_setEnds_151 : decode cX9_setEnds 151 = .ok (.aload_n 0, 1) := by decide +kernel
theorem dX9_setEnds_152 : decode cX9_setEnds 152 = .ok (.getfield 23, 3) := by decide +kernel
theorem dX9_setEnds_155 : decode cX9_setEnds 155 = .ok (.iconst 3, 1) := by decide +kernel
theorem dX9_setEnds_156 : decode cX9_setEnds 156 = .ok (.iaload, 1) := by decide +kernel
theorem dX9_setEnds_157 : decode cX9_setEnds 157 = .ok (.if_icmp .le 10, 3) := by decide +kernel
theorem dX9_setEnds_160 : decode cX9_setEnds 160 = .ok (.iload_n 3, 1) := by decide +kernel
theorem dX9_setEnds_161 : decode cX9_setEnds 161 = .ok (.bipush 8, 2) := by decide +kernel
theorem dX9_setEnds_163 : decode cX9_setEnds 163 = .ok (.idiv, 1) := by decide +kernel
theorem dX9_setEnds_164 : decode cX9_setEnds 164 = .ok (.goto 9, 3) := by decide +kernel
theorem dX9_setEnds_167 : decode cX9_setEnds 167 = .ok (.aload_n 0, 1) := by decide +kernel
theorem dX9_setEnds_168 : decode cX9_setEnds 168 = .ok (.getfield 23, 3) := by decide +kernel
theorem dX9_setEnds_171 : decode cX9_setEnds 171 = .ok (.iconst 3, 1) := by decide +kernel
theorem dX9_setEnds_172 : decode cX9_setEnds 172 = .ok (.iaload, 1) := by decide +kernel
theorem dX9_setEnds_173 : decode cX9_setEnds 173 = .ok (.iastore, 1) := by decide +kernel
theorem dX9_setEnds_174 : decode cX9_setEnds 174 = .ok (.iinc 3 1, 3) := by decide +kernel
theorem dX9_setEnds_177 : decode cX9_setEnds 177 = .ok (.goto (-145), 3) := by decide +kernel
theorem dX9_setEnds_180 : decode cX9_setEnds 180 = .ok (.return_, 1) := by decide +kernel
theorem dX9_keep_0 : decode cX9_keep 0 = .ok (.aload_n 0, 1) := by decide +kernel
theorem dX9_keep_1 : decode cX9_keep 1 = .ok (.lload_n 2, 1) := by decide +kernel
theorem dX9_keep_2 : decode cX9_keep 2 = .ok (.invokevirtual 145, 3) := by decide +kernel
theorem dX9_keep_5 : decode cX9_keep 5 = .ok (.aload_n 0, 1) := by decide +kernel
theorem dX9_keep_6 : decode cX9_keep 6 = .ok (.getfield 13, 3) := by decide +kernel
theorem dX9_keep_9 : decode cX9_keep 9 = .ok (.iload_n 1, 1) := by decide +kernel
theorem dX9_keep_10 : decode cX9_keep 10 = .ok (.lload_n 2, 1) := by decide +kernel
theorem dX9_keep_11 : decode cX9_keep 11 = .ok (.lastore, 1) := by decide +kernel
theorem dX9_keep_12 : decode cX9_keep 12 = .ok (.aload_n 0, 1) := by decide +kernel
theorem dX9_keep_13 : decode cX9_keep 13 = .ok (.getfield 17, 3) := by decide +kernel
theorem dX9_keep_16 : decode cX9_keep 16 = .ok (.iload_n 1, 1) := by decide +kernel
theorem dX9_keep_17 : decode cX9_keep 17 = .ok (.aload_n 0, 1) := by decide +kernel
theorem dX9_keep_18 : decode cX9_keep 18 = .ok (.getfield 23, 3) := by decide +kernel
theorem dX9_keep_21 : decode cX9_keep 21 = .ok (.iconst 0, 1) := by decide +kernel
theorem dX9_keep_22 : decode cX9_keep 22 = .ok (.iaload, 1) := by decide +kernel
theorem dX9_keep_23 : decode cX9_keep 23 = .ok (.aload_n 0, 1) := by decide +kernel
theorem dX9_keep_24 : decode cX9_keep 24 = .ok (.getfield 23, 3) := by decide +kernel
theorem dX9_keep_27 : decode cX9_keep 27 = .ok (.iconst 1, 1) := by decide +kernel
theorem dX9_keep_28 : decode cX9_keep 28 = .ok (.iaload, 1) := by decide +kernel
theorem dX9_keep_29 : decode cX9_keep 29 = .ok (.if_icmp .eq 18, 3) := by decide +kernel
theorem dX9_keep_32 : decode cX9_keep 32 = .ok (.aload_n 0, 1) := by decide +kernel
theorem dX9_keep_33 : decode cX9_keep 33 = .ok (.getfield 23, 3) := by decide +kernel
theorem dX9_keep_36 : decode cX9_keep 36 = .ok (.iconst 2, 1) := by decide +kernel
theorem dX9_keep_37 : decode cX9_keep 37 = .ok (.iaload, 1) := by decide +kernel
theorem dX9_keep_38 : decode cX9_keep 38 = .ok (.aload_n 0, 1) := by decide +kernel
theorem dX9_keep_39 : decode cX9_keep 39 = .ok (.getfield 23, 3) := by decide +kernel
theorem dX9_keep_42 : decode cX9_keep 42 = .ok (.iconst 3, 1) := by decide +kernel
theorem dX9_keep_43 : decode cX9_keep 43 = .ok (.iaload, 1) := by decide +kernel
theorem dX9_keep_44 : decode cX9_keep 44 = .ok (.if_icmp .ne 7, 3) := by decide +kernel
theorem dX9_keep_47 : decode cX9_keep 47 = .ok (.iconst 1, 1) := by decide +kernel
theorem dX9_keep_48 : decode cX9_keep 48 = .ok (.goto 4, 3) := by decide +kernel
theorem dX9_keep_51 : decode cX9_keep 51 = .ok (.iconst 0, 1) := by decide +kernel
theorem dX9_keep_52 : decode cX9_keep 52 = .ok (.iastore, 1) := by decide +kernel
theorem dX9_keep_53 : decode cX9_keep 53 = .ok (.aload_n 0, 1) := by decide +kernel
theorem dX9_keep_54 : decode cX9_keep 54 = .ok (.getfield 20, 3) := by decide +kernel
theorem dX9_keep_57 : decode cX9_keep 57 = .ok (.iload_n 1, 1) := by decide +kernel
theorem dX9_keep_58 : decode cX9_keep 58 = .ok (.iconst 0, 1) := by decide +kernel
theorem dX9_keep_59 : decode cX9_keep 59 = .ok (.iastore, 1) := by decide +kernel
theorem dX9_keep_60 : decode cX9_keep 60 = .ok (.return_, 1) := by decide +kernel
theorem dX9_figure_0 : decode cX9_figure 0 = .ok (.lload_n 2, 1) := by decide +kernel
theorem dX9_figure_1 : decode cX9_figure 1 = .ok (.invokestatic 149, 3) := by decide +kernel
theorem dX9_figure_4 : decode cX9_figure 4 = .ok (.istore 4, 2) := by decide +kernel
theorem dX9_figure_6 : decode cX9_figure 6 = .ok (.iload_n 1, 1) := by decide +kernel
theorem dX9_figure_7 : decode cX9_figure 7 = .ok (.invokestatic 125, 3) := by decide +kernel
theorem dX9_figure_10 : decode cX9_figure 10 = .ok (.ifCond .eq 14, 3) := by decide +kernel
theorem dX9_figure_13 : decode cX9_figure 13 = .ok (.iload 4, 2) := by decide +kernel
theorem dX9_figure_15 : decode cX9_figure 15 = .ok (.iconst 1, 1) := by decide +kernel
theorem dX9_figure_16 : decode cX9_figure 16 = .ok (.bipush 24, 2) := by decide +kernel
theorem dX9_figure_18 : decode cX9_figure 18 = .ok (.invokestatic 121, 3) := by decide +kernel
theorem dX9_figure_21 : decode cX9_figure 21 = .ok (.ifCond .ne 5, 3) := by decide +kernel
theorem dX9_figure_24 : decode cX9_figure 24 = .ok (.iconst (-1), 1) := by decide +kernel
theorem dX9_figure_25 : decode cX9_figure 25 = .ok (.ireturn, 1) := by decide +kernel
theorem dX9_figure_26 : decode cX9_figure 26 = .ok (.lload_n 2, 1) := by decide +kernel
theorem dX9_figure_27 : decode cX9_figure 27 = .ok (.invokestatic 152, 3) := by decide +kernel
theorem dX9_figure_30 : decode cX9_figure 30 = .ok (.ifCond .ne 6, 3) := by decide +kernel
theorem dX9_figure_33 : decode cX9_figure 33 = .ok (.bipush (-4), 2) := by decide +kernel
theorem dX9_figure_35 : decode cX9_figure 35 = .ok (.ireturn, 1) := by decide +kernel
theorem dX9_figure_36 : decode cX9_figure 36 = .ok (.aload_n 0, 1) := by decide +kernel
theorem dX9_figure_37 : decode cX9_figure 37 = .ok (.iload_n 1, 1) := by decide +kernel
theorem dX9_figure_38 : decode cX9_figure 38 = .ok (.lload_n 2, 1) := by decide +kernel
theorem dX9_figure_39 : decode cX9_figure 39 = .ok (.invokevirtual 156, 3) := by decide +kernel
theorem dX9_figure_42 : decode cX9_figure 42 = .ok (.iload 4, 2) := by decide +kernel
theorem dX9_figure_44 : decode cX9_figure 44 = .ok (.ireturn, 1) := by decide +kernel
theorem dX9_drop_0 : decode cX9_drop 0 = .ok (.aload_n 0, 1) := by decide +kernel
theorem dX9_drop_1 : decode cX9_drop 1 = .ok (.iload_n 1, 1) := by decide +kernel
theorem dX9_drop_2 : decode cX9_drop 2 = .ok (.invokevirtual 160, 3) := by decide +kernel
theorem dX9_drop_5 : decode cX9_drop 5 = .ok (.istore_n 2, 1) := by decide +kernel
theorem dX9_drop_6 : decode cX9_drop 6 = .ok (.iload_n 2, 1) := by decide +kernel
theorem dX9_drop_7 : decode cX9_drop 7 = .ok (.ifCond .ge 5, 3) := by decide +kernel
theorem dX9_drop_10 : decode cX9_drop 10 = .ok (.iload_n 2, 1) := by decide +kernel
theorem dX9_drop_11 : decode cX9_drop 11 = .ok (.ireturn, 1) := by decide +kernel
theorem dX9_drop_12 : decode cX9_drop 12 = .ok (.aload_n 0, 1) := by decide +kernel
theorem dX9_drop_13 : decode cX9_drop 13 = .ok (.getfield 13, 3) := by decide +kernel
theorem dX9_drop_16 : decode cX9_drop 16 = .ok (.iload_n 1, 1) := by decide +kernel
theorem dX9_drop_17 : decode cX9_drop 17 = .ok (.lconst 0, 1) := by decide +kernel
theorem dX9_drop_18 : decode cX9_drop 18 = .ok (.lastore, 1) := by decide +kernel
theorem dX9_drop_19 : decode cX9_drop 19 = .ok (.iconst 1, 1) := by decide +kernel
theorem dX9_drop_20 : decode cX9_drop 20 = .ok (.ireturn, 1) := by decide +kernel
theorem dX9_rimOf_0 : decode cX9_rimOf 0 = .ok (.iconst 0, 1) := by decide +kernel
theorem dX9_rimOf_1 : decode cX9_rimOf 1 = .ok (.istore_n 2, 1) := by decide +kernel
theorem dX9_rimOf_2 : decode cX9_rimOf 2 = .ok (.iconst 0, 1) := by decide +kernel
theorem dX9_rimOf_3 : decode cX9_rimOf 3 = .ok (.istore_n 3, 1) := by decide +kernel
theorem dX9_rimOf_4 : decode cX9_rimOf 4 = .ok (.iload_n 3, 1) := by decide +kernel
theorem dX9_rimOf_5 : decode cX9_rimOf 5 = .ok (.bipush 64, 2) := by decide +kernel
theorem dX9_rimOf_7 : decode cX9_rimOf 7 = .ok (.if_icmp .ge 53, 3) := by decide +kernel
theorem dX9_rimOf_10 : decode cX9_rimOf 10 = .ok (.iconst 0, 1) := by decide +kernel
theorem dX9_rimOf_11 : decode cX9_rimOf 11 = .ok (.istore 4, 2) := by decide +kernel
theorem dX9_rimOf_13 : decode cX9_rimOf 13 = .ok (.iload 4, 2) := by decide +kernel
theorem dX9_rimOf_15 : decode cX9_rimOf 15 = .ok (.iconst 4, 1) := by decide +kernel
theorem dX9_rimOf_16 : decode cX9_rimOf 16 = .ok (.if_icmp .ge 38, 3) := by decide +kernel
theorem dX9_rimOf_19 : decode cX9_rimOf 19 = .ok (.lload_n 0, 1) := by decide +kernel
theorem dX9_rimOf_20 : decode cX9_rimOf 20 = .ok (.iload_n 3, 1) := by decide +kernel
theorem dX9_rimOf_21 : decode cX9_rimOf 21 = .ok (.invokestatic 133, 3) := by decide +kernel
theorem dX9_rimOf_24 : decode cX9_rimOf 24 = .ok (.ifCond .eq 30, 3) := by decide +kernel
theorem dX9_rimOf_27 : decode cX9_rimOf 27 = .ok (.iload_n 2, 1) := by decide +kernel
theorem dX9_rimOf_28 : decode cX9_rimOf 28 = .ok (.lload_n 0, 1) := by decide +kernel
theorem dX9_rimOf_29 : decode cX9_rimOf 29 = .ok (.iload_n 3, 1) := by decide +kernel
theorem dX9_rimOf_30 : decode cX9_rimOf 30 = .ok (.iload 4, 2) := by decide +kernel
theorem dX9_rimOf_32 : decode cX9_rimOf 32 = .ok (.invokestatic 141, 3) := by decide +kernel
theorem dX9_rimOf_35 : decode cX9_rimOf 35 = .ok (.invokestatic 133, 3) := by decide +kernel
theorem dX9_rimOf_38 : decode cX9_rimOf 38 = .ok (.ifCond .eq 7, 3) := by decide +kernel
theorem dX9_rimOf_41 : decode cX9_rimOf 41 = .ok (.iconst 0, 1) := by decide +kernel
theorem dX9_rimOf_42 : decode cX9_rimOf 42 = .ok (.goto 4, 3) := by decide +kernel
theorem dX9_rimOf_45 : decode cX9_rimOf 45 = .ok (.iconst 1, 1) := by decide +kernel
theorem dX9_rimOf_46 : decode cX9_rimOf 46 = .ok (.iadd, 1) := by decide +kernel
theorem dX9_rimOf_47 : decode cX9_rimOf 47 = .ok (.istore_n 2, 1) := by decide +kernel
theorem dX9_rimOf_48 : decode cX9_rimOf 48 = .ok (.iinc 4 1, 3) := by decide +kernel
theorem dX9_rimOf_51 : decode cX9_rimOf 51 = .ok (.goto (-38), 3) := by decide +kernel
theorem dX9_rimOf_54 : decode cX9_rimOf 54 = .ok (.iinc 3 1, 3) := by decide +kernel
theorem dX9_rimOf_57 : decode cX9_rimOf 57 = .ok (.goto (-53), 3) := by decide +kernel
theorem dX9_rimOf_60 : decode cX9_rimOf 60 = .ok (.iload_n 2, 1) := by decide +kernel
theorem dX9_rimOf_61 : decode cX9_rimOf 61 = .ok (.ireturn, 1) := by decide +kernel
theorem dX9_told_0 : decode cX9_told 0 = .ok (.iload_n 2, 1) := by decide +kernel
theorem dX9_told_1 : decode cX9_told 1 = .ok (.iconst 0, 1) := by decide +kernel
theorem dX9_told_2 : decode cX9_told 2 = .ok (.iconst 3, 1) := by decide +kernel
theorem dX9_told_3 : decode cX9_told 3 = .ok (.invokestatic 121, 3) := by decide +kernel
theorem dX9_told_6 : decode cX9_told 6 = .ok (.ifCond .ne 5, 3) := by decide +kernel
theorem dX9_told_9 : decode cX9_told 9 = .ok (.iconst (-1), 1) := by decide +kernel
theorem dX9_told_10 : decode cX9_told 10 = .ok (.ireturn, 1) := by decide +kernel
theorem dX9_told_11 : decode cX9_told 11 = .ok (.aload_n 0, 1) := by decide +kernel
theorem dX9_told_12 : decode cX9_told 12 = .ok (.iload_n 1, 1) := by decide +kernel
theorem dX9_told_13 : decode cX9_told 13 = .ok (.invokevirtual 160, 3) := by decide +kernel
theorem dX9_told_16 : decode cX9_told 16 = .ok (.istore_n 3, 1) := by decide +kernel
theorem dX9_told_17 : decode cX9_told 17 = .ok (.iload_n 3, 1) := by decide +kernel
theorem dX9_told_18 : decode cX9_told 18 = .ok (.ifCond .ge 5, 3) := by decide +kernel
theorem dX9_told_21 : decode cX9_told 21 = .ok (.iload_n 3, 1) := by decide +kernel
theorem dX9_told_22 : decode cX9_told 22 = .ok (.ireturn, 1) := by decide +kernel
theorem dX9_told_23 : decode cX9_told 23 = .ok (.iload_n 2, 1) := by decide +kernel
theorem dX9_told_24 : decode cX9_told 24 = .ok (.ifCond .ne 12, 3) := by decide +kernel
theorem dX9_told_27 : decode cX9_told 27 = .ok (.aload_n 0, 1) := by decide +kernel
theorem dX9_told_28 : decode cX9_told 28 = .ok (.getfield 17, 3) := by decide +kernel
theorem dX9_told_31 : decode cX9_told 31 = .ok (.iload_n 1, 1) := by decide +kernel
theorem dX9_told_32 : decode cX9_told 32 = .ok (.iaload, 1) := by decide +kernel
theorem dX9_told_33 : decode cX9_told 33 = .ok (.goto 46, 3) := by decide +kernel
theorem dX9_told_36 : decode cX9_told 36 = .ok (.iload_n 2, 1) := by decide +kernel
theorem dX9_told_37 : decode cX9_told 37 = .ok (.iconst 1, 1) := by decide +kernel
theorem dX9_told_38 : decode cX9_told 38 = .ok (.if_icmp .ne 15, 3) := by decide +kernel
theorem dX9_told_41 : decode cX9_told 41 = .ok (.aload_n 0, 1) := by decide +kernel
theorem dX9_told_42 : decode cX9_told 42 = .ok (.getfield 13, 3) := by decide +kernel
theorem dX9_told_45 : decode cX9_told 45 = .ok (.iload_n 1, 1) := by decide +kernel
theorem dX9_told_46 : decode cX9_told 46 = .ok (.laload, 1) := by decide +kernel
theorem dX9_told_47 : decode cX9_told 47 = .ok (.invokestatic 149, 3) := by decide +kernel
theorem dX9_told_50 : decode cX9_told 50 = .ok (.goto 29, 3) := by decide +kernel
theorem dX9_told_53 : decode cX9_told 53 = .ok (.iload_n 2, 1) := by decide +kernel
theorem dX9_told_54 : decode cX9_told 54 = .ok (.iconst 2, 1) := by decide +kernel
theorem dX9_told_55 : decode cX9_told 55 = .ok (.if_icmp .ne 15, 3) := by decide +kernel
theorem dX9_told_58 : decode cX9_told 58 = .ok (.aload_n 0, 1) := by decide +kernel
theorem dX9_told_59 : decode cX9_told 59 = .ok (.getfield 13, 3) := by decide +kernel
theorem dX9_told_62 : decode cX9_told 62 = .ok (.iload_n 1, 1) := by decide +kernel
theorem dX9_told_63 : decode cX9_told 63 = .ok (.laload, 1) := by decide +kernel
theorem dX9_told_64 : decode cX9_told 64 = .ok (.invokestatic 163, 3) := by decide +kernel
theorem dX9_told_67 : decode cX9_told 67 = .ok (.goto 12, 3) := by decide +kernel
theorem dX9_told_70 : decode cX9_told 70 = .ok (.aload_n 0, 1) := by decide +kernel
theorem dX9_told_71 : decode cX9_told 71 = .ok (.getfield 13, 3) := by decide +kernel
theorem dX9_told_74 : decode cX9_told 74 = .ok (.iload_n 1, 1) := by decide +kernel
theorem dX9_told_75 : decode cX9_told 75 = .ok (.laload, 1) := by decide +kernel
theorem dX9_told_76 : decode cX9_told 76 = .ok (.invokestatic 137, 3) := by decide +kernel
theorem dX9_told_79 : decode cX9_told 79 = .ok (.ireturn, 1) := by decide +kernel
theorem dX9_mark_0 : decode cX9_mark 0 = .ok (.iload_n 2, 1) := by decide +kernel
theorem dX9_mark_1 : decode cX9_mark 1 = .ok (.iconst 1, 1) := by decide +kernel
theorem dX9_mark_2 : decode cX9_mark 2 = .ok (.iconst 3, 1) := by decide +kernel
theorem dX9_mark_3 : decode cX9_mark 3 = .ok (.invokestatic 121, 3) := by decide +kernel
theorem dX9_mark_6 : decode cX9_mark 6 = .ok (.ifCond .ne 5, 3) := by decide +kernel
theorem dX9_mark_9 : decode cX9_mark 9 = .ok (.iconst (-1), 1) := by decide +kernel
theorem dX9_mark_10 : decode cX9_mark 10 = .ok (.ireturn, 1) := by decide +kernel
theorem dX9_mark_11 : decode cX9_mark 11 = .ok (.aload_n 0, 1) := by decide +kernel
theorem dX9_mark_12 : decode cX9_mark 12 = .ok (.iload_n 1, 1) := by decide +kernel
theorem dX9_mark_13 : decode cX9_mark 13 = .ok (.invokevirtual 160, 3) := by decide +kernel
theorem dX9_mark_16 : decode cX9_mark 16 = .ok (.istore_n 3, 1) := by decide +kernel
theorem dX9_mark_17 : decode cX9_mark 17 = .ok (.iload_n 3, 1) := by decide +kernel
theorem dX9_mark_18 : decode cX9_mark 18 = .ok (.ifCond .ge 5, 3) := by decide +kernel
theorem dX9_mark_21 : decode cX9_mark 21 = .ok (.iload_n 3, 1) := by decide +kernel
theorem dX9_mark_22 : decode cX9_mark 22 = .ok (.ireturn, 1) := by decide +kernel
theorem dX9_mark_23 : decode cX9_mark 23 = .ok (.aload_n 0, 1) := by decide +kernel
theorem dX9_mark_24 : decode cX9_mark 24 = .ok (.getfield 17, 3) := by decide +kernel
theorem dX9_mark_27 : decode cX9_mark 27 = .ok (.iload_n 1, 1) := by decide +kernel
theorem dX9_mark_28 : decode cX9_mark 28 = .ok (.iaload, 1) := by decide +kernel
theorem dX9_mark_29 : decode cX9_mark 29 = .ok (.iload_n 2, 1) := by decide +kernel
theorem dX9_mark_30 : decode cX9_mark 30 = .ok (.if_icmp .eq 24, 3) := by decide +kernel
theorem dX9_mark_33 : decode cX9_mark 33 = .ok (.iload_n 2, 1) := by decide +kernel
theorem dX9_mark_34 : decode cX9_mark 34 = .ok (.iconst 2, 1) := by decide +kernel
theorem dX9_mark_35 : decode cX9_mark 35 = .ok (.if_icmp .ne 13, 3) := by decide +kernel
theorem dX9_mark_38 : decode cX9_mark 38 = .ok (.aload_n 0, 1) := by decide +kernel
theorem dX9_mark_39 : decode cX9_mark 39 = .ok (.getfield 17, 3) := by decide +kernel
theorem dX9_mark_42 : decode cX9_mark 42 = .ok (.iload_n 1, 1) := by decide +kernel
theorem dX9_mark_43 : decode cX9_mark 43 = .ok (.iaload, 1) := by decide +kernel
theorem dX9_mark_44 : decode cX9_mark 44 = .ok (.iconst 3, 1) := by decide +kernel
theorem dX9_mark_45 : decode cX9_mark 45 = .ok (.if_icmp .eq 9, 3) := by decide +kernel
theorem dX9_mark_48 : decode cX9_mark 48 = .ok (.aload_n 0, 1) := by decide +kernel
theorem dX9_mark_49 : decode cX9_mark 49 = .ok (.iconst 3, 1) := by decide +kernel
theorem dX9_mark_50 : decode cX9_mark 50 = .ok (.invokevirtual 129, 3) := by decide +kernel
theorem dX9_mark_53 : decode cX9_mark 53 = .ok (.ireturn, 1) := by decide +kernel
theorem dX9_mark_54 : decode cX9_mark 54 = .ok (.aload_n 0, 1) := by decide +kernel
theorem dX9_mark_55 : decode cX9_mark 55 = .ok (.aload_n 0, 1) := by decide +kernel
theorem dX9_mark_56 : decode cX9_mark 56 = .ok (.getfield 13, 3) := by decide +kernel
theorem dX9_mark_59 : decode cX9_mark 59 = .ok (.iload_n 1, 1) := by decide +kernel
theorem dX9_mark_60 : decode cX9_mark 60 = .ok (.laload, 1) := by decide +kernel
theorem dX9_mark_61 : decode cX9_mark 61 = .ok (.invokevirtual 145, 3) := by decide +kernel
theorem dX9_mark_64 : decode cX9_mark 64 = .ok (.iload_n 2, 1) := by decide +kernel
theorem dX9_mark_65 : decode cX9_mark 65 = .ok (.iconst 1, 1) := by decide +kernel
theorem dX9_mark_66 : decode cX9_mark 66 = .ok (.if_icmp .ne 26, 3) := by decide +kernel
theorem dX9_mark_69 : decode cX9_mark 69 = .ok (.aload_n 0, 1) := by decide +kernel
theorem dX9_mark_70 : decode cX9_mark 70 = .ok (.getfield 23, 3) := by decide +kernel
theorem dX9_mark_73 : decode cX9_mark 73 = .ok (.iconst 2, 1) := by decide +kernel
theorem dX9_mark_74 : decode cX9_mark 74 = .ok (.iaload, 1) := by decide +kernel
theorem dX9_mark_75 : decode cX9_mark 75 = .ok (.aload_n 0, 1) := by decide +kernel
theorem dX9_mark_76 : decode cX9_mark 76 = .ok (.getfield 23, 3) := by decide +kernel
theorem dX9_mark_79 : decode cX9_mark 79 = .ok (.iconst 3, 1) := by decide +kernel
theorem dX9_mark_80 : decode cX9_mark 80 = .ok (.iaload, 1) := by decide +kernel
theorem dX9_mark_81 : decode cX9_mark 81 = .ok (.if_icmp .ne 7, 3) := by decide +kernel
theorem dX9_mark_84 : decode cX9_mark 84 = .ok (.iconst 1, 1) := by decide +kernel
theorem dX9_mark_85 : decode cX9_mark 85 = .ok (.goto 33, 3) := by decide +kernel
theorem dX9_mark_88 : decode cX9_mark 88 = .ok (.iconst 0, 1) := by decide +kernel
theorem dX9_mark_89 : decode cX9_mark 89 = .ok (.goto 29, 3) := by decide +kernel
theorem dX9_mark_92 : decode cX9_mark 92 = .ok (.iload_n 2, 1) := by decide +kernel
theorem dX9_mark_93 : decode cX9_mark 93 = .ok (.iconst 2, 1) := by decide +kernel
theorem dX9_mark_94 : decode cX9_mark 94 = .ok (.if_icmp .ne 15, 3) := by decide +kernel
theorem dX9_mark_97 : decode cX9_mark 97 = .ok (.aload_n 0, 1) := by decide +kernel
theorem dX9_mark_98 : decode cX9_mark 98 = .ok (.getfield 20, 3) := by decide +kernel
theorem dX9_mark_101 : decode cX9_mark 101 = .ok (.iload_n 1, 1) := by decide +kernel
theorem dX9_mark_102 : decode cX9_mark 102 = .ok (.iaload, 1) := by decide +kernel
theorem dX9_mark_103 : decode cX9_mark 103 = .ok (.bipush 100, 2) := by decide +kernel
theorem dX9_mark_105 : decode cX9_mark 105 = .ok (.irem, 1) := by decide +kernel
theorem dX9_mark_106 : decode cX9_mark 106 = .ok (.goto 12, 3) := by decide +kernel
theorem dX9_mark_109 : decode cX9_mark 109 = .ok (.aload_n 0, 1) := by decide +kernel
theorem dX9_mark_110 : decode cX9_mark 110 = .ok (.getfield 20, 3) := by decide +kernel
theorem dX9_mark_113 : decode cX9_mark 113 = .ok (.iload_n 1, 1) := by decide +kernel
theorem dX9_mark_114 : decode cX9_mark 114 = .ok (.iaload, 1) := by decide +kernel
theorem dX9_mark_115 : decode cX9_mark 115 = .ok (.bipush 100, 2) := by decide +kernel
theorem dX9_mark_117 : decode cX9_mark 117 = .ok (.idiv, 1) := by decide +kernel
theorem dX9_mark_118 : decode cX9_mark 118 = .ok (.ireturn, 1) := by decide +kernel
theorem dX9_squares_0 : decode cX9_squares 0 = .ok (.aload_n 0, 1) := by decide +kernel
theorem dX9_squares_1 : decode cX9_squares 1 = .ok (.iload_n 1, 1) := by decide +kernel
theorem dX9_squares_2 : decode cX9_squares 2 = .ok (.invokevirtual 160, 3) := by decide +kernel
theorem dX9_squares_5 : decode cX9_squares 5 = .ok (.istore_n 2, 1) := by decide +kernel
theorem dX9_squares_6 : decode cX9_squares 6 = .ok (.iload_n 2, 1) := by decide +kernel
theorem dX9_squares_7 : decode cX9_squares 7 = .ok (.ifCond .ge 7, 3) := by decide +kernel
theorem dX9_squares_10 : decode cX9_squares 10 = .ok (.iload_n 2, 1) := by decide +kernel
theorem dX9_squares_11 : decode cX9_squares 11 = .ok (.goto 22, 3) := by decide +kernel
theorem dX9_squares_14 : decode cX9_squares 14 = .ok (.aload_n 0, 1) := by decide +kernel
theorem dX9_squares_15 : decode cX9_squares 15 = .ok (.aload_n 0, 1) := by decide +kernel
theorem dX9_squares_16 : decode cX9_squares 16 = .ok (.getfield 13, 3) := by decide +kernel
theorem dX9_squares_19 : decode cX9_squares 19 = .ok (.iload_n 1, 1) := by decide +kernel
theorem dX9_squares_20 : decode cX9_squares 20 = .ok (.laload, 1) := by decide +kernel
theorem dX9_squares_21 : decode cX9_squares 21 = .ok (.aload_n 0, 1) := by decide +kernel
theorem dX9_squares_22 : decode cX9_squares 22 = .ok (.getfield 13, 3) := by decide +kernel
theorem dX9_squares_25 : decode cX9_squares 25 = .ok (.iload_n 1, 1) := by decide +kernel
theorem dX9_squares_26 : decode cX9_squares 26 = .ok (.laload, 1) := by decide +kernel
theorem dX9_squares_27 : decode cX9_squares 27 = .ok (.invokestatic 149, 3) := by decide +kernel
theorem dX9_squares_30 : decode cX9_squares 30 = .ok (.invokevirtual 166, 3) := by decide +kernel
theorem dX9_squares_33 : decode cX9_squares 33 = .ok (.ireturn, 1) := by decide +kernel
theorem dX9_putDown_0 : decode cX9_putDown 0 = .ok (.lload_n 1, 1) := by decide +kernel
theorem dX9_putDown_1 : decode cX9_putDown 1 = .ok (.lstore 5, 2) := by decide +kernel
theorem dX9_putDown_3 : decode cX9_putDown 3 = .ok (.iload_n 3, 1) := by decide +kernel
theorem dX9_putDown_4 : decode cX9_putDown 4 = .ok (.ifCond .eq 7, 3) := by decide +kernel
theorem dX9_putDown_7 : decode cX9_putDown 7 = .ok (.iconst (-1), 1) := by decide +kernel
theorem dX9_putDown_8 : decode cX9_putDown 8 = .ok (.goto 4, 3) := by decide +kernel
theorem dX9_putDown_11 : decode cX9_putDown 11 = .ok (.iconst 0, 1) := by decide +kernel
theorem dX9_putDown_12 : decode cX9_putDown 12 = .ok (.istore 7, 2) := by decide +kernel
theorem dX9_putDown_14 : decode cX9_putDown 14 = .ok (.iload 7, 2) := by decide +kernel
theorem dX9_putDown_16 : decode cX9_putDown 16 = .ok (.iload 4, 2) := by decide +kernel
theorem dX9_putDown_18 : decode cX9_putDown 18 = .ok (.if_icmp .ge 135, 3) := by decide +kernel
theorem dX9_putDown_21 : decode cX9_putDown 21 = .ok (.aload_n 0, 1) := by decide +kernel
theorem dX9_putDown_22 : decode cX9_putDown 22 = .ok (.lload 5, 2) := by decide +kernel
theorem dX9_putDown_24 : decode cX9_putDown 24 = .ok (.invokevirtual 145, 3) := by decide +kernel
theorem dX9_putDown_27 : decode cX9_putDown 27 = .ok (.lconst 0, 1) := by decide +kernel
theorem dX9_putDown_28 : decode cX9_putDown 28 = .ok (.lstore 8, 2) := by decide +kernel
theorem dX9_putDown_30 : decode cX9_putDown 30 = .ok (.iconst 0, 1) := by decide +kernel
theorem dX9_putDown_31 : decode cX9_putDown 31 = .ok (.istore 10, 2) := by decide +kernel
theorem dX9_putDown_33 : decode cX9_putDown 33 = .ok (.iload 10, 2) := by decide +kernel
theorem dX9_putDown_35 : decode cX9_putDown 35 = .ok (.bipush 64, 2) := by decide +kernel
theorem dX9_putDown_37 : decode cX9_putDown 37 = .ok (.if_icmp .ge 106, 3) := by decide +kernel
theorem dX9_putDown_40 : decode cX9_putDown 40 = .ok (.iload 7, 2) := by decide +kernel
theorem dX9_putDown_42 : decode cX9_putDown 42 = .ok (.ifCond .ge 18, 3) := by decide +kernel
theorem dX9_putDown_45 : decode cX9_putDown 45 = .ok (.aload_n 0, 1) := by decide +kernel
theorem dX9_putDown_46 : decode cX9_putDown 46 = .ok (.getfield 23, 3) := by decide +kernel
theorem dX9_putDown_49 : decode cX9_putDown 49 = .ok (.iconst 1, 1) := by decide +kernel
theorem dX9_putDown_50 : decode cX9_putDown 50 = .ok (.iaload, 1) := by decide +kernel
theorem dX9_putDown_51 : decode cX9_putDown 51 = .ok (.iload 10, 2) := by decide +kernel
theorem dX9_putDown_53 : decode cX9_putDown 53 = .ok (.bipush 8, 2) := by decide +kernel
theorem dX9_putDown_55 : decode cX9_putDown 55 = .ok (.irem, 1) := by decide +kernel
theorem dX9_putDown_56 : decode cX9_putDown 56 = .ok (.isub, 1) := by decide +kernel
theorem dX9_putDown_57 : decode cX9_putDown 57 = .ok (.goto 15, 3) := by decide +kernel
theorem dX9_putDown_60 : decode cX9_putDown 60 = .ok (.aload_n 0, 1) := by decide +kernel
theorem dX9_putDown_61 : decode cX9_putDown 61 = .ok (.getfield 23, 3) := by decide +kernel
theorem dX9_putDown_64 : decode cX9_putDown 64 = .ok (.iconst 3, 1) := by decide +kernel
theorem dX9_putDown_65 : decode cX9_putDown 65 = .ok (.iaload, 1) := by decide +kernel
theorem dX9_putDown_66 : decode cX9_putDown 66 = .ok (.iload 10, 2) := by decide +kernel
theorem dX9_putDown_68 : decode cX9_putDown 68 = .ok (.bipush 8, 2) := by decide +kernel
theorem dX9_putDown_70 : decode cX9_putDown 70 = .ok (.idiv, 1) := by decide +kernel
theorem dX9_putDown_71 : decode cX9_putDown 71 = .ok (.isub, 1) := by decide +kernel
theorem dX9_putDown_72 : decode cX9_putDown 72 = .ok (.istore 11, 2) := by decide +kernel
theorem dX9_putDown_74 : decode cX9_putDown 74 = .ok (.iload 7, 2) := by decide +kernel
theorem dX9_putDown_76 : decode cX9_putDown 76 = .ok (.ifCond .ge 18, 3) := by decide +kernel
theorem dX9_putDown_79 : decode cX9_putDown 79 = .ok (.iload 10, 2) := by decide +kernel
theorem dX9_putDown_81 : decode cX9_putDown 81 = .ok (.bipush 8, 2) := by decide +kernel
theorem dX9_putDown_83 : decode cX9_putDown 83 = .ok (.idiv, 1) := by decide +kernel
theorem dX9_putDown_84 : decode cX9_putDown 84 = .ok (.aload_n 0, 1) := by decide +kernel
theorem dX9_putDown_85 : decode cX9_putDown 85 = .ok (.getfield 23, 3) := by decide +kernel
theorem dX9_putDown_88 : decode cX9_putDown 88 = .ok (.iconst 2, 1) := by decide +kernel
theorem dX9_putDown_89 : decode cX9_putDown 89 = .ok (.iaload, 1) := by decide +kernel
theorem dX9_putDown_90 : decode cX9_putDown 90 = .ok (.isub, 1) := by decide +kernel
theorem dX9_putDown_91 : decode cX9_putDown 91 = .ok (.goto 15, 3) := by decide +kernel
theorem dX9_putDown_94 : decode cX9_putDown 94 = .ok (.iload 10, 2) := by decide +kernel
theorem dX9_putDown_96 : decode cX9_putDown 96 = .ok (.bipush 8, 2) := by decide +kernel
theorem dX9_putDown_98 : decode cX9_putDown 98 = .ok (.irem, 1) := by decide +kernel
theorem dX9_putDown_99 : decode cX9_putDown 99 = .ok (.aload_n 0, 1) := by decide +kernel
theorem dX9_putDown_100 : decode cX9_putDown 100 = .ok (.getfield 23, 3) := by decide +kernel
theorem dX9_putDown_103 : decode cX9_putDown 103 = .ok (.iconst 0, 1) := by decide +kernel
theorem dX9_putDown_104 : decode cX9_putDown 104 = .ok (.iaload, 1) := by decide +kernel
theorem dX9_putDown_105 : decode cX9_putDown 105 = .ok (.isub, 1) := by decide +kernel
theorem dX9_putDown_106 : decode cX9_putDown 106 = .ok (.istore 12, 2) := by decide +kernel
theorem dX9_putDown_108 : decode cX9_putDown 108 = .ok (.lload 8, 2) := by decide +kernel
theorem dX9_putDown_110 : decode cX9_putDown 110 = .ok (.lload 5, 2) := by decide +kernel
theorem dX9_putDown_112 : decode cX9_putDown 112 = .ok (.iload 10, 2) := by decide +kernel
theorem dX9_putDown_114 : decode cX9_putDown 114 = .ok (.invokestatic 133, 3) := by decide +kernel
theorem dX9_putDown_117 : decode cX9_putDown 117 = .ok (.ifCond .eq 16, 3) := by decide +kernel
theorem dX9_putDown_120 : decode cX9_putDown 120 = .ok (.lconst 1, 1) := by decide +kernel
theorem dX9_putDown_121 : decode cX9_putDown 121 = .ok (.bipush 8, 2) := by decide +kernel
theorem dX9_putDown_123 : decode cX9_putDown 123 = .ok (.iload 12, 2) := by decide +kernel
theorem dX9_putDown_125 : decode cX9_putDown 125 = .ok (.imul, 1) := by decide +kernel
theorem dX9_putDown_126 : decode cX9_putDown 126 = .ok (.iload 11, 2) := by decide +kernel
theorem dX9_putDown_128 : decode cX9_putDown 128 = .ok (.iadd, 1) := by decide +kernel
theorem dX9_putDown_129 : decode cX9_putDown 129 = .ok (.lshl, 1) := by decide +kernel
theorem dX9_putDown_130 : decode cX9_putDown 130 = .ok (.goto 4, 3) := by decide +kernel
theorem dX9_putDown_133 : decode cX9_putDown 133 = .ok (.lconst 0, 1) := by decide +kernel
theorem dX9_putDown_134 : decode cX9_putDown 134 = .ok (.lor, 1) := by decide +kernel
theorem dX9_putDown_135 : decode cX9_putDown 135 = .ok (.lstore 8, 2) := by decide +kernel
theorem dX9_putDown_137 : decode cX9_putDown 137 = .ok (.iinc 10 1, 3) := by decide +kernel
theorem dX9_putDown_140 : decode cX9_putDown 140 = .ok (.goto (-107), 3) := by decide +kernel
theorem dX9_putDown_143 : decode cX9_putDown 143 = .ok (.lload 8, 2) := by decide +kernel
theorem dX9_putDown_145 : decode cX9_putDown 145 = .ok (.lstore 5, 2) := by decide +kernel
theorem dX9_putDown_147 : decode cX9_putDown 147 = .ok (.iinc 7 1, 3) := by decide +kernel
theorem dX9_putDown_150 : decode cX9_putDown 150 = .ok (.goto (-136), 3) := by decide +kernel
theorem dX9_putDown_153 : decode cX9_putDown 153 = .ok (.aload_n 0, 1) := by decide +kernel
theorem dX9_putDown_154 : decode cX9_putDown 154 = .ok (.lload 5, 2) := by decide +kernel
theorem dX9_putDown_156 : decode cX9_putDown 156 = .ok (.invokevirtual 145, 3) := by decide +kernel
theorem dX9_putDown_159 : decode cX9_putDown 159 = .ok (.lload 5, 2) := by decide +kernel
theorem dX9_putDown_161 : decode cX9_putDown 161 = .ok (.bipush 8, 2) := by decide +kernel
theorem dX9_putDown_163 : decode cX9_putDown 163 = .ok (.aload_n 0, 1) := by decide +kernel
theorem dX9_putDown_164 : decode cX9_putDown 164 = .ok (.getfield 23, 3) := by decide +kernel
theorem dX9_putDown_167 : decode cX9_putDown 167 = .ok (.iconst 2, 1) := by decide +kernel
theorem dX9_putDown_168 : decode cX9_putDown 168 = .ok (.iaload, 1) := by decide +kernel
theorem dX9_putDown_169 : decode cX9_putDown 169 = .ok (.imul, 1) := by decide +kernel
theorem dX9_putDown_170 : decode cX9_putDown 170 = .ok (.aload_n 0, 1) := by decide +kernel
theorem dX9_putDown_171 : decode cX9_putDown 171 = .ok (.getfield 23, 3) := by decide +kernel
theorem dX9_putDown_174 : decode cX9_putDown 174 = .ok (.iconst 0, 1) := by decide +kernel
theorem dX9_putDown_175 : decode cX9_putDown 175 = .ok (.iaload, 1) := by decide +kernel
theorem dX9_putDown_176 : decode cX9_putDown 176 = .ok (.iadd, 1) := by decide +kernel
theorem dX9_putDown_177 : decode cX9_putDown 177 = .ok (.lushr, 1) := by decide +kernel
theorem dX9_putDown_178 : decode cX9_putDown 178 = .ok (.lreturn, 1) := by decide +kernel
theorem dX9_turn_0 : decode cX9_turn 0 = .ok (.iload_n 3, 1) := by decide +kernel
theorem dX9_turn_1 : decode cX9_turn 1 = .ok (.invokestatic 125, 3) := by decide +kernel
theorem dX9_turn_4 : decode cX9_turn 4 = .ok (.ifCond .ne 5, 3) := by decide +kernel
theorem dX9_turn_7 : decode cX9_turn 7 = .ok (.iconst (-1), 1) := by decide +kernel
theorem dX9_turn_8 : decode cX9_turn 8 = .ok (.ireturn, 1) := by decide +kernel
theorem dX9_turn_9 : decode cX9_turn 9 = .ok (.aload_n 0, 1) := by decide +kernel
theorem dX9_turn_10 : decode cX9_turn 10 = .ok (.iload_n 1, 1) := by decide +kernel
theorem dX9_turn_11 : decode cX9_turn 11 = .ok (.invokevirtual 160, 3) := by decide +kernel
theorem dX9_turn_14 : decode cX9_turn 14 = .ok (.istore 4, 2) := by decide +kernel
theorem dX9_turn_16 : decode cX9_turn 16 = .ok (.iload 4, 2) := by decide +kernel
theorem dX9_turn_18 : decode cX9_turn 18 = .ok (.ifCond .ge 6, 3) := by decide +kernel
theorem dX9_turn_21 : decode cX9_turn 21 = .ok (.iload 4, 2) := by decide +kernel
theorem dX9_turn_23 : decode cX9_turn 23 = .ok (.ireturn, 1) := by decide +kernel
theorem dX9_turn_24 : decode cX9_turn 24 = .ok (.aload_n 0, 1) := by decide +kernel
theorem dX9_turn_25 : decode cX9_turn 25 = .ok (.iload_n 3, 1) := by decide +kernel
theorem dX9_turn_26 : decode cX9_turn 26 = .ok (.aload_n 0, 1) := by decide +kernel
theorem dX9_turn_27 : decode cX9_turn 27 = .ok (.aload_n 0, 1) := by decide +kernel
theorem dX9_turn_28 : decode cX9_turn 28 = .ok (.getfield 13, 3) := by decide +kernel
theorem dX9_turn_31 : decode cX9_turn 31 = .ok (.iload_n 1, 1) := by decide +kernel
theorem dX9_turn_32 : decode cX9_turn 32 = .ok (.laload, 1) := by decide +kernel
theorem dX9_turn_33 : decode cX9_turn 33 = .ok (.iload_n 2, 1) := by decide +kernel
theorem dX9_turn_34 : decode cX9_turn 34 = .ok (.iload_n 2, 1) := by decide +kernel
theorem dX9_turn_35 : decode cX9_turn 35 = .ok (.ifCond .eq 7, 3) := by decide +kernel
theorem dX9_turn_38 : decode cX9_turn 38 = .ok (.iconst 0, 1) := by decide +kernel
theorem dX9_turn_39 : decode cX9_turn 39 = .ok (.goto 4, 3) := by decide +kernel
theorem dX9_turn_42 : decode cX9_turn 42 = .ok (.iconst 1, 1) := by decide +kernel
theorem dX9_turn_43 : decode cX9_turn 43 = .ok (.invokevirtual 170, 3) := by decide +kernel
theorem dX9_turn_46 : decode cX9_turn 46 = .ok (.invokevirtual 156, 3) := by decide +kernel
theorem dX9_turn_49 : decode cX9_turn 49 = .ok (.iconst 1, 1) := by decide +kernel
theorem dX9_turn_50 : decode cX9_turn 50 = .ok (.ireturn, 1) := by decide +kernel
theorem dX9_alike_0 : decode cX9_alike 0 = .ok (.iload_n 1, 1) := by decide +kernel
theorem dX9_alike_1 : decode cX9_alike 1 = .ok (.invokestatic 125, 3) := by decide +kernel
theorem dX9_alike_4 : decode cX9_alike 4 = .ok (.ifCond .eq 10, 3) := by decide +kernel
theorem dX9_alike_7 : decode cX9_alike 7 = .ok (.iload_n 2, 1) := by decide +kernel
theorem dX9_alike_8 : decode cX9_alike 8 = .ok (.invokestatic 125, 3) := by decide +kernel
theorem dX9_alike_11 : decode cX9_alike 11 = .ok (.ifCond .ne 5, 3) := by decide +kernel
theorem dX9_alike_14 : decode cX9_alike 14 = .ok (.iconst (-1), 1) := by decide +kernel
theorem dX9_alike_15 : decode cX9_alike 15 = .ok (.ireturn, 1) := by decide +kernel
theorem dX9_alike_16 : decode cX9_alike 16 = .ok (.aload_n 0, 1) := by decide +kernel
theorem dX9_alike_17 : decode cX9_alike 17 = .ok (.getfield 13, 3) := by decide +kernel
theorem dX9_alike_20 : decode cX9_alike 20 = .ok (.iload_n 1, 1) := by decide +kernel
theorem dX9_alike_21 : decode cX9_alike 21 = .ok (.laload, 1) := by decide +kernel
theorem dX9_alike_22 : decode cX9_alike 22 = .ok (.lconst 0, 1) := by decide +kernel
theorem dX9_alike_23 : decode cX9_alike 23 = .ok (.lcmp, 1) := by decide +kernel
theorem dX9_alike_24 : decode cX9_alike 24 = .ok (.ifCond .eq 14, 3) := by decide +kernel
theorem dX9_alike_27 : decode cX9_alike 27 = .ok (.aload_n 0, 1) := by decide +kernel
theorem dX9_alike_28 : decode cX9_alike 28 = .ok (.getfield 13, 3) := by decide +kernel
theorem dX9_alike_31 : decode cX9_alike 31 = .ok (.iload_n 2, 1) := by decide +kernel
theorem dX9_alike_32 : decode cX9_alike 32 = .ok (.laload, 1) := by decide +kernel
theorem dX9_alike_33 : decode cX9_alike 33 = .ok (.lconst 0, 1) := by decide +kernel
theorem dX9_alike_34 : decode cX9_alike 34 = .ok (.lcmp, 1) := by decide +kernel
theorem dX9_alike_35 : decode cX9_alike 35 = .ok (.ifCond .ne 9, 3) := by decide +kernel
theorem dX9_alike_38 : decode cX9_alike 38 = .ok (.aload_n 0, 1) := by decide +kernel
theorem dX9_alike_39 : decode cX9_alike 39 = .ok (.iconst 1, 1) := by decide +kernel
theorem dX9_alike_40 : decode cX9_alike 40 = .ok (.invokevirtual 129, 3) := by decide +kernel
theorem dX9_alike_43 : decode cX9_alike 43 = .ok (.ireturn, 1) := by decide +kernel
theorem dX9_alike_44 : decode cX9_alike 44 = .ok (.aload_n 0, 1) := by decide +kernel
theorem dX9_alike_45 : decode cX9_alike 45 = .ok (.aload_n 0, 1) := by decide +kernel
theorem dX9_alike_46 : decode cX9_alike 46 = .ok (.getfield 13, 3) := by decide +kernel
theorem dX9_alike_49 : decode cX9_alike 49 = .ok (.iload_n 2, 1) := by decide +kernel
theorem dX9_alike_50 : decode cX9_alike 50 = .ok (.laload, 1) := by decide +kernel
theorem dX9_alike_51 : decode cX9_alike 51 = .ok (.iconst 0, 1) := by decide +kernel
theorem dX9_alike_52 : decode cX9_alike 52 = .ok (.iconst 0, 1) := by decide +kernel
theorem dX9_alike_53 : decode cX9_alike 53 = .ok (.invokevirtual 170, 3) := by decide +kernel
theorem dX9_alike_56 : decode cX9_alike 56 = .ok (.lstore_n 3, 1) := by decide +kernel
theorem dX9_alike_57 : decode cX9_alike 57 = .ok (.iconst 0, 1) := by decide +kernel
theorem dX9_alike_58 : decode cX9_alike 58 = .ok (.istore 5, 2) := by decide +kernel
theorem dX9_alike_60 : decode cX9_alike 60 = .ok (.iconst 0, 1) := by decide +kernel
theorem dX9_alike_61 : decode cX9_alike 61 = .ok (.istore 6, 2) := by decide +kernel
theorem dX9_alike_63 : decode cX9_alike 63 = .ok (.iload 6, 2) := by decide +kernel
theorem dX9_alike_65 : decode cX9_alike 65 = .ok (.bipush 8, 2) := by decide +kernel
theorem dX9_alike_67 : decode cX9_alike 67 = .ok (.if_icmp .ge 51, 3) := by decide +kernel
theorem dX9_alike_70 : decode cX9_alike 70 = .ok (.iload 5, 2) := by decide +kernel
theorem dX9_alike_72 : decode cX9_alike 72 = .ok (.ifCond .ne 33, 3) := by decide +kernel
theorem dX9_alike_75 : decode cX9_alike 75 = .ok (.aload_n 0, 1) := by decide +kernel
theorem dX9_alike_76 : decode cX9_alike 76 = .ok (.aload_n 0, 1) := by decide +kernel
theorem dX9_alike_77 : decode cX9_alike 77 = .ok (.getfield 13, 3) := by decide +kernel
theorem dX9_alike_80 : decode cX9_alike 80 = .ok (.iload_n 1, 1) := by decide +kernel
theorem dX9_alike_81 : decode cX9_alike 81 = .ok (.laload, 1) := by decide +kernel
theorem dX9_alike_82 : decode cX9_alike 82 = .ok (.iload 6, 2) := by decide +kernel
theorem dX9_alike_84 : decode cX9_alike 84 = .ok (.iconst 3, 1) := by decide +kernel
theorem dX9_alike_85 : decode cX9_alike 85 = .ok (.if_icmp .le 7, 3) := by decide +kernel
theorem dX9_alike_88 : decode cX9_alike 88 = .ok (.iconst 1, 1) := by decide +kernel
theorem dX9_alike_89 : decode cX9_alike 89 = .ok (.goto 4, 3) := by decide +kernel
theorem dX9_alike_92 : decode cX9_alike 92 = .ok (.iconst 0, 1) := by decide +kernel
theorem dX9_alike_93 : decode cX9_alike 93 = .ok (.iload 6, 2) := by decide +kernel
theorem dX9_alike_95 : decode cX9_alike 95 = .ok (.iconst 4, 1) := by decide +kernel
theorem dX9_alike_96 : decode cX9_alike 96 = .ok (.irem, 1) := by decide +kernel
theorem dX9_alike_97 : decode cX9_alike 97 = .ok (.invokevirtual 170, 3) := by decide +kernel
theorem dX9_alike_100 : decode cX9_alike 100 = .ok (.lload_n 3, 1) := by decide +kernel
theorem dX9_alike_101 : decode cX9_alike 101 = .ok (.lcmp, 1) := by decide +kernel
theorem dX9_alike_102 : decode cX9_alike 102 = .ok (.ifCond .ne 7, 3) := by decide +kernel
theorem dX9_alike_105 : decode cX9_alike 105 = .ok (.iconst 1, 1) := by decide +kernel
theorem dX9_alike_106 : decode cX9_alike 106 = .ok (.goto 4, 3) := by decide +kernel
theorem dX9_alike_109 : decode cX9_alike 109 = .ok (.iconst 0, 1) := by decide +kernel
theorem dX9_alike_110 : decode cX9_alike 110 = .ok (.istore 5, 2) := by decide +kernel
theorem dX9_alike_112 : decode cX9_alike 112 = .ok (.iinc 6 1, 3) := by decide +kernel
theorem dX9_alike_115 : decode cX9_alike 115 = .ok (.goto (-52), 3) := by decide +kernel
theorem dX9_alike_118 : decode cX9_alike 118 = .ok (.iload 5, 2) := by decide +kernel
theorem dX9_alike_120 : decode cX9_alike 120 = .ok (.ifCond .eq 7, 3) := by decide +kernel
theorem dX9_alike_123 : decode cX9_alike 123 = .ok (.iconst 1, 1) := by decide +kernel
theorem dX9_alike_124 : decode cX9_alike 124 = .ok (.goto 4, 3) := by decide +kernel
theorem dX9_alike_127 : decode cX9_alike 127 = .ok (.iconst 0, 1) := by decide +kernel
theorem dX9_alike_128 : decode cX9_alike 128 = .ok (.ireturn, 1) := by decide +kernel
theorem dX9_lookedBox_0 : decode cX9_lookedBox 0 = .ok (.iload_n 1, 1) := by decide +kernel
theorem dX9_lookedBox_1 : decode cX9_lookedBox 1 = .ok (.invokestatic 174, 3) := by decide +kernel
theorem dX9_lookedBox_4 : decode cX9_lookedBox 4 = .ok (.ifCond .ne 7, 3) := by decide +kernel
theorem dX9_lookedBox_7 : decode cX9_lookedBox 7 = .ok (.iconst (-1), 1) := by decide +kernel
theorem dX9_lookedBox_8 : decode cX9_lookedBox 8 = .ok (.goto 23, 3) := by decide +kernel
theorem dX9_lookedBox_11 : decode cX9_lookedBox 11 = .ok (.aload_n 0, 1) := by decide +kernel
theorem dX9_lookedBox_12 : decode cX9_lookedBox 12 = .ok (.getfield 26, 3) := by decide +kernel
theorem dX9_lookedBox_15 : decode cX9_lookedBox 15 = .ok (.iconst 3, 1) := by decide +kernel
theorem dX9_lookedBox_16 : decode cX9_lookedBox 16 = .ok (.iload_n 1, 1) := by decide +kernel
theorem dX9_lookedBox_17 : decode cX9_lookedBox 17 = .ok (.imul, 1) := by decide +kernel
theorem dX9_lookedBox_18 : decode cX9_lookedBox 18 = .ok (.iaload, 1) := by decide +kernel
theorem dX9_lookedBox_19 : decode cX9_lookedBox 19 = .ok (.ifCond .ne 11, 3) := by decide +kernel
theorem dX9_lookedBox_22 : decode cX9_lookedBox 22 = .ok (.aload_n 0, 1) := by decide +kernel
theorem dX9_lookedBox_23 : decode cX9_lookedBox 23 = .ok (.iconst 1, 1) := by decide +kernel
theorem dX9_lookedBox_24 : decode cX9_lookedBox 24 = .ok (.invokevirtual 129, 3) := by decide +kernel
theorem dX9_lookedBox_27 : decode cX9_lookedBox 27 = .ok (.goto 4, 3) := by decide +kernel
theorem dX9_lookedBox_30 : decode cX9_lookedBox 30 = .ok (.iconst 0, 1) := by decide +kernel
theorem dX9_lookedBox_31 : decode cX9_lookedBox 31 = .ok (.ireturn, 1) := by decide +kernel
theorem dX9_cellsOf_0 : decode cX9_cellsOf 0 = .ok (.iconst 2, 1) := by decide +kernel
theorem dX9_cellsOf_1 : decode cX9_cellsOf 1 = .ok (.iload_n 0, 1) := by decide +kernel
theorem dX9_cellsOf_2 : decode cX9_cellsOf 2 = .ok (.iload_n 1, 1) := by decide +kernel
theorem dX9_cellsOf_3 : decode cX9_cellsOf 3 = .ok (.imul, 1) := by decide +kernel
theorem dX9_cellsOf_4 : decode cX9_cellsOf 4 = .ok (.iload_n 1, 1) := by decide +kernel
theorem dX9_cellsOf_5 : decode cX9_cellsOf 5 = .ok (.iload_n 2, 1) := by decide +kernel
theorem dX9_cellsOf_6 : decode cX9_cellsOf 6 = .ok (.imul, 1) := by decide +kernel
theorem dX9_cellsOf_7 : decode cX9_cellsOf 7 = .ok (.iadd, 1) := by decide +kernel
theorem dX9_cellsOf_8 : decode cX9_cellsOf 8 = .ok (.iload_n 2, 1) := by decide +kernel
theorem dX9_cellsOf_9 : decode cX9_cellsOf 9 = .ok (.iload_n 0, 1) := by decide +kernel
theorem dX9_cellsOf_10 : decode cX9_cellsOf 10 = .ok (.imul, 1) := by decide +kernel
theorem dX9_cellsOf_11 : decode cX9_cellsOf 11 = .ok (.iadd, 1) := by decide +kernel
theorem dX9_cellsOf_12 : decode cX9_cellsOf 12 = .ok (.imul, 1) := by decide +kernel
theorem dX9_cellsOf_13 : decode cX9_cellsOf 13 = .ok (.ireturn, 1) := by decide +kernel
theorem dX9_cells_0 : decode cX9_cells 0 = .ok (.aload_n 0, 1) := by decide +kernel
theorem dX9_cells_1 : decode cX9_cells 1 = .ok (.getfield 26, 3) := by decide +kernel
theorem dX9_cells_4 : decode cX9_cells 4 = .ok (.iconst 3, 1) := by decide +kernel
theorem dX9_cells_5 : decode cX9_cells 5 = .ok (.iload_n 1, 1) := by decide +kernel
theorem dX9_cells_6 : decode cX9_cells 6 = .ok (.imul, 1) := by decide +kernel
theorem dX9_cells_7 : decode cX9_cells 7 = .ok (.iaload, 1) := by decide +kernel
theorem dX9_cells_8 : decode cX9_cells 8 = .ok (.aload_n 0, 1) := by decide +kernel
theorem dX9_cells_9 : decode cX9_cells 9 = .ok (.getfield 26, 3) := by decide +kernel
theorem dX9_cells_12 : decode cX9_cells 12 = .ok (.iconst 3, 1) := by decide +kernel
theorem dX9_cells_13 : decode cX9_cells 13 = .ok (.iload_n 1, 1) := by decide +kernel
theorem dX9_cells_14 : decode cX9_cells 14 = .ok (.imul, 1) := by decide +kernel
theorem dX9_cells_15 : decode cX9_cells 15 = .ok (.iconst 1, 1) := by decide +kernel
theorem dX9_cells_16 : decode cX9_cells 16 = .ok (.iadd, 1) := by decide +kernel
theorem dX9_cells_17 : decode cX9_cells 17 = .ok (.iaload, 1) := by decide +kernel
theorem dX9_cells_18 : decode cX9_cells 18 = .ok (.aload_n 0, 1) := by decide +kernel
theorem dX9_cells_19 : decode cX9_cells 19 = .ok (.getfield 26, 3) := by decide +kernel
theorem dX9_cells_22 : decode cX9_cells 22 = .ok (.iconst 3, 1) := by decide +kernel
theorem dX9_cells_23 : decode cX9_cells 23 = .ok (.iload_n 1, 1) := by decide +kernel
theorem dX9_cells_24 : decode cX9_cells 24 = .ok (.imul, 1) := by decide +kernel
theorem dX9_cells_25 : decode cX9_cells 25 = .ok (.iconst 2, 1) := by decide +kernel
theorem dX9_cells_26 : decode cX9_cells 26 = .ok (.iadd, 1) := by decide +kernel
theorem dX9_cells_27 : decode cX9_cells 27 = .ok (.iaload, 1) := by decide +kernel
theorem dX9_cells_28 : decode cX9_cells 28 = .ok (.invokestatic 177, 3) := by decide +kernel
theorem dX9_cells_31 : decode cX9_cells 31 = .ok (.ireturn, 1) := by decide +kernel
theorem dX9_box_0 : decode cX9_box 0 = .ok (.iload_n 1, 1) := by decide +kernel
theorem dX9_box_1 : decode cX9_box 1 = .ok (.invokestatic 174, 3) := by decide +kernel
theorem dX9_box_4 : decode cX9_box 4 = .ok (.ifCond .eq 43, 3) := by decide +kernel
theorem dX9_box_7 : decode cX9_box 7 = .ok (.iload_n 2, 1) := by decide +kernel
theorem dX9_box_8 : decode cX9_box 8 = .ok (.iconst 1, 1) := by decide +kernel
theorem dX9_box_9 : decode cX9_box 9 = .ok (.iconst 5, 1) := by decide +kernel
theorem dX9_box_10 : decode cX9_box 10 = .ok (.invokestatic 121, 3) := by decide +kernel
theorem dX9_box_13 : decode cX9_box 13 = .ok (.ifCond .eq 34, 3) := by decide +kernel
theorem dX9_box_16 : decode cX9_box 16 = .ok (.iload_n 3, 1) := by decide +kernel
theorem dX9_box_17 : decode cX9_box 17 = .ok (.iconst 1, 1) := by decide +kernel
theorem dX9_box_18 : decode cX9_box 18 = .ok (.iconst 5, 1) := by decide +kernel
theorem dX9_box_19 : decode cX9_box 19 = .ok (.invokestatic 121, 3) := by decide +kernel
theorem dX9_box_22 : decode cX9_box 22 = .ok (.ifCond .eq 25, 3) := by decide +kernel
theorem dX9_box_25 : decode cX9_box 25 = .ok (.iload 4, 2) := by decide +kernel
theorem dX9_box_27 : decode cX9_box 27 = .ok (.iconst 1, 1) := by decide +kernel
theorem dX9_box_28 : decode cX9_box 28 = .ok (.iconst 5, 1) := by decide +kernel
theorem dX9_box_29 : decode cX9_box 29 = .ok (.invokestatic 121, 3) := by decide +kernel
theorem dX9_box_32 : decode cX9_box 32 = .ok (.ifCond .eq 15, 3) := by decide +kernel
theorem dX9_box_35 : decode cX9_box 35 = .ok (.iload_n 2, 1) := by decide +kernel
theorem dX9_box_36 : decode cX9_box 36 = .ok (.iload_n 3, 1) := by decide +kernel
theorem dX9_box_37 : decode cX9_box 37 = .ok (.iload 4, 2) := by decide +kernel
theorem dX9_box_39 : decode cX9_box 39 = .ok (.invokestatic 177, 3) := by decide +kernel
theorem dX9_box_42 : decode cX9_box 42 = .ok (.bipush 24, 2) := by decide +kernel
theorem dX9_box_44 : decode cX9_box 44 = .ok (.if_icmp .le 5, 3) := by decide +kernel
theorem dX9_box_47 : decode cX9_box 47 = .ok (.iconst (-1), 1) := by decide +kernel
theorem dX9_box_48 : decode cX9_box 48 = .ok (.ireturn, 1) := by decide +kernel
theorem dX9_box_49 : decode cX9_box 49 = .ok (.aload_n 0, 1) := by decide +kernel
theorem dX9_box_50 : decode cX9_box 50 = .ok (.getfield 26, 3) := by decide +kernel
theorem dX9_box_53 : decode cX9_box 53 = .ok (.iconst 3, 1) := by decide +kernel
theorem dX9_box_54 : decode cX9_box 54 = .ok (.iload_n 1, 1) := by decide +kernel
theorem dX9_box_55 : decode cX9_box 55 = .ok (.imul, 1) := by decide +kernel
theorem dX9_box_56 : decode cX9_box 56 = .ok (.iload_n 2, 1) := by decide +kernel
theorem dX9_box_57 : decode cX9_box 57 = .ok (.iastore, 1) := by decide +kernel
theorem dX9_box_58 : decode cX9_box 58 = .ok (.aload_n 0, 1) := by decide +kernel
theorem dX9_box_59 : decode cX9_box 59 = .ok (.getfield 26, 3) := by decide +kernel
theorem dX9_box_62 : decode cX9_box 62 = .ok (.iconst 3, 1) := by decide +kernel
theorem dX9_box_63 : decode cX9_box 63 = .ok (.iload_n 1, 1) := by decide +kernel
theorem dX9_box_64 : decode cX9_box 64 = .ok (.imul, 1) := by decide +kernel
theorem dX9_box_65 : decode cX9_box 65 = .ok (.iconst 1, 1) := by decide +kernel
theorem dX9_box_66 : decode cX9_box 66 = .ok (.iadd, 1) := by decide +kernel
theorem dX9_box_67 : decode cX9_box 67 = .ok (.iload_n 3, 1) := by decide +kernel
theorem dX9_box_68 : decode cX9_box 68 = .ok (.iastore, 1) := by decide +kernel
theorem dX9_box_69 : decode cX9_box 69 = .ok (.aload_n 0, 1) := by decide +kernel
theorem dX9_box_70 : decode cX9_box 70 = .ok (.getfield 26, 3) := by decide +kernel
theorem dX9_box_73 : decode cX9_box 73 = .ok (.iconst 3, 1) := by decide +kernel
theorem dX9_box_74 : decode cX9_box 74 = .ok (.iload_n 1, 1) := by decide +kernel
theorem dX9_box_75 : decode cX9_box 75 = .ok (.imul, 1) := by decide +kernel
theorem dX9_box_76 : decode cX9_box 76 = .ok (.iconst 2, 1) := by decide +kernel
theorem dX9_box_77 : decode cX9_box 77 = .ok (.iadd, 1) := by decide +kernel
theorem dX9_box_78 : decode cX9_box 78 = .ok (.iload 4, 2) := by decide +kernel
theorem dX9_box_80 : decode cX9_box 80 = .ok (.iastore, 1) := by decide +kernel
theorem dX9_box_81 : decode cX9_box 81 = .ok (.aload_n 0, 1) := by decide +kernel
theorem dX9_box_82 : decode cX9_box 82 = .ok (.iload_n 1, 1) := by decide +kernel
theorem dX9_box_83 : decode cX9_box 83 = .ok (.invokevirtual 181, 3) := by decide +kernel
theorem dX9_box_86 : decode cX9_box 86 = .ok (.ireturn, 1) := by decide +kernel
theorem dX9_sign_0 : decode cX9_sign 0 = .ok (.iload_n 0, 1) := by decide +kernel
theorem dX9_sign_1 : decode cX9_sign 1 = .ok (.iconst 2, 1) := by decide +kernel
theorem dX9_sign_2 : decode cX9_sign 2 = .ok (.irem, 1) := by decide +kernel
theorem dX9_sign_3 : decode cX9_sign 3 = .ok (.ifCond .ne 7, 3) := by decide +kernel
theorem dX9_sign_6 : decode cX9_sign 6 = .ok (.iconst 1, 1) := by decide +kernel
theorem dX9_sign_7 : decode cX9_sign 7 = .ok (.goto 4, 3) := by decide +kernel
theorem dX9_sign_10 : decode cX9_sign 10 = .ok (.iconst (-1), 1) := by decide +kernel
theorem dX9_sign_11 : decode cX9_sign 11 = .ok (.ireturn, 1) := by decide +kernel
theorem dX9_cross_0 : decode cX9_cross 0 = .ok (.iconst 3, 1) := by decide +kernel
theorem dX9_cross_1 : decode cX9_cross 1 = .ok (.iload_n 0, 1) := by decide +kernel
theorem dX9_cross_2 : decode cX9_cross 2 = .ok (.iconst 2, 1) := by decide +kernel
theorem dX9_cross_3 : decode cX9_cross 3 = .ok (.idiv, 1) := by decide +kernel
theorem dX9_cross_4 : decode cX9_cross 4 = .ok (.isub, 1) := by decide +kernel
theorem dX9_cross_5 : decode cX9_cross 5 = .ok (.iload_n 1, 1) := by decide +kernel
theorem dX9_cross_6 : decode cX9_cross 6 = .ok (.iconst 2, 1) := by decide +kernel
theorem dX9_cross_7 : decode cX9_cross 7 = .ok (.idiv, 1) := by decide +kernel
theorem dX9_cross_8 : decode cX9_cross 8 = .ok (.isub, 1) := by decide +kernel
theorem dX9_cross_9 : decode cX9_cross 9 = .ok (.istore_n 2, 1) := by decide +kernel
theorem dX9_cross_10 : decode cX9_cross 10 = .ok (.iload_n 0, 1) := by decide +kernel
theorem dX9_cross_11 : decode cX9_cross 11 = .ok (.iconst 2, 1) := by decide +kernel
theorem dX9_cross_12 : decode cX9_cross 12 = .ok (.idiv, 1) := by decide +kernel
theorem dX9_cross_13 : decode cX9_cross 13 = .ok (.iconst 1, 1) := by decide +kernel
theorem dX9_cross_14 : decode cX9_cross 14 = .ok (.iadd, 1) := by decide +kernel
theorem dX9_cross_15 : decode cX9_cross 15 = .ok (.iconst 3, 1) := by decide +kernel
theorem dX9_cross_16 : decode cX9_cross 16 = .ok (.irem, 1) := by decide +kernel
theorem dX9_cross_17 : decode cX9_cross 17 = .ok (.iload_n 1, 1) := by decide +kernel
theorem dX9_cross_18 : decode cX9_cross 18 = .ok (.iconst 2, 1) := by decide +kernel
theorem dX9_cross_19 : decode cX9_cross 19 = .ok (.idiv, 1) := by decide +kernel
theorem dX9_cross_20 : decode cX9_cross 20 = .ok (.if_icmp .ne 7, 3) := by decide +kernel
theorem dX9_cross_23 : decode cX9_cross 23 = .ok (.iconst 1, 1) := by decide +kernel
theorem dX9_cross_24 : decode cX9_cross 24 = .ok (.goto 4, 3) := by decide +kernel
theorem dX9_cross_27 : decode cX9_cross 27 = .ok (.iconst 0, 1) := by decide +kernel
theorem dX9_cross_28 : decode cX9_cross 28 = .ok (.istore_n 3, 1) := by decide +kernel
theorem dX9_cross_29 : decode cX9_cross 29 = .ok (.iconst 2, 1) := by decide +kernel
theorem dX9_cross_30 : decode cX9_cross 30 = .ok (.iload_n 2, 1) := by decide +kernel
theorem dX9_cross_31 : decode cX9_cross 31 = .ok (.imul, 1) := by decide +kernel
theorem dX9_cross_32 : decode cX9_cross 32 = .ok (.iload_n 0, 1) := by decide +kernel
theorem dX9_cross_33 : decode cX9_cross 33 = .ok (.invokestatic 184, 3) := by decide +kernel
theorem dX9_cross_36 : decode cX9_cross 36 = .ok (.iload_n 1, 1) := by decide +kernel
theorem dX9_cross_37 : decode cX9_cross 37 = .ok (.invokestatic 184, 3) := by decide +kernel
theorem dX9_cross_40 : decode cX9_cross 40 = .ok (.imul, 1) := by decide +kernel
theorem dX9_cross_41 : decode cX9_cross 41 = .ok (.iload_n 3, 1) := by decide +kernel
theorem dX9_cross_42 : decode cX9_cross 42 = .ok (.ifCond .eq 7, 3) := by decide +kernel
theorem dX9_cross_45 : decode cX9_cross 45 = .ok (.iconst 1, 1) := by decide +kernel
theorem dX9_cross_46 : decode cX9_cross 46 = .ok (.goto 4, 3) := by decide +kernel
theorem dX9_cross_49 : decode cX9_cross 49 = .ok (.iconst (-1), 1) := by decide +kernel
theorem dX9_cross_50 : decode cX9_cross 50 = .ok (.imul, 1) := by decide +kernel
theorem dX9_cross_51 : decode cX9_cross 51 = .ok (.ifCond .le 7, 3) := by decide +kernel
theorem dX9_cross_54 : decode cX9_cross 54 = .ok (.iconst 0, 1) := by decide +kernel
theorem dX9_cross_55 : decode cX9_cross 55 = .ok (.goto 4, 3) := by decide +kernel
theorem dX9_cross_58 : decode cX9_cross 58 = .ok (.iconst 1, 1) := by decide +kernel
theorem dX9_cross_59 : decode cX9_cross 59 = .ok (.iadd, 1) := by decide +kernel
theorem dX9_cross_60 : decode cX9_cross 60 = .ok (.ireturn, 1) := by decide +kernel
theorem dX9_baseUp_0 : decode cX9_baseUp 0 = .ok (.iload_n 0, 1) := by decide +kernel
theorem dX9_baseUp_1 : decode cX9_baseUp 1 = .ok (.iconst 3, 1) := by decide +kernel
theorem dX9_baseUp_2 : decode cX9_baseUp 2 = .ok (.if_icmp .le 7, 3) := by decide +kernel
theorem dX9_baseUp_5 : decode cX9_baseUp 5 = .ok (.iconst 2, 1) := by decide +kernel
theorem dX9_baseUp_6 : decode cX9_baseUp 6 = .ok (.goto 4, 3) := by decide +kernel
theorem dX9_baseUp_9 : decode cX9_baseUp 9 = .ok (.iconst 4, 1) := by decide +kernel
theorem dX9_baseUp_10 : decode cX9_baseUp 10 = .ok (.ireturn, 1) := by decide +kernel
theorem dX9_baseRight_0 : decode cX9_baseRight 0 = .ok (.iload_n 0, 1) := by decide +kernel
theorem dX9_baseRight_1 : decode cX9_baseRight 1 = .ok (.invokestatic 187, 3) := by decide +kernel
theorem dX9_baseRight_4 : decode cX9_baseRight 4 = .ok (.iload_n 0, 1) := by decide +kernel
theorem dX9_baseRight_5 : decode cX9_baseRight 5 = .ok (.iconst 1, 1) := by decide +kernel
theorem dX9_baseRight_6 : decode cX9_baseRight 6 = .ok (.ixor, 1) := by decide +kernel
theorem dX9_baseRight_7 : decode cX9_baseRight 7 = .ok (.invokestatic 190, 3) := by decide +kernel
theorem dX9_baseRight_10 : decode cX9_baseRight 10 = .ok (.ireturn, 1) := by decide +kernel
theorem dX9_setFrame_0 : decode cX9_setFrame 0 = .ok (.aload_n 0, 1) := by decide +kernel
theorem dX9_setFrame_1 : decode cX9_setFrame 1 = .ok (.aload_n 0, 1) := by decide +kernel
theorem dX9_setFrame_2 : decode cX9_setFrame 2 = .ok (.getfield 193, 3) := by decide +kernel
theorem dX9_setFrame_5 : decode cX9_setFrame 5 = .ok (.invokestatic 196, 3) := by decide +kernel
theorem dX9_setFrame_8 : decode cX9_setFrame 8 = .ok (.putfield 199, 3) := by decide +kernel
theorem dX9_setFrame_11 : decode cX9_setFrame 11 = .ok (.aload_n 0, 1) := by decide +kernel
theorem dX9_setFrame_12 : decode cX9_setFrame 12 = .ok (.aload_n 0, 1) := by decide +kernel
theorem dX9_setFrame_13 : decode cX9_setFrame 13 = .ok (.getfield 193, 3) := by decide +kernel
theorem dX9_setFrame_16 : decode cX9_setFrame 16 = .ok (.invokestatic 187, 3) := by decide +kernel
theorem dX9_setFrame_19 : decode cX9_setFrame 19 = .ok (.putfield 202, 3) := by decide +kernel
theorem dX9_setFrame_22 : decode cX9_setFrame 22 = .ok (.iconst 0, 1) := by decide +kernel
theorem dX9_setFrame_23 : decode cX9_setFrame 23 = .ok (.istore_n 2, 1) := by decide +kernel
theorem dX9_setFrame_24 : decode cX9_setFrame 24 = .ok (.iload_n 2, 1) := by decide +kernel
theorem dX9_setFrame_25 : decode cX9_setFrame 25 = .ok (.iload_n 1, 1) := by decide +kernel
theorem dX9_setFrame_26 : decode cX9_setFrame 26 = .ok (.if_icmp .ge 29, 3) := by decide +kernel
theorem dX9_setFrame_29 : decode cX9_setFrame 29 = .ok (.aload_n 0, 1) := by decide +kernel
theorem dX9_setFrame_30 : decode cX9_setFrame 30 = .ok (.getfield 199, 3) := by decide +kernel
theorem dX9_setFrame_33 : decode cX9_setFrame 33 = .ok (.istore_n 3, 1) := by decide +kernel
theorem dX9_setFrame_34 : decode cX9_setFrame 34 = .ok (.aload_n 0, 1) := by decide +kernel
theorem dX9_setFrame_35 : decode cX9_setFrame 35 = .ok (.aload_n 0, 1) := by decide +kernel
theorem dX9_setFrame_36 : decode cX9_setFrame 36 = .ok (.getfield 202, 3) := by decide +kernel
theorem dX9_setFrame_39 : decode cX9_setFrame 39 = .ok (.putfield 199, 3) := by decide +kernel
theorem dX9_setFrame_42 : decode cX9_setFrame 42 = .ok (.aload_n 0, 1) := by decide +kernel
theorem dX9_setFrame_43 : decode cX9_setFrame 43 = .ok (.iload_n 3, 1) := by decide +kernel
theorem dX9_setFrame_44 : decode cX9_setFrame 44 = .ok (.iconst 1, 1) := by decide +kernel
theorem dX9_setFrame_45 : decode cX9_setFrame 45 = .ok (.ixor, 1) := by decide +kernel
theorem dX9_setFrame_46 : decode cX9_setFrame 46 = .ok (.putfield 202, 3) := by decide +kernel
theorem dX9_setFrame_49 : decode cX9_setFrame 49 = .ok (.iinc 2 1, 3) := by decide +kernel
theorem dX9_setFrame_52 : decode cX9_setFrame 52 = .ok (.goto (-28), 3) := by decide +kernel
theorem dX9_setFrame_55 : decode cX9_setFrame 55 = .ok (.return_, 1) := by decide +kernel
theorem dX9_turnNow_0 : decode cX9_turnNow 0 = .ok (.aload_n 0, 1) := by decide +kernel
theorem dX9_turnNow_1 : decode cX9_turnNow 1 = .ok (.getfield 193, 3) := by decide +kernel
theorem dX9_turnNow_4 : decode cX9_turnNow 4 = .ok (.invokestatic 196, 3) := by decide +kernel
theorem dX9_turnNow_7 : decode cX9_turnNow 7 = .ok (.istore_n 1, 1) := by decide +kernel
theorem dX9_turnNow_8 : decode cX9_turnNow 8 = .ok (.aload_n 0, 1) := by decide +kernel
theorem dX9_turnNow_9 : decode cX9_turnNow 9 = .ok (.getfield 193, 3) := by decide +kernel
theorem dX9_turnNow_12 : decode cX9_turnNow 12 = .ok (.invokestatic 187, 3) := by decide +kernel
theorem dX9_turnNow_15 : decode cX9_turnNow 15 = .ok (.istore_n 2, 1) := by decide +kernel
theorem dX9_turnNow_16 : decode cX9_turnNow 16 = .ok (.aload_n 0, 1) := by decide +kernel
theorem dX9_turnNow_17 : decode cX9_turnNow 17 = .ok (.getfield 202, 3) := by decide +kernel
theorem dX9_turnNow_20 : decode cX9_turnNow 20 = .ok (.iload_n 2, 1) := by decide +kernel
theorem dX9_turnNow_21 : decode cX9_turnNow 21 = .ok (.if_icmp .ne 7, 3) := by decide +kernel
theorem dX9_turnNow_24 : decode cX9_turnNow 24 = .ok (.iconst 0, 1) := by decide +kernel
theorem dX9_turnNow_25 : decode cX9_turnNow 25 = .ok (.goto 32, 3) := by decide +kernel
theorem dX9_turnNow_28 : decode cX9_turnNow 28 = .ok (.aload_n 0, 1) := by decide +kernel
theorem dX9_turnNow_29 : decode cX9_turnNow 29 = .ok (.getfield 202, 3) := by decide +kernel
theorem dX9_turnNow_32 : decode cX9_turnNow 32 = .ok (.iload_n 1, 1) := by decide +kernel
theorem dX9_turnNow_33 : decode cX9_turnNow 33 = .ok (.iconst 1, 1) := by decide +kernel
theorem dX9_turnNow_34 : decode cX9_turnNow 34 = .ok (.ixor, 1) := by decide +kernel
theorem dX9_turnNow_35 : decode cX9_turnNow 35 = .ok (.if_icmp .ne 7, 3) := by decide +kernel
theorem dX9_turnNow_38 : decode cX9_turnNow 38 = .ok (.iconst 1, 1) := by decide +kernel
theorem dX9_turnNow_39 : decode cX9_turnNow 39 = .ok (.goto 18, 3) := by decide +kernel
theorem dX9_turnNow_42 : decode cX9_turnNow 42 = .ok (.aload_n 0, 1) := by decide +kernel
theorem dX9_turnNow_43 : decode cX9_turnNow 43 = .ok (.getfield 202, 3) := by decide +kernel
theorem dX9_turnNow_46 : decode cX9_turnNow 46 = .ok (.iload_n 2, 1) := by decide +kernel
theorem dX9_turnNow_47 : decode cX9_turnNow 47 = .ok (.iconst 1, 1) := by decide +kernel
theorem dX9_turnNow_48 : decode cX9_turnNow 48 = .ok (.ixor, 1) := by decide +kernel
theorem dX9_turnNow_49 : decode cX9_turnNow 49 = .ok (.if_icmp .ne 7, 3) := by decide +kernel
theorem dX9_turnNow_52 : decode cX9_turnNow 52 = .ok (.iconst 2, 1) := by decide +kernel
theorem dX9_turnNow_53 : decode cX9_turnNow 53 = .ok (.goto 4, 3) := by decide +kernel
theorem dX9_turnNow_56 : decode cX9_turnNow 56 = .ok (.iconst 3, 1) := by decide +kernel
theorem dX9_turnNow_57 : decode cX9_turnNow 57 = .ok (.ireturn, 1) := by decide +kernel
theorem dX9_goTo_0 : decode cX9_goTo 0 = .ok (.iload_n 2, 1) := by decide +kernel
theorem dX9_goTo_1 : decode cX9_goTo 1 = .ok (.istore_n 3, 1) := by decide +kernel
theorem dX9_goTo_2 : decode cX9_goTo 2 = .ok (.aload_n 0, 1) := by decide +kernel
theorem dX9_goTo_3 : decode cX9_goTo 3 = .ok (.iconst 0, 1) := by decide +kernel
theorem dX9_goTo_4 : decode cX9_goTo 4 = .ok (.putfield 193, 3) := by decide +kernel
theorem dX9_goTo_7 : decode cX9_goTo 7 = .ok (.iload_n 3, 1) := by decide +kernel
theorem dX9_goTo_8 : decode cX9_goTo 8 = .ok (.aload_n 0, 1) := by decide +kernel
theorem dX9_goTo_9 : decode cX9_goTo 9 = .ok (.iload_n 1, 1) := by decide +kernel
theorem dX9_goTo_10 : decode cX9_goTo 10 = .ok (.aload_n 0, 1) := by decide +kernel
theorem dX9_goTo_11 : decode cX9_goTo 11 = .ok (.getfield 193, 3) := by decide +kernel
theorem dX9_goTo_14 : decode cX9_goTo 14 = .ok (.invokevirtual 205, 3) := by decide +kernel
theorem dX9_goTo_17 : decode cX9_goTo 17 = .ok (.if_icmp .lt 28, 3) := by decide +kernel
theorem dX9_goTo_20 : decode cX9_goTo 20 = .ok (.iload_n 3, 1) := by decide +kernel
theorem dX9_goTo_21 : decode cX9_goTo 21 = .ok (.aload_n 0, 1) := by decide +kernel
theorem dX9_goTo_22 : decode cX9_goTo 22 = .ok (.iload_n 1, 1) := by decide +kernel
theorem dX9_goTo_23 : decode cX9_goTo 23 = .ok (.aload_n 0, 1) := by decide +kernel
theorem dX9_goTo_24 : decode cX9_goTo 24 = .ok (.getfield 193, 3) := by decide +kernel
theorem dX9_goTo_27 : decode cX9_goTo 27 = .ok (.invokevirtual 205, 3) := by decide +kernel
theorem dX9_goTo_30 : decode cX9_goTo 30 = .ok (.isub, 1) := by decide +kernel
theorem dX9_goTo_31 : decode cX9_goTo 31 = .ok (.istore_n 3, 1) := by decide +kernel
theorem dX9_goTo_32 : decode cX9_goTo 32 = .ok (.aload_n 0, 1) := by decide +kernel
theorem dX9_goTo_33 : decode cX9_goTo 33 = .ok (.dup, 1) := by decide +kernel
theorem dX9_goTo_34 : decode cX9_goTo 34 = .ok (.getfield 193, 3) := by decide +kernel
theorem dX9_goTo_37 : decode cX9_goTo 37 = .ok (.iconst 1, 1) := by decide +kernel
theorem dX9_goTo_38 : decode cX9_goTo 38 = .ok (.iadd, 1) := by decide +kernel
theorem dX9_goTo_39 : decode cX9_goTo 39 = .ok (.putfield 193, 3) := by decide +kernel
theorem dX9_goTo_42 : decode cX9_goTo 42 = .ok (.goto (-35), 3) := by decide +kernel
theorem dX9_goTo_45 : decode cX9_goTo 45 = .ok (.aload_n 0, 1) := by decide +kernel
theorem dX9_goTo_46 : decode cX9_goTo 46 = .ok (.getfield 193, 3) := by decide +kernel
theorem dX9_goTo_49 : decode cX9_goTo 49 = .ok (.iconst 2, 1) := by decide +kernel
theorem dX9_goTo_50 : decode cX9_goTo 50 = .ok (.idiv, 1) := by decide +kernel
theorem dX9_goTo_51 : decode cX9_goTo 51 = .ok (.istore 4, 2) := by decide +kernel
theorem dX9_goTo_53 : decode cX9_goTo 53 = .ok (.iload 4, 2) := by decide +kernel
theorem dX9_goTo_55 : decode cX9_goTo 55 = .ok (.ifCond .ne 7, 3) := by decide +kernel
theorem dX9_goTo_58 : decode cX9_goTo 58 = .ok (.iconst 1, 1) := by decide +kernel
theorem dX9_goTo_59 : decode cX9_goTo 59 = .ok (.goto 4, 3) := by decide +kernel
theorem dX9_goTo_62 : decode cX9_goTo 62 = .ok (.iconst 0, 1) := by decide +kernel
theorem dX9_goTo_63 : decode cX9_goTo 63 = .ok (.istore 5, 2) := by decide +kernel
theorem dX9_goTo_65 : decode cX9_goTo 65 = .ok (.iload 4, 2) := by decide +kernel
theorem dX9_goTo_67 : decode cX9_goTo 67 = .ok (.iconst 2, 1) := by decide +kernel
theorem dX9_goTo_68 : decode cX9_goTo 68 = .ok (.if_icmp .ne 7, 3) := by decide +kernel
theorem dX9_goTo_71 : decode cX9_goTo 71 = .ok (.iconst 1, 1) := by decide +kernel
theorem dX9_goTo_72 : decode cX9_goTo 72 = .ok (.goto 4, 3) := by decide +kernel
theorem dX9_goTo_75 : decode cX9_goTo 75 = .ok (.iconst 2, 1) := by decide +kernel
theorem dX9_goTo_76 : decode cX9_goTo 76 = .ok (.istore 6, 2) := by decide +kernel
theorem dX9_goTo_78 : decode cX9_goTo 78 = .ok (.aload_n 0, 1) := by decide +kernel
theorem dX9_goTo_79 : decode cX9_goTo 79 = .ok (.getfield 29, 3) := by decide +kernel
theorem dX9_goTo_82 : decode cX9_goTo 82 = .ok (.iload 4, 2) := by decide +kernel
theorem dX9_goTo_84 : decode cX9_goTo 84 = .ok (.aload_n 0, 1) := by decide +kernel
theorem dX9_goTo_85 : decode cX9_goTo 85 = .ok (.getfield 193, 3) := by decide +kernel
theorem dX9_goTo_88 : decode cX9_goTo 88 = .ok (.iconst 2, 1) := by decide +kernel
theorem dX9_goTo_89 : decode cX9_goTo 89 = .ok (.irem, 1) := by decide +kernel
theorem dX9_goTo_90 : decode cX9_goTo 90 = .ok (.ifCond .ne 7, 3) := by decide +kernel
theorem dX9_goTo_93 : decode cX9_goTo 93 = .ok (.iconst 0, 1) := by decide +kernel
theorem dX9_goTo_94 : decode cX9_goTo 94 = .ok (.goto 16, 3) := by decide +kernel
theorem dX9_goTo_97 : decode cX9_goTo 97 = .ok (.iconst 2, 1) := by decide +kernel
theorem dX9_goTo_98 : decode cX9_goTo 98 = .ok (.aload_n 0, 1) := by decide +kernel
theorem dX9_goTo_99 : decode cX9_goTo 99 = .ok (.getfield 26, 3) := by decide +kernel
theorem dX9_goTo_102 : decode cX9_goTo 102 = .ok (.iconst 3, 1) := by decide +kernel
theorem dX9_goTo_103 : decode cX9_goTo 103 = .ok (.iload_n 1, 1) := by decide +kernel
theorem dX9_goTo_104 : decode cX9_goTo 104 = .ok (.imul, 1) := by decide +kernel
theorem dX9_goTo_105 : decode cX9_goTo 105 = .ok (.iload 4, 2) := by decide +kernel
theorem dX9_goTo_107 : decode cX9_goTo 107 = .ok (.iadd, 1) := by decide +kernel
theorem dX9_goTo_108 : decode cX9_goTo 108 = .ok (.iaload, 1) := by decide +kernel
theorem dX9_goTo_109 : decode cX9_goTo 109 = .ok (.imul, 1) := by decide +kernel
theorem dX9_goTo_110 : decode cX9_goTo 110 = .ok (.iastore, 1) := by decide +kernel
theorem dX9_goTo_111 : decode cX9_goTo 111 = .ok (.aload_n 0, 1) := by decide +kernel
theorem dX9_goTo_112 : decode cX9_goTo 112 = .ok (.getfield 29, 3) := by decide +kernel
theorem dX9_goTo_115 : decode cX9_goTo 115 = .ok (.iload 5, 2) := by decide +kernel
theorem dX9_goTo_117 : decode cX9_goTo 117 = .ok (.iconst 2, 1) := by decide +kernel
theorem dX9_goTo_118 : decode cX9_goTo 118 = .ok (.iload_n 3, 1) := by decide +kernel
theorem dX9_goTo_119 : decode cX9_goTo 119 = .ok (.aload_n 0, 1) := by decide +kernel
theorem dX9_goTo_120 : decode cX9_goTo 120 = .ok (.getfield 26, 3) := by decide +kernel
theorem dX9_goTo_123 : decode cX9_goTo 123 = .ok (.iconst 3, 1) := by decide +kernel
theorem dX9_goTo_124 : decode cX9_goTo 124 = .ok (.iload_n 1, 1) := by decide +kernel
theorem dX9_goTo_125 : decode cX9_goTo 125 = .ok (.imul, 1) := by decide +kernel
theorem dX9_goTo_126 : decode cX9_goTo 126 = .ok (.iload 6, 2) := by decide +kernel
theorem dX9_goTo_128 : decode cX9_goTo 128 = .ok (.iadd, 1) := by decide +kernel
theorem dX9_goTo_129 : decode cX9_goTo 129 = .ok (.iaload, 1) := by decide +kernel
theorem dX9_goTo_130 : decode cX9_goTo 130 = .ok (.idiv, 1) := by decide +kernel
theorem dX9_goTo_131 : decode cX9_goTo 131 = .ok (.imul, 1) := by decide +kernel
theorem dX9_goTo_132 : decode cX9_goTo 132 = .ok (.iconst 1, 1) := by decide +kernel
theorem dX9_goTo_133 : decode cX9_goTo 133 = .ok (.iadd, 1) := by decide +kernel
theorem dX9_goTo_134 : decode cX9_goTo 134 = .ok (.iastore, 1) := by decide +kernel
theorem dX9_goTo_135 : decode cX9_goTo 135 = .ok (.aload_n 0, 1) := by decide +kernel
theorem dX9_goTo_136 : decode cX9_goTo 136 = .ok (.getfield 29, 3) := by decide +kernel
theorem dX9_goTo_139 : decode cX9_goTo 139 = .ok (.iload 6, 2) := by decide +kernel
theorem dX9_goTo_141 : decode cX9_goTo 141 = .ok (.iconst 2, 1) := by decide +kernel
theorem dX9_goTo_142 : decode cX9_goTo 142 = .ok (.iload_n 3, 1) := by decide +kernel
theorem dX9_goTo_143 : decode cX9_goTo 143 = .ok (.aload_n 0, 1) := by decide +kernel
theorem dX9_goTo_144 : decode cX9_goTo 144 = .ok (.getfield 26, 3) := by decide +kernel
theorem dX9_goTo_147 : decode cX9_goTo 147 = .ok (.iconst 3, 1) := by decide +kernel
theorem dX9_goTo_148 : decode cX9_goTo 148 = .ok (.iload_n 1, 1) := by decide +kernel
theorem dX9_goTo_149 : decode cX9_goTo 149 = .ok (.imul, 1) := by decide +kernel
theorem dX9_goTo_150 : decode cX9_goTo 150 = .ok (.iload 6, 2) := by decide +kernel
theorem dX9_goTo_152 : decode cX9_goTo 152 = .ok (.iadd, 1) := by decide +kernel
theorem dX9_goTo_153 : decode cX9_goTo 153 = .ok (.iaload, 1) := by decide +kernel
theorem dX9_goTo_154 : decode cX9_goTo 154 = .ok (.irem, 1) := by decide +kernel
theorem dX9_goTo_155 : decode cX9_goTo 155 = .ok (.imul, 1) := by decide +kernel
theorem dX9_goTo_156 : decode cX9_goTo 156 = .ok (.iconst 1, 1) := by decide +kernel
theorem dX9_goTo_157 : decode cX9_goTo 157 = .ok (.iadd, 1) := by decide +kernel
theorem dX9_goTo_158 : decode cX9_goTo 158 = .ok (.iastore, 1) := by decide +kernel
theorem dX9_goTo_159 : decode cX9_goTo 159 = .ok (.return_, 1) := by decide +kernel
theorem dX9_sideSize_0 : decode cX9_sideSize 0 = .ok (.iload_n 2, 1) := by decide +kernel
theorem dX9_sideSize_1 : decode cX9_sideSize 1 = .ok (.iconst 2, 1) := by decide +kernel
theorem dX9_sideSize_2 : decode cX9_sideSize 2 = .ok (.idiv, 1) := by decide +kernel
theorem dX9_sideSize_3 : decode cX9_sideSize 3 = .ok (.istore_n 3, 1) := by decide +kernel
theorem dX9_sideSize_4 : decode cX9_sideSize 4 = .ok (.aload_n 0, 1) := by decide +kernel
theorem dX9_sideSize_5 : decode cX9_sideSize 5 = .ok (.getfield 26, 3) := by decide +kernel
theorem dX9_sideSize_8 : decode cX9_sideSize 8 = .ok (.iconst 3, 1) := by decide +kernel
theorem dX9_sideSize_9 : decode cX9_sideSize 9 = .ok (.iload_n 1, 1) := by decide +kernel
theorem dX9_sideSize_10 : decode cX9_sideSize 10 = .ok (.imul, 1) := by decide +kernel
theorem dX9_sideSize_11 : decode cX9_sideSize 11 = .ok (.iload_n 3, 1) := by decide +kernel
theorem dX9_sideSize_12 : decode cX9_sideSize 12 = .ok (.ifCond .ne 7, 3) := by decide +kernel
theorem dX9_sideSize_15 : decode cX9_sideSize 15 = .ok (.iconst 1, 1) := by decide +kernel
theorem dX9_sideSize_16 : decode cX9_sideSize 16 = .ok (.goto 4, 3) := by decide +kernel
theorem dX9_sideSize_19 : decode cX9_sideSize 19 = .ok (.iconst 0, 1) := by decide +kernel
theorem dX9_sideSize_20 : decode cX9_sideSize 20 = .ok (.iadd, 1) := by decide +kernel
theorem dX9_sideSize_21 : decode cX9_sideSize 21 = .ok (.iaload, 1) := by decide +kernel
theorem dX9_sideSize_22 : decode cX9_sideSize 22 = .ok (.aload_n 0, 1) := by decide +kernel
theorem dX9_sideSize_23 : decode cX9_sideSize 23 = .ok (.getfield 26, 3) := by decide +kernel
theorem dX9_sideSize_26 : decode cX9_sideSize 26 = .ok (.iconst 3, 1) := by decide +kernel
theorem dX9_sideSize_27 : decode cX9_sideSize 27 = .ok (.iload_n 1, 1) := by decide +kernel
theorem dX9_sideSize_28 : decode cX9_sideSize 28 = .ok (.imul, 1) := by decide +kernel
theorem dX9_sideSize_29 : decode cX9_sideSize 29 = .ok (.iload_n 3, 1) := by decide +kernel
theorem dX9_sideSize_30 : decode cX9_sideSize 30 = .ok (.iconst 2, 1) := by decide +kernel
theorem dX9_sideSize_31 : decode cX9_sideSize 31 = .ok (.if_icmp .ne 7, 3) := by decide +kernel
theorem dX9_sideSize_34 : decode cX9_sideSize 34 = .ok (.iconst 1, 1) := by decide +kernel
theorem dX9_sideSize_35 : decode cX9_sideSize 35 = .ok (.goto 4, 3) := by decide +kernel
theorem dX9_sideSize_38 : decode cX9_sideSize 38 = .ok (.iconst 2, 1) := by decide +kernel
theorem dX9_sideSize_39 : decode cX9_sideSize 39 = .ok (.iadd, 1) := by decide +kernel
theorem dX9_sideSize_40 : decode cX9_sideSize 40 = .ok (.iaload, 1) := by decide +kernel
theorem dX9_sideSize_41 : decode cX9_sideSize 41 = .ok (.imul, 1) := by decide +kernel
theorem dX9_sideSize_42 : decode cX9_sideSize 42 = .ok (.ireturn, 1) := by decide +kernel
theorem dX9_cellNow_0 : decode cX9_cellNow 0 = .ok (.iconst 0, 1) := by decide +kernel
theorem dX9_cellNow_1 : decode cX9_cellNow 1 = .ok (.istore_n 2, 1) := by decide +kernel
theorem dX9_cellNow_2 : decode cX9_cellNow 2 = .ok (.iconst 0, 1) := by decide +kernel
theorem dX9_cellNow_3 : decode cX9_cellNow 3 = .ok (.istore_n 3, 1) := by decide +kernel
theorem dX9_cellNow_4 : decode cX9_cellNow 4 = .ok (.iload_n 3, 1) := by decide +kernel
theorem dX9_cellNow_5 : decode cX9_cellNow 5 = .ok (.aload_n 0, 1) := by decide +kernel
theorem dX9_cellNow_6 : decode cX9_cellNow 6 = .ok (.getfield 193, 3) := by decide +kernel
theorem dX9_cellNow_9 : decode cX9_cellNow 9 = .ok (.if_icmp .ge 18, 3) := by decide +kernel
theorem dX9_cellNow_12 : decode cX9_cellNow 12 = .ok (.iload_n 2, 1) := by decide +kernel
theorem dX9_cellNow_13 : decode cX9_cellNow 13 = .ok (.aload_n 0, 1) := by decide +kernel
theorem dX9_cellNow_14 : decode cX9_cellNow 14 = .ok (.iload_n 1, 1) := by decide +kernel
theorem dX9_cellNow_15 : decode cX9_cellNow 15 = .ok (.iload_n 3, 1) := by decide +kernel
theorem dX9_cellNow_16 : decode cX9_cellNow 16 = .ok (.invokevirtual 205, 3) := by decide +kernel
theorem dX9_cellNow_19 : decode cX9_cellNow 19 = .ok (.iadd, 1) := by decide +kernel
theorem dX9_cellNow_20 : decode cX9_cellNow 20 = .ok (.istore_n 2, 1) := by decide +kernel
theorem dX9_cellNow_21 : decode cX9_cellNow 21 = .ok (.iinc 3 1, 3) := by decide +kernel
theorem dX9_cellNow_24 : decode cX9_cellNow 24 = .ok (.goto (-20), 3) := by decide +kernel
theorem dX9_cellNow_27 : decode cX9_cellNow 27 = .ok (.aload_n 0, 1) := by decide +kernel
theorem dX9_cellNow_28 : decode cX9_cellNow 28 = .ok (.getfield 193, 3) := by decide +kernel
theorem dX9_cellNow_31 : decode cX9_cellNow 31 = .ok (.iconst 2, 1) := by decide +kernel
theorem dX9_cellNow_32 : decode cX9_cellNow 32 = .ok (.idiv, 1) := by decide +kernel
theorem dX9_cellNow_33 : decode cX9_cellNow 33 = .ok (.istore_n 3, 1) := by decide +kernel
theorem dX9_cellNow_34 : decode cX9_cellNow 34 = .ok (.iload_n 3, 1) := by decide +kernel
theorem dX9_cellNow_35 : decode cX9_cellNow 35 = .ok (.ifCond .ne 7, 3) := by decide +kernel
theorem dX9_cellNow_38 : decode cX9_cellNow 38 = .ok (.iconst 1, 1) := by decide +kernel
theorem dX9_cellNow_39 : decode cX9_cellNow 39 = .ok (.goto 4, 3) := by decide +kernel
theorem dX9_cellNow_42 : decode cX9_cellNow 42 = .ok (.iconst 0, 1) := by decide +kernel
theorem dX9_cellNow_43 : decode cX9_cellNow 43 = .ok (.istore 4, 2) := by decide +kernel
theorem dX9_cellNow_45 : decode cX9_cellNow 45 = .ok (.iload_n 3, 1) := by decide +kernel
theorem dX9_cellNow_46 : decode cX9_cellNow 46 = .ok (.iconst 2, 1) := by decide +kernel
theorem dX9_cellNow_47 : decode cX9_cellNow 47 = .ok (.if_icmp .ne 7, 3) := by decide +kernel
theorem dX9_cellNow_50 : decode cX9_cellNow 50 = .ok (.iconst 1, 1) := by decide +kernel
theorem dX9_cellNow_51 : decode cX9_cellNow 51 = .ok (.goto 4, 3) := by decide +kernel
theorem dX9_cellNow_54 : decode cX9_cellNow 54 = .ok (.iconst 2, 1) := by decide +kernel
theorem dX9_cellNow_55 : decode cX9_cellNow 55 = .ok (.istore 5, 2) := by decide +kernel
theorem dX9_cellNow_57 : decode cX9_cellNow 57 = .ok (.iload_n 2, 1) := by decide +kernel
theorem dX9_cellNow_58 : decode cX9_cellNow 58 = .ok (.aload_n 0, 1) := by decide +kernel
theorem dX9_cellNow_59 : decode cX9_cellNow 59 = .ok (.getfield 29, 3) := by decide +kernel
theorem dX9_cellNow_62 : decode cX9_cellNow 62 = .ok (.iload 4, 2) := by decide +kernel
theorem dX9_cellNow_64 : decode cX9_cellNow 64 = .ok (.iaload, 1) := by decide +kernel
theorem dX9_cellNow_65 : decode cX9_cellNow 65 = .ok (.iconst 2, 1) := by decide +kernel
theorem dX9_cellNow_66 : decode cX9_cellNow 66 = .ok (.idiv, 1) := by decide +kernel
theorem dX9_cellNow_67 : decode cX9_cellNow 67 = .ok (.aload_n 0, 1) := by decide +kernel
theorem dX9_cellNow_68 : decode cX9_cellNow 68 = .ok (.getfield 26, 3) := by decide +kernel
theorem dX9_cellNow_71 : decode cX9_cellNow 71 = .ok (.iconst 3, 1) := by decide +kernel
theorem dX9_cellNow_72 : decode cX9_cellNow 72 = .ok (.iload_n 1, 1) := by decide +kernel
theorem dX9_cellNow_73 : decode cX9_cellNow 73 = .ok (.imul, 1) := by decide +kernel
theorem dX9_cellNow_74 : decode cX9_cellNow 74 = .ok (.iload 5, 2) := by decide +kernel
theorem dX9_cellNow_76 : decode cX9_cellNow 76 = .ok (.iadd, 1) := by decide +kernel
theorem dX9_cellNow_77 : decode cX9_cellNow 77 = .ok (.iaload, 1) := by decide +kernel
theorem dX9_cellNow_78 : decode cX9_cellNow 78 = .ok (.imul, 1) := by decide +kernel
theorem dX9_cellNow_79 : decode cX9_cellNow 79 = .ok (.iadd, 1) := by decide +kernel
theorem dX9_cellNow_80 : decode cX9_cellNow 80 = .ok (.aload_n 0, 1) := by decide +kernel
theorem dX9_cellNow_81 : decode cX9_cellNow 81 = .ok (.getfield 29, 3) := by decide +kernel
theorem dX9_cellNow_84 : decode cX9_cellNow 84 = .ok (.iload 5, 2) := by decide +kernel
theorem dX9_cellNow_86 : decode cX9_cellNow 86 = .ok (.iaload, 1) := by decide +kernel
theorem dX9_cellNow_87 : decode cX9_cellNow 87 = .ok (.iconst 2, 1) := by decide +kernel
theorem dX9_cellNow_88 : decode cX9_cellNow 88 = .ok (.idiv, 1) := by decide +kernel
theorem dX9_cellNow_89 : decode cX9_cellNow 89 = .ok (.iadd, 1) := by decide +kernel
theorem dX9_cellNow_90 : decode cX9_cellNow 90 = .ok (.ireturn, 1) := by decide +kernel
theorem dX9_wayNow_0 : decode cX9_wayNow 0 = .ok (.iload_n 1, 1) := by decide +kernel
theorem dX9_wayNow_1 : decode cX9_wayNow 1 = .ok (.ifCond .ne 10, 3) := by decide +kernel
theorem dX9_wayNow_4 : decode cX9_wayNow 4 = .ok (.aload_n 0, 1) := by decide +kernel
theorem dX9_wayNow_5 : decode cX9_wayNow 5 = .ok (.getfield 199, 3) := by decide +kernel
theorem dX9_wayNow_8 : decode cX9_wayNow 8 = .ok (.goto 35, 3) := by decide +kernel
theorem dX9_wayNow_11 : decode cX9_wayNow 11 = .ok (.iload_n 1, 1) := by decide +kernel
theorem dX9_wayNow_12 : decode cX9_wayNow 12 = .ok (.iconst 1, 1) := by decide +kernel
theorem dX9_wayNow_13 : decode cX9_wayNow 13 = .ok (.if_icmp .ne 10, 3) := by decide +kernel
theorem dX9_wayNow_16 : decode cX9_wayNow 16 = .ok (.aload_n 0, 1) := by decide +kernel
theorem dX9_wayNow_17 : decode cX9_wayNow 17 = .ok (.getfield 202, 3) := by decide +kernel
theorem dX9_wayNow_20 : decode cX9_wayNow 20 = .ok (.goto 23, 3) := by decide +kernel
theorem dX9_wayNow_23 : decode cX9_wayNow 23 = .ok (.iload_n 1, 1) := by decide +kernel
theorem dX9_wayNow_24 : decode cX9_wayNow 24 = .ok (.iconst 2, 1) := by decide +kernel
theorem dX9_wayNow_25 : decode cX9_wayNow 25 = .ok (.if_icmp .ne 12, 3) := by decide +kernel
theorem dX9_wayNow_28 : decode cX9_wayNow 28 = .ok (.aload_n 0, 1) := by decide +kernel
theorem dX9_wayNow_29 : decode cX9_wayNow 29 = .ok (.getfield 199, 3) := by decide +kernel
theorem dX9_wayNow_32 : decode cX9_wayNow 32 = .ok (.iconst 1, 1) := by decide +kernel
theorem dX9_wayNow_33 : decode cX9_wayNow 33 = .ok (.ixor, 1) := by decide +kernel
theorem dX9_wayNow_34 : decode cX9_wayNow 34 = .ok (.goto 9, 3) := by decide +kernel
theorem dX9_wayNow_37 : decode cX9_wayNow 37 = .ok (.aload_n 0, 1) := by decide +kernel
theorem dX9_wayNow_38 : decode cX9_wayNow 38 = .ok (.getfield 202, 3) := by decide +kernel
theorem dX9_wayNow_41 : decode cX9_wayNow 41 = .ok (.iconst 1, 1) := by decide +kernel
theorem dX9_wayNow_42 : decode cX9_wayNow 42 = .ok (.ixor, 1) := by decide +kernel
theorem dX9_wayNow_43 : decode cX9_wayNow 43 = .ok (.ireturn, 1) := by decide +kernel
theorem dX9_go_0 : decode cX9_go 0 = .ok (.aload_n 0, 1) := by decide +kernel
theorem dX9_go_1 : decode cX9_go 1 = .ok (.iload_n 2, 1) := by decide +kernel
theorem dX9_go_2 : decode cX9_go 2 = .ok (.invokevirtual 208, 3) := by decide +kernel
theorem dX9_go_5 : decode cX9_go 5 = .ok (.istore_n 3, 1) := by decide +kernel
theorem dX9_go_6 : decode cX9_go 6 = .ok (.aload_n 0, 1) := by decide +kernel
theorem dX9_go_7 : decode cX9_go 7 = .ok (.getfield 193, 3) := by decide +kernel
theorem dX9_go_10 : decode cX9_go 10 = .ok (.iconst 1, 1) := by decide +kernel
theorem dX9_go_11 : decode cX9_go 11 = .ok (.ixor, 1) := by decide +kernel
theorem dX9_go_12 : decode cX9_go 12 = .ok (.istore 4, 2) := by decide +kernel
theorem dX9_go_14 : decode cX9_go 14 = .ok (.aload_n 0, 1) := by decide +kernel
theorem dX9_go_15 : decode cX9_go 15 = .ok (.getfield 29, 3) := by decide +kernel
theorem dX9_go_18 : decode cX9_go 18 = .ok (.iload_n 3, 1) := by decide +kernel
theorem dX9_go_19 : decode cX9_go 19 = .ok (.iconst 2, 1) := by decide +kernel
theorem dX9_go_20 : decode cX9_go 20 = .ok (.idiv, 1) := by decide +kernel
theorem dX9_go_21 : decode cX9_go 21 = .ok (.iaload, 1) := by decide +kernel
theorem dX9_go_22 : decode cX9_go 22 = .ok (.iconst 2, 1) := by decide +kernel
theorem dX9_go_23 : decode cX9_go 23 = .ok (.iload_n 3, 1) := by decide +kernel
theorem dX9_go_24 : decode cX9_go 24 = .ok (.invokestatic 184, 3) := by decide +kernel
theorem dX9_go_27 : decode cX9_go 27 = .ok (.imul, 1) := by decide +kernel
theorem dX9_go_28 : decode cX9_go 28 = .ok (.iadd, 1) := by decide +kernel
theorem dX9_go_29 : decode cX9_go 29 = .ok (.istore 5, 2) := by decide +kernel
theorem dX9_go_31 : decode cX9_go 31 = .ok (.iload 5, 2) := by decide +kernel
theorem dX9_go_33 : decode cX9_go 33 = .ok (.ifCond .le 33, 3) := by decide +kernel
theorem dX9_go_36 : decode cX9_go 36 = .ok (.iload 5, 2) := by decide +kernel
theorem dX9_go_38 : decode cX9_go 38 = .ok (.iconst 2, 1) := by decide +kernel
theorem dX9_go_39 : decode cX9_go 39 = .ok (.aload_n 0, 1) := by decide +kernel
theorem dX9_go_40 : decode cX9_go 40 = .ok (.getfield 26, 3) := by decide +kernel
theorem dX9_go_43 : decode cX9_go 43 = .ok (.iconst 3, 1) := by decide +kernel
theorem dX9_go_44 : decode cX9_go 44 = .ok (.iload_n 1, 1) := by decide +kernel
theorem dX9_go_45 : decode cX9_go 45 = .ok (.imul, 1) := by decide +kernel
theorem dX9_go_46 : decode cX9_go 46 = .ok (.iload_n 3, 1) := by decide +kernel
theorem dX9_go_47 : decode cX9_go 47 = .ok (.iconst 2, 1) := by decide +kernel
theorem dX9_go_48 : decode cX9_go 48 = .ok (.idiv, 1) := by decide +kernel
theorem dX9_go_49 : decode cX9_go 49 = .ok (.iadd, 1) := by decide +kernel
theorem dX9_go_50 : decode cX9_go 50 = .ok (.iaload, 1) := by decide +kernel
theorem dX9_go_51 : decode cX9_go 51 = .ok (.imul, 1) := by decide +kernel
theorem dX9_go_52 : decode cX9_go 52 = .ok (.if_icmp .ge 14, 3) := by decide +kernel
theorem dX9_go_55 : decode cX9_go 55 = .ok (.aload_n 0, 1) := by decide +kernel
theorem dX9_go_56 : decode cX9_go 56 = .ok (.getfield 29, 3) := by decide +kernel
theorem dX9_go_59 : decode cX9_go 59 = .ok (.iload_n 3, 1) := by decide +kernel
theorem dX9_go_60 : decode cX9_go 60 = .ok (.iconst 2, 1) := by decide +kernel
theorem dX9_go_61 : decode cX9_go 61 = .ok (.idiv, 1) := by decide +kernel
theorem dX9_go_62 : decode cX9_go 62 = .ok (.iload 5, 2) := by decide +kernel
theorem dX9_go_64 : decode cX9_go 64 = .ok (.iastore, 1) := by decide +kernel
theorem dX9_go_65 : decode cX9_go 65 = .ok (.return_, 1) := by decide +kernel
theorem dX9_go_66 : decode cX9_go 66 = .ok (.aload_n 0, 1) := by decide +kernel
theorem dX9_go_67 : decode cX9_go 67 = .ok (.getfield 29, 3) := by decide +kernel
theorem dX9_go_70 : decode cX9_go 70 = .ok (.iload_n 3, 1) := by decide +kernel
theorem dX9_go_71 : decode cX9_go 71 = .ok (.iconst 2, 1) := by decide +kernel
theorem dX9_go_72 : decode cX9_go 72 = .ok (.idiv, 1) := by decide +kernel
theorem dX9_go_73 : decode cX9_go 73 = .ok (.dup2, 1) := by decide +kernel
theorem dX9_go_74 : decode cX9_go 74 = .ok (.iaload, 1) := by decide +kernel
theorem dX9_go_75 : decode cX9_go 75 = .ok (.iload_n 3, 1) := by decide +kernel
theorem dX9_go_76 : decode cX9_go 76 = .ok (.invokestatic 184, 3) := by decide +kernel
theorem dX9_go_79 : decode cX9_go 79 = .ok (.iadd, 1) := by decide +kernel
theorem dX9_go_80 : decode cX9_go 80 = .ok (.iastore, 1) := by decide +kernel
theorem dX9_go_81 : decode cX9_go 81 = .ok (.aload_n 0, 1) := by decide +kernel
theorem dX9_go_82 : decode cX9_go 82 = .ok (.getfield 29, 3) := by decide +kernel
theorem dX9_go_85 : decode cX9_go 85 = .ok (.iload 4, 2) := by decide +kernel
theorem dX9_go_87 : decode cX9_go 87 = .ok (.iconst 2, 1) := by decide +kernel
theorem dX9_go_88 : decode cX9_go 88 = .ok (.idiv, 1) := by decide +kernel
theorem dX9_go_89 : decode cX9_go 89 = .ok (.dup2, 1) := by decide +kernel
theorem dX9_go_90 : decode cX9_go 90 = .ok (.iaload, 1) := by decide +kernel
theorem dX9_go_91 : decode cX9_go 91 = .ok (.iload 4, 2) := by decide +kernel
theorem dX9_go_93 : decode cX9_go 93 = .ok (.invokestatic 184, 3) := by decide +kernel
theorem dX9_go_96 : decode cX9_go 96 = .ok (.isub, 1) := by decide +kernel
theorem dX9_go_97 : decode cX9_go 97 = .ok (.iastore, 1) := by decide +kernel
theorem dX9_go_98 : decode cX9_go 98 = .ok (.aload_n 0, 1) := by decide +kernel
theorem dX9_go_99 : decode cX9_go 99 = .ok (.iload_n 3, 1) := by decide +kernel
theorem dX9_go_100 : decode cX9_go 100 = .ok (.iload_n 2, 1) := by decide +kernel
theorem dX9_go_101 : decode cX9_go 101 = .ok (.iload 4, 2) := by decide +kernel
theorem dX9_go_103 : decode cX9_go 103 = .ok (.invokevirtual 211, 3) := by decide +kernel
theorem dX9_go_106 : decode cX9_go 106 = .ok (.return_, 1) := by decide +kernel
theorem dX9_bend_0 : decode cX9_bend 0 = .ok (.aload_n 0, 1) := by decide +kernel
theorem dX9_bend_1 : decode cX9_bend 1 = .ok (.iload_n 1, 1) := by decide +kernel
theorem dX9_bend_2 : decode cX9_bend 2 = .ok (.iconst 1, 1) := by decide +kernel
theorem dX9_bend_3 : decode cX9_bend 3 = .ok (.ixor, 1) := by decide +kernel
theorem dX9_bend_4 : decode cX9_bend 4 = .ok (.putfield 193, 3) := by decide +kernel
theorem dX9_bend_7 : decode cX9_bend 7 = .ok (.iload_n 2, 1) := by decide +kernel
theorem dX9_bend_8 : decode cX9_bend 8 = .ok (.ifCond .ne 13, 3) := by decide +kernel
theorem dX9_bend_11 : decode cX9_bend 11 = .ok (.aload_n 0, 1) := by decide +kernel
theorem dX9_bend_12 : decode cX9_bend 12 = .ok (.iload_n 3, 1) := by decide +kernel
theorem dX9_bend_13 : decode cX9_bend 13 = .ok (.iconst 1, 1) := by decide +kernel
theorem dX9_bend_14 : decode cX9_bend 14 = .ok (.ixor, 1) := by decide +kernel
theorem dX9_bend_15 : decode cX9_bend 15 = .ok (.putfield 199, 3) := by decide +kernel
theorem dX9_bend_18 : decode cX9_bend 18 = .ok (.goto 36, 3) := by decide +kernel
theorem dX9_bend_21 : decode cX9_bend 21 = .ok (.iload_n 2, 1) := by decide +kernel
theorem dX9_bend_22 : decode cX9_bend 22 = .ok (.iconst 1, 1) := by decide +kernel
theorem dX9_bend_23 : decode cX9_bend 23 = .ok (.if_icmp .ne 13, 3) := by decide +kernel
theorem dX9_bend_26 : decode cX9_bend 26 = .ok (.aload_n 0, 1) := by decide +kernel
theorem dX9_bend_27 : decode cX9_bend 27 = .ok (.iload_n 3, 1) := by decide +kernel
theorem dX9_bend_28 : decode cX9_bend 28 = .ok (.iconst 1, 1) := by decide +kernel
theorem dX9_bend_29 : decode cX9_bend 29 = .ok (.ixor, 1) := by decide +kernel
theorem dX9_bend_30 : decode cX9_bend 30 = .ok (.putfield 202, 3) := by decide +kernel
theorem dX9_bend_33 : decode cX9_bend 33 = .ok (.goto 21, 3) := by decide +kernel
theorem dX9_bend_36 : decode cX9_bend 36 = .ok (.iload_n 2, 1) := by decide +kernel
theorem dX9_bend_37 : decode cX9_bend 37 = .ok (.iconst 2, 1) := by decide +kernel
theorem dX9_bend_38 : decode cX9_bend 38 = .ok (.if_icmp .ne 11, 3) := by decide +kernel
theorem dX9_bend_41 : decode cX9_bend 41 = .ok (.aload_n 0, 1) := by decide +kernel
theorem dX9_bend_42 : decode cX9_bend 42 = .ok (.iload_n 3, 1) := by decide +kernel
theorem dX9_bend_43 : decode cX9_bend 43 = .ok (.putfield 199, 3) := by decide +kernel
theorem dX9_bend_46 : decode cX9_bend 46 = .ok (.goto 8, 3) := by decide +kernel
theorem dX9_bend_49 : decode cX9_bend 49 = .ok (.aload_n 0, 1) := by decide +kernel
theorem dX9_bend_50 : decode cX9_bend 50 = .ok (.iload_n 3, 1) := by decide +kernel
theorem dX9_bend_51 : decode cX9_bend 51 = .ok (.putfield 202, 3) := by decide +kernel
theorem dX9_bend_54 : decode cX9_bend 54 = .ok (.return_, 1) := by decide +kernel
theorem dX9_isCell_0 : decode cX9_isCell 0 = .ok (.iload_n 2, 1) := by decide +kernel
theorem dX9_isCell_1 : decode cX9_isCell 1 = .ok (.iconst 0, 1) := by decide +kernel
theorem dX9_isCell_2 : decode cX9_isCell 2 = .ok (.aload_n 0, 1) := by decide +kernel
theorem dX9_isCell_3 : decode cX9_isCell 3 = .ok (.iload_n 1, 1) := by decide +kernel
theorem dX9_isCell_4 : decode cX9_isCell 4 = .ok (.invokevirtual 181, 3) := by decide +kernel
theorem dX9_isCell_7 : decode cX9_isCell 7 = .ok (.iconst 1, 1) := by decide +kernel
theorem dX9_isCell_8 : decode cX9_isCell 8 = .ok (.isub, 1) := by decide +kernel
theorem dX9_isCell_9 : decode cX9_isCell 9 = .ok (.invokestatic 121, 3) := by decide +kernel
theorem dX9_isCell_12 : decode cX9_isCell 12 = .ok (.ireturn, 1) := by decide +kernel
theorem dX9_cell_0 : decode cX9_cell 0 = .ok (.iload_n 3, 1) := by decide +kernel
theorem dX9_cell_1 : decode cX9_cell 1 = .ok (.iconst 0, 1) := by decide +kernel
theorem dX9_cell_2 : decode cX9_cell 2 = .ok (.iconst 3, 1) := by decide +kernel
theorem dX9_cell_3 : decode cX9_cell 3 = .ok (.invokestatic 121, 3) := by decide +kernel
theorem dX9_cell_6 : decode cX9_cell 6 = .ok (.ifCond .ne 5, 3) := by decide +kernel
theorem dX9_cell_9 : decode cX9_cell 9 = .ok (.iconst (-1), 1) := by decide +kernel
theorem dX9_cell_10 : decode cX9_cell 10 = .ok (.ireturn, 1) := by decide +kernel
theorem dX9_cell_11 : decode cX9_cell 11 = .ok (.aload_n 0, 1) := by decide +kernel
theorem dX9_cell_12 : decode cX9_cell 12 = .ok (.iload_n 1, 1) := by decide +kernel
theorem dX9_cell_13 : decode cX9_cell 13 = .ok (.invokevirtual 215, 3) := by decide +kernel
theorem dX9_cell_16 : decode cX9_cell 16 = .ok (.istore 4, 2) := by decide +kernel
theorem dX9_cell_18 : decode cX9_cell 18 = .ok (.iload 4, 2) := by decide +kernel
theorem dX9_cell_20 : decode cX9_cell 20 = .ok (.ifCond .ge 6, 3) := by decide +kernel
theorem dX9_cell_23 : decode cX9_cell 23 = .ok (.iload 4, 2) := by decide +kernel
theorem dX9_cell_25 : decode cX9_cell 25 = .ok (.ireturn, 1) := by decide +kernel
theorem dX9_cell_26 : decode cX9_cell 26 = .ok (.aload_n 0, 1) := by decide +kernel
theorem dX9_cell_27 : decode cX9_cell 27 = .ok (.iload_n 1, 1) := by decide +kernel
theorem dX9_cell_28 : decode cX9_cell 28 = .ok (.iload_n 2, 1) := by decide +kernel
theorem dX9_cell_29 : decode cX9_cell 29 = .ok (.invokevirtual 218, 3) := by decide +kernel
theorem dX9_cell_32 : decode cX9_cell 32 = .ok (.ifCond .ne 9, 3) := by decide +kernel
theorem dX9_cell_35 : decode cX9_cell 35 = .ok (.aload_n 0, 1) := by decide +kernel
theorem dX9_cell_36 : decode cX9_cell 36 = .ok (.iconst 2, 1) := by decide +kernel
theorem dX9_cell_37 : decode cX9_cell 37 = .ok (.invokevirtual 129, 3) := by decide +kernel
theorem dX9_cell_40 : decode cX9_cell 40 = .ok (.ireturn, 1) := by decide +kernel
theorem dX9_cell_41 : decode cX9_cell 41 = .ok (.aload_n 0, 1) := by decide +kernel
theorem dX9_cell_42 : decode cX9_cell 42 = .ok (.iload_n 1, 1) := by decide +kernel
theorem dX9_cell_43 : decode cX9_cell 43 = .ok (.iload_n 2, 1) := by decide +kernel
theorem dX9_cell_44 : decode cX9_cell 44 = .ok (.invokevirtual 222, 3) := by decide +kernel
theorem dX9_cell_47 : decode cX9_cell 47 = .ok (.iload_n 3, 1) := by decide +kernel
theorem dX9_cell_48 : decode cX9_cell 48 = .ok (.ifCond .ne 10, 3) := by decide +kernel
theorem dX9_cell_51 : decode cX9_cell 51 = .ok (.aload_n 0, 1) := by decide +kernel
theorem dX9_cell_52 : decode cX9_cell 52 = .ok (.getfield 193, 3) := by decide +kernel
theorem dX9_cell_55 : decode cX9_cell 55 = .ok (.goto 11, 3) := by decide +kernel
theorem dX9_cell_58 : decode cX9_cell 58 = .ok (.aload_n 0, 1) := by decide +kernel
theorem dX9_cell_59 : decode cX9_cell 59 = .ok (.getfield 29, 3) := by decide +kernel
theorem dX9_cell_62 : decode cX9_cell 62 = .ok (.iload_n 3, 1) := by decide +kernel
theorem dX9_cell_63 : decode cX9_cell 63 = .ok (.iconst 1, 1) := by decide +kernel
theorem dX9_cell_64 : decode cX9_cell 64 = .ok (.isub, 1) := by decide +kernel
theorem dX9_cell_65 : decode cX9_cell 65 = .ok (.iaload, 1) := by decide +kernel
theorem dX9_cell_66 : decode cX9_cell 66 = .ok (.ireturn, 1) := by decide +kernel
theorem dX9_next_0 : decode cX9_next 0 = .ok (.iload_n 3, 1) := by decide +kernel
theorem dX9_next_1 : decode cX9_next 1 = .ok (.iconst 0, 1) := by decide +kernel
theorem dX9_next_2 : decode cX9_next 2 = .ok (.iconst 3, 1) := by decide +kernel
theorem dX9_next_3 : decode cX9_next 3 = .ok (.invokestatic 121, 3) := by decide +kernel
theorem dX9_next_6 : decode cX9_next 6 = .ok (.ifCond .eq 13, 3) := by decide +kernel
theorem dX9_next_9 : decode cX9_next 9 = .ok (.iload 4, 2) := by decide +kernel
theorem dX9_next_11 : decode cX9_next 11 = .ok (.iconst 0, 1) := by decide +kernel
theorem dX9_next_12 : decode cX9_next 12 = .ok (.iconst 3, 1) := by decide +kernel
theorem dX9_next_13 : decode cX9_next 13 = .ok (.invokestatic 121, 3) := by decide +kernel
theorem dX9_next_16 : decode cX9_next 16 = .ok (.ifCond .ne 5, 3) := by decide +kernel
theorem dX9_next_19 : decode cX9_next 19 = .ok (.iconst (-1), 1) := by decide +kernel
theorem dX9_next_20 : decode cX9_next 20 = .ok (.ireturn, 1) := by decide +kernel
theorem dX9_next_21 : decode cX9_next 21 = .ok (.aload_n 0, 1) := by decide +kernel
theorem dX9_next_22 : decode cX9_next 22 = .ok (.iload_n 1, 1) := by decide +kernel
theorem dX9_next_23 : decode cX9_next 23 = .ok (.invokevirtual 215, 3) := by decide +kernel
theorem dX9_next_26 : decode cX9_next 26 = .ok (.istore 5, 2) := by decide +kernel
theorem dX9_next_28 : decode cX9_next 28 = .ok (.iload 5, 2) := by decide +kernel
theorem dX9_next_30 : decode cX9_next 30 = .ok (.ifCond .ge 6, 3) := by decide +kernel
theorem dX9_next_33 : decode cX9_next 33 = .ok (.iload 5, 2) := by decide +kernel
theorem dX9_next_35 : decode cX9_next 35 = .ok (.ireturn, 1) := by decide +kernel
theorem dX9_next_36 : decode cX9_next 36 = .ok (.aload_n 0, 1) := by decide +kernel
theorem dX9_next_37 : decode cX9_next 37 = .ok (.iload_n 1, 1) := by decide +kernel
theorem dX9_next_38 : decode cX9_next 38 = .ok (.iload_n 2, 1) := by decide +kernel
theorem dX9_next_39 : decode cX9_next 39 = .ok (.invokevirtual 218, 3) := by decide +kernel
theorem dX9_next_42 : decode cX9_next 42 = .ok (.ifCond .ne 9, 3) := by decide +kernel
theorem dX9_next_45 : decode cX9_next 45 = .ok (.aload_n 0, 1) := by decide +kernel
theorem dX9_next_46 : decode cX9_next 46 = .ok (.iconst 2, 1) := by decide +kernel
theorem dX9_next_47 : decode cX9_next 47 = .ok (.invokevirtual 129, 3) := by decide +kernel
theorem dX9_next_50 : decode cX9_next 50 = .ok (.ireturn, 1) := by decide +kernel
theorem dX9_next_51 : decode cX9_next 51 = .ok (.aload_n 0, 1) := by decide +kernel
theorem dX9_next_52 : decode cX9_next 52 = .ok (.iload_n 1, 1) := by decide +kernel
theorem dX9_next_53 : decode cX9_next 53 = .ok (.iload_n 2, 1) := by decide +kernel
theorem dX9_next_54 : decode cX9_next 54 = .ok (.invokevirtual 222, 3) := by decide +kernel
theorem dX9_next_57 : decode cX9_next 57 = .ok (.aload_n 0, 1) := by decide +kernel
theorem dX9_next_58 : decode cX9_next 58 = .ok (.iload_n 3, 1) := by decide +kernel
theorem dX9_next_59 : decode cX9_next 59 = .ok (.invokevirtual 226, 3) := by decide +kernel
theorem dX9_next_62 : decode cX9_next 62 = .ok (.aload_n 0, 1) := by decide +kernel
theorem dX9_next_63 : decode cX9_next 63 = .ok (.iload_n 1, 1) := by decide +kernel
theorem dX9_next_64 : decode cX9_next 64 = .ok (.iload 4, 2) := by decide +kernel
theorem dX9_next_66 : decode cX9_next 66 = .ok (.invokevirtual 230, 3) := by decide +kernel
theorem dX9_next_69 : decode cX9_next 69 = .ok (.aload_n 0, 1) := by decide +kernel
theorem dX9_next_70 : decode cX9_next 70 = .ok (.aload_n 0, 1) := by decide +kernel
theorem dX9_next_71 : decode cX9_next 71 = .ok (.invokevirtual 233, 3) := by decide +kernel
theorem dX9_next_74 : decode cX9_next 74 = .ok (.i2l, 1) := by decide +kernel
theorem dX9_next_75 : decode cX9_next 75 = .ok (.aload_n 0, 1) := by decide +kernel
theorem dX9_next_76 : decode cX9_next 76 = .ok (.iload_n 1, 1) := by decide +kernel
theorem dX9_next_77 : decode cX9_next 77 = .ok (.invokevirtual 237, 3) := by decide +kernel
theorem dX9_next_80 : decode cX9_next 80 = .ok (.invokevirtual 166, 3) := by decide +kernel
theorem dX9_next_83 : decode cX9_next 83 = .ok (.ireturn, 1) := by decide +kernel
theorem dX9_isFolded_0 : decode cX9_isFolded 0 = .ok (.iconst 0, 1) := by decide +kernel
theorem dX9_isFolded_1 : decode cX9_isFolded 1 = .ok (.istore 6, 2) := by decide +kernel
theorem dX9_isFolded_3 : decode cX9_isFolded 3 = .ok (.iload 6, 2) := by decide +kernel
theorem dX9_isFolded_5 : decode cX9_isFolded 5 = .ok (.bipush 64, 2) := by decide +kernel
theorem dX9_isFolded_7 : decode cX9_isFolded 7 = .ok (.if_icmp .ge 18, 3) := by decide +kernel
theorem dX9_isFolded_10 : decode cX9_isFolded 10 = .ok (.aload_n 0, 1) := by decide +kernel
theorem dX9_isFolded_11 : decode cX9_isFolded 11 = .ok (.getfield 32, 3) := by decide +kernel
theorem dX9_isFolded_14 : decode cX9_isFolded 14 = .ok (.iload 6, 2) := by decide +kernel
theorem dX9_isFolded_16 : decode cX9_isFolded 16 = .ok (.bipush (-9), 2) := by decide +kernel
theorem dX9_isFolded_18 : decode cX9_isFolded 18 = .ok (.iastore, 1) := by decide +kernel
theorem dX9_isFolded_19 : decode cX9_isFolded 19 = .ok (.iinc 6 1, 3) := by decide +kernel
theorem dX9_isFolded_22 : decode cX9_isFolded 22 = .ok (.goto (-19), 3) := by decide +kernel
theorem dX9_isFolded_25 : decode cX9_isFolded 25 = .ok (.lload_n 1, 1) := by decide +kernel
theorem dX9_isFolded_26 : decode cX9_isFolded 26 = .ok (.invokestatic 137, 3) := by decide +kernel
theorem dX9_isFolded_29 : decode cX9_isFolded 29 = .ok (.istore 6, 2) := by decide +kernel
theorem dX9_isFolded_31 : decode cX9_isFolded 31 = .ok (.aload_n 0, 1) := by decide +kernel
theorem dX9_isFolded_32 : decode cX9_isFolded 32 = .ok (.getfield 32, 3) := by decide +kernel
theorem dX9_isFolded_35 : decode cX9_isFolded 35 = .ok (.iload 6, 2) := by decide +kernel
theorem dX9_isFolded_37 : decode cX9_isFolded 37 = .ok (.iload 4, 2) := by decide +kernel
theorem dX9_isFolded_39 : decode cX9_isFolded 39 = .ok (.iastore, 1) := by decide +kernel
theorem dX9_isFolded_40 : decode cX9_isFolded 40 = .ok (.aload_n 0, 1) := by decide +kernel
theorem dX9_isFolded_41 : decode cX9_isFolded 41 = .ok (.getfield 35, 3) := by decide +kernel
theorem dX9_isFolded_44 : decode cX9_isFolded 44 = .ok (.iload 6, 2) := by decide +kernel
theorem dX9_isFolded_46 : decode cX9_isFolded 46 = .ok (.iload 5, 2) := by decide +kernel
theorem dX9_isFolded_48 : decode cX9_isFolded 48 = .ok (.iastore, 1) := by decide +kernel
theorem dX9_isFolded_49 : decode cX9_isFolded 49 = .ok (.iconst 1, 1) := by decide +kernel
theorem dX9_isFolded_50 : decode cX9_isFolded 50 = .ok (.istore 7, 2) := by decide +kernel
theorem dX9_isFolded_52 : decode cX9_isFolded 52 = .ok (.iconst 1, 1) := by decide +kernel
theorem dX9_isFolded_53 : decode cX9_isFolded 53 = .ok (.istore 8, 2) := by decide +kernel
theorem dX9_isFolded_55 : decode cX9_isFolded 55 = .ok (.iload 7, 2) := by decide +kernel
theorem dX9_isFolded_57 : decode cX9_isFolded 57 = .ok (.ifCond .eq 190, 3) := by decide +kernel
theorem dX9_isFolded_60 : decode cX9_isFolded 60 = .ok (.iload 8, 2) := by decide +kernel
theorem dX9_isFolded_62 : decode cX9_isFolded 62 = .ok (.ifCond .eq 185, 3) := by decide +kernel
theorem dX9_isFolded_65 : decode cX9_isFolded 65 = .ok (.iconst 0, 1) := by decide +kernel
theorem dX9_isFolded_66 : decode cX9_isFolded 66 = .ok (.istore 7, 2) := by decide +kernel
theorem dX9_isFolded_68 : decode cX9_isFolded 68 = .ok (.iconst 0, 1) := by decide +kernel
theorem dX9_isFolded_69 : decode cX9_isFolded 69 = .ok (.istore 9, 2) := by decide +kernel
theorem dX9_isFolded_71 : decode cX9_isFolded 71 = .ok (.iload 9, 2) := by decide +kernel
theorem dX9_isFolded_73 : decode cX9_isFolded 73 = .ok (.bipush 64, 2) := by decide +kernel
theorem dX9_isFolded_75 : decode cX9_isFolded 75 = .ok (.if_icmp .ge 169, 3) := by decide +kernel
theorem dX9_isFolded_78 : decode cX9_isFolded 78 = .ok (.iconst 0, 1) := by decide +kernel
theorem dX9_isFolded_79 : decode cX9_isFolded 79 = .ok (.istore 10, 2) := by decide +kernel
theorem dX9_isFolded_81 : decode cX9_isFolded 81 = .ok (.iload 10, 2) := by decide +kernel
theorem dX9_isFolded_83 : decode cX9_isFolded 83 = .ok (.iconst 4, 1) := by decide +kernel
theorem dX9_isFolded_84 : decode cX9_isFolded 84 = .ok (.if_icmp .ge 154, 3) := by decide +kernel
theorem dX9_isFolded_87 : decode cX9_isFolded 87 = .ok (.lload_n 1, 1) := by decide +kernel
theorem dX9_isFolded_88 : decode cX9_isFolded 88 = .ok (.iload 9, 2) := by decide +kernel
theorem dX9_isFolded_90 : decode cX9_isFolded 90 = .ok (.invokestatic 133, 3) := by decide +kernel
theorem dX9_isFolded_93 : decode cX9_isFolded 93 = .ok (.ifCond .eq 145, 3) := by decide +kernel
theorem dX9_isFolded_96 : decode cX9_isFolded 96 = .ok (.aload_n 0, 1) := by decide +kernel
theorem dX9_isFolded_97 : decode cX9_isFolded 97 = .ok (.getfield 32, 3) := by decide +kernel
theorem dX9_isFolded_100 : decode cX9_isFolded 100 = .ok (.iload 9, 2) := by decide +kernel
theorem dX9_isFolded_102 : decode cX9_isFolded 102 = .ok (.iaload, 1) := by decide +kernel
theorem dX9_isFolded_103 : decode cX9_isFolded 103 = .ok (.ifCond .lt 135, 3) := by decide +kernel
theorem dX9_isFolded_106 : decode cX9_isFolded 106 = .ok (.iload 9, 2) := by decide +kernel
theorem dX9_isFolded_108 : decode cX9_isFolded 108 = .ok (.iload 10, 2) := by decide +kernel
theorem dX9_isFolded_110 : decode cX9_isFolded 110 = .ok (.invokestatic 141, 3) := by decide +kernel
theorem dX9_isFolded_113 : decode cX9_isFolded 113 = .ok (.istore 11, 2) := by decide +kernel
theorem dX9_isFolded_115 : decode cX9_isFolded 115 = .ok (.lload_n 1, 1) := by decide +kernel
theorem dX9_isFolded_116 : decode cX9_isFolded 116 = .ok (.iload 11, 2) := by decide +kernel
theorem dX9_isFolded_118 : decode cX9_isFolded 118 = .ok (.invokestatic 133, 3) := by decide +kernel
theorem dX9_isFolded_121 : decode cX9_isFolded 121 = .ok (.ifCond .eq 111, 3) := by decide +kernel
theorem dX9_isFolded_124 : decode cX9_isFolded 124 = .ok (.aload_n 0, 1) := by decide +kernel
theorem dX9_isFolded_125 : decode cX9_isFolded 125 = .ok (.iload_n 3, 1) := by decide +kernel
theorem dX9_isFolded_126 : decode cX9_isFolded 126 = .ok (.aload_n 0, 1) := by decide +kernel
theorem dX9_isFolded_127 : decode cX9_isFolded 127 = .ok (.getfield 32, 3) := by decide +kernel
theorem dX9_isFolded_130 : decode cX9_isFolded 130 = .ok (.iload 9, 2) := by decide +kernel
theorem dX9_isFolded_132 : decode cX9_isFolded 132 = .ok (.iaload, 1) := by decide +kernel
theorem dX9_isFolded_133 : decode cX9_isFolded 133 = .ok (.invokevirtual 222, 3) := by decide +kernel
theorem dX9_isFolded_136 : decode cX9_isFolded 136 = .ok (.aload_n 0, 1) := by decide +kernel
theorem dX9_isFolded_137 : decode cX9_isFolded 137 = .ok (.aload_n 0, 1) := by decide +kernel
theorem dX9_isFolded_138 : decode cX9_isFolded 138 = .ok (.getfield 35, 3) := by decide +kernel
theorem dX9_isFolded_141 : decode cX9_isFolded 141 = .ok (.iload 9, 2) := by decide +kernel
theorem dX9_isFolded_143 : decode cX9_isFolded 143 = .ok (.iaload, 1) := by decide +kernel
theorem dX9_isFolded_144 : decode cX9_isFolded 144 = .ok (.invokevirtual 226, 3) := by decide +kernel
theorem dX9_isFolded_147 : decode cX9_isFolded 147 = .ok (.aload_n 0, 1) := by decide +kernel
theorem dX9_isFolded_148 : decode cX9_isFolded 148 = .ok (.iload_n 3, 1) := by decide +kernel
theorem dX9_isFolded_149 : decode cX9_isFolded 149 = .ok (.iload 10, 2) := by decide +kernel
theorem dX9_isFolded_151 : decode cX9_isFolded 151 = .ok (.invokevirtual 230, 3) := by decide +kernel
theorem dX9_isFolded_154 : decode cX9_isFolded 154 = .ok (.aload_n 0, 1) := by decide +kernel
theorem dX9_isFolded_155 : decode cX9_isFolded 155 = .ok (.iload_n 3, 1) := by decide +kernel
theorem dX9_isFolded_156 : decode cX9_isFolded 156 = .ok (.invokevirtual 237, 3) := by decide +kernel
theorem dX9_isFolded_159 : decode cX9_isFolded 159 = .ok (.istore 12, 2) := by decide +kernel
theorem dX9_isFolded_161 : decode cX9_isFolded 161 = .ok (.aload_n 0, 1) := by decide +kernel
theorem dX9_isFolded_162 : decode cX9_isFolded 162 = .ok (.getfield 32, 3) := by decide +kernel
theorem dX9_isFolded_165 : decode cX9_isFolded 165 = .ok (.iload 11, 2) := by decide +kernel
theorem dX9_isFolded_167 : decode cX9_isFolded 167 = .ok (.iaload, 1) := by decide +kernel
theorem dX9_isFolded_168 : decode cX9_isFolded 168 = .ok (.ifCond .ge 26, 3) := by decide +kernel
theorem dX9_isFolded_171 : decode cX9_isFolded 171 = .ok (.aload_n 0, 1) := by decide +kernel
theorem dX9_isFolded_172 : decode cX9_isFolded 172 = .ok (.getfield 32, 3) := by decide +kernel
theorem dX9_isFolded_175 : decode cX9_isFolded 175 = .ok (.iload 11, 2) := by decide +kernel
theorem dX9_isFolded_177 : decode cX9_isFolded 177 = .ok (.iload 12, 2) := by decide +kernel
theorem dX9_isFolded_179 : decode cX9_isFolded 179 = .ok (.iastore, 1) := by decide +kernel
theorem dX9_isFolded_180 : decode cX9_isFolded 180 = .ok (.aload_n 0, 1) := by decide +kernel
theorem dX9_isFolded_181 : decode cX9_isFolded 181 = .ok (.getfield 35, 3) := by decide +kernel
theorem dX9_isFolded_184 : decode cX9_isFolded 184 = .ok (.iload 11, 2) := by decide +kernel
theorem dX9_isFolded_186 : decode cX9_isFolded 186 = .ok (.aload_n 0, 1) := by decide +kernel
theorem dX9_isFolded_187 : decode cX9_isFolded 187 = .ok (.invokevirtual 233, 3) := by decide +kernel
theorem dX9_isFolded_190 : decode cX9_isFolded 190 = .ok (.iastore, 1) := by decide +kernel
theorem dX9_isFolded_191 : decode cX9_isFolded 191 = .ok (.iconst 1, 1) := by decide +kernel
theorem dX9_isFolded_192 : decode cX9_isFolded 192 = .ok (.istore 7, 2) := by decide +kernel
theorem dX9_isFolded_194 : decode cX9_isFolded 194 = .ok (.iload 8, 2) := by decide +kernel
theorem dX9_isFolded_196 : decode cX9_isFolded 196 = .ok (.ifCond .eq 33, 3) := by decide +kernel
theorem dX9_isFolded_199 : decode cX9_isFolded 199 = .ok (.aload_n 0, 1) := by decide +kernel
theorem dX9_isFolded_200 : decode cX9_isFolded 200 = .ok (.getfield 32, 3) := by decide +kernel
theorem dX9_isFolded_203 : decode cX9_isFolded 203 = .ok (.iload 11, 2) := by decide +kernel
theorem dX9_isFolded_205 : decode cX9_isFolded 205 = .ok (.iaload, 1) := by decide +kernel
theorem dX9_isFolded_206 : decode cX9_isFolded 206 = .ok (.iload 12, 2) := by decide +kernel
theorem dX9_isFolded_208 : decode cX9_isFolded 208 = .ok (.if_icmp .ne 21, 3) := by decide +kernel
theorem dX9_isFolded_211 : decode cX9_isFolded 211 = .ok (.aload_n 0, 1) := by decide +kernel
theorem dX9_isFolded_212 : decode cX9_isFolded 212 = .ok (.getfield 35, 3) := by decide +kernel
theorem dX9_isFolded_215 : decode cX9_isFolded 215 = .ok (.iload 11, 2) := by decide +kernel
theorem dX9_isFolded_217 : decode cX9_isFolded 217 = .ok (.iaload, 1) := by decide +kernel
theorem dX9_isFolded_218 : decode cX9_isFolded 218 = .ok (.aload_n 0, 1) := by decide +kernel
theorem dX9_isFolded_219 : decode cX9_isFolded 219 = .ok (.invokevirtual 233, 3) := by decide +kernel
theorem dX9_isFolded_222 : decode cX9_isFolded 222 = .ok (.if_icmp .ne 7, 3) := by decide +kernel
theorem dX9_isFolded_225 : decode cX9_isFolded 225 = .ok (.iconst 1, 1) := by decide +kernel
theorem dX9_isFolded_226 : decode cX9_isFolded 226 = .ok (.goto 4, 3) := by decide +kernel
theorem dX9_isFolded_229 : decode cX9_isFolded 229 = .ok (.iconst 0, 1) := by decide +kernel
theorem dX9_isFolded_230 : decode cX9_isFolded 230 = .ok (.istore 8, 2) := by decide +kernel
theorem dX9_isFolded_232 : decode cX9_isFolded 232 = .ok (.iinc 10 1, 3) := by decide +kernel
theorem dX9_isFolded_235 : decode cX9_isFolded 235 = .ok (.goto (-154), 3) := by decide +kernel
theorem dX9_isFolded_238 : decode cX9_isFolded 238 = .ok (.iinc 9 1, 3) := by decide +kernel
theorem dX9_isFolded_241 : decode cX9_isFolded 241 = .ok (.goto (-170), 3) := by decide +kernel
theorem dX9_isFolded_244 : decode cX9_isFolded 244 = .ok (.goto (-189), 3) := by decide +kernel
theorem dX9_isFolded_247 : decode cX9_isFolded 247 = .ok (.iconst 0, 1) := by decide +kernel
theorem dX9_isFolded_248 : decode cX9_isFolded 248 = .ok (.istore 9, 2) := by decide +kernel
theorem dX9_isFolded_250 : decode cX9_isFolded 250 = .ok (.iconst 0, 1) := by decide +kernel
theorem dX9_isFolded_251 : decode cX9_isFolded 251 = .ok (.istore 10, 2) := by decide +kernel
theorem dX9_isFolded_253 : decode cX9_isFolded 253 = .ok (.iload 10, 2) := by decide +kernel
theorem dX9_isFolded_255 : decode cX9_isFolded 255 = .ok (.bipush 64, 2) := by decide +kernel
theorem dX9_isFolded_257 : decode cX9_isFolded 257 = .ok (.if_icmp .ge 59, 3) := by decide +kernel
theorem dX9_isFolded_260 : decode cX9_isFolded 260 = .ok (.iload 8, 2) := by decide +kernel
theorem dX9_isFolded_262 : decode cX9_isFolded 262 = .ok (.ifCond .eq 54, 3) := by decide +kernel
theorem dX9_isFolded_265 : decode cX9_isFolded 265 = .ok (.lload_n 1, 1) := by decide +kernel
theorem dX9_isFolded_266 : decode cX9_isFolded 266 = .ok (.iload 10, 2) := by decide +kernel
theorem dX9_isFolded_268 : decode cX9_isFolded 268 = .ok (.invokestatic 133, 3) := by decide +kernel
theorem dX9_isFolded_271 : decode cX9_isFolded 271 = .ok (.ifCond .eq 39, 3) := by decide +kernel
theorem dX9_isFolded_274 : decode cX9_isFolded 274 = .ok (.iload 9, 2) := by decide +kernel
theorem dX9_isFolded_276 : decode cX9_isFolded 276 = .ok (.aload_n 0, 1) := by decide +kernel
theorem dX9_isFolded_277 : decode cX9_isFolded 277 = .ok (.getfield 32, 3) := by decide +kernel
theorem dX9_isFolded_280 : decode cX9_isFolded 280 = .ok (.iload 10, 2) := by decide +kernel
theorem dX9_isFolded_282 : decode cX9_isFolded 282 = .ok (.iaload, 1) := by decide +kernel
theorem dX9_isFolded_283 : decode cX9_isFolded 283 = .ok (.ishr, 1) := by decide +kernel
theorem dX9_isFolded_284 : decode cX9_isFolded 284 = .ok (.iconst 1, 1) := by decide +kernel
theorem dX9_isFolded_285 : decode cX9_isFolded 285 = .ok (.iand, 1) := by decide +kernel
theorem dX9_isFolded_286 : decode cX9_isFolded 286 = .ok (.ifCond .ne 7, 3) := by decide +kernel
theorem dX9_isFolded_289 : decode cX9_isFolded 289 = .ok (.iconst 1, 1) := by decide +kernel
theorem dX9_isFolded_290 : decode cX9_isFolded 290 = .ok (.goto 4, 3) := by decide +kernel
theorem dX9_isFolded_293 : decode cX9_isFolded 293 = .ok (.iconst 0, 1) := by decide +kernel
theorem dX9_isFolded_294 : decode cX9_isFolded 294 = .ok (.istore 8, 2) := by decide +kernel
theorem dX9_isFolded_296 : decode cX9_isFolded 296 = .ok (.iload 9, 2) := by decide +kernel
theorem dX9_isFolded_298 : decode cX9_isFolded 298 = .ok (.iconst 1, 1) := by decide +kernel
theorem dX9_isFolded_299 : decode cX9_isFolded 299 = .ok (.aload_n 0, 1) := by decide +kernel
theorem dX9_isFolded_300 : decode cX9_isFolded 300 = .ok (.getfield 32, 3) := by decide +kernel
theorem dX9_isFolded_303 : decode cX9_isFolded 303 = .ok (.iload 10, 2) := by decide +kernel
theorem dX9_isFolded_305 : decode cX9_isFolded 305 = .ok (.iaload, 1) := by decide +kernel
theorem dX9_isFolded_306 : decode cX9_isFolded 306 = .ok (.ishl, 1) := by decide +kernel
theorem dX9_isFolded_307 : decode cX9_isFolded 307 = .ok (.ior, 1) := by decide +kernel
theorem dX9_isFolded_308 : decode cX9_isFolded 308 = .ok (.istore 9, 2) := by decide +kernel
theorem dX9_isFolded_310 : decode cX9_isFolded 310 = .ok (.iinc 10 1, 3) := by decide +kernel
theorem dX9_isFolded_313 : decode cX9_isFolded 313 = .ok (.goto (-60), 3) := by decide +kernel
theorem dX9_isFolded_316 : decode cX9_isFolded 316 = .ok (.iload 8, 2) := by decide +kernel
theorem dX9_isFolded_318 : decode cX9_isFolded 318 = .ok (.ireturn, 1) := by decide +kernel
theorem dX9_askedBoth_0 : decode cX9_askedBoth 0 = .ok (.iload_n 1, 1) := by decide +kernel
theorem dX9_askedBoth_1 : decode cX9_askedBoth 1 = .ok (.invokestatic 125, 3) := by decide +kernel
theorem dX9_askedBoth_4 : decode cX9_askedBoth 4 = .ok (.ifCond .eq 10, 3) := by decide +kernel
theorem dX9_askedBoth_7 : decode cX9_askedBoth 7 = .ok (.iload_n 2, 1) := by decide +kernel
theorem dX9_askedBoth_8 : decode cX9_askedBoth 8 = .ok (.invokestatic 174, 3) := by decide +kernel
theorem dX9_askedBoth_11 : decode cX9_askedBoth 11 = .ok (.ifCond .ne 5, 3) := by decide +kernel
theorem dX9_askedBoth_14 : decode cX9_askedBoth 14 = .ok (.iconst (-1), 1) := by decide +kernel
theorem dX9_askedBoth_15 : decode cX9_askedBoth 15 = .ok (.ireturn, 1) := by decide +kernel
theorem dX9_askedBoth_16 : decode cX9_askedBoth 16 = .ok (.aload_n 0, 1) := by decide +kernel
theorem dX9_askedBoth_17 : decode cX9_askedBoth 17 = .ok (.getfield 13, 3) := by decide +kernel
theorem dX9_askedBoth_20 : decode cX9_askedBoth 20 = .ok (.iload_n 1, 1) := by decide +kernel
theorem dX9_askedBoth_21 : decode cX9_askedBoth 21 = .ok (.laload, 1) := by decide +kernel
theorem dX9_askedBoth_22 : decode cX9_askedBoth 22 = .ok (.lconst 0, 1) := by decide +kernel
theorem dX9_askedBoth_23 : decode cX9_askedBoth 23 = .ok (.lcmp, 1) := by decide +kernel
theorem dX9_askedBoth_24 : decode cX9_askedBoth 24 = .ok (.ifCond .eq 14, 3) := by decide +kernel
theorem dX9_askedBoth_27 : decode cX9_askedBoth 27 = .ok (.aload_n 0, 1) := by decide +kernel
theorem dX9_askedBoth_28 : decode cX9_askedBoth 28 = .ok (.getfield 26, 3) := by decide +kernel
theorem dX9_askedBoth_31 : decode cX9_askedBoth 31 = .ok (.iconst 3, 1) := by decide +kernel
theorem dX9_askedBoth_32 : decode cX9_askedBoth 32 = .ok (.iload_n 2, 1) := by decide +kernel
theorem dX9_askedBoth_33 : decode cX9_askedBoth 33 = .ok (.imul, 1) := by decide +kernel
theorem dX9_askedBoth_34 : decode cX9_askedBoth 34 = .ok (.iaload, 1) := by decide +kernel
theorem dX9_askedBoth_35 : decode cX9_askedBoth 35 = .ok (.ifCond .ne 11, 3) := by decide +kernel
theorem dX9_askedBoth_38 : decode cX9_askedBoth 38 = .ok (.aload_n 0, 1) := by decide +kernel
theorem dX9_askedBoth_39 : decode cX9_askedBoth 39 = .ok (.iconst 1, 1) := by decide +kernel
theorem dX9_askedBoth_40 : decode cX9_askedBoth 40 = .ok (.invokevirtual 129, 3) := by decide +kernel
theorem dX9_askedBoth_43 : decode cX9_askedBoth 43 = .ok (.goto 4, 3) := by decide +kernel
theorem dX9_askedBoth_46 : decode cX9_askedBoth 46 = .ok (.iconst 0, 1) := by decide +kernel
theorem dX9_askedBoth_47 : decode cX9_askedBoth 47 = .ok (.ireturn, 1) := by decide +kernel
theorem dX9_foldsTo_0 : decode cX9_foldsTo 0 = .ok (.aload_n 0, 1) := by decide +kernel
theorem dX9_foldsTo_1 : decode cX9_foldsTo 1 = .ok (.aload_n 0, 1) := by decide +kernel
theorem dX9_foldsTo_2 : decode cX9_foldsTo 2 = .ok (.getfield 13, 3) := by decide +kernel
theorem dX9_foldsTo_5 : decode cX9_foldsTo 5 = .ok (.iload_n 1, 1) := by decide +kernel
theorem dX9_foldsTo_6 : decode cX9_foldsTo 6 = .ok (.laload, 1) := by decide +kernel
theorem dX9_foldsTo_7 : decode cX9_foldsTo 7 = .ok (.iload_n 2, 1) := by decide +kernel
theorem dX9_foldsTo_8 : decode cX9_foldsTo 8 = .ok (.iload_n 3, 1) := by decide +kernel
theorem dX9_foldsTo_9 : decode cX9_foldsTo 9 = .ok (.iload 4, 2) := by decide +kernel
theorem dX9_foldsTo_11 : decode cX9_foldsTo 11 = .ok (.invokevirtual 240, 3) := by decide +kernel
theorem dX9_foldsTo_14 : decode cX9_foldsTo 14 = .ok (.ifCond .ne 7, 3) := by decide +kernel
theorem dX9_foldsTo_17 : decode cX9_foldsTo 17 = .ok (.iconst 0, 1) := by decide +kernel
theorem dX9_foldsTo_18 : decode cX9_foldsTo 18 = .ok (.goto 25, 3) := by decide +kernel
theorem dX9_foldsTo_21 : decode cX9_foldsTo 21 = .ok (.aload_n 0, 1) := by decide +kernel
theorem dX9_foldsTo_22 : decode cX9_foldsTo 22 = .ok (.getfield 13, 3) := by decide +kernel
theorem dX9_foldsTo_25 : decode cX9_foldsTo 25 = .ok (.iload_n 1, 1) := by decide +kernel
theorem dX9_foldsTo_26 : decode cX9_foldsTo 26 = .ok (.laload, 1) := by decide +kernel
theorem dX9_foldsTo_27 : decode cX9_foldsTo 27 = .ok (.invokestatic 149, 3) := by decide +kernel
theorem dX9_foldsTo_30 : decode cX9_foldsTo 30 = .ok (.aload_n 0, 1) := by decide +kernel
theorem dX9_foldsTo_31 : decode cX9_foldsTo 31 = .ok (.iload_n 2, 1) := by decide +kernel
theorem dX9_foldsTo_32 : decode cX9_foldsTo 32 = .ok (.invokevirtual 181, 3) := by decide +kernel
theorem dX9_foldsTo_35 : decode cX9_foldsTo 35 = .ok (.if_icmp .ne 7, 3) := by decide +kernel
theorem dX9_foldsTo_38 : decode cX9_foldsTo 38 = .ok (.iconst 2, 1) := by decide +kernel
theorem dX9_foldsTo_39 : decode cX9_foldsTo 39 = .ok (.goto 4, 3) := by decide +kernel
theorem dX9_foldsTo_42 : decode cX9_foldsTo 42 = .ok (.iconst 1, 1) := by decide +kernel
theorem dX9_foldsTo_43 : decode cX9_foldsTo 43 = .ok (.ireturn, 1) := by decide +kernel
theorem dX9_folds_0 : decode cX9_folds 0 = .ok (.iload 4, 2) := by decide +kernel
theorem dX9_folds_2 : decode cX9_folds 2 = .ok (.iconst 0, 1) := by decide +kernel
theorem dX9_folds_3 : decode cX9_folds 3 = .ok (.iconst 3, 1) := by decide +kernel
theorem dX9_folds_4 : decode cX9_folds 4 = .ok (.invokestatic 121, 3) := by decide +kernel
theorem dX9_folds_7 : decode cX9_folds 7 = .ok (.ifCond .ne 5, 3) := by decide +kernel
theorem dX9_folds_10 : decode cX9_folds 10 = .ok (.iconst (-1), 1) := by decide +kernel
theorem dX9_folds_11 : decode cX9_folds 11 = .ok (.ireturn, 1) := by decide +kernel
theorem dX9_folds_12 : decode cX9_folds 12 = .ok (.aload_n 0, 1) := by decide +kernel
theorem dX9_folds_13 : decode cX9_folds 13 = .ok (.iload_n 1, 1) := by decide +kernel
theorem dX9_folds_14 : decode cX9_folds 14 = .ok (.iload_n 2, 1) := by decide +kernel
theorem dX9_folds_15 : decode cX9_folds 15 = .ok (.invokevirtual 244, 3) := by decide +kernel
theorem dX9_folds_18 : decode cX9_folds 18 = .ok (.istore 5, 2) := by decide +kernel
theorem dX9_folds_20 : decode cX9_folds 20 = .ok (.iload 5, 2) := by decide +kernel
theorem dX9_folds_22 : decode cX9_folds 22 = .ok (.ifCond .ge 6, 3) := by decide +kernel
theorem dX9_folds_25 : decode cX9_folds 25 = .ok (.iload 5, 2) := by decide +kernel
theorem dX9_folds_27 : decode cX9_folds 27 = .ok (.ireturn, 1) := by decide +kernel
theorem dX9_folds_28 : decode cX9_folds 28 = .ok (.aload_n 0, 1) := by decide +kernel
theorem dX9_folds_29 : decode cX9_folds 29 = .ok (.iload_n 2, 1) := by decide +kernel
theorem dX9_folds_30 : decode cX9_folds 30 = .ok (.iload_n 3, 1) := by decide +kernel
theorem dX9_folds_31 : decode cX9_folds 31 = .ok (.invokevirtual 218, 3) := by decide +kernel
theorem dX9_folds_34 : decode cX9_folds 34 = .ok (.ifCond .eq 15, 3) := by decide +kernel
theorem dX9_folds_37 : decode cX9_folds 37 = .ok (.aload_n 0, 1) := by decide +kernel
theorem dX9_folds_38 : decode cX9_folds 38 = .ok (.iload_n 1, 1) := by decide +kernel
theorem dX9_folds_39 : decode cX9_folds 39 = .ok (.iload_n 2, 1) := by decide +kernel
theorem dX9_folds_40 : decode cX9_folds 40 = .ok (.iload_n 3, 1) := by decide +kernel
theorem dX9_folds_41 : decode cX9_folds 41 = .ok (.iload 4, 2) := by decide +kernel
theorem dX9_folds_43 : decode cX9_folds 43 = .ok (.invokevirtual 247, 3) := by decide +kernel
theorem dX9_folds_46 : decode cX9_folds 46 = .ok (.goto 8, 3) := by decide +kernel
theorem dX9_folds_49 : decode cX9_folds 49 = .ok (.aload_n 0, 1) := by decide +kernel
theorem dX9_folds_50 : decode cX9_folds 50 = .ok (.iconst 2, 1) := by decide +kernel
theorem dX9_folds_51 : decode cX9_folds 51 = .ok (.invokevirtual 129, 3) := by decide +kernel
theorem dX9_folds_54 : decode cX9_folds 54 = .ok (.ireturn, 1) := by decide +kernel
theorem dX9_lies_0 : decode cX9_lies 0 = .ok (.iload 4, 2) := by decide +kernel
theorem dX9_lies_2 : decode cX9_lies 2 = .ok (.iconst 0, 1) := by decide +kernel
theorem dX9_lies_3 : decode cX9_lies 3 = .ok (.iconst 3, 1) := by decide +kernel
theorem dX9_lies_4 : decode cX9_lies 4 = .ok (.invokestatic 121, 3) := by decide +kernel
theorem dX9_lies_7 : decode cX9_lies 7 = .ok (.ifCond .eq 14, 3) := by decide +kernel
theorem dX9_lies_10 : decode cX9_lies 10 = .ok (.iload 5, 2) := by decide +kernel
theorem dX9_lies_12 : decode cX9_lies 12 = .ok (.iconst 0, 1) := by decide +kernel
theorem dX9_lies_13 : decode cX9_lies 13 = .ok (.bipush 63, 2) := by decide +kernel
theorem dX9_lies_15 : decode cX9_lies 15 = .ok (.invokestatic 121, 3) := by decide +kernel
theorem dX9_lies_18 : decode cX9_lies 18 = .ok (.ifCond .ne 5, 3) := by decide +kernel
theorem dX9_lies_21 : decode cX9_lies 21 = .ok (.iconst (-1), 1) := by decide +kernel
theorem dX9_lies_22 : decode cX9_lies 22 = .ok (.ireturn, 1) := by decide +kernel
theorem dX9_lies_23 : decode cX9_lies 23 = .ok (.aload_n 0, 1) := by decide +kernel
theorem dX9_lies_24 : decode cX9_lies 24 = .ok (.iload_n 1, 1) := by decide +kernel
theorem dX9_lies_25 : decode cX9_lies 25 = .ok (.iload_n 2, 1) := by decide +kernel
theorem dX9_lies_26 : decode cX9_lies 26 = .ok (.invokevirtual 244, 3) := by decide +kernel
theorem dX9_lies_29 : decode cX9_lies 29 = .ok (.istore 6, 2) := by decide +kernel
theorem dX9_lies_31 : decode cX9_lies 31 = .ok (.iload 6, 2) := by decide +kernel
theorem dX9_lies_33 : decode cX9_lies 33 = .ok (.ifCond .ge 6, 3) := by decide +kernel
theorem dX9_lies_36 : decode cX9_lies 36 = .ok (.iload 6, 2) := by decide +kernel
theorem dX9_lies_38 : decode cX9_lies 38 = .ok (.ireturn, 1) := by decide +kernel
theorem dX9_lies_39 : decode cX9_lies 39 = .ok (.aload_n 0, 1) := by decide +kernel
theorem dX9_lies_40 : decode cX9_lies 40 = .ok (.iload_n 2, 1) := by decide +kernel
theorem dX9_lies_41 : decode cX9_lies 41 = .ok (.iload_n 3, 1) := by decide +kernel
theorem dX9_lies_42 : decode cX9_lies 42 = .ok (.invokevirtual 218, 3) := by decide +kernel
theorem dX9_lies_45 : decode cX9_lies 45 = .ok (.ifCond .ne 9, 3) := by decide +kernel
theorem dX9_lies_48 : decode cX9_lies 48 = .ok (.aload_n 0, 1) := by decide +kernel
theorem dX9_lies_49 : decode cX9_lies 49 = .ok (.iconst 2, 1) := by decide +kernel
theorem dX9_lies_50 : decode cX9_lies 50 = .ok (.invokevirtual 129, 3) := by decide +kernel
theorem dX9_lies_53 : decode cX9_lies 53 = .ok (.ireturn, 1) := by decide +kernel
theorem dX9_lies_54 : decode cX9_lies 54 = .ok (.aload_n 0, 1) := by decide +kernel
theorem dX9_lies_55 : decode cX9_lies 55 = .ok (.aload_n 0, 1) := by decide +kernel
theorem dX9_lies_56 : decode cX9_lies 56 = .ok (.getfield 13, 3) := by decide +kernel
theorem dX9_lies_59 : decode cX9_lies 59 = .ok (.iload_n 1, 1) := by decide +kernel
theorem dX9_lies_60 : decode cX9_lies 60 = .ok (.laload, 1) := by decide +kernel
theorem dX9_lies_61 : decode cX9_lies 61 = .ok (.iload_n 2, 1) := by decide +kernel
theorem dX9_lies_62 : decode cX9_lies 62 = .ok (.iload_n 3, 1) := by decide +kernel
theorem dX9_lies_63 : decode cX9_lies 63 = .ok (.iload 4, 2) := by decide +kernel
theorem dX9_lies_65 : decode cX9_lies 65 = .ok (.invokevirtual 240, 3) := by decide +kernel
theorem dX9_lies_68 : decode cX9_lies 68 = .ok (.ifCond .eq 27, 3) := by decide +kernel
theorem dX9_lies_71 : decode cX9_lies 71 = .ok (.aload_n 0, 1) := by decide +kernel
theorem dX9_lies_72 : decode cX9_lies 72 = .ok (.getfield 13, 3) := by decide +kernel
theorem dX9_lies_75 : decode cX9_lies 75 = .ok (.iload_n 1, 1) := by decide +kernel
theorem dX9_lies_76 : decode cX9_lies 76 = .ok (.laload, 1) := by decide +kernel
theorem dX9_lies_77 : decode cX9_lies 77 = .ok (.iload 5, 2) := by decide +kernel
theorem dX9_lies_79 : decode cX9_lies 79 = .ok (.invokestatic 133, 3) := by decide +kernel
theorem dX9_lies_82 : decode cX9_lies 82 = .ok (.ifCond .eq 13, 3) := by decide +kernel
theorem dX9_lies_85 : decode cX9_lies 85 = .ok (.aload_n 0, 1) := by decide +kernel
theorem dX9_lies_86 : decode cX9_lies 86 = .ok (.getfield 32, 3) := by decide +kernel
theorem dX9_lies_89 : decode cX9_lies 89 = .ok (.iload 5, 2) := by decide +kernel
theorem dX9_lies_91 : decode cX9_lies 91 = .ok (.iaload, 1) := by decide +kernel
theorem dX9_lies_92 : decode cX9_lies 92 = .ok (.goto 5, 3) := by decide +kernel
theorem dX9_lies_95 : decode cX9_lies 95 = .ok (.bipush (-9), 2) := by decide +kernel
theorem dX9_lies_97 : decode cX9_lies 97 = .ok (.ireturn, 1) := by decide +kernel
theorem dX9_wholes_0 : decode cX9_wholes 0 = .ok (.aload_n 0, 1) := by decide +kernel
theorem dX9_wholes_1 : decode cX9_wholes 1 = .ok (.iload_n 1, 1) := by decide +kernel
theorem dX9_wholes_2 : decode cX9_wholes 2 = .ok (.iload_n 2, 1) := by decide +kernel
theorem dX9_wholes_3 : decode cX9_wholes 3 = .ok (.invokevirtual 244, 3) := by decide +kernel
theorem dX9_wholes_6 : decode cX9_wholes 6 = .ok (.istore_n 3, 1) := by decide +kernel
theorem dX9_wholes_7 : decode cX9_wholes 7 = .ok (.iload_n 3, 1) := by decide +kernel
theorem dX9_wholes_8 : decode cX9_wholes 8 = .ok (.ifCond .ge 5, 3) := by decide +kernel
theorem dX9_wholes_11 : decode cX9_wholes 11 = .ok (.iload_n 3, 1) := by decide +kernel
theorem dX9_wholes_12 : decode cX9_wholes 12 = .ok (.ireturn, 1) := by decide +kernel
theorem dX9_wholes_13 : decode cX9_wholes 13 = .ok (.iconst 0, 1) := by decide +kernel
theorem dX9_wholes_14 : decode cX9_wholes 14 = .ok (.istore 4, 2) := by decide +kernel
theorem dX9_wholes_16 : decode cX9_wholes 16 = .ok (.iconst 0, 1) := by decide +kernel
theorem dX9_wholes_17 : decode cX9_wholes 17 = .ok (.istore 5, 2) := by decide +kernel
theorem dX9_wholes_19 : decode cX9_wholes 19 = .ok (.iload 5, 2) := by decide +kernel
theorem dX9_wholes_21 : decode cX9_wholes 21 = .ok (.iconst 4, 1) := by decide +kernel
theorem dX9_wholes_22 : decode cX9_wholes 22 = .ok (.aload_n 0, 1) := by decide +kernel
theorem dX9_wholes_23 : decode cX9_wholes 23 = .ok (.iload_n 2, 1) := by decide +kernel
theorem dX9_wholes_24 : decode cX9_wholes 24 = .ok (.invokevirtual 181, 3) := by decide +kernel
theorem dX9_wholes_27 : decode cX9_wholes 27 = .ok (.imul, 1) := by decide +kernel
theorem dX9_wholes_28 : decode cX9_wholes 28 = .ok (.if_icmp .ge 49, 3) := by decide +kernel
theorem dX9_wholes_31 : decode cX9_wholes 31 = .ok (.aload_n 0, 1) := by decide +kernel
theorem dX9_wholes_32 : decode cX9_wholes 32 = .ok (.iload_n 1, 1) := by decide +kernel
theorem dX9_wholes_33 : decode cX9_wholes 33 = .ok (.iload_n 2, 1) := by decide +kernel
theorem dX9_wholes_34 : decode cX9_wholes 34 = .ok (.iload 5, 2) := by decide +kernel
theorem dX9_wholes_36 : decode cX9_wholes 36 = .ok (.iconst 4, 1) := by decide +kernel
theorem dX9_wholes_37 : decode cX9_wholes 37 = .ok (.idiv, 1) := by decide +kernel
theorem dX9_wholes_38 : decode cX9_wholes 38 = .ok (.iload 5, 2) := by decide +kernel
theorem dX9_wholes_40 : decode cX9_wholes 40 = .ok (.iconst 4, 1) := by decide +kernel
theorem dX9_wholes_41 : decode cX9_wholes 41 = .ok (.irem, 1) := by decide +kernel
theorem dX9_wholes_42 : decode cX9_wholes 42 = .ok (.invokevirtual 247, 3) := by decide +kernel
theorem dX9_wholes_45 : decode cX9_wholes 45 = .ok (.iconst 2, 1) := by decide +kernel
theorem dX9_wholes_46 : decode cX9_wholes 46 = .ok (.if_icmp .ne 25, 3) := by decide +kernel
theorem dX9_wholes_49 : decode cX9_wholes 49 = .ok (.aload_n 0, 1) := by decide +kernel
theorem dX9_wholes_50 : decode cX9_wholes 50 = .ok (.iload 4, 2) := by decide +kernel
theorem dX9_wholes_52 : decode cX9_wholes 52 = .ok (.ifCond .ne 9, 3) := by decide +kernel
theorem dX9_wholes_55 : decode cX9_wholes 55 = .ok (.iload 5, 2) := by decide +kernel
theorem dX9_wholes_57 : decode cX9_wholes 57 = .ok (.i2l, 1) := by decide +kernel
theorem dX9_wholes_58 : decode cX9_wholes 58 = .ok (.goto 7, 3) := by decide +kernel
theorem dX9_wholes_61 : decode cX9_wholes 61 = .ok (.aload_n 0, 1) := by decide +kernel
theorem dX9_wholes_62 : decode cX9_wholes 62 = .ok (.getfield 117, 3) := by decide +kernel
theorem dX9_wholes_65 : decode cX9_wholes 65 = .ok (.putfield 117, 3) := by decide +kernel
theorem dX9_wholes_68 : decode cX9_wholes 68 = .ok (.iinc 4 1, 3) := by decide +kernel
theorem dX9_wholes_71 : decode cX9_wholes 71 = .ok (.iinc 5 1, 3) := by decide +kernel
theorem dX9_wholes_74 : decode cX9_wholes 74 = .ok (.goto (-55), 3) := by decide +kernel
theorem dX9_wholes_77 : decode cX9_wholes 77 = .ok (.iload 4, 2) := by decide +kernel
theorem dX9_wholes_79 : decode cX9_wholes 79 = .ok (.ireturn, 1) := by decide +kernel
theorem dX9_lays_0 : decode cX9_lays 0 = .ok (.iconst 0, 1) := by decide +kernel
theorem dX9_lays_1 : decode cX9_lays 1 = .ok (.istore 6, 2) := by decide +kernel
theorem dX9_lays_3 : decode cX9_lays 3 = .ok (.iload 6, 2) := by decide +kernel
theorem dX9_lays_5 : decode cX9_lays 5 = .ok (.bipush 24, 2) := by decide +kernel
theorem dX9_lays_7 : decode cX9_lays 7 = .ok (.if_icmp .ge 18, 3) := by decide +kernel
theorem dX9_lays_10 : decode cX9_lays 10 = .ok (.aload_n 0, 1) := by decide +kernel
theorem dX9_lays_11 : decode cX9_lays 11 = .ok (.getfield 41, 3) := by decide +kernel
theorem dX9_lays_14 : decode cX9_lays 14 = .ok (.iload 6, 2) := by decide +kernel
theorem dX9_lays_16 : decode cX9_lays 16 = .ok (.bipush (-9), 2) := by decide +kernel
theorem dX9_lays_18 : decode cX9_lays 18 = .ok (.iastore, 1) := by decide +kernel
theorem dX9_lays_19 : decode cX9_lays 19 = .ok (.iinc 6 1, 3) := by decide +kernel
theorem dX9_lays_22 : decode cX9_lays 22 = .ok (.goto (-19), 3) := by decide +kernel
theorem dX9_lays_25 : decode cX9_lays 25 = .ok (.aload_n 0, 1) := by decide +kernel
theorem dX9_lays_26 : decode cX9_lays 26 = .ok (.getfield 38, 3) := by decide +kernel
theorem dX9_lays_29 : decode cX9_lays 29 = .ok (.iconst 0, 1) := by decide +kernel
theorem dX9_lays_30 : decode cX9_lays 30 = .ok (.iload_n 2, 1) := by decide +kernel
theorem dX9_lays_31 : decode cX9_lays 31 = .ok (.iastore, 1) := by decide +kernel
theorem dX9_lays_32 : decode cX9_lays 32 = .ok (.aload_n 0, 1) := by decide +kernel
theorem dX9_lays_33 : decode cX9_lays 33 = .ok (.getfield 41, 3) := by decide +kernel
theorem dX9_lays_36 : decode cX9_lays 36 = .ok (.iload_n 2, 1) := by decide +kernel
theorem dX9_lays_37 : decode cX9_lays 37 = .ok (.iload_n 3, 1) := by decide +kernel
theorem dX9_lays_38 : decode cX9_lays 38 = .ok (.iastore, 1) := by decide +kernel
theorem dX9_lays_39 : decode cX9_lays 39 = .ok (.aload_n 0, 1) := by decide +kernel
theorem dX9_lays_40 : decode cX9_lays 40 = .ok (.getfield 44, 3) := by decide +kernel
theorem dX9_lays_43 : decode cX9_lays 43 = .ok (.iload_n 2, 1) := by decide +kernel
theorem dX9_lays_44 : decode cX9_lays 44 = .ok (.iconst 0, 1) := by decide +kernel
theorem dX9_lays_45 : decode cX9_lays 45 = .ok (.iastore, 1) := by decide +kernel
theorem dX9_lays_46 : decode cX9_lays 46 = .ok (.iconst 1, 1) := by decide +kernel
theorem dX9_lays_47 : decode cX9_lays 47 = .ok (.istore 6, 2) := by decide +kernel
theorem dX9_lays_49 : decode cX9_lays 49 = .ok (.lconst 1, 1) := by decide +kernel
theorem dX9_lays_50 : decode cX9_lays 50 = .ok (.iload_n 3, 1) := by decide +kernel
theorem dX9_lays_51 : decode cX9_lays 51 = .ok (.lshl, 1) := by decide +kernel
theorem dX9_lays_52 : decode cX9_lays 52 = .ok (.lstore 7, 2) := by decide +kernel
theorem dX9_lays_54 : decode cX9_lays 54 = .ok (.iconst 0, 1) := by decide +kernel
theorem dX9_lays_55 : decode cX9_lays 55 = .ok (.istore 9, 2) := by decide +kernel
theorem dX9_lays_57 : decode cX9_lays 57 = .ok (.iload 9, 2) := by decide +kernel
theorem dX9_lays_59 : decode cX9_lays 59 = .ok (.iload 6, 2) := by decide +kernel
theorem dX9_lays_61 : decode cX9_lays 61 = .ok (.if_icmp .ge 199, 3) := by decide +kernel
theorem dX9_lays_64 : decode cX9_lays 64 = .ok (.aload_n 0, 1) := by decide +kernel
theorem dX9_lays_65 : decode cX9_lays 65 = .ok (.getfield 38, 3) := by decide +kernel
theorem dX9_lays_68 : decode cX9_lays 68 = .ok (.iload 9, 2) := by decide +kernel
theorem dX9_lays_70 : decode cX9_lays 70 = .ok (.iaload, 1) := by decide +kernel
theorem dX9_lays_71 : decode cX9_lays 71 = .ok (.istore 10, 2) := by decide +kernel
theorem dX9_lays_73 : decode cX9_lays 73 = .ok (.iload 4, 2) := by decide +kernel
theorem dX9_lays_75 : decode cX9_lays 75 = .ok (.ifCond .lt 31, 3) := by decide +kernel
theorem dX9_lays_78 : decode cX9_lays 78 = .ok (.iload 10, 2) := by decide +kernel
theorem dX9_lays_80 : decode cX9_lays 80 = .ok (.aload_n 0, 1) := by decide +kernel
theorem dX9_lays_81 : decode cX9_lays 81 = .ok (.getfield 104, 3) := by decide +kernel
theorem dX9_lays_84 : decode cX9_lays 84 = .ok (.iload 4, 2) := by decide +kernel
theorem dX9_lays_86 : decode cX9_lays 86 = .ok (.iaload, 1) := by decide +kernel
theorem dX9_lays_87 : decode cX9_lays 87 = .ok (.if_icmp .ge 19, 3) := by decide +kernel
theorem dX9_lays_90 : decode cX9_lays 90 = .ok (.aload_n 0, 1) := by decide +kernel
theorem dX9_lays_91 : decode cX9_lays 91 = .ok (.getfield 107, 3) := by decide +kernel
theorem dX9_lays_94 : decode cX9_lays 94 = .ok (.bipush 24, 2) := by decide +kernel
theorem dX9_lays_96 : decode cX9_lays 96 = .ok (.iload 4, 2) := by decide +kernel
theorem dX9_lays_98 : decode cX9_lays 98 = .ok (.imul, 1) := by decide +kernel
theorem dX9_lays_99 : decode cX9_lays 99 = .ok (.iload 10, 2) := by decide +kernel
theorem dX9_lays_101 : decode cX9_lays 101 = .ok (.iadd, 1) := by decide +kernel
theorem dX9_lays_102 : decode cX9_lays 102 = .ok (.iaload, 1) := by decide +kernel
theorem dX9_lays_103 : decode cX9_lays 103 = .ok (.goto 5, 3) := by decide +kernel
theorem dX9_lays_106 : decode cX9_lays 106 = .ok (.bipush 15, 2) := by decide +kernel
theorem dX9_lays_108 : decode cX9_lays 108 = .ok (.istore 11, 2) := by decide +kernel
theorem dX9_lays_110 : decode cX9_lays 110 = .ok (.iconst 0, 1) := by decide +kernel
theorem dX9_lays_111 : decode cX9_lays 111 = .ok (.istore 12, 2) := by decide +kernel
theorem dX9_lays_113 : decode cX9_lays 113 = .ok (.iload 12, 2) := by decide +kernel
theorem dX9_lays_115 : decode cX9_lays 115 = .ok (.iconst 4, 1) := by decide +kernel
theorem dX9_lays_116 : decode cX9_lays 116 = .ok (.if_icmp .ge 138, 3) := by decide +kernel
theorem dX9_lays_119 : decode cX9_lays 119 = .ok (.aload_n 0, 1) := by decide +kernel
theorem dX9_lays_120 : decode cX9_lays 120 = .ok (.iload_n 1, 1) := by decide +kernel
theorem dX9_lays_121 : decode cX9_lays 121 = .ok (.iload 10, 2) := by decide +kernel
theorem dX9_lays_123 : decode cX9_lays 123 = .ok (.invokevirtual 222, 3) := by decide +kernel
theorem dX9_lays_126 : decode cX9_lays 126 = .ok (.aload_n 0, 1) := by decide +kernel
theorem dX9_lays_127 : decode cX9_lays 127 = .ok (.aload_n 0, 1) := by decide +kernel
theorem dX9_lays_128 : decode cX9_lays 128 = .ok (.getfield 44, 3) := by decide +kernel
theorem dX9_lays_131 : decode cX9_lays 131 = .ok (.iload 10, 2) := by decide +kernel
theorem dX9_lays_133 : decode cX9_lays 133 = .ok (.iaload, 1) := by decide +kernel
theorem dX9_lays_134 : decode cX9_lays 134 = .ok (.invokevirtual 226, 3) := by decide +kernel
theorem dX9_lays_137 : decode cX9_lays 137 = .ok (.aload_n 0, 1) := by decide +kernel
theorem dX9_lays_138 : decode cX9_lays 138 = .ok (.iload_n 1, 1) := by decide +kernel
theorem dX9_lays_139 : decode cX9_lays 139 = .ok (.iload 12, 2) := by decide +kernel
theorem dX9_lays_141 : decode cX9_lays 141 = .ok (.invokevirtual 230, 3) := by decide +kernel
theorem dX9_lays_144 : decode cX9_lays 144 = .ok (.aload_n 0, 1) := by decide +kernel
theorem dX9_lays_145 : decode cX9_lays 145 = .ok (.iload_n 1, 1) := by decide +kernel
theorem dX9_lays_146 : decode cX9_lays 146 = .ok (.invokevirtual 237, 3) := by decide +kernel
theorem dX9_lays_149 : decode cX9_lays 149 = .ok (.istore 13, 2) := by decide +kernel
theorem dX9_lays_151 : decode cX9_lays 151 = .ok (.iload 11, 2) := by decide +kernel
theorem dX9_lays_153 : decode cX9_lays 153 = .ok (.iload 12, 2) := by decide +kernel
theorem dX9_lays_155 : decode cX9_lays 155 = .ok (.ishr, 1) := by decide +kernel
theorem dX9_lays_156 : decode cX9_lays 156 = .ok (.iconst 1, 1) := by decide +kernel
theorem dX9_lays_157 : decode cX9_lays 157 = .ok (.iand, 1) := by decide +kernel
theorem dX9_lays_158 : decode cX9_lays 158 = .ok (.iconst 1, 1) := by decide +kernel
theorem dX9_lays_159 : decode cX9_lays 159 = .ok (.if_icmp .ne 89, 3) := by decide +kernel
theorem dX9_lays_162 : decode cX9_lays 162 = .ok (.aload_n 0, 1) := by decide +kernel
theorem dX9_lays_163 : decode cX9_lays 163 = .ok (.getfield 41, 3) := by decide +kernel
theorem dX9_lays_166 : decode cX9_lays 166 = .ok (.iload 13, 2) := by decide +kernel
theorem dX9_lays_168 : decode cX9_lays 168 = .ok (.iaload, 1) := by decide +kernel
theorem dX9_lays_169 : decode cX9_lays 169 = .ok (.bipush (-9), 2) := by decide +kernel
theorem dX9_lays_171 : decode cX9_lays 171 = .ok (.if_icmp .ne 77, 3) := by decide +kernel
theorem dX9_lays_174 : decode cX9_lays 174 = .ok (.aload_n 0, 1) := by decide +kernel
theorem dX9_lays_175 : decode cX9_lays 175 = .ok (.getfield 41, 3) := by decide +kernel
theorem dX9_lays_178 : decode cX9_lays 178 = .ok (.iload 10, 2) := by decide +kernel
theorem dX9_lays_180 : decode cX9_lays 180 = .ok (.iaload, 1) := by decide +kernel
theorem dX9_lays_181 : decode cX9_lays 181 = .ok (.iload 12, 2) := by decide +kernel
theorem dX9_lays_183 : decode cX9_lays 183 = .ok (.invokestatic 141, 3) := by decide +kernel
theorem dX9_lays_186 : decode cX9_lays 186 = .ok (.istore 14, 2) := by decide +kernel
theorem dX9_lays_188 : decode cX9_lays 188 = .ok (.iload 14, 2) := by decide +kernel
theorem dX9_lays_190 : decode cX9_lays 190 = .ok (.bipush (-9), 2) := by decide +kernel
theorem dX9_lays_192 : decode cX9_lays 192 = .ok (.if_icmp .eq 13, 3) := by decide +kernel
theorem dX9_lays_195 : decode cX9_lays 195 = .ok (.lload 7, 2) := by decide +kernel
theorem dX9_lays_197 : decode cX9_lays 197 = .ok (.iload 14, 2) := by decide +kernel
theorem dX9_lays_199 : decode cX9_lays 199 = .ok (.invokestatic 133, 3) := by decide +kernel
theorem dX9_lays_202 : decode cX9_lays 202 = .ok (.ifCond .eq 5, 3) := by decide +kernel
theorem dX9_lays_205 : decode cX9_lays 205 = .ok (.iconst 0, 1) := by decide +kernel
theorem dX9_lays_206 : decode cX9_lays 206 = .ok (.ireturn, 1) := by decide +kernel
theorem dX9_lays_207 : decode cX9_lays 207 = .ok (.aload_n 0, 1) := by decide +kernel
theorem dX9_lays_208 : decode cX9_lays 208 = .ok (.getfield 41, 3) := by decide +kernel
theorem dX9_lays_211 : decode cX9_lays 211 = .ok (.iload 13, 2) := by decide +kernel
theorem dX9_lays_213 : decode cX9_lays 213 = .ok (.iload 14, 2) := by decide +kernel
theorem dX9_lays_215 : decode cX9_lays 215 = .ok (.iastore, 1) := by decide +kernel
theorem dX9_lays_216 : decode cX9_lays 216 = .ok (.aload_n 0, 1) := by decide +kernel
theorem dX9_lays_217 : decode cX9_lays 217 = .ok (.getfield 44, 3) := by decide +kernel
theorem dX9_lays_220 : decode cX9_lays 220 = .ok (.iload 13, 2) := by decide +kernel
theorem dX9_lays_222 : decode cX9_lays 222 = .ok (.aload_n 0, 1) := by decide +kernel
theorem dX9_lays_223 : decode cX9_lays 223 = .ok (.invokevirtual 233, 3) := by decide +kernel
theorem dX9_lays_226 : decode cX9_lays 226 = .ok (.iastore, 1) := by decide +kernel
theorem dX9_lays_227 : decode cX9_lays 227 = .ok (.lload 7, 2) := by decide +kernel
theorem dX9_lays_229 : decode cX9_lays 229 = .ok (.lconst 1, 1) := by decide +kernel
theorem dX9_lays_230 : decode cX9_lays 230 = .ok (.iload 14, 2) := by decide +kernel
theorem dX9_lays_232 : decode cX9_lays 232 = .ok (.lshl, 1) := by decide +kernel
theorem dX9_lays_233 : decode cX9_lays 233 = .ok (.lor, 1) := by decide +kernel
theorem dX9_lays_234 : decode cX9_lays 234 = .ok (.lstore 7, 2) := by decide +kernel
theorem dX9_lays_236 : decode cX9_lays 236 = .ok (.aload_n 0, 1) := by decide +kernel
theorem dX9_lays_237 : decode cX9_lays 237 = .ok (.getfield 38, 3) := by decide +kernel
theorem dX9_lays_240 : decode cX9_lays 240 = .ok (.iload 6, 2) := by decide +kernel
theorem dX9_lays_242 : decode cX9_lays 242 = .ok (.iload 13, 2) := by decide +kernel
theorem dX9_lays_244 : decode cX9_lays 244 = .ok (.iastore, 1) := by decide +kernel
theorem dX9_lays_245 : decode cX9_lays 245 = .ok (.iinc 6 1, 3) := by decide +kernel
theorem dX9_lays_248 : decode cX9_lays 248 = .ok (.iinc 12 1, 3) := by decide +kernel
theorem dX9_lays_251 : decode cX9_lays 251 = .ok (.goto (-138), 3) := by decide +kernel
theorem dX9_lays_254 : decode cX9_lays 254 = .ok (.iinc 9 1, 3) := by decide +kernel
theorem dX9_lays_257 : decode cX9_lays 257 = .ok (.goto (-200), 3) := by decide +kernel
theorem dX9_lays_260 : decode cX9_lays 260 = .ok (.iload 6, 2) := by decide +kernel
theorem dX9_lays_262 : decode cX9_lays 262 = .ok (.aload_n 0, 1) := by decide +kernel
theorem dX9_lays_263 : decode cX9_lays 263 = .ok (.iload_n 1, 1) := by decide +kernel
theorem dX9_lays_264 : decode cX9_lays 264 = .ok (.invokevirtual 181, 3) := by decide +kernel
theorem dX9_lays_267 : decode cX9_lays 267 = .ok (.if_icmp .ge 5, 3) := by decide +kernel
theorem dX9_lays_270 : decode cX9_lays 270 = .ok (.iconst 0, 1) := by decide +kernel
theorem dX9_lays_271 : decode cX9_lays 271 = .ok (.ireturn, 1) := by decide +kernel
theorem dX9_lays_272 : decode cX9_lays 272 = .ok (.bipush (-9), 2) := by decide +kernel
theorem dX9_lays_274 : decode cX9_lays 274 = .ok (.istore 9, 2) := by decide +kernel
theorem dX9_lays_276 : decode cX9_lays 276 = .ok (.iconst 0, 1) := by decide +kernel
theorem dX9_lays_277 : decode cX9_lays 277 = .ok (.istore 10, 2) := by decide +kernel
theorem dX9_lays_279 : decode cX9_lays 279 = .ok (.iload 10, 2) := by decide +kernel
theorem dX9_lays_281 : decode cX9_lays 281 = .ok (.iload 6, 2) := by decide +kernel
theorem dX9_lays_283 : decode cX9_lays 283 = .ok (.if_icmp .ge 33, 3) := by decide +kernel
theorem dX9_lays_286 : decode cX9_lays 286 = .ok (.aload_n 0, 1) := by decide +kernel
theorem dX9_lays_287 : decode cX9_lays 287 = .ok (.getfield 41, 3) := by decide +kernel
theorem dX9_lays_290 : decode cX9_lays 290 = .ok (.iload 10, 2) := by decide +kernel
theorem dX9_lays_292 : decode cX9_lays 292 = .ok (.iaload, 1) := by decide +kernel
theorem dX9_lays_293 : decode cX9_lays 293 = .ok (.lload 7, 2) := by decide +kernel
theorem dX9_lays_295 : decode cX9_lays 295 = .ok (.invokestatic 137, 3) := by decide +kernel
theorem dX9_lays_298 : decode cX9_lays 298 = .ok (.if_icmp .ne 8, 3) := by decide +kernel
theorem dX9_lays_301 : decode cX9_lays 301 = .ok (.iload 10, 2) := by decide +kernel
theorem dX9_lays_303 : decode cX9_lays 303 = .ok (.goto 5, 3) := by decide +kernel
theorem dX9_lays_306 : decode cX9_lays 306 = .ok (.iload 9, 2) := by decide +kernel
theorem dX9_lays_308 : decode cX9_lays 308 = .ok (.istore 9, 2) := by decide +kernel
theorem dX9_lays_310 : decode cX9_lays 310 = .ok (.iinc 10 1, 3) := by decide +kernel
theorem dX9_lays_313 : decode cX9_lays 313 = .ok (.goto (-34), 3) := by decide +kernel
theorem dX9_lays_316 : decode cX9_lays 316 = .ok (.aload_n 0, 1) := by decide +kernel
theorem dX9_lays_317 : decode cX9_lays 317 = .ok (.lload 7, 2) := by decide +kernel
theorem dX9_lays_319 : decode cX9_lays 319 = .ok (.iload_n 1, 1) := by decide +kernel
theorem dX9_lays_320 : decode cX9_lays 320 = .ok (.iload 9, 2) := by decide +kernel
theorem dX9_lays_322 : decode cX9_lays 322 = .ok (.aload_n 0, 1) := by decide +kernel
theorem dX9_lays_323 : decode cX9_lays 323 = .ok (.getfield 44, 3) := by decide +kernel
theorem dX9_lays_326 : decode cX9_lays 326 = .ok (.iload 9, 2) := by decide +kernel
theorem dX9_lays_328 : decode cX9_lays 328 = .ok (.iaload, 1) := by decide +kernel
theorem dX9_lays_329 : decode cX9_lays 329 = .ok (.invokevirtual 240, 3) := by decide +kernel
theorem dX9_lays_332 : decode cX9_lays 332 = .ok (.ifCond .ne 5, 3) := by decide +kernel
theorem dX9_lays_335 : decode cX9_lays 335 = .ok (.iconst 1, 1) := by decide +kernel
theorem dX9_lays_336 : decode cX9_lays 336 = .ok (.ireturn, 1) := by decide +kernel
theorem dX9_lays_337 : decode cX9_lays 337 = .ok (.aload_n 0, 1) := by decide +kernel
theorem dX9_lays_338 : decode cX9_lays 338 = .ok (.getfield 13, 3) := by decide +kernel
theorem dX9_lays_341 : decode cX9_lays 341 = .ok (.iload 5, 2) := by decide +kernel
theorem dX9_lays_343 : decode cX9_lays 343 = .ok (.lload 7, 2) := by decide +kernel
theorem dX9_lays_345 : decode cX9_lays 345 = .ok (.lastore, 1) := by decide +kernel
theorem dX9_lays_346 : decode cX9_lays 346 = .ok (.aload_n 0, 1) := by decide +kernel
theorem dX9_lays_347 : decode cX9_lays 347 = .ok (.getfield 26, 3) := by decide +kernel
theorem dX9_lays_350 : decode cX9_lays 350 = .ok (.iconst 3, 1) := by decide +kernel
theorem dX9_lays_351 : decode cX9_lays 351 = .ok (.iload_n 1, 1) := by decide +kernel
theorem dX9_lays_352 : decode cX9_lays 352 = .ok (.imul, 1) := by decide +kernel
theorem dX9_lays_353 : decode cX9_lays 353 = .ok (.iaload, 1) := by decide +kernel
theorem dX9_lays_354 : decode cX9_lays 354 = .ok (.aload_n 0, 1) := by decide +kernel
theorem dX9_lays_355 : decode cX9_lays 355 = .ok (.getfield 26, 3) := by decide +kernel
theorem dX9_lays_358 : decode cX9_lays 358 = .ok (.iconst 3, 1) := by decide +kernel
theorem dX9_lays_359 : decode cX9_lays 359 = .ok (.iload_n 1, 1) := by decide +kernel
theorem dX9_lays_360 : decode cX9_lays 360 = .ok (.imul, 1) := by decide +kernel
theorem dX9_lays_361 : decode cX9_lays 361 = .ok (.iconst 1, 1) := by decide +kernel
theorem dX9_lays_362 : decode cX9_lays 362 = .ok (.iadd, 1) := by decide +kernel
theorem dX9_lays_363 : decode cX9_lays 363 = .ok (.iaload, 1) := by decide +kernel
theorem dX9_lays_364 : decode cX9_lays 364 = .ok (.if_icmp .ne 28, 3) := by decide +kernel
theorem dX9_lays_367 : decode cX9_lays 367 = .ok (.aload_n 0, 1) := by decide +kernel
theorem dX9_lays_368 : decode cX9_lays 368 = .ok (.getfield 26, 3) := by decide +kernel
theorem dX9_lays_371 : decode cX9_lays 371 = .ok (.iconst 3, 1) := by decide +kernel
theorem dX9_lays_372 : decode cX9_lays 372 = .ok (.iload_n 1, 1) := by decide +kernel
theorem dX9_lays_373 : decode cX9_lays 373 = .ok (.imul, 1) := by decide +kernel
theorem dX9_lays_374 : decode cX9_lays 374 = .ok (.iaload, 1) := by decide +kernel
theorem dX9_lays_375 : decode cX9_lays 375 = .ok (.aload_n 0, 1) := by decide +kernel
theorem dX9_lays_376 : decode cX9_lays 376 = .ok (.getfield 26, 3) := by decide +kernel
theorem dX9_lays_379 : decode cX9_lays 379 = .ok (.iconst 3, 1) := by decide +kernel
theorem dX9_lays_380 : decode cX9_lays 380 = .ok (.iload_n 1, 1) := by decide +kernel
theorem dX9_lays_381 : decode cX9_lays 381 = .ok (.imul, 1) := by decide +kernel
theorem dX9_lays_382 : decode cX9_lays 382 = .ok (.iconst 2, 1) := by decide +kernel
theorem dX9_lays_383 : decode cX9_lays 383 = .ok (.iadd, 1) := by decide +kernel
theorem dX9_lays_384 : decode cX9_lays 384 = .ok (.iaload, 1) := by decide +kernel
theorem dX9_lays_385 : decode cX9_lays 385 = .ok (.if_icmp .ne 7, 3) := by decide +kernel
theorem dX9_lays_388 : decode cX9_lays 388 = .ok (.iconst 1, 1) := by decide +kernel
theorem dX9_lays_389 : decode cX9_lays 389 = .ok (.goto 4, 3) := by decide +kernel
theorem dX9_lays_392 : decode cX9_lays 392 = .ok (.iconst 0, 1) := by decide +kernel
theorem dX9_lays_393 : decode cX9_lays 393 = .ok (.istore 10, 2) := by decide +kernel
theorem dX9_lays_395 : decode cX9_lays 395 = .ok (.aload_n 0, 1) := by decide +kernel
theorem dX9_lays_396 : decode cX9_lays 396 = .ok (.getfield 17, 3) := by decide +kernel
theorem dX9_lays_399 : decode cX9_lays 399 = .ok (.iload 5, 2) := by decide +kernel
theorem dX9_lays_401 : decode cX9_lays 401 = .ok (.iload 10, 2) := by decide +kernel
theorem dX9_lays_403 : decode cX9_lays 403 = .ok (.ifCond .eq 7, 3) := by decide +kernel
theorem dX9_lays_406 : decode cX9_lays 406 = .ok (.iconst 3, 1) := by decide +kernel
theorem dX9_lays_407 : decode cX9_lays 407 = .ok (.goto 4, 3) := by decide +kernel
theorem dX9_lays_410 : decode cX9_lays 410 = .ok (.iconst 2, 1) := by decide +kernel
theorem dX9_lays_411 : decode cX9_lays 411 = .ok (.iastore, 1) := by decide +kernel
theorem dX9_lays_412 : decode cX9_lays 412 = .ok (.aload_n 0, 1) := by decide +kernel
theorem dX9_lays_413 : decode cX9_lays 413 = .ok (.getfield 20, 3) := by decide +kernel
theorem dX9_lays_416 : decode cX9_lays 416 = .ok (.iload 5, 2) := by decide +kernel
theorem dX9_lays_418 : decode cX9_lays 418 = .ok (.bipush 100, 2) := by decide +kernel
theorem dX9_lays_420 : decode cX9_lays 420 = .ok (.aload_n 0, 1) := by decide +kernel
theorem dX9_lays_421 : decode cX9_lays 421 = .ok (.getfield 26, 3) := by decide +kernel
theorem dX9_lays_424 : decode cX9_lays 424 = .ok (.iconst 3, 1) := by decide +kernel
theorem dX9_lays_425 : decode cX9_lays 425 = .ok (.iload_n 1, 1) := by decide +kernel
theorem dX9_lays_426 : decode cX9_lays 426 = .ok (.imul, 1) := by decide +kernel
theorem dX9_lays_427 : decode cX9_lays 427 = .ok (.iaload, 1) := by decide +kernel
theorem dX9_lays_428 : decode cX9_lays 428 = .ok (.imul, 1) := by decide +kernel
theorem dX9_lays_429 : decode cX9_lays 429 = .ok (.iload 9, 2) := by decide +kernel
theorem dX9_lays_431 : decode cX9_lays 431 = .ok (.iadd, 1) := by decide +kernel
theorem dX9_lays_432 : decode cX9_lays 432 = .ok (.iastore, 1) := by decide +kernel
theorem dX9_lays_433 : decode cX9_lays 433 = .ok (.iconst 2, 1) := by decide +kernel
theorem dX9_lays_434 : decode cX9_lays 434 = .ok (.ireturn, 1) := by decide +kernel
theorem dX9_layOut_0 : decode cX9_layOut 0 = .ok (.iload_n 3, 1) := by decide +kernel
theorem dX9_layOut_1 : decode cX9_layOut 1 = .ok (.iconst 0, 1) := by decide +kernel
theorem dX9_layOut_2 : decode cX9_layOut 2 = .ok (.bipush 63, 2) := by decide +kernel
theorem dX9_layOut_4 : decode cX9_layOut 4 = .ok (.invokestatic 121, 3) := by decide +kernel
theorem dX9_layOut_7 : decode cX9_layOut 7 = .ok (.ifCond .eq 11, 3) := by decide +kernel
theorem dX9_layOut_10 : decode cX9_layOut 10 = .ok (.iload 4, 2) := by decide +kernel
theorem dX9_layOut_12 : decode cX9_layOut 12 = .ok (.invokestatic 125, 3) := by decide +kernel
theorem dX9_layOut_15 : decode cX9_layOut 15 = .ok (.ifCond .ne 5, 3) := by decide +kernel
theorem dX9_layOut_18 : decode cX9_layOut 18 = .ok (.iconst (-1), 1) := by decide +kernel
theorem dX9_layOut_19 : decode cX9_layOut 19 = .ok (.ireturn, 1) := by decide +kernel
theorem dX9_layOut_20 : decode cX9_layOut 20 = .ok (.aload_n 0, 1) := by decide +kernel
theorem dX9_layOut_21 : decode cX9_layOut 21 = .ok (.iload_n 1, 1) := by decide +kernel
theorem dX9_layOut_22 : decode cX9_layOut 22 = .ok (.invokevirtual 215, 3) := by decide +kernel
theorem dX9_layOut_25 : decode cX9_layOut 25 = .ok (.istore 5, 2) := by decide +kernel
theorem dX9_layOut_27 : decode cX9_layOut 27 = .ok (.iload 5, 2) := by decide +kernel
theorem dX9_layOut_29 : decode cX9_layOut 29 = .ok (.ifCond .ge 6, 3) := by decide +kernel
theorem dX9_layOut_32 : decode cX9_layOut 32 = .ok (.iload 5, 2) := by decide +kernel
theorem dX9_layOut_34 : decode cX9_layOut 34 = .ok (.ireturn, 1) := by decide +kernel
theorem dX9_layOut_35 : decode cX9_layOut 35 = .ok (.aload_n 0, 1) := by decide +kernel
theorem dX9_layOut_36 : decode cX9_layOut 36 = .ok (.iload_n 1, 1) := by decide +kernel
theorem dX9_layOut_37 : decode cX9_layOut 37 = .ok (.iload_n 2, 1) := by decide +kernel
theorem dX9_layOut_38 : decode cX9_layOut 38 = .ok (.invokevirtual 218, 3) := by decide +kernel
theorem dX9_layOut_41 : decode cX9_layOut 41 = .ok (.ifCond .eq 17, 3) := by decide +kernel
theorem dX9_layOut_44 : decode cX9_layOut 44 = .ok (.aload_n 0, 1) := by decide +kernel
theorem dX9_layOut_45 : decode cX9_layOut 45 = .ok (.iload_n 1, 1) := by decide +kernel
theorem dX9_layOut_46 : decode cX9_layOut 46 = .ok (.iload_n 2, 1) := by decide +kernel
theorem dX9_layOut_47 : decode cX9_layOut 47 = .ok (.iload_n 3, 1) := by decide +kernel
theorem dX9_layOut_48 : decode cX9_layOut 48 = .ok (.bipush (-9), 2) := by decide +kernel
theorem dX9_layOut_50 : decode cX9_layOut 50 = .ok (.iload 4, 2) := by decide +kernel
theorem dX9_layOut_52 : decode cX9_layOut 52 = .ok (.invokevirtual 251, 3) := by decide +kernel
theorem dX9_layOut_55 : decode cX9_layOut 55 = .ok (.goto 8, 3) := by decide +kernel
theorem dX9_layOut_58 : decode cX9_layOut 58 = .ok (.aload_n 0, 1) := by decide +kernel
theorem dX9_layOut_59 : decode cX9_layOut 59 = .ok (.iconst 2, 1) := by decide +kernel
theorem dX9_layOut_60 : decode cX9_layOut 60 = .ok (.invokevirtual 129, 3) := by decide +kernel
theorem dX9_layOut_63 : decode cX9_layOut 63 = .ok (.ireturn, 1) := by decide +kernel
theorem dX9_layOutBy_0 : decode cX9_layOutBy 0 = .ok (.iload_n 1, 1) := by decide +kernel
theorem dX9_layOutBy_1 : decode cX9_layOutBy 1 = .ok (.invokestatic 174, 3) := by decide +kernel
theorem dX9_layOutBy_4 : decode cX9_layOutBy 4 = .ok (.ifCond .eq 29, 3) := by decide +kernel
theorem dX9_layOutBy_7 : decode cX9_layOutBy 7 = .ok (.iload_n 3, 1) := by decide +kernel
theorem dX9_layOutBy_8 : decode cX9_layOutBy 8 = .ok (.iconst 0, 1) := by decide +kernel
theorem dX9_layOutBy_9 : decode cX9_layOutBy 9 = .ok (.bipush 63, 2) := by decide +kernel
theorem dX9_layOutBy_11 : decode cX9_layOutBy 11 = .ok (.invokestatic 121, 3) := by decide +kernel
theorem dX9_layOutBy_14 : decode cX9_layOutBy 14 = .ok (.ifCond .eq 19, 3) := by decide +kernel
theorem dX9_layOutBy_17 : decode cX9_layOutBy 17 = .ok (.iload 5, 2) := by decide +kernel
theorem dX9_layOutBy_19 : decode cX9_layOutBy 19 = .ok (.invokestatic 125, 3) := by decide +kernel
theorem dX9_layOutBy_22 : decode cX9_layOutBy 22 = .ok (.ifCond .eq 11, 3) := by decide +kernel
theorem dX9_layOutBy_25 : decode cX9_layOutBy 25 = .ok (.iload 4, 2) := by decide +kernel
theorem dX9_layOutBy_27 : decode cX9_layOutBy 27 = .ok (.invokestatic 255, 3) := by decide +kernel
theorem dX9_layOutBy_30 : decode cX9_layOutBy 30 = .ok (.ifCond .ne 5, 3) := by decide +kernel
theorem dX9_layOutBy_33 : decode cX9_layOutBy 33 = .ok (.iconst (-1), 1) := by decide +kernel
theorem dX9_layOutBy_34 : decode cX9_layOutBy 34 = .ok (.ireturn, 1) := by decide +kernel
theorem dX9_layOutBy_35 : decode cX9_layOutBy 35 = .ok (.aload_n 0, 1) := by decide +kernel
theorem dX9_layOutBy_36 : decode cX9_layOutBy 36 = .ok (.getfield 26, 3) := by decide +kernel
theorem dX9_layOutBy_39 : decode cX9_layOutBy 39 = .ok (.iconst 3, 1) := by decide +kernel
theorem dX9_layOutBy_40 : decode cX9_layOutBy 40 = .ok (.iload_n 1, 1) := by decide +kernel
theorem dX9_layOutBy_41 : decode cX9_layOutBy 41 = .ok (.imul, 1) := by decide +kernel
theorem dX9_layOutBy_42 : decode cX9_layOutBy 42 = .ok (.iaload, 1) := by decide +kernel
theorem dX9_layOutBy_43 : decode cX9_layOutBy 43 = .ok (.ifCond .eq 13, 3) := by decide +kernel
theorem dX9_layOutBy_46 : decode cX9_layOutBy 46 = .ok (.aload_n 0, 1) := by decide +kernel
theorem dX9_layOutBy_47 : decode cX9_layOutBy 47 = .ok (.getfield 104, 3) := by decide +kernel
theorem dX9_layOutBy_50 : decode cX9_layOutBy 50 = .ok (.iload 4, 2) := by decide +kernel
theorem dX9_layOutBy_52 : decode cX9_layOutBy 52 = .ok (.iaload, 1) := by decide +kernel
theorem dX9_layOutBy_53 : decode cX9_layOutBy 53 = .ok (.ifCond .ge 9, 3) := by decide +kernel
theorem dX9_layOutBy_56 : decode cX9_layOutBy 56 = .ok (.aload_n 0, 1) := by decide +kernel
theorem dX9_layOutBy_57 : decode cX9_layOutBy 57 = .ok (.iconst 1, 1) := by decide +kernel
theorem dX9_layOutBy_58 : decode cX9_layOutBy 58 = .ok (.invokevirtual 129, 3) := by decide +kernel
theorem dX9_layOutBy_61 : decode cX9_layOutBy 61 = .ok (.ireturn, 1) := by decide +kernel
theorem dX9_layOutBy_62 : decode cX9_layOutBy 62 = .ok (.aload_n 0, 1) := by decide +kernel
theorem dX9_layOutBy_63 : decode cX9_layOutBy 63 = .ok (.iload_n 1, 1) := by decide +kernel
theorem dX9_layOutBy_64 : decode cX9_layOutBy 64 = .ok (.iload_n 2, 1) := by decide +kernel
theorem dX9_layOutBy_65 : decode cX9_layOutBy 65 = .ok (.invokevirtual 218, 3) := by decide +kernel
theorem dX9_layOutBy_68 : decode cX9_layOutBy 68 = .ok (.ifCond .eq 17, 3) := by decide +kernel
theorem dX9_layOutBy_71 : decode cX9_layOutBy 71 = .ok (.aload_n 0, 1) := by decide +kernel
theorem dX9_layOutBy_72 : decode cX9_layOutBy 72 = .ok (.iload_n 1, 1) := by decide +kernel
theorem dX9_layOutBy_73 : decode cX9_layOutBy 73 = .ok (.iload_n 2, 1) := by decide +kernel
theorem dX9_layOutBy_74 : decode cX9_layOutBy 74 = .ok (.iload_n 3, 1) := by decide +kernel
theorem dX9_layOutBy_75 : decode cX9_layOutBy 75 = .ok (.iload 4, 2) := by decide +kernel
theorem dX9_layOutBy_77 : decode cX9_layOutBy 77 = .ok (.iload 5, 2) := by decide +kernel
theorem dX9_layOutBy_79 : decode cX9_layOutBy 79 = .ok (.invokevirtual 251, 3) := by decide +kernel
theorem dX9_layOutBy_82 : decode cX9_layOutBy 82 = .ok (.goto 8, 3) := by decide +kernel
theorem dX9_layOutBy_85 : decode cX9_layOutBy 85 = .ok (.aload_n 0, 1) := by decide +kernel
theorem dX9_layOutBy_86 : decode cX9_layOutBy 86 = .ok (.iconst 2, 1) := by decide +kernel
theorem dX9_layOutBy_87 : decode cX9_layOutBy 87 = .ok (.invokevirtual 129, 3) := by decide +kernel
theorem dX9_layOutBy_90 : decode cX9_layOutBy 90 = .ok (.ireturn, 1) := by decide +kernel
theorem dX9_along_0 : decode cX9_along 0 = .ok (.iload_n 2, 1) := by decide +kernel
theorem dX9_along_1 : decode cX9_along 1 = .ok (.invokestatic 184, 3) := by decide +kernel
theorem dX9_along_4 : decode cX9_along 4 = .ok (.aload_n 0, 1) := by decide +kernel
theorem dX9_along_5 : decode cX9_along 5 = .ok (.getfield 68, 3) := by decide +kernel
theorem dX9_along_8 : decode cX9_along 8 = .ok (.iload_n 2, 1) := by decide +kernel
theorem dX9_along_9 : decode cX9_along 9 = .ok (.iconst 2, 1) := by decide +kernel
theorem dX9_along_10 : decode cX9_along 10 = .ok (.idiv, 1) := by decide +kernel
theorem dX9_along_11 : decode cX9_along 11 = .ok (.iaload, 1) := by decide +kernel
theorem dX9_along_12 : decode cX9_along 12 = .ok (.aload_n 0, 1) := by decide +kernel
theorem dX9_along_13 : decode cX9_along 13 = .ok (.getfield 56, 3) := by decide +kernel
theorem dX9_along_16 : decode cX9_along 16 = .ok (.iconst 3, 1) := by decide +kernel
theorem dX9_along_17 : decode cX9_along 17 = .ok (.iload_n 1, 1) := by decide +kernel
theorem dX9_along_18 : decode cX9_along 18 = .ok (.imul, 1) := by decide +kernel
theorem dX9_along_19 : decode cX9_along 19 = .ok (.iload_n 2, 1) := by decide +kernel
theorem dX9_along_20 : decode cX9_along 20 = .ok (.iconst 2, 1) := by decide +kernel
theorem dX9_along_21 : decode cX9_along 21 = .ok (.idiv, 1) := by decide +kernel
theorem dX9_along_22 : decode cX9_along 22 = .ok (.iadd, 1) := by decide +kernel
theorem dX9_along_23 : decode cX9_along 23 = .ok (.iaload, 1) := by decide +kernel
theorem dX9_along_24 : decode cX9_along 24 = .ok (.isub, 1) := by decide +kernel
theorem dX9_along_25 : decode cX9_along 25 = .ok (.imul, 1) := by decide +kernel
theorem dX9_along_26 : decode cX9_along 26 = .ok (.ireturn, 1) := by decide +kernel
theorem dX9_farNow_0 : decode cX9_farNow 0 = .ok (.aload_n 0, 1) := by decide +kernel
theorem dX9_farNow_1 : decode cX9_farNow 1 = .ok (.getfield 59, 3) := by decide +kernel
theorem dX9_farNow_4 : decode cX9_farNow 4 = .ok (.iload_n 1, 1) := by decide +kernel
theorem dX9_farNow_5 : decode cX9_farNow 5 = .ok (.iaload, 1) := by decide +kernel
theorem dX9_farNow_6 : decode cX9_farNow 6 = .ok (.aload_n 0, 1) := by decide +kernel
theorem dX9_farNow_7 : decode cX9_farNow 7 = .ok (.iload_n 1, 1) := by decide +kernel
theorem dX9_farNow_8 : decode cX9_farNow 8 = .ok (.aload_n 0, 1) := by decide +kernel
theorem dX9_farNow_9 : decode cX9_farNow 9 = .ok (.getfield 50, 3) := by decide +kernel
theorem dX9_farNow_12 : decode cX9_farNow 12 = .ok (.iload_n 1, 1) := by decide +kernel
theorem dX9_farNow_13 : decode cX9_farNow 13 = .ok (.iaload, 1) := by decide +kernel
theorem dX9_farNow_14 : decode cX9_farNow 14 = .ok (.invokevirtual 258, 3) := by decide +kernel
theorem dX9_farNow_17 : decode cX9_farNow 17 = .ok (.iadd, 1) := by decide +kernel
theorem dX9_farNow_18 : decode cX9_farNow 18 = .ok (.istore_n 2, 1) := by decide +kernel
theorem dX9_farNow_19 : decode cX9_farNow 19 = .ok (.aload_n 0, 1) := by decide +kernel
theorem dX9_farNow_20 : decode cX9_farNow 20 = .ok (.getfield 62, 3) := by decide +kernel
theorem dX9_farNow_23 : decode cX9_farNow 23 = .ok (.iload_n 1, 1) := by decide +kernel
theorem dX9_farNow_24 : decode cX9_farNow 24 = .ok (.iaload, 1) := by decide +kernel
theorem dX9_farNow_25 : decode cX9_farNow 25 = .ok (.aload_n 0, 1) := by decide +kernel
theorem dX9_farNow_26 : decode cX9_farNow 26 = .ok (.iload_n 1, 1) := by decide +kernel
theorem dX9_farNow_27 : decode cX9_farNow 27 = .ok (.aload_n 0, 1) := by decide +kernel
theorem dX9_farNow_28 : decode cX9_farNow 28 = .ok (.getfield 53, 3) := by decide +kernel
theorem dX9_farNow_31 : decode cX9_farNow 31 = .ok (.iload_n 1, 1) := by decide +kernel
theorem dX9_farNow_32 : decode cX9_farNow 32 = .ok (.iaload, 1) := by decide +kernel
theorem dX9_farNow_33 : decode cX9_farNow 33 = .ok (.invokevirtual 258, 3) := by decide +kernel
theorem dX9_farNow_36 : decode cX9_farNow 36 = .ok (.iadd, 1) := by decide +kernel
theorem dX9_farNow_37 : decode cX9_farNow 37 = .ok (.istore_n 3, 1) := by decide +kernel
theorem dX9_farNow_38 : decode cX9_farNow 38 = .ok (.iload_n 2, 1) := by decide +kernel
theorem dX9_farNow_39 : decode cX9_farNow 39 = .ok (.iload_n 2, 1) := by decide +kernel
theorem dX9_farNow_40 : decode cX9_farNow 40 = .ok (.imul, 1) := by decide +kernel
theorem dX9_farNow_41 : decode cX9_farNow 41 = .ok (.iload_n 3, 1) := by decide +kernel
theorem dX9_farNow_42 : decode cX9_farNow 42 = .ok (.iload_n 3, 1) := by decide +kernel
theorem dX9_farNow_43 : decode cX9_farNow 43 = .ok (.imul, 1) := by decide +kernel
theorem dX9_farNow_44 : decode cX9_farNow 44 = .ok (.iadd, 1) := by decide +kernel
theorem dX9_farNow_45 : decode cX9_farNow 45 = .ok (.ireturn, 1) := by decide +kernel
theorem dX9_unfolds_0 : decode cX9_unfolds 0 = .ok (.aload_n 0, 1) := by decide +kernel
theorem dX9_unfolds_1 : decode cX9_unfolds 1 = .ok (.aload_n 0, 1) := by decide +kernel
theorem dX9_unfolds_2 : decode cX9_unfolds 2 = .ok (.getfield 47, 3) := by decide +kernel
theorem dX9_unfolds_5 : decode cX9_unfolds 5 = .ok (.iload_n 2, 1) := by decide +kernel
theorem dX9_unfolds_6 : decode cX9_unfolds 6 = .ok (.iaload, 1) := by decide +kernel
theorem dX9_unfolds_7 : decode cX9_unfolds 7 = .ok (.putfield 193, 3) := by decide +kernel
theorem dX9_unfolds_10 : decode cX9_unfolds 10 = .ok (.aload_n 0, 1) := by decide +kernel
theorem dX9_unfolds_11 : decode cX9_unfolds 11 = .ok (.aload_n 0, 1) := by decide +kernel
theorem dX9_unfolds_12 : decode cX9_unfolds 12 = .ok (.getfield 50, 3) := by decide +kernel
theorem dX9_unfolds_15 : decode cX9_unfolds 15 = .ok (.iload_n 2, 1) := by decide +kernel
theorem dX9_unfolds_16 : decode cX9_unfolds 16 = .ok (.iaload, 1) := by decide +kernel
theorem dX9_unfolds_17 : decode cX9_unfolds 17 = .ok (.putfield 199, 3) := by decide +kernel
theorem dX9_unfolds_20 : decode cX9_unfolds 20 = .ok (.aload_n 0, 1) := by decide +kernel
theorem dX9_unfolds_21 : decode cX9_unfolds 21 = .ok (.aload_n 0, 1) := by decide +kernel
theorem dX9_unfolds_22 : decode cX9_unfolds 22 = .ok (.getfield 53, 3) := by decide +kernel
theorem dX9_unfolds_25 : decode cX9_unfolds 25 = .ok (.iload_n 2, 1) := by decide +kernel
theorem dX9_unfolds_26 : decode cX9_unfolds 26 = .ok (.iaload, 1) := by decide +kernel
theorem dX9_unfolds_27 : decode cX9_unfolds 27 = .ok (.putfield 202, 3) := by decide +kernel
theorem dX9_unfolds_30 : decode cX9_unfolds 30 = .ok (.aload_n 0, 1) := by decide +kernel
theorem dX9_unfolds_31 : decode cX9_unfolds 31 = .ok (.iload_n 3, 1) := by decide +kernel
theorem dX9_unfolds_32 : decode cX9_unfolds 32 = .ok (.invokevirtual 208, 3) := by decide +kernel
theorem dX9_unfolds_35 : decode cX9_unfolds 35 = .ok (.istore 4, 2) := by decide +kernel
theorem dX9_unfolds_37 : decode cX9_unfolds 37 = .ok (.iload 4, 2) := by decide +kernel
theorem dX9_unfolds_39 : decode cX9_unfolds 39 = .ok (.iconst 1, 1) := by decide +kernel
theorem dX9_unfolds_40 : decode cX9_unfolds 40 = .ok (.ixor, 1) := by decide +kernel
theorem dX9_unfolds_41 : decode cX9_unfolds 41 = .ok (.istore 5, 2) := by decide +kernel
theorem dX9_unfolds_43 : decode cX9_unfolds 43 = .ok (.iconst 0, 1) := by decide +kernel
theorem dX9_unfolds_44 : decode cX9_unfolds 44 = .ok (.istore 6, 2) := by decide +kernel
theorem dX9_unfolds_46 : decode cX9_unfolds 46 = .ok (.iload 6, 2) := by decide +kernel
theorem dX9_unfolds_48 : decode cX9_unfolds 48 = .ok (.iload_n 2, 1) := by decide +kernel
theorem dX9_unfolds_49 : decode cX9_unfolds 49 = .ok (.if_icmp .gt 23, 3) := by decide +kernel
theorem dX9_unfolds_52 : decode cX9_unfolds 52 = .ok (.aload_n 0, 1) := by decide +kernel
theorem dX9_unfolds_53 : decode cX9_unfolds 53 = .ok (.getfield 47, 3) := by decide +kernel
theorem dX9_unfolds_56 : decode cX9_unfolds 56 = .ok (.iload 6, 2) := by decide +kernel
theorem dX9_unfolds_58 : decode cX9_unfolds 58 = .ok (.iaload, 1) := by decide +kernel
theorem dX9_unfolds_59 : decode cX9_unfolds 59 = .ok (.iload 5, 2) := by decide +kernel
theorem dX9_unfolds_61 : decode cX9_unfolds 61 = .ok (.if_icmp .ne 5, 3) := by decide +kernel
theorem dX9_unfolds_64 : decode cX9_unfolds 64 = .ok (.iconst 0, 1) := by decide +kernel
theorem dX9_unfolds_65 : decode cX9_unfolds 65 = .ok (.ireturn, 1) := by decide +kernel
theorem dX9_unfolds_66 : decode cX9_unfolds 66 = .ok (.iinc 6 1, 3) := by decide +kernel
theorem dX9_unfolds_69 : decode cX9_unfolds 69 = .ok (.goto (-23), 3) := by decide +kernel
theorem dX9_unfolds_72 : decode cX9_unfolds 72 = .ok (.iload 4, 2) := by decide +kernel
theorem dX9_unfolds_74 : decode cX9_unfolds 74 = .ok (.iconst 2, 1) := by decide +kernel
theorem dX9_unfolds_75 : decode cX9_unfolds 75 = .ok (.idiv, 1) := by decide +kernel
theorem dX9_unfolds_76 : decode cX9_unfolds 76 = .ok (.istore 6, 2) := by decide +kernel
theorem dX9_unfolds_78 : decode cX9_unfolds 78 = .ok (.iload 4, 2) := by decide +kernel
theorem dX9_unfolds_80 : decode cX9_unfolds 80 = .ok (.iconst 2, 1) := by decide +kernel
theorem dX9_unfolds_81 : decode cX9_unfolds 81 = .ok (.irem, 1) := by decide +kernel
theorem dX9_unfolds_82 : decode cX9_unfolds 82 = .ok (.ifCond .ne 19, 3) := by decide +kernel
theorem dX9_unfolds_85 : decode cX9_unfolds 85 = .ok (.iconst 2, 1) := by decide +kernel
theorem dX9_unfolds_86 : decode cX9_unfolds 86 = .ok (.aload_n 0, 1) := by decide +kernel
theorem dX9_unfolds_87 : decode cX9_unfolds 87 = .ok (.getfield 26, 3) := by decide +kernel
theorem dX9_unfolds_90 : decode cX9_unfolds 90 = .ok (.iconst 3, 1) := by decide +kernel
theorem dX9_unfolds_91 : decode cX9_unfolds 91 = .ok (.iload_n 1, 1) := by decide +kernel
theorem dX9_unfolds_92 : decode cX9_unfolds 92 = .ok (.imul, 1) := by decide +kernel
theorem dX9_unfolds_93 : decode cX9_unfolds 93 = .ok (.iload 6, 2) := by decide +kernel
theorem dX9_unfolds_95 : decode cX9_unfolds 95 = .ok (.iadd, 1) := by decide +kernel
theorem dX9_unfolds_96 : decode cX9_unfolds 96 = .ok (.iaload, 1) := by decide +kernel
theorem dX9_unfolds_97 : decode cX9_unfolds 97 = .ok (.imul, 1) := by decide +kernel
theorem dX9_unfolds_98 : decode cX9_unfolds 98 = .ok (.goto 4, 3) := by decide +kernel
theorem dX9_unfolds_101 : decode cX9_unfolds 101 = .ok (.iconst 0, 1) := by decide +kernel
theorem dX9_unfolds_102 : decode cX9_unfolds 102 = .ok (.istore 7, 2) := by decide +kernel
theorem dX9_unfolds_104 : decode cX9_unfolds 104 = .ok (.iload 4, 2) := by decide +kernel
theorem dX9_unfolds_106 : decode cX9_unfolds 106 = .ok (.invokestatic 184, 3) := by decide +kernel
theorem dX9_unfolds_109 : decode cX9_unfolds 109 = .ok (.iload 7, 2) := by decide +kernel
theorem dX9_unfolds_111 : decode cX9_unfolds 111 = .ok (.aload_n 0, 1) := by decide +kernel
theorem dX9_unfolds_112 : decode cX9_unfolds 112 = .ok (.getfield 56, 3) := by decide +kernel
theorem dX9_unfolds_115 : decode cX9_unfolds 115 = .ok (.iconst 3, 1) := by decide +kernel
theorem dX9_unfolds_116 : decode cX9_unfolds 116 = .ok (.iload_n 2, 1) := by decide +kernel
theorem dX9_unfolds_117 : decode cX9_unfolds 117 = .ok (.imul, 1) := by decide +kernel
theorem dX9_unfolds_118 : decode cX9_unfolds 118 = .ok (.iload 6, 2) := by decide +kernel
theorem dX9_unfolds_120 : decode cX9_unfolds 120 = .ok (.iadd, 1) := by decide +kernel
theorem dX9_unfolds_121 : decode cX9_unfolds 121 = .ok (.iaload, 1) := by decide +kernel
theorem dX9_unfolds_122 : decode cX9_unfolds 122 = .ok (.isub, 1) := by decide +kernel
theorem dX9_unfolds_123 : decode cX9_unfolds 123 = .ok (.imul, 1) := by decide +kernel
theorem dX9_unfolds_124 : decode cX9_unfolds 124 = .ok (.istore 8, 2) := by decide +kernel
theorem dX9_unfolds_126 : decode cX9_unfolds 126 = .ok (.iconst 0, 1) := by decide +kernel
theorem dX9_unfolds_127 : decode cX9_unfolds 127 = .ok (.istore 9, 2) := by decide +kernel
theorem dX9_unfolds_129 : decode cX9_unfolds 129 = .ok (.iload 9, 2) := by decide +kernel
theorem dX9_unfolds_131 : decode cX9_unfolds 131 = .ok (.iconst 3, 1) := by decide +kernel
theorem dX9_unfolds_132 : decode cX9_unfolds 132 = .ok (.if_icmp .ge 45, 3) := by decide +kernel
theorem dX9_unfolds_135 : decode cX9_unfolds 135 = .ok (.aload_n 0, 1) := by decide +kernel
theorem dX9_unfolds_136 : decode cX9_unfolds 136 = .ok (.getfield 56, 3) := by decide +kernel
theorem dX9_unfolds_139 : decode cX9_unfolds 139 = .ok (.iconst 3, 1) := by decide +kernel
theorem dX9_unfolds_140 : decode cX9_unfolds 140 = .ok (.iload_n 2, 1) := by decide +kernel
theorem dX9_unfolds_141 : decode cX9_unfolds 141 = .ok (.imul, 1) := by decide +kernel
theorem dX9_unfolds_142 : decode cX9_unfolds 142 = .ok (.iconst 3, 1) := by decide +kernel
theorem dX9_unfolds_143 : decode cX9_unfolds 143 = .ok (.iadd, 1) := by decide +kernel
theorem dX9_unfolds_144 : decode cX9_unfolds 144 = .ok (.iload 9, 2) := by decide +kernel
theorem dX9_unfolds_146 : decode cX9_unfolds 146 = .ok (.iadd, 1) := by decide +kernel
theorem dX9_unfolds_147 : decode cX9_unfolds 147 = .ok (.iload 9, 2) := by decide +kernel
theorem dX9_unfolds_149 : decode cX9_unfolds 149 = .ok (.iload 6, 2) := by decide +kernel
theorem dX9_unfolds_151 : decode cX9_unfolds 151 = .ok (.if_icmp .ne 8, 3) := by decide +kernel
theorem dX9_unfolds_154 : decode cX9_unfolds 154 = .ok (.iload 7, 2) := by decide +kernel
theorem dX9_unfolds_156 : decode cX9_unfolds 156 = .ok (.goto 14, 3) := by decide +kernel
theorem dX9_unfolds_159 : decode cX9_unfolds 159 = .ok (.aload_n 0, 1) := by decide +kernel
theorem dX9_unfolds_160 : decode cX9_unfolds 160 = .ok (.getfield 56, 3) := by decide +kernel
theorem dX9_unfolds_163 : decode cX9_unfolds 163 = .ok (.iconst 3, 1) := by decide +kernel
theorem dX9_unfolds_164 : decode cX9_unfolds 164 = .ok (.iload_n 2, 1) := by decide +kernel
theorem dX9_unfolds_165 : decode cX9_unfolds 165 = .ok (.imul, 1) := by decide +kernel
theorem dX9_unfolds_166 : decode cX9_unfolds 166 = .ok (.iload 9, 2) := by decide +kernel
theorem dX9_unfolds_168 : decode cX9_unfolds 168 = .ok (.iadd, 1) := by decide +kernel
theorem dX9_unfolds_169 : decode cX9_unfolds 169 = .ok (.iaload, 1) := by decide +kernel
theorem dX9_unfolds_170 : decode cX9_unfolds 170 = .ok (.iastore, 1) := by decide +kernel
theorem dX9_unfolds_171 : decode cX9_unfolds 171 = .ok (.iinc 9 1, 3) := by decide +kernel
theorem dX9_unfolds_174 : decode cX9_unfolds 174 = .ok (.goto (-45), 3) := by decide +kernel
theorem dX9_unfolds_177 : decode cX9_unfolds 177 = .ok (.aload_n 0, 1) := by decide +kernel
theorem dX9_unfolds_178 : decode cX9_unfolds 178 = .ok (.getfield 59, 3) := by decide +kernel
theorem dX9_unfolds_181 : decode cX9_unfolds 181 = .ok (.iload_n 2, 1) := by decide +kernel
theorem dX9_unfolds_182 : decode cX9_unfolds 182 = .ok (.iconst 1, 1) := by decide +kernel
theorem dX9_unfolds_183 : decode cX9_unfolds 183 = .ok (.iadd, 1) := by decide +kernel
theorem dX9_unfolds_184 : decode cX9_unfolds 184 = .ok (.aload_n 0, 1) := by decide +kernel
theorem dX9_unfolds_185 : decode cX9_unfolds 185 = .ok (.getfield 59, 3) := by decide +kernel
theorem dX9_unfolds_188 : decode cX9_unfolds 188 = .ok (.iload_n 2, 1) := by decide +kernel
theorem dX9_unfolds_189 : decode cX9_unfolds 189 = .ok (.iaload, 1) := by decide +kernel
theorem dX9_unfolds_190 : decode cX9_unfolds 190 = .ok (.iload_n 3, 1) := by decide +kernel
theorem dX9_unfolds_191 : decode cX9_unfolds 191 = .ok (.ifCond .ne 8, 3) := by decide +kernel
theorem dX9_unfolds_194 : decode cX9_unfolds 194 = .ok (.iload 8, 2) := by decide +kernel
theorem dX9_unfolds_196 : decode cX9_unfolds 196 = .ok (.goto 15, 3) := by decide +kernel
theorem dX9_unfolds_199 : decode cX9_unfolds 199 = .ok (.iload_n 3, 1) := by decide +kernel
theorem dX9_unfolds_200 : decode cX9_unfolds 200 = .ok (.iconst 2, 1) := by decide +kernel
theorem dX9_unfolds_201 : decode cX9_unfolds 201 = .ok (.if_icmp .ne 9, 3) := by decide +kernel
theorem dX9_unfolds_204 : decode cX9_unfolds 204 = .ok (.iload 8, 2) := by decide +kernel
theorem dX9_unfolds_206 : decode cX9_unfolds 206 = .ok (.ineg, 1) := by decide +kernel
theorem dX9_unfolds_207 : decode cX9_unfolds 207 = .ok (.goto 4, 3) := by decide +kernel
theorem dX9_unfolds_210 : decode cX9_unfolds 210 = .ok (.iconst 0, 1) := by decide +kernel
theorem dX9_unfolds_211 : decode cX9_unfolds 211 = .ok (.iadd, 1) := by decide +kernel
theorem dX9_unfolds_212 : decode cX9_unfolds 212 = .ok (.iastore, 1) := by decide +kernel
theorem dX9_unfolds_213 : decode cX9_unfolds 213 = .ok (.aload_n 0, 1) := by decide +kernel
theorem dX9_unfolds_214 : decode cX9_unfolds 214 = .ok (.getfield 62, 3) := by decide +kernel
theorem dX9_unfolds_217 : decode cX9_unfolds 217 = .ok (.iload_n 2, 1) := by decide +kernel
theorem dX9_unfolds_218 : decode cX9_unfolds 218 = .ok (.iconst 1, 1) := by decide +kernel
theorem dX9_unfolds_219 : decode cX9_unfolds 219 = .ok (.iadd, 1) := by decide +kernel
theorem dX9_unfolds_220 : decode cX9_unfolds 220 = .ok (.aload_n 0, 1) := by decide +kernel
theorem dX9_unfolds_221 : decode cX9_unfolds 221 = .ok (.getfield 62, 3) := by decide +kernel
theorem dX9_unfolds_224 : decode cX9_unfolds 224 = .ok (.iload_n 2, 1) := by decide +kernel
theorem dX9_unfolds_225 : decode cX9_unfolds 225 = .ok (.iaload, 1) := by decide +kernel
theorem dX9_unfolds_226 : decode cX9_unfolds 226 = .ok (.iload_n 3, 1) := by decide +kernel
theorem dX9_unfolds_227 : decode cX9_unfolds 227 = .ok (.iconst 1, 1) := by decide +kernel
theorem dX9_unfolds_228 : decode cX9_unfolds 228 = .ok (.if_icmp .ne 8, 3) := by decide +kernel
theorem dX9_unfolds_231 : decode cX9_unfolds 231 = .ok (.iload 8, 2) := by decide +kernel
theorem dX9_unfolds_233 : decode cX9_unfolds 233 = .ok (.goto 15, 3) := by decide +kernel
theorem dX9_unfolds_236 : decode cX9_unfolds 236 = .ok (.iload_n 3, 1) := by decide +kernel
theorem dX9_unfolds_237 : decode cX9_unfolds 237 = .ok (.iconst 3, 1) := by decide +kernel
theorem dX9_unfolds_238 : decode cX9_unfolds 238 = .ok (.if_icmp .ne 9, 3) := by decide +kernel
theorem dX9_unfolds_241 : decode cX9_unfolds 241 = .ok (.iload 8, 2) := by decide +kernel
theorem dX9_unfolds_243 : decode cX9_unfolds 243 = .ok (.ineg, 1) := by decide +kernel
theorem dX9_unfolds_244 : decode cX9_unfolds 244 = .ok (.goto 4, 3) := by decide +kernel
theorem dX9_unfolds_247 : decode cX9_unfolds 247 = .ok (.iconst 0, 1) := by decide +kernel
theorem dX9_unfolds_248 : decode cX9_unfolds 248 = .ok (.iadd, 1) := by decide +kernel
theorem dX9_unfolds_249 : decode cX9_unfolds 249 = .ok (.iastore, 1) := by decide +kernel
theorem dX9_unfolds_250 : decode cX9_unfolds 250 = .ok (.aload_n 0, 1) := by decide +kernel
theorem dX9_unfolds_251 : decode cX9_unfolds 251 = .ok (.iload 4, 2) := by decide +kernel
theorem dX9_unfolds_253 : decode cX9_unfolds 253 = .ok (.iload_n 3, 1) := by decide +kernel
theorem dX9_unfolds_254 : decode cX9_unfolds 254 = .ok (.aload_n 0, 1) := by decide +kernel
theorem dX9_unfolds_255 : decode cX9_unfolds 255 = .ok (.getfield 193, 3) := by decide +kernel
theorem dX9_unfolds_258 : decode cX9_unfolds 258 = .ok (.iconst 1, 1) := by decide +kernel
theorem dX9_unfolds_259 : decode cX9_unfolds 259 = .ok (.ixor, 1) := by decide +kernel
theorem dX9_unfolds_260 : decode cX9_unfolds 260 = .ok (.invokevirtual 211, 3) := by decide +kernel
theorem dX9_unfolds_263 : decode cX9_unfolds 263 = .ok (.aload_n 0, 1) := by decide +kernel
theorem dX9_unfolds_264 : decode cX9_unfolds 264 = .ok (.getfield 47, 3) := by decide +kernel
theorem dX9_unfolds_267 : decode cX9_unfolds 267 = .ok (.iload_n 2, 1) := by decide +kernel
theorem dX9_unfolds_268 : decode cX9_unfolds 268 = .ok (.iconst 1, 1) := by decide +kernel
theorem dX9_unfolds_269 : decode cX9_unfolds 269 = .ok (.iadd, 1) := by decide +kernel
theorem dX9_unfolds_270 : decode cX9_unfolds 270 = .ok (.aload_n 0, 1) := by decide +kernel
theorem dX9_unfolds_271 : decode cX9_unfolds 271 = .ok (.getfield 193, 3) := by decide +kernel
theorem dX9_unfolds_274 : decode cX9_unfolds 274 = .ok (.iastore, 1) := by decide +kernel
theorem dX9_unfolds_275 : decode cX9_unfolds 275 = .ok (.aload_n 0, 1) := by decide +kernel
theorem dX9_unfolds_276 : decode cX9_unfolds 276 = .ok (.getfield 50, 3) := by decide +kernel
theorem dX9_unfolds_279 : decode cX9_unfolds 279 = .ok (.iload_n 2, 1) := by decide +kernel
theorem dX9_unfolds_280 : decode cX9_unfolds 280 = .ok (.iconst 1, 1) := by decide +kernel
theorem dX9_unfolds_281 : decode cX9_unfolds 281 = .ok (.iadd, 1) := by decide +kernel
theorem dX9_unfolds_282 : decode cX9_unfolds 282 = .ok (.aload_n 0, 1) := by decide +kernel
theorem dX9_unfolds_283 : decode cX9_unfolds 283 = .ok (.getfield 199, 3) := by decide +kernel
theorem dX9_unfolds_286 : decode cX9_unfolds 286 = .ok (.iastore, 1) := by decide +kernel
theorem dX9_unfolds_287 : decode cX9_unfolds 287 = .ok (.aload_n 0, 1) := by decide +kernel
theorem dX9_unfolds_288 : decode cX9_unfolds 288 = .ok (.getfield 53, 3) := by decide +kernel
theorem dX9_unfolds_291 : decode cX9_unfolds 291 = .ok (.iload_n 2, 1) := by decide +kernel
theorem dX9_unfolds_292 : decode cX9_unfolds 292 = .ok (.iconst 1, 1) := by decide +kernel
theorem dX9_unfolds_293 : decode cX9_unfolds 293 = .ok (.iadd, 1) := by decide +kernel
theorem dX9_unfolds_294 : decode cX9_unfolds 294 = .ok (.aload_n 0, 1) := by decide +kernel
theorem dX9_unfolds_295 : decode cX9_unfolds 295 = .ok (.getfield 202, 3) := by decide +kernel
theorem dX9_unfolds_298 : decode cX9_unfolds 298 = .ok (.iastore, 1) := by decide +kernel
theorem dX9_unfolds_299 : decode cX9_unfolds 299 = .ok (.iconst 1, 1) := by decide +kernel
theorem dX9_unfolds_300 : decode cX9_unfolds 300 = .ok (.ireturn, 1) := by decide +kernel
theorem dX9_shortOf_0 : decode cX9_shortOf 0 = .ok (.aload_n 0, 1) := by decide +kernel
theorem dX9_shortOf_1 : decode cX9_shortOf 1 = .ok (.iload_n 1, 1) := by decide +kernel
theorem dX9_shortOf_2 : decode cX9_shortOf 2 = .ok (.iload_n 3, 1) := by decide +kernel
theorem dX9_shortOf_3 : decode cX9_shortOf 3 = .ok (.invokevirtual 222, 3) := by decide +kernel
theorem dX9_shortOf_6 : decode cX9_shortOf 6 = .ok (.aload_n 0, 1) := by decide +kernel
theorem dX9_shortOf_7 : decode cX9_shortOf 7 = .ok (.getfield 193, 3) := by decide +kernel
theorem dX9_shortOf_10 : decode cX9_shortOf 10 = .ok (.istore 4, 2) := by decide +kernel
theorem dX9_shortOf_12 : decode cX9_shortOf 12 = .ok (.iconst 0, 1) := by decide +kernel
theorem dX9_shortOf_13 : decode cX9_shortOf 13 = .ok (.istore 5, 2) := by decide +kernel
theorem dX9_shortOf_15 : decode cX9_shortOf 15 = .ok (.iload 5, 2) := by decide +kernel
theorem dX9_shortOf_17 : decode cX9_shortOf 17 = .ok (.iconst 3, 1) := by decide +kernel
theorem dX9_shortOf_18 : decode cX9_shortOf 18 = .ok (.if_icmp .ge 23, 3) := by decide +kernel
theorem dX9_shortOf_21 : decode cX9_shortOf 21 = .ok (.aload_n 0, 1) := by decide +kernel
theorem dX9_shortOf_22 : decode cX9_shortOf 22 = .ok (.getfield 68, 3) := by decide +kernel
theorem dX9_shortOf_25 : decode cX9_shortOf 25 = .ok (.iload 5, 2) := by decide +kernel
theorem dX9_shortOf_27 : decode cX9_shortOf 27 = .ok (.aload_n 0, 1) := by decide +kernel
theorem dX9_shortOf_28 : decode cX9_shortOf 28 = .ok (.getfield 29, 3) := by decide +kernel
theorem dX9_shortOf_31 : decode cX9_shortOf 31 = .ok (.iload 5, 2) := by decide +kernel
theorem dX9_shortOf_33 : decode cX9_shortOf 33 = .ok (.iaload, 1) := by decide +kernel
theorem dX9_shortOf_34 : decode cX9_shortOf 34 = .ok (.iastore, 1) := by decide +kernel
theorem dX9_shortOf_35 : decode cX9_shortOf 35 = .ok (.iinc 5 1, 3) := by decide +kernel
theorem dX9_shortOf_38 : decode cX9_shortOf 38 = .ok (.goto (-23), 3) := by decide +kernel
theorem dX9_shortOf_41 : decode cX9_shortOf 41 = .ok (.aload_n 0, 1) := by decide +kernel
theorem dX9_shortOf_42 : decode cX9_shortOf 42 = .ok (.iload_n 1, 1) := by decide +kernel
theorem dX9_shortOf_43 : decode cX9_shortOf 43 = .ok (.iload_n 2, 1) := by decide +kernel
theorem dX9_shortOf_44 : decode cX9_shortOf 44 = .ok (.invokevirtual 222, 3) := by decide +kernel
theorem dX9_shortOf_47 : decode cX9_shortOf 47 = .ok (.aload_n 0, 1) := by decide +kernel
theorem dX9_shortOf_48 : decode cX9_shortOf 48 = .ok (.iconst 0, 1) := by decide +kernel
theorem dX9_shortOf_49 : decode cX9_shortOf 49 = .ok (.invokevirtual 226, 3) := by decide +kernel
theorem dX9_shortOf_52 : decode cX9_shortOf 52 = .ok (.aload_n 0, 1) := by decide +kernel
theorem dX9_shortOf_53 : decode cX9_shortOf 53 = .ok (.getfield 47, 3) := by decide +kernel
theorem dX9_shortOf_56 : decode cX9_shortOf 56 = .ok (.iconst 0, 1) := by decide +kernel
theorem dX9_shortOf_57 : decode cX9_shortOf 57 = .ok (.aload_n 0, 1) := by decide +kernel
theorem dX9_shortOf_58 : decode cX9_shortOf 58 = .ok (.getfield 193, 3) := by decide +kernel
theorem dX9_shortOf_61 : decode cX9_shortOf 61 = .ok (.iastore, 1) := by decide +kernel
theorem dX9_shortOf_62 : decode cX9_shortOf 62 = .ok (.aload_n 0, 1) := by decide +kernel
theorem dX9_shortOf_63 : decode cX9_shortOf 63 = .ok (.getfield 50, 3) := by decide +kernel
theorem dX9_shortOf_66 : decode cX9_shortOf 66 = .ok (.iconst 0, 1) := by decide +kernel
theorem dX9_shortOf_67 : decode cX9_shortOf 67 = .ok (.aload_n 0, 1) := by decide +kernel
theorem dX9_shortOf_68 : decode cX9_shortOf 68 = .ok (.getfield 199, 3) := by decide +kernel
theorem dX9_shortOf_71 : decode cX9_shortOf 71 = .ok (.iastore, 1) := by decide +kernel
theorem dX9_shortOf_72 : decode cX9_shortOf 72 = .ok (.aload_n 0, 1) := by decide +kernel
theorem dX9_shortOf_73 : decode cX9_shortOf 73 = .ok (.getfield 53, 3) := by decide +kernel
theorem dX9_shortOf_76 : decode cX9_shortOf 76 = .ok (.iconst 0, 1) := by decide +kernel
theorem dX9_shortOf_77 : decode cX9_shortOf 77 = .ok (.aload_n 0, 1) := by decide +kernel
theorem dX9_shortOf_78 : decode cX9_shortOf 78 = .ok (.getfield 202, 3) := by decide +kernel
theorem dX9_shortOf_81 : decode cX9_shortOf 81 = .ok (.iastore, 1) := by decide +kernel
theorem dX9_shortOf_82 : decode cX9_shortOf 82 = .ok (.aload_n 0, 1) := by decide +kernel
theorem dX9_shortOf_83 : decode cX9_shortOf 83 = .ok (.getfield 59, 3) := by decide +kernel
theorem dX9_shortOf_86 : decode cX9_shortOf 86 = .ok (.iconst 0, 1) := by decide +kernel
theorem dX9_shortOf_87 : decode cX9_shortOf 87 = .ok (.iconst 0, 1) := by decide +kernel
theorem dX9_shortOf_88 : decode cX9_shortOf 88 = .ok (.iastore, 1) := by decide +kernel
theorem dX9_shortOf_89 : decode cX9_shortOf 89 = .ok (.aload_n 0, 1) := by decide +kernel
theorem dX9_shortOf_90 : decode cX9_shortOf 90 = .ok (.getfield 62, 3) := by decide +kernel
theorem dX9_shortOf_93 : decode cX9_shortOf 93 = .ok (.iconst 0, 1) := by decide +kernel
theorem dX9_shortOf_94 : decode cX9_shortOf 94 = .ok (.iconst 0, 1) := by decide +kernel
theorem dX9_shortOf_95 : decode cX9_shortOf 95 = .ok (.iastore, 1) := by decide +kernel
theorem dX9_shortOf_96 : decode cX9_shortOf 96 = .ok (.aload_n 0, 1) := by decide +kernel
theorem dX9_shortOf_97 : decode cX9_shortOf 97 = .ok (.getfield 65, 3) := by decide +kernel
theorem dX9_shortOf_100 : decode cX9_shortOf 100 = .ok (.iconst 0, 1) := by decide +kernel
theorem dX9_shortOf_101 : decode cX9_shortOf 101 = .ok (.iconst (-1), 1) := by decide +kernel
theorem dX9_shortOf_102 : decode cX9_shortOf 102 = .ok (.iastore, 1) := by decide +kernel
theorem dX9_shortOf_103 : decode cX9_shortOf 103 = .ok (.iconst 0, 1) := by decide +kernel
theorem dX9_shortOf_104 : decode cX9_shortOf 104 = .ok (.istore 5, 2) := by decide +kernel
theorem dX9_shortOf_106 : decode cX9_shortOf 106 = .ok (.iload 5, 2) := by decide +kernel
theorem dX9_shortOf_108 : decode cX9_shortOf 108 = .ok (.iconst 3, 1) := by decide +kernel
theorem dX9_shortOf_109 : decode cX9_shortOf 109 = .ok (.if_icmp .ge 23, 3) := by decide +kernel
theorem dX9_shortOf_112 : decode cX9_shortOf 112 = .ok (.aload_n 0, 1) := by decide +kernel
theorem dX9_shortOf_113 : decode cX9_shortOf 113 = .ok (.getfield 56, 3) := by decide +kernel
theorem dX9_shortOf_116 : decode cX9_shortOf 116 = .ok (.iload 5, 2) := by decide +kernel
theorem dX9_shortOf_118 : decode cX9_shortOf 118 = .ok (.aload_n 0, 1) := by decide +kernel
theorem dX9_shortOf_119 : decode cX9_shortOf 119 = .ok (.getfield 29, 3) := by decide +kernel
theorem dX9_shortOf_122 : decode cX9_shortOf 122 = .ok (.iload 5, 2) := by decide +kernel
theorem dX9_shortOf_124 : decode cX9_shortOf 124 = .ok (.iaload, 1) := by decide +kernel
theorem dX9_shortOf_125 : decode cX9_shortOf 125 = .ok (.iastore, 1) := by decide +kernel
theorem dX9_shortOf_126 : decode cX9_shortOf 126 = .ok (.iinc 5 1, 3) := by decide +kernel
theorem dX9_shortOf_129 : decode cX9_shortOf 129 = .ok (.goto (-23), 3) := by decide +kernel
theorem dX9_shortOf_132 : decode cX9_shortOf 132 = .ok (.aload_n 0, 1) := by decide +kernel
theorem dX9_shortOf_133 : decode cX9_shortOf 133 = .ok (.getfield 193, 3) := by decide +kernel
theorem dX9_shortOf_136 : decode cX9_shortOf 136 = .ok (.iload 4, 2) := by decide +kernel
theorem dX9_shortOf_138 : decode cX9_shortOf 138 = .ok (.if_icmp .ne 11, 3) := by decide +kernel
theorem dX9_shortOf_141 : decode cX9_shortOf 141 = .ok (.aload_n 0, 1) := by decide +kernel
theorem dX9_shortOf_142 : decode cX9_shortOf 142 = .ok (.iconst 0, 1) := by decide +kernel
theorem dX9_shortOf_143 : decode cX9_shortOf 143 = .ok (.invokevirtual 261, 3) := by decide +kernel
theorem dX9_shortOf_146 : decode cX9_shortOf 146 = .ok (.goto 5, 3) := by decide +kernel
theorem dX9_shortOf_149 : decode cX9_shortOf 149 = .ok (.bipush (-9), 2) := by decide +kernel
theorem dX9_shortOf_151 : decode cX9_shortOf 151 = .ok (.istore 5, 2) := by decide +kernel
theorem dX9_shortOf_153 : decode cX9_shortOf 153 = .ok (.iconst 0, 1) := by decide +kernel
theorem dX9_shortOf_154 : decode cX9_shortOf 154 = .ok (.istore 6, 2) := by decide +kernel
theorem dX9_shortOf_156 : decode cX9_shortOf 156 = .ok (.iload 6, 2) := by decide +kernel
theorem dX9_shortOf_158 : decode cX9_shortOf 158 = .ok (.ifCond .lt 121, 3) := by decide +kernel
theorem dX9_shortOf_161 : decode cX9_shortOf 161 = .ok (.aload_n 0, 1) := by decide +kernel
theorem dX9_shortOf_162 : decode cX9_shortOf 162 = .ok (.getfield 65, 3) := by decide +kernel
theorem dX9_shortOf_165 : decode cX9_shortOf 165 = .ok (.iload 6, 2) := by decide +kernel
theorem dX9_shortOf_167 : decode cX9_shortOf 167 = .ok (.dup2, 1) := by decide +kernel
theorem dX9_shortOf_168 : decode cX9_shortOf 168 = .ok (.iaload, 1) := by decide +kernel
theorem dX9_shortOf_169 : decode cX9_shortOf 169 = .ok (.iconst 1, 1) := by decide +kernel
theorem dX9_shortOf_170 : decode cX9_shortOf 170 = .ok (.iadd, 1) := by decide +kernel
theorem dX9_shortOf_171 : decode cX9_shortOf 171 = .ok (.iastore, 1) := by decide +kernel
theorem dX9_shortOf_172 : decode cX9_shortOf 172 = .ok (.aload_n 0, 1) := by decide +kernel
theorem dX9_shortOf_173 : decode cX9_shortOf 173 = .ok (.getfield 65, 3) := by decide +kernel
theorem dX9_shortOf_176 : decode cX9_shortOf 176 = .ok (.iload 6, 2) := by decide +kernel
theorem dX9_shortOf_178 : decode cX9_shortOf 178 = .ok (.iaload, 1) := by decide +kernel
theorem dX9_shortOf_179 : decode cX9_shortOf 179 = .ok (.iconst 4, 1) := by decide +kernel
theorem dX9_shortOf_180 : decode cX9_shortOf 180 = .ok (.if_icmp .eq 21, 3) := by decide +kernel
theorem dX9_shortOf_183 : decode cX9_shortOf 183 = .ok (.aload_n 0, 1) := by decide +kernel
theorem dX9_shortOf_184 : decode cX9_shortOf 184 = .ok (.getfield 47, 3) := by decide +kernel
theorem dX9_shortOf_187 : decode cX9_shortOf 187 = .ok (.iload 6, 2) := by decide +kernel
theorem dX9_shortOf_189 : decode cX9_shortOf 189 = .ok (.iaload, 1) := by decide +kernel
theorem dX9_shortOf_190 : decode cX9_shortOf 190 = .ok (.iload 4, 2) := by decide +kernel
theorem dX9_shortOf_192 : decode cX9_shortOf 192 = .ok (.if_icmp .eq 9, 3) := by decide +kernel
theorem dX9_shortOf_195 : decode cX9_shortOf 195 = .ok (.iload 6, 2) := by decide +kernel
theorem dX9_shortOf_197 : decode cX9_shortOf 197 = .ok (.iconst 5, 1) := by decide +kernel
theorem dX9_shortOf_198 : decode cX9_shortOf 198 = .ok (.if_icmp .ne 9, 3) := by decide +kernel
theorem dX9_shortOf_201 : decode cX9_shortOf 201 = .ok (.iinc 6 (-1), 3) := by decide +kernel
theorem dX9_shortOf_204 : decode cX9_shortOf 204 = .ok (.goto (-48), 3) := by decide +kernel
theorem dX9_shortOf_207 : decode cX9_shortOf 207 = .ok (.aload_n 0, 1) := by decide +kernel
theorem dX9_shortOf_208 : decode cX9_shortOf 208 = .ok (.iload_n 1, 1) := by decide +kernel
theorem dX9_shortOf_209 : decode cX9_shortOf 209 = .ok (.iload 6, 2) := by decide +kernel
theorem dX9_shortOf_211 : decode cX9_shortOf 211 = .ok (.aload_n 0, 1) := by decide +kernel
theorem dX9_shortOf_212 : decode cX9_shortOf 212 = .ok (.getfield 65, 3) := by decide +kernel
theorem dX9_shortOf_215 : decode cX9_shortOf 215 = .ok (.iload 6, 2) := by decide +kernel
theorem dX9_shortOf_217 : decode cX9_shortOf 217 = .ok (.iaload, 1) := by decide +kernel
theorem dX9_shortOf_218 : decode cX9_shortOf 218 = .ok (.invokevirtual 264, 3) := by decide +kernel
theorem dX9_shortOf_221 : decode cX9_shortOf 221 = .ok (.ifCond .eq (-65), 3) := by decide +kernel
theorem dX9_shortOf_224 : decode cX9_shortOf 224 = .ok (.iinc 6 1, 3) := by decide +kernel
theorem dX9_shortOf_227 : decode cX9_shortOf 227 = .ok (.aload_n 0, 1) := by decide +kernel
theorem dX9_shortOf_228 : decode cX9_shortOf 228 = .ok (.getfield 65, 3) := by decide +kernel
theorem dX9_shortOf_231 : decode cX9_shortOf 231 = .ok (.iload 6, 2) := by decide +kernel
theorem dX9_shortOf_233 : decode cX9_shortOf 233 = .ok (.iconst (-1), 1) := by decide +kernel
theorem dX9_shortOf_234 : decode cX9_shortOf 234 = .ok (.iastore, 1) := by decide +kernel
theorem dX9_shortOf_235 : decode cX9_shortOf 235 = .ok (.aload_n 0, 1) := by decide +kernel
theorem dX9_shortOf_236 : decode cX9_shortOf 236 = .ok (.getfield 47, 3) := by decide +kernel
theorem dX9_shortOf_239 : decode cX9_shortOf 239 = .ok (.iload 6, 2) := by decide +kernel
theorem dX9_shortOf_241 : decode cX9_shortOf 241 = .ok (.iaload, 1) := by decide +kernel
theorem dX9_shortOf_242 : decode cX9_shortOf 242 = .ok (.iload 4, 2) := by decide +kernel
theorem dX9_shortOf_244 : decode cX9_shortOf 244 = .ok (.if_icmp .ne (-88), 3) := by decide +kernel
theorem dX9_shortOf_247 : decode cX9_shortOf 247 = .ok (.aload_n 0, 1) := by decide +kernel
theorem dX9_shortOf_248 : decode cX9_shortOf 248 = .ok (.iload 6, 2) := by decide +kernel
theorem dX9_shortOf_250 : decode cX9_shortOf 250 = .ok (.invokevirtual 261, 3) := by decide +kernel
theorem dX9_shortOf_253 : decode cX9_shortOf 253 = .ok (.istore 7, 2) := by decide +kernel
theorem dX9_shortOf_255 : decode cX9_shortOf 255 = .ok (.iload 5, 2) := by decide +kernel
theorem dX9_shortOf_257 : decode cX9_shortOf 257 = .ok (.ifCond .lt 10, 3) := by decide +kernel
theorem dX9_shortOf_260 : decode cX9_shortOf 260 = .ok (.iload 7, 2) := by decide +kernel
theorem dX9_shortOf_262 : decode cX9_shortOf 262 = .ok (.iload 5, 2) := by decide +kernel
theorem dX9_shortOf_264 : decode cX9_shortOf 264 = .ok (.if_icmp .ge 8, 3) := by decide +kernel
theorem dX9_shortOf_267 : decode cX9_shortOf 267 = .ok (.iload 7, 2) := by decide +kernel
theorem dX9_shortOf_269 : decode cX9_shortOf 269 = .ok (.goto 5, 3) := by decide +kernel
theorem dX9_shortOf_272 : decode cX9_shortOf 272 = .ok (.iload 5, 2) := by decide +kernel
theorem dX9_shortOf_274 : decode cX9_shortOf 274 = .ok (.istore 5, 2) := by decide +kernel
theorem dX9_shortOf_276 : decode cX9_shortOf 276 = .ok (.goto (-120), 3) := by decide +kernel
theorem dX9_shortOf_279 : decode cX9_shortOf 279 = .ok (.iload 5, 2) := by decide +kernel
theorem dX9_shortOf_281 : decode cX9_shortOf 281 = .ok (.ireturn, 1) := by decide +kernel
theorem dX9_askedCells_0 : decode cX9_askedCells 0 = .ok (.aload_n 0, 1) := by decide +kernel
theorem dX9_askedCells_1 : decode cX9_askedCells 1 = .ok (.iload_n 1, 1) := by decide +kernel
theorem dX9_askedCells_2 : decode cX9_askedCells 2 = .ok (.invokevirtual 215, 3) := by decide +kernel
theorem dX9_askedCells_5 : decode cX9_askedCells 5 = .ok (.istore 4, 2) := by decide +kernel
theorem dX9_askedCells_7 : decode cX9_askedCells 7 = .ok (.iload 4, 2) := by decide +kernel
theorem dX9_askedCells_9 : decode cX9_askedCells 9 = .ok (.ifCond .ge 8, 3) := by decide +kernel
theorem dX9_askedCells_12 : decode cX9_askedCells 12 = .ok (.iload 4, 2) := by decide +kernel
theorem dX9_askedCells_14 : decode cX9_askedCells 14 = .ok (.goto 30, 3) := by decide +kernel
theorem dX9_askedCells_17 : decode cX9_askedCells 17 = .ok (.aload_n 0, 1) := by decide +kernel
theorem dX9_askedCells_18 : decode cX9_askedCells 18 = .ok (.iload_n 1, 1) := by decide +kernel
theorem dX9_askedCells_19 : decode cX9_askedCells 19 = .ok (.iload_n 2, 1) := by decide +kernel
theorem dX9_askedCells_20 : decode cX9_askedCells 20 = .ok (.invokevirtual 218, 3) := by decide +kernel
theorem dX9_askedCells_23 : decode cX9_askedCells 23 = .ok (.ifCond .eq 16, 3) := by decide +kernel
theorem dX9_askedCells_26 : decode cX9_askedCells 26 = .ok (.aload_n 0, 1) := by decide +kernel
theorem dX9_askedCells_27 : decode cX9_askedCells 27 = .ok (.iload_n 1, 1) := by decide +kernel
theorem dX9_askedCells_28 : decode cX9_askedCells 28 = .ok (.iload_n 3, 1) := by decide +kernel
theorem dX9_askedCells_29 : decode cX9_askedCells 29 = .ok (.invokevirtual 218, 3) := by decide +kernel
theorem dX9_askedCells_32 : decode cX9_askedCells 32 = .ok (.ifCond .eq 7, 3) := by decide +kernel
theorem dX9_askedCells_35 : decode cX9_askedCells 35 = .ok (.iconst 0, 1) := by decide +kernel
theorem dX9_askedCells_36 : decode cX9_askedCells 36 = .ok (.goto 8, 3) := by decide +kernel
theorem dX9_askedCells_39 : decode cX9_askedCells 39 = .ok (.aload_n 0, 1) := by decide +kernel
theorem dX9_askedCells_40 : decode cX9_askedCells 40 = .ok (.iconst 2, 1) := by decide +kernel
theorem dX9_askedCells_41 : decode cX9_askedCells 41 = .ok (.invokevirtual 129, 3) := by decide +kernel
theorem dX9_askedCells_44 : decode cX9_askedCells 44 = .ok (.ireturn, 1) := by decide +kernel
theorem dX9_way_0 : decode cX9_way 0 = .ok (.aload_n 0, 1) := by decide +kernel
theorem dX9_way_1 : decode cX9_way 1 = .ok (.iload_n 1, 1) := by decide +kernel
theorem dX9_way_2 : decode cX9_way 2 = .ok (.iload_n 2, 1) := by decide +kernel
theorem dX9_way_3 : decode cX9_way 3 = .ok (.iload_n 3, 1) := by decide +kernel
theorem dX9_way_4 : decode cX9_way 4 = .ok (.invokevirtual 267, 3) := by decide +kernel
theorem dX9_way_7 : decode cX9_way 7 = .ok (.istore 4, 2) := by decide +kernel
theorem dX9_way_9 : decode cX9_way 9 = .ok (.iload 4, 2) := by decide +kernel
theorem dX9_way_11 : decode cX9_way 11 = .ok (.ifCond .ge 8, 3) := by decide +kernel
theorem dX9_way_14 : decode cX9_way 14 = .ok (.iload 4, 2) := by decide +kernel
theorem dX9_way_16 : decode cX9_way 16 = .ok (.goto 10, 3) := by decide +kernel
theorem dX9_way_19 : decode cX9_way 19 = .ok (.aload_n 0, 1) := by decide +kernel
theorem dX9_way_20 : decode cX9_way 20 = .ok (.iload_n 1, 1) := by decide +kernel
theorem dX9_way_21 : decode cX9_way 21 = .ok (.iload_n 2, 1) := by decide +kernel
theorem dX9_way_22 : decode cX9_way 22 = .ok (.iload_n 3, 1) := by decide +kernel
theorem dX9_way_23 : decode cX9_way 23 = .ok (.invokevirtual 270, 3) := by decide +kernel
theorem dX9_way_26 : decode cX9_way 26 = .ok (.ireturn, 1) := by decide +kernel
theorem dX9_farthest_0 : decode cX9_farthest 0 = .ok (.aload_n 0, 1) := by decide +kernel
theorem dX9_farthest_1 : decode cX9_farthest 1 = .ok (.iload_n 1, 1) := by decide +kernel
theorem dX9_farthest_2 : decode cX9_farthest 2 = .ok (.iload_n 2, 1) := by decide +kernel
theorem dX9_farthest_3 : decode cX9_farthest 3 = .ok (.iload_n 2, 1) := by decide +kernel
theorem dX9_farthest_4 : decode cX9_farthest 4 = .ok (.invokevirtual 267, 3) := by decide +kernel
theorem dX9_farthest_7 : decode cX9_farthest 7 = .ok (.istore_n 3, 1) := by decide +kernel
theorem dX9_farthest_8 : decode cX9_farthest 8 = .ok (.iload_n 3, 1) := by decide +kernel
theorem dX9_farthest_9 : decode cX9_farthest 9 = .ok (.ifCond .ge 5, 3) := by decide +kernel
theorem dX9_farthest_12 : decode cX9_farthest 12 = .ok (.iload_n 3, 1) := by decide +kernel
theorem dX9_farthest_13 : decode cX9_farthest 13 = .ok (.ireturn, 1) := by decide +kernel
theorem dX9_farthest_14 : decode cX9_farthest 14 = .ok (.iconst 0, 1) := by decide +kernel
theorem dX9_farthest_15 : decode cX9_farthest 15 = .ok (.istore 4, 2) := by decide +kernel
theorem dX9_farthest_17 : decode cX9_farthest 17 = .ok (.iconst (-1), 1) := by decide +kernel
theorem dX9_farthest_18 : decode cX9_farthest 18 = .ok (.istore 5, 2) := by decide +kernel
theorem dX9_farthest_20 : decode cX9_farthest 20 = .ok (.iconst 0, 1) := by decide +kernel
theorem dX9_farthest_21 : decode cX9_farthest 21 = .ok (.istore 6, 2) := by decide +kernel
theorem dX9_farthest_23 : decode cX9_farthest 23 = .ok (.iload 6, 2) := by decide +kernel
theorem dX9_farthest_25 : decode cX9_farthest 25 = .ok (.aload_n 0, 1) := by decide +kernel
theorem dX9_farthest_26 : decode cX9_farthest 26 = .ok (.iload_n 1, 1) := by decide +kernel
theorem dX9_farthest_27 : decode cX9_farthest 27 = .ok (.invokevirtual 181, 3) := by decide +kernel
theorem dX9_farthest_30 : decode cX9_farthest 30 = .ok (.if_icmp .ge 51, 3) := by decide +kernel
theorem dX9_farthest_33 : decode cX9_farthest 33 = .ok (.aload_n 0, 1) := by decide +kernel
theorem dX9_farthest_34 : decode cX9_farthest 34 = .ok (.iload_n 1, 1) := by decide +kernel
theorem dX9_farthest_35 : decode cX9_farthest 35 = .ok (.iload_n 2, 1) := by decide +kernel
theorem dX9_farthest_36 : decode cX9_farthest 36 = .ok (.iload 6, 2) := by decide +kernel
theorem dX9_farthest_38 : decode cX9_farthest 38 = .ok (.invokevirtual 270, 3) := by decide +kernel
theorem dX9_farthest_41 : decode cX9_farthest 41 = .ok (.istore 7, 2) := by decide +kernel
theorem dX9_farthest_43 : decode cX9_farthest 43 = .ok (.iload 7, 2) := by decide +kernel
theorem dX9_farthest_45 : decode cX9_farthest 45 = .ok (.iload 5, 2) := by decide +kernel
theorem dX9_farthest_47 : decode cX9_farthest 47 = .ok (.if_icmp .le 8, 3) := by decide +kernel
theorem dX9_farthest_50 : decode cX9_farthest 50 = .ok (.iload 6, 2) := by decide +kernel
theorem dX9_farthest_52 : decode cX9_farthest 52 = .ok (.goto 5, 3) := by decide +kernel
theorem dX9_farthest_55 : decode cX9_farthest 55 = .ok (.iload 4, 2) := by decide +kernel
theorem dX9_farthest_57 : decode cX9_farthest 57 = .ok (.istore 4, 2) := by decide +kernel
theorem dX9_farthest_59 : decode cX9_farthest 59 = .ok (.iload 7, 2) := by decide +kernel
theorem dX9_farthest_61 : decode cX9_farthest 61 = .ok (.iload 5, 2) := by decide +kernel
theorem dX9_farthest_63 : decode cX9_farthest 63 = .ok (.if_icmp .le 8, 3) := by decide +kernel
theorem dX9_farthest_66 : decode cX9_farthest 66 = .ok (.iload 7, 2) := by decide +kernel
theorem dX9_farthest_68 : decode cX9_farthest 68 = .ok (.goto 5, 3) := by decide +kernel
theorem dX9_farthest_71 : decode cX9_farthest 71 = .ok (.iload 5, 2) := by decide +kernel
theorem dX9_farthest_73 : decode cX9_farthest 73 = .ok (.istore 5, 2) := by decide +kernel
theorem dX9_farthest_75 : decode cX9_farthest 75 = .ok (.iinc 6 1, 3) := by decide +kernel
theorem dX9_farthest_78 : decode cX9_farthest 78 = .ok (.goto (-55), 3) := by decide +kernel
theorem dX9_farthest_81 : decode cX9_farthest 81 = .ok (.aload_n 0, 1) := by decide +kernel
theorem dX9_farthest_82 : decode cX9_farthest 82 = .ok (.iload 5, 2) := by decide +kernel
theorem dX9_farthest_84 : decode cX9_farthest 84 = .ok (.i2l, 1) := by decide +kernel
theorem dX9_farthest_85 : decode cX9_farthest 85 = .ok (.iload 4, 2) := by decide +kernel
theorem dX9_farthest_87 : decode cX9_farthest 87 = .ok (.invokevirtual 166, 3) := by decide +kernel
theorem dX9_farthest_90 : decode cX9_farthest 90 = .ok (.ireturn, 1) := by decide +kernel
theorem dX9_mean_0 : decode cX9_mean 0 = .ok (.aload_n 0, 1) := by decide +kernel
theorem dX9_mean_1 : decode cX9_mean 1 = .ok (.iload_n 1, 1) := by decide +kernel
theorem dX9_mean_2 : decode cX9_mean 2 = .ok (.iload_n 2, 1) := by decide +kernel
theorem dX9_mean_3 : decode cX9_mean 3 = .ok (.iload_n 2, 1) := by decide +kernel
theorem dX9_mean_4 : decode cX9_mean 4 = .ok (.invokevirtual 267, 3) := by decide +kernel
theorem dX9_mean_7 : decode cX9_mean 7 = .ok (.istore_n 3, 1) := by decide +kernel
theorem dX9_mean_8 : decode cX9_mean 8 = .ok (.iload_n 3, 1) := by decide +kernel
theorem dX9_mean_9 : decode cX9_mean 9 = .ok (.ifCond .ge 5, 3) := by decide +kernel
theorem dX9_mean_12 : decode cX9_mean 12 = .ok (.iload_n 3, 1) := by decide +kernel
theorem dX9_mean_13 : decode cX9_mean 13 = .ok (.ireturn, 1) := by decide +kernel
theorem dX9_mean_14 : decode cX9_mean 14 = .ok (.iconst 0, 1) := by decide +kernel
theorem dX9_mean_15 : decode cX9_mean 15 = .ok (.istore 4, 2) := by decide +kernel
theorem dX9_mean_17 : decode cX9_mean 17 = .ok (.iconst 0, 1) := by decide +kernel
theorem dX9_mean_18 : decode cX9_mean 18 = .ok (.istore 5, 2) := by decide +kernel
theorem dX9_mean_20 : decode cX9_mean 20 = .ok (.iload 5, 2) := by decide +kernel
theorem dX9_mean_22 : decode cX9_mean 22 = .ok (.aload_n 0, 1) := by decide +kernel
theorem dX9_mean_23 : decode cX9_mean 23 = .ok (.iload_n 1, 1) := by decide +kernel
theorem dX9_mean_24 : decode cX9_mean 24 = .ok (.invokevirtual 181, 3) := by decide +kernel
theorem dX9_mean_27 : decode cX9_mean 27 = .ok (.if_icmp .ge 22, 3) := by decide +kernel
theorem dX9_mean_30 : decode cX9_mean 30 = .ok (.iload 4, 2) := by decide +kernel
theorem dX9_mean_32 : decode cX9_mean 32 = .ok (.aload_n 0, 1) := by decide +kernel
theorem dX9_mean_33 : decode cX9_mean 33 = .ok (.iload_n 1, 1) := by decide +kernel
theorem dX9_mean_34 : decode cX9_mean 34 = .ok (.iload_n 2, 1) := by decide +kernel
theorem dX9_mean_35 : decode cX9_mean 35 = .ok (.iload 5, 2) := by decide +kernel
theorem dX9_mean_37 : decode cX9_mean 37 = .ok (.invokevirtual 270, 3) := by decide +kernel
theorem dX9_mean_40 : decode cX9_mean 40 = .ok (.iadd, 1) := by decide +kernel
theorem dX9_mean_41 : decode cX9_mean 41 = .ok (.istore 4, 2) := by decide +kernel
theorem dX9_mean_43 : decode cX9_mean 43 = .ok (.iinc 5 1, 3) := by decide +kernel
theorem dX9_mean_46 : decode cX9_mean 46 = .ok (.goto (-26), 3) := by decide +kernel
theorem dX9_mean_49 : decode cX9_mean 49 = .ok (.iload 4, 2) := by decide +kernel
theorem dX9_mean_51 : decode cX9_mean 51 = .ok (.aload_n 0, 1) := by decide +kernel
theorem dX9_mean_52 : decode cX9_mean 52 = .ok (.iload_n 1, 1) := by decide +kernel
theorem dX9_mean_53 : decode cX9_mean 53 = .ok (.invokevirtual 181, 3) := by decide +kernel
theorem dX9_mean_56 : decode cX9_mean 56 = .ok (.iconst 1, 1) := by decide +kernel
theorem dX9_mean_57 : decode cX9_mean 57 = .ok (.isub, 1) := by decide +kernel
theorem dX9_mean_58 : decode cX9_mean 58 = .ok (.idiv, 1) := by decide +kernel
theorem dX9_mean_59 : decode cX9_mean 59 = .ok (.ireturn, 1) := by decide +kernel
theorem dX9_isWalked_0 : decode cX9_isWalked 0 = .ok (.lload_n 1, 1) := by decide +kernel
theorem dX9_isWalked_1 : decode cX9_isWalked 1 = .ok (.invokestatic 137, 3) := by decide +kernel
theorem dX9_isWalked_4 : decode cX9_isWalked 4 = .ok (.istore_n 3, 1) := by decide +kernel
theorem dX9_isWalked_5 : decode cX9_isWalked 5 = .ok (.iload_n 3, 1) := by decide +kernel
theorem dX9_isWalked_6 : decode cX9_isWalked 6 = .ok (.istore 4, 2) := by decide +kernel
theorem dX9_isWalked_8 : decode cX9_isWalked 8 = .ok (.iconst 0, 1) := by decide +kernel
theorem dX9_isWalked_9 : decode cX9_isWalked 9 = .ok (.istore 5, 2) := by decide +kernel
theorem dX9_isWalked_11 : decode cX9_isWalked 11 = .ok (.iconst 0, 1) := by decide +kernel
theorem dX9_isWalked_12 : decode cX9_isWalked 12 = .ok (.istore 6, 2) := by decide +kernel
theorem dX9_isWalked_14 : decode cX9_isWalked 14 = .ok (.aload_n 0, 1) := by decide +kernel
theorem dX9_isWalked_15 : decode cX9_isWalked 15 = .ok (.iconst 0, 1) := by decide +kernel
theorem dX9_isWalked_16 : decode cX9_isWalked 16 = .ok (.putfield 273, 3) := by decide +kernel
theorem dX9_isWalked_19 : decode cX9_isWalked 19 = .ok (.aload_n 0, 1) := by decide +kernel
theorem dX9_isWalked_20 : decode cX9_isWalked 20 = .ok (.getfield 273, 3) := by decide +kernel
theorem dX9_isWalked_23 : decode cX9_isWalked 23 = .ok (.ifCond .eq 14, 3) := by decide +kernel
theorem dX9_isWalked_26 : decode cX9_isWalked 26 = .ok (.iload 4, 2) := by decide +kernel
theorem dX9_isWalked_28 : decode cX9_isWalked 28 = .ok (.iload_n 3, 1) := by decide +kernel
theorem dX9_isWalked_29 : decode cX9_isWalked 29 = .ok (.if_icmp .ne 8, 3) := by decide +kernel
theorem dX9_isWalked_32 : decode cX9_isWalked 32 = .ok (.iload 5, 2) := by decide +kernel
theorem dX9_isWalked_34 : decode cX9_isWalked 34 = .ok (.ifCond .eq 128, 3) := by decide +kernel
theorem dX9_isWalked_37 : decode cX9_isWalked 37 = .ok (.aload_n 0, 1) := by decide +kernel
theorem dX9_isWalked_38 : decode cX9_isWalked 38 = .ok (.getfield 71, 3) := by decide +kernel
theorem dX9_isWalked_41 : decode cX9_isWalked 41 = .ok (.aload_n 0, 1) := by decide +kernel
theorem dX9_isWalked_42 : decode cX9_isWalked 42 = .ok (.getfield 273, 3) := by decide +kernel
theorem dX9_isWalked_45 : decode cX9_isWalked 45 = .ok (.iload 5, 2) := by decide +kernel
theorem dX9_isWalked_47 : decode cX9_isWalked 47 = .ok (.iastore, 1) := by decide +kernel
theorem dX9_isWalked_48 : decode cX9_isWalked 48 = .ok (.aload_n 0, 1) := by decide +kernel
theorem dX9_isWalked_49 : decode cX9_isWalked 49 = .ok (.getfield 74, 3) := by decide +kernel
theorem dX9_isWalked_52 : decode cX9_isWalked 52 = .ok (.aload_n 0, 1) := by decide +kernel
theorem dX9_isWalked_53 : decode cX9_isWalked 53 = .ok (.getfield 273, 3) := by decide +kernel
theorem dX9_isWalked_56 : decode cX9_isWalked 56 = .ok (.iload 4, 2) := by decide +kernel
theorem dX9_isWalked_58 : decode cX9_isWalked 58 = .ok (.iastore, 1) := by decide +kernel
theorem dX9_isWalked_59 : decode cX9_isWalked 59 = .ok (.aload_n 0, 1) := by decide +kernel
theorem dX9_isWalked_60 : decode cX9_isWalked 60 = .ok (.getfield 77, 3) := by decide +kernel
theorem dX9_isWalked_63 : decode cX9_isWalked 63 = .ok (.aload_n 0, 1) := by decide +kernel
theorem dX9_isWalked_64 : decode cX9_isWalked 64 = .ok (.getfield 273, 3) := by decide +kernel
theorem dX9_isWalked_67 : decode cX9_isWalked 67 = .ok (.iload 6, 2) := by decide +kernel
theorem dX9_isWalked_69 : decode cX9_isWalked 69 = .ok (.iastore, 1) := by decide +kernel
theorem dX9_isWalked_70 : decode cX9_isWalked 70 = .ok (.aload_n 0, 1) := by decide +kernel
theorem dX9_isWalked_71 : decode cX9_isWalked 71 = .ok (.dup, 1) := by decide +kernel
theorem dX9_isWalked_72 : decode cX9_isWalked 72 = .ok (.getfield 273, 3) := by decide +kernel
theorem dX9_isWalked_75 : decode cX9_isWalked 75 = .ok (.iconst 1, 1) := by decide +kernel
theorem dX9_isWalked_76 : decode cX9_isWalked 76 = .ok (.iadd, 1) := by decide +kernel
theorem dX9_isWalked_77 : decode cX9_isWalked 77 = .ok (.putfield 273, 3) := by decide +kernel
theorem dX9_isWalked_80 : decode cX9_isWalked 80 = .ok (.iload 4, 2) := by decide +kernel
theorem dX9_isWalked_82 : decode cX9_isWalked 82 = .ok (.iload 5, 2) := by decide +kernel
theorem dX9_isWalked_84 : decode cX9_isWalked 84 = .ok (.invokestatic 141, 3) := by decide +kernel
theorem dX9_isWalked_87 : decode cX9_isWalked 87 = .ok (.istore 7, 2) := by decide +kernel
theorem dX9_isWalked_89 : decode cX9_isWalked 89 = .ok (.iload 7, 2) := by decide +kernel
theorem dX9_isWalked_91 : decode cX9_isWalked 91 = .ok (.iload 5, 2) := by decide +kernel
theorem dX9_isWalked_93 : decode cX9_isWalked 93 = .ok (.iconst 3, 1) := by decide +kernel
theorem dX9_isWalked_94 : decode cX9_isWalked 94 = .ok (.iadd, 1) := by decide +kernel
theorem dX9_isWalked_95 : decode cX9_isWalked 95 = .ok (.iconst 4, 1) := by decide +kernel
theorem dX9_isWalked_96 : decode cX9_isWalked 96 = .ok (.irem, 1) := by decide +kernel
theorem dX9_isWalked_97 : decode cX9_isWalked 97 = .ok (.invokestatic 141, 3) := by decide +kernel
theorem dX9_isWalked_100 : decode cX9_isWalked 100 = .ok (.istore 8, 2) := by decide +kernel
theorem dX9_isWalked_102 : decode cX9_isWalked 102 = .ok (.lload_n 1, 1) := by decide +kernel
theorem dX9_isWalked_103 : decode cX9_isWalked 103 = .ok (.iload 7, 2) := by decide +kernel
theorem dX9_isWalked_105 : decode cX9_isWalked 105 = .ok (.invokestatic 133, 3) := by decide +kernel
theorem dX9_isWalked_108 : decode cX9_isWalked 108 = .ok (.ifCond .ne 17, 3) := by decide +kernel
theorem dX9_isWalked_111 : decode cX9_isWalked 111 = .ok (.iload 5, 2) := by decide +kernel
theorem dX9_isWalked_113 : decode cX9_isWalked 113 = .ok (.iconst 1, 1) := by decide +kernel
theorem dX9_isWalked_114 : decode cX9_isWalked 114 = .ok (.iadd, 1) := by decide +kernel
theorem dX9_isWalked_115 : decode cX9_isWalked 115 = .ok (.iconst 4, 1) := by decide +kernel
theorem dX9_isWalked_116 : decode cX9_isWalked 116 = .ok (.irem, 1) := by decide +kernel
theorem dX9_isWalked_117 : decode cX9_isWalked 117 = .ok (.istore 5, 2) := by decide +kernel
theorem dX9_isWalked_119 : decode cX9_isWalked 119 = .ok (.iconst 1, 1) := by decide +kernel
theorem dX9_isWalked_120 : decode cX9_isWalked 120 = .ok (.istore 6, 2) := by decide +kernel
theorem dX9_isWalked_122 : decode cX9_isWalked 122 = .ok (.goto 37, 3) := by decide +kernel
theorem dX9_isWalked_125 : decode cX9_isWalked 125 = .ok (.lload_n 1, 1) := by decide +kernel
theorem dX9_isWalked_126 : decode cX9_isWalked 126 = .ok (.iload 8, 2) := by decide +kernel
theorem dX9_isWalked_128 : decode cX9_isWalked 128 = .ok (.invokestatic 133, 3) := by decide +kernel
theorem dX9_isWalked_131 : decode cX9_isWalked 131 = .ok (.ifCond .eq 21, 3) := by decide +kernel
theorem dX9_isWalked_134 : decode cX9_isWalked 134 = .ok (.iload 8, 2) := by decide +kernel
theorem dX9_isWalked_136 : decode cX9_isWalked 136 = .ok (.istore 4, 2) := by decide +kernel
theorem dX9_isWalked_138 : decode cX9_isWalked 138 = .ok (.iload 5, 2) := by decide +kernel
theorem dX9_isWalked_140 : decode cX9_isWalked 140 = .ok (.iconst 3, 1) := by decide +kernel
theorem dX9_isWalked_141 : decode cX9_isWalked 141 = .ok (.iadd, 1) := by decide +kernel
theorem dX9_isWalked_142 : decode cX9_isWalked 142 = .ok (.iconst 4, 1) := by decide +kernel
theorem dX9_isWalked_143 : decode cX9_isWalked 143 = .ok (.irem, 1) := by decide +kernel
theorem dX9_isWalked_144 : decode cX9_isWalked 144 = .ok (.istore 5, 2) := by decide +kernel
theorem dX9_isWalked_146 : decode cX9_isWalked 146 = .ok (.iconst 3, 1) := by decide +kernel
theorem dX9_isWalked_147 : decode cX9_isWalked 147 = .ok (.istore 6, 2) := by decide +kernel
theorem dX9_isWalked_149 : decode cX9_isWalked 149 = .ok (.goto 10, 3) := by decide +kernel
theorem dX9_isWalked_152 : decode cX9_isWalked 152 = .ok (.iload 7, 2) := by decide +kernel
theorem dX9_isWalked_154 : decode cX9_isWalked 154 = .ok (.istore 4, 2) := by decide +kernel
theorem dX9_isWalked_156 : decode cX9_isWalked 156 = .ok (.iconst 2, 1) := by decide +kernel
theorem dX9_isWalked_157 : decode cX9_isWalked 157 = .ok (.istore 6, 2) := by decide +kernel
theorem dX9_isWalked_159 : decode cX9_isWalked 159 = .ok (.goto (-140), 3) := by decide +kernel
theorem dX9_isWalked_162 : decode cX9_isWalked 162 = .ok (.aload_n 0, 1) := by decide +kernel
theorem dX9_isWalked_163 : decode cX9_isWalked 163 = .ok (.getfield 77, 3) := by decide +kernel
theorem dX9_isWalked_166 : decode cX9_isWalked 166 = .ok (.iconst 0, 1) := by decide +kernel
theorem dX9_isWalked_167 : decode cX9_isWalked 167 = .ok (.iload 6, 2) := by decide +kernel
theorem dX9_isWalked_169 : decode cX9_isWalked 169 = .ok (.iastore, 1) := by decide +kernel
theorem dX9_isWalked_170 : decode cX9_isWalked 170 = .ok (.aload_n 0, 1) := by decide +kernel
theorem dX9_isWalked_171 : decode cX9_isWalked 171 = .ok (.getfield 273, 3) := by decide +kernel
theorem dX9_isWalked_174 : decode cX9_isWalked 174 = .ok (.lload_n 1, 1) := by decide +kernel
theorem dX9_isWalked_175 : decode cX9_isWalked 175 = .ok (.invokestatic 163, 3) := by decide +kernel
theorem dX9_isWalked_178 : decode cX9_isWalked 178 = .ok (.if_icmp .ne 7, 3) := by decide +kernel
theorem dX9_isWalked_181 : decode cX9_isWalked 181 = .ok (.iconst 1, 1) := by decide +kernel
theorem dX9_isWalked_182 : decode cX9_isWalked 182 = .ok (.goto 4, 3) := by decide +kernel
theorem dX9_isWalked_185 : decode cX9_isWalked 185 = .ok (.iconst 0, 1) := by decide +kernel
theorem dX9_isWalked_186 : decode cX9_isWalked 186 = .ok (.ireturn, 1) := by decide +kernel
theorem dX9_askedRim_0 : decode cX9_askedRim 0 = .ok (.aload_n 0, 1) := by decide +kernel
theorem dX9_askedRim_1 : decode cX9_askedRim 1 = .ok (.iload_n 1, 1) := by decide +kernel
theorem dX9_askedRim_2 : decode cX9_askedRim 2 = .ok (.invokevirtual 160, 3) := by decide +kernel
theorem dX9_askedRim_5 : decode cX9_askedRim 5 = .ok (.istore_n 2, 1) := by decide +kernel
theorem dX9_askedRim_6 : decode cX9_askedRim 6 = .ok (.iload_n 2, 1) := by decide +kernel
theorem dX9_askedRim_7 : decode cX9_askedRim 7 = .ok (.ifCond .ge 7, 3) := by decide +kernel
theorem dX9_askedRim_10 : decode cX9_askedRim 10 = .ok (.iload_n 2, 1) := by decide +kernel
theorem dX9_askedRim_11 : decode cX9_askedRim 11 = .ok (.goto 22, 3) := by decide +kernel
theorem dX9_askedRim_14 : decode cX9_askedRim 14 = .ok (.aload_n 0, 1) := by decide +kernel
theorem dX9_askedRim_15 : decode cX9_askedRim 15 = .ok (.aload_n 0, 1) := by decide +kernel
theorem dX9_askedRim_16 : decode cX9_askedRim 16 = .ok (.getfield 13, 3) := by decide +kernel
theorem dX9_askedRim_19 : decode cX9_askedRim 19 = .ok (.iload_n 1, 1) := by decide +kernel
theorem dX9_askedRim_20 : decode cX9_askedRim 20 = .ok (.laload, 1) := by decide +kernel
theorem dX9_askedRim_21 : decode cX9_askedRim 21 = .ok (.invokevirtual 276, 3) := by decide +kernel
theorem dX9_askedRim_24 : decode cX9_askedRim 24 = .ok (.ifCond .eq 7, 3) := by decide +kernel
theorem dX9_askedRim_27 : decode cX9_askedRim 27 = .ok (.iconst 0, 1) := by decide +kernel
theorem dX9_askedRim_28 : decode cX9_askedRim 28 = .ok (.goto 5, 3) := by decide +kernel
theorem dX9_askedRim_31 : decode cX9_askedRim 31 = .ok (.bipush (-4), 2) := by decide +kernel
theorem dX9_askedRim_33 : decode cX9_askedRim 33 = .ok (.ireturn, 1) := by decide +kernel
theorem dX9_rim_0 : decode cX9_rim 0 = .ok (.aload_n 0, 1) := by decide +kernel
theorem dX9_rim_1 : decode cX9_rim 1 = .ok (.iload_n 1, 1) := by decide +kernel
theorem dX9_rim_2 : decode cX9_rim 2 = .ok (.invokevirtual 279, 3) := by decide +kernel
theorem dX9_rim_5 : decode cX9_rim 5 = .ok (.istore_n 2, 1) := by decide +kernel
theorem dX9_rim_6 : decode cX9_rim 6 = .ok (.iload_n 2, 1) := by decide +kernel
theorem dX9_rim_7 : decode cX9_rim 7 = .ok (.ifCond .ge 7, 3) := by decide +kernel
theorem dX9_rim_10 : decode cX9_rim 10 = .ok (.iload_n 2, 1) := by decide +kernel
theorem dX9_rim_11 : decode cX9_rim 11 = .ok (.goto 7, 3) := by decide +kernel
theorem dX9_rim_14 : decode cX9_rim 14 = .ok (.aload_n 0, 1) := by decide +kernel
theorem dX9_rim_15 : decode cX9_rim 15 = .ok (.getfield 273, 3) := by decide +kernel
theorem dX9_rim_18 : decode cX9_rim 18 = .ok (.ireturn, 1) := by decide +kernel
theorem dX9_edge_0 : decode cX9_edge 0 = .ok (.iload_n 3, 1) := by decide +kernel
theorem dX9_edge_1 : decode cX9_edge 1 = .ok (.iconst 0, 1) := by decide +kernel
theorem dX9_edge_2 : decode cX9_edge 2 = .ok (.iconst 2, 1) := by decide +kernel
theorem dX9_edge_3 : decode cX9_edge 3 = .ok (.invokestatic 121, 3) := by decide +kernel
theorem dX9_edge_6 : decode cX9_edge 6 = .ok (.ifCond .ne 5, 3) := by decide +kernel
theorem dX9_edge_9 : decode cX9_edge 9 = .ok (.iconst (-1), 1) := by decide +kernel
theorem dX9_edge_10 : decode cX9_edge 10 = .ok (.ireturn, 1) := by decide +kernel
theorem dX9_edge_11 : decode cX9_edge 11 = .ok (.aload_n 0, 1) := by decide +kernel
theorem dX9_edge_12 : decode cX9_edge 12 = .ok (.iload_n 1, 1) := by decide +kernel
theorem dX9_edge_13 : decode cX9_edge 13 = .ok (.invokevirtual 279, 3) := by decide +kernel
theorem dX9_edge_16 : decode cX9_edge 16 = .ok (.istore 4, 2) := by decide +kernel
theorem dX9_edge_18 : decode cX9_edge 18 = .ok (.iload 4, 2) := by decide +kernel
theorem dX9_edge_20 : decode cX9_edge 20 = .ok (.ifCond .ge 6, 3) := by decide +kernel
theorem dX9_edge_23 : decode cX9_edge 23 = .ok (.iload 4, 2) := by decide +kernel
theorem dX9_edge_25 : decode cX9_edge 25 = .ok (.ireturn, 1) := by decide +kernel
theorem dX9_edge_26 : decode cX9_edge 26 = .ok (.iload_n 2, 1) := by decide +kernel
theorem dX9_edge_27 : decode cX9_edge 27 = .ok (.iconst 0, 1) := by decide +kernel
theorem dX9_edge_28 : decode cX9_edge 28 = .ok (.aload_n 0, 1) := by decide +kernel
theorem dX9_edge_29 : decode cX9_edge 29 = .ok (.getfield 273, 3) := by decide +kernel
theorem dX9_edge_32 : decode cX9_edge 32 = .ok (.iconst 1, 1) := by decide +kernel
theorem dX9_edge_33 : decode cX9_edge 33 = .ok (.isub, 1) := by decide +kernel
theorem dX9_edge_34 : decode cX9_edge 34 = .ok (.invokestatic 121, 3) := by decide +kernel
theorem dX9_edge_37 : decode cX9_edge 37 = .ok (.ifCond .ne 11, 3) := by decide +kernel
theorem dX9_edge_40 : decode cX9_edge 40 = .ok (.aload_n 0, 1) := by decide +kernel
theorem dX9_edge_41 : decode cX9_edge 41 = .ok (.iconst 2, 1) := by decide +kernel
theorem dX9_edge_42 : decode cX9_edge 42 = .ok (.invokevirtual 129, 3) := by decide +kernel
theorem dX9_edge_45 : decode cX9_edge 45 = .ok (.goto 36, 3) := by decide +kernel
theorem dX9_edge_48 : decode cX9_edge 48 = .ok (.iload_n 3, 1) := by decide +kernel
theorem dX9_edge_49 : decode cX9_edge 49 = .ok (.ifCond .ne 12, 3) := by decide +kernel
theorem dX9_edge_52 : decode cX9_edge 52 = .ok (.aload_n 0, 1) := by decide +kernel
theorem dX9_edge_53 : decode cX9_edge 53 = .ok (.getfield 71, 3) := by decide +kernel
theorem dX9_edge_56 : decode cX9_edge 56 = .ok (.iload_n 2, 1) := by decide +kernel
theorem dX9_edge_57 : decode cX9_edge 57 = .ok (.iaload, 1) := by decide +kernel
theorem dX9_edge_58 : decode cX9_edge 58 = .ok (.goto 23, 3) := by decide +kernel
theorem dX9_edge_61 : decode cX9_edge 61 = .ok (.iload_n 3, 1) := by decide +kernel
theorem dX9_edge_62 : decode cX9_edge 62 = .ok (.iconst 1, 1) := by decide +kernel
theorem dX9_edge_63 : decode cX9_edge 63 = .ok (.if_icmp .ne 12, 3) := by decide +kernel
theorem dX9_edge_66 : decode cX9_edge 66 = .ok (.aload_n 0, 1) := by decide +kernel
theorem dX9_edge_67 : decode cX9_edge 67 = .ok (.getfield 77, 3) := by decide +kernel
theorem dX9_edge_70 : decode cX9_edge 70 = .ok (.iload_n 2, 1) := by decide +kernel
theorem dX9_edge_71 : decode cX9_edge 71 = .ok (.iaload, 1) := by decide +kernel
theorem dX9_edge_72 : decode cX9_edge 72 = .ok (.goto 9, 3) := by decide +kernel
theorem dX9_edge_75 : decode cX9_edge 75 = .ok (.aload_n 0, 1) := by decide +kernel
theorem dX9_edge_76 : decode cX9_edge 76 = .ok (.getfield 74, 3) := by decide +kernel
theorem dX9_edge_79 : decode cX9_edge 79 = .ok (.iload_n 2, 1) := by decide +kernel
theorem dX9_edge_80 : decode cX9_edge 80 = .ok (.iaload, 1) := by decide +kernel
theorem dX9_edge_81 : decode cX9_edge 81 = .ok (.ireturn, 1) := by decide +kernel
theorem dX9_meanAngle_0 : decode cX9_meanAngle 0 = .ok (.aload_n 0, 1) := by decide +kernel
theorem dX9_meanAngle_1 : decode cX9_meanAngle 1 = .ok (.iload_n 1, 1) := by decide +kernel
theorem dX9_meanAngle_2 : decode cX9_meanAngle 2 = .ok (.invokevirtual 279, 3) := by decide +kernel
theorem dX9_meanAngle_5 : decode cX9_meanAngle 5 = .ok (.istore_n 2, 1) := by decide +kernel
theorem dX9_meanAngle_6 : decode cX9_meanAngle 6 = .ok (.iload_n 2, 1) := by decide +kernel
theorem dX9_meanAngle_7 : decode cX9_meanAngle 7 = .ok (.ifCond .ge 5, 3) := by decide +kernel
theorem dX9_meanAngle_10 : decode cX9_meanAngle 10 = .ok (.iload_n 2, 1) := by decide +kernel
theorem dX9_meanAngle_11 : decode cX9_meanAngle 11 = .ok (.ireturn, 1) := by decide +kernel
theorem dX9_meanAngle_12 : decode cX9_meanAngle 12 = .ok (.iconst 0, 1) := by decide +kernel
theorem dX9_meanAngle_13 : decode cX9_meanAngle 13 = .ok (.istore_n 3, 1) := by decide +kernel
theorem dX9_meanAngle_14 : decode cX9_meanAngle 14 = .ok (.iconst 0, 1) := by decide +kernel
theorem dX9_meanAngle_15 : decode cX9_meanAngle 15 = .ok (.istore 4, 2) := by decide +kernel
theorem dX9_meanAngle_17 : decode cX9_meanAngle 17 = .ok (.iload 4, 2) := by decide +kernel
theorem dX9_meanAngle_19 : decode cX9_meanAngle 19 = .ok (.aload_n 0, 1) := by decide +kernel
theorem dX9_meanAngle_20 : decode cX9_meanAngle 20 = .ok (.getfield 273, 3) := by decide +kernel
theorem dX9_meanAngle_23 : decode cX9_meanAngle 23 = .ok (.if_icmp .ge 19, 3) := by decide +kernel
theorem dX9_meanAngle_26 : decode cX9_meanAngle 26 = .ok (.iload_n 3, 1) := by decide +kernel
theorem dX9_meanAngle_27 : decode cX9_meanAngle 27 = .ok (.aload_n 0, 1) := by decide +kernel
theorem dX9_meanAngle_28 : decode cX9_meanAngle 28 = .ok (.getfield 77, 3) := by decide +kernel
theorem dX9_meanAngle_31 : decode cX9_meanAngle 31 = .ok (.iload 4, 2) := by decide +kernel
theorem dX9_meanAngle_33 : decode cX9_meanAngle 33 = .ok (.iaload, 1) := by decide +kernel
theorem dX9_meanAngle_34 : decode cX9_meanAngle 34 = .ok (.iadd, 1) := by decide +kernel
theorem dX9_meanAngle_35 : decode cX9_meanAngle 35 = .ok (.istore_n 3, 1) := by decide +kernel
theorem dX9_meanAngle_36 : decode cX9_meanAngle 36 = .ok (.iinc 4 1, 3) := by decide +kernel
theorem dX9_meanAngle_39 : decode cX9_meanAngle 39 = .ok (.goto (-22), 3) := by decide +kernel
theorem dX9_meanAngle_42 : decode cX9_meanAngle 42 = .ok (.bipush 100, 2) := by decide +kernel
theorem dX9_meanAngle_44 : decode cX9_meanAngle 44 = .ok (.iload_n 3, 1) := by decide +kernel
theorem dX9_meanAngle_45 : decode cX9_meanAngle 45 = .ok (.imul, 1) := by decide +kernel
theorem dX9_meanAngle_46 : decode cX9_meanAngle 46 = .ok (.aload_n 0, 1) := by decide +kernel
theorem dX9_meanAngle_47 : decode cX9_meanAngle 47 = .ok (.getfield 273, 3) := by decide +kernel
theorem dX9_meanAngle_50 : decode cX9_meanAngle 50 = .ok (.idiv, 1) := by decide +kernel
theorem dX9_meanAngle_51 : decode cX9_meanAngle 51 = .ok (.ireturn, 1) := by decide +kernel
theorem dX9_isLegal_0 : decode cX9_isLegal 0 = .ok (.iconst 0, 1) := by decide +kernel
theorem dX9_isLegal_1 : decode cX9_isLegal 1 = .ok (.istore_n 1, 1) := by decide +kernel
theorem dX9_isLegal_2 : decode cX9_isLegal 2 = .ok (.iload_n 1, 1) := by decide +kernel
theorem dX9_isLegal_3 : decode cX9_isLegal 3 = .ok (.aload_n 0, 1) := by decide +kernel
theorem dX9_isLegal_4 : decode cX9_isLegal 4 = .ok (.getfield 273, 3) := by decide +kernel
theorem dX9_isLegal_7 : decode cX9_isLegal 7 = .ok (.if_icmp .ge 16, 3) := by decide +kernel
theorem dX9_isLegal_10 : decode cX9_isLegal 10 = .ok (.aload_n 0, 1) := by decide +kernel
theorem dX9_isLegal_11 : decode cX9_isLegal 11 = .ok (.getfield 83, 3) := by decide +kernel
theorem dX9_isLegal_14 : decode cX9_isLegal 14 = .ok (.iload_n 1, 1) := by decide +kernel
theorem dX9_isLegal_15 : decode cX9_isLegal 15 = .ok (.iload_n 1, 1) := by decide +kernel
theorem dX9_isLegal_16 : decode cX9_isLegal 16 = .ok (.iastore, 1) := by decide +kernel
theorem dX9_isLegal_17 : decode cX9_isLegal 17 = .ok (.iinc 1 1, 3) := by decide +kernel
theorem dX9_isLegal_20 : decode cX9_isLegal 20 = .ok (.goto (-18), 3) := by decide +kernel
theorem dX9_isLegal_23 : decode cX9_isLegal 23 = .ok (.iconst 1, 1) := by decide +kernel
theorem dX9_isLegal_24 : decode cX9_isLegal 24 = .ok (.istore_n 1, 1) := by decide +kernel
theorem dX9_isLegal_25 : decode cX9_isLegal 25 = .ok (.iload_n 1, 1) := by decide +kernel
theorem dX9_isLegal_26 : decode cX9_isLegal 26 = .ok (.ifCond .eq 55, 3) := by decide +kernel
theorem dX9_isLegal_29 : decode cX9_isLegal 29 = .ok (.iconst 0, 1) := by decide +kernel
theorem dX9_isLegal_30 : decode cX9_isLegal 30 = .ok (.istore_n 1, 1) := by decide +kernel
theorem dX9_isLegal_31 : decode cX9_isLegal 31 = .ok (.iconst 0, 1) := by decide +kernel
theorem dX9_isLegal_32 : decode cX9_isLegal 32 = .ok (.istore_n 2, 1) := by decide +kernel
theorem dX9_isLegal_33 : decode cX9_isLegal 33 = .ok (.iload_n 2, 1) := by decide +kernel
theorem dX9_isLegal_34 : decode cX9_isLegal 34 = .ok (.aload_n 0, 1) := by decide +kernel
theorem dX9_isLegal_35 : decode cX9_isLegal 35 = .ok (.getfield 273, 3) := by decide +kernel
theorem dX9_isLegal_38 : decode cX9_isLegal 38 = .ok (.if_icmp .ge 40, 3) := by decide +kernel
theorem dX9_isLegal_41 : decode cX9_isLegal 41 = .ok (.aload_n 0, 1) := by decide +kernel
theorem dX9_isLegal_42 : decode cX9_isLegal 42 = .ok (.iload_n 2, 1) := by decide +kernel
theorem dX9_isLegal_43 : decode cX9_isLegal 43 = .ok (.aload_n 0, 1) := by decide +kernel
theorem dX9_isLegal_44 : decode cX9_isLegal 44 = .ok (.getfield 80, 3) := by decide +kernel
theorem dX9_isLegal_47 : decode cX9_isLegal 47 = .ok (.iload_n 2, 1) := by decide +kernel
theorem dX9_isLegal_48 : decode cX9_isLegal 48 = .ok (.iaload, 1) := by decide +kernel
theorem dX9_isLegal_49 : decode cX9_isLegal 49 = .ok (.iconst 1, 1) := by decide +kernel
theorem dX9_isLegal_50 : decode cX9_isLegal 50 = .ok (.iadd, 1) := by decide +kernel
theorem dX9_isLegal_51 : decode cX9_isLegal 51 = .ok (.aload_n 0, 1) := by decide +kernel
theorem dX9_isLegal_52 : decode cX9_isLegal 52 = .ok (.getfield 273, 3) := by decide +kernel
theorem dX9_isLegal_55 : decode cX9_isLegal 55 = .ok (.irem, 1) := by decide +kernel
theorem dX9_isLegal_56 : decode cX9_isLegal 56 = .ok (.invokevirtual 282, 3) := by decide +kernel
theorem dX9_isLegal_59 : decode cX9_isLegal 59 = .ok (.ifCond .ne 7, 3) := by decide +kernel
theorem dX9_isLegal_62 : decode cX9_isLegal 62 = .ok (.iload_n 1, 1) := by decide +kernel
theorem dX9_isLegal_63 : decode cX9_isLegal 63 = .ok (.ifCond .eq 7, 3) := by decide +kernel
theorem dX9_isLegal_66 : decode cX9_isLegal 66 = .ok (.iconst 1, 1) := by decide +kernel
theorem dX9_isLegal_67 : decode cX9_isLegal 67 = .ok (.goto 4, 3) := by decide +kernel
theorem dX9_isLegal_70 : decode cX9_isLegal 70 = .ok (.iconst 0, 1) := by decide +kernel
theorem dX9_isLegal_71 : decode cX9_isLegal 71 = .ok (.istore_n 1, 1) := by decide +kernel
theorem dX9_isLegal_72 : decode cX9_isLegal 72 = .ok (.iinc 2 1, 3) := by decide +kernel
theorem dX9_isLegal_75 : decode cX9_isLegal 75 = .ok (.goto (-42), 3) := by decide +kernel
theorem dX9_isLegal_78 : decode cX9_isLegal 78 = .ok (.goto (-53), 3) := by decide +kernel
theorem dX9_isLegal_81 : decode cX9_isLegal 81 = .ok (.iconst 0, 1) := by decide +kernel
theorem dX9_isLegal_82 : decode cX9_isLegal 82 = .ok (.istore_n 2, 1) := by decide +kernel
theorem dX9_isLegal_83 : decode cX9_isLegal 83 = .ok (.iload_n 2, 1) := by decide +kernel
theorem dX9_isLegal_84 : decode cX9_isLegal 84 = .ok (.iconst 5, 1) := by decide +kernel
theorem dX9_isLegal_85 : decode cX9_isLegal 85 = .ok (.if_icmp .ge 16, 3) := by decide +kernel
theorem dX9_isLegal_88 : decode cX9_isLegal 88 = .ok (.aload_n 0, 1) := by decide +kernel
theorem dX9_isLegal_89 : decode cX9_isLegal 89 = .ok (.getfield 86, 3) := by decide +kernel
theorem dX9_isLegal_92 : decode cX9_isLegal 92 = .ok (.iload_n 2, 1) := by decide +kernel
theorem dX9_isLegal_93 : decode cX9_isLegal 93 = .ok (.iconst 0, 1) := by decide +kernel
theorem dX9_isLegal_94 : decode cX9_isLegal 94 = .ok (.iastore, 1) := by decide +kernel
theorem dX9_isLegal_95 : decode cX9_isLegal 95 = .ok (.iinc 2 1, 3) := by decide +kernel
theorem dX9_isLegal_98 : decode cX9_isLegal 98 = .ok (.goto (-15), 3) := by decide +kernel
theorem dX9_isLegal_101 : decode cX9_isLegal 101 = .ok (.aload_n 0, 1) := by decide +kernel
theorem dX9_isLegal_102 : decode cX9_isLegal 102 = .ok (.iconst 0, 1) := by decide +kernel
theorem dX9_isLegal_103 : decode cX9_isLegal 103 = .ok (.putfield 285, 3) := by decide +kernel
theorem dX9_isLegal_106 : decode cX9_isLegal 106 = .ok (.iconst 1, 1) := by decide +kernel
theorem dX9_isLegal_107 : decode cX9_isLegal 107 = .ok (.istore_n 2, 1) := by decide +kernel
theorem dX9_isLegal_108 : decode cX9_isLegal 108 = .ok (.iconst 0, 1) := by decide +kernel
theorem dX9_isLegal_109 : decode cX9_isLegal 109 = .ok (.istore_n 3, 1) := by decide +kernel
theorem dX9_isLegal_110 : decode cX9_isLegal 110 = .ok (.iload_n 3, 1) := by decide +kernel
theorem dX9_isLegal_111 : decode cX9_isLegal 111 = .ok (.aload_n 0, 1) := by decide +kernel
theorem dX9_isLegal_112 : decode cX9_isLegal 112 = .ok (.getfield 273, 3) := by decide +kernel
theorem dX9_isLegal_115 : decode cX9_isLegal 115 = .ok (.if_icmp .ge 113, 3) := by decide +kernel
theorem dX9_isLegal_118 : decode cX9_isLegal 118 = .ok (.iconst 0, 1) := by decide +kernel
theorem dX9_isLegal_119 : decode cX9_isLegal 119 = .ok (.istore 4, 2) := by decide +kernel
theorem dX9_isLegal_121 : decode cX9_isLegal 121 = .ok (.iconst 0, 1) := by decide +kernel
theorem dX9_isLegal_122 : decode cX9_isLegal 122 = .ok (.istore 5, 2) := by decide +kernel
theorem dX9_isLegal_124 : decode cX9_isLegal 124 = .ok (.iload 5, 2) := by decide +kernel
theorem dX9_isLegal_126 : decode cX9_isLegal 126 = .ok (.aload_n 0, 1) := by decide +kernel
theorem dX9_isLegal_127 : decode cX9_isLegal 127 = .ok (.getfield 273, 3) := by decide +kernel
theorem dX9_isLegal_130 : decode cX9_isLegal 130 = .ok (.if_icmp .ge 36, 3) := by decide +kernel
theorem dX9_isLegal_133 : decode cX9_isLegal 133 = .ok (.iload 4, 2) := by decide +kernel
theorem dX9_isLegal_135 : decode cX9_isLegal 135 = .ok (.aload_n 0, 1) := by decide +kernel
theorem dX9_isLegal_136 : decode cX9_isLegal 136 = .ok (.getfield 83, 3) := by decide +kernel
theorem dX9_isLegal_139 : decode cX9_isLegal 139 = .ok (.iload 5, 2) := by decide +kernel
theorem dX9_isLegal_141 : decode cX9_isLegal 141 = .ok (.iaload, 1) := by decide +kernel
theorem dX9_isLegal_142 : decode cX9_isLegal 142 = .ok (.iload_n 3, 1) := by decide +kernel
theorem dX9_isLegal_143 : decode cX9_isLegal 143 = .ok (.if_icmp .ne 13, 3) := by decide +kernel
theorem dX9_isLegal_146 : decode cX9_isLegal 146 = .ok (.aload_n 0, 1) := by decide +kernel
theorem dX9_isLegal_147 : decode cX9_isLegal 147 = .ok (.getfield 77, 3) := by decide +kernel
theorem dX9_isLegal_150 : decode cX9_isLegal 150 = .ok (.iload 5, 2) := by decide +kernel
theorem dX9_isLegal_152 : decode cX9_isLegal 152 = .ok (.iaload, 1) := by decide +kernel
theorem dX9_isLegal_153 : decode cX9_isLegal 153 = .ok (.goto 4, 3) := by decide +kernel
theorem dX9_isLegal_156 : decode cX9_isLegal 156 = .ok (.iconst 0, 1) := by decide +kernel
theorem dX9_isLegal_157 : decode cX9_isLegal 157 = .ok (.iadd, 1) := by decide +kernel
theorem dX9_isLegal_158 : decode cX9_isLegal 158 = .ok (.istore 4, 2) := by decide +kernel
theorem dX9_isLegal_160 : decode cX9_isLegal 160 = .ok (.iinc 5 1, 3) := by decide +kernel
theorem dX9_isLegal_163 : decode cX9_isLegal 163 = .ok (.goto (-39), 3) := by decide +kernel
theorem dX9_isLegal_166 : decode cX9_isLegal 166 = .ok (.aload_n 0, 1) := by decide +kernel
theorem dX9_isLegal_167 : decode cX9_isLegal 167 = .ok (.dup, 1) := by decide +kernel
theorem dX9_isLegal_168 : decode cX9_isLegal 168 = .ok (.getfield 285, 3) := by decide +kernel
theorem dX9_isLegal_171 : decode cX9_isLegal 171 = .ok (.iload 4, 2) := by decide +kernel
theorem dX9_isLegal_173 : decode cX9_isLegal 173 = .ok (.ifCond .le 7, 3) := by decide +kernel
theorem dX9_isLegal_176 : decode cX9_isLegal 176 = .ok (.iconst 1, 1) := by decide +kernel
theorem dX9_isLegal_177 : decode cX9_isLegal 177 = .ok (.goto 4, 3) := by decide +kernel
theorem dX9_isLegal_180 : decode cX9_isLegal 180 = .ok (.iconst 0, 1) := by decide +kernel
theorem dX9_isLegal_181 : decode cX9_isLegal 181 = .ok (.iadd, 1) := by decide +kernel
theorem dX9_isLegal_182 : decode cX9_isLegal 182 = .ok (.putfield 285, 3) := by decide +kernel
theorem dX9_isLegal_185 : decode cX9_isLegal 185 = .ok (.iload_n 2, 1) := by decide +kernel
theorem dX9_isLegal_186 : decode cX9_isLegal 186 = .ok (.ifCond .eq 13, 3) := by decide +kernel
theorem dX9_isLegal_189 : decode cX9_isLegal 189 = .ok (.iload 4, 2) := by decide +kernel
theorem dX9_isLegal_191 : decode cX9_isLegal 191 = .ok (.iconst 4, 1) := by decide +kernel
theorem dX9_isLegal_192 : decode cX9_isLegal 192 = .ok (.if_icmp .gt 7, 3) := by decide +kernel
theorem dX9_isLegal_195 : decode cX9_isLegal 195 = .ok (.iconst 1, 1) := by decide +kernel
theorem dX9_isLegal_196 : decode cX9_isLegal 196 = .ok (.goto 4, 3) := by decide +kernel
theorem dX9_isLegal_199 : decode cX9_isLegal 199 = .ok (.iconst 0, 1) := by decide +kernel
theorem dX9_isLegal_200 : decode cX9_isLegal 200 = .ok (.istore_n 2, 1) := by decide +kernel
theorem dX9_isLegal_201 : decode cX9_isLegal 201 = .ok (.aload_n 0, 1) := by decide +kernel
theorem dX9_isLegal_202 : decode cX9_isLegal 202 = .ok (.getfield 86, 3) := by decide +kernel
theorem dX9_isLegal_205 : decode cX9_isLegal 205 = .ok (.iload 4, 2) := by decide +kernel
theorem dX9_isLegal_207 : decode cX9_isLegal 207 = .ok (.iconst 4, 1) := by decide +kernel
theorem dX9_isLegal_208 : decode cX9_isLegal 208 = .ok (.if_icmp .le 7, 3) := by decide +kernel
theorem dX9_isLegal_211 : decode cX9_isLegal 211 = .ok (.iconst 0, 1) := by decide +kernel
theorem dX9_isLegal_212 : decode cX9_isLegal 212 = .ok (.goto 5, 3) := by decide +kernel
theorem dX9_isLegal_215 : decode cX9_isLegal 215 = .ok (.iload 4, 2) := by decide +kernel
theorem dX9_isLegal_217 : decode cX9_isLegal 217 = .ok (.dup2, 1) := by decide +kernel
theorem dX9_isLegal_218 : decode cX9_isLegal 218 = .ok (.iaload, 1) := by decide +kernel
theorem dX9_isLegal_219 : decode cX9_isLegal 219 = .ok (.iconst 1, 1) := by decide +kernel
theorem dX9_isLegal_220 : decode cX9_isLegal 220 = .ok (.iadd, 1) := by decide +kernel
theorem dX9_isLegal_221 : decode cX9_isLegal 221 = .ok (.iastore, 1) := by decide +kernel
theorem dX9_isLegal_222 : decode cX9_isLegal 222 = .ok (.iinc 3 1, 3) := by decide +kernel
theorem dX9_isLegal_225 : decode cX9_isLegal 225 = .ok (.goto (-115), 3) := by decide +kernel
theorem dX9_isLegal_228 : decode cX9_isLegal 228 = .ok (.iload_n 2, 1) := by decide +kernel
theorem dX9_isLegal_229 : decode cX9_isLegal 229 = .ok (.ireturn, 1) := by decide +kernel
theorem dX9_joins_0 : decode cX9_joins 0 = .ok (.aload_n 0, 1) := by decide +kernel
theorem dX9_joins_1 : decode cX9_joins 1 = .ok (.getfield 83, 3) := by decide +kernel
theorem dX9_joins_4 : decode cX9_joins 4 = .ok (.iload_n 1, 1) := by decide +kernel
theorem dX9_joins_5 : decode cX9_joins 5 = .ok (.iaload, 1) := by decide +kernel
theorem dX9_joins_6 : decode cX9_joins 6 = .ok (.aload_n 0, 1) := by decide +kernel
theorem dX9_joins_7 : decode cX9_joins 7 = .ok (.getfield 83, 3) := by decide +kernel
theorem dX9_joins_10 : decode cX9_joins 10 = .ok (.iload_n 2, 1) := by decide +kernel
theorem dX9_joins_11 : decode cX9_joins 11 = .ok (.iaload, 1) := by decide +kernel
theorem dX9_joins_12 : decode cX9_joins 12 = .ok (.if_icmp .ge 12, 3) := by decide +kernel
theorem dX9_joins_15 : decode cX9_joins 15 = .ok (.aload_n 0, 1) := by decide +kernel
theorem dX9_joins_16 : decode cX9_joins 16 = .ok (.getfield 83, 3) := by decide +kernel
theorem dX9_joins_19 : decode cX9_joins 19 = .ok (.iload_n 1, 1) := by decide +kernel
theorem dX9_joins_20 : decode cX9_joins 20 = .ok (.iaload, 1) := by decide +kernel
theorem dX9_joins_21 : decode cX9_joins 21 = .ok (.goto 9, 3) := by decide +kernel
theorem dX9_joins_24 : decode cX9_joins 24 = .ok (.aload_n 0, 1) := by decide +kernel
theorem dX9_joins_25 : decode cX9_joins 25 = .ok (.getfield 83, 3) := by decide +kernel
theorem dX9_joins_28 : decode cX9_joins 28 = .ok (.iload_n 2, 1) := by decide +kernel
theorem dX9_joins_29 : decode cX9_joins 29 = .ok (.iaload, 1) := by decide +kernel
theorem dX9_joins_30 : decode cX9_joins 30 = .ok (.istore_n 3, 1) := by decide +kernel
theorem dX9_joins_31 : decode cX9_joins 31 = .ok (.aload_n 0, 1) := by decide +kernel
theorem dX9_joins_32 : decode cX9_joins 32 = .ok (.getfield 83, 3) := by decide +kernel
theorem dX9_joins_35 : decode cX9_joins 35 = .ok (.iload_n 1, 1) := by decide +kernel
theorem dX9_joins_36 : decode cX9_joins 36 = .ok (.iaload, 1) := by decide +kernel
theorem dX9_joins_37 : decode cX9_joins 37 = .ok (.aload_n 0, 1) := by decide +kernel
theorem dX9_joins_38 : decode cX9_joins 38 = .ok (.getfield 83, 3) := by decide +kernel
theorem dX9_joins_41 : decode cX9_joins 41 = .ok (.iload_n 2, 1) := by decide +kernel
theorem dX9_joins_42 : decode cX9_joins 42 = .ok (.iaload, 1) := by decide +kernel
theorem dX9_joins_43 : decode cX9_joins 43 = .ok (.if_icmp .eq 7, 3) := by decide +kernel
theorem dX9_joins_46 : decode cX9_joins 46 = .ok (.iconst 1, 1) := by decide +kernel
theorem dX9_joins_47 : decode cX9_joins 47 = .ok (.goto 4, 3) := by decide +kernel
theorem dX9_joins_50 : decode cX9_joins 50 = .ok (.iconst 0, 1) := by decide +kernel
theorem dX9_joins_51 : decode cX9_joins 51 = .ok (.istore 4, 2) := by decide +kernel
theorem dX9_joins_53 : decode cX9_joins 53 = .ok (.aload_n 0, 1) := by decide +kernel
theorem dX9_joins_54 : decode cX9_joins 54 = .ok (.getfield 83, 3) := by decide +kernel
theorem dX9_joins_57 : decode cX9_joins 57 = .ok (.iload_n 1, 1) := by decide +kernel
theorem dX9_joins_58 : decode cX9_joins 58 = .ok (.iload_n 3, 1) := by decide +kernel
theorem dX9_joins_59 : decode cX9_joins 59 = .ok (.iastore, 1) := by decide +kernel
theorem dX9_joins_60 : decode cX9_joins 60 = .ok (.aload_n 0, 1) := by decide +kernel
theorem dX9_joins_61 : decode cX9_joins 61 = .ok (.getfield 83, 3) := by decide +kernel
theorem dX9_joins_64 : decode cX9_joins 64 = .ok (.iload_n 2, 1) := by decide +kernel
theorem dX9_joins_65 : decode cX9_joins 65 = .ok (.iload_n 3, 1) := by decide +kernel
theorem dX9_joins_66 : decode cX9_joins 66 = .ok (.iastore, 1) := by decide +kernel
theorem dX9_joins_67 : decode cX9_joins 67 = .ok (.iload 4, 2) := by decide +kernel
theorem dX9_joins_69 : decode cX9_joins 69 = .ok (.ireturn, 1) := by decide +kernel
theorem dX9_firstFree_0 : decode cX9_firstFree 0 = .ok (.iconst 0, 1) := by decide +kernel
theorem dX9_firstFree_1 : decode cX9_firstFree 1 = .ok (.istore_n 1, 1) := by decide +kernel
theorem dX9_firstFree_2 : decode cX9_firstFree 2 = .ok (.iload_n 1, 1) := by decide +kernel
theorem dX9_firstFree_3 : decode cX9_firstFree 3 = .ok (.aload_n 0, 1) := by decide +kernel
theorem dX9_firstFree_4 : decode cX9_firstFree 4 = .ok (.getfield 273, 3) := by decide +kernel
theorem dX9_firstFree_7 : decode cX9_firstFree 7 = .ok (.if_icmp .ge 18, 3) := by decide +kernel
theorem dX9_firstFree_10 : decode cX9_firstFree 10 = .ok (.aload_n 0, 1) := by decide +kernel
theorem dX9_firstFree_11 : decode cX9_firstFree 11 = .ok (.getfield 80, 3) := by decide +kernel
theorem dX9_firstFree_14 : decode cX9_firstFree 14 = .ok (.iload_n 1, 1) := by decide +kernel
theorem dX9_firstFree_15 : decode cX9_firstFree 15 = .ok (.iaload, 1) := by decide +kernel
theorem dX9_firstFree_16 : decode cX9_firstFree 16 = .ok (.ifCond .lt 9, 3) := by decide +kernel
theorem dX9_firstFree_19 : decode cX9_firstFree 19 = .ok (.iinc 1 1, 3) := by decide +kernel
theorem dX9_firstFree_22 : decode cX9_firstFree 22 = .ok (.goto (-20), 3) := by decide +kernel
theorem dX9_firstFree_25 : decode cX9_firstFree 25 = .ok (.iload_n 1, 1) := by decide +kernel
theorem dX9_firstFree_26 : decode cX9_firstFree 26 = .ok (.ireturn, 1) := by decide +kernel
theorem dX9_gluings_0 : decode cX9_gluings 0 = .ok (.iload_n 2, 1) := by decide +kernel
theorem dX9_gluings_1 : decode cX9_gluings 1 = .ok (.iconst 1, 1) := by decide +kernel
theorem dX9_gluings_2 : decode cX9_gluings 2 = .ok (.sipush 20000, 3) := by decide +kernel
theorem dX9_gluings_5 : decode cX9_gluings 5 = .ok (.invokestatic 121, 3) := by decide +kernel
theorem dX9_gluings_8 : decode cX9_gluings 8 = .ok (.ifCond .ne 5, 3) := by decide +kernel
theorem dX9_gluings_11 : decode cX9_gluings 11 = .ok (.iconst (-1), 1) := by decide +kernel
theorem dX9_gluings_12 : decode cX9_gluings 12 = .ok (.ireturn, 1) := by decide +kernel
theorem dX9_gluings_13 : decode cX9_gluings 13 = .ok (.aload_n 0, 1) := by decide +kernel
theorem dX9_gluings_14 : decode cX9_gluings 14 = .ok (.iload_n 1, 1) := by decide +kernel
theorem dX9_gluings_15 : decode cX9_gluings 15 = .ok (.invokevirtual 279, 3) := by decide +kernel
theorem dX9_gluings_18 : decode cX9_gluings 18 = .ok (.istore_n 3, 1) := by decide +kernel
theorem dX9_gluings_19 : decode cX9_gluings 19 = .ok (.iload_n 3, 1) := by decide +kernel
theorem dX9_gluings_20 : decode cX9_gluings 20 = .ok (.ifCond .ge 5, 3) := by decide +kernel
theorem dX9_gluings_23 : decode cX9_gluings 23 = .ok (.iload_n 3, 1) := by decide +kernel
theorem dX9_gluings_24 : decode cX9_gluings 24 = .ok (.ireturn, 1) := by decide +kernel
theorem dX9_gluings_25 : decode cX9_gluings 25 = .ok (.aload_n 0, 1) := by decide +kernel
theorem dX9_gluings_26 : decode cX9_gluings 26 = .ok (.iconst 0, 1) := by decide +kernel
theorem dX9_gluings_27 : decode cX9_gluings 27 = .ok (.putfield 288, 3) := by decide +kernel
theorem dX9_gluings_30 : decode cX9_gluings 30 = .ok (.iconst 0, 1) := by decide +kernel
theorem dX9_gluings_31 : decode cX9_gluings 31 = .ok (.istore 4, 2) := by decide +kernel
theorem dX9_gluings_33 : decode cX9_gluings 33 = .ok (.iload 4, 2) := by decide +kernel
theorem dX9_gluings_35 : decode cX9_gluings 35 = .ok (.aload_n 0, 1) := by decide +kernel
theorem dX9_gluings_36 : decode cX9_gluings 36 = .ok (.getfield 273, 3) := by decide +kernel
theorem dX9_gluings_39 : decode cX9_gluings 39 = .ok (.if_icmp .ge 18, 3) := by decide +kernel
theorem dX9_gluings_42 : decode cX9_gluings 42 = .ok (.aload_n 0, 1) := by decide +kernel
theorem dX9_gluings_43 : decode cX9_gluings 43 = .ok (.getfield 80, 3) := by decide +kernel
theorem dX9_gluings_46 : decode cX9_gluings 46 = .ok (.iload 4, 2) := by decide +kernel
theorem dX9_gluings_48 : decode cX9_gluings 48 = .ok (.bipush (-9), 2) := by decide +kernel
theorem dX9_gluings_50 : decode cX9_gluings 50 = .ok (.iastore, 1) := by decide +kernel
theorem dX9_gluings_51 : decode cX9_gluings 51 = .ok (.iinc 4 1, 3) := by decide +kernel
theorem dX9_gluings_54 : decode cX9_gluings 54 = .ok (.goto (-21), 3) := by decide +kernel
theorem dX9_gluings_57 : decode cX9_gluings 57 = .ok (.iconst 0, 1) := by decide +kernel
theorem dX9_gluings_58 : decode cX9_gluings 58 = .ok (.istore 4, 2) := by decide +kernel
theorem dX9_gluings_60 : decode cX9_gluings 60 = .ok (.iconst 0, 1) := by decide +kernel
theorem dX9_gluings_61 : decode cX9_gluings 61 = .ok (.istore 5, 2) := by decide +kernel
theorem dX9_gluings_63 : decode cX9_gluings 63 = .ok (.aload_n 0, 1) := by decide +kernel
theorem dX9_gluings_64 : decode cX9_gluings 64 = .ok (.getfield 95, 3) := by decide +kernel
theorem dX9_gluings_67 : decode cX9_gluings 67 = .ok (.iconst 0, 1) := by decide +kernel
theorem dX9_gluings_68 : decode cX9_gluings 68 = .ok (.aload_n 0, 1) := by decide +kernel
theorem dX9_gluings_69 : decode cX9_gluings 69 = .ok (.invokevirtual 291, 3) := by decide +kernel
theorem dX9_gluings_72 : decode cX9_gluings 72 = .ok (.iastore, 1) := by decide +kernel
theorem dX9_gluings_73 : decode cX9_gluings 73 = .ok (.aload_n 0, 1) := by decide +kernel
theorem dX9_gluings_74 : decode cX9_gluings 74 = .ok (.getfield 95, 3) := by decide +kernel
theorem dX9_gluings_77 : decode cX9_gluings 77 = .ok (.iconst 0, 1) := by decide +kernel
theorem dX9_gluings_78 : decode cX9_gluings 78 = .ok (.iaload, 1) := by decide +kernel
theorem dX9_gluings_79 : decode cX9_gluings 79 = .ok (.iconst 1, 1) := by decide +kernel
theorem dX9_gluings_80 : decode cX9_gluings 80 = .ok (.isub, 1) := by decide +kernel
theorem dX9_gluings_81 : decode cX9_gluings 81 = .ok (.istore 6, 2) := by decide +kernel
theorem dX9_gluings_83 : decode cX9_gluings 83 = .ok (.iload 5, 2) := by decide +kernel
theorem dX9_gluings_85 : decode cX9_gluings 85 = .ok (.ifCond .lt 250, 3) := by decide +kernel
theorem dX9_gluings_88 : decode cX9_gluings 88 = .ok (.aload_n 0, 1) := by decide +kernel
theorem dX9_gluings_89 : decode cX9_gluings 89 = .ok (.getfield 95, 3) := by decide +kernel
theorem dX9_gluings_92 : decode cX9_gluings 92 = .ok (.iload 5, 2) := by decide +kernel
theorem dX9_gluings_94 : decode cX9_gluings 94 = .ok (.iaload, 1) := by decide +kernel
theorem dX9_gluings_95 : decode cX9_gluings 95 = .ok (.istore 7, 2) := by decide +kernel
theorem dX9_gluings_97 : decode cX9_gluings 97 = .ok (.iinc 6 2, 3) := by decide +kernel
theorem dX9_gluings_100 : decode cX9_gluings 100 = .ok (.iload 7, 2) := by decide +kernel
theorem dX9_gluings_102 : decode cX9_gluings 102 = .ok (.aload_n 0, 1) := by decide +kernel
theorem dX9_gluings_103 : decode cX9_gluings 103 = .ok (.getfield 273, 3) := by decide +kernel
theorem dX9_gluings_106 : decode cX9_gluings 106 = .ok (.if_icmp .ge 16, 3) := by decide +kernel
theorem dX9_gluings_109 : decode cX9_gluings 109 = .ok (.iload 6, 2) := by decide +kernel
theorem dX9_gluings_111 : decode cX9_gluings 111 = .ok (.aload_n 0, 1) := by decide +kernel
theorem dX9_gluings_112 : decode cX9_gluings 112 = .ok (.getfield 273, 3) := by decide +kernel
theorem dX9_gluings_115 : decode cX9_gluings 115 = .ok (.if_icmp .ge 7, 3) := by decide +kernel
theorem dX9_gluings_118 : decode cX9_gluings 118 = .ok (.iconst 1, 1) := by decide +kernel
theorem dX9_gluings_119 : decode cX9_gluings 119 = .ok (.goto 4, 3) := by decide +kernel
theorem dX9_gluings_122 : decode cX9_gluings 122 = .ok (.iconst 0, 1) := by decide +kernel
theorem dX9_gluings_123 : decode cX9_gluings 123 = .ok (.istore 8, 2) := by decide +kernel
theorem dX9_gluings_125 : decode cX9_gluings 125 = .ok (.iload 7, 2) := by decide +kernel
theorem dX9_gluings_127 : decode cX9_gluings 127 = .ok (.iconst 1, 1) := by decide +kernel
theorem dX9_gluings_128 : decode cX9_gluings 128 = .ok (.iadd, 1) := by decide +kernel
theorem dX9_gluings_129 : decode cX9_gluings 129 = .ok (.istore 9, 2) := by decide +kernel
theorem dX9_gluings_131 : decode cX9_gluings 131 = .ok (.iload 9, 2) := by decide +kernel
theorem dX9_gluings_133 : decode cX9_gluings 133 = .ok (.iload 6, 2) := by decide +kernel
theorem dX9_gluings_135 : decode cX9_gluings 135 = .ok (.if_icmp .gt 31, 3) := by decide +kernel
theorem dX9_gluings_138 : decode cX9_gluings 138 = .ok (.iload 8, 2) := by decide +kernel
theorem dX9_gluings_140 : decode cX9_gluings 140 = .ok (.ifCond .eq 26, 3) := by decide +kernel
theorem dX9_gluings_143 : decode cX9_gluings 143 = .ok (.aload_n 0, 1) := by decide +kernel
theorem dX9_gluings_144 : decode cX9_gluings 144 = .ok (.getfield 80, 3) := by decide +kernel
theorem dX9_gluings_147 : decode cX9_gluings 147 = .ok (.iload 9, 2) := by decide +kernel
theorem dX9_gluings_149 : decode cX9_gluings 149 = .ok (.iaload, 1) := by decide +kernel
theorem dX9_gluings_150 : decode cX9_gluings 150 = .ok (.ifCond .ge 7, 3) := by decide +kernel
theorem dX9_gluings_153 : decode cX9_gluings 153 = .ok (.iconst 1, 1) := by decide +kernel
theorem dX9_gluings_154 : decode cX9_gluings 154 = .ok (.goto 4, 3) := by decide +kernel
theorem dX9_gluings_157 : decode cX9_gluings 157 = .ok (.iconst 0, 1) := by decide +kernel
theorem dX9_gluings_158 : decode cX9_gluings 158 = .ok (.istore 8, 2) := by decide +kernel
theorem dX9_gluings_160 : decode cX9_gluings 160 = .ok (.iinc 9 1, 3) := by decide +kernel
theorem dX9_gluings_163 : decode cX9_gluings 163 = .ok (.goto (-32), 3) := by decide +kernel
theorem dX9_gluings_166 : decode cX9_gluings 166 = .ok (.iload 8, 2) := by decide +kernel
theorem dX9_gluings_168 : decode cX9_gluings 168 = .ok (.ifCond .ne 51, 3) := by decide +kernel
theorem dX9_gluings_171 : decode cX9_gluings 171 = .ok (.iinc 5 (-1), 3) := by decide +kernel
theorem dX9_gluings_174 : decode cX9_gluings 174 = .ok (.iload 5, 2) := by decide +kernel
theorem dX9_gluings_176 : decode cX9_gluings 176 = .ok (.ifCond .lt (-93), 3) := by decide +kernel
theorem dX9_gluings_179 : decode cX9_gluings 179 = .ok (.aload_n 0, 1) := by decide +kernel
theorem dX9_gluings_180 : decode cX9_gluings 180 = .ok (.getfield 80, 3) := by decide +kernel
theorem dX9_gluings_183 : decode cX9_gluings 183 = .ok (.aload_n 0, 1) := by decide +kernel
theorem dX9_gluings_184 : decode cX9_gluings 184 = .ok (.getfield 95, 3) := by decide +kernel
theorem dX9_gluings_187 : decode cX9_gluings 187 = .ok (.iload 5, 2) := by decide +kernel
theorem dX9_gluings_189 : decode cX9_gluings 189 = .ok (.iaload, 1) := by decide +kernel
theorem dX9_gluings_190 : decode cX9_gluings 190 = .ok (.iaload, 1) := by decide +kernel
theorem dX9_gluings_191 : decode cX9_gluings 191 = .ok (.istore 6, 2) := by decide +kernel
theorem dX9_gluings_193 : decode cX9_gluings 193 = .ok (.aload_n 0, 1) := by decide +kernel
theorem dX9_gluings_194 : decode cX9_gluings 194 = .ok (.getfield 80, 3) := by decide +kernel
theorem dX9_gluings_197 : decode cX9_gluings 197 = .ok (.iload 6, 2) := by decide +kernel
theorem dX9_gluings_199 : decode cX9_gluings 199 = .ok (.bipush (-9), 2) := by decide +kernel
theorem dX9_gluings_201 : decode cX9_gluings 201 = .ok (.iastore, 1) := by decide +kernel
theorem dX9_gluings_202 : decode cX9_gluings 202 = .ok (.aload_n 0, 1) := by decide +kernel
theorem dX9_gluings_203 : decode cX9_gluings 203 = .ok (.getfield 80, 3) := by decide +kernel
theorem dX9_gluings_206 : decode cX9_gluings 206 = .ok (.aload_n 0, 1) := by decide +kernel
theorem dX9_gluings_207 : decode cX9_gluings 207 = .ok (.getfield 95, 3) := by decide +kernel
theorem dX9_gluings_210 : decode cX9_gluings 210 = .ok (.iload 5, 2) := by decide +kernel
theorem dX9_gluings_212 : decode cX9_gluings 212 = .ok (.iaload, 1) := by decide +kernel
theorem dX9_gluings_213 : decode cX9_gluings 213 = .ok (.bipush (-9), 2) := by decide +kernel
theorem dX9_gluings_215 : decode cX9_gluings 215 = .ok (.iastore, 1) := by decide +kernel
theorem dX9_gluings_216 : decode cX9_gluings 216 = .ok (.goto (-133), 3) := by decide +kernel
theorem dX9_gluings_219 : decode cX9_gluings 219 = .ok (.aload_n 0, 1) := by decide +kernel
theorem dX9_gluings_220 : decode cX9_gluings 220 = .ok (.getfield 288, 3) := by decide +kernel
theorem dX9_gluings_223 : decode cX9_gluings 223 = .ok (.iload_n 2, 1) := by decide +kernel
theorem dX9_gluings_224 : decode cX9_gluings 224 = .ok (.if_icmp .ne 6, 3) := by decide +kernel
theorem dX9_gluings_227 : decode cX9_gluings 227 = .ok (.bipush (-6), 2) := by decide +kernel
theorem dX9_gluings_229 : decode cX9_gluings 229 = .ok (.ireturn, 1) := by decide +kernel
theorem dX9_gluings_230 : decode cX9_gluings 230 = .ok (.aload_n 0, 1) := by decide +kernel
theorem dX9_gluings_231 : decode cX9_gluings 231 = .ok (.dup, 1) := by decide +kernel
theorem dX9_gluings_232 : decode cX9_gluings 232 = .ok (.getfield 288, 3) := by decide +kernel
theorem dX9_gluings_235 : decode cX9_gluings 235 = .ok (.iconst 1, 1) := by decide +kernel
theorem dX9_gluings_236 : decode cX9_gluings 236 = .ok (.iadd, 1) := by decide +kernel
theorem dX9_gluings_237 : decode cX9_gluings 237 = .ok (.putfield 288, 3) := by decide +kernel
theorem dX9_gluings_240 : decode cX9_gluings 240 = .ok (.aload_n 0, 1) := by decide +kernel
theorem dX9_gluings_241 : decode cX9_gluings 241 = .ok (.getfield 80, 3) := by decide +kernel
theorem dX9_gluings_244 : decode cX9_gluings 244 = .ok (.iload 7, 2) := by decide +kernel
theorem dX9_gluings_246 : decode cX9_gluings 246 = .ok (.iload 6, 2) := by decide +kernel
theorem dX9_gluings_248 : decode cX9_gluings 248 = .ok (.iastore, 1) := by decide +kernel
theorem dX9_gluings_249 : decode cX9_gluings 249 = .ok (.aload_n 0, 1) := by decide +kernel
theorem dX9_gluings_250 : decode cX9_gluings 250 = .ok (.getfield 80, 3) := by decide +kernel
theorem dX9_gluings_253 : decode cX9_gluings 253 = .ok (.iload 6, 2) := by decide +kernel
theorem dX9_gluings_255 : decode cX9_gluings 255 = .ok (.iload 7, 2) := by decide +kernel
theorem dX9_gluings_257 : decode cX9_gluings 257 = .ok (.iastore, 1) := by decide +kernel
theorem dX9_gluings_258 : decode cX9_gluings 258 = .ok (.aload_n 0, 1) := by decide +kernel
theorem dX9_gluings_259 : decode cX9_gluings 259 = .ok (.invokevirtual 291, 3) := by decide +kernel
theorem dX9_gluings_262 : decode cX9_gluings 262 = .ok (.istore 9, 2) := by decide +kernel
theorem dX9_gluings_264 : decode cX9_gluings 264 = .ok (.iload 9, 2) := by decide +kernel
theorem dX9_gluings_266 : decode cX9_gluings 266 = .ok (.aload_n 0, 1) := by decide +kernel
theorem dX9_gluings_267 : decode cX9_gluings 267 = .ok (.getfield 273, 3) := by decide +kernel
theorem dX9_gluings_270 : decode cX9_gluings 270 = .ok (.if_icmp .ge 24, 3) := by decide +kernel
theorem dX9_gluings_273 : decode cX9_gluings 273 = .ok (.iinc 5 1, 3) := by decide +kernel
theorem dX9_gluings_276 : decode cX9_gluings 276 = .ok (.aload_n 0, 1) := by decide +kernel
theorem dX9_gluings_277 : decode cX9_gluings 277 = .ok (.getfield 95, 3) := by decide +kernel
theorem dX9_gluings_280 : decode cX9_gluings 280 = .ok (.iload 5, 2) := by decide +kernel
theorem dX9_gluings_282 : decode cX9_gluings 282 = .ok (.iload 9, 2) := by decide +kernel
theorem dX9_gluings_284 : decode cX9_gluings 284 = .ok (.iastore, 1) := by decide +kernel
theorem dX9_gluings_285 : decode cX9_gluings 285 = .ok (.iload 9, 2) := by decide +kernel
theorem dX9_gluings_287 : decode cX9_gluings 287 = .ok (.iconst 1, 1) := by decide +kernel
theorem dX9_gluings_288 : decode cX9_gluings 288 = .ok (.isub, 1) := by decide +kernel
theorem dX9_gluings_289 : decode cX9_gluings 289 = .ok (.istore 6, 2) := by decide +kernel
theorem dX9_gluings_291 : decode cX9_gluings 291 = .ok (.goto (-208), 3) := by decide +kernel
theorem dX9_gluings_294 : decode cX9_gluings 294 = .ok (.aload_n 0, 1) := by decide +kernel
theorem dX9_gluings_295 : decode cX9_gluings 295 = .ok (.invokevirtual 294, 3) := by decide +kernel
theorem dX9_gluings_298 : decode cX9_gluings 298 = .ok (.ifCond .eq 16, 3) := by decide +kernel
theorem dX9_gluings_301 : decode cX9_gluings 301 = .ok (.iinc 4 1, 3) := by decide +kernel
theorem dX9_gluings_304 : decode cX9_gluings 304 = .ok (.iload 4, 2) := by decide +kernel
theorem dX9_gluings_306 : decode cX9_gluings 306 = .ok (.iconst 1, 1) := by decide +kernel
theorem dX9_gluings_307 : decode cX9_gluings 307 = .ok (.if_icmp .ne 7, 3) := by decide +kernel
theorem dX9_gluings_310 : decode cX9_gluings 310 = .ok (.aload_n 0, 1) := by decide +kernel
theorem dX9_gluings_311 : decode cX9_gluings 311 = .ok (.invokevirtual 298, 3) := by decide +kernel
theorem dX9_gluings_314 : decode cX9_gluings 314 = .ok (.aload_n 0, 1) := by decide +kernel
theorem dX9_gluings_315 : decode cX9_gluings 315 = .ok (.getfield 80, 3) := by decide +kernel
theorem dX9_gluings_318 : decode cX9_gluings 318 = .ok (.iload 6, 2) := by decide +kernel
theorem dX9_gluings_320 : decode cX9_gluings 320 = .ok (.bipush (-9), 2) := by decide +kernel
theorem dX9_gluings_322 : decode cX9_gluings 322 = .ok (.iastore, 1) := by decide +kernel
theorem dX9_gluings_323 : decode cX9_gluings 323 = .ok (.aload_n 0, 1) := by decide +kernel
theorem dX9_gluings_324 : decode cX9_gluings 324 = .ok (.getfield 80, 3) := by decide +kernel
theorem dX9_gluings_327 : decode cX9_gluings 327 = .ok (.iload 7, 2) := by decide +kernel
theorem dX9_gluings_329 : decode cX9_gluings 329 = .ok (.bipush (-9), 2) := by decide +kernel
theorem dX9_gluings_331 : decode cX9_gluings 331 = .ok (.iastore, 1) := by decide +kernel
theorem dX9_gluings_332 : decode cX9_gluings 332 = .ok (.goto (-249), 3) := by decide +kernel
theorem dX9_gluings_335 : decode cX9_gluings 335 = .ok (.aload_n 0, 1) := by decide +kernel
theorem dX9_gluings_336 : decode cX9_gluings 336 = .ok (.iload 4, 2) := by decide +kernel
theorem dX9_gluings_338 : decode cX9_gluings 338 = .ok (.ifCond .le 7, 3) := by decide +kernel
theorem dX9_gluings_341 : decode cX9_gluings 341 = .ok (.iconst 1, 1) := by decide +kernel
theorem dX9_gluings_342 : decode cX9_gluings 342 = .ok (.goto 4, 3) := by decide +kernel
theorem dX9_gluings_345 : decode cX9_gluings 345 = .ok (.iconst 0, 1) := by decide +kernel
theorem dX9_gluings_346 : decode cX9_gluings 346 = .ok (.putfield 301, 3) := by decide +kernel
theorem dX9_gluings_349 : decode cX9_gluings 349 = .ok (.iconst 0, 1) := by decide +kernel
theorem dX9_gluings_350 : decode cX9_gluings 350 = .ok (.istore 7, 2) := by decide +kernel
theorem dX9_gluings_352 : decode cX9_gluings 352 = .ok (.iload 7, 2) := by decide +kernel
theorem dX9_gluings_354 : decode cX9_gluings 354 = .ok (.bipush 64, 2) := by decide +kernel
theorem dX9_gluings_356 : decode cX9_gluings 356 = .ok (.if_icmp .ge 35, 3) := by decide +kernel
theorem dX9_gluings_359 : decode cX9_gluings 359 = .ok (.aload_n 0, 1) := by decide +kernel
theorem dX9_gluings_360 : decode cX9_gluings 360 = .ok (.getfield 89, 3) := by decide +kernel
theorem dX9_gluings_363 : decode cX9_gluings 363 = .ok (.iload 7, 2) := by decide +kernel
theorem dX9_gluings_365 : decode cX9_gluings 365 = .ok (.aload_n 0, 1) := by decide +kernel
theorem dX9_gluings_366 : decode cX9_gluings 366 = .ok (.getfield 301, 3) := by decide +kernel
theorem dX9_gluings_369 : decode cX9_gluings 369 = .ok (.ifCond .eq 13, 3) := by decide +kernel
theorem dX9_gluings_372 : decode cX9_gluings 372 = .ok (.aload_n 0, 1) := by decide +kernel
theorem dX9_gluings_373 : decode cX9_gluings 373 = .ok (.getfield 98, 3) := by decide +kernel
theorem dX9_gluings_376 : decode cX9_gluings 376 = .ok (.iload 7, 2) := by decide +kernel
theorem dX9_gluings_378 : decode cX9_gluings 378 = .ok (.iaload, 1) := by decide +kernel
theorem dX9_gluings_379 : decode cX9_gluings 379 = .ok (.goto 5, 3) := by decide +kernel
theorem dX9_gluings_382 : decode cX9_gluings 382 = .ok (.bipush (-9), 2) := by decide +kernel
theorem dX9_gluings_384 : decode cX9_gluings 384 = .ok (.iastore, 1) := by decide +kernel
theorem dX9_gluings_385 : decode cX9_gluings 385 = .ok (.iinc 7 1, 3) := by decide +kernel
theorem dX9_gluings_388 : decode cX9_gluings 388 = .ok (.goto (-36), 3) := by decide +kernel
theorem dX9_gluings_391 : decode cX9_gluings 391 = .ok (.iconst 0, 1) := by decide +kernel
theorem dX9_gluings_392 : decode cX9_gluings 392 = .ok (.istore 7, 2) := by decide +kernel
theorem dX9_gluings_394 : decode cX9_gluings 394 = .ok (.iload 7, 2) := by decide +kernel
theorem dX9_gluings_396 : decode cX9_gluings 396 = .ok (.iconst 5, 1) := by decide +kernel
theorem dX9_gluings_397 : decode cX9_gluings 397 = .ok (.if_icmp .ge 23, 3) := by decide +kernel
theorem dX9_gluings_400 : decode cX9_gluings 400 = .ok (.aload_n 0, 1) := by decide +kernel
theorem dX9_gluings_401 : decode cX9_gluings 401 = .ok (.getfield 92, 3) := by decide +kernel
theorem dX9_gluings_404 : decode cX9_gluings 404 = .ok (.iload 7, 2) := by decide +kernel
theorem dX9_gluings_406 : decode cX9_gluings 406 = .ok (.aload_n 0, 1) := by decide +kernel
theorem dX9_gluings_407 : decode cX9_gluings 407 = .ok (.getfield 101, 3) := by decide +kernel
theorem dX9_gluings_410 : decode cX9_gluings 410 = .ok (.iload 7, 2) := by decide +kernel
theorem dX9_gluings_412 : decode cX9_gluings 412 = .ok (.iaload, 1) := by decide +kernel
theorem dX9_gluings_413 : decode cX9_gluings 413 = .ok (.iastore, 1) := by decide +kernel
theorem dX9_gluings_414 : decode cX9_gluings 414 = .ok (.iinc 7 1, 3) := by decide +kernel
theorem dX9_gluings_417 : decode cX9_gluings 417 = .ok (.goto (-23), 3) := by decide +kernel
theorem dX9_gluings_420 : decode cX9_gluings 420 = .ok (.iload 4, 2) := by decide +kernel
theorem dX9_gluings_422 : decode cX9_gluings 422 = .ok (.ireturn, 1) := by decide +kernel
theorem dX9_keepFirst_0 : decode cX9_keepFirst 0 = .ok (.iconst 0, 1) := by decide +kernel
theorem dX9_keepFirst_1 : decode cX9_keepFirst 1 = .ok (.istore_n 1, 1) := by decide +kernel
theorem dX9_keepFirst_2 : decode cX9_keepFirst 2 = .ok (.iload_n 1, 1) := by decide +kernel
theorem dX9_keepFirst_3 : decode cX9_keepFirst 3 = .ok (.bipush 64, 2) := by decide +kernel
theorem dX9_keepFirst_5 : decode cX9_keepFirst 5 = .ok (.if_icmp .ge 34, 3) := by decide +kernel
theorem dX9_keepFirst_8 : decode cX9_keepFirst 8 = .ok (.aload_n 0, 1) := by decide +kernel
theorem dX9_keepFirst_9 : decode cX9_keepFirst 9 = .ok (.getfield 98, 3) := by decide +kernel
theorem dX9_keepFirst_12 : decode cX9_keepFirst 12 = .ok (.iload_n 1, 1) := by decide +kernel
theorem dX9_keepFirst_13 : decode cX9_keepFirst 13 = .ok (.iload_n 1, 1) := by decide +kernel
theorem dX9_keepFirst_14 : decode cX9_keepFirst 14 = .ok (.aload_n 0, 1) := by decide +kernel
theorem dX9_keepFirst_15 : decode cX9_keepFirst 15 = .ok (.getfield 273, 3) := by decide +kernel
theorem dX9_keepFirst_18 : decode cX9_keepFirst 18 = .ok (.if_icmp .ge 12, 3) := by decide +kernel
theorem dX9_keepFirst_21 : decode cX9_keepFirst 21 = .ok (.aload_n 0, 1) := by decide +kernel
theorem dX9_keepFirst_22 : decode cX9_keepFirst 22 = .ok (.getfield 80, 3) := by decide +kernel
theorem dX9_keepFirst_25 : decode cX9_keepFirst 25 = .ok (.iload_n 1, 1) := by decide +kernel
theorem dX9_keepFirst_26 : decode cX9_keepFirst 26 = .ok (.iaload, 1) := by decide +kernel
theorem dX9_keepFirst_27 : decode cX9_keepFirst 27 = .ok (.goto 5, 3) := by decide +kernel
theorem dX9_keepFirst_30 : decode cX9_keepFirst 30 = .ok (.bipush (-9), 2) := by decide +kernel
theorem dX9_keepFirst_32 : decode cX9_keepFirst 32 = .ok (.iastore, 1) := by decide +kernel
theorem dX9_keepFirst_33 : decode cX9_keepFirst 33 = .ok (.iinc 1 1, 3) := by decide +kernel
theorem dX9_keepFirst_36 : decode cX9_keepFirst 36 = .ok (.goto (-34), 3) := by decide +kernel
theorem dX9_keepFirst_39 : decode cX9_keepFirst 39 = .ok (.iconst 0, 1) := by decide +kernel
theorem dX9_keepFirst_40 : decode cX9_keepFirst 40 = .ok (.istore_n 1, 1) := by decide +kernel
theorem dX9_keepFirst_41 : decode cX9_keepFirst 41 = .ok (.iload_n 1, 1) := by decide +kernel
theorem dX9_keepFirst_42 : decode cX9_keepFirst 42 = .ok (.iconst 5, 1) := by decide +kernel
theorem dX9_keepFirst_43 : decode cX9_keepFirst 43 = .ok (.if_icmp .ge 21, 3) := by decide +kernel
theorem dX9_keepFirst_46 : decode cX9_keepFirst 46 = .ok (.aload_n 0, 1) := by decide +kernel
theorem dX9_keepFirst_47 : decode cX9_keepFirst 47 = .ok (.getfield 101, 3) := by decide +kernel
theorem dX9_keepFirst_50 : decode cX9_keepFirst 50 = .ok (.iload_n 1, 1) := by decide +kernel
theorem dX9_keepFirst_51 : decode cX9_keepFirst 51 = .ok (.aload_n 0, 1) := by decide +kernel
theorem dX9_keepFirst_52 : decode cX9_keepFirst 52 = .ok (.getfield 86, 3) := by decide +kernel
theorem dX9_keepFirst_55 : decode cX9_keepFirst 55 = .ok (.iload_n 1, 1) := by decide +kernel
theorem dX9_keepFirst_56 : decode cX9_keepFirst 56 = .ok (.iaload, 1) := by decide +kernel
theorem dX9_keepFirst_57 : decode cX9_keepFirst 57 = .ok (.iastore, 1) := by decide +kernel
theorem dX9_keepFirst_58 : decode cX9_keepFirst 58 = .ok (.iinc 1 1, 3) := by decide +kernel
theorem dX9_keepFirst_61 : decode cX9_keepFirst 61 = .ok (.goto (-20), 3) := by decide +kernel
theorem dX9_keepFirst_64 : decode cX9_keepFirst 64 = .ok (.return_, 1) := by decide +kernel
theorem dX9_glued_0 : decode cX9_glued 0 = .ok (.iload_n 1, 1) := by decide +kernel
theorem dX9_glued_1 : decode cX9_glued 1 = .ok (.iconst 0, 1) := by decide +kernel
theorem dX9_glued_2 : decode cX9_glued 2 = .ok (.bipush 63, 2) := by decide +kernel
theorem dX9_glued_4 : decode cX9_glued 4 = .ok (.invokestatic 121, 3) := by decide +kernel
theorem dX9_glued_7 : decode cX9_glued 7 = .ok (.ifCond .eq 12, 3) := by decide +kernel
theorem dX9_glued_10 : decode cX9_glued 10 = .ok (.aload_n 0, 1) := by decide +kernel
theorem dX9_glued_11 : decode cX9_glued 11 = .ok (.getfield 89, 3) := by decide +kernel
theorem dX9_glued_14 : decode cX9_glued 14 = .ok (.iload_n 1, 1) := by decide +kernel
theorem dX9_glued_15 : decode cX9_glued 15 = .ok (.iaload, 1) := by decide +kernel
theorem dX9_glued_16 : decode cX9_glued 16 = .ok (.goto 5, 3) := by decide +kernel
theorem dX9_glued_19 : decode cX9_glued 19 = .ok (.bipush (-9), 2) := by decide +kernel
theorem dX9_glued_21 : decode cX9_glued 21 = .ok (.ireturn, 1) := by decide +kernel
theorem dX9_corners_0 : decode cX9_corners 0 = .ok (.iload_n 1, 1) := by decide +kernel
theorem dX9_corners_1 : decode cX9_corners 1 = .ok (.iconst 1, 1) := by decide +kernel
theorem dX9_corners_2 : decode cX9_corners 2 = .ok (.iconst 4, 1) := by decide +kernel
theorem dX9_corners_3 : decode cX9_corners 3 = .ok (.invokestatic 121, 3) := by decide +kernel
theorem dX9_corners_6 : decode cX9_corners 6 = .ok (.ifCond .ne 7, 3) := by decide +kernel
theorem dX9_corners_9 : decode cX9_corners 9 = .ok (.iconst (-1), 1) := by decide +kernel
theorem dX9_corners_10 : decode cX9_corners 10 = .ok (.goto 21, 3) := by decide +kernel
theorem dX9_corners_13 : decode cX9_corners 13 = .ok (.aload_n 0, 1) := by decide +kernel
theorem dX9_corners_14 : decode cX9_corners 14 = .ok (.getfield 301, 3) := by decide +kernel
theorem dX9_corners_17 : decode cX9_corners 17 = .ok (.ifCond .eq 12, 3) := by decide +kernel
theorem dX9_corners_20 : decode cX9_corners 20 = .ok (.aload_n 0, 1) := by decide +kernel
theorem dX9_corners_21 : decode cX9_corners 21 = .ok (.getfield 92, 3) := by decide +kernel
theorem dX9_corners_24 : decode cX9_corners 24 = .ok (.iload_n 1, 1) := by decide +kernel
theorem dX9_corners_25 : decode cX9_corners 25 = .ok (.iaload, 1) := by decide +kernel
theorem dX9_corners_26 : decode cX9_corners 26 = .ok (.goto 5, 3) := by decide +kernel
theorem dX9_corners_29 : decode cX9_corners 29 = .ok (.bipush (-9), 2) := by decide +kernel
theorem dX9_corners_31 : decode cX9_corners 31 = .ok (.ireturn, 1) := by decide +kernel
theorem dX9_isGluing_0 : decode cX9_isGluing 0 = .ok (.aload_n 0, 1) := by decide +kernel
theorem dX9_isGluing_1 : decode cX9_isGluing 1 = .ok (.getfield 104, 3) := by decide +kernel
theorem dX9_isGluing_4 : decode cX9_isGluing 4 = .ok (.iload_n 1, 1) := by decide +kernel
theorem dX9_isGluing_5 : decode cX9_isGluing 5 = .ok (.iaload, 1) := by decide +kernel
theorem dX9_isGluing_6 : decode cX9_isGluing 6 = .ok (.aload_n 0, 1) := by decide +kernel
theorem dX9_isGluing_7 : decode cX9_isGluing 7 = .ok (.getfield 273, 3) := by decide +kernel
theorem dX9_isGluing_10 : decode cX9_isGluing 10 = .ok (.if_icmp .ne 7, 3) := by decide +kernel
theorem dX9_isGluing_13 : decode cX9_isGluing 13 = .ok (.iconst 1, 1) := by decide +kernel
theorem dX9_isGluing_14 : decode cX9_isGluing 14 = .ok (.goto 4, 3) := by decide +kernel
theorem dX9_isGluing_17 : decode cX9_isGluing 17 = .ok (.iconst 0, 1) := by decide +kernel
theorem dX9_isGluing_18 : decode cX9_isGluing 18 = .ok (.istore_n 2, 1) := by decide +kernel
theorem dX9_isGluing_19 : decode cX9_isGluing 19 = .ok (.iconst 0, 1) := by decide +kernel
theorem dX9_isGluing_20 : decode cX9_isGluing 20 = .ok (.istore_n 3, 1) := by decide +kernel
theorem dX9_isGluing_21 : decode cX9_isGluing 21 = .ok (.iload_n 3, 1) := by decide +kernel
theorem dX9_isGluing_22 : decode cX9_isGluing 22 = .ok (.aload_n 0, 1) := by decide +kernel
theorem dX9_isGluing_23 : decode cX9_isGluing 23 = .ok (.getfield 273, 3) := by decide +kernel
theorem dX9_isGluing_26 : decode cX9_isGluing 26 = .ok (.if_icmp .ge 118, 3) := by decide +kernel
theorem dX9_isGluing_29 : decode cX9_isGluing 29 = .ok (.iload_n 2, 1) := by decide +kernel
theorem dX9_isGluing_30 : decode cX9_isGluing 30 = .ok (.ifCond .eq 114, 3) := by decide +kernel
theorem dX9_isGluing_33 : decode cX9_isGluing 33 = .ok (.aload_n 0, 1) := by decide +kernel
theorem dX9_isGluing_34 : decode cX9_isGluing 34 = .ok (.getfield 107, 3) := by decide +kernel
theorem dX9_isGluing_37 : decode cX9_isGluing 37 = .ok (.bipush 24, 2) := by decide +kernel
theorem dX9_isGluing_39 : decode cX9_isGluing 39 = .ok (.iload_n 1, 1) := by decide +kernel
theorem dX9_isGluing_40 : decode cX9_isGluing 40 = .ok (.imul, 1) := by decide +kernel
theorem dX9_isGluing_41 : decode cX9_isGluing 41 = .ok (.iload_n 3, 1) := by decide +kernel
theorem dX9_isGluing_42 : decode cX9_isGluing 42 = .ok (.iadd, 1) := by decide +kernel
theorem dX9_isGluing_43 : decode cX9_isGluing 43 = .ok (.iaload, 1) := by decide +kernel
theorem dX9_isGluing_44 : decode cX9_isGluing 44 = .ok (.istore 4, 2) := by decide +kernel
theorem dX9_isGluing_46 : decode cX9_isGluing 46 = .ok (.iload 4, 2) := by decide +kernel
theorem dX9_isGluing_48 : decode cX9_isGluing 48 = .ok (.iconst 0, 1) := by decide +kernel
theorem dX9_isGluing_49 : decode cX9_isGluing 49 = .ok (.aload_n 0, 1) := by decide +kernel
theorem dX9_isGluing_50 : decode cX9_isGluing 50 = .ok (.getfield 273, 3) := by decide +kernel
theorem dX9_isGluing_53 : decode cX9_isGluing 53 = .ok (.iconst 1, 1) := by decide +kernel
theorem dX9_isGluing_54 : decode cX9_isGluing 54 = .ok (.isub, 1) := by decide +kernel
theorem dX9_isGluing_55 : decode cX9_isGluing 55 = .ok (.invokestatic 121, 3) := by decide +kernel
theorem dX9_isGluing_58 : decode cX9_isGluing 58 = .ok (.ifCond .eq 29, 3) := by decide +kernel
theorem dX9_isGluing_61 : decode cX9_isGluing 61 = .ok (.iload 4, 2) := by decide +kernel
theorem dX9_isGluing_63 : decode cX9_isGluing 63 = .ok (.iload_n 3, 1) := by decide +kernel
theorem dX9_isGluing_64 : decode cX9_isGluing 64 = .ok (.if_icmp .eq 23, 3) := by decide +kernel
theorem dX9_isGluing_67 : decode cX9_isGluing 67 = .ok (.aload_n 0, 1) := by decide +kernel
theorem dX9_isGluing_68 : decode cX9_isGluing 68 = .ok (.getfield 107, 3) := by decide +kernel
theorem dX9_isGluing_71 : decode cX9_isGluing 71 = .ok (.bipush 24, 2) := by decide +kernel
theorem dX9_isGluing_73 : decode cX9_isGluing 73 = .ok (.iload_n 1, 1) := by decide +kernel
theorem dX9_isGluing_74 : decode cX9_isGluing 74 = .ok (.imul, 1) := by decide +kernel
theorem dX9_isGluing_75 : decode cX9_isGluing 75 = .ok (.iload 4, 2) := by decide +kernel
theorem dX9_isGluing_77 : decode cX9_isGluing 77 = .ok (.iadd, 1) := by decide +kernel
theorem dX9_isGluing_78 : decode cX9_isGluing 78 = .ok (.iaload, 1) := by decide +kernel
theorem dX9_isGluing_79 : decode cX9_isGluing 79 = .ok (.iload_n 3, 1) := by decide +kernel
theorem dX9_isGluing_80 : decode cX9_isGluing 80 = .ok (.if_icmp .ne 7, 3) := by decide +kernel
theorem dX9_isGluing_83 : decode cX9_isGluing 83 = .ok (.iconst 1, 1) := by decide +kernel
theorem dX9_isGluing_84 : decode cX9_isGluing 84 = .ok (.goto 4, 3) := by decide +kernel
theorem dX9_isGluing_87 : decode cX9_isGluing 87 = .ok (.iconst 0, 1) := by decide +kernel
theorem dX9_isGluing_88 : decode cX9_isGluing 88 = .ok (.istore_n 2, 1) := by decide +kernel
theorem dX9_isGluing_89 : decode cX9_isGluing 89 = .ok (.iload_n 3, 1) := by decide +kernel
theorem dX9_isGluing_90 : decode cX9_isGluing 90 = .ok (.iconst 1, 1) := by decide +kernel
theorem dX9_isGluing_91 : decode cX9_isGluing 91 = .ok (.iadd, 1) := by decide +kernel
theorem dX9_isGluing_92 : decode cX9_isGluing 92 = .ok (.istore 5, 2) := by decide +kernel
theorem dX9_isGluing_94 : decode cX9_isGluing 94 = .ok (.iload 5, 2) := by decide +kernel
theorem dX9_isGluing_96 : decode cX9_isGluing 96 = .ok (.iload 4, 2) := by decide +kernel
theorem dX9_isGluing_98 : decode cX9_isGluing 98 = .ok (.if_icmp .ge 40, 3) := by decide +kernel
theorem dX9_isGluing_101 : decode cX9_isGluing 101 = .ok (.iload_n 2, 1) := by decide +kernel
theorem dX9_isGluing_102 : decode cX9_isGluing 102 = .ok (.ifCond .eq 36, 3) := by decide +kernel
theorem dX9_isGluing_105 : decode cX9_isGluing 105 = .ok (.aload_n 0, 1) := by decide +kernel
theorem dX9_isGluing_106 : decode cX9_isGluing 106 = .ok (.getfield 107, 3) := by decide +kernel
theorem dX9_isGluing_109 : decode cX9_isGluing 109 = .ok (.bipush 24, 2) := by decide +kernel
theorem dX9_isGluing_111 : decode cX9_isGluing 111 = .ok (.iload_n 1, 1) := by decide +kernel
theorem dX9_isGluing_112 : decode cX9_isGluing 112 = .ok (.imul, 1) := by decide +kernel
theorem dX9_isGluing_113 : decode cX9_isGluing 113 = .ok (.iload 5, 2) := by decide +kernel
theorem dX9_isGluing_115 : decode cX9_isGluing 115 = .ok (.iadd, 1) := by decide +kernel
theorem dX9_isGluing_116 : decode cX9_isGluing 116 = .ok (.iaload, 1) := by decide +kernel
theorem dX9_isGluing_117 : decode cX9_isGluing 117 = .ok (.istore 6, 2) := by decide +kernel
theorem dX9_isGluing_119 : decode cX9_isGluing 119 = .ok (.iload 6, 2) := by decide +kernel
theorem dX9_isGluing_121 : decode cX9_isGluing 121 = .ok (.iload_n 3, 1) := by decide +kernel
theorem dX9_isGluing_122 : decode cX9_isGluing 122 = .ok (.iconst 1, 1) := by decide +kernel
theorem dX9_isGluing_123 : decode cX9_isGluing 123 = .ok (.iadd, 1) := by decide +kernel
theorem dX9_isGluing_124 : decode cX9_isGluing 124 = .ok (.iload 4, 2) := by decide +kernel
theorem dX9_isGluing_126 : decode cX9_isGluing 126 = .ok (.iconst 1, 1) := by decide +kernel
theorem dX9_isGluing_127 : decode cX9_isGluing 127 = .ok (.isub, 1) := by decide +kernel
theorem dX9_isGluing_128 : decode cX9_isGluing 128 = .ok (.invokestatic 121, 3) := by decide +kernel
theorem dX9_isGluing_131 : decode cX9_isGluing 131 = .ok (.istore_n 2, 1) := by decide +kernel
theorem dX9_isGluing_132 : decode cX9_isGluing 132 = .ok (.iinc 5 1, 3) := by decide +kernel
theorem dX9_isGluing_135 : decode cX9_isGluing 135 = .ok (.goto (-41), 3) := by decide +kernel
theorem dX9_isGluing_138 : decode cX9_isGluing 138 = .ok (.iinc 3 1, 3) := by decide +kernel
theorem dX9_isGluing_141 : decode cX9_isGluing 141 = .ok (.goto (-120), 3) := by decide +kernel
theorem dX9_isGluing_144 : decode cX9_isGluing 144 = .ok (.iload_n 2, 1) := by decide +kernel
theorem dX9_isGluing_145 : decode cX9_isGluing 145 = .ok (.ireturn, 1) := by decide +kernel
theorem dX9_glue_0 : decode cX9_glue 0 = .ok (.iload_n 1, 1) := by decide +kernel
theorem dX9_glue_1 : decode cX9_glue 1 = .ok (.invokestatic 125, 3) := by decide +kernel
theorem dX9_glue_4 : decode cX9_glue 4 = .ok (.ifCond .eq 10, 3) := by decide +kernel
theorem dX9_glue_7 : decode cX9_glue 7 = .ok (.iload_n 2, 1) := by decide +kernel
theorem dX9_glue_8 : decode cX9_glue 8 = .ok (.invokestatic 255, 3) := by decide +kernel
theorem dX9_glue_11 : decode cX9_glue 11 = .ok (.ifCond .ne 5, 3) := by decide +kernel
theorem dX9_glue_14 : decode cX9_glue 14 = .ok (.iconst (-1), 1) := by decide +kernel
theorem dX9_glue_15 : decode cX9_glue 15 = .ok (.ireturn, 1) := by decide +kernel
theorem dX9_glue_16 : decode cX9_glue 16 = .ok (.aload_n 0, 1) := by decide +kernel
theorem dX9_glue_17 : decode cX9_glue 17 = .ok (.getfield 13, 3) := by decide +kernel
theorem dX9_glue_20 : decode cX9_glue 20 = .ok (.iload_n 1, 1) := by decide +kernel
theorem dX9_glue_21 : decode cX9_glue 21 = .ok (.laload, 1) := by decide +kernel
theorem dX9_glue_22 : decode cX9_glue 22 = .ok (.lconst 0, 1) := by decide +kernel
theorem dX9_glue_23 : decode cX9_glue 23 = .ok (.lcmp, 1) := by decide +kernel
theorem dX9_glue_24 : decode cX9_glue 24 = .ok (.ifCond .eq 12, 3) := by decide +kernel
theorem dX9_glue_27 : decode cX9_glue 27 = .ok (.aload_n 0, 1) := by decide +kernel
theorem dX9_glue_28 : decode cX9_glue 28 = .ok (.getfield 104, 3) := by decide +kernel
theorem dX9_glue_31 : decode cX9_glue 31 = .ok (.iload_n 2, 1) := by decide +kernel
theorem dX9_glue_32 : decode cX9_glue 32 = .ok (.iaload, 1) := by decide +kernel
theorem dX9_glue_33 : decode cX9_glue 33 = .ok (.ifCond .ge 9, 3) := by decide +kernel
theorem dX9_glue_36 : decode cX9_glue 36 = .ok (.aload_n 0, 1) := by decide +kernel
theorem dX9_glue_37 : decode cX9_glue 37 = .ok (.iconst 1, 1) := by decide +kernel
theorem dX9_glue_38 : decode cX9_glue 38 = .ok (.invokevirtual 129, 3) := by decide +kernel
theorem dX9_glue_41 : decode cX9_glue 41 = .ok (.ireturn, 1) := by decide +kernel
theorem dX9_glue_42 : decode cX9_glue 42 = .ok (.aload_n 0, 1) := by decide +kernel
theorem dX9_glue_43 : decode cX9_glue 43 = .ok (.aload_n 0, 1) := by decide +kernel
theorem dX9_glue_44 : decode cX9_glue 44 = .ok (.getfield 13, 3) := by decide +kernel
theorem dX9_glue_47 : decode cX9_glue 47 = .ok (.iload_n 1, 1) := by decide +kernel
theorem dX9_glue_48 : decode cX9_glue 48 = .ok (.laload, 1) := by decide +kernel
theorem dX9_glue_49 : decode cX9_glue 49 = .ok (.invokevirtual 276, 3) := by decide +kernel
theorem dX9_glue_52 : decode cX9_glue 52 = .ok (.ifCond .eq 11, 3) := by decide +kernel
theorem dX9_glue_55 : decode cX9_glue 55 = .ok (.aload_n 0, 1) := by decide +kernel
theorem dX9_glue_56 : decode cX9_glue 56 = .ok (.iload_n 2, 1) := by decide +kernel
theorem dX9_glue_57 : decode cX9_glue 57 = .ok (.invokevirtual 305, 3) := by decide +kernel
theorem dX9_glue_60 : decode cX9_glue 60 = .ok (.ifCond .ne 6, 3) := by decide +kernel
theorem dX9_glue_63 : decode cX9_glue 63 = .ok (.bipush (-4), 2) := by decide +kernel
theorem dX9_glue_65 : decode cX9_glue 65 = .ok (.ireturn, 1) := by decide +kernel
theorem dX9_glue_66 : decode cX9_glue 66 = .ok (.iconst 0, 1) := by decide +kernel
theorem dX9_glue_67 : decode cX9_glue 67 = .ok (.istore_n 3, 1) := by decide +kernel
theorem dX9_glue_68 : decode cX9_glue 68 = .ok (.iload_n 3, 1) := by decide +kernel
theorem dX9_glue_69 : decode cX9_glue 69 = .ok (.aload_n 0, 1) := by decide +kernel
theorem dX9_glue_70 : decode cX9_glue 70 = .ok (.getfield 273, 3) := by decide +kernel
theorem dX9_glue_73 : decode cX9_glue 73 = .ok (.if_icmp .ge 26, 3) := by decide +kernel
theorem dX9_glue_76 : decode cX9_glue 76 = .ok (.aload_n 0, 1) := by decide +kernel
theorem dX9_glue_77 : decode cX9_glue 77 = .ok (.getfield 80, 3) := by decide +kernel
theorem dX9_glue_80 : decode cX9_glue 80 = .ok (.iload_n 3, 1) := by decide +kernel
theorem dX9_glue_81 : decode cX9_glue 81 = .ok (.aload_n 0, 1) := by decide +kernel
theorem dX9_glue_82 : decode cX9_glue 82 = .ok (.getfield 107, 3) := by decide +kernel
theorem dX9_glue_85 : decode cX9_glue 85 = .ok (.bipush 24, 2) := by decide +kernel
theorem dX9_glue_87 : decode cX9_glue 87 = .ok (.iload_n 2, 1) := by decide +kernel
theorem dX9_glue_88 : decode cX9_glue 88 = .ok (.imul, 1) := by decide +kernel
theorem dX9_glue_89 : decode cX9_glue 89 = .ok (.iload_n 3, 1) := by decide +kernel
theorem dX9_glue_90 : decode cX9_glue 90 = .ok (.iadd, 1) := by decide +kernel
theorem dX9_glue_91 : decode cX9_glue 91 = .ok (.iaload, 1) := by decide +kernel
theorem dX9_glue_92 : decode cX9_glue 92 = .ok (.iastore, 1) := by decide +kernel
theorem dX9_glue_93 : decode cX9_glue 93 = .ok (.iinc 3 1, 3) := by decide +kernel
theorem dX9_glue_96 : decode cX9_glue 96 = .ok (.goto (-28), 3) := by decide +kernel
theorem dX9_glue_99 : decode cX9_glue 99 = .ok (.aload_n 0, 1) := by decide +kernel
theorem dX9_glue_100 : decode cX9_glue 100 = .ok (.invokevirtual 294, 3) := by decide +kernel
theorem dX9_glue_103 : decode cX9_glue 103 = .ok (.istore_n 3, 1) := by decide +kernel
theorem dX9_glue_104 : decode cX9_glue 104 = .ok (.aload_n 0, 1) := by decide +kernel
theorem dX9_glue_105 : decode cX9_glue 105 = .ok (.iload_n 3, 1) := by decide +kernel
theorem dX9_glue_106 : decode cX9_glue 106 = .ok (.ifCond .eq 7, 3) := by decide +kernel
theorem dX9_glue_109 : decode cX9_glue 109 = .ok (.lconst 1, 1) := by decide +kernel
theorem dX9_glue_110 : decode cX9_glue 110 = .ok (.goto 4, 3) := by decide +kernel
theorem dX9_glue_113 : decode cX9_glue 113 = .ok (.lconst 0, 1) := by decide +kernel
theorem dX9_glue_114 : decode cX9_glue 114 = .ok (.aload_n 0, 1) := by decide +kernel
theorem dX9_glue_115 : decode cX9_glue 115 = .ok (.getfield 285, 3) := by decide +kernel
theorem dX9_glue_118 : decode cX9_glue 118 = .ok (.invokevirtual 166, 3) := by decide +kernel
theorem dX9_glue_121 : decode cX9_glue 121 = .ok (.ireturn, 1) := by decide +kernel
theorem dX9_tries_0 : decode cX9_tries 0 = .ok (.aload_n 0, 1) := by decide +kernel
theorem dX9_tries_1 : decode cX9_tries 1 = .ok (.getfield 288, 3) := by decide +kernel
theorem dX9_tries_4 : decode cX9_tries 4 = .ok (.ireturn, 1) := by decide +kernel
theorem dX9_isRow_0 : decode cX9_isRow 0 = .ok (.iload_n 0, 1) := by decide +kernel
theorem dX9_isRow_1 : decode cX9_isRow 1 = .ok (.iconst 0, 1) := by decide +kernel
theorem dX9_isRow_2 : decode cX9_isRow 2 = .ok (.iconst 3, 1) := by decide +kernel
theorem dX9_isRow_3 : decode cX9_isRow 3 = .ok (.invokestatic 121, 3) := by decide +kernel
theorem dX9_isRow_6 : decode cX9_isRow 6 = .ok (.ireturn, 1) := by decide +kernel
theorem dX9_askedRow_0 : decode cX9_askedRow 0 = .ok (.iload_n 1, 1) := by decide +kernel
theorem dX9_askedRow_1 : decode cX9_askedRow 1 = .ok (.invokestatic 255, 3) := by decide +kernel
theorem dX9_askedRow_4 : decode cX9_askedRow 4 = .ok (.ifCond .ne 7, 3) := by decide +kernel
theorem dX9_askedRow_7 : decode cX9_askedRow 7 = .ok (.iconst (-1), 1) := by decide +kernel
theorem dX9_askedRow_8 : decode cX9_askedRow 8 = .ok (.goto 21, 3) := by decide +kernel
theorem dX9_askedRow_11 : decode cX9_askedRow 11 = .ok (.aload_n 0, 1) := by decide +kernel
theorem dX9_askedRow_12 : decode cX9_askedRow 12 = .ok (.getfield 104, 3) := by decide +kernel
theorem dX9_askedRow_15 : decode cX9_askedRow 15 = .ok (.iload_n 1, 1) := by decide +kernel
theorem dX9_askedRow_16 : decode cX9_askedRow 16 = .ok (.iaload, 1) := by decide +kernel
theorem dX9_askedRow_17 : decode cX9_askedRow 17 = .ok (.ifCond .ge 11, 3) := by decide +kernel
theorem dX9_askedRow_20 : decode cX9_askedRow 20 = .ok (.aload_n 0, 1) := by decide +kernel
theorem dX9_askedRow_21 : decode cX9_askedRow 21 = .ok (.iconst 1, 1) := by decide +kernel
theorem dX9_askedRow_22 : decode cX9_askedRow 22 = .ok (.invokevirtual 129, 3) := by decide +kernel
theorem dX9_askedRow_25 : decode cX9_askedRow 25 = .ok (.goto 4, 3) := by decide +kernel
theorem dX9_askedRow_28 : decode cX9_askedRow 28 = .ok (.iconst 0, 1) := by decide +kernel
theorem dX9_askedRow_29 : decode cX9_askedRow 29 = .ok (.ireturn, 1) := by decide +kernel
theorem dX9_row_0 : decode cX9_row 0 = .ok (.iload_n 1, 1) := by decide +kernel
theorem dX9_row_1 : decode cX9_row 1 = .ok (.invokestatic 255, 3) := by decide +kernel
theorem dX9_row_4 : decode cX9_row 4 = .ok (.ifCond .eq 9, 3) := by decide +kernel
theorem dX9_row_7 : decode cX9_row 7 = .ok (.iload_n 2, 1) := by decide +kernel
theorem dX9_row_8 : decode cX9_row 8 = .ok (.bipush 24, 2) := by decide +kernel
theorem dX9_row_10 : decode cX9_row 10 = .ok (.if_icmp .le 5, 3) := by decide +kernel
theorem dX9_row_13 : decode cX9_row 13 = .ok (.iconst (-1), 1) := by decide +kernel
theorem dX9_row_14 : decode cX9_row 14 = .ok (.ireturn, 1) := by decide +kernel
theorem dX9_row_15 : decode cX9_row 15 = .ok (.iload_n 2, 1) := by decide +kernel
theorem dX9_row_16 : decode cX9_row 16 = .ok (.ifCond .ge 9, 3) := by decide +kernel
theorem dX9_row_19 : decode cX9_row 19 = .ok (.aload_n 0, 1) := by decide +kernel
theorem dX9_row_20 : decode cX9_row 20 = .ok (.iconst 5, 1) := by decide +kernel
theorem dX9_row_21 : decode cX9_row 21 = .ok (.invokevirtual 129, 3) := by decide +kernel
theorem dX9_row_24 : decode cX9_row 24 = .ok (.ireturn, 1) := by decide +kernel
theorem dX9_row_25 : decode cX9_row 25 = .ok (.aload_n 0, 1) := by decide +kernel
theorem dX9_row_26 : decode cX9_row 26 = .ok (.getfield 104, 3) := by decide +kernel
theorem dX9_row_29 : decode cX9_row 29 = .ok (.iload_n 1, 1) := by decide +kernel
theorem dX9_row_30 : decode cX9_row 30 = .ok (.iload_n 2, 1) := by decide +kernel
theorem dX9_row_31 : decode cX9_row 31 = .ok (.iastore, 1) := by decide +kernel
theorem dX9_row_32 : decode cX9_row 32 = .ok (.iconst 0, 1) := by decide +kernel
theorem dX9_row_33 : decode cX9_row 33 = .ok (.istore_n 3, 1) := by decide +kernel
theorem dX9_row_34 : decode cX9_row 34 = .ok (.iload_n 3, 1) := by decide +kernel
theorem dX9_row_35 : decode cX9_row 35 = .ok (.bipush 24, 2) := by decide +kernel
theorem dX9_row_37 : decode cX9_row 37 = .ok (.if_icmp .ge 21, 3) := by decide +kernel
theorem dX9_row_40 : decode cX9_row 40 = .ok (.aload_n 0, 1) := by decide +kernel
theorem dX9_row_41 : decode cX9_row 41 = .ok (.getfield 107, 3) := by decide +kernel
theorem dX9_row_44 : decode cX9_row 44 = .ok (.bipush 24, 2) := by decide +kernel
theorem dX9_row_46 : decode cX9_row 46 = .ok (.iload_n 1, 1) := by decide +kernel
theorem dX9_row_47 : decode cX9_row 47 = .ok (.imul, 1) := by decide +kernel
theorem dX9_row_48 : decode cX9_row 48 = .ok (.iload_n 3, 1) := by decide +kernel
theorem dX9_row_49 : decode cX9_row 49 = .ok (.iadd, 1) := by decide +kernel
theorem dX9_row_50 : decode cX9_row 50 = .ok (.iconst 0, 1) := by decide +kernel
theorem dX9_row_51 : decode cX9_row 51 = .ok (.iastore, 1) := by decide +kernel
theorem dX9_row_52 : decode cX9_row 52 = .ok (.iinc 3 1, 3) := by decide +kernel
theorem dX9_row_55 : decode cX9_row 55 = .ok (.goto (-21), 3) := by decide +kernel
theorem dX9_row_58 : decode cX9_row 58 = .ok (.iload_n 2, 1) := by decide +kernel
theorem dX9_row_59 : decode cX9_row 59 = .ok (.ireturn, 1) := by decide +kernel
theorem dX9_lay_0 : decode cX9_lay 0 = .ok (.aload_n 0, 1) := by decide +kernel
theorem dX9_lay_1 : decode cX9_lay 1 = .ok (.iload_n 1, 1) := by decide +kernel
theorem dX9_lay_2 : decode cX9_lay 2 = .ok (.invokevirtual 308, 3) := by decide +kernel
theorem dX9_lay_5 : decode cX9_lay 5 = .ok (.istore 4, 2) := by decide +kernel
theorem dX9_lay_7 : decode cX9_lay 7 = .ok (.iload 4, 2) := by decide +kernel
theorem dX9_lay_9 : decode cX9_lay 9 = .ok (.ifCond .ge 6, 3) := by decide +kernel
theorem dX9_lay_12 : decode cX9_lay 12 = .ok (.iload 4, 2) := by decide +kernel
theorem dX9_lay_14 : decode cX9_lay 14 = .ok (.ireturn, 1) := by decide +kernel
theorem dX9_lay_15 : decode cX9_lay 15 = .ok (.iload_n 2, 1) := by decide +kernel
theorem dX9_lay_16 : decode cX9_lay 16 = .ok (.iconst 0, 1) := by decide +kernel
theorem dX9_lay_17 : decode cX9_lay 17 = .ok (.aload_n 0, 1) := by decide +kernel
theorem dX9_lay_18 : decode cX9_lay 18 = .ok (.getfield 104, 3) := by decide +kernel
theorem dX9_lay_21 : decode cX9_lay 21 = .ok (.iload_n 1, 1) := by decide +kernel
theorem dX9_lay_22 : decode cX9_lay 22 = .ok (.iaload, 1) := by decide +kernel
theorem dX9_lay_23 : decode cX9_lay 23 = .ok (.iconst 1, 1) := by decide +kernel
theorem dX9_lay_24 : decode cX9_lay 24 = .ok (.isub, 1) := by decide +kernel
theorem dX9_lay_25 : decode cX9_lay 25 = .ok (.invokestatic 121, 3) := by decide +kernel
theorem dX9_lay_28 : decode cX9_lay 28 = .ok (.ifCond .ne 9, 3) := by decide +kernel
theorem dX9_lay_31 : decode cX9_lay 31 = .ok (.aload_n 0, 1) := by decide +kernel
theorem dX9_lay_32 : decode cX9_lay 32 = .ok (.iconst 2, 1) := by decide +kernel
theorem dX9_lay_33 : decode cX9_lay 33 = .ok (.invokevirtual 129, 3) := by decide +kernel
theorem dX9_lay_36 : decode cX9_lay 36 = .ok (.ireturn, 1) := by decide +kernel
theorem dX9_lay_37 : decode cX9_lay 37 = .ok (.aload_n 0, 1) := by decide +kernel
theorem dX9_lay_38 : decode cX9_lay 38 = .ok (.aload_n 0, 1) := by decide +kernel
theorem dX9_lay_39 : decode cX9_lay 39 = .ok (.getfield 107, 3) := by decide +kernel
theorem dX9_lay_42 : decode cX9_lay 42 = .ok (.bipush 24, 2) := by decide +kernel
theorem dX9_lay_44 : decode cX9_lay 44 = .ok (.iload_n 1, 1) := by decide +kernel
theorem dX9_lay_45 : decode cX9_lay 45 = .ok (.imul, 1) := by decide +kernel
theorem dX9_lay_46 : decode cX9_lay 46 = .ok (.iload_n 2, 1) := by decide +kernel
theorem dX9_lay_47 : decode cX9_lay 47 = .ok (.iadd, 1) := by decide +kernel
theorem dX9_lay_48 : decode cX9_lay 48 = .ok (.iaload, 1) := by decide +kernel
theorem dX9_lay_49 : decode cX9_lay 49 = .ok (.i2l, 1) := by decide +kernel
theorem dX9_lay_50 : decode cX9_lay 50 = .ok (.putfield 117, 3) := by decide +kernel
theorem dX9_lay_53 : decode cX9_lay 53 = .ok (.aload_n 0, 1) := by decide +kernel
theorem dX9_lay_54 : decode cX9_lay 54 = .ok (.getfield 107, 3) := by decide +kernel
theorem dX9_lay_57 : decode cX9_lay 57 = .ok (.bipush 24, 2) := by decide +kernel
theorem dX9_lay_59 : decode cX9_lay 59 = .ok (.iload_n 1, 1) := by decide +kernel
theorem dX9_lay_60 : decode cX9_lay 60 = .ok (.imul, 1) := by decide +kernel
theorem dX9_lay_61 : decode cX9_lay 61 = .ok (.iload_n 2, 1) := by decide +kernel
theorem dX9_lay_62 : decode cX9_lay 62 = .ok (.iadd, 1) := by decide +kernel
theorem dX9_lay_63 : decode cX9_lay 63 = .ok (.iload_n 3, 1) := by decide +kernel
theorem dX9_lay_64 : decode cX9_lay 64 = .ok (.iastore, 1) := by decide +kernel
theorem dX9_lay_65 : decode cX9_lay 65 = .ok (.iconst 1, 1) := by decide +kernel
theorem dX9_lay_66 : decode cX9_lay 66 = .ok (.ireturn, 1) := by decide +kernel
theorem dX9_tear_0 : decode cX9_tear 0 = .ok (.aload_n 0, 1) := by decide +kernel
theorem dX9_tear_1 : decode cX9_tear 1 = .ok (.iload_n 1, 1) := by decide +kernel
theorem dX9_tear_2 : decode cX9_tear 2 = .ok (.invokevirtual 308, 3) := by decide +kernel
theorem dX9_tear_5 : decode cX9_tear 5 = .ok (.istore_n 2, 1) := by decide +kernel
theorem dX9_tear_6 : decode cX9_tear 6 = .ok (.iload_n 2, 1) := by decide +kernel
theorem dX9_tear_7 : decode cX9_tear 7 = .ok (.ifCond .ge 5, 3) := by decide +kernel
theorem dX9_tear_10 : decode cX9_tear 10 = .ok (.iload_n 2, 1) := by decide +kernel
theorem dX9_tear_11 : decode cX9_tear 11 = .ok (.ireturn, 1) := by decide +kernel
theorem dX9_tear_12 : decode cX9_tear 12 = .ok (.aload_n 0, 1) := by decide +kernel
theorem dX9_tear_13 : decode cX9_tear 13 = .ok (.getfield 104, 3) := by decide +kernel
theorem dX9_tear_16 : decode cX9_tear 16 = .ok (.iload_n 1, 1) := by decide +kernel
theorem dX9_tear_17 : decode cX9_tear 17 = .ok (.bipush (-9), 2) := by decide +kernel
theorem dX9_tear_19 : decode cX9_tear 19 = .ok (.iastore, 1) := by decide +kernel
theorem dX9_tear_20 : decode cX9_tear 20 = .ok (.iconst 1, 1) := by decide +kernel
theorem dX9_tear_21 : decode cX9_tear 21 = .ok (.ireturn, 1) := by decide +kernel
theorem dX9_copy_0 : decode cX9_copy 0 = .ok (.iload_n 1, 1) := by decide +kernel
theorem dX9_copy_1 : decode cX9_copy 1 = .ok (.invokestatic 255, 3) := by decide +kernel
theorem dX9_copy_4 : decode cX9_copy 4 = .ok (.ifCond .eq 10, 3) := by decide +kernel
theorem dX9_copy_7 : decode cX9_copy 7 = .ok (.iload_n 3, 1) := by decide +kernel
theorem dX9_copy_8 : decode cX9_copy 8 = .ok (.invokestatic 255, 3) := by decide +kernel
theorem dX9_copy_11 : decode cX9_copy 11 = .ok (.ifCond .ne 5, 3) := by decide +kernel
theorem dX9_copy_14 : decode cX9_copy 14 = .ok (.iconst (-1), 1) := by decide +kernel
theorem dX9_copy_15 : decode cX9_copy 15 = .ok (.ireturn, 1) := by decide +kernel
theorem dX9_copy_16 : decode cX9_copy 16 = .ok (.iload 5, 2) := by decide +kernel
theorem dX9_copy_18 : decode cX9_copy 18 = .ok (.ifCond .ge 9, 3) := by decide +kernel
theorem dX9_copy_21 : decode cX9_copy 21 = .ok (.aload_n 0, 1) := by decide +kernel
theorem dX9_copy_22 : decode cX9_copy 22 = .ok (.iconst 5, 1) := by decide +kernel
theorem dX9_copy_23 : decode cX9_copy 23 = .ok (.invokevirtual 129, 3) := by decide +kernel
theorem dX9_copy_26 : decode cX9_copy 26 = .ok (.ireturn, 1) := by decide +kernel
theorem dX9_copy_27 : decode cX9_copy 27 = .ok (.aload_n 0, 1) := by decide +kernel
theorem dX9_copy_28 : decode cX9_copy 28 = .ok (.getfield 104, 3) := by decide +kernel
theorem dX9_copy_31 : decode cX9_copy 31 = .ok (.iload_n 1, 1) := by decide +kernel
theorem dX9_copy_32 : decode cX9_copy 32 = .ok (.iaload, 1) := by decide +kernel
theorem dX9_copy_33 : decode cX9_copy 33 = .ok (.ifCond .lt 12, 3) := by decide +kernel
theorem dX9_copy_36 : decode cX9_copy 36 = .ok (.aload_n 0, 1) := by decide +kernel
theorem dX9_copy_37 : decode cX9_copy 37 = .ok (.getfield 104, 3) := by decide +kernel
theorem dX9_copy_40 : decode cX9_copy 40 = .ok (.iload_n 3, 1) := by decide +kernel
theorem dX9_copy_41 : decode cX9_copy 41 = .ok (.iaload, 1) := by decide +kernel
theorem dX9_copy_42 : decode cX9_copy 42 = .ok (.ifCond .ge 9, 3) := by decide +kernel
theorem dX9_copy_45 : decode cX9_copy 45 = .ok (.aload_n 0, 1) := by decide +kernel
theorem dX9_copy_46 : decode cX9_copy 46 = .ok (.iconst 1, 1) := by decide +kernel
theorem dX9_copy_47 : decode cX9_copy 47 = .ok (.invokevirtual 129, 3) := by decide +kernel
theorem dX9_copy_50 : decode cX9_copy 50 = .ok (.ireturn, 1) := by decide +kernel
theorem dX9_copy_51 : decode cX9_copy 51 = .ok (.iload_n 2, 1) := by decide +kernel
theorem dX9_copy_52 : decode cX9_copy 52 = .ok (.ifCond .lt 43, 3) := by decide +kernel
theorem dX9_copy_55 : decode cX9_copy 55 = .ok (.iload 4, 2) := by decide +kernel
theorem dX9_copy_57 : decode cX9_copy 57 = .ok (.ifCond .lt 38, 3) := by decide +kernel
theorem dX9_copy_60 : decode cX9_copy 60 = .ok (.iload_n 2, 1) := by decide +kernel
theorem dX9_copy_61 : decode cX9_copy 61 = .ok (.i2l, 1) := by decide +kernel
theorem dX9_copy_62 : decode cX9_copy 62 = .ok (.iload 5, 2) := by decide +kernel
theorem dX9_copy_64 : decode cX9_copy 64 = .ok (.i2l, 1) := by decide +kernel
theorem dX9_copy_65 : decode cX9_copy 65 = .ok (.ladd, 1) := by decide +kernel
theorem dX9_copy_66 : decode cX9_copy 66 = .ok (.aload_n 0, 1) := by decide +kernel
theorem dX9_copy_67 : decode cX9_copy 67 = .ok (.getfield 104, 3) := by decide +kernel
theorem dX9_copy_70 : decode cX9_copy 70 = .ok (.iload_n 1, 1) := by decide +kernel
theorem dX9_copy_71 : decode cX9_copy 71 = .ok (.iaload, 1) := by decide +kernel
theorem dX9_copy_72 : decode cX9_copy 72 = .ok (.i2l, 1) := by decide +kernel
theorem dX9_copy_73 : decode cX9_copy 73 = .ok (.lcmp, 1) := by decide +kernel
theorem dX9_copy_74 : decode cX9_copy 74 = .ok (.ifCond .gt 21, 3) := by decide +kernel
theorem dX9_copy_77 : decode cX9_copy 77 = .ok (.iload 4, 2) := by decide +kernel
theorem dX9_copy_79 : decode cX9_copy 79 = .ok (.i2l, 1) := by decide +kernel
theorem dX9_copy_80 : decode cX9_copy 80 = .ok (.iload 5, 2) := by decide +kernel
theorem dX9_copy_82 : decode cX9_copy 82 = .ok (.i2l, 1) := by decide +kernel
theorem dX9_copy_83 : decode cX9_copy 83 = .ok (.ladd, 1) := by decide +kernel
theorem dX9_copy_84 : decode cX9_copy 84 = .ok (.aload_n 0, 1) := by decide +kernel
theorem dX9_copy_85 : decode cX9_copy 85 = .ok (.getfield 104, 3) := by decide +kernel
theorem dX9_copy_88 : decode cX9_copy 88 = .ok (.iload_n 3, 1) := by decide +kernel
theorem dX9_copy_89 : decode cX9_copy 89 = .ok (.iaload, 1) := by decide +kernel
theorem dX9_copy_90 : decode cX9_copy 90 = .ok (.i2l, 1) := by decide +kernel
theorem dX9_copy_91 : decode cX9_copy 91 = .ok (.lcmp, 1) := by decide +kernel
theorem dX9_copy_92 : decode cX9_copy 92 = .ok (.ifCond .le 9, 3) := by decide +kernel
theorem dX9_copy_95 : decode cX9_copy 95 = .ok (.aload_n 0, 1) := by decide +kernel
theorem dX9_copy_96 : decode cX9_copy 96 = .ok (.iconst 2, 1) := by decide +kernel
theorem dX9_copy_97 : decode cX9_copy 97 = .ok (.invokevirtual 129, 3) := by decide +kernel
theorem dX9_copy_100 : decode cX9_copy 100 = .ok (.ireturn, 1) := by decide +kernel
theorem dX9_copy_101 : decode cX9_copy 101 = .ok (.iconst 0, 1) := by decide +kernel
theorem dX9_copy_102 : decode cX9_copy 102 = .ok (.istore 6, 2) := by decide +kernel
theorem dX9_copy_104 : decode cX9_copy 104 = .ok (.iload 6, 2) := by decide +kernel
theorem dX9_copy_106 : decode cX9_copy 106 = .ok (.iload 5, 2) := by decide +kernel
theorem dX9_copy_108 : decode cX9_copy 108 = .ok (.if_icmp .ge 30, 3) := by decide +kernel
theorem dX9_copy_111 : decode cX9_copy 111 = .ok (.aload_n 0, 1) := by decide +kernel
theorem dX9_copy_112 : decode cX9_copy 112 = .ok (.getfield 110, 3) := by decide +kernel
theorem dX9_copy_115 : decode cX9_copy 115 = .ok (.iload 6, 2) := by decide +kernel
theorem dX9_copy_117 : decode cX9_copy 117 = .ok (.aload_n 0, 1) := by decide +kernel
theorem dX9_copy_118 : decode cX9_copy 118 = .ok (.getfield 107, 3) := by decide +kernel
theorem dX9_copy_121 : decode cX9_copy 121 = .ok (.bipush 24, 2) := by decide +kernel
theorem dX9_copy_123 : decode cX9_copy 123 = .ok (.iload_n 1, 1) := by decide +kernel
theorem dX9_copy_124 : decode cX9_copy 124 = .ok (.imul, 1) := by decide +kernel
theorem dX9_copy_125 : decode cX9_copy 125 = .ok (.iload_n 2, 1) := by decide +kernel
theorem dX9_copy_126 : decode cX9_copy 126 = .ok (.iadd, 1) := by decide +kernel
theorem dX9_copy_127 : decode cX9_copy 127 = .ok (.iload 6, 2) := by decide +kernel
theorem dX9_copy_129 : decode cX9_copy 129 = .ok (.iadd, 1) := by decide +kernel
theorem dX9_copy_130 : decode cX9_copy 130 = .ok (.iaload, 1) := by decide +kernel
theorem dX9_copy_131 : decode cX9_copy 131 = .ok (.iastore, 1) := by decide +kernel
theorem dX9_copy_132 : decode cX9_copy 132 = .ok (.iinc 6 1, 3) := by decide +kernel
theorem dX9_copy_135 : decode cX9_copy 135 = .ok (.goto (-31), 3) := by decide +kernel
theorem dX9_copy_138 : decode cX9_copy 138 = .ok (.iconst 0, 1) := by decide +kernel
theorem dX9_copy_139 : decode cX9_copy 139 = .ok (.istore 6, 2) := by decide +kernel
theorem dX9_copy_141 : decode cX9_copy 141 = .ok (.iload 6, 2) := by decide +kernel
theorem dX9_copy_143 : decode cX9_copy 143 = .ok (.iload 5, 2) := by decide +kernel
theorem dX9_copy_145 : decode cX9_copy 145 = .ok (.if_icmp .ge 31, 3) := by decide +kernel
theorem dX9_copy_148 : decode cX9_copy 148 = .ok (.aload_n 0, 1) := by decide +kernel
theorem dX9_copy_149 : decode cX9_copy 149 = .ok (.getfield 107, 3) := by decide +kernel
theorem dX9_copy_152 : decode cX9_copy 152 = .ok (.bipush 24, 2) := by decide +kernel
theorem dX9_copy_154 : decode cX9_copy 154 = .ok (.iload_n 3, 1) := by decide +kernel
theorem dX9_copy_155 : decode cX9_copy 155 = .ok (.imul, 1) := by decide +kernel
theorem dX9_copy_156 : decode cX9_copy 156 = .ok (.iload 4, 2) := by decide +kernel
theorem dX9_copy_158 : decode cX9_copy 158 = .ok (.iadd, 1) := by decide +kernel
theorem dX9_copy_159 : decode cX9_copy 159 = .ok (.iload 6, 2) := by decide +kernel
theorem dX9_copy_161 : decode cX9_copy 161 = .ok (.iadd, 1) := by decide +kernel
theorem dX9_copy_162 : decode cX9_copy 162 = .ok (.aload_n 0, 1) := by decide +kernel
theorem dX9_copy_163 : decode cX9_copy 163 = .ok (.getfield 110, 3) := by decide +kernel
theorem dX9_copy_166 : decode cX9_copy 166 = .ok (.iload 6, 2) := by decide +kernel
theorem dX9_copy_168 : decode cX9_copy 168 = .ok (.iaload, 1) := by decide +kernel
theorem dX9_copy_169 : decode cX9_copy 169 = .ok (.iastore, 1) := by decide +kernel
theorem dX9_copy_170 : decode cX9_copy 170 = .ok (.iinc 6 1, 3) := by decide +kernel
theorem dX9_copy_173 : decode cX9_copy 173 = .ok (.goto (-32), 3) := by decide +kernel
theorem dX9_copy_176 : decode cX9_copy 176 = .ok (.iconst 1, 1) := by decide +kernel
theorem dX9_copy_177 : decode cX9_copy 177 = .ok (.ireturn, 1) := by decide +kernel
theorem dX9_meanRow_0 : decode cX9_meanRow 0 = .ok (.aload_n 0, 1) := by decide +kernel
theorem dX9_meanRow_1 : decode cX9_meanRow 1 = .ok (.iload_n 1, 1) := by decide +kernel
theorem dX9_meanRow_2 : decode cX9_meanRow 2 = .ok (.invokevirtual 308, 3) := by decide +kernel
theorem dX9_meanRow_5 : decode cX9_meanRow 5 = .ok (.istore_n 2, 1) := by decide +kernel
theorem dX9_meanRow_6 : decode cX9_meanRow 6 = .ok (.iload_n 2, 1) := by decide +kernel
theorem dX9_meanRow_7 : decode cX9_meanRow 7 = .ok (.ifCond .ge 5, 3) := by decide +kernel
theorem dX9_meanRow_10 : decode cX9_meanRow 10 = .ok (.iload_n 2, 1) := by decide +kernel
theorem dX9_meanRow_11 : decode cX9_meanRow 11 = .ok (.ireturn, 1) := by decide +kernel
theorem dX9_meanRow_12 : decode cX9_meanRow 12 = .ok (.lconst 0, 1) := by decide +kernel
theorem dX9_meanRow_13 : decode cX9_meanRow 13 = .ok (.lstore_n 3, 1) := by decide +kernel
theorem dX9_meanRow_14 : decode cX9_meanRow 14 = .ok (.iconst 0, 1) := by decide +kernel
theorem dX9_meanRow_15 : decode cX9_meanRow 15 = .ok (.istore 5, 2) := by decide +kernel
theorem dX9_meanRow_17 : decode cX9_meanRow 17 = .ok (.iload 5, 2) := by decide +kernel
theorem dX9_meanRow_19 : decode cX9_meanRow 19 = .ok (.aload_n 0, 1) := by decide +kernel
theorem dX9_meanRow_20 : decode cX9_meanRow 20 = .ok (.getfield 104, 3) := by decide +kernel
theorem dX9_meanRow_23 : decode cX9_meanRow 23 = .ok (.iload_n 1, 1) := by decide +kernel
theorem dX9_meanRow_24 : decode cX9_meanRow 24 = .ok (.iaload, 1) := by decide +kernel
theorem dX9_meanRow_25 : decode cX9_meanRow 25 = .ok (.if_icmp .ge 25, 3) := by decide +kernel
theorem dX9_meanRow_28 : decode cX9_meanRow 28 = .ok (.lload_n 3, 1) := by decide +kernel
theorem dX9_meanRow_29 : decode cX9_meanRow 29 = .ok (.aload_n 0, 1) := by decide +kernel
theorem dX9_meanRow_30 : decode cX9_meanRow 30 = .ok (.getfield 107, 3) := by decide +kernel
theorem dX9_meanRow_33 : decode cX9_meanRow 33 = .ok (.bipush 24, 2) := by decide +kernel
theorem dX9_meanRow_35 : decode cX9_meanRow 35 = .ok (.iload_n 1, 1) := by decide +kernel
theorem dX9_meanRow_36 : decode cX9_meanRow 36 = .ok (.imul, 1) := by decide +kernel
theorem dX9_meanRow_37 : decode cX9_meanRow 37 = .ok (.iload 5, 2) := by decide +kernel
theorem dX9_meanRow_39 : decode cX9_meanRow 39 = .ok (.iadd, 1) := by decide +kernel
theorem dX9_meanRow_40 : decode cX9_meanRow 40 = .ok (.iaload, 1) := by decide +kernel
theorem dX9_meanRow_41 : decode cX9_meanRow 41 = .ok (.i2l, 1) := by decide +kernel
theorem dX9_meanRow_42 : decode cX9_meanRow 42 = .ok (.ladd, 1) := by decide +kernel
theorem dX9_meanRow_43 : decode cX9_meanRow 43 = .ok (.lstore_n 3, 1) := by decide +kernel
theorem dX9_meanRow_44 : decode cX9_meanRow 44 = .ok (.iinc 5 1, 3) := by decide +kernel
theorem dX9_meanRow_47 : decode cX9_meanRow 47 = .ok (.goto (-30), 3) := by decide +kernel
theorem dX9_meanRow_50 : decode cX9_meanRow 50 = .ok (.aload_n 0, 1) := by decide +kernel
theorem dX9_meanRow_51 : decode cX9_meanRow 51 = .ok (.getfield 104, 3) := by decide +kernel
theorem dX9_meanRow_54 : decode cX9_meanRow 54 = .ok (.iload_n 1, 1) := by decide +kernel
theorem dX9_meanRow_55 : decode cX9_meanRow 55 = .ok (.iaload, 1) := by decide +kernel
theorem dX9_meanRow_56 : decode cX9_meanRow 56 = .ok (.ifCond .ne 11, 3) := by decide +kernel
theorem dX9_meanRow_59 : decode cX9_meanRow 59 = .ok (.aload_n 0, 1) := by decide +kernel
theorem dX9_meanRow_60 : decode cX9_meanRow 60 = .ok (.iconst 4, 1) := by decide +kernel
theorem dX9_meanRow_61 : decode cX9_meanRow 61 = .ok (.invokevirtual 129, 3) := by decide +kernel
theorem dX9_meanRow_64 : decode cX9_meanRow 64 = .ok (.goto 17, 3) := by decide +kernel
theorem dX9_meanRow_67 : decode cX9_meanRow 67 = .ok (.aload_n 0, 1) := by decide +kernel
theorem dX9_meanRow_68 : decode cX9_meanRow 68 = .ok (.lload_n 3, 1) := by decide +kernel
theorem dX9_meanRow_69 : decode cX9_meanRow 69 = .ok (.aload_n 0, 1) := by decide +kernel
theorem dX9_meanRow_70 : decode cX9_meanRow 70 = .ok (.getfield 104, 3) := by decide +kernel
theorem dX9_meanRow_73 : decode cX9_meanRow 73 = .ok (.iload_n 1, 1) := by decide +kernel
theorem dX9_meanRow_74 : decode cX9_meanRow 74 = .ok (.iaload, 1) := by decide +kernel
theorem dX9_meanRow_75 : decode cX9_meanRow 75 = .ok (.i2l, 1) := by decide +kernel
theorem dX9_meanRow_76 : decode cX9_meanRow 76 = .ok (.ldiv, 1) := by decide +kernel
theorem dX9_meanRow_77 : decode cX9_meanRow 77 = .ok (.iconst 1, 1) := by decide +kernel
theorem dX9_meanRow_78 : decode cX9_meanRow 78 = .ok (.invokevirtual 166, 3) := by decide +kernel
theorem dX9_meanRow_81 : decode cX9_meanRow 81 = .ok (.ireturn, 1) := by decide +kernel
theorem dX9_asked_0 : decode cX9_asked 0 = .ok (.aload_n 0, 1) := by decide +kernel
theorem dX9_asked_1 : decode cX9_asked 1 = .ok (.getfield 117, 3) := by decide +kernel
theorem dX9_asked_4 : decode cX9_asked 4 = .ok (.lreturn, 1) := by decide +kernel
theorem dX9_count_0 : decode cX9_count 0 = .ok (.iconst 0, 1) := by decide +kernel
theorem dX9_count_1 : decode cX9_count 1 = .ok (.istore_n 2, 1) := by decide +kernel
theorem dX9_count_2 : decode cX9_count 2 = .ok (.iconst 0, 1) := by decide +kernel
theorem dX9_count_3 : decode cX9_count 3 = .ok (.istore_n 3, 1) := by decide +kernel
theorem dX9_count_4 : decode cX9_count 4 = .ok (.iload_n 3, 1) := by decide +kernel
theorem dX9_count_5 : decode cX9_count 5 = .ok (.bipush 6, 2) := by decide +kernel
theorem dX9_count_7 : decode cX9_count 7 = .ok (.if_icmp .ge 49, 3) := by decide +kernel
theorem dX9_count_10 : decode cX9_count 10 = .ok (.iload_n 2, 1) := by decide +kernel
theorem dX9_count_11 : decode cX9_count 11 = .ok (.iload_n 1, 1) := by decide +kernel
theorem dX9_count_12 : decode cX9_count 12 = .ok (.ifCond .ne 18, 3) := by decide +kernel
theorem dX9_count_15 : decode cX9_count 15 = .ok (.aload_n 0, 1) := by decide +kernel
theorem dX9_count_16 : decode cX9_count 16 = .ok (.getfield 13, 3) := by decide +kernel
theorem dX9_count_19 : decode cX9_count 19 = .ok (.iload_n 3, 1) := by decide +kernel
theorem dX9_count_20 : decode cX9_count 20 = .ok (.laload, 1) := by decide +kernel
theorem dX9_count_21 : decode cX9_count 21 = .ok (.lconst 0, 1) := by decide +kernel
theorem dX9_count_22 : decode cX9_count 22 = .ok (.lcmp, 1) := by decide +kernel
theorem dX9_count_23 : decode cX9_count 23 = .ok (.ifCond .eq 7, 3) := by decide +kernel
theorem dX9_count_26 : decode cX9_count 26 = .ok (.iconst 1, 1) := by decide +kernel
theorem dX9_count_27 : decode cX9_count 27 = .ok (.goto 21, 3) := by decide +kernel
theorem dX9_count_30 : decode cX9_count 30 = .ok (.iload_n 1, 1) := by decide +kernel
theorem dX9_count_31 : decode cX9_count 31 = .ok (.iconst 1, 1) := by decide +kernel
theorem dX9_count_32 : decode cX9_count 32 = .ok (.if_icmp .ne 15, 3) := by decide +kernel
theorem dX9_count_35 : decode cX9_count 35 = .ok (.aload_n 0, 1) := by decide +kernel
theorem dX9_count_36 : decode cX9_count 36 = .ok (.getfield 13, 3) := by decide +kernel
theorem dX9_count_39 : decode cX9_count 39 = .ok (.iload_n 3, 1) := by decide +kernel
theorem dX9_count_40 : decode cX9_count 40 = .ok (.laload, 1) := by decide +kernel
theorem dX9_count_41 : decode cX9_count 41 = .ok (.invokestatic 149, 3) := by decide +kernel
theorem dX9_count_44 : decode cX9_count 44 = .ok (.goto 4, 3) := by decide +kernel
theorem dX9_count_47 : decode cX9_count 47 = .ok (.iconst 0, 1) := by decide +kernel
theorem dX9_count_48 : decode cX9_count 48 = .ok (.iadd, 1) := by decide +kernel
theorem dX9_count_49 : decode cX9_count 49 = .ok (.istore_n 2, 1) := by decide +kernel
theorem dX9_count_50 : decode cX9_count 50 = .ok (.iinc 3 1, 3) := by decide +kernel
theorem dX9_count_53 : decode cX9_count 53 = .ok (.goto (-49), 3) := by decide +kernel
theorem dX9_count_56 : decode cX9_count 56 = .ok (.iconst 0, 1) := by decide +kernel
theorem dX9_count_57 : decode cX9_count 57 = .ok (.istore_n 3, 1) := by decide +kernel
theorem dX9_count_58 : decode cX9_count 58 = .ok (.iload_n 3, 1) := by decide +kernel
theorem dX9_count_59 : decode cX9_count 59 = .ok (.iconst 4, 1) := by decide +kernel
theorem dX9_count_60 : decode cX9_count 60 = .ok (.if_icmp .ge 50, 3) := by decide +kernel
theorem dX9_count_63 : decode cX9_count 63 = .ok (.iload_n 2, 1) := by decide +kernel
theorem dX9_count_64 : decode cX9_count 64 = .ok (.aload_n 0, 1) := by decide +kernel
theorem dX9_count_65 : decode cX9_count 65 = .ok (.getfield 26, 3) := by decide +kernel
theorem dX9_count_68 : decode cX9_count 68 = .ok (.iconst 3, 1) := by decide +kernel
theorem dX9_count_69 : decode cX9_count 69 = .ok (.iload_n 3, 1) := by decide +kernel
theorem dX9_count_70 : decode cX9_count 70 = .ok (.imul, 1) := by decide +kernel
theorem dX9_count_71 : decode cX9_count 71 = .ok (.iaload, 1) := by decide +kernel
theorem dX9_count_72 : decode cX9_count 72 = .ok (.ifCond .ne 7, 3) := by decide +kernel
theorem dX9_count_75 : decode cX9_count 75 = .ok (.iconst 0, 1) := by decide +kernel
theorem dX9_count_76 : decode cX9_count 76 = .ok (.goto 26, 3) := by decide +kernel
theorem dX9_count_79 : decode cX9_count 79 = .ok (.iload_n 1, 1) := by decide +kernel
theorem dX9_count_80 : decode cX9_count 80 = .ok (.iconst 2, 1) := by decide +kernel
theorem dX9_count_81 : decode cX9_count 81 = .ok (.if_icmp .ne 7, 3) := by decide +kernel
theorem dX9_count_84 : decode cX9_count 84 = .ok (.iconst 1, 1) := by decide +kernel
theorem dX9_count_85 : decode cX9_count 85 = .ok (.goto 17, 3) := by decide +kernel
theorem dX9_count_88 : decode cX9_count 88 = .ok (.iload_n 1, 1) := by decide +kernel
theorem dX9_count_89 : decode cX9_count 89 = .ok (.iconst 3, 1) := by decide +kernel
theorem dX9_count_90 : decode cX9_count 90 = .ok (.if_icmp .ne 11, 3) := by decide +kernel
theorem dX9_count_93 : decode cX9_count 93 = .ok (.aload_n 0, 1) := by decide +kernel
theorem dX9_count_94 : decode cX9_count 94 = .ok (.iload_n 3, 1) := by decide +kernel
theorem dX9_count_95 : decode cX9_count 95 = .ok (.invokevirtual 181, 3) := by decide +kernel
theorem dX9_count_98 : decode cX9_count 98 = .ok (.goto 4, 3) := by decide +kernel
theorem dX9_count_101 : decode cX9_count 101 = .ok (.iconst 0, 1) := by decide +kernel
theorem dX9_count_102 : decode cX9_count 102 = .ok (.iadd, 1) := by decide +kernel
theorem dX9_count_103 : decode cX9_count 103 = .ok (.istore_n 2, 1) := by decide +kernel
theorem dX9_count_104 : decode cX9_count 104 = .ok (.iinc 3 1, 3) := by decide +kernel
theorem dX9_count_107 : decode cX9_count 107 = .ok (.goto (-49), 3) := by decide +kernel
theorem dX9_count_110 : decode cX9_count 110 = .ok (.iconst 0, 1) := by decide +kernel
theorem dX9_count_111 : decode cX9_count 111 = .ok (.istore_n 3, 1) := by decide +kernel
theorem dX9_count_112 : decode cX9_count 112 = .ok (.iload_n 3, 1) := by decide +kernel
theorem dX9_count_113 : decode cX9_count 113 = .ok (.iconst 4, 1) := by decide +kernel
theorem dX9_count_114 : decode cX9_count 114 = .ok (.if_icmp .ge 31, 3) := by decide +kernel
theorem dX9_count_117 : decode cX9_count 117 = .ok (.iload_n 2, 1) := by decide +kernel
theorem dX9_count_118 : decode cX9_count 118 = .ok (.iload_n 1, 1) := by decide +kernel
theorem dX9_count_119 : decode cX9_count 119 = .ok (.iconst 4, 1) := by decide +kernel
theorem dX9_count_120 : decode cX9_count 120 = .ok (.if_icmp .ne 16, 3) := by decide +kernel
theorem dX9_count_123 : decode cX9_count 123 = .ok (.aload_n 0, 1) := by decide +kernel
theorem dX9_count_124 : decode cX9_count 124 = .ok (.getfield 104, 3) := by decide +kernel
theorem dX9_count_127 : decode cX9_count 127 = .ok (.iload_n 3, 1) := by decide +kernel
theorem dX9_count_128 : decode cX9_count 128 = .ok (.iaload, 1) := by decide +kernel
theorem dX9_count_129 : decode cX9_count 129 = .ok (.ifCond .lt 7, 3) := by decide +kernel
theorem dX9_count_132 : decode cX9_count 132 = .ok (.iconst 1, 1) := by decide +kernel
theorem dX9_count_133 : decode cX9_count 133 = .ok (.goto 4, 3) := by decide +kernel
theorem dX9_count_136 : decode cX9_count 136 = .ok (.iconst 0, 1) := by decide +kernel
theorem dX9_count_137 : decode cX9_count 137 = .ok (.iadd, 1) := by decide +kernel
theorem dX9_count_138 : decode cX9_count 138 = .ok (.istore_n 2, 1) := by decide +kernel
theorem dX9_count_139 : decode cX9_count 139 = .ok (.iinc 3 1, 3) := by decide +kernel
theorem dX9_count_142 : decode cX9_count 142 = .ok (.goto (-30), 3) := by decide +kernel
theorem dX9_count_145 : decode cX9_count 145 = .ok (.iload_n 1, 1) := by decide +kernel
theorem dX9_count_146 : decode cX9_count 146 = .ok (.iconst 0, 1) := by decide +kernel
theorem dX9_count_147 : decode cX9_count 147 = .ok (.iconst 4, 1) := by decide +kernel
theorem dX9_count_148 : decode cX9_count 148 = .ok (.invokestatic 121, 3) := by decide +kernel
theorem dX9_count_151 : decode cX9_count 151 = .ok (.ifCond .eq 7, 3) := by decide +kernel
theorem dX9_count_154 : decode cX9_count 154 = .ok (.iload_n 2, 1) := by decide +kernel
theorem dX9_count_155 : decode cX9_count 155 = .ok (.goto 4, 3) := by decide +kernel
theorem dX9_count_158 : decode cX9_count 158 = .ok (.iconst (-1), 1) := by decide +kernel
theorem dX9_count_159 : decode cX9_count 159 = .ok (.ireturn, 1) := by decide +kernel
theorem dX9_finding_0 : decode cX9_finding 0 = .ok (.aload_n 0, 1) := by decide +kernel
theorem dX9_finding_1 : decode cX9_finding 1 = .ok (.getfield 113, 3) := by decide +kernel
theorem dX9_finding_4 : decode cX9_finding 4 = .ok (.ireturn, 1) := by decide +kernel
theorem dX9_findings_0 : decode cX9_findings 0 = .ok (.iload_n 1, 1) := by decide +kernel
theorem dX9_findings_1 : decode cX9_findings 1 = .ok (.iconst 1, 1) := by decide +kernel
theorem dX9_findings_2 : decode cX9_findings 2 = .ok (.iconst 5, 1) := by decide +kernel
theorem dX9_findings_3 : decode cX9_findings 3 = .ok (.invokestatic 121, 3) := by decide +kernel
theorem dX9_findings_6 : decode cX9_findings 6 = .ok (.ifCond .eq 12, 3) := by decide +kernel
theorem dX9_findings_9 : decode cX9_findings 9 = .ok (.aload_n 0, 1) := by decide +kernel
theorem dX9_findings_10 : decode cX9_findings 10 = .ok (.getfield 7, 3) := by decide +kernel
theorem dX9_findings_13 : decode cX9_findings 13 = .ok (.iload_n 1, 1) := by decide +kernel
theorem dX9_findings_14 : decode cX9_findings 14 = .ok (.iaload, 1) := by decide +kernel
theorem dX9_findings_15 : decode cX9_findings 15 = .ok (.goto 4, 3) := by decide +kernel
theorem dX9_findings_18 : decode cX9_findings 18 = .ok (.iconst (-1), 1) := by decide +kernel
theorem dX9_findings_19 : decode cX9_findings 19 = .ok (.ireturn, 1) := by decide +kernel
theorem dX9_digest_0 : decode cX9_digest 0 = .ok (.ldc2_w 311, 3) := by decide +kernel
theorem dX9_digest_3 : decode cX9_digest 3 = .ok (.lstore_n 1, 1) := by decide +kernel
theorem dX9_digest_4 : decode cX9_digest 4 = .ok (.iconst 0, 1) := by decide +kernel
theorem dX9_digest_5 : decode cX9_digest 5 = .ok (.istore_n 3, 1) := by decide +kernel
theorem dX9_digest_6 : decode cX9_digest 6 = .ok (.iload_n 3, 1) := by decide +kernel
theorem dX9_digest_7 : decode cX9_digest 7 = .ok (.bipush 6, 2) := by decide +kernel
theorem dX9_digest_9 : decode cX9_digest 9 = .ok (.if_icmp .ge 55, 3) := by decide +kernel
theorem dX9_digest_12 : decode cX9_digest 12 = .ok (.aload_n 0, 1) := by decide +kernel
theorem dX9_digest_13 : decode cX9_digest 13 = .ok (.getfield 13, 3) := by decide +kernel
theorem dX9_digest_16 : decode cX9_digest 16 = .ok (.iload_n 3, 1) := by decide +kernel
theorem dX9_digest_17 : decode cX9_digest 17 = .ok (.laload, 1) := by decide +kernel
theorem dX9_digest_18 : decode cX9_digest 18 = .ok (.lconst 0, 1) := by decide +kernel
theorem dX9_digest_19 : decode cX9_digest 19 = .ok (.lcmp, 1) := by decide +kernel
theorem dX9_digest_20 : decode cX9_digest 20 = .ok (.ifCond .ne 13, 3) := by decide +kernel
theorem dX9_digest_23 : decode cX9_digest 23 = .ok (.ldc2_w 313, 3) := by decide +kernel
theorem dX9_digest_26 : decode cX9_digest 26 = .ok (.lload_n 1, 1) := by decide +kernel
theorem dX9_digest_27 : decode cX9_digest 27 = .ok (.lmul, 1) := by decide +kernel
theorem dX9_digest_28 : decode cX9_digest 28 = .ok (.lconst 1, 1) := by decide +kernel
theorem dX9_digest_29 : decode cX9_digest 29 = .ok (.lsub, 1) := by decide +kernel
theorem dX9_digest_30 : decode cX9_digest 30 = .ok (.goto 27, 3) := by decide +kernel
theorem dX9_digest_33 : decode cX9_digest 33 = .ok (.ldc2_w 313, 3) := by decide +kernel
theorem dX9_digest_36 : decode cX9_digest 36 = .ok (.ldc2_w 313, 3) := by decide +kernel
theorem dX9_digest_39 : decode cX9_digest 39 = .ok (.lload_n 1, 1) := by decide +kernel
theorem dX9_digest_40 : decode cX9_digest 40 = .ok (.lmul, 1) := by decide +kernel
theorem dX9_digest_41 : decode cX9_digest 41 = .ok (.aload_n 0, 1) := by decide +kernel
theorem dX9_digest_42 : decode cX9_digest 42 = .ok (.getfield 17, 3) := by decide +kernel
theorem dX9_digest_45 : decode cX9_digest 45 = .ok (.iload_n 3, 1) := by decide +kernel
theorem dX9_digest_46 : decode cX9_digest 46 = .ok (.iaload, 1) := by decide +kernel
theorem dX9_digest_47 : decode cX9_digest 47 = .ok (.i2l, 1) := by decide +kernel
theorem dX9_digest_48 : decode cX9_digest 48 = .ok (.ladd, 1) := by decide +kernel
theorem dX9_digest_49 : decode cX9_digest 49 = .ok (.lmul, 1) := by decide +kernel
theorem dX9_digest_50 : decode cX9_digest 50 = .ok (.aload_n 0, 1) := by decide +kernel
theorem dX9_digest_51 : decode cX9_digest 51 = .ok (.getfield 13, 3) := by decide +kernel
theorem dX9_digest_54 : decode cX9_digest 54 = .ok (.iload_n 3, 1) := by decide +kernel
theorem dX9_digest_55 : decode cX9_digest 55 = .ok (.laload, 1) := by decide +kernel
theorem dX9_digest_56 : decode cX9_digest 56 = .ok (.ladd, 1) := by decide +kernel
theorem dX9_digest_57 : decode cX9_digest 57 = .ok (.lstore_n 1, 1) := by decide +kernel
theorem dX9_digest_58 : decode cX9_digest 58 = .ok (.iinc 3 1, 3) := by decide +kernel
theorem dX9_digest_61 : decode cX9_digest 61 = .ok (.goto (-55), 3) := by decide +kernel
theorem dX9_digest_64 : decode cX9_digest 64 = .ok (.iconst 0, 1) := by decide +kernel
theorem dX9_digest_65 : decode cX9_digest 65 = .ok (.istore_n 3, 1) := by decide +kernel
theorem dX9_digest_66 : decode cX9_digest 66 = .ok (.iload_n 3, 1) := by decide +kernel
theorem dX9_digest_67 : decode cX9_digest 67 = .ok (.iconst 4, 1) := by decide +kernel
theorem dX9_digest_68 : decode cX9_digest 68 = .ok (.if_icmp .ge 73, 3) := by decide +kernel
theorem dX9_digest_71 : decode cX9_digest 71 = .ok (.aload_n 0, 1) := by decide +kernel
theorem dX9_digest_72 : decode cX9_digest 72 = .ok (.getfield 26, 3) := by decide +kernel
theorem dX9_digest_75 : decode cX9_digest 75 = .ok (.iconst 3, 1) := by decide +kernel
theorem dX9_digest_76 : decode cX9_digest 76 = .ok (.iload_n 3, 1) := by decide +kernel
theorem dX9_digest_77 : decode cX9_digest 77 = .ok (.imul, 1) := by decide +kernel
theorem dX9_digest_78 : decode cX9_digest 78 = .ok (.iaload, 1) := by decide +kernel
theorem dX9_digest_79 : decode cX9_digest 79 = .ok (.ifCond .ne 11, 3) := by decide +kernel
theorem dX9_digest_82 : decode cX9_digest 82 = .ok (.ldc2_w 313, 3) := by decide +kernel
theorem dX9_digest_85 : decode cX9_digest 85 = .ok (.lload_n 1, 1) := by decide +kernel
theorem dX9_digest_86 : decode cX9_digest 86 = .ok (.lmul, 1) := by decide +kernel
theorem dX9_digest_87 : decode cX9_digest 87 = .ok (.lconst 1, 1) := by decide +kernel
theorem dX9_digest_88 : decode cX9_digest 88 = .ok (.lsub, 1) := by decide +kernel
theorem dX9_digest_89 : decode cX9_digest 89 = .ok (.lstore_n 1, 1) := by decide +kernel
theorem dX9_digest_90 : decode cX9_digest 90 = .ok (.iconst 0, 1) := by decide +kernel
theorem dX9_digest_91 : decode cX9_digest 91 = .ok (.istore 4, 2) := by decide +kernel
theorem dX9_digest_93 : decode cX9_digest 93 = .ok (.iload 4, 2) := by decide +kernel
theorem dX9_digest_95 : decode cX9_digest 95 = .ok (.iconst 3, 1) := by decide +kernel
theorem dX9_digest_96 : decode cX9_digest 96 = .ok (.if_icmp .ge 39, 3) := by decide +kernel
theorem dX9_digest_99 : decode cX9_digest 99 = .ok (.aload_n 0, 1) := by decide +kernel
theorem dX9_digest_100 : decode cX9_digest 100 = .ok (.getfield 26, 3) := by decide +kernel
theorem dX9_digest_103 : decode cX9_digest 103 = .ok (.iconst 3, 1) := by decide +kernel
theorem dX9_digest_104 : decode cX9_digest 104 = .ok (.iload_n 3, 1) := by decide +kernel
theorem dX9_digest_105 : decode cX9_digest 105 = .ok (.imul, 1) := by decide +kernel
theorem dX9_digest_106 : decode cX9_digest 106 = .ok (.iaload, 1) := by decide +kernel
theorem dX9_digest_107 : decode cX9_digest 107 = .ok (.ifCond .le 28, 3) := by decide +kernel
theorem dX9_digest_110 : decode cX9_digest 110 = .ok (.ldc2_w 313, 3) := by decide +kernel
theorem dX9_digest_113 : decode cX9_digest 113 = .ok (.lload_n 1, 1) := by decide +kernel
theorem dX9_digest_114 : decode cX9_digest 114 = .ok (.lmul, 1) := by decide +kernel
theorem dX9_digest_115 : decode cX9_digest 115 = .ok (.aload_n 0, 1) := by decide +kernel
theorem dX9_digest_116 : decode cX9_digest 116 = .ok (.getfield 26, 3) := by decide +kernel
theorem dX9_digest_119 : decode cX9_digest 119 = .ok (.iconst 3, 1) := by decide +kernel
theorem dX9_digest_120 : decode cX9_digest 120 = .ok (.iload_n 3, 1) := by decide +kernel
theorem dX9_digest_121 : decode cX9_digest 121 = .ok (.imul, 1) := by decide +kernel
theorem dX9_digest_122 : decode cX9_digest 122 = .ok (.iload 4, 2) := by decide +kernel
theorem dX9_digest_124 : decode cX9_digest 124 = .ok (.iadd, 1) := by decide +kernel
theorem dX9_digest_125 : decode cX9_digest 125 = .ok (.iaload, 1) := by decide +kernel
theorem dX9_digest_126 : decode cX9_digest 126 = .ok (.i2l, 1) := by decide +kernel
theorem dX9_digest_127 : decode cX9_digest 127 = .ok (.ladd, 1) := by decide +kernel
theorem dX9_digest_128 : decode cX9_digest 128 = .ok (.lstore_n 1, 1) := by decide +kernel
theorem dX9_digest_129 : decode cX9_digest 129 = .ok (.iinc 4 1, 3) := by decide +kernel
theorem dX9_digest_132 : decode cX9_digest 132 = .ok (.goto (-39), 3) := by decide +kernel
theorem dX9_digest_135 : decode cX9_digest 135 = .ok (.iinc 3 1, 3) := by decide +kernel
theorem dX9_digest_138 : decode cX9_digest 138 = .ok (.goto (-72), 3) := by decide +kernel
theorem dX9_digest_141 : decode cX9_digest 141 = .ok (.iconst 0, 1) := by decide +kernel
theorem dX9_digest_142 : decode cX9_digest 142 = .ok (.istore_n 3, 1) := by decide +kernel
theorem dX9_digest_143 : decode cX9_digest 143 = .ok (.iload_n 3, 1) := by decide +kernel
theorem dX9_digest_144 : decode cX9_digest 144 = .ok (.iconst 4, 1) := by decide +kernel
theorem dX9_digest_145 : decode cX9_digest 145 = .ok (.if_icmp .ge 76, 3) := by decide +kernel
theorem dX9_digest_148 : decode cX9_digest 148 = .ok (.ldc2_w 313, 3) := by decide +kernel
theorem dX9_digest_151 : decode cX9_digest 151 = .ok (.lload_n 1, 1) := by decide +kernel
theorem dX9_digest_152 : decode cX9_digest 152 = .ok (.lmul, 1) := by decide +kernel
theorem dX9_digest_153 : decode cX9_digest 153 = .ok (.aload_n 0, 1) := by decide +kernel
theorem dX9_digest_154 : decode cX9_digest 154 = .ok (.getfield 104, 3) := by decide +kernel
theorem dX9_digest_157 : decode cX9_digest 157 = .ok (.iload_n 3, 1) := by decide +kernel
theorem dX9_digest_158 : decode cX9_digest 158 = .ok (.iaload, 1) := by decide +kernel
theorem dX9_digest_159 : decode cX9_digest 159 = .ok (.ifCond .ge 7, 3) := by decide +kernel
theorem dX9_digest_162 : decode cX9_digest 162 = .ok (.iconst (-1), 1) := by decide +kernel
theorem dX9_digest_163 : decode cX9_digest 163 = .ok (.goto 9, 3) := by decide +kernel
theorem dX9_digest_166 : decode cX9_digest 166 = .ok (.aload_n 0, 1) := by decide +kernel
theorem dX9_digest_167 : decode cX9_digest 167 = .ok (.getfield 104, 3) := by decide +kernel
theorem dX9_digest_170 : decode cX9_digest 170 = .ok (.iload_n 3, 1) := by decide +kernel
theorem dX9_digest_171 : decode cX9_digest 171 = .ok (.iaload, 1) := by decide +kernel
theorem dX9_digest_172 : decode cX9_digest 172 = .ok (.i2l, 1) := by decide +kernel
theorem dX9_digest_173 : decode cX9_digest 173 = .ok (.ladd, 1) := by decide +kernel
theorem dX9_digest_174 : decode cX9_digest 174 = .ok (.lstore_n 1, 1) := by decide +kernel
theorem dX9_digest_175 : decode cX9_digest 175 = .ok (.iconst 0, 1) := by decide +kernel
theorem dX9_digest_176 : decode cX9_digest 176 = .ok (.istore 4, 2) := by decide +kernel
theorem dX9_digest_178 : decode cX9_digest 178 = .ok (.iload 4, 2) := by decide +kernel
theorem dX9_digest_180 : decode cX9_digest 180 = .ok (.aload_n 0, 1) := by decide +kernel
theorem dX9_digest_181 : decode cX9_digest 181 = .ok (.getfield 104, 3) := by decide +kernel
theorem dX9_digest_184 : decode cX9_digest 184 = .ok (.iload_n 3, 1) := by decide +kernel
theorem dX9_digest_185 : decode cX9_digest 185 = .ok (.iaload, 1) := by decide +kernel
theorem dX9_digest_186 : decode cX9_digest 186 = .ok (.if_icmp .ge 29, 3) := by decide +kernel
theorem dX9_digest_189 : decode cX9_digest 189 = .ok (.ldc2_w 313, 3) := by decide +kernel
theorem dX9_digest_192 : decode cX9_digest 192 = .ok (.lload_n 1, 1) := by decide +kernel
theorem dX9_digest_193 : decode cX9_digest 193 = .ok (.lmul, 1) := by decide +kernel
theorem dX9_digest_194 : decode cX9_digest 194 = .ok (.aload_n 0, 1) := by decide +kernel
theorem dX9_digest_195 : decode cX9_digest 195 = .ok (.getfield 107, 3) := by decide +kernel
theorem dX9_digest_198 : decode cX9_digest 198 = .ok (.bipush 24, 2) := by decide +kernel
theorem dX9_digest_200 : decode cX9_digest 200 = .ok (.iload_n 3, 1) := by decide +kernel
theorem dX9_digest_201 : decode cX9_digest 201 = .ok (.imul, 1) := by decide +kernel
theorem dX9_digest_202 : decode cX9_digest 202 = .ok (.iload 4, 2) := by decide +kernel
theorem dX9_digest_204 : decode cX9_digest 204 = .ok (.iadd, 1) := by decide +kernel
theorem dX9_digest_205 : decode cX9_digest 205 = .ok (.iaload, 1) := by decide +kernel
theorem dX9_digest_206 : decode cX9_digest 206 = .ok (.i2l, 1) := by decide +kernel
theorem dX9_digest_207 : decode cX9_digest 207 = .ok (.ladd, 1) := by decide +kernel
theorem dX9_digest_208 : decode cX9_digest 208 = .ok (.lstore_n 1, 1) := by decide +kernel
theorem dX9_digest_209 : decode cX9_digest 209 = .ok (.iinc 4 1, 3) := by decide +kernel
theorem dX9_digest_212 : decode cX9_digest 212 = .ok (.goto (-34), 3) := by decide +kernel
theorem dX9_digest_215 : decode cX9_digest 215 = .ok (.iinc 3 1, 3) := by decide +kernel
theorem dX9_digest_218 : decode cX9_digest 218 = .ok (.goto (-75), 3) := by decide +kernel
theorem dX9_digest_221 : decode cX9_digest 221 = .ok (.lload_n 1, 1) := by decide +kernel
theorem dX9_digest_222 : decode cX9_digest 222 = .ok (.lreturn, 1) := by decide +kernel
