theorem dX12_isIn_1 : decode cX12_isIn 1 = .ok (.lload_n 2, 1) := by decide +kernel
theorem dX12_isIn_2 : decode cX12_isIn 2 = .ok (.lcmp, 1) := by decide +kernel
theorem dX12_isIn_3 : decode cX12_isIn 3 = .ok (.ifCond .lt 14, 3) := by decide +kernel
theorem dX12_isIn_6 : decode cX12_isIn 6 = .ok (.lload_n 0, 1) := by decide +kernel
theorem dX12_isIn_7 : decode cX12_isIn 7 = .ok (.lload 4, 2) := by decide +kernel
theorem dX12_isIn_9 : decode cX12_isIn 9 = .ok (.lcmp, 1) := by decide +kernel
theorem dX12_isIn_10 : decode cX12_isIn 10 = .ok (.ifCond .gt 7, 3) := by decide +kernel
theorem dX12_isIn_13 : decode cX12_isIn 13 = .ok (.iconst 1, 1) := by decide +kernel
theorem dX12_isIn_14 : decode cX12_isIn 14 = .ok (.goto 4, 3) := by decide +kernel
theorem dX12_isIn_17 : decode cX12_isIn 17 = .ok (.iconst 0, 1) := by decide +kernel
theorem dX12_isIn_18 : decode cX12_isIn 18 = .ok (.ireturn, 1) := by decide +kernel
theorem dX12_isSeen_0 : decode cX12_isSeen 0 = .ok (.iload_n 1, 1) := by decide +kernel
theorem dX12_isSeen_1 : decode cX12_isSeen 1 = .ok (.ifCond .lt 15, 3) := by decide +kernel
theorem dX12_isSeen_4 : decode cX12_isSeen 4 = .ok (.iload_n 1, 1) := by decide +kernel
theorem dX12_isSeen_5 : decode cX12_isSeen 5 = .ok (.aload_n 0, 1) := by decide +kernel
theorem dX12_isSeen_6 : decode cX12_isSeen 6 = .ok (.getfield 167, 3) := by decide +kernel
theorem dX12_isSeen_9 : decode cX12_isSeen 9 = .ok (.if_icmp .ge 7, 3) := by decide +kernel
theorem dX12_isSeen_12 : decode cX12_isSeen 12 = .ok (.iconst 1, 1) := by decide +kernel
theorem dX12_isSeen_13 : decode cX12_isSeen 13 = .ok (.goto 4, 3) := by decide +kernel
theorem dX12_isSeen_16 : decode cX12_isSeen 16 = .ok (.iconst 0, 1) := by decide +kernel
theorem dX12_isSeen_17 : decode cX12_isSeen 17 = .ok (.ireturn, 1) := by decide +kernel
theorem dX12_seen_0 : decode cX12_seen 0 = .ok (.iload_n 1, 1) := by decide +kernel
theorem dX12_seen_1 : decode cX12_seen 1 = .ok (.invokestatic 141, 3) := by decide +kernel
theorem dX12_seen_4 : decode cX12_seen 4 = .ok (.ifCond .ne 6, 3) := by decide +kernel
theorem dX12_seen_7 : decode cX12_seen 7 = .ok (.bipush (-2), 2) := by decide +kernel
theorem dX12_seen_9 : decode cX12_seen 9 = .ok (.ireturn, 1) := by decide +kernel
theorem dX12_seen_10 : decode cX12_seen 10 = .ok (.aload_n 0, 1) := by decide +kernel
theorem dX12_seen_11 : decode cX12_seen 11 = .ok (.getfield 13, 3) := by decide +kernel
theorem dX12_seen_14 : decode cX12_seen 14 = .ok (.iload_n 1, 1) := by decide +kernel
theorem dX12_seen_15 : decode cX12_seen 15 = .ok (.iaload, 1) := by decide +kernel
theorem dX12_seen_16 : decode cX12_seen 16 = .ok (.ifCond .ne 6, 3) := by decide +kernel
theorem dX12_seen_19 : decode cX12_seen 19 = .ok (.bipush (-5), 2) := by decide +kernel
theorem dX12_seen_21 : decode cX12_seen 21 = .ok (.ireturn, 1) := by decide +kernel
theorem dX12_seen_22 : decode cX12_seen 22 = .ok (.aload_n 0, 1) := by decide +kernel
theorem dX12_seen_23 : decode cX12_seen 23 = .ok (.getfield 13, 3) := by decide +kernel
theorem dX12_seen_26 : decode cX12_seen 26 = .ok (.iload_n 1, 1) := by decide +kernel
theorem dX12_seen_27 : decode cX12_seen 27 = .ok (.iaload, 1) := by decide +kernel
theorem dX12_seen_28 : decode cX12_seen 28 = .ok (.iconst 1, 1) := by decide +kernel
theorem dX12_seen_29 : decode cX12_seen 29 = .ok (.isub, 1) := by decide +kernel
theorem dX12_seen_30 : decode cX12_seen 30 = .ok (.istore_n 2, 1) := by decide +kernel
theorem dX12_seen_31 : decode cX12_seen 31 = .ok (.iconst 1, 1) := by decide +kernel
theorem dX12_seen_32 : decode cX12_seen 32 = .ok (.istore_n 3, 1) := by decide +kernel
theorem dX12_seen_33 : decode cX12_seen 33 = .ok (.iconst 0, 1) := by decide +kernel
theorem dX12_seen_34 : decode cX12_seen 34 = .ok (.istore 4, 2) := by decide +kernel
theorem dX12_seen_36 : decode cX12_seen 36 = .ok (.iload 4, 2) := by decide +kernel
theorem dX12_seen_38 : decode cX12_seen 38 = .ok (.iload_n 3, 1) := by decide +kernel
theorem dX12_seen_39 : decode cX12_seen 39 = .ok (.if_icmp .ge 223, 3) := by decide +kernel
theorem dX12_seen_42 : decode cX12_seen 42 = .ok (.iload 4, 2) := by decide +kernel
theorem dX12_seen_44 : decode cX12_seen 44 = .ok (.iload_n 2, 1) := by decide +kernel
theorem dX12_seen_45 : decode cX12_seen 45 = .ok (.if_icmp .lt 6, 3) := by decide +kernel
theorem dX12_seen_48 : decode cX12_seen 48 = .ok (.bipush (-6), 2) := by decide +kernel
theorem dX12_seen_50 : decode cX12_seen 50 = .ok (.ireturn, 1) := by decide +kernel
theorem dX12_seen_51 : decode cX12_seen 51 = .ok (.aload_n 0, 1) := by decide +kernel
theorem dX12_seen_52 : decode cX12_seen 52 = .ok (.getfield 20, 3) := by decide +kernel
theorem dX12_seen_55 : decode cX12_seen 55 = .ok (.bipush 60, 2) := by decide +kernel
theorem dX12_seen_57 : decode cX12_seen 57 = .ok (.iload_n 1, 1) := by decide +kernel
theorem dX12_seen_58 : decode cX12_seen 58 = .ok (.imul, 1) := by decide +kernel
theorem dX12_seen_59 : decode cX12_seen 59 = .ok (.iload 4, 2) := by decide +kernel
theorem dX12_seen_61 : decode cX12_seen 61 = .ok (.iadd, 1) := by decide +kernel
theorem dX12_seen_62 : decode cX12_seen 62 = .ok (.laload, 1) := by decide +kernel
theorem dX12_seen_63 : decode cX12_seen 63 = .ok (.lstore 5, 2) := by decide +kernel
theorem dX12_seen_65 : decode cX12_seen 65 = .ok (.iload 4, 2) := by decide +kernel
theorem dX12_seen_67 : decode cX12_seen 67 = .ok (.ifCond .ne 7, 3) := by decide +kernel
theorem dX12_seen_70 : decode cX12_seen 70 = .ok (.iconst 4, 1) := by decide +kernel
theorem dX12_seen_71 : decode cX12_seen 71 = .ok (.goto 9, 3) := by decide +kernel
theorem dX12_seen_74 : decode cX12_seen 74 = .ok (.iload 4, 2) := by decide +kernel
theorem dX12_seen_76 : decode cX12_seen 76 = .ok (.iconst 1, 1) := by decide +kernel
theorem dX12_seen_77 : decode cX12_seen 77 = .ok (.isub, 1) := by decide +kernel
theorem dX12_seen_78 : decode cX12_seen 78 = .ok (.iconst 4, 1) := by decide +kernel
theorem dX12_seen_79 : decode cX12_seen 79 = .ok (.irem, 1) := by decide +kernel
theorem dX12_seen_80 : decode cX12_seen 80 = .ok (.istore 7, 2) := by decide +kernel
theorem dX12_seen_82 : decode cX12_seen 82 = .ok (.iload 7, 2) := by decide +kernel
theorem dX12_seen_84 : decode cX12_seen 84 = .ok (.iconst 4, 1) := by decide +kernel
theorem dX12_seen_85 : decode cX12_seen 85 = .ok (.if_icmp .ne 15, 3) := by decide +kernel
theorem dX12_seen_88 : decode cX12_seen 88 = .ok (.lload 5, 2) := by decide +kernel
theorem dX12_seen_90 : decode cX12_seen 90 = .ok (.lconst 0, 1) := by decide +kernel
theorem dX12_seen_91 : decode cX12_seen 91 = .ok (.ldc2_w 170, 3) := by decide +kernel
theorem dX12_seen_94 : decode cX12_seen 94 = .ok (.invokestatic 172, 3) := by decide +kernel
theorem dX12_seen_97 : decode cX12_seen 97 = .ok (.goto 52, 3) := by decide +kernel
theorem dX12_seen_100 : decode cX12_seen 100 = .ok (.iload 7, 2) := by decide +kernel
theorem dX12_seen_102 : decode cX12_seen 102 = .ok (.iconst 2, 1) := by decide +kernel
theorem dX12_seen_103 : decode cX12_seen 103 = .ok (.if_icmp .ge 17, 3) := by decide +kernel
theorem dX12_seen_106 : decode cX12_seen 106 = .ok (.lload 5, 2) := by decide +kernel
theorem dX12_seen_108 : decode cX12_seen 108 = .ok (.ldc2_w 176, 3) := by decide +kernel
theorem dX12_seen_111 : decode cX12_seen 111 = .ok (.ldc2_w 178, 3) := by decide +kernel
theorem dX12_seen_114 : decode cX12_seen 114 = .ok (.invokestatic 172, 3) := by decide +kernel
theorem dX12_seen_117 : decode cX12_seen 117 = .ok (.goto 32, 3) := by decide +kernel
theorem dX12_seen_120 : decode cX12_seen 120 = .ok (.iload 7, 2) := by decide +kernel
theorem dX12_seen_122 : decode cX12_seen 122 = .ok (.iconst 2, 1) := by decide +kernel
theorem dX12_seen_123 : decode cX12_seen 123 = .ok (.if_icmp .ne 17, 3) := by decide +kernel
theorem dX12_seen_126 : decode cX12_seen 126 = .ok (.lload 5, 2) := by decide +kernel
theorem dX12_seen_128 : decode cX12_seen 128 = .ok (.ldc2_w 180, 3) := by decide +kernel
theorem dX12_seen_131 : decode cX12_seen 131 = .ok (.ldc2_w 182, 3) := by decide +kernel
theorem dX12_seen_134 : decode cX12_seen 134 = .ok (.invokestatic 172, 3) := by decide +kernel
theorem dX12_seen_137 : decode cX12_seen 137 = .ok (.goto 12, 3) := by decide +kernel
theorem dX12_seen_140 : decode cX12_seen 140 = .ok (.lload 5, 2) := by decide +kernel
theorem dX12_seen_142 : decode cX12_seen 142 = .ok (.lconst 0, 1) := by decide +kernel
theorem dX12_seen_143 : decode cX12_seen 143 = .ok (.ldc2_w 184, 3) := by decide +kernel
theorem dX12_seen_146 : decode cX12_seen 146 = .ok (.invokestatic 172, 3) := by decide +kernel
theorem dX12_seen_149 : decode cX12_seen 149 = .ok (.istore 8, 2) := by decide +kernel
theorem dX12_seen_151 : decode cX12_seen 151 = .ok (.iconst 1, 1) := by decide +kernel
theorem dX12_seen_152 : decode cX12_seen 152 = .ok (.istore 9, 2) := by decide +kernel
theorem dX12_seen_154 : decode cX12_seen 154 = .ok (.iload 8, 2) := by decide +kernel
theorem dX12_seen_156 : decode cX12_seen 156 = .ok (.ifCond .eq 66, 3) := by decide +kernel
theorem dX12_seen_159 : decode cX12_seen 159 = .ok (.iload 7, 2) := by decide +kernel
theorem dX12_seen_161 : decode cX12_seen 161 = .ok (.iconst 1, 1) := by decide +kernel
theorem dX12_seen_162 : decode cX12_seen 162 = .ok (.if_icmp .ne 60, 3) := by decide +kernel
theorem dX12_seen_165 : decode cX12_seen 165 = .ok (.iload 9, 2) := by decide +kernel
theorem dX12_seen_167 : decode cX12_seen 167 = .ok (.iload 4, 2) := by decide +kernel
theorem dX12_seen_169 : decode cX12_seen 169 = .ok (.iconst 1, 1) := by decide +kernel
theorem dX12_seen_170 : decode cX12_seen 170 = .ok (.isub, 1) := by decide +kernel
theorem dX12_seen_171 : decode cX12_seen 171 = .ok (.if_icmp .ge 51, 3) := by decide +kernel
theorem dX12_seen_174 : decode cX12_seen 174 = .ok (.aload_n 0, 1) := by decide +kernel
theorem dX12_seen_175 : decode cX12_seen 175 = .ok (.getfield 57, 3) := by decide +kernel
theorem dX12_seen_178 : decode cX12_seen 178 = .ok (.iload 9, 2) := by decide +kernel
theorem dX12_seen_180 : decode cX12_seen 180 = .ok (.iaload, 1) := by decide +kernel
theorem dX12_seen_181 : decode cX12_seen 181 = .ok (.aload_n 0, 1) := by decide +kernel
theorem dX12_seen_182 : decode cX12_seen 182 = .ok (.getfield 57, 3) := by decide +kernel
theorem dX12_seen_185 : decode cX12_seen 185 = .ok (.iload 4, 2) := by decide +kernel
theorem dX12_seen_187 : decode cX12_seen 187 = .ok (.iconst 1, 1) := by decide +kernel
theorem dX12_seen_188 : decode cX12_seen 188 = .ok (.isub, 1) := by decide +kernel
theorem dX12_seen_189 : decode cX12_seen 189 = .ok (.iaload, 1) := by decide +kernel
theorem dX12_seen_190 : decode cX12_seen 190 = .ok (.if_icmp .ne 19, 3) := by decide +kernel
theorem dX12_seen_193 : decode cX12_seen 193 = .ok (.aload_n 0, 1) := by decide +kernel
theorem dX12_seen_194 : decode cX12_seen 194 = .ok (.getfield 57, 3) := by decide +kernel
theorem dX12_seen_197 : decode cX12_seen 197 = .ok (.iload 9, 2) := by decide +kernel
theorem dX12_seen_199 : decode cX12_seen 199 = .ok (.iconst 1, 1) := by decide +kernel
theorem dX12_seen_200 : decode cX12_seen 200 = .ok (.iadd, 1) := by decide +kernel
theorem dX12_seen_201 : decode cX12_seen 201 = .ok (.iaload, 1) := by decide +kernel
theorem dX12_seen_202 : decode cX12_seen 202 = .ok (.i2l, 1) := by decide +kernel
theorem dX12_seen_203 : decode cX12_seen 203 = .ok (.lload 5, 2) := by decide +kernel
theorem dX12_seen_205 : decode cX12_seen 205 = .ok (.lcmp, 1) := by decide +kernel
theorem dX12_seen_206 : decode cX12_seen 206 = .ok (.ifCond .eq 7, 3) := by decide +kernel
theorem dX12_seen_209 : decode cX12_seen 209 = .ok (.iconst 1, 1) := by decide +kernel
theorem dX12_seen_210 : decode cX12_seen 210 = .ok (.goto 4, 3) := by decide +kernel
theorem dX12_seen_213 : decode cX12_seen 213 = .ok (.iconst 0, 1) := by decide +kernel
theorem dX12_seen_214 : decode cX12_seen 214 = .ok (.istore 8, 2) := by decide +kernel
theorem dX12_seen_216 : decode cX12_seen 216 = .ok (.iinc 9 4, 3) := by decide +kernel
theorem dX12_seen_219 : decode cX12_seen 219 = .ok (.goto (-65), 3) := by decide +kernel
theorem dX12_seen_222 : decode cX12_seen 222 = .ok (.iload 8, 2) := by decide +kernel
theorem dX12_seen_224 : decode cX12_seen 224 = .ok (.ifCond .ne 6, 3) := by decide +kernel
theorem dX12_seen_227 : decode cX12_seen 227 = .ok (.bipush (-4), 2) := by decide +kernel
theorem dX12_seen_229 : decode cX12_seen 229 = .ok (.ireturn, 1) := by decide +kernel
theorem dX12_seen_230 : decode cX12_seen 230 = .ok (.aload_n 0, 1) := by decide +kernel
theorem dX12_seen_231 : decode cX12_seen 231 = .ok (.getfield 57, 3) := by decide +kernel
theorem dX12_seen_234 : decode cX12_seen 234 = .ok (.iload 4, 2) := by decide +kernel
theorem dX12_seen_236 : decode cX12_seen 236 = .ok (.lload 5, 2) := by decide +kernel
theorem dX12_seen_238 : decode cX12_seen 238 = .ok (.l2i, 1) := by decide +kernel
theorem dX12_seen_239 : decode cX12_seen 239 = .ok (.iastore, 1) := by decide +kernel
theorem dX12_seen_240 : decode cX12_seen 240 = .ok (.iload 4, 2) := by decide +kernel
theorem dX12_seen_242 : decode cX12_seen 242 = .ok (.ifCond .ne 14, 3) := by decide +kernel
theorem dX12_seen_245 : decode cX12_seen 245 = .ok (.iconst 1, 1) := by decide +kernel
theorem dX12_seen_246 : decode cX12_seen 246 = .ok (.iconst 4, 1) := by decide +kernel
theorem dX12_seen_247 : decode cX12_seen 247 = .ok (.aload_n 0, 1) := by decide +kernel
theorem dX12_seen_248 : decode cX12_seen 248 = .ok (.getfield 57, 3) := by decide +kernel
theorem dX12_seen_251 : decode cX12_seen 251 = .ok (.iconst 0, 1) := by decide +kernel
theorem dX12_seen_252 : decode cX12_seen 252 = .ok (.iaload, 1) := by decide +kernel
theorem dX12_seen_253 : decode cX12_seen 253 = .ok (.imul, 1) := by decide +kernel
theorem dX12_seen_254 : decode cX12_seen 254 = .ok (.iadd, 1) := by decide +kernel
theorem dX12_seen_255 : decode cX12_seen 255 = .ok (.istore_n 3, 1) := by decide +kernel
theorem dX12_seen_256 : decode cX12_seen 256 = .ok (.iinc 4 1, 3) := by decide +kernel
theorem dX12_seen_259 : decode cX12_seen 259 = .ok (.goto (-223), 3) := by decide +kernel
theorem dX12_seen_262 : decode cX12_seen 262 = .ok (.aload_n 0, 1) := by decide +kernel
theorem dX12_seen_263 : decode cX12_seen 263 = .ok (.aload_n 0, 1) := by decide +kernel
theorem dX12_seen_264 : decode cX12_seen 264 = .ok (.getfield 57, 3) := by decide +kernel
theorem dX12_seen_267 : decode cX12_seen 267 = .ok (.iconst 0, 1) := by decide +kernel
theorem dX12_seen_268 : decode cX12_seen 268 = .ok (.iaload, 1) := by decide +kernel
theorem dX12_seen_269 : decode cX12_seen 269 = .ok (.putfield 167, 3) := by decide +kernel
theorem dX12_seen_272 : decode cX12_seen 272 = .ok (.iconst 0, 1) := by decide +kernel
theorem dX12_seen_273 : decode cX12_seen 273 = .ok (.istore 4, 2) := by decide +kernel
theorem dX12_seen_275 : decode cX12_seen 275 = .ok (.iload 4, 2) := by decide +kernel
theorem dX12_seen_277 : decode cX12_seen 277 = .ok (.aload_n 0, 1) := by decide +kernel
theorem dX12_seen_278 : decode cX12_seen 278 = .ok (.getfield 167, 3) := by decide +kernel
theorem dX12_seen_281 : decode cX12_seen 281 = .ok (.if_icmp .ge 81, 3) := by decide +kernel
theorem dX12_seen_284 : decode cX12_seen 284 = .ok (.aload_n 0, 1) := by decide +kernel
theorem dX12_seen_285 : decode cX12_seen 285 = .ok (.getfield 23, 3) := by decide +kernel
theorem dX12_seen_288 : decode cX12_seen 288 = .ok (.iload 4, 2) := by decide +kernel
theorem dX12_seen_290 : decode cX12_seen 290 = .ok (.aload_n 0, 1) := by decide +kernel
theorem dX12_seen_291 : decode cX12_seen 291 = .ok (.getfield 57, 3) := by decide +kernel
theorem dX12_seen_294 : decode cX12_seen 294 = .ok (.iconst 1, 1) := by decide +kernel
theorem dX12_seen_295 : decode cX12_seen 295 = .ok (.iconst 4, 1) := by decide +kernel
theorem dX12_seen_296 : decode cX12_seen 296 = .ok (.iload 4, 2) := by decide +kernel
theorem dX12_seen_298 : decode cX12_seen 298 = .ok (.imul, 1) := by decide +kernel
theorem dX12_seen_299 : decode cX12_seen 299 = .ok (.iadd, 1) := by decide +kernel
theorem dX12_seen_300 : decode cX12_seen 300 = .ok (.iaload, 1) := by decide +kernel
theorem dX12_seen_301 : decode cX12_seen 301 = .ok (.iastore, 1) := by decide +kernel
theorem dX12_seen_302 : decode cX12_seen 302 = .ok (.aload_n 0, 1) := by decide +kernel
theorem dX12_seen_303 : decode cX12_seen 303 = .ok (.getfield 26, 3) := by decide +kernel
theorem dX12_seen_306 : decode cX12_seen 306 = .ok (.iload 4, 2) := by decide +kernel
theorem dX12_seen_308 : decode cX12_seen 308 = .ok (.aload_n 0, 1) := by decide +kernel
theorem dX12_seen_309 : decode cX12_seen 309 = .ok (.getfield 57, 3) := by decide +kernel
theorem dX12_seen_312 : decode cX12_seen 312 = .ok (.iconst 2, 1) := by decide +kernel
theorem dX12_seen_313 : decode cX12_seen 313 = .ok (.iconst 4, 1) := by decide +kernel
theorem dX12_seen_314 : decode cX12_seen 314 = .ok (.iload 4, 2) := by decide +kernel
theorem dX12_seen_316 : decode cX12_seen 316 = .ok (.imul, 1) := by decide +kernel
theorem dX12_seen_317 : decode cX12_seen 317 = .ok (.iadd, 1) := by decide +kernel
theorem dX12_seen_318 : decode cX12_seen 318 = .ok (.iaload, 1) := by decide +kernel
theorem dX12_seen_319 : decode cX12_seen 319 = .ok (.iastore, 1) := by decide +kernel
theorem dX12_seen_320 : decode cX12_seen 320 = .ok (.aload_n 0, 1) := by decide +kernel
theorem dX12_seen_321 : decode cX12_seen 321 = .ok (.getfield 29, 3) := by decide +kernel
theorem dX12_seen_324 : decode cX12_seen 324 = .ok (.iload 4, 2) := by decide +kernel
theorem dX12_seen_326 : decode cX12_seen 326 = .ok (.aload_n 0, 1) := by decide +kernel
theorem dX12_seen_327 : decode cX12_seen 327 = .ok (.getfield 57, 3) := by decide +kernel
theorem dX12_seen_330 : decode cX12_seen 330 = .ok (.iconst 3, 1) := by decide +kernel
theorem dX12_seen_331 : decode cX12_seen 331 = .ok (.iconst 4, 1) := by decide +kernel
theorem dX12_seen_332 : decode cX12_seen 332 = .ok (.iload 4, 2) := by decide +kernel
theorem dX12_seen_334 : decode cX12_seen 334 = .ok (.imul, 1) := by decide +kernel
theorem dX12_seen_335 : decode cX12_seen 335 = .ok (.iadd, 1) := by decide +kernel
theorem dX12_seen_336 : decode cX12_seen 336 = .ok (.iaload, 1) := by decide +kernel
theorem dX12_seen_337 : decode cX12_seen 337 = .ok (.iastore, 1) := by decide +kernel
theorem dX12_seen_338 : decode cX12_seen 338 = .ok (.aload_n 0, 1) := by decide +kernel
theorem dX12_seen_339 : decode cX12_seen 339 = .ok (.getfield 32, 3) := by decide +kernel
theorem dX12_seen_342 : decode cX12_seen 342 = .ok (.iload 4, 2) := by decide +kernel
theorem dX12_seen_344 : decode cX12_seen 344 = .ok (.aload_n 0, 1) := by decide +kernel
theorem dX12_seen_345 : decode cX12_seen 345 = .ok (.getfield 57, 3) := by decide +kernel
theorem dX12_seen_348 : decode cX12_seen 348 = .ok (.iconst 4, 1) := by decide +kernel
theorem dX12_seen_349 : decode cX12_seen 349 = .ok (.iconst 4, 1) := by decide +kernel
theorem dX12_seen_350 : decode cX12_seen 350 = .ok (.iload 4, 2) := by decide +kernel
theorem dX12_seen_352 : decode cX12_seen 352 = .ok (.imul, 1) := by decide +kernel
theorem dX12_seen_353 : decode cX12_seen 353 = .ok (.iadd, 1) := by decide +kernel
theorem dX12_seen_354 : decode cX12_seen 354 = .ok (.iaload, 1) := by decide +kernel
theorem dX12_seen_355 : decode cX12_seen 355 = .ok (.iastore, 1) := by decide +kernel
theorem dX12_seen_356 : decode cX12_seen 356 = .ok (.iinc 4 1, 3) := by decide +kernel
theorem dX12_seen_359 : decode cX12_seen 359 = .ok (.goto (-84), 3) := by decide +kernel
theorem dX12_seen_362 : decode cX12_seen 362 = .ok (.aload_n 0, 1) := by decide +kernel
theorem dX12_seen_363 : decode cX12_seen 363 = .ok (.iconst 0, 1) := by decide +kernel
theorem dX12_seen_364 : decode cX12_seen 364 = .ok (.putfield 186, 3) := by decide +kernel
theorem dX12_seen_367 : decode cX12_seen 367 = .ok (.aload_n 0, 1) := by decide +kernel
theorem dX12_seen_368 : decode cX12_seen 368 = .ok (.getfield 167, 3) := by decide +kernel
theorem dX12_seen_371 : decode cX12_seen 371 = .ok (.ireturn, 1) := by decide +kernel
theorem dX12_see_0 : decode cX12_see 0 = .ok (.iload_n 1, 1) := by decide +kernel
theorem dX12_see_1 : decode cX12_see 1 = .ok (.i2l, 1) := by decide +kernel
theorem dX12_see_2 : decode cX12_see 2 = .ok (.ldc2_w 176, 3) := by decide +kernel
theorem dX12_see_5 : decode cX12_see 5 = .ok (.ldc2_w 178, 3) := by decide +kernel
theorem dX12_see_8 : decode cX12_see 8 = .ok (.invokestatic 172, 3) := by decide +kernel
theorem dX12_see_11 : decode cX12_see 11 = .ok (.ifCond .eq 44, 3) := by decide +kernel
theorem dX12_see_14 : decode cX12_see 14 = .ok (.iload_n 2, 1) := by decide +kernel
theorem dX12_see_15 : decode cX12_see 15 = .ok (.i2l, 1) := by decide +kernel
theorem dX12_see_16 : decode cX12_see 16 = .ok (.ldc2_w 176, 3) := by decide +kernel
theorem dX12_see_19 : decode cX12_see 19 = .ok (.ldc2_w 178, 3) := by decide +kernel
theorem dX12_see_22 : decode cX12_see 22 = .ok (.invokestatic 172, 3) := by decide +kernel
theorem dX12_see_25 : decode cX12_see 25 = .ok (.ifCond .eq 30, 3) := by decide +kernel
theorem dX12_see_28 : decode cX12_see 28 = .ok (.iload_n 3, 1) := by decide +kernel
theorem dX12_see_29 : decode cX12_see 29 = .ok (.i2l, 1) := by decide +kernel
theorem dX12_see_30 : decode cX12_see 30 = .ok (.ldc2_w 180, 3) := by decide +kernel
theorem dX12_see_33 : decode cX12_see 33 = .ok (.ldc2_w 182, 3) := by decide +kernel
theorem dX12_see_36 : decode cX12_see 36 = .ok (.invokestatic 172, 3) := by decide +kernel
theorem dX12_see_39 : decode cX12_see 39 = .ok (.ifCond .eq 16, 3) := by decide +kernel
theorem dX12_see_42 : decode cX12_see 42 = .ok (.iload 4, 2) := by decide +kernel
theorem dX12_see_44 : decode cX12_see 44 = .ok (.i2l, 1) := by decide +kernel
theorem dX12_see_45 : decode cX12_see 45 = .ok (.lconst 0, 1) := by decide +kernel
theorem dX12_see_46 : decode cX12_see 46 = .ok (.ldc2_w 184, 3) := by decide +kernel
theorem dX12_see_49 : decode cX12_see 49 = .ok (.invokestatic 172, 3) := by decide +kernel
theorem dX12_see_52 : decode cX12_see 52 = .ok (.ifCond .ne 6, 3) := by decide +kernel
theorem dX12_see_55 : decode cX12_see 55 = .ok (.bipush (-4), 2) := by decide +kernel
theorem dX12_see_57 : decode cX12_see 57 = .ok (.ireturn, 1) := by decide +kernel
theorem dX12_see_58 : decode cX12_see 58 = .ok (.aload_n 0, 1) := by decide +kernel
theorem dX12_see_59 : decode cX12_see 59 = .ok (.getfield 167, 3) := by decide +kernel
theorem dX12_see_62 : decode cX12_see 62 = .ok (.bipush 8, 2) := by decide +kernel
theorem dX12_see_64 : decode cX12_see 64 = .ok (.if_icmp .ne 6, 3) := by decide +kernel
theorem dX12_see_67 : decode cX12_see 67 = .ok (.bipush (-8), 2) := by decide +kernel
theorem dX12_see_69 : decode cX12_see 69 = .ok (.ireturn, 1) := by decide +kernel
theorem dX12_see_70 : decode cX12_see 70 = .ok (.iconst 0, 1) := by decide +kernel
theorem dX12_see_71 : decode cX12_see 71 = .ok (.istore 5, 2) := by decide +kernel
theorem dX12_see_73 : decode cX12_see 73 = .ok (.iload 5, 2) := by decide +kernel
theorem dX12_see_75 : decode cX12_see 75 = .ok (.aload_n 0, 1) := by decide +kernel
theorem dX12_see_76 : decode cX12_see 76 = .ok (.getfield 167, 3) := by decide +kernel
theorem dX12_see_79 : decode cX12_see 79 = .ok (.if_icmp .ge 34, 3) := by decide +kernel
theorem dX12_see_82 : decode cX12_see 82 = .ok (.aload_n 0, 1) := by decide +kernel
theorem dX12_see_83 : decode cX12_see 83 = .ok (.getfield 23, 3) := by decide +kernel
theorem dX12_see_86 : decode cX12_see 86 = .ok (.iload 5, 2) := by decide +kernel
theorem dX12_see_88 : decode cX12_see 88 = .ok (.iaload, 1) := by decide +kernel
theorem dX12_see_89 : decode cX12_see 89 = .ok (.iload_n 1, 1) := by decide +kernel
theorem dX12_see_90 : decode cX12_see 90 = .ok (.if_icmp .ne 17, 3) := by decide +kernel
theorem dX12_see_93 : decode cX12_see 93 = .ok (.aload_n 0, 1) := by decide +kernel
theorem dX12_see_94 : decode cX12_see 94 = .ok (.getfield 26, 3) := by decide +kernel
theorem dX12_see_97 : decode cX12_see 97 = .ok (.iload 5, 2) := by decide +kernel
theorem dX12_see_99 : decode cX12_see 99 = .ok (.iaload, 1) := by decide +kernel
theorem dX12_see_100 : decode cX12_see 100 = .ok (.iload_n 2, 1) := by decide +kernel
theorem dX12_see_101 : decode cX12_see 101 = .ok (.if_icmp .ne 6, 3) := by decide +kernel
theorem dX12_see_104 : decode cX12_see 104 = .ok (.bipush (-9), 2) := by decide +kernel
theorem dX12_see_106 : decode cX12_see 106 = .ok (.ireturn, 1) := by decide +kernel
theorem dX12_see_107 : decode cX12_see 107 = .ok (.iinc 5 1, 3) := by decide +kernel
theorem dX12_see_110 : decode cX12_see 110 = .ok (.goto (-37), 3) := by decide +kernel
theorem dX12_see_113 : decode cX12_see 113 = .ok (.aload_n 0, 1) := by decide +kernel
theorem dX12_see_114 : decode cX12_see 114 = .ok (.getfield 23, 3) := by decide +kernel
theorem dX12_see_117 : decode cX12_see 117 = .ok (.aload_n 0, 1) := by decide +kernel
theorem dX12_see_118 : decode cX12_see 118 = .ok (.getfield 167, 3) := by decide +kernel
theorem dX12_see_121 : decode cX12_see 121 = .ok (.iload_n 1, 1) := by decide +kernel
theorem dX12_see_122 : decode cX12_see 122 = .ok (.iastore, 1) := by decide +kernel
theorem dX12_see_123 : decode cX12_see 123 = .ok (.aload_n 0, 1) := by decide +kernel
theorem dX12_see_124 : decode cX12_see 124 = .ok (.getfield 26, 3) := by decide +kernel
theorem dX12_see_127 : decode cX12_see 127 = .ok (.aload_n 0, 1) := by decide +kernel
theorem dX12_see_128 : decode cX12_see 128 = .ok (.getfield 167, 3) := by decide +kernel
theorem dX12_see_131 : decode cX12_see 131 = .ok (.iload_n 2, 1) := by decide +kernel
theorem dX12_see_132 : decode cX12_see 132 = .ok (.iastore, 1) := by decide +kernel
theorem dX12_see_133 : decode cX12_see 133 = .ok (.aload_n 0, 1) := by decide +kernel
theorem dX12_see_134 : decode cX12_see 134 = .ok (.getfield 29, 3) := by decide +kernel
theorem dX12_see_137 : decode cX12_see 137 = .ok (.aload_n 0, 1) := by decide +kernel
theorem dX12_see_138 : decode cX12_see 138 = .ok (.getfield 167, 3) := by decide +kernel
theorem dX12_see_141 : decode cX12_see 141 = .ok (.iload_n 3, 1) := by decide +kernel
theorem dX12_see_142 : decode cX12_see 142 = .ok (.iastore, 1) := by decide +kernel
theorem dX12_see_143 : decode cX12_see 143 = .ok (.aload_n 0, 1) := by decide +kernel
theorem dX12_see_144 : decode cX12_see 144 = .ok (.getfield 32, 3) := by decide +kernel
theorem dX12_see_147 : decode cX12_see 147 = .ok (.aload_n 0, 1) := by decide +kernel
theorem dX12_see_148 : decode cX12_see 148 = .ok (.getfield 167, 3) := by decide +kernel
theorem dX12_see_151 : decode cX12_see 151 = .ok (.iload 4, 2) := by decide +kernel
theorem dX12_see_153 : decode cX12_see 153 = .ok (.iastore, 1) := by decide +kernel
theorem dX12_see_154 : decode cX12_see 154 = .ok (.aload_n 0, 1) := by decide +kernel
theorem dX12_see_155 : decode cX12_see 155 = .ok (.dup, 1) := by decide +kernel
theorem dX12_see_156 : decode cX12_see 156 = .ok (.getfield 167, 3) := by decide +kernel
theorem dX12_see_159 : decode cX12_see 159 = .ok (.iconst 1, 1) := by decide +kernel
theorem dX12_see_160 : decode cX12_see 160 = .ok (.iadd, 1) := by decide +kernel
theorem dX12_see_161 : decode cX12_see 161 = .ok (.putfield 167, 3) := by decide +kernel
theorem dX12_see_164 : decode cX12_see 164 = .ok (.aload_n 0, 1) := by decide +kernel
theorem dX12_see_165 : decode cX12_see 165 = .ok (.iconst 0, 1) := by decide +kernel
theorem dX12_see_166 : decode cX12_see 166 = .ok (.putfield 186, 3) := by decide +kernel
theorem dX12_see_169 : decode cX12_see 169 = .ok (.aload_n 0, 1) := by decide +kernel
theorem dX12_see_170 : decode cX12_see 170 = .ok (.getfield 167, 3) := by decide +kernel
theorem dX12_see_173 : decode cX12_see 173 = .ok (.iconst 1, 1) := by decide +kernel
theorem dX12_see_174 : decode cX12_see 174 = .ok (.isub, 1) := by decide +kernel
theorem dX12_see_175 : decode cX12_see 175 = .ok (.ireturn, 1) := by decide +kernel
theorem dX12_drop_0 : decode cX12_drop 0 = .ok (.aload_n 0, 1) := by decide +kernel
theorem dX12_drop_1 : decode cX12_drop 1 = .ok (.iload_n 1, 1) := by decide +kernel
theorem dX12_drop_2 : decode cX12_drop 2 = .ok (.invokevirtual 190, 3) := by decide +kernel
theorem dX12_drop_5 : decode cX12_drop 5 = .ok (.ifCond .ne 6, 3) := by decide +kernel
theorem dX12_drop_8 : decode cX12_drop 8 = .ok (.bipush (-2), 2) := by decide +kernel
theorem dX12_drop_10 : decode cX12_drop 10 = .ok (.ireturn, 1) := by decide +kernel
theorem dX12_drop_11 : decode cX12_drop 11 = .ok (.aload_n 0, 1) := by decide +kernel
theorem dX12_drop_12 : decode cX12_drop 12 = .ok (.dup, 1) := by decide +kernel
theorem dX12_drop_13 : decode cX12_drop 13 = .ok (.getfield 167, 3) := by decide +kernel
theorem dX12_drop_16 : decode cX12_drop 16 = .ok (.iconst 1, 1) := by decide +kernel
theorem dX12_drop_17 : decode cX12_drop 17 = .ok (.isub, 1) := by decide +kernel
theorem dX12_drop_18 : decode cX12_drop 18 = .ok (.putfield 167, 3) := by decide +kernel
theorem dX12_drop_21 : decode cX12_drop 21 = .ok (.iload_n 1, 1) := by decide +kernel
theorem dX12_drop_22 : decode cX12_drop 22 = .ok (.istore_n 2, 1) := by decide +kernel
theorem dX12_drop_23 : decode cX12_drop 23 = .ok (.iload_n 2, 1) := by decide +kernel
theorem dX12_drop_24 : decode cX12_drop 24 = .ok (.aload_n 0, 1) := by decide +kernel
theorem dX12_drop_25 : decode cX12_drop 25 = .ok (.getfield 167, 3) := by decide +kernel
theorem dX12_drop_28 : decode cX12_drop 28 = .ok (.if_icmp .ge 65, 3) := by decide +kernel
theorem dX12_drop_31 : decode cX12_drop 31 = .ok (.aload_n 0, 1) := by decide +kernel
theorem dX12_drop_32 : decode cX12_drop 32 = .ok (.getfield 23, 3) := by decide +kernel
theorem dX12_drop_35 : decode cX12_drop 35 = .ok (.iload_n 2, 1) := by decide +kernel
theorem dX12_drop_36 : decode cX12_drop 36 = .ok (.aload_n 0, 1) := by decide +kernel
theorem dX12_drop_37 : decode cX12_drop 37 = .ok (.getfield 23, 3) := by decide +kernel
theorem dX12_drop_40 : decode cX12_drop 40 = .ok (.iload_n 2, 1) := by decide +kernel
theorem dX12_drop_41 : decode cX12_drop 41 = .ok (.iconst 1, 1) := by decide +kernel
theorem dX12_drop_42 : decode cX12_drop 42 = .ok (.iadd, 1) := by decide +kernel
theorem dX12_drop_43 : decode cX12_drop 43 = .ok (.iaload, 1) := by decide +kernel
theorem dX12_drop_44 : decode cX12_drop 44 = .ok (.iastore, 1) := by decide +kernel
theorem dX12_drop_45 : decode cX12_drop 45 = .ok (.aload_n 0, 1) := by decide +kernel
theorem dX12_drop_46 : decode cX12_drop 46 = .ok (.getfield 26, 3) := by decide +kernel
theorem dX12_drop_49 : decode cX12_drop 49 = .ok (.iload_n 2, 1) := by decide +kernel
theorem dX12_drop_50 : decode cX12_drop 50 = .ok (.aload_n 0, 1) := by decide +kernel
theorem dX12_drop_51 : decode cX12_drop 51 = .ok (.getfield 26, 3) := by decide +kernel
theorem dX12_drop_54 : decode cX12_drop 54 = .ok (.iload_n 2, 1) := by decide +kernel
theorem dX12_drop_55 : decode cX12_drop 55 = .ok (.iconst 1, 1) := by decide +kernel
theorem dX12_drop_56 : decode cX12_drop 56 = .ok (.iadd, 1) := by decide +kernel
theorem dX12_drop_57 : decode cX12_drop 57 = .ok (.iaload, 1) := by decide +kernel
theorem dX12_drop_58 : decode cX12_drop 58 = .ok (.iastore, 1) := by decide +kernel
theorem dX12_drop_59 : decode cX12_drop 59 = .ok (.aload_n 0, 1) := by decide +kernel
theorem dX12_drop_60 : decode cX12_drop 60 = .ok (.getfield 29, 3) := by decide +kernel
theorem dX12_drop_63 : decode cX12_drop 63 = .ok (.iload_n 2, 1) := by decide +kernel
theorem dX12_drop_64 : decode cX12_drop 64 = .ok (.aload_n 0, 1) := by decide +kernel
theorem dX12_drop_65 : decode cX12_drop 65 = .ok (.getfield 29, 3) := by decide +kernel
theorem dX12_drop_68 : decode cX12_drop 68 = .ok (.iload_n 2, 1) := by decide +kernel
theorem dX12_drop_69 : decode cX12_drop 69 = .ok (.iconst 1, 1) := by decide +kernel
theorem dX12_drop_70 : decode cX12_drop 70 = .ok (.iadd, 1) := by decide +kernel
theorem dX12_drop_71 : decode cX12_drop 71 = .ok (.iaload, 1) := by decide +kernel
theorem dX12_drop_72 : decode cX12_drop 72 = .ok (.iastore, 1) := by decide +kernel
theorem dX12_drop_73 : decode cX12_drop 73 = .ok (.aload_n 0, 1) := by decide +kernel
theorem dX12_drop_74 : decode cX12_drop 74 = .ok (.getfield 32, 3) := by decide +kernel
theorem dX12_drop_77 : decode cX12_drop 77 = .ok (.iload_n 2, 1) := by decide +kernel
theorem dX12_drop_78 : decode cX12_drop 78 = .ok (.aload_n 0, 1) := by decide +kernel
theorem dX12_drop_79 : decode cX12_drop 79 = .ok (.getfield 32, 3) := by decide +kernel
theorem dX12_drop_82 : decode cX12_drop 82 = .ok (.iload_n 2, 1) := by decide +kernel
theorem dX12_drop_83 : decode cX12_drop 83 = .ok (.iconst 1, 1) := by decide +kernel
theorem dX12_drop_84 : decode cX12_drop 84 = .ok (.iadd, 1) := by decide +kernel
theorem dX12_drop_85 : decode cX12_drop 85 = .ok (.iaload, 1) := by decide +kernel
theorem dX12_drop_86 : decode cX12_drop 86 = .ok (.iastore, 1) := by decide +kernel
theorem dX12_drop_87 : decode cX12_drop 87 = .ok (.iinc 2 1, 3) := by decide +kernel
theorem dX12_drop_90 : decode cX12_drop 90 = .ok (.goto (-67), 3) := by decide +kernel
theorem dX12_drop_93 : decode cX12_drop 93 = .ok (.aload_n 0, 1) := by decide +kernel
theorem dX12_drop_94 : decode cX12_drop 94 = .ok (.iconst 0, 1) := by decide +kernel
theorem dX12_drop_95 : decode cX12_drop 95 = .ok (.putfield 186, 3) := by decide +kernel
theorem dX12_drop_98 : decode cX12_drop 98 = .ok (.aload_n 0, 1) := by decide +kernel
theorem dX12_drop_99 : decode cX12_drop 99 = .ok (.getfield 167, 3) := by decide +kernel
theorem dX12_drop_102 : decode cX12_drop 102 = .ok (.ireturn, 1) := by decide +kernel
theorem dX12_isLaw_0 : decode cX12_isLaw 0 = .ok (.iload_n 1, 1) := by decide +kernel
theorem dX12_isLaw_1 : decode cX12_isLaw 1 = .ok (.ifCond .lt 15, 3) := by decide +kernel
theorem dX12_isLaw_4 : decode cX12_isLaw 4 = .ok (.iload_n 1, 1) := by decide +kernel
theorem dX12_isLaw_5 : decode cX12_isLaw 5 = .ok (.aload_n 0, 1) := by decide +kernel
theorem dX12_isLaw_6 : decode cX12_isLaw 6 = .ok (.getfield 193, 3) := by decide +kernel
theorem dX12_isLaw_9 : decode cX12_isLaw 9 = .ok (.if_icmp .ge 7, 3) := by decide +kernel
theorem dX12_isLaw_12 : decode cX12_isLaw 12 = .ok (.iconst 1, 1) := by decide +kernel
theorem dX12_isLaw_13 : decode cX12_isLaw 13 = .ok (.goto 4, 3) := by decide +kernel
theorem dX12_isLaw_16 : decode cX12_isLaw 16 = .ok (.iconst 0, 1) := by decide +kernel
theorem dX12_isLaw_17 : decode cX12_isLaw 17 = .ok (.ireturn, 1) := by decide +kernel
theorem dX12_straight_0 : decode cX12_straight 0 = .ok (.iload_n 1, 1) := by decide +kernel
theorem dX12_straight_1 : decode cX12_straight 1 = .ok (.iconst 1, 1) := by decide +kernel
theorem dX12_straight_2 : decode cX12_straight 2 = .ok (.if_icmp .lt 9, 3) := by decide +kernel
theorem dX12_straight_5 : decode cX12_straight 5 = .ok (.iload_n 1, 1) := by decide +kernel
theorem dX12_straight_6 : decode cX12_straight 6 = .ok (.bipush 100, 2) := by decide +kernel
theorem dX12_straight_8 : decode cX12_straight 8 = .ok (.if_icmp .le 6, 3) := by decide +kernel
theorem dX12_straight_11 : decode cX12_straight 11 = .ok (.bipush (-4), 2) := by decide +kernel
theorem dX12_straight_13 : decode cX12_straight 13 = .ok (.ireturn, 1) := by decide +kernel
theorem dX12_straight_14 : decode cX12_straight 14 = .ok (.aload_n 0, 1) := by decide +kernel
theorem dX12_straight_15 : decode cX12_straight 15 = .ok (.getfield 193, 3) := by decide +kernel
theorem dX12_straight_18 : decode cX12_straight 18 = .ok (.bipush 6, 2) := by decide +kernel
theorem dX12_straight_20 : decode cX12_straight 20 = .ok (.if_icmp .ne 6, 3) := by decide +kernel
theorem dX12_straight_23 : decode cX12_straight 23 = .ok (.bipush (-8), 2) := by decide +kernel
theorem dX12_straight_25 : decode cX12_straight 25 = .ok (.ireturn, 1) := by decide +kernel
theorem dX12_straight_26 : decode cX12_straight 26 = .ok (.iconst 0, 1) := by decide +kernel
theorem dX12_straight_27 : decode cX12_straight 27 = .ok (.istore_n 2, 1) := by decide +kernel
theorem dX12_straight_28 : decode cX12_straight 28 = .ok (.iload_n 2, 1) := by decide +kernel
theorem dX12_straight_29 : decode cX12_straight 29 = .ok (.bipush 80, 2) := by decide +kernel
theorem dX12_straight_31 : decode cX12_straight 31 = .ok (.if_icmp .gt 26, 3) := by decide +kernel
theorem dX12_straight_34 : decode cX12_straight 34 = .ok (.aload_n 0, 1) := by decide +kernel
theorem dX12_straight_35 : decode cX12_straight 35 = .ok (.getfield 35, 3) := by decide +kernel
theorem dX12_straight_38 : decode cX12_straight 38 = .ok (.bipush 81, 2) := by decide +kernel
theorem dX12_straight_40 : decode cX12_straight 40 = .ok (.aload_n 0, 1) := by decide +kernel
theorem dX12_straight_41 : decode cX12_straight 41 = .ok (.getfield 193, 3) := by decide +kernel
theorem dX12_straight_44 : decode cX12_straight 44 = .ok (.imul, 1) := by decide +kernel
theorem dX12_straight_45 : decode cX12_straight 45 = .ok (.iload_n 2, 1) := by decide +kernel
theorem dX12_straight_46 : decode cX12_straight 46 = .ok (.iadd, 1) := by decide +kernel
theorem dX12_straight_47 : decode cX12_straight 47 = .ok (.iload_n 1, 1) := by decide +kernel
theorem dX12_straight_48 : decode cX12_straight 48 = .ok (.iload_n 2, 1) := by decide +kernel
theorem dX12_straight_49 : decode cX12_straight 49 = .ok (.imul, 1) := by decide +kernel
theorem dX12_straight_50 : decode cX12_straight 50 = .ok (.iastore, 1) := by decide +kernel
theorem dX12_straight_51 : decode cX12_straight 51 = .ok (.iinc 2 1, 3) := by decide +kernel
theorem dX12_straight_54 : decode cX12_straight 54 = .ok (.goto (-26), 3) := by decide +kernel
theorem dX12_straight_57 : decode cX12_straight 57 = .ok (.aload_n 0, 1) := by decide +kernel
theorem dX12_straight_58 : decode cX12_straight 58 = .ok (.dup, 1) := by decide +kernel
theorem dX12_straight_59 : decode cX12_straight 59 = .ok (.getfield 193, 3) := by decide +kernel
theorem dX12_straight_62 : decode cX12_straight 62 = .ok (.iconst 1, 1) := by decide +kernel
theorem dX12_straight_63 : decode cX12_straight 63 = .ok (.iadd, 1) := by decide +kernel
theorem dX12_straight_64 : decode cX12_straight 64 = .ok (.putfield 193, 3) := by decide +kernel
theorem dX12_straight_67 : decode cX12_straight 67 = .ok (.aload_n 0, 1) := by decide +kernel
theorem dX12_straight_68 : decode cX12_straight 68 = .ok (.getfield 193, 3) := by decide +kernel
theorem dX12_straight_71 : decode cX12_straight 71 = .ok (.iconst 1, 1) := by decide +kernel
theorem dX12_straight_72 : decode cX12_straight 72 = .ok (.isub, 1) := by decide +kernel
theorem dX12_straight_73 : decode cX12_straight 73 = .ok (.ireturn, 1) := by decide +kernel
theorem dX12_capped_0 : decode cX12_capped 0 = .ok (.iload_n 1, 1) := by decide +kernel
theorem dX12_capped_1 : decode cX12_capped 1 = .ok (.iconst 1, 1) := by decide +kernel
theorem dX12_capped_2 : decode cX12_capped 2 = .ok (.if_icmp .lt 21, 3) := by decide +kernel
theorem dX12_capped_5 : decode cX12_capped 5 = .ok (.iload_n 1, 1) := by decide +kernel
theorem dX12_capped_6 : decode cX12_capped 6 = .ok (.bipush 100, 2) := by decide +kernel
theorem dX12_capped_8 : decode cX12_capped 8 = .ok (.if_icmp .gt 15, 3) := by decide +kernel
theorem dX12_capped_11 : decode cX12_capped 11 = .ok (.iload_n 2, 1) := by decide +kernel
theorem dX12_capped_12 : decode cX12_capped 12 = .ok (.iconst 1, 1) := by decide +kernel
theorem dX12_capped_13 : decode cX12_capped 13 = .ok (.if_icmp .lt 10, 3) := by decide +kernel
theorem dX12_capped_16 : decode cX12_capped 16 = .ok (.iload_n 2, 1) := by decide +kernel
theorem dX12_capped_17 : decode cX12_capped 17 = .ok (.sipush 8000, 3) := by decide +kernel
theorem dX12_capped_20 : decode cX12_capped 20 = .ok (.if_icmp .le 6, 3) := by decide +kernel
theorem dX12_capped_23 : decode cX12_capped 23 = .ok (.bipush (-4), 2) := by decide +kernel
theorem dX12_capped_25 : decode cX12_capped 25 = .ok (.ireturn, 1) := by decide +kernel
theorem dX12_capped_26 : decode cX12_capped 26 = .ok (.aload_n 0, 1) := by decide +kernel
theorem dX12_capped_27 : decode cX12_capped 27 = .ok (.getfield 193, 3) := by decide +kernel
theorem dX12_capped_30 : decode cX12_capped 30 = .ok (.bipush 6, 2) := by decide +kernel
theorem dX12_capped_32 : decode cX12_capped 32 = .ok (.if_icmp .ne 6, 3) := by decide +kernel
theorem dX12_capped_35 : decode cX12_capped 35 = .ok (.bipush (-8), 2) := by decide +kernel
theorem dX12_capped_37 : decode cX12_capped 37 = .ok (.ireturn, 1) := by decide +kernel
theorem dX12_capped_38 : decode cX12_capped 38 = .ok (.iconst 0, 1) := by decide +kernel
theorem dX12_capped_39 : decode cX12_capped 39 = .ok (.istore_n 3, 1) := by decide +kernel
theorem dX12_capped_40 : decode cX12_capped 40 = .ok (.iload_n 3, 1) := by decide +kernel
theorem dX12_capped_41 : decode cX12_capped 41 = .ok (.bipush 80, 2) := by decide +kernel
theorem dX12_capped_43 : decode cX12_capped 43 = .ok (.if_icmp .gt 37, 3) := by decide +kernel
theorem dX12_capped_46 : decode cX12_capped 46 = .ok (.aload_n 0, 1) := by decide +kernel
theorem dX12_capped_47 : decode cX12_capped 47 = .ok (.getfield 35, 3) := by decide +kernel
theorem dX12_capped_50 : decode cX12_capped 50 = .ok (.bipush 81, 2) := by decide +kernel
theorem dX12_capped_52 : decode cX12_capped 52 = .ok (.aload_n 0, 1) := by decide +kernel
theorem dX12_capped_53 : decode cX12_capped 53 = .ok (.getfield 193, 3) := by decide +kernel
theorem dX12_capped_56 : decode cX12_capped 56 = .ok (.imul, 1) := by decide +kernel
theorem dX12_capped_57 : decode cX12_capped 57 = .ok (.iload_n 3, 1) := by decide +kernel
theorem dX12_capped_58 : decode cX12_capped 58 = .ok (.iadd, 1) := by decide +kernel
theorem dX12_capped_59 : decode cX12_capped 59 = .ok (.iload_n 1, 1) := by decide +kernel
theorem dX12_capped_60 : decode cX12_capped 60 = .ok (.iload_n 3, 1) := by decide +kernel
theorem dX12_capped_61 : decode cX12_capped 61 = .ok (.imul, 1) := by decide +kernel
theorem dX12_capped_62 : decode cX12_capped 62 = .ok (.iload_n 2, 1) := by decide +kernel
theorem dX12_capped_63 : decode cX12_capped 63 = .ok (.if_icmp .ge 9, 3) := by decide +kernel
theorem dX12_capped_66 : decode cX12_capped 66 = .ok (.iload_n 1, 1) := by decide +kernel
theorem dX12_capped_67 : decode cX12_capped 67 = .ok (.iload_n 3, 1) := by decide +kernel
theorem dX12_capped_68 : decode cX12_capped 68 = .ok (.imul, 1) := by decide +kernel
theorem dX12_capped_69 : decode cX12_capped 69 = .ok (.goto 4, 3) := by decide +kernel
theorem dX12_capped_72 : decode cX12_capped 72 = .ok (.iload_n 2, 1) := by decide +kernel
theorem dX12_capped_73 : decode cX12_capped 73 = .ok (.iastore, 1) := by decide +kernel
theorem dX12_capped_74 : decode cX12_capped 74 = .ok (.iinc 3 1, 3) := by decide +kernel
theorem dX12_capped_77 : decode cX12_capped 77 = .ok (.goto (-37), 3) := by decide +kernel
theorem dX12_capped_80 : decode cX12_capped 80 = .ok (.aload_n 0, 1) := by decide +kernel
theorem dX12_capped_81 : decode cX12_capped 81 = .ok (.dup, 1) := by decide +kernel
theorem dX12_capped_82 : decode cX12_capped 82 = .ok (.getfield 193, 3) := by decide +kernel
theorem dX12_capped_85 : decode cX12_capped 85 = .ok (.iconst 1, 1) := by decide +kernel
theorem dX12_capped_86 : decode cX12_capped 86 = .ok (.iadd, 1) := by decide +kernel
theorem dX12_capped_87 : decode cX12_capped 87 = .ok (.putfield 193, 3) := by decide +kernel
theorem dX12_capped_90 : decode cX12_capped 90 = .ok (.aload_n 0, 1) := by decide +kernel
theorem dX12_capped_91 : decode cX12_capped 91 = .ok (.getfield 193, 3) := by decide +kernel
theorem dX12_capped_94 : decode cX12_capped 94 = .ok (.iconst 1, 1) := by decide +kernel
theorem dX12_capped_95 : decode cX12_capped 95 = .ok (.isub, 1) := by decide +kernel
theorem dX12_capped_96 : decode cX12_capped 96 = .ok (.ireturn, 1) := by decide +kernel
theorem dX12_table_0 : decode cX12_table 0 = .ok (.iload_n 1, 1) := by decide +kernel
theorem dX12_table_1 : decode cX12_table 1 = .ok (.invokestatic 141, 3) := by decide +kernel
theorem dX12_table_4 : decode cX12_table 4 = .ok (.ifCond .ne 6, 3) := by decide +kernel
theorem dX12_table_7 : decode cX12_table 7 = .ok (.bipush (-2), 2) := by decide +kernel
theorem dX12_table_9 : decode cX12_table 9 = .ok (.ireturn, 1) := by decide +kernel
theorem dX12_table_10 : decode cX12_table 10 = .ok (.aload_n 0, 1) := by decide +kernel
theorem dX12_table_11 : decode cX12_table 11 = .ok (.getfield 193, 3) := by decide +kernel
theorem dX12_table_14 : decode cX12_table 14 = .ok (.bipush 6, 2) := by decide +kernel
theorem dX12_table_16 : decode cX12_table 16 = .ok (.if_icmp .ne 6, 3) := by decide +kernel
theorem dX12_table_19 : decode cX12_table 19 = .ok (.bipush (-8), 2) := by decide +kernel
theorem dX12_table_21 : decode cX12_table 21 = .ok (.ireturn, 1) := by decide +kernel
theorem dX12_table_22 : decode cX12_table 22 = .ok (.aload_n 0, 1) := by decide +kernel
theorem dX12_table_23 : decode cX12_table 23 = .ok (.getfield 13, 3) := by decide +kernel
theorem dX12_table_26 : decode cX12_table 26 = .ok (.iload_n 1, 1) := by decide +kernel
theorem dX12_table_27 : decode cX12_table 27 = .ok (.iaload, 1) := by decide +kernel
theorem dX12_table_28 : decode cX12_table 28 = .ok (.ifCond .ne 6, 3) := by decide +kernel
theorem dX12_table_31 : decode cX12_table 31 = .ok (.bipush (-5), 2) := by decide +kernel
theorem dX12_table_33 : decode cX12_table 33 = .ok (.ireturn, 1) := by decide +kernel
theorem dX12_table_34 : decode cX12_table 34 = .ok (.aload_n 0, 1) := by decide +kernel
theorem dX12_table_35 : decode cX12_table 35 = .ok (.getfield 13, 3) := by decide +kernel
theorem dX12_table_38 : decode cX12_table 38 = .ok (.iload_n 1, 1) := by decide +kernel
theorem dX12_table_39 : decode cX12_table 39 = .ok (.iaload, 1) := by decide +kernel
theorem dX12_table_40 : decode cX12_table 40 = .ok (.iconst 1, 1) := by decide +kernel
theorem dX12_table_41 : decode cX12_table 41 = .ok (.isub, 1) := by decide +kernel
theorem dX12_table_42 : decode cX12_table 42 = .ok (.istore_n 2, 1) := by decide +kernel
theorem dX12_table_43 : decode cX12_table 43 = .ok (.iconst 1, 1) := by decide +kernel
theorem dX12_table_44 : decode cX12_table 44 = .ok (.istore_n 3, 1) := by decide +kernel
theorem dX12_table_45 : decode cX12_table 45 = .ok (.iconst 0, 1) := by decide +kernel
theorem dX12_table_46 : decode cX12_table 46 = .ok (.istore 4, 2) := by decide +kernel
theorem dX12_table_48 : decode cX12_table 48 = .ok (.iload 4, 2) := by decide +kernel
theorem dX12_table_50 : decode cX12_table 50 = .ok (.iload_n 3, 1) := by decide +kernel
theorem dX12_table_51 : decode cX12_table 51 = .ok (.if_icmp .ge 86, 3) := by decide +kernel
theorem dX12_table_54 : decode cX12_table 54 = .ok (.iload 4, 2) := by decide +kernel
theorem dX12_table_56 : decode cX12_table 56 = .ok (.iload_n 2, 1) := by decide +kernel
theorem dX12_table_57 : decode cX12_table 57 = .ok (.if_icmp .lt 6, 3) := by decide +kernel
theorem dX12_table_60 : decode cX12_table 60 = .ok (.bipush (-6), 2) := by decide +kernel
theorem dX12_table_62 : decode cX12_table 62 = .ok (.ireturn, 1) := by decide +kernel
theorem dX12_table_63 : decode cX12_table 63 = .ok (.aload_n 0, 1) := by decide +kernel
theorem dX12_table_64 : decode cX12_table 64 = .ok (.getfield 20, 3) := by decide +kernel
theorem dX12_table_67 : decode cX12_table 67 = .ok (.bipush 60, 2) := by decide +kernel
theorem dX12_table_69 : decode cX12_table 69 = .ok (.iload_n 1, 1) := by decide +kernel
theorem dX12_table_70 : decode cX12_table 70 = .ok (.imul, 1) := by decide +kernel
theorem dX12_table_71 : decode cX12_table 71 = .ok (.iload 4, 2) := by decide +kernel
theorem dX12_table_73 : decode cX12_table 73 = .ok (.iadd, 1) := by decide +kernel
theorem dX12_table_74 : decode cX12_table 74 = .ok (.laload, 1) := by decide +kernel
theorem dX12_table_75 : decode cX12_table 75 = .ok (.lstore 5, 2) := by decide +kernel
theorem dX12_table_77 : decode cX12_table 77 = .ok (.iload 4, 2) := by decide +kernel
theorem dX12_table_79 : decode cX12_table 79 = .ok (.ifCond .ne 18, 3) := by decide +kernel
theorem dX12_table_82 : decode cX12_table 82 = .ok (.lload 5, 2) := by decide +kernel
theorem dX12_table_84 : decode cX12_table 84 = .ok (.lconst 1, 1) := by decide +kernel
theorem dX12_table_85 : decode cX12_table 85 = .ok (.ldc2_w 196, 3) := by decide +kernel
theorem dX12_table_88 : decode cX12_table 88 = .ok (.invokestatic 172, 3) := by decide +kernel
theorem dX12_table_91 : decode cX12_table 91 = .ok (.ifCond .ne 21, 3) := by decide +kernel
theorem dX12_table_94 : decode cX12_table 94 = .ok (.goto 15, 3) := by decide +kernel
theorem dX12_table_97 : decode cX12_table 97 = .ok (.lload 5, 2) := by decide +kernel
theorem dX12_table_99 : decode cX12_table 99 = .ok (.lconst 0, 1) := by decide +kernel
theorem dX12_table_100 : decode cX12_table 100 = .ok (.ldc2_w 198, 3) := by decide +kernel
theorem dX12_table_103 : decode cX12_table 103 = .ok (.invokestatic 172, 3) := by decide +kernel
theorem dX12_table_106 : decode cX12_table 106 = .ok (.ifCond .ne 6, 3) := by decide +kernel
theorem dX12_table_109 : decode cX12_table 109 = .ok (.bipush (-4), 2) := by decide +kernel
theorem dX12_table_111 : decode cX12_table 111 = .ok (.ireturn, 1) := by decide +kernel
theorem dX12_table_112 : decode cX12_table 112 = .ok (.aload_n 0, 1) := by decide +kernel
theorem dX12_table_113 : decode cX12_table 113 = .ok (.getfield 57, 3) := by decide +kernel
theorem dX12_table_116 : decode cX12_table 116 = .ok (.iload 4, 2) := by decide +kernel
theorem dX12_table_118 : decode cX12_table 118 = .ok (.lload 5, 2) := by decide +kernel
theorem dX12_table_120 : decode cX12_table 120 = .ok (.l2i, 1) := by decide +kernel
theorem dX12_table_121 : decode cX12_table 121 = .ok (.iastore, 1) := by decide +kernel
theorem dX12_table_122 : decode cX12_table 122 = .ok (.iconst 1, 1) := by decide +kernel
theorem dX12_table_123 : decode cX12_table 123 = .ok (.aload_n 0, 1) := by decide +kernel
theorem dX12_table_124 : decode cX12_table 124 = .ok (.getfield 57, 3) := by decide +kernel
theorem dX12_table_127 : decode cX12_table 127 = .ok (.iconst 0, 1) := by decide +kernel
theorem dX12_table_128 : decode cX12_table 128 = .ok (.iaload, 1) := by decide +kernel
theorem dX12_table_129 : decode cX12_table 129 = .ok (.iadd, 1) := by decide +kernel
theorem dX12_table_130 : decode cX12_table 130 = .ok (.istore_n 3, 1) := by decide +kernel
theorem dX12_table_131 : decode cX12_table 131 = .ok (.iinc 4 1, 3) := by decide +kernel
theorem dX12_table_134 : decode cX12_table 134 = .ok (.goto (-86), 3) := by decide +kernel
theorem dX12_table_137 : decode cX12_table 137 = .ok (.iconst 0, 1) := by decide +kernel
theorem dX12_table_138 : decode cX12_table 138 = .ok (.istore 4, 2) := by decide +kernel
theorem dX12_table_140 : decode cX12_table 140 = .ok (.iload 4, 2) := by decide +kernel
theorem dX12_table_142 : decode cX12_table 142 = .ok (.bipush 80, 2) := by decide +kernel
theorem dX12_table_144 : decode cX12_table 144 = .ok (.if_icmp .gt 60, 3) := by decide +kernel
theorem dX12_table_147 : decode cX12_table 147 = .ok (.aload_n 0, 1) := by decide +kernel
theorem dX12_table_148 : decode cX12_table 148 = .ok (.getfield 35, 3) := by decide +kernel
theorem dX12_table_151 : decode cX12_table 151 = .ok (.bipush 81, 2) := by decide +kernel
theorem dX12_table_153 : decode cX12_table 153 = .ok (.aload_n 0, 1) := by decide +kernel
theorem dX12_table_154 : decode cX12_table 154 = .ok (.getfield 193, 3) := by decide +kernel
theorem dX12_table_157 : decode cX12_table 157 = .ok (.imul, 1) := by decide +kernel
theorem dX12_table_158 : decode cX12_table 158 = .ok (.iload 4, 2) := by decide +kernel
theorem dX12_table_160 : decode cX12_table 160 = .ok (.iadd, 1) := by decide +kernel
theorem dX12_table_161 : decode cX12_table 161 = .ok (.iload 4, 2) := by decide +kernel
theorem dX12_table_163 : decode cX12_table 163 = .ok (.ifCond .ne 7, 3) := by decide +kernel
theorem dX12_table_166 : decode cX12_table 166 = .ok (.iconst 0, 1) := by decide +kernel
theorem dX12_table_167 : decode cX12_table 167 = .ok (.goto 30, 3) := by decide +kernel
theorem dX12_table_170 : decode cX12_table 170 = .ok (.aload_n 0, 1) := by decide +kernel
theorem dX12_table_171 : decode cX12_table 171 = .ok (.getfield 57, 3) := by decide +kernel
theorem dX12_table_174 : decode cX12_table 174 = .ok (.iload 4, 2) := by decide +kernel
theorem dX12_table_176 : decode cX12_table 176 = .ok (.aload_n 0, 1) := by decide +kernel
theorem dX12_table_177 : decode cX12_table 177 = .ok (.getfield 57, 3) := by decide +kernel
theorem dX12_table_180 : decode cX12_table 180 = .ok (.iconst 0, 1) := by decide +kernel
theorem dX12_table_181 : decode cX12_table 181 = .ok (.iaload, 1) := by decide +kernel
theorem dX12_table_182 : decode cX12_table 182 = .ok (.if_icmp .ge 8, 3) := by decide +kernel
theorem dX12_table_185 : decode cX12_table 185 = .ok (.iload 4, 2) := by decide +kernel
theorem dX12_table_187 : decode cX12_table 187 = .ok (.goto 9, 3) := by decide +kernel
theorem dX12_table_190 : decode cX12_table 190 = .ok (.aload_n 0, 1) := by decide +kernel
theorem dX12_table_191 : decode cX12_table 191 = .ok (.getfield 57, 3) := by decide +kernel
theorem dX12_table_194 : decode cX12_table 194 = .ok (.iconst 0, 1) := by decide +kernel
theorem dX12_table_195 : decode cX12_table 195 = .ok (.iaload, 1) := by decide +kernel
theorem dX12_table_196 : decode cX12_table 196 = .ok (.iaload, 1) := by decide +kernel
theorem dX12_table_197 : decode cX12_table 197 = .ok (.iastore, 1) := by decide +kernel
theorem dX12_table_198 : decode cX12_table 198 = .ok (.iinc 4 1, 3) := by decide +kernel
theorem dX12_table_201 : decode cX12_table 201 = .ok (.goto (-61), 3) := by decide +kernel
theorem dX12_table_204 : decode cX12_table 204 = .ok (.aload_n 0, 1) := by decide +kernel
theorem dX12_table_205 : decode cX12_table 205 = .ok (.dup, 1) := by decide +kernel
theorem dX12_table_206 : decode cX12_table 206 = .ok (.getfield 193, 3) := by decide +kernel
theorem dX12_table_209 : decode cX12_table 209 = .ok (.iconst 1, 1) := by decide +kernel
theorem dX12_table_210 : decode cX12_table 210 = .ok (.iadd, 1) := by decide +kernel
theorem dX12_table_211 : decode cX12_table 211 = .ok (.putfield 193, 3) := by decide +kernel
theorem dX12_table_214 : decode cX12_table 214 = .ok (.aload_n 0, 1) := by decide +kernel
theorem dX12_table_215 : decode cX12_table 215 = .ok (.getfield 193, 3) := by decide +kernel
theorem dX12_table_218 : decode cX12_table 218 = .ok (.iconst 1, 1) := by decide +kernel
theorem dX12_table_219 : decode cX12_table 219 = .ok (.isub, 1) := by decide +kernel
theorem dX12_table_220 : decode cX12_table 220 = .ok (.ireturn, 1) := by decide +kernel
theorem dX12_sum_0 : decode cX12_sum 0 = .ok (.aload_n 0, 1) := by decide +kernel
theorem dX12_sum_1 : decode cX12_sum 1 = .ok (.iload_n 1, 1) := by decide +kernel
theorem dX12_sum_2 : decode cX12_sum 2 = .ok (.invokevirtual 200, 3) := by decide +kernel
theorem dX12_sum_5 : decode cX12_sum 5 = .ok (.ifCond .eq 11, 3) := by decide +kernel
theorem dX12_sum_8 : decode cX12_sum 8 = .ok (.aload_n 0, 1) := by decide +kernel
theorem dX12_sum_9 : decode cX12_sum 9 = .ok (.iload_n 2, 1) := by decide +kernel
theorem dX12_sum_10 : decode cX12_sum 10 = .ok (.invokevirtual 200, 3) := by decide +kernel
theorem dX12_sum_13 : decode cX12_sum 13 = .ok (.ifCond .ne 6, 3) := by decide +kernel
theorem dX12_sum_16 : decode cX12_sum 16 = .ok (.bipush (-2), 2) := by decide +kernel
theorem dX12_sum_18 : decode cX12_sum 18 = .ok (.ireturn, 1) := by decide +kernel
theorem dX12_sum_19 : decode cX12_sum 19 = .ok (.aload_n 0, 1) := by decide +kernel
theorem dX12_sum_20 : decode cX12_sum 20 = .ok (.getfield 193, 3) := by decide +kernel
theorem dX12_sum_23 : decode cX12_sum 23 = .ok (.bipush 6, 2) := by decide +kernel
theorem dX12_sum_25 : decode cX12_sum 25 = .ok (.if_icmp .ne 6, 3) := by decide +kernel
theorem dX12_sum_28 : decode cX12_sum 28 = .ok (.bipush (-8), 2) := by decide +kernel
theorem dX12_sum_30 : decode cX12_sum 30 = .ok (.ireturn, 1) := by decide +kernel
theorem dX12_sum_31 : decode cX12_sum 31 = .ok (.iconst 0, 1) := by decide +kernel
theorem dX12_sum_32 : decode cX12_sum 32 = .ok (.istore_n 3, 1) := by decide +kernel
theorem dX12_sum_33 : decode cX12_sum 33 = .ok (.iload_n 3, 1) := by decide +kernel
theorem dX12_sum_34 : decode cX12_sum 34 = .ok (.bipush 80, 2) := by decide +kernel
theorem dX12_sum_36 : decode cX12_sum 36 = .ok (.if_icmp .gt 41, 3) := by decide +kernel
theorem dX12_sum_39 : decode cX12_sum 39 = .ok (.aload_n 0, 1) := by decide +kernel
theorem dX12_sum_40 : decode cX12_sum 40 = .ok (.getfield 35, 3) := by decide +kernel
theorem dX12_sum_43 : decode cX12_sum 43 = .ok (.bipush 81, 2) := by decide +kernel
theorem dX12_sum_45 : decode cX12_sum 45 = .ok (.iload_n 1, 1) := by decide +kernel
theorem dX12_sum_46 : decode cX12_sum 46 = .ok (.imul, 1) := by decide +kernel
theorem dX12_sum_47 : decode cX12_sum 47 = .ok (.iload_n 3, 1) := by decide +kernel
theorem dX12_sum_48 : decode cX12_sum 48 = .ok (.iadd, 1) := by decide +kernel
theorem dX12_sum_49 : decode cX12_sum 49 = .ok (.iaload, 1) := by decide +kernel
theorem dX12_sum_50 : decode cX12_sum 50 = .ok (.aload_n 0, 1) := by decide +kernel
theorem dX12_sum_51 : decode cX12_sum 51 = .ok (.getfield 35, 3) := by decide +kernel
theorem dX12_sum_54 : decode cX12_sum 54 = .ok (.bipush 81, 2) := by decide +kernel
theorem dX12_sum_56 : decode cX12_sum 56 = .ok (.iload_n 2, 1) := by decide +kernel
theorem dX12_sum_57 : decode cX12_sum 57 = .ok (.imul, 1) := by decide +kernel
theorem dX12_sum_58 : decode cX12_sum 58 = .ok (.iload_n 3, 1) := by decide +kernel
theorem dX12_sum_59 : decode cX12_sum 59 = .ok (.iadd, 1) := by decide +kernel
theorem dX12_sum_60 : decode cX12_sum 60 = .ok (.iaload, 1) := by decide +kernel
theorem dX12_sum_61 : decode cX12_sum 61 = .ok (.iadd, 1) := by decide +kernel
theorem dX12_sum_62 : decode cX12_sum 62 = .ok (.sipush 16000, 3) := by decide +kernel
theorem dX12_sum_65 : decode cX12_sum 65 = .ok (.if_icmp .le 6, 3) := by decide +kernel
theorem dX12_sum_68 : decode cX12_sum 68 = .ok (.bipush (-4), 2) := by decide +kernel
theorem dX12_sum_70 : decode cX12_sum 70 = .ok (.ireturn, 1) := by decide +kernel
theorem dX12_sum_71 : decode cX12_sum 71 = .ok (.iinc 3 1, 3) := by decide +kernel
theorem dX12_sum_74 : decode cX12_sum 74 = .ok (.goto (-41), 3) := by decide +kernel
theorem dX12_sum_77 : decode cX12_sum 77 = .ok (.iconst 0, 1) := by decide +kernel
theorem dX12_sum_78 : decode cX12_sum 78 = .ok (.istore_n 3, 1) := by decide +kernel
theorem dX12_sum_79 : decode cX12_sum 79 = .ok (.iload_n 3, 1) := by decide +kernel
theorem dX12_sum_80 : decode cX12_sum 80 = .ok (.bipush 80, 2) := by decide +kernel
theorem dX12_sum_82 : decode cX12_sum 82 = .ok (.if_icmp .gt 46, 3) := by decide +kernel
theorem dX12_sum_85 : decode cX12_sum 85 = .ok (.aload_n 0, 1) := by decide +kernel
theorem dX12_sum_86 : decode cX12_sum 86 = .ok (.getfield 35, 3) := by decide +kernel
theorem dX12_sum_89 : decode cX12_sum 89 = .ok (.bipush 81, 2) := by decide +kernel
theorem dX12_sum_91 : decode cX12_sum 91 = .ok (.aload_n 0, 1) := by decide +kernel
theorem dX12_sum_92 : decode cX12_sum 92 = .ok (.getfield 193, 3) := by decide +kernel
theorem dX12_sum_95 : decode cX12_sum 95 = .ok (.imul, 1) := by decide +kernel
theorem dX12_sum_96 : decode cX12_sum 96 = .ok (.iload_n 3, 1) := by decide +kernel
theorem dX12_sum_97 : decode cX12_sum 97 = .ok (.iadd, 1) := by decide +kernel
theorem dX12_sum_98 : decode cX12_sum 98 = .ok (.aload_n 0, 1) := by decide +kernel
theorem dX12_sum_99 : decode cX12_sum 99 = .ok (.getfield 35, 3) := by decide +kernel
theorem dX12_sum_102 : decode cX12_sum 102 = .ok (.bipush 81, 2) := by decide +kernel
theorem dX12_sum_104 : decode cX12_sum 104 = .ok (.iload_n 1, 1) := by decide +kernel
theorem dX12_sum_105 : decode cX12_sum 105 = .ok (.imul, 1) := by decide +kernel
theorem dX12_sum_106 : decode cX12_sum 106 = .ok (.iload_n 3, 1) := by decide +kernel
theorem dX12_sum_107 : decode cX12_sum 107 = .ok (.iadd, 1) := by decide +kernel
theorem dX12_sum_108 : decode cX12_sum 108 = .ok (.iaload, 1) := by decide +kernel
theorem dX12_sum_109 : decode cX12_sum 109 = .ok (.aload_n 0, 1) := by decide +kernel
theorem dX12_sum_110 : decode cX12_sum 110 = .ok (.getfield 35, 3) := by decide +kernel
theorem dX12_sum_113 : decode cX12_sum 113 = .ok (.bipush 81, 2) := by decide +kernel
theorem dX12_sum_115 : decode cX12_sum 115 = .ok (.iload_n 2, 1) := by decide +kernel
theorem dX12_sum_116 : decode cX12_sum 116 = .ok (.imul, 1) := by decide +kernel
theorem dX12_sum_117 : decode cX12_sum 117 = .ok (.iload_n 3, 1) := by decide +kernel
theorem dX12_sum_118 : decode cX12_sum 118 = .ok (.iadd, 1) := by decide +kernel
theorem dX12_sum_119 : decode cX12_sum 119 = .ok (.iaload, 1) := by decide +kernel
theorem dX12_sum_120 : decode cX12_sum 120 = .ok (.iadd, 1) := by decide +kernel
theorem dX12_sum_121 : decode cX12_sum 121 = .ok (.iastore, 1) := by decide +kernel
theorem dX12_sum_122 : decode cX12_sum 122 = .ok (.iinc 3 1, 3) := by decide +kernel
theorem dX12_sum_125 : decode cX12_sum 125 = .ok (.goto (-46), 3) := by decide +kernel
theorem dX12_sum_128 : decode cX12_sum 128 = .ok (.aload_n 0, 1) := by decide +kernel
theorem dX12_sum_129 : decode cX12_sum 129 = .ok (.dup, 1) := by decide +kernel
theorem dX12_sum_130 : decode cX12_sum 130 = .ok (.getfield 193, 3) := by decide +kernel
theorem dX12_sum_133 : decode cX12_sum 133 = .ok (.iconst 1, 1) := by decide +kernel
theorem dX12_sum_134 : decode cX12_sum 134 = .ok (.iadd, 1) := by decide +kernel
theorem dX12_sum_135 : decode cX12_sum 135 = .ok (.putfield 193, 3) := by decide +kernel
theorem dX12_sum_138 : decode cX12_sum 138 = .ok (.aload_n 0, 1) := by decide +kernel
theorem dX12_sum_139 : decode cX12_sum 139 = .ok (.getfield 193, 3) := by decide +kernel
theorem dX12_sum_142 : decode cX12_sum 142 = .ok (.iconst 1, 1) := by decide +kernel
theorem dX12_sum_143 : decode cX12_sum 143 = .ok (.isub, 1) := by decide +kernel
theorem dX12_sum_144 : decode cX12_sum 144 = .ok (.ireturn, 1) := by decide +kernel
theorem dX12_unlike_0 : decode cX12_unlike 0 = .ok (.aload_n 0, 1) := by decide +kernel
theorem dX12_unlike_1 : decode cX12_unlike 1 = .ok (.iload_n 1, 1) := by decide +kernel
theorem dX12_unlike_2 : decode cX12_unlike 2 = .ok (.invokevirtual 200, 3) := by decide +kernel
theorem dX12_unlike_5 : decode cX12_unlike 5 = .ok (.ifCond .eq 27, 3) := by decide +kernel
theorem dX12_unlike_8 : decode cX12_unlike 8 = .ok (.iload_n 2, 1) := by decide +kernel
theorem dX12_unlike_9 : decode cX12_unlike 9 = .ok (.ifCond .lt 23, 3) := by decide +kernel
theorem dX12_unlike_12 : decode cX12_unlike 12 = .ok (.iload_n 2, 1) := by decide +kernel
theorem dX12_unlike_13 : decode cX12_unlike 13 = .ok (.bipush 80, 2) := by decide +kernel
theorem dX12_unlike_15 : decode cX12_unlike 15 = .ok (.if_icmp .gt 17, 3) := by decide +kernel
theorem dX12_unlike_18 : decode cX12_unlike 18 = .ok (.aload_n 0, 1) := by decide +kernel
theorem dX12_unlike_19 : decode cX12_unlike 19 = .ok (.getfield 35, 3) := by decide +kernel
theorem dX12_unlike_22 : decode cX12_unlike 22 = .ok (.bipush 81, 2) := by decide +kernel
theorem dX12_unlike_24 : decode cX12_unlike 24 = .ok (.iload_n 1, 1) := by decide +kernel
theorem dX12_unlike_25 : decode cX12_unlike 25 = .ok (.imul, 1) := by decide +kernel
theorem dX12_unlike_26 : decode cX12_unlike 26 = .ok (.iload_n 2, 1) := by decide +kernel
theorem dX12_unlike_27 : decode cX12_unlike 27 = .ok (.iadd, 1) := by decide +kernel
theorem dX12_unlike_28 : decode cX12_unlike 28 = .ok (.iaload, 1) := by decide +kernel
theorem dX12_unlike_29 : decode cX12_unlike 29 = .ok (.goto 4, 3) := by decide +kernel
theorem dX12_unlike_32 : decode cX12_unlike 32 = .ok (.iconst (-1), 1) := by decide +kernel
theorem dX12_unlike_33 : decode cX12_unlike 33 = .ok (.ireturn, 1) := by decide +kernel
theorem dX12_use_0 : decode cX12_use 0 = .ok (.iload_n 1, 1) := by decide +kernel
theorem dX12_use_1 : decode cX12_use 1 = .ok (.iconst (-1), 1) := by decide +kernel
theorem dX12_use_2 : decode cX12_use 2 = .ok (.if_icmp .eq 13, 3) := by decide +kernel
theorem dX12_use_5 : decode cX12_use 5 = .ok (.aload_n 0, 1) := by decide +kernel
theorem dX12_use_6 : decode cX12_use 6 = .ok (.iload_n 1, 1) := by decide +kernel
theorem dX12_use_7 : decode cX12_use 7 = .ok (.invokevirtual 200, 3) := by decide +kernel
theorem dX12_use_10 : decode cX12_use 10 = .ok (.ifCond .ne 5, 3) := by decide +kernel
theorem dX12_use_13 : decode cX12_use 13 = .ok (.iconst 0, 1) := by decide +kernel
theorem dX12_use_14 : decode cX12_use 14 = .ok (.ireturn, 1) := by decide +kernel
theorem dX12_use_15 : decode cX12_use 15 = .ok (.aload_n 0, 1) := by decide +kernel
theorem dX12_use_16 : decode cX12_use 16 = .ok (.iload_n 1, 1) := by decide +kernel
theorem dX12_use_17 : decode cX12_use 17 = .ok (.putfield 38, 3) := by decide +kernel
theorem dX12_use_20 : decode cX12_use 20 = .ok (.aload_n 0, 1) := by decide +kernel
theorem dX12_use_21 : decode cX12_use 21 = .ok (.iconst 0, 1) := by decide +kernel
theorem dX12_use_22 : decode cX12_use 22 = .ok (.putfield 186, 3) := by decide +kernel
theorem dX12_use_25 : decode cX12_use 25 = .ok (.iconst 1, 1) := by decide +kernel
theorem dX12_use_26 : decode cX12_use 26 = .ok (.ireturn, 1) := by decide +kernel
theorem dX12_nearest_0 : decode cX12_nearest 0 = .ok (.iload_n 1, 1) := by decide +kernel
theorem dX12_nearest_1 : decode cX12_nearest 1 = .ok (.iconst 1, 1) := by decide +kernel
theorem dX12_nearest_2 : decode cX12_nearest 2 = .ok (.if_icmp .lt 9, 3) := by decide +kernel
theorem dX12_nearest_5 : decode cX12_nearest 5 = .ok (.iload_n 1, 1) := by decide +kernel
theorem dX12_nearest_6 : decode cX12_nearest 6 = .ok (.bipush 8, 2) := by decide +kernel
theorem dX12_nearest_8 : decode cX12_nearest 8 = .ok (.if_icmp .le 5, 3) := by decide +kernel
theorem dX12_nearest_11 : decode cX12_nearest 11 = .ok (.iconst 0, 1) := by decide +kernel
theorem dX12_nearest_12 : decode cX12_nearest 12 = .ok (.ireturn, 1) := by decide +kernel
theorem dX12_nearest_13 : decode cX12_nearest 13 = .ok (.aload_n 0, 1) := by decide +kernel
theorem dX12_nearest_14 : decode cX12_nearest 14 = .ok (.iload_n 1, 1) := by decide +kernel
theorem dX12_nearest_15 : decode cX12_nearest 15 = .ok (.putfield 42, 3) := by decide +kernel
theorem dX12_nearest_18 : decode cX12_nearest 18 = .ok (.iconst 1, 1) := by decide +kernel
theorem dX12_nearest_19 : decode cX12_nearest 19 = .ok (.ireturn, 1) := by decide +kernel
theorem dX12_size_0 : decode cX12_size 0 = .ok (.iload_n 0, 1) := by decide +kernel
theorem dX12_size_1 : decode cX12_size 1 = .ok (.ifCond .ge 8, 3) := by decide +kernel
theorem dX12_size_4 : decode cX12_size 4 = .ok (.iload_n 0, 1) := by decide +kernel
theorem dX12_size_5 : decode cX12_size 5 = .ok (.ineg, 1) := by decide +kernel
theorem dX12_size_6 : decode cX12_size 6 = .ok (.goto 4, 3) := by decide +kernel
theorem dX12_size_9 : decode cX12_size 9 = .ok (.iload_n 0, 1) := by decide +kernel
theorem dX12_size_10 : decode cX12_size 10 = .ok (.ireturn, 1) := by decide +kernel
theorem dX12_way_0 : decode cX12_way 0 = .ok (.iload_n 0, 1) := by decide +kernel
theorem dX12_way_1 : decode cX12_way 1 = .ok (.iload_n 2, 1) := by decide +kernel
theorem dX12_way_2 : decode cX12_way 2 = .ok (.isub, 1) := by decide +kernel
theorem dX12_way_3 : decode cX12_way 3 = .ok (.invokestatic 203, 3) := by decide +kernel
theorem dX12_way_6 : decode cX12_way 6 = .ok (.iload_n 1, 1) := by decide +kernel
theorem dX12_way_7 : decode cX12_way 7 = .ok (.iload_n 3, 1) := by decide +kernel
theorem dX12_way_8 : decode cX12_way 8 = .ok (.isub, 1) := by decide +kernel
theorem dX12_way_9 : decode cX12_way 9 = .ok (.invokestatic 203, 3) := by decide +kernel
theorem dX12_way_12 : decode cX12_way 12 = .ok (.iadd, 1) := by decide +kernel
theorem dX12_way_13 : decode cX12_way 13 = .ok (.ireturn, 1) := by decide +kernel
theorem dX12_between_0 : decode cX12_between 0 = .ok (.aload_n 0, 1) := by decide +kernel
theorem dX12_between_1 : decode cX12_between 1 = .ok (.getfield 35, 3) := by decide +kernel
theorem dX12_between_4 : decode cX12_between 4 = .ok (.bipush 81, 2) := by decide +kernel
theorem dX12_between_6 : decode cX12_between 6 = .ok (.iload_n 1, 1) := by decide +kernel
theorem dX12_between_7 : decode cX12_between 7 = .ok (.imul, 1) := by decide +kernel
theorem dX12_between_8 : decode cX12_between 8 = .ok (.aload_n 0, 1) := by decide +kernel
theorem dX12_between_9 : decode cX12_between 9 = .ok (.getfield 23, 3) := by decide +kernel
theorem dX12_between_12 : decode cX12_between 12 = .ok (.iload_n 2, 1) := by decide +kernel
theorem dX12_between_13 : decode cX12_between 13 = .ok (.iaload, 1) := by decide +kernel
theorem dX12_between_14 : decode cX12_between 14 = .ok (.aload_n 0, 1) := by decide +kernel
theorem dX12_between_15 : decode cX12_between 15 = .ok (.getfield 26, 3) := by decide +kernel
theorem dX12_between_18 : decode cX12_between 18 = .ok (.iload_n 2, 1) := by decide +kernel
theorem dX12_between_19 : decode cX12_between 19 = .ok (.iaload, 1) := by decide +kernel
theorem dX12_between_20 : decode cX12_between 20 = .ok (.aload_n 0, 1) := by decide +kernel
theorem dX12_between_21 : decode cX12_between 21 = .ok (.getfield 23, 3) := by decide +kernel
theorem dX12_between_24 : decode cX12_between 24 = .ok (.iload_n 3, 1) := by decide +kernel
theorem dX12_between_25 : decode cX12_between 25 = .ok (.iaload, 1) := by decide +kernel
theorem dX12_between_26 : decode cX12_between 26 = .ok (.aload_n 0, 1) := by decide +kernel
theorem dX12_between_27 : decode cX12_between 27 = .ok (.getfield 26, 3) := by decide +kernel
theorem dX12_between_30 : decode cX12_between 30 = .ok (.iload_n 3, 1) := by decide +kernel
theorem dX12_between_31 : decode cX12_between 31 = .ok (.iaload, 1) := by decide +kernel
theorem dX12_between_32 : decode cX12_between 32 = .ok (.invokestatic 207, 3) := by decide +kernel
theorem dX12_between_35 : decode cX12_between 35 = .ok (.iadd, 1) := by decide +kernel
theorem dX12_between_36 : decode cX12_between 36 = .ok (.iaload, 1) := by decide +kernel
theorem dX12_between_37 : decode cX12_between 37 = .ok (.ireturn, 1) := by decide +kernel
theorem dX12_ways_0 : decode cX12_ways 0 = .ok (.iconst 0, 1) := by decide +kernel
theorem dX12_ways_1 : decode cX12_ways 1 = .ok (.istore_n 2, 1) := by decide +kernel
theorem dX12_ways_2 : decode cX12_ways 2 = .ok (.iconst 0, 1) := by decide +kernel
theorem dX12_ways_3 : decode cX12_ways 3 = .ok (.istore_n 3, 1) := by decide +kernel
theorem dX12_ways_4 : decode cX12_ways 4 = .ok (.iload_n 3, 1) := by decide +kernel
theorem dX12_ways_5 : decode cX12_ways 5 = .ok (.aload_n 0, 1) := by decide +kernel
theorem dX12_ways_6 : decode cX12_ways 6 = .ok (.getfield 211, 3) := by decide +kernel
theorem dX12_ways_9 : decode cX12_ways 9 = .ok (.if_icmp .ge 39, 3) := by decide +kernel
theorem dX12_ways_12 : decode cX12_ways 12 = .ok (.iload_n 2, 1) := by decide +kernel
theorem dX12_ways_13 : decode cX12_ways 13 = .ok (.aload_n 0, 1) := by decide +kernel
theorem dX12_ways_14 : decode cX12_ways 14 = .ok (.getfield 23, 3) := by decide +kernel
theorem dX12_ways_17 : decode cX12_ways 17 = .ok (.iload_n 1, 1) := by decide +kernel
theorem dX12_ways_18 : decode cX12_ways 18 = .ok (.iaload, 1) := by decide +kernel
theorem dX12_ways_19 : decode cX12_ways 19 = .ok (.aload_n 0, 1) := by decide +kernel
theorem dX12_ways_20 : decode cX12_ways 20 = .ok (.getfield 26, 3) := by decide +kernel
theorem dX12_ways_23 : decode cX12_ways 23 = .ok (.iload_n 1, 1) := by decide +kernel
theorem dX12_ways_24 : decode cX12_ways 24 = .ok (.iaload, 1) := by decide +kernel
theorem dX12_ways_25 : decode cX12_ways 25 = .ok (.aload_n 0, 1) := by decide +kernel
theorem dX12_ways_26 : decode cX12_ways 26 = .ok (.getfield 60, 3) := by decide +kernel
theorem dX12_ways_29 : decode cX12_ways 29 = .ok (.iload_n 3, 1) := by decide +kernel
theorem dX12_ways_30 : decode cX12_ways 30 = .ok (.iaload, 1) := by decide +kernel
theorem dX12_ways_31 : decode cX12_ways 31 = .ok (.aload_n 0, 1) := by decide +kernel
theorem dX12_ways_32 : decode cX12_ways 32 = .ok (.getfield 63, 3) := by decide +kernel
theorem dX12_ways_35 : decode cX12_ways 35 = .ok (.iload_n 3, 1) := by decide +kernel
theorem dX12_ways_36 : decode cX12_ways 36 = .ok (.iaload, 1) := by decide +kernel
theorem dX12_ways_37 : decode cX12_ways 37 = .ok (.invokestatic 207, 3) := by decide +kernel
theorem dX12_ways_40 : decode cX12_ways 40 = .ok (.iadd, 1) := by decide +kernel
theorem dX12_ways_41 : decode cX12_ways 41 = .ok (.istore_n 2, 1) := by decide +kernel
theorem dX12_ways_42 : decode cX12_ways 42 = .ok (.iinc 3 1, 3) := by decide +kernel
theorem dX12_ways_45 : decode cX12_ways 45 = .ok (.goto (-41), 3) := by decide +kernel
theorem dX12_ways_48 : decode cX12_ways 48 = .ok (.iload_n 2, 1) := by decide +kernel
theorem dX12_ways_49 : decode cX12_ways 49 = .ok (.ireturn, 1) := by decide +kernel
theorem dX12_choose_0 : decode cX12_choose 0 = .ok (.aload_n 0, 1) := by decide +kernel
theorem dX12_choose_1 : decode cX12_choose 1 = .ok (.iconst 0, 1) := by decide +kernel
theorem dX12_choose_2 : decode cX12_choose 2 = .ok (.putfield 214, 3) := by decide +kernel
theorem dX12_choose_5 : decode cX12_choose 5 = .ok (.aload_n 0, 1) := by decide +kernel
theorem dX12_choose_6 : decode cX12_choose 6 = .ok (.getfield 69, 3) := by decide +kernel
theorem dX12_choose_9 : decode cX12_choose 9 = .ok (.astore_n 1, 1) := by decide +kernel
theorem dX12_choose_10 : decode cX12_choose 10 = .ok (.iconst 0, 1) := by decide +kernel
theorem dX12_choose_11 : decode cX12_choose 11 = .ok (.istore_n 2, 1) := by decide +kernel
theorem dX12_choose_12 : decode cX12_choose 12 = .ok (.iload_n 2, 1) := by decide +kernel
theorem dX12_choose_13 : decode cX12_choose 13 = .ok (.aload_n 0, 1) := by decide +kernel
theorem dX12_choose_14 : decode cX12_choose 14 = .ok (.getfield 167, 3) := by decide +kernel
theorem dX12_choose_17 : decode cX12_choose 17 = .ok (.if_icmp .ge 13, 3) := by decide +kernel
theorem dX12_choose_20 : decode cX12_choose 20 = .ok (.aload_n 1, 1) := by decide +kernel
theorem dX12_choose_21 : decode cX12_choose 21 = .ok (.iload_n 2, 1) := by decide +kernel
theorem dX12_choose_22 : decode cX12_choose 22 = .ok (.iconst 0, 1) := by decide +kernel
theorem dX12_choose_23 : decode cX12_choose 23 = .ok (.bastore, 1) := by decide +kernel
theorem dX12_choose_24 : decode cX12_choose 24 = .ok (.iinc 2 1, 3) := by decide +kernel
theorem dX12_choose_27 : decode cX12_choose 27 = .ok (.goto (-15), 3) := by decide +kernel
theorem dX12_choose_30 : decode cX12_choose 30 = .ok (.aload_n 0, 1) := by decide +kernel
theorem dX12_choose_31 : decode cX12_choose 31 = .ok (.getfield 214, 3) := by decide +kernel
theorem dX12_choose_34 : decode cX12_choose 34 = .ok (.aload_n 0, 1) := by decide +kernel
theorem dX12_choose_35 : decode cX12_choose 35 = .ok (.getfield 42, 3) := by decide +kernel
theorem dX12_choose_38 : decode cX12_choose 38 = .ok (.if_icmp .ge 85, 3) := by decide +kernel
theorem dX12_choose_41 : decode cX12_choose 41 = .ok (.aload_n 0, 1) := by decide +kernel
theorem dX12_choose_42 : decode cX12_choose 42 = .ok (.getfield 214, 3) := by decide +kernel
theorem dX12_choose_45 : decode cX12_choose 45 = .ok (.aload_n 0, 1) := by decide +kernel
theorem dX12_choose_46 : decode cX12_choose 46 = .ok (.getfield 167, 3) := by decide +kernel
theorem dX12_choose_49 : decode cX12_choose 49 = .ok (.if_icmp .ge 74, 3) := by decide +kernel
theorem dX12_choose_52 : decode cX12_choose 52 = .ok (.iconst (-1), 1) := by decide +kernel
theorem dX12_choose_53 : decode cX12_choose 53 = .ok (.istore_n 2, 1) := by decide +kernel
theorem dX12_choose_54 : decode cX12_choose 54 = .ok (.iconst 0, 1) := by decide +kernel
theorem dX12_choose_55 : decode cX12_choose 55 = .ok (.istore_n 3, 1) := by decide +kernel
theorem dX12_choose_56 : decode cX12_choose 56 = .ok (.iload_n 3, 1) := by decide +kernel
theorem dX12_choose_57 : decode cX12_choose 57 = .ok (.aload_n 0, 1) := by decide +kernel
theorem dX12_choose_58 : decode cX12_choose 58 = .ok (.getfield 167, 3) := by decide +kernel
theorem dX12_choose_61 : decode cX12_choose 61 = .ok (.if_icmp .ge 35, 3) := by decide +kernel
theorem dX12_choose_64 : decode cX12_choose 64 = .ok (.aload_n 1, 1) := by decide +kernel
theorem dX12_choose_65 : decode cX12_choose 65 = .ok (.iload_n 3, 1) := by decide +kernel
theorem dX12_choose_66 : decode cX12_choose 66 = .ok (.baload, 1) := by decide +kernel
theorem dX12_choose_67 : decode cX12_choose 67 = .ok (.ifCond .ne 23, 3) := by decide +kernel
theorem dX12_choose_70 : decode cX12_choose 70 = .ok (.iload_n 2, 1) := by decide +kernel
theorem dX12_choose_71 : decode cX12_choose 71 = .ok (.iconst (-1), 1) := by decide +kernel
theorem dX12_choose_72 : decode cX12_choose 72 = .ok (.if_icmp .eq 16, 3) := by decide +kernel
theorem dX12_choose_75 : decode cX12_choose 75 = .ok (.aload_n 0, 1) := by decide +kernel
theorem dX12_choose_76 : decode cX12_choose 76 = .ok (.iload_n 3, 1) := by decide +kernel
theorem dX12_choose_77 : decode cX12_choose 77 = .ok (.invokevirtual 217, 3) := by decide +kernel
theorem dX12_choose_80 : decode cX12_choose 80 = .ok (.aload_n 0, 1) := by decide +kernel
theorem dX12_choose_81 : decode cX12_choose 81 = .ok (.iload_n 2, 1) := by decide +kernel
theorem dX12_choose_82 : decode cX12_choose 82 = .ok (.invokevirtual 217, 3) := by decide +kernel
theorem dX12_choose_85 : decode cX12_choose 85 = .ok (.if_icmp .ge 5, 3) := by decide +kernel
theorem dX12_choose_88 : decode cX12_choose 88 = .ok (.iload_n 3, 1) := by decide +kernel
theorem dX12_choose_89 : decode cX12_choose 89 = .ok (.istore_n 2, 1) := by decide +kernel
theorem dX12_choose_90 : decode cX12_choose 90 = .ok (.iinc 3 1, 3) := by decide +kernel
theorem dX12_choose_93 : decode cX12_choose 93 = .ok (.goto (-37), 3) := by decide +kernel
theorem dX12_choose_96 : decode cX12_choose 96 = .ok (.aload_n 1, 1) := by decide +kernel
theorem dX12_choose_97 : decode cX12_choose 97 = .ok (.iload_n 2, 1) := by decide +kernel
theorem dX12_choose_98 : decode cX12_choose 98 = .ok (.iconst 1, 1) := by decide +kernel
theorem dX12_choose_99 : decode cX12_choose 99 = .ok (.bastore, 1) := by decide +kernel
theorem dX12_choose_100 : decode cX12_choose 100 = .ok (.aload_n 0, 1) := by decide +kernel
theorem dX12_choose_101 : decode cX12_choose 101 = .ok (.getfield 66, 3) := by decide +kernel
theorem dX12_choose_104 : decode cX12_choose 104 = .ok (.aload_n 0, 1) := by decide +kernel
theorem dX12_choose_105 : decode cX12_choose 105 = .ok (.getfield 214, 3) := by decide +kernel
theorem dX12_choose_108 : decode cX12_choose 108 = .ok (.iload_n 2, 1) := by decide +kernel
theorem dX12_choose_109 : decode cX12_choose 109 = .ok (.iastore, 1) := by decide +kernel
theorem dX12_choose_110 : decode cX12_choose 110 = .ok (.aload_n 0, 1) := by decide +kernel
theorem dX12_choose_111 : decode cX12_choose 111 = .ok (.dup, 1) := by decide +kernel
theorem dX12_choose_112 : decode cX12_choose 112 = .ok (.getfield 214, 3) := by decide +kernel
theorem dX12_choose_115 : decode cX12_choose 115 = .ok (.iconst 1, 1) := by decide +kernel
theorem dX12_choose_116 : decode cX12_choose 116 = .ok (.iadd, 1) := by decide +kernel
theorem dX12_choose_117 : decode cX12_choose 117 = .ok (.putfield 214, 3) := by decide +kernel
theorem dX12_choose_120 : decode cX12_choose 120 = .ok (.goto (-90), 3) := by decide +kernel
theorem dX12_choose_123 : decode cX12_choose 123 = .ok (.return_, 1) := by decide +kernel
theorem dX12_toPlaces_0 : decode cX12_toPlaces 0 = .ok (.iconst 0, 1) := by decide +kernel
theorem dX12_toPlaces_1 : decode cX12_toPlaces 1 = .ok (.istore_n 3, 1) := by decide +kernel
theorem dX12_toPlaces_2 : decode cX12_toPlaces 2 = .ok (.iconst 0, 1) := by decide +kernel
theorem dX12_toPlaces_3 : decode cX12_toPlaces 3 = .ok (.istore 4, 2) := by decide +kernel
theorem dX12_toPlaces_5 : decode cX12_toPlaces 5 = .ok (.iload 4, 2) := by decide +kernel
theorem dX12_toPlaces_7 : decode cX12_toPlaces 7 = .ok (.aload_n 0, 1) := by decide +kernel
theorem dX12_toPlaces_8 : decode cX12_toPlaces 8 = .ok (.getfield 211, 3) := by decide +kernel
theorem dX12_toPlaces_11 : decode cX12_toPlaces 11 = .ok (.if_icmp .ge 51, 3) := by decide +kernel
theorem dX12_toPlaces_14 : decode cX12_toPlaces 14 = .ok (.iload_n 3, 1) := by decide +kernel
theorem dX12_toPlaces_15 : decode cX12_toPlaces 15 = .ok (.aload_n 0, 1) := by decide +kernel
theorem dX12_toPlaces_16 : decode cX12_toPlaces 16 = .ok (.getfield 35, 3) := by decide +kernel
theorem dX12_toPlaces_19 : decode cX12_toPlaces 19 = .ok (.bipush 81, 2) := by decide +kernel
theorem dX12_toPlaces_21 : decode cX12_toPlaces 21 = .ok (.iload_n 1, 1) := by decide +kernel
theorem dX12_toPlaces_22 : decode cX12_toPlaces 22 = .ok (.imul, 1) := by decide +kernel
theorem dX12_toPlaces_23 : decode cX12_toPlaces 23 = .ok (.aload_n 0, 1) := by decide +kernel
theorem dX12_toPlaces_24 : decode cX12_toPlaces 24 = .ok (.getfield 23, 3) := by decide +kernel
theorem dX12_toPlaces_27 : decode cX12_toPlaces 27 = .ok (.iload_n 2, 1) := by decide +kernel
theorem dX12_toPlaces_28 : decode cX12_toPlaces 28 = .ok (.iaload, 1) := by decide +kernel
theorem dX12_toPlaces_29 : decode cX12_toPlaces 29 = .ok (.aload_n 0, 1) := by decide +kernel
theorem dX12_toPlaces_30 : decode cX12_toPlaces 30 = .ok (.getfield 26, 3) := by decide +kernel
theorem dX12_toPlaces_33 : decode cX12_toPlaces 33 = .ok (.iload_n 2, 1) := by decide +kernel
theorem dX12_toPlaces_34 : decode cX12_toPlaces 34 = .ok (.iaload, 1) := by decide +kernel
theorem dX12_toPlaces_35 : decode cX12_toPlaces 35 = .ok (.aload_n 0, 1) := by decide +kernel
theorem dX12_toPlaces_36 : decode cX12_toPlaces 36 = .ok (.getfield 60, 3) := by decide +kernel
theorem dX12_toPlaces_39 : decode cX12_toPlaces 39 = .ok (.iload 4, 2) := by decide +kernel
theorem dX12_toPlaces_41 : decode cX12_toPlaces 41 = .ok (.iaload, 1) := by decide +kernel
theorem dX12_toPlaces_42 : decode cX12_toPlaces 42 = .ok (.aload_n 0, 1) := by decide +kernel
theorem dX12_toPlaces_43 : decode cX12_toPlaces 43 = .ok (.getfield 63, 3) := by decide +kernel
theorem dX12_toPlaces_46 : decode cX12_toPlaces 46 = .ok (.iload 4, 2) := by decide +kernel
theorem dX12_toPlaces_48 : decode cX12_toPlaces 48 = .ok (.iaload, 1) := by decide +kernel
theorem dX12_toPlaces_49 : decode cX12_toPlaces 49 = .ok (.invokestatic 207, 3) := by decide +kernel
theorem dX12_toPlaces_52 : decode cX12_toPlaces 52 = .ok (.iadd, 1) := by decide +kernel
theorem dX12_toPlaces_53 : decode cX12_toPlaces 53 = .ok (.iaload, 1) := by decide +kernel
theorem dX12_toPlaces_54 : decode cX12_toPlaces 54 = .ok (.iadd, 1) := by decide +kernel
theorem dX12_toPlaces_55 : decode cX12_toPlaces 55 = .ok (.istore_n 3, 1) := by decide +kernel
theorem dX12_toPlaces_56 : decode cX12_toPlaces 56 = .ok (.iinc 4 1, 3) := by decide +kernel
theorem dX12_toPlaces_59 : decode cX12_toPlaces 59 = .ok (.goto (-54), 3) := by decide +kernel
theorem dX12_toPlaces_62 : decode cX12_toPlaces 62 = .ok (.iload_n 3, 1) := by decide +kernel
theorem dX12_toPlaces_63 : decode cX12_toPlaces 63 = .ok (.ireturn, 1) := by decide +kernel
theorem dX12_weigh_0 : decode cX12_weigh 0 = .ok (.aload_n 0, 1) := by decide +kernel
theorem dX12_weigh_1 : decode cX12_weigh 1 = .ok (.aload_n 0, 1) := by decide +kernel
theorem dX12_weigh_2 : decode cX12_weigh 2 = .ok (.getfield 214, 3) := by decide +kernel
theorem dX12_weigh_5 : decode cX12_weigh 5 = .ok (.iconst 1, 1) := by decide +kernel
theorem dX12_weigh_6 : decode cX12_weigh 6 = .ok (.iadd, 1) := by decide +kernel
theorem dX12_weigh_7 : decode cX12_weigh 7 = .ok (.putfield 150, 3) := by decide +kernel
theorem dX12_weigh_10 : decode cX12_weigh 10 = .ok (.aload_n 0, 1) := by decide +kernel
theorem dX12_weigh_11 : decode cX12_weigh 11 = .ok (.aload_n 0, 1) := by decide +kernel
theorem dX12_weigh_12 : decode cX12_weigh 12 = .ok (.getfield 214, 3) := by decide +kernel
theorem dX12_weigh_15 : decode cX12_weigh 15 = .ok (.iconst 2, 1) := by decide +kernel
theorem dX12_weigh_16 : decode cX12_weigh 16 = .ok (.iadd, 1) := by decide +kernel
theorem dX12_weigh_17 : decode cX12_weigh 17 = .ok (.putfield 157, 3) := by decide +kernel
theorem dX12_weigh_20 : decode cX12_weigh 20 = .ok (.iconst 0, 1) := by decide +kernel
theorem dX12_weigh_21 : decode cX12_weigh 21 = .ok (.istore_n 2, 1) := by decide +kernel
theorem dX12_weigh_22 : decode cX12_weigh 22 = .ok (.iload_n 2, 1) := by decide +kernel
theorem dX12_weigh_23 : decode cX12_weigh 23 = .ok (.aload_n 0, 1) := by decide +kernel
theorem dX12_weigh_24 : decode cX12_weigh 24 = .ok (.getfield 214, 3) := by decide +kernel
theorem dX12_weigh_27 : decode cX12_weigh 27 = .ok (.if_icmp .ge 129, 3) := by decide +kernel
theorem dX12_weigh_30 : decode cX12_weigh 30 = .ok (.iconst 0, 1) := by decide +kernel
theorem dX12_weigh_31 : decode cX12_weigh 31 = .ok (.istore_n 3, 1) := by decide +kernel
theorem dX12_weigh_32 : decode cX12_weigh 32 = .ok (.iload_n 3, 1) := by decide +kernel
theorem dX12_weigh_33 : decode cX12_weigh 33 = .ok (.aload_n 0, 1) := by decide +kernel
theorem dX12_weigh_34 : decode cX12_weigh 34 = .ok (.getfield 214, 3) := by decide +kernel
theorem dX12_weigh_37 : decode cX12_weigh 37 = .ok (.if_icmp .ge 58, 3) := by decide +kernel
theorem dX12_weigh_40 : decode cX12_weigh 40 = .ok (.aload_n 0, 1) := by decide +kernel
theorem dX12_weigh_41 : decode cX12_weigh 41 = .ok (.aload_n 0, 1) := by decide +kernel
theorem dX12_weigh_42 : decode cX12_weigh 42 = .ok (.iload_n 2, 1) := by decide +kernel
theorem dX12_weigh_43 : decode cX12_weigh 43 = .ok (.iload_n 3, 1) := by decide +kernel
theorem dX12_weigh_44 : decode cX12_weigh 44 = .ok (.invokevirtual 153, 3) := by decide +kernel
theorem dX12_weigh_47 : decode cX12_weigh 47 = .ok (.aload_n 0, 1) := by decide +kernel
theorem dX12_weigh_48 : decode cX12_weigh 48 = .ok (.iload_n 1, 1) := by decide +kernel
theorem dX12_weigh_49 : decode cX12_weigh 49 = .ok (.aload_n 0, 1) := by decide +kernel
theorem dX12_weigh_50 : decode cX12_weigh 50 = .ok (.getfield 66, 3) := by decide +kernel
theorem dX12_weigh_53 : decode cX12_weigh 53 = .ok (.iload_n 2, 1) := by decide +kernel
theorem dX12_weigh_54 : decode cX12_weigh 54 = .ok (.iaload, 1) := by decide +kernel
theorem dX12_weigh_55 : decode cX12_weigh 55 = .ok (.aload_n 0, 1) := by decide +kernel
theorem dX12_weigh_56 : decode cX12_weigh 56 = .ok (.getfield 66, 3) := by decide +kernel
theorem dX12_weigh_59 : decode cX12_weigh 59 = .ok (.iload_n 3, 1) := by decide +kernel
theorem dX12_weigh_60 : decode cX12_weigh 60 = .ok (.iaload, 1) := by decide +kernel
theorem dX12_weigh_61 : decode cX12_weigh 61 = .ok (.invokevirtual 220, 3) := by decide +kernel
theorem dX12_weigh_64 : decode cX12_weigh 64 = .ok (.iload_n 2, 1) := by decide +kernel
theorem dX12_weigh_65 : decode cX12_weigh 65 = .ok (.iload_n 3, 1) := by decide +kernel
theorem dX12_weigh_66 : decode cX12_weigh 66 = .ok (.if_icmp .ne 17, 3) := by decide +kernel
theorem dX12_weigh_69 : decode cX12_weigh 69 = .ok (.aload_n 0, 1) := by decide +kernel
theorem dX12_weigh_70 : decode cX12_weigh 70 = .ok (.getfield 32, 3) := by decide +kernel
theorem dX12_weigh_73 : decode cX12_weigh 73 = .ok (.aload_n 0, 1) := by decide +kernel
theorem dX12_weigh_74 : decode cX12_weigh 74 = .ok (.getfield 66, 3) := by decide +kernel
theorem dX12_weigh_77 : decode cX12_weigh 77 = .ok (.iload_n 2, 1) := by decide +kernel
theorem dX12_weigh_78 : decode cX12_weigh 78 = .ok (.iaload, 1) := by decide +kernel
theorem dX12_weigh_79 : decode cX12_weigh 79 = .ok (.iaload, 1) := by decide +kernel
theorem dX12_weigh_80 : decode cX12_weigh 80 = .ok (.goto 4, 3) := by decide +kernel
theorem dX12_weigh_83 : decode cX12_weigh 83 = .ok (.iconst 0, 1) := by decide +kernel
theorem dX12_weigh_84 : decode cX12_weigh 84 = .ok (.isub, 1) := by decide +kernel
theorem dX12_weigh_85 : decode cX12_weigh 85 = .ok (.i2l, 1) := by decide +kernel
theorem dX12_weigh_86 : decode cX12_weigh 86 = .ok (.invokevirtual 73, 3) := by decide +kernel
theorem dX12_weigh_89 : decode cX12_weigh 89 = .ok (.iinc 3 1, 3) := by decide +kernel
theorem dX12_weigh_92 : decode cX12_weigh 92 = .ok (.goto (-60), 3) := by decide +kernel
theorem dX12_weigh_95 : decode cX12_weigh 95 = .ok (.aload_n 0, 1) := by decide +kernel
theorem dX12_weigh_96 : decode cX12_weigh 96 = .ok (.aload_n 0, 1) := by decide +kernel
theorem dX12_weigh_97 : decode cX12_weigh 97 = .ok (.iload_n 2, 1) := by decide +kernel
theorem dX12_weigh_98 : decode cX12_weigh 98 = .ok (.aload_n 0, 1) := by decide +kernel
theorem dX12_weigh_99 : decode cX12_weigh 99 = .ok (.getfield 214, 3) := by decide +kernel
theorem dX12_weigh_102 : decode cX12_weigh 102 = .ok (.invokevirtual 153, 3) := by decide +kernel
theorem dX12_weigh_105 : decode cX12_weigh 105 = .ok (.lconst 1, 1) := by decide +kernel
theorem dX12_weigh_106 : decode cX12_weigh 106 = .ok (.invokevirtual 73, 3) := by decide +kernel
theorem dX12_weigh_109 : decode cX12_weigh 109 = .ok (.aload_n 0, 1) := by decide +kernel
theorem dX12_weigh_110 : decode cX12_weigh 110 = .ok (.aload_n 0, 1) := by decide +kernel
theorem dX12_weigh_111 : decode cX12_weigh 111 = .ok (.iload_n 2, 1) := by decide +kernel
theorem dX12_weigh_112 : decode cX12_weigh 112 = .ok (.aload_n 0, 1) := by decide +kernel
theorem dX12_weigh_113 : decode cX12_weigh 113 = .ok (.getfield 214, 3) := by decide +kernel
theorem dX12_weigh_116 : decode cX12_weigh 116 = .ok (.iconst 1, 1) := by decide +kernel
theorem dX12_weigh_117 : decode cX12_weigh 117 = .ok (.iadd, 1) := by decide +kernel
theorem dX12_weigh_118 : decode cX12_weigh 118 = .ok (.invokevirtual 153, 3) := by decide +kernel
theorem dX12_weigh_121 : decode cX12_weigh 121 = .ok (.aload_n 0, 1) := by decide +kernel
theorem dX12_weigh_122 : decode cX12_weigh 122 = .ok (.iload_n 1, 1) := by decide +kernel
theorem dX12_weigh_123 : decode cX12_weigh 123 = .ok (.aload_n 0, 1) := by decide +kernel
theorem dX12_weigh_124 : decode cX12_weigh 124 = .ok (.getfield 66, 3) := by decide +kernel
theorem dX12_weigh_127 : decode cX12_weigh 127 = .ok (.iload_n 2, 1) := by decide +kernel
theorem dX12_weigh_128 : decode cX12_weigh 128 = .ok (.iaload, 1) := by decide +kernel
theorem dX12_weigh_129 : decode cX12_weigh 129 = .ok (.invokevirtual 224, 3) := by decide +kernel
theorem dX12_weigh_132 : decode cX12_weigh 132 = .ok (.i2l, 1) := by decide +kernel
theorem dX12_weigh_133 : decode cX12_weigh 133 = .ok (.invokevirtual 73, 3) := by decide +kernel
theorem dX12_weigh_136 : decode cX12_weigh 136 = .ok (.aload_n 0, 1) := by decide +kernel
theorem dX12_weigh_137 : decode cX12_weigh 137 = .ok (.aload_n 0, 1) := by decide +kernel
theorem dX12_weigh_138 : decode cX12_weigh 138 = .ok (.aload_n 0, 1) := by decide +kernel
theorem dX12_weigh_139 : decode cX12_weigh 139 = .ok (.getfield 214, 3) := by decide +kernel
theorem dX12_weigh_142 : decode cX12_weigh 142 = .ok (.iload_n 2, 1) := by decide +kernel
theorem dX12_weigh_143 : decode cX12_weigh 143 = .ok (.invokevirtual 153, 3) := by decide +kernel
theorem dX12_weigh_146 : decode cX12_weigh 146 = .ok (.lconst 1, 1) := by decide +kernel
theorem dX12_weigh_147 : decode cX12_weigh 147 = .ok (.invokevirtual 73, 3) := by decide +kernel
theorem dX12_weigh_150 : decode cX12_weigh 150 = .ok (.iinc 2 1, 3) := by decide +kernel
theorem dX12_weigh_153 : decode cX12_weigh 153 = .ok (.goto (-131), 3) := by decide +kernel
theorem dX12_weigh_156 : decode cX12_weigh 156 = .ok (.aload_n 0, 1) := by decide +kernel
theorem dX12_weigh_157 : decode cX12_weigh 157 = .ok (.aload_n 0, 1) := by decide +kernel
theorem dX12_weigh_158 : decode cX12_weigh 158 = .ok (.aload_n 0, 1) := by decide +kernel
theorem dX12_weigh_159 : decode cX12_weigh 159 = .ok (.getfield 214, 3) := by decide +kernel
theorem dX12_weigh_162 : decode cX12_weigh 162 = .ok (.aload_n 0, 1) := by decide +kernel
theorem dX12_weigh_163 : decode cX12_weigh 163 = .ok (.getfield 214, 3) := by decide +kernel
theorem dX12_weigh_166 : decode cX12_weigh 166 = .ok (.invokevirtual 153, 3) := by decide +kernel
theorem dX12_weigh_169 : decode cX12_weigh 169 = .ok (.lconst 0, 1) := by decide +kernel
theorem dX12_weigh_170 : decode cX12_weigh 170 = .ok (.invokevirtual 73, 3) := by decide +kernel
theorem dX12_weigh_173 : decode cX12_weigh 173 = .ok (.aload_n 0, 1) := by decide +kernel
theorem dX12_weigh_174 : decode cX12_weigh 174 = .ok (.aload_n 0, 1) := by decide +kernel
theorem dX12_weigh_175 : decode cX12_weigh 175 = .ok (.aload_n 0, 1) := by decide +kernel
theorem dX12_weigh_176 : decode cX12_weigh 176 = .ok (.getfield 214, 3) := by decide +kernel
theorem dX12_weigh_179 : decode cX12_weigh 179 = .ok (.aload_n 0, 1) := by decide +kernel
theorem dX12_weigh_180 : decode cX12_weigh 180 = .ok (.getfield 214, 3) := by decide +kernel
theorem dX12_weigh_183 : decode cX12_weigh 183 = .ok (.iconst 1, 1) := by decide +kernel
theorem dX12_weigh_184 : decode cX12_weigh 184 = .ok (.iadd, 1) := by decide +kernel
theorem dX12_weigh_185 : decode cX12_weigh 185 = .ok (.invokevirtual 153, 3) := by decide +kernel
theorem dX12_weigh_188 : decode cX12_weigh 188 = .ok (.aload_n 0, 1) := by decide +kernel
theorem dX12_weigh_189 : decode cX12_weigh 189 = .ok (.getfield 211, 3) := by decide +kernel
theorem dX12_weigh_192 : decode cX12_weigh 192 = .ok (.i2l, 1) := by decide +kernel
theorem dX12_weigh_193 : decode cX12_weigh 193 = .ok (.invokevirtual 73, 3) := by decide +kernel
theorem dX12_weigh_196 : decode cX12_weigh 196 = .ok (.aload_n 0, 1) := by decide +kernel
theorem dX12_weigh_197 : decode cX12_weigh 197 = .ok (.aload_n 0, 1) := by decide +kernel
theorem dX12_weigh_198 : decode cX12_weigh 198 = .ok (.getfield 214, 3) := by decide +kernel
theorem dX12_weigh_201 : decode cX12_weigh 201 = .ok (.iconst 1, 1) := by decide +kernel
theorem dX12_weigh_202 : decode cX12_weigh 202 = .ok (.iadd, 1) := by decide +kernel
theorem dX12_weigh_203 : decode cX12_weigh 203 = .ok (.invokevirtual 227, 3) := by decide +kernel
theorem dX12_weigh_206 : decode cX12_weigh 206 = .ok (.aload_n 0, 1) := by decide +kernel
theorem dX12_weigh_207 : decode cX12_weigh 207 = .ok (.getfield 144, 3) := by decide +kernel
theorem dX12_weigh_210 : decode cX12_weigh 210 = .ok (.aload_n 0, 1) := by decide +kernel
theorem dX12_weigh_211 : decode cX12_weigh 211 = .ok (.getfield 214, 3) := by decide +kernel
theorem dX12_weigh_214 : decode cX12_weigh 214 = .ok (.iconst 1, 1) := by decide +kernel
theorem dX12_weigh_215 : decode cX12_weigh 215 = .ok (.iadd, 1) := by decide +kernel
theorem dX12_weigh_216 : decode cX12_weigh 216 = .ok (.if_icmp .ne 7, 3) := by decide +kernel
theorem dX12_weigh_219 : decode cX12_weigh 219 = .ok (.iconst 1, 1) := by decide +kernel
theorem dX12_weigh_220 : decode cX12_weigh 220 = .ok (.goto 4, 3) := by decide +kernel
theorem dX12_weigh_223 : decode cX12_weigh 223 = .ok (.iconst 0, 1) := by decide +kernel
theorem dX12_weigh_224 : decode cX12_weigh 224 = .ok (.ireturn, 1) := by decide +kernel
theorem dX12_told_0 : decode cX12_told 0 = .ok (.aload_n 0, 1) := by decide +kernel
theorem dX12_told_1 : decode cX12_told 1 = .ok (.aload_n 0, 1) := by decide +kernel
theorem dX12_told_2 : decode cX12_told 2 = .ok (.getfield 54, 3) := by decide +kernel
theorem dX12_told_5 : decode cX12_told 5 = .ok (.iload_n 1, 1) := by decide +kernel
theorem dX12_told_6 : decode cX12_told 6 = .ok (.iaload, 1) := by decide +kernel
theorem dX12_told_7 : decode cX12_told 7 = .ok (.aload_n 0, 1) := by decide +kernel
theorem dX12_told_8 : decode cX12_told 8 = .ok (.getfield 214, 3) := by decide +kernel
theorem dX12_told_11 : decode cX12_told 11 = .ok (.iconst 1, 1) := by decide +kernel
theorem dX12_told_12 : decode cX12_told 12 = .ok (.iadd, 1) := by decide +kernel
theorem dX12_told_13 : decode cX12_told 13 = .ok (.invokevirtual 153, 3) := by decide +kernel
theorem dX12_told_16 : decode cX12_told 16 = .ok (.ireturn, 1) := by decide +kernel
theorem dX12_guess_0 : decode cX12_guess 0 = .ok (.aload_n 0, 1) := by decide +kernel
theorem dX12_guess_1 : decode cX12_guess 1 = .ok (.iload_n 1, 1) := by decide +kernel
theorem dX12_guess_2 : decode cX12_guess 2 = .ok (.lconst 0, 1) := by decide +kernel
theorem dX12_guess_3 : decode cX12_guess 3 = .ok (.invokevirtual 73, 3) := by decide +kernel
theorem dX12_guess_6 : decode cX12_guess 6 = .ok (.iconst 0, 1) := by decide +kernel
theorem dX12_guess_7 : decode cX12_guess 7 = .ok (.istore_n 2, 1) := by decide +kernel
theorem dX12_guess_8 : decode cX12_guess 8 = .ok (.iload_n 2, 1) := by decide +kernel
theorem dX12_guess_9 : decode cX12_guess 9 = .ok (.aload_n 0, 1) := by decide +kernel
theorem dX12_guess_10 : decode cX12_guess 10 = .ok (.getfield 214, 3) := by decide +kernel
theorem dX12_guess_13 : decode cX12_guess 13 = .ok (.if_icmp .ge 31, 3) := by decide +kernel
theorem dX12_guess_16 : decode cX12_guess 16 = .ok (.aload_n 0, 1) := by decide +kernel
theorem dX12_guess_17 : decode cX12_guess 17 = .ok (.iload_n 1, 1) := by decide +kernel
theorem dX12_guess_18 : decode cX12_guess 18 = .ok (.aload_n 0, 1) := by decide +kernel
theorem dX12_guess_19 : decode cX12_guess 19 = .ok (.iload_n 2, 1) := by decide +kernel
theorem dX12_guess_20 : decode cX12_guess 20 = .ok (.invokevirtual 230, 3) := by decide +kernel
theorem dX12_guess_23 : decode cX12_guess 23 = .ok (.aload_n 0, 1) := by decide +kernel
theorem dX12_guess_24 : decode cX12_guess 24 = .ok (.getfield 29, 3) := by decide +kernel
theorem dX12_guess_27 : decode cX12_guess 27 = .ok (.aload_n 0, 1) := by decide +kernel
theorem dX12_guess_28 : decode cX12_guess 28 = .ok (.getfield 66, 3) := by decide +kernel
theorem dX12_guess_31 : decode cX12_guess 31 = .ok (.iload_n 2, 1) := by decide +kernel
theorem dX12_guess_32 : decode cX12_guess 32 = .ok (.iaload, 1) := by decide +kernel
theorem dX12_guess_33 : decode cX12_guess 33 = .ok (.iaload, 1) := by decide +kernel
theorem dX12_guess_34 : decode cX12_guess 34 = .ok (.i2l, 1) := by decide +kernel
theorem dX12_guess_35 : decode cX12_guess 35 = .ok (.invokevirtual 134, 3) := by decide +kernel
theorem dX12_guess_38 : decode cX12_guess 38 = .ok (.iinc 2 1, 3) := by decide +kernel
theorem dX12_guess_41 : decode cX12_guess 41 = .ok (.goto (-33), 3) := by decide +kernel
theorem dX12_guess_44 : decode cX12_guess 44 = .ok (.return_, 1) := by decide +kernel
theorem dX12_top_0 : decode cX12_top 0 = .ok (.bipush 110, 2) := by decide +kernel
theorem dX12_top_2 : decode cX12_top 2 = .ok (.iload_n 1, 1) := by decide +kernel
theorem dX12_top_3 : decode cX12_top 3 = .ok (.iadd, 1) := by decide +kernel
theorem dX12_top_4 : decode cX12_top 4 = .ok (.ireturn, 1) := by decide +kernel
theorem dX12_bottom_0 : decode cX12_bottom 0 = .ok (.bipush 121, 2) := by decide +kernel
theorem dX12_bottom_2 : decode cX12_bottom 2 = .ok (.iload_n 1, 1) := by decide +kernel
theorem dX12_bottom_3 : decode cX12_bottom 3 = .ok (.iadd, 1) := by decide +kernel
theorem dX12_bottom_4 : decode cX12_bottom 4 = .ok (.ireturn, 1) := by decide +kernel
theorem dX12_isAnswered_0 : decode cX12_isAnswered 0 = .ok (.aload_n 0, 1) := by decide +kernel
theorem dX12_isAnswered_1 : decode cX12_isAnswered 1 = .ok (.invokevirtual 233, 3) := by decide +kernel
theorem dX12_isAnswered_4 : decode cX12_isAnswered 4 = .ok (.aload_n 0, 1) := by decide +kernel
theorem dX12_isAnswered_5 : decode cX12_isAnswered 5 = .ok (.aload_n 0, 1) := by decide +kernel
theorem dX12_isAnswered_6 : decode cX12_isAnswered 6 = .ok (.getfield 38, 3) := by decide +kernel
theorem dX12_isAnswered_9 : decode cX12_isAnswered 9 = .ok (.invokevirtual 236, 3) := by decide +kernel
theorem dX12_isAnswered_12 : decode cX12_isAnswered 12 = .ok (.ifCond .ne 5, 3) := by decide +kernel
theorem dX12_isAnswered_15 : decode cX12_isAnswered 15 = .ok (.iconst 0, 1) := by decide +kernel
theorem dX12_isAnswered_16 : decode cX12_isAnswered 16 = .ok (.ireturn, 1) := by decide +kernel
theorem dX12_isAnswered_17 : decode cX12_isAnswered 17 = .ok (.aload_n 0, 1) := by decide +kernel
theorem dX12_isAnswered_18 : decode cX12_isAnswered 18 = .ok (.iconst 1, 1) := by decide +kernel
theorem dX12_isAnswered_19 : decode cX12_isAnswered 19 = .ok (.putfield 186, 3) := by decide +kernel
theorem dX12_isAnswered_22 : decode cX12_isAnswered 22 = .ok (.aload_n 0, 1) := by decide +kernel
theorem dX12_isAnswered_23 : decode cX12_isAnswered 23 = .ok (.bipush 7, 2) := by decide +kernel
theorem dX12_isAnswered_25 : decode cX12_isAnswered 25 = .ok (.lconst 0, 1) := by decide +kernel
theorem dX12_isAnswered_26 : decode cX12_isAnswered 26 = .ok (.invokevirtual 73, 3) := by decide +kernel
theorem dX12_isAnswered_29 : decode cX12_isAnswered 29 = .ok (.aload_n 0, 1) := by decide +kernel
theorem dX12_isAnswered_30 : decode cX12_isAnswered 30 = .ok (.bipush 7, 2) := by decide +kernel
theorem dX12_isAnswered_32 : decode cX12_isAnswered 32 = .ok (.bipush 8, 2) := by decide +kernel
theorem dX12_isAnswered_34 : decode cX12_isAnswered 34 = .ok (.aload_n 0, 1) := by decide +kernel
theorem dX12_isAnswered_35 : decode cX12_isAnswered 35 = .ok (.getfield 211, 3) := by decide +kernel
theorem dX12_isAnswered_38 : decode cX12_isAnswered 38 = .ok (.i2l, 1) := by decide +kernel
theorem dX12_isAnswered_39 : decode cX12_isAnswered 39 = .ok (.invokevirtual 134, 3) := by decide +kernel
theorem dX12_isAnswered_42 : decode cX12_isAnswered 42 = .ok (.aload_n 0, 1) := by decide +kernel
theorem dX12_isAnswered_43 : decode cX12_isAnswered 43 = .ok (.aload_n 0, 1) := by decide +kernel
theorem dX12_isAnswered_44 : decode cX12_isAnswered 44 = .ok (.iconst 0, 1) := by decide +kernel
theorem dX12_isAnswered_45 : decode cX12_isAnswered 45 = .ok (.invokevirtual 239, 3) := by decide +kernel
theorem dX12_isAnswered_48 : decode cX12_isAnswered 48 = .ok (.invokevirtual 242, 3) := by decide +kernel
theorem dX12_isAnswered_51 : decode cX12_isAnswered 51 = .ok (.aload_n 0, 1) := by decide +kernel
theorem dX12_isAnswered_52 : decode cX12_isAnswered 52 = .ok (.aload_n 0, 1) := by decide +kernel
theorem dX12_isAnswered_53 : decode cX12_isAnswered 53 = .ok (.iconst 0, 1) := by decide +kernel
theorem dX12_isAnswered_54 : decode cX12_isAnswered 54 = .ok (.invokevirtual 245, 3) := by decide +kernel
theorem dX12_isAnswered_57 : decode cX12_isAnswered 57 = .ok (.bipush 7, 2) := by decide +kernel
theorem dX12_isAnswered_59 : decode cX12_isAnswered 59 = .ok (.invokevirtual 118, 3) := by decide +kernel
theorem dX12_isAnswered_62 : decode cX12_isAnswered 62 = .ok (.aload_n 0, 1) := by decide +kernel
theorem dX12_isAnswered_63 : decode cX12_isAnswered 63 = .ok (.aload_n 0, 1) := by decide +kernel
theorem dX12_isAnswered_64 : decode cX12_isAnswered 64 = .ok (.iconst 2, 1) := by decide +kernel
theorem dX12_isAnswered_65 : decode cX12_isAnswered 65 = .ok (.invokevirtual 239, 3) := by decide +kernel
theorem dX12_isAnswered_68 : decode cX12_isAnswered 68 = .ok (.aload_n 0, 1) := by decide +kernel
theorem dX12_isAnswered_69 : decode cX12_isAnswered 69 = .ok (.aload_n 0, 1) := by decide +kernel
theorem dX12_isAnswered_70 : decode cX12_isAnswered 70 = .ok (.getfield 214, 3) := by decide +kernel
theorem dX12_isAnswered_73 : decode cX12_isAnswered 73 = .ok (.invokevirtual 230, 3) := by decide +kernel
theorem dX12_isAnswered_76 : decode cX12_isAnswered 76 = .ok (.invokevirtual 118, 3) := by decide +kernel
theorem dX12_isAnswered_79 : decode cX12_isAnswered 79 = .ok (.aload_n 0, 1) := by decide +kernel
theorem dX12_isAnswered_80 : decode cX12_isAnswered 80 = .ok (.aload_n 0, 1) := by decide +kernel
theorem dX12_isAnswered_81 : decode cX12_isAnswered 81 = .ok (.iconst 2, 1) := by decide +kernel
theorem dX12_isAnswered_82 : decode cX12_isAnswered 82 = .ok (.invokevirtual 245, 3) := by decide +kernel
theorem dX12_isAnswered_85 : decode cX12_isAnswered 85 = .ok (.bipush 7, 2) := by decide +kernel
theorem dX12_isAnswered_87 : decode cX12_isAnswered 87 = .ok (.invokevirtual 118, 3) := by decide +kernel
theorem dX12_isAnswered_90 : decode cX12_isAnswered 90 = .ok (.iconst 0, 1) := by decide +kernel
theorem dX12_isAnswered_91 : decode cX12_isAnswered 91 = .ok (.istore_n 1, 1) := by decide +kernel
theorem dX12_isAnswered_92 : decode cX12_isAnswered 92 = .ok (.iload_n 1, 1) := by decide +kernel
theorem dX12_isAnswered_93 : decode cX12_isAnswered 93 = .ok (.bipush 8, 2) := by decide +kernel
theorem dX12_isAnswered_95 : decode cX12_isAnswered 95 = .ok (.if_icmp .ge 33, 3) := by decide +kernel
theorem dX12_isAnswered_98 : decode cX12_isAnswered 98 = .ok (.aload_n 0, 1) := by decide +kernel
theorem dX12_isAnswered_99 : decode cX12_isAnswered 99 = .ok (.aload_n 0, 1) := by decide +kernel
theorem dX12_isAnswered_100 : decode cX12_isAnswered 100 = .ok (.iconst 3, 1) := by decide +kernel
theorem dX12_isAnswered_101 : decode cX12_isAnswered 101 = .ok (.iload_n 1, 1) := by decide +kernel
theorem dX12_isAnswered_102 : decode cX12_isAnswered 102 = .ok (.iadd, 1) := by decide +kernel
theorem dX12_isAnswered_103 : decode cX12_isAnswered 103 = .ok (.invokevirtual 239, 3) := by decide +kernel
theorem dX12_isAnswered_106 : decode cX12_isAnswered 106 = .ok (.lconst 0, 1) := by decide +kernel
theorem dX12_isAnswered_107 : decode cX12_isAnswered 107 = .ok (.invokevirtual 73, 3) := by decide +kernel
theorem dX12_isAnswered_110 : decode cX12_isAnswered 110 = .ok (.aload_n 0, 1) := by decide +kernel
theorem dX12_isAnswered_111 : decode cX12_isAnswered 111 = .ok (.aload_n 0, 1) := by decide +kernel
theorem dX12_isAnswered_112 : decode cX12_isAnswered 112 = .ok (.iconst 3, 1) := by decide +kernel
theorem dX12_isAnswered_113 : decode cX12_isAnswered 113 = .ok (.iload_n 1, 1) := by decide +kernel
theorem dX12_isAnswered_114 : decode cX12_isAnswered 114 = .ok (.iadd, 1) := by decide +kernel
theorem dX12_isAnswered_115 : decode cX12_isAnswered 115 = .ok (.invokevirtual 245, 3) := by decide +kernel
theorem dX12_isAnswered_118 : decode cX12_isAnswered 118 = .ok (.lconst 1, 1) := by decide +kernel
theorem dX12_isAnswered_119 : decode cX12_isAnswered 119 = .ok (.invokevirtual 73, 3) := by decide +kernel
theorem dX12_isAnswered_122 : decode cX12_isAnswered 122 = .ok (.iinc 1 1, 3) := by decide +kernel
theorem dX12_isAnswered_125 : decode cX12_isAnswered 125 = .ok (.goto (-33), 3) := by decide +kernel
theorem dX12_isAnswered_128 : decode cX12_isAnswered 128 = .ok (.iconst 0, 1) := by decide +kernel
theorem dX12_isAnswered_129 : decode cX12_isAnswered 129 = .ok (.istore_n 1, 1) := by decide +kernel
theorem dX12_isAnswered_130 : decode cX12_isAnswered 130 = .ok (.iload_n 1, 1) := by decide +kernel
theorem dX12_isAnswered_131 : decode cX12_isAnswered 131 = .ok (.aload_n 0, 1) := by decide +kernel
theorem dX12_isAnswered_132 : decode cX12_isAnswered 132 = .ok (.getfield 214, 3) := by decide +kernel
theorem dX12_isAnswered_135 : decode cX12_isAnswered 135 = .ok (.if_icmp .ge 48, 3) := by decide +kernel
theorem dX12_isAnswered_138 : decode cX12_isAnswered 138 = .ok (.aload_n 0, 1) := by decide +kernel
theorem dX12_isAnswered_139 : decode cX12_isAnswered 139 = .ok (.aload_n 0, 1) := by decide +kernel
theorem dX12_isAnswered_140 : decode cX12_isAnswered 140 = .ok (.iconst 3, 1) := by decide +kernel
theorem dX12_isAnswered_141 : decode cX12_isAnswered 141 = .ok (.aload_n 0, 1) := by decide +kernel
theorem dX12_isAnswered_142 : decode cX12_isAnswered 142 = .ok (.getfield 66, 3) := by decide +kernel
theorem dX12_isAnswered_145 : decode cX12_isAnswered 145 = .ok (.iload_n 1, 1) := by decide +kernel
theorem dX12_isAnswered_146 : decode cX12_isAnswered 146 = .ok (.iaload, 1) := by decide +kernel
theorem dX12_isAnswered_147 : decode cX12_isAnswered 147 = .ok (.iadd, 1) := by decide +kernel
theorem dX12_isAnswered_148 : decode cX12_isAnswered 148 = .ok (.invokevirtual 239, 3) := by decide +kernel
theorem dX12_isAnswered_151 : decode cX12_isAnswered 151 = .ok (.aload_n 0, 1) := by decide +kernel
theorem dX12_isAnswered_152 : decode cX12_isAnswered 152 = .ok (.iload_n 1, 1) := by decide +kernel
theorem dX12_isAnswered_153 : decode cX12_isAnswered 153 = .ok (.invokevirtual 230, 3) := by decide +kernel
theorem dX12_isAnswered_156 : decode cX12_isAnswered 156 = .ok (.invokevirtual 118, 3) := by decide +kernel
theorem dX12_isAnswered_159 : decode cX12_isAnswered 159 = .ok (.aload_n 0, 1) := by decide +kernel
theorem dX12_isAnswered_160 : decode cX12_isAnswered 160 = .ok (.aload_n 0, 1) := by decide +kernel
theorem dX12_isAnswered_161 : decode cX12_isAnswered 161 = .ok (.iconst 3, 1) := by decide +kernel
theorem dX12_isAnswered_162 : decode cX12_isAnswered 162 = .ok (.aload_n 0, 1) := by decide +kernel
theorem dX12_isAnswered_163 : decode cX12_isAnswered 163 = .ok (.getfield 66, 3) := by decide +kernel
theorem dX12_isAnswered_166 : decode cX12_isAnswered 166 = .ok (.iload_n 1, 1) := by decide +kernel
theorem dX12_isAnswered_167 : decode cX12_isAnswered 167 = .ok (.iaload, 1) := by decide +kernel
theorem dX12_isAnswered_168 : decode cX12_isAnswered 168 = .ok (.iadd, 1) := by decide +kernel
theorem dX12_isAnswered_169 : decode cX12_isAnswered 169 = .ok (.invokevirtual 245, 3) := by decide +kernel
theorem dX12_isAnswered_172 : decode cX12_isAnswered 172 = .ok (.bipush 7, 2) := by decide +kernel
theorem dX12_isAnswered_174 : decode cX12_isAnswered 174 = .ok (.invokevirtual 118, 3) := by decide +kernel
theorem dX12_isAnswered_177 : decode cX12_isAnswered 177 = .ok (.iinc 1 1, 3) := by decide +kernel
theorem dX12_isAnswered_180 : decode cX12_isAnswered 180 = .ok (.goto (-50), 3) := by decide +kernel
theorem dX12_isAnswered_183 : decode cX12_isAnswered 183 = .ok (.aload_n 0, 1) := by decide +kernel
theorem dX12_isAnswered_184 : decode cX12_isAnswered 184 = .ok (.bipush 9, 2) := by decide +kernel
theorem dX12_isAnswered_186 : decode cX12_isAnswered 186 = .ok (.lconst 0, 1) := by decide +kernel
theorem dX12_isAnswered_187 : decode cX12_isAnswered 187 = .ok (.invokevirtual 73, 3) := by decide +kernel
theorem dX12_isAnswered_190 : decode cX12_isAnswered 190 = .ok (.iconst 0, 1) := by decide +kernel
theorem dX12_isAnswered_191 : decode cX12_isAnswered 191 = .ok (.istore_n 1, 1) := by decide +kernel
theorem dX12_isAnswered_192 : decode cX12_isAnswered 192 = .ok (.iload_n 1, 1) := by decide +kernel
theorem dX12_isAnswered_193 : decode cX12_isAnswered 193 = .ok (.aload_n 0, 1) := by decide +kernel
theorem dX12_isAnswered_194 : decode cX12_isAnswered 194 = .ok (.getfield 214, 3) := by decide +kernel
theorem dX12_isAnswered_197 : decode cX12_isAnswered 197 = .ok (.if_icmp .ge 35, 3) := by decide +kernel
theorem dX12_isAnswered_200 : decode cX12_isAnswered 200 = .ok (.aload_n 0, 1) := by decide +kernel
theorem dX12_isAnswered_201 : decode cX12_isAnswered 201 = .ok (.bipush 9, 2) := by decide +kernel
theorem dX12_isAnswered_203 : decode cX12_isAnswered 203 = .ok (.aload_n 0, 1) := by decide +kernel
theorem dX12_isAnswered_204 : decode cX12_isAnswered 204 = .ok (.iload_n 1, 1) := by decide +kernel
theorem dX12_isAnswered_205 : decode cX12_isAnswered 205 = .ok (.invokevirtual 230, 3) := by decide +kernel
theorem dX12_isAnswered_208 : decode cX12_isAnswered 208 = .ok (.aload_n 0, 1) := by decide +kernel
theorem dX12_isAnswered_209 : decode cX12_isAnswered 209 = .ok (.aload_n 0, 1) := by decide +kernel
theorem dX12_isAnswered_210 : decode cX12_isAnswered 210 = .ok (.getfield 38, 3) := by decide +kernel
theorem dX12_isAnswered_213 : decode cX12_isAnswered 213 = .ok (.aload_n 0, 1) := by decide +kernel
theorem dX12_isAnswered_214 : decode cX12_isAnswered 214 = .ok (.getfield 66, 3) := by decide +kernel
theorem dX12_isAnswered_217 : decode cX12_isAnswered 217 = .ok (.iload_n 1, 1) := by decide +kernel
theorem dX12_isAnswered_218 : decode cX12_isAnswered 218 = .ok (.iaload, 1) := by decide +kernel
theorem dX12_isAnswered_219 : decode cX12_isAnswered 219 = .ok (.invokevirtual 224, 3) := by decide +kernel
theorem dX12_isAnswered_222 : decode cX12_isAnswered 222 = .ok (.i2l, 1) := by decide +kernel
theorem dX12_isAnswered_223 : decode cX12_isAnswered 223 = .ok (.invokevirtual 134, 3) := by decide +kernel
theorem dX12_isAnswered_226 : decode cX12_isAnswered 226 = .ok (.iinc 1 1, 3) := by decide +kernel
theorem dX12_isAnswered_229 : decode cX12_isAnswered 229 = .ok (.goto (-37), 3) := by decide +kernel
theorem dX12_isAnswered_232 : decode cX12_isAnswered 232 = .ok (.aload_n 0, 1) := by decide +kernel
theorem dX12_isAnswered_233 : decode cX12_isAnswered 233 = .ok (.bipush 9, 2) := by decide +kernel
theorem dX12_isAnswered_235 : decode cX12_isAnswered 235 = .ok (.aload_n 0, 1) := by decide +kernel
theorem dX12_isAnswered_236 : decode cX12_isAnswered 236 = .ok (.aload_n 0, 1) := by decide +kernel
theorem dX12_isAnswered_237 : decode cX12_isAnswered 237 = .ok (.getfield 214, 3) := by decide +kernel
theorem dX12_isAnswered_240 : decode cX12_isAnswered 240 = .ok (.invokevirtual 230, 3) := by decide +kernel
theorem dX12_isAnswered_243 : decode cX12_isAnswered 243 = .ok (.aload_n 0, 1) := by decide +kernel
theorem dX12_isAnswered_244 : decode cX12_isAnswered 244 = .ok (.getfield 211, 3) := by decide +kernel
theorem dX12_isAnswered_247 : decode cX12_isAnswered 247 = .ok (.i2l, 1) := by decide +kernel
theorem dX12_isAnswered_248 : decode cX12_isAnswered 248 = .ok (.invokevirtual 134, 3) := by decide +kernel
theorem dX12_isAnswered_251 : decode cX12_isAnswered 251 = .ok (.lconst 0, 1) := by decide +kernel
theorem dX12_isAnswered_252 : decode cX12_isAnswered 252 = .ok (.lstore_n 1, 1) := by decide +kernel
theorem dX12_isAnswered_253 : decode cX12_isAnswered 253 = .ok (.iconst 0, 1) := by decide +kernel
theorem dX12_isAnswered_254 : decode cX12_isAnswered 254 = .ok (.istore_n 3, 1) := by decide +kernel
theorem dX12_isAnswered_255 : decode cX12_isAnswered 255 = .ok (.iload_n 3, 1) := by decide +kernel
theorem dX12_isAnswered_256 : decode cX12_isAnswered 256 = .ok (.aload_n 0, 1) := by decide +kernel
theorem dX12_isAnswered_257 : decode cX12_isAnswered 257 = .ok (.getfield 211, 3) := by decide +kernel
theorem dX12_isAnswered_260 : decode cX12_isAnswered 260 = .ok (.if_icmp .ge 73, 3) := by decide +kernel
theorem dX12_isAnswered_263 : decode cX12_isAnswered 263 = .ok (.iconst 0, 1) := by decide +kernel
theorem dX12_isAnswered_264 : decode cX12_isAnswered 264 = .ok (.istore 4, 2) := by decide +kernel
theorem dX12_isAnswered_266 : decode cX12_isAnswered 266 = .ok (.iload 4, 2) := by decide +kernel
theorem dX12_isAnswered_268 : decode cX12_isAnswered 268 = .ok (.aload_n 0, 1) := by decide +kernel
theorem dX12_isAnswered_269 : decode cX12_isAnswered 269 = .ok (.getfield 211, 3) := by decide +kernel
theorem dX12_isAnswered_272 : decode cX12_isAnswered 272 = .ok (.if_icmp .ge 55, 3) := by decide +kernel
theorem dX12_isAnswered_275 : decode cX12_isAnswered 275 = .ok (.lload_n 1, 1) := by decide +kernel
theorem dX12_isAnswered_276 : decode cX12_isAnswered 276 = .ok (.aload_n 0, 1) := by decide +kernel
theorem dX12_isAnswered_277 : decode cX12_isAnswered 277 = .ok (.getfield 35, 3) := by decide +kernel
theorem dX12_isAnswered_280 : decode cX12_isAnswered 280 = .ok (.bipush 81, 2) := by decide +kernel
theorem dX12_isAnswered_282 : decode cX12_isAnswered 282 = .ok (.aload_n 0, 1) := by decide +kernel
theorem dX12_isAnswered_283 : decode cX12_isAnswered 283 = .ok (.getfield 38, 3) := by decide +kernel
theorem dX12_isAnswered_286 : decode cX12_isAnswered 286 = .ok (.imul, 1) := by decide +kernel
theorem dX12_isAnswered_287 : decode cX12_isAnswered 287 = .ok (.aload_n 0, 1) := by decide +kernel
theorem dX12_isAnswered_288 : decode cX12_isAnswered 288 = .ok (.getfield 60, 3) := by decide +kernel
theorem dX12_isAnswered_291 : decode cX12_isAnswered 291 = .ok (.iload_n 3, 1) := by decide +kernel
theorem dX12_isAnswered_292 : decode cX12_isAnswered 292 = .ok (.iaload, 1) := by decide +kernel
theorem dX12_isAnswered_293 : decode cX12_isAnswered 293 = .ok (.aload_n 0, 1) := by decide +kernel
theorem dX12_isAnswered_294 : decode cX12_isAnswered 294 = .ok (.getfield 63, 3) := by decide +kernel
theorem dX12_isAnswered_297 : decode cX12_isAnswered 297 = .ok (.iload_n 3, 1) := by decide +kernel
theorem dX12_isAnswered_298 : decode cX12_isAnswered 298 = .ok (.iaload, 1) := by decide +kernel
theorem dX12_isAnswered_299 : decode cX12_isAnswered 299 = .ok (.aload_n 0, 1) := by decide +kernel
theorem dX12_isAnswered_300 : decode cX12_isAnswered 300 = .ok (.getfield 60, 3) := by decide +kernel
theorem dX12_isAnswered_303 : decode cX12_isAnswered 303 = .ok (.iload 4, 2) := by decide +kernel
theorem dX12_isAnswered_305 : decode cX12_isAnswered 305 = .ok (.iaload, 1) := by decide +kernel
theorem dX12_isAnswered_306 : decode cX12_isAnswered 306 = .ok (.aload_n 0, 1) := by decide +kernel
theorem dX12_isAnswered_307 : decode cX12_isAnswered 307 = .ok (.getfield 63, 3) := by decide +kernel
theorem dX12_isAnswered_310 : decode cX12_isAnswered 310 = .ok (.iload 4, 2) := by decide +kernel
theorem dX12_isAnswered_312 : decode cX12_isAnswered 312 = .ok (.iaload, 1) := by decide +kernel
theorem dX12_isAnswered_313 : decode cX12_isAnswered 313 = .ok (.invokestatic 207, 3) := by decide +kernel
