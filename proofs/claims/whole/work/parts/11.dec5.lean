theorem dX12_isAnswered_316 : decode cX12_isAnswered 316 = .ok (.iadd, 1) := by decide +kernel
theorem dX12_isAnswered_317 : decode cX12_isAnswered 317 = .ok (.iaload, 1) := by decide +kernel
theorem dX12_isAnswered_318 : decode cX12_isAnswered 318 = .ok (.i2l, 1) := by decide +kernel
theorem dX12_isAnswered_319 : decode cX12_isAnswered 319 = .ok (.ladd, 1) := by decide +kernel
theorem dX12_isAnswered_320 : decode cX12_isAnswered 320 = .ok (.lstore_n 1, 1) := by decide +kernel
theorem dX12_isAnswered_321 : decode cX12_isAnswered 321 = .ok (.iinc 4 1, 3) := by decide +kernel
theorem dX12_isAnswered_324 : decode cX12_isAnswered 324 = .ok (.goto (-58), 3) := by decide +kernel
theorem dX12_isAnswered_327 : decode cX12_isAnswered 327 = .ok (.iinc 3 1, 3) := by decide +kernel
theorem dX12_isAnswered_330 : decode cX12_isAnswered 330 = .ok (.goto (-75), 3) := by decide +kernel
theorem dX12_isAnswered_333 : decode cX12_isAnswered 333 = .ok (.aload_n 0, 1) := by decide +kernel
theorem dX12_isAnswered_334 : decode cX12_isAnswered 334 = .ok (.bipush 9, 2) := by decide +kernel
theorem dX12_isAnswered_336 : decode cX12_isAnswered 336 = .ok (.bipush 8, 2) := by decide +kernel
theorem dX12_isAnswered_338 : decode cX12_isAnswered 338 = .ok (.lload_n 1, 1) := by decide +kernel
theorem dX12_isAnswered_339 : decode cX12_isAnswered 339 = .ok (.lneg, 1) := by decide +kernel
theorem dX12_isAnswered_340 : decode cX12_isAnswered 340 = .ok (.invokevirtual 134, 3) := by decide +kernel
theorem dX12_isAnswered_343 : decode cX12_isAnswered 343 = .ok (.aload_n 0, 1) := by decide +kernel
theorem dX12_isAnswered_344 : decode cX12_isAnswered 344 = .ok (.aload_n 0, 1) := by decide +kernel
theorem dX12_isAnswered_345 : decode cX12_isAnswered 345 = .ok (.iconst 1, 1) := by decide +kernel
theorem dX12_isAnswered_346 : decode cX12_isAnswered 346 = .ok (.invokevirtual 239, 3) := by decide +kernel
theorem dX12_isAnswered_349 : decode cX12_isAnswered 349 = .ok (.bipush 9, 2) := by decide +kernel
theorem dX12_isAnswered_351 : decode cX12_isAnswered 351 = .ok (.invokevirtual 118, 3) := by decide +kernel
theorem dX12_isAnswered_354 : decode cX12_isAnswered 354 = .ok (.aload_n 0, 1) := by decide +kernel
theorem dX12_isAnswered_355 : decode cX12_isAnswered 355 = .ok (.bipush 9, 2) := by decide +kernel
theorem dX12_isAnswered_357 : decode cX12_isAnswered 357 = .ok (.lconst 0, 1) := by decide +kernel
theorem dX12_isAnswered_358 : decode cX12_isAnswered 358 = .ok (.invokevirtual 73, 3) := by decide +kernel
theorem dX12_isAnswered_361 : decode cX12_isAnswered 361 = .ok (.aload_n 0, 1) := by decide +kernel
theorem dX12_isAnswered_362 : decode cX12_isAnswered 362 = .ok (.bipush 9, 2) := by decide +kernel
theorem dX12_isAnswered_364 : decode cX12_isAnswered 364 = .ok (.bipush 8, 2) := by decide +kernel
theorem dX12_isAnswered_366 : decode cX12_isAnswered 366 = .ok (.aload_n 0, 1) := by decide +kernel
theorem dX12_isAnswered_367 : decode cX12_isAnswered 367 = .ok (.getfield 211, 3) := by decide +kernel
theorem dX12_isAnswered_370 : decode cX12_isAnswered 370 = .ok (.i2l, 1) := by decide +kernel
theorem dX12_isAnswered_371 : decode cX12_isAnswered 371 = .ok (.aload_n 0, 1) := by decide +kernel
theorem dX12_isAnswered_372 : decode cX12_isAnswered 372 = .ok (.getfield 211, 3) := by decide +kernel
theorem dX12_isAnswered_375 : decode cX12_isAnswered 375 = .ok (.i2l, 1) := by decide +kernel
theorem dX12_isAnswered_376 : decode cX12_isAnswered 376 = .ok (.lmul, 1) := by decide +kernel
theorem dX12_isAnswered_377 : decode cX12_isAnswered 377 = .ok (.invokevirtual 134, 3) := by decide +kernel
theorem dX12_isAnswered_380 : decode cX12_isAnswered 380 = .ok (.aload_n 0, 1) := by decide +kernel
theorem dX12_isAnswered_381 : decode cX12_isAnswered 381 = .ok (.aload_n 0, 1) := by decide +kernel
theorem dX12_isAnswered_382 : decode cX12_isAnswered 382 = .ok (.iconst 1, 1) := by decide +kernel
theorem dX12_isAnswered_383 : decode cX12_isAnswered 383 = .ok (.invokevirtual 245, 3) := by decide +kernel
theorem dX12_isAnswered_386 : decode cX12_isAnswered 386 = .ok (.bipush 9, 2) := by decide +kernel
theorem dX12_isAnswered_388 : decode cX12_isAnswered 388 = .ok (.invokevirtual 118, 3) := by decide +kernel
theorem dX12_isAnswered_391 : decode cX12_isAnswered 391 = .ok (.iconst 1, 1) := by decide +kernel
theorem dX12_isAnswered_392 : decode cX12_isAnswered 392 = .ok (.ireturn, 1) := by decide +kernel
theorem dX12_ask_0 : decode cX12_ask 0 = .ok (.iload_n 1, 1) := by decide +kernel
theorem dX12_ask_1 : decode cX12_ask 1 = .ok (.i2l, 1) := by decide +kernel
theorem dX12_ask_2 : decode cX12_ask 2 = .ok (.ldc2_w 176, 3) := by decide +kernel
theorem dX12_ask_5 : decode cX12_ask 5 = .ok (.ldc2_w 178, 3) := by decide +kernel
theorem dX12_ask_8 : decode cX12_ask 8 = .ok (.invokestatic 172, 3) := by decide +kernel
theorem dX12_ask_11 : decode cX12_ask 11 = .ok (.ifCond .eq 17, 3) := by decide +kernel
theorem dX12_ask_14 : decode cX12_ask 14 = .ok (.iload_n 2, 1) := by decide +kernel
theorem dX12_ask_15 : decode cX12_ask 15 = .ok (.i2l, 1) := by decide +kernel
theorem dX12_ask_16 : decode cX12_ask 16 = .ok (.ldc2_w 176, 3) := by decide +kernel
theorem dX12_ask_19 : decode cX12_ask 19 = .ok (.ldc2_w 178, 3) := by decide +kernel
theorem dX12_ask_22 : decode cX12_ask 22 = .ok (.invokestatic 172, 3) := by decide +kernel
theorem dX12_ask_25 : decode cX12_ask 25 = .ok (.ifCond .ne 6, 3) := by decide +kernel
theorem dX12_ask_28 : decode cX12_ask 28 = .ok (.bipush (-4), 2) := by decide +kernel
theorem dX12_ask_30 : decode cX12_ask 30 = .ok (.ireturn, 1) := by decide +kernel
theorem dX12_ask_31 : decode cX12_ask 31 = .ok (.aload_n 0, 1) := by decide +kernel
theorem dX12_ask_32 : decode cX12_ask 32 = .ok (.getfield 38, 3) := by decide +kernel
theorem dX12_ask_35 : decode cX12_ask 35 = .ok (.iconst (-1), 1) := by decide +kernel
theorem dX12_ask_36 : decode cX12_ask 36 = .ok (.if_icmp .eq 10, 3) := by decide +kernel
theorem dX12_ask_39 : decode cX12_ask 39 = .ok (.aload_n 0, 1) := by decide +kernel
theorem dX12_ask_40 : decode cX12_ask 40 = .ok (.getfield 167, 3) := by decide +kernel
theorem dX12_ask_43 : decode cX12_ask 43 = .ok (.ifCond .ne 6, 3) := by decide +kernel
theorem dX12_ask_46 : decode cX12_ask 46 = .ok (.bipush (-5), 2) := by decide +kernel
theorem dX12_ask_48 : decode cX12_ask 48 = .ok (.ireturn, 1) := by decide +kernel
theorem dX12_ask_49 : decode cX12_ask 49 = .ok (.aload_n 0, 1) := by decide +kernel
theorem dX12_ask_50 : decode cX12_ask 50 = .ok (.iconst 1, 1) := by decide +kernel
theorem dX12_ask_51 : decode cX12_ask 51 = .ok (.putfield 211, 3) := by decide +kernel
theorem dX12_ask_54 : decode cX12_ask 54 = .ok (.aload_n 0, 1) := by decide +kernel
theorem dX12_ask_55 : decode cX12_ask 55 = .ok (.getfield 60, 3) := by decide +kernel
theorem dX12_ask_58 : decode cX12_ask 58 = .ok (.iconst 0, 1) := by decide +kernel
theorem dX12_ask_59 : decode cX12_ask 59 = .ok (.iload_n 1, 1) := by decide +kernel
theorem dX12_ask_60 : decode cX12_ask 60 = .ok (.iastore, 1) := by decide +kernel
theorem dX12_ask_61 : decode cX12_ask 61 = .ok (.aload_n 0, 1) := by decide +kernel
theorem dX12_ask_62 : decode cX12_ask 62 = .ok (.getfield 63, 3) := by decide +kernel
theorem dX12_ask_65 : decode cX12_ask 65 = .ok (.iconst 0, 1) := by decide +kernel
theorem dX12_ask_66 : decode cX12_ask 66 = .ok (.iload_n 2, 1) := by decide +kernel
theorem dX12_ask_67 : decode cX12_ask 67 = .ok (.iastore, 1) := by decide +kernel
theorem dX12_ask_68 : decode cX12_ask 68 = .ok (.aload_n 0, 1) := by decide +kernel
theorem dX12_ask_69 : decode cX12_ask 69 = .ok (.invokevirtual 248, 3) := by decide +kernel
theorem dX12_ask_72 : decode cX12_ask 72 = .ok (.ifCond .eq 7, 3) := by decide +kernel
theorem dX12_ask_75 : decode cX12_ask 75 = .ok (.iconst 0, 1) := by decide +kernel
theorem dX12_ask_76 : decode cX12_ask 76 = .ok (.goto 5, 3) := by decide +kernel
theorem dX12_ask_79 : decode cX12_ask 79 = .ok (.bipush (-7), 2) := by decide +kernel
theorem dX12_ask_81 : decode cX12_ask 81 = .ok (.ireturn, 1) := by decide +kernel
theorem dX12_mean_0 : decode cX12_mean 0 = .ok (.iload_n 1, 1) := by decide +kernel
theorem dX12_mean_1 : decode cX12_mean 1 = .ok (.invokestatic 141, 3) := by decide +kernel
theorem dX12_mean_4 : decode cX12_mean 4 = .ok (.ifCond .ne 6, 3) := by decide +kernel
theorem dX12_mean_7 : decode cX12_mean 7 = .ok (.bipush (-2), 2) := by decide +kernel
theorem dX12_mean_9 : decode cX12_mean 9 = .ok (.ireturn, 1) := by decide +kernel
theorem dX12_mean_10 : decode cX12_mean 10 = .ok (.aload_n 0, 1) := by decide +kernel
theorem dX12_mean_11 : decode cX12_mean 11 = .ok (.getfield 13, 3) := by decide +kernel
theorem dX12_mean_14 : decode cX12_mean 14 = .ok (.iload_n 1, 1) := by decide +kernel
theorem dX12_mean_15 : decode cX12_mean 15 = .ok (.iaload, 1) := by decide +kernel
theorem dX12_mean_16 : decode cX12_mean 16 = .ok (.ifCond .ne 6, 3) := by decide +kernel
theorem dX12_mean_19 : decode cX12_mean 19 = .ok (.bipush (-5), 2) := by decide +kernel
theorem dX12_mean_21 : decode cX12_mean 21 = .ok (.ireturn, 1) := by decide +kernel
theorem dX12_mean_22 : decode cX12_mean 22 = .ok (.aload_n 0, 1) := by decide +kernel
theorem dX12_mean_23 : decode cX12_mean 23 = .ok (.getfield 13, 3) := by decide +kernel
theorem dX12_mean_26 : decode cX12_mean 26 = .ok (.iload_n 1, 1) := by decide +kernel
theorem dX12_mean_27 : decode cX12_mean 27 = .ok (.iaload, 1) := by decide +kernel
theorem dX12_mean_28 : decode cX12_mean 28 = .ok (.iconst 1, 1) := by decide +kernel
theorem dX12_mean_29 : decode cX12_mean 29 = .ok (.isub, 1) := by decide +kernel
theorem dX12_mean_30 : decode cX12_mean 30 = .ok (.istore_n 2, 1) := by decide +kernel
theorem dX12_mean_31 : decode cX12_mean 31 = .ok (.iconst 1, 1) := by decide +kernel
theorem dX12_mean_32 : decode cX12_mean 32 = .ok (.istore_n 3, 1) := by decide +kernel
theorem dX12_mean_33 : decode cX12_mean 33 = .ok (.iconst 0, 1) := by decide +kernel
theorem dX12_mean_34 : decode cX12_mean 34 = .ok (.istore 4, 2) := by decide +kernel
theorem dX12_mean_36 : decode cX12_mean 36 = .ok (.iload 4, 2) := by decide +kernel
theorem dX12_mean_38 : decode cX12_mean 38 = .ok (.iload_n 3, 1) := by decide +kernel
theorem dX12_mean_39 : decode cX12_mean 39 = .ok (.if_icmp .ge 90, 3) := by decide +kernel
theorem dX12_mean_42 : decode cX12_mean 42 = .ok (.iload 4, 2) := by decide +kernel
theorem dX12_mean_44 : decode cX12_mean 44 = .ok (.iload_n 2, 1) := by decide +kernel
theorem dX12_mean_45 : decode cX12_mean 45 = .ok (.if_icmp .lt 6, 3) := by decide +kernel
theorem dX12_mean_48 : decode cX12_mean 48 = .ok (.bipush (-6), 2) := by decide +kernel
theorem dX12_mean_50 : decode cX12_mean 50 = .ok (.ireturn, 1) := by decide +kernel
theorem dX12_mean_51 : decode cX12_mean 51 = .ok (.aload_n 0, 1) := by decide +kernel
theorem dX12_mean_52 : decode cX12_mean 52 = .ok (.getfield 20, 3) := by decide +kernel
theorem dX12_mean_55 : decode cX12_mean 55 = .ok (.bipush 60, 2) := by decide +kernel
theorem dX12_mean_57 : decode cX12_mean 57 = .ok (.iload_n 1, 1) := by decide +kernel
theorem dX12_mean_58 : decode cX12_mean 58 = .ok (.imul, 1) := by decide +kernel
theorem dX12_mean_59 : decode cX12_mean 59 = .ok (.iload 4, 2) := by decide +kernel
theorem dX12_mean_61 : decode cX12_mean 61 = .ok (.iadd, 1) := by decide +kernel
theorem dX12_mean_62 : decode cX12_mean 62 = .ok (.laload, 1) := by decide +kernel
theorem dX12_mean_63 : decode cX12_mean 63 = .ok (.lstore 5, 2) := by decide +kernel
theorem dX12_mean_65 : decode cX12_mean 65 = .ok (.iload 4, 2) := by decide +kernel
theorem dX12_mean_67 : decode cX12_mean 67 = .ok (.ifCond .ne 18, 3) := by decide +kernel
theorem dX12_mean_70 : decode cX12_mean 70 = .ok (.lload 5, 2) := by decide +kernel
theorem dX12_mean_72 : decode cX12_mean 72 = .ok (.lconst 1, 1) := by decide +kernel
theorem dX12_mean_73 : decode cX12_mean 73 = .ok (.ldc2_w 252, 3) := by decide +kernel
theorem dX12_mean_76 : decode cX12_mean 76 = .ok (.invokestatic 172, 3) := by decide +kernel
theorem dX12_mean_79 : decode cX12_mean 79 = .ok (.ifCond .ne 23, 3) := by decide +kernel
theorem dX12_mean_82 : decode cX12_mean 82 = .ok (.goto 17, 3) := by decide +kernel
theorem dX12_mean_85 : decode cX12_mean 85 = .ok (.lload 5, 2) := by decide +kernel
theorem dX12_mean_87 : decode cX12_mean 87 = .ok (.ldc2_w 176, 3) := by decide +kernel
theorem dX12_mean_90 : decode cX12_mean 90 = .ok (.ldc2_w 178, 3) := by decide +kernel
theorem dX12_mean_93 : decode cX12_mean 93 = .ok (.invokestatic 172, 3) := by decide +kernel
theorem dX12_mean_96 : decode cX12_mean 96 = .ok (.ifCond .ne 6, 3) := by decide +kernel
theorem dX12_mean_99 : decode cX12_mean 99 = .ok (.bipush (-4), 2) := by decide +kernel
theorem dX12_mean_101 : decode cX12_mean 101 = .ok (.ireturn, 1) := by decide +kernel
theorem dX12_mean_102 : decode cX12_mean 102 = .ok (.aload_n 0, 1) := by decide +kernel
theorem dX12_mean_103 : decode cX12_mean 103 = .ok (.getfield 57, 3) := by decide +kernel
theorem dX12_mean_106 : decode cX12_mean 106 = .ok (.iload 4, 2) := by decide +kernel
theorem dX12_mean_108 : decode cX12_mean 108 = .ok (.lload 5, 2) := by decide +kernel
theorem dX12_mean_110 : decode cX12_mean 110 = .ok (.l2i, 1) := by decide +kernel
theorem dX12_mean_111 : decode cX12_mean 111 = .ok (.iastore, 1) := by decide +kernel
theorem dX12_mean_112 : decode cX12_mean 112 = .ok (.iconst 1, 1) := by decide +kernel
theorem dX12_mean_113 : decode cX12_mean 113 = .ok (.iconst 2, 1) := by decide +kernel
theorem dX12_mean_114 : decode cX12_mean 114 = .ok (.aload_n 0, 1) := by decide +kernel
theorem dX12_mean_115 : decode cX12_mean 115 = .ok (.getfield 57, 3) := by decide +kernel
theorem dX12_mean_118 : decode cX12_mean 118 = .ok (.iconst 0, 1) := by decide +kernel
theorem dX12_mean_119 : decode cX12_mean 119 = .ok (.iaload, 1) := by decide +kernel
theorem dX12_mean_120 : decode cX12_mean 120 = .ok (.imul, 1) := by decide +kernel
theorem dX12_mean_121 : decode cX12_mean 121 = .ok (.iadd, 1) := by decide +kernel
theorem dX12_mean_122 : decode cX12_mean 122 = .ok (.istore_n 3, 1) := by decide +kernel
theorem dX12_mean_123 : decode cX12_mean 123 = .ok (.iinc 4 1, 3) := by decide +kernel
theorem dX12_mean_126 : decode cX12_mean 126 = .ok (.goto (-90), 3) := by decide +kernel
theorem dX12_mean_129 : decode cX12_mean 129 = .ok (.aload_n 0, 1) := by decide +kernel
theorem dX12_mean_130 : decode cX12_mean 130 = .ok (.getfield 38, 3) := by decide +kernel
theorem dX12_mean_133 : decode cX12_mean 133 = .ok (.iconst (-1), 1) := by decide +kernel
theorem dX12_mean_134 : decode cX12_mean 134 = .ok (.if_icmp .eq 10, 3) := by decide +kernel
theorem dX12_mean_137 : decode cX12_mean 137 = .ok (.aload_n 0, 1) := by decide +kernel
theorem dX12_mean_138 : decode cX12_mean 138 = .ok (.getfield 167, 3) := by decide +kernel
theorem dX12_mean_141 : decode cX12_mean 141 = .ok (.ifCond .ne 6, 3) := by decide +kernel
theorem dX12_mean_144 : decode cX12_mean 144 = .ok (.bipush (-10), 2) := by decide +kernel
theorem dX12_mean_146 : decode cX12_mean 146 = .ok (.ireturn, 1) := by decide +kernel
theorem dX12_mean_147 : decode cX12_mean 147 = .ok (.aload_n 0, 1) := by decide +kernel
theorem dX12_mean_148 : decode cX12_mean 148 = .ok (.aload_n 0, 1) := by decide +kernel
theorem dX12_mean_149 : decode cX12_mean 149 = .ok (.getfield 57, 3) := by decide +kernel
theorem dX12_mean_152 : decode cX12_mean 152 = .ok (.iconst 0, 1) := by decide +kernel
theorem dX12_mean_153 : decode cX12_mean 153 = .ok (.iaload, 1) := by decide +kernel
theorem dX12_mean_154 : decode cX12_mean 154 = .ok (.putfield 211, 3) := by decide +kernel
theorem dX12_mean_157 : decode cX12_mean 157 = .ok (.iconst 0, 1) := by decide +kernel
theorem dX12_mean_158 : decode cX12_mean 158 = .ok (.istore 4, 2) := by decide +kernel
theorem dX12_mean_160 : decode cX12_mean 160 = .ok (.iload 4, 2) := by decide +kernel
theorem dX12_mean_162 : decode cX12_mean 162 = .ok (.aload_n 0, 1) := by decide +kernel
theorem dX12_mean_163 : decode cX12_mean 163 = .ok (.getfield 211, 3) := by decide +kernel
theorem dX12_mean_166 : decode cX12_mean 166 = .ok (.if_icmp .ge 45, 3) := by decide +kernel
theorem dX12_mean_169 : decode cX12_mean 169 = .ok (.aload_n 0, 1) := by decide +kernel
theorem dX12_mean_170 : decode cX12_mean 170 = .ok (.getfield 60, 3) := by decide +kernel
theorem dX12_mean_173 : decode cX12_mean 173 = .ok (.iload 4, 2) := by decide +kernel
theorem dX12_mean_175 : decode cX12_mean 175 = .ok (.aload_n 0, 1) := by decide +kernel
theorem dX12_mean_176 : decode cX12_mean 176 = .ok (.getfield 57, 3) := by decide +kernel
theorem dX12_mean_179 : decode cX12_mean 179 = .ok (.iconst 1, 1) := by decide +kernel
theorem dX12_mean_180 : decode cX12_mean 180 = .ok (.iconst 2, 1) := by decide +kernel
theorem dX12_mean_181 : decode cX12_mean 181 = .ok (.iload 4, 2) := by decide +kernel
theorem dX12_mean_183 : decode cX12_mean 183 = .ok (.imul, 1) := by decide +kernel
theorem dX12_mean_184 : decode cX12_mean 184 = .ok (.iadd, 1) := by decide +kernel
theorem dX12_mean_185 : decode cX12_mean 185 = .ok (.iaload, 1) := by decide +kernel
theorem dX12_mean_186 : decode cX12_mean 186 = .ok (.iastore, 1) := by decide +kernel
theorem dX12_mean_187 : decode cX12_mean 187 = .ok (.aload_n 0, 1) := by decide +kernel
theorem dX12_mean_188 : decode cX12_mean 188 = .ok (.getfield 63, 3) := by decide +kernel
theorem dX12_mean_191 : decode cX12_mean 191 = .ok (.iload 4, 2) := by decide +kernel
theorem dX12_mean_193 : decode cX12_mean 193 = .ok (.aload_n 0, 1) := by decide +kernel
theorem dX12_mean_194 : decode cX12_mean 194 = .ok (.getfield 57, 3) := by decide +kernel
theorem dX12_mean_197 : decode cX12_mean 197 = .ok (.iconst 2, 1) := by decide +kernel
theorem dX12_mean_198 : decode cX12_mean 198 = .ok (.iconst 2, 1) := by decide +kernel
theorem dX12_mean_199 : decode cX12_mean 199 = .ok (.iload 4, 2) := by decide +kernel
theorem dX12_mean_201 : decode cX12_mean 201 = .ok (.imul, 1) := by decide +kernel
theorem dX12_mean_202 : decode cX12_mean 202 = .ok (.iadd, 1) := by decide +kernel
theorem dX12_mean_203 : decode cX12_mean 203 = .ok (.iaload, 1) := by decide +kernel
theorem dX12_mean_204 : decode cX12_mean 204 = .ok (.iastore, 1) := by decide +kernel
theorem dX12_mean_205 : decode cX12_mean 205 = .ok (.iinc 4 1, 3) := by decide +kernel
theorem dX12_mean_208 : decode cX12_mean 208 = .ok (.goto (-48), 3) := by decide +kernel
theorem dX12_mean_211 : decode cX12_mean 211 = .ok (.aload_n 0, 1) := by decide +kernel
theorem dX12_mean_212 : decode cX12_mean 212 = .ok (.invokevirtual 248, 3) := by decide +kernel
theorem dX12_mean_215 : decode cX12_mean 215 = .ok (.ifCond .eq 7, 3) := by decide +kernel
theorem dX12_mean_218 : decode cX12_mean 218 = .ok (.iconst 0, 1) := by decide +kernel
theorem dX12_mean_219 : decode cX12_mean 219 = .ok (.goto 5, 3) := by decide +kernel
theorem dX12_mean_222 : decode cX12_mean 222 = .ok (.bipush (-7), 2) := by decide +kernel
theorem dX12_mean_224 : decode cX12_mean 224 = .ok (.ireturn, 1) := by decide +kernel
theorem dX12_answer_0 : decode cX12_answer 0 = .ok (.iload_n 1, 1) := by decide +kernel
theorem dX12_answer_1 : decode cX12_answer 1 = .ok (.bipush 10, 2) := by decide +kernel
theorem dX12_answer_3 : decode cX12_answer 3 = .ok (.if_icmp .lt 18, 3) := by decide +kernel
theorem dX12_answer_6 : decode cX12_answer 6 = .ok (.aload_n 0, 1) := by decide +kernel
theorem dX12_answer_7 : decode cX12_answer 7 = .ok (.iload_n 1, 1) := by decide +kernel
theorem dX12_answer_8 : decode cX12_answer 8 = .ok (.bipush 10, 2) := by decide +kernel
theorem dX12_answer_10 : decode cX12_answer 10 = .ok (.isub, 1) := by decide +kernel
theorem dX12_answer_11 : decode cX12_answer 11 = .ok (.invokevirtual 190, 3) := by decide +kernel
theorem dX12_answer_14 : decode cX12_answer 14 = .ok (.ifCond .eq 7, 3) := by decide +kernel
theorem dX12_answer_17 : decode cX12_answer 17 = .ok (.iconst 1, 1) := by decide +kernel
theorem dX12_answer_18 : decode cX12_answer 18 = .ok (.goto 4, 3) := by decide +kernel
theorem dX12_answer_21 : decode cX12_answer 21 = .ok (.iconst 0, 1) := by decide +kernel
theorem dX12_answer_22 : decode cX12_answer 22 = .ok (.istore_n 2, 1) := by decide +kernel
theorem dX12_answer_23 : decode cX12_answer 23 = .ok (.aload_n 0, 1) := by decide +kernel
theorem dX12_answer_24 : decode cX12_answer 24 = .ok (.getfield 186, 3) := by decide +kernel
theorem dX12_answer_27 : decode cX12_answer 27 = .ok (.ifCond .eq 16, 3) := by decide +kernel
theorem dX12_answer_30 : decode cX12_answer 30 = .ok (.iload_n 1, 1) := by decide +kernel
theorem dX12_answer_31 : decode cX12_answer 31 = .ok (.ifCond .lt 8, 3) := by decide +kernel
theorem dX12_answer_34 : decode cX12_answer 34 = .ok (.iload_n 1, 1) := by decide +kernel
theorem dX12_answer_35 : decode cX12_answer 35 = .ok (.iconst 2, 1) := by decide +kernel
theorem dX12_answer_36 : decode cX12_answer 36 = .ok (.if_icmp .le 9, 3) := by decide +kernel
theorem dX12_answer_39 : decode cX12_answer 39 = .ok (.iload_n 2, 1) := by decide +kernel
theorem dX12_answer_40 : decode cX12_answer 40 = .ok (.ifCond .ne 5, 3) := by decide +kernel
theorem dX12_answer_43 : decode cX12_answer 43 = .ok (.iconst 0, 1) := by decide +kernel
theorem dX12_answer_44 : decode cX12_answer 44 = .ok (.ireturn, 1) := by decide +kernel
theorem dX12_answer_45 : decode cX12_answer 45 = .ok (.iload_n 2, 1) := by decide +kernel
theorem dX12_answer_46 : decode cX12_answer 46 = .ok (.ifCond .eq 10, 3) := by decide +kernel
theorem dX12_answer_49 : decode cX12_answer 49 = .ok (.iload_n 1, 1) := by decide +kernel
theorem dX12_answer_50 : decode cX12_answer 50 = .ok (.bipush 7, 2) := by decide +kernel
theorem dX12_answer_52 : decode cX12_answer 52 = .ok (.isub, 1) := by decide +kernel
theorem dX12_answer_53 : decode cX12_answer 53 = .ok (.goto 4, 3) := by decide +kernel
theorem dX12_answer_56 : decode cX12_answer 56 = .ok (.iload_n 1, 1) := by decide +kernel
theorem dX12_answer_57 : decode cX12_answer 57 = .ok (.istore_n 3, 1) := by decide +kernel
theorem dX12_answer_58 : decode cX12_answer 58 = .ok (.aload_n 0, 1) := by decide +kernel
theorem dX12_answer_59 : decode cX12_answer 59 = .ok (.aload_n 0, 1) := by decide +kernel
theorem dX12_answer_60 : decode cX12_answer 60 = .ok (.iload_n 3, 1) := by decide +kernel
theorem dX12_answer_61 : decode cX12_answer 61 = .ok (.invokevirtual 239, 3) := by decide +kernel
theorem dX12_answer_64 : decode cX12_answer 64 = .ok (.aload_n 0, 1) := by decide +kernel
theorem dX12_answer_65 : decode cX12_answer 65 = .ok (.iload_n 3, 1) := by decide +kernel
theorem dX12_answer_66 : decode cX12_answer 66 = .ok (.invokevirtual 245, 3) := by decide +kernel
theorem dX12_answer_69 : decode cX12_answer 69 = .ok (.invokevirtual 254, 3) := by decide +kernel
theorem dX12_answer_72 : decode cX12_answer 72 = .ok (.iconst 1, 1) := by decide +kernel
theorem dX12_answer_73 : decode cX12_answer 73 = .ok (.ireturn, 1) := by decide +kernel
theorem dX12_isOff_0 : decode cX12_isOff 0 = .ok (.aload_n 0, 1) := by decide +kernel
theorem dX12_isOff_1 : decode cX12_isOff 1 = .ok (.getfield 167, 3) := by decide +kernel
theorem dX12_isOff_4 : decode cX12_isOff 4 = .ok (.iconst 2, 1) := by decide +kernel
theorem dX12_isOff_5 : decode cX12_isOff 5 = .ok (.if_icmp .ge 5, 3) := by decide +kernel
theorem dX12_isOff_8 : decode cX12_isOff 8 = .ok (.iconst 0, 1) := by decide +kernel
theorem dX12_isOff_9 : decode cX12_isOff 9 = .ok (.ireturn, 1) := by decide +kernel
theorem dX12_isOff_10 : decode cX12_isOff 10 = .ok (.aload_n 0, 1) := by decide +kernel
theorem dX12_isOff_11 : decode cX12_isOff 11 = .ok (.iconst 0, 1) := by decide +kernel
theorem dX12_isOff_12 : decode cX12_isOff 12 = .ok (.putfield 214, 3) := by decide +kernel
theorem dX12_isOff_15 : decode cX12_isOff 15 = .ok (.iconst 0, 1) := by decide +kernel
theorem dX12_isOff_16 : decode cX12_isOff 16 = .ok (.istore_n 3, 1) := by decide +kernel
theorem dX12_isOff_17 : decode cX12_isOff 17 = .ok (.iload_n 3, 1) := by decide +kernel
theorem dX12_isOff_18 : decode cX12_isOff 18 = .ok (.aload_n 0, 1) := by decide +kernel
theorem dX12_isOff_19 : decode cX12_isOff 19 = .ok (.getfield 167, 3) := by decide +kernel
theorem dX12_isOff_22 : decode cX12_isOff 22 = .ok (.if_icmp .ge 34, 3) := by decide +kernel
theorem dX12_isOff_25 : decode cX12_isOff 25 = .ok (.iload_n 3, 1) := by decide +kernel
theorem dX12_isOff_26 : decode cX12_isOff 26 = .ok (.iload_n 2, 1) := by decide +kernel
theorem dX12_isOff_27 : decode cX12_isOff 27 = .ok (.if_icmp .eq 23, 3) := by decide +kernel
theorem dX12_isOff_30 : decode cX12_isOff 30 = .ok (.aload_n 0, 1) := by decide +kernel
theorem dX12_isOff_31 : decode cX12_isOff 31 = .ok (.getfield 66, 3) := by decide +kernel
theorem dX12_isOff_34 : decode cX12_isOff 34 = .ok (.aload_n 0, 1) := by decide +kernel
theorem dX12_isOff_35 : decode cX12_isOff 35 = .ok (.getfield 214, 3) := by decide +kernel
theorem dX12_isOff_38 : decode cX12_isOff 38 = .ok (.iload_n 3, 1) := by decide +kernel
theorem dX12_isOff_39 : decode cX12_isOff 39 = .ok (.iastore, 1) := by decide +kernel
theorem dX12_isOff_40 : decode cX12_isOff 40 = .ok (.aload_n 0, 1) := by decide +kernel
theorem dX12_isOff_41 : decode cX12_isOff 41 = .ok (.dup, 1) := by decide +kernel
theorem dX12_isOff_42 : decode cX12_isOff 42 = .ok (.getfield 214, 3) := by decide +kernel
theorem dX12_isOff_45 : decode cX12_isOff 45 = .ok (.iconst 1, 1) := by decide +kernel
theorem dX12_isOff_46 : decode cX12_isOff 46 = .ok (.iadd, 1) := by decide +kernel
theorem dX12_isOff_47 : decode cX12_isOff 47 = .ok (.putfield 214, 3) := by decide +kernel
theorem dX12_isOff_50 : decode cX12_isOff 50 = .ok (.iinc 3 1, 3) := by decide +kernel
theorem dX12_isOff_53 : decode cX12_isOff 53 = .ok (.goto (-36), 3) := by decide +kernel
theorem dX12_isOff_56 : decode cX12_isOff 56 = .ok (.aload_n 0, 1) := by decide +kernel
theorem dX12_isOff_57 : decode cX12_isOff 57 = .ok (.iconst 1, 1) := by decide +kernel
theorem dX12_isOff_58 : decode cX12_isOff 58 = .ok (.putfield 211, 3) := by decide +kernel
theorem dX12_isOff_61 : decode cX12_isOff 61 = .ok (.aload_n 0, 1) := by decide +kernel
theorem dX12_isOff_62 : decode cX12_isOff 62 = .ok (.getfield 60, 3) := by decide +kernel
theorem dX12_isOff_65 : decode cX12_isOff 65 = .ok (.iconst 0, 1) := by decide +kernel
theorem dX12_isOff_66 : decode cX12_isOff 66 = .ok (.aload_n 0, 1) := by decide +kernel
theorem dX12_isOff_67 : decode cX12_isOff 67 = .ok (.getfield 23, 3) := by decide +kernel
theorem dX12_isOff_70 : decode cX12_isOff 70 = .ok (.iload_n 2, 1) := by decide +kernel
theorem dX12_isOff_71 : decode cX12_isOff 71 = .ok (.iaload, 1) := by decide +kernel
theorem dX12_isOff_72 : decode cX12_isOff 72 = .ok (.iastore, 1) := by decide +kernel
theorem dX12_isOff_73 : decode cX12_isOff 73 = .ok (.aload_n 0, 1) := by decide +kernel
theorem dX12_isOff_74 : decode cX12_isOff 74 = .ok (.getfield 63, 3) := by decide +kernel
theorem dX12_isOff_77 : decode cX12_isOff 77 = .ok (.iconst 0, 1) := by decide +kernel
theorem dX12_isOff_78 : decode cX12_isOff 78 = .ok (.aload_n 0, 1) := by decide +kernel
theorem dX12_isOff_79 : decode cX12_isOff 79 = .ok (.getfield 26, 3) := by decide +kernel
theorem dX12_isOff_82 : decode cX12_isOff 82 = .ok (.iload_n 2, 1) := by decide +kernel
theorem dX12_isOff_83 : decode cX12_isOff 83 = .ok (.iaload, 1) := by decide +kernel
theorem dX12_isOff_84 : decode cX12_isOff 84 = .ok (.iastore, 1) := by decide +kernel
theorem dX12_isOff_85 : decode cX12_isOff 85 = .ok (.aload_n 0, 1) := by decide +kernel
theorem dX12_isOff_86 : decode cX12_isOff 86 = .ok (.iload_n 1, 1) := by decide +kernel
theorem dX12_isOff_87 : decode cX12_isOff 87 = .ok (.invokevirtual 236, 3) := by decide +kernel
theorem dX12_isOff_90 : decode cX12_isOff 90 = .ok (.ifCond .ne 5, 3) := by decide +kernel
theorem dX12_isOff_93 : decode cX12_isOff 93 = .ok (.iconst 0, 1) := by decide +kernel
theorem dX12_isOff_94 : decode cX12_isOff 94 = .ok (.ireturn, 1) := by decide +kernel
theorem dX12_isOff_95 : decode cX12_isOff 95 = .ok (.aload_n 0, 1) := by decide +kernel
theorem dX12_isOff_96 : decode cX12_isOff 96 = .ok (.bipush 11, 2) := by decide +kernel
theorem dX12_isOff_98 : decode cX12_isOff 98 = .ok (.invokevirtual 242, 3) := by decide +kernel
theorem dX12_isOff_101 : decode cX12_isOff 101 = .ok (.aload_n 0, 1) := by decide +kernel
theorem dX12_isOff_102 : decode cX12_isOff 102 = .ok (.bipush 11, 2) := by decide +kernel
theorem dX12_isOff_104 : decode cX12_isOff 104 = .ok (.invokevirtual 99, 3) := by decide +kernel
theorem dX12_isOff_107 : decode cX12_isOff 107 = .ok (.aload_n 0, 1) := by decide +kernel
theorem dX12_isOff_108 : decode cX12_isOff 108 = .ok (.bipush 11, 2) := by decide +kernel
theorem dX12_isOff_110 : decode cX12_isOff 110 = .ok (.bipush 8, 2) := by decide +kernel
theorem dX12_isOff_112 : decode cX12_isOff 112 = .ok (.aload_n 0, 1) := by decide +kernel
theorem dX12_isOff_113 : decode cX12_isOff 113 = .ok (.getfield 29, 3) := by decide +kernel
theorem dX12_isOff_116 : decode cX12_isOff 116 = .ok (.iload_n 2, 1) := by decide +kernel
theorem dX12_isOff_117 : decode cX12_isOff 117 = .ok (.iaload, 1) := by decide +kernel
theorem dX12_isOff_118 : decode cX12_isOff 118 = .ok (.i2l, 1) := by decide +kernel
theorem dX12_isOff_119 : decode cX12_isOff 119 = .ok (.invokevirtual 134, 3) := by decide +kernel
theorem dX12_isOff_122 : decode cX12_isOff 122 = .ok (.aload_n 0, 1) := by decide +kernel
theorem dX12_isOff_123 : decode cX12_isOff 123 = .ok (.bipush 12, 2) := by decide +kernel
theorem dX12_isOff_125 : decode cX12_isOff 125 = .ok (.bipush 8, 2) := by decide +kernel
theorem dX12_isOff_127 : decode cX12_isOff 127 = .ok (.invokevirtual 118, 3) := by decide +kernel
theorem dX12_isOff_130 : decode cX12_isOff 130 = .ok (.iconst 1, 1) := by decide +kernel
theorem dX12_isOff_131 : decode cX12_isOff 131 = .ok (.ireturn, 1) := by decide +kernel
theorem dX12_leftOut_0 : decode cX12_leftOut 0 = .ok (.aload_n 0, 1) := by decide +kernel
theorem dX12_leftOut_1 : decode cX12_leftOut 1 = .ok (.iload_n 1, 1) := by decide +kernel
theorem dX12_leftOut_2 : decode cX12_leftOut 2 = .ok (.invokevirtual 190, 3) := by decide +kernel
theorem dX12_leftOut_5 : decode cX12_leftOut 5 = .ok (.ifCond .eq 23, 3) := by decide +kernel
theorem dX12_leftOut_8 : decode cX12_leftOut 8 = .ok (.aload_n 0, 1) := by decide +kernel
theorem dX12_leftOut_9 : decode cX12_leftOut 9 = .ok (.getfield 38, 3) := by decide +kernel
theorem dX12_leftOut_12 : decode cX12_leftOut 12 = .ok (.iconst (-1), 1) := by decide +kernel
theorem dX12_leftOut_13 : decode cX12_leftOut 13 = .ok (.if_icmp .eq 15, 3) := by decide +kernel
theorem dX12_leftOut_16 : decode cX12_leftOut 16 = .ok (.aload_n 0, 1) := by decide +kernel
theorem dX12_leftOut_17 : decode cX12_leftOut 17 = .ok (.aload_n 0, 1) := by decide +kernel
theorem dX12_leftOut_18 : decode cX12_leftOut 18 = .ok (.getfield 38, 3) := by decide +kernel
theorem dX12_leftOut_21 : decode cX12_leftOut 21 = .ok (.iload_n 1, 1) := by decide +kernel
theorem dX12_leftOut_22 : decode cX12_leftOut 22 = .ok (.invokevirtual 257, 3) := by decide +kernel
theorem dX12_leftOut_25 : decode cX12_leftOut 25 = .ok (.ifCond .ne 5, 3) := by decide +kernel
theorem dX12_leftOut_28 : decode cX12_leftOut 28 = .ok (.iconst 0, 1) := by decide +kernel
theorem dX12_leftOut_29 : decode cX12_leftOut 29 = .ok (.ireturn, 1) := by decide +kernel
theorem dX12_leftOut_30 : decode cX12_leftOut 30 = .ok (.aload_n 0, 1) := by decide +kernel
theorem dX12_leftOut_31 : decode cX12_leftOut 31 = .ok (.bipush 11, 2) := by decide +kernel
theorem dX12_leftOut_33 : decode cX12_leftOut 33 = .ok (.bipush 12, 2) := by decide +kernel
theorem dX12_leftOut_35 : decode cX12_leftOut 35 = .ok (.invokevirtual 254, 3) := by decide +kernel
theorem dX12_leftOut_38 : decode cX12_leftOut 38 = .ok (.iconst 1, 1) := by decide +kernel
theorem dX12_leftOut_39 : decode cX12_leftOut 39 = .ok (.ireturn, 1) := by decide +kernel
theorem dX12_bare__0 : decode cX12_bare_ 0 = .ok (.aload_n 0, 1) := by decide +kernel
theorem dX12_bare__1 : decode cX12_bare_ 1 = .ok (.iload_n 1, 1) := by decide +kernel
theorem dX12_bare__2 : decode cX12_bare_ 2 = .ok (.invokevirtual 96, 3) := by decide +kernel
theorem dX12_bare__5 : decode cX12_bare_ 5 = .ok (.ifCond .eq 8, 3) := by decide +kernel
theorem dX12_bare__8 : decode cX12_bare_ 8 = .ok (.aload_n 0, 1) := by decide +kernel
theorem dX12_bare__9 : decode cX12_bare_ 9 = .ok (.iload_n 1, 1) := by decide +kernel
theorem dX12_bare__10 : decode cX12_bare_ 10 = .ok (.invokevirtual 99, 3) := by decide +kernel
theorem dX12_bare__13 : decode cX12_bare_ 13 = .ok (.return_, 1) := by decide +kernel
theorem dX12_isAbove_0 : decode cX12_isAbove 0 = .ok (.aload_n 0, 1) := by decide +kernel
theorem dX12_isAbove_1 : decode cX12_isAbove 1 = .ok (.bipush 6, 2) := by decide +kernel
theorem dX12_isAbove_3 : decode cX12_isAbove 3 = .ok (.iload_n 1, 1) := by decide +kernel
theorem dX12_isAbove_4 : decode cX12_isAbove 4 = .ok (.iload 4, 2) := by decide +kernel
theorem dX12_isAbove_6 : decode cX12_isAbove 6 = .ok (.invokevirtual 163, 3) := by decide +kernel
theorem dX12_isAbove_9 : decode cX12_isAbove 9 = .ok (.aload_n 0, 1) := by decide +kernel
theorem dX12_isAbove_10 : decode cX12_isAbove 10 = .ok (.bipush 7, 2) := by decide +kernel
theorem dX12_isAbove_12 : decode cX12_isAbove 12 = .ok (.iload_n 3, 1) := by decide +kernel
theorem dX12_isAbove_13 : decode cX12_isAbove 13 = .ok (.iload_n 2, 1) := by decide +kernel
theorem dX12_isAbove_14 : decode cX12_isAbove 14 = .ok (.invokevirtual 163, 3) := by decide +kernel
theorem dX12_isAbove_17 : decode cX12_isAbove 17 = .ok (.aload_n 0, 1) := by decide +kernel
theorem dX12_isAbove_18 : decode cX12_isAbove 18 = .ok (.bipush 7, 2) := by decide +kernel
theorem dX12_isAbove_20 : decode cX12_isAbove 20 = .ok (.bipush 6, 2) := by decide +kernel
theorem dX12_isAbove_22 : decode cX12_isAbove 22 = .ok (.invokevirtual 128, 3) := by decide +kernel
theorem dX12_isAbove_25 : decode cX12_isAbove 25 = .ok (.ireturn, 1) := by decide +kernel
theorem dX12_worst_0 : decode cX12_worst 0 = .ok (.iconst (-1), 1) := by decide +kernel
theorem dX12_worst_1 : decode cX12_worst 1 = .ok (.istore_n 2, 1) := by decide +kernel
theorem dX12_worst_2 : decode cX12_worst 2 = .ok (.iconst 0, 1) := by decide +kernel
theorem dX12_worst_3 : decode cX12_worst 3 = .ok (.istore_n 3, 1) := by decide +kernel
theorem dX12_worst_4 : decode cX12_worst 4 = .ok (.iload_n 3, 1) := by decide +kernel
theorem dX12_worst_5 : decode cX12_worst 5 = .ok (.aload_n 0, 1) := by decide +kernel
theorem dX12_worst_6 : decode cX12_worst 6 = .ok (.getfield 167, 3) := by decide +kernel
theorem dX12_worst_9 : decode cX12_worst 9 = .ok (.if_icmp .ge 70, 3) := by decide +kernel
theorem dX12_worst_12 : decode cX12_worst 12 = .ok (.aload_n 0, 1) := by decide +kernel
theorem dX12_worst_13 : decode cX12_worst 13 = .ok (.iload_n 1, 1) := by decide +kernel
theorem dX12_worst_14 : decode cX12_worst 14 = .ok (.iload_n 3, 1) := by decide +kernel
theorem dX12_worst_15 : decode cX12_worst 15 = .ok (.invokevirtual 257, 3) := by decide +kernel
theorem dX12_worst_18 : decode cX12_worst 18 = .ok (.ifCond .ne 5, 3) := by decide +kernel
theorem dX12_worst_21 : decode cX12_worst 21 = .ok (.iconst (-1), 1) := by decide +kernel
theorem dX12_worst_22 : decode cX12_worst 22 = .ok (.ireturn, 1) := by decide +kernel
theorem dX12_worst_23 : decode cX12_worst 23 = .ok (.aload_n 0, 1) := by decide +kernel
theorem dX12_worst_24 : decode cX12_worst 24 = .ok (.bipush 11, 2) := by decide +kernel
theorem dX12_worst_26 : decode cX12_worst 26 = .ok (.invokevirtual 260, 3) := by decide +kernel
theorem dX12_worst_29 : decode cX12_worst 29 = .ok (.aload_n 0, 1) := by decide +kernel
theorem dX12_worst_30 : decode cX12_worst 30 = .ok (.bipush 12, 2) := by decide +kernel
theorem dX12_worst_32 : decode cX12_worst 32 = .ok (.invokevirtual 260, 3) := by decide +kernel
theorem dX12_worst_35 : decode cX12_worst 35 = .ok (.iload_n 2, 1) := by decide +kernel
theorem dX12_worst_36 : decode cX12_worst 36 = .ok (.iconst (-1), 1) := by decide +kernel
theorem dX12_worst_37 : decode cX12_worst 37 = .ok (.if_icmp .eq 18, 3) := by decide +kernel
theorem dX12_worst_40 : decode cX12_worst 40 = .ok (.aload_n 0, 1) := by decide +kernel
theorem dX12_worst_41 : decode cX12_worst 41 = .ok (.bipush 11, 2) := by decide +kernel
theorem dX12_worst_43 : decode cX12_worst 43 = .ok (.bipush 12, 2) := by decide +kernel
theorem dX12_worst_45 : decode cX12_worst 45 = .ok (.bipush 13, 2) := by decide +kernel
theorem dX12_worst_47 : decode cX12_worst 47 = .ok (.bipush 14, 2) := by decide +kernel
theorem dX12_worst_49 : decode cX12_worst 49 = .ok (.invokevirtual 262, 3) := by decide +kernel
theorem dX12_worst_52 : decode cX12_worst 52 = .ok (.ifCond .eq 21, 3) := by decide +kernel
theorem dX12_worst_55 : decode cX12_worst 55 = .ok (.iload_n 3, 1) := by decide +kernel
theorem dX12_worst_56 : decode cX12_worst 56 = .ok (.istore_n 2, 1) := by decide +kernel
theorem dX12_worst_57 : decode cX12_worst 57 = .ok (.aload_n 0, 1) := by decide +kernel
theorem dX12_worst_58 : decode cX12_worst 58 = .ok (.bipush 13, 2) := by decide +kernel
theorem dX12_worst_60 : decode cX12_worst 60 = .ok (.bipush 11, 2) := by decide +kernel
theorem dX12_worst_62 : decode cX12_worst 62 = .ok (.invokevirtual 118, 3) := by decide +kernel
theorem dX12_worst_65 : decode cX12_worst 65 = .ok (.aload_n 0, 1) := by decide +kernel
theorem dX12_worst_66 : decode cX12_worst 66 = .ok (.bipush 14, 2) := by decide +kernel
theorem dX12_worst_68 : decode cX12_worst 68 = .ok (.bipush 12, 2) := by decide +kernel
theorem dX12_worst_70 : decode cX12_worst 70 = .ok (.invokevirtual 118, 3) := by decide +kernel
theorem dX12_worst_73 : decode cX12_worst 73 = .ok (.iinc 3 1, 3) := by decide +kernel
theorem dX12_worst_76 : decode cX12_worst 76 = .ok (.goto (-72), 3) := by decide +kernel
theorem dX12_worst_79 : decode cX12_worst 79 = .ok (.iload_n 2, 1) := by decide +kernel
theorem dX12_worst_80 : decode cX12_worst 80 = .ok (.ireturn, 1) := by decide +kernel
theorem dX12_worst__0 : decode cX12_worst_ 0 = .ok (.aload_n 0, 1) := by decide +kernel
theorem dX12_worst__1 : decode cX12_worst_ 1 = .ok (.getfield 38, 3) := by decide +kernel
theorem dX12_worst__4 : decode cX12_worst_ 4 = .ok (.iconst (-1), 1) := by decide +kernel
theorem dX12_worst__5 : decode cX12_worst_ 5 = .ok (.if_icmp .ne 7, 3) := by decide +kernel
theorem dX12_worst__8 : decode cX12_worst_ 8 = .ok (.iconst (-1), 1) := by decide +kernel
theorem dX12_worst__9 : decode cX12_worst_ 9 = .ok (.goto 11, 3) := by decide +kernel
theorem dX12_worst__12 : decode cX12_worst_ 12 = .ok (.aload_n 0, 1) := by decide +kernel
theorem dX12_worst__13 : decode cX12_worst_ 13 = .ok (.aload_n 0, 1) := by decide +kernel
theorem dX12_worst__14 : decode cX12_worst_ 14 = .ok (.getfield 38, 3) := by decide +kernel
theorem dX12_worst__17 : decode cX12_worst_ 17 = .ok (.invokevirtual 266, 3) := by decide +kernel
theorem dX12_worst__20 : decode cX12_worst_ 20 = .ok (.ireturn, 1) := by decide +kernel
theorem dX12_best_0 : decode cX12_best 0 = .ok (.iconst (-1), 1) := by decide +kernel
theorem dX12_best_1 : decode cX12_best 1 = .ok (.istore_n 1, 1) := by decide +kernel
theorem dX12_best_2 : decode cX12_best 2 = .ok (.iconst 0, 1) := by decide +kernel
theorem dX12_best_3 : decode cX12_best 3 = .ok (.istore_n 2, 1) := by decide +kernel
theorem dX12_best_4 : decode cX12_best 4 = .ok (.iload_n 2, 1) := by decide +kernel
theorem dX12_best_5 : decode cX12_best 5 = .ok (.aload_n 0, 1) := by decide +kernel
theorem dX12_best_6 : decode cX12_best 6 = .ok (.getfield 193, 3) := by decide +kernel
theorem dX12_best_9 : decode cX12_best 9 = .ok (.if_icmp .ge 59, 3) := by decide +kernel
theorem dX12_best_12 : decode cX12_best 12 = .ok (.aload_n 0, 1) := by decide +kernel
theorem dX12_best_13 : decode cX12_best 13 = .ok (.iload_n 2, 1) := by decide +kernel
theorem dX12_best_14 : decode cX12_best 14 = .ok (.invokevirtual 266, 3) := by decide +kernel
theorem dX12_best_17 : decode cX12_best 17 = .ok (.iconst (-1), 1) := by decide +kernel
theorem dX12_best_18 : decode cX12_best 18 = .ok (.if_icmp .ne 6, 3) := by decide +kernel
theorem dX12_best_21 : decode cX12_best 21 = .ok (.goto 41, 3) := by decide +kernel
theorem dX12_best_24 : decode cX12_best 24 = .ok (.iload_n 1, 1) := by decide +kernel
theorem dX12_best_25 : decode cX12_best 25 = .ok (.iconst (-1), 1) := by decide +kernel
theorem dX12_best_26 : decode cX12_best 26 = .ok (.if_icmp .eq 18, 3) := by decide +kernel
theorem dX12_best_29 : decode cX12_best 29 = .ok (.aload_n 0, 1) := by decide +kernel
theorem dX12_best_30 : decode cX12_best 30 = .ok (.bipush 15, 2) := by decide +kernel
theorem dX12_best_32 : decode cX12_best 32 = .ok (.bipush 16, 2) := by decide +kernel
theorem dX12_best_34 : decode cX12_best 34 = .ok (.bipush 13, 2) := by decide +kernel
theorem dX12_best_36 : decode cX12_best 36 = .ok (.bipush 14, 2) := by decide +kernel
theorem dX12_best_38 : decode cX12_best 38 = .ok (.invokevirtual 262, 3) := by decide +kernel
theorem dX12_best_41 : decode cX12_best 41 = .ok (.ifCond .eq 21, 3) := by decide +kernel
theorem dX12_best_44 : decode cX12_best 44 = .ok (.iload_n 2, 1) := by decide +kernel
theorem dX12_best_45 : decode cX12_best 45 = .ok (.istore_n 1, 1) := by decide +kernel
theorem dX12_best_46 : decode cX12_best 46 = .ok (.aload_n 0, 1) := by decide +kernel
theorem dX12_best_47 : decode cX12_best 47 = .ok (.bipush 15, 2) := by decide +kernel
theorem dX12_best_49 : decode cX12_best 49 = .ok (.bipush 13, 2) := by decide +kernel
theorem dX12_best_51 : decode cX12_best 51 = .ok (.invokevirtual 118, 3) := by decide +kernel
theorem dX12_best_54 : decode cX12_best 54 = .ok (.aload_n 0, 1) := by decide +kernel
theorem dX12_best_55 : decode cX12_best 55 = .ok (.bipush 16, 2) := by decide +kernel
theorem dX12_best_57 : decode cX12_best 57 = .ok (.bipush 14, 2) := by decide +kernel
theorem dX12_best_59 : decode cX12_best 59 = .ok (.invokevirtual 118, 3) := by decide +kernel
theorem dX12_best_62 : decode cX12_best 62 = .ok (.iinc 2 1, 3) := by decide +kernel
theorem dX12_best_65 : decode cX12_best 65 = .ok (.goto (-61), 3) := by decide +kernel
theorem dX12_best_68 : decode cX12_best 68 = .ok (.iload_n 1, 1) := by decide +kernel
theorem dX12_best_69 : decode cX12_best 69 = .ok (.ireturn, 1) := by decide +kernel
theorem dX12_minor_0 : decode cX12_minor 0 = .ok (.aload_n 0, 1) := by decide +kernel
theorem dX12_minor_1 : decode cX12_minor 1 = .ok (.getfield 167, 3) := by decide +kernel
theorem dX12_minor_4 : decode cX12_minor 4 = .ok (.iconst 1, 1) := by decide +kernel
theorem dX12_minor_5 : decode cX12_minor 5 = .ok (.isub, 1) := by decide +kernel
theorem dX12_minor_6 : decode cX12_minor 6 = .ok (.istore_n 3, 1) := by decide +kernel
theorem dX12_minor_7 : decode cX12_minor 7 = .ok (.aload_n 0, 1) := by decide +kernel
theorem dX12_minor_8 : decode cX12_minor 8 = .ok (.iconst 0, 1) := by decide +kernel
theorem dX12_minor_9 : decode cX12_minor 9 = .ok (.putfield 150, 3) := by decide +kernel
theorem dX12_minor_12 : decode cX12_minor 12 = .ok (.iconst 0, 1) := by decide +kernel
theorem dX12_minor_13 : decode cX12_minor 13 = .ok (.istore 4, 2) := by decide +kernel
theorem dX12_minor_15 : decode cX12_minor 15 = .ok (.iload 4, 2) := by decide +kernel
theorem dX12_minor_17 : decode cX12_minor 17 = .ok (.iload_n 3, 1) := by decide +kernel
theorem dX12_minor_18 : decode cX12_minor 18 = .ok (.if_icmp .ge 104, 3) := by decide +kernel
theorem dX12_minor_21 : decode cX12_minor 21 = .ok (.iload_n 2, 1) := by decide +kernel
theorem dX12_minor_22 : decode cX12_minor 22 = .ok (.iload 4, 2) := by decide +kernel
theorem dX12_minor_24 : decode cX12_minor 24 = .ok (.ishr, 1) := by decide +kernel
theorem dX12_minor_25 : decode cX12_minor 25 = .ok (.iconst 1, 1) := by decide +kernel
theorem dX12_minor_26 : decode cX12_minor 26 = .ok (.iand, 1) := by decide +kernel
theorem dX12_minor_27 : decode cX12_minor 27 = .ok (.ifCond .ne 6, 3) := by decide +kernel
theorem dX12_minor_30 : decode cX12_minor 30 = .ok (.goto 86, 3) := by decide +kernel
theorem dX12_minor_33 : decode cX12_minor 33 = .ok (.iconst 0, 1) := by decide +kernel
theorem dX12_minor_34 : decode cX12_minor 34 = .ok (.istore 5, 2) := by decide +kernel
theorem dX12_minor_36 : decode cX12_minor 36 = .ok (.iconst 0, 1) := by decide +kernel
theorem dX12_minor_37 : decode cX12_minor 37 = .ok (.istore 6, 2) := by decide +kernel
theorem dX12_minor_39 : decode cX12_minor 39 = .ok (.iload 6, 2) := by decide +kernel
theorem dX12_minor_41 : decode cX12_minor 41 = .ok (.iload_n 3, 1) := by decide +kernel
theorem dX12_minor_42 : decode cX12_minor 42 = .ok (.if_icmp .ge 64, 3) := by decide +kernel
theorem dX12_minor_45 : decode cX12_minor 45 = .ok (.iload_n 2, 1) := by decide +kernel
theorem dX12_minor_46 : decode cX12_minor 46 = .ok (.iload 6, 2) := by decide +kernel
theorem dX12_minor_48 : decode cX12_minor 48 = .ok (.ishr, 1) := by decide +kernel
theorem dX12_minor_49 : decode cX12_minor 49 = .ok (.iconst 1, 1) := by decide +kernel
theorem dX12_minor_50 : decode cX12_minor 50 = .ok (.iand, 1) := by decide +kernel
theorem dX12_minor_51 : decode cX12_minor 51 = .ok (.iconst 1, 1) := by decide +kernel
theorem dX12_minor_52 : decode cX12_minor 52 = .ok (.if_icmp .ne 48, 3) := by decide +kernel
theorem dX12_minor_55 : decode cX12_minor 55 = .ok (.aload_n 0, 1) := by decide +kernel
theorem dX12_minor_56 : decode cX12_minor 56 = .ok (.aload_n 0, 1) := by decide +kernel
theorem dX12_minor_57 : decode cX12_minor 57 = .ok (.aload_n 0, 1) := by decide +kernel
theorem dX12_minor_58 : decode cX12_minor 58 = .ok (.getfield 150, 3) := by decide +kernel
theorem dX12_minor_61 : decode cX12_minor 61 = .ok (.iload 5, 2) := by decide +kernel
theorem dX12_minor_63 : decode cX12_minor 63 = .ok (.invokevirtual 153, 3) := by decide +kernel
theorem dX12_minor_66 : decode cX12_minor 66 = .ok (.aload_n 0, 1) := by decide +kernel
theorem dX12_minor_67 : decode cX12_minor 67 = .ok (.iload_n 1, 1) := by decide +kernel
theorem dX12_minor_68 : decode cX12_minor 68 = .ok (.iload 4, 2) := by decide +kernel
theorem dX12_minor_70 : decode cX12_minor 70 = .ok (.iload_n 3, 1) := by decide +kernel
theorem dX12_minor_71 : decode cX12_minor 71 = .ok (.invokevirtual 220, 3) := by decide +kernel
theorem dX12_minor_74 : decode cX12_minor 74 = .ok (.aload_n 0, 1) := by decide +kernel
theorem dX12_minor_75 : decode cX12_minor 75 = .ok (.iload_n 1, 1) := by decide +kernel
theorem dX12_minor_76 : decode cX12_minor 76 = .ok (.iload 6, 2) := by decide +kernel
theorem dX12_minor_78 : decode cX12_minor 78 = .ok (.iload_n 3, 1) := by decide +kernel
theorem dX12_minor_79 : decode cX12_minor 79 = .ok (.invokevirtual 220, 3) := by decide +kernel
theorem dX12_minor_82 : decode cX12_minor 82 = .ok (.iadd, 1) := by decide +kernel
theorem dX12_minor_83 : decode cX12_minor 83 = .ok (.aload_n 0, 1) := by decide +kernel
theorem dX12_minor_84 : decode cX12_minor 84 = .ok (.iload_n 1, 1) := by decide +kernel
theorem dX12_minor_85 : decode cX12_minor 85 = .ok (.iload 4, 2) := by decide +kernel
theorem dX12_minor_87 : decode cX12_minor 87 = .ok (.iload 6, 2) := by decide +kernel
theorem dX12_minor_89 : decode cX12_minor 89 = .ok (.invokevirtual 220, 3) := by decide +kernel
theorem dX12_minor_92 : decode cX12_minor 92 = .ok (.isub, 1) := by decide +kernel
theorem dX12_minor_93 : decode cX12_minor 93 = .ok (.i2l, 1) := by decide +kernel
theorem dX12_minor_94 : decode cX12_minor 94 = .ok (.invokevirtual 73, 3) := by decide +kernel
theorem dX12_minor_97 : decode cX12_minor 97 = .ok (.iinc 5 1, 3) := by decide +kernel
theorem dX12_minor_100 : decode cX12_minor 100 = .ok (.iinc 6 1, 3) := by decide +kernel
theorem dX12_minor_103 : decode cX12_minor 103 = .ok (.goto (-64), 3) := by decide +kernel
theorem dX12_minor_106 : decode cX12_minor 106 = .ok (.aload_n 0, 1) := by decide +kernel
theorem dX12_minor_107 : decode cX12_minor 107 = .ok (.dup, 1) := by decide +kernel
theorem dX12_minor_108 : decode cX12_minor 108 = .ok (.getfield 150, 3) := by decide +kernel
theorem dX12_minor_111 : decode cX12_minor 111 = .ok (.iconst 1, 1) := by decide +kernel
theorem dX12_minor_112 : decode cX12_minor 112 = .ok (.iadd, 1) := by decide +kernel
theorem dX12_minor_113 : decode cX12_minor 113 = .ok (.putfield 150, 3) := by decide +kernel
theorem dX12_minor_116 : decode cX12_minor 116 = .ok (.iinc 4 1, 3) := by decide +kernel
theorem dX12_minor_119 : decode cX12_minor 119 = .ok (.goto (-104), 3) := by decide +kernel
theorem dX12_minor_122 : decode cX12_minor 122 = .ok (.aload_n 0, 1) := by decide +kernel
theorem dX12_minor_123 : decode cX12_minor 123 = .ok (.aload_n 0, 1) := by decide +kernel
theorem dX12_minor_124 : decode cX12_minor 124 = .ok (.getfield 150, 3) := by decide +kernel
theorem dX12_minor_127 : decode cX12_minor 127 = .ok (.putfield 157, 3) := by decide +kernel
theorem dX12_minor_130 : decode cX12_minor 130 = .ok (.aload_n 0, 1) := by decide +kernel
theorem dX12_minor_131 : decode cX12_minor 131 = .ok (.aload_n 0, 1) := by decide +kernel
theorem dX12_minor_132 : decode cX12_minor 132 = .ok (.getfield 150, 3) := by decide +kernel
theorem dX12_minor_135 : decode cX12_minor 135 = .ok (.invokevirtual 227, 3) := by decide +kernel
theorem dX12_minor_138 : decode cX12_minor 138 = .ok (.aload_n 0, 1) := by decide +kernel
theorem dX12_minor_139 : decode cX12_minor 139 = .ok (.getfield 144, 3) := by decide +kernel
theorem dX12_minor_142 : decode cX12_minor 142 = .ok (.aload_n 0, 1) := by decide +kernel
theorem dX12_minor_143 : decode cX12_minor 143 = .ok (.getfield 150, 3) := by decide +kernel
theorem dX12_minor_146 : decode cX12_minor 146 = .ok (.if_icmp .ge 7, 3) := by decide +kernel
theorem dX12_minor_149 : decode cX12_minor 149 = .ok (.iconst 0, 1) := by decide +kernel
theorem dX12_minor_150 : decode cX12_minor 150 = .ok (.goto 28, 3) := by decide +kernel
theorem dX12_minor_153 : decode cX12_minor 153 = .ok (.aload_n 0, 1) := by decide +kernel
theorem dX12_minor_154 : decode cX12_minor 154 = .ok (.getfield 147, 3) := by decide +kernel
theorem dX12_minor_157 : decode cX12_minor 157 = .ok (.iconst 2, 1) := by decide +kernel
theorem dX12_minor_158 : decode cX12_minor 158 = .ok (.irem, 1) := by decide +kernel
theorem dX12_minor_159 : decode cX12_minor 159 = .ok (.ifCond .ne 12, 3) := by decide +kernel
theorem dX12_minor_162 : decode cX12_minor 162 = .ok (.aload_n 0, 1) := by decide +kernel
theorem dX12_minor_163 : decode cX12_minor 163 = .ok (.bipush 8, 2) := by decide +kernel
theorem dX12_minor_165 : decode cX12_minor 165 = .ok (.invokevirtual 269, 3) := by decide +kernel
theorem dX12_minor_168 : decode cX12_minor 168 = .ok (.goto 10, 3) := by decide +kernel
theorem dX12_minor_171 : decode cX12_minor 171 = .ok (.aload_n 0, 1) := by decide +kernel
theorem dX12_minor_172 : decode cX12_minor 172 = .ok (.bipush 8, 2) := by decide +kernel
theorem dX12_minor_174 : decode cX12_minor 174 = .ok (.invokevirtual 269, 3) := by decide +kernel
theorem dX12_minor_177 : decode cX12_minor 177 = .ok (.ineg, 1) := by decide +kernel
theorem dX12_minor_178 : decode cX12_minor 178 = .ok (.ireturn, 1) := by decide +kernel
theorem dX12_allowed_0 : decode cX12_allowed 0 = .ok (.aload_n 0, 1) := by decide +kernel
theorem dX12_allowed_1 : decode cX12_allowed 1 = .ok (.iload_n 1, 1) := by decide +kernel
theorem dX12_allowed_2 : decode cX12_allowed 2 = .ok (.invokevirtual 200, 3) := by decide +kernel
theorem dX12_allowed_5 : decode cX12_allowed 5 = .ok (.ifCond .ne 5, 3) := by decide +kernel
theorem dX12_allowed_8 : decode cX12_allowed 8 = .ok (.iconst (-1), 1) := by decide +kernel
theorem dX12_allowed_9 : decode cX12_allowed 9 = .ok (.ireturn, 1) := by decide +kernel
theorem dX12_allowed_10 : decode cX12_allowed 10 = .ok (.iconst 1, 1) := by decide +kernel
theorem dX12_allowed_11 : decode cX12_allowed 11 = .ok (.istore_n 2, 1) := by decide +kernel
theorem dX12_allowed_12 : decode cX12_allowed 12 = .ok (.iconst 1, 1) := by decide +kernel
theorem dX12_allowed_13 : decode cX12_allowed 13 = .ok (.istore_n 3, 1) := by decide +kernel
theorem dX12_allowed_14 : decode cX12_allowed 14 = .ok (.aload_n 0, 1) := by decide +kernel
theorem dX12_allowed_15 : decode cX12_allowed 15 = .ok (.getfield 167, 3) := by decide +kernel
theorem dX12_allowed_18 : decode cX12_allowed 18 = .ok (.iconst 1, 1) := by decide +kernel
theorem dX12_allowed_19 : decode cX12_allowed 19 = .ok (.if_icmp .le 51, 3) := by decide +kernel
theorem dX12_allowed_22 : decode cX12_allowed 22 = .ok (.iload_n 3, 1) := by decide +kernel
theorem dX12_allowed_23 : decode cX12_allowed 23 = .ok (.iconst 1, 1) := by decide +kernel
theorem dX12_allowed_24 : decode cX12_allowed 24 = .ok (.aload_n 0, 1) := by decide +kernel
theorem dX12_allowed_25 : decode cX12_allowed 25 = .ok (.getfield 167, 3) := by decide +kernel
theorem dX12_allowed_28 : decode cX12_allowed 28 = .ok (.iconst 1, 1) := by decide +kernel
theorem dX12_allowed_29 : decode cX12_allowed 29 = .ok (.isub, 1) := by decide +kernel
theorem dX12_allowed_30 : decode cX12_allowed 30 = .ok (.ishl, 1) := by decide +kernel
theorem dX12_allowed_31 : decode cX12_allowed 31 = .ok (.if_icmp .ge 39, 3) := by decide +kernel
theorem dX12_allowed_34 : decode cX12_allowed 34 = .ok (.aload_n 0, 1) := by decide +kernel
theorem dX12_allowed_35 : decode cX12_allowed 35 = .ok (.iload_n 1, 1) := by decide +kernel
theorem dX12_allowed_36 : decode cX12_allowed 36 = .ok (.iload_n 3, 1) := by decide +kernel
theorem dX12_allowed_37 : decode cX12_allowed 37 = .ok (.invokevirtual 272, 3) := by decide +kernel
theorem dX12_allowed_40 : decode cX12_allowed 40 = .ok (.istore 4, 2) := by decide +kernel
theorem dX12_allowed_42 : decode cX12_allowed 42 = .ok (.iload 4, 2) := by decide +kernel
theorem dX12_allowed_44 : decode cX12_allowed 44 = .ok (.ifCond .ge 5, 3) := by decide +kernel
theorem dX12_allowed_47 : decode cX12_allowed 47 = .ok (.iconst 0, 1) := by decide +kernel
theorem dX12_allowed_48 : decode cX12_allowed 48 = .ok (.ireturn, 1) := by decide +kernel
theorem dX12_allowed_49 : decode cX12_allowed 49 = .ok (.iload_n 2, 1) := by decide +kernel
theorem dX12_allowed_50 : decode cX12_allowed 50 = .ok (.ifCond .eq 12, 3) := by decide +kernel
theorem dX12_allowed_53 : decode cX12_allowed 53 = .ok (.iload 4, 2) := by decide +kernel
theorem dX12_allowed_55 : decode cX12_allowed 55 = .ok (.ifCond .le 7, 3) := by decide +kernel
theorem dX12_allowed_58 : decode cX12_allowed 58 = .ok (.iconst 1, 1) := by decide +kernel
theorem dX12_allowed_59 : decode cX12_allowed 59 = .ok (.goto 4, 3) := by decide +kernel
theorem dX12_allowed_62 : decode cX12_allowed 62 = .ok (.iconst 0, 1) := by decide +kernel
theorem dX12_allowed_63 : decode cX12_allowed 63 = .ok (.istore_n 2, 1) := by decide +kernel
theorem dX12_allowed_64 : decode cX12_allowed 64 = .ok (.iinc 3 1, 3) := by decide +kernel
theorem dX12_allowed_67 : decode cX12_allowed 67 = .ok (.goto (-53), 3) := by decide +kernel
theorem dX12_allowed_70 : decode cX12_allowed 70 = .ok (.iload_n 2, 1) := by decide +kernel
theorem dX12_allowed_71 : decode cX12_allowed 71 = .ok (.ifCond .eq 7, 3) := by decide +kernel
theorem dX12_allowed_74 : decode cX12_allowed 74 = .ok (.iconst 2, 1) := by decide +kernel
theorem dX12_allowed_75 : decode cX12_allowed 75 = .ok (.goto 4, 3) := by decide +kernel
theorem dX12_allowed_78 : decode cX12_allowed 78 = .ok (.iconst 1, 1) := by decide +kernel
theorem dX12_allowed_79 : decode cX12_allowed 79 = .ok (.ireturn, 1) := by decide +kernel
theorem dX12_band0_0 : decode cX12_band0 0 = .ok (.iconst 0, 1) := by decide +kernel
theorem dX12_band0_1 : decode cX12_band0 1 = .ok (.istore_n 3, 1) := by decide +kernel
theorem dX12_band0_2 : decode cX12_band0 2 = .ok (.aload_n 0, 1) := by decide +kernel
theorem dX12_band0_3 : decode cX12_band0 3 = .ok (.lconst 0, 1) := by decide +kernel
theorem dX12_band0_4 : decode cX12_band0 4 = .ok (.putfield 275, 3) := by decide +kernel
theorem dX12_band0_7 : decode cX12_band0 7 = .ok (.iconst 0, 1) := by decide +kernel
theorem dX12_band0_8 : decode cX12_band0 8 = .ok (.istore 4, 2) := by decide +kernel
theorem dX12_band0_10 : decode cX12_band0 10 = .ok (.iload 4, 2) := by decide +kernel
theorem dX12_band0_12 : decode cX12_band0 12 = .ok (.aload_n 0, 1) := by decide +kernel
theorem dX12_band0_13 : decode cX12_band0 13 = .ok (.getfield 167, 3) := by decide +kernel
theorem dX12_band0_16 : decode cX12_band0 16 = .ok (.if_icmp .ge 118, 3) := by decide +kernel
theorem dX12_band0_19 : decode cX12_band0 19 = .ok (.iconst 0, 1) := by decide +kernel
theorem dX12_band0_20 : decode cX12_band0 20 = .ok (.istore 5, 2) := by decide +kernel
theorem dX12_band0_22 : decode cX12_band0 22 = .ok (.iload 5, 2) := by decide +kernel
theorem dX12_band0_24 : decode cX12_band0 24 = .ok (.iload 4, 2) := by decide +kernel
theorem dX12_band0_26 : decode cX12_band0 26 = .ok (.if_icmp .ge 102, 3) := by decide +kernel
theorem dX12_band0_29 : decode cX12_band0 29 = .ok (.aload_n 0, 1) := by decide +kernel
theorem dX12_band0_30 : decode cX12_band0 30 = .ok (.getfield 23, 3) := by decide +kernel
theorem dX12_band0_33 : decode cX12_band0 33 = .ok (.iload 4, 2) := by decide +kernel
theorem dX12_band0_35 : decode cX12_band0 35 = .ok (.iaload, 1) := by decide +kernel
theorem dX12_band0_36 : decode cX12_band0 36 = .ok (.aload_n 0, 1) := by decide +kernel
theorem dX12_band0_37 : decode cX12_band0 37 = .ok (.getfield 26, 3) := by decide +kernel
theorem dX12_band0_40 : decode cX12_band0 40 = .ok (.iload 4, 2) := by decide +kernel
theorem dX12_band0_42 : decode cX12_band0 42 = .ok (.iaload, 1) := by decide +kernel
theorem dX12_band0_43 : decode cX12_band0 43 = .ok (.aload_n 0, 1) := by decide +kernel
theorem dX12_band0_44 : decode cX12_band0 44 = .ok (.getfield 23, 3) := by decide +kernel
theorem dX12_band0_47 : decode cX12_band0 47 = .ok (.iload 5, 2) := by decide +kernel
theorem dX12_band0_49 : decode cX12_band0 49 = .ok (.iaload, 1) := by decide +kernel
theorem dX12_band0_50 : decode cX12_band0 50 = .ok (.aload_n 0, 1) := by decide +kernel
theorem dX12_band0_51 : decode cX12_band0 51 = .ok (.getfield 26, 3) := by decide +kernel
theorem dX12_band0_54 : decode cX12_band0 54 = .ok (.iload 5, 2) := by decide +kernel
theorem dX12_band0_56 : decode cX12_band0 56 = .ok (.iaload, 1) := by decide +kernel
theorem dX12_band0_57 : decode cX12_band0 57 = .ok (.invokestatic 207, 3) := by decide +kernel
theorem dX12_band0_60 : decode cX12_band0 60 = .ok (.istore 6, 2) := by decide +kernel
theorem dX12_band0_62 : decode cX12_band0 62 = .ok (.iload 6, 2) := by decide +kernel
theorem dX12_band0_64 : decode cX12_band0 64 = .ok (.iload_n 1, 1) := by decide +kernel
theorem dX12_band0_65 : decode cX12_band0 65 = .ok (.if_icmp .lt 57, 3) := by decide +kernel
theorem dX12_band0_68 : decode cX12_band0 68 = .ok (.iload 6, 2) := by decide +kernel
theorem dX12_band0_70 : decode cX12_band0 70 = .ok (.iload_n 2, 1) := by decide +kernel
theorem dX12_band0_71 : decode cX12_band0 71 = .ok (.if_icmp .le 6, 3) := by decide +kernel
theorem dX12_band0_74 : decode cX12_band0 74 = .ok (.goto 48, 3) := by decide +kernel
theorem dX12_band0_77 : decode cX12_band0 77 = .ok (.iinc 3 1, 3) := by decide +kernel
theorem dX12_band0_80 : decode cX12_band0 80 = .ok (.aload_n 0, 1) := by decide +kernel
theorem dX12_band0_81 : decode cX12_band0 81 = .ok (.dup, 1) := by decide +kernel
theorem dX12_band0_82 : decode cX12_band0 82 = .ok (.getfield 275, 3) := by decide +kernel
theorem dX12_band0_85 : decode cX12_band0 85 = .ok (.aload_n 0, 1) := by decide +kernel
theorem dX12_band0_86 : decode cX12_band0 86 = .ok (.getfield 29, 3) := by decide +kernel
theorem dX12_band0_89 : decode cX12_band0 89 = .ok (.iload 4, 2) := by decide +kernel
theorem dX12_band0_91 : decode cX12_band0 91 = .ok (.iaload, 1) := by decide +kernel
theorem dX12_band0_92 : decode cX12_band0 92 = .ok (.aload_n 0, 1) := by decide +kernel
theorem dX12_band0_93 : decode cX12_band0 93 = .ok (.getfield 29, 3) := by decide +kernel
theorem dX12_band0_96 : decode cX12_band0 96 = .ok (.iload 5, 2) := by decide +kernel
theorem dX12_band0_98 : decode cX12_band0 98 = .ok (.iaload, 1) := by decide +kernel
theorem dX12_band0_99 : decode cX12_band0 99 = .ok (.isub, 1) := by decide +kernel
theorem dX12_band0_100 : decode cX12_band0 100 = .ok (.i2l, 1) := by decide +kernel
theorem dX12_band0_101 : decode cX12_band0 101 = .ok (.aload_n 0, 1) := by decide +kernel
theorem dX12_band0_102 : decode cX12_band0 102 = .ok (.getfield 29, 3) := by decide +kernel
theorem dX12_band0_105 : decode cX12_band0 105 = .ok (.iload 4, 2) := by decide +kernel
theorem dX12_band0_107 : decode cX12_band0 107 = .ok (.iaload, 1) := by decide +kernel
theorem dX12_band0_108 : decode cX12_band0 108 = .ok (.aload_n 0, 1) := by decide +kernel
theorem dX12_band0_109 : decode cX12_band0 109 = .ok (.getfield 29, 3) := by decide +kernel
theorem dX12_band0_112 : decode cX12_band0 112 = .ok (.iload 5, 2) := by decide +kernel
theorem dX12_band0_114 : decode cX12_band0 114 = .ok (.iaload, 1) := by decide +kernel
theorem dX12_band0_115 : decode cX12_band0 115 = .ok (.isub, 1) := by decide +kernel
theorem dX12_band0_116 : decode cX12_band0 116 = .ok (.i2l, 1) := by decide +kernel
theorem dX12_band0_117 : decode cX12_band0 117 = .ok (.lmul, 1) := by decide +kernel
theorem dX12_band0_118 : decode cX12_band0 118 = .ok (.ladd, 1) := by decide +kernel
theorem dX12_band0_119 : decode cX12_band0 119 = .ok (.putfield 275, 3) := by decide +kernel
theorem dX12_band0_122 : decode cX12_band0 122 = .ok (.iinc 5 1, 3) := by decide +kernel
theorem dX12_band0_125 : decode cX12_band0 125 = .ok (.goto (-103), 3) := by decide +kernel
theorem dX12_band0_128 : decode cX12_band0 128 = .ok (.iinc 4 1, 3) := by decide +kernel
theorem dX12_band0_131 : decode cX12_band0 131 = .ok (.goto (-121), 3) := by decide +kernel
theorem dX12_band0_134 : decode cX12_band0 134 = .ok (.iload_n 3, 1) := by decide +kernel
theorem dX12_band0_135 : decode cX12_band0 135 = .ok (.ireturn, 1) := by decide +kernel
theorem dX12_pairs_0 : decode cX12_pairs 0 = .ok (.aload_n 0, 1) := by decide +kernel
theorem dX12_pairs_1 : decode cX12_pairs 1 = .ok (.iload_n 1, 1) := by decide +kernel
theorem dX12_pairs_2 : decode cX12_pairs 2 = .ok (.iload_n 2, 1) := by decide +kernel
theorem dX12_pairs_3 : decode cX12_pairs 3 = .ok (.invokevirtual 279, 3) := by decide +kernel
theorem dX12_pairs_6 : decode cX12_pairs 6 = .ok (.ireturn, 1) := by decide +kernel
theorem dX12_band_0 : decode cX12_band 0 = .ok (.aload_n 0, 1) := by decide +kernel
theorem dX12_band_1 : decode cX12_band 1 = .ok (.iload_n 1, 1) := by decide +kernel
theorem dX12_band_2 : decode cX12_band 2 = .ok (.iload_n 2, 1) := by decide +kernel
theorem dX12_band_3 : decode cX12_band 3 = .ok (.invokevirtual 279, 3) := by decide +kernel
theorem dX12_band_6 : decode cX12_band 6 = .ok (.istore_n 3, 1) := by decide +kernel
theorem dX12_band_7 : decode cX12_band 7 = .ok (.iload_n 3, 1) := by decide +kernel
theorem dX12_band_8 : decode cX12_band 8 = .ok (.ifCond .ne 5, 3) := by decide +kernel
theorem dX12_band_11 : decode cX12_band 11 = .ok (.iconst 0, 1) := by decide +kernel
theorem dX12_band_12 : decode cX12_band 12 = .ok (.ireturn, 1) := by decide +kernel
theorem dX12_band_13 : decode cX12_band 13 = .ok (.aload_n 0, 1) := by decide +kernel
theorem dX12_band_14 : decode cX12_band 14 = .ok (.iconst 5, 1) := by decide +kernel
theorem dX12_band_15 : decode cX12_band 15 = .ok (.aload_n 0, 1) := by decide +kernel
theorem dX12_band_16 : decode cX12_band 16 = .ok (.getfield 275, 3) := by decide +kernel
theorem dX12_band_19 : decode cX12_band 19 = .ok (.invokevirtual 73, 3) := by decide +kernel
theorem dX12_band_22 : decode cX12_band 22 = .ok (.aload_n 0, 1) := by decide +kernel
theorem dX12_band_23 : decode cX12_band 23 = .ok (.bipush 6, 2) := by decide +kernel
theorem dX12_band_25 : decode cX12_band 25 = .ok (.ldc2_w 112, 3) := by decide +kernel
theorem dX12_band_28 : decode cX12_band 28 = .ok (.iload_n 3, 1) := by decide +kernel
theorem dX12_band_29 : decode cX12_band 29 = .ok (.i2l, 1) := by decide +kernel
theorem dX12_band_30 : decode cX12_band 30 = .ok (.lmul, 1) := by decide +kernel
theorem dX12_band_31 : decode cX12_band 31 = .ok (.invokevirtual 73, 3) := by decide +kernel
theorem dX12_band_34 : decode cX12_band 34 = .ok (.aload_n 0, 1) := by decide +kernel
theorem dX12_band_35 : decode cX12_band 35 = .ok (.iconst 5, 1) := by decide +kernel
theorem dX12_band_36 : decode cX12_band 36 = .ok (.bipush 6, 2) := by decide +kernel
theorem dX12_band_38 : decode cX12_band 38 = .ok (.invokevirtual 254, 3) := by decide +kernel
theorem dX12_band_41 : decode cX12_band 41 = .ok (.iconst 1, 1) := by decide +kernel
theorem dX12_band_42 : decode cX12_band 42 = .ok (.ireturn, 1) := by decide +kernel
theorem dX12_manyParts_0 : decode cX12_manyParts 0 = .ok (.aload_n 1, 1) := by decide +kernel
theorem dX12_manyParts_1 : decode cX12_manyParts 1 = .ok (.invokestatic 106, 3) := by decide +kernel
theorem dX12_manyParts_4 : decode cX12_manyParts 4 = .ok (.istore_n 2, 1) := by decide +kernel
theorem dX12_manyParts_5 : decode cX12_manyParts 5 = .ok (.iload_n 2, 1) := by decide +kernel
theorem dX12_manyParts_6 : decode cX12_manyParts 6 = .ok (.ifCond .ne 7, 3) := by decide +kernel
theorem dX12_manyParts_9 : decode cX12_manyParts 9 = .ok (.iconst 1, 1) := by decide +kernel
theorem dX12_manyParts_10 : decode cX12_manyParts 10 = .ok (.goto 4, 3) := by decide +kernel
theorem dX12_manyParts_13 : decode cX12_manyParts 13 = .ok (.iload_n 2, 1) := by decide +kernel
theorem dX12_manyParts_14 : decode cX12_manyParts 14 = .ok (.ireturn, 1) := by decide +kernel
theorem dX12_look_0 : decode cX12_look 0 = .ok (.iload_n 1, 1) := by decide +kernel
theorem dX12_look_1 : decode cX12_look 1 = .ok (.ifCond .ne 9, 3) := by decide +kernel
theorem dX12_look_4 : decode cX12_look 4 = .ok (.aload_n 0, 1) := by decide +kernel
theorem dX12_look_5 : decode cX12_look 5 = .ok (.iconst 0, 1) := by decide +kernel
theorem dX12_look_6 : decode cX12_look 6 = .ok (.invokevirtual 269, 3) := by decide +kernel
theorem dX12_look_9 : decode cX12_look 9 = .ok (.ireturn, 1) := by decide +kernel
theorem dX12_look_10 : decode cX12_look 10 = .ok (.iload_n 1, 1) := by decide +kernel
theorem dX12_look_11 : decode cX12_look 11 = .ok (.iconst 1, 1) := by decide +kernel
theorem dX12_look_12 : decode cX12_look 12 = .ok (.if_icmp .eq 10, 3) := by decide +kernel
theorem dX12_look_15 : decode cX12_look 15 = .ok (.iload_n 1, 1) := by decide +kernel
theorem dX12_look_16 : decode cX12_look 16 = .ok (.iconst 2, 1) := by decide +kernel
theorem dX12_look_17 : decode cX12_look 17 = .ok (.if_icmp .eq 5, 3) := by decide +kernel
theorem dX12_look_20 : decode cX12_look 20 = .ok (.iconst (-1), 1) := by decide +kernel
theorem dX12_look_21 : decode cX12_look 21 = .ok (.ireturn, 1) := by decide +kernel
theorem dX12_look_22 : decode cX12_look 22 = .ok (.aload_n 0, 1) := by decide +kernel
theorem dX12_look_23 : decode cX12_look 23 = .ok (.iload_n 1, 1) := by decide +kernel
theorem dX12_look_24 : decode cX12_look 24 = .ok (.iconst 1, 1) := by decide +kernel
theorem dX12_look_25 : decode cX12_look 25 = .ok (.if_icmp .ne 7, 3) := by decide +kernel
theorem dX12_look_28 : decode cX12_look 28 = .ok (.iconst 0, 1) := by decide +kernel
theorem dX12_look_29 : decode cX12_look 29 = .ok (.goto 4, 3) := by decide +kernel
theorem dX12_look_32 : decode cX12_look 32 = .ok (.iconst 1, 1) := by decide +kernel
theorem dX12_look_33 : decode cX12_look 33 = .ok (.aload_n 0, 1) := by decide +kernel
theorem dX12_look_34 : decode cX12_look 34 = .ok (.getfield 45, 3) := by decide +kernel
theorem dX12_look_37 : decode cX12_look 37 = .ok (.invokevirtual 102, 3) := by decide +kernel
theorem dX12_look_40 : decode cX12_look 40 = .ok (.aload_n 0, 1) := by decide +kernel
theorem dX12_look_41 : decode cX12_look 41 = .ok (.aload_n 0, 1) := by decide +kernel
theorem dX12_look_42 : decode cX12_look 42 = .ok (.getfield 45, 3) := by decide +kernel
theorem dX12_look_45 : decode cX12_look 45 = .ok (.invokevirtual 282, 3) := by decide +kernel
theorem dX12_look_48 : decode cX12_look 48 = .ok (.ireturn, 1) := by decide +kernel
theorem dX12_part_0 : decode cX12_part 0 = .ok (.aload_n 0, 1) := by decide +kernel
theorem dX12_part_1 : decode cX12_part 1 = .ok (.iload_n 1, 1) := by decide +kernel
theorem dX12_part_2 : decode cX12_part 2 = .ok (.ifCond .eq 7, 3) := by decide +kernel
theorem dX12_part_5 : decode cX12_part 5 = .ok (.iconst 1, 1) := by decide +kernel
theorem dX12_part_6 : decode cX12_part 6 = .ok (.goto 4, 3) := by decide +kernel
theorem dX12_part_9 : decode cX12_part 9 = .ok (.iconst 0, 1) := by decide +kernel
theorem dX12_part_10 : decode cX12_part 10 = .ok (.aload_n 0, 1) := by decide +kernel
theorem dX12_part_11 : decode cX12_part 11 = .ok (.getfield 45, 3) := by decide +kernel
theorem dX12_part_14 : decode cX12_part 14 = .ok (.invokevirtual 102, 3) := by decide +kernel
theorem dX12_part_17 : decode cX12_part 17 = .ok (.iload_n 2, 1) := by decide +kernel
theorem dX12_part_18 : decode cX12_part 18 = .ok (.ifCond .lt 9, 3) := by decide +kernel
theorem dX12_part_21 : decode cX12_part 21 = .ok (.iload_n 2, 1) := by decide +kernel
theorem dX12_part_22 : decode cX12_part 22 = .ok (.bipush 16, 2) := by decide +kernel
theorem dX12_part_24 : decode cX12_part 24 = .ok (.if_icmp .lt 7, 3) := by decide +kernel
theorem dX12_part_27 : decode cX12_part 27 = .ok (.iconst 0, 1) := by decide +kernel
theorem dX12_part_28 : decode cX12_part 28 = .ok (.goto 10, 3) := by decide +kernel
theorem dX12_part_31 : decode cX12_part 31 = .ok (.aload_n 0, 1) := by decide +kernel
theorem dX12_part_32 : decode cX12_part 32 = .ok (.getfield 45, 3) := by decide +kernel
theorem dX12_part_35 : decode cX12_part 35 = .ok (.iload_n 2, 1) := by decide +kernel
theorem dX12_part_36 : decode cX12_part 36 = .ok (.laload, 1) := by decide +kernel
theorem dX12_part_37 : decode cX12_part 37 = .ok (.l2i, 1) := by decide +kernel
theorem dX12_part_38 : decode cX12_part 38 = .ok (.ireturn, 1) := by decide +kernel
theorem dX12_told__0 : decode cX12_told_ 0 = .ok (.aload_n 0, 1) := by decide +kernel
theorem dX12_told__1 : decode cX12_told_ 1 = .ok (.iload_n 1, 1) := by decide +kernel
theorem dX12_told__2 : decode cX12_told_ 2 = .ok (.invokevirtual 190, 3) := by decide +kernel
theorem dX12_told__5 : decode cX12_told_ 5 = .ok (.ifCond .eq 12, 3) := by decide +kernel
theorem dX12_told__8 : decode cX12_told_ 8 = .ok (.iload_n 2, 1) := by decide +kernel
theorem dX12_told__9 : decode cX12_told_ 9 = .ok (.ifCond .lt 8, 3) := by decide +kernel
theorem dX12_told__12 : decode cX12_told_ 12 = .ok (.iload_n 2, 1) := by decide +kernel
theorem dX12_told__13 : decode cX12_told_ 13 = .ok (.iconst 3, 1) := by decide +kernel
theorem dX12_told__14 : decode cX12_told_ 14 = .ok (.if_icmp .le 7, 3) := by decide +kernel
theorem dX12_told__17 : decode cX12_told_ 17 = .ok (.sipush (-10000), 3) := by decide +kernel
theorem dX12_told__20 : decode cX12_told_ 20 = .ok (.ireturn, 1) := by decide +kernel
theorem dX12_told__21 : decode cX12_told_ 21 = .ok (.iload_n 2, 1) := by decide +kernel
theorem dX12_told__22 : decode cX12_told_ 22 = .ok (.ifCond .ne 12, 3) := by decide +kernel
theorem dX12_told__25 : decode cX12_told_ 25 = .ok (.aload_n 0, 1) := by decide +kernel
theorem dX12_told__26 : decode cX12_told_ 26 = .ok (.getfield 23, 3) := by decide +kernel
theorem dX12_told__29 : decode cX12_told_ 29 = .ok (.iload_n 1, 1) := by decide +kernel
theorem dX12_told__30 : decode cX12_told_ 30 = .ok (.iaload, 1) := by decide +kernel
theorem dX12_told__31 : decode cX12_told_ 31 = .ok (.goto 37, 3) := by decide +kernel
theorem dX12_told__34 : decode cX12_told_ 34 = .ok (.iload_n 2, 1) := by decide +kernel
theorem dX12_told__35 : decode cX12_told_ 35 = .ok (.iconst 1, 1) := by decide +kernel
theorem dX12_told__36 : decode cX12_told_ 36 = .ok (.if_icmp .ne 12, 3) := by decide +kernel
theorem dX12_told__39 : decode cX12_told_ 39 = .ok (.aload_n 0, 1) := by decide +kernel
theorem dX12_told__40 : decode cX12_told_ 40 = .ok (.getfield 26, 3) := by decide +kernel
theorem dX12_told__43 : decode cX12_told_ 43 = .ok (.iload_n 1, 1) := by decide +kernel
theorem dX12_told__44 : decode cX12_told_ 44 = .ok (.iaload, 1) := by decide +kernel
theorem dX12_told__45 : decode cX12_told_ 45 = .ok (.goto 23, 3) := by decide +kernel
theorem dX12_told__48 : decode cX12_told_ 48 = .ok (.iload_n 2, 1) := by decide +kernel
theorem dX12_told__49 : decode cX12_told_ 49 = .ok (.iconst 2, 1) := by decide +kernel
theorem dX12_told__50 : decode cX12_told_ 50 = .ok (.if_icmp .ne 12, 3) := by decide +kernel
theorem dX12_told__53 : decode cX12_told_ 53 = .ok (.aload_n 0, 1) := by decide +kernel
theorem dX12_told__54 : decode cX12_told_ 54 = .ok (.getfield 29, 3) := by decide +kernel
theorem dX12_told__57 : decode cX12_told_ 57 = .ok (.iload_n 1, 1) := by decide +kernel
theorem dX12_told__58 : decode cX12_told_ 58 = .ok (.iaload, 1) := by decide +kernel
theorem dX12_told__59 : decode cX12_told_ 59 = .ok (.goto 9, 3) := by decide +kernel
theorem dX12_told__62 : decode cX12_told_ 62 = .ok (.aload_n 0, 1) := by decide +kernel
theorem dX12_told__63 : decode cX12_told_ 63 = .ok (.getfield 32, 3) := by decide +kernel
theorem dX12_told__66 : decode cX12_told_ 66 = .ok (.iload_n 1, 1) := by decide +kernel
theorem dX12_told__67 : decode cX12_told_ 67 = .ok (.iaload, 1) := by decide +kernel
theorem dX12_told__68 : decode cX12_told_ 68 = .ok (.ireturn, 1) := by decide +kernel
theorem dX12_count_0 : decode cX12_count 0 = .ok (.iload_n 1, 1) := by decide +kernel
theorem dX12_count_1 : decode cX12_count 1 = .ok (.tableswitch 107 0 5 #[39, 44, 49, 54, 59, 94], 39) := by decide +kernel
theorem dX12_count_40 : decode cX12_count 40 = .ok (.aload_n 0, 1) := by decide +kernel
theorem dX12_count_41 : decode cX12_count 41 = .ok (.getfield 167, 3) := by decide +kernel
theorem dX12_count_44 : decode cX12_count 44 = .ok (.ireturn, 1) := by decide +kernel
theorem dX12_count_45 : decode cX12_count 45 = .ok (.aload_n 0, 1) := by decide +kernel
theorem dX12_count_46 : decode cX12_count 46 = .ok (.getfield 193, 3) := by decide +kernel
theorem dX12_count_49 : decode cX12_count 49 = .ok (.ireturn, 1) := by decide +kernel
theorem dX12_count_50 : decode cX12_count 50 = .ok (.aload_n 0, 1) := by decide +kernel
theorem dX12_count_51 : decode cX12_count 51 = .ok (.getfield 38, 3) := by decide +kernel
theorem dX12_count_54 : decode cX12_count 54 = .ok (.ireturn, 1) := by decide +kernel
theorem dX12_count_55 : decode cX12_count 55 = .ok (.aload_n 0, 1) := by decide +kernel
theorem dX12_count_56 : decode cX12_count 56 = .ok (.getfield 42, 3) := by decide +kernel
theorem dX12_count_59 : decode cX12_count 59 = .ok (.ireturn, 1) := by decide +kernel
theorem dX12_count_60 : decode cX12_count 60 = .ok (.iconst 0, 1) := by decide +kernel
theorem dX12_count_61 : decode cX12_count 61 = .ok (.istore_n 2, 1) := by decide +kernel
theorem dX12_count_62 : decode cX12_count 62 = .ok (.iconst 0, 1) := by decide +kernel
theorem dX12_count_63 : decode cX12_count 63 = .ok (.istore_n 3, 1) := by decide +kernel
theorem dX12_count_64 : decode cX12_count 64 = .ok (.iload_n 3, 1) := by decide +kernel
theorem dX12_count_65 : decode cX12_count 65 = .ok (.bipush 8, 2) := by decide +kernel
theorem dX12_count_67 : decode cX12_count 67 = .ok (.if_icmp .ge 26, 3) := by decide +kernel
theorem dX12_count_70 : decode cX12_count 70 = .ok (.iload_n 2, 1) := by decide +kernel
theorem dX12_count_71 : decode cX12_count 71 = .ok (.aload_n 0, 1) := by decide +kernel
theorem dX12_count_72 : decode cX12_count 72 = .ok (.getfield 13, 3) := by decide +kernel
theorem dX12_count_75 : decode cX12_count 75 = .ok (.iload_n 3, 1) := by decide +kernel
theorem dX12_count_76 : decode cX12_count 76 = .ok (.iaload, 1) := by decide +kernel
theorem dX12_count_77 : decode cX12_count 77 = .ok (.ifCond .ne 7, 3) := by decide +kernel
theorem dX12_count_80 : decode cX12_count 80 = .ok (.iconst 0, 1) := by decide +kernel
theorem dX12_count_81 : decode cX12_count 81 = .ok (.goto 4, 3) := by decide +kernel
theorem dX12_count_84 : decode cX12_count 84 = .ok (.iconst 1, 1) := by decide +kernel
theorem dX12_count_85 : decode cX12_count 85 = .ok (.iadd, 1) := by decide +kernel
theorem dX12_count_86 : decode cX12_count 86 = .ok (.istore_n 2, 1) := by decide +kernel
theorem dX12_count_87 : decode cX12_count 87 = .ok (.iinc 3 1, 3) := by decide +kernel
theorem dX12_count_90 : decode cX12_count 90 = .ok (.goto (-26), 3) := by decide +kernel
theorem dX12_count_93 : decode cX12_count 93 = .ok (.iload_n 2, 1) := by decide +kernel
theorem dX12_count_94 : decode cX12_count 94 = .ok (.ireturn, 1) := by decide +kernel
theorem dX12_count_95 : decode cX12_count 95 = .ok (.aload_n 0, 1) := by decide +kernel
theorem dX12_count_96 : decode cX12_count 96 = .ok (.getfield 186, 3) := by decide +kernel
theorem dX12_count_99 : decode cX12_count 99 = .ok (.ifCond .eq 7, 3) := by decide +kernel
theorem dX12_count_102 : decode cX12_count 102 = .ok (.iconst 1, 1) := by decide +kernel
theorem dX12_count_103 : decode cX12_count 103 = .ok (.goto 4, 3) := by decide +kernel
theorem dX12_count_106 : decode cX12_count 106 = .ok (.iconst 0, 1) := by decide +kernel
theorem dX12_count_107 : decode cX12_count 107 = .ok (.ireturn, 1) := by decide +kernel
theorem dX12_count_108 : decode cX12_count 108 = .ok (.iconst (-1), 1) := by decide +kernel
theorem dX12_count_109 : decode cX12_count 109 = .ok (.ireturn, 1) := by decide +kernel
theorem dJ13_signum_95d88_0 : decode cJ13_signum_95d88 0 = .ok (.lload_n 0, 1) := by decide +kernel
theorem dJ13_signum_95d88_1 : decode cJ13_signum_95d88 1 = .ok (.bipush 63, 2) := by decide +kernel
theorem dJ13_signum_95d88_3 : decode cJ13_signum_95d88 3 = .ok (.lshr, 1) := by decide +kernel
theorem dJ13_signum_95d88_4 : decode cJ13_signum_95d88 4 = .ok (.lload_n 0, 1) := by decide +kernel
theorem dJ13_signum_95d88_5 : decode cJ13_signum_95d88 5 = .ok (.lneg, 1) := by decide +kernel
theorem dJ13_signum_95d88_6 : decode cJ13_signum_95d88 6 = .ok (.bipush 63, 2) := by decide +kernel
theorem dJ13_signum_95d88_8 : decode cJ13_signum_95d88 8 = .ok (.lushr, 1) := by decide +kernel
theorem dJ13_signum_95d88_9 : decode cJ13_signum_95d88 9 = .ok (.lor, 1) := by decide +kernel
theorem dJ13_signum_95d88_10 : decode cJ13_signum_95d88 10 = .ok (.l2i, 1) := by decide +kernel
theorem dJ13_signum_95d88_11 : decode cJ13_signum_95d88 11 = .ok (.ireturn, 1) := by decide +kernel
theorem dJ9_floorDiv_f86c9_0 : decode cJ9_floorDiv_f86c9 0 = .ok (.lload_n 0, 1) := by decide +kernel
theorem dJ9_floorDiv_f86c9_1 : decode cJ9_floorDiv_f86c9 1 = .ok (.lload_n 2, 1) := by decide +kernel
theorem dJ9_floorDiv_f86c9_2 : decode cJ9_floorDiv_f86c9 2 = .ok (.ldiv, 1) := by decide +kernel
theorem dJ9_floorDiv_f86c9_3 : decode cJ9_floorDiv_f86c9 3 = .ok (.lstore 4, 2) := by decide +kernel
theorem dJ9_floorDiv_f86c9_5 : decode cJ9_floorDiv_f86c9 5 = .ok (.lload_n 0, 1) := by decide +kernel
theorem dJ9_floorDiv_f86c9_6 : decode cJ9_floorDiv_f86c9 6 = .ok (.lload_n 2, 1) := by decide +kernel
theorem dJ9_floorDiv_f86c9_7 : decode cJ9_floorDiv_f86c9 7 = .ok (.lxor, 1) := by decide +kernel
theorem dJ9_floorDiv_f86c9_8 : decode cJ9_floorDiv_f86c9 8 = .ok (.lconst 0, 1) := by decide +kernel
theorem dJ9_floorDiv_f86c9_9 : decode cJ9_floorDiv_f86c9 9 = .ok (.lcmp, 1) := by decide +kernel
theorem dJ9_floorDiv_f86c9_10 : decode cJ9_floorDiv_f86c9 10 = .ok (.ifCond .ge 17, 3) := by decide +kernel
theorem dJ9_floorDiv_f86c9_13 : decode cJ9_floorDiv_f86c9 13 = .ok (.lload 4, 2) := by decide +kernel
theorem dJ9_floorDiv_f86c9_15 : decode cJ9_floorDiv_f86c9 15 = .ok (.lload_n 2, 1) := by decide +kernel
theorem dJ9_floorDiv_f86c9_16 : decode cJ9_floorDiv_f86c9 16 = .ok (.lmul, 1) := by decide +kernel
theorem dJ9_floorDiv_f86c9_17 : decode cJ9_floorDiv_f86c9 17 = .ok (.lload_n 0, 1) := by decide +kernel
theorem dJ9_floorDiv_f86c9_18 : decode cJ9_floorDiv_f86c9 18 = .ok (.lcmp, 1) := by decide +kernel
theorem dJ9_floorDiv_f86c9_19 : decode cJ9_floorDiv_f86c9 19 = .ok (.ifCond .eq 8, 3) := by decide +kernel
theorem dJ9_floorDiv_f86c9_22 : decode cJ9_floorDiv_f86c9 22 = .ok (.lload 4, 2) := by decide +kernel
theorem dJ9_floorDiv_f86c9_24 : decode cJ9_floorDiv_f86c9 24 = .ok (.lconst 1, 1) := by decide +kernel
theorem dJ9_floorDiv_f86c9_25 : decode cJ9_floorDiv_f86c9 25 = .ok (.lsub, 1) := by decide +kernel
theorem dJ9_floorDiv_f86c9_26 : decode cJ9_floorDiv_f86c9 26 = .ok (.lreturn, 1) := by decide +kernel
theorem dJ9_floorDiv_f86c9_27 : decode cJ9_floorDiv_f86c9 27 = .ok (.lload 4, 2) := by decide +kernel
theorem dJ9_floorDiv_f86c9_29 : decode cJ9_floorDiv_f86c9 29 = .ok (.lreturn, 1) := by decide +kernel
theorem dJ9_floorMod_f86c9_0 : decode cJ9_floorMod_f86c9 0 = .ok (.lload_n 0, 1) := by decide +kernel
theorem dJ9_floorMod_f86c9_1 : decode cJ9_floorMod_f86c9 1 = .ok (.lload_n 2, 1) := by decide +kernel
theorem dJ9_floorMod_f86c9_2 : decode cJ9_floorMod_f86c9 2 = .ok (.lrem, 1) := by decide +kernel
theorem dJ9_floorMod_f86c9_3 : decode cJ9_floorMod_f86c9 3 = .ok (.lstore 4, 2) := by decide +kernel
theorem dJ9_floorMod_f86c9_5 : decode cJ9_floorMod_f86c9 5 = .ok (.lload_n 0, 1) := by decide +kernel
theorem dJ9_floorMod_f86c9_6 : decode cJ9_floorMod_f86c9 6 = .ok (.lload_n 2, 1) := by decide +kernel
theorem dJ9_floorMod_f86c9_7 : decode cJ9_floorMod_f86c9 7 = .ok (.lxor, 1) := by decide +kernel
theorem dJ9_floorMod_f86c9_8 : decode cJ9_floorMod_f86c9 8 = .ok (.lconst 0, 1) := by decide +kernel
theorem dJ9_floorMod_f86c9_9 : decode cJ9_floorMod_f86c9 9 = .ok (.lcmp, 1) := by decide +kernel
theorem dJ9_floorMod_f86c9_10 : decode cJ9_floorMod_f86c9 10 = .ok (.ifCond .ge 15, 3) := by decide +kernel
theorem dJ9_floorMod_f86c9_13 : decode cJ9_floorMod_f86c9 13 = .ok (.lload 4, 2) := by decide +kernel
theorem dJ9_floorMod_f86c9_15 : decode cJ9_floorMod_f86c9 15 = .ok (.lconst 0, 1) := by decide +kernel
theorem dJ9_floorMod_f86c9_16 : decode cJ9_floorMod_f86c9 16 = .ok (.lcmp, 1) := by decide +kernel
theorem dJ9_floorMod_f86c9_17 : decode cJ9_floorMod_f86c9 17 = .ok (.ifCond .eq 8, 3) := by decide +kernel
theorem dJ9_floorMod_f86c9_20 : decode cJ9_floorMod_f86c9 20 = .ok (.lload 4, 2) := by decide +kernel
theorem dJ9_floorMod_f86c9_22 : decode cJ9_floorMod_f86c9 22 = .ok (.lload_n 2, 1) := by decide +kernel
theorem dJ9_floorMod_f86c9_23 : decode cJ9_floorMod_f86c9 23 = .ok (.ladd, 1) := by decide +kernel
theorem dJ9_floorMod_f86c9_24 : decode cJ9_floorMod_f86c9 24 = .ok (.lreturn, 1) := by decide +kernel
theorem dJ9_floorMod_f86c9_25 : decode cJ9_floorMod_f86c9 25 = .ok (.lload 4, 2) := by decide +kernel
theorem dJ9_floorMod_f86c9_27 : decode cJ9_floorMod_f86c9 27 = .ok (.lreturn, 1) := by decide +kernel
theorem dJ9_abs_0f7a4_0 : decode cJ9_abs_0f7a4 0 = .ok (.iload_n 0, 1) := by decide +kernel
theorem dJ9_abs_0f7a4_1 : decode cJ9_abs_0f7a4 1 = .ok (.ifCond .ge 8, 3) := by decide +kernel
theorem dJ9_abs_0f7a4_4 : decode cJ9_abs_0f7a4 4 = .ok (.iload_n 0, 1) := by decide +kernel
theorem dJ9_abs_0f7a4_5 : decode cJ9_abs_0f7a4 5 = .ok (.ineg, 1) := by decide +kernel
theorem dJ9_abs_0f7a4_6 : decode cJ9_abs_0f7a4 6 = .ok (.goto 4, 3) := by decide +kernel
theorem dJ9_abs_0f7a4_9 : decode cJ9_abs_0f7a4 9 = .ok (.iload_n 0, 1) := by decide +kernel
theorem dJ9_abs_0f7a4_10 : decode cJ9_abs_0f7a4 10 = .ok (.ireturn, 1) := by decide +kernel
theorem dJ9_abs_067f4_0 : decode cJ9_abs_067f4 0 = .ok (.lload_n 0, 1) := by decide +kernel
theorem dJ9_abs_067f4_1 : decode cJ9_abs_067f4 1 = .ok (.lconst 0, 1) := by decide +kernel
theorem dJ9_abs_067f4_2 : decode cJ9_abs_067f4 2 = .ok (.lcmp, 1) := by decide +kernel
theorem dJ9_abs_067f4_3 : decode cJ9_abs_067f4 3 = .ok (.ifCond .ge 8, 3) := by decide +kernel
theorem dJ9_abs_067f4_6 : decode cJ9_abs_067f4 6 = .ok (.lload_n 0, 1) := by decide +kernel
theorem dJ9_abs_067f4_7 : decode cJ9_abs_067f4 7 = .ok (.lneg, 1) := by decide +kernel
theorem dJ9_abs_067f4_8 : decode cJ9_abs_067f4 8 = .ok (.goto 4, 3) := by decide +kernel
theorem dJ9_abs_067f4_11 : decode cJ9_abs_067f4 11 = .ok (.lload_n 0, 1) := by decide +kernel
theorem dJ9_abs_067f4_12 : decode cJ9_abs_067f4 12 = .ok (.lreturn, 1) := by decide +kernel
theorem dJ9_max_7cf53_0 : decode cJ9_max_7cf53 0 = .ok (.iload_n 0, 1) := by decide +kernel
theorem dJ9_max_7cf53_1 : decode cJ9_max_7cf53 1 = .ok (.iload_n 1, 1) := by decide +kernel
theorem dJ9_max_7cf53_2 : decode cJ9_max_7cf53 2 = .ok (.if_icmp .lt 7, 3) := by decide +kernel
theorem dJ9_max_7cf53_5 : decode cJ9_max_7cf53 5 = .ok (.iload_n 0, 1) := by decide +kernel
theorem dJ9_max_7cf53_6 : decode cJ9_max_7cf53 6 = .ok (.goto 4, 3) := by decide +kernel
theorem dJ9_max_7cf53_9 : decode cJ9_max_7cf53 9 = .ok (.iload_n 1, 1) := by decide +kernel
theorem dJ9_max_7cf53_10 : decode cJ9_max_7cf53 10 = .ok (.ireturn, 1) := by decide +kernel
theorem dJ9_min_7cf53_0 : decode cJ9_min_7cf53 0 = .ok (.iload_n 0, 1) := by decide +kernel
theorem dJ9_min_7cf53_1 : decode cJ9_min_7cf53 1 = .ok (.iload_n 1, 1) := by decide +kernel
theorem dJ9_min_7cf53_2 : decode cJ9_min_7cf53 2 = .ok (.if_icmp .gt 7, 3) := by decide +kernel
theorem dJ9_min_7cf53_5 : decode cJ9_min_7cf53 5 = .ok (.iload_n 0, 1) := by decide +kernel
theorem dJ9_min_7cf53_6 : decode cJ9_min_7cf53 6 = .ok (.goto 4, 3) := by decide +kernel
theorem dJ9_min_7cf53_9 : decode cJ9_min_7cf53 9 = .ok (.iload_n 1, 1) := by decide +kernel
theorem dJ9_min_7cf53_10 : decode cJ9_min_7cf53 10 = .ok (.ireturn, 1) := by decide +kernel
theorem dL_law_0 : decode cL_law 0 = .ok (.new 7, 3) := by decide +kernel
theorem dL_law_3 : decode cL_law 3 = .ok (.dup, 1) := by decide +kernel
theorem dL_law_4 : decode cL_law 4 = .ok (.invokespecial 9, 3) := by decide +kernel
theorem dL_law_7 : decode cL_law 7 = .ok (.astore_n 1, 1) := by decide +kernel
theorem dL_law_8 : decode cL_law 8 = .ok (.new 10, 3) := by decide +kernel
theorem dL_law_11 : decode cL_law 11 = .ok (.dup, 1) := by decide +kernel
theorem dL_law_12 : decode cL_law 12 = .ok (.invokespecial 12, 3) := by decide +kernel
theorem dL_law_15 : decode cL_law 15 = .ok (.astore_n 2, 1) := by decide +kernel
theorem dL_law_16 : decode cL_law 16 = .ok (.iconst 0, 1) := by decide +kernel
theorem dL_law_17 : decode cL_law 17 = .ok (.istore_n 3, 1) := by decide +kernel
theorem dL_law_18 : decode cL_law 18 = .ok (.iload_n 3, 1) := by decide +kernel
theorem dL_law_19 : decode cL_law 19 = .ok (.aload_n 0, 1) := by decide +kernel
theorem dL_law_20 : decode cL_law 20 = .ok (.arraylength, 1) := by decide +kernel
theorem dL_law_21 : decode cL_law 21 = .ok (.iconst 5, 1) := by decide +kernel
theorem dL_law_22 : decode cL_law 22 = .ok (.isub, 1) := by decide +kernel
theorem dL_law_23 : decode cL_law 23 = .ok (.if_icmp .gt 909, 3) := by decide +kernel
theorem dL_law_26 : decode cL_law 26 = .ok (.aload_n 0, 1) := by decide +kernel
theorem dL_law_27 : decode cL_law 27 = .ok (.iload_n 3, 1) := by decide +kernel
theorem dL_law_28 : decode cL_law 28 = .ok (.iaload, 1) := by decide +kernel
theorem dL_law_29 : decode cL_law 29 = .ok (.bipush 31, 2) := by decide +kernel
theorem dL_law_31 : decode cL_law 31 = .ok (.iand, 1) := by decide +kernel
theorem dL_law_32 : decode cL_law 32 = .ok (.tableswitch 894 0 25 #[120, 163, 186, 259, 282, 335, 358, 381, 414, 437, 470, 503, 526, 549, 582, 605, 628, 651, 664, 677, 700, 733, 766, 789, 838, 871], 120) := by decide +kernel
theorem dL_law_152 : decode cL_law 152 = .ok (.aload_n 1, 1) := by decide +kernel
theorem dL_law_153 : decode cL_law 153 = .ok (.aload_n 0, 1) := by decide +kernel
theorem dL_law_154 : decode cL_law 154 = .ok (.iload_n 3, 1) := by decide +kernel
theorem dL_law_155 : decode cL_law 155 = .ok (.iconst 1, 1) := by decide +kernel
theorem dL_law_156 : decode cL_law 156 = .ok (.iadd, 1) := by decide +kernel
theorem dL_law_157 : decode cL_law 157 = .ok (.iaload, 1) := by decide +kernel
theorem dL_law_158 : decode cL_law 158 = .ok (.aload_n 0, 1) := by decide +kernel
theorem dL_law_159 : decode cL_law 159 = .ok (.iload_n 3, 1) := by decide +kernel
theorem dL_law_160 : decode cL_law 160 = .ok (.iconst 2, 1) := by decide +kernel
theorem dL_law_161 : decode cL_law 161 = .ok (.iadd, 1) := by decide +kernel
theorem dL_law_162 : decode cL_law 162 = .ok (.iaload, 1) := by decide +kernel
theorem dL_law_163 : decode cL_law 163 = .ok (.aload_n 0, 1) := by decide +kernel
theorem dL_law_164 : decode cL_law 164 = .ok (.iload_n 3, 1) := by decide +kernel
theorem dL_law_165 : decode cL_law 165 = .ok (.iconst 3, 1) := by decide +kernel
theorem dL_law_166 : decode cL_law 166 = .ok (.iadd, 1) := by decide +kernel
theorem dL_law_167 : decode cL_law 167 = .ok (.iaload, 1) := by decide +kernel
theorem dL_law_168 : decode cL_law 168 = .ok (.invokevirtual 13, 3) := by decide +kernel
theorem dL_law_171 : decode cL_law 171 = .ok (.aload_n 2, 1) := by decide +kernel
theorem dL_law_172 : decode cL_law 172 = .ok (.aload_n 0, 1) := by decide +kernel
theorem dL_law_173 : decode cL_law 173 = .ok (.iload_n 3, 1) := by decide +kernel
theorem dL_law_174 : decode cL_law 174 = .ok (.iconst 1, 1) := by decide +kernel
theorem dL_law_175 : decode cL_law 175 = .ok (.iadd, 1) := by decide +kernel
theorem dL_law_176 : decode cL_law 176 = .ok (.iaload, 1) := by decide +kernel
theorem dL_law_177 : decode cL_law 177 = .ok (.aload_n 0, 1) := by decide +kernel
theorem dL_law_178 : decode cL_law 178 = .ok (.iload_n 3, 1) := by decide +kernel
theorem dL_law_179 : decode cL_law 179 = .ok (.iconst 2, 1) := by decide +kernel
theorem dL_law_180 : decode cL_law 180 = .ok (.iadd, 1) := by decide +kernel
theorem dL_law_181 : decode cL_law 181 = .ok (.iaload, 1) := by decide +kernel
theorem dL_law_182 : decode cL_law 182 = .ok (.aload_n 0, 1) := by decide +kernel
theorem dL_law_183 : decode cL_law 183 = .ok (.iload_n 3, 1) := by decide +kernel
theorem dL_law_184 : decode cL_law 184 = .ok (.iconst 3, 1) := by decide +kernel
theorem dL_law_185 : decode cL_law 185 = .ok (.iadd, 1) := by decide +kernel
theorem dL_law_186 : decode cL_law 186 = .ok (.iaload, 1) := by decide +kernel
theorem dL_law_187 : decode cL_law 187 = .ok (.invokevirtual 17, 3) := by decide +kernel
theorem dL_law_190 : decode cL_law 190 = .ok (.if_icmp .eq 736, 3) := by decide +kernel
theorem dL_law_193 : decode cL_law 193 = .ok (.iconst 0, 1) := by decide +kernel
theorem dL_law_194 : decode cL_law 194 = .ok (.ireturn, 1) := by decide +kernel
theorem dL_law_195 : decode cL_law 195 = .ok (.aload_n 1, 1) := by decide +kernel
theorem dL_law_196 : decode cL_law 196 = .ok (.aload_n 0, 1) := by decide +kernel
theorem dL_law_197 : decode cL_law 197 = .ok (.iload_n 3, 1) := by decide +kernel
theorem dL_law_198 : decode cL_law 198 = .ok (.iconst 1, 1) := by decide +kernel
theorem dL_law_199 : decode cL_law 199 = .ok (.iadd, 1) := by decide +kernel
theorem dL_law_200 : decode cL_law 200 = .ok (.iaload, 1) := by decide +kernel
theorem dL_law_201 : decode cL_law 201 = .ok (.invokevirtual 18, 3) := by decide +kernel
theorem dL_law_204 : decode cL_law 204 = .ok (.aload_n 2, 1) := by decide +kernel
theorem dL_law_205 : decode cL_law 205 = .ok (.aload_n 0, 1) := by decide +kernel
theorem dL_law_206 : decode cL_law 206 = .ok (.iload_n 3, 1) := by decide +kernel
theorem dL_law_207 : decode cL_law 207 = .ok (.iconst 1, 1) := by decide +kernel
theorem dL_law_208 : decode cL_law 208 = .ok (.iadd, 1) := by decide +kernel
theorem dL_law_209 : decode cL_law 209 = .ok (.iaload, 1) := by decide +kernel
theorem dL_law_210 : decode cL_law 210 = .ok (.invokevirtual 22, 3) := by decide +kernel
theorem dL_law_213 : decode cL_law 213 = .ok (.if_icmp .eq 713, 3) := by decide +kernel
theorem dL_law_216 : decode cL_law 216 = .ok (.iconst 0, 1) := by decide +kernel
theorem dL_law_217 : decode cL_law 217 = .ok (.ireturn, 1) := by decide +kernel
theorem dL_law_218 : decode cL_law 218 = .ok (.aload_n 1, 1) := by decide +kernel
theorem dL_law_219 : decode cL_law 219 = .ok (.aload_n 0, 1) := by decide +kernel
theorem dL_law_220 : decode cL_law 220 = .ok (.iload_n 3, 1) := by decide +kernel
theorem dL_law_221 : decode cL_law 221 = .ok (.iconst 1, 1) := by decide +kernel
theorem dL_law_222 : decode cL_law 222 = .ok (.iadd, 1) := by decide +kernel
theorem dL_law_223 : decode cL_law 223 = .ok (.iaload, 1) := by decide +kernel
theorem dL_law_224 : decode cL_law 224 = .ok (.aload_n 0, 1) := by decide +kernel
theorem dL_law_225 : decode cL_law 225 = .ok (.iload_n 3, 1) := by decide +kernel
theorem dL_law_226 : decode cL_law 226 = .ok (.iconst 2, 1) := by decide +kernel
theorem dL_law_227 : decode cL_law 227 = .ok (.iadd, 1) := by decide +kernel
theorem dL_law_228 : decode cL_law 228 = .ok (.iaload, 1) := by decide +kernel
theorem dL_law_229 : decode cL_law 229 = .ok (.aload_n 0, 1) := by decide +kernel
theorem dL_law_230 : decode cL_law 230 = .ok (.iload_n 3, 1) := by decide +kernel
theorem dL_law_231 : decode cL_law 231 = .ok (.iconst 3, 1) := by decide +kernel
theorem dL_law_232 : decode cL_law 232 = .ok (.iadd, 1) := by decide +kernel
theorem dL_law_233 : decode cL_law 233 = .ok (.iaload, 1) := by decide +kernel
theorem dL_law_234 : decode cL_law 234 = .ok (.i2l, 1) := by decide +kernel
theorem dL_law_235 : decode cL_law 235 = .ok (.bipush 32, 2) := by decide +kernel
theorem dL_law_237 : decode cL_law 237 = .ok (.lshl, 1) := by decide +kernel
theorem dL_law_238 : decode cL_law 238 = .ok (.aload_n 0, 1) := by decide +kernel
theorem dL_law_239 : decode cL_law 239 = .ok (.iload_n 3, 1) := by decide +kernel
theorem dL_law_240 : decode cL_law 240 = .ok (.iconst 4, 1) := by decide +kernel
theorem dL_law_241 : decode cL_law 241 = .ok (.iadd, 1) := by decide +kernel
theorem dL_law_242 : decode cL_law 242 = .ok (.iaload, 1) := by decide +kernel
theorem dL_law_243 : decode cL_law 243 = .ok (.i2l, 1) := by decide +kernel
theorem dL_law_244 : decode cL_law 244 = .ok (.ldc2_w 23, 3) := by decide +kernel
theorem dL_law_247 : decode cL_law 247 = .ok (.land, 1) := by decide +kernel
theorem dL_law_248 : decode cL_law 248 = .ok (.lor, 1) := by decide +kernel
theorem dL_law_249 : decode cL_law 249 = .ok (.invokevirtual 25, 3) := by decide +kernel
theorem dL_law_252 : decode cL_law 252 = .ok (.aload_n 2, 1) := by decide +kernel
theorem dL_law_253 : decode cL_law 253 = .ok (.aload_n 0, 1) := by decide +kernel
theorem dL_law_254 : decode cL_law 254 = .ok (.iload_n 3, 1) := by decide +kernel
theorem dL_law_255 : decode cL_law 255 = .ok (.iconst 1, 1) := by decide +kernel
theorem dL_law_256 : decode cL_law 256 = .ok (.iadd, 1) := by decide +kernel
theorem dL_law_257 : decode cL_law 257 = .ok (.iaload, 1) := by decide +kernel
theorem dL_law_258 : decode cL_law 258 = .ok (.aload_n 0, 1) := by decide +kernel
theorem dL_law_259 : decode cL_law 259 = .ok (.iload_n 3, 1) := by decide +kernel
theorem dL_law_260 : decode cL_law 260 = .ok (.iconst 2, 1) := by decide +kernel
theorem dL_law_261 : decode cL_law 261 = .ok (.iadd, 1) := by decide +kernel
theorem dL_law_262 : decode cL_law 262 = .ok (.iaload, 1) := by decide +kernel
theorem dL_law_263 : decode cL_law 263 = .ok (.aload_n 0, 1) := by decide +kernel
theorem dL_law_264 : decode cL_law 264 = .ok (.iload_n 3, 1) := by decide +kernel
theorem dL_law_265 : decode cL_law 265 = .ok (.iconst 3, 1) := by decide +kernel
theorem dL_law_266 : decode cL_law 266 = .ok (.iadd, 1) := by decide +kernel
theorem dL_law_267 : decode cL_law 267 = .ok (.iaload, 1) := by decide +kernel
theorem dL_law_268 : decode cL_law 268 = .ok (.i2l, 1) := by decide +kernel
theorem dL_law_269 : decode cL_law 269 = .ok (.bipush 32, 2) := by decide +kernel
theorem dL_law_271 : decode cL_law 271 = .ok (.lshl, 1) := by decide +kernel
theorem dL_law_272 : decode cL_law 272 = .ok (.aload_n 0, 1) := by decide +kernel
theorem dL_law_273 : decode cL_law 273 = .ok (.iload_n 3, 1) := by decide +kernel
theorem dL_law_274 : decode cL_law 274 = .ok (.iconst 4, 1) := by decide +kernel
theorem dL_law_275 : decode cL_law 275 = .ok (.iadd, 1) := by decide +kernel
theorem dL_law_276 : decode cL_law 276 = .ok (.iaload, 1) := by decide +kernel
theorem dL_law_277 : decode cL_law 277 = .ok (.i2l, 1) := by decide +kernel
theorem dL_law_278 : decode cL_law 278 = .ok (.ldc2_w 23, 3) := by decide +kernel
theorem dL_law_281 : decode cL_law 281 = .ok (.land, 1) := by decide +kernel
theorem dL_law_282 : decode cL_law 282 = .ok (.lor, 1) := by decide +kernel
theorem dL_law_283 : decode cL_law 283 = .ok (.invokevirtual 29, 3) := by decide +kernel
theorem dL_law_286 : decode cL_law 286 = .ok (.if_icmp .eq 640, 3) := by decide +kernel
theorem dL_law_289 : decode cL_law 289 = .ok (.iconst 0, 1) := by decide +kernel
theorem dL_law_290 : decode cL_law 290 = .ok (.ireturn, 1) := by decide +kernel
theorem dL_law_291 : decode cL_law 291 = .ok (.aload_n 1, 1) := by decide +kernel
theorem dL_law_292 : decode cL_law 292 = .ok (.aload_n 0, 1) := by decide +kernel
theorem dL_law_293 : decode cL_law 293 = .ok (.iload_n 3, 1) := by decide +kernel
theorem dL_law_294 : decode cL_law 294 = .ok (.iconst 1, 1) := by decide +kernel
theorem dL_law_295 : decode cL_law 295 = .ok (.iadd, 1) := by decide +kernel
theorem dL_law_296 : decode cL_law 296 = .ok (.iaload, 1) := by decide +kernel
theorem dL_law_297 : decode cL_law 297 = .ok (.invokevirtual 30, 3) := by decide +kernel
theorem dL_law_300 : decode cL_law 300 = .ok (.aload_n 2, 1) := by decide +kernel
theorem dL_law_301 : decode cL_law 301 = .ok (.aload_n 0, 1) := by decide +kernel
theorem dL_law_302 : decode cL_law 302 = .ok (.iload_n 3, 1) := by decide +kernel
theorem dL_law_303 : decode cL_law 303 = .ok (.iconst 1, 1) := by decide +kernel
theorem dL_law_304 : decode cL_law 304 = .ok (.iadd, 1) := by decide +kernel
theorem dL_law_305 : decode cL_law 305 = .ok (.iaload, 1) := by decide +kernel
theorem dL_law_306 : decode cL_law 306 = .ok (.invokevirtual 34, 3) := by decide +kernel
theorem dL_law_309 : decode cL_law 309 = .ok (.if_icmp .eq 617, 3) := by decide +kernel
theorem dL_law_312 : decode cL_law 312 = .ok (.iconst 0, 1) := by decide +kernel
theorem dL_law_313 : decode cL_law 313 = .ok (.ireturn, 1) := by decide +kernel
theorem dL_law_314 : decode cL_law 314 = .ok (.aload_n 1, 1) := by decide +kernel
theorem dL_law_315 : decode cL_law 315 = .ok (.aload_n 0, 1) := by decide +kernel
theorem dL_law_316 : decode cL_law 316 = .ok (.iload_n 3, 1) := by decide +kernel
theorem dL_law_317 : decode cL_law 317 = .ok (.iconst 1, 1) := by decide +kernel
theorem dL_law_318 : decode cL_law 318 = .ok (.iadd, 1) := by decide +kernel
theorem dL_law_319 : decode cL_law 319 = .ok (.iaload, 1) := by decide +kernel
theorem dL_law_320 : decode cL_law 320 = .ok (.aload_n 0, 1) := by decide +kernel
theorem dL_law_321 : decode cL_law 321 = .ok (.iload_n 3, 1) := by decide +kernel
theorem dL_law_322 : decode cL_law 322 = .ok (.iconst 2, 1) := by decide +kernel
theorem dL_law_323 : decode cL_law 323 = .ok (.iadd, 1) := by decide +kernel
theorem dL_law_324 : decode cL_law 324 = .ok (.iaload, 1) := by decide +kernel
theorem dL_law_325 : decode cL_law 325 = .ok (.aload_n 0, 1) := by decide +kernel
theorem dL_law_326 : decode cL_law 326 = .ok (.iload_n 3, 1) := by decide +kernel
theorem dL_law_327 : decode cL_law 327 = .ok (.iconst 3, 1) := by decide +kernel
theorem dL_law_328 : decode cL_law 328 = .ok (.iadd, 1) := by decide +kernel
theorem dL_law_329 : decode cL_law 329 = .ok (.iaload, 1) := by decide +kernel
theorem dL_law_330 : decode cL_law 330 = .ok (.aload_n 0, 1) := by decide +kernel
theorem dL_law_331 : decode cL_law 331 = .ok (.iload_n 3, 1) := by decide +kernel
theorem dL_law_332 : decode cL_law 332 = .ok (.iconst 4, 1) := by decide +kernel
theorem dL_law_333 : decode cL_law 333 = .ok (.iadd, 1) := by decide +kernel
theorem dL_law_334 : decode cL_law 334 = .ok (.iaload, 1) := by decide +kernel
theorem dL_law_335 : decode cL_law 335 = .ok (.invokevirtual 35, 3) := by decide +kernel
theorem dL_law_338 : decode cL_law 338 = .ok (.aload_n 2, 1) := by decide +kernel
theorem dL_law_339 : decode cL_law 339 = .ok (.aload_n 0, 1) := by decide +kernel
theorem dL_law_340 : decode cL_law 340 = .ok (.iload_n 3, 1) := by decide +kernel
theorem dL_law_341 : decode cL_law 341 = .ok (.iconst 1, 1) := by decide +kernel
theorem dL_law_342 : decode cL_law 342 = .ok (.iadd, 1) := by decide +kernel
theorem dL_law_343 : decode cL_law 343 = .ok (.iaload, 1) := by decide +kernel
theorem dL_law_344 : decode cL_law 344 = .ok (.aload_n 0, 1) := by decide +kernel
theorem dL_law_345 : decode cL_law 345 = .ok (.iload_n 3, 1) := by decide +kernel
theorem dL_law_346 : decode cL_law 346 = .ok (.iconst 2, 1) := by decide +kernel
theorem dL_law_347 : decode cL_law 347 = .ok (.iadd, 1) := by decide +kernel
theorem dL_law_348 : decode cL_law 348 = .ok (.iaload, 1) := by decide +kernel
theorem dL_law_349 : decode cL_law 349 = .ok (.aload_n 0, 1) := by decide +kernel
theorem dL_law_350 : decode cL_law 350 = .ok (.iload_n 3, 1) := by decide +kernel
theorem dL_law_351 : decode cL_law 351 = .ok (.iconst 3, 1) := by decide +kernel
theorem dL_law_352 : decode cL_law 352 = .ok (.iadd, 1) := by decide +kernel
theorem dL_law_353 : decode cL_law 353 = .ok (.iaload, 1) := by decide +kernel
theorem dL_law_354 : decode cL_law 354 = .ok (.aload_n 0, 1) := by decide +kernel
theorem dL_law_355 : decode cL_law 355 = .ok (.iload_n 3, 1) := by decide +kernel
theorem dL_law_356 : decode cL_law 356 = .ok (.iconst 4, 1) := by decide +kernel
theorem dL_law_357 : decode cL_law 357 = .ok (.iadd, 1) := by decide +kernel
theorem dL_law_358 : decode cL_law 358 = .ok (.iaload, 1) := by decide +kernel
theorem dL_law_359 : decode cL_law 359 = .ok (.invokevirtual 39, 3) := by decide +kernel
theorem dL_law_362 : decode cL_law 362 = .ok (.if_icmp .eq 564, 3) := by decide +kernel
theorem dL_law_365 : decode cL_law 365 = .ok (.iconst 0, 1) := by decide +kernel
theorem dL_law_366 : decode cL_law 366 = .ok (.ireturn, 1) := by decide +kernel
theorem dL_law_367 : decode cL_law 367 = .ok (.aload_n 1, 1) := by decide +kernel
theorem dL_law_368 : decode cL_law 368 = .ok (.aload_n 0, 1) := by decide +kernel
theorem dL_law_369 : decode cL_law 369 = .ok (.iload_n 3, 1) := by decide +kernel
theorem dL_law_370 : decode cL_law 370 = .ok (.iconst 1, 1) := by decide +kernel
theorem dL_law_371 : decode cL_law 371 = .ok (.iadd, 1) := by decide +kernel
theorem dL_law_372 : decode cL_law 372 = .ok (.iaload, 1) := by decide +kernel
theorem dL_law_373 : decode cL_law 373 = .ok (.invokevirtual 40, 3) := by decide +kernel
theorem dL_law_376 : decode cL_law 376 = .ok (.aload_n 2, 1) := by decide +kernel
theorem dL_law_377 : decode cL_law 377 = .ok (.aload_n 0, 1) := by decide +kernel
theorem dL_law_378 : decode cL_law 378 = .ok (.iload_n 3, 1) := by decide +kernel
theorem dL_law_379 : decode cL_law 379 = .ok (.iconst 1, 1) := by decide +kernel
theorem dL_law_380 : decode cL_law 380 = .ok (.iadd, 1) := by decide +kernel
theorem dL_law_381 : decode cL_law 381 = .ok (.iaload, 1) := by decide +kernel
theorem dL_law_382 : decode cL_law 382 = .ok (.invokevirtual 43, 3) := by decide +kernel
theorem dL_law_385 : decode cL_law 385 = .ok (.if_icmp .eq 541, 3) := by decide +kernel
theorem dL_law_388 : decode cL_law 388 = .ok (.iconst 0, 1) := by decide +kernel
theorem dL_law_389 : decode cL_law 389 = .ok (.ireturn, 1) := by decide +kernel
theorem dL_law_390 : decode cL_law 390 = .ok (.aload_n 1, 1) := by decide +kernel
theorem dL_law_391 : decode cL_law 391 = .ok (.aload_n 0, 1) := by decide +kernel
theorem dL_law_392 : decode cL_law 392 = .ok (.iload_n 3, 1) := by decide +kernel
theorem dL_law_393 : decode cL_law 393 = .ok (.iconst 1, 1) := by decide +kernel
theorem dL_law_394 : decode cL_law 394 = .ok (.iadd, 1) := by decide +kernel
theorem dL_law_395 : decode cL_law 395 = .ok (.iaload, 1) := by decide +kernel
theorem dL_law_396 : decode cL_law 396 = .ok (.invokevirtual 44, 3) := by decide +kernel
theorem dL_law_399 : decode cL_law 399 = .ok (.aload_n 2, 1) := by decide +kernel
theorem dL_law_400 : decode cL_law 400 = .ok (.aload_n 0, 1) := by decide +kernel
theorem dL_law_401 : decode cL_law 401 = .ok (.iload_n 3, 1) := by decide +kernel
theorem dL_law_402 : decode cL_law 402 = .ok (.iconst 1, 1) := by decide +kernel
theorem dL_law_403 : decode cL_law 403 = .ok (.iadd, 1) := by decide +kernel
theorem dL_law_404 : decode cL_law 404 = .ok (.iaload, 1) := by decide +kernel
theorem dL_law_405 : decode cL_law 405 = .ok (.invokevirtual 47, 3) := by decide +kernel
theorem dL_law_408 : decode cL_law 408 = .ok (.if_icmp .eq 518, 3) := by decide +kernel
theorem dL_law_411 : decode cL_law 411 = .ok (.iconst 0, 1) := by decide +kernel
theorem dL_law_412 : decode cL_law 412 = .ok (.ireturn, 1) := by decide +kernel
theorem dL_law_413 : decode cL_law 413 = .ok (.aload_n 1, 1) := by decide +kernel
theorem dL_law_414 : decode cL_law 414 = .ok (.aload_n 0, 1) := by decide +kernel
theorem dL_law_415 : decode cL_law 415 = .ok (.iload_n 3, 1) := by decide +kernel
theorem dL_law_416 : decode cL_law 416 = .ok (.iconst 1, 1) := by decide +kernel
theorem dL_law_417 : decode cL_law 417 = .ok (.iadd, 1) := by decide +kernel
theorem dL_law_418 : decode cL_law 418 = .ok (.iaload, 1) := by decide +kernel
theorem dL_law_419 : decode cL_law 419 = .ok (.aload_n 0, 1) := by decide +kernel
theorem dL_law_420 : decode cL_law 420 = .ok (.iload_n 3, 1) := by decide +kernel
theorem dL_law_421 : decode cL_law 421 = .ok (.iconst 2, 1) := by decide +kernel
theorem dL_law_422 : decode cL_law 422 = .ok (.iadd, 1) := by decide +kernel
theorem dL_law_423 : decode cL_law 423 = .ok (.iaload, 1) := by decide +kernel
theorem dL_law_424 : decode cL_law 424 = .ok (.invokevirtual 48, 3) := by decide +kernel
theorem dL_law_427 : decode cL_law 427 = .ok (.aload_n 2, 1) := by decide +kernel
theorem dL_law_428 : decode cL_law 428 = .ok (.aload_n 0, 1) := by decide +kernel
theorem dL_law_429 : decode cL_law 429 = .ok (.iload_n 3, 1) := by decide +kernel
theorem dL_law_430 : decode cL_law 430 = .ok (.iconst 1, 1) := by decide +kernel
theorem dL_law_431 : decode cL_law 431 = .ok (.iadd, 1) := by decide +kernel
theorem dL_law_432 : decode cL_law 432 = .ok (.iaload, 1) := by decide +kernel
theorem dL_law_433 : decode cL_law 433 = .ok (.aload_n 0, 1) := by decide +kernel
theorem dL_law_434 : decode cL_law 434 = .ok (.iload_n 3, 1) := by decide +kernel
theorem dL_law_435 : decode cL_law 435 = .ok (.iconst 2, 1) := by decide +kernel
theorem dL_law_436 : decode cL_law 436 = .ok (.iadd, 1) := by decide +kernel
theorem dL_law_437 : decode cL_law 437 = .ok (.iaload, 1) := by decide +kernel
theorem dL_law_438 : decode cL_law 438 = .ok (.invokevirtual 52, 3) := by decide +kernel
theorem dL_law_441 : decode cL_law 441 = .ok (.if_icmp .eq 485, 3) := by decide +kernel
theorem dL_law_444 : decode cL_law 444 = .ok (.iconst 0, 1) := by decide +kernel
theorem dL_law_445 : decode cL_law 445 = .ok (.ireturn, 1) := by decide +kernel
theorem dL_law_446 : decode cL_law 446 = .ok (.aload_n 1, 1) := by decide +kernel
theorem dL_law_447 : decode cL_law 447 = .ok (.aload_n 0, 1) := by decide +kernel
theorem dL_law_448 : decode cL_law 448 = .ok (.iload_n 3, 1) := by decide +kernel
theorem dL_law_449 : decode cL_law 449 = .ok (.iconst 1, 1) := by decide +kernel
theorem dL_law_450 : decode cL_law 450 = .ok (.iadd, 1) := by decide +kernel
theorem dL_law_451 : decode cL_law 451 = .ok (.iaload, 1) := by decide +kernel
theorem dL_law_452 : decode cL_law 452 = .ok (.invokevirtual 53, 3) := by decide +kernel
theorem dL_law_455 : decode cL_law 455 = .ok (.aload_n 2, 1) := by decide +kernel
theorem dL_law_456 : decode cL_law 456 = .ok (.aload_n 0, 1) := by decide +kernel
theorem dL_law_457 : decode cL_law 457 = .ok (.iload_n 3, 1) := by decide +kernel
theorem dL_law_458 : decode cL_law 458 = .ok (.iconst 1, 1) := by decide +kernel
theorem dL_law_459 : decode cL_law 459 = .ok (.iadd, 1) := by decide +kernel
theorem dL_law_460 : decode cL_law 460 = .ok (.iaload, 1) := by decide +kernel
theorem dL_law_461 : decode cL_law 461 = .ok (.invokevirtual 56, 3) := by decide +kernel
theorem dL_law_464 : decode cL_law 464 = .ok (.if_icmp .eq 462, 3) := by decide +kernel
theorem dL_law_467 : decode cL_law 467 = .ok (.iconst 0, 1) := by decide +kernel
theorem dL_law_468 : decode cL_law 468 = .ok (.ireturn, 1) := by decide +kernel
theorem dL_law_469 : decode cL_law 469 = .ok (.aload_n 1, 1) := by decide +kernel
theorem dL_law_470 : decode cL_law 470 = .ok (.aload_n 0, 1) := by decide +kernel
theorem dL_law_471 : decode cL_law 471 = .ok (.iload_n 3, 1) := by decide +kernel
theorem dL_law_472 : decode cL_law 472 = .ok (.iconst 1, 1) := by decide +kernel
theorem dL_law_473 : decode cL_law 473 = .ok (.iadd, 1) := by decide +kernel
theorem dL_law_474 : decode cL_law 474 = .ok (.iaload, 1) := by decide +kernel
theorem dL_law_475 : decode cL_law 475 = .ok (.aload_n 0, 1) := by decide +kernel
theorem dL_law_476 : decode cL_law 476 = .ok (.iload_n 3, 1) := by decide +kernel
theorem dL_law_477 : decode cL_law 477 = .ok (.iconst 2, 1) := by decide +kernel
theorem dL_law_478 : decode cL_law 478 = .ok (.iadd, 1) := by decide +kernel
theorem dL_law_479 : decode cL_law 479 = .ok (.iaload, 1) := by decide +kernel
theorem dL_law_480 : decode cL_law 480 = .ok (.invokevirtual 57, 3) := by decide +kernel
theorem dL_law_483 : decode cL_law 483 = .ok (.aload_n 2, 1) := by decide +kernel
theorem dL_law_484 : decode cL_law 484 = .ok (.aload_n 0, 1) := by decide +kernel
theorem dL_law_485 : decode cL_law 485 = .ok (.iload_n 3, 1) := by decide +kernel
theorem dL_law_486 : decode cL_law 486 = .ok (.iconst 1, 1) := by decide +kernel
theorem dL_law_487 : decode cL_law 487 = .ok (.iadd, 1) := by decide +kernel
theorem dL_law_488 : decode cL_law 488 = .ok (.iaload, 1) := by decide +kernel
theorem dL_law_489 : decode cL_law 489 = .ok (.aload_n 0, 1) := by decide +kernel
theorem dL_law_490 : decode cL_law 490 = .ok (.iload_n 3, 1) := by decide +kernel
theorem dL_law_491 : decode cL_law 491 = .ok (.iconst 2, 1) := by decide +kernel
theorem dL_law_492 : decode cL_law 492 = .ok (.iadd, 1) := by decide +kernel
theorem dL_law_493 : decode cL_law 493 = .ok (.iaload, 1) := by decide +kernel
theorem dL_law_494 : decode cL_law 494 = .ok (.invokevirtual 60, 3) := by decide +kernel
theorem dL_law_497 : decode cL_law 497 = .ok (.if_icmp .eq 429, 3) := by decide +kernel
theorem dL_law_500 : decode cL_law 500 = .ok (.iconst 0, 1) := by decide +kernel
theorem dL_law_501 : decode cL_law 501 = .ok (.ireturn, 1) := by decide +kernel
theorem dL_law_502 : decode cL_law 502 = .ok (.aload_n 1, 1) := by decide +kernel
theorem dL_law_503 : decode cL_law 503 = .ok (.aload_n 0, 1) := by decide +kernel
theorem dL_law_504 : decode cL_law 504 = .ok (.iload_n 3, 1) := by decide +kernel
theorem dL_law_505 : decode cL_law 505 = .ok (.iconst 1, 1) := by decide +kernel
theorem dL_law_506 : decode cL_law 506 = .ok (.iadd, 1) := by decide +kernel
theorem dL_law_507 : decode cL_law 507 = .ok (.iaload, 1) := by decide +kernel
theorem dL_law_508 : decode cL_law 508 = .ok (.aload_n 0, 1) := by decide +kernel
theorem dL_law_509 : decode cL_law 509 = .ok (.iload_n 3, 1) := by decide +kernel
theorem dL_law_510 : decode cL_law 510 = .ok (.iconst 2, 1) := by decide +kernel
theorem dL_law_511 : decode cL_law 511 = .ok (.iadd, 1) := by decide +kernel
theorem dL_law_512 : decode cL_law 512 = .ok (.iaload, 1) := by decide +kernel
theorem dL_law_513 : decode cL_law 513 = .ok (.invokevirtual 61, 3) := by decide +kernel
theorem dL_law_516 : decode cL_law 516 = .ok (.aload_n 2, 1) := by decide +kernel
theorem dL_law_517 : decode cL_law 517 = .ok (.aload_n 0, 1) := by decide +kernel
theorem dL_law_518 : decode cL_law 518 = .ok (.iload_n 3, 1) := by decide +kernel
theorem dL_law_519 : decode cL_law 519 = .ok (.iconst 1, 1) := by decide +kernel
theorem dL_law_520 : decode cL_law 520 = .ok (.iadd, 1) := by decide +kernel
theorem dL_law_521 : decode cL_law 521 = .ok (.iaload, 1) := by decide +kernel
theorem dL_law_522 : decode cL_law 522 = .ok (.aload_n 0, 1) := by decide +kernel
theorem dL_law_523 : decode cL_law 523 = .ok (.iload_n 3, 1) := by decide +kernel
theorem dL_law_524 : decode cL_law 524 = .ok (.iconst 2, 1) := by decide +kernel
theorem dL_law_525 : decode cL_law 525 = .ok (.iadd, 1) := by decide +kernel
theorem dL_law_526 : decode cL_law 526 = .ok (.iaload, 1) := by decide +kernel
theorem dL_law_527 : decode cL_law 527 = .ok (.invokevirtual 64, 3) := by decide +kernel
theorem dL_law_530 : decode cL_law 530 = .ok (.if_icmp .eq 396, 3) := by decide +kernel
theorem dL_law_533 : decode cL_law 533 = .ok (.iconst 0, 1) := by decide +kernel
theorem dL_law_534 : decode cL_law 534 = .ok (.ireturn, 1) := by decide +kernel
theorem dL_law_535 : decode cL_law 535 = .ok (.aload_n 1, 1) := by decide +kernel
theorem dL_law_536 : decode cL_law 536 = .ok (.aload_n 0, 1) := by decide +kernel
theorem dL_law_537 : decode cL_law 537 = .ok (.iload_n 3, 1) := by decide +kernel
theorem dL_law_538 : decode cL_law 538 = .ok (.iconst 1, 1) := by decide +kernel
theorem dL_law_539 : decode cL_law 539 = .ok (.iadd, 1) := by decide +kernel
theorem dL_law_540 : decode cL_law 540 = .ok (.iaload, 1) := by decide +kernel
theorem dL_law_541 : decode cL_law 541 = .ok (.invokevirtual 65, 3) := by decide +kernel
theorem dL_law_544 : decode cL_law 544 = .ok (.aload_n 2, 1) := by decide +kernel
theorem dL_law_545 : decode cL_law 545 = .ok (.aload_n 0, 1) := by decide +kernel
theorem dL_law_546 : decode cL_law 546 = .ok (.iload_n 3, 1) := by decide +kernel
theorem dL_law_547 : decode cL_law 547 = .ok (.iconst 1, 1) := by decide +kernel
theorem dL_law_548 : decode cL_law 548 = .ok (.iadd, 1) := by decide +kernel
theorem dL_law_549 : decode cL_law 549 = .ok (.iaload, 1) := by decide +kernel
theorem dL_law_550 : decode cL_law 550 = .ok (.invokevirtual 68, 3) := by decide +kernel
theorem dL_law_553 : decode cL_law 553 = .ok (.if_icmp .eq 373, 3) := by decide +kernel
theorem dL_law_556 : decode cL_law 556 = .ok (.iconst 0, 1) := by decide +kernel
