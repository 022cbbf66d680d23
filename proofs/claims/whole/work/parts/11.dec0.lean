theorem dX0_init_0 : decode cX0_init 0 = .ok (.aload_n 0, 1) := by decide +kernel
theorem dX0_init_1 : decode cX0_init 1 = .ok (.invokespecial 3, 3) := by decide +kernel
theorem dX0_init_4 : decode cX0_init 4 = .ok (.aload_n 0, 1) := by decide +kernel
theorem dX0_init_5 : decode cX0_init 5 = .ok (.bipush 8, 2) := by decide +kernel
theorem dX0_init_7 : decode cX0_init 7 = .ok (.anewarray 9, 3) := by decide +kernel
theorem dX0_init_10 : decode cX0_init 10 = .ok (.putfield 11, 3) := by decide +kernel
theorem dX0_init_13 : decode cX0_init 13 = .ok (.aload_n 0, 1) := by decide +kernel
theorem dX0_init_14 : decode cX0_init 14 = .ok (.new 9, 3) := by decide +kernel
theorem dX0_init_17 : decode cX0_init 17 = .ok (.dup, 1) := by decide +kernel
theorem dX0_init_18 : decode cX0_init 18 = .ok (.invokespecial 17, 3) := by decide +kernel
theorem dX0_init_21 : decode cX0_init 21 = .ok (.putfield 18, 3) := by decide +kernel
theorem dX0_init_24 : decode cX0_init 24 = .ok (.aload_n 0, 1) := by decide +kernel
theorem dX0_init_25 : decode cX0_init 25 = .ok (.new 9, 3) := by decide +kernel
theorem dX0_init_28 : decode cX0_init 28 = .ok (.dup, 1) := by decide +kernel
theorem dX0_init_29 : decode cX0_init 29 = .ok (.invokespecial 17, 3) := by decide +kernel
theorem dX0_init_32 : decode cX0_init 32 = .ok (.putfield 22, 3) := by decide +kernel
theorem dX0_init_35 : decode cX0_init 35 = .ok (.aload_n 0, 1) := by decide +kernel
theorem dX0_init_36 : decode cX0_init 36 = .ok (.new 9, 3) := by decide +kernel
theorem dX0_init_39 : decode cX0_init 39 = .ok (.dup, 1) := by decide +kernel
theorem dX0_init_40 : decode cX0_init 40 = .ok (.invokespecial 17, 3) := by decide +kernel
theorem dX0_init_43 : decode cX0_init 43 = .ok (.putfield 25, 3) := by decide +kernel
theorem dX0_init_46 : decode cX0_init 46 = .ok (.aload_n 0, 1) := by decide +kernel
theorem dX0_init_47 : decode cX0_init 47 = .ok (.new 9, 3) := by decide +kernel
theorem dX0_init_50 : decode cX0_init 50 = .ok (.dup, 1) := by decide +kernel
theorem dX0_init_51 : decode cX0_init 51 = .ok (.invokespecial 17, 3) := by decide +kernel
theorem dX0_init_54 : decode cX0_init 54 = .ok (.putfield 28, 3) := by decide +kernel
theorem dX0_init_57 : decode cX0_init 57 = .ok (.aload_n 0, 1) := by decide +kernel
theorem dX0_init_58 : decode cX0_init 58 = .ok (.new 9, 3) := by decide +kernel
theorem dX0_init_61 : decode cX0_init 61 = .ok (.dup, 1) := by decide +kernel
theorem dX0_init_62 : decode cX0_init 62 = .ok (.invokespecial 17, 3) := by decide +kernel
theorem dX0_init_65 : decode cX0_init 65 = .ok (.putfield 31, 3) := by decide +kernel
theorem dX0_init_68 : decode cX0_init 68 = .ok (.iconst 0, 1) := by decide +kernel
theorem dX0_init_69 : decode cX0_init 69 = .ok (.istore_n 1, 1) := by decide +kernel
theorem dX0_init_70 : decode cX0_init 70 = .ok (.iload_n 1, 1) := by decide +kernel
theorem dX0_init_71 : decode cX0_init 71 = .ok (.bipush 8, 2) := by decide +kernel
theorem dX0_init_73 : decode cX0_init 73 = .ok (.if_icmp .ge 22, 3) := by decide +kernel
theorem dX0_init_76 : decode cX0_init 76 = .ok (.aload_n 0, 1) := by decide +kernel
theorem dX0_init_77 : decode cX0_init 77 = .ok (.getfield 11, 3) := by decide +kernel
theorem dX0_init_80 : decode cX0_init 80 = .ok (.iload_n 1, 1) := by decide +kernel
theorem dX0_init_81 : decode cX0_init 81 = .ok (.new 9, 3) := by decide +kernel
theorem dX0_init_84 : decode cX0_init 84 = .ok (.dup, 1) := by decide +kernel
theorem dX0_init_85 : decode cX0_init 85 = .ok (.invokespecial 17, 3) := by decide +kernel
theorem dX0_init_88 : decode cX0_init 88 = .ok (.aastore, 1) := by decide +kernel
theorem dX0_init_89 : decode cX0_init 89 = .ok (.iinc 1 1, 3) := by decide +kernel
theorem dX0_init_92 : decode cX0_init 92 = .ok (.goto (-22), 3) := by decide +kernel
theorem dX0_init_95 : decode cX0_init 95 = .ok (.return_, 1) := by decide +kernel
theorem dX0_take_0 : decode cX0_take 0 = .ok (.aload_n 0, 1) := by decide +kernel
theorem dX0_take_1 : decode cX0_take 1 = .ok (.iconst 1, 1) := by decide +kernel
theorem dX0_take_2 : decode cX0_take 2 = .ok (.putfield 34, 3) := by decide +kernel
theorem dX0_take_5 : decode cX0_take 5 = .ok (.aload_n 0, 1) := by decide +kernel
theorem dX0_take_6 : decode cX0_take 6 = .ok (.getfield 25, 3) := by decide +kernel
theorem dX0_take_9 : decode cX0_take 9 = .ok (.lconst 0, 1) := by decide +kernel
theorem dX0_take_10 : decode cX0_take 10 = .ok (.invokevirtual 38, 3) := by decide +kernel
theorem dX0_take_13 : decode cX0_take 13 = .ok (.aload_n 0, 1) := by decide +kernel
theorem dX0_take_14 : decode cX0_take 14 = .ok (.getfield 25, 3) := by decide +kernel
theorem dX0_take_17 : decode cX0_take 17 = .ok (.aload_n 2, 1) := by decide +kernel
theorem dX0_take_18 : decode cX0_take 18 = .ok (.getfield 42, 3) := by decide +kernel
theorem dX0_take_21 : decode cX0_take 21 = .ok (.aload_n 1, 1) := by decide +kernel
theorem dX0_take_22 : decode cX0_take 22 = .ok (.getfield 45, 3) := by decide +kernel
theorem dX0_take_25 : decode cX0_take 25 = .ok (.invokevirtual 51, 3) := by decide +kernel
theorem dX0_take_28 : decode cX0_take 28 = .ok (.aload_n 0, 1) := by decide +kernel
theorem dX0_take_29 : decode cX0_take 29 = .ok (.getfield 31, 3) := by decide +kernel
theorem dX0_take_32 : decode cX0_take 32 = .ok (.lconst 0, 1) := by decide +kernel
theorem dX0_take_33 : decode cX0_take 33 = .ok (.invokevirtual 38, 3) := by decide +kernel
theorem dX0_take_36 : decode cX0_take 36 = .ok (.aload_n 0, 1) := by decide +kernel
theorem dX0_take_37 : decode cX0_take 37 = .ok (.getfield 31, 3) := by decide +kernel
theorem dX0_take_40 : decode cX0_take 40 = .ok (.aload_n 0, 1) := by decide +kernel
theorem dX0_take_41 : decode cX0_take 41 = .ok (.getfield 25, 3) := by decide +kernel
theorem dX0_take_44 : decode cX0_take 44 = .ok (.aload_n 1, 1) := by decide +kernel
theorem dX0_take_45 : decode cX0_take 45 = .ok (.getfield 45, 3) := by decide +kernel
theorem dX0_take_48 : decode cX0_take 48 = .ok (.invokevirtual 51, 3) := by decide +kernel
theorem dX0_take_51 : decode cX0_take 51 = .ok (.aload_n 0, 1) := by decide +kernel
theorem dX0_take_52 : decode cX0_take 52 = .ok (.aload_n 1, 1) := by decide +kernel
theorem dX0_take_53 : decode cX0_take 53 = .ok (.aload_n 2, 1) := by decide +kernel
theorem dX0_take_54 : decode cX0_take 54 = .ok (.invokevirtual 55, 3) := by decide +kernel
theorem dX0_take_57 : decode cX0_take 57 = .ok (.aload_n 0, 1) := by decide +kernel
theorem dX0_take_58 : decode cX0_take 58 = .ok (.getfield 18, 3) := by decide +kernel
theorem dX0_take_61 : decode cX0_take 61 = .ok (.lconst 0, 1) := by decide +kernel
theorem dX0_take_62 : decode cX0_take 62 = .ok (.invokevirtual 38, 3) := by decide +kernel
theorem dX0_take_65 : decode cX0_take 65 = .ok (.aload_n 0, 1) := by decide +kernel
theorem dX0_take_66 : decode cX0_take 66 = .ok (.getfield 22, 3) := by decide +kernel
theorem dX0_take_69 : decode cX0_take 69 = .ok (.lconst 0, 1) := by decide +kernel
theorem dX0_take_70 : decode cX0_take 70 = .ok (.invokevirtual 38, 3) := by decide +kernel
theorem dX0_take_73 : decode cX0_take 73 = .ok (.aload_n 0, 1) := by decide +kernel
theorem dX0_take_74 : decode cX0_take 74 = .ok (.getfield 22, 3) := by decide +kernel
theorem dX0_take_77 : decode cX0_take 77 = .ok (.aload_n 2, 1) := by decide +kernel
theorem dX0_take_78 : decode cX0_take 78 = .ok (.getfield 42, 3) := by decide +kernel
theorem dX0_take_81 : decode cX0_take 81 = .ok (.aload_n 1, 1) := by decide +kernel
theorem dX0_take_82 : decode cX0_take 82 = .ok (.getfield 59, 3) := by decide +kernel
theorem dX0_take_85 : decode cX0_take 85 = .ok (.iconst 0, 1) := by decide +kernel
theorem dX0_take_86 : decode cX0_take 86 = .ok (.iaload, 1) := by decide +kernel
theorem dX0_take_87 : decode cX0_take 87 = .ok (.invokevirtual 51, 3) := by decide +kernel
theorem dX0_take_90 : decode cX0_take 90 = .ok (.aload_n 0, 1) := by decide +kernel
theorem dX0_take_91 : decode cX0_take 91 = .ok (.getfield 28, 3) := by decide +kernel
theorem dX0_take_94 : decode cX0_take 94 = .ok (.lconst 0, 1) := by decide +kernel
theorem dX0_take_95 : decode cX0_take 95 = .ok (.invokevirtual 38, 3) := by decide +kernel
theorem dX0_take_98 : decode cX0_take 98 = .ok (.aload_n 0, 1) := by decide +kernel
theorem dX0_take_99 : decode cX0_take 99 = .ok (.getfield 28, 3) := by decide +kernel
theorem dX0_take_102 : decode cX0_take 102 = .ok (.aload_n 2, 1) := by decide +kernel
theorem dX0_take_103 : decode cX0_take 103 = .ok (.getfield 42, 3) := by decide +kernel
theorem dX0_take_106 : decode cX0_take 106 = .ok (.iload 4, 2) := by decide +kernel
theorem dX0_take_108 : decode cX0_take 108 = .ok (.ineg, 1) := by decide +kernel
theorem dX0_take_109 : decode cX0_take 109 = .ok (.invokevirtual 51, 3) := by decide +kernel
theorem dX0_take_112 : decode cX0_take 112 = .ok (.iconst 0, 1) := by decide +kernel
theorem dX0_take_113 : decode cX0_take 113 = .ok (.istore 5, 2) := by decide +kernel
theorem dX0_take_115 : decode cX0_take 115 = .ok (.iload 5, 2) := by decide +kernel
theorem dX0_take_117 : decode cX0_take 117 = .ok (.aload_n 1, 1) := by decide +kernel
theorem dX0_take_118 : decode cX0_take 118 = .ok (.getfield 63, 3) := by decide +kernel
theorem dX0_take_121 : decode cX0_take 121 = .ok (.if_icmp .ge 82, 3) := by decide +kernel
theorem dX0_take_124 : decode cX0_take 124 = .ok (.aload_n 1, 1) := by decide +kernel
theorem dX0_take_125 : decode cX0_take 125 = .ok (.getfield 66, 3) := by decide +kernel
theorem dX0_take_128 : decode cX0_take 128 = .ok (.iload 5, 2) := by decide +kernel
theorem dX0_take_130 : decode cX0_take 130 = .ok (.iaload, 1) := by decide +kernel
theorem dX0_take_131 : decode cX0_take 131 = .ok (.istore 6, 2) := by decide +kernel
theorem dX0_take_133 : decode cX0_take 133 = .ok (.aload_n 0, 1) := by decide +kernel
theorem dX0_take_134 : decode cX0_take 134 = .ok (.getfield 18, 3) := by decide +kernel
theorem dX0_take_137 : decode cX0_take 137 = .ok (.aload_n 0, 1) := by decide +kernel
theorem dX0_take_138 : decode cX0_take 138 = .ok (.getfield 11, 3) := by decide +kernel
theorem dX0_take_141 : decode cX0_take 141 = .ok (.iload 6, 2) := by decide +kernel
theorem dX0_take_143 : decode cX0_take 143 = .ok (.aaload, 1) := by decide +kernel
theorem dX0_take_144 : decode cX0_take 144 = .ok (.aload_n 3, 1) := by decide +kernel
theorem dX0_take_145 : decode cX0_take 145 = .ok (.getfield 69, 3) := by decide +kernel
theorem dX0_take_148 : decode cX0_take 148 = .ok (.iload 6, 2) := by decide +kernel
theorem dX0_take_150 : decode cX0_take 150 = .ok (.iaload, 1) := by decide +kernel
theorem dX0_take_151 : decode cX0_take 151 = .ok (.invokevirtual 51, 3) := by decide +kernel
theorem dX0_take_154 : decode cX0_take 154 = .ok (.aload_n 0, 1) := by decide +kernel
theorem dX0_take_155 : decode cX0_take 155 = .ok (.getfield 22, 3) := by decide +kernel
theorem dX0_take_158 : decode cX0_take 158 = .ok (.aload_n 0, 1) := by decide +kernel
theorem dX0_take_159 : decode cX0_take 159 = .ok (.getfield 11, 3) := by decide +kernel
theorem dX0_take_162 : decode cX0_take 162 = .ok (.iload 6, 2) := by decide +kernel
theorem dX0_take_164 : decode cX0_take 164 = .ok (.aaload, 1) := by decide +kernel
theorem dX0_take_165 : decode cX0_take 165 = .ok (.aload_n 1, 1) := by decide +kernel
theorem dX0_take_166 : decode cX0_take 166 = .ok (.getfield 74, 3) := by decide +kernel
theorem dX0_take_169 : decode cX0_take 169 = .ok (.iload 5, 2) := by decide +kernel
theorem dX0_take_171 : decode cX0_take 171 = .ok (.iaload, 1) := by decide +kernel
theorem dX0_take_172 : decode cX0_take 172 = .ok (.ineg, 1) := by decide +kernel
theorem dX0_take_173 : decode cX0_take 173 = .ok (.invokevirtual 51, 3) := by decide +kernel
theorem dX0_take_176 : decode cX0_take 176 = .ok (.aload_n 0, 1) := by decide +kernel
theorem dX0_take_177 : decode cX0_take 177 = .ok (.getfield 28, 3) := by decide +kernel
theorem dX0_take_180 : decode cX0_take 180 = .ok (.aload_n 0, 1) := by decide +kernel
theorem dX0_take_181 : decode cX0_take 181 = .ok (.getfield 11, 3) := by decide +kernel
theorem dX0_take_184 : decode cX0_take 184 = .ok (.iload 6, 2) := by decide +kernel
theorem dX0_take_186 : decode cX0_take 186 = .ok (.aaload, 1) := by decide +kernel
theorem dX0_take_187 : decode cX0_take 187 = .ok (.aload_n 1, 1) := by decide +kernel
theorem dX0_take_188 : decode cX0_take 188 = .ok (.getfield 59, 3) := by decide +kernel
theorem dX0_take_191 : decode cX0_take 191 = .ok (.iload 5, 2) := by decide +kernel
theorem dX0_take_193 : decode cX0_take 193 = .ok (.iaload, 1) := by decide +kernel
theorem dX0_take_194 : decode cX0_take 194 = .ok (.invokevirtual 51, 3) := by decide +kernel
theorem dX0_take_197 : decode cX0_take 197 = .ok (.iinc 5 1, 3) := by decide +kernel
theorem dX0_take_200 : decode cX0_take 200 = .ok (.goto (-85), 3) := by decide +kernel
theorem dX0_take_203 : decode cX0_take 203 = .ok (.aload_n 0, 1) := by decide +kernel
theorem dX0_take_204 : decode cX0_take 204 = .ok (.getfield 28, 3) := by decide +kernel
theorem dX0_take_207 : decode cX0_take 207 = .ok (.aload_n 0, 1) := by decide +kernel
theorem dX0_take_208 : decode cX0_take 208 = .ok (.getfield 22, 3) := by decide +kernel
theorem dX0_take_211 : decode cX0_take 211 = .ok (.aload_n 1, 1) := by decide +kernel
theorem dX0_take_212 : decode cX0_take 212 = .ok (.getfield 45, 3) := by decide +kernel
theorem dX0_take_215 : decode cX0_take 215 = .ok (.invokevirtual 51, 3) := by decide +kernel
theorem dX0_take_218 : decode cX0_take 218 = .ok (.return_, 1) := by decide +kernel
theorem dX0_takeWeights_0 : decode cX0_takeWeights 0 = .ok (.iconst 0, 1) := by decide +kernel
theorem dX0_takeWeights_1 : decode cX0_takeWeights 1 = .ok (.istore_n 3, 1) := by decide +kernel
theorem dX0_takeWeights_2 : decode cX0_takeWeights 2 = .ok (.iload_n 3, 1) := by decide +kernel
theorem dX0_takeWeights_3 : decode cX0_takeWeights 3 = .ok (.bipush 8, 2) := by decide +kernel
theorem dX0_takeWeights_5 : decode cX0_takeWeights 5 = .ok (.if_icmp .ge 19, 3) := by decide +kernel
theorem dX0_takeWeights_8 : decode cX0_takeWeights 8 = .ok (.aload_n 0, 1) := by decide +kernel
theorem dX0_takeWeights_9 : decode cX0_takeWeights 9 = .ok (.getfield 11, 3) := by decide +kernel
theorem dX0_takeWeights_12 : decode cX0_takeWeights 12 = .ok (.iload_n 3, 1) := by decide +kernel
theorem dX0_takeWeights_13 : decode cX0_takeWeights 13 = .ok (.aaload, 1) := by decide +kernel
theorem dX0_takeWeights_14 : decode cX0_takeWeights 14 = .ok (.lconst 0, 1) := by decide +kernel
theorem dX0_takeWeights_15 : decode cX0_takeWeights 15 = .ok (.invokevirtual 38, 3) := by decide +kernel
theorem dX0_takeWeights_18 : decode cX0_takeWeights 18 = .ok (.iinc 3 1, 3) := by decide +kernel
theorem dX0_takeWeights_21 : decode cX0_takeWeights 21 = .ok (.goto (-19), 3) := by decide +kernel
theorem dX0_takeWeights_24 : decode cX0_takeWeights 24 = .ok (.aload_n 0, 1) := by decide +kernel
theorem dX0_takeWeights_25 : decode cX0_takeWeights 25 = .ok (.getfield 11, 3) := by decide +kernel
theorem dX0_takeWeights_28 : decode cX0_takeWeights 28 = .ok (.aload_n 1, 1) := by decide +kernel
theorem dX0_takeWeights_29 : decode cX0_takeWeights 29 = .ok (.getfield 66, 3) := by decide +kernel
theorem dX0_takeWeights_32 : decode cX0_takeWeights 32 = .ok (.iconst 0, 1) := by decide +kernel
theorem dX0_takeWeights_33 : decode cX0_takeWeights 33 = .ok (.iaload, 1) := by decide +kernel
theorem dX0_takeWeights_34 : decode cX0_takeWeights 34 = .ok (.aaload, 1) := by decide +kernel
theorem dX0_takeWeights_35 : decode cX0_takeWeights 35 = .ok (.astore_n 3, 1) := by decide +kernel
theorem dX0_takeWeights_36 : decode cX0_takeWeights 36 = .ok (.aload_n 3, 1) := by decide +kernel
theorem dX0_takeWeights_37 : decode cX0_takeWeights 37 = .ok (.aload_n 0, 1) := by decide +kernel
theorem dX0_takeWeights_38 : decode cX0_takeWeights 38 = .ok (.getfield 25, 3) := by decide +kernel
theorem dX0_takeWeights_41 : decode cX0_takeWeights 41 = .ok (.invokevirtual 77, 3) := by decide +kernel
theorem dX0_takeWeights_44 : decode cX0_takeWeights 44 = .ok (.iconst 1, 1) := by decide +kernel
theorem dX0_takeWeights_45 : decode cX0_takeWeights 45 = .ok (.istore 4, 2) := by decide +kernel
theorem dX0_takeWeights_47 : decode cX0_takeWeights 47 = .ok (.iload 4, 2) := by decide +kernel
theorem dX0_takeWeights_49 : decode cX0_takeWeights 49 = .ok (.aload_n 1, 1) := by decide +kernel
theorem dX0_takeWeights_50 : decode cX0_takeWeights 50 = .ok (.getfield 63, 3) := by decide +kernel
theorem dX0_takeWeights_53 : decode cX0_takeWeights 53 = .ok (.if_icmp .ge 49, 3) := by decide +kernel
theorem dX0_takeWeights_56 : decode cX0_takeWeights 56 = .ok (.aload_n 0, 1) := by decide +kernel
theorem dX0_takeWeights_57 : decode cX0_takeWeights 57 = .ok (.getfield 11, 3) := by decide +kernel
theorem dX0_takeWeights_60 : decode cX0_takeWeights 60 = .ok (.aload_n 1, 1) := by decide +kernel
theorem dX0_takeWeights_61 : decode cX0_takeWeights 61 = .ok (.getfield 66, 3) := by decide +kernel
theorem dX0_takeWeights_64 : decode cX0_takeWeights 64 = .ok (.iload 4, 2) := by decide +kernel
theorem dX0_takeWeights_66 : decode cX0_takeWeights 66 = .ok (.iaload, 1) := by decide +kernel
theorem dX0_takeWeights_67 : decode cX0_takeWeights 67 = .ok (.aaload, 1) := by decide +kernel
theorem dX0_takeWeights_68 : decode cX0_takeWeights 68 = .ok (.astore 5, 2) := by decide +kernel
theorem dX0_takeWeights_70 : decode cX0_takeWeights 70 = .ok (.aload 5, 2) := by decide +kernel
theorem dX0_takeWeights_72 : decode cX0_takeWeights 72 = .ok (.aload_n 2, 1) := by decide +kernel
theorem dX0_takeWeights_73 : decode cX0_takeWeights 73 = .ok (.iload 4, 2) := by decide +kernel
theorem dX0_takeWeights_75 : decode cX0_takeWeights 75 = .ok (.iconst 1, 1) := by decide +kernel
theorem dX0_takeWeights_76 : decode cX0_takeWeights 76 = .ok (.isub, 1) := by decide +kernel
theorem dX0_takeWeights_77 : decode cX0_takeWeights 77 = .ok (.aload_n 1, 1) := by decide +kernel
theorem dX0_takeWeights_78 : decode cX0_takeWeights 78 = .ok (.getfield 63, 3) := by decide +kernel
theorem dX0_takeWeights_81 : decode cX0_takeWeights 81 = .ok (.iconst 1, 1) := by decide +kernel
theorem dX0_takeWeights_82 : decode cX0_takeWeights 82 = .ok (.isub, 1) := by decide +kernel
theorem dX0_takeWeights_83 : decode cX0_takeWeights 83 = .ok (.invokevirtual 81, 3) := by decide +kernel
theorem dX0_takeWeights_86 : decode cX0_takeWeights 86 = .ok (.invokevirtual 77, 3) := by decide +kernel
theorem dX0_takeWeights_89 : decode cX0_takeWeights 89 = .ok (.aload_n 3, 1) := by decide +kernel
theorem dX0_takeWeights_90 : decode cX0_takeWeights 90 = .ok (.aload 5, 2) := by decide +kernel
theorem dX0_takeWeights_92 : decode cX0_takeWeights 92 = .ok (.iconst (-1), 1) := by decide +kernel
theorem dX0_takeWeights_93 : decode cX0_takeWeights 93 = .ok (.invokevirtual 51, 3) := by decide +kernel
theorem dX0_takeWeights_96 : decode cX0_takeWeights 96 = .ok (.iinc 4 1, 3) := by decide +kernel
theorem dX0_takeWeights_99 : decode cX0_takeWeights 99 = .ok (.goto (-52), 3) := by decide +kernel
theorem dX0_takeWeights_102 : decode cX0_takeWeights 102 = .ok (.return_, 1) := by decide +kernel
theorem dX1_init_0 : decode cX1_init 0 = .ok (.aload_n 0, 1) := by decide +kernel
theorem dX1_init_1 : decode cX1_init 1 = .ok (.invokespecial 1, 3) := by decide +kernel
theorem dX1_init_4 : decode cX1_init 4 = .ok (.aload_n 0, 1) := by decide +kernel
theorem dX1_init_5 : decode cX1_init 5 = .ok (.bipush 13, 2) := by decide +kernel
theorem dX1_init_7 : decode cX1_init 7 = .ok (.newarray .int, 2) := by decide +kernel
theorem dX1_init_9 : decode cX1_init 9 = .ok (.putfield 9, 3) := by decide +kernel
theorem dX1_init_12 : decode cX1_init 12 = .ok (.aload_n 0, 1) := by decide +kernel
theorem dX1_init_13 : decode cX1_init 13 = .ok (.bipush 13, 2) := by decide +kernel
theorem dX1_init_15 : decode cX1_init 15 = .ok (.newarray .int, 2) := by decide +kernel
theorem dX1_init_17 : decode cX1_init 17 = .ok (.putfield 15, 3) := by decide +kernel
theorem dX1_init_20 : decode cX1_init 20 = .ok (.return_, 1) := by decide +kernel
theorem dX1_divide_0 : decode cX1_divide 0 = .ok (.aload_n 1, 1) := by decide +kernel
theorem dX1_divide_1 : decode cX1_divide 1 = .ok (.getfield 18, 3) := by decide +kernel
theorem dX1_divide_4 : decode cX1_divide 4 = .ok (.aload_n 2, 1) := by decide +kernel
theorem dX1_divide_5 : decode cX1_divide 5 = .ok (.getfield 18, 3) := by decide +kernel
theorem dX1_divide_8 : decode cX1_divide 8 = .ok (.isub, 1) := by decide +kernel
theorem dX1_divide_9 : decode cX1_divide 9 = .ok (.istore 4, 2) := by decide +kernel
theorem dX1_divide_11 : decode cX1_divide 11 = .ok (.aload_n 1, 1) := by decide +kernel
theorem dX1_divide_12 : decode cX1_divide 12 = .ok (.getfield 22, 3) := by decide +kernel
theorem dX1_divide_15 : decode cX1_divide 15 = .ok (.aload_n 2, 1) := by decide +kernel
theorem dX1_divide_16 : decode cX1_divide 16 = .ok (.getfield 22, 3) := by decide +kernel
theorem dX1_divide_19 : decode cX1_divide 19 = .ok (.imul, 1) := by decide +kernel
theorem dX1_divide_20 : decode cX1_divide 20 = .ok (.istore 5, 2) := by decide +kernel
theorem dX1_divide_22 : decode cX1_divide 22 = .ok (.aload_n 0, 1) := by decide +kernel
theorem dX1_divide_23 : decode cX1_divide 23 = .ok (.aload_n 2, 1) := by decide +kernel
theorem dX1_divide_24 : decode cX1_divide 24 = .ok (.getfield 18, 3) := by decide +kernel
theorem dX1_divide_27 : decode cX1_divide 27 = .ok (.putfield 25, 3) := by decide +kernel
theorem dX1_divide_30 : decode cX1_divide 30 = .ok (.aload_n 0, 1) := by decide +kernel
theorem dX1_divide_31 : decode cX1_divide 31 = .ok (.getfield 25, 3) := by decide +kernel
theorem dX1_divide_34 : decode cX1_divide 34 = .ok (.iconst 2, 1) := by decide +kernel
theorem dX1_divide_35 : decode cX1_divide 35 = .ok (.if_icmp .ge 27, 3) := by decide +kernel
theorem dX1_divide_38 : decode cX1_divide 38 = .ok (.aload_n 0, 1) := by decide +kernel
theorem dX1_divide_39 : decode cX1_divide 39 = .ok (.aload_n 1, 1) := by decide +kernel
theorem dX1_divide_40 : decode cX1_divide 40 = .ok (.aload_n 2, 1) := by decide +kernel
theorem dX1_divide_41 : decode cX1_divide 41 = .ok (.getfield 28, 3) := by decide +kernel
theorem dX1_divide_44 : decode cX1_divide 44 = .ok (.iconst 0, 1) := by decide +kernel
theorem dX1_divide_45 : decode cX1_divide 45 = .ok (.iaload, 1) := by decide +kernel
theorem dX1_divide_46 : decode cX1_divide 46 = .ok (.i2l, 1) := by decide +kernel
theorem dX1_divide_47 : decode cX1_divide 47 = .ok (.aload_n 3, 1) := by decide +kernel
theorem dX1_divide_48 : decode cX1_divide 48 = .ok (.invokevirtual 31, 3) := by decide +kernel
theorem dX1_divide_51 : decode cX1_divide 51 = .ok (.aload_n 3, 1) := by decide +kernel
theorem dX1_divide_52 : decode cX1_divide 52 = .ok (.aload_n 1, 1) := by decide +kernel
theorem dX1_divide_53 : decode cX1_divide 53 = .ok (.getfield 18, 3) := by decide +kernel
theorem dX1_divide_56 : decode cX1_divide 56 = .ok (.iload 5, 2) := by decide +kernel
theorem dX1_divide_58 : decode cX1_divide 58 = .ok (.invokevirtual 35, 3) := by decide +kernel
theorem dX1_divide_61 : decode cX1_divide 61 = .ok (.return_, 1) := by decide +kernel
theorem dX1_divide_62 : decode cX1_divide 62 = .ok (.aload_n 0, 1) := by decide +kernel
theorem dX1_divide_63 : decode cX1_divide 63 = .ok (.ldc2_w 39, 3) := by decide +kernel
theorem dX1_divide_66 : decode cX1_divide 66 = .ok (.aload_n 2, 1) := by decide +kernel
theorem dX1_divide_67 : decode cX1_divide 67 = .ok (.getfield 28, 3) := by decide +kernel
theorem dX1_divide_70 : decode cX1_divide 70 = .ok (.aload_n 0, 1) := by decide +kernel
theorem dX1_divide_71 : decode cX1_divide 71 = .ok (.getfield 25, 3) := by decide +kernel
theorem dX1_divide_74 : decode cX1_divide 74 = .ok (.iconst 1, 1) := by decide +kernel
theorem dX1_divide_75 : decode cX1_divide 75 = .ok (.isub, 1) := by decide +kernel
theorem dX1_divide_76 : decode cX1_divide 76 = .ok (.iaload, 1) := by decide +kernel
theorem dX1_divide_77 : decode cX1_divide 77 = .ok (.i2l, 1) := by decide +kernel
theorem dX1_divide_78 : decode cX1_divide 78 = .ok (.lconst 1, 1) := by decide +kernel
theorem dX1_divide_79 : decode cX1_divide 79 = .ok (.ladd, 1) := by decide +kernel
theorem dX1_divide_80 : decode cX1_divide 80 = .ok (.ldiv, 1) := by decide +kernel
theorem dX1_divide_81 : decode cX1_divide 81 = .ok (.putfield 41, 3) := by decide +kernel
theorem dX1_divide_84 : decode cX1_divide 84 = .ok (.aload_n 0, 1) := by decide +kernel
theorem dX1_divide_85 : decode cX1_divide 85 = .ok (.aload_n 1, 1) := by decide +kernel
theorem dX1_divide_86 : decode cX1_divide 86 = .ok (.aload_n 0, 1) := by decide +kernel
theorem dX1_divide_87 : decode cX1_divide 87 = .ok (.getfield 9, 3) := by decide +kernel
theorem dX1_divide_90 : decode cX1_divide 90 = .ok (.aload_n 1, 1) := by decide +kernel
theorem dX1_divide_91 : decode cX1_divide 91 = .ok (.getfield 18, 3) := by decide +kernel
theorem dX1_divide_94 : decode cX1_divide 94 = .ok (.aload_n 0, 1) := by decide +kernel
theorem dX1_divide_95 : decode cX1_divide 95 = .ok (.getfield 25, 3) := by decide +kernel
theorem dX1_divide_98 : decode cX1_divide 98 = .ok (.invokestatic 45, 3) := by decide +kernel
theorem dX1_divide_101 : decode cX1_divide 101 = .ok (.iconst 1, 1) := by decide +kernel
theorem dX1_divide_102 : decode cX1_divide 102 = .ok (.iadd, 1) := by decide +kernel
theorem dX1_divide_103 : decode cX1_divide 103 = .ok (.invokevirtual 51, 3) := by decide +kernel
theorem dX1_divide_106 : decode cX1_divide 106 = .ok (.aload_n 0, 1) := by decide +kernel
theorem dX1_divide_107 : decode cX1_divide 107 = .ok (.aload_n 2, 1) := by decide +kernel
theorem dX1_divide_108 : decode cX1_divide 108 = .ok (.aload_n 0, 1) := by decide +kernel
theorem dX1_divide_109 : decode cX1_divide 109 = .ok (.getfield 15, 3) := by decide +kernel
theorem dX1_divide_112 : decode cX1_divide 112 = .ok (.aload_n 0, 1) := by decide +kernel
theorem dX1_divide_113 : decode cX1_divide 113 = .ok (.getfield 25, 3) := by decide +kernel
theorem dX1_divide_116 : decode cX1_divide 116 = .ok (.iconst 1, 1) := by decide +kernel
theorem dX1_divide_117 : decode cX1_divide 117 = .ok (.iadd, 1) := by decide +kernel
theorem dX1_divide_118 : decode cX1_divide 118 = .ok (.invokevirtual 51, 3) := by decide +kernel
theorem dX1_divide_121 : decode cX1_divide 121 = .ok (.aload_n 3, 1) := by decide +kernel
theorem dX1_divide_122 : decode cX1_divide 122 = .ok (.invokevirtual 55, 3) := by decide +kernel
theorem dX1_divide_125 : decode cX1_divide 125 = .ok (.iload 4, 2) := by decide +kernel
theorem dX1_divide_127 : decode cX1_divide 127 = .ok (.istore 6, 2) := by decide +kernel
theorem dX1_divide_129 : decode cX1_divide 129 = .ok (.iload 6, 2) := by decide +kernel
theorem dX1_divide_131 : decode cX1_divide 131 = .ok (.ifCond .lt 50, 3) := by decide +kernel
theorem dX1_divide_134 : decode cX1_divide 134 = .ok (.aload_n 0, 1) := by decide +kernel
theorem dX1_divide_135 : decode cX1_divide 135 = .ok (.iload 6, 2) := by decide +kernel
theorem dX1_divide_137 : decode cX1_divide 137 = .ok (.invokevirtual 58, 3) := by decide +kernel
theorem dX1_divide_140 : decode cX1_divide 140 = .ok (.lstore 7, 2) := by decide +kernel
theorem dX1_divide_142 : decode cX1_divide 142 = .ok (.aload_n 0, 1) := by decide +kernel
theorem dX1_divide_143 : decode cX1_divide 143 = .ok (.iload 6, 2) := by decide +kernel
theorem dX1_divide_145 : decode cX1_divide 145 = .ok (.lload 7, 2) := by decide +kernel
theorem dX1_divide_147 : decode cX1_divide 147 = .ok (.invokevirtual 62, 3) := by decide +kernel
theorem dX1_divide_150 : decode cX1_divide 150 = .ok (.ifCond .eq 15, 3) := by decide +kernel
theorem dX1_divide_153 : decode cX1_divide 153 = .ok (.lload 7, 2) := by decide +kernel
theorem dX1_divide_155 : decode cX1_divide 155 = .ok (.lconst 1, 1) := by decide +kernel
theorem dX1_divide_156 : decode cX1_divide 156 = .ok (.lsub, 1) := by decide +kernel
theorem dX1_divide_157 : decode cX1_divide 157 = .ok (.lstore 7, 2) := by decide +kernel
theorem dX1_divide_159 : decode cX1_divide 159 = .ok (.aload_n 0, 1) := by decide +kernel
theorem dX1_divide_160 : decode cX1_divide 160 = .ok (.iload 6, 2) := by decide +kernel
theorem dX1_divide_162 : decode cX1_divide 162 = .ok (.invokevirtual 66, 3) := by decide +kernel
theorem dX1_divide_165 : decode cX1_divide 165 = .ok (.aload_n 3, 1) := by decide +kernel
theorem dX1_divide_166 : decode cX1_divide 166 = .ok (.getfield 28, 3) := by decide +kernel
theorem dX1_divide_169 : decode cX1_divide 169 = .ok (.iload 6, 2) := by decide +kernel
theorem dX1_divide_171 : decode cX1_divide 171 = .ok (.lload 7, 2) := by decide +kernel
theorem dX1_divide_173 : decode cX1_divide 173 = .ok (.l2i, 1) := by decide +kernel
theorem dX1_divide_174 : decode cX1_divide 174 = .ok (.iastore, 1) := by decide +kernel
theorem dX1_divide_175 : decode cX1_divide 175 = .ok (.iinc 6 (-1), 3) := by decide +kernel
theorem dX1_divide_178 : decode cX1_divide 178 = .ok (.goto (-49), 3) := by decide +kernel
theorem dX1_divide_181 : decode cX1_divide 181 = .ok (.aload_n 3, 1) := by decide +kernel
theorem dX1_divide_182 : decode cX1_divide 182 = .ok (.iload 4, 2) := by decide +kernel
theorem dX1_divide_184 : decode cX1_divide 184 = .ok (.iconst 1, 1) := by decide +kernel
theorem dX1_divide_185 : decode cX1_divide 185 = .ok (.iadd, 1) := by decide +kernel
theorem dX1_divide_186 : decode cX1_divide 186 = .ok (.iload 5, 2) := by decide +kernel
theorem dX1_divide_188 : decode cX1_divide 188 = .ok (.invokevirtual 35, 3) := by decide +kernel
theorem dX1_divide_191 : decode cX1_divide 191 = .ok (.return_, 1) := by decide +kernel
theorem dX1_takeRest_0 : decode cX1_takeRest 0 = .ok (.aload_n 1, 1) := by decide +kernel
theorem dX1_takeRest_1 : decode cX1_takeRest 1 = .ok (.invokevirtual 55, 3) := by decide +kernel
theorem dX1_takeRest_4 : decode cX1_takeRest 4 = .ok (.lconst 0, 1) := by decide +kernel
theorem dX1_takeRest_5 : decode cX1_takeRest 5 = .ok (.lstore_n 2, 1) := by decide +kernel
theorem dX1_takeRest_6 : decode cX1_takeRest 6 = .ok (.aload_n 0, 1) := by decide +kernel
theorem dX1_takeRest_7 : decode cX1_takeRest 7 = .ok (.getfield 25, 3) := by decide +kernel
theorem dX1_takeRest_10 : decode cX1_takeRest 10 = .ok (.iconst 1, 1) := by decide +kernel
theorem dX1_takeRest_11 : decode cX1_takeRest 11 = .ok (.isub, 1) := by decide +kernel
theorem dX1_takeRest_12 : decode cX1_takeRest 12 = .ok (.istore 4, 2) := by decide +kernel
theorem dX1_takeRest_14 : decode cX1_takeRest 14 = .ok (.iload 4, 2) := by decide +kernel
theorem dX1_takeRest_16 : decode cX1_takeRest 16 = .ok (.ifCond .lt 64, 3) := by decide +kernel
theorem dX1_takeRest_19 : decode cX1_takeRest 19 = .ok (.aload_n 0, 1) := by decide +kernel
theorem dX1_takeRest_20 : decode cX1_takeRest 20 = .ok (.getfield 41, 3) := by decide +kernel
theorem dX1_takeRest_23 : decode cX1_takeRest 23 = .ok (.lconst 0, 1) := by decide +kernel
theorem dX1_takeRest_24 : decode cX1_takeRest 24 = .ok (.lcmp, 1) := by decide +kernel
theorem dX1_takeRest_25 : decode cX1_takeRest 25 = .ok (.ifCond .le 55, 3) := by decide +kernel
theorem dX1_takeRest_28 : decode cX1_takeRest 28 = .ok (.lload_n 2, 1) := by decide +kernel
theorem dX1_takeRest_29 : decode cX1_takeRest 29 = .ok (.ldc2_w 39, 3) := by decide +kernel
theorem dX1_takeRest_32 : decode cX1_takeRest 32 = .ok (.lmul, 1) := by decide +kernel
theorem dX1_takeRest_33 : decode cX1_takeRest 33 = .ok (.aload_n 0, 1) := by decide +kernel
theorem dX1_takeRest_34 : decode cX1_takeRest 34 = .ok (.getfield 9, 3) := by decide +kernel
theorem dX1_takeRest_37 : decode cX1_takeRest 37 = .ok (.iload 4, 2) := by decide +kernel
theorem dX1_takeRest_39 : decode cX1_takeRest 39 = .ok (.iaload, 1) := by decide +kernel
theorem dX1_takeRest_40 : decode cX1_takeRest 40 = .ok (.i2l, 1) := by decide +kernel
theorem dX1_takeRest_41 : decode cX1_takeRest 41 = .ok (.ladd, 1) := by decide +kernel
theorem dX1_takeRest_42 : decode cX1_takeRest 42 = .ok (.lstore 5, 2) := by decide +kernel
theorem dX1_takeRest_44 : decode cX1_takeRest 44 = .ok (.lload 5, 2) := by decide +kernel
theorem dX1_takeRest_46 : decode cX1_takeRest 46 = .ok (.aload_n 0, 1) := by decide +kernel
theorem dX1_takeRest_47 : decode cX1_takeRest 47 = .ok (.getfield 41, 3) := by decide +kernel
theorem dX1_takeRest_50 : decode cX1_takeRest 50 = .ok (.ldiv, 1) := by decide +kernel
theorem dX1_takeRest_51 : decode cX1_takeRest 51 = .ok (.lstore 7, 2) := by decide +kernel
theorem dX1_takeRest_53 : decode cX1_takeRest 53 = .ok (.aload_n 1, 1) := by decide +kernel
theorem dX1_takeRest_54 : decode cX1_takeRest 54 = .ok (.getfield 28, 3) := by decide +kernel
theorem dX1_takeRest_57 : decode cX1_takeRest 57 = .ok (.iload 4, 2) := by decide +kernel
theorem dX1_takeRest_59 : decode cX1_takeRest 59 = .ok (.lload 7, 2) := by decide +kernel
theorem dX1_takeRest_61 : decode cX1_takeRest 61 = .ok (.l2i, 1) := by decide +kernel
theorem dX1_takeRest_62 : decode cX1_takeRest 62 = .ok (.iastore, 1) := by decide +kernel
theorem dX1_takeRest_63 : decode cX1_takeRest 63 = .ok (.lload 5, 2) := by decide +kernel
theorem dX1_takeRest_65 : decode cX1_takeRest 65 = .ok (.lload 7, 2) := by decide +kernel
theorem dX1_takeRest_67 : decode cX1_takeRest 67 = .ok (.aload_n 0, 1) := by decide +kernel
theorem dX1_takeRest_68 : decode cX1_takeRest 68 = .ok (.getfield 41, 3) := by decide +kernel
theorem dX1_takeRest_71 : decode cX1_takeRest 71 = .ok (.lmul, 1) := by decide +kernel
theorem dX1_takeRest_72 : decode cX1_takeRest 72 = .ok (.lsub, 1) := by decide +kernel
theorem dX1_takeRest_73 : decode cX1_takeRest 73 = .ok (.lstore_n 2, 1) := by decide +kernel
theorem dX1_takeRest_74 : decode cX1_takeRest 74 = .ok (.iinc 4 (-1), 3) := by decide +kernel
theorem dX1_takeRest_77 : decode cX1_takeRest 77 = .ok (.goto (-63), 3) := by decide +kernel
theorem dX1_takeRest_80 : decode cX1_takeRest 80 = .ok (.aload_n 1, 1) := by decide +kernel
theorem dX1_takeRest_81 : decode cX1_takeRest 81 = .ok (.aload_n 0, 1) := by decide +kernel
theorem dX1_takeRest_82 : decode cX1_takeRest 82 = .ok (.getfield 25, 3) := by decide +kernel
theorem dX1_takeRest_85 : decode cX1_takeRest 85 = .ok (.iconst 1, 1) := by decide +kernel
theorem dX1_takeRest_86 : decode cX1_takeRest 86 = .ok (.invokevirtual 35, 3) := by decide +kernel
theorem dX1_takeRest_89 : decode cX1_takeRest 89 = .ok (.return_, 1) := by decide +kernel
theorem dX1_divideByPart_0 : decode cX1_divideByPart 0 = .ok (.lconst 0, 1) := by decide +kernel
theorem dX1_divideByPart_1 : decode cX1_divideByPart 1 = .ok (.lstore 5, 2) := by decide +kernel
theorem dX1_divideByPart_3 : decode cX1_divideByPart 3 = .ok (.aload_n 1, 1) := by decide +kernel
theorem dX1_divideByPart_4 : decode cX1_divideByPart 4 = .ok (.getfield 18, 3) := by decide +kernel
theorem dX1_divideByPart_7 : decode cX1_divideByPart 7 = .ok (.aload 4, 2) := by decide +kernel
theorem dX1_divideByPart_9 : decode cX1_divideByPart 9 = .ok (.getfield 18, 3) := by decide +kernel
theorem dX1_divideByPart_12 : decode cX1_divideByPart 12 = .ok (.invokestatic 45, 3) := by decide +kernel
theorem dX1_divideByPart_15 : decode cX1_divideByPart 15 = .ok (.iconst 1, 1) := by decide +kernel
theorem dX1_divideByPart_16 : decode cX1_divideByPart 16 = .ok (.isub, 1) := by decide +kernel
theorem dX1_divideByPart_17 : decode cX1_divideByPart 17 = .ok (.istore 7, 2) := by decide +kernel
theorem dX1_divideByPart_19 : decode cX1_divideByPart 19 = .ok (.iload 7, 2) := by decide +kernel
theorem dX1_divideByPart_21 : decode cX1_divideByPart 21 = .ok (.ifCond .lt 72, 3) := by decide +kernel
theorem dX1_divideByPart_24 : decode cX1_divideByPart 24 = .ok (.lload 5, 2) := by decide +kernel
theorem dX1_divideByPart_26 : decode cX1_divideByPart 26 = .ok (.ldc2_w 39, 3) := by decide +kernel
theorem dX1_divideByPart_29 : decode cX1_divideByPart 29 = .ok (.lmul, 1) := by decide +kernel
theorem dX1_divideByPart_30 : decode cX1_divideByPart 30 = .ok (.aload_n 1, 1) := by decide +kernel
theorem dX1_divideByPart_31 : decode cX1_divideByPart 31 = .ok (.getfield 28, 3) := by decide +kernel
theorem dX1_divideByPart_34 : decode cX1_divideByPart 34 = .ok (.iload 7, 2) := by decide +kernel
theorem dX1_divideByPart_36 : decode cX1_divideByPart 36 = .ok (.iaload, 1) := by decide +kernel
theorem dX1_divideByPart_37 : decode cX1_divideByPart 37 = .ok (.i2l, 1) := by decide +kernel
theorem dX1_divideByPart_38 : decode cX1_divideByPart 38 = .ok (.ladd, 1) := by decide +kernel
theorem dX1_divideByPart_39 : decode cX1_divideByPart 39 = .ok (.lstore 8, 2) := by decide +kernel
theorem dX1_divideByPart_41 : decode cX1_divideByPart 41 = .ok (.lload_n 2, 1) := by decide +kernel
theorem dX1_divideByPart_42 : decode cX1_divideByPart 42 = .ok (.lconst 0, 1) := by decide +kernel
theorem dX1_divideByPart_43 : decode cX1_divideByPart 43 = .ok (.lcmp, 1) := by decide +kernel
theorem dX1_divideByPart_44 : decode cX1_divideByPart 44 = .ok (.ifCond .le 10, 3) := by decide +kernel
theorem dX1_divideByPart_47 : decode cX1_divideByPart 47 = .ok (.lload 8, 2) := by decide +kernel
theorem dX1_divideByPart_49 : decode cX1_divideByPart 49 = .ok (.lload_n 2, 1) := by decide +kernel
theorem dX1_divideByPart_50 : decode cX1_divideByPart 50 = .ok (.ldiv, 1) := by decide +kernel
theorem dX1_divideByPart_51 : decode cX1_divideByPart 51 = .ok (.goto 4, 3) := by decide +kernel
theorem dX1_divideByPart_54 : decode cX1_divideByPart 54 = .ok (.lconst 0, 1) := by decide +kernel
theorem dX1_divideByPart_55 : decode cX1_divideByPart 55 = .ok (.lstore 10, 2) := by decide +kernel
theorem dX1_divideByPart_57 : decode cX1_divideByPart 57 = .ok (.aload 4, 2) := by decide +kernel
theorem dX1_divideByPart_59 : decode cX1_divideByPart 59 = .ok (.getfield 28, 3) := by decide +kernel
theorem dX1_divideByPart_62 : decode cX1_divideByPart 62 = .ok (.iload 7, 2) := by decide +kernel
theorem dX1_divideByPart_64 : decode cX1_divideByPart 64 = .ok (.lload 10, 2) := by decide +kernel
theorem dX1_divideByPart_66 : decode cX1_divideByPart 66 = .ok (.l2i, 1) := by decide +kernel
theorem dX1_divideByPart_67 : decode cX1_divideByPart 67 = .ok (.iastore, 1) := by decide +kernel
theorem dX1_divideByPart_68 : decode cX1_divideByPart 68 = .ok (.lload_n 2, 1) := by decide +kernel
theorem dX1_divideByPart_69 : decode cX1_divideByPart 69 = .ok (.lconst 0, 1) := by decide +kernel
theorem dX1_divideByPart_70 : decode cX1_divideByPart 70 = .ok (.lcmp, 1) := by decide +kernel
theorem dX1_divideByPart_71 : decode cX1_divideByPart 71 = .ok (.ifCond .le 13, 3) := by decide +kernel
theorem dX1_divideByPart_74 : decode cX1_divideByPart 74 = .ok (.lload 8, 2) := by decide +kernel
theorem dX1_divideByPart_76 : decode cX1_divideByPart 76 = .ok (.lload 10, 2) := by decide +kernel
theorem dX1_divideByPart_78 : decode cX1_divideByPart 78 = .ok (.lload_n 2, 1) := by decide +kernel
theorem dX1_divideByPart_79 : decode cX1_divideByPart 79 = .ok (.lmul, 1) := by decide +kernel
theorem dX1_divideByPart_80 : decode cX1_divideByPart 80 = .ok (.lsub, 1) := by decide +kernel
theorem dX1_divideByPart_81 : decode cX1_divideByPart 81 = .ok (.goto 4, 3) := by decide +kernel
theorem dX1_divideByPart_84 : decode cX1_divideByPart 84 = .ok (.lconst 0, 1) := by decide +kernel
theorem dX1_divideByPart_85 : decode cX1_divideByPart 85 = .ok (.lstore 5, 2) := by decide +kernel
theorem dX1_divideByPart_87 : decode cX1_divideByPart 87 = .ok (.iinc 7 (-1), 3) := by decide +kernel
theorem dX1_divideByPart_90 : decode cX1_divideByPart 90 = .ok (.goto (-71), 3) := by decide +kernel
theorem dX1_divideByPart_93 : decode cX1_divideByPart 93 = .ok (.aload_n 0, 1) := by decide +kernel
theorem dX1_divideByPart_94 : decode cX1_divideByPart 94 = .ok (.lconst 1, 1) := by decide +kernel
theorem dX1_divideByPart_95 : decode cX1_divideByPart 95 = .ok (.putfield 41, 3) := by decide +kernel
theorem dX1_divideByPart_98 : decode cX1_divideByPart 98 = .ok (.aload_n 0, 1) := by decide +kernel
theorem dX1_divideByPart_99 : decode cX1_divideByPart 99 = .ok (.getfield 9, 3) := by decide +kernel
theorem dX1_divideByPart_102 : decode cX1_divideByPart 102 = .ok (.iconst 0, 1) := by decide +kernel
theorem dX1_divideByPart_103 : decode cX1_divideByPart 103 = .ok (.lload 5, 2) := by decide +kernel
theorem dX1_divideByPart_105 : decode cX1_divideByPart 105 = .ok (.l2i, 1) := by decide +kernel
theorem dX1_divideByPart_106 : decode cX1_divideByPart 106 = .ok (.iastore, 1) := by decide +kernel
theorem dX1_divideByPart_107 : decode cX1_divideByPart 107 = .ok (.return_, 1) := by decide +kernel
theorem dX1_copyScaled_0 : decode cX1_copyScaled 0 = .ok (.lconst 0, 1) := by decide +kernel
theorem dX1_copyScaled_1 : decode cX1_copyScaled 1 = .ok (.lstore 4, 2) := by decide +kernel
theorem dX1_copyScaled_3 : decode cX1_copyScaled 3 = .ok (.iconst 0, 1) := by decide +kernel
theorem dX1_copyScaled_4 : decode cX1_copyScaled 4 = .ok (.istore 6, 2) := by decide +kernel
theorem dX1_copyScaled_6 : decode cX1_copyScaled 6 = .ok (.iload 6, 2) := by decide +kernel
theorem dX1_copyScaled_8 : decode cX1_copyScaled 8 = .ok (.iload_n 3, 1) := by decide +kernel
theorem dX1_copyScaled_9 : decode cX1_copyScaled 9 = .ok (.if_icmp .ge 69, 3) := by decide +kernel
theorem dX1_copyScaled_12 : decode cX1_copyScaled 12 = .ok (.iload 6, 2) := by decide +kernel
theorem dX1_copyScaled_14 : decode cX1_copyScaled 14 = .ok (.aload_n 2, 1) := by decide +kernel
theorem dX1_copyScaled_15 : decode cX1_copyScaled 15 = .ok (.arraylength, 1) := by decide +kernel
theorem dX1_copyScaled_16 : decode cX1_copyScaled 16 = .ok (.if_icmp .ge 62, 3) := by decide +kernel
theorem dX1_copyScaled_19 : decode cX1_copyScaled 19 = .ok (.lload 4, 2) := by decide +kernel
theorem dX1_copyScaled_21 : decode cX1_copyScaled 21 = .ok (.iload 6, 2) := by decide +kernel
theorem dX1_copyScaled_23 : decode cX1_copyScaled 23 = .ok (.aload_n 1, 1) := by decide +kernel
theorem dX1_copyScaled_24 : decode cX1_copyScaled 24 = .ok (.getfield 18, 3) := by decide +kernel
theorem dX1_copyScaled_27 : decode cX1_copyScaled 27 = .ok (.if_icmp .ge 19, 3) := by decide +kernel
theorem dX1_copyScaled_30 : decode cX1_copyScaled 30 = .ok (.aload_n 1, 1) := by decide +kernel
theorem dX1_copyScaled_31 : decode cX1_copyScaled 31 = .ok (.getfield 28, 3) := by decide +kernel
theorem dX1_copyScaled_34 : decode cX1_copyScaled 34 = .ok (.iload 6, 2) := by decide +kernel
theorem dX1_copyScaled_36 : decode cX1_copyScaled 36 = .ok (.iaload, 1) := by decide +kernel
theorem dX1_copyScaled_37 : decode cX1_copyScaled 37 = .ok (.i2l, 1) := by decide +kernel
theorem dX1_copyScaled_38 : decode cX1_copyScaled 38 = .ok (.aload_n 0, 1) := by decide +kernel
theorem dX1_copyScaled_39 : decode cX1_copyScaled 39 = .ok (.getfield 41, 3) := by decide +kernel
theorem dX1_copyScaled_42 : decode cX1_copyScaled 42 = .ok (.lmul, 1) := by decide +kernel
theorem dX1_copyScaled_43 : decode cX1_copyScaled 43 = .ok (.goto 4, 3) := by decide +kernel
theorem dX1_copyScaled_46 : decode cX1_copyScaled 46 = .ok (.lconst 0, 1) := by decide +kernel
theorem dX1_copyScaled_47 : decode cX1_copyScaled 47 = .ok (.ladd, 1) := by decide +kernel
theorem dX1_copyScaled_48 : decode cX1_copyScaled 48 = .ok (.lstore 7, 2) := by decide +kernel
theorem dX1_copyScaled_50 : decode cX1_copyScaled 50 = .ok (.lload 7, 2) := by decide +kernel
theorem dX1_copyScaled_52 : decode cX1_copyScaled 52 = .ok (.ldc2_w 39, 3) := by decide +kernel
theorem dX1_copyScaled_55 : decode cX1_copyScaled 55 = .ok (.ldiv, 1) := by decide +kernel
theorem dX1_copyScaled_56 : decode cX1_copyScaled 56 = .ok (.lstore 4, 2) := by decide +kernel
theorem dX1_copyScaled_58 : decode cX1_copyScaled 58 = .ok (.aload_n 2, 1) := by decide +kernel
theorem dX1_copyScaled_59 : decode cX1_copyScaled 59 = .ok (.iload 6, 2) := by decide +kernel
theorem dX1_copyScaled_61 : decode cX1_copyScaled 61 = .ok (.lload 7, 2) := by decide +kernel
theorem dX1_copyScaled_63 : decode cX1_copyScaled 63 = .ok (.lload 4, 2) := by decide +kernel
theorem dX1_copyScaled_65 : decode cX1_copyScaled 65 = .ok (.ldc2_w 39, 3) := by decide +kernel
theorem dX1_copyScaled_68 : decode cX1_copyScaled 68 = .ok (.lmul, 1) := by decide +kernel
theorem dX1_copyScaled_69 : decode cX1_copyScaled 69 = .ok (.lsub, 1) := by decide +kernel
theorem dX1_copyScaled_70 : decode cX1_copyScaled 70 = .ok (.l2i, 1) := by decide +kernel
theorem dX1_copyScaled_71 : decode cX1_copyScaled 71 = .ok (.iastore, 1) := by decide +kernel
theorem dX1_copyScaled_72 : decode cX1_copyScaled 72 = .ok (.iinc 6 1, 3) := by decide +kernel
theorem dX1_copyScaled_75 : decode cX1_copyScaled 75 = .ok (.goto (-69), 3) := by decide +kernel
theorem dX1_copyScaled_78 : decode cX1_copyScaled 78 = .ok (.return_, 1) := by decide +kernel
theorem dX1_guessPart_0 : decode cX1_guessPart 0 = .ok (.iload_n 1, 1) := by decide +kernel
theorem dX1_guessPart_1 : decode cX1_guessPart 1 = .ok (.aload_n 0, 1) := by decide +kernel
theorem dX1_guessPart_2 : decode cX1_guessPart 2 = .ok (.getfield 25, 3) := by decide +kernel
theorem dX1_guessPart_5 : decode cX1_guessPart 5 = .ok (.iadd, 1) := by decide +kernel
theorem dX1_guessPart_6 : decode cX1_guessPart 6 = .ok (.istore_n 2, 1) := by decide +kernel
theorem dX1_guessPart_7 : decode cX1_guessPart 7 = .ok (.aload_n 0, 1) := by decide +kernel
theorem dX1_guessPart_8 : decode cX1_guessPart 8 = .ok (.getfield 15, 3) := by decide +kernel
theorem dX1_guessPart_11 : decode cX1_guessPart 11 = .ok (.aload_n 0, 1) := by decide +kernel
theorem dX1_guessPart_12 : decode cX1_guessPart 12 = .ok (.getfield 25, 3) := by decide +kernel
theorem dX1_guessPart_15 : decode cX1_guessPart 15 = .ok (.iconst 1, 1) := by decide +kernel
theorem dX1_guessPart_16 : decode cX1_guessPart 16 = .ok (.isub, 1) := by decide +kernel
theorem dX1_guessPart_17 : decode cX1_guessPart 17 = .ok (.iaload, 1) := by decide +kernel
theorem dX1_guessPart_18 : decode cX1_guessPart 18 = .ok (.i2l, 1) := by decide +kernel
theorem dX1_guessPart_19 : decode cX1_guessPart 19 = .ok (.lstore_n 3, 1) := by decide +kernel
theorem dX1_guessPart_20 : decode cX1_guessPart 20 = .ok (.lload_n 3, 1) := by decide +kernel
theorem dX1_guessPart_21 : decode cX1_guessPart 21 = .ok (.lconst 0, 1) := by decide +kernel
theorem dX1_guessPart_22 : decode cX1_guessPart 22 = .ok (.lcmp, 1) := by decide +kernel
theorem dX1_guessPart_23 : decode cX1_guessPart 23 = .ok (.ifCond .ne 5, 3) := by decide +kernel
theorem dX1_guessPart_26 : decode cX1_guessPart 26 = .ok (.lconst 0, 1) := by decide +kernel
theorem dX1_guessPart_27 : decode cX1_guessPart 27 = .ok (.lreturn, 1) := by decide +kernel
theorem dX1_guessPart_28 : decode cX1_guessPart 28 = .ok (.aload_n 0, 1) := by decide +kernel
theorem dX1_guessPart_29 : decode cX1_guessPart 29 = .ok (.getfield 9, 3) := by decide +kernel
theorem dX1_guessPart_32 : decode cX1_guessPart 32 = .ok (.iload_n 2, 1) := by decide +kernel
theorem dX1_guessPart_33 : decode cX1_guessPart 33 = .ok (.iaload, 1) := by decide +kernel
theorem dX1_guessPart_34 : decode cX1_guessPart 34 = .ok (.i2l, 1) := by decide +kernel
theorem dX1_guessPart_35 : decode cX1_guessPart 35 = .ok (.ldc2_w 39, 3) := by decide +kernel
theorem dX1_guessPart_38 : decode cX1_guessPart 38 = .ok (.lmul, 1) := by decide +kernel
theorem dX1_guessPart_39 : decode cX1_guessPart 39 = .ok (.aload_n 0, 1) := by decide +kernel
theorem dX1_guessPart_40 : decode cX1_guessPart 40 = .ok (.getfield 9, 3) := by decide +kernel
theorem dX1_guessPart_43 : decode cX1_guessPart 43 = .ok (.iload_n 2, 1) := by decide +kernel
theorem dX1_guessPart_44 : decode cX1_guessPart 44 = .ok (.iconst 1, 1) := by decide +kernel
theorem dX1_guessPart_45 : decode cX1_guessPart 45 = .ok (.isub, 1) := by decide +kernel
theorem dX1_guessPart_46 : decode cX1_guessPart 46 = .ok (.iaload, 1) := by decide +kernel
theorem dX1_guessPart_47 : decode cX1_guessPart 47 = .ok (.i2l, 1) := by decide +kernel
theorem dX1_guessPart_48 : decode cX1_guessPart 48 = .ok (.ladd, 1) := by decide +kernel
theorem dX1_guessPart_49 : decode cX1_guessPart 49 = .ok (.lstore 5, 2) := by decide +kernel
theorem dX1_guessPart_51 : decode cX1_guessPart 51 = .ok (.lload 5, 2) := by decide +kernel
theorem dX1_guessPart_53 : decode cX1_guessPart 53 = .ok (.lload_n 3, 1) := by decide +kernel
theorem dX1_guessPart_54 : decode cX1_guessPart 54 = .ok (.ldiv, 1) := by decide +kernel
theorem dX1_guessPart_55 : decode cX1_guessPart 55 = .ok (.lstore 7, 2) := by decide +kernel
theorem dX1_guessPart_57 : decode cX1_guessPart 57 = .ok (.lload 5, 2) := by decide +kernel
theorem dX1_guessPart_59 : decode cX1_guessPart 59 = .ok (.lload 7, 2) := by decide +kernel
theorem dX1_guessPart_61 : decode cX1_guessPart 61 = .ok (.lload_n 3, 1) := by decide +kernel
theorem dX1_guessPart_62 : decode cX1_guessPart 62 = .ok (.lmul, 1) := by decide +kernel
theorem dX1_guessPart_63 : decode cX1_guessPart 63 = .ok (.lsub, 1) := by decide +kernel
theorem dX1_guessPart_64 : decode cX1_guessPart 64 = .ok (.lstore 9, 2) := by decide +kernel
theorem dX1_guessPart_66 : decode cX1_guessPart 66 = .ok (.iconst 0, 1) := by decide +kernel
theorem dX1_guessPart_67 : decode cX1_guessPart 67 = .ok (.istore 11, 2) := by decide +kernel
theorem dX1_guessPart_69 : decode cX1_guessPart 69 = .ok (.iload 11, 2) := by decide +kernel
theorem dX1_guessPart_71 : decode cX1_guessPart 71 = .ok (.iconst 3, 1) := by decide +kernel
theorem dX1_guessPart_72 : decode cX1_guessPart 72 = .ok (.if_icmp .ge 77, 3) := by decide +kernel
theorem dX1_guessPart_75 : decode cX1_guessPart 75 = .ok (.lload 9, 2) := by decide +kernel
theorem dX1_guessPart_77 : decode cX1_guessPart 77 = .ok (.ldc2_w 39, 3) := by decide +kernel
theorem dX1_guessPart_80 : decode cX1_guessPart 80 = .ok (.lcmp, 1) := by decide +kernel
theorem dX1_guessPart_81 : decode cX1_guessPart 81 = .ok (.ifCond .ge 68, 3) := by decide +kernel
theorem dX1_guessPart_84 : decode cX1_guessPart 84 = .ok (.lload 7, 2) := by decide +kernel
theorem dX1_guessPart_86 : decode cX1_guessPart 86 = .ok (.ldc2_w 39, 3) := by decide +kernel
theorem dX1_guessPart_89 : decode cX1_guessPart 89 = .ok (.lcmp, 1) := by decide +kernel
theorem dX1_guessPart_90 : decode cX1_guessPart 90 = .ok (.ifCond .ge 41, 3) := by decide +kernel
theorem dX1_guessPart_93 : decode cX1_guessPart 93 = .ok (.lload 7, 2) := by decide +kernel
theorem dX1_guessPart_95 : decode cX1_guessPart 95 = .ok (.aload_n 0, 1) := by decide +kernel
theorem dX1_guessPart_96 : decode cX1_guessPart 96 = .ok (.getfield 15, 3) := by decide +kernel
theorem dX1_guessPart_99 : decode cX1_guessPart 99 = .ok (.aload_n 0, 1) := by decide +kernel
theorem dX1_guessPart_100 : decode cX1_guessPart 100 = .ok (.getfield 25, 3) := by decide +kernel
theorem dX1_guessPart_103 : decode cX1_guessPart 103 = .ok (.iconst 2, 1) := by decide +kernel
theorem dX1_guessPart_104 : decode cX1_guessPart 104 = .ok (.isub, 1) := by decide +kernel
theorem dX1_guessPart_105 : decode cX1_guessPart 105 = .ok (.iaload, 1) := by decide +kernel
theorem dX1_guessPart_106 : decode cX1_guessPart 106 = .ok (.i2l, 1) := by decide +kernel
theorem dX1_guessPart_107 : decode cX1_guessPart 107 = .ok (.lmul, 1) := by decide +kernel
theorem dX1_guessPart_108 : decode cX1_guessPart 108 = .ok (.lload 9, 2) := by decide +kernel
theorem dX1_guessPart_110 : decode cX1_guessPart 110 = .ok (.ldc2_w 39, 3) := by decide +kernel
theorem dX1_guessPart_113 : decode cX1_guessPart 113 = .ok (.lmul, 1) := by decide +kernel
theorem dX1_guessPart_114 : decode cX1_guessPart 114 = .ok (.aload_n 0, 1) := by decide +kernel
theorem dX1_guessPart_115 : decode cX1_guessPart 115 = .ok (.getfield 9, 3) := by decide +kernel
theorem dX1_guessPart_118 : decode cX1_guessPart 118 = .ok (.iload_n 2, 1) := by decide +kernel
theorem dX1_guessPart_119 : decode cX1_guessPart 119 = .ok (.iconst 2, 1) := by decide +kernel
theorem dX1_guessPart_120 : decode cX1_guessPart 120 = .ok (.isub, 1) := by decide +kernel
theorem dX1_guessPart_121 : decode cX1_guessPart 121 = .ok (.iaload, 1) := by decide +kernel
theorem dX1_guessPart_122 : decode cX1_guessPart 122 = .ok (.i2l, 1) := by decide +kernel
theorem dX1_guessPart_123 : decode cX1_guessPart 123 = .ok (.ladd, 1) := by decide +kernel
theorem dX1_guessPart_124 : decode cX1_guessPart 124 = .ok (.lcmp, 1) := by decide +kernel
theorem dX1_guessPart_125 : decode cX1_guessPart 125 = .ok (.ifCond .gt 6, 3) := by decide +kernel
theorem dX1_guessPart_128 : decode cX1_guessPart 128 = .ok (.goto 21, 3) := by decide +kernel
theorem dX1_guessPart_131 : decode cX1_guessPart 131 = .ok (.lload 7, 2) := by decide +kernel
theorem dX1_guessPart_133 : decode cX1_guessPart 133 = .ok (.lconst 1, 1) := by decide +kernel
theorem dX1_guessPart_134 : decode cX1_guessPart 134 = .ok (.lsub, 1) := by decide +kernel
theorem dX1_guessPart_135 : decode cX1_guessPart 135 = .ok (.lstore 7, 2) := by decide +kernel
theorem dX1_guessPart_137 : decode cX1_guessPart 137 = .ok (.lload 9, 2) := by decide +kernel
theorem dX1_guessPart_139 : decode cX1_guessPart 139 = .ok (.lload_n 3, 1) := by decide +kernel
theorem dX1_guessPart_140 : decode cX1_guessPart 140 = .ok (.ladd, 1) := by decide +kernel
theorem dX1_guessPart_141 : decode cX1_guessPart 141 = .ok (.lstore 9, 2) := by decide +kernel
theorem dX1_guessPart_143 : decode cX1_guessPart 143 = .ok (.iinc 11 1, 3) := by decide +kernel
theorem dX1_guessPart_146 : decode cX1_guessPart 146 = .ok (.goto (-77), 3) := by decide +kernel
theorem dX1_guessPart_149 : decode cX1_guessPart 149 = .ok (.lload 7, 2) := by decide +kernel
theorem dX1_guessPart_151 : decode cX1_guessPart 151 = .ok (.lreturn, 1) := by decide +kernel
theorem dX1_takeAway_0 : decode cX1_takeAway 0 = .ok (.lconst 0, 1) := by decide +kernel
theorem dX1_takeAway_1 : decode cX1_takeAway 1 = .ok (.lstore 4, 2) := by decide +kernel
theorem dX1_takeAway_3 : decode cX1_takeAway 3 = .ok (.iconst 0, 1) := by decide +kernel
theorem dX1_takeAway_4 : decode cX1_takeAway 4 = .ok (.istore 6, 2) := by decide +kernel
theorem dX1_takeAway_6 : decode cX1_takeAway 6 = .ok (.iload 6, 2) := by decide +kernel
theorem dX1_takeAway_8 : decode cX1_takeAway 8 = .ok (.aload_n 0, 1) := by decide +kernel
theorem dX1_takeAway_9 : decode cX1_takeAway 9 = .ok (.getfield 25, 3) := by decide +kernel
theorem dX1_takeAway_12 : decode cX1_takeAway 12 = .ok (.if_icmp .gt 87, 3) := by decide +kernel
theorem dX1_takeAway_15 : decode cX1_takeAway 15 = .ok (.aload_n 0, 1) := by decide +kernel
theorem dX1_takeAway_16 : decode cX1_takeAway 16 = .ok (.getfield 9, 3) := by decide +kernel
theorem dX1_takeAway_19 : decode cX1_takeAway 19 = .ok (.iload_n 1, 1) := by decide +kernel
theorem dX1_takeAway_20 : decode cX1_takeAway 20 = .ok (.iload 6, 2) := by decide +kernel
theorem dX1_takeAway_22 : decode cX1_takeAway 22 = .ok (.iadd, 1) := by decide +kernel
theorem dX1_takeAway_23 : decode cX1_takeAway 23 = .ok (.iaload, 1) := by decide +kernel
theorem dX1_takeAway_24 : decode cX1_takeAway 24 = .ok (.i2l, 1) := by decide +kernel
theorem dX1_takeAway_25 : decode cX1_takeAway 25 = .ok (.lload 4, 2) := by decide +kernel
theorem dX1_takeAway_27 : decode cX1_takeAway 27 = .ok (.ladd, 1) := by decide +kernel
theorem dX1_takeAway_28 : decode cX1_takeAway 28 = .ok (.lload_n 2, 1) := by decide +kernel
theorem dX1_takeAway_29 : decode cX1_takeAway 29 = .ok (.aload_n 0, 1) := by decide +kernel
theorem dX1_takeAway_30 : decode cX1_takeAway 30 = .ok (.getfield 15, 3) := by decide +kernel
theorem dX1_takeAway_33 : decode cX1_takeAway 33 = .ok (.iload 6, 2) := by decide +kernel
theorem dX1_takeAway_35 : decode cX1_takeAway 35 = .ok (.iaload, 1) := by decide +kernel
theorem dX1_takeAway_36 : decode cX1_takeAway 36 = .ok (.i2l, 1) := by decide +kernel
theorem dX1_takeAway_37 : decode cX1_takeAway 37 = .ok (.lmul, 1) := by decide +kernel
theorem dX1_takeAway_38 : decode cX1_takeAway 38 = .ok (.lsub, 1) := by decide +kernel
theorem dX1_takeAway_39 : decode cX1_takeAway 39 = .ok (.lstore 7, 2) := by decide +kernel
theorem dX1_takeAway_41 : decode cX1_takeAway 41 = .ok (.lload 7, 2) := by decide +kernel
theorem dX1_takeAway_43 : decode cX1_takeAway 43 = .ok (.ldc2_w 39, 3) := by decide +kernel
theorem dX1_takeAway_46 : decode cX1_takeAway 46 = .ok (.ldiv, 1) := by decide +kernel
theorem dX1_takeAway_47 : decode cX1_takeAway 47 = .ok (.lstore 4, 2) := by decide +kernel
theorem dX1_takeAway_49 : decode cX1_takeAway 49 = .ok (.lload 7, 2) := by decide +kernel
theorem dX1_takeAway_51 : decode cX1_takeAway 51 = .ok (.lload 4, 2) := by decide +kernel
theorem dX1_takeAway_53 : decode cX1_takeAway 53 = .ok (.ldc2_w 39, 3) := by decide +kernel
theorem dX1_takeAway_56 : decode cX1_takeAway 56 = .ok (.lmul, 1) := by decide +kernel
theorem dX1_takeAway_57 : decode cX1_takeAway 57 = .ok (.lsub, 1) := by decide +kernel
theorem dX1_takeAway_58 : decode cX1_takeAway 58 = .ok (.lstore 9, 2) := by decide +kernel
theorem dX1_takeAway_60 : decode cX1_takeAway 60 = .ok (.lload 9, 2) := by decide +kernel
theorem dX1_takeAway_62 : decode cX1_takeAway 62 = .ok (.lconst 0, 1) := by decide +kernel
theorem dX1_takeAway_63 : decode cX1_takeAway 63 = .ok (.lcmp, 1) := by decide +kernel
theorem dX1_takeAway_64 : decode cX1_takeAway 64 = .ok (.ifCond .ge 17, 3) := by decide +kernel
theorem dX1_takeAway_67 : decode cX1_takeAway 67 = .ok (.lload 9, 2) := by decide +kernel
theorem dX1_takeAway_69 : decode cX1_takeAway 69 = .ok (.ldc2_w 39, 3) := by decide +kernel
theorem dX1_takeAway_72 : decode cX1_takeAway 72 = .ok (.ladd, 1) := by decide +kernel
theorem dX1_takeAway_73 : decode cX1_takeAway 73 = .ok (.lstore 9, 2) := by decide +kernel
theorem dX1_takeAway_75 : decode cX1_takeAway 75 = .ok (.lload 4, 2) := by decide +kernel
theorem dX1_takeAway_77 : decode cX1_takeAway 77 = .ok (.lconst 1, 1) := by decide +kernel
theorem dX1_takeAway_78 : decode cX1_takeAway 78 = .ok (.lsub, 1) := by decide +kernel
theorem dX1_takeAway_79 : decode cX1_takeAway 79 = .ok (.lstore 4, 2) := by decide +kernel
theorem dX1_takeAway_81 : decode cX1_takeAway 81 = .ok (.aload_n 0, 1) := by decide +kernel
theorem dX1_takeAway_82 : decode cX1_takeAway 82 = .ok (.getfield 9, 3) := by decide +kernel
theorem dX1_takeAway_85 : decode cX1_takeAway 85 = .ok (.iload_n 1, 1) := by decide +kernel
theorem dX1_takeAway_86 : decode cX1_takeAway 86 = .ok (.iload 6, 2) := by decide +kernel
theorem dX1_takeAway_88 : decode cX1_takeAway 88 = .ok (.iadd, 1) := by decide +kernel
theorem dX1_takeAway_89 : decode cX1_takeAway 89 = .ok (.lload 9, 2) := by decide +kernel
theorem dX1_takeAway_91 : decode cX1_takeAway 91 = .ok (.l2i, 1) := by decide +kernel
theorem dX1_takeAway_92 : decode cX1_takeAway 92 = .ok (.iastore, 1) := by decide +kernel
theorem dX1_takeAway_93 : decode cX1_takeAway 93 = .ok (.iinc 6 1, 3) := by decide +kernel
theorem dX1_takeAway_96 : decode cX1_takeAway 96 = .ok (.goto (-90), 3) := by decide +kernel
theorem dX1_takeAway_99 : decode cX1_takeAway 99 = .ok (.lload 4, 2) := by decide +kernel
theorem dX1_takeAway_101 : decode cX1_takeAway 101 = .ok (.lconst 0, 1) := by decide +kernel
theorem dX1_takeAway_102 : decode cX1_takeAway 102 = .ok (.lcmp, 1) := by decide +kernel
theorem dX1_takeAway_103 : decode cX1_takeAway 103 = .ok (.ifCond .ge 7, 3) := by decide +kernel
theorem dX1_takeAway_106 : decode cX1_takeAway 106 = .ok (.iconst 1, 1) := by decide +kernel
theorem dX1_takeAway_107 : decode cX1_takeAway 107 = .ok (.goto 4, 3) := by decide +kernel
theorem dX1_takeAway_110 : decode cX1_takeAway 110 = .ok (.iconst 0, 1) := by decide +kernel
theorem dX1_takeAway_111 : decode cX1_takeAway 111 = .ok (.ireturn, 1) := by decide +kernel
theorem dX1_giveBack_0 : decode cX1_giveBack 0 = .ok (.lconst 0, 1) := by decide +kernel
theorem dX1_giveBack_1 : decode cX1_giveBack 1 = .ok (.lstore_n 2, 1) := by decide +kernel
theorem dX1_giveBack_2 : decode cX1_giveBack 2 = .ok (.iconst 0, 1) := by decide +kernel
theorem dX1_giveBack_3 : decode cX1_giveBack 3 = .ok (.istore 4, 2) := by decide +kernel
theorem dX1_giveBack_5 : decode cX1_giveBack 5 = .ok (.iload 4, 2) := by decide +kernel
theorem dX1_giveBack_7 : decode cX1_giveBack 7 = .ok (.aload_n 0, 1) := by decide +kernel
theorem dX1_giveBack_8 : decode cX1_giveBack 8 = .ok (.getfield 25, 3) := by decide +kernel
theorem dX1_giveBack_11 : decode cX1_giveBack 11 = .ok (.if_icmp .gt 57, 3) := by decide +kernel
theorem dX1_giveBack_14 : decode cX1_giveBack 14 = .ok (.aload_n 0, 1) := by decide +kernel
theorem dX1_giveBack_15 : decode cX1_giveBack 15 = .ok (.getfield 9, 3) := by decide +kernel
theorem dX1_giveBack_18 : decode cX1_giveBack 18 = .ok (.iload_n 1, 1) := by decide +kernel
theorem dX1_giveBack_19 : decode cX1_giveBack 19 = .ok (.iload 4, 2) := by decide +kernel
theorem dX1_giveBack_21 : decode cX1_giveBack 21 = .ok (.iadd, 1) := by decide +kernel
theorem dX1_giveBack_22 : decode cX1_giveBack 22 = .ok (.iaload, 1) := by decide +kernel
theorem dX1_giveBack_23 : decode cX1_giveBack 23 = .ok (.i2l, 1) := by decide +kernel
theorem dX1_giveBack_24 : decode cX1_giveBack 24 = .ok (.lload_n 2, 1) := by decide +kernel
theorem dX1_giveBack_25 : decode cX1_giveBack 25 = .ok (.ladd, 1) := by decide +kernel
theorem dX1_giveBack_26 : decode cX1_giveBack 26 = .ok (.aload_n 0, 1) := by decide +kernel
theorem dX1_giveBack_27 : decode cX1_giveBack 27 = .ok (.getfield 15, 3) := by decide +kernel
theorem dX1_giveBack_30 : decode cX1_giveBack 30 = .ok (.iload 4, 2) := by decide +kernel
theorem dX1_giveBack_32 : decode cX1_giveBack 32 = .ok (.iaload, 1) := by decide +kernel
theorem dX1_giveBack_33 : decode cX1_giveBack 33 = .ok (.i2l, 1) := by decide +kernel
theorem dX1_giveBack_34 : decode cX1_giveBack 34 = .ok (.ladd, 1) := by decide +kernel
theorem dX1_giveBack_35 : decode cX1_giveBack 35 = .ok (.lstore 5, 2) := by decide +kernel
theorem dX1_giveBack_37 : decode cX1_giveBack 37 = .ok (.lload 5, 2) := by decide +kernel
theorem dX1_giveBack_39 : decode cX1_giveBack 39 = .ok (.ldc2_w 39, 3) := by decide +kernel
theorem dX1_giveBack_42 : decode cX1_giveBack 42 = .ok (.ldiv, 1) := by decide +kernel
theorem dX1_giveBack_43 : decode cX1_giveBack 43 = .ok (.lstore_n 2, 1) := by decide +kernel
theorem dX1_giveBack_44 : decode cX1_giveBack 44 = .ok (.aload_n 0, 1) := by decide +kernel
theorem dX1_giveBack_45 : decode cX1_giveBack 45 = .ok (.getfield 9, 3) := by decide +kernel
theorem dX1_giveBack_48 : decode cX1_giveBack 48 = .ok (.iload_n 1, 1) := by decide +kernel
theorem dX1_giveBack_49 : decode cX1_giveBack 49 = .ok (.iload 4, 2) := by decide +kernel
theorem dX1_giveBack_51 : decode cX1_giveBack 51 = .ok (.iadd, 1) := by decide +kernel
theorem dX1_giveBack_52 : decode cX1_giveBack 52 = .ok (.lload 5, 2) := by decide +kernel
theorem dX1_giveBack_54 : decode cX1_giveBack 54 = .ok (.lload_n 2, 1) := by decide +kernel
theorem dX1_giveBack_55 : decode cX1_giveBack 55 = .ok (.ldc2_w 39, 3) := by decide +kernel
theorem dX1_giveBack_58 : decode cX1_giveBack 58 = .ok (.lmul, 1) := by decide +kernel
theorem dX1_giveBack_59 : decode cX1_giveBack 59 = .ok (.lsub, 1) := by decide +kernel
theorem dX1_giveBack_60 : decode cX1_giveBack 60 = .ok (.l2i, 1) := by decide +kernel
theorem dX1_giveBack_61 : decode cX1_giveBack 61 = .ok (.iastore, 1) := by decide +kernel
theorem dX1_giveBack_62 : decode cX1_giveBack 62 = .ok (.iinc 4 1, 3) := by decide +kernel
theorem dX1_giveBack_65 : decode cX1_giveBack 65 = .ok (.goto (-60), 3) := by decide +kernel
theorem dX1_giveBack_68 : decode cX1_giveBack 68 = .ok (.return_, 1) := by decide +kernel
theorem dX2_init_0 : decode cX2_init 0 = .ok (.aload_n 0, 1) := by decide +kernel
theorem dX2_init_1 : decode cX2_init 1 = .ok (.invokespecial 3, 3) := by decide +kernel
theorem dX2_init_4 : decode cX2_init 4 = .ok (.aload_n 0, 1) := by decide +kernel
theorem dX2_init_5 : decode cX2_init 5 = .ok (.bipush 8, 2) := by decide +kernel
theorem dX2_init_7 : decode cX2_init 7 = .ok (.newarray .int, 2) := by decide +kernel
theorem dX2_init_9 : decode cX2_init 9 = .ok (.putfield 9, 3) := by decide +kernel
theorem dX2_init_12 : decode cX2_init 12 = .ok (.aload_n 0, 1) := by decide +kernel
theorem dX2_init_13 : decode cX2_init 13 = .ok (.bipush 64, 2) := by decide +kernel
theorem dX2_init_15 : decode cX2_init 15 = .ok (.newarray .int, 2) := by decide +kernel
theorem dX2_init_17 : decode cX2_init 17 = .ok (.putfield 15, 3) := by decide +kernel
theorem dX2_init_20 : decode cX2_init 20 = .ok (.aload_n 0, 1) := by decide +kernel
theorem dX2_init_21 : decode cX2_init 21 = .ok (.bipush 8, 2) := by decide +kernel
theorem dX2_init_23 : decode cX2_init 23 = .ok (.newarray .int, 2) := by decide +kernel
theorem dX2_init_25 : decode cX2_init 25 = .ok (.putfield 18, 3) := by decide +kernel
theorem dX2_init_28 : decode cX2_init 28 = .ok (.aload_n 0, 1) := by decide +kernel
theorem dX2_init_29 : decode cX2_init 29 = .ok (.bipush 8, 2) := by decide +kernel
theorem dX2_init_31 : decode cX2_init 31 = .ok (.newarray .int, 2) := by decide +kernel
theorem dX2_init_33 : decode cX2_init 33 = .ok (.putfield 21, 3) := by decide +kernel
theorem dX2_init_36 : decode cX2_init 36 = .ok (.return_, 1) := by decide +kernel
theorem dX2_unknowns_0 : decode cX2_unknowns 0 = .ok (.iconst 0, 1) := by decide +kernel
theorem dX2_unknowns_1 : decode cX2_unknowns 1 = .ok (.aload_n 0, 1) := by decide +kernel
theorem dX2_unknowns_2 : decode cX2_unknowns 2 = .ok (.getfield 24, 3) := by decide +kernel
theorem dX2_unknowns_5 : decode cX2_unknowns 5 = .ok (.iconst 1, 1) := by decide +kernel
theorem dX2_unknowns_6 : decode cX2_unknowns 6 = .ok (.isub, 1) := by decide +kernel
theorem dX2_unknowns_7 : decode cX2_unknowns 7 = .ok (.invokestatic 28, 3) := by decide +kernel
theorem dX2_unknowns_10 : decode cX2_unknowns 10 = .ok (.ireturn, 1) := by decide +kernel
theorem dX2_chooseAllBut_0 : decode cX2_chooseAllBut 0 = .ok (.aload_n 0, 1) := by decide +kernel
theorem dX2_chooseAllBut_1 : decode cX2_chooseAllBut 1 = .ok (.iconst 0, 1) := by decide +kernel
theorem dX2_chooseAllBut_2 : decode cX2_chooseAllBut 2 = .ok (.putfield 24, 3) := by decide +kernel
theorem dX2_chooseAllBut_5 : decode cX2_chooseAllBut 5 = .ok (.iconst 0, 1) := by decide +kernel
theorem dX2_chooseAllBut_6 : decode cX2_chooseAllBut 6 = .ok (.istore_n 3, 1) := by decide +kernel
theorem dX2_chooseAllBut_7 : decode cX2_chooseAllBut 7 = .ok (.iload_n 3, 1) := by decide +kernel
theorem dX2_chooseAllBut_8 : decode cX2_chooseAllBut 8 = .ok (.iload_n 2, 1) := by decide +kernel
theorem dX2_chooseAllBut_9 : decode cX2_chooseAllBut 9 = .ok (.if_icmp .ge 40, 3) := by decide +kernel
theorem dX2_chooseAllBut_12 : decode cX2_chooseAllBut 12 = .ok (.iload_n 3, 1) := by decide +kernel
theorem dX2_chooseAllBut_13 : decode cX2_chooseAllBut 13 = .ok (.bipush 8, 2) := by decide +kernel
theorem dX2_chooseAllBut_15 : decode cX2_chooseAllBut 15 = .ok (.if_icmp .ge 34, 3) := by decide +kernel
theorem dX2_chooseAllBut_18 : decode cX2_chooseAllBut 18 = .ok (.iload_n 3, 1) := by decide +kernel
theorem dX2_chooseAllBut_19 : decode cX2_chooseAllBut 19 = .ok (.iload_n 1, 1) := by decide +kernel
theorem dX2_chooseAllBut_20 : decode cX2_chooseAllBut 20 = .ok (.if_icmp .eq 23, 3) := by decide +kernel
theorem dX2_chooseAllBut_23 : decode cX2_chooseAllBut 23 = .ok (.aload_n 0, 1) := by decide +kernel
theorem dX2_chooseAllBut_24 : decode cX2_chooseAllBut 24 = .ok (.getfield 9, 3) := by decide +kernel
theorem dX2_chooseAllBut_27 : decode cX2_chooseAllBut 27 = .ok (.aload_n 0, 1) := by decide +kernel
theorem dX2_chooseAllBut_28 : decode cX2_chooseAllBut 28 = .ok (.getfield 24, 3) := by decide +kernel
theorem dX2_chooseAllBut_31 : decode cX2_chooseAllBut 31 = .ok (.iload_n 3, 1) := by decide +kernel
theorem dX2_chooseAllBut_32 : decode cX2_chooseAllBut 32 = .ok (.iastore, 1) := by decide +kernel
theorem dX2_chooseAllBut_33 : decode cX2_chooseAllBut 33 = .ok (.aload_n 0, 1) := by decide +kernel
theorem dX2_chooseAllBut_34 : decode cX2_chooseAllBut 34 = .ok (.dup, 1) := by decide +kernel
theorem dX2_chooseAllBut_35 : decode cX2_chooseAllBut 35 = .ok (.getfield 24, 3) := by decide +kernel
theorem dX2_chooseAllBut_38 : decode cX2_chooseAllBut 38 = .ok (.iconst 1, 1) := by decide +kernel
theorem dX2_chooseAllBut_39 : decode cX2_chooseAllBut 39 = .ok (.iadd, 1) := by decide +kernel
theorem dX2_chooseAllBut_40 : decode cX2_chooseAllBut 40 = .ok (.putfield 24, 3) := by decide +kernel
theorem dX2_chooseAllBut_43 : decode cX2_chooseAllBut 43 = .ok (.iinc 3 1, 3) := by decide +kernel
theorem dX2_chooseAllBut_46 : decode cX2_chooseAllBut 46 = .ok (.goto (-39), 3) := by decide +kernel
theorem dX2_chooseAllBut_49 : decode cX2_chooseAllBut 49 = .ok (.return_, 1) := by decide +kernel
theorem dX2_chooseNearest_0 : decode cX2_chooseNearest 0 = .ok (.iconst 0, 1) := by decide +kernel
theorem dX2_chooseNearest_1 : decode cX2_chooseNearest 1 = .ok (.istore 4, 2) := by decide +kernel
theorem dX2_chooseNearest_3 : decode cX2_chooseNearest 3 = .ok (.iload 4, 2) := by decide +kernel
theorem dX2_chooseNearest_5 : decode cX2_chooseNearest 5 = .ok (.aload_n 1, 1) := by decide +kernel
theorem dX2_chooseNearest_6 : decode cX2_chooseNearest 6 = .ok (.getfield 34, 3) := by decide +kernel
theorem dX2_chooseNearest_9 : decode cX2_chooseNearest 9 = .ok (.if_icmp .ge 72, 3) := by decide +kernel
theorem dX2_chooseNearest_12 : decode cX2_chooseNearest 12 = .ok (.iload 4, 2) := by decide +kernel
theorem dX2_chooseNearest_14 : decode cX2_chooseNearest 14 = .ok (.bipush 8, 2) := by decide +kernel
theorem dX2_chooseNearest_16 : decode cX2_chooseNearest 16 = .ok (.if_icmp .ge 65, 3) := by decide +kernel
theorem dX2_chooseNearest_19 : decode cX2_chooseNearest 19 = .ok (.aload_n 0, 1) := by decide +kernel
theorem dX2_chooseNearest_20 : decode cX2_chooseNearest 20 = .ok (.getfield 21, 3) := by decide +kernel
theorem dX2_chooseNearest_23 : decode cX2_chooseNearest 23 = .ok (.iload 4, 2) := by decide +kernel
theorem dX2_chooseNearest_25 : decode cX2_chooseNearest 25 = .ok (.iconst 0, 1) := by decide +kernel
theorem dX2_chooseNearest_26 : decode cX2_chooseNearest 26 = .ok (.iastore, 1) := by decide +kernel
theorem dX2_chooseNearest_27 : decode cX2_chooseNearest 27 = .ok (.iconst 0, 1) := by decide +kernel
theorem dX2_chooseNearest_28 : decode cX2_chooseNearest 28 = .ok (.istore 5, 2) := by decide +kernel
theorem dX2_chooseNearest_30 : decode cX2_chooseNearest 30 = .ok (.iload 5, 2) := by decide +kernel
theorem dX2_chooseNearest_32 : decode cX2_chooseNearest 32 = .ok (.aload_n 2, 1) := by decide +kernel
theorem dX2_chooseNearest_33 : decode cX2_chooseNearest 33 = .ok (.getfield 34, 3) := by decide +kernel
theorem dX2_chooseNearest_36 : decode cX2_chooseNearest 36 = .ok (.if_icmp .ge 39, 3) := by decide +kernel
theorem dX2_chooseNearest_39 : decode cX2_chooseNearest 39 = .ok (.aload_n 0, 1) := by decide +kernel
theorem dX2_chooseNearest_40 : decode cX2_chooseNearest 40 = .ok (.getfield 21, 3) := by decide +kernel
theorem dX2_chooseNearest_43 : decode cX2_chooseNearest 43 = .ok (.iload 4, 2) := by decide +kernel
theorem dX2_chooseNearest_45 : decode cX2_chooseNearest 45 = .ok (.dup2, 1) := by decide +kernel
theorem dX2_chooseNearest_46 : decode cX2_chooseNearest 46 = .ok (.iaload, 1) := by decide +kernel
theorem dX2_chooseNearest_47 : decode cX2_chooseNearest 47 = .ok (.aload_n 1, 1) := by decide +kernel
theorem dX2_chooseNearest_48 : decode cX2_chooseNearest 48 = .ok (.iload 4, 2) := by decide +kernel
theorem dX2_chooseNearest_50 : decode cX2_chooseNearest 50 = .ok (.aload_n 2, 1) := by decide +kernel
theorem dX2_chooseNearest_51 : decode cX2_chooseNearest 51 = .ok (.getfield 37, 3) := by decide +kernel
theorem dX2_chooseNearest_54 : decode cX2_chooseNearest 54 = .ok (.iload 5, 2) := by decide +kernel
theorem dX2_chooseNearest_56 : decode cX2_chooseNearest 56 = .ok (.iaload, 1) := by decide +kernel
theorem dX2_chooseNearest_57 : decode cX2_chooseNearest 57 = .ok (.aload_n 2, 1) := by decide +kernel
theorem dX2_chooseNearest_58 : decode cX2_chooseNearest 58 = .ok (.getfield 40, 3) := by decide +kernel
theorem dX2_chooseNearest_61 : decode cX2_chooseNearest 61 = .ok (.iload 5, 2) := by decide +kernel
theorem dX2_chooseNearest_63 : decode cX2_chooseNearest 63 = .ok (.iaload, 1) := by decide +kernel
theorem dX2_chooseNearest_64 : decode cX2_chooseNearest 64 = .ok (.invokevirtual 43, 3) := by decide +kernel
theorem dX2_chooseNearest_67 : decode cX2_chooseNearest 67 = .ok (.iadd, 1) := by decide +kernel
theorem dX2_chooseNearest_68 : decode cX2_chooseNearest 68 = .ok (.iastore, 1) := by decide +kernel
theorem dX2_chooseNearest_69 : decode cX2_chooseNearest 69 = .ok (.iinc 5 1, 3) := by decide +kernel
theorem dX2_chooseNearest_72 : decode cX2_chooseNearest 72 = .ok (.goto (-42), 3) := by decide +kernel
theorem dX2_chooseNearest_75 : decode cX2_chooseNearest 75 = .ok (.iinc 4 1, 3) := by decide +kernel
theorem dX2_chooseNearest_78 : decode cX2_chooseNearest 78 = .ok (.goto (-75), 3) := by decide +kernel
theorem dX2_chooseNearest_81 : decode cX2_chooseNearest 81 = .ok (.aload_n 0, 1) := by decide +kernel
theorem dX2_chooseNearest_82 : decode cX2_chooseNearest 82 = .ok (.iconst 0, 1) := by decide +kernel
theorem dX2_chooseNearest_83 : decode cX2_chooseNearest 83 = .ok (.putfield 24, 3) := by decide +kernel
theorem dX2_chooseNearest_86 : decode cX2_chooseNearest 86 = .ok (.iconst 0, 1) := by decide +kernel
theorem dX2_chooseNearest_87 : decode cX2_chooseNearest 87 = .ok (.istore 4, 2) := by decide +kernel
theorem dX2_chooseNearest_89 : decode cX2_chooseNearest 89 = .ok (.iload 4, 2) := by decide +kernel
theorem dX2_chooseNearest_91 : decode cX2_chooseNearest 91 = .ok (.aload_n 1, 1) := by decide +kernel
theorem dX2_chooseNearest_92 : decode cX2_chooseNearest 92 = .ok (.getfield 34, 3) := by decide +kernel
theorem dX2_chooseNearest_95 : decode cX2_chooseNearest 95 = .ok (.if_icmp .ge 51, 3) := by decide +kernel
theorem dX2_chooseNearest_98 : decode cX2_chooseNearest 98 = .ok (.iload 4, 2) := by decide +kernel
theorem dX2_chooseNearest_100 : decode cX2_chooseNearest 100 = .ok (.bipush 8, 2) := by decide +kernel
theorem dX2_chooseNearest_102 : decode cX2_chooseNearest 102 = .ok (.if_icmp .ge 44, 3) := by decide +kernel
theorem dX2_chooseNearest_105 : decode cX2_chooseNearest 105 = .ok (.aload_n 0, 1) := by decide +kernel
theorem dX2_chooseNearest_106 : decode cX2_chooseNearest 106 = .ok (.iload 4, 2) := by decide +kernel
theorem dX2_chooseNearest_108 : decode cX2_chooseNearest 108 = .ok (.aload_n 1, 1) := by decide +kernel
theorem dX2_chooseNearest_109 : decode cX2_chooseNearest 109 = .ok (.getfield 34, 3) := by decide +kernel
theorem dX2_chooseNearest_112 : decode cX2_chooseNearest 112 = .ok (.invokevirtual 47, 3) := by decide +kernel
theorem dX2_chooseNearest_115 : decode cX2_chooseNearest 115 = .ok (.iload_n 3, 1) := by decide +kernel
theorem dX2_chooseNearest_116 : decode cX2_chooseNearest 116 = .ok (.if_icmp .ge 24, 3) := by decide +kernel
theorem dX2_chooseNearest_119 : decode cX2_chooseNearest 119 = .ok (.aload_n 0, 1) := by decide +kernel
theorem dX2_chooseNearest_120 : decode cX2_chooseNearest 120 = .ok (.getfield 9, 3) := by decide +kernel
theorem dX2_chooseNearest_123 : decode cX2_chooseNearest 123 = .ok (.aload_n 0, 1) := by decide +kernel
theorem dX2_chooseNearest_124 : decode cX2_chooseNearest 124 = .ok (.getfield 24, 3) := by decide +kernel
theorem dX2_chooseNearest_127 : decode cX2_chooseNearest 127 = .ok (.iload 4, 2) := by decide +kernel
theorem dX2_chooseNearest_129 : decode cX2_chooseNearest 129 = .ok (.iastore, 1) := by decide +kernel
theorem dX2_chooseNearest_130 : decode cX2_chooseNearest 130 = .ok (.aload_n 0, 1) := by decide +kernel
theorem dX2_chooseNearest_131 : decode cX2_chooseNearest 131 = .ok (.dup, 1) := by decide +kernel
theorem dX2_chooseNearest_132 : decode cX2_chooseNearest 132 = .ok (.getfield 24, 3) := by decide +kernel
theorem dX2_chooseNearest_135 : decode cX2_chooseNearest 135 = .ok (.iconst 1, 1) := by decide +kernel
theorem dX2_chooseNearest_136 : decode cX2_chooseNearest 136 = .ok (.iadd, 1) := by decide +kernel
theorem dX2_chooseNearest_137 : decode cX2_chooseNearest 137 = .ok (.putfield 24, 3) := by decide +kernel
theorem dX2_chooseNearest_140 : decode cX2_chooseNearest 140 = .ok (.iinc 4 1, 3) := by decide +kernel
theorem dX2_chooseNearest_143 : decode cX2_chooseNearest 143 = .ok (.goto (-54), 3) := by decide +kernel
theorem dX2_chooseNearest_146 : decode cX2_chooseNearest 146 = .ok (.return_, 1) := by decide +kernel
theorem dX2_countNearer_0 : decode cX2_countNearer 0 = .ok (.iconst 0, 1) := by decide +kernel
theorem dX2_countNearer_1 : decode cX2_countNearer 1 = .ok (.istore_n 3, 1) := by decide +kernel
theorem dX2_countNearer_2 : decode cX2_countNearer 2 = .ok (.iconst 0, 1) := by decide +kernel
theorem dX2_countNearer_3 : decode cX2_countNearer 3 = .ok (.istore 4, 2) := by decide +kernel
theorem dX2_countNearer_5 : decode cX2_countNearer 5 = .ok (.iload 4, 2) := by decide +kernel
theorem dX2_countNearer_7 : decode cX2_countNearer 7 = .ok (.iload_n 2, 1) := by decide +kernel
theorem dX2_countNearer_8 : decode cX2_countNearer 8 = .ok (.if_icmp .ge 57, 3) := by decide +kernel
theorem dX2_countNearer_11 : decode cX2_countNearer 11 = .ok (.iload 4, 2) := by decide +kernel
theorem dX2_countNearer_13 : decode cX2_countNearer 13 = .ok (.bipush 8, 2) := by decide +kernel
theorem dX2_countNearer_15 : decode cX2_countNearer 15 = .ok (.if_icmp .ge 50, 3) := by decide +kernel
theorem dX2_countNearer_18 : decode cX2_countNearer 18 = .ok (.aload_n 0, 1) := by decide +kernel
theorem dX2_countNearer_19 : decode cX2_countNearer 19 = .ok (.getfield 21, 3) := by decide +kernel
theorem dX2_countNearer_22 : decode cX2_countNearer 22 = .ok (.iload 4, 2) := by decide +kernel
theorem dX2_countNearer_24 : decode cX2_countNearer 24 = .ok (.iaload, 1) := by decide +kernel
theorem dX2_countNearer_25 : decode cX2_countNearer 25 = .ok (.aload_n 0, 1) := by decide +kernel
theorem dX2_countNearer_26 : decode cX2_countNearer 26 = .ok (.getfield 21, 3) := by decide +kernel
theorem dX2_countNearer_29 : decode cX2_countNearer 29 = .ok (.iload_n 1, 1) := by decide +kernel
theorem dX2_countNearer_30 : decode cX2_countNearer 30 = .ok (.iaload, 1) := by decide +kernel
theorem dX2_countNearer_31 : decode cX2_countNearer 31 = .ok (.if_icmp .lt 25, 3) := by decide +kernel
theorem dX2_countNearer_34 : decode cX2_countNearer 34 = .ok (.aload_n 0, 1) := by decide +kernel
theorem dX2_countNearer_35 : decode cX2_countNearer 35 = .ok (.getfield 21, 3) := by decide +kernel
theorem dX2_countNearer_38 : decode cX2_countNearer 38 = .ok (.iload 4, 2) := by decide +kernel
theorem dX2_countNearer_40 : decode cX2_countNearer 40 = .ok (.iaload, 1) := by decide +kernel
theorem dX2_countNearer_41 : decode cX2_countNearer 41 = .ok (.aload_n 0, 1) := by decide +kernel
theorem dX2_countNearer_42 : decode cX2_countNearer 42 = .ok (.getfield 21, 3) := by decide +kernel
theorem dX2_countNearer_45 : decode cX2_countNearer 45 = .ok (.iload_n 1, 1) := by decide +kernel
theorem dX2_countNearer_46 : decode cX2_countNearer 46 = .ok (.iaload, 1) := by decide +kernel
theorem dX2_countNearer_47 : decode cX2_countNearer 47 = .ok (.if_icmp .ne 12, 3) := by decide +kernel
theorem dX2_countNearer_50 : decode cX2_countNearer 50 = .ok (.iload 4, 2) := by decide +kernel
theorem dX2_countNearer_52 : decode cX2_countNearer 52 = .ok (.iload_n 1, 1) := by decide +kernel
theorem dX2_countNearer_53 : decode cX2_countNearer 53 = .ok (.if_icmp .ge 6, 3) := by decide +kernel
theorem dX2_countNearer_56 : decode cX2_countNearer 56 = .ok (.iinc 3 1, 3) := by decide +kernel
theorem dX2_countNearer_59 : decode cX2_countNearer 59 = .ok (.iinc 4 1, 3) := by decide +kernel
theorem dX2_countNearer_62 : decode cX2_countNearer 62 = .ok (.goto (-57), 3) := by decide +kernel
theorem dX2_countNearer_65 : decode cX2_countNearer 65 = .ok (.iload_n 3, 1) := by decide +kernel
theorem dX2_countNearer_66 : decode cX2_countNearer 66 = .ok (.ireturn, 1) := by decide +kernel
theorem dX2_prepare_0 : decode cX2_prepare 0 = .ok (.aload_n 0, 1) := by decide +kernel
theorem dX2_prepare_1 : decode cX2_prepare 1 = .ok (.aload_n 1, 1) := by decide +kernel
theorem dX2_prepare_2 : decode cX2_prepare 2 = .ok (.aload_n 3, 1) := by decide +kernel
theorem dX2_prepare_3 : decode cX2_prepare 3 = .ok (.iload 4, 2) := by decide +kernel
theorem dX2_prepare_5 : decode cX2_prepare 5 = .ok (.iconst 1, 1) := by decide +kernel
theorem dX2_prepare_6 : decode cX2_prepare 6 = .ok (.invokevirtual 50, 3) := by decide +kernel
theorem dX2_prepare_9 : decode cX2_prepare 9 = .ok (.aload_n 0, 1) := by decide +kernel
theorem dX2_prepare_10 : decode cX2_prepare 10 = .ok (.aload_n 1, 1) := by decide +kernel
theorem dX2_prepare_11 : decode cX2_prepare 11 = .ok (.getfield 54, 3) := by decide +kernel
theorem dX2_prepare_14 : decode cX2_prepare 14 = .ok (.aload_n 2, 1) := by decide +kernel
theorem dX2_prepare_15 : decode cX2_prepare 15 = .ok (.aload_n 3, 1) := by decide +kernel
theorem dX2_prepare_16 : decode cX2_prepare 16 = .ok (.iload 4, 2) := by decide +kernel
theorem dX2_prepare_18 : decode cX2_prepare 18 = .ok (.invokevirtual 60, 3) := by decide +kernel
theorem dX2_prepare_21 : decode cX2_prepare 21 = .ok (.aload_n 0, 1) := by decide +kernel
theorem dX2_prepare_22 : decode cX2_prepare 22 = .ok (.aload 5, 2) := by decide +kernel
theorem dX2_prepare_24 : decode cX2_prepare 24 = .ok (.invokevirtual 64, 3) := by decide +kernel
theorem dX2_prepare_27 : decode cX2_prepare 27 = .ok (.aload_n 0, 1) := by decide +kernel
theorem dX2_prepare_28 : decode cX2_prepare 28 = .ok (.aload 5, 2) := by decide +kernel
theorem dX2_prepare_30 : decode cX2_prepare 30 = .ok (.invokevirtual 68, 3) := by decide +kernel
theorem dX2_prepare_33 : decode cX2_prepare 33 = .ok (.return_, 1) := by decide +kernel
theorem dX2_measure_0 : decode cX2_measure 0 = .ok (.iconst 0, 1) := by decide +kernel
theorem dX2_measure_1 : decode cX2_measure 1 = .ok (.istore 5, 2) := by decide +kernel
theorem dX2_measure_3 : decode cX2_measure 3 = .ok (.iload 5, 2) := by decide +kernel
theorem dX2_measure_5 : decode cX2_measure 5 = .ok (.aload_n 0, 1) := by decide +kernel
theorem dX2_measure_6 : decode cX2_measure 6 = .ok (.getfield 24, 3) := by decide +kernel
theorem dX2_measure_9 : decode cX2_measure 9 = .ok (.if_icmp .ge 101, 3) := by decide +kernel
theorem dX2_measure_12 : decode cX2_measure 12 = .ok (.iconst 0, 1) := by decide +kernel
theorem dX2_measure_13 : decode cX2_measure 13 = .ok (.istore 6, 2) := by decide +kernel
theorem dX2_measure_15 : decode cX2_measure 15 = .ok (.iload 6, 2) := by decide +kernel
theorem dX2_measure_17 : decode cX2_measure 17 = .ok (.aload_n 0, 1) := by decide +kernel
theorem dX2_measure_18 : decode cX2_measure 18 = .ok (.getfield 24, 3) := by decide +kernel
theorem dX2_measure_21 : decode cX2_measure 21 = .ok (.if_icmp .ge 52, 3) := by decide +kernel
theorem dX2_measure_24 : decode cX2_measure 24 = .ok (.aload_n 1, 1) := by decide +kernel
theorem dX2_measure_25 : decode cX2_measure 25 = .ok (.getfield 54, 3) := by decide +kernel
theorem dX2_measure_28 : decode cX2_measure 28 = .ok (.aload_n 0, 1) := by decide +kernel
theorem dX2_measure_29 : decode cX2_measure 29 = .ok (.getfield 9, 3) := by decide +kernel
theorem dX2_measure_32 : decode cX2_measure 32 = .ok (.iload 5, 2) := by decide +kernel
theorem dX2_measure_34 : decode cX2_measure 34 = .ok (.iaload, 1) := by decide +kernel
theorem dX2_measure_35 : decode cX2_measure 35 = .ok (.aload_n 0, 1) := by decide +kernel
theorem dX2_measure_36 : decode cX2_measure 36 = .ok (.getfield 9, 3) := by decide +kernel
theorem dX2_measure_39 : decode cX2_measure 39 = .ok (.iload 6, 2) := by decide +kernel
theorem dX2_measure_41 : decode cX2_measure 41 = .ok (.iaload, 1) := by decide +kernel
theorem dX2_measure_42 : decode cX2_measure 42 = .ok (.invokevirtual 71, 3) := by decide +kernel
theorem dX2_measure_45 : decode cX2_measure 45 = .ok (.istore 7, 2) := by decide +kernel
theorem dX2_measure_47 : decode cX2_measure 47 = .ok (.aload_n 0, 1) := by decide +kernel
theorem dX2_measure_48 : decode cX2_measure 48 = .ok (.getfield 15, 3) := by decide +kernel
theorem dX2_measure_51 : decode cX2_measure 51 = .ok (.iload 5, 2) := by decide +kernel
theorem dX2_measure_53 : decode cX2_measure 53 = .ok (.bipush 8, 2) := by decide +kernel
theorem dX2_measure_55 : decode cX2_measure 55 = .ok (.imul, 1) := by decide +kernel
theorem dX2_measure_56 : decode cX2_measure 56 = .ok (.iload 6, 2) := by decide +kernel
theorem dX2_measure_58 : decode cX2_measure 58 = .ok (.iadd, 1) := by decide +kernel
theorem dX2_measure_59 : decode cX2_measure 59 = .ok (.aload_n 2, 1) := by decide +kernel
theorem dX2_measure_60 : decode cX2_measure 60 = .ok (.iload_n 3, 1) := by decide +kernel
theorem dX2_measure_61 : decode cX2_measure 61 = .ok (.iload 7, 2) := by decide +kernel
theorem dX2_measure_63 : decode cX2_measure 63 = .ok (.invokevirtual 74, 3) := by decide +kernel
theorem dX2_measure_66 : decode cX2_measure 66 = .ok (.iastore, 1) := by decide +kernel
theorem dX2_measure_67 : decode cX2_measure 67 = .ok (.iinc 6 1, 3) := by decide +kernel
theorem dX2_measure_70 : decode cX2_measure 70 = .ok (.goto (-55), 3) := by decide +kernel
theorem dX2_measure_73 : decode cX2_measure 73 = .ok (.iload 4, 2) := by decide +kernel
theorem dX2_measure_75 : decode cX2_measure 75 = .ok (.ifCond .eq 29, 3) := by decide +kernel
theorem dX2_measure_78 : decode cX2_measure 78 = .ok (.aload_n 0, 1) := by decide +kernel
theorem dX2_measure_79 : decode cX2_measure 79 = .ok (.getfield 15, 3) := by decide +kernel
theorem dX2_measure_82 : decode cX2_measure 82 = .ok (.iload 5, 2) := by decide +kernel
theorem dX2_measure_84 : decode cX2_measure 84 = .ok (.bipush 8, 2) := by decide +kernel
theorem dX2_measure_86 : decode cX2_measure 86 = .ok (.imul, 1) := by decide +kernel
theorem dX2_measure_87 : decode cX2_measure 87 = .ok (.iload 5, 2) := by decide +kernel
theorem dX2_measure_89 : decode cX2_measure 89 = .ok (.iadd, 1) := by decide +kernel
theorem dX2_measure_90 : decode cX2_measure 90 = .ok (.aload_n 1, 1) := by decide +kernel
theorem dX2_measure_91 : decode cX2_measure 91 = .ok (.getfield 79, 3) := by decide +kernel
theorem dX2_measure_94 : decode cX2_measure 94 = .ok (.aload_n 0, 1) := by decide +kernel
theorem dX2_measure_95 : decode cX2_measure 95 = .ok (.getfield 9, 3) := by decide +kernel
theorem dX2_measure_98 : decode cX2_measure 98 = .ok (.iload 5, 2) := by decide +kernel
theorem dX2_measure_100 : decode cX2_measure 100 = .ok (.iaload, 1) := by decide +kernel
theorem dX2_measure_101 : decode cX2_measure 101 = .ok (.iaload, 1) := by decide +kernel
theorem dX2_measure_102 : decode cX2_measure 102 = .ok (.ineg, 1) := by decide +kernel
theorem dX2_measure_103 : decode cX2_measure 103 = .ok (.iastore, 1) := by decide +kernel
theorem dX2_measure_104 : decode cX2_measure 104 = .ok (.iinc 5 1, 3) := by decide +kernel
theorem dX2_measure_107 : decode cX2_measure 107 = .ok (.goto (-104), 3) := by decide +kernel
theorem dX2_measure_110 : decode cX2_measure 110 = .ok (.return_, 1) := by decide +kernel
theorem dX2_reachOut_0 : decode cX2_reachOut 0 = .ok (.aload_n 0, 1) := by decide +kernel
theorem dX2_reachOut_1 : decode cX2_reachOut 1 = .ok (.aload_n 2, 1) := by decide +kernel
theorem dX2_reachOut_2 : decode cX2_reachOut 2 = .ok (.getfield 34, 3) := by decide +kernel
theorem dX2_reachOut_5 : decode cX2_reachOut 5 = .ok (.putfield 82, 3) := by decide +kernel
theorem dX2_reachOut_8 : decode cX2_reachOut 8 = .ok (.iconst 0, 1) := by decide +kernel
theorem dX2_reachOut_9 : decode cX2_reachOut 9 = .ok (.istore 5, 2) := by decide +kernel
theorem dX2_reachOut_11 : decode cX2_reachOut 11 = .ok (.iload 5, 2) := by decide +kernel
theorem dX2_reachOut_13 : decode cX2_reachOut 13 = .ok (.aload_n 0, 1) := by decide +kernel
theorem dX2_reachOut_14 : decode cX2_reachOut 14 = .ok (.getfield 24, 3) := by decide +kernel
theorem dX2_reachOut_17 : decode cX2_reachOut 17 = .ok (.if_icmp .ge 80, 3) := by decide +kernel
theorem dX2_reachOut_20 : decode cX2_reachOut 20 = .ok (.aload_n 0, 1) := by decide +kernel
theorem dX2_reachOut_21 : decode cX2_reachOut 21 = .ok (.getfield 18, 3) := by decide +kernel
theorem dX2_reachOut_24 : decode cX2_reachOut 24 = .ok (.iload 5, 2) := by decide +kernel
theorem dX2_reachOut_26 : decode cX2_reachOut 26 = .ok (.iconst 0, 1) := by decide +kernel
theorem dX2_reachOut_27 : decode cX2_reachOut 27 = .ok (.iastore, 1) := by decide +kernel
theorem dX2_reachOut_28 : decode cX2_reachOut 28 = .ok (.iconst 0, 1) := by decide +kernel
theorem dX2_reachOut_29 : decode cX2_reachOut 29 = .ok (.istore 6, 2) := by decide +kernel
theorem dX2_reachOut_31 : decode cX2_reachOut 31 = .ok (.iload 6, 2) := by decide +kernel
theorem dX2_reachOut_33 : decode cX2_reachOut 33 = .ok (.aload_n 2, 1) := by decide +kernel
theorem dX2_reachOut_34 : decode cX2_reachOut 34 = .ok (.getfield 34, 3) := by decide +kernel
theorem dX2_reachOut_37 : decode cX2_reachOut 37 = .ok (.if_icmp .ge 54, 3) := by decide +kernel
theorem dX2_reachOut_40 : decode cX2_reachOut 40 = .ok (.aload_n 1, 1) := by decide +kernel
theorem dX2_reachOut_41 : decode cX2_reachOut 41 = .ok (.aload_n 0, 1) := by decide +kernel
theorem dX2_reachOut_42 : decode cX2_reachOut 42 = .ok (.getfield 9, 3) := by decide +kernel
theorem dX2_reachOut_45 : decode cX2_reachOut 45 = .ok (.iload 5, 2) := by decide +kernel
theorem dX2_reachOut_47 : decode cX2_reachOut 47 = .ok (.iaload, 1) := by decide +kernel
theorem dX2_reachOut_48 : decode cX2_reachOut 48 = .ok (.aload_n 2, 1) := by decide +kernel
theorem dX2_reachOut_49 : decode cX2_reachOut 49 = .ok (.getfield 37, 3) := by decide +kernel
theorem dX2_reachOut_52 : decode cX2_reachOut 52 = .ok (.iload 6, 2) := by decide +kernel
theorem dX2_reachOut_54 : decode cX2_reachOut 54 = .ok (.iaload, 1) := by decide +kernel
theorem dX2_reachOut_55 : decode cX2_reachOut 55 = .ok (.aload_n 2, 1) := by decide +kernel
theorem dX2_reachOut_56 : decode cX2_reachOut 56 = .ok (.getfield 40, 3) := by decide +kernel
theorem dX2_reachOut_59 : decode cX2_reachOut 59 = .ok (.iload 6, 2) := by decide +kernel
theorem dX2_reachOut_61 : decode cX2_reachOut 61 = .ok (.iaload, 1) := by decide +kernel
theorem dX2_reachOut_62 : decode cX2_reachOut 62 = .ok (.invokevirtual 43, 3) := by decide +kernel
theorem dX2_reachOut_65 : decode cX2_reachOut 65 = .ok (.istore 7, 2) := by decide +kernel
theorem dX2_reachOut_67 : decode cX2_reachOut 67 = .ok (.aload_n 0, 1) := by decide +kernel
theorem dX2_reachOut_68 : decode cX2_reachOut 68 = .ok (.getfield 18, 3) := by decide +kernel
theorem dX2_reachOut_71 : decode cX2_reachOut 71 = .ok (.iload 5, 2) := by decide +kernel
theorem dX2_reachOut_73 : decode cX2_reachOut 73 = .ok (.dup2, 1) := by decide +kernel
theorem dX2_reachOut_74 : decode cX2_reachOut 74 = .ok (.iaload, 1) := by decide +kernel
theorem dX2_reachOut_75 : decode cX2_reachOut 75 = .ok (.aload_n 3, 1) := by decide +kernel
theorem dX2_reachOut_76 : decode cX2_reachOut 76 = .ok (.iload 4, 2) := by decide +kernel
theorem dX2_reachOut_78 : decode cX2_reachOut 78 = .ok (.iload 7, 2) := by decide +kernel
theorem dX2_reachOut_80 : decode cX2_reachOut 80 = .ok (.invokevirtual 74, 3) := by decide +kernel
theorem dX2_reachOut_83 : decode cX2_reachOut 83 = .ok (.iadd, 1) := by decide +kernel
theorem dX2_reachOut_84 : decode cX2_reachOut 84 = .ok (.iastore, 1) := by decide +kernel
theorem dX2_reachOut_85 : decode cX2_reachOut 85 = .ok (.iinc 6 1, 3) := by decide +kernel
theorem dX2_reachOut_88 : decode cX2_reachOut 88 = .ok (.goto (-57), 3) := by decide +kernel
theorem dX2_reachOut_91 : decode cX2_reachOut 91 = .ok (.iinc 5 1, 3) := by decide +kernel
theorem dX2_reachOut_94 : decode cX2_reachOut 94 = .ok (.goto (-83), 3) := by decide +kernel
theorem dX2_reachOut_97 : decode cX2_reachOut 97 = .ok (.return_, 1) := by decide +kernel
theorem dX2_unlikeWithin_0 : decode cX2_unlikeWithin 0 = .ok (.iconst 0, 1) := by decide +kernel
theorem dX2_unlikeWithin_1 : decode cX2_unlikeWithin 1 = .ok (.istore 4, 2) := by decide +kernel
theorem dX2_unlikeWithin_3 : decode cX2_unlikeWithin 3 = .ok (.iconst 0, 1) := by decide +kernel
theorem dX2_unlikeWithin_4 : decode cX2_unlikeWithin 4 = .ok (.istore 5, 2) := by decide +kernel
theorem dX2_unlikeWithin_6 : decode cX2_unlikeWithin 6 = .ok (.iload 5, 2) := by decide +kernel
theorem dX2_unlikeWithin_8 : decode cX2_unlikeWithin 8 = .ok (.aload_n 1, 1) := by decide +kernel
theorem dX2_unlikeWithin_9 : decode cX2_unlikeWithin 9 = .ok (.getfield 34, 3) := by decide +kernel
theorem dX2_unlikeWithin_12 : decode cX2_unlikeWithin 12 = .ok (.if_icmp .ge 45, 3) := by decide +kernel
theorem dX2_unlikeWithin_15 : decode cX2_unlikeWithin 15 = .ok (.iconst 0, 1) := by decide +kernel
theorem dX2_unlikeWithin_16 : decode cX2_unlikeWithin 16 = .ok (.istore 6, 2) := by decide +kernel
theorem dX2_unlikeWithin_18 : decode cX2_unlikeWithin 18 = .ok (.iload 6, 2) := by decide +kernel
theorem dX2_unlikeWithin_20 : decode cX2_unlikeWithin 20 = .ok (.aload_n 1, 1) := by decide +kernel
theorem dX2_unlikeWithin_21 : decode cX2_unlikeWithin 21 = .ok (.getfield 34, 3) := by decide +kernel
theorem dX2_unlikeWithin_24 : decode cX2_unlikeWithin 24 = .ok (.if_icmp .ge 27, 3) := by decide +kernel
theorem dX2_unlikeWithin_27 : decode cX2_unlikeWithin 27 = .ok (.iload 4, 2) := by decide +kernel
theorem dX2_unlikeWithin_29 : decode cX2_unlikeWithin 29 = .ok (.aload_n 2, 1) := by decide +kernel
theorem dX2_unlikeWithin_30 : decode cX2_unlikeWithin 30 = .ok (.iload_n 3, 1) := by decide +kernel
theorem dX2_unlikeWithin_31 : decode cX2_unlikeWithin 31 = .ok (.aload_n 1, 1) := by decide +kernel
theorem dX2_unlikeWithin_32 : decode cX2_unlikeWithin 32 = .ok (.iload 5, 2) := by decide +kernel
theorem dX2_unlikeWithin_34 : decode cX2_unlikeWithin 34 = .ok (.iload 6, 2) := by decide +kernel
theorem dX2_unlikeWithin_36 : decode cX2_unlikeWithin 36 = .ok (.invokevirtual 71, 3) := by decide +kernel
theorem dX2_unlikeWithin_39 : decode cX2_unlikeWithin 39 = .ok (.invokevirtual 74, 3) := by decide +kernel
theorem dX2_unlikeWithin_42 : decode cX2_unlikeWithin 42 = .ok (.iadd, 1) := by decide +kernel
theorem dX2_unlikeWithin_43 : decode cX2_unlikeWithin 43 = .ok (.istore 4, 2) := by decide +kernel
theorem dX2_unlikeWithin_45 : decode cX2_unlikeWithin 45 = .ok (.iinc 6 1, 3) := by decide +kernel
theorem dX2_unlikeWithin_48 : decode cX2_unlikeWithin 48 = .ok (.goto (-30), 3) := by decide +kernel
theorem dX2_unlikeWithin_51 : decode cX2_unlikeWithin 51 = .ok (.iinc 5 1, 3) := by decide +kernel
theorem dX2_unlikeWithin_54 : decode cX2_unlikeWithin 54 = .ok (.goto (-48), 3) := by decide +kernel
theorem dX2_unlikeWithin_57 : decode cX2_unlikeWithin 57 = .ok (.iload 4, 2) := by decide +kernel
theorem dX2_unlikeWithin_59 : decode cX2_unlikeWithin 59 = .ok (.ireturn, 1) := by decide +kernel
theorem dX2_fillSquare_0 : decode cX2_fillSquare 0 = .ok (.iconst 1, 1) := by decide +kernel
theorem dX2_fillSquare_1 : decode cX2_fillSquare 1 = .ok (.istore_n 2, 1) := by decide +kernel
theorem dX2_fillSquare_2 : decode cX2_fillSquare 2 = .ok (.iload_n 2, 1) := by decide +kernel
theorem dX2_fillSquare_3 : decode cX2_fillSquare 3 = .ok (.aload_n 0, 1) := by decide +kernel
theorem dX2_fillSquare_4 : decode cX2_fillSquare 4 = .ok (.getfield 24, 3) := by decide +kernel
theorem dX2_fillSquare_7 : decode cX2_fillSquare 7 = .ok (.if_icmp .ge 75, 3) := by decide +kernel
theorem dX2_fillSquare_10 : decode cX2_fillSquare 10 = .ok (.iconst 1, 1) := by decide +kernel
theorem dX2_fillSquare_11 : decode cX2_fillSquare 11 = .ok (.istore_n 3, 1) := by decide +kernel
theorem dX2_fillSquare_12 : decode cX2_fillSquare 12 = .ok (.iload_n 3, 1) := by decide +kernel
theorem dX2_fillSquare_13 : decode cX2_fillSquare 13 = .ok (.aload_n 0, 1) := by decide +kernel
theorem dX2_fillSquare_14 : decode cX2_fillSquare 14 = .ok (.getfield 24, 3) := by decide +kernel
theorem dX2_fillSquare_17 : decode cX2_fillSquare 17 = .ok (.if_icmp .ge 59, 3) := by decide +kernel
theorem dX2_fillSquare_20 : decode cX2_fillSquare 20 = .ok (.aload_n 0, 1) := by decide +kernel
theorem dX2_fillSquare_21 : decode cX2_fillSquare 21 = .ok (.getfield 15, 3) := by decide +kernel
theorem dX2_fillSquare_24 : decode cX2_fillSquare 24 = .ok (.iload_n 2, 1) := by decide +kernel
theorem dX2_fillSquare_25 : decode cX2_fillSquare 25 = .ok (.bipush 8, 2) := by decide +kernel
theorem dX2_fillSquare_27 : decode cX2_fillSquare 27 = .ok (.imul, 1) := by decide +kernel
theorem dX2_fillSquare_28 : decode cX2_fillSquare 28 = .ok (.iaload, 1) := by decide +kernel
theorem dX2_fillSquare_29 : decode cX2_fillSquare 29 = .ok (.aload_n 0, 1) := by decide +kernel
theorem dX2_fillSquare_30 : decode cX2_fillSquare 30 = .ok (.getfield 15, 3) := by decide +kernel
theorem dX2_fillSquare_33 : decode cX2_fillSquare 33 = .ok (.iload_n 3, 1) := by decide +kernel
theorem dX2_fillSquare_34 : decode cX2_fillSquare 34 = .ok (.iaload, 1) := by decide +kernel
theorem dX2_fillSquare_35 : decode cX2_fillSquare 35 = .ok (.iadd, 1) := by decide +kernel
theorem dX2_fillSquare_36 : decode cX2_fillSquare 36 = .ok (.aload_n 0, 1) := by decide +kernel
theorem dX2_fillSquare_37 : decode cX2_fillSquare 37 = .ok (.getfield 15, 3) := by decide +kernel
theorem dX2_fillSquare_40 : decode cX2_fillSquare 40 = .ok (.iload_n 2, 1) := by decide +kernel
theorem dX2_fillSquare_41 : decode cX2_fillSquare 41 = .ok (.bipush 8, 2) := by decide +kernel
theorem dX2_fillSquare_43 : decode cX2_fillSquare 43 = .ok (.imul, 1) := by decide +kernel
theorem dX2_fillSquare_44 : decode cX2_fillSquare 44 = .ok (.iload_n 3, 1) := by decide +kernel
theorem dX2_fillSquare_45 : decode cX2_fillSquare 45 = .ok (.iadd, 1) := by decide +kernel
theorem dX2_fillSquare_46 : decode cX2_fillSquare 46 = .ok (.iaload, 1) := by decide +kernel
theorem dX2_fillSquare_47 : decode cX2_fillSquare 47 = .ok (.isub, 1) := by decide +kernel
theorem dX2_fillSquare_48 : decode cX2_fillSquare 48 = .ok (.aload_n 0, 1) := by decide +kernel
theorem dX2_fillSquare_49 : decode cX2_fillSquare 49 = .ok (.getfield 15, 3) := by decide +kernel
theorem dX2_fillSquare_52 : decode cX2_fillSquare 52 = .ok (.iconst 0, 1) := by decide +kernel
theorem dX2_fillSquare_53 : decode cX2_fillSquare 53 = .ok (.iaload, 1) := by decide +kernel
theorem dX2_fillSquare_54 : decode cX2_fillSquare 54 = .ok (.isub, 1) := by decide +kernel
theorem dX2_fillSquare_55 : decode cX2_fillSquare 55 = .ok (.istore 4, 2) := by decide +kernel
theorem dX2_fillSquare_57 : decode cX2_fillSquare 57 = .ok (.aload_n 1, 1) := by decide +kernel
theorem dX2_fillSquare_58 : decode cX2_fillSquare 58 = .ok (.iload_n 2, 1) := by decide +kernel
theorem dX2_fillSquare_59 : decode cX2_fillSquare 59 = .ok (.iconst 1, 1) := by decide +kernel
theorem dX2_fillSquare_60 : decode cX2_fillSquare 60 = .ok (.isub, 1) := by decide +kernel
theorem dX2_fillSquare_61 : decode cX2_fillSquare 61 = .ok (.iload_n 3, 1) := by decide +kernel
theorem dX2_fillSquare_62 : decode cX2_fillSquare 62 = .ok (.iconst 1, 1) := by decide +kernel
theorem dX2_fillSquare_63 : decode cX2_fillSquare 63 = .ok (.isub, 1) := by decide +kernel
theorem dX2_fillSquare_64 : decode cX2_fillSquare 64 = .ok (.iload 4, 2) := by decide +kernel
theorem dX2_fillSquare_66 : decode cX2_fillSquare 66 = .ok (.i2l, 1) := by decide +kernel
theorem dX2_fillSquare_67 : decode cX2_fillSquare 67 = .ok (.invokevirtual 85, 3) := by decide +kernel
theorem dX2_fillSquare_70 : decode cX2_fillSquare 70 = .ok (.iinc 3 1, 3) := by decide +kernel
theorem dX2_fillSquare_73 : decode cX2_fillSquare 73 = .ok (.goto (-61), 3) := by decide +kernel
theorem dX2_fillSquare_76 : decode cX2_fillSquare 76 = .ok (.iinc 2 1, 3) := by decide +kernel
theorem dX2_fillSquare_79 : decode cX2_fillSquare 79 = .ok (.goto (-77), 3) := by decide +kernel
theorem dX2_fillSquare_82 : decode cX2_fillSquare 82 = .ok (.return_, 1) := by decide +kernel
theorem dX2_fillRight_0 : decode cX2_fillRight 0 = .ok (.iconst 1, 1) := by decide +kernel
theorem dX2_fillRight_1 : decode cX2_fillRight 1 = .ok (.istore_n 2, 1) := by decide +kernel
theorem dX2_fillRight_2 : decode cX2_fillRight 2 = .ok (.iload_n 2, 1) := by decide +kernel
theorem dX2_fillRight_3 : decode cX2_fillRight 3 = .ok (.aload_n 0, 1) := by decide +kernel
theorem dX2_fillRight_4 : decode cX2_fillRight 4 = .ok (.getfield 24, 3) := by decide +kernel
theorem dX2_fillRight_7 : decode cX2_fillRight 7 = .ok (.if_icmp .ge 60, 3) := by decide +kernel
theorem dX2_fillRight_10 : decode cX2_fillRight 10 = .ok (.aload_n 0, 1) := by decide +kernel
theorem dX2_fillRight_11 : decode cX2_fillRight 11 = .ok (.getfield 18, 3) := by decide +kernel
theorem dX2_fillRight_14 : decode cX2_fillRight 14 = .ok (.iconst 0, 1) := by decide +kernel
theorem dX2_fillRight_15 : decode cX2_fillRight 15 = .ok (.iaload, 1) := by decide +kernel
theorem dX2_fillRight_16 : decode cX2_fillRight 16 = .ok (.aload_n 0, 1) := by decide +kernel
theorem dX2_fillRight_17 : decode cX2_fillRight 17 = .ok (.getfield 18, 3) := by decide +kernel
theorem dX2_fillRight_20 : decode cX2_fillRight 20 = .ok (.iload_n 2, 1) := by decide +kernel
theorem dX2_fillRight_21 : decode cX2_fillRight 21 = .ok (.iaload, 1) := by decide +kernel
theorem dX2_fillRight_22 : decode cX2_fillRight 22 = .ok (.isub, 1) := by decide +kernel
theorem dX2_fillRight_23 : decode cX2_fillRight 23 = .ok (.aload_n 0, 1) := by decide +kernel
theorem dX2_fillRight_24 : decode cX2_fillRight 24 = .ok (.getfield 82, 3) := by decide +kernel
theorem dX2_fillRight_27 : decode cX2_fillRight 27 = .ok (.aload_n 0, 1) := by decide +kernel
theorem dX2_fillRight_28 : decode cX2_fillRight 28 = .ok (.getfield 15, 3) := by decide +kernel
theorem dX2_fillRight_31 : decode cX2_fillRight 31 = .ok (.iload_n 2, 1) := by decide +kernel
theorem dX2_fillRight_32 : decode cX2_fillRight 32 = .ok (.bipush 8, 2) := by decide +kernel
theorem dX2_fillRight_34 : decode cX2_fillRight 34 = .ok (.imul, 1) := by decide +kernel
theorem dX2_fillRight_35 : decode cX2_fillRight 35 = .ok (.iaload, 1) := by decide +kernel
theorem dX2_fillRight_36 : decode cX2_fillRight 36 = .ok (.aload_n 0, 1) := by decide +kernel
theorem dX2_fillRight_37 : decode cX2_fillRight 37 = .ok (.getfield 15, 3) := by decide +kernel
theorem dX2_fillRight_40 : decode cX2_fillRight 40 = .ok (.iconst 0, 1) := by decide +kernel
theorem dX2_fillRight_41 : decode cX2_fillRight 41 = .ok (.iaload, 1) := by decide +kernel
theorem dX2_fillRight_42 : decode cX2_fillRight 42 = .ok (.isub, 1) := by decide +kernel
theorem dX2_fillRight_43 : decode cX2_fillRight 43 = .ok (.imul, 1) := by decide +kernel
theorem dX2_fillRight_44 : decode cX2_fillRight 44 = .ok (.iadd, 1) := by decide +kernel
theorem dX2_fillRight_45 : decode cX2_fillRight 45 = .ok (.istore_n 3, 1) := by decide +kernel
theorem dX2_fillRight_46 : decode cX2_fillRight 46 = .ok (.aload_n 1, 1) := by decide +kernel
theorem dX2_fillRight_47 : decode cX2_fillRight 47 = .ok (.iload_n 2, 1) := by decide +kernel
theorem dX2_fillRight_48 : decode cX2_fillRight 48 = .ok (.iconst 1, 1) := by decide +kernel
theorem dX2_fillRight_49 : decode cX2_fillRight 49 = .ok (.isub, 1) := by decide +kernel
theorem dX2_fillRight_50 : decode cX2_fillRight 50 = .ok (.aload_n 0, 1) := by decide +kernel
theorem dX2_fillRight_51 : decode cX2_fillRight 51 = .ok (.getfield 24, 3) := by decide +kernel
theorem dX2_fillRight_54 : decode cX2_fillRight 54 = .ok (.iconst 1, 1) := by decide +kernel
theorem dX2_fillRight_55 : decode cX2_fillRight 55 = .ok (.isub, 1) := by decide +kernel
theorem dX2_fillRight_56 : decode cX2_fillRight 56 = .ok (.iload_n 3, 1) := by decide +kernel
theorem dX2_fillRight_57 : decode cX2_fillRight 57 = .ok (.i2l, 1) := by decide +kernel
theorem dX2_fillRight_58 : decode cX2_fillRight 58 = .ok (.invokevirtual 85, 3) := by decide +kernel
theorem dX2_fillRight_61 : decode cX2_fillRight 61 = .ok (.iinc 2 1, 3) := by decide +kernel
theorem dX2_fillRight_64 : decode cX2_fillRight 64 = .ok (.goto (-62), 3) := by decide +kernel
theorem dX2_fillRight_67 : decode cX2_fillRight 67 = .ok (.return_, 1) := by decide +kernel
theorem dX2_tellOff_0 : decode cX2_tellOff 0 = .ok (.aload_n 2, 1) := by decide +kernel
theorem dX2_tellOff_1 : decode cX2_tellOff 1 = .ok (.getfield 91, 3) := by decide +kernel
theorem dX2_tellOff_4 : decode cX2_tellOff 4 = .ok (.astore 5, 2) := by decide +kernel
theorem dX2_tellOff_6 : decode cX2_tellOff 6 = .ok (.aload_n 0, 1) := by decide +kernel
theorem dX2_tellOff_7 : decode cX2_tellOff 7 = .ok (.getfield 24, 3) := by decide +kernel
theorem dX2_tellOff_10 : decode cX2_tellOff 10 = .ok (.iconst 1, 1) := by decide +kernel
theorem dX2_tellOff_11 : decode cX2_tellOff 11 = .ok (.if_icmp .lt 14, 3) := by decide +kernel
theorem dX2_tellOff_14 : decode cX2_tellOff 14 = .ok (.aload_n 2, 1) := by decide +kernel
theorem dX2_tellOff_15 : decode cX2_tellOff 15 = .ok (.getfield 54, 3) := by decide +kernel
theorem dX2_tellOff_18 : decode cX2_tellOff 18 = .ok (.iload_n 3, 1) := by decide +kernel
theorem dX2_tellOff_19 : decode cX2_tellOff 19 = .ok (.invokevirtual 94, 3) := by decide +kernel
theorem dX2_tellOff_22 : decode cX2_tellOff 22 = .ok (.ifCond .ne 4, 3) := by decide +kernel
theorem dX2_tellOff_25 : decode cX2_tellOff 25 = .ok (.return_, 1) := by decide +kernel
theorem dX2_tellOff_26 : decode cX2_tellOff 26 = .ok (.aload 5, 2) := by decide +kernel
theorem dX2_tellOff_28 : decode cX2_tellOff 28 = .ok (.aload_n 0, 1) := by decide +kernel
theorem dX2_tellOff_29 : decode cX2_tellOff 29 = .ok (.getfield 9, 3) := by decide +kernel
theorem dX2_tellOff_32 : decode cX2_tellOff 32 = .ok (.iconst 0, 1) := by decide +kernel
theorem dX2_tellOff_33 : decode cX2_tellOff 33 = .ok (.iaload, 1) := by decide +kernel
theorem dX2_tellOff_34 : decode cX2_tellOff 34 = .ok (.iaload, 1) := by decide +kernel
theorem dX2_tellOff_35 : decode cX2_tellOff 35 = .ok (.istore 6, 2) := by decide +kernel
theorem dX2_tellOff_37 : decode cX2_tellOff 37 = .ok (.aload 4, 2) := by decide +kernel
theorem dX2_tellOff_39 : decode cX2_tellOff 39 = .ok (.getfield 98, 3) := by decide +kernel
theorem dX2_tellOff_42 : decode cX2_tellOff 42 = .ok (.aload_n 1, 1) := by decide +kernel
theorem dX2_tellOff_43 : decode cX2_tellOff 43 = .ok (.getfield 104, 3) := by decide +kernel
theorem dX2_tellOff_46 : decode cX2_tellOff 46 = .ok (.invokevirtual 105, 3) := by decide +kernel
theorem dX2_tellOff_49 : decode cX2_tellOff 49 = .ok (.aload 4, 2) := by decide +kernel
theorem dX2_tellOff_51 : decode cX2_tellOff 51 = .ok (.getfield 111, 3) := by decide +kernel
theorem dX2_tellOff_54 : decode cX2_tellOff 54 = .ok (.lconst 0, 1) := by decide +kernel
theorem dX2_tellOff_55 : decode cX2_tellOff 55 = .ok (.invokevirtual 114, 3) := by decide +kernel
theorem dX2_tellOff_58 : decode cX2_tellOff 58 = .ok (.aload 4, 2) := by decide +kernel
theorem dX2_tellOff_60 : decode cX2_tellOff 60 = .ok (.getfield 111, 3) := by decide +kernel
theorem dX2_tellOff_63 : decode cX2_tellOff 63 = .ok (.aload_n 1, 1) := by decide +kernel
theorem dX2_tellOff_64 : decode cX2_tellOff 64 = .ok (.getfield 104, 3) := by decide +kernel
theorem dX2_tellOff_67 : decode cX2_tellOff 67 = .ok (.aload 5, 2) := by decide +kernel
theorem dX2_tellOff_69 : decode cX2_tellOff 69 = .ok (.iload_n 3, 1) := by decide +kernel
theorem dX2_tellOff_70 : decode cX2_tellOff 70 = .ok (.iaload, 1) := by decide +kernel
theorem dX2_tellOff_71 : decode cX2_tellOff 71 = .ok (.iload 6, 2) := by decide +kernel
theorem dX2_tellOff_73 : decode cX2_tellOff 73 = .ok (.isub, 1) := by decide +kernel
theorem dX2_tellOff_74 : decode cX2_tellOff 74 = .ok (.invokevirtual 117, 3) := by decide +kernel
theorem dX2_tellOff_77 : decode cX2_tellOff 77 = .ok (.iconst 1, 1) := by decide +kernel
theorem dX2_tellOff_78 : decode cX2_tellOff 78 = .ok (.istore 7, 2) := by decide +kernel
theorem dX2_tellOff_80 : decode cX2_tellOff 80 = .ok (.iload 7, 2) := by decide +kernel
theorem dX2_tellOff_82 : decode cX2_tellOff 82 = .ok (.aload_n 0, 1) := by decide +kernel
theorem dX2_tellOff_83 : decode cX2_tellOff 83 = .ok (.getfield 24, 3) := by decide +kernel
theorem dX2_tellOff_86 : decode cX2_tellOff 86 = .ok (.if_icmp .ge 44, 3) := by decide +kernel
theorem dX2_tellOff_89 : decode cX2_tellOff 89 = .ok (.aload 4, 2) := by decide +kernel
theorem dX2_tellOff_91 : decode cX2_tellOff 91 = .ok (.getfield 111, 3) := by decide +kernel
theorem dX2_tellOff_94 : decode cX2_tellOff 94 = .ok (.aload_n 1, 1) := by decide +kernel
theorem dX2_tellOff_95 : decode cX2_tellOff 95 = .ok (.iload 7, 2) := by decide +kernel
theorem dX2_tellOff_97 : decode cX2_tellOff 97 = .ok (.iconst 1, 1) := by decide +kernel
theorem dX2_tellOff_98 : decode cX2_tellOff 98 = .ok (.isub, 1) := by decide +kernel
theorem dX2_tellOff_99 : decode cX2_tellOff 99 = .ok (.aload_n 0, 1) := by decide +kernel
theorem dX2_tellOff_100 : decode cX2_tellOff 100 = .ok (.getfield 24, 3) := by decide +kernel
theorem dX2_tellOff_103 : decode cX2_tellOff 103 = .ok (.iconst 1, 1) := by decide +kernel
theorem dX2_tellOff_104 : decode cX2_tellOff 104 = .ok (.isub, 1) := by decide +kernel
theorem dX2_tellOff_105 : decode cX2_tellOff 105 = .ok (.invokevirtual 121, 3) := by decide +kernel
theorem dX2_tellOff_108 : decode cX2_tellOff 108 = .ok (.iload 6, 2) := by decide +kernel
theorem dX2_tellOff_110 : decode cX2_tellOff 110 = .ok (.aload 5, 2) := by decide +kernel
theorem dX2_tellOff_112 : decode cX2_tellOff 112 = .ok (.aload_n 0, 1) := by decide +kernel
theorem dX2_tellOff_113 : decode cX2_tellOff 113 = .ok (.getfield 9, 3) := by decide +kernel
theorem dX2_tellOff_116 : decode cX2_tellOff 116 = .ok (.iload 7, 2) := by decide +kernel
theorem dX2_tellOff_118 : decode cX2_tellOff 118 = .ok (.iaload, 1) := by decide +kernel
theorem dX2_tellOff_119 : decode cX2_tellOff 119 = .ok (.iaload, 1) := by decide +kernel
theorem dX2_tellOff_120 : decode cX2_tellOff 120 = .ok (.isub, 1) := by decide +kernel
theorem dX2_tellOff_121 : decode cX2_tellOff 121 = .ok (.invokevirtual 117, 3) := by decide +kernel
theorem dX2_tellOff_124 : decode cX2_tellOff 124 = .ok (.iinc 7 1, 3) := by decide +kernel
theorem dX2_tellOff_127 : decode cX2_tellOff 127 = .ok (.goto (-47), 3) := by decide +kernel
theorem dX2_tellOff_130 : decode cX2_tellOff 130 = .ok (.return_, 1) := by decide +kernel
theorem dX3_init_0 : decode cX3_init 0 = .ok (.aload_n 0, 1) := by decide +kernel
theorem dX3_init_1 : decode cX3_init 1 = .ok (.invokespecial 1, 3) := by decide +kernel
theorem dX3_init_4 : decode cX3_init 4 = .ok (.aload_n 0, 1) := by decide +kernel
theorem dX3_init_5 : decode cX3_init 5 = .ok (.new 7, 3) := by decide +kernel
theorem dX3_init_8 : decode cX3_init 8 = .ok (.dup, 1) := by decide +kernel
theorem dX3_init_9 : decode cX3_init 9 = .ok (.invokespecial 9, 3) := by decide +kernel
theorem dX3_init_12 : decode cX3_init 12 = .ok (.putfield 10, 3) := by decide +kernel
theorem dX3_init_15 : decode cX3_init 15 = .ok (.aload_n 0, 1) := by decide +kernel
theorem dX3_init_16 : decode cX3_init 16 = .ok (.new 7, 3) := by decide +kernel
theorem dX3_init_19 : decode cX3_init 19 = .ok (.dup, 1) := by decide +kernel
theorem dX3_init_20 : decode cX3_init 20 = .ok (.invokespecial 9, 3) := by decide +kernel
theorem dX3_init_23 : decode cX3_init 23 = .ok (.putfield 16, 3) := by decide +kernel
theorem dX3_init_26 : decode cX3_init 26 = .ok (.aload_n 0, 1) := by decide +kernel
theorem dX3_init_27 : decode cX3_init 27 = .ok (.getfield 16, 3) := by decide +kernel
theorem dX3_init_30 : decode cX3_init 30 = .ok (.lconst 1, 1) := by decide +kernel
theorem dX3_init_31 : decode cX3_init 31 = .ok (.invokevirtual 19, 3) := by decide +kernel
theorem dX3_init_34 : decode cX3_init 34 = .ok (.return_, 1) := by decide +kernel
theorem dX3_copyFrom_0 : decode cX3_copyFrom 0 = .ok (.aload_n 0, 1) := by decide +kernel
theorem dX3_copyFrom_1 : decode cX3_copyFrom 1 = .ok (.getfield 10, 3) := by decide +kernel
theorem dX3_copyFrom_4 : decode cX3_copyFrom 4 = .ok (.aload_n 1, 1) := by decide +kernel
theorem dX3_copyFrom_5 : decode cX3_copyFrom 5 = .ok (.getfield 10, 3) := by decide +kernel
theorem dX3_copyFrom_8 : decode cX3_copyFrom 8 = .ok (.invokevirtual 23, 3) := by decide +kernel
theorem dX3_copyFrom_11 : decode cX3_copyFrom 11 = .ok (.aload_n 0, 1) := by decide +kernel
theorem dX3_copyFrom_12 : decode cX3_copyFrom 12 = .ok (.getfield 16, 3) := by decide +kernel
theorem dX3_copyFrom_15 : decode cX3_copyFrom 15 = .ok (.aload_n 1, 1) := by decide +kernel
theorem dX3_copyFrom_16 : decode cX3_copyFrom 16 = .ok (.getfield 16, 3) := by decide +kernel
theorem dX3_copyFrom_19 : decode cX3_copyFrom 19 = .ok (.invokevirtual 23, 3) := by decide +kernel
theorem dX3_copyFrom_22 : decode cX3_copyFrom 22 = .ok (.return_, 1) := by decide +kernel
theorem dX4_init_0 : decode cX4_init 0 = .ok (.aload_n 0, 1) := by decide +kernel
theorem dX4_init_1 : decode cX4_init 1 = .ok (.invokespecial 3, 3) := by decide +kernel
theorem dX4_init_4 : decode cX4_init 4 = .ok (.aload_n 0, 1) := by decide +kernel
theorem dX4_init_5 : decode cX4_init 5 = .ok (.bipush 56, 2) := by decide +kernel
theorem dX4_init_7 : decode cX4_init 7 = .ok (.anewarray 11, 3) := by decide +kernel
theorem dX4_init_10 : decode cX4_init 10 = .ok (.putfield 13, 3) := by decide +kernel
theorem dX4_init_13 : decode cX4_init 13 = .ok (.aload_n 0, 1) := by decide +kernel
theorem dX4_init_14 : decode cX4_init 14 = .ok (.new 11, 3) := by decide +kernel
theorem dX4_init_17 : decode cX4_init 17 = .ok (.dup, 1) := by decide +kernel
theorem dX4_init_18 : decode cX4_init 18 = .ok (.invokespecial 17, 3) := by decide +kernel
theorem dX4_init_21 : decode cX4_init 21 = .ok (.putfield 18, 3) := by decide +kernel
theorem dX4_init_24 : decode cX4_init 24 = .ok (.aload_n 0, 1) := by decide +kernel
theorem dX4_init_25 : decode cX4_init 25 = .ok (.new 11, 3) := by decide +kernel
theorem dX4_init_28 : decode cX4_init 28 = .ok (.dup, 1) := by decide +kernel
theorem dX4_init_29 : decode cX4_init 29 = .ok (.invokespecial 17, 3) := by decide +kernel
theorem dX4_init_32 : decode cX4_init 32 = .ok (.putfield 22, 3) := by decide +kernel
theorem dX4_init_35 : decode cX4_init 35 = .ok (.aload_n 0, 1) := by decide +kernel
theorem dX4_init_36 : decode cX4_init 36 = .ok (.new 11, 3) := by decide +kernel
theorem dX4_init_39 : decode cX4_init 39 = .ok (.dup, 1) := by decide +kernel
theorem dX4_init_40 : decode cX4_init 40 = .ok (.invokespecial 17, 3) := by decide +kernel
theorem dX4_init_43 : decode cX4_init 43 = .ok (.putfield 25, 3) := by decide +kernel
theorem dX4_init_46 : decode cX4_init 46 = .ok (.aload_n 0, 1) := by decide +kernel
theorem dX4_init_47 : decode cX4_init 47 = .ok (.new 11, 3) := by decide +kernel
theorem dX4_init_50 : decode cX4_init 50 = .ok (.dup, 1) := by decide +kernel
theorem dX4_init_51 : decode cX4_init 51 = .ok (.invokespecial 17, 3) := by decide +kernel
theorem dX4_init_54 : decode cX4_init 54 = .ok (.putfield 28, 3) := by decide +kernel
theorem dX4_init_57 : decode cX4_init 57 = .ok (.aload_n 0, 1) := by decide +kernel
theorem dX4_init_58 : decode cX4_init 58 = .ok (.new 31, 3) := by decide +kernel
theorem dX4_init_61 : decode cX4_init 61 = .ok (.dup, 1) := by decide +kernel
theorem dX4_init_62 : decode cX4_init 62 = .ok (.invokespecial 33, 3) := by decide +kernel
theorem dX4_init_65 : decode cX4_init 65 = .ok (.putfield 34, 3) := by decide +kernel
theorem dX4_init_68 : decode cX4_init 68 = .ok (.iconst 0, 1) := by decide +kernel
theorem dX4_init_69 : decode cX4_init 69 = .ok (.istore_n 1, 1) := by decide +kernel
theorem dX4_init_70 : decode cX4_init 70 = .ok (.iload_n 1, 1) := by decide +kernel
theorem dX4_init_71 : decode cX4_init 71 = .ok (.aload_n 0, 1) := by decide +kernel
theorem dX4_init_72 : decode cX4_init 72 = .ok (.getfield 13, 3) := by decide +kernel
theorem dX4_init_75 : decode cX4_init 75 = .ok (.arraylength, 1) := by decide +kernel
theorem dX4_init_76 : decode cX4_init 76 = .ok (.if_icmp .ge 22, 3) := by decide +kernel
theorem dX4_init_79 : decode cX4_init 79 = .ok (.aload_n 0, 1) := by decide +kernel
theorem dX4_init_80 : decode cX4_init 80 = .ok (.getfield 13, 3) := by decide +kernel
theorem dX4_init_83 : decode cX4_init 83 = .ok (.iload_n 1, 1) := by decide +kernel
theorem dX4_init_84 : decode cX4_init 84 = .ok (.new 11, 3) := by decide +kernel
theorem dX4_init_87 : decode cX4_init 87 = .ok (.dup, 1) := by decide +kernel
theorem dX4_init_88 : decode cX4_init 88 = .ok (.invokespecial 17, 3) := by decide +kernel
theorem dX4_init_91 : decode cX4_init 91 = .ok (.aastore, 1) := by decide +kernel
theorem dX4_init_92 : decode cX4_init 92 = .ok (.iinc 1 1, 3) := by decide +kernel
theorem dX4_init_95 : decode cX4_init 95 = .ok (.goto (-25), 3) := by decide +kernel
theorem dX4_init_98 : decode cX4_init 98 = .ok (.return_, 1) := by decide +kernel
theorem dX4_cell_0 : decode cX4_cell 0 = .ok (.iload_n 1, 1) := by decide +kernel
theorem dX4_cell_1 : decode cX4_cell 1 = .ok (.ifCond .lt 23, 3) := by decide +kernel
theorem dX4_cell_4 : decode cX4_cell 4 = .ok (.iload_n 1, 1) := by decide +kernel
theorem dX4_cell_5 : decode cX4_cell 5 = .ok (.bipush 7, 2) := by decide +kernel
theorem dX4_cell_7 : decode cX4_cell 7 = .ok (.if_icmp .ge 17, 3) := by decide +kernel
theorem dX4_cell_10 : decode cX4_cell 10 = .ok (.iload_n 2, 1) := by decide +kernel
theorem dX4_cell_11 : decode cX4_cell 11 = .ok (.ifCond .lt 13, 3) := by decide +kernel
theorem dX4_cell_14 : decode cX4_cell 14 = .ok (.iload_n 2, 1) := by decide +kernel
theorem dX4_cell_15 : decode cX4_cell 15 = .ok (.bipush 8, 2) := by decide +kernel
theorem dX4_cell_17 : decode cX4_cell 17 = .ok (.if_icmp .ge 7, 3) := by decide +kernel
theorem dX4_cell_20 : decode cX4_cell 20 = .ok (.iconst 1, 1) := by decide +kernel
theorem dX4_cell_21 : decode cX4_cell 21 = .ok (.goto 4, 3) := by decide +kernel
theorem dX4_cell_24 : decode cX4_cell 24 = .ok (.iconst 0, 1) := by decide +kernel
theorem dX4_cell_25 : decode cX4_cell 25 = .ok (.istore_n 3, 1) := by decide +kernel
theorem dX4_cell_26 : decode cX4_cell 26 = .ok (.iload_n 3, 1) := by decide +kernel
theorem dX4_cell_27 : decode cX4_cell 27 = .ok (.ifCond .eq 17, 3) := by decide +kernel
theorem dX4_cell_30 : decode cX4_cell 30 = .ok (.aload_n 0, 1) := by decide +kernel
theorem dX4_cell_31 : decode cX4_cell 31 = .ok (.getfield 13, 3) := by decide +kernel
theorem dX4_cell_34 : decode cX4_cell 34 = .ok (.iload_n 1, 1) := by decide +kernel
theorem dX4_cell_35 : decode cX4_cell 35 = .ok (.bipush 8, 2) := by decide +kernel
theorem dX4_cell_37 : decode cX4_cell 37 = .ok (.imul, 1) := by decide +kernel
theorem dX4_cell_38 : decode cX4_cell 38 = .ok (.iload_n 2, 1) := by decide +kernel
theorem dX4_cell_39 : decode cX4_cell 39 = .ok (.iadd, 1) := by decide +kernel
theorem dX4_cell_40 : decode cX4_cell 40 = .ok (.aaload, 1) := by decide +kernel
theorem dX4_cell_41 : decode cX4_cell 41 = .ok (.goto 7, 3) := by decide +kernel
theorem dX4_cell_44 : decode cX4_cell 44 = .ok (.aload_n 0, 1) := by decide +kernel
theorem dX4_cell_45 : decode cX4_cell 45 = .ok (.getfield 18, 3) := by decide +kernel
theorem dX4_cell_48 : decode cX4_cell 48 = .ok (.areturn, 1) := by decide +kernel
theorem dX4_put_0 : decode cX4_put 0 = .ok (.aload_n 0, 1) := by decide +kernel
theorem dX4_put_1 : decode cX4_put 1 = .ok (.iload_n 1, 1) := by decide +kernel
theorem dX4_put_2 : decode cX4_put 2 = .ok (.iload_n 2, 1) := by decide +kernel
theorem dX4_put_3 : decode cX4_put 3 = .ok (.invokevirtual 38, 3) := by decide +kernel
theorem dX4_put_6 : decode cX4_put 6 = .ok (.lload_n 3, 1) := by decide +kernel
theorem dX4_put_7 : decode cX4_put 7 = .ok (.invokevirtual 42, 3) := by decide +kernel
theorem dX4_put_10 : decode cX4_put 10 = .ok (.return_, 1) := by decide +kernel
