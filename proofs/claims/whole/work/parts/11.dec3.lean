theorem dX11_leaveOut_98 : decode cX11_leaveOut 98 = .ok (.getfield 35, 3) := by decide +kernel
theorem dX11_leaveOut_101 : decode cX11_leaveOut 101 = .ok (.invokevirtual 242, 3) := by decide +kernel
theorem dX11_leaveOut_104 : decode cX11_leaveOut 104 = .ok (.invokevirtual 321, 3) := by decide +kernel
theorem dX11_leaveOut_107 : decode cX11_leaveOut 107 = .ok (.ifCond .ne 5, 3) := by decide +kernel
theorem dX11_leaveOut_110 : decode cX11_leaveOut 110 = .ok (.iconst 0, 1) := by decide +kernel
theorem dX11_leaveOut_111 : decode cX11_leaveOut 111 = .ok (.ireturn, 1) := by decide +kernel
theorem dX11_leaveOut_112 : decode cX11_leaveOut 112 = .ok (.aload_n 0, 1) := by decide +kernel
theorem dX11_leaveOut_113 : decode cX11_leaveOut 113 = .ok (.getfield 35, 3) := by decide +kernel
theorem dX11_leaveOut_116 : decode cX11_leaveOut 116 = .ok (.aload_n 0, 1) := by decide +kernel
theorem dX11_leaveOut_117 : decode cX11_leaveOut 117 = .ok (.getfield 42, 3) := by decide +kernel
theorem dX11_leaveOut_120 : decode cX11_leaveOut 120 = .ok (.aload_n 0, 1) := by decide +kernel
theorem dX11_leaveOut_121 : decode cX11_leaveOut 121 = .ok (.getfield 79, 3) := by decide +kernel
theorem dX11_leaveOut_124 : decode cX11_leaveOut 124 = .ok (.iload_n 2, 1) := by decide +kernel
theorem dX11_leaveOut_125 : decode cX11_leaveOut 125 = .ok (.aload_n 0, 1) := by decide +kernel
theorem dX11_leaveOut_126 : decode cX11_leaveOut 126 = .ok (.getfield 67, 3) := by decide +kernel
theorem dX11_leaveOut_129 : decode cX11_leaveOut 129 = .ok (.invokevirtual 332, 3) := by decide +kernel
theorem dX11_leaveOut_132 : decode cX11_leaveOut 132 = .ok (.iconst 1, 1) := by decide +kernel
theorem dX11_leaveOut_133 : decode cX11_leaveOut 133 = .ok (.ireturn, 1) := by decide +kernel
theorem dX11_findWorst_0 : decode cX11_findWorst 0 = .ok (.iconst (-1), 1) := by decide +kernel
theorem dX11_findWorst_1 : decode cX11_findWorst 1 = .ok (.istore_n 2, 1) := by decide +kernel
theorem dX11_findWorst_2 : decode cX11_findWorst 2 = .ok (.iconst 0, 1) := by decide +kernel
theorem dX11_findWorst_3 : decode cX11_findWorst 3 = .ok (.istore_n 3, 1) := by decide +kernel
theorem dX11_findWorst_4 : decode cX11_findWorst 4 = .ok (.iload_n 3, 1) := by decide +kernel
theorem dX11_findWorst_5 : decode cX11_findWorst 5 = .ok (.aload_n 0, 1) := by decide +kernel
theorem dX11_findWorst_6 : decode cX11_findWorst 6 = .ok (.getfield 79, 3) := by decide +kernel
theorem dX11_findWorst_9 : decode cX11_findWorst 9 = .ok (.getfield 125, 3) := by decide +kernel
theorem dX11_findWorst_12 : decode cX11_findWorst 12 = .ok (.getfield 128, 3) := by decide +kernel
theorem dX11_findWorst_15 : decode cX11_findWorst 15 = .ok (.if_icmp .ge 56, 3) := by decide +kernel
theorem dX11_findWorst_18 : decode cX11_findWorst 18 = .ok (.aload_n 0, 1) := by decide +kernel
theorem dX11_findWorst_19 : decode cX11_findWorst 19 = .ok (.iload_n 1, 1) := by decide +kernel
theorem dX11_findWorst_20 : decode cX11_findWorst 20 = .ok (.iload_n 3, 1) := by decide +kernel
theorem dX11_findWorst_21 : decode cX11_findWorst 21 = .ok (.invokevirtual 211, 3) := by decide +kernel
theorem dX11_findWorst_24 : decode cX11_findWorst 24 = .ok (.ifCond .ne 5, 3) := by decide +kernel
theorem dX11_findWorst_27 : decode cX11_findWorst 27 = .ok (.iconst (-1), 1) := by decide +kernel
theorem dX11_findWorst_28 : decode cX11_findWorst 28 = .ok (.ireturn, 1) := by decide +kernel
theorem dX11_findWorst_29 : decode cX11_findWorst 29 = .ok (.iload_n 2, 1) := by decide +kernel
theorem dX11_findWorst_30 : decode cX11_findWorst 30 = .ok (.iconst (-1), 1) := by decide +kernel
theorem dX11_findWorst_31 : decode cX11_findWorst 31 = .ok (.if_icmp .eq 21, 3) := by decide +kernel
theorem dX11_findWorst_34 : decode cX11_findWorst 34 = .ok (.aload_n 0, 1) := by decide +kernel
theorem dX11_findWorst_35 : decode cX11_findWorst 35 = .ok (.getfield 56, 3) := by decide +kernel
theorem dX11_findWorst_38 : decode cX11_findWorst 38 = .ok (.aload_n 0, 1) := by decide +kernel
theorem dX11_findWorst_39 : decode cX11_findWorst 39 = .ok (.getfield 67, 3) := by decide +kernel
theorem dX11_findWorst_42 : decode cX11_findWorst 42 = .ok (.aload_n 0, 1) := by decide +kernel
theorem dX11_findWorst_43 : decode cX11_findWorst 43 = .ok (.getfield 70, 3) := by decide +kernel
theorem dX11_findWorst_46 : decode cX11_findWorst 46 = .ok (.invokevirtual 223, 3) := by decide +kernel
theorem dX11_findWorst_49 : decode cX11_findWorst 49 = .ok (.ifCond .eq 16, 3) := by decide +kernel
theorem dX11_findWorst_52 : decode cX11_findWorst 52 = .ok (.aload_n 0, 1) := by decide +kernel
theorem dX11_findWorst_53 : decode cX11_findWorst 53 = .ok (.getfield 70, 3) := by decide +kernel
theorem dX11_findWorst_56 : decode cX11_findWorst 56 = .ok (.aload_n 0, 1) := by decide +kernel
theorem dX11_findWorst_57 : decode cX11_findWorst 57 = .ok (.getfield 67, 3) := by decide +kernel
theorem dX11_findWorst_60 : decode cX11_findWorst 60 = .ok (.invokevirtual 227, 3) := by decide +kernel
theorem dX11_findWorst_63 : decode cX11_findWorst 63 = .ok (.iload_n 3, 1) := by decide +kernel
theorem dX11_findWorst_64 : decode cX11_findWorst 64 = .ok (.istore_n 2, 1) := by decide +kernel
theorem dX11_findWorst_65 : decode cX11_findWorst 65 = .ok (.iinc 3 1, 3) := by decide +kernel
theorem dX11_findWorst_68 : decode cX11_findWorst 68 = .ok (.goto (-64), 3) := by decide +kernel
theorem dX11_findWorst_71 : decode cX11_findWorst 71 = .ok (.iload_n 2, 1) := by decide +kernel
theorem dX11_findWorst_72 : decode cX11_findWorst 72 = .ok (.ireturn, 1) := by decide +kernel
theorem dX11_setResult_0 : decode cX11_setResult 0 = .ok (.aload_n 0, 1) := by decide +kernel
theorem dX11_setResult_1 : decode cX11_setResult 1 = .ok (.getfield 63, 3) := by decide +kernel
theorem dX11_setResult_4 : decode cX11_setResult 4 = .ok (.getfield 214, 3) := by decide +kernel
theorem dX11_setResult_7 : decode cX11_setResult 7 = .ok (.aload_n 1, 1) := by decide +kernel
theorem dX11_setResult_8 : decode cX11_setResult 8 = .ok (.invokevirtual 336, 3) := by decide +kernel
theorem dX11_setResult_11 : decode cX11_setResult 11 = .ok (.aload_n 0, 1) := by decide +kernel
theorem dX11_setResult_12 : decode cX11_setResult 12 = .ok (.getfield 63, 3) := by decide +kernel
theorem dX11_setResult_15 : decode cX11_setResult 15 = .ok (.getfield 217, 3) := by decide +kernel
theorem dX11_setResult_18 : decode cX11_setResult 18 = .ok (.aload_n 2, 1) := by decide +kernel
theorem dX11_setResult_19 : decode cX11_setResult 19 = .ok (.invokevirtual 336, 3) := by decide +kernel
theorem dX11_setResult_22 : decode cX11_setResult 22 = .ok (.aload_n 0, 1) := by decide +kernel
theorem dX11_setResult_23 : decode cX11_setResult 23 = .ok (.getfield 56, 3) := by decide +kernel
theorem dX11_setResult_26 : decode cX11_setResult 26 = .ok (.aload_n 0, 1) := by decide +kernel
theorem dX11_setResult_27 : decode cX11_setResult 27 = .ok (.getfield 63, 3) := by decide +kernel
theorem dX11_setResult_30 : decode cX11_setResult 30 = .ok (.invokevirtual 339, 3) := by decide +kernel
theorem dX11_setResult_33 : decode cX11_setResult 33 = .ok (.iconst 1, 1) := by decide +kernel
theorem dX11_setResult_34 : decode cX11_setResult 34 = .ok (.ireturn, 1) := by decide +kernel
theorem dX12_init_0 : decode cX12_init 0 = .ok (.aload_n 0, 1) := by decide +kernel
theorem dX12_init_1 : decode cX12_init 1 = .ok (.invokespecial 3, 3) := by decide +kernel
theorem dX12_init_4 : decode cX12_init 4 = .ok (.aload_n 0, 1) := by decide +kernel
theorem dX12_init_5 : decode cX12_init 5 = .ok (.sipush 2112, 3) := by decide +kernel
theorem dX12_init_8 : decode cX12_init 8 = .ok (.newarray .long, 2) := by decide +kernel
theorem dX12_init_10 : decode cX12_init 10 = .ok (.putfield 9, 3) := by decide +kernel
theorem dX12_init_13 : decode cX12_init 13 = .ok (.aload_n 0, 1) := by decide +kernel
theorem dX12_init_14 : decode cX12_init 14 = .ok (.bipush 8, 2) := by decide +kernel
theorem dX12_init_16 : decode cX12_init 16 = .ok (.newarray .int, 2) := by decide +kernel
theorem dX12_init_18 : decode cX12_init 18 = .ok (.putfield 13, 3) := by decide +kernel
theorem dX12_init_21 : decode cX12_init 21 = .ok (.aload_n 0, 1) := by decide +kernel
theorem dX12_init_22 : decode cX12_init 22 = .ok (.bipush 8, 2) := by decide +kernel
theorem dX12_init_24 : decode cX12_init 24 = .ok (.newarray .int, 2) := by decide +kernel
theorem dX12_init_26 : decode cX12_init 26 = .ok (.putfield 17, 3) := by decide +kernel
theorem dX12_init_29 : decode cX12_init 29 = .ok (.aload_n 0, 1) := by decide +kernel
theorem dX12_init_30 : decode cX12_init 30 = .ok (.sipush 480, 3) := by decide +kernel
theorem dX12_init_33 : decode cX12_init 33 = .ok (.newarray .long, 2) := by decide +kernel
theorem dX12_init_35 : decode cX12_init 35 = .ok (.putfield 20, 3) := by decide +kernel
theorem dX12_init_38 : decode cX12_init 38 = .ok (.aload_n 0, 1) := by decide +kernel
theorem dX12_init_39 : decode cX12_init 39 = .ok (.bipush 8, 2) := by decide +kernel
theorem dX12_init_41 : decode cX12_init 41 = .ok (.newarray .int, 2) := by decide +kernel
theorem dX12_init_43 : decode cX12_init 43 = .ok (.putfield 23, 3) := by decide +kernel
theorem dX12_init_46 : decode cX12_init 46 = .ok (.aload_n 0, 1) := by decide +kernel
theorem dX12_init_47 : decode cX12_init 47 = .ok (.bipush 8, 2) := by decide +kernel
theorem dX12_init_49 : decode cX12_init 49 = .ok (.newarray .int, 2) := by decide +kernel
theorem dX12_init_51 : decode cX12_init 51 = .ok (.putfield 26, 3) := by decide +kernel
theorem dX12_init_54 : decode cX12_init 54 = .ok (.aload_n 0, 1) := by decide +kernel
theorem dX12_init_55 : decode cX12_init 55 = .ok (.bipush 8, 2) := by decide +kernel
theorem dX12_init_57 : decode cX12_init 57 = .ok (.newarray .int, 2) := by decide +kernel
theorem dX12_init_59 : decode cX12_init 59 = .ok (.putfield 29, 3) := by decide +kernel
theorem dX12_init_62 : decode cX12_init 62 = .ok (.aload_n 0, 1) := by decide +kernel
theorem dX12_init_63 : decode cX12_init 63 = .ok (.bipush 8, 2) := by decide +kernel
theorem dX12_init_65 : decode cX12_init 65 = .ok (.newarray .int, 2) := by decide +kernel
theorem dX12_init_67 : decode cX12_init 67 = .ok (.putfield 32, 3) := by decide +kernel
theorem dX12_init_70 : decode cX12_init 70 = .ok (.aload_n 0, 1) := by decide +kernel
theorem dX12_init_71 : decode cX12_init 71 = .ok (.sipush 486, 3) := by decide +kernel
theorem dX12_init_74 : decode cX12_init 74 = .ok (.newarray .int, 2) := by decide +kernel
theorem dX12_init_76 : decode cX12_init 76 = .ok (.putfield 35, 3) := by decide +kernel
theorem dX12_init_79 : decode cX12_init 79 = .ok (.aload_n 0, 1) := by decide +kernel
theorem dX12_init_80 : decode cX12_init 80 = .ok (.iconst (-1), 1) := by decide +kernel
theorem dX12_init_81 : decode cX12_init 81 = .ok (.putfield 38, 3) := by decide +kernel
theorem dX12_init_84 : decode cX12_init 84 = .ok (.aload_n 0, 1) := by decide +kernel
theorem dX12_init_85 : decode cX12_init 85 = .ok (.bipush 8, 2) := by decide +kernel
theorem dX12_init_87 : decode cX12_init 87 = .ok (.putfield 42, 3) := by decide +kernel
theorem dX12_init_90 : decode cX12_init 90 = .ok (.aload_n 0, 1) := by decide +kernel
theorem dX12_init_91 : decode cX12_init 91 = .ok (.bipush 16, 2) := by decide +kernel
theorem dX12_init_93 : decode cX12_init 93 = .ok (.newarray .long, 2) := by decide +kernel
theorem dX12_init_95 : decode cX12_init 95 = .ok (.putfield 45, 3) := by decide +kernel
theorem dX12_init_98 : decode cX12_init 98 = .ok (.aload_n 0, 1) := by decide +kernel
theorem dX12_init_99 : decode cX12_init 99 = .ok (.bipush 16, 2) := by decide +kernel
theorem dX12_init_101 : decode cX12_init 101 = .ok (.newarray .long, 2) := by decide +kernel
theorem dX12_init_103 : decode cX12_init 103 = .ok (.putfield 48, 3) := by decide +kernel
theorem dX12_init_106 : decode cX12_init 106 = .ok (.aload_n 0, 1) := by decide +kernel
theorem dX12_init_107 : decode cX12_init 107 = .ok (.bipush 16, 2) := by decide +kernel
theorem dX12_init_109 : decode cX12_init 109 = .ok (.newarray .long, 2) := by decide +kernel
theorem dX12_init_111 : decode cX12_init 111 = .ok (.putfield 51, 3) := by decide +kernel
theorem dX12_init_114 : decode cX12_init 114 = .ok (.aload_n 0, 1) := by decide +kernel
theorem dX12_init_115 : decode cX12_init 115 = .ok (.bipush 10, 2) := by decide +kernel
theorem dX12_init_117 : decode cX12_init 117 = .ok (.newarray .int, 2) := by decide +kernel
theorem dX12_init_119 : decode cX12_init 119 = .ok (.putfield 54, 3) := by decide +kernel
theorem dX12_init_122 : decode cX12_init 122 = .ok (.aload_n 0, 1) := by decide +kernel
theorem dX12_init_123 : decode cX12_init 123 = .ok (.bipush 60, 2) := by decide +kernel
theorem dX12_init_125 : decode cX12_init 125 = .ok (.newarray .int, 2) := by decide +kernel
theorem dX12_init_127 : decode cX12_init 127 = .ok (.putfield 57, 3) := by decide +kernel
theorem dX12_init_130 : decode cX12_init 130 = .ok (.aload_n 0, 1) := by decide +kernel
theorem dX12_init_131 : decode cX12_init 131 = .ok (.bipush 6, 2) := by decide +kernel
theorem dX12_init_133 : decode cX12_init 133 = .ok (.newarray .int, 2) := by decide +kernel
theorem dX12_init_135 : decode cX12_init 135 = .ok (.putfield 60, 3) := by decide +kernel
theorem dX12_init_138 : decode cX12_init 138 = .ok (.aload_n 0, 1) := by decide +kernel
theorem dX12_init_139 : decode cX12_init 139 = .ok (.bipush 6, 2) := by decide +kernel
theorem dX12_init_141 : decode cX12_init 141 = .ok (.newarray .int, 2) := by decide +kernel
theorem dX12_init_143 : decode cX12_init 143 = .ok (.putfield 63, 3) := by decide +kernel
theorem dX12_init_146 : decode cX12_init 146 = .ok (.aload_n 0, 1) := by decide +kernel
theorem dX12_init_147 : decode cX12_init 147 = .ok (.bipush 8, 2) := by decide +kernel
theorem dX12_init_149 : decode cX12_init 149 = .ok (.newarray .int, 2) := by decide +kernel
theorem dX12_init_151 : decode cX12_init 151 = .ok (.putfield 66, 3) := by decide +kernel
theorem dX12_init_154 : decode cX12_init 154 = .ok (.aload_n 0, 1) := by decide +kernel
theorem dX12_init_155 : decode cX12_init 155 = .ok (.bipush 8, 2) := by decide +kernel
theorem dX12_init_157 : decode cX12_init 157 = .ok (.newarray .boolean, 2) := by decide +kernel
theorem dX12_init_159 : decode cX12_init 159 = .ok (.putfield 69, 3) := by decide +kernel
theorem dX12_init_162 : decode cX12_init 162 = .ok (.aload_n 0, 1) := by decide +kernel
theorem dX12_init_163 : decode cX12_init 163 = .ok (.iconst 0, 1) := by decide +kernel
theorem dX12_init_164 : decode cX12_init 164 = .ok (.lconst 0, 1) := by decide +kernel
theorem dX12_init_165 : decode cX12_init 165 = .ok (.invokevirtual 73, 3) := by decide +kernel
theorem dX12_init_168 : decode cX12_init 168 = .ok (.aload_n 0, 1) := by decide +kernel
theorem dX12_init_169 : decode cX12_init 169 = .ok (.iconst 1, 1) := by decide +kernel
theorem dX12_init_170 : decode cX12_init 170 = .ok (.lconst 1, 1) := by decide +kernel
theorem dX12_init_171 : decode cX12_init 171 = .ok (.invokevirtual 73, 3) := by decide +kernel
theorem dX12_init_174 : decode cX12_init 174 = .ok (.return_, 1) := by decide +kernel
theorem dX12_carry_0 : decode cX12_carry 0 = .ok (.iconst 0, 1) := by decide +kernel
theorem dX12_carry_1 : decode cX12_carry 1 = .ok (.istore_n 2, 1) := by decide +kernel
theorem dX12_carry_2 : decode cX12_carry 2 = .ok (.iload_n 2, 1) := by decide +kernel
theorem dX12_carry_3 : decode cX12_carry 3 = .ok (.bipush 15, 2) := by decide +kernel
theorem dX12_carry_5 : decode cX12_carry 5 = .ok (.if_icmp .ge 62, 3) := by decide +kernel
theorem dX12_carry_8 : decode cX12_carry 8 = .ok (.aload_n 0, 1) := by decide +kernel
theorem dX12_carry_9 : decode cX12_carry 9 = .ok (.getfield 9, 3) := by decide +kernel
theorem dX12_carry_12 : decode cX12_carry 12 = .ok (.bipush 16, 2) := by decide +kernel
theorem dX12_carry_14 : decode cX12_carry 14 = .ok (.iload_n 1, 1) := by decide +kernel
theorem dX12_carry_15 : decode cX12_carry 15 = .ok (.imul, 1) := by decide +kernel
theorem dX12_carry_16 : decode cX12_carry 16 = .ok (.iload_n 2, 1) := by decide +kernel
theorem dX12_carry_17 : decode cX12_carry 17 = .ok (.iadd, 1) := by decide +kernel
theorem dX12_carry_18 : decode cX12_carry 18 = .ok (.laload, 1) := by decide +kernel
theorem dX12_carry_19 : decode cX12_carry 19 = .ok (.lstore_n 3, 1) := by decide +kernel
theorem dX12_carry_20 : decode cX12_carry 20 = .ok (.aload_n 0, 1) := by decide +kernel
theorem dX12_carry_21 : decode cX12_carry 21 = .ok (.getfield 9, 3) := by decide +kernel
theorem dX12_carry_24 : decode cX12_carry 24 = .ok (.bipush 16, 2) := by decide +kernel
theorem dX12_carry_26 : decode cX12_carry 26 = .ok (.iload_n 1, 1) := by decide +kernel
theorem dX12_carry_27 : decode cX12_carry 27 = .ok (.imul, 1) := by decide +kernel
theorem dX12_carry_28 : decode cX12_carry 28 = .ok (.iload_n 2, 1) := by decide +kernel
theorem dX12_carry_29 : decode cX12_carry 29 = .ok (.iadd, 1) := by decide +kernel
theorem dX12_carry_30 : decode cX12_carry 30 = .ok (.lload_n 3, 1) := by decide +kernel
theorem dX12_carry_31 : decode cX12_carry 31 = .ok (.ldc2_w 77, 3) := by decide +kernel
theorem dX12_carry_34 : decode cX12_carry 34 = .ok (.invokestatic 79, 3) := by decide +kernel
theorem dX12_carry_37 : decode cX12_carry 37 = .ok (.lastore, 1) := by decide +kernel
theorem dX12_carry_38 : decode cX12_carry 38 = .ok (.aload_n 0, 1) := by decide +kernel
theorem dX12_carry_39 : decode cX12_carry 39 = .ok (.getfield 9, 3) := by decide +kernel
theorem dX12_carry_42 : decode cX12_carry 42 = .ok (.bipush 16, 2) := by decide +kernel
theorem dX12_carry_44 : decode cX12_carry 44 = .ok (.iload_n 1, 1) := by decide +kernel
theorem dX12_carry_45 : decode cX12_carry 45 = .ok (.imul, 1) := by decide +kernel
theorem dX12_carry_46 : decode cX12_carry 46 = .ok (.iload_n 2, 1) := by decide +kernel
theorem dX12_carry_47 : decode cX12_carry 47 = .ok (.iadd, 1) := by decide +kernel
theorem dX12_carry_48 : decode cX12_carry 48 = .ok (.iconst 1, 1) := by decide +kernel
theorem dX12_carry_49 : decode cX12_carry 49 = .ok (.iadd, 1) := by decide +kernel
theorem dX12_carry_50 : decode cX12_carry 50 = .ok (.dup2, 1) := by decide +kernel
theorem dX12_carry_51 : decode cX12_carry 51 = .ok (.laload, 1) := by decide +kernel
theorem dX12_carry_52 : decode cX12_carry 52 = .ok (.lload_n 3, 1) := by decide +kernel
theorem dX12_carry_53 : decode cX12_carry 53 = .ok (.ldc2_w 77, 3) := by decide +kernel
theorem dX12_carry_56 : decode cX12_carry 56 = .ok (.invokestatic 85, 3) := by decide +kernel
theorem dX12_carry_59 : decode cX12_carry 59 = .ok (.ladd, 1) := by decide +kernel
theorem dX12_carry_60 : decode cX12_carry 60 = .ok (.lastore, 1) := by decide +kernel
theorem dX12_carry_61 : decode cX12_carry 61 = .ok (.iinc 2 1, 3) := by decide +kernel
theorem dX12_carry_64 : decode cX12_carry 64 = .ok (.goto (-62), 3) := by decide +kernel
theorem dX12_carry_67 : decode cX12_carry 67 = .ok (.return_, 1) := by decide +kernel
theorem dX12_set_0 : decode cX12_set 0 = .ok (.iconst 0, 1) := by decide +kernel
theorem dX12_set_1 : decode cX12_set 1 = .ok (.istore 4, 2) := by decide +kernel
theorem dX12_set_3 : decode cX12_set 3 = .ok (.iload 4, 2) := by decide +kernel
theorem dX12_set_5 : decode cX12_set 5 = .ok (.bipush 16, 2) := by decide +kernel
theorem dX12_set_7 : decode cX12_set 7 = .ok (.if_icmp .ge 31, 3) := by decide +kernel
theorem dX12_set_10 : decode cX12_set 10 = .ok (.aload_n 0, 1) := by decide +kernel
theorem dX12_set_11 : decode cX12_set 11 = .ok (.getfield 9, 3) := by decide +kernel
theorem dX12_set_14 : decode cX12_set 14 = .ok (.bipush 16, 2) := by decide +kernel
theorem dX12_set_16 : decode cX12_set 16 = .ok (.iload_n 1, 1) := by decide +kernel
theorem dX12_set_17 : decode cX12_set 17 = .ok (.imul, 1) := by decide +kernel
theorem dX12_set_18 : decode cX12_set 18 = .ok (.iload 4, 2) := by decide +kernel
theorem dX12_set_20 : decode cX12_set 20 = .ok (.iadd, 1) := by decide +kernel
theorem dX12_set_21 : decode cX12_set 21 = .ok (.iload 4, 2) := by decide +kernel
theorem dX12_set_23 : decode cX12_set 23 = .ok (.ifCond .ne 7, 3) := by decide +kernel
theorem dX12_set_26 : decode cX12_set 26 = .ok (.lload_n 2, 1) := by decide +kernel
theorem dX12_set_27 : decode cX12_set 27 = .ok (.goto 4, 3) := by decide +kernel
theorem dX12_set_30 : decode cX12_set 30 = .ok (.lconst 0, 1) := by decide +kernel
theorem dX12_set_31 : decode cX12_set 31 = .ok (.lastore, 1) := by decide +kernel
theorem dX12_set_32 : decode cX12_set 32 = .ok (.iinc 4 1, 3) := by decide +kernel
theorem dX12_set_35 : decode cX12_set 35 = .ok (.goto (-32), 3) := by decide +kernel
theorem dX12_set_38 : decode cX12_set 38 = .ok (.aload_n 0, 1) := by decide +kernel
theorem dX12_set_39 : decode cX12_set 39 = .ok (.iload_n 1, 1) := by decide +kernel
theorem dX12_set_40 : decode cX12_set 40 = .ok (.invokevirtual 88, 3) := by decide +kernel
theorem dX12_set_43 : decode cX12_set 43 = .ok (.return_, 1) := by decide +kernel
theorem dX12_copy_0 : decode cX12_copy 0 = .ok (.iconst 0, 1) := by decide +kernel
theorem dX12_copy_1 : decode cX12_copy 1 = .ok (.istore_n 3, 1) := by decide +kernel
theorem dX12_copy_2 : decode cX12_copy 2 = .ok (.iload_n 3, 1) := by decide +kernel
theorem dX12_copy_3 : decode cX12_copy 3 = .ok (.bipush 16, 2) := by decide +kernel
theorem dX12_copy_5 : decode cX12_copy 5 = .ok (.if_icmp .ge 31, 3) := by decide +kernel
theorem dX12_copy_8 : decode cX12_copy 8 = .ok (.aload_n 0, 1) := by decide +kernel
theorem dX12_copy_9 : decode cX12_copy 9 = .ok (.getfield 9, 3) := by decide +kernel
theorem dX12_copy_12 : decode cX12_copy 12 = .ok (.bipush 16, 2) := by decide +kernel
theorem dX12_copy_14 : decode cX12_copy 14 = .ok (.iload_n 1, 1) := by decide +kernel
theorem dX12_copy_15 : decode cX12_copy 15 = .ok (.imul, 1) := by decide +kernel
theorem dX12_copy_16 : decode cX12_copy 16 = .ok (.iload_n 3, 1) := by decide +kernel
theorem dX12_copy_17 : decode cX12_copy 17 = .ok (.iadd, 1) := by decide +kernel
theorem dX12_copy_18 : decode cX12_copy 18 = .ok (.aload_n 0, 1) := by decide +kernel
theorem dX12_copy_19 : decode cX12_copy 19 = .ok (.getfield 9, 3) := by decide +kernel
theorem dX12_copy_22 : decode cX12_copy 22 = .ok (.bipush 16, 2) := by decide +kernel
theorem dX12_copy_24 : decode cX12_copy 24 = .ok (.iload_n 2, 1) := by decide +kernel
theorem dX12_copy_25 : decode cX12_copy 25 = .ok (.imul, 1) := by decide +kernel
theorem dX12_copy_26 : decode cX12_copy 26 = .ok (.iload_n 3, 1) := by decide +kernel
theorem dX12_copy_27 : decode cX12_copy 27 = .ok (.iadd, 1) := by decide +kernel
theorem dX12_copy_28 : decode cX12_copy 28 = .ok (.laload, 1) := by decide +kernel
theorem dX12_copy_29 : decode cX12_copy 29 = .ok (.lastore, 1) := by decide +kernel
theorem dX12_copy_30 : decode cX12_copy 30 = .ok (.iinc 3 1, 3) := by decide +kernel
theorem dX12_copy_33 : decode cX12_copy 33 = .ok (.goto (-31), 3) := by decide +kernel
theorem dX12_copy_36 : decode cX12_copy 36 = .ok (.return_, 1) := by decide +kernel
theorem dX12_more_0 : decode cX12_more 0 = .ok (.iconst 0, 1) := by decide +kernel
theorem dX12_more_1 : decode cX12_more 1 = .ok (.istore 5, 2) := by decide +kernel
theorem dX12_more_3 : decode cX12_more 3 = .ok (.iload 5, 2) := by decide +kernel
theorem dX12_more_5 : decode cX12_more 5 = .ok (.bipush 16, 2) := by decide +kernel
theorem dX12_more_7 : decode cX12_more 7 = .ok (.if_icmp .ge 38, 3) := by decide +kernel
theorem dX12_more_10 : decode cX12_more 10 = .ok (.aload_n 0, 1) := by decide +kernel
theorem dX12_more_11 : decode cX12_more 11 = .ok (.getfield 9, 3) := by decide +kernel
theorem dX12_more_14 : decode cX12_more 14 = .ok (.bipush 16, 2) := by decide +kernel
theorem dX12_more_16 : decode cX12_more 16 = .ok (.iload_n 1, 1) := by decide +kernel
theorem dX12_more_17 : decode cX12_more 17 = .ok (.imul, 1) := by decide +kernel
theorem dX12_more_18 : decode cX12_more 18 = .ok (.iload 5, 2) := by decide +kernel
theorem dX12_more_20 : decode cX12_more 20 = .ok (.iadd, 1) := by decide +kernel
theorem dX12_more_21 : decode cX12_more 21 = .ok (.dup2, 1) := by decide +kernel
theorem dX12_more_22 : decode cX12_more 22 = .ok (.laload, 1) := by decide +kernel
theorem dX12_more_23 : decode cX12_more 23 = .ok (.aload_n 0, 1) := by decide +kernel
theorem dX12_more_24 : decode cX12_more 24 = .ok (.getfield 9, 3) := by decide +kernel
theorem dX12_more_27 : decode cX12_more 27 = .ok (.bipush 16, 2) := by decide +kernel
theorem dX12_more_29 : decode cX12_more 29 = .ok (.iload_n 2, 1) := by decide +kernel
theorem dX12_more_30 : decode cX12_more 30 = .ok (.imul, 1) := by decide +kernel
theorem dX12_more_31 : decode cX12_more 31 = .ok (.iload 5, 2) := by decide +kernel
theorem dX12_more_33 : decode cX12_more 33 = .ok (.iadd, 1) := by decide +kernel
theorem dX12_more_34 : decode cX12_more 34 = .ok (.laload, 1) := by decide +kernel
theorem dX12_more_35 : decode cX12_more 35 = .ok (.lload_n 3, 1) := by decide +kernel
theorem dX12_more_36 : decode cX12_more 36 = .ok (.lmul, 1) := by decide +kernel
theorem dX12_more_37 : decode cX12_more 37 = .ok (.ladd, 1) := by decide +kernel
theorem dX12_more_38 : decode cX12_more 38 = .ok (.lastore, 1) := by decide +kernel
theorem dX12_more_39 : decode cX12_more 39 = .ok (.iinc 5 1, 3) := by decide +kernel
theorem dX12_more_42 : decode cX12_more 42 = .ok (.goto (-39), 3) := by decide +kernel
theorem dX12_more_45 : decode cX12_more 45 = .ok (.aload_n 0, 1) := by decide +kernel
theorem dX12_more_46 : decode cX12_more 46 = .ok (.iload_n 1, 1) := by decide +kernel
theorem dX12_more_47 : decode cX12_more 47 = .ok (.invokevirtual 88, 3) := by decide +kernel
theorem dX12_more_50 : decode cX12_more 50 = .ok (.return_, 1) := by decide +kernel
theorem dX12_isBelow_0 : decode cX12_isBelow 0 = .ok (.aload_n 0, 1) := by decide +kernel
theorem dX12_isBelow_1 : decode cX12_isBelow 1 = .ok (.getfield 9, 3) := by decide +kernel
theorem dX12_isBelow_4 : decode cX12_isBelow 4 = .ok (.bipush 16, 2) := by decide +kernel
theorem dX12_isBelow_6 : decode cX12_isBelow 6 = .ok (.iload_n 1, 1) := by decide +kernel
theorem dX12_isBelow_7 : decode cX12_isBelow 7 = .ok (.imul, 1) := by decide +kernel
theorem dX12_isBelow_8 : decode cX12_isBelow 8 = .ok (.bipush 16, 2) := by decide +kernel
theorem dX12_isBelow_10 : decode cX12_isBelow 10 = .ok (.iadd, 1) := by decide +kernel
theorem dX12_isBelow_11 : decode cX12_isBelow 11 = .ok (.iconst 1, 1) := by decide +kernel
theorem dX12_isBelow_12 : decode cX12_isBelow 12 = .ok (.isub, 1) := by decide +kernel
theorem dX12_isBelow_13 : decode cX12_isBelow 13 = .ok (.laload, 1) := by decide +kernel
theorem dX12_isBelow_14 : decode cX12_isBelow 14 = .ok (.lconst 0, 1) := by decide +kernel
theorem dX12_isBelow_15 : decode cX12_isBelow 15 = .ok (.lcmp, 1) := by decide +kernel
theorem dX12_isBelow_16 : decode cX12_isBelow 16 = .ok (.ifCond .ge 7, 3) := by decide +kernel
theorem dX12_isBelow_19 : decode cX12_isBelow 19 = .ok (.iconst 1, 1) := by decide +kernel
theorem dX12_isBelow_20 : decode cX12_isBelow 20 = .ok (.goto 4, 3) := by decide +kernel
theorem dX12_isBelow_23 : decode cX12_isBelow 23 = .ok (.iconst 0, 1) := by decide +kernel
theorem dX12_isBelow_24 : decode cX12_isBelow 24 = .ok (.ireturn, 1) := by decide +kernel
theorem dX12_isZero_0 : decode cX12_isZero 0 = .ok (.iconst 0, 1) := by decide +kernel
theorem dX12_isZero_1 : decode cX12_isZero 1 = .ok (.istore_n 2, 1) := by decide +kernel
theorem dX12_isZero_2 : decode cX12_isZero 2 = .ok (.iload_n 2, 1) := by decide +kernel
theorem dX12_isZero_3 : decode cX12_isZero 3 = .ok (.bipush 16, 2) := by decide +kernel
theorem dX12_isZero_5 : decode cX12_isZero 5 = .ok (.if_icmp .ge 27, 3) := by decide +kernel
theorem dX12_isZero_8 : decode cX12_isZero 8 = .ok (.aload_n 0, 1) := by decide +kernel
theorem dX12_isZero_9 : decode cX12_isZero 9 = .ok (.getfield 9, 3) := by decide +kernel
theorem dX12_isZero_12 : decode cX12_isZero 12 = .ok (.bipush 16, 2) := by decide +kernel
theorem dX12_isZero_14 : decode cX12_isZero 14 = .ok (.iload_n 1, 1) := by decide +kernel
theorem dX12_isZero_15 : decode cX12_isZero 15 = .ok (.imul, 1) := by decide +kernel
theorem dX12_isZero_16 : decode cX12_isZero 16 = .ok (.iload_n 2, 1) := by decide +kernel
theorem dX12_isZero_17 : decode cX12_isZero 17 = .ok (.iadd, 1) := by decide +kernel
theorem dX12_isZero_18 : decode cX12_isZero 18 = .ok (.laload, 1) := by decide +kernel
theorem dX12_isZero_19 : decode cX12_isZero 19 = .ok (.lconst 0, 1) := by decide +kernel
theorem dX12_isZero_20 : decode cX12_isZero 20 = .ok (.lcmp, 1) := by decide +kernel
theorem dX12_isZero_21 : decode cX12_isZero 21 = .ok (.ifCond .eq 5, 3) := by decide +kernel
theorem dX12_isZero_24 : decode cX12_isZero 24 = .ok (.iconst 0, 1) := by decide +kernel
theorem dX12_isZero_25 : decode cX12_isZero 25 = .ok (.ireturn, 1) := by decide +kernel
theorem dX12_isZero_26 : decode cX12_isZero 26 = .ok (.iinc 2 1, 3) := by decide +kernel
theorem dX12_isZero_29 : decode cX12_isZero 29 = .ok (.goto (-27), 3) := by decide +kernel
theorem dX12_isZero_32 : decode cX12_isZero 32 = .ok (.iconst 1, 1) := by decide +kernel
theorem dX12_isZero_33 : decode cX12_isZero 33 = .ok (.ireturn, 1) := by decide +kernel
theorem dX12_turn_0 : decode cX12_turn 0 = .ok (.iconst 0, 1) := by decide +kernel
theorem dX12_turn_1 : decode cX12_turn 1 = .ok (.istore_n 2, 1) := by decide +kernel
theorem dX12_turn_2 : decode cX12_turn 2 = .ok (.iload_n 2, 1) := by decide +kernel
theorem dX12_turn_3 : decode cX12_turn 3 = .ok (.bipush 16, 2) := by decide +kernel
theorem dX12_turn_5 : decode cX12_turn 5 = .ok (.if_icmp .ge 32, 3) := by decide +kernel
theorem dX12_turn_8 : decode cX12_turn 8 = .ok (.aload_n 0, 1) := by decide +kernel
theorem dX12_turn_9 : decode cX12_turn 9 = .ok (.getfield 9, 3) := by decide +kernel
theorem dX12_turn_12 : decode cX12_turn 12 = .ok (.bipush 16, 2) := by decide +kernel
theorem dX12_turn_14 : decode cX12_turn 14 = .ok (.iload_n 1, 1) := by decide +kernel
theorem dX12_turn_15 : decode cX12_turn 15 = .ok (.imul, 1) := by decide +kernel
theorem dX12_turn_16 : decode cX12_turn 16 = .ok (.iload_n 2, 1) := by decide +kernel
theorem dX12_turn_17 : decode cX12_turn 17 = .ok (.iadd, 1) := by decide +kernel
theorem dX12_turn_18 : decode cX12_turn 18 = .ok (.aload_n 0, 1) := by decide +kernel
theorem dX12_turn_19 : decode cX12_turn 19 = .ok (.getfield 9, 3) := by decide +kernel
theorem dX12_turn_22 : decode cX12_turn 22 = .ok (.bipush 16, 2) := by decide +kernel
theorem dX12_turn_24 : decode cX12_turn 24 = .ok (.iload_n 1, 1) := by decide +kernel
theorem dX12_turn_25 : decode cX12_turn 25 = .ok (.imul, 1) := by decide +kernel
theorem dX12_turn_26 : decode cX12_turn 26 = .ok (.iload_n 2, 1) := by decide +kernel
theorem dX12_turn_27 : decode cX12_turn 27 = .ok (.iadd, 1) := by decide +kernel
theorem dX12_turn_28 : decode cX12_turn 28 = .ok (.laload, 1) := by decide +kernel
theorem dX12_turn_29 : decode cX12_turn 29 = .ok (.lneg, 1) := by decide +kernel
theorem dX12_turn_30 : decode cX12_turn 30 = .ok (.lastore, 1) := by decide +kernel
theorem dX12_turn_31 : decode cX12_turn 31 = .ok (.iinc 2 1, 3) := by decide +kernel
theorem dX12_turn_34 : decode cX12_turn 34 = .ok (.goto (-32), 3) := by decide +kernel
theorem dX12_turn_37 : decode cX12_turn 37 = .ok (.aload_n 0, 1) := by decide +kernel
theorem dX12_turn_38 : decode cX12_turn 38 = .ok (.iload_n 1, 1) := by decide +kernel
theorem dX12_turn_39 : decode cX12_turn 39 = .ok (.invokevirtual 88, 3) := by decide +kernel
theorem dX12_turn_42 : decode cX12_turn 42 = .ok (.return_, 1) := by decide +kernel
theorem dX12_sign_0 : decode cX12_sign 0 = .ok (.aload_n 0, 1) := by decide +kernel
theorem dX12_sign_1 : decode cX12_sign 1 = .ok (.iload_n 1, 1) := by decide +kernel
theorem dX12_sign_2 : decode cX12_sign 2 = .ok (.invokevirtual 92, 3) := by decide +kernel
theorem dX12_sign_5 : decode cX12_sign 5 = .ok (.ifCond .eq 7, 3) := by decide +kernel
theorem dX12_sign_8 : decode cX12_sign 8 = .ok (.iconst 0, 1) := by decide +kernel
theorem dX12_sign_9 : decode cX12_sign 9 = .ok (.goto 16, 3) := by decide +kernel
theorem dX12_sign_12 : decode cX12_sign 12 = .ok (.aload_n 0, 1) := by decide +kernel
theorem dX12_sign_13 : decode cX12_sign 13 = .ok (.iload_n 1, 1) := by decide +kernel
theorem dX12_sign_14 : decode cX12_sign 14 = .ok (.invokevirtual 96, 3) := by decide +kernel
theorem dX12_sign_17 : decode cX12_sign 17 = .ok (.ifCond .eq 7, 3) := by decide +kernel
theorem dX12_sign_20 : decode cX12_sign 20 = .ok (.iconst (-1), 1) := by decide +kernel
theorem dX12_sign_21 : decode cX12_sign 21 = .ok (.goto 4, 3) := by decide +kernel
theorem dX12_sign_24 : decode cX12_sign 24 = .ok (.iconst 1, 1) := by decide +kernel
theorem dX12_sign_25 : decode cX12_sign 25 = .ok (.ireturn, 1) := by decide +kernel
theorem dX12_bare_0 : decode cX12_bare 0 = .ok (.aload_n 0, 1) := by decide +kernel
theorem dX12_bare_1 : decode cX12_bare 1 = .ok (.iload_n 1, 1) := by decide +kernel
theorem dX12_bare_2 : decode cX12_bare 2 = .ok (.invokevirtual 96, 3) := by decide +kernel
theorem dX12_bare_5 : decode cX12_bare 5 = .ok (.istore_n 3, 1) := by decide +kernel
theorem dX12_bare_6 : decode cX12_bare 6 = .ok (.iload_n 3, 1) := by decide +kernel
theorem dX12_bare_7 : decode cX12_bare 7 = .ok (.ifCond .eq 8, 3) := by decide +kernel
theorem dX12_bare_10 : decode cX12_bare 10 = .ok (.aload_n 0, 1) := by decide +kernel
theorem dX12_bare_11 : decode cX12_bare 11 = .ok (.iload_n 1, 1) := by decide +kernel
theorem dX12_bare_12 : decode cX12_bare 12 = .ok (.invokevirtual 99, 3) := by decide +kernel
theorem dX12_bare_15 : decode cX12_bare 15 = .ok (.iconst 0, 1) := by decide +kernel
theorem dX12_bare_16 : decode cX12_bare 16 = .ok (.istore 4, 2) := by decide +kernel
theorem dX12_bare_18 : decode cX12_bare 18 = .ok (.iload 4, 2) := by decide +kernel
theorem dX12_bare_20 : decode cX12_bare 20 = .ok (.bipush 16, 2) := by decide +kernel
theorem dX12_bare_22 : decode cX12_bare 22 = .ok (.if_icmp .ge 25, 3) := by decide +kernel
theorem dX12_bare_25 : decode cX12_bare 25 = .ok (.aload_n 2, 1) := by decide +kernel
theorem dX12_bare_26 : decode cX12_bare 26 = .ok (.iload 4, 2) := by decide +kernel
theorem dX12_bare_28 : decode cX12_bare 28 = .ok (.aload_n 0, 1) := by decide +kernel
theorem dX12_bare_29 : decode cX12_bare 29 = .ok (.getfield 9, 3) := by decide +kernel
theorem dX12_bare_32 : decode cX12_bare 32 = .ok (.bipush 16, 2) := by decide +kernel
theorem dX12_bare_34 : decode cX12_bare 34 = .ok (.iload_n 1, 1) := by decide +kernel
theorem dX12_bare_35 : decode cX12_bare 35 = .ok (.imul, 1) := by decide +kernel
theorem dX12_bare_36 : decode cX12_bare 36 = .ok (.iload 4, 2) := by decide +kernel
theorem dX12_bare_38 : decode cX12_bare 38 = .ok (.iadd, 1) := by decide +kernel
theorem dX12_bare_39 : decode cX12_bare 39 = .ok (.laload, 1) := by decide +kernel
theorem dX12_bare_40 : decode cX12_bare 40 = .ok (.lastore, 1) := by decide +kernel
theorem dX12_bare_41 : decode cX12_bare 41 = .ok (.iinc 4 1, 3) := by decide +kernel
theorem dX12_bare_44 : decode cX12_bare 44 = .ok (.goto (-26), 3) := by decide +kernel
theorem dX12_bare_47 : decode cX12_bare 47 = .ok (.iload_n 3, 1) := by decide +kernel
theorem dX12_bare_48 : decode cX12_bare 48 = .ok (.ifCond .eq 8, 3) := by decide +kernel
theorem dX12_bare_51 : decode cX12_bare 51 = .ok (.aload_n 0, 1) := by decide +kernel
theorem dX12_bare_52 : decode cX12_bare 52 = .ok (.iload_n 1, 1) := by decide +kernel
theorem dX12_bare_53 : decode cX12_bare 53 = .ok (.invokevirtual 99, 3) := by decide +kernel
theorem dX12_bare_56 : decode cX12_bare 56 = .ok (.return_, 1) := by decide +kernel
theorem dX12_length_0 : decode cX12_length 0 = .ok (.bipush 16, 2) := by decide +kernel
theorem dX12_length_2 : decode cX12_length 2 = .ok (.istore_n 1, 1) := by decide +kernel
theorem dX12_length_3 : decode cX12_length 3 = .ok (.iload_n 1, 1) := by decide +kernel
theorem dX12_length_4 : decode cX12_length 4 = .ok (.ifCond .le 19, 3) := by decide +kernel
theorem dX12_length_7 : decode cX12_length 7 = .ok (.aload_n 0, 1) := by decide +kernel
theorem dX12_length_8 : decode cX12_length 8 = .ok (.iload_n 1, 1) := by decide +kernel
theorem dX12_length_9 : decode cX12_length 9 = .ok (.iconst 1, 1) := by decide +kernel
theorem dX12_length_10 : decode cX12_length 10 = .ok (.isub, 1) := by decide +kernel
theorem dX12_length_11 : decode cX12_length 11 = .ok (.laload, 1) := by decide +kernel
theorem dX12_length_12 : decode cX12_length 12 = .ok (.lconst 0, 1) := by decide +kernel
theorem dX12_length_13 : decode cX12_length 13 = .ok (.lcmp, 1) := by decide +kernel
theorem dX12_length_14 : decode cX12_length 14 = .ok (.ifCond .ne 9, 3) := by decide +kernel
theorem dX12_length_17 : decode cX12_length 17 = .ok (.iinc 1 (-1), 3) := by decide +kernel
theorem dX12_length_20 : decode cX12_length 20 = .ok (.goto (-17), 3) := by decide +kernel
theorem dX12_length_23 : decode cX12_length 23 = .ok (.iload_n 1, 1) := by decide +kernel
theorem dX12_length_24 : decode cX12_length 24 = .ok (.ireturn, 1) := by decide +kernel
theorem dX12_times_0 : decode cX12_times 0 = .ok (.aload_n 0, 1) := by decide +kernel
theorem dX12_times_1 : decode cX12_times 1 = .ok (.iload_n 2, 1) := by decide +kernel
theorem dX12_times_2 : decode cX12_times 2 = .ok (.invokevirtual 96, 3) := by decide +kernel
theorem dX12_times_5 : decode cX12_times 5 = .ok (.aload_n 0, 1) := by decide +kernel
theorem dX12_times_6 : decode cX12_times 6 = .ok (.iload_n 3, 1) := by decide +kernel
theorem dX12_times_7 : decode cX12_times 7 = .ok (.invokevirtual 96, 3) := by decide +kernel
theorem dX12_times_10 : decode cX12_times 10 = .ok (.if_icmp .eq 7, 3) := by decide +kernel
theorem dX12_times_13 : decode cX12_times 13 = .ok (.iconst 1, 1) := by decide +kernel
theorem dX12_times_14 : decode cX12_times 14 = .ok (.goto 4, 3) := by decide +kernel
theorem dX12_times_17 : decode cX12_times 17 = .ok (.iconst 0, 1) := by decide +kernel
theorem dX12_times_18 : decode cX12_times 18 = .ok (.istore 4, 2) := by decide +kernel
theorem dX12_times_20 : decode cX12_times 20 = .ok (.aload_n 0, 1) := by decide +kernel
theorem dX12_times_21 : decode cX12_times 21 = .ok (.iload_n 2, 1) := by decide +kernel
theorem dX12_times_22 : decode cX12_times 22 = .ok (.aload_n 0, 1) := by decide +kernel
theorem dX12_times_23 : decode cX12_times 23 = .ok (.getfield 45, 3) := by decide +kernel
theorem dX12_times_26 : decode cX12_times 26 = .ok (.invokevirtual 102, 3) := by decide +kernel
theorem dX12_times_29 : decode cX12_times 29 = .ok (.aload_n 0, 1) := by decide +kernel
theorem dX12_times_30 : decode cX12_times 30 = .ok (.iload_n 3, 1) := by decide +kernel
theorem dX12_times_31 : decode cX12_times 31 = .ok (.aload_n 0, 1) := by decide +kernel
theorem dX12_times_32 : decode cX12_times 32 = .ok (.getfield 48, 3) := by decide +kernel
theorem dX12_times_35 : decode cX12_times 35 = .ok (.invokevirtual 102, 3) := by decide +kernel
theorem dX12_times_38 : decode cX12_times 38 = .ok (.iconst 0, 1) := by decide +kernel
theorem dX12_times_39 : decode cX12_times 39 = .ok (.istore 5, 2) := by decide +kernel
theorem dX12_times_41 : decode cX12_times 41 = .ok (.iload 5, 2) := by decide +kernel
theorem dX12_times_43 : decode cX12_times 43 = .ok (.bipush 16, 2) := by decide +kernel
theorem dX12_times_45 : decode cX12_times 45 = .ok (.if_icmp .ge 17, 3) := by decide +kernel
theorem dX12_times_48 : decode cX12_times 48 = .ok (.aload_n 0, 1) := by decide +kernel
theorem dX12_times_49 : decode cX12_times 49 = .ok (.getfield 51, 3) := by decide +kernel
theorem dX12_times_52 : decode cX12_times 52 = .ok (.iload 5, 2) := by decide +kernel
theorem dX12_times_54 : decode cX12_times 54 = .ok (.lconst 0, 1) := by decide +kernel
theorem dX12_times_55 : decode cX12_times 55 = .ok (.lastore, 1) := by decide +kernel
theorem dX12_times_56 : decode cX12_times 56 = .ok (.iinc 5 1, 3) := by decide +kernel
theorem dX12_times_59 : decode cX12_times 59 = .ok (.goto (-18), 3) := by decide +kernel
theorem dX12_times_62 : decode cX12_times 62 = .ok (.aload_n 0, 1) := by decide +kernel
theorem dX12_times_63 : decode cX12_times 63 = .ok (.getfield 45, 3) := by decide +kernel
theorem dX12_times_66 : decode cX12_times 66 = .ok (.invokestatic 106, 3) := by decide +kernel
theorem dX12_times_69 : decode cX12_times 69 = .ok (.istore 5, 2) := by decide +kernel
theorem dX12_times_71 : decode cX12_times 71 = .ok (.aload_n 0, 1) := by decide +kernel
theorem dX12_times_72 : decode cX12_times 72 = .ok (.getfield 48, 3) := by decide +kernel
theorem dX12_times_75 : decode cX12_times 75 = .ok (.invokestatic 106, 3) := by decide +kernel
theorem dX12_times_78 : decode cX12_times 78 = .ok (.istore 6, 2) := by decide +kernel
theorem dX12_times_80 : decode cX12_times 80 = .ok (.iconst 0, 1) := by decide +kernel
theorem dX12_times_81 : decode cX12_times 81 = .ok (.istore 7, 2) := by decide +kernel
theorem dX12_times_83 : decode cX12_times 83 = .ok (.iload 7, 2) := by decide +kernel
theorem dX12_times_85 : decode cX12_times 85 = .ok (.iload 5, 2) := by decide +kernel
theorem dX12_times_87 : decode cX12_times 87 = .ok (.if_icmp .ge 100, 3) := by decide +kernel
theorem dX12_times_90 : decode cX12_times 90 = .ok (.lconst 0, 1) := by decide +kernel
theorem dX12_times_91 : decode cX12_times 91 = .ok (.lstore 8, 2) := by decide +kernel
theorem dX12_times_93 : decode cX12_times 93 = .ok (.iconst 0, 1) := by decide +kernel
theorem dX12_times_94 : decode cX12_times 94 = .ok (.istore 10, 2) := by decide +kernel
theorem dX12_times_96 : decode cX12_times 96 = .ok (.iload 7, 2) := by decide +kernel
theorem dX12_times_98 : decode cX12_times 98 = .ok (.iload 10, 2) := by decide +kernel
theorem dX12_times_100 : decode cX12_times 100 = .ok (.iadd, 1) := by decide +kernel
theorem dX12_times_101 : decode cX12_times 101 = .ok (.bipush 16, 2) := by decide +kernel
theorem dX12_times_103 : decode cX12_times 103 = .ok (.if_icmp .ge 78, 3) := by decide +kernel
theorem dX12_times_106 : decode cX12_times 106 = .ok (.iload 10, 2) := by decide +kernel
theorem dX12_times_108 : decode cX12_times 108 = .ok (.iload 6, 2) := by decide +kernel
theorem dX12_times_110 : decode cX12_times 110 = .ok (.if_icmp .lt 10, 3) := by decide +kernel
theorem dX12_times_113 : decode cX12_times 113 = .ok (.lload 8, 2) := by decide +kernel
theorem dX12_times_115 : decode cX12_times 115 = .ok (.lconst 0, 1) := by decide +kernel
theorem dX12_times_116 : decode cX12_times 116 = .ok (.lcmp, 1) := by decide +kernel
theorem dX12_times_117 : decode cX12_times 117 = .ok (.ifCond .le 64, 3) := by decide +kernel
theorem dX12_times_120 : decode cX12_times 120 = .ok (.aload_n 0, 1) := by decide +kernel
theorem dX12_times_121 : decode cX12_times 121 = .ok (.getfield 51, 3) := by decide +kernel
theorem dX12_times_124 : decode cX12_times 124 = .ok (.iload 7, 2) := by decide +kernel
theorem dX12_times_126 : decode cX12_times 126 = .ok (.iload 10, 2) := by decide +kernel
theorem dX12_times_128 : decode cX12_times 128 = .ok (.iadd, 1) := by decide +kernel
theorem dX12_times_129 : decode cX12_times 129 = .ok (.laload, 1) := by decide +kernel
theorem dX12_times_130 : decode cX12_times 130 = .ok (.aload_n 0, 1) := by decide +kernel
theorem dX12_times_131 : decode cX12_times 131 = .ok (.getfield 45, 3) := by decide +kernel
theorem dX12_times_134 : decode cX12_times 134 = .ok (.iload 7, 2) := by decide +kernel
theorem dX12_times_136 : decode cX12_times 136 = .ok (.laload, 1) := by decide +kernel
theorem dX12_times_137 : decode cX12_times 137 = .ok (.aload_n 0, 1) := by decide +kernel
theorem dX12_times_138 : decode cX12_times 138 = .ok (.getfield 48, 3) := by decide +kernel
theorem dX12_times_141 : decode cX12_times 141 = .ok (.iload 10, 2) := by decide +kernel
theorem dX12_times_143 : decode cX12_times 143 = .ok (.laload, 1) := by decide +kernel
theorem dX12_times_144 : decode cX12_times 144 = .ok (.lmul, 1) := by decide +kernel
theorem dX12_times_145 : decode cX12_times 145 = .ok (.ladd, 1) := by decide +kernel
theorem dX12_times_146 : decode cX12_times 146 = .ok (.lload 8, 2) := by decide +kernel
theorem dX12_times_148 : decode cX12_times 148 = .ok (.ladd, 1) := by decide +kernel
theorem dX12_times_149 : decode cX12_times 149 = .ok (.lstore 11, 2) := by decide +kernel
theorem dX12_times_151 : decode cX12_times 151 = .ok (.aload_n 0, 1) := by decide +kernel
theorem dX12_times_152 : decode cX12_times 152 = .ok (.getfield 51, 3) := by decide +kernel
theorem dX12_times_155 : decode cX12_times 155 = .ok (.iload 7, 2) := by decide +kernel
theorem dX12_times_157 : decode cX12_times 157 = .ok (.iload 10, 2) := by decide +kernel
theorem dX12_times_159 : decode cX12_times 159 = .ok (.iadd, 1) := by decide +kernel
theorem dX12_times_160 : decode cX12_times 160 = .ok (.lload 11, 2) := by decide +kernel
theorem dX12_times_162 : decode cX12_times 162 = .ok (.ldc2_w 77, 3) := by decide +kernel
theorem dX12_times_165 : decode cX12_times 165 = .ok (.lrem, 1) := by decide +kernel
theorem dX12_times_166 : decode cX12_times 166 = .ok (.lastore, 1) := by decide +kernel
theorem dX12_times_167 : decode cX12_times 167 = .ok (.lload 11, 2) := by decide +kernel
theorem dX12_times_169 : decode cX12_times 169 = .ok (.ldc2_w 77, 3) := by decide +kernel
theorem dX12_times_172 : decode cX12_times 172 = .ok (.ldiv, 1) := by decide +kernel
theorem dX12_times_173 : decode cX12_times 173 = .ok (.lstore 8, 2) := by decide +kernel
theorem dX12_times_175 : decode cX12_times 175 = .ok (.iinc 10 1, 3) := by decide +kernel
theorem dX12_times_178 : decode cX12_times 178 = .ok (.goto (-82), 3) := by decide +kernel
theorem dX12_times_181 : decode cX12_times 181 = .ok (.iinc 7 1, 3) := by decide +kernel
theorem dX12_times_184 : decode cX12_times 184 = .ok (.goto (-101), 3) := by decide +kernel
theorem dX12_times_187 : decode cX12_times 187 = .ok (.iconst 0, 1) := by decide +kernel
theorem dX12_times_188 : decode cX12_times 188 = .ok (.istore 7, 2) := by decide +kernel
theorem dX12_times_190 : decode cX12_times 190 = .ok (.iload 7, 2) := by decide +kernel
theorem dX12_times_192 : decode cX12_times 192 = .ok (.bipush 16, 2) := by decide +kernel
theorem dX12_times_194 : decode cX12_times 194 = .ok (.if_icmp .ge 28, 3) := by decide +kernel
theorem dX12_times_197 : decode cX12_times 197 = .ok (.aload_n 0, 1) := by decide +kernel
theorem dX12_times_198 : decode cX12_times 198 = .ok (.getfield 9, 3) := by decide +kernel
theorem dX12_times_201 : decode cX12_times 201 = .ok (.bipush 16, 2) := by decide +kernel
theorem dX12_times_203 : decode cX12_times 203 = .ok (.iload_n 1, 1) := by decide +kernel
theorem dX12_times_204 : decode cX12_times 204 = .ok (.imul, 1) := by decide +kernel
theorem dX12_times_205 : decode cX12_times 205 = .ok (.iload 7, 2) := by decide +kernel
theorem dX12_times_207 : decode cX12_times 207 = .ok (.iadd, 1) := by decide +kernel
theorem dX12_times_208 : decode cX12_times 208 = .ok (.aload_n 0, 1) := by decide +kernel
theorem dX12_times_209 : decode cX12_times 209 = .ok (.getfield 51, 3) := by decide +kernel
theorem dX12_times_212 : decode cX12_times 212 = .ok (.iload 7, 2) := by decide +kernel
theorem dX12_times_214 : decode cX12_times 214 = .ok (.laload, 1) := by decide +kernel
theorem dX12_times_215 : decode cX12_times 215 = .ok (.lastore, 1) := by decide +kernel
theorem dX12_times_216 : decode cX12_times 216 = .ok (.iinc 7 1, 3) := by decide +kernel
theorem dX12_times_219 : decode cX12_times 219 = .ok (.goto (-29), 3) := by decide +kernel
theorem dX12_times_222 : decode cX12_times 222 = .ok (.iload 4, 2) := by decide +kernel
theorem dX12_times_224 : decode cX12_times 224 = .ok (.ifCond .eq 8, 3) := by decide +kernel
theorem dX12_times_227 : decode cX12_times 227 = .ok (.aload_n 0, 1) := by decide +kernel
theorem dX12_times_228 : decode cX12_times 228 = .ok (.iload_n 1, 1) := by decide +kernel
theorem dX12_times_229 : decode cX12_times 229 = .ok (.invokevirtual 99, 3) := by decide +kernel
theorem dX12_times_232 : decode cX12_times 232 = .ok (.return_, 1) := by decide +kernel
theorem dX12_parts_0 : decode cX12_parts 0 = .ok (.aload_n 0, 1) := by decide +kernel
theorem dX12_parts_1 : decode cX12_parts 1 = .ok (.iload_n 1, 1) := by decide +kernel
theorem dX12_parts_2 : decode cX12_parts 2 = .ok (.invokevirtual 96, 3) := by decide +kernel
theorem dX12_parts_5 : decode cX12_parts 5 = .ok (.aload_n 0, 1) := by decide +kernel
theorem dX12_parts_6 : decode cX12_parts 6 = .ok (.iload_n 2, 1) := by decide +kernel
theorem dX12_parts_7 : decode cX12_parts 7 = .ok (.invokevirtual 96, 3) := by decide +kernel
theorem dX12_parts_10 : decode cX12_parts 10 = .ok (.if_icmp .eq 15, 3) := by decide +kernel
theorem dX12_parts_13 : decode cX12_parts 13 = .ok (.aload_n 0, 1) := by decide +kernel
theorem dX12_parts_14 : decode cX12_parts 14 = .ok (.iload_n 1, 1) := by decide +kernel
theorem dX12_parts_15 : decode cX12_parts 15 = .ok (.invokevirtual 92, 3) := by decide +kernel
theorem dX12_parts_18 : decode cX12_parts 18 = .ok (.ifCond .ne 7, 3) := by decide +kernel
theorem dX12_parts_21 : decode cX12_parts 21 = .ok (.iconst 1, 1) := by decide +kernel
theorem dX12_parts_22 : decode cX12_parts 22 = .ok (.goto 4, 3) := by decide +kernel
theorem dX12_parts_25 : decode cX12_parts 25 = .ok (.iconst 0, 1) := by decide +kernel
theorem dX12_parts_26 : decode cX12_parts 26 = .ok (.istore_n 3, 1) := by decide +kernel
theorem dX12_parts_27 : decode cX12_parts 27 = .ok (.aload_n 0, 1) := by decide +kernel
theorem dX12_parts_28 : decode cX12_parts 28 = .ok (.iload_n 1, 1) := by decide +kernel
theorem dX12_parts_29 : decode cX12_parts 29 = .ok (.aload_n 0, 1) := by decide +kernel
theorem dX12_parts_30 : decode cX12_parts 30 = .ok (.getfield 45, 3) := by decide +kernel
theorem dX12_parts_33 : decode cX12_parts 33 = .ok (.invokevirtual 102, 3) := by decide +kernel
theorem dX12_parts_36 : decode cX12_parts 36 = .ok (.aload_n 0, 1) := by decide +kernel
theorem dX12_parts_37 : decode cX12_parts 37 = .ok (.iload_n 2, 1) := by decide +kernel
theorem dX12_parts_38 : decode cX12_parts 38 = .ok (.aload_n 0, 1) := by decide +kernel
theorem dX12_parts_39 : decode cX12_parts 39 = .ok (.getfield 48, 3) := by decide +kernel
theorem dX12_parts_42 : decode cX12_parts 42 = .ok (.invokevirtual 102, 3) := by decide +kernel
theorem dX12_parts_45 : decode cX12_parts 45 = .ok (.aload_n 0, 1) := by decide +kernel
theorem dX12_parts_46 : decode cX12_parts 46 = .ok (.getfield 48, 3) := by decide +kernel
theorem dX12_parts_49 : decode cX12_parts 49 = .ok (.invokestatic 106, 3) := by decide +kernel
theorem dX12_parts_52 : decode cX12_parts 52 = .ok (.istore 4, 2) := by decide +kernel
theorem dX12_parts_54 : decode cX12_parts 54 = .ok (.aload_n 0, 1) := by decide +kernel
theorem dX12_parts_55 : decode cX12_parts 55 = .ok (.getfield 45, 3) := by decide +kernel
theorem dX12_parts_58 : decode cX12_parts 58 = .ok (.invokestatic 106, 3) := by decide +kernel
theorem dX12_parts_61 : decode cX12_parts 61 = .ok (.istore 5, 2) := by decide +kernel
theorem dX12_parts_63 : decode cX12_parts 63 = .ok (.iconst 0, 1) := by decide +kernel
theorem dX12_parts_64 : decode cX12_parts 64 = .ok (.istore 6, 2) := by decide +kernel
theorem dX12_parts_66 : decode cX12_parts 66 = .ok (.iload 6, 2) := by decide +kernel
theorem dX12_parts_68 : decode cX12_parts 68 = .ok (.bipush 16, 2) := by decide +kernel
theorem dX12_parts_70 : decode cX12_parts 70 = .ok (.if_icmp .ge 17, 3) := by decide +kernel
theorem dX12_parts_73 : decode cX12_parts 73 = .ok (.aload_n 0, 1) := by decide +kernel
theorem dX12_parts_74 : decode cX12_parts 74 = .ok (.getfield 51, 3) := by decide +kernel
theorem dX12_parts_77 : decode cX12_parts 77 = .ok (.iload 6, 2) := by decide +kernel
theorem dX12_parts_79 : decode cX12_parts 79 = .ok (.lconst 0, 1) := by decide +kernel
theorem dX12_parts_80 : decode cX12_parts 80 = .ok (.lastore, 1) := by decide +kernel
theorem dX12_parts_81 : decode cX12_parts 81 = .ok (.iinc 6 1, 3) := by decide +kernel
theorem dX12_parts_84 : decode cX12_parts 84 = .ok (.goto (-18), 3) := by decide +kernel
theorem dX12_parts_87 : decode cX12_parts 87 = .ok (.iload 5, 2) := by decide +kernel
theorem dX12_parts_89 : decode cX12_parts 89 = .ok (.iload 4, 2) := by decide +kernel
theorem dX12_parts_91 : decode cX12_parts 91 = .ok (.isub, 1) := by decide +kernel
theorem dX12_parts_92 : decode cX12_parts 92 = .ok (.istore 6, 2) := by decide +kernel
theorem dX12_parts_94 : decode cX12_parts 94 = .ok (.iload 6, 2) := by decide +kernel
theorem dX12_parts_96 : decode cX12_parts 96 = .ok (.ifCond .lt 167, 3) := by decide +kernel
theorem dX12_parts_99 : decode cX12_parts 99 = .ok (.lconst 0, 1) := by decide +kernel
theorem dX12_parts_100 : decode cX12_parts 100 = .ok (.lstore 7, 2) := by decide +kernel
theorem dX12_parts_102 : decode cX12_parts 102 = .ok (.ldc2_w 110, 3) := by decide +kernel
theorem dX12_parts_105 : decode cX12_parts 105 = .ok (.lstore 9, 2) := by decide +kernel
theorem dX12_parts_107 : decode cX12_parts 107 = .ok (.lload 7, 2) := by decide +kernel
theorem dX12_parts_109 : decode cX12_parts 109 = .ok (.lload 9, 2) := by decide +kernel
theorem dX12_parts_111 : decode cX12_parts 111 = .ok (.lcmp, 1) := by decide +kernel
theorem dX12_parts_112 : decode cX12_parts 112 = .ok (.ifCond .ge 45, 3) := by decide +kernel
theorem dX12_parts_115 : decode cX12_parts 115 = .ok (.lload 7, 2) := by decide +kernel
theorem dX12_parts_117 : decode cX12_parts 117 = .ok (.lload 9, 2) := by decide +kernel
theorem dX12_parts_119 : decode cX12_parts 119 = .ok (.ladd, 1) := by decide +kernel
theorem dX12_parts_120 : decode cX12_parts 120 = .ok (.lconst 1, 1) := by decide +kernel
theorem dX12_parts_121 : decode cX12_parts 121 = .ok (.ladd, 1) := by decide +kernel
theorem dX12_parts_122 : decode cX12_parts 122 = .ok (.ldc2_w 112, 3) := by decide +kernel
theorem dX12_parts_125 : decode cX12_parts 125 = .ok (.ldiv, 1) := by decide +kernel
theorem dX12_parts_126 : decode cX12_parts 126 = .ok (.lstore 11, 2) := by decide +kernel
theorem dX12_parts_128 : decode cX12_parts 128 = .ok (.aload_n 0, 1) := by decide +kernel
theorem dX12_parts_129 : decode cX12_parts 129 = .ok (.lload 11, 2) := by decide +kernel
theorem dX12_parts_131 : decode cX12_parts 131 = .ok (.iload 6, 2) := by decide +kernel
theorem dX12_parts_133 : decode cX12_parts 133 = .ok (.iload 4, 2) := by decide +kernel
theorem dX12_parts_135 : decode cX12_parts 135 = .ok (.invokevirtual 114, 3) := by decide +kernel
theorem dX12_parts_138 : decode cX12_parts 138 = .ok (.ifCond .eq 10, 3) := by decide +kernel
theorem dX12_parts_141 : decode cX12_parts 141 = .ok (.lload 11, 2) := by decide +kernel
theorem dX12_parts_143 : decode cX12_parts 143 = .ok (.lstore 7, 2) := by decide +kernel
theorem dX12_parts_145 : decode cX12_parts 145 = .ok (.goto 9, 3) := by decide +kernel
theorem dX12_parts_148 : decode cX12_parts 148 = .ok (.lload 11, 2) := by decide +kernel
theorem dX12_parts_150 : decode cX12_parts 150 = .ok (.lconst 1, 1) := by decide +kernel
theorem dX12_parts_151 : decode cX12_parts 151 = .ok (.lsub, 1) := by decide +kernel
theorem dX12_parts_152 : decode cX12_parts 152 = .ok (.lstore 9, 2) := by decide +kernel
theorem dX12_parts_154 : decode cX12_parts 154 = .ok (.goto (-47), 3) := by decide +kernel
theorem dX12_parts_157 : decode cX12_parts 157 = .ok (.aload_n 0, 1) := by decide +kernel
theorem dX12_parts_158 : decode cX12_parts 158 = .ok (.getfield 51, 3) := by decide +kernel
theorem dX12_parts_161 : decode cX12_parts 161 = .ok (.iload 6, 2) := by decide +kernel
theorem dX12_parts_163 : decode cX12_parts 163 = .ok (.lload 7, 2) := by decide +kernel
theorem dX12_parts_165 : decode cX12_parts 165 = .ok (.lastore, 1) := by decide +kernel
theorem dX12_parts_166 : decode cX12_parts 166 = .ok (.lconst 0, 1) := by decide +kernel
theorem dX12_parts_167 : decode cX12_parts 167 = .ok (.lstore 11, 2) := by decide +kernel
theorem dX12_parts_169 : decode cX12_parts 169 = .ok (.iconst 0, 1) := by decide +kernel
theorem dX12_parts_170 : decode cX12_parts 170 = .ok (.istore 13, 2) := by decide +kernel
theorem dX12_parts_172 : decode cX12_parts 172 = .ok (.iload 13, 2) := by decide +kernel
theorem dX12_parts_174 : decode cX12_parts 174 = .ok (.iload 6, 2) := by decide +kernel
theorem dX12_parts_176 : decode cX12_parts 176 = .ok (.iadd, 1) := by decide +kernel
theorem dX12_parts_177 : decode cX12_parts 177 = .ok (.bipush 16, 2) := by decide +kernel
theorem dX12_parts_179 : decode cX12_parts 179 = .ok (.if_icmp .ge 78, 3) := by decide +kernel
theorem dX12_parts_182 : decode cX12_parts 182 = .ok (.iload 13, 2) := by decide +kernel
theorem dX12_parts_184 : decode cX12_parts 184 = .ok (.iload 4, 2) := by decide +kernel
theorem dX12_parts_186 : decode cX12_parts 186 = .ok (.if_icmp .lt 10, 3) := by decide +kernel
theorem dX12_parts_189 : decode cX12_parts 189 = .ok (.lload 11, 2) := by decide +kernel
theorem dX12_parts_191 : decode cX12_parts 191 = .ok (.lconst 0, 1) := by decide +kernel
theorem dX12_parts_192 : decode cX12_parts 192 = .ok (.lcmp, 1) := by decide +kernel
theorem dX12_parts_193 : decode cX12_parts 193 = .ok (.ifCond .eq 64, 3) := by decide +kernel
theorem dX12_parts_196 : decode cX12_parts 196 = .ok (.aload_n 0, 1) := by decide +kernel
theorem dX12_parts_197 : decode cX12_parts 197 = .ok (.getfield 45, 3) := by decide +kernel
theorem dX12_parts_200 : decode cX12_parts 200 = .ok (.iload 13, 2) := by decide +kernel
theorem dX12_parts_202 : decode cX12_parts 202 = .ok (.iload 6, 2) := by decide +kernel
theorem dX12_parts_204 : decode cX12_parts 204 = .ok (.iadd, 1) := by decide +kernel
theorem dX12_parts_205 : decode cX12_parts 205 = .ok (.laload, 1) := by decide +kernel
theorem dX12_parts_206 : decode cX12_parts 206 = .ok (.lload 7, 2) := by decide +kernel
theorem dX12_parts_208 : decode cX12_parts 208 = .ok (.aload_n 0, 1) := by decide +kernel
theorem dX12_parts_209 : decode cX12_parts 209 = .ok (.getfield 48, 3) := by decide +kernel
theorem dX12_parts_212 : decode cX12_parts 212 = .ok (.iload 13, 2) := by decide +kernel
theorem dX12_parts_214 : decode cX12_parts 214 = .ok (.laload, 1) := by decide +kernel
theorem dX12_parts_215 : decode cX12_parts 215 = .ok (.lmul, 1) := by decide +kernel
theorem dX12_parts_216 : decode cX12_parts 216 = .ok (.lsub, 1) := by decide +kernel
theorem dX12_parts_217 : decode cX12_parts 217 = .ok (.lload 11, 2) := by decide +kernel
theorem dX12_parts_219 : decode cX12_parts 219 = .ok (.lsub, 1) := by decide +kernel
theorem dX12_parts_220 : decode cX12_parts 220 = .ok (.lstore 14, 2) := by decide +kernel
theorem dX12_parts_222 : decode cX12_parts 222 = .ok (.lload 14, 2) := by decide +kernel
theorem dX12_parts_224 : decode cX12_parts 224 = .ok (.ldc2_w 77, 3) := by decide +kernel
theorem dX12_parts_227 : decode cX12_parts 227 = .ok (.invokestatic 85, 3) := by decide +kernel
theorem dX12_parts_230 : decode cX12_parts 230 = .ok (.lneg, 1) := by decide +kernel
theorem dX12_parts_231 : decode cX12_parts 231 = .ok (.lstore 11, 2) := by decide +kernel
theorem dX12_parts_233 : decode cX12_parts 233 = .ok (.aload_n 0, 1) := by decide +kernel
theorem dX12_parts_234 : decode cX12_parts 234 = .ok (.getfield 45, 3) := by decide +kernel
theorem dX12_parts_237 : decode cX12_parts 237 = .ok (.iload 13, 2) := by decide +kernel
theorem dX12_parts_239 : decode cX12_parts 239 = .ok (.iload 6, 2) := by decide +kernel
theorem dX12_parts_241 : decode cX12_parts 241 = .ok (.iadd, 1) := by decide +kernel
theorem dX12_parts_242 : decode cX12_parts 242 = .ok (.lload 14, 2) := by decide +kernel
theorem dX12_parts_244 : decode cX12_parts 244 = .ok (.ldc2_w 77, 3) := by decide +kernel
theorem dX12_parts_247 : decode cX12_parts 247 = .ok (.invokestatic 79, 3) := by decide +kernel
theorem dX12_parts_250 : decode cX12_parts 250 = .ok (.lastore, 1) := by decide +kernel
theorem dX12_parts_251 : decode cX12_parts 251 = .ok (.iinc 13 1, 3) := by decide +kernel
theorem dX12_parts_254 : decode cX12_parts 254 = .ok (.goto (-82), 3) := by decide +kernel
theorem dX12_parts_257 : decode cX12_parts 257 = .ok (.iinc 6 (-1), 3) := by decide +kernel
theorem dX12_parts_260 : decode cX12_parts 260 = .ok (.goto (-166), 3) := by decide +kernel
theorem dX12_parts_263 : decode cX12_parts 263 = .ok (.iconst 0, 1) := by decide +kernel
theorem dX12_parts_264 : decode cX12_parts 264 = .ok (.istore 6, 2) := by decide +kernel
theorem dX12_parts_266 : decode cX12_parts 266 = .ok (.iload 6, 2) := by decide +kernel
theorem dX12_parts_268 : decode cX12_parts 268 = .ok (.bipush 16, 2) := by decide +kernel
theorem dX12_parts_270 : decode cX12_parts 270 = .ok (.if_icmp .ge 28, 3) := by decide +kernel
theorem dX12_parts_273 : decode cX12_parts 273 = .ok (.aload_n 0, 1) := by decide +kernel
theorem dX12_parts_274 : decode cX12_parts 274 = .ok (.getfield 9, 3) := by decide +kernel
theorem dX12_parts_277 : decode cX12_parts 277 = .ok (.bipush 16, 2) := by decide +kernel
theorem dX12_parts_279 : decode cX12_parts 279 = .ok (.iload_n 1, 1) := by decide +kernel
theorem dX12_parts_280 : decode cX12_parts 280 = .ok (.imul, 1) := by decide +kernel
theorem dX12_parts_281 : decode cX12_parts 281 = .ok (.iload 6, 2) := by decide +kernel
theorem dX12_parts_283 : decode cX12_parts 283 = .ok (.iadd, 1) := by decide +kernel
theorem dX12_parts_284 : decode cX12_parts 284 = .ok (.aload_n 0, 1) := by decide +kernel
theorem dX12_parts_285 : decode cX12_parts 285 = .ok (.getfield 51, 3) := by decide +kernel
theorem dX12_parts_288 : decode cX12_parts 288 = .ok (.iload 6, 2) := by decide +kernel
theorem dX12_parts_290 : decode cX12_parts 290 = .ok (.laload, 1) := by decide +kernel
theorem dX12_parts_291 : decode cX12_parts 291 = .ok (.lastore, 1) := by decide +kernel
theorem dX12_parts_292 : decode cX12_parts 292 = .ok (.iinc 6 1, 3) := by decide +kernel
theorem dX12_parts_295 : decode cX12_parts 295 = .ok (.goto (-29), 3) := by decide +kernel
theorem dX12_parts_298 : decode cX12_parts 298 = .ok (.iload_n 3, 1) := by decide +kernel
theorem dX12_parts_299 : decode cX12_parts 299 = .ok (.ifCond .eq 8, 3) := by decide +kernel
theorem dX12_parts_302 : decode cX12_parts 302 = .ok (.aload_n 0, 1) := by decide +kernel
theorem dX12_parts_303 : decode cX12_parts 303 = .ok (.iload_n 1, 1) := by decide +kernel
theorem dX12_parts_304 : decode cX12_parts 304 = .ok (.invokevirtual 99, 3) := by decide +kernel
theorem dX12_parts_307 : decode cX12_parts 307 = .ok (.return_, 1) := by decide +kernel
theorem dX12_goesInto_0 : decode cX12_goesInto 0 = .ok (.lconst 0, 1) := by decide +kernel
theorem dX12_goesInto_1 : decode cX12_goesInto 1 = .ok (.lstore 5, 2) := by decide +kernel
theorem dX12_goesInto_3 : decode cX12_goesInto 3 = .ok (.iconst 0, 1) := by decide +kernel
theorem dX12_goesInto_4 : decode cX12_goesInto 4 = .ok (.istore 7, 2) := by decide +kernel
theorem dX12_goesInto_6 : decode cX12_goesInto 6 = .ok (.iload 7, 2) := by decide +kernel
theorem dX12_goesInto_8 : decode cX12_goesInto 8 = .ok (.iload_n 3, 1) := by decide +kernel
theorem dX12_goesInto_9 : decode cX12_goesInto 9 = .ok (.iadd, 1) := by decide +kernel
theorem dX12_goesInto_10 : decode cX12_goesInto 10 = .ok (.bipush 16, 2) := by decide +kernel
theorem dX12_goesInto_12 : decode cX12_goesInto 12 = .ok (.if_icmp .ge 58, 3) := by decide +kernel
theorem dX12_goesInto_15 : decode cX12_goesInto 15 = .ok (.iload 7, 2) := by decide +kernel
theorem dX12_goesInto_17 : decode cX12_goesInto 17 = .ok (.iload 4, 2) := by decide +kernel
theorem dX12_goesInto_19 : decode cX12_goesInto 19 = .ok (.if_icmp .lt 10, 3) := by decide +kernel
theorem dX12_goesInto_22 : decode cX12_goesInto 22 = .ok (.lload 5, 2) := by decide +kernel
theorem dX12_goesInto_24 : decode cX12_goesInto 24 = .ok (.lconst 0, 1) := by decide +kernel
theorem dX12_goesInto_25 : decode cX12_goesInto 25 = .ok (.lcmp, 1) := by decide +kernel
theorem dX12_goesInto_26 : decode cX12_goesInto 26 = .ok (.ifCond .eq 44, 3) := by decide +kernel
theorem dX12_goesInto_29 : decode cX12_goesInto 29 = .ok (.aload_n 0, 1) := by decide +kernel
theorem dX12_goesInto_30 : decode cX12_goesInto 30 = .ok (.getfield 45, 3) := by decide +kernel
theorem dX12_goesInto_33 : decode cX12_goesInto 33 = .ok (.iload 7, 2) := by decide +kernel
theorem dX12_goesInto_35 : decode cX12_goesInto 35 = .ok (.iload_n 3, 1) := by decide +kernel
theorem dX12_goesInto_36 : decode cX12_goesInto 36 = .ok (.iadd, 1) := by decide +kernel
theorem dX12_goesInto_37 : decode cX12_goesInto 37 = .ok (.laload, 1) := by decide +kernel
theorem dX12_goesInto_38 : decode cX12_goesInto 38 = .ok (.lload_n 1, 1) := by decide +kernel
theorem dX12_goesInto_39 : decode cX12_goesInto 39 = .ok (.aload_n 0, 1) := by decide +kernel
theorem dX12_goesInto_40 : decode cX12_goesInto 40 = .ok (.getfield 48, 3) := by decide +kernel
theorem dX12_goesInto_43 : decode cX12_goesInto 43 = .ok (.iload 7, 2) := by decide +kernel
theorem dX12_goesInto_45 : decode cX12_goesInto 45 = .ok (.laload, 1) := by decide +kernel
theorem dX12_goesInto_46 : decode cX12_goesInto 46 = .ok (.lmul, 1) := by decide +kernel
theorem dX12_goesInto_47 : decode cX12_goesInto 47 = .ok (.lsub, 1) := by decide +kernel
theorem dX12_goesInto_48 : decode cX12_goesInto 48 = .ok (.lload 5, 2) := by decide +kernel
theorem dX12_goesInto_50 : decode cX12_goesInto 50 = .ok (.lsub, 1) := by decide +kernel
theorem dX12_goesInto_51 : decode cX12_goesInto 51 = .ok (.lstore 8, 2) := by decide +kernel
theorem dX12_goesInto_53 : decode cX12_goesInto 53 = .ok (.lload 8, 2) := by decide +kernel
theorem dX12_goesInto_55 : decode cX12_goesInto 55 = .ok (.ldc2_w 77, 3) := by decide +kernel
theorem dX12_goesInto_58 : decode cX12_goesInto 58 = .ok (.invokestatic 85, 3) := by decide +kernel
theorem dX12_goesInto_61 : decode cX12_goesInto 61 = .ok (.lneg, 1) := by decide +kernel
theorem dX12_goesInto_62 : decode cX12_goesInto 62 = .ok (.lstore 5, 2) := by decide +kernel
theorem dX12_goesInto_64 : decode cX12_goesInto 64 = .ok (.iinc 7 1, 3) := by decide +kernel
theorem dX12_goesInto_67 : decode cX12_goesInto 67 = .ok (.goto (-61), 3) := by decide +kernel
theorem dX12_goesInto_70 : decode cX12_goesInto 70 = .ok (.lload 5, 2) := by decide +kernel
theorem dX12_goesInto_72 : decode cX12_goesInto 72 = .ok (.lconst 0, 1) := by decide +kernel
theorem dX12_goesInto_73 : decode cX12_goesInto 73 = .ok (.lcmp, 1) := by decide +kernel
theorem dX12_goesInto_74 : decode cX12_goesInto 74 = .ok (.ifCond .ne 7, 3) := by decide +kernel
theorem dX12_goesInto_77 : decode cX12_goesInto 77 = .ok (.iconst 1, 1) := by decide +kernel
theorem dX12_goesInto_78 : decode cX12_goesInto 78 = .ok (.goto 4, 3) := by decide +kernel
theorem dX12_goesInto_81 : decode cX12_goesInto 81 = .ok (.iconst 0, 1) := by decide +kernel
theorem dX12_goesInto_82 : decode cX12_goesInto 82 = .ok (.ireturn, 1) := by decide +kernel
theorem dX12_isEven_0 : decode cX12_isEven 0 = .ok (.aload_n 0, 1) := by decide +kernel
theorem dX12_isEven_1 : decode cX12_isEven 1 = .ok (.getfield 9, 3) := by decide +kernel
theorem dX12_isEven_4 : decode cX12_isEven 4 = .ok (.bipush 16, 2) := by decide +kernel
theorem dX12_isEven_6 : decode cX12_isEven 6 = .ok (.iload_n 1, 1) := by decide +kernel
theorem dX12_isEven_7 : decode cX12_isEven 7 = .ok (.imul, 1) := by decide +kernel
theorem dX12_isEven_8 : decode cX12_isEven 8 = .ok (.laload, 1) := by decide +kernel
theorem dX12_isEven_9 : decode cX12_isEven 9 = .ok (.ldc2_w 112, 3) := by decide +kernel
theorem dX12_isEven_12 : decode cX12_isEven 12 = .ok (.lrem, 1) := by decide +kernel
theorem dX12_isEven_13 : decode cX12_isEven 13 = .ok (.lconst 0, 1) := by decide +kernel
theorem dX12_isEven_14 : decode cX12_isEven 14 = .ok (.lcmp, 1) := by decide +kernel
theorem dX12_isEven_15 : decode cX12_isEven 15 = .ok (.ifCond .ne 7, 3) := by decide +kernel
theorem dX12_isEven_18 : decode cX12_isEven 18 = .ok (.iconst 1, 1) := by decide +kernel
theorem dX12_isEven_19 : decode cX12_isEven 19 = .ok (.goto 4, 3) := by decide +kernel
theorem dX12_isEven_22 : decode cX12_isEven 22 = .ok (.iconst 0, 1) := by decide +kernel
theorem dX12_isEven_23 : decode cX12_isEven 23 = .ok (.ireturn, 1) := by decide +kernel
theorem dX12_half_0 : decode cX12_half 0 = .ok (.lconst 0, 1) := by decide +kernel
theorem dX12_half_1 : decode cX12_half 1 = .ok (.lstore_n 2, 1) := by decide +kernel
theorem dX12_half_2 : decode cX12_half 2 = .ok (.bipush 15, 2) := by decide +kernel
theorem dX12_half_4 : decode cX12_half 4 = .ok (.istore 4, 2) := by decide +kernel
theorem dX12_half_6 : decode cX12_half 6 = .ok (.iload 4, 2) := by decide +kernel
theorem dX12_half_8 : decode cX12_half 8 = .ok (.ifCond .lt 54, 3) := by decide +kernel
theorem dX12_half_11 : decode cX12_half 11 = .ok (.lload_n 2, 1) := by decide +kernel
theorem dX12_half_12 : decode cX12_half 12 = .ok (.ldc2_w 77, 3) := by decide +kernel
theorem dX12_half_15 : decode cX12_half 15 = .ok (.lmul, 1) := by decide +kernel
theorem dX12_half_16 : decode cX12_half 16 = .ok (.aload_n 0, 1) := by decide +kernel
theorem dX12_half_17 : decode cX12_half 17 = .ok (.getfield 9, 3) := by decide +kernel
theorem dX12_half_20 : decode cX12_half 20 = .ok (.bipush 16, 2) := by decide +kernel
theorem dX12_half_22 : decode cX12_half 22 = .ok (.iload_n 1, 1) := by decide +kernel
theorem dX12_half_23 : decode cX12_half 23 = .ok (.imul, 1) := by decide +kernel
theorem dX12_half_24 : decode cX12_half 24 = .ok (.iload 4, 2) := by decide +kernel
theorem dX12_half_26 : decode cX12_half 26 = .ok (.iadd, 1) := by decide +kernel
theorem dX12_half_27 : decode cX12_half 27 = .ok (.laload, 1) := by decide +kernel
theorem dX12_half_28 : decode cX12_half 28 = .ok (.ladd, 1) := by decide +kernel
theorem dX12_half_29 : decode cX12_half 29 = .ok (.lstore 5, 2) := by decide +kernel
theorem dX12_half_31 : decode cX12_half 31 = .ok (.aload_n 0, 1) := by decide +kernel
theorem dX12_half_32 : decode cX12_half 32 = .ok (.getfield 9, 3) := by decide +kernel
theorem dX12_half_35 : decode cX12_half 35 = .ok (.bipush 16, 2) := by decide +kernel
theorem dX12_half_37 : decode cX12_half 37 = .ok (.iload_n 1, 1) := by decide +kernel
theorem dX12_half_38 : decode cX12_half 38 = .ok (.imul, 1) := by decide +kernel
theorem dX12_half_39 : decode cX12_half 39 = .ok (.iload 4, 2) := by decide +kernel
theorem dX12_half_41 : decode cX12_half 41 = .ok (.iadd, 1) := by decide +kernel
theorem dX12_half_42 : decode cX12_half 42 = .ok (.lload 5, 2) := by decide +kernel
theorem dX12_half_44 : decode cX12_half 44 = .ok (.ldc2_w 112, 3) := by decide +kernel
theorem dX12_half_47 : decode cX12_half 47 = .ok (.ldiv, 1) := by decide +kernel
theorem dX12_half_48 : decode cX12_half 48 = .ok (.lastore, 1) := by decide +kernel
theorem dX12_half_49 : decode cX12_half 49 = .ok (.lload 5, 2) := by decide +kernel
theorem dX12_half_51 : decode cX12_half 51 = .ok (.ldc2_w 112, 3) := by decide +kernel
theorem dX12_half_54 : decode cX12_half 54 = .ok (.lrem, 1) := by decide +kernel
theorem dX12_half_55 : decode cX12_half 55 = .ok (.lstore_n 2, 1) := by decide +kernel
theorem dX12_half_56 : decode cX12_half 56 = .ok (.iinc 4 (-1), 3) := by decide +kernel
theorem dX12_half_59 : decode cX12_half 59 = .ok (.goto (-53), 3) := by decide +kernel
theorem dX12_half_62 : decode cX12_half 62 = .ok (.return_, 1) := by decide +kernel
theorem dX12_isLess_0 : decode cX12_isLess 0 = .ok (.bipush 15, 2) := by decide +kernel
theorem dX12_isLess_2 : decode cX12_isLess 2 = .ok (.istore_n 3, 1) := by decide +kernel
theorem dX12_isLess_3 : decode cX12_isLess 3 = .ok (.iload_n 3, 1) := by decide +kernel
theorem dX12_isLess_4 : decode cX12_isLess 4 = .ok (.ifCond .lt 57, 3) := by decide +kernel
theorem dX12_isLess_7 : decode cX12_isLess 7 = .ok (.aload_n 0, 1) := by decide +kernel
theorem dX12_isLess_8 : decode cX12_isLess 8 = .ok (.getfield 9, 3) := by decide +kernel
theorem dX12_isLess_11 : decode cX12_isLess 11 = .ok (.bipush 16, 2) := by decide +kernel
theorem dX12_isLess_13 : decode cX12_isLess 13 = .ok (.iload_n 1, 1) := by decide +kernel
theorem dX12_isLess_14 : decode cX12_isLess 14 = .ok (.imul, 1) := by decide +kernel
theorem dX12_isLess_15 : decode cX12_isLess 15 = .ok (.iload_n 3, 1) := by decide +kernel
theorem dX12_isLess_16 : decode cX12_isLess 16 = .ok (.iadd, 1) := by decide +kernel
theorem dX12_isLess_17 : decode cX12_isLess 17 = .ok (.laload, 1) := by decide +kernel
theorem dX12_isLess_18 : decode cX12_isLess 18 = .ok (.lstore 4, 2) := by decide +kernel
theorem dX12_isLess_20 : decode cX12_isLess 20 = .ok (.aload_n 0, 1) := by decide +kernel
theorem dX12_isLess_21 : decode cX12_isLess 21 = .ok (.getfield 9, 3) := by decide +kernel
theorem dX12_isLess_24 : decode cX12_isLess 24 = .ok (.bipush 16, 2) := by decide +kernel
theorem dX12_isLess_26 : decode cX12_isLess 26 = .ok (.iload_n 2, 1) := by decide +kernel
theorem dX12_isLess_27 : decode cX12_isLess 27 = .ok (.imul, 1) := by decide +kernel
theorem dX12_isLess_28 : decode cX12_isLess 28 = .ok (.iload_n 3, 1) := by decide +kernel
theorem dX12_isLess_29 : decode cX12_isLess 29 = .ok (.iadd, 1) := by decide +kernel
theorem dX12_isLess_30 : decode cX12_isLess 30 = .ok (.laload, 1) := by decide +kernel
theorem dX12_isLess_31 : decode cX12_isLess 31 = .ok (.lstore 6, 2) := by decide +kernel
theorem dX12_isLess_33 : decode cX12_isLess 33 = .ok (.lload 4, 2) := by decide +kernel
theorem dX12_isLess_35 : decode cX12_isLess 35 = .ok (.lload 6, 2) := by decide +kernel
theorem dX12_isLess_37 : decode cX12_isLess 37 = .ok (.lcmp, 1) := by decide +kernel
theorem dX12_isLess_38 : decode cX12_isLess 38 = .ok (.ifCond .eq 17, 3) := by decide +kernel
theorem dX12_isLess_41 : decode cX12_isLess 41 = .ok (.lload 4, 2) := by decide +kernel
theorem dX12_isLess_43 : decode cX12_isLess 43 = .ok (.lload 6, 2) := by decide +kernel
theorem dX12_isLess_45 : decode cX12_isLess 45 = .ok (.lcmp, 1) := by decide +kernel
theorem dX12_isLess_46 : decode cX12_isLess 46 = .ok (.ifCond .ge 7, 3) := by decide +kernel
theorem dX12_isLess_49 : decode cX12_isLess 49 = .ok (.iconst 1, 1) := by decide +kernel
theorem dX12_isLess_50 : decode cX12_isLess 50 = .ok (.goto 4, 3) := by decide +kernel
theorem dX12_isLess_53 : decode cX12_isLess 53 = .ok (.iconst 0, 1) := by decide +kernel
theorem dX12_isLess_54 : decode cX12_isLess 54 = .ok (.ireturn, 1) := by decide +kernel
theorem dX12_isLess_55 : decode cX12_isLess 55 = .ok (.iinc 3 (-1), 3) := by decide +kernel
theorem dX12_isLess_58 : decode cX12_isLess 58 = .ok (.goto (-55), 3) := by decide +kernel
theorem dX12_isLess_61 : decode cX12_isLess 61 = .ok (.iconst 0, 1) := by decide +kernel
theorem dX12_isLess_62 : decode cX12_isLess 62 = .ok (.ireturn, 1) := by decide +kernel
theorem dX12_result_0 : decode cX12_result 0 = .ok (.aload_n 0, 1) := by decide +kernel
theorem dX12_result_1 : decode cX12_result 1 = .ok (.iload_n 1, 1) := by decide +kernel
theorem dX12_result_2 : decode cX12_result 2 = .ok (.invokevirtual 96, 3) := by decide +kernel
theorem dX12_result_5 : decode cX12_result 5 = .ok (.aload_n 0, 1) := by decide +kernel
theorem dX12_result_6 : decode cX12_result 6 = .ok (.iload_n 2, 1) := by decide +kernel
theorem dX12_result_7 : decode cX12_result 7 = .ok (.invokevirtual 96, 3) := by decide +kernel
theorem dX12_result_10 : decode cX12_result 10 = .ok (.if_icmp .eq 7, 3) := by decide +kernel
theorem dX12_result_13 : decode cX12_result 13 = .ok (.iconst 1, 1) := by decide +kernel
theorem dX12_result_14 : decode cX12_result 14 = .ok (.goto 4, 3) := by decide +kernel
theorem dX12_result_17 : decode cX12_result 17 = .ok (.iconst 0, 1) := by decide +kernel
theorem dX12_result_18 : decode cX12_result 18 = .ok (.istore_n 3, 1) := by decide +kernel
theorem dX12_result_19 : decode cX12_result 19 = .ok (.aload_n 0, 1) := by decide +kernel
theorem dX12_result_20 : decode cX12_result 20 = .ok (.iconst 0, 1) := by decide +kernel
theorem dX12_result_21 : decode cX12_result 21 = .ok (.iload_n 1, 1) := by decide +kernel
theorem dX12_result_22 : decode cX12_result 22 = .ok (.invokevirtual 118, 3) := by decide +kernel
theorem dX12_result_25 : decode cX12_result 25 = .ok (.aload_n 0, 1) := by decide +kernel
theorem dX12_result_26 : decode cX12_result 26 = .ok (.iconst 1, 1) := by decide +kernel
theorem dX12_result_27 : decode cX12_result 27 = .ok (.iload_n 2, 1) := by decide +kernel
theorem dX12_result_28 : decode cX12_result 28 = .ok (.invokevirtual 118, 3) := by decide +kernel
theorem dX12_result_31 : decode cX12_result 31 = .ok (.aload_n 0, 1) := by decide +kernel
theorem dX12_result_32 : decode cX12_result 32 = .ok (.iconst 0, 1) := by decide +kernel
theorem dX12_result_33 : decode cX12_result 33 = .ok (.invokevirtual 96, 3) := by decide +kernel
theorem dX12_result_36 : decode cX12_result 36 = .ok (.ifCond .eq 8, 3) := by decide +kernel
theorem dX12_result_39 : decode cX12_result 39 = .ok (.aload_n 0, 1) := by decide +kernel
theorem dX12_result_40 : decode cX12_result 40 = .ok (.iconst 0, 1) := by decide +kernel
theorem dX12_result_41 : decode cX12_result 41 = .ok (.invokevirtual 99, 3) := by decide +kernel
theorem dX12_result_44 : decode cX12_result 44 = .ok (.aload_n 0, 1) := by decide +kernel
theorem dX12_result_45 : decode cX12_result 45 = .ok (.iconst 1, 1) := by decide +kernel
theorem dX12_result_46 : decode cX12_result 46 = .ok (.invokevirtual 96, 3) := by decide +kernel
theorem dX12_result_49 : decode cX12_result 49 = .ok (.ifCond .eq 8, 3) := by decide +kernel
theorem dX12_result_52 : decode cX12_result 52 = .ok (.aload_n 0, 1) := by decide +kernel
theorem dX12_result_53 : decode cX12_result 53 = .ok (.iconst 1, 1) := by decide +kernel
theorem dX12_result_54 : decode cX12_result 54 = .ok (.invokevirtual 99, 3) := by decide +kernel
theorem dX12_result_57 : decode cX12_result 57 = .ok (.aload_n 0, 1) := by decide +kernel
theorem dX12_result_58 : decode cX12_result 58 = .ok (.iconst 0, 1) := by decide +kernel
theorem dX12_result_59 : decode cX12_result 59 = .ok (.invokevirtual 92, 3) := by decide +kernel
theorem dX12_result_62 : decode cX12_result 62 = .ok (.ifCond .eq 10, 3) := by decide +kernel
theorem dX12_result_65 : decode cX12_result 65 = .ok (.aload_n 0, 1) := by decide +kernel
theorem dX12_result_66 : decode cX12_result 66 = .ok (.iconst 1, 1) := by decide +kernel
theorem dX12_result_67 : decode cX12_result 67 = .ok (.lconst 1, 1) := by decide +kernel
theorem dX12_result_68 : decode cX12_result 68 = .ok (.invokevirtual 73, 3) := by decide +kernel
theorem dX12_result_71 : decode cX12_result 71 = .ok (.return_, 1) := by decide +kernel
theorem dX12_result_72 : decode cX12_result 72 = .ok (.aload_n 0, 1) := by decide +kernel
theorem dX12_result_73 : decode cX12_result 73 = .ok (.iconst 2, 1) := by decide +kernel
theorem dX12_result_74 : decode cX12_result 74 = .ok (.iconst 0, 1) := by decide +kernel
theorem dX12_result_75 : decode cX12_result 75 = .ok (.invokevirtual 118, 3) := by decide +kernel
theorem dX12_result_78 : decode cX12_result 78 = .ok (.aload_n 0, 1) := by decide +kernel
theorem dX12_result_79 : decode cX12_result 79 = .ok (.iconst 3, 1) := by decide +kernel
theorem dX12_result_80 : decode cX12_result 80 = .ok (.iconst 1, 1) := by decide +kernel
theorem dX12_result_81 : decode cX12_result 81 = .ok (.invokevirtual 118, 3) := by decide +kernel
theorem dX12_result_84 : decode cX12_result 84 = .ok (.iconst 0, 1) := by decide +kernel
theorem dX12_result_85 : decode cX12_result 85 = .ok (.istore 4, 2) := by decide +kernel
theorem dX12_result_87 : decode cX12_result 87 = .ok (.aload_n 0, 1) := by decide +kernel
theorem dX12_result_88 : decode cX12_result 88 = .ok (.iconst 2, 1) := by decide +kernel
theorem dX12_result_89 : decode cX12_result 89 = .ok (.invokevirtual 122, 3) := by decide +kernel
theorem dX12_result_92 : decode cX12_result 92 = .ok (.ifCond .eq 27, 3) := by decide +kernel
theorem dX12_result_95 : decode cX12_result 95 = .ok (.aload_n 0, 1) := by decide +kernel
theorem dX12_result_96 : decode cX12_result 96 = .ok (.iconst 3, 1) := by decide +kernel
theorem dX12_result_97 : decode cX12_result 97 = .ok (.invokevirtual 122, 3) := by decide +kernel
theorem dX12_result_100 : decode cX12_result 100 = .ok (.ifCond .eq 19, 3) := by decide +kernel
theorem dX12_result_103 : decode cX12_result 103 = .ok (.aload_n 0, 1) := by decide +kernel
theorem dX12_result_104 : decode cX12_result 104 = .ok (.iconst 2, 1) := by decide +kernel
theorem dX12_result_105 : decode cX12_result 105 = .ok (.invokevirtual 125, 3) := by decide +kernel
theorem dX12_result_108 : decode cX12_result 108 = .ok (.aload_n 0, 1) := by decide +kernel
theorem dX12_result_109 : decode cX12_result 109 = .ok (.iconst 3, 1) := by decide +kernel
theorem dX12_result_110 : decode cX12_result 110 = .ok (.invokevirtual 125, 3) := by decide +kernel
theorem dX12_result_113 : decode cX12_result 113 = .ok (.iinc 4 1, 3) := by decide +kernel
theorem dX12_result_116 : decode cX12_result 116 = .ok (.goto (-29), 3) := by decide +kernel
theorem dX12_result_119 : decode cX12_result 119 = .ok (.aload_n 0, 1) := by decide +kernel
theorem dX12_result_120 : decode cX12_result 120 = .ok (.iconst 2, 1) := by decide +kernel
theorem dX12_result_121 : decode cX12_result 121 = .ok (.invokevirtual 92, 3) := by decide +kernel
theorem dX12_result_124 : decode cX12_result 124 = .ok (.ifCond .ne 68, 3) := by decide +kernel
theorem dX12_result_127 : decode cX12_result 127 = .ok (.aload_n 0, 1) := by decide +kernel
theorem dX12_result_128 : decode cX12_result 128 = .ok (.iconst 2, 1) := by decide +kernel
theorem dX12_result_129 : decode cX12_result 129 = .ok (.invokevirtual 122, 3) := by decide +kernel
theorem dX12_result_132 : decode cX12_result 132 = .ok (.ifCond .eq 11, 3) := by decide +kernel
theorem dX12_result_135 : decode cX12_result 135 = .ok (.aload_n 0, 1) := by decide +kernel
theorem dX12_result_136 : decode cX12_result 136 = .ok (.iconst 2, 1) := by decide +kernel
theorem dX12_result_137 : decode cX12_result 137 = .ok (.invokevirtual 125, 3) := by decide +kernel
theorem dX12_result_140 : decode cX12_result 140 = .ok (.goto (-13), 3) := by decide +kernel
theorem dX12_result_143 : decode cX12_result 143 = .ok (.aload_n 0, 1) := by decide +kernel
theorem dX12_result_144 : decode cX12_result 144 = .ok (.iconst 3, 1) := by decide +kernel
theorem dX12_result_145 : decode cX12_result 145 = .ok (.invokevirtual 122, 3) := by decide +kernel
theorem dX12_result_148 : decode cX12_result 148 = .ok (.ifCond .eq 11, 3) := by decide +kernel
theorem dX12_result_151 : decode cX12_result 151 = .ok (.aload_n 0, 1) := by decide +kernel
theorem dX12_result_152 : decode cX12_result 152 = .ok (.iconst 3, 1) := by decide +kernel
theorem dX12_result_153 : decode cX12_result 153 = .ok (.invokevirtual 125, 3) := by decide +kernel
theorem dX12_result_156 : decode cX12_result 156 = .ok (.goto (-13), 3) := by decide +kernel
theorem dX12_result_159 : decode cX12_result 159 = .ok (.aload_n 0, 1) := by decide +kernel
theorem dX12_result_160 : decode cX12_result 160 = .ok (.iconst 2, 1) := by decide +kernel
theorem dX12_result_161 : decode cX12_result 161 = .ok (.iconst 3, 1) := by decide +kernel
theorem dX12_result_162 : decode cX12_result 162 = .ok (.invokevirtual 128, 3) := by decide +kernel
theorem dX12_result_165 : decode cX12_result 165 = .ok (.ifCond .eq 15, 3) := by decide +kernel
theorem dX12_result_168 : decode cX12_result 168 = .ok (.aload_n 0, 1) := by decide +kernel
theorem dX12_result_169 : decode cX12_result 169 = .ok (.iconst 3, 1) := by decide +kernel
theorem dX12_result_170 : decode cX12_result 170 = .ok (.iconst 2, 1) := by decide +kernel
theorem dX12_result_171 : decode cX12_result 171 = .ok (.ldc2_w 132, 3) := by decide +kernel
theorem dX12_result_174 : decode cX12_result 174 = .ok (.invokevirtual 134, 3) := by decide +kernel
theorem dX12_result_177 : decode cX12_result 177 = .ok (.goto (-58), 3) := by decide +kernel
theorem dX12_result_180 : decode cX12_result 180 = .ok (.aload_n 0, 1) := by decide +kernel
theorem dX12_result_181 : decode cX12_result 181 = .ok (.iconst 2, 1) := by decide +kernel
theorem dX12_result_182 : decode cX12_result 182 = .ok (.iconst 3, 1) := by decide +kernel
theorem dX12_result_183 : decode cX12_result 183 = .ok (.ldc2_w 132, 3) := by decide +kernel
theorem dX12_result_186 : decode cX12_result 186 = .ok (.invokevirtual 134, 3) := by decide +kernel
theorem dX12_result_189 : decode cX12_result 189 = .ok (.goto (-70), 3) := by decide +kernel
theorem dX12_result_192 : decode cX12_result 192 = .ok (.iconst 0, 1) := by decide +kernel
theorem dX12_result_193 : decode cX12_result 193 = .ok (.istore 5, 2) := by decide +kernel
theorem dX12_result_195 : decode cX12_result 195 = .ok (.iload 5, 2) := by decide +kernel
theorem dX12_result_197 : decode cX12_result 197 = .ok (.iload 4, 2) := by decide +kernel
theorem dX12_result_199 : decode cX12_result 199 = .ok (.if_icmp .ge 22, 3) := by decide +kernel
theorem dX12_result_202 : decode cX12_result 202 = .ok (.aload_n 0, 1) := by decide +kernel
theorem dX12_result_203 : decode cX12_result 203 = .ok (.iconst 4, 1) := by decide +kernel
theorem dX12_result_204 : decode cX12_result 204 = .ok (.iconst 3, 1) := by decide +kernel
theorem dX12_result_205 : decode cX12_result 205 = .ok (.invokevirtual 118, 3) := by decide +kernel
theorem dX12_result_208 : decode cX12_result 208 = .ok (.aload_n 0, 1) := by decide +kernel
theorem dX12_result_209 : decode cX12_result 209 = .ok (.iconst 3, 1) := by decide +kernel
theorem dX12_result_210 : decode cX12_result 210 = .ok (.iconst 4, 1) := by decide +kernel
theorem dX12_result_211 : decode cX12_result 211 = .ok (.lconst 1, 1) := by decide +kernel
theorem dX12_result_212 : decode cX12_result 212 = .ok (.invokevirtual 134, 3) := by decide +kernel
theorem dX12_result_215 : decode cX12_result 215 = .ok (.iinc 5 1, 3) := by decide +kernel
theorem dX12_result_218 : decode cX12_result 218 = .ok (.goto (-23), 3) := by decide +kernel
theorem dX12_result_221 : decode cX12_result 221 = .ok (.aload_n 0, 1) := by decide +kernel
theorem dX12_result_222 : decode cX12_result 222 = .ok (.iconst 0, 1) := by decide +kernel
theorem dX12_result_223 : decode cX12_result 223 = .ok (.iconst 3, 1) := by decide +kernel
theorem dX12_result_224 : decode cX12_result 224 = .ok (.invokevirtual 138, 3) := by decide +kernel
theorem dX12_result_227 : decode cX12_result 227 = .ok (.aload_n 0, 1) := by decide +kernel
theorem dX12_result_228 : decode cX12_result 228 = .ok (.iconst 1, 1) := by decide +kernel
theorem dX12_result_229 : decode cX12_result 229 = .ok (.iconst 3, 1) := by decide +kernel
theorem dX12_result_230 : decode cX12_result 230 = .ok (.invokevirtual 138, 3) := by decide +kernel
theorem dX12_result_233 : decode cX12_result 233 = .ok (.iload_n 3, 1) := by decide +kernel
theorem dX12_result_234 : decode cX12_result 234 = .ok (.ifCond .eq 8, 3) := by decide +kernel
theorem dX12_result_237 : decode cX12_result 237 = .ok (.aload_n 0, 1) := by decide +kernel
theorem dX12_result_238 : decode cX12_result 238 = .ok (.iconst 0, 1) := by decide +kernel
theorem dX12_result_239 : decode cX12_result 239 = .ok (.invokevirtual 99, 3) := by decide +kernel
theorem dX12_result_242 : decode cX12_result 242 = .ok (.return_, 1) := by decide +kernel
theorem dX12_isSlot_0 : decode cX12_isSlot 0 = .ok (.iload_n 0, 1) := by decide +kernel
theorem dX12_isSlot_1 : decode cX12_isSlot 1 = .ok (.ifCond .lt 13, 3) := by decide +kernel
theorem dX12_isSlot_4 : decode cX12_isSlot 4 = .ok (.iload_n 0, 1) := by decide +kernel
theorem dX12_isSlot_5 : decode cX12_isSlot 5 = .ok (.bipush 7, 2) := by decide +kernel
theorem dX12_isSlot_7 : decode cX12_isSlot 7 = .ok (.if_icmp .gt 7, 3) := by decide +kernel
theorem dX12_isSlot_10 : decode cX12_isSlot 10 = .ok (.iconst 1, 1) := by decide +kernel
theorem dX12_isSlot_11 : decode cX12_isSlot 11 = .ok (.goto 4, 3) := by decide +kernel
theorem dX12_isSlot_14 : decode cX12_isSlot 14 = .ok (.iconst 0, 1) := by decide +kernel
theorem dX12_isSlot_15 : decode cX12_isSlot 15 = .ok (.ireturn, 1) := by decide +kernel
theorem dX12_row_0 : decode cX12_row 0 = .ok (.iload_n 1, 1) := by decide +kernel
theorem dX12_row_1 : decode cX12_row 1 = .ok (.invokestatic 141, 3) := by decide +kernel
theorem dX12_row_4 : decode cX12_row 4 = .ok (.ifCond .eq 18, 3) := by decide +kernel
theorem dX12_row_7 : decode cX12_row 7 = .ok (.iload_n 2, 1) := by decide +kernel
theorem dX12_row_8 : decode cX12_row 8 = .ok (.ifCond .lt 14, 3) := by decide +kernel
theorem dX12_row_11 : decode cX12_row 11 = .ok (.iload_n 2, 1) := by decide +kernel
theorem dX12_row_12 : decode cX12_row 12 = .ok (.iconst 3, 1) := by decide +kernel
theorem dX12_row_13 : decode cX12_row 13 = .ok (.if_icmp .gt 9, 3) := by decide +kernel
theorem dX12_row_16 : decode cX12_row 16 = .ok (.iload_n 3, 1) := by decide +kernel
theorem dX12_row_17 : decode cX12_row 17 = .ok (.bipush 60, 2) := by decide +kernel
theorem dX12_row_19 : decode cX12_row 19 = .ok (.if_icmp .le 6, 3) := by decide +kernel
theorem dX12_row_22 : decode cX12_row 22 = .ok (.bipush (-2), 2) := by decide +kernel
theorem dX12_row_24 : decode cX12_row 24 = .ok (.ireturn, 1) := by decide +kernel
theorem dX12_row_25 : decode cX12_row 25 = .ok (.iload_n 3, 1) := by decide +kernel
theorem dX12_row_26 : decode cX12_row 26 = .ok (.ifCond .ge 6, 3) := by decide +kernel
theorem dX12_row_29 : decode cX12_row 29 = .ok (.bipush (-3), 2) := by decide +kernel
theorem dX12_row_31 : decode cX12_row 31 = .ok (.ireturn, 1) := by decide +kernel
theorem dX12_row_32 : decode cX12_row 32 = .ok (.aload_n 0, 1) := by decide +kernel
theorem dX12_row_33 : decode cX12_row 33 = .ok (.getfield 13, 3) := by decide +kernel
theorem dX12_row_36 : decode cX12_row 36 = .ok (.iload_n 1, 1) := by decide +kernel
theorem dX12_row_37 : decode cX12_row 37 = .ok (.iload_n 3, 1) := by decide +kernel
theorem dX12_row_38 : decode cX12_row 38 = .ok (.iconst 1, 1) := by decide +kernel
theorem dX12_row_39 : decode cX12_row 39 = .ok (.iadd, 1) := by decide +kernel
theorem dX12_row_40 : decode cX12_row 40 = .ok (.iastore, 1) := by decide +kernel
theorem dX12_row_41 : decode cX12_row 41 = .ok (.aload_n 0, 1) := by decide +kernel
theorem dX12_row_42 : decode cX12_row 42 = .ok (.getfield 17, 3) := by decide +kernel
theorem dX12_row_45 : decode cX12_row 45 = .ok (.iload_n 1, 1) := by decide +kernel
theorem dX12_row_46 : decode cX12_row 46 = .ok (.iload_n 2, 1) := by decide +kernel
theorem dX12_row_47 : decode cX12_row 47 = .ok (.iastore, 1) := by decide +kernel
theorem dX12_row_48 : decode cX12_row 48 = .ok (.iconst 0, 1) := by decide +kernel
theorem dX12_row_49 : decode cX12_row 49 = .ok (.istore 4, 2) := by decide +kernel
theorem dX12_row_51 : decode cX12_row 51 = .ok (.iload 4, 2) := by decide +kernel
theorem dX12_row_53 : decode cX12_row 53 = .ok (.iload_n 3, 1) := by decide +kernel
theorem dX12_row_54 : decode cX12_row 54 = .ok (.if_icmp .ge 22, 3) := by decide +kernel
theorem dX12_row_57 : decode cX12_row 57 = .ok (.aload_n 0, 1) := by decide +kernel
theorem dX12_row_58 : decode cX12_row 58 = .ok (.getfield 20, 3) := by decide +kernel
theorem dX12_row_61 : decode cX12_row 61 = .ok (.bipush 60, 2) := by decide +kernel
theorem dX12_row_63 : decode cX12_row 63 = .ok (.iload_n 1, 1) := by decide +kernel
theorem dX12_row_64 : decode cX12_row 64 = .ok (.imul, 1) := by decide +kernel
theorem dX12_row_65 : decode cX12_row 65 = .ok (.iload 4, 2) := by decide +kernel
theorem dX12_row_67 : decode cX12_row 67 = .ok (.iadd, 1) := by decide +kernel
theorem dX12_row_68 : decode cX12_row 68 = .ok (.lconst 0, 1) := by decide +kernel
theorem dX12_row_69 : decode cX12_row 69 = .ok (.lastore, 1) := by decide +kernel
theorem dX12_row_70 : decode cX12_row 70 = .ok (.iinc 4 1, 3) := by decide +kernel
theorem dX12_row_73 : decode cX12_row 73 = .ok (.goto (-22), 3) := by decide +kernel
theorem dX12_row_76 : decode cX12_row 76 = .ok (.iconst 0, 1) := by decide +kernel
theorem dX12_row_77 : decode cX12_row 77 = .ok (.ireturn, 1) := by decide +kernel
theorem dX12_tear_0 : decode cX12_tear 0 = .ok (.iload_n 1, 1) := by decide +kernel
theorem dX12_tear_1 : decode cX12_tear 1 = .ok (.invokestatic 141, 3) := by decide +kernel
theorem dX12_tear_4 : decode cX12_tear 4 = .ok (.ifCond .eq 12, 3) := by decide +kernel
theorem dX12_tear_7 : decode cX12_tear 7 = .ok (.aload_n 0, 1) := by decide +kernel
theorem dX12_tear_8 : decode cX12_tear 8 = .ok (.getfield 13, 3) := by decide +kernel
theorem dX12_tear_11 : decode cX12_tear 11 = .ok (.iload_n 1, 1) := by decide +kernel
theorem dX12_tear_12 : decode cX12_tear 12 = .ok (.iaload, 1) := by decide +kernel
theorem dX12_tear_13 : decode cX12_tear 13 = .ok (.ifCond .ne 5, 3) := by decide +kernel
theorem dX12_tear_16 : decode cX12_tear 16 = .ok (.iconst 0, 1) := by decide +kernel
theorem dX12_tear_17 : decode cX12_tear 17 = .ok (.ireturn, 1) := by decide +kernel
theorem dX12_tear_18 : decode cX12_tear 18 = .ok (.aload_n 0, 1) := by decide +kernel
theorem dX12_tear_19 : decode cX12_tear 19 = .ok (.getfield 13, 3) := by decide +kernel
theorem dX12_tear_22 : decode cX12_tear 22 = .ok (.iload_n 1, 1) := by decide +kernel
theorem dX12_tear_23 : decode cX12_tear 23 = .ok (.iconst 0, 1) := by decide +kernel
theorem dX12_tear_24 : decode cX12_tear 24 = .ok (.iastore, 1) := by decide +kernel
theorem dX12_tear_25 : decode cX12_tear 25 = .ok (.iconst 1, 1) := by decide +kernel
theorem dX12_tear_26 : decode cX12_tear 26 = .ok (.ireturn, 1) := by decide +kernel
theorem dX12_write_0 : decode cX12_write 0 = .ok (.iload_n 1, 1) := by decide +kernel
theorem dX12_write_1 : decode cX12_write 1 = .ok (.invokestatic 141, 3) := by decide +kernel
theorem dX12_write_4 : decode cX12_write 4 = .ok (.ifCond .ne 6, 3) := by decide +kernel
theorem dX12_write_7 : decode cX12_write 7 = .ok (.bipush (-2), 2) := by decide +kernel
theorem dX12_write_9 : decode cX12_write 9 = .ok (.ireturn, 1) := by decide +kernel
theorem dX12_write_10 : decode cX12_write 10 = .ok (.aload_n 0, 1) := by decide +kernel
theorem dX12_write_11 : decode cX12_write 11 = .ok (.getfield 13, 3) := by decide +kernel
theorem dX12_write_14 : decode cX12_write 14 = .ok (.iload_n 1, 1) := by decide +kernel
theorem dX12_write_15 : decode cX12_write 15 = .ok (.iaload, 1) := by decide +kernel
theorem dX12_write_16 : decode cX12_write 16 = .ok (.ifCond .ne 6, 3) := by decide +kernel
theorem dX12_write_19 : decode cX12_write 19 = .ok (.bipush (-5), 2) := by decide +kernel
theorem dX12_write_21 : decode cX12_write 21 = .ok (.ireturn, 1) := by decide +kernel
theorem dX12_write_22 : decode cX12_write 22 = .ok (.iload_n 2, 1) := by decide +kernel
theorem dX12_write_23 : decode cX12_write 23 = .ok (.ifCond .lt 15, 3) := by decide +kernel
theorem dX12_write_26 : decode cX12_write 26 = .ok (.iload_n 2, 1) := by decide +kernel
theorem dX12_write_27 : decode cX12_write 27 = .ok (.aload_n 0, 1) := by decide +kernel
theorem dX12_write_28 : decode cX12_write 28 = .ok (.getfield 13, 3) := by decide +kernel
theorem dX12_write_31 : decode cX12_write 31 = .ok (.iload_n 1, 1) := by decide +kernel
theorem dX12_write_32 : decode cX12_write 32 = .ok (.iaload, 1) := by decide +kernel
theorem dX12_write_33 : decode cX12_write 33 = .ok (.iconst 1, 1) := by decide +kernel
theorem dX12_write_34 : decode cX12_write 34 = .ok (.isub, 1) := by decide +kernel
theorem dX12_write_35 : decode cX12_write 35 = .ok (.if_icmp .lt 6, 3) := by decide +kernel
theorem dX12_write_38 : decode cX12_write 38 = .ok (.bipush (-6), 2) := by decide +kernel
theorem dX12_write_40 : decode cX12_write 40 = .ok (.ireturn, 1) := by decide +kernel
theorem dX12_write_41 : decode cX12_write 41 = .ok (.aload_n 0, 1) := by decide +kernel
theorem dX12_write_42 : decode cX12_write 42 = .ok (.getfield 17, 3) := by decide +kernel
theorem dX12_write_45 : decode cX12_write 45 = .ok (.iload_n 1, 1) := by decide +kernel
theorem dX12_write_46 : decode cX12_write 46 = .ok (.iaload, 1) := by decide +kernel
theorem dX12_write_47 : decode cX12_write 47 = .ok (.istore 5, 2) := by decide +kernel
theorem dX12_write_49 : decode cX12_write 49 = .ok (.aload_n 0, 1) := by decide +kernel
theorem dX12_write_50 : decode cX12_write 50 = .ok (.getfield 20, 3) := by decide +kernel
theorem dX12_write_53 : decode cX12_write 53 = .ok (.bipush 60, 2) := by decide +kernel
theorem dX12_write_55 : decode cX12_write 55 = .ok (.iload_n 1, 1) := by decide +kernel
theorem dX12_write_56 : decode cX12_write 56 = .ok (.imul, 1) := by decide +kernel
theorem dX12_write_57 : decode cX12_write 57 = .ok (.iload_n 2, 1) := by decide +kernel
theorem dX12_write_58 : decode cX12_write 58 = .ok (.iadd, 1) := by decide +kernel
theorem dX12_write_59 : decode cX12_write 59 = .ok (.iload 5, 2) := by decide +kernel
theorem dX12_write_61 : decode cX12_write 61 = .ok (.ifCond .ne 10, 3) := by decide +kernel
theorem dX12_write_64 : decode cX12_write 64 = .ok (.lload_n 3, 1) := by decide +kernel
theorem dX12_write_65 : decode cX12_write 65 = .ok (.l2i, 1) := by decide +kernel
theorem dX12_write_66 : decode cX12_write 66 = .ok (.i2b, 1) := by decide +kernel
theorem dX12_write_67 : decode cX12_write 67 = .ok (.i2l, 1) := by decide +kernel
theorem dX12_write_68 : decode cX12_write 68 = .ok (.goto 29, 3) := by decide +kernel
theorem dX12_write_71 : decode cX12_write 71 = .ok (.iload 5, 2) := by decide +kernel
theorem dX12_write_73 : decode cX12_write 73 = .ok (.iconst 1, 1) := by decide +kernel
theorem dX12_write_74 : decode cX12_write 74 = .ok (.if_icmp .ne 10, 3) := by decide +kernel
theorem dX12_write_77 : decode cX12_write 77 = .ok (.lload_n 3, 1) := by decide +kernel
theorem dX12_write_78 : decode cX12_write 78 = .ok (.l2i, 1) := by decide +kernel
theorem dX12_write_79 : decode cX12_write 79 = .ok (.i2s, 1) := by decide +kernel
theorem dX12_write_80 : decode cX12_write 80 = .ok (.i2l, 1) := by decide +kernel
theorem dX12_write_81 : decode cX12_write 81 = .ok (.goto 16, 3) := by decide +kernel
theorem dX12_write_84 : decode cX12_write 84 = .ok (.iload 5, 2) := by decide +kernel
theorem dX12_write_86 : decode cX12_write 86 = .ok (.iconst 2, 1) := by decide +kernel
theorem dX12_write_87 : decode cX12_write 87 = .ok (.if_icmp .ne 9, 3) := by decide +kernel
theorem dX12_write_90 : decode cX12_write 90 = .ok (.lload_n 3, 1) := by decide +kernel
theorem dX12_write_91 : decode cX12_write 91 = .ok (.l2i, 1) := by decide +kernel
theorem dX12_write_92 : decode cX12_write 92 = .ok (.i2l, 1) := by decide +kernel
theorem dX12_write_93 : decode cX12_write 93 = .ok (.goto 4, 3) := by decide +kernel
theorem dX12_write_96 : decode cX12_write 96 = .ok (.lload_n 3, 1) := by decide +kernel
theorem dX12_write_97 : decode cX12_write 97 = .ok (.lastore, 1) := by decide +kernel
theorem dX12_write_98 : decode cX12_write 98 = .ok (.iconst 0, 1) := by decide +kernel
theorem dX12_write_99 : decode cX12_write 99 = .ok (.ireturn, 1) := by decide +kernel
theorem dX12_cell_0 : decode cX12_cell 0 = .ok (.bipush 20, 2) := by decide +kernel
theorem dX12_cell_2 : decode cX12_cell 2 = .ok (.bipush 10, 2) := by decide +kernel
theorem dX12_cell_4 : decode cX12_cell 4 = .ok (.iload_n 1, 1) := by decide +kernel
theorem dX12_cell_5 : decode cX12_cell 5 = .ok (.imul, 1) := by decide +kernel
theorem dX12_cell_6 : decode cX12_cell 6 = .ok (.iadd, 1) := by decide +kernel
theorem dX12_cell_7 : decode cX12_cell 7 = .ok (.iload_n 2, 1) := by decide +kernel
theorem dX12_cell_8 : decode cX12_cell 8 = .ok (.iadd, 1) := by decide +kernel
theorem dX12_cell_9 : decode cX12_cell 9 = .ok (.ireturn, 1) := by decide +kernel
theorem dX12_clear_0 : decode cX12_clear 0 = .ok (.aload_n 0, 1) := by decide +kernel
theorem dX12_clear_1 : decode cX12_clear 1 = .ok (.iconst 0, 1) := by decide +kernel
theorem dX12_clear_2 : decode cX12_clear 2 = .ok (.putfield 144, 3) := by decide +kernel
theorem dX12_clear_5 : decode cX12_clear 5 = .ok (.aload_n 0, 1) := by decide +kernel
theorem dX12_clear_6 : decode cX12_clear 6 = .ok (.iconst 0, 1) := by decide +kernel
theorem dX12_clear_7 : decode cX12_clear 7 = .ok (.putfield 147, 3) := by decide +kernel
theorem dX12_clear_10 : decode cX12_clear 10 = .ok (.aload_n 0, 1) := by decide +kernel
theorem dX12_clear_11 : decode cX12_clear 11 = .ok (.bipush 8, 2) := by decide +kernel
theorem dX12_clear_13 : decode cX12_clear 13 = .ok (.lconst 1, 1) := by decide +kernel
theorem dX12_clear_14 : decode cX12_clear 14 = .ok (.invokevirtual 73, 3) := by decide +kernel
theorem dX12_clear_17 : decode cX12_clear 17 = .ok (.iconst 0, 1) := by decide +kernel
theorem dX12_clear_18 : decode cX12_clear 18 = .ok (.istore_n 2, 1) := by decide +kernel
theorem dX12_clear_19 : decode cX12_clear 19 = .ok (.iload_n 2, 1) := by decide +kernel
theorem dX12_clear_20 : decode cX12_clear 20 = .ok (.iload_n 1, 1) := by decide +kernel
theorem dX12_clear_21 : decode cX12_clear 21 = .ok (.if_icmp .ge 226, 3) := by decide +kernel
theorem dX12_clear_24 : decode cX12_clear 24 = .ok (.aload_n 0, 1) := by decide +kernel
theorem dX12_clear_25 : decode cX12_clear 25 = .ok (.getfield 54, 3) := by decide +kernel
theorem dX12_clear_28 : decode cX12_clear 28 = .ok (.iload_n 2, 1) := by decide +kernel
theorem dX12_clear_29 : decode cX12_clear 29 = .ok (.iconst (-1), 1) := by decide +kernel
theorem dX12_clear_30 : decode cX12_clear 30 = .ok (.iastore, 1) := by decide +kernel
theorem dX12_clear_31 : decode cX12_clear 31 = .ok (.aload_n 0, 1) := by decide +kernel
theorem dX12_clear_32 : decode cX12_clear 32 = .ok (.getfield 144, 3) := by decide +kernel
theorem dX12_clear_35 : decode cX12_clear 35 = .ok (.istore_n 3, 1) := by decide +kernel
theorem dX12_clear_36 : decode cX12_clear 36 = .ok (.iload_n 3, 1) := by decide +kernel
theorem dX12_clear_37 : decode cX12_clear 37 = .ok (.aload_n 0, 1) := by decide +kernel
theorem dX12_clear_38 : decode cX12_clear 38 = .ok (.getfield 150, 3) := by decide +kernel
theorem dX12_clear_41 : decode cX12_clear 41 = .ok (.if_icmp .ge 22, 3) := by decide +kernel
theorem dX12_clear_44 : decode cX12_clear 44 = .ok (.aload_n 0, 1) := by decide +kernel
theorem dX12_clear_45 : decode cX12_clear 45 = .ok (.aload_n 0, 1) := by decide +kernel
theorem dX12_clear_46 : decode cX12_clear 46 = .ok (.iload_n 3, 1) := by decide +kernel
theorem dX12_clear_47 : decode cX12_clear 47 = .ok (.iload_n 2, 1) := by decide +kernel
theorem dX12_clear_48 : decode cX12_clear 48 = .ok (.invokevirtual 153, 3) := by decide +kernel
theorem dX12_clear_51 : decode cX12_clear 51 = .ok (.invokevirtual 92, 3) := by decide +kernel
theorem dX12_clear_54 : decode cX12_clear 54 = .ok (.ifCond .eq 9, 3) := by decide +kernel
theorem dX12_clear_57 : decode cX12_clear 57 = .ok (.iinc 3 1, 3) := by decide +kernel
theorem dX12_clear_60 : decode cX12_clear 60 = .ok (.goto (-24), 3) := by decide +kernel
theorem dX12_clear_63 : decode cX12_clear 63 = .ok (.iload_n 3, 1) := by decide +kernel
theorem dX12_clear_64 : decode cX12_clear 64 = .ok (.aload_n 0, 1) := by decide +kernel
theorem dX12_clear_65 : decode cX12_clear 65 = .ok (.getfield 150, 3) := by decide +kernel
theorem dX12_clear_68 : decode cX12_clear 68 = .ok (.if_icmp .ne 6, 3) := by decide +kernel
theorem dX12_clear_71 : decode cX12_clear 71 = .ok (.goto 170, 3) := by decide +kernel
theorem dX12_clear_74 : decode cX12_clear 74 = .ok (.aload_n 0, 1) := by decide +kernel
theorem dX12_clear_75 : decode cX12_clear 75 = .ok (.dup, 1) := by decide +kernel
theorem dX12_clear_76 : decode cX12_clear 76 = .ok (.getfield 147, 3) := by decide +kernel
theorem dX12_clear_79 : decode cX12_clear 79 = .ok (.iload_n 3, 1) := by decide +kernel
theorem dX12_clear_80 : decode cX12_clear 80 = .ok (.aload_n 0, 1) := by decide +kernel
theorem dX12_clear_81 : decode cX12_clear 81 = .ok (.getfield 144, 3) := by decide +kernel
theorem dX12_clear_84 : decode cX12_clear 84 = .ok (.if_icmp .ne 7, 3) := by decide +kernel
theorem dX12_clear_87 : decode cX12_clear 87 = .ok (.iconst 0, 1) := by decide +kernel
theorem dX12_clear_88 : decode cX12_clear 88 = .ok (.goto 4, 3) := by decide +kernel
theorem dX12_clear_91 : decode cX12_clear 91 = .ok (.iconst 1, 1) := by decide +kernel
theorem dX12_clear_92 : decode cX12_clear 92 = .ok (.iadd, 1) := by decide +kernel
theorem dX12_clear_93 : decode cX12_clear 93 = .ok (.putfield 147, 3) := by decide +kernel
theorem dX12_clear_96 : decode cX12_clear 96 = .ok (.iconst 0, 1) := by decide +kernel
theorem dX12_clear_97 : decode cX12_clear 97 = .ok (.istore 4, 2) := by decide +kernel
theorem dX12_clear_99 : decode cX12_clear 99 = .ok (.iload 4, 2) := by decide +kernel
theorem dX12_clear_101 : decode cX12_clear 101 = .ok (.aload_n 0, 1) := by decide +kernel
theorem dX12_clear_102 : decode cX12_clear 102 = .ok (.getfield 157, 3) := by decide +kernel
theorem dX12_clear_105 : decode cX12_clear 105 = .ok (.if_icmp .ge 67, 3) := by decide +kernel
theorem dX12_clear_108 : decode cX12_clear 108 = .ok (.iload_n 3, 1) := by decide +kernel
theorem dX12_clear_109 : decode cX12_clear 109 = .ok (.aload_n 0, 1) := by decide +kernel
theorem dX12_clear_110 : decode cX12_clear 110 = .ok (.getfield 144, 3) := by decide +kernel
theorem dX12_clear_113 : decode cX12_clear 113 = .ok (.if_icmp .eq 59, 3) := by decide +kernel
theorem dX12_clear_116 : decode cX12_clear 116 = .ok (.aload_n 0, 1) := by decide +kernel
theorem dX12_clear_117 : decode cX12_clear 117 = .ok (.bipush 9, 2) := by decide +kernel
theorem dX12_clear_119 : decode cX12_clear 119 = .ok (.aload_n 0, 1) := by decide +kernel
theorem dX12_clear_120 : decode cX12_clear 120 = .ok (.iload_n 3, 1) := by decide +kernel
theorem dX12_clear_121 : decode cX12_clear 121 = .ok (.iload 4, 2) := by decide +kernel
theorem dX12_clear_123 : decode cX12_clear 123 = .ok (.invokevirtual 153, 3) := by decide +kernel
theorem dX12_clear_126 : decode cX12_clear 126 = .ok (.invokevirtual 118, 3) := by decide +kernel
theorem dX12_clear_129 : decode cX12_clear 129 = .ok (.aload_n 0, 1) := by decide +kernel
theorem dX12_clear_130 : decode cX12_clear 130 = .ok (.aload_n 0, 1) := by decide +kernel
theorem dX12_clear_131 : decode cX12_clear 131 = .ok (.iload_n 3, 1) := by decide +kernel
theorem dX12_clear_132 : decode cX12_clear 132 = .ok (.iload 4, 2) := by decide +kernel
theorem dX12_clear_134 : decode cX12_clear 134 = .ok (.invokevirtual 153, 3) := by decide +kernel
theorem dX12_clear_137 : decode cX12_clear 137 = .ok (.aload_n 0, 1) := by decide +kernel
theorem dX12_clear_138 : decode cX12_clear 138 = .ok (.aload_n 0, 1) := by decide +kernel
theorem dX12_clear_139 : decode cX12_clear 139 = .ok (.getfield 144, 3) := by decide +kernel
theorem dX12_clear_142 : decode cX12_clear 142 = .ok (.iload 4, 2) := by decide +kernel
theorem dX12_clear_144 : decode cX12_clear 144 = .ok (.invokevirtual 153, 3) := by decide +kernel
theorem dX12_clear_147 : decode cX12_clear 147 = .ok (.invokevirtual 118, 3) := by decide +kernel
theorem dX12_clear_150 : decode cX12_clear 150 = .ok (.aload_n 0, 1) := by decide +kernel
theorem dX12_clear_151 : decode cX12_clear 151 = .ok (.aload_n 0, 1) := by decide +kernel
theorem dX12_clear_152 : decode cX12_clear 152 = .ok (.aload_n 0, 1) := by decide +kernel
theorem dX12_clear_153 : decode cX12_clear 153 = .ok (.getfield 144, 3) := by decide +kernel
theorem dX12_clear_156 : decode cX12_clear 156 = .ok (.iload 4, 2) := by decide +kernel
theorem dX12_clear_158 : decode cX12_clear 158 = .ok (.invokevirtual 153, 3) := by decide +kernel
theorem dX12_clear_161 : decode cX12_clear 161 = .ok (.bipush 9, 2) := by decide +kernel
theorem dX12_clear_163 : decode cX12_clear 163 = .ok (.invokevirtual 118, 3) := by decide +kernel
theorem dX12_clear_166 : decode cX12_clear 166 = .ok (.iinc 4 1, 3) := by decide +kernel
theorem dX12_clear_169 : decode cX12_clear 169 = .ok (.goto (-70), 3) := by decide +kernel
theorem dX12_clear_172 : decode cX12_clear 172 = .ok (.iconst 0, 1) := by decide +kernel
theorem dX12_clear_173 : decode cX12_clear 173 = .ok (.istore 4, 2) := by decide +kernel
theorem dX12_clear_175 : decode cX12_clear 175 = .ok (.iload 4, 2) := by decide +kernel
theorem dX12_clear_177 : decode cX12_clear 177 = .ok (.aload_n 0, 1) := by decide +kernel
theorem dX12_clear_178 : decode cX12_clear 178 = .ok (.getfield 150, 3) := by decide +kernel
theorem dX12_clear_181 : decode cX12_clear 181 = .ok (.if_icmp .ge 25, 3) := by decide +kernel
theorem dX12_clear_184 : decode cX12_clear 184 = .ok (.iload 4, 2) := by decide +kernel
theorem dX12_clear_186 : decode cX12_clear 186 = .ok (.aload_n 0, 1) := by decide +kernel
theorem dX12_clear_187 : decode cX12_clear 187 = .ok (.getfield 144, 3) := by decide +kernel
theorem dX12_clear_190 : decode cX12_clear 190 = .ok (.if_icmp .eq 10, 3) := by decide +kernel
theorem dX12_clear_193 : decode cX12_clear 193 = .ok (.aload_n 0, 1) := by decide +kernel
theorem dX12_clear_194 : decode cX12_clear 194 = .ok (.iload 4, 2) := by decide +kernel
theorem dX12_clear_196 : decode cX12_clear 196 = .ok (.iload_n 2, 1) := by decide +kernel
theorem dX12_clear_197 : decode cX12_clear 197 = .ok (.invokevirtual 160, 3) := by decide +kernel
theorem dX12_clear_200 : decode cX12_clear 200 = .ok (.iinc 4 1, 3) := by decide +kernel
theorem dX12_clear_203 : decode cX12_clear 203 = .ok (.goto (-28), 3) := by decide +kernel
theorem dX12_clear_206 : decode cX12_clear 206 = .ok (.aload_n 0, 1) := by decide +kernel
theorem dX12_clear_207 : decode cX12_clear 207 = .ok (.bipush 8, 2) := by decide +kernel
theorem dX12_clear_209 : decode cX12_clear 209 = .ok (.aload_n 0, 1) := by decide +kernel
theorem dX12_clear_210 : decode cX12_clear 210 = .ok (.aload_n 0, 1) := by decide +kernel
theorem dX12_clear_211 : decode cX12_clear 211 = .ok (.getfield 144, 3) := by decide +kernel
theorem dX12_clear_214 : decode cX12_clear 214 = .ok (.iload_n 2, 1) := by decide +kernel
theorem dX12_clear_215 : decode cX12_clear 215 = .ok (.invokevirtual 153, 3) := by decide +kernel
theorem dX12_clear_218 : decode cX12_clear 218 = .ok (.invokevirtual 118, 3) := by decide +kernel
theorem dX12_clear_221 : decode cX12_clear 221 = .ok (.aload_n 0, 1) := by decide +kernel
theorem dX12_clear_222 : decode cX12_clear 222 = .ok (.getfield 54, 3) := by decide +kernel
theorem dX12_clear_225 : decode cX12_clear 225 = .ok (.iload_n 2, 1) := by decide +kernel
theorem dX12_clear_226 : decode cX12_clear 226 = .ok (.aload_n 0, 1) := by decide +kernel
theorem dX12_clear_227 : decode cX12_clear 227 = .ok (.getfield 144, 3) := by decide +kernel
theorem dX12_clear_230 : decode cX12_clear 230 = .ok (.iastore, 1) := by decide +kernel
theorem dX12_clear_231 : decode cX12_clear 231 = .ok (.aload_n 0, 1) := by decide +kernel
theorem dX12_clear_232 : decode cX12_clear 232 = .ok (.dup, 1) := by decide +kernel
theorem dX12_clear_233 : decode cX12_clear 233 = .ok (.getfield 144, 3) := by decide +kernel
theorem dX12_clear_236 : decode cX12_clear 236 = .ok (.iconst 1, 1) := by decide +kernel
theorem dX12_clear_237 : decode cX12_clear 237 = .ok (.iadd, 1) := by decide +kernel
theorem dX12_clear_238 : decode cX12_clear 238 = .ok (.putfield 144, 3) := by decide +kernel
theorem dX12_clear_241 : decode cX12_clear 241 = .ok (.iinc 2 1, 3) := by decide +kernel
theorem dX12_clear_244 : decode cX12_clear 244 = .ok (.goto (-225), 3) := by decide +kernel
theorem dX12_clear_247 : decode cX12_clear 247 = .ok (.return_, 1) := by decide +kernel
theorem dX12_clears_0 : decode cX12_clears 0 = .ok (.aload_n 0, 1) := by decide +kernel
theorem dX12_clears_1 : decode cX12_clears 1 = .ok (.bipush 10, 2) := by decide +kernel
theorem dX12_clears_3 : decode cX12_clears 3 = .ok (.aload_n 0, 1) := by decide +kernel
theorem dX12_clears_4 : decode cX12_clears 4 = .ok (.iload_n 1, 1) := by decide +kernel
theorem dX12_clears_5 : decode cX12_clears 5 = .ok (.iload_n 2, 1) := by decide +kernel
theorem dX12_clears_6 : decode cX12_clears 6 = .ok (.invokevirtual 153, 3) := by decide +kernel
theorem dX12_clears_9 : decode cX12_clears 9 = .ok (.invokevirtual 118, 3) := by decide +kernel
theorem dX12_clears_12 : decode cX12_clears 12 = .ok (.iconst 0, 1) := by decide +kernel
theorem dX12_clears_13 : decode cX12_clears 13 = .ok (.istore_n 3, 1) := by decide +kernel
theorem dX12_clears_14 : decode cX12_clears 14 = .ok (.iload_n 3, 1) := by decide +kernel
theorem dX12_clears_15 : decode cX12_clears 15 = .ok (.aload_n 0, 1) := by decide +kernel
theorem dX12_clears_16 : decode cX12_clears 16 = .ok (.getfield 157, 3) := by decide +kernel
theorem dX12_clears_19 : decode cX12_clears 19 = .ok (.if_icmp .ge 78, 3) := by decide +kernel
theorem dX12_clears_22 : decode cX12_clears 22 = .ok (.aload_n 0, 1) := by decide +kernel
theorem dX12_clears_23 : decode cX12_clears 23 = .ok (.bipush 6, 2) := by decide +kernel
theorem dX12_clears_25 : decode cX12_clears 25 = .ok (.aload_n 0, 1) := by decide +kernel
theorem dX12_clears_26 : decode cX12_clears 26 = .ok (.iload_n 1, 1) := by decide +kernel
theorem dX12_clears_27 : decode cX12_clears 27 = .ok (.iload_n 3, 1) := by decide +kernel
theorem dX12_clears_28 : decode cX12_clears 28 = .ok (.invokevirtual 153, 3) := by decide +kernel
theorem dX12_clears_31 : decode cX12_clears 31 = .ok (.aload_n 0, 1) := by decide +kernel
theorem dX12_clears_32 : decode cX12_clears 32 = .ok (.aload_n 0, 1) := by decide +kernel
theorem dX12_clears_33 : decode cX12_clears 33 = .ok (.getfield 144, 3) := by decide +kernel
theorem dX12_clears_36 : decode cX12_clears 36 = .ok (.iload_n 2, 1) := by decide +kernel
theorem dX12_clears_37 : decode cX12_clears 37 = .ok (.invokevirtual 153, 3) := by decide +kernel
theorem dX12_clears_40 : decode cX12_clears 40 = .ok (.invokevirtual 163, 3) := by decide +kernel
theorem dX12_clears_43 : decode cX12_clears 43 = .ok (.aload_n 0, 1) := by decide +kernel
theorem dX12_clears_44 : decode cX12_clears 44 = .ok (.bipush 7, 2) := by decide +kernel
theorem dX12_clears_46 : decode cX12_clears 46 = .ok (.bipush 10, 2) := by decide +kernel
theorem dX12_clears_48 : decode cX12_clears 48 = .ok (.aload_n 0, 1) := by decide +kernel
theorem dX12_clears_49 : decode cX12_clears 49 = .ok (.aload_n 0, 1) := by decide +kernel
theorem dX12_clears_50 : decode cX12_clears 50 = .ok (.getfield 144, 3) := by decide +kernel
theorem dX12_clears_53 : decode cX12_clears 53 = .ok (.iload_n 3, 1) := by decide +kernel
theorem dX12_clears_54 : decode cX12_clears 54 = .ok (.invokevirtual 153, 3) := by decide +kernel
theorem dX12_clears_57 : decode cX12_clears 57 = .ok (.invokevirtual 163, 3) := by decide +kernel
theorem dX12_clears_60 : decode cX12_clears 60 = .ok (.aload_n 0, 1) := by decide +kernel
theorem dX12_clears_61 : decode cX12_clears 61 = .ok (.bipush 6, 2) := by decide +kernel
theorem dX12_clears_63 : decode cX12_clears 63 = .ok (.bipush 7, 2) := by decide +kernel
theorem dX12_clears_65 : decode cX12_clears 65 = .ok (.ldc2_w 132, 3) := by decide +kernel
theorem dX12_clears_68 : decode cX12_clears 68 = .ok (.invokevirtual 134, 3) := by decide +kernel
theorem dX12_clears_71 : decode cX12_clears 71 = .ok (.aload_n 0, 1) := by decide +kernel
theorem dX12_clears_72 : decode cX12_clears 72 = .ok (.bipush 6, 2) := by decide +kernel
theorem dX12_clears_74 : decode cX12_clears 74 = .ok (.bipush 8, 2) := by decide +kernel
theorem dX12_clears_76 : decode cX12_clears 76 = .ok (.invokevirtual 138, 3) := by decide +kernel
theorem dX12_clears_79 : decode cX12_clears 79 = .ok (.aload_n 0, 1) := by decide +kernel
theorem dX12_clears_80 : decode cX12_clears 80 = .ok (.aload_n 0, 1) := by decide +kernel
theorem dX12_clears_81 : decode cX12_clears 81 = .ok (.iload_n 1, 1) := by decide +kernel
theorem dX12_clears_82 : decode cX12_clears 82 = .ok (.iload_n 3, 1) := by decide +kernel
theorem dX12_clears_83 : decode cX12_clears 83 = .ok (.invokevirtual 153, 3) := by decide +kernel
theorem dX12_clears_86 : decode cX12_clears 86 = .ok (.bipush 6, 2) := by decide +kernel
theorem dX12_clears_88 : decode cX12_clears 88 = .ok (.invokevirtual 118, 3) := by decide +kernel
theorem dX12_clears_91 : decode cX12_clears 91 = .ok (.iinc 3 1, 3) := by decide +kernel
theorem dX12_clears_94 : decode cX12_clears 94 = .ok (.goto (-80), 3) := by decide +kernel
theorem dX12_clears_97 : decode cX12_clears 97 = .ok (.return_, 1) := by decide +kernel
theorem dX12_isIn_0 : decode cX12_isIn 0 = .ok (.lload_n 0, 1) := by decide +kernel
