theorem dX9_trim_67 : decode cX9_trim 67 = .ok (.goto 4, 3) := by decide +kernel
theorem dX9_trim_70 : decode cX9_trim 70 = .ok (.iload_n 2, 1) := by decide +kernel
theorem dX9_trim_71 : decode cX9_trim 71 = .ok (.putfield 34, 3) := by decide +kernel
theorem dX9_trim_74 : decode cX9_trim 74 = .ok (.return_, 1) := by decide +kernel
theorem dX10_init_0 : decode cX10_init 0 = .ok (.aload_n 0, 1) := by decide +kernel
theorem dX10_init_1 : decode cX10_init 1 = .ok (.invokespecial 1, 3) := by decide +kernel
theorem dX10_init_4 : decode cX10_init 4 = .ok (.aload_n 0, 1) := by decide +kernel
theorem dX10_init_5 : decode cX10_init 5 = .ok (.new 7, 3) := by decide +kernel
theorem dX10_init_8 : decode cX10_init 8 = .ok (.dup, 1) := by decide +kernel
theorem dX10_init_9 : decode cX10_init 9 = .ok (.invokespecial 9, 3) := by decide +kernel
theorem dX10_init_12 : decode cX10_init 12 = .ok (.putfield 10, 3) := by decide +kernel
theorem dX10_init_15 : decode cX10_init 15 = .ok (.aload_n 0, 1) := by decide +kernel
theorem dX10_init_16 : decode cX10_init 16 = .ok (.new 16, 3) := by decide +kernel
theorem dX10_init_19 : decode cX10_init 19 = .ok (.dup, 1) := by decide +kernel
theorem dX10_init_20 : decode cX10_init 20 = .ok (.invokespecial 18, 3) := by decide +kernel
theorem dX10_init_23 : decode cX10_init 23 = .ok (.putfield 19, 3) := by decide +kernel
theorem dX10_init_26 : decode cX10_init 26 = .ok (.aload_n 0, 1) := by decide +kernel
theorem dX10_init_27 : decode cX10_init 27 = .ok (.new 16, 3) := by decide +kernel
theorem dX10_init_30 : decode cX10_init 30 = .ok (.dup, 1) := by decide +kernel
theorem dX10_init_31 : decode cX10_init 31 = .ok (.invokespecial 18, 3) := by decide +kernel
theorem dX10_init_34 : decode cX10_init 34 = .ok (.putfield 23, 3) := by decide +kernel
theorem dX10_init_37 : decode cX10_init 37 = .ok (.aload_n 0, 1) := by decide +kernel
theorem dX10_init_38 : decode cX10_init 38 = .ok (.new 16, 3) := by decide +kernel
theorem dX10_init_41 : decode cX10_init 41 = .ok (.dup, 1) := by decide +kernel
theorem dX10_init_42 : decode cX10_init 42 = .ok (.invokespecial 18, 3) := by decide +kernel
theorem dX10_init_45 : decode cX10_init 45 = .ok (.putfield 26, 3) := by decide +kernel
theorem dX10_init_48 : decode cX10_init 48 = .ok (.return_, 1) := by decide +kernel
theorem dX10_isLarger_0 : decode cX10_isLarger 0 = .ok (.aload_n 0, 1) := by decide +kernel
theorem dX10_isLarger_1 : decode cX10_isLarger 1 = .ok (.getfield 19, 3) := by decide +kernel
theorem dX10_isLarger_4 : decode cX10_isLarger 4 = .ok (.aload_n 1, 1) := by decide +kernel
theorem dX10_isLarger_5 : decode cX10_isLarger 5 = .ok (.getfield 29, 3) := by decide +kernel
theorem dX10_isLarger_8 : decode cX10_isLarger 8 = .ok (.aload_n 2, 1) := by decide +kernel
theorem dX10_isLarger_9 : decode cX10_isLarger 9 = .ok (.getfield 34, 3) := by decide +kernel
theorem dX10_isLarger_12 : decode cX10_isLarger 12 = .ok (.invokevirtual 37, 3) := by decide +kernel
theorem dX10_isLarger_15 : decode cX10_isLarger 15 = .ok (.aload_n 0, 1) := by decide +kernel
theorem dX10_isLarger_16 : decode cX10_isLarger 16 = .ok (.getfield 23, 3) := by decide +kernel
theorem dX10_isLarger_19 : decode cX10_isLarger 19 = .ok (.aload_n 2, 1) := by decide +kernel
theorem dX10_isLarger_20 : decode cX10_isLarger 20 = .ok (.getfield 29, 3) := by decide +kernel
theorem dX10_isLarger_23 : decode cX10_isLarger 23 = .ok (.aload_n 1, 1) := by decide +kernel
theorem dX10_isLarger_24 : decode cX10_isLarger 24 = .ok (.getfield 34, 3) := by decide +kernel
theorem dX10_isLarger_27 : decode cX10_isLarger 27 = .ok (.invokevirtual 37, 3) := by decide +kernel
theorem dX10_isLarger_30 : decode cX10_isLarger 30 = .ok (.aload_n 0, 1) := by decide +kernel
theorem dX10_isLarger_31 : decode cX10_isLarger 31 = .ok (.getfield 19, 3) := by decide +kernel
theorem dX10_isLarger_34 : decode cX10_isLarger 34 = .ok (.aload_n 0, 1) := by decide +kernel
theorem dX10_isLarger_35 : decode cX10_isLarger 35 = .ok (.getfield 23, 3) := by decide +kernel
theorem dX10_isLarger_38 : decode cX10_isLarger 38 = .ok (.invokevirtual 41, 3) := by decide +kernel
theorem dX10_isLarger_41 : decode cX10_isLarger 41 = .ok (.ifCond .le 7, 3) := by decide +kernel
theorem dX10_isLarger_44 : decode cX10_isLarger 44 = .ok (.iconst 1, 1) := by decide +kernel
theorem dX10_isLarger_45 : decode cX10_isLarger 45 = .ok (.goto 4, 3) := by decide +kernel
theorem dX10_isLarger_48 : decode cX10_isLarger 48 = .ok (.iconst 0, 1) := by decide +kernel
theorem dX10_isLarger_49 : decode cX10_isLarger 49 = .ok (.ireturn, 1) := by decide +kernel
theorem dX10_reduce_0 : decode cX10_reduce 0 = .ok (.aload_n 0, 1) := by decide +kernel
theorem dX10_reduce_1 : decode cX10_reduce 1 = .ok (.aload_n 1, 1) := by decide +kernel
theorem dX10_reduce_2 : decode cX10_reduce 2 = .ok (.invokevirtual 45, 3) := by decide +kernel
theorem dX10_reduce_5 : decode cX10_reduce 5 = .ok (.astore_n 2, 1) := by decide +kernel
theorem dX10_reduce_6 : decode cX10_reduce 6 = .ok (.aload_n 2, 1) := by decide +kernel
theorem dX10_reduce_7 : decode cX10_reduce 7 = .ok (.getfield 49, 3) := by decide +kernel
theorem dX10_reduce_10 : decode cX10_reduce 10 = .ok (.ifCond .ne 4, 3) := by decide +kernel
theorem dX10_reduce_13 : decode cX10_reduce 13 = .ok (.return_, 1) := by decide +kernel
theorem dX10_reduce_14 : decode cX10_reduce 14 = .ok (.aload_n 2, 1) := by decide +kernel
theorem dX10_reduce_15 : decode cX10_reduce 15 = .ok (.aload_n 1, 1) := by decide +kernel
theorem dX10_reduce_16 : decode cX10_reduce 16 = .ok (.getfield 34, 3) := by decide +kernel
theorem dX10_reduce_19 : decode cX10_reduce 19 = .ok (.getfield 53, 3) := by decide +kernel
theorem dX10_reduce_22 : decode cX10_reduce 22 = .ok (.putfield 53, 3) := by decide +kernel
theorem dX10_reduce_25 : decode cX10_reduce 25 = .ok (.aload_n 0, 1) := by decide +kernel
theorem dX10_reduce_26 : decode cX10_reduce 26 = .ok (.getfield 10, 3) := by decide +kernel
theorem dX10_reduce_29 : decode cX10_reduce 29 = .ok (.aload_n 1, 1) := by decide +kernel
theorem dX10_reduce_30 : decode cX10_reduce 30 = .ok (.getfield 29, 3) := by decide +kernel
theorem dX10_reduce_33 : decode cX10_reduce 33 = .ok (.aload_n 2, 1) := by decide +kernel
theorem dX10_reduce_34 : decode cX10_reduce 34 = .ok (.aload_n 1, 1) := by decide +kernel
theorem dX10_reduce_35 : decode cX10_reduce 35 = .ok (.getfield 29, 3) := by decide +kernel
theorem dX10_reduce_38 : decode cX10_reduce 38 = .ok (.invokevirtual 56, 3) := by decide +kernel
theorem dX10_reduce_41 : decode cX10_reduce 41 = .ok (.aload_n 0, 1) := by decide +kernel
theorem dX10_reduce_42 : decode cX10_reduce 42 = .ok (.getfield 10, 3) := by decide +kernel
theorem dX10_reduce_45 : decode cX10_reduce 45 = .ok (.aload_n 1, 1) := by decide +kernel
theorem dX10_reduce_46 : decode cX10_reduce 46 = .ok (.getfield 34, 3) := by decide +kernel
theorem dX10_reduce_49 : decode cX10_reduce 49 = .ok (.aload_n 2, 1) := by decide +kernel
theorem dX10_reduce_50 : decode cX10_reduce 50 = .ok (.aload_n 1, 1) := by decide +kernel
theorem dX10_reduce_51 : decode cX10_reduce 51 = .ok (.getfield 34, 3) := by decide +kernel
theorem dX10_reduce_54 : decode cX10_reduce 54 = .ok (.invokevirtual 56, 3) := by decide +kernel
theorem dX10_reduce_57 : decode cX10_reduce 57 = .ok (.return_, 1) := by decide +kernel
theorem dX10_findShared_0 : decode cX10_findShared 0 = .ok (.aload_n 0, 1) := by decide +kernel
theorem dX10_findShared_1 : decode cX10_findShared 1 = .ok (.getfield 19, 3) := by decide +kernel
theorem dX10_findShared_4 : decode cX10_findShared 4 = .ok (.astore_n 2, 1) := by decide +kernel
theorem dX10_findShared_5 : decode cX10_findShared 5 = .ok (.aload_n 0, 1) := by decide +kernel
theorem dX10_findShared_6 : decode cX10_findShared 6 = .ok (.getfield 23, 3) := by decide +kernel
theorem dX10_findShared_9 : decode cX10_findShared 9 = .ok (.astore_n 3, 1) := by decide +kernel
theorem dX10_findShared_10 : decode cX10_findShared 10 = .ok (.aload_n 2, 1) := by decide +kernel
theorem dX10_findShared_11 : decode cX10_findShared 11 = .ok (.aload_n 1, 1) := by decide +kernel
theorem dX10_findShared_12 : decode cX10_findShared 12 = .ok (.getfield 29, 3) := by decide +kernel
theorem dX10_findShared_15 : decode cX10_findShared 15 = .ok (.invokevirtual 60, 3) := by decide +kernel
theorem dX10_findShared_18 : decode cX10_findShared 18 = .ok (.aload_n 3, 1) := by decide +kernel
theorem dX10_findShared_19 : decode cX10_findShared 19 = .ok (.aload_n 1, 1) := by decide +kernel
theorem dX10_findShared_20 : decode cX10_findShared 20 = .ok (.getfield 34, 3) := by decide +kernel
theorem dX10_findShared_23 : decode cX10_findShared 23 = .ok (.invokevirtual 60, 3) := by decide +kernel
theorem dX10_findShared_26 : decode cX10_findShared 26 = .ok (.iconst 0, 1) := by decide +kernel
theorem dX10_findShared_27 : decode cX10_findShared 27 = .ok (.istore 4, 2) := by decide +kernel
theorem dX10_findShared_29 : decode cX10_findShared 29 = .ok (.iload 4, 2) := by decide +kernel
theorem dX10_findShared_31 : decode cX10_findShared 31 = .ok (.ldc 64, 2) := by decide +kernel
theorem dX10_findShared_33 : decode cX10_findShared 33 = .ok (.if_icmp .ge 45, 3) := by decide +kernel
theorem dX10_findShared_36 : decode cX10_findShared 36 = .ok (.aload_n 3, 1) := by decide +kernel
theorem dX10_findShared_37 : decode cX10_findShared 37 = .ok (.getfield 49, 3) := by decide +kernel
theorem dX10_findShared_40 : decode cX10_findShared 40 = .ok (.ifCond .le 38, 3) := by decide +kernel
theorem dX10_findShared_43 : decode cX10_findShared 43 = .ok (.aload_n 0, 1) := by decide +kernel
theorem dX10_findShared_44 : decode cX10_findShared 44 = .ok (.getfield 10, 3) := by decide +kernel
theorem dX10_findShared_47 : decode cX10_findShared 47 = .ok (.aload_n 2, 1) := by decide +kernel
theorem dX10_findShared_48 : decode cX10_findShared 48 = .ok (.aload_n 3, 1) := by decide +kernel
theorem dX10_findShared_49 : decode cX10_findShared 49 = .ok (.aload_n 0, 1) := by decide +kernel
theorem dX10_findShared_50 : decode cX10_findShared 50 = .ok (.getfield 26, 3) := by decide +kernel
theorem dX10_findShared_53 : decode cX10_findShared 53 = .ok (.invokevirtual 56, 3) := by decide +kernel
theorem dX10_findShared_56 : decode cX10_findShared 56 = .ok (.aload_n 0, 1) := by decide +kernel
theorem dX10_findShared_57 : decode cX10_findShared 57 = .ok (.getfield 10, 3) := by decide +kernel
theorem dX10_findShared_60 : decode cX10_findShared 60 = .ok (.aload_n 2, 1) := by decide +kernel
theorem dX10_findShared_61 : decode cX10_findShared 61 = .ok (.invokevirtual 65, 3) := by decide +kernel
theorem dX10_findShared_64 : decode cX10_findShared 64 = .ok (.aload_n 2, 1) := by decide +kernel
theorem dX10_findShared_65 : decode cX10_findShared 65 = .ok (.astore 5, 2) := by decide +kernel
theorem dX10_findShared_67 : decode cX10_findShared 67 = .ok (.aload_n 3, 1) := by decide +kernel
theorem dX10_findShared_68 : decode cX10_findShared 68 = .ok (.astore_n 2, 1) := by decide +kernel
theorem dX10_findShared_69 : decode cX10_findShared 69 = .ok (.aload 5, 2) := by decide +kernel
theorem dX10_findShared_71 : decode cX10_findShared 71 = .ok (.astore_n 3, 1) := by decide +kernel
theorem dX10_findShared_72 : decode cX10_findShared 72 = .ok (.iinc 4 1, 3) := by decide +kernel
theorem dX10_findShared_75 : decode cX10_findShared 75 = .ok (.goto (-46), 3) := by decide +kernel
theorem dX10_findShared_78 : decode cX10_findShared 78 = .ok (.aload_n 2, 1) := by decide +kernel
theorem dX10_findShared_79 : decode cX10_findShared 79 = .ok (.areturn, 1) := by decide +kernel
theorem dX11_init_0 : decode cX11_init 0 = .ok (.aload_n 0, 1) := by decide +kernel
theorem dX11_init_1 : decode cX11_init 1 = .ok (.invokespecial 3, 3) := by decide +kernel
theorem dX11_init_4 : decode cX11_init 4 = .ok (.aload_n 0, 1) := by decide +kernel
theorem dX11_init_5 : decode cX11_init 5 = .ok (.new 9, 3) := by decide +kernel
theorem dX11_init_8 : decode cX11_init 8 = .ok (.dup, 1) := by decide +kernel
theorem dX11_init_9 : decode cX11_init 9 = .ok (.invokespecial 11, 3) := by decide +kernel
theorem dX11_init_12 : decode cX11_init 12 = .ok (.putfield 12, 3) := by decide +kernel
theorem dX11_init_15 : decode cX11_init 15 = .ok (.aload_n 0, 1) := by decide +kernel
theorem dX11_init_16 : decode cX11_init 16 = .ok (.new 16, 3) := by decide +kernel
theorem dX11_init_19 : decode cX11_init 19 = .ok (.dup, 1) := by decide +kernel
theorem dX11_init_20 : decode cX11_init 20 = .ok (.invokespecial 18, 3) := by decide +kernel
theorem dX11_init_23 : decode cX11_init 23 = .ok (.putfield 19, 3) := by decide +kernel
theorem dX11_init_26 : decode cX11_init 26 = .ok (.aload_n 0, 1) := by decide +kernel
theorem dX11_init_27 : decode cX11_init 27 = .ok (.new 23, 3) := by decide +kernel
theorem dX11_init_30 : decode cX11_init 30 = .ok (.dup, 1) := by decide +kernel
theorem dX11_init_31 : decode cX11_init 31 = .ok (.bipush 6, 2) := by decide +kernel
theorem dX11_init_33 : decode cX11_init 33 = .ok (.invokespecial 25, 3) := by decide +kernel
theorem dX11_init_36 : decode cX11_init 36 = .ok (.putfield 28, 3) := by decide +kernel
theorem dX11_init_39 : decode cX11_init 39 = .ok (.aload_n 0, 1) := by decide +kernel
theorem dX11_init_40 : decode cX11_init 40 = .ok (.new 32, 3) := by decide +kernel
theorem dX11_init_43 : decode cX11_init 43 = .ok (.dup, 1) := by decide +kernel
theorem dX11_init_44 : decode cX11_init 44 = .ok (.invokespecial 34, 3) := by decide +kernel
theorem dX11_init_47 : decode cX11_init 47 = .ok (.putfield 35, 3) := by decide +kernel
theorem dX11_init_50 : decode cX11_init 50 = .ok (.aload_n 0, 1) := by decide +kernel
theorem dX11_init_51 : decode cX11_init 51 = .ok (.new 39, 3) := by decide +kernel
theorem dX11_init_54 : decode cX11_init 54 = .ok (.dup, 1) := by decide +kernel
theorem dX11_init_55 : decode cX11_init 55 = .ok (.invokespecial 41, 3) := by decide +kernel
theorem dX11_init_58 : decode cX11_init 58 = .ok (.putfield 42, 3) := by decide +kernel
theorem dX11_init_61 : decode cX11_init 61 = .ok (.aload_n 0, 1) := by decide +kernel
theorem dX11_init_62 : decode cX11_init 62 = .ok (.new 46, 3) := by decide +kernel
theorem dX11_init_65 : decode cX11_init 65 = .ok (.dup, 1) := by decide +kernel
theorem dX11_init_66 : decode cX11_init 66 = .ok (.invokespecial 48, 3) := by decide +kernel
theorem dX11_init_69 : decode cX11_init 69 = .ok (.putfield 49, 3) := by decide +kernel
theorem dX11_init_72 : decode cX11_init 72 = .ok (.aload_n 0, 1) := by decide +kernel
theorem dX11_init_73 : decode cX11_init 73 = .ok (.new 53, 3) := by decide +kernel
theorem dX11_init_76 : decode cX11_init 76 = .ok (.dup, 1) := by decide +kernel
theorem dX11_init_77 : decode cX11_init 77 = .ok (.invokespecial 55, 3) := by decide +kernel
theorem dX11_init_80 : decode cX11_init 80 = .ok (.putfield 56, 3) := by decide +kernel
theorem dX11_init_83 : decode cX11_init 83 = .ok (.aload_n 0, 1) := by decide +kernel
theorem dX11_init_84 : decode cX11_init 84 = .ok (.new 60, 3) := by decide +kernel
theorem dX11_init_87 : decode cX11_init 87 = .ok (.dup, 1) := by decide +kernel
theorem dX11_init_88 : decode cX11_init 88 = .ok (.invokespecial 62, 3) := by decide +kernel
theorem dX11_init_91 : decode cX11_init 91 = .ok (.putfield 63, 3) := by decide +kernel
theorem dX11_init_94 : decode cX11_init 94 = .ok (.aload_n 0, 1) := by decide +kernel
theorem dX11_init_95 : decode cX11_init 95 = .ok (.new 60, 3) := by decide +kernel
theorem dX11_init_98 : decode cX11_init 98 = .ok (.dup, 1) := by decide +kernel
theorem dX11_init_99 : decode cX11_init 99 = .ok (.invokespecial 62, 3) := by decide +kernel
theorem dX11_init_102 : decode cX11_init 102 = .ok (.putfield 67, 3) := by decide +kernel
theorem dX11_init_105 : decode cX11_init 105 = .ok (.aload_n 0, 1) := by decide +kernel
theorem dX11_init_106 : decode cX11_init 106 = .ok (.new 60, 3) := by decide +kernel
theorem dX11_init_109 : decode cX11_init 109 = .ok (.dup, 1) := by decide +kernel
theorem dX11_init_110 : decode cX11_init 110 = .ok (.invokespecial 62, 3) := by decide +kernel
theorem dX11_init_113 : decode cX11_init 113 = .ok (.putfield 70, 3) := by decide +kernel
theorem dX11_init_116 : decode cX11_init 116 = .ok (.aload_n 0, 1) := by decide +kernel
theorem dX11_init_117 : decode cX11_init 117 = .ok (.new 60, 3) := by decide +kernel
theorem dX11_init_120 : decode cX11_init 120 = .ok (.dup, 1) := by decide +kernel
theorem dX11_init_121 : decode cX11_init 121 = .ok (.invokespecial 62, 3) := by decide +kernel
theorem dX11_init_124 : decode cX11_init 124 = .ok (.putfield 73, 3) := by decide +kernel
theorem dX11_init_127 : decode cX11_init 127 = .ok (.aload_n 0, 1) := by decide +kernel
theorem dX11_init_128 : decode cX11_init 128 = .ok (.new 76, 3) := by decide +kernel
theorem dX11_init_131 : decode cX11_init 131 = .ok (.dup, 1) := by decide +kernel
theorem dX11_init_132 : decode cX11_init 132 = .ok (.invokespecial 78, 3) := by decide +kernel
theorem dX11_init_135 : decode cX11_init 135 = .ok (.putfield 79, 3) := by decide +kernel
theorem dX11_init_138 : decode cX11_init 138 = .ok (.aload_n 0, 1) := by decide +kernel
theorem dX11_init_139 : decode cX11_init 139 = .ok (.new 76, 3) := by decide +kernel
theorem dX11_init_142 : decode cX11_init 142 = .ok (.dup, 1) := by decide +kernel
theorem dX11_init_143 : decode cX11_init 143 = .ok (.invokespecial 78, 3) := by decide +kernel
theorem dX11_init_146 : decode cX11_init 146 = .ok (.putfield 83, 3) := by decide +kernel
theorem dX11_init_149 : decode cX11_init 149 = .ok (.aload_n 0, 1) := by decide +kernel
theorem dX11_init_150 : decode cX11_init 150 = .ok (.iconst (-1), 1) := by decide +kernel
theorem dX11_init_151 : decode cX11_init 151 = .ok (.putfield 86, 3) := by decide +kernel
theorem dX11_init_154 : decode cX11_init 154 = .ok (.aload_n 0, 1) := by decide +kernel
theorem dX11_init_155 : decode cX11_init 155 = .ok (.bipush 8, 2) := by decide +kernel
theorem dX11_init_157 : decode cX11_init 157 = .ok (.putfield 90, 3) := by decide +kernel
theorem dX11_init_160 : decode cX11_init 160 = .ok (.return_, 1) := by decide +kernel
theorem dX11_row_0 : decode cX11_row 0 = .ok (.aload_n 0, 1) := by decide +kernel
theorem dX11_row_1 : decode cX11_row 1 = .ok (.getfield 12, 3) := by decide +kernel
theorem dX11_row_4 : decode cX11_row 4 = .ok (.iload_n 1, 1) := by decide +kernel
theorem dX11_row_5 : decode cX11_row 5 = .ok (.invokevirtual 93, 3) := by decide +kernel
theorem dX11_row_8 : decode cX11_row 8 = .ok (.ifCond .eq 18, 3) := by decide +kernel
theorem dX11_row_11 : decode cX11_row 11 = .ok (.iload_n 2, 1) := by decide +kernel
theorem dX11_row_12 : decode cX11_row 12 = .ok (.ifCond .lt 14, 3) := by decide +kernel
theorem dX11_row_15 : decode cX11_row 15 = .ok (.iload_n 2, 1) := by decide +kernel
theorem dX11_row_16 : decode cX11_row 16 = .ok (.iconst 3, 1) := by decide +kernel
theorem dX11_row_17 : decode cX11_row 17 = .ok (.if_icmp .gt 9, 3) := by decide +kernel
theorem dX11_row_20 : decode cX11_row 20 = .ok (.iload_n 3, 1) := by decide +kernel
theorem dX11_row_21 : decode cX11_row 21 = .ok (.bipush 60, 2) := by decide +kernel
theorem dX11_row_23 : decode cX11_row 23 = .ok (.if_icmp .le 6, 3) := by decide +kernel
theorem dX11_row_26 : decode cX11_row 26 = .ok (.bipush (-2), 2) := by decide +kernel
theorem dX11_row_28 : decode cX11_row 28 = .ok (.ireturn, 1) := by decide +kernel
theorem dX11_row_29 : decode cX11_row 29 = .ok (.iload_n 3, 1) := by decide +kernel
theorem dX11_row_30 : decode cX11_row 30 = .ok (.ifCond .ge 6, 3) := by decide +kernel
theorem dX11_row_33 : decode cX11_row 33 = .ok (.bipush (-3), 2) := by decide +kernel
theorem dX11_row_35 : decode cX11_row 35 = .ok (.ireturn, 1) := by decide +kernel
theorem dX11_row_36 : decode cX11_row 36 = .ok (.aload_n 0, 1) := by decide +kernel
theorem dX11_row_37 : decode cX11_row 37 = .ok (.getfield 12, 3) := by decide +kernel
theorem dX11_row_40 : decode cX11_row 40 = .ok (.iload_n 1, 1) := by decide +kernel
theorem dX11_row_41 : decode cX11_row 41 = .ok (.iload_n 2, 1) := by decide +kernel
theorem dX11_row_42 : decode cX11_row 42 = .ok (.iload_n 3, 1) := by decide +kernel
theorem dX11_row_43 : decode cX11_row 43 = .ok (.invokevirtual 97, 3) := by decide +kernel
theorem dX11_row_46 : decode cX11_row 46 = .ok (.iconst 0, 1) := by decide +kernel
theorem dX11_row_47 : decode cX11_row 47 = .ok (.ireturn, 1) := by decide +kernel
theorem dX11_tear_0 : decode cX11_tear 0 = .ok (.aload_n 0, 1) := by decide +kernel
theorem dX11_tear_1 : decode cX11_tear 1 = .ok (.getfield 12, 3) := by decide +kernel
theorem dX11_tear_4 : decode cX11_tear 4 = .ok (.iload_n 1, 1) := by decide +kernel
theorem dX11_tear_5 : decode cX11_tear 5 = .ok (.invokevirtual 101, 3) := by decide +kernel
theorem dX11_tear_8 : decode cX11_tear 8 = .ok (.ifCond .ne 5, 3) := by decide +kernel
theorem dX11_tear_11 : decode cX11_tear 11 = .ok (.iconst 0, 1) := by decide +kernel
theorem dX11_tear_12 : decode cX11_tear 12 = .ok (.ireturn, 1) := by decide +kernel
theorem dX11_tear_13 : decode cX11_tear 13 = .ok (.aload_n 0, 1) := by decide +kernel
theorem dX11_tear_14 : decode cX11_tear 14 = .ok (.getfield 12, 3) := by decide +kernel
theorem dX11_tear_17 : decode cX11_tear 17 = .ok (.iload_n 1, 1) := by decide +kernel
theorem dX11_tear_18 : decode cX11_tear 18 = .ok (.invokevirtual 104, 3) := by decide +kernel
theorem dX11_tear_21 : decode cX11_tear 21 = .ok (.iconst 1, 1) := by decide +kernel
theorem dX11_tear_22 : decode cX11_tear 22 = .ok (.ireturn, 1) := by decide +kernel
theorem dX11_write_0 : decode cX11_write 0 = .ok (.aload_n 0, 1) := by decide +kernel
theorem dX11_write_1 : decode cX11_write 1 = .ok (.getfield 12, 3) := by decide +kernel
theorem dX11_write_4 : decode cX11_write 4 = .ok (.iload_n 1, 1) := by decide +kernel
theorem dX11_write_5 : decode cX11_write 5 = .ok (.invokevirtual 93, 3) := by decide +kernel
theorem dX11_write_8 : decode cX11_write 8 = .ok (.ifCond .ne 6, 3) := by decide +kernel
theorem dX11_write_11 : decode cX11_write 11 = .ok (.bipush (-2), 2) := by decide +kernel
theorem dX11_write_13 : decode cX11_write 13 = .ok (.ireturn, 1) := by decide +kernel
theorem dX11_write_14 : decode cX11_write 14 = .ok (.aload_n 0, 1) := by decide +kernel
theorem dX11_write_15 : decode cX11_write 15 = .ok (.getfield 12, 3) := by decide +kernel
theorem dX11_write_18 : decode cX11_write 18 = .ok (.iload_n 1, 1) := by decide +kernel
theorem dX11_write_19 : decode cX11_write 19 = .ok (.invokevirtual 101, 3) := by decide +kernel
theorem dX11_write_22 : decode cX11_write 22 = .ok (.ifCond .ne 6, 3) := by decide +kernel
theorem dX11_write_25 : decode cX11_write 25 = .ok (.bipush (-5), 2) := by decide +kernel
theorem dX11_write_27 : decode cX11_write 27 = .ok (.ireturn, 1) := by decide +kernel
theorem dX11_write_28 : decode cX11_write 28 = .ok (.aload_n 0, 1) := by decide +kernel
theorem dX11_write_29 : decode cX11_write 29 = .ok (.getfield 12, 3) := by decide +kernel
theorem dX11_write_32 : decode cX11_write 32 = .ok (.iload_n 1, 1) := by decide +kernel
theorem dX11_write_33 : decode cX11_write 33 = .ok (.iload_n 2, 1) := by decide +kernel
theorem dX11_write_34 : decode cX11_write 34 = .ok (.lload_n 3, 1) := by decide +kernel
theorem dX11_write_35 : decode cX11_write 35 = .ok (.invokevirtual 107, 3) := by decide +kernel
theorem dX11_write_38 : decode cX11_write 38 = .ok (.ifCond .eq 7, 3) := by decide +kernel
theorem dX11_write_41 : decode cX11_write 41 = .ok (.iconst 0, 1) := by decide +kernel
theorem dX11_write_42 : decode cX11_write 42 = .ok (.goto 5, 3) := by decide +kernel
theorem dX11_write_45 : decode cX11_write 45 = .ok (.bipush (-6), 2) := by decide +kernel
theorem dX11_write_47 : decode cX11_write 47 = .ok (.ireturn, 1) := by decide +kernel
theorem dX11_seen_0 : decode cX11_seen 0 = .ok (.aload_n 0, 1) := by decide +kernel
theorem dX11_seen_1 : decode cX11_seen 1 = .ok (.getfield 12, 3) := by decide +kernel
theorem dX11_seen_4 : decode cX11_seen 4 = .ok (.iload_n 1, 1) := by decide +kernel
theorem dX11_seen_5 : decode cX11_seen 5 = .ok (.invokevirtual 93, 3) := by decide +kernel
theorem dX11_seen_8 : decode cX11_seen 8 = .ok (.ifCond .ne 6, 3) := by decide +kernel
theorem dX11_seen_11 : decode cX11_seen 11 = .ok (.bipush (-2), 2) := by decide +kernel
theorem dX11_seen_13 : decode cX11_seen 13 = .ok (.ireturn, 1) := by decide +kernel
theorem dX11_seen_14 : decode cX11_seen 14 = .ok (.aload_n 0, 1) := by decide +kernel
theorem dX11_seen_15 : decode cX11_seen 15 = .ok (.getfield 12, 3) := by decide +kernel
theorem dX11_seen_18 : decode cX11_seen 18 = .ok (.iload_n 1, 1) := by decide +kernel
theorem dX11_seen_19 : decode cX11_seen 19 = .ok (.invokevirtual 101, 3) := by decide +kernel
theorem dX11_seen_22 : decode cX11_seen 22 = .ok (.ifCond .ne 6, 3) := by decide +kernel
theorem dX11_seen_25 : decode cX11_seen 25 = .ok (.bipush (-5), 2) := by decide +kernel
theorem dX11_seen_27 : decode cX11_seen 27 = .ok (.ireturn, 1) := by decide +kernel
theorem dX11_seen_28 : decode cX11_seen 28 = .ok (.aload_n 0, 1) := by decide +kernel
theorem dX11_seen_29 : decode cX11_seen 29 = .ok (.getfield 12, 3) := by decide +kernel
theorem dX11_seen_32 : decode cX11_seen 32 = .ok (.iload_n 1, 1) := by decide +kernel
theorem dX11_seen_33 : decode cX11_seen 33 = .ok (.invokevirtual 111, 3) := by decide +kernel
theorem dX11_seen_36 : decode cX11_seen 36 = .ok (.aload_n 0, 1) := by decide +kernel
theorem dX11_seen_37 : decode cX11_seen 37 = .ok (.invokevirtual 114, 3) := by decide +kernel
theorem dX11_seen_40 : decode cX11_seen 40 = .ok (.ifCond .ne 11, 3) := by decide +kernel
theorem dX11_seen_43 : decode cX11_seen 43 = .ok (.aload_n 0, 1) := by decide +kernel
theorem dX11_seen_44 : decode cX11_seen 44 = .ok (.getfield 12, 3) := by decide +kernel
theorem dX11_seen_47 : decode cX11_seen 47 = .ok (.getfield 118, 3) := by decide +kernel
theorem dX11_seen_50 : decode cX11_seen 50 = .ok (.ireturn, 1) := by decide +kernel
theorem dX11_seen_51 : decode cX11_seen 51 = .ok (.aload_n 0, 1) := by decide +kernel
theorem dX11_seen_52 : decode cX11_seen 52 = .ok (.getfield 79, 3) := by decide +kernel
theorem dX11_seen_55 : decode cX11_seen 55 = .ok (.astore_n 2, 1) := by decide +kernel
theorem dX11_seen_56 : decode cX11_seen 56 = .ok (.aload_n 0, 1) := by decide +kernel
theorem dX11_seen_57 : decode cX11_seen 57 = .ok (.aload_n 0, 1) := by decide +kernel
theorem dX11_seen_58 : decode cX11_seen 58 = .ok (.getfield 83, 3) := by decide +kernel
theorem dX11_seen_61 : decode cX11_seen 61 = .ok (.putfield 79, 3) := by decide +kernel
theorem dX11_seen_64 : decode cX11_seen 64 = .ok (.aload_n 0, 1) := by decide +kernel
theorem dX11_seen_65 : decode cX11_seen 65 = .ok (.aload_n 2, 1) := by decide +kernel
theorem dX11_seen_66 : decode cX11_seen 66 = .ok (.putfield 83, 3) := by decide +kernel
theorem dX11_seen_69 : decode cX11_seen 69 = .ok (.aload_n 0, 1) := by decide +kernel
theorem dX11_seen_70 : decode cX11_seen 70 = .ok (.getfield 49, 3) := by decide +kernel
theorem dX11_seen_73 : decode cX11_seen 73 = .ok (.iconst 0, 1) := by decide +kernel
theorem dX11_seen_74 : decode cX11_seen 74 = .ok (.putfield 121, 3) := by decide +kernel
theorem dX11_seen_77 : decode cX11_seen 77 = .ok (.aload_n 0, 1) := by decide +kernel
theorem dX11_seen_78 : decode cX11_seen 78 = .ok (.getfield 79, 3) := by decide +kernel
theorem dX11_seen_81 : decode cX11_seen 81 = .ok (.getfield 125, 3) := by decide +kernel
theorem dX11_seen_84 : decode cX11_seen 84 = .ok (.getfield 128, 3) := by decide +kernel
theorem dX11_seen_87 : decode cX11_seen 87 = .ok (.ireturn, 1) := by decide +kernel
theorem dX11_see_0 : decode cX11_see 0 = .ok (.iload_n 1, 1) := by decide +kernel
theorem dX11_see_1 : decode cX11_see 1 = .ok (.iload_n 2, 1) := by decide +kernel
theorem dX11_see_2 : decode cX11_see 2 = .ok (.invokestatic 131, 3) := by decide +kernel
theorem dX11_see_5 : decode cX11_see 5 = .ok (.ifCond .eq 27, 3) := by decide +kernel
theorem dX11_see_8 : decode cX11_see 8 = .ok (.iload_n 3, 1) := by decide +kernel
theorem dX11_see_9 : decode cX11_see 9 = .ok (.sipush (-1000), 3) := by decide +kernel
theorem dX11_see_12 : decode cX11_see 12 = .ok (.sipush 1000, 3) := by decide +kernel
theorem dX11_see_15 : decode cX11_see 15 = .ok (.invokestatic 135, 3) := by decide +kernel
theorem dX11_see_18 : decode cX11_see 18 = .ok (.ifCond .eq 14, 3) := by decide +kernel
theorem dX11_see_21 : decode cX11_see 21 = .ok (.iload 4, 2) := by decide +kernel
theorem dX11_see_23 : decode cX11_see 23 = .ok (.iconst 0, 1) := by decide +kernel
theorem dX11_see_24 : decode cX11_see 24 = .ok (.bipush 100, 2) := by decide +kernel
theorem dX11_see_26 : decode cX11_see 26 = .ok (.invokestatic 135, 3) := by decide +kernel
theorem dX11_see_29 : decode cX11_see 29 = .ok (.ifCond .ne 6, 3) := by decide +kernel
theorem dX11_see_32 : decode cX11_see 32 = .ok (.bipush (-4), 2) := by decide +kernel
theorem dX11_see_34 : decode cX11_see 34 = .ok (.ireturn, 1) := by decide +kernel
theorem dX11_see_35 : decode cX11_see 35 = .ok (.aload_n 0, 1) := by decide +kernel
theorem dX11_see_36 : decode cX11_see 36 = .ok (.getfield 79, 3) := by decide +kernel
theorem dX11_see_39 : decode cX11_see 39 = .ok (.getfield 125, 3) := by decide +kernel
theorem dX11_see_42 : decode cX11_see 42 = .ok (.getfield 128, 3) := by decide +kernel
theorem dX11_see_45 : decode cX11_see 45 = .ok (.bipush 8, 2) := by decide +kernel
theorem dX11_see_47 : decode cX11_see 47 = .ok (.if_icmp .lt 6, 3) := by decide +kernel
theorem dX11_see_50 : decode cX11_see 50 = .ok (.bipush (-8), 2) := by decide +kernel
theorem dX11_see_52 : decode cX11_see 52 = .ok (.ireturn, 1) := by decide +kernel
theorem dX11_see_53 : decode cX11_see 53 = .ok (.aload_n 0, 1) := by decide +kernel
theorem dX11_see_54 : decode cX11_see 54 = .ok (.getfield 79, 3) := by decide +kernel
theorem dX11_see_57 : decode cX11_see 57 = .ok (.getfield 125, 3) := by decide +kernel
theorem dX11_see_60 : decode cX11_see 60 = .ok (.iload_n 1, 1) := by decide +kernel
theorem dX11_see_61 : decode cX11_see 61 = .ok (.iload_n 2, 1) := by decide +kernel
theorem dX11_see_62 : decode cX11_see 62 = .ok (.invokevirtual 139, 3) := by decide +kernel
theorem dX11_see_65 : decode cX11_see 65 = .ok (.ifCond .eq 6, 3) := by decide +kernel
theorem dX11_see_68 : decode cX11_see 68 = .ok (.bipush (-9), 2) := by decide +kernel
theorem dX11_see_70 : decode cX11_see 70 = .ok (.ireturn, 1) := by decide +kernel
theorem dX11_see_71 : decode cX11_see 71 = .ok (.aload_n 0, 1) := by decide +kernel
theorem dX11_see_72 : decode cX11_see 72 = .ok (.getfield 79, 3) := by decide +kernel
theorem dX11_see_75 : decode cX11_see 75 = .ok (.iload_n 1, 1) := by decide +kernel
theorem dX11_see_76 : decode cX11_see 76 = .ok (.iload_n 2, 1) := by decide +kernel
theorem dX11_see_77 : decode cX11_see 77 = .ok (.iload_n 3, 1) := by decide +kernel
theorem dX11_see_78 : decode cX11_see 78 = .ok (.iload 4, 2) := by decide +kernel
theorem dX11_see_80 : decode cX11_see 80 = .ok (.invokevirtual 141, 3) := by decide +kernel
theorem dX11_see_83 : decode cX11_see 83 = .ok (.aload_n 0, 1) := by decide +kernel
theorem dX11_see_84 : decode cX11_see 84 = .ok (.getfield 49, 3) := by decide +kernel
theorem dX11_see_87 : decode cX11_see 87 = .ok (.iconst 0, 1) := by decide +kernel
theorem dX11_see_88 : decode cX11_see 88 = .ok (.putfield 121, 3) := by decide +kernel
theorem dX11_see_91 : decode cX11_see 91 = .ok (.aload_n 0, 1) := by decide +kernel
theorem dX11_see_92 : decode cX11_see 92 = .ok (.getfield 79, 3) := by decide +kernel
theorem dX11_see_95 : decode cX11_see 95 = .ok (.getfield 125, 3) := by decide +kernel
theorem dX11_see_98 : decode cX11_see 98 = .ok (.getfield 128, 3) := by decide +kernel
theorem dX11_see_101 : decode cX11_see 101 = .ok (.iconst 1, 1) := by decide +kernel
theorem dX11_see_102 : decode cX11_see 102 = .ok (.isub, 1) := by decide +kernel
theorem dX11_see_103 : decode cX11_see 103 = .ok (.ireturn, 1) := by decide +kernel
theorem dX11_drop_0 : decode cX11_drop 0 = .ok (.aload_n 0, 1) := by decide +kernel
theorem dX11_drop_1 : decode cX11_drop 1 = .ok (.getfield 79, 3) := by decide +kernel
theorem dX11_drop_4 : decode cX11_drop 4 = .ok (.getfield 125, 3) := by decide +kernel
theorem dX11_drop_7 : decode cX11_drop 7 = .ok (.iload_n 1, 1) := by decide +kernel
theorem dX11_drop_8 : decode cX11_drop 8 = .ok (.invokevirtual 145, 3) := by decide +kernel
theorem dX11_drop_11 : decode cX11_drop 11 = .ok (.ifCond .ne 6, 3) := by decide +kernel
theorem dX11_drop_14 : decode cX11_drop 14 = .ok (.bipush (-2), 2) := by decide +kernel
theorem dX11_drop_16 : decode cX11_drop 16 = .ok (.ireturn, 1) := by decide +kernel
theorem dX11_drop_17 : decode cX11_drop 17 = .ok (.aload_n 0, 1) := by decide +kernel
theorem dX11_drop_18 : decode cX11_drop 18 = .ok (.getfield 79, 3) := by decide +kernel
theorem dX11_drop_21 : decode cX11_drop 21 = .ok (.iload_n 1, 1) := by decide +kernel
theorem dX11_drop_22 : decode cX11_drop 22 = .ok (.invokevirtual 148, 3) := by decide +kernel
theorem dX11_drop_25 : decode cX11_drop 25 = .ok (.aload_n 0, 1) := by decide +kernel
theorem dX11_drop_26 : decode cX11_drop 26 = .ok (.getfield 49, 3) := by decide +kernel
theorem dX11_drop_29 : decode cX11_drop 29 = .ok (.iconst 0, 1) := by decide +kernel
theorem dX11_drop_30 : decode cX11_drop 30 = .ok (.putfield 121, 3) := by decide +kernel
theorem dX11_drop_33 : decode cX11_drop 33 = .ok (.aload_n 0, 1) := by decide +kernel
theorem dX11_drop_34 : decode cX11_drop 34 = .ok (.getfield 79, 3) := by decide +kernel
theorem dX11_drop_37 : decode cX11_drop 37 = .ok (.getfield 125, 3) := by decide +kernel
theorem dX11_drop_40 : decode cX11_drop 40 = .ok (.getfield 128, 3) := by decide +kernel
theorem dX11_drop_43 : decode cX11_drop 43 = .ok (.ireturn, 1) := by decide +kernel
theorem dX11_straight_0 : decode cX11_straight 0 = .ok (.aload_n 0, 1) := by decide +kernel
theorem dX11_straight_1 : decode cX11_straight 1 = .ok (.iload_n 1, 1) := by decide +kernel
theorem dX11_straight_2 : decode cX11_straight 2 = .ok (.sipush 8000, 3) := by decide +kernel
theorem dX11_straight_5 : decode cX11_straight 5 = .ok (.invokevirtual 151, 3) := by decide +kernel
theorem dX11_straight_8 : decode cX11_straight 8 = .ok (.ireturn, 1) := by decide +kernel
theorem dX11_capped_0 : decode cX11_capped 0 = .ok (.aload_n 0, 1) := by decide +kernel
theorem dX11_capped_1 : decode cX11_capped 1 = .ok (.iload_n 1, 1) := by decide +kernel
theorem dX11_capped_2 : decode cX11_capped 2 = .ok (.iload_n 2, 1) := by decide +kernel
theorem dX11_capped_3 : decode cX11_capped 3 = .ok (.invokevirtual 151, 3) := by decide +kernel
theorem dX11_capped_6 : decode cX11_capped 6 = .ok (.ireturn, 1) := by decide +kernel
theorem dX11_table_0 : decode cX11_table 0 = .ok (.aload_n 0, 1) := by decide +kernel
theorem dX11_table_1 : decode cX11_table 1 = .ok (.getfield 12, 3) := by decide +kernel
theorem dX11_table_4 : decode cX11_table 4 = .ok (.iload_n 1, 1) := by decide +kernel
theorem dX11_table_5 : decode cX11_table 5 = .ok (.invokevirtual 93, 3) := by decide +kernel
theorem dX11_table_8 : decode cX11_table 8 = .ok (.ifCond .ne 6, 3) := by decide +kernel
theorem dX11_table_11 : decode cX11_table 11 = .ok (.bipush (-2), 2) := by decide +kernel
theorem dX11_table_13 : decode cX11_table 13 = .ok (.ireturn, 1) := by decide +kernel
theorem dX11_table_14 : decode cX11_table 14 = .ok (.aload_n 0, 1) := by decide +kernel
theorem dX11_table_15 : decode cX11_table 15 = .ok (.getfield 19, 3) := by decide +kernel
theorem dX11_table_18 : decode cX11_table 18 = .ok (.invokevirtual 155, 3) := by decide +kernel
theorem dX11_table_21 : decode cX11_table 21 = .ok (.ifCond .eq 6, 3) := by decide +kernel
theorem dX11_table_24 : decode cX11_table 24 = .ok (.bipush (-8), 2) := by decide +kernel
theorem dX11_table_26 : decode cX11_table 26 = .ok (.ireturn, 1) := by decide +kernel
theorem dX11_table_27 : decode cX11_table 27 = .ok (.aload_n 0, 1) := by decide +kernel
theorem dX11_table_28 : decode cX11_table 28 = .ok (.getfield 12, 3) := by decide +kernel
theorem dX11_table_31 : decode cX11_table 31 = .ok (.iload_n 1, 1) := by decide +kernel
theorem dX11_table_32 : decode cX11_table 32 = .ok (.invokevirtual 101, 3) := by decide +kernel
theorem dX11_table_35 : decode cX11_table 35 = .ok (.ifCond .ne 6, 3) := by decide +kernel
theorem dX11_table_38 : decode cX11_table 38 = .ok (.bipush (-5), 2) := by decide +kernel
theorem dX11_table_40 : decode cX11_table 40 = .ok (.ireturn, 1) := by decide +kernel
theorem dX11_table_41 : decode cX11_table 41 = .ok (.aload_n 0, 1) := by decide +kernel
theorem dX11_table_42 : decode cX11_table 42 = .ok (.getfield 12, 3) := by decide +kernel
theorem dX11_table_45 : decode cX11_table 45 = .ok (.iload_n 1, 1) := by decide +kernel
theorem dX11_table_46 : decode cX11_table 46 = .ok (.invokevirtual 111, 3) := by decide +kernel
theorem dX11_table_49 : decode cX11_table 49 = .ok (.aload_n 0, 1) := by decide +kernel
theorem dX11_table_50 : decode cX11_table 50 = .ok (.invokevirtual 158, 3) := by decide +kernel
theorem dX11_table_53 : decode cX11_table 53 = .ok (.ifCond .eq 13, 3) := by decide +kernel
theorem dX11_table_56 : decode cX11_table 56 = .ok (.aload_n 0, 1) := by decide +kernel
theorem dX11_table_57 : decode cX11_table 57 = .ok (.getfield 19, 3) := by decide +kernel
theorem dX11_table_60 : decode cX11_table 60 = .ok (.invokevirtual 161, 3) := by decide +kernel
theorem dX11_table_63 : decode cX11_table 63 = .ok (.goto 10, 3) := by decide +kernel
theorem dX11_table_66 : decode cX11_table 66 = .ok (.aload_n 0, 1) := by decide +kernel
theorem dX11_table_67 : decode cX11_table 67 = .ok (.getfield 12, 3) := by decide +kernel
theorem dX11_table_70 : decode cX11_table 70 = .ok (.getfield 118, 3) := by decide +kernel
theorem dX11_table_73 : decode cX11_table 73 = .ok (.ireturn, 1) := by decide +kernel
theorem dX11_sum_0 : decode cX11_sum 0 = .ok (.aload_n 0, 1) := by decide +kernel
theorem dX11_sum_1 : decode cX11_sum 1 = .ok (.getfield 19, 3) := by decide +kernel
theorem dX11_sum_4 : decode cX11_sum 4 = .ok (.iload_n 1, 1) := by decide +kernel
theorem dX11_sum_5 : decode cX11_sum 5 = .ok (.invokevirtual 165, 3) := by decide +kernel
theorem dX11_sum_8 : decode cX11_sum 8 = .ok (.ifCond .eq 14, 3) := by decide +kernel
theorem dX11_sum_11 : decode cX11_sum 11 = .ok (.aload_n 0, 1) := by decide +kernel
theorem dX11_sum_12 : decode cX11_sum 12 = .ok (.getfield 19, 3) := by decide +kernel
theorem dX11_sum_15 : decode cX11_sum 15 = .ok (.iload_n 2, 1) := by decide +kernel
theorem dX11_sum_16 : decode cX11_sum 16 = .ok (.invokevirtual 165, 3) := by decide +kernel
theorem dX11_sum_19 : decode cX11_sum 19 = .ok (.ifCond .ne 6, 3) := by decide +kernel
theorem dX11_sum_22 : decode cX11_sum 22 = .ok (.bipush (-2), 2) := by decide +kernel
theorem dX11_sum_24 : decode cX11_sum 24 = .ok (.ireturn, 1) := by decide +kernel
theorem dX11_sum_25 : decode cX11_sum 25 = .ok (.aload_n 0, 1) := by decide +kernel
theorem dX11_sum_26 : decode cX11_sum 26 = .ok (.getfield 19, 3) := by decide +kernel
theorem dX11_sum_29 : decode cX11_sum 29 = .ok (.invokevirtual 155, 3) := by decide +kernel
theorem dX11_sum_32 : decode cX11_sum 32 = .ok (.ifCond .eq 6, 3) := by decide +kernel
theorem dX11_sum_35 : decode cX11_sum 35 = .ok (.bipush (-8), 2) := by decide +kernel
theorem dX11_sum_37 : decode cX11_sum 37 = .ok (.ireturn, 1) := by decide +kernel
theorem dX11_sum_38 : decode cX11_sum 38 = .ok (.aload_n 0, 1) := by decide +kernel
theorem dX11_sum_39 : decode cX11_sum 39 = .ok (.getfield 19, 3) := by decide +kernel
theorem dX11_sum_42 : decode cX11_sum 42 = .ok (.iload_n 1, 1) := by decide +kernel
theorem dX11_sum_43 : decode cX11_sum 43 = .ok (.iload_n 2, 1) := by decide +kernel
theorem dX11_sum_44 : decode cX11_sum 44 = .ok (.invokevirtual 166, 3) := by decide +kernel
theorem dX11_sum_47 : decode cX11_sum 47 = .ok (.ifCond .eq 13, 3) := by decide +kernel
theorem dX11_sum_50 : decode cX11_sum 50 = .ok (.aload_n 0, 1) := by decide +kernel
theorem dX11_sum_51 : decode cX11_sum 51 = .ok (.getfield 19, 3) := by decide +kernel
theorem dX11_sum_54 : decode cX11_sum 54 = .ok (.invokevirtual 161, 3) := by decide +kernel
theorem dX11_sum_57 : decode cX11_sum 57 = .ok (.goto 5, 3) := by decide +kernel
theorem dX11_sum_60 : decode cX11_sum 60 = .ok (.bipush (-4), 2) := by decide +kernel
theorem dX11_sum_62 : decode cX11_sum 62 = .ok (.ireturn, 1) := by decide +kernel
theorem dX11_unlike_0 : decode cX11_unlike 0 = .ok (.aload_n 0, 1) := by decide +kernel
theorem dX11_unlike_1 : decode cX11_unlike 1 = .ok (.getfield 19, 3) := by decide +kernel
theorem dX11_unlike_4 : decode cX11_unlike 4 = .ok (.iload_n 1, 1) := by decide +kernel
theorem dX11_unlike_5 : decode cX11_unlike 5 = .ok (.invokevirtual 165, 3) := by decide +kernel
theorem dX11_unlike_8 : decode cX11_unlike 8 = .ok (.ifCond .eq 25, 3) := by decide +kernel
theorem dX11_unlike_11 : decode cX11_unlike 11 = .ok (.iload_n 2, 1) := by decide +kernel
theorem dX11_unlike_12 : decode cX11_unlike 12 = .ok (.iconst 0, 1) := by decide +kernel
theorem dX11_unlike_13 : decode cX11_unlike 13 = .ok (.bipush 80, 2) := by decide +kernel
theorem dX11_unlike_15 : decode cX11_unlike 15 = .ok (.invokestatic 135, 3) := by decide +kernel
theorem dX11_unlike_18 : decode cX11_unlike 18 = .ok (.ifCond .eq 15, 3) := by decide +kernel
theorem dX11_unlike_21 : decode cX11_unlike 21 = .ok (.aload_n 0, 1) := by decide +kernel
theorem dX11_unlike_22 : decode cX11_unlike 22 = .ok (.getfield 19, 3) := by decide +kernel
theorem dX11_unlike_25 : decode cX11_unlike 25 = .ok (.iload_n 1, 1) := by decide +kernel
theorem dX11_unlike_26 : decode cX11_unlike 26 = .ok (.iload_n 2, 1) := by decide +kernel
theorem dX11_unlike_27 : decode cX11_unlike 27 = .ok (.invokevirtual 169, 3) := by decide +kernel
theorem dX11_unlike_30 : decode cX11_unlike 30 = .ok (.goto 4, 3) := by decide +kernel
theorem dX11_unlike_33 : decode cX11_unlike 33 = .ok (.iconst (-1), 1) := by decide +kernel
theorem dX11_unlike_34 : decode cX11_unlike 34 = .ok (.ireturn, 1) := by decide +kernel
theorem dX11_use_0 : decode cX11_use 0 = .ok (.iload_n 1, 1) := by decide +kernel
theorem dX11_use_1 : decode cX11_use 1 = .ok (.iconst (-1), 1) := by decide +kernel
theorem dX11_use_2 : decode cX11_use 2 = .ok (.if_icmp .eq 16, 3) := by decide +kernel
theorem dX11_use_5 : decode cX11_use 5 = .ok (.aload_n 0, 1) := by decide +kernel
theorem dX11_use_6 : decode cX11_use 6 = .ok (.getfield 19, 3) := by decide +kernel
theorem dX11_use_9 : decode cX11_use 9 = .ok (.iload_n 1, 1) := by decide +kernel
theorem dX11_use_10 : decode cX11_use 10 = .ok (.invokevirtual 165, 3) := by decide +kernel
theorem dX11_use_13 : decode cX11_use 13 = .ok (.ifCond .ne 5, 3) := by decide +kernel
theorem dX11_use_16 : decode cX11_use 16 = .ok (.iconst 0, 1) := by decide +kernel
theorem dX11_use_17 : decode cX11_use 17 = .ok (.ireturn, 1) := by decide +kernel
theorem dX11_use_18 : decode cX11_use 18 = .ok (.aload_n 0, 1) := by decide +kernel
theorem dX11_use_19 : decode cX11_use 19 = .ok (.iload_n 1, 1) := by decide +kernel
theorem dX11_use_20 : decode cX11_use 20 = .ok (.putfield 86, 3) := by decide +kernel
theorem dX11_use_23 : decode cX11_use 23 = .ok (.aload_n 0, 1) := by decide +kernel
theorem dX11_use_24 : decode cX11_use 24 = .ok (.getfield 49, 3) := by decide +kernel
theorem dX11_use_27 : decode cX11_use 27 = .ok (.iconst 0, 1) := by decide +kernel
theorem dX11_use_28 : decode cX11_use 28 = .ok (.putfield 121, 3) := by decide +kernel
theorem dX11_use_31 : decode cX11_use 31 = .ok (.iconst 1, 1) := by decide +kernel
theorem dX11_use_32 : decode cX11_use 32 = .ok (.ireturn, 1) := by decide +kernel
theorem dX11_nearest_0 : decode cX11_nearest 0 = .ok (.iload_n 1, 1) := by decide +kernel
theorem dX11_nearest_1 : decode cX11_nearest 1 = .ok (.iconst 1, 1) := by decide +kernel
theorem dX11_nearest_2 : decode cX11_nearest 2 = .ok (.bipush 8, 2) := by decide +kernel
theorem dX11_nearest_4 : decode cX11_nearest 4 = .ok (.invokestatic 135, 3) := by decide +kernel
theorem dX11_nearest_7 : decode cX11_nearest 7 = .ok (.ifCond .ne 5, 3) := by decide +kernel
theorem dX11_nearest_10 : decode cX11_nearest 10 = .ok (.iconst 0, 1) := by decide +kernel
theorem dX11_nearest_11 : decode cX11_nearest 11 = .ok (.ireturn, 1) := by decide +kernel
theorem dX11_nearest_12 : decode cX11_nearest 12 = .ok (.aload_n 0, 1) := by decide +kernel
theorem dX11_nearest_13 : decode cX11_nearest 13 = .ok (.iload_n 1, 1) := by decide +kernel
theorem dX11_nearest_14 : decode cX11_nearest 14 = .ok (.putfield 90, 3) := by decide +kernel
theorem dX11_nearest_17 : decode cX11_nearest 17 = .ok (.iconst 1, 1) := by decide +kernel
theorem dX11_nearest_18 : decode cX11_nearest 18 = .ok (.ireturn, 1) := by decide +kernel
theorem dX11_ask_0 : decode cX11_ask 0 = .ok (.iload_n 1, 1) := by decide +kernel
theorem dX11_ask_1 : decode cX11_ask 1 = .ok (.iload_n 2, 1) := by decide +kernel
theorem dX11_ask_2 : decode cX11_ask 2 = .ok (.invokestatic 131, 3) := by decide +kernel
theorem dX11_ask_5 : decode cX11_ask 5 = .ok (.ifCond .ne 6, 3) := by decide +kernel
theorem dX11_ask_8 : decode cX11_ask 8 = .ok (.bipush (-4), 2) := by decide +kernel
theorem dX11_ask_10 : decode cX11_ask 10 = .ok (.ireturn, 1) := by decide +kernel
theorem dX11_ask_11 : decode cX11_ask 11 = .ok (.aload_n 0, 1) := by decide +kernel
theorem dX11_ask_12 : decode cX11_ask 12 = .ok (.invokevirtual 172, 3) := by decide +kernel
theorem dX11_ask_15 : decode cX11_ask 15 = .ok (.ifCond .ne 6, 3) := by decide +kernel
theorem dX11_ask_18 : decode cX11_ask 18 = .ok (.bipush (-5), 2) := by decide +kernel
theorem dX11_ask_20 : decode cX11_ask 20 = .ok (.ireturn, 1) := by decide +kernel
theorem dX11_ask_21 : decode cX11_ask 21 = .ok (.aload_n 0, 1) := by decide +kernel
theorem dX11_ask_22 : decode cX11_ask 22 = .ok (.getfield 28, 3) := by decide +kernel
theorem dX11_ask_25 : decode cX11_ask 25 = .ok (.invokevirtual 175, 3) := by decide +kernel
theorem dX11_ask_28 : decode cX11_ask 28 = .ok (.aload_n 0, 1) := by decide +kernel
theorem dX11_ask_29 : decode cX11_ask 29 = .ok (.getfield 28, 3) := by decide +kernel
theorem dX11_ask_32 : decode cX11_ask 32 = .ok (.iload_n 1, 1) := by decide +kernel
theorem dX11_ask_33 : decode cX11_ask 33 = .ok (.iload_n 2, 1) := by decide +kernel
theorem dX11_ask_34 : decode cX11_ask 34 = .ok (.invokevirtual 178, 3) := by decide +kernel
theorem dX11_ask_37 : decode cX11_ask 37 = .ok (.aload_n 0, 1) := by decide +kernel
theorem dX11_ask_38 : decode cX11_ask 38 = .ok (.invokevirtual 181, 3) := by decide +kernel
theorem dX11_ask_41 : decode cX11_ask 41 = .ok (.ireturn, 1) := by decide +kernel
theorem dX11_mean_0 : decode cX11_mean 0 = .ok (.aload_n 0, 1) := by decide +kernel
theorem dX11_mean_1 : decode cX11_mean 1 = .ok (.getfield 12, 3) := by decide +kernel
theorem dX11_mean_4 : decode cX11_mean 4 = .ok (.iload_n 1, 1) := by decide +kernel
theorem dX11_mean_5 : decode cX11_mean 5 = .ok (.invokevirtual 93, 3) := by decide +kernel
theorem dX11_mean_8 : decode cX11_mean 8 = .ok (.ifCond .ne 6, 3) := by decide +kernel
theorem dX11_mean_11 : decode cX11_mean 11 = .ok (.bipush (-2), 2) := by decide +kernel
theorem dX11_mean_13 : decode cX11_mean 13 = .ok (.ireturn, 1) := by decide +kernel
theorem dX11_mean_14 : decode cX11_mean 14 = .ok (.aload_n 0, 1) := by decide +kernel
theorem dX11_mean_15 : decode cX11_mean 15 = .ok (.getfield 12, 3) := by decide +kernel
theorem dX11_mean_18 : decode cX11_mean 18 = .ok (.iload_n 1, 1) := by decide +kernel
theorem dX11_mean_19 : decode cX11_mean 19 = .ok (.invokevirtual 101, 3) := by decide +kernel
theorem dX11_mean_22 : decode cX11_mean 22 = .ok (.ifCond .ne 6, 3) := by decide +kernel
theorem dX11_mean_25 : decode cX11_mean 25 = .ok (.bipush (-5), 2) := by decide +kernel
theorem dX11_mean_27 : decode cX11_mean 27 = .ok (.ireturn, 1) := by decide +kernel
theorem dX11_mean_28 : decode cX11_mean 28 = .ok (.aload_n 0, 1) := by decide +kernel
theorem dX11_mean_29 : decode cX11_mean 29 = .ok (.getfield 12, 3) := by decide +kernel
theorem dX11_mean_32 : decode cX11_mean 32 = .ok (.iload_n 1, 1) := by decide +kernel
theorem dX11_mean_33 : decode cX11_mean 33 = .ok (.invokevirtual 111, 3) := by decide +kernel
theorem dX11_mean_36 : decode cX11_mean 36 = .ok (.aload_n 0, 1) := by decide +kernel
theorem dX11_mean_37 : decode cX11_mean 37 = .ok (.invokevirtual 184, 3) := by decide +kernel
theorem dX11_mean_40 : decode cX11_mean 40 = .ok (.ifCond .ne 11, 3) := by decide +kernel
theorem dX11_mean_43 : decode cX11_mean 43 = .ok (.aload_n 0, 1) := by decide +kernel
theorem dX11_mean_44 : decode cX11_mean 44 = .ok (.getfield 12, 3) := by decide +kernel
theorem dX11_mean_47 : decode cX11_mean 47 = .ok (.getfield 118, 3) := by decide +kernel
theorem dX11_mean_50 : decode cX11_mean 50 = .ok (.ireturn, 1) := by decide +kernel
theorem dX11_mean_51 : decode cX11_mean 51 = .ok (.aload_n 0, 1) := by decide +kernel
theorem dX11_mean_52 : decode cX11_mean 52 = .ok (.invokevirtual 172, 3) := by decide +kernel
theorem dX11_mean_55 : decode cX11_mean 55 = .ok (.ifCond .eq 10, 3) := by decide +kernel
theorem dX11_mean_58 : decode cX11_mean 58 = .ok (.aload_n 0, 1) := by decide +kernel
theorem dX11_mean_59 : decode cX11_mean 59 = .ok (.invokevirtual 181, 3) := by decide +kernel
theorem dX11_mean_62 : decode cX11_mean 62 = .ok (.goto 5, 3) := by decide +kernel
theorem dX11_mean_65 : decode cX11_mean 65 = .ok (.bipush (-10), 2) := by decide +kernel
theorem dX11_mean_67 : decode cX11_mean 67 = .ok (.ireturn, 1) := by decide +kernel
theorem dX11_answer_0 : decode cX11_answer 0 = .ok (.aload_n 0, 1) := by decide +kernel
theorem dX11_answer_1 : decode cX11_answer 1 = .ok (.getfield 49, 3) := by decide +kernel
theorem dX11_answer_4 : decode cX11_answer 4 = .ok (.getfield 121, 3) := by decide +kernel
theorem dX11_answer_7 : decode cX11_answer 7 = .ok (.ifCond .ne 5, 3) := by decide +kernel
theorem dX11_answer_10 : decode cX11_answer 10 = .ok (.iconst 0, 1) := by decide +kernel
theorem dX11_answer_11 : decode cX11_answer 11 = .ok (.ireturn, 1) := by decide +kernel
theorem dX11_answer_12 : decode cX11_answer 12 = .ok (.iload_n 1, 1) := by decide +kernel
theorem dX11_answer_13 : decode cX11_answer 13 = .ok (.ifCond .ne 22, 3) := by decide +kernel
theorem dX11_answer_16 : decode cX11_answer 16 = .ok (.aload_n 0, 1) := by decide +kernel
theorem dX11_answer_17 : decode cX11_answer 17 = .ok (.aload_n 0, 1) := by decide +kernel
theorem dX11_answer_18 : decode cX11_answer 18 = .ok (.getfield 49, 3) := by decide +kernel
theorem dX11_answer_21 : decode cX11_answer 21 = .ok (.getfield 187, 3) := by decide +kernel
theorem dX11_answer_24 : decode cX11_answer 24 = .ok (.aload_n 0, 1) := by decide +kernel
theorem dX11_answer_25 : decode cX11_answer 25 = .ok (.getfield 49, 3) := by decide +kernel
theorem dX11_answer_28 : decode cX11_answer 28 = .ok (.getfield 191, 3) := by decide +kernel
theorem dX11_answer_31 : decode cX11_answer 31 = .ok (.invokevirtual 194, 3) := by decide +kernel
theorem dX11_answer_34 : decode cX11_answer 34 = .ok (.ireturn, 1) := by decide +kernel
theorem dX11_answer_35 : decode cX11_answer 35 = .ok (.iload_n 1, 1) := by decide +kernel
theorem dX11_answer_36 : decode cX11_answer 36 = .ok (.iconst 1, 1) := by decide +kernel
theorem dX11_answer_37 : decode cX11_answer 37 = .ok (.if_icmp .ne 22, 3) := by decide +kernel
theorem dX11_answer_40 : decode cX11_answer 40 = .ok (.aload_n 0, 1) := by decide +kernel
theorem dX11_answer_41 : decode cX11_answer 41 = .ok (.aload_n 0, 1) := by decide +kernel
theorem dX11_answer_42 : decode cX11_answer 42 = .ok (.getfield 49, 3) := by decide +kernel
theorem dX11_answer_45 : decode cX11_answer 45 = .ok (.getfield 198, 3) := by decide +kernel
theorem dX11_answer_48 : decode cX11_answer 48 = .ok (.aload_n 0, 1) := by decide +kernel
theorem dX11_answer_49 : decode cX11_answer 49 = .ok (.getfield 49, 3) := by decide +kernel
theorem dX11_answer_52 : decode cX11_answer 52 = .ok (.getfield 201, 3) := by decide +kernel
theorem dX11_answer_55 : decode cX11_answer 55 = .ok (.invokevirtual 194, 3) := by decide +kernel
theorem dX11_answer_58 : decode cX11_answer 58 = .ok (.ireturn, 1) := by decide +kernel
theorem dX11_answer_59 : decode cX11_answer 59 = .ok (.iload_n 1, 1) := by decide +kernel
theorem dX11_answer_60 : decode cX11_answer 60 = .ok (.iconst 2, 1) := by decide +kernel
theorem dX11_answer_61 : decode cX11_answer 61 = .ok (.if_icmp .ne 22, 3) := by decide +kernel
theorem dX11_answer_64 : decode cX11_answer 64 = .ok (.aload_n 0, 1) := by decide +kernel
theorem dX11_answer_65 : decode cX11_answer 65 = .ok (.aload_n 0, 1) := by decide +kernel
theorem dX11_answer_66 : decode cX11_answer 66 = .ok (.getfield 49, 3) := by decide +kernel
theorem dX11_answer_69 : decode cX11_answer 69 = .ok (.getfield 204, 3) := by decide +kernel
theorem dX11_answer_72 : decode cX11_answer 72 = .ok (.aload_n 0, 1) := by decide +kernel
theorem dX11_answer_73 : decode cX11_answer 73 = .ok (.getfield 49, 3) := by decide +kernel
theorem dX11_answer_76 : decode cX11_answer 76 = .ok (.getfield 191, 3) := by decide +kernel
theorem dX11_answer_79 : decode cX11_answer 79 = .ok (.invokevirtual 194, 3) := by decide +kernel
theorem dX11_answer_82 : decode cX11_answer 82 = .ok (.ireturn, 1) := by decide +kernel
theorem dX11_answer_83 : decode cX11_answer 83 = .ok (.iload_n 1, 1) := by decide +kernel
theorem dX11_answer_84 : decode cX11_answer 84 = .ok (.bipush 10, 2) := by decide +kernel
theorem dX11_answer_86 : decode cX11_answer 86 = .ok (.if_icmp .lt 20, 3) := by decide +kernel
theorem dX11_answer_89 : decode cX11_answer 89 = .ok (.aload_n 0, 1) := by decide +kernel
theorem dX11_answer_90 : decode cX11_answer 90 = .ok (.getfield 79, 3) := by decide +kernel
theorem dX11_answer_93 : decode cX11_answer 93 = .ok (.getfield 125, 3) := by decide +kernel
theorem dX11_answer_96 : decode cX11_answer 96 = .ok (.iload_n 1, 1) := by decide +kernel
theorem dX11_answer_97 : decode cX11_answer 97 = .ok (.bipush 10, 2) := by decide +kernel
theorem dX11_answer_99 : decode cX11_answer 99 = .ok (.isub, 1) := by decide +kernel
theorem dX11_answer_100 : decode cX11_answer 100 = .ok (.invokevirtual 145, 3) := by decide +kernel
theorem dX11_answer_103 : decode cX11_answer 103 = .ok (.ifCond .ne 5, 3) := by decide +kernel
theorem dX11_answer_106 : decode cX11_answer 106 = .ok (.iconst 0, 1) := by decide +kernel
theorem dX11_answer_107 : decode cX11_answer 107 = .ok (.ireturn, 1) := by decide +kernel
theorem dX11_answer_108 : decode cX11_answer 108 = .ok (.aload_n 0, 1) := by decide +kernel
theorem dX11_answer_109 : decode cX11_answer 109 = .ok (.aload_n 0, 1) := by decide +kernel
theorem dX11_answer_110 : decode cX11_answer 110 = .ok (.getfield 49, 3) := by decide +kernel
theorem dX11_answer_113 : decode cX11_answer 113 = .ok (.getfield 207, 3) := by decide +kernel
theorem dX11_answer_116 : decode cX11_answer 116 = .ok (.iload_n 1, 1) := by decide +kernel
theorem dX11_answer_117 : decode cX11_answer 117 = .ok (.bipush 10, 2) := by decide +kernel
theorem dX11_answer_119 : decode cX11_answer 119 = .ok (.isub, 1) := by decide +kernel
theorem dX11_answer_120 : decode cX11_answer 120 = .ok (.aaload, 1) := by decide +kernel
theorem dX11_answer_121 : decode cX11_answer 121 = .ok (.aload_n 0, 1) := by decide +kernel
theorem dX11_answer_122 : decode cX11_answer 122 = .ok (.getfield 49, 3) := by decide +kernel
theorem dX11_answer_125 : decode cX11_answer 125 = .ok (.getfield 191, 3) := by decide +kernel
theorem dX11_answer_128 : decode cX11_answer 128 = .ok (.invokevirtual 194, 3) := by decide +kernel
theorem dX11_answer_131 : decode cX11_answer 131 = .ok (.ireturn, 1) := by decide +kernel
theorem dX11_leftOut_0 : decode cX11_leftOut 0 = .ok (.aload_n 0, 1) := by decide +kernel
theorem dX11_leftOut_1 : decode cX11_leftOut 1 = .ok (.aload_n 0, 1) := by decide +kernel
theorem dX11_leftOut_2 : decode cX11_leftOut 2 = .ok (.getfield 86, 3) := by decide +kernel
theorem dX11_leftOut_5 : decode cX11_leftOut 5 = .ok (.iload_n 1, 1) := by decide +kernel
theorem dX11_leftOut_6 : decode cX11_leftOut 6 = .ok (.invokevirtual 211, 3) := by decide +kernel
theorem dX11_leftOut_9 : decode cX11_leftOut 9 = .ok (.ifCond .eq 28, 3) := by decide +kernel
theorem dX11_leftOut_12 : decode cX11_leftOut 12 = .ok (.aload_n 0, 1) := by decide +kernel
theorem dX11_leftOut_13 : decode cX11_leftOut 13 = .ok (.aload_n 0, 1) := by decide +kernel
theorem dX11_leftOut_14 : decode cX11_leftOut 14 = .ok (.getfield 67, 3) := by decide +kernel
theorem dX11_leftOut_17 : decode cX11_leftOut 17 = .ok (.getfield 214, 3) := by decide +kernel
theorem dX11_leftOut_20 : decode cX11_leftOut 20 = .ok (.aload_n 0, 1) := by decide +kernel
theorem dX11_leftOut_21 : decode cX11_leftOut 21 = .ok (.getfield 67, 3) := by decide +kernel
theorem dX11_leftOut_24 : decode cX11_leftOut 24 = .ok (.getfield 217, 3) := by decide +kernel
theorem dX11_leftOut_27 : decode cX11_leftOut 27 = .ok (.invokevirtual 194, 3) := by decide +kernel
theorem dX11_leftOut_30 : decode cX11_leftOut 30 = .ok (.ifCond .eq 7, 3) := by decide +kernel
theorem dX11_leftOut_33 : decode cX11_leftOut 33 = .ok (.iconst 1, 1) := by decide +kernel
theorem dX11_leftOut_34 : decode cX11_leftOut 34 = .ok (.goto 4, 3) := by decide +kernel
theorem dX11_leftOut_37 : decode cX11_leftOut 37 = .ok (.iconst 0, 1) := by decide +kernel
theorem dX11_leftOut_38 : decode cX11_leftOut 38 = .ok (.ireturn, 1) := by decide +kernel
theorem dX11_worst_0 : decode cX11_worst 0 = .ok (.aload_n 0, 1) := by decide +kernel
theorem dX11_worst_1 : decode cX11_worst 1 = .ok (.aload_n 0, 1) := by decide +kernel
theorem dX11_worst_2 : decode cX11_worst 2 = .ok (.getfield 86, 3) := by decide +kernel
theorem dX11_worst_5 : decode cX11_worst 5 = .ok (.invokevirtual 218, 3) := by decide +kernel
theorem dX11_worst_8 : decode cX11_worst 8 = .ok (.ireturn, 1) := by decide +kernel
theorem dX11_best_0 : decode cX11_best 0 = .ok (.iconst (-1), 1) := by decide +kernel
theorem dX11_best_1 : decode cX11_best 1 = .ok (.istore_n 1, 1) := by decide +kernel
theorem dX11_best_2 : decode cX11_best 2 = .ok (.iconst 0, 1) := by decide +kernel
theorem dX11_best_3 : decode cX11_best 3 = .ok (.istore_n 2, 1) := by decide +kernel
theorem dX11_best_4 : decode cX11_best 4 = .ok (.iload_n 2, 1) := by decide +kernel
theorem dX11_best_5 : decode cX11_best 5 = .ok (.aload_n 0, 1) := by decide +kernel
theorem dX11_best_6 : decode cX11_best 6 = .ok (.getfield 19, 3) := by decide +kernel
theorem dX11_best_9 : decode cX11_best 9 = .ok (.getfield 222, 3) := by decide +kernel
theorem dX11_best_12 : decode cX11_best 12 = .ok (.if_icmp .ge 57, 3) := by decide +kernel
theorem dX11_best_15 : decode cX11_best 15 = .ok (.aload_n 0, 1) := by decide +kernel
theorem dX11_best_16 : decode cX11_best 16 = .ok (.iload_n 2, 1) := by decide +kernel
theorem dX11_best_17 : decode cX11_best 17 = .ok (.invokevirtual 218, 3) := by decide +kernel
theorem dX11_best_20 : decode cX11_best 20 = .ok (.iconst (-1), 1) := by decide +kernel
theorem dX11_best_21 : decode cX11_best 21 = .ok (.if_icmp .ne 6, 3) := by decide +kernel
theorem dX11_best_24 : decode cX11_best 24 = .ok (.goto 39, 3) := by decide +kernel
theorem dX11_best_27 : decode cX11_best 27 = .ok (.iload_n 1, 1) := by decide +kernel
theorem dX11_best_28 : decode cX11_best 28 = .ok (.iconst (-1), 1) := by decide +kernel
theorem dX11_best_29 : decode cX11_best 29 = .ok (.if_icmp .eq 21, 3) := by decide +kernel
theorem dX11_best_32 : decode cX11_best 32 = .ok (.aload_n 0, 1) := by decide +kernel
theorem dX11_best_33 : decode cX11_best 33 = .ok (.getfield 56, 3) := by decide +kernel
theorem dX11_best_36 : decode cX11_best 36 = .ok (.aload_n 0, 1) := by decide +kernel
theorem dX11_best_37 : decode cX11_best 37 = .ok (.getfield 73, 3) := by decide +kernel
theorem dX11_best_40 : decode cX11_best 40 = .ok (.aload_n 0, 1) := by decide +kernel
theorem dX11_best_41 : decode cX11_best 41 = .ok (.getfield 70, 3) := by decide +kernel
theorem dX11_best_44 : decode cX11_best 44 = .ok (.invokevirtual 223, 3) := by decide +kernel
theorem dX11_best_47 : decode cX11_best 47 = .ok (.ifCond .eq 16, 3) := by decide +kernel
theorem dX11_best_50 : decode cX11_best 50 = .ok (.aload_n 0, 1) := by decide +kernel
theorem dX11_best_51 : decode cX11_best 51 = .ok (.getfield 73, 3) := by decide +kernel
theorem dX11_best_54 : decode cX11_best 54 = .ok (.aload_n 0, 1) := by decide +kernel
theorem dX11_best_55 : decode cX11_best 55 = .ok (.getfield 70, 3) := by decide +kernel
theorem dX11_best_58 : decode cX11_best 58 = .ok (.invokevirtual 227, 3) := by decide +kernel
theorem dX11_best_61 : decode cX11_best 61 = .ok (.iload_n 2, 1) := by decide +kernel
theorem dX11_best_62 : decode cX11_best 62 = .ok (.istore_n 1, 1) := by decide +kernel
theorem dX11_best_63 : decode cX11_best 63 = .ok (.iinc 2 1, 3) := by decide +kernel
theorem dX11_best_66 : decode cX11_best 66 = .ok (.goto (-62), 3) := by decide +kernel
theorem dX11_best_69 : decode cX11_best 69 = .ok (.iload_n 1, 1) := by decide +kernel
theorem dX11_best_70 : decode cX11_best 70 = .ok (.ireturn, 1) := by decide +kernel
theorem dX11_allowed_0 : decode cX11_allowed 0 = .ok (.aload_n 0, 1) := by decide +kernel
theorem dX11_allowed_1 : decode cX11_allowed 1 = .ok (.getfield 19, 3) := by decide +kernel
theorem dX11_allowed_4 : decode cX11_allowed 4 = .ok (.iload_n 1, 1) := by decide +kernel
theorem dX11_allowed_5 : decode cX11_allowed 5 = .ok (.invokevirtual 165, 3) := by decide +kernel
theorem dX11_allowed_8 : decode cX11_allowed 8 = .ok (.ifCond .ne 5, 3) := by decide +kernel
theorem dX11_allowed_11 : decode cX11_allowed 11 = .ok (.iconst (-1), 1) := by decide +kernel
theorem dX11_allowed_12 : decode cX11_allowed 12 = .ok (.ireturn, 1) := by decide +kernel
theorem dX11_allowed_13 : decode cX11_allowed 13 = .ok (.aload_n 0, 1) := by decide +kernel
theorem dX11_allowed_14 : decode cX11_allowed 14 = .ok (.getfield 35, 3) := by decide +kernel
theorem dX11_allowed_17 : decode cX11_allowed 17 = .ok (.iconst (-1), 1) := by decide +kernel
theorem dX11_allowed_18 : decode cX11_allowed 18 = .ok (.aload_n 0, 1) := by decide +kernel
theorem dX11_allowed_19 : decode cX11_allowed 19 = .ok (.getfield 79, 3) := by decide +kernel
theorem dX11_allowed_22 : decode cX11_allowed 22 = .ok (.getfield 125, 3) := by decide +kernel
theorem dX11_allowed_25 : decode cX11_allowed 25 = .ok (.getfield 128, 3) := by decide +kernel
theorem dX11_allowed_28 : decode cX11_allowed 28 = .ok (.invokevirtual 231, 3) := by decide +kernel
theorem dX11_allowed_31 : decode cX11_allowed 31 = .ok (.aload_n 0, 1) := by decide +kernel
theorem dX11_allowed_32 : decode cX11_allowed 32 = .ok (.getfield 35, 3) := by decide +kernel
theorem dX11_allowed_35 : decode cX11_allowed 35 = .ok (.aload_n 0, 1) := by decide +kernel
theorem dX11_allowed_36 : decode cX11_allowed 36 = .ok (.getfield 79, 3) := by decide +kernel
theorem dX11_allowed_39 : decode cX11_allowed 39 = .ok (.aload_n 0, 1) := by decide +kernel
theorem dX11_allowed_40 : decode cX11_allowed 40 = .ok (.getfield 19, 3) := by decide +kernel
theorem dX11_allowed_43 : decode cX11_allowed 43 = .ok (.iload_n 1, 1) := by decide +kernel
theorem dX11_allowed_44 : decode cX11_allowed 44 = .ok (.iconst 0, 1) := by decide +kernel
theorem dX11_allowed_45 : decode cX11_allowed 45 = .ok (.invokevirtual 234, 3) := by decide +kernel
theorem dX11_allowed_48 : decode cX11_allowed 48 = .ok (.aload_n 0, 1) := by decide +kernel
theorem dX11_allowed_49 : decode cX11_allowed 49 = .ok (.getfield 35, 3) := by decide +kernel
theorem dX11_allowed_52 : decode cX11_allowed 52 = .ok (.aload_n 0, 1) := by decide +kernel
theorem dX11_allowed_53 : decode cX11_allowed 53 = .ok (.getfield 42, 3) := by decide +kernel
theorem dX11_allowed_56 : decode cX11_allowed 56 = .ok (.invokevirtual 238, 3) := by decide +kernel
theorem dX11_allowed_59 : decode cX11_allowed 59 = .ok (.aload_n 0, 1) := by decide +kernel
theorem dX11_allowed_60 : decode cX11_allowed 60 = .ok (.getfield 42, 3) := by decide +kernel
theorem dX11_allowed_63 : decode cX11_allowed 63 = .ok (.aload_n 0, 1) := by decide +kernel
theorem dX11_allowed_64 : decode cX11_allowed 64 = .ok (.getfield 35, 3) := by decide +kernel
theorem dX11_allowed_67 : decode cX11_allowed 67 = .ok (.invokevirtual 242, 3) := by decide +kernel
theorem dX11_allowed_70 : decode cX11_allowed 70 = .ok (.invokevirtual 245, 3) := by decide +kernel
theorem dX11_allowed_73 : decode cX11_allowed 73 = .ok (.ireturn, 1) := by decide +kernel
theorem dX11_pairs_0 : decode cX11_pairs 0 = .ok (.iconst 0, 1) := by decide +kernel
theorem dX11_pairs_1 : decode cX11_pairs 1 = .ok (.istore_n 3, 1) := by decide +kernel
theorem dX11_pairs_2 : decode cX11_pairs 2 = .ok (.iconst 0, 1) := by decide +kernel
theorem dX11_pairs_3 : decode cX11_pairs 3 = .ok (.istore 4, 2) := by decide +kernel
theorem dX11_pairs_5 : decode cX11_pairs 5 = .ok (.iload 4, 2) := by decide +kernel
theorem dX11_pairs_7 : decode cX11_pairs 7 = .ok (.aload_n 0, 1) := by decide +kernel
theorem dX11_pairs_8 : decode cX11_pairs 8 = .ok (.getfield 79, 3) := by decide +kernel
theorem dX11_pairs_11 : decode cX11_pairs 11 = .ok (.getfield 125, 3) := by decide +kernel
theorem dX11_pairs_14 : decode cX11_pairs 14 = .ok (.getfield 128, 3) := by decide +kernel
theorem dX11_pairs_17 : decode cX11_pairs 17 = .ok (.if_icmp .ge 50, 3) := by decide +kernel
theorem dX11_pairs_20 : decode cX11_pairs 20 = .ok (.iconst 0, 1) := by decide +kernel
theorem dX11_pairs_21 : decode cX11_pairs 21 = .ok (.istore 5, 2) := by decide +kernel
theorem dX11_pairs_23 : decode cX11_pairs 23 = .ok (.iload 5, 2) := by decide +kernel
theorem dX11_pairs_25 : decode cX11_pairs 25 = .ok (.iload 4, 2) := by decide +kernel
theorem dX11_pairs_27 : decode cX11_pairs 27 = .ok (.if_icmp .ge 34, 3) := by decide +kernel
theorem dX11_pairs_30 : decode cX11_pairs 30 = .ok (.aload_n 0, 1) := by decide +kernel
theorem dX11_pairs_31 : decode cX11_pairs 31 = .ok (.getfield 79, 3) := by decide +kernel
theorem dX11_pairs_34 : decode cX11_pairs 34 = .ok (.getfield 125, 3) := by decide +kernel
theorem dX11_pairs_37 : decode cX11_pairs 37 = .ok (.iload 4, 2) := by decide +kernel
theorem dX11_pairs_39 : decode cX11_pairs 39 = .ok (.iload 5, 2) := by decide +kernel
theorem dX11_pairs_41 : decode cX11_pairs 41 = .ok (.invokevirtual 248, 3) := by decide +kernel
theorem dX11_pairs_44 : decode cX11_pairs 44 = .ok (.iload_n 1, 1) := by decide +kernel
theorem dX11_pairs_45 : decode cX11_pairs 45 = .ok (.iload_n 2, 1) := by decide +kernel
theorem dX11_pairs_46 : decode cX11_pairs 46 = .ok (.invokestatic 135, 3) := by decide +kernel
theorem dX11_pairs_49 : decode cX11_pairs 49 = .ok (.ifCond .eq 6, 3) := by decide +kernel
theorem dX11_pairs_52 : decode cX11_pairs 52 = .ok (.iinc 3 1, 3) := by decide +kernel
theorem dX11_pairs_55 : decode cX11_pairs 55 = .ok (.iinc 5 1, 3) := by decide +kernel
theorem dX11_pairs_58 : decode cX11_pairs 58 = .ok (.goto (-35), 3) := by decide +kernel
theorem dX11_pairs_61 : decode cX11_pairs 61 = .ok (.iinc 4 1, 3) := by decide +kernel
theorem dX11_pairs_64 : decode cX11_pairs 64 = .ok (.goto (-59), 3) := by decide +kernel
theorem dX11_pairs_67 : decode cX11_pairs 67 = .ok (.iload_n 3, 1) := by decide +kernel
theorem dX11_pairs_68 : decode cX11_pairs 68 = .ok (.ireturn, 1) := by decide +kernel
theorem dX11_band_0 : decode cX11_band 0 = .ok (.aload_n 0, 1) := by decide +kernel
theorem dX11_band_1 : decode cX11_band 1 = .ok (.iload_n 1, 1) := by decide +kernel
theorem dX11_band_2 : decode cX11_band 2 = .ok (.iload_n 2, 1) := by decide +kernel
theorem dX11_band_3 : decode cX11_band 3 = .ok (.invokevirtual 251, 3) := by decide +kernel
theorem dX11_band_6 : decode cX11_band 6 = .ok (.istore_n 3, 1) := by decide +kernel
theorem dX11_band_7 : decode cX11_band 7 = .ok (.iload_n 3, 1) := by decide +kernel
theorem dX11_band_8 : decode cX11_band 8 = .ok (.ifCond .ne 5, 3) := by decide +kernel
theorem dX11_band_11 : decode cX11_band 11 = .ok (.iconst 0, 1) := by decide +kernel
theorem dX11_band_12 : decode cX11_band 12 = .ok (.ireturn, 1) := by decide +kernel
theorem dX11_band_13 : decode cX11_band 13 = .ok (.lconst 0, 1) := by decide +kernel
theorem dX11_band_14 : decode cX11_band 14 = .ok (.lstore 4, 2) := by decide +kernel
theorem dX11_band_16 : decode cX11_band 16 = .ok (.iconst 0, 1) := by decide +kernel
theorem dX11_band_17 : decode cX11_band 17 = .ok (.istore 6, 2) := by decide +kernel
theorem dX11_band_19 : decode cX11_band 19 = .ok (.iload 6, 2) := by decide +kernel
theorem dX11_band_21 : decode cX11_band 21 = .ok (.aload_n 0, 1) := by decide +kernel
theorem dX11_band_22 : decode cX11_band 22 = .ok (.getfield 79, 3) := by decide +kernel
theorem dX11_band_25 : decode cX11_band 25 = .ok (.getfield 125, 3) := by decide +kernel
theorem dX11_band_28 : decode cX11_band 28 = .ok (.getfield 128, 3) := by decide +kernel
theorem dX11_band_31 : decode cX11_band 31 = .ok (.if_icmp .ge 81, 3) := by decide +kernel
theorem dX11_band_34 : decode cX11_band 34 = .ok (.iconst 0, 1) := by decide +kernel
theorem dX11_band_35 : decode cX11_band 35 = .ok (.istore 7, 2) := by decide +kernel
theorem dX11_band_37 : decode cX11_band 37 = .ok (.iload 7, 2) := by decide +kernel
theorem dX11_band_39 : decode cX11_band 39 = .ok (.iload 6, 2) := by decide +kernel
theorem dX11_band_41 : decode cX11_band 41 = .ok (.if_icmp .ge 65, 3) := by decide +kernel
theorem dX11_band_44 : decode cX11_band 44 = .ok (.aload_n 0, 1) := by decide +kernel
theorem dX11_band_45 : decode cX11_band 45 = .ok (.getfield 79, 3) := by decide +kernel
theorem dX11_band_48 : decode cX11_band 48 = .ok (.getfield 125, 3) := by decide +kernel
theorem dX11_band_51 : decode cX11_band 51 = .ok (.iload 6, 2) := by decide +kernel
theorem dX11_band_53 : decode cX11_band 53 = .ok (.iload 7, 2) := by decide +kernel
theorem dX11_band_55 : decode cX11_band 55 = .ok (.invokevirtual 248, 3) := by decide +kernel
theorem dX11_band_58 : decode cX11_band 58 = .ok (.iload_n 1, 1) := by decide +kernel
theorem dX11_band_59 : decode cX11_band 59 = .ok (.iload_n 2, 1) := by decide +kernel
theorem dX11_band_60 : decode cX11_band 60 = .ok (.invokestatic 135, 3) := by decide +kernel
theorem dX11_band_63 : decode cX11_band 63 = .ok (.ifCond .eq 37, 3) := by decide +kernel
theorem dX11_band_66 : decode cX11_band 66 = .ok (.aload_n 0, 1) := by decide +kernel
theorem dX11_band_67 : decode cX11_band 67 = .ok (.getfield 79, 3) := by decide +kernel
theorem dX11_band_70 : decode cX11_band 70 = .ok (.getfield 254, 3) := by decide +kernel
theorem dX11_band_73 : decode cX11_band 73 = .ok (.iload 6, 2) := by decide +kernel
theorem dX11_band_75 : decode cX11_band 75 = .ok (.iaload, 1) := by decide +kernel
theorem dX11_band_76 : decode cX11_band 76 = .ok (.aload_n 0, 1) := by decide +kernel
theorem dX11_band_77 : decode cX11_band 77 = .ok (.getfield 79, 3) := by decide +kernel
theorem dX11_band_80 : decode cX11_band 80 = .ok (.getfield 254, 3) := by decide +kernel
theorem dX11_band_83 : decode cX11_band 83 = .ok (.iload 7, 2) := by decide +kernel
theorem dX11_band_85 : decode cX11_band 85 = .ok (.iaload, 1) := by decide +kernel
theorem dX11_band_86 : decode cX11_band 86 = .ok (.isub, 1) := by decide +kernel
theorem dX11_band_87 : decode cX11_band 87 = .ok (.i2l, 1) := by decide +kernel
theorem dX11_band_88 : decode cX11_band 88 = .ok (.lstore 8, 2) := by decide +kernel
theorem dX11_band_90 : decode cX11_band 90 = .ok (.lload 4, 2) := by decide +kernel
theorem dX11_band_92 : decode cX11_band 92 = .ok (.lload 8, 2) := by decide +kernel
theorem dX11_band_94 : decode cX11_band 94 = .ok (.lload 8, 2) := by decide +kernel
theorem dX11_band_96 : decode cX11_band 96 = .ok (.lmul, 1) := by decide +kernel
theorem dX11_band_97 : decode cX11_band 97 = .ok (.ladd, 1) := by decide +kernel
theorem dX11_band_98 : decode cX11_band 98 = .ok (.lstore 4, 2) := by decide +kernel
theorem dX11_band_100 : decode cX11_band 100 = .ok (.iinc 7 1, 3) := by decide +kernel
theorem dX11_band_103 : decode cX11_band 103 = .ok (.goto (-66), 3) := by decide +kernel
theorem dX11_band_106 : decode cX11_band 106 = .ok (.iinc 6 1, 3) := by decide +kernel
theorem dX11_band_109 : decode cX11_band 109 = .ok (.goto (-90), 3) := by decide +kernel
theorem dX11_band_112 : decode cX11_band 112 = .ok (.aload_n 0, 1) := by decide +kernel
theorem dX11_band_113 : decode cX11_band 113 = .ok (.getfield 67, 3) := by decide +kernel
theorem dX11_band_116 : decode cX11_band 116 = .ok (.getfield 214, 3) := by decide +kernel
theorem dX11_band_119 : decode cX11_band 119 = .ok (.lload 4, 2) := by decide +kernel
theorem dX11_band_121 : decode cX11_band 121 = .ok (.invokevirtual 258, 3) := by decide +kernel
theorem dX11_band_124 : decode cX11_band 124 = .ok (.aload_n 0, 1) := by decide +kernel
theorem dX11_band_125 : decode cX11_band 125 = .ok (.getfield 67, 3) := by decide +kernel
theorem dX11_band_128 : decode cX11_band 128 = .ok (.getfield 217, 3) := by decide +kernel
theorem dX11_band_131 : decode cX11_band 131 = .ok (.ldc2_w 263, 3) := by decide +kernel
theorem dX11_band_134 : decode cX11_band 134 = .ok (.iload_n 3, 1) := by decide +kernel
theorem dX11_band_135 : decode cX11_band 135 = .ok (.i2l, 1) := by decide +kernel
theorem dX11_band_136 : decode cX11_band 136 = .ok (.lmul, 1) := by decide +kernel
theorem dX11_band_137 : decode cX11_band 137 = .ok (.invokevirtual 258, 3) := by decide +kernel
theorem dX11_band_140 : decode cX11_band 140 = .ok (.aload_n 0, 1) := by decide +kernel
theorem dX11_band_141 : decode cX11_band 141 = .ok (.aload_n 0, 1) := by decide +kernel
theorem dX11_band_142 : decode cX11_band 142 = .ok (.getfield 67, 3) := by decide +kernel
theorem dX11_band_145 : decode cX11_band 145 = .ok (.getfield 214, 3) := by decide +kernel
theorem dX11_band_148 : decode cX11_band 148 = .ok (.aload_n 0, 1) := by decide +kernel
theorem dX11_band_149 : decode cX11_band 149 = .ok (.getfield 67, 3) := by decide +kernel
theorem dX11_band_152 : decode cX11_band 152 = .ok (.getfield 217, 3) := by decide +kernel
theorem dX11_band_155 : decode cX11_band 155 = .ok (.invokevirtual 194, 3) := by decide +kernel
theorem dX11_band_158 : decode cX11_band 158 = .ok (.ireturn, 1) := by decide +kernel
theorem dX11_look_0 : decode cX11_look 0 = .ok (.iload_n 1, 1) := by decide +kernel
theorem dX11_look_1 : decode cX11_look 1 = .ok (.ifCond .ne 14, 3) := by decide +kernel
theorem dX11_look_4 : decode cX11_look 4 = .ok (.aload_n 0, 1) := by decide +kernel
theorem dX11_look_5 : decode cX11_look 5 = .ok (.getfield 63, 3) := by decide +kernel
theorem dX11_look_8 : decode cX11_look 8 = .ok (.getfield 214, 3) := by decide +kernel
theorem dX11_look_11 : decode cX11_look 11 = .ok (.getfield 265, 3) := by decide +kernel
theorem dX11_look_14 : decode cX11_look 14 = .ok (.ireturn, 1) := by decide +kernel
theorem dX11_look_15 : decode cX11_look 15 = .ok (.iload_n 1, 1) := by decide +kernel
theorem dX11_look_16 : decode cX11_look 16 = .ok (.iconst 1, 1) := by decide +kernel
theorem dX11_look_17 : decode cX11_look 17 = .ok (.if_icmp .ne 18, 3) := by decide +kernel
theorem dX11_look_20 : decode cX11_look 20 = .ok (.iconst 1, 1) := by decide +kernel
theorem dX11_look_21 : decode cX11_look 21 = .ok (.aload_n 0, 1) := by decide +kernel
theorem dX11_look_22 : decode cX11_look 22 = .ok (.getfield 63, 3) := by decide +kernel
theorem dX11_look_25 : decode cX11_look 25 = .ok (.getfield 214, 3) := by decide +kernel
theorem dX11_look_28 : decode cX11_look 28 = .ok (.getfield 268, 3) := by decide +kernel
theorem dX11_look_31 : decode cX11_look 31 = .ok (.invokestatic 269, 3) := by decide +kernel
theorem dX11_look_34 : decode cX11_look 34 = .ok (.ireturn, 1) := by decide +kernel
theorem dX11_look_35 : decode cX11_look 35 = .ok (.iload_n 1, 1) := by decide +kernel
theorem dX11_look_36 : decode cX11_look 36 = .ok (.iconst 2, 1) := by decide +kernel
theorem dX11_look_37 : decode cX11_look 37 = .ok (.if_icmp .ne 16, 3) := by decide +kernel
theorem dX11_look_40 : decode cX11_look 40 = .ok (.aload_n 0, 1) := by decide +kernel
theorem dX11_look_41 : decode cX11_look 41 = .ok (.getfield 63, 3) := by decide +kernel
theorem dX11_look_44 : decode cX11_look 44 = .ok (.getfield 217, 3) := by decide +kernel
theorem dX11_look_47 : decode cX11_look 47 = .ok (.getfield 268, 3) := by decide +kernel
theorem dX11_look_50 : decode cX11_look 50 = .ok (.goto 4, 3) := by decide +kernel
theorem dX11_look_53 : decode cX11_look 53 = .ok (.iconst (-1), 1) := by decide +kernel
theorem dX11_look_54 : decode cX11_look 54 = .ok (.ireturn, 1) := by decide +kernel
theorem dX11_part_0 : decode cX11_part 0 = .ok (.iload_n 1, 1) := by decide +kernel
theorem dX11_part_1 : decode cX11_part 1 = .ok (.ifCond .eq 13, 3) := by decide +kernel
theorem dX11_part_4 : decode cX11_part 4 = .ok (.aload_n 0, 1) := by decide +kernel
theorem dX11_part_5 : decode cX11_part 5 = .ok (.getfield 63, 3) := by decide +kernel
theorem dX11_part_8 : decode cX11_part 8 = .ok (.getfield 217, 3) := by decide +kernel
theorem dX11_part_11 : decode cX11_part 11 = .ok (.goto 10, 3) := by decide +kernel
theorem dX11_part_14 : decode cX11_part 14 = .ok (.aload_n 0, 1) := by decide +kernel
theorem dX11_part_15 : decode cX11_part 15 = .ok (.getfield 63, 3) := by decide +kernel
theorem dX11_part_18 : decode cX11_part 18 = .ok (.getfield 214, 3) := by decide +kernel
theorem dX11_part_21 : decode cX11_part 21 = .ok (.astore_n 3, 1) := by decide +kernel
theorem dX11_part_22 : decode cX11_part 22 = .ok (.iload_n 2, 1) := by decide +kernel
theorem dX11_part_23 : decode cX11_part 23 = .ok (.ifCond .lt 20, 3) := by decide +kernel
theorem dX11_part_26 : decode cX11_part 26 = .ok (.iload_n 2, 1) := by decide +kernel
theorem dX11_part_27 : decode cX11_part 27 = .ok (.aload_n 3, 1) := by decide +kernel
theorem dX11_part_28 : decode cX11_part 28 = .ok (.getfield 268, 3) := by decide +kernel
theorem dX11_part_31 : decode cX11_part 31 = .ok (.if_icmp .ge 12, 3) := by decide +kernel
theorem dX11_part_34 : decode cX11_part 34 = .ok (.aload_n 3, 1) := by decide +kernel
theorem dX11_part_35 : decode cX11_part 35 = .ok (.getfield 274, 3) := by decide +kernel
theorem dX11_part_38 : decode cX11_part 38 = .ok (.iload_n 2, 1) := by decide +kernel
theorem dX11_part_39 : decode cX11_part 39 = .ok (.iaload, 1) := by decide +kernel
theorem dX11_part_40 : decode cX11_part 40 = .ok (.goto 4, 3) := by decide +kernel
theorem dX11_part_43 : decode cX11_part 43 = .ok (.iconst 0, 1) := by decide +kernel
theorem dX11_part_44 : decode cX11_part 44 = .ok (.ireturn, 1) := by decide +kernel
theorem dX11_told_0 : decode cX11_told 0 = .ok (.aload_n 0, 1) := by decide +kernel
theorem dX11_told_1 : decode cX11_told 1 = .ok (.getfield 79, 3) := by decide +kernel
theorem dX11_told_4 : decode cX11_told 4 = .ok (.getfield 125, 3) := by decide +kernel
theorem dX11_told_7 : decode cX11_told 7 = .ok (.iload_n 1, 1) := by decide +kernel
theorem dX11_told_8 : decode cX11_told 8 = .ok (.invokevirtual 145, 3) := by decide +kernel
theorem dX11_told_11 : decode cX11_told 11 = .ok (.ifCond .ne 7, 3) := by decide +kernel
theorem dX11_told_14 : decode cX11_told 14 = .ok (.sipush (-10000), 3) := by decide +kernel
theorem dX11_told_17 : decode cX11_told 17 = .ok (.ireturn, 1) := by decide +kernel
theorem dX11_told_18 : decode cX11_told 18 = .ok (.iload_n 2, 1) := by decide +kernel
theorem dX11_told_19 : decode cX11_told 19 = .ok (.tableswitch 75 0 3 #[29, 42, 55, 65], 29) := by decide +kernel
theorem dX11_told_48 : decode cX11_told 48 = .ok (.aload_n 0, 1) := by decide +kernel
theorem dX11_told_49 : decode cX11_told 49 = .ok (.getfield 79, 3) := by decide +kernel
theorem dX11_told_52 : decode cX11_told 52 = .ok (.getfield 125, 3) := by decide +kernel
theorem dX11_told_55 : decode cX11_told 55 = .ok (.getfield 277, 3) := by decide +kernel
theorem dX11_told_58 : decode cX11_told 58 = .ok (.iload_n 1, 1) := by decide +kernel
theorem dX11_told_59 : decode cX11_told 59 = .ok (.iaload, 1) := by decide +kernel
theorem dX11_told_60 : decode cX11_told 60 = .ok (.ireturn, 1) := by decide +kernel
theorem dX11_told_61 : decode cX11_told 61 = .ok (.aload_n 0, 1) := by decide +kernel
theorem dX11_told_62 : decode cX11_told 62 = .ok (.getfield 79, 3) := by decide +kernel
theorem dX11_told_65 : decode cX11_told 65 = .ok (.getfield 125, 3) := by decide +kernel
theorem dX11_told_68 : decode cX11_told 68 = .ok (.getfield 280, 3) := by decide +kernel
theorem dX11_told_71 : decode cX11_told 71 = .ok (.iload_n 1, 1) := by decide +kernel
theorem dX11_told_72 : decode cX11_told 72 = .ok (.iaload, 1) := by decide +kernel
theorem dX11_told_73 : decode cX11_told 73 = .ok (.ireturn, 1) := by decide +kernel
theorem dX11_told_74 : decode cX11_told 74 = .ok (.aload_n 0, 1) := by decide +kernel
theorem dX11_told_75 : decode cX11_told 75 = .ok (.getfield 79, 3) := by decide +kernel
theorem dX11_told_78 : decode cX11_told 78 = .ok (.getfield 254, 3) := by decide +kernel
theorem dX11_told_81 : decode cX11_told 81 = .ok (.iload_n 1, 1) := by decide +kernel
theorem dX11_told_82 : decode cX11_told 82 = .ok (.iaload, 1) := by decide +kernel
theorem dX11_told_83 : decode cX11_told 83 = .ok (.ireturn, 1) := by decide +kernel
theorem dX11_told_84 : decode cX11_told 84 = .ok (.aload_n 0, 1) := by decide +kernel
theorem dX11_told_85 : decode cX11_told 85 = .ok (.getfield 79, 3) := by decide +kernel
theorem dX11_told_88 : decode cX11_told 88 = .ok (.getfield 283, 3) := by decide +kernel
theorem dX11_told_91 : decode cX11_told 91 = .ok (.iload_n 1, 1) := by decide +kernel
theorem dX11_told_92 : decode cX11_told 92 = .ok (.iaload, 1) := by decide +kernel
theorem dX11_told_93 : decode cX11_told 93 = .ok (.ireturn, 1) := by decide +kernel
theorem dX11_told_94 : decode cX11_told 94 = .ok (.sipush (-10000), 3) := by decide +kernel
theorem dX11_told_97 : decode cX11_told 97 = .ok (.ireturn, 1) := by decide +kernel
theorem dX11_count_0 : decode cX11_count 0 = .ok (.iload_n 1, 1) := by decide +kernel
theorem dX11_count_1 : decode cX11_count 1 = .ok (.tableswitch 92 0 5 #[39, 50, 58, 63, 68, 76], 39) := by decide +kernel
theorem dX11_count_40 : decode cX11_count 40 = .ok (.aload_n 0, 1) := by decide +kernel
theorem dX11_count_41 : decode cX11_count 41 = .ok (.getfield 79, 3) := by decide +kernel
theorem dX11_count_44 : decode cX11_count 44 = .ok (.getfield 125, 3) := by decide +kernel
theorem dX11_count_47 : decode cX11_count 47 = .ok (.getfield 128, 3) := by decide +kernel
theorem dX11_count_50 : decode cX11_count 50 = .ok (.ireturn, 1) := by decide +kernel
theorem dX11_count_51 : decode cX11_count 51 = .ok (.aload_n 0, 1) := by decide +kernel
theorem dX11_count_52 : decode cX11_count 52 = .ok (.getfield 19, 3) := by decide +kernel
theorem dX11_count_55 : decode cX11_count 55 = .ok (.getfield 222, 3) := by decide +kernel
theorem dX11_count_58 : decode cX11_count 58 = .ok (.ireturn, 1) := by decide +kernel
theorem dX11_count_59 : decode cX11_count 59 = .ok (.aload_n 0, 1) := by decide +kernel
theorem dX11_count_60 : decode cX11_count 60 = .ok (.getfield 86, 3) := by decide +kernel
theorem dX11_count_63 : decode cX11_count 63 = .ok (.ireturn, 1) := by decide +kernel
theorem dX11_count_64 : decode cX11_count 64 = .ok (.aload_n 0, 1) := by decide +kernel
theorem dX11_count_65 : decode cX11_count 65 = .ok (.getfield 90, 3) := by decide +kernel
theorem dX11_count_68 : decode cX11_count 68 = .ok (.ireturn, 1) := by decide +kernel
theorem dX11_count_69 : decode cX11_count 69 = .ok (.aload_n 0, 1) := by decide +kernel
theorem dX11_count_70 : decode cX11_count 70 = .ok (.getfield 12, 3) := by decide +kernel
theorem dX11_count_73 : decode cX11_count 73 = .ok (.invokevirtual 286, 3) := by decide +kernel
theorem dX11_count_76 : decode cX11_count 76 = .ok (.ireturn, 1) := by decide +kernel
theorem dX11_count_77 : decode cX11_count 77 = .ok (.aload_n 0, 1) := by decide +kernel
theorem dX11_count_78 : decode cX11_count 78 = .ok (.getfield 49, 3) := by decide +kernel
theorem dX11_count_81 : decode cX11_count 81 = .ok (.getfield 121, 3) := by decide +kernel
theorem dX11_count_84 : decode cX11_count 84 = .ok (.ifCond .eq 7, 3) := by decide +kernel
theorem dX11_count_87 : decode cX11_count 87 = .ok (.iconst 1, 1) := by decide +kernel
theorem dX11_count_88 : decode cX11_count 88 = .ok (.goto 4, 3) := by decide +kernel
theorem dX11_count_91 : decode cX11_count 91 = .ok (.iconst 0, 1) := by decide +kernel
theorem dX11_count_92 : decode cX11_count 92 = .ok (.ireturn, 1) := by decide +kernel
theorem dX11_count_93 : decode cX11_count 93 = .ok (.iconst (-1), 1) := by decide +kernel
theorem dX11_count_94 : decode cX11_count 94 = .ok (.ireturn, 1) := by decide +kernel
theorem dX11_isWithin_0 : decode cX11_isWithin 0 = .ok (.iload_n 0, 1) := by decide +kernel
theorem dX11_isWithin_1 : decode cX11_isWithin 1 = .ok (.iload_n 1, 1) := by decide +kernel
theorem dX11_isWithin_2 : decode cX11_isWithin 2 = .ok (.if_icmp .lt 12, 3) := by decide +kernel
theorem dX11_isWithin_5 : decode cX11_isWithin 5 = .ok (.iload_n 0, 1) := by decide +kernel
theorem dX11_isWithin_6 : decode cX11_isWithin 6 = .ok (.iload_n 2, 1) := by decide +kernel
theorem dX11_isWithin_7 : decode cX11_isWithin 7 = .ok (.if_icmp .gt 7, 3) := by decide +kernel
theorem dX11_isWithin_10 : decode cX11_isWithin 10 = .ok (.iconst 1, 1) := by decide +kernel
theorem dX11_isWithin_11 : decode cX11_isWithin 11 = .ok (.goto 4, 3) := by decide +kernel
theorem dX11_isWithin_14 : decode cX11_isWithin 14 = .ok (.iconst 0, 1) := by decide +kernel
theorem dX11_isWithin_15 : decode cX11_isWithin 15 = .ok (.ireturn, 1) := by decide +kernel
theorem dX11_isPlace_0 : decode cX11_isPlace 0 = .ok (.iload_n 0, 1) := by decide +kernel
theorem dX11_isPlace_1 : decode cX11_isPlace 1 = .ok (.bipush (-20), 2) := by decide +kernel
theorem dX11_isPlace_3 : decode cX11_isPlace 3 = .ok (.bipush 20, 2) := by decide +kernel
theorem dX11_isPlace_5 : decode cX11_isPlace 5 = .ok (.invokestatic 135, 3) := by decide +kernel
theorem dX11_isPlace_8 : decode cX11_isPlace 8 = .ok (.ifCond .eq 18, 3) := by decide +kernel
theorem dX11_isPlace_11 : decode cX11_isPlace 11 = .ok (.iload_n 1, 1) := by decide +kernel
theorem dX11_isPlace_12 : decode cX11_isPlace 12 = .ok (.bipush (-20), 2) := by decide +kernel
theorem dX11_isPlace_14 : decode cX11_isPlace 14 = .ok (.bipush 20, 2) := by decide +kernel
theorem dX11_isPlace_16 : decode cX11_isPlace 16 = .ok (.invokestatic 135, 3) := by decide +kernel
theorem dX11_isPlace_19 : decode cX11_isPlace 19 = .ok (.ifCond .eq 7, 3) := by decide +kernel
theorem dX11_isPlace_22 : decode cX11_isPlace 22 = .ok (.iconst 1, 1) := by decide +kernel
theorem dX11_isPlace_23 : decode cX11_isPlace 23 = .ok (.goto 4, 3) := by decide +kernel
theorem dX11_isPlace_26 : decode cX11_isPlace 26 = .ok (.iconst 0, 1) := by decide +kernel
theorem dX11_isPlace_27 : decode cX11_isPlace 27 = .ok (.ireturn, 1) := by decide +kernel
theorem dX11_addSloped_0 : decode cX11_addSloped 0 = .ok (.iload_n 1, 1) := by decide +kernel
theorem dX11_addSloped_1 : decode cX11_addSloped 1 = .ok (.iconst 1, 1) := by decide +kernel
theorem dX11_addSloped_2 : decode cX11_addSloped 2 = .ok (.bipush 100, 2) := by decide +kernel
theorem dX11_addSloped_4 : decode cX11_addSloped 4 = .ok (.invokestatic 135, 3) := by decide +kernel
theorem dX11_addSloped_7 : decode cX11_addSloped 7 = .ok (.ifCond .eq 14, 3) := by decide +kernel
theorem dX11_addSloped_10 : decode cX11_addSloped 10 = .ok (.iload_n 2, 1) := by decide +kernel
theorem dX11_addSloped_11 : decode cX11_addSloped 11 = .ok (.iconst 1, 1) := by decide +kernel
theorem dX11_addSloped_12 : decode cX11_addSloped 12 = .ok (.sipush 8000, 3) := by decide +kernel
theorem dX11_addSloped_15 : decode cX11_addSloped 15 = .ok (.invokestatic 135, 3) := by decide +kernel
theorem dX11_addSloped_18 : decode cX11_addSloped 18 = .ok (.ifCond .ne 6, 3) := by decide +kernel
theorem dX11_addSloped_21 : decode cX11_addSloped 21 = .ok (.bipush (-4), 2) := by decide +kernel
theorem dX11_addSloped_23 : decode cX11_addSloped 23 = .ok (.ireturn, 1) := by decide +kernel
theorem dX11_addSloped_24 : decode cX11_addSloped 24 = .ok (.aload_n 0, 1) := by decide +kernel
theorem dX11_addSloped_25 : decode cX11_addSloped 25 = .ok (.getfield 19, 3) := by decide +kernel
theorem dX11_addSloped_28 : decode cX11_addSloped 28 = .ok (.invokevirtual 155, 3) := by decide +kernel
theorem dX11_addSloped_31 : decode cX11_addSloped 31 = .ok (.ifCond .eq 6, 3) := by decide +kernel
theorem dX11_addSloped_34 : decode cX11_addSloped 34 = .ok (.bipush (-8), 2) := by decide +kernel
theorem dX11_addSloped_36 : decode cX11_addSloped 36 = .ok (.ireturn, 1) := by decide +kernel
theorem dX11_addSloped_37 : decode cX11_addSloped 37 = .ok (.aload_n 0, 1) := by decide +kernel
theorem dX11_addSloped_38 : decode cX11_addSloped 38 = .ok (.getfield 19, 3) := by decide +kernel
theorem dX11_addSloped_41 : decode cX11_addSloped 41 = .ok (.iload_n 1, 1) := by decide +kernel
theorem dX11_addSloped_42 : decode cX11_addSloped 42 = .ok (.iload_n 2, 1) := by decide +kernel
theorem dX11_addSloped_43 : decode cX11_addSloped 43 = .ok (.invokevirtual 289, 3) := by decide +kernel
theorem dX11_addSloped_46 : decode cX11_addSloped 46 = .ok (.aload_n 0, 1) := by decide +kernel
theorem dX11_addSloped_47 : decode cX11_addSloped 47 = .ok (.getfield 19, 3) := by decide +kernel
theorem dX11_addSloped_50 : decode cX11_addSloped 50 = .ok (.invokevirtual 161, 3) := by decide +kernel
theorem dX11_addSloped_53 : decode cX11_addSloped 53 = .ok (.ireturn, 1) := by decide +kernel
theorem dX11_readSights_0 : decode cX11_readSights 0 = .ok (.aload_n 0, 1) := by decide +kernel
theorem dX11_readSights_1 : decode cX11_readSights 1 = .ok (.getfield 83, 3) := by decide +kernel
theorem dX11_readSights_4 : decode cX11_readSights 4 = .ok (.getfield 125, 3) := by decide +kernel
theorem dX11_readSights_7 : decode cX11_readSights 7 = .ok (.invokevirtual 175, 3) := by decide +kernel
theorem dX11_readSights_10 : decode cX11_readSights 10 = .ok (.aload_n 0, 1) := by decide +kernel
theorem dX11_readSights_11 : decode cX11_readSights 11 = .ok (.getfield 12, 3) := by decide +kernel
theorem dX11_readSights_14 : decode cX11_readSights 14 = .ok (.iconst 0, 1) := by decide +kernel
theorem dX11_readSights_15 : decode cX11_readSights 15 = .ok (.bipush 8, 2) := by decide +kernel
theorem dX11_readSights_17 : decode cX11_readSights 17 = .ok (.invokevirtual 292, 3) := by decide +kernel
theorem dX11_readSights_20 : decode cX11_readSights 20 = .ok (.ifCond .ne 5, 3) := by decide +kernel
theorem dX11_readSights_23 : decode cX11_readSights 23 = .ok (.iconst 0, 1) := by decide +kernel
theorem dX11_readSights_24 : decode cX11_readSights 24 = .ok (.ireturn, 1) := by decide +kernel
theorem dX11_readSights_25 : decode cX11_readSights 25 = .ok (.aload_n 0, 1) := by decide +kernel
theorem dX11_readSights_26 : decode cX11_readSights 26 = .ok (.getfield 12, 3) := by decide +kernel
theorem dX11_readSights_29 : decode cX11_readSights 29 = .ok (.getfield 295, 3) := by decide +kernel
theorem dX11_readSights_32 : decode cX11_readSights 32 = .ok (.istore_n 1, 1) := by decide +kernel
theorem dX11_readSights_33 : decode cX11_readSights 33 = .ok (.iconst 0, 1) := by decide +kernel
theorem dX11_readSights_34 : decode cX11_readSights 34 = .ok (.istore_n 2, 1) := by decide +kernel
theorem dX11_readSights_35 : decode cX11_readSights 35 = .ok (.iload_n 2, 1) := by decide +kernel
theorem dX11_readSights_36 : decode cX11_readSights 36 = .ok (.iload_n 1, 1) := by decide +kernel
theorem dX11_readSights_37 : decode cX11_readSights 37 = .ok (.if_icmp .ge 18, 3) := by decide +kernel
theorem dX11_readSights_40 : decode cX11_readSights 40 = .ok (.aload_n 0, 1) := by decide +kernel
theorem dX11_readSights_41 : decode cX11_readSights 41 = .ok (.invokevirtual 298, 3) := by decide +kernel
theorem dX11_readSights_44 : decode cX11_readSights 44 = .ok (.ifCond .ne 5, 3) := by decide +kernel
theorem dX11_readSights_47 : decode cX11_readSights 47 = .ok (.iconst 0, 1) := by decide +kernel
theorem dX11_readSights_48 : decode cX11_readSights 48 = .ok (.ireturn, 1) := by decide +kernel
theorem dX11_readSights_49 : decode cX11_readSights 49 = .ok (.iinc 2 1, 3) := by decide +kernel
theorem dX11_readSights_52 : decode cX11_readSights 52 = .ok (.goto (-17), 3) := by decide +kernel
theorem dX11_readSights_55 : decode cX11_readSights 55 = .ok (.iconst 1, 1) := by decide +kernel
theorem dX11_readSights_56 : decode cX11_readSights 56 = .ok (.ireturn, 1) := by decide +kernel
theorem dX11_readSight_0 : decode cX11_readSight 0 = .ok (.aload_n 0, 1) := by decide +kernel
theorem dX11_readSight_1 : decode cX11_readSight 1 = .ok (.getfield 12, 3) := by decide +kernel
theorem dX11_readSight_4 : decode cX11_readSight 4 = .ok (.invokevirtual 301, 3) := by decide +kernel
theorem dX11_readSight_7 : decode cX11_readSight 7 = .ok (.ifCond .ne 5, 3) := by decide +kernel
theorem dX11_readSight_10 : decode cX11_readSight 10 = .ok (.iconst 0, 1) := by decide +kernel
theorem dX11_readSight_11 : decode cX11_readSight 11 = .ok (.ireturn, 1) := by decide +kernel
theorem dX11_readSight_12 : decode cX11_readSight 12 = .ok (.aload_n 0, 1) := by decide +kernel
theorem dX11_readSight_13 : decode cX11_readSight 13 = .ok (.getfield 83, 3) := by decide +kernel
theorem dX11_readSight_16 : decode cX11_readSight 16 = .ok (.getfield 125, 3) := by decide +kernel
theorem dX11_readSight_19 : decode cX11_readSight 19 = .ok (.aload_n 0, 1) := by decide +kernel
theorem dX11_readSight_20 : decode cX11_readSight 20 = .ok (.getfield 12, 3) := by decide +kernel
theorem dX11_readSight_23 : decode cX11_readSight 23 = .ok (.getfield 304, 3) := by decide +kernel
theorem dX11_readSight_26 : decode cX11_readSight 26 = .ok (.aload_n 0, 1) := by decide +kernel
theorem dX11_readSight_27 : decode cX11_readSight 27 = .ok (.getfield 12, 3) := by decide +kernel
theorem dX11_readSight_30 : decode cX11_readSight 30 = .ok (.getfield 307, 3) := by decide +kernel
theorem dX11_readSight_33 : decode cX11_readSight 33 = .ok (.invokevirtual 139, 3) := by decide +kernel
theorem dX11_readSight_36 : decode cX11_readSight 36 = .ok (.ifCond .eq 14, 3) := by decide +kernel
theorem dX11_readSight_39 : decode cX11_readSight 39 = .ok (.aload_n 0, 1) := by decide +kernel
theorem dX11_readSight_40 : decode cX11_readSight 40 = .ok (.getfield 12, 3) := by decide +kernel
theorem dX11_readSight_43 : decode cX11_readSight 43 = .ok (.bipush (-4), 2) := by decide +kernel
theorem dX11_readSight_45 : decode cX11_readSight 45 = .ok (.putfield 118, 3) := by decide +kernel
theorem dX11_readSight_48 : decode cX11_readSight 48 = .ok (.iconst 0, 1) := by decide +kernel
theorem dX11_readSight_49 : decode cX11_readSight 49 = .ok (.ireturn, 1) := by decide +kernel
theorem dX11_readSight_50 : decode cX11_readSight 50 = .ok (.aload_n 0, 1) := by decide +kernel
theorem dX11_readSight_51 : decode cX11_readSight 51 = .ok (.getfield 12, 3) := by decide +kernel
theorem dX11_readSight_54 : decode cX11_readSight 54 = .ok (.sipush (-1000), 3) := by decide +kernel
theorem dX11_readSight_57 : decode cX11_readSight 57 = .ok (.sipush 1000, 3) := by decide +kernel
theorem dX11_readSight_60 : decode cX11_readSight 60 = .ok (.invokevirtual 292, 3) := by decide +kernel
theorem dX11_readSight_63 : decode cX11_readSight 63 = .ok (.ifCond .ne 5, 3) := by decide +kernel
theorem dX11_readSight_66 : decode cX11_readSight 66 = .ok (.iconst 0, 1) := by decide +kernel
theorem dX11_readSight_67 : decode cX11_readSight 67 = .ok (.ireturn, 1) := by decide +kernel
theorem dX11_readSight_68 : decode cX11_readSight 68 = .ok (.aload_n 0, 1) := by decide +kernel
theorem dX11_readSight_69 : decode cX11_readSight 69 = .ok (.getfield 12, 3) := by decide +kernel
theorem dX11_readSight_72 : decode cX11_readSight 72 = .ok (.getfield 295, 3) := by decide +kernel
theorem dX11_readSight_75 : decode cX11_readSight 75 = .ok (.istore_n 1, 1) := by decide +kernel
theorem dX11_readSight_76 : decode cX11_readSight 76 = .ok (.aload_n 0, 1) := by decide +kernel
theorem dX11_readSight_77 : decode cX11_readSight 77 = .ok (.getfield 12, 3) := by decide +kernel
theorem dX11_readSight_80 : decode cX11_readSight 80 = .ok (.iconst 0, 1) := by decide +kernel
theorem dX11_readSight_81 : decode cX11_readSight 81 = .ok (.bipush 100, 2) := by decide +kernel
theorem dX11_readSight_83 : decode cX11_readSight 83 = .ok (.invokevirtual 292, 3) := by decide +kernel
theorem dX11_readSight_86 : decode cX11_readSight 86 = .ok (.ifCond .ne 5, 3) := by decide +kernel
theorem dX11_readSight_89 : decode cX11_readSight 89 = .ok (.iconst 0, 1) := by decide +kernel
theorem dX11_readSight_90 : decode cX11_readSight 90 = .ok (.ireturn, 1) := by decide +kernel
theorem dX11_readSight_91 : decode cX11_readSight 91 = .ok (.aload_n 0, 1) := by decide +kernel
theorem dX11_readSight_92 : decode cX11_readSight 92 = .ok (.getfield 83, 3) := by decide +kernel
theorem dX11_readSight_95 : decode cX11_readSight 95 = .ok (.aload_n 0, 1) := by decide +kernel
theorem dX11_readSight_96 : decode cX11_readSight 96 = .ok (.getfield 12, 3) := by decide +kernel
theorem dX11_readSight_99 : decode cX11_readSight 99 = .ok (.getfield 304, 3) := by decide +kernel
theorem dX11_readSight_102 : decode cX11_readSight 102 = .ok (.aload_n 0, 1) := by decide +kernel
theorem dX11_readSight_103 : decode cX11_readSight 103 = .ok (.getfield 12, 3) := by decide +kernel
theorem dX11_readSight_106 : decode cX11_readSight 106 = .ok (.getfield 307, 3) := by decide +kernel
theorem dX11_readSight_109 : decode cX11_readSight 109 = .ok (.iload_n 1, 1) := by decide +kernel
theorem dX11_readSight_110 : decode cX11_readSight 110 = .ok (.aload_n 0, 1) := by decide +kernel
theorem dX11_readSight_111 : decode cX11_readSight 111 = .ok (.getfield 12, 3) := by decide +kernel
theorem dX11_readSight_114 : decode cX11_readSight 114 = .ok (.getfield 295, 3) := by decide +kernel
theorem dX11_readSight_117 : decode cX11_readSight 117 = .ok (.invokevirtual 141, 3) := by decide +kernel
theorem dX11_readSight_120 : decode cX11_readSight 120 = .ok (.iconst 1, 1) := by decide +kernel
theorem dX11_readSight_121 : decode cX11_readSight 121 = .ok (.ireturn, 1) := by decide +kernel
theorem dX11_readTable_0 : decode cX11_readTable 0 = .ok (.aload_n 0, 1) := by decide +kernel
theorem dX11_readTable_1 : decode cX11_readTable 1 = .ok (.getfield 12, 3) := by decide +kernel
theorem dX11_readTable_4 : decode cX11_readTable 4 = .ok (.iconst 1, 1) := by decide +kernel
theorem dX11_readTable_5 : decode cX11_readTable 5 = .ok (.bipush 40, 2) := by decide +kernel
theorem dX11_readTable_7 : decode cX11_readTable 7 = .ok (.invokevirtual 292, 3) := by decide +kernel
theorem dX11_readTable_10 : decode cX11_readTable 10 = .ok (.ifCond .ne 5, 3) := by decide +kernel
theorem dX11_readTable_13 : decode cX11_readTable 13 = .ok (.iconst 0, 1) := by decide +kernel
theorem dX11_readTable_14 : decode cX11_readTable 14 = .ok (.ireturn, 1) := by decide +kernel
theorem dX11_readTable_15 : decode cX11_readTable 15 = .ok (.aload_n 0, 1) := by decide +kernel
theorem dX11_readTable_16 : decode cX11_readTable 16 = .ok (.getfield 12, 3) := by decide +kernel
theorem dX11_readTable_19 : decode cX11_readTable 19 = .ok (.getfield 295, 3) := by decide +kernel
theorem dX11_readTable_22 : decode cX11_readTable 22 = .ok (.istore_n 1, 1) := by decide +kernel
theorem dX11_readTable_23 : decode cX11_readTable 23 = .ok (.iconst 1, 1) := by decide +kernel
theorem dX11_readTable_24 : decode cX11_readTable 24 = .ok (.istore_n 2, 1) := by decide +kernel
theorem dX11_readTable_25 : decode cX11_readTable 25 = .ok (.iload_n 2, 1) := by decide +kernel
theorem dX11_readTable_26 : decode cX11_readTable 26 = .ok (.iload_n 1, 1) := by decide +kernel
theorem dX11_readTable_27 : decode cX11_readTable 27 = .ok (.if_icmp .gt 40, 3) := by decide +kernel
theorem dX11_readTable_30 : decode cX11_readTable 30 = .ok (.aload_n 0, 1) := by decide +kernel
theorem dX11_readTable_31 : decode cX11_readTable 31 = .ok (.getfield 12, 3) := by decide +kernel
theorem dX11_readTable_34 : decode cX11_readTable 34 = .ok (.iconst 0, 1) := by decide +kernel
theorem dX11_readTable_35 : decode cX11_readTable 35 = .ok (.sipush 8000, 3) := by decide +kernel
theorem dX11_readTable_38 : decode cX11_readTable 38 = .ok (.invokevirtual 292, 3) := by decide +kernel
theorem dX11_readTable_41 : decode cX11_readTable 41 = .ok (.ifCond .ne 5, 3) := by decide +kernel
theorem dX11_readTable_44 : decode cX11_readTable 44 = .ok (.iconst 0, 1) := by decide +kernel
theorem dX11_readTable_45 : decode cX11_readTable 45 = .ok (.ireturn, 1) := by decide +kernel
theorem dX11_readTable_46 : decode cX11_readTable 46 = .ok (.aload_n 0, 1) := by decide +kernel
theorem dX11_readTable_47 : decode cX11_readTable 47 = .ok (.getfield 19, 3) := by decide +kernel
theorem dX11_readTable_50 : decode cX11_readTable 50 = .ok (.iload_n 2, 1) := by decide +kernel
theorem dX11_readTable_51 : decode cX11_readTable 51 = .ok (.aload_n 0, 1) := by decide +kernel
theorem dX11_readTable_52 : decode cX11_readTable 52 = .ok (.getfield 12, 3) := by decide +kernel
theorem dX11_readTable_55 : decode cX11_readTable 55 = .ok (.getfield 295, 3) := by decide +kernel
theorem dX11_readTable_58 : decode cX11_readTable 58 = .ok (.invokevirtual 310, 3) := by decide +kernel
theorem dX11_readTable_61 : decode cX11_readTable 61 = .ok (.iinc 2 1, 3) := by decide +kernel
theorem dX11_readTable_64 : decode cX11_readTable 64 = .ok (.goto (-39), 3) := by decide +kernel
theorem dX11_readTable_67 : decode cX11_readTable 67 = .ok (.iload_n 1, 1) := by decide +kernel
theorem dX11_readTable_68 : decode cX11_readTable 68 = .ok (.iconst 1, 1) := by decide +kernel
theorem dX11_readTable_69 : decode cX11_readTable 69 = .ok (.iadd, 1) := by decide +kernel
theorem dX11_readTable_70 : decode cX11_readTable 70 = .ok (.istore_n 2, 1) := by decide +kernel
theorem dX11_readTable_71 : decode cX11_readTable 71 = .ok (.iload_n 2, 1) := by decide +kernel
theorem dX11_readTable_72 : decode cX11_readTable 72 = .ok (.bipush 80, 2) := by decide +kernel
theorem dX11_readTable_74 : decode cX11_readTable 74 = .ok (.if_icmp .gt 24, 3) := by decide +kernel
theorem dX11_readTable_77 : decode cX11_readTable 77 = .ok (.aload_n 0, 1) := by decide +kernel
theorem dX11_readTable_78 : decode cX11_readTable 78 = .ok (.getfield 19, 3) := by decide +kernel
theorem dX11_readTable_81 : decode cX11_readTable 81 = .ok (.iload_n 2, 1) := by decide +kernel
theorem dX11_readTable_82 : decode cX11_readTable 82 = .ok (.aload_n 0, 1) := by decide +kernel
theorem dX11_readTable_83 : decode cX11_readTable 83 = .ok (.getfield 12, 3) := by decide +kernel
theorem dX11_readTable_86 : decode cX11_readTable 86 = .ok (.getfield 295, 3) := by decide +kernel
theorem dX11_readTable_89 : decode cX11_readTable 89 = .ok (.invokevirtual 310, 3) := by decide +kernel
theorem dX11_readTable_92 : decode cX11_readTable 92 = .ok (.iinc 2 1, 3) := by decide +kernel
theorem dX11_readTable_95 : decode cX11_readTable 95 = .ok (.goto (-24), 3) := by decide +kernel
theorem dX11_readTable_98 : decode cX11_readTable 98 = .ok (.iconst 1, 1) := by decide +kernel
theorem dX11_readTable_99 : decode cX11_readTable 99 = .ok (.ireturn, 1) := by decide +kernel
theorem dX11_readAsked_0 : decode cX11_readAsked 0 = .ok (.aload_n 0, 1) := by decide +kernel
theorem dX11_readAsked_1 : decode cX11_readAsked 1 = .ok (.getfield 28, 3) := by decide +kernel
theorem dX11_readAsked_4 : decode cX11_readAsked 4 = .ok (.invokevirtual 175, 3) := by decide +kernel
theorem dX11_readAsked_7 : decode cX11_readAsked 7 = .ok (.aload_n 0, 1) := by decide +kernel
theorem dX11_readAsked_8 : decode cX11_readAsked 8 = .ok (.getfield 12, 3) := by decide +kernel
theorem dX11_readAsked_11 : decode cX11_readAsked 11 = .ok (.iconst 1, 1) := by decide +kernel
theorem dX11_readAsked_12 : decode cX11_readAsked 12 = .ok (.bipush 6, 2) := by decide +kernel
theorem dX11_readAsked_14 : decode cX11_readAsked 14 = .ok (.invokevirtual 292, 3) := by decide +kernel
theorem dX11_readAsked_17 : decode cX11_readAsked 17 = .ok (.ifCond .ne 5, 3) := by decide +kernel
theorem dX11_readAsked_20 : decode cX11_readAsked 20 = .ok (.iconst 0, 1) := by decide +kernel
theorem dX11_readAsked_21 : decode cX11_readAsked 21 = .ok (.ireturn, 1) := by decide +kernel
theorem dX11_readAsked_22 : decode cX11_readAsked 22 = .ok (.aload_n 0, 1) := by decide +kernel
theorem dX11_readAsked_23 : decode cX11_readAsked 23 = .ok (.getfield 12, 3) := by decide +kernel
theorem dX11_readAsked_26 : decode cX11_readAsked 26 = .ok (.getfield 295, 3) := by decide +kernel
theorem dX11_readAsked_29 : decode cX11_readAsked 29 = .ok (.istore_n 1, 1) := by decide +kernel
theorem dX11_readAsked_30 : decode cX11_readAsked 30 = .ok (.iconst 0, 1) := by decide +kernel
theorem dX11_readAsked_31 : decode cX11_readAsked 31 = .ok (.istore_n 2, 1) := by decide +kernel
theorem dX11_readAsked_32 : decode cX11_readAsked 32 = .ok (.iload_n 2, 1) := by decide +kernel
theorem dX11_readAsked_33 : decode cX11_readAsked 33 = .ok (.iload_n 1, 1) := by decide +kernel
theorem dX11_readAsked_34 : decode cX11_readAsked 34 = .ok (.if_icmp .ge 42, 3) := by decide +kernel
theorem dX11_readAsked_37 : decode cX11_readAsked 37 = .ok (.aload_n 0, 1) := by decide +kernel
theorem dX11_readAsked_38 : decode cX11_readAsked 38 = .ok (.getfield 12, 3) := by decide +kernel
theorem dX11_readAsked_41 : decode cX11_readAsked 41 = .ok (.invokevirtual 301, 3) := by decide +kernel
theorem dX11_readAsked_44 : decode cX11_readAsked 44 = .ok (.ifCond .ne 5, 3) := by decide +kernel
theorem dX11_readAsked_47 : decode cX11_readAsked 47 = .ok (.iconst 0, 1) := by decide +kernel
theorem dX11_readAsked_48 : decode cX11_readAsked 48 = .ok (.ireturn, 1) := by decide +kernel
theorem dX11_readAsked_49 : decode cX11_readAsked 49 = .ok (.aload_n 0, 1) := by decide +kernel
theorem dX11_readAsked_50 : decode cX11_readAsked 50 = .ok (.getfield 28, 3) := by decide +kernel
theorem dX11_readAsked_53 : decode cX11_readAsked 53 = .ok (.aload_n 0, 1) := by decide +kernel
theorem dX11_readAsked_54 : decode cX11_readAsked 54 = .ok (.getfield 12, 3) := by decide +kernel
theorem dX11_readAsked_57 : decode cX11_readAsked 57 = .ok (.getfield 304, 3) := by decide +kernel
theorem dX11_readAsked_60 : decode cX11_readAsked 60 = .ok (.aload_n 0, 1) := by decide +kernel
theorem dX11_readAsked_61 : decode cX11_readAsked 61 = .ok (.getfield 12, 3) := by decide +kernel
theorem dX11_readAsked_64 : decode cX11_readAsked 64 = .ok (.getfield 307, 3) := by decide +kernel
theorem dX11_readAsked_67 : decode cX11_readAsked 67 = .ok (.invokevirtual 178, 3) := by decide +kernel
theorem dX11_readAsked_70 : decode cX11_readAsked 70 = .ok (.iinc 2 1, 3) := by decide +kernel
theorem dX11_readAsked_73 : decode cX11_readAsked 73 = .ok (.goto (-41), 3) := by decide +kernel
theorem dX11_readAsked_76 : decode cX11_readAsked 76 = .ok (.iconst 1, 1) := by decide +kernel
theorem dX11_readAsked_77 : decode cX11_readAsked 77 = .ok (.ireturn, 1) := by decide +kernel
theorem dX11_canGuess_0 : decode cX11_canGuess 0 = .ok (.aload_n 0, 1) := by decide +kernel
theorem dX11_canGuess_1 : decode cX11_canGuess 1 = .ok (.getfield 86, 3) := by decide +kernel
theorem dX11_canGuess_4 : decode cX11_canGuess 4 = .ok (.iconst (-1), 1) := by decide +kernel
theorem dX11_canGuess_5 : decode cX11_canGuess 5 = .ok (.if_icmp .eq 20, 3) := by decide +kernel
theorem dX11_canGuess_8 : decode cX11_canGuess 8 = .ok (.aload_n 0, 1) := by decide +kernel
theorem dX11_canGuess_9 : decode cX11_canGuess 9 = .ok (.getfield 79, 3) := by decide +kernel
theorem dX11_canGuess_12 : decode cX11_canGuess 12 = .ok (.getfield 125, 3) := by decide +kernel
theorem dX11_canGuess_15 : decode cX11_canGuess 15 = .ok (.getfield 128, 3) := by decide +kernel
theorem dX11_canGuess_18 : decode cX11_canGuess 18 = .ok (.ifCond .le 7, 3) := by decide +kernel
theorem dX11_canGuess_21 : decode cX11_canGuess 21 = .ok (.iconst 1, 1) := by decide +kernel
theorem dX11_canGuess_22 : decode cX11_canGuess 22 = .ok (.goto 4, 3) := by decide +kernel
theorem dX11_canGuess_25 : decode cX11_canGuess 25 = .ok (.iconst 0, 1) := by decide +kernel
theorem dX11_canGuess_26 : decode cX11_canGuess 26 = .ok (.ireturn, 1) := by decide +kernel
theorem dX11_guessForAsked_0 : decode cX11_guessForAsked 0 = .ok (.aload_n 0, 1) := by decide +kernel
theorem dX11_guessForAsked_1 : decode cX11_guessForAsked 1 = .ok (.getfield 35, 3) := by decide +kernel
theorem dX11_guessForAsked_4 : decode cX11_guessForAsked 4 = .ok (.aload_n 0, 1) := by decide +kernel
theorem dX11_guessForAsked_5 : decode cX11_guessForAsked 5 = .ok (.getfield 79, 3) := by decide +kernel
theorem dX11_guessForAsked_8 : decode cX11_guessForAsked 8 = .ok (.getfield 125, 3) := by decide +kernel
theorem dX11_guessForAsked_11 : decode cX11_guessForAsked 11 = .ok (.aload_n 0, 1) := by decide +kernel
theorem dX11_guessForAsked_12 : decode cX11_guessForAsked 12 = .ok (.getfield 28, 3) := by decide +kernel
theorem dX11_guessForAsked_15 : decode cX11_guessForAsked 15 = .ok (.aload_n 0, 1) := by decide +kernel
theorem dX11_guessForAsked_16 : decode cX11_guessForAsked 16 = .ok (.getfield 90, 3) := by decide +kernel
theorem dX11_guessForAsked_19 : decode cX11_guessForAsked 19 = .ok (.invokevirtual 313, 3) := by decide +kernel
theorem dX11_guessForAsked_22 : decode cX11_guessForAsked 22 = .ok (.aload_n 0, 1) := by decide +kernel
theorem dX11_guessForAsked_23 : decode cX11_guessForAsked 23 = .ok (.getfield 35, 3) := by decide +kernel
theorem dX11_guessForAsked_26 : decode cX11_guessForAsked 26 = .ok (.aload_n 0, 1) := by decide +kernel
theorem dX11_guessForAsked_27 : decode cX11_guessForAsked 27 = .ok (.getfield 79, 3) := by decide +kernel
theorem dX11_guessForAsked_30 : decode cX11_guessForAsked 30 = .ok (.aload_n 0, 1) := by decide +kernel
theorem dX11_guessForAsked_31 : decode cX11_guessForAsked 31 = .ok (.getfield 28, 3) := by decide +kernel
theorem dX11_guessForAsked_34 : decode cX11_guessForAsked 34 = .ok (.aload_n 0, 1) := by decide +kernel
theorem dX11_guessForAsked_35 : decode cX11_guessForAsked 35 = .ok (.getfield 19, 3) := by decide +kernel
theorem dX11_guessForAsked_38 : decode cX11_guessForAsked 38 = .ok (.aload_n 0, 1) := by decide +kernel
theorem dX11_guessForAsked_39 : decode cX11_guessForAsked 39 = .ok (.getfield 86, 3) := by decide +kernel
theorem dX11_guessForAsked_42 : decode cX11_guessForAsked 42 = .ok (.aload_n 0, 1) := by decide +kernel
theorem dX11_guessForAsked_43 : decode cX11_guessForAsked 43 = .ok (.getfield 42, 3) := by decide +kernel
theorem dX11_guessForAsked_46 : decode cX11_guessForAsked 46 = .ok (.invokevirtual 317, 3) := by decide +kernel
theorem dX11_guessForAsked_49 : decode cX11_guessForAsked 49 = .ok (.aload_n 0, 1) := by decide +kernel
theorem dX11_guessForAsked_50 : decode cX11_guessForAsked 50 = .ok (.getfield 42, 3) := by decide +kernel
theorem dX11_guessForAsked_53 : decode cX11_guessForAsked 53 = .ok (.aload_n 0, 1) := by decide +kernel
theorem dX11_guessForAsked_54 : decode cX11_guessForAsked 54 = .ok (.getfield 35, 3) := by decide +kernel
theorem dX11_guessForAsked_57 : decode cX11_guessForAsked 57 = .ok (.invokevirtual 242, 3) := by decide +kernel
theorem dX11_guessForAsked_60 : decode cX11_guessForAsked 60 = .ok (.invokevirtual 321, 3) := by decide +kernel
theorem dX11_guessForAsked_63 : decode cX11_guessForAsked 63 = .ok (.ifCond .ne 6, 3) := by decide +kernel
theorem dX11_guessForAsked_66 : decode cX11_guessForAsked 66 = .ok (.bipush (-7), 2) := by decide +kernel
theorem dX11_guessForAsked_68 : decode cX11_guessForAsked 68 = .ok (.ireturn, 1) := by decide +kernel
theorem dX11_guessForAsked_69 : decode cX11_guessForAsked 69 = .ok (.aload_n 0, 1) := by decide +kernel
theorem dX11_guessForAsked_70 : decode cX11_guessForAsked 70 = .ok (.getfield 49, 3) := by decide +kernel
theorem dX11_guessForAsked_73 : decode cX11_guessForAsked 73 = .ok (.aload_n 0, 1) := by decide +kernel
theorem dX11_guessForAsked_74 : decode cX11_guessForAsked 74 = .ok (.getfield 35, 3) := by decide +kernel
theorem dX11_guessForAsked_77 : decode cX11_guessForAsked 77 = .ok (.aload_n 0, 1) := by decide +kernel
theorem dX11_guessForAsked_78 : decode cX11_guessForAsked 78 = .ok (.getfield 42, 3) := by decide +kernel
theorem dX11_guessForAsked_81 : decode cX11_guessForAsked 81 = .ok (.aload_n 0, 1) := by decide +kernel
theorem dX11_guessForAsked_82 : decode cX11_guessForAsked 82 = .ok (.getfield 79, 3) := by decide +kernel
theorem dX11_guessForAsked_85 : decode cX11_guessForAsked 85 = .ok (.aload_n 0, 1) := by decide +kernel
theorem dX11_guessForAsked_86 : decode cX11_guessForAsked 86 = .ok (.getfield 35, 3) := by decide +kernel
theorem dX11_guessForAsked_89 : decode cX11_guessForAsked 89 = .ok (.aload_n 0, 1) := by decide +kernel
theorem dX11_guessForAsked_90 : decode cX11_guessForAsked 90 = .ok (.getfield 28, 3) := by decide +kernel
theorem dX11_guessForAsked_93 : decode cX11_guessForAsked 93 = .ok (.aload_n 0, 1) := by decide +kernel
theorem dX11_guessForAsked_94 : decode cX11_guessForAsked 94 = .ok (.getfield 19, 3) := by decide +kernel
theorem dX11_guessForAsked_97 : decode cX11_guessForAsked 97 = .ok (.aload_n 0, 1) := by decide +kernel
theorem dX11_guessForAsked_98 : decode cX11_guessForAsked 98 = .ok (.getfield 86, 3) := by decide +kernel
theorem dX11_guessForAsked_101 : decode cX11_guessForAsked 101 = .ok (.invokevirtual 324, 3) := by decide +kernel
theorem dX11_guessForAsked_104 : decode cX11_guessForAsked 104 = .ok (.invokevirtual 328, 3) := by decide +kernel
theorem dX11_guessForAsked_107 : decode cX11_guessForAsked 107 = .ok (.iconst 0, 1) := by decide +kernel
theorem dX11_guessForAsked_108 : decode cX11_guessForAsked 108 = .ok (.ireturn, 1) := by decide +kernel
theorem dX11_leaveOut_0 : decode cX11_leaveOut 0 = .ok (.aload_n 0, 1) := by decide +kernel
theorem dX11_leaveOut_1 : decode cX11_leaveOut 1 = .ok (.getfield 79, 3) := by decide +kernel
theorem dX11_leaveOut_4 : decode cX11_leaveOut 4 = .ok (.getfield 125, 3) := by decide +kernel
theorem dX11_leaveOut_7 : decode cX11_leaveOut 7 = .ok (.astore_n 3, 1) := by decide +kernel
theorem dX11_leaveOut_8 : decode cX11_leaveOut 8 = .ok (.iload_n 1, 1) := by decide +kernel
theorem dX11_leaveOut_9 : decode cX11_leaveOut 9 = .ok (.iconst (-1), 1) := by decide +kernel
theorem dX11_leaveOut_10 : decode cX11_leaveOut 10 = .ok (.if_icmp .eq 19, 3) := by decide +kernel
theorem dX11_leaveOut_13 : decode cX11_leaveOut 13 = .ok (.aload_n 3, 1) := by decide +kernel
theorem dX11_leaveOut_14 : decode cX11_leaveOut 14 = .ok (.iload_n 2, 1) := by decide +kernel
theorem dX11_leaveOut_15 : decode cX11_leaveOut 15 = .ok (.invokevirtual 145, 3) := by decide +kernel
theorem dX11_leaveOut_18 : decode cX11_leaveOut 18 = .ok (.ifCond .eq 11, 3) := by decide +kernel
theorem dX11_leaveOut_21 : decode cX11_leaveOut 21 = .ok (.aload_n 3, 1) := by decide +kernel
theorem dX11_leaveOut_22 : decode cX11_leaveOut 22 = .ok (.getfield 128, 3) := by decide +kernel
theorem dX11_leaveOut_25 : decode cX11_leaveOut 25 = .ok (.iconst 2, 1) := by decide +kernel
theorem dX11_leaveOut_26 : decode cX11_leaveOut 26 = .ok (.if_icmp .ge 5, 3) := by decide +kernel
theorem dX11_leaveOut_29 : decode cX11_leaveOut 29 = .ok (.iconst 0, 1) := by decide +kernel
theorem dX11_leaveOut_30 : decode cX11_leaveOut 30 = .ok (.ireturn, 1) := by decide +kernel
theorem dX11_leaveOut_31 : decode cX11_leaveOut 31 = .ok (.aload_n 0, 1) := by decide +kernel
theorem dX11_leaveOut_32 : decode cX11_leaveOut 32 = .ok (.getfield 28, 3) := by decide +kernel
theorem dX11_leaveOut_35 : decode cX11_leaveOut 35 = .ok (.invokevirtual 175, 3) := by decide +kernel
theorem dX11_leaveOut_38 : decode cX11_leaveOut 38 = .ok (.aload_n 0, 1) := by decide +kernel
theorem dX11_leaveOut_39 : decode cX11_leaveOut 39 = .ok (.getfield 28, 3) := by decide +kernel
theorem dX11_leaveOut_42 : decode cX11_leaveOut 42 = .ok (.aload_n 3, 1) := by decide +kernel
theorem dX11_leaveOut_43 : decode cX11_leaveOut 43 = .ok (.getfield 277, 3) := by decide +kernel
theorem dX11_leaveOut_46 : decode cX11_leaveOut 46 = .ok (.iload_n 2, 1) := by decide +kernel
theorem dX11_leaveOut_47 : decode cX11_leaveOut 47 = .ok (.iaload, 1) := by decide +kernel
theorem dX11_leaveOut_48 : decode cX11_leaveOut 48 = .ok (.aload_n 3, 1) := by decide +kernel
theorem dX11_leaveOut_49 : decode cX11_leaveOut 49 = .ok (.getfield 280, 3) := by decide +kernel
theorem dX11_leaveOut_52 : decode cX11_leaveOut 52 = .ok (.iload_n 2, 1) := by decide +kernel
theorem dX11_leaveOut_53 : decode cX11_leaveOut 53 = .ok (.iaload, 1) := by decide +kernel
theorem dX11_leaveOut_54 : decode cX11_leaveOut 54 = .ok (.invokevirtual 178, 3) := by decide +kernel
theorem dX11_leaveOut_57 : decode cX11_leaveOut 57 = .ok (.aload_n 0, 1) := by decide +kernel
theorem dX11_leaveOut_58 : decode cX11_leaveOut 58 = .ok (.getfield 35, 3) := by decide +kernel
theorem dX11_leaveOut_61 : decode cX11_leaveOut 61 = .ok (.iload_n 2, 1) := by decide +kernel
theorem dX11_leaveOut_62 : decode cX11_leaveOut 62 = .ok (.aload_n 3, 1) := by decide +kernel
theorem dX11_leaveOut_63 : decode cX11_leaveOut 63 = .ok (.getfield 128, 3) := by decide +kernel
theorem dX11_leaveOut_66 : decode cX11_leaveOut 66 = .ok (.invokevirtual 231, 3) := by decide +kernel
theorem dX11_leaveOut_69 : decode cX11_leaveOut 69 = .ok (.aload_n 0, 1) := by decide +kernel
theorem dX11_leaveOut_70 : decode cX11_leaveOut 70 = .ok (.getfield 35, 3) := by decide +kernel
theorem dX11_leaveOut_73 : decode cX11_leaveOut 73 = .ok (.aload_n 0, 1) := by decide +kernel
theorem dX11_leaveOut_74 : decode cX11_leaveOut 74 = .ok (.getfield 79, 3) := by decide +kernel
theorem dX11_leaveOut_77 : decode cX11_leaveOut 77 = .ok (.aload_n 0, 1) := by decide +kernel
theorem dX11_leaveOut_78 : decode cX11_leaveOut 78 = .ok (.getfield 28, 3) := by decide +kernel
theorem dX11_leaveOut_81 : decode cX11_leaveOut 81 = .ok (.aload_n 0, 1) := by decide +kernel
theorem dX11_leaveOut_82 : decode cX11_leaveOut 82 = .ok (.getfield 19, 3) := by decide +kernel
theorem dX11_leaveOut_85 : decode cX11_leaveOut 85 = .ok (.iload_n 1, 1) := by decide +kernel
theorem dX11_leaveOut_86 : decode cX11_leaveOut 86 = .ok (.aload_n 0, 1) := by decide +kernel
theorem dX11_leaveOut_87 : decode cX11_leaveOut 87 = .ok (.getfield 42, 3) := by decide +kernel
theorem dX11_leaveOut_90 : decode cX11_leaveOut 90 = .ok (.invokevirtual 317, 3) := by decide +kernel
theorem dX11_leaveOut_93 : decode cX11_leaveOut 93 = .ok (.aload_n 0, 1) := by decide +kernel
theorem dX11_leaveOut_94 : decode cX11_leaveOut 94 = .ok (.getfield 42, 3) := by decide +kernel
theorem dX11_leaveOut_97 : decode cX11_leaveOut 97 = .ok (.aload_n 0, 1) := by decide +kernel
