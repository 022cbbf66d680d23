theorem dX4_solve_0 : decode cX4_solve 0 = .ok (.aload_n 0, 1) := by decide +kernel
theorem dX4_solve_1 : decode cX4_solve 1 = .ok (.getfield 22, 3) := by decide +kernel
theorem dX4_solve_4 : decode cX4_solve 4 = .ok (.lconst 1, 1) := by decide +kernel
theorem dX4_solve_5 : decode cX4_solve 5 = .ok (.invokevirtual 42, 3) := by decide +kernel
theorem dX4_solve_8 : decode cX4_solve 8 = .ok (.iconst 0, 1) := by decide +kernel
theorem dX4_solve_9 : decode cX4_solve 9 = .ok (.istore_n 2, 1) := by decide +kernel
theorem dX4_solve_10 : decode cX4_solve 10 = .ok (.iload_n 2, 1) := by decide +kernel
theorem dX4_solve_11 : decode cX4_solve 11 = .ok (.iload_n 1, 1) := by decide +kernel
theorem dX4_solve_12 : decode cX4_solve 12 = .ok (.if_icmp .ge 43, 3) := by decide +kernel
theorem dX4_solve_15 : decode cX4_solve 15 = .ok (.aload_n 0, 1) := by decide +kernel
theorem dX4_solve_16 : decode cX4_solve 16 = .ok (.iload_n 2, 1) := by decide +kernel
theorem dX4_solve_17 : decode cX4_solve 17 = .ok (.iload_n 1, 1) := by decide +kernel
theorem dX4_solve_18 : decode cX4_solve 18 = .ok (.invokevirtual 46, 3) := by decide +kernel
theorem dX4_solve_21 : decode cX4_solve 21 = .ok (.ifCond .ne 5, 3) := by decide +kernel
theorem dX4_solve_24 : decode cX4_solve 24 = .ok (.iconst 0, 1) := by decide +kernel
theorem dX4_solve_25 : decode cX4_solve 25 = .ok (.ireturn, 1) := by decide +kernel
theorem dX4_solve_26 : decode cX4_solve 26 = .ok (.aload_n 0, 1) := by decide +kernel
theorem dX4_solve_27 : decode cX4_solve 27 = .ok (.iload_n 2, 1) := by decide +kernel
theorem dX4_solve_28 : decode cX4_solve 28 = .ok (.iconst 0, 1) := by decide +kernel
theorem dX4_solve_29 : decode cX4_solve 29 = .ok (.iload_n 1, 1) := by decide +kernel
theorem dX4_solve_30 : decode cX4_solve 30 = .ok (.iload_n 1, 1) := by decide +kernel
theorem dX4_solve_31 : decode cX4_solve 31 = .ok (.iconst 1, 1) := by decide +kernel
theorem dX4_solve_32 : decode cX4_solve 32 = .ok (.iadd, 1) := by decide +kernel
theorem dX4_solve_33 : decode cX4_solve 33 = .ok (.invokevirtual 50, 3) := by decide +kernel
theorem dX4_solve_36 : decode cX4_solve 36 = .ok (.aload_n 0, 1) := by decide +kernel
theorem dX4_solve_37 : decode cX4_solve 37 = .ok (.getfield 22, 3) := by decide +kernel
theorem dX4_solve_40 : decode cX4_solve 40 = .ok (.aload_n 0, 1) := by decide +kernel
theorem dX4_solve_41 : decode cX4_solve 41 = .ok (.iload_n 2, 1) := by decide +kernel
theorem dX4_solve_42 : decode cX4_solve 42 = .ok (.iload_n 2, 1) := by decide +kernel
theorem dX4_solve_43 : decode cX4_solve 43 = .ok (.invokevirtual 38, 3) := by decide +kernel
theorem dX4_solve_46 : decode cX4_solve 46 = .ok (.invokevirtual 54, 3) := by decide +kernel
theorem dX4_solve_49 : decode cX4_solve 49 = .ok (.iinc 2 1, 3) := by decide +kernel
theorem dX4_solve_52 : decode cX4_solve 52 = .ok (.goto (-42), 3) := by decide +kernel
theorem dX4_solve_55 : decode cX4_solve 55 = .ok (.iconst 1, 1) := by decide +kernel
theorem dX4_solve_56 : decode cX4_solve 56 = .ok (.ireturn, 1) := by decide +kernel
theorem dX4_judge_0 : decode cX4_judge 0 = .ok (.aload_n 0, 1) := by decide +kernel
theorem dX4_judge_1 : decode cX4_judge 1 = .ok (.getfield 22, 3) := by decide +kernel
theorem dX4_judge_4 : decode cX4_judge 4 = .ok (.lconst 1, 1) := by decide +kernel
theorem dX4_judge_5 : decode cX4_judge 5 = .ok (.invokevirtual 42, 3) := by decide +kernel
theorem dX4_judge_8 : decode cX4_judge 8 = .ok (.iconst 2, 1) := by decide +kernel
theorem dX4_judge_9 : decode cX4_judge 9 = .ok (.istore_n 2, 1) := by decide +kernel
theorem dX4_judge_10 : decode cX4_judge 10 = .ok (.iconst 0, 1) := by decide +kernel
theorem dX4_judge_11 : decode cX4_judge 11 = .ok (.istore_n 3, 1) := by decide +kernel
theorem dX4_judge_12 : decode cX4_judge 12 = .ok (.iload_n 3, 1) := by decide +kernel
theorem dX4_judge_13 : decode cX4_judge 13 = .ok (.iload_n 1, 1) := by decide +kernel
theorem dX4_judge_14 : decode cX4_judge 14 = .ok (.if_icmp .ge 74, 3) := by decide +kernel
theorem dX4_judge_17 : decode cX4_judge 17 = .ok (.aload_n 0, 1) := by decide +kernel
theorem dX4_judge_18 : decode cX4_judge 18 = .ok (.iload_n 3, 1) := by decide +kernel
theorem dX4_judge_19 : decode cX4_judge 19 = .ok (.iload_n 3, 1) := by decide +kernel
theorem dX4_judge_20 : decode cX4_judge 20 = .ok (.invokevirtual 38, 3) := by decide +kernel
theorem dX4_judge_23 : decode cX4_judge 23 = .ok (.getfield 58, 3) := by decide +kernel
theorem dX4_judge_26 : decode cX4_judge 26 = .ok (.istore 4, 2) := by decide +kernel
theorem dX4_judge_28 : decode cX4_judge 28 = .ok (.iload 4, 2) := by decide +kernel
theorem dX4_judge_30 : decode cX4_judge 30 = .ok (.ifCond .lt 17, 3) := by decide +kernel
theorem dX4_judge_33 : decode cX4_judge 33 = .ok (.iload 4, 2) := by decide +kernel
theorem dX4_judge_35 : decode cX4_judge 35 = .ok (.ifCond .ne 14, 3) := by decide +kernel
theorem dX4_judge_38 : decode cX4_judge 38 = .ok (.aload_n 0, 1) := by decide +kernel
theorem dX4_judge_39 : decode cX4_judge 39 = .ok (.iload_n 3, 1) := by decide +kernel
theorem dX4_judge_40 : decode cX4_judge 40 = .ok (.iload_n 1, 1) := by decide +kernel
theorem dX4_judge_41 : decode cX4_judge 41 = .ok (.invokevirtual 62, 3) := by decide +kernel
theorem dX4_judge_44 : decode cX4_judge 44 = .ok (.ifCond .ne 5, 3) := by decide +kernel
theorem dX4_judge_47 : decode cX4_judge 47 = .ok (.iconst 0, 1) := by decide +kernel
theorem dX4_judge_48 : decode cX4_judge 48 = .ok (.ireturn, 1) := by decide +kernel
theorem dX4_judge_49 : decode cX4_judge 49 = .ok (.iload 4, 2) := by decide +kernel
theorem dX4_judge_51 : decode cX4_judge 51 = .ok (.ifCond .ne 8, 3) := by decide +kernel
theorem dX4_judge_54 : decode cX4_judge 54 = .ok (.iconst 1, 1) := by decide +kernel
theorem dX4_judge_55 : decode cX4_judge 55 = .ok (.istore_n 2, 1) := by decide +kernel
theorem dX4_judge_56 : decode cX4_judge 56 = .ok (.goto 26, 3) := by decide +kernel
theorem dX4_judge_59 : decode cX4_judge 59 = .ok (.aload_n 0, 1) := by decide +kernel
theorem dX4_judge_60 : decode cX4_judge 60 = .ok (.iload_n 3, 1) := by decide +kernel
theorem dX4_judge_61 : decode cX4_judge 61 = .ok (.iload_n 3, 1) := by decide +kernel
theorem dX4_judge_62 : decode cX4_judge 62 = .ok (.iconst 1, 1) := by decide +kernel
theorem dX4_judge_63 : decode cX4_judge 63 = .ok (.iadd, 1) := by decide +kernel
theorem dX4_judge_64 : decode cX4_judge 64 = .ok (.iload_n 1, 1) := by decide +kernel
theorem dX4_judge_65 : decode cX4_judge 65 = .ok (.iload_n 1, 1) := by decide +kernel
theorem dX4_judge_66 : decode cX4_judge 66 = .ok (.invokevirtual 50, 3) := by decide +kernel
theorem dX4_judge_69 : decode cX4_judge 69 = .ok (.aload_n 0, 1) := by decide +kernel
theorem dX4_judge_70 : decode cX4_judge 70 = .ok (.getfield 22, 3) := by decide +kernel
theorem dX4_judge_73 : decode cX4_judge 73 = .ok (.aload_n 0, 1) := by decide +kernel
theorem dX4_judge_74 : decode cX4_judge 74 = .ok (.iload_n 3, 1) := by decide +kernel
theorem dX4_judge_75 : decode cX4_judge 75 = .ok (.iload_n 3, 1) := by decide +kernel
theorem dX4_judge_76 : decode cX4_judge 76 = .ok (.invokevirtual 38, 3) := by decide +kernel
theorem dX4_judge_79 : decode cX4_judge 79 = .ok (.invokevirtual 54, 3) := by decide +kernel
theorem dX4_judge_82 : decode cX4_judge 82 = .ok (.iinc 3 1, 3) := by decide +kernel
theorem dX4_judge_85 : decode cX4_judge 85 = .ok (.goto (-73), 3) := by decide +kernel
theorem dX4_judge_88 : decode cX4_judge 88 = .ok (.iload_n 2, 1) := by decide +kernel
theorem dX4_judge_89 : decode cX4_judge 89 = .ok (.ireturn, 1) := by decide +kernel
theorem dX4_isZeroBehind_0 : decode cX4_isZeroBehind 0 = .ok (.iload_n 1, 1) := by decide +kernel
theorem dX4_isZeroBehind_1 : decode cX4_isZeroBehind 1 = .ok (.iconst 1, 1) := by decide +kernel
theorem dX4_isZeroBehind_2 : decode cX4_isZeroBehind 2 = .ok (.iadd, 1) := by decide +kernel
theorem dX4_isZeroBehind_3 : decode cX4_isZeroBehind 3 = .ok (.istore_n 3, 1) := by decide +kernel
theorem dX4_isZeroBehind_4 : decode cX4_isZeroBehind 4 = .ok (.iload_n 3, 1) := by decide +kernel
theorem dX4_isZeroBehind_5 : decode cX4_isZeroBehind 5 = .ok (.iload_n 2, 1) := by decide +kernel
theorem dX4_isZeroBehind_6 : decode cX4_isZeroBehind 6 = .ok (.if_icmp .ge 23, 3) := by decide +kernel
theorem dX4_isZeroBehind_9 : decode cX4_isZeroBehind 9 = .ok (.aload_n 0, 1) := by decide +kernel
theorem dX4_isZeroBehind_10 : decode cX4_isZeroBehind 10 = .ok (.iload_n 1, 1) := by decide +kernel
theorem dX4_isZeroBehind_11 : decode cX4_isZeroBehind 11 = .ok (.iload_n 3, 1) := by decide +kernel
theorem dX4_isZeroBehind_12 : decode cX4_isZeroBehind 12 = .ok (.invokevirtual 38, 3) := by decide +kernel
theorem dX4_isZeroBehind_15 : decode cX4_isZeroBehind 15 = .ok (.getfield 58, 3) := by decide +kernel
theorem dX4_isZeroBehind_18 : decode cX4_isZeroBehind 18 = .ok (.ifCond .eq 5, 3) := by decide +kernel
theorem dX4_isZeroBehind_21 : decode cX4_isZeroBehind 21 = .ok (.iconst 0, 1) := by decide +kernel
theorem dX4_isZeroBehind_22 : decode cX4_isZeroBehind 22 = .ok (.ireturn, 1) := by decide +kernel
theorem dX4_isZeroBehind_23 : decode cX4_isZeroBehind 23 = .ok (.iinc 3 1, 3) := by decide +kernel
theorem dX4_isZeroBehind_26 : decode cX4_isZeroBehind 26 = .ok (.goto (-22), 3) := by decide +kernel
theorem dX4_isZeroBehind_29 : decode cX4_isZeroBehind 29 = .ok (.iconst 1, 1) := by decide +kernel
theorem dX4_isZeroBehind_30 : decode cX4_isZeroBehind 30 = .ok (.ireturn, 1) := by decide +kernel
theorem dX4_bringPivot_0 : decode cX4_bringPivot 0 = .ok (.iconst (-1), 1) := by decide +kernel
theorem dX4_bringPivot_1 : decode cX4_bringPivot 1 = .ok (.istore_n 3, 1) := by decide +kernel
theorem dX4_bringPivot_2 : decode cX4_bringPivot 2 = .ok (.iload_n 1, 1) := by decide +kernel
theorem dX4_bringPivot_3 : decode cX4_bringPivot 3 = .ok (.istore 4, 2) := by decide +kernel
theorem dX4_bringPivot_5 : decode cX4_bringPivot 5 = .ok (.iload 4, 2) := by decide +kernel
theorem dX4_bringPivot_7 : decode cX4_bringPivot 7 = .ok (.iload_n 2, 1) := by decide +kernel
theorem dX4_bringPivot_8 : decode cX4_bringPivot 8 = .ok (.if_icmp .ge 30, 3) := by decide +kernel
theorem dX4_bringPivot_11 : decode cX4_bringPivot 11 = .ok (.iload_n 3, 1) := by decide +kernel
theorem dX4_bringPivot_12 : decode cX4_bringPivot 12 = .ok (.iconst (-1), 1) := by decide +kernel
theorem dX4_bringPivot_13 : decode cX4_bringPivot 13 = .ok (.if_icmp .ne 25, 3) := by decide +kernel
theorem dX4_bringPivot_16 : decode cX4_bringPivot 16 = .ok (.aload_n 0, 1) := by decide +kernel
theorem dX4_bringPivot_17 : decode cX4_bringPivot 17 = .ok (.iload 4, 2) := by decide +kernel
theorem dX4_bringPivot_19 : decode cX4_bringPivot 19 = .ok (.iload_n 1, 1) := by decide +kernel
theorem dX4_bringPivot_20 : decode cX4_bringPivot 20 = .ok (.invokevirtual 38, 3) := by decide +kernel
theorem dX4_bringPivot_23 : decode cX4_bringPivot 23 = .ok (.getfield 58, 3) := by decide +kernel
theorem dX4_bringPivot_26 : decode cX4_bringPivot 26 = .ok (.ifCond .eq 6, 3) := by decide +kernel
theorem dX4_bringPivot_29 : decode cX4_bringPivot 29 = .ok (.iload 4, 2) := by decide +kernel
theorem dX4_bringPivot_31 : decode cX4_bringPivot 31 = .ok (.istore_n 3, 1) := by decide +kernel
theorem dX4_bringPivot_32 : decode cX4_bringPivot 32 = .ok (.iinc 4 1, 3) := by decide +kernel
theorem dX4_bringPivot_35 : decode cX4_bringPivot 35 = .ok (.goto (-30), 3) := by decide +kernel
theorem dX4_bringPivot_38 : decode cX4_bringPivot 38 = .ok (.iload_n 3, 1) := by decide +kernel
theorem dX4_bringPivot_39 : decode cX4_bringPivot 39 = .ok (.iconst (-1), 1) := by decide +kernel
theorem dX4_bringPivot_40 : decode cX4_bringPivot 40 = .ok (.if_icmp .eq 9, 3) := by decide +kernel
theorem dX4_bringPivot_43 : decode cX4_bringPivot 43 = .ok (.iload_n 3, 1) := by decide +kernel
theorem dX4_bringPivot_44 : decode cX4_bringPivot 44 = .ok (.bipush 7, 2) := by decide +kernel
theorem dX4_bringPivot_46 : decode cX4_bringPivot 46 = .ok (.if_icmp .lt 5, 3) := by decide +kernel
theorem dX4_bringPivot_49 : decode cX4_bringPivot 49 = .ok (.iconst 0, 1) := by decide +kernel
theorem dX4_bringPivot_50 : decode cX4_bringPivot 50 = .ok (.ireturn, 1) := by decide +kernel
theorem dX4_bringPivot_51 : decode cX4_bringPivot 51 = .ok (.iconst 0, 1) := by decide +kernel
theorem dX4_bringPivot_52 : decode cX4_bringPivot 52 = .ok (.istore 4, 2) := by decide +kernel
theorem dX4_bringPivot_54 : decode cX4_bringPivot 54 = .ok (.iload 4, 2) := by decide +kernel
theorem dX4_bringPivot_56 : decode cX4_bringPivot 56 = .ok (.bipush 8, 2) := by decide +kernel
theorem dX4_bringPivot_58 : decode cX4_bringPivot 58 = .ok (.if_icmp .ge 61, 3) := by decide +kernel
theorem dX4_bringPivot_61 : decode cX4_bringPivot 61 = .ok (.aload_n 0, 1) := by decide +kernel
theorem dX4_bringPivot_62 : decode cX4_bringPivot 62 = .ok (.getfield 13, 3) := by decide +kernel
theorem dX4_bringPivot_65 : decode cX4_bringPivot 65 = .ok (.iload_n 1, 1) := by decide +kernel
theorem dX4_bringPivot_66 : decode cX4_bringPivot 66 = .ok (.bipush 8, 2) := by decide +kernel
theorem dX4_bringPivot_68 : decode cX4_bringPivot 68 = .ok (.imul, 1) := by decide +kernel
theorem dX4_bringPivot_69 : decode cX4_bringPivot 69 = .ok (.iload 4, 2) := by decide +kernel
theorem dX4_bringPivot_71 : decode cX4_bringPivot 71 = .ok (.iadd, 1) := by decide +kernel
theorem dX4_bringPivot_72 : decode cX4_bringPivot 72 = .ok (.aaload, 1) := by decide +kernel
theorem dX4_bringPivot_73 : decode cX4_bringPivot 73 = .ok (.astore 5, 2) := by decide +kernel
theorem dX4_bringPivot_75 : decode cX4_bringPivot 75 = .ok (.aload_n 0, 1) := by decide +kernel
theorem dX4_bringPivot_76 : decode cX4_bringPivot 76 = .ok (.getfield 13, 3) := by decide +kernel
theorem dX4_bringPivot_79 : decode cX4_bringPivot 79 = .ok (.iload_n 1, 1) := by decide +kernel
theorem dX4_bringPivot_80 : decode cX4_bringPivot 80 = .ok (.bipush 8, 2) := by decide +kernel
theorem dX4_bringPivot_82 : decode cX4_bringPivot 82 = .ok (.imul, 1) := by decide +kernel
theorem dX4_bringPivot_83 : decode cX4_bringPivot 83 = .ok (.iload 4, 2) := by decide +kernel
theorem dX4_bringPivot_85 : decode cX4_bringPivot 85 = .ok (.iadd, 1) := by decide +kernel
theorem dX4_bringPivot_86 : decode cX4_bringPivot 86 = .ok (.aload_n 0, 1) := by decide +kernel
theorem dX4_bringPivot_87 : decode cX4_bringPivot 87 = .ok (.getfield 13, 3) := by decide +kernel
theorem dX4_bringPivot_90 : decode cX4_bringPivot 90 = .ok (.iload_n 3, 1) := by decide +kernel
theorem dX4_bringPivot_91 : decode cX4_bringPivot 91 = .ok (.bipush 8, 2) := by decide +kernel
theorem dX4_bringPivot_93 : decode cX4_bringPivot 93 = .ok (.imul, 1) := by decide +kernel
theorem dX4_bringPivot_94 : decode cX4_bringPivot 94 = .ok (.iload 4, 2) := by decide +kernel
theorem dX4_bringPivot_96 : decode cX4_bringPivot 96 = .ok (.iadd, 1) := by decide +kernel
theorem dX4_bringPivot_97 : decode cX4_bringPivot 97 = .ok (.aaload, 1) := by decide +kernel
theorem dX4_bringPivot_98 : decode cX4_bringPivot 98 = .ok (.aastore, 1) := by decide +kernel
theorem dX4_bringPivot_99 : decode cX4_bringPivot 99 = .ok (.aload_n 0, 1) := by decide +kernel
theorem dX4_bringPivot_100 : decode cX4_bringPivot 100 = .ok (.getfield 13, 3) := by decide +kernel
theorem dX4_bringPivot_103 : decode cX4_bringPivot 103 = .ok (.iload_n 3, 1) := by decide +kernel
theorem dX4_bringPivot_104 : decode cX4_bringPivot 104 = .ok (.bipush 8, 2) := by decide +kernel
theorem dX4_bringPivot_106 : decode cX4_bringPivot 106 = .ok (.imul, 1) := by decide +kernel
theorem dX4_bringPivot_107 : decode cX4_bringPivot 107 = .ok (.iload 4, 2) := by decide +kernel
theorem dX4_bringPivot_109 : decode cX4_bringPivot 109 = .ok (.iadd, 1) := by decide +kernel
theorem dX4_bringPivot_110 : decode cX4_bringPivot 110 = .ok (.aload 5, 2) := by decide +kernel
theorem dX4_bringPivot_112 : decode cX4_bringPivot 112 = .ok (.aastore, 1) := by decide +kernel
theorem dX4_bringPivot_113 : decode cX4_bringPivot 113 = .ok (.iinc 4 1, 3) := by decide +kernel
theorem dX4_bringPivot_116 : decode cX4_bringPivot 116 = .ok (.goto (-62), 3) := by decide +kernel
theorem dX4_bringPivot_119 : decode cX4_bringPivot 119 = .ok (.iconst 1, 1) := by decide +kernel
theorem dX4_bringPivot_120 : decode cX4_bringPivot 120 = .ok (.ireturn, 1) := by decide +kernel
theorem dX4_clearColumn_0 : decode cX4_clearColumn 0 = .ok (.aload_n 0, 1) := by decide +kernel
theorem dX4_clearColumn_1 : decode cX4_clearColumn 1 = .ok (.iload_n 1, 1) := by decide +kernel
theorem dX4_clearColumn_2 : decode cX4_clearColumn 2 = .ok (.iload_n 1, 1) := by decide +kernel
theorem dX4_clearColumn_3 : decode cX4_clearColumn 3 = .ok (.invokevirtual 38, 3) := by decide +kernel
theorem dX4_clearColumn_6 : decode cX4_clearColumn 6 = .ok (.astore 5, 2) := by decide +kernel
theorem dX4_clearColumn_8 : decode cX4_clearColumn 8 = .ok (.aload_n 0, 1) := by decide +kernel
theorem dX4_clearColumn_9 : decode cX4_clearColumn 9 = .ok (.getfield 22, 3) := by decide +kernel
theorem dX4_clearColumn_12 : decode cX4_clearColumn 12 = .ok (.invokevirtual 65, 3) := by decide +kernel
theorem dX4_clearColumn_15 : decode cX4_clearColumn 15 = .ok (.lstore 6, 2) := by decide +kernel
theorem dX4_clearColumn_17 : decode cX4_clearColumn 17 = .ok (.iload_n 2, 1) := by decide +kernel
theorem dX4_clearColumn_18 : decode cX4_clearColumn 18 = .ok (.istore 8, 2) := by decide +kernel
theorem dX4_clearColumn_20 : decode cX4_clearColumn 20 = .ok (.iload 8, 2) := by decide +kernel
theorem dX4_clearColumn_22 : decode cX4_clearColumn 22 = .ok (.iload_n 3, 1) := by decide +kernel
theorem dX4_clearColumn_23 : decode cX4_clearColumn 23 = .ok (.if_icmp .ge 219, 3) := by decide +kernel
theorem dX4_clearColumn_26 : decode cX4_clearColumn 26 = .ok (.iload 8, 2) := by decide +kernel
theorem dX4_clearColumn_28 : decode cX4_clearColumn 28 = .ok (.iload_n 1, 1) := by decide +kernel
theorem dX4_clearColumn_29 : decode cX4_clearColumn 29 = .ok (.if_icmp .ne 6, 3) := by decide +kernel
theorem dX4_clearColumn_32 : decode cX4_clearColumn 32 = .ok (.goto 204, 3) := by decide +kernel
theorem dX4_clearColumn_35 : decode cX4_clearColumn 35 = .ok (.aload_n 0, 1) := by decide +kernel
theorem dX4_clearColumn_36 : decode cX4_clearColumn 36 = .ok (.iload 8, 2) := by decide +kernel
theorem dX4_clearColumn_38 : decode cX4_clearColumn 38 = .ok (.iload_n 1, 1) := by decide +kernel
theorem dX4_clearColumn_39 : decode cX4_clearColumn 39 = .ok (.invokevirtual 38, 3) := by decide +kernel
theorem dX4_clearColumn_42 : decode cX4_clearColumn 42 = .ok (.astore 9, 2) := by decide +kernel
theorem dX4_clearColumn_44 : decode cX4_clearColumn 44 = .ok (.lload 6, 2) := by decide +kernel
theorem dX4_clearColumn_46 : decode cX4_clearColumn 46 = .ok (.lconst 0, 1) := by decide +kernel
theorem dX4_clearColumn_47 : decode cX4_clearColumn 47 = .ok (.lcmp, 1) := by decide +kernel
theorem dX4_clearColumn_48 : decode cX4_clearColumn 48 = .ok (.ifCond .eq 36, 3) := by decide +kernel
theorem dX4_clearColumn_51 : decode cX4_clearColumn 51 = .ok (.aload_n 0, 1) := by decide +kernel
theorem dX4_clearColumn_52 : decode cX4_clearColumn 52 = .ok (.getfield 22, 3) := by decide +kernel
theorem dX4_clearColumn_55 : decode cX4_clearColumn 55 = .ok (.getfield 69, 3) := by decide +kernel
theorem dX4_clearColumn_58 : decode cX4_clearColumn 58 = .ok (.iconst 2, 1) := by decide +kernel
theorem dX4_clearColumn_59 : decode cX4_clearColumn 59 = .ok (.if_icmp .ge 25, 3) := by decide +kernel
theorem dX4_clearColumn_62 : decode cX4_clearColumn 62 = .ok (.aload 5, 2) := by decide +kernel
theorem dX4_clearColumn_64 : decode cX4_clearColumn 64 = .ok (.getfield 69, 3) := by decide +kernel
theorem dX4_clearColumn_67 : decode cX4_clearColumn 67 = .ok (.iconst 2, 1) := by decide +kernel
theorem dX4_clearColumn_68 : decode cX4_clearColumn 68 = .ok (.if_icmp .ge 16, 3) := by decide +kernel
theorem dX4_clearColumn_71 : decode cX4_clearColumn 71 = .ok (.aload 9, 2) := by decide +kernel
theorem dX4_clearColumn_73 : decode cX4_clearColumn 73 = .ok (.getfield 69, 3) := by decide +kernel
theorem dX4_clearColumn_76 : decode cX4_clearColumn 76 = .ok (.iconst 2, 1) := by decide +kernel
theorem dX4_clearColumn_77 : decode cX4_clearColumn 77 = .ok (.if_icmp .ge 7, 3) := by decide +kernel
theorem dX4_clearColumn_80 : decode cX4_clearColumn 80 = .ok (.iconst 1, 1) := by decide +kernel
theorem dX4_clearColumn_81 : decode cX4_clearColumn 81 = .ok (.goto 4, 3) := by decide +kernel
theorem dX4_clearColumn_84 : decode cX4_clearColumn 84 = .ok (.iconst 0, 1) := by decide +kernel
theorem dX4_clearColumn_85 : decode cX4_clearColumn 85 = .ok (.istore 10, 2) := by decide +kernel
theorem dX4_clearColumn_87 : decode cX4_clearColumn 87 = .ok (.iload_n 1, 1) := by decide +kernel
theorem dX4_clearColumn_88 : decode cX4_clearColumn 88 = .ok (.iconst 1, 1) := by decide +kernel
theorem dX4_clearColumn_89 : decode cX4_clearColumn 89 = .ok (.iadd, 1) := by decide +kernel
theorem dX4_clearColumn_90 : decode cX4_clearColumn 90 = .ok (.istore 11, 2) := by decide +kernel
theorem dX4_clearColumn_92 : decode cX4_clearColumn 92 = .ok (.iload 11, 2) := by decide +kernel
theorem dX4_clearColumn_94 : decode cX4_clearColumn 94 = .ok (.iload 4, 2) := by decide +kernel
theorem dX4_clearColumn_96 : decode cX4_clearColumn 96 = .ok (.if_icmp .ge 140, 3) := by decide +kernel
theorem dX4_clearColumn_99 : decode cX4_clearColumn 99 = .ok (.aload_n 0, 1) := by decide +kernel
theorem dX4_clearColumn_100 : decode cX4_clearColumn 100 = .ok (.iload 8, 2) := by decide +kernel
theorem dX4_clearColumn_102 : decode cX4_clearColumn 102 = .ok (.iload 11, 2) := by decide +kernel
theorem dX4_clearColumn_104 : decode cX4_clearColumn 104 = .ok (.invokevirtual 38, 3) := by decide +kernel
theorem dX4_clearColumn_107 : decode cX4_clearColumn 107 = .ok (.astore 12, 2) := by decide +kernel
theorem dX4_clearColumn_109 : decode cX4_clearColumn 109 = .ok (.aload_n 0, 1) := by decide +kernel
theorem dX4_clearColumn_110 : decode cX4_clearColumn 110 = .ok (.iload_n 1, 1) := by decide +kernel
theorem dX4_clearColumn_111 : decode cX4_clearColumn 111 = .ok (.iload 11, 2) := by decide +kernel
theorem dX4_clearColumn_113 : decode cX4_clearColumn 113 = .ok (.invokevirtual 38, 3) := by decide +kernel
theorem dX4_clearColumn_116 : decode cX4_clearColumn 116 = .ok (.astore 13, 2) := by decide +kernel
theorem dX4_clearColumn_118 : decode cX4_clearColumn 118 = .ok (.iload 10, 2) := by decide +kernel
theorem dX4_clearColumn_120 : decode cX4_clearColumn 120 = .ok (.ifCond .eq 59, 3) := by decide +kernel
theorem dX4_clearColumn_123 : decode cX4_clearColumn 123 = .ok (.aload 12, 2) := by decide +kernel
theorem dX4_clearColumn_125 : decode cX4_clearColumn 125 = .ok (.getfield 69, 3) := by decide +kernel
theorem dX4_clearColumn_128 : decode cX4_clearColumn 128 = .ok (.iconst 2, 1) := by decide +kernel
theorem dX4_clearColumn_129 : decode cX4_clearColumn 129 = .ok (.if_icmp .ge 50, 3) := by decide +kernel
theorem dX4_clearColumn_132 : decode cX4_clearColumn 132 = .ok (.aload 13, 2) := by decide +kernel
theorem dX4_clearColumn_134 : decode cX4_clearColumn 134 = .ok (.getfield 69, 3) := by decide +kernel
theorem dX4_clearColumn_137 : decode cX4_clearColumn 137 = .ok (.iconst 2, 1) := by decide +kernel
theorem dX4_clearColumn_138 : decode cX4_clearColumn 138 = .ok (.if_icmp .ge 41, 3) := by decide +kernel
theorem dX4_clearColumn_141 : decode cX4_clearColumn 141 = .ok (.aload 5, 2) := by decide +kernel
theorem dX4_clearColumn_143 : decode cX4_clearColumn 143 = .ok (.invokevirtual 65, 3) := by decide +kernel
theorem dX4_clearColumn_146 : decode cX4_clearColumn 146 = .ok (.aload 12, 2) := by decide +kernel
theorem dX4_clearColumn_148 : decode cX4_clearColumn 148 = .ok (.invokevirtual 65, 3) := by decide +kernel
theorem dX4_clearColumn_151 : decode cX4_clearColumn 151 = .ok (.lmul, 1) := by decide +kernel
theorem dX4_clearColumn_152 : decode cX4_clearColumn 152 = .ok (.aload 9, 2) := by decide +kernel
theorem dX4_clearColumn_154 : decode cX4_clearColumn 154 = .ok (.invokevirtual 65, 3) := by decide +kernel
theorem dX4_clearColumn_157 : decode cX4_clearColumn 157 = .ok (.aload 13, 2) := by decide +kernel
theorem dX4_clearColumn_159 : decode cX4_clearColumn 159 = .ok (.invokevirtual 65, 3) := by decide +kernel
theorem dX4_clearColumn_162 : decode cX4_clearColumn 162 = .ok (.lmul, 1) := by decide +kernel
theorem dX4_clearColumn_163 : decode cX4_clearColumn 163 = .ok (.lsub, 1) := by decide +kernel
theorem dX4_clearColumn_164 : decode cX4_clearColumn 164 = .ok (.lstore 14, 2) := by decide +kernel
theorem dX4_clearColumn_166 : decode cX4_clearColumn 166 = .ok (.aload 12, 2) := by decide +kernel
theorem dX4_clearColumn_168 : decode cX4_clearColumn 168 = .ok (.lload 14, 2) := by decide +kernel
theorem dX4_clearColumn_170 : decode cX4_clearColumn 170 = .ok (.lload 6, 2) := by decide +kernel
theorem dX4_clearColumn_172 : decode cX4_clearColumn 172 = .ok (.ldiv, 1) := by decide +kernel
theorem dX4_clearColumn_173 : decode cX4_clearColumn 173 = .ok (.invokevirtual 42, 3) := by decide +kernel
theorem dX4_clearColumn_176 : decode cX4_clearColumn 176 = .ok (.goto 54, 3) := by decide +kernel
theorem dX4_clearColumn_179 : decode cX4_clearColumn 179 = .ok (.aload_n 0, 1) := by decide +kernel
theorem dX4_clearColumn_180 : decode cX4_clearColumn 180 = .ok (.getfield 25, 3) := by decide +kernel
theorem dX4_clearColumn_183 : decode cX4_clearColumn 183 = .ok (.aload 5, 2) := by decide +kernel
theorem dX4_clearColumn_185 : decode cX4_clearColumn 185 = .ok (.aload 12, 2) := by decide +kernel
theorem dX4_clearColumn_187 : decode cX4_clearColumn 187 = .ok (.invokevirtual 72, 3) := by decide +kernel
theorem dX4_clearColumn_190 : decode cX4_clearColumn 190 = .ok (.aload_n 0, 1) := by decide +kernel
theorem dX4_clearColumn_191 : decode cX4_clearColumn 191 = .ok (.getfield 28, 3) := by decide +kernel
theorem dX4_clearColumn_194 : decode cX4_clearColumn 194 = .ok (.aload 9, 2) := by decide +kernel
theorem dX4_clearColumn_196 : decode cX4_clearColumn 196 = .ok (.aload 13, 2) := by decide +kernel
theorem dX4_clearColumn_198 : decode cX4_clearColumn 198 = .ok (.invokevirtual 72, 3) := by decide +kernel
theorem dX4_clearColumn_201 : decode cX4_clearColumn 201 = .ok (.aload_n 0, 1) := by decide +kernel
theorem dX4_clearColumn_202 : decode cX4_clearColumn 202 = .ok (.getfield 25, 3) := by decide +kernel
theorem dX4_clearColumn_205 : decode cX4_clearColumn 205 = .ok (.aload_n 0, 1) := by decide +kernel
theorem dX4_clearColumn_206 : decode cX4_clearColumn 206 = .ok (.getfield 28, 3) := by decide +kernel
theorem dX4_clearColumn_209 : decode cX4_clearColumn 209 = .ok (.iconst (-1), 1) := by decide +kernel
theorem dX4_clearColumn_210 : decode cX4_clearColumn 210 = .ok (.invokevirtual 76, 3) := by decide +kernel
theorem dX4_clearColumn_213 : decode cX4_clearColumn 213 = .ok (.aload_n 0, 1) := by decide +kernel
theorem dX4_clearColumn_214 : decode cX4_clearColumn 214 = .ok (.getfield 34, 3) := by decide +kernel
theorem dX4_clearColumn_217 : decode cX4_clearColumn 217 = .ok (.aload_n 0, 1) := by decide +kernel
theorem dX4_clearColumn_218 : decode cX4_clearColumn 218 = .ok (.getfield 25, 3) := by decide +kernel
theorem dX4_clearColumn_221 : decode cX4_clearColumn 221 = .ok (.aload_n 0, 1) := by decide +kernel
theorem dX4_clearColumn_222 : decode cX4_clearColumn 222 = .ok (.getfield 22, 3) := by decide +kernel
theorem dX4_clearColumn_225 : decode cX4_clearColumn 225 = .ok (.aload 12, 2) := by decide +kernel
theorem dX4_clearColumn_227 : decode cX4_clearColumn 227 = .ok (.invokevirtual 80, 3) := by decide +kernel
theorem dX4_clearColumn_230 : decode cX4_clearColumn 230 = .ok (.iinc 11 1, 3) := by decide +kernel
theorem dX4_clearColumn_233 : decode cX4_clearColumn 233 = .ok (.goto (-141), 3) := by decide +kernel
theorem dX4_clearColumn_236 : decode cX4_clearColumn 236 = .ok (.iinc 8 1, 3) := by decide +kernel
theorem dX4_clearColumn_239 : decode cX4_clearColumn 239 = .ok (.goto (-219), 3) := by decide +kernel
theorem dX4_clearColumn_242 : decode cX4_clearColumn 242 = .ok (.return_, 1) := by decide +kernel
theorem dX5_init_0 : decode cX5_init 0 = .ok (.aload_n 0, 1) := by decide +kernel
theorem dX5_init_1 : decode cX5_init 1 = .ok (.invokespecial 3, 3) := by decide +kernel
theorem dX5_init_4 : decode cX5_init 4 = .ok (.aload_n 0, 1) := by decide +kernel
theorem dX5_init_5 : decode cX5_init 5 = .ok (.sipush 486, 3) := by decide +kernel
theorem dX5_init_8 : decode cX5_init 8 = .ok (.newarray .int, 2) := by decide +kernel
theorem dX5_init_10 : decode cX5_init 10 = .ok (.putfield 11, 3) := by decide +kernel
theorem dX5_init_13 : decode cX5_init 13 = .ok (.return_, 1) := by decide +kernel
theorem dX5_has_0 : decode cX5_has 0 = .ok (.iload_n 1, 1) := by decide +kernel
theorem dX5_has_1 : decode cX5_has 1 = .ok (.ifCond .lt 15, 3) := by decide +kernel
theorem dX5_has_4 : decode cX5_has 4 = .ok (.iload_n 1, 1) := by decide +kernel
theorem dX5_has_5 : decode cX5_has 5 = .ok (.aload_n 0, 1) := by decide +kernel
theorem dX5_has_6 : decode cX5_has 6 = .ok (.getfield 15, 3) := by decide +kernel
theorem dX5_has_9 : decode cX5_has 9 = .ok (.if_icmp .ge 7, 3) := by decide +kernel
theorem dX5_has_12 : decode cX5_has 12 = .ok (.iconst 1, 1) := by decide +kernel
theorem dX5_has_13 : decode cX5_has 13 = .ok (.goto 4, 3) := by decide +kernel
theorem dX5_has_16 : decode cX5_has 16 = .ok (.iconst 0, 1) := by decide +kernel
theorem dX5_has_17 : decode cX5_has 17 = .ok (.ireturn, 1) := by decide +kernel
theorem dX5_isFull_0 : decode cX5_isFull 0 = .ok (.aload_n 0, 1) := by decide +kernel
theorem dX5_isFull_1 : decode cX5_isFull 1 = .ok (.getfield 15, 3) := by decide +kernel
theorem dX5_isFull_4 : decode cX5_isFull 4 = .ok (.bipush 6, 2) := by decide +kernel
theorem dX5_isFull_6 : decode cX5_isFull 6 = .ok (.if_icmp .lt 7, 3) := by decide +kernel
theorem dX5_isFull_9 : decode cX5_isFull 9 = .ok (.iconst 1, 1) := by decide +kernel
theorem dX5_isFull_10 : decode cX5_isFull 10 = .ok (.goto 4, 3) := by decide +kernel
theorem dX5_isFull_13 : decode cX5_isFull 13 = .ok (.iconst 0, 1) := by decide +kernel
theorem dX5_isFull_14 : decode cX5_isFull 14 = .ok (.ireturn, 1) := by decide +kernel
theorem dX5_tell_0 : decode cX5_tell 0 = .ok (.aload_n 0, 1) := by decide +kernel
theorem dX5_tell_1 : decode cX5_tell 1 = .ok (.iload_n 1, 1) := by decide +kernel
theorem dX5_tell_2 : decode cX5_tell 2 = .ok (.invokevirtual 19, 3) := by decide +kernel
theorem dX5_tell_5 : decode cX5_tell 5 = .ok (.ifCond .eq 27, 3) := by decide +kernel
theorem dX5_tell_8 : decode cX5_tell 8 = .ok (.iload_n 2, 1) := by decide +kernel
theorem dX5_tell_9 : decode cX5_tell 9 = .ok (.ifCond .le 23, 3) := by decide +kernel
theorem dX5_tell_12 : decode cX5_tell 12 = .ok (.iload_n 2, 1) := by decide +kernel
theorem dX5_tell_13 : decode cX5_tell 13 = .ok (.bipush 80, 2) := by decide +kernel
theorem dX5_tell_15 : decode cX5_tell 15 = .ok (.if_icmp .gt 17, 3) := by decide +kernel
theorem dX5_tell_18 : decode cX5_tell 18 = .ok (.aload_n 0, 1) := by decide +kernel
theorem dX5_tell_19 : decode cX5_tell 19 = .ok (.getfield 11, 3) := by decide +kernel
theorem dX5_tell_22 : decode cX5_tell 22 = .ok (.iload_n 1, 1) := by decide +kernel
theorem dX5_tell_23 : decode cX5_tell 23 = .ok (.bipush 81, 2) := by decide +kernel
theorem dX5_tell_25 : decode cX5_tell 25 = .ok (.imul, 1) := by decide +kernel
theorem dX5_tell_26 : decode cX5_tell 26 = .ok (.iload_n 2, 1) := by decide +kernel
theorem dX5_tell_27 : decode cX5_tell 27 = .ok (.iadd, 1) := by decide +kernel
theorem dX5_tell_28 : decode cX5_tell 28 = .ok (.iaload, 1) := by decide +kernel
theorem dX5_tell_29 : decode cX5_tell 29 = .ok (.goto 4, 3) := by decide +kernel
theorem dX5_tell_32 : decode cX5_tell 32 = .ok (.iconst 0, 1) := by decide +kernel
theorem dX5_tell_33 : decode cX5_tell 33 = .ok (.ireturn, 1) := by decide +kernel
theorem dX5_draft_0 : decode cX5_draft 0 = .ok (.aload_n 0, 1) := by decide +kernel
theorem dX5_draft_1 : decode cX5_draft 1 = .ok (.invokevirtual 23, 3) := by decide +kernel
theorem dX5_draft_4 : decode cX5_draft 4 = .ok (.ifCond .ne 28, 3) := by decide +kernel
theorem dX5_draft_7 : decode cX5_draft 7 = .ok (.iload_n 1, 1) := by decide +kernel
theorem dX5_draft_8 : decode cX5_draft 8 = .ok (.ifCond .le 24, 3) := by decide +kernel
theorem dX5_draft_11 : decode cX5_draft 11 = .ok (.iload_n 1, 1) := by decide +kernel
theorem dX5_draft_12 : decode cX5_draft 12 = .ok (.bipush 80, 2) := by decide +kernel
theorem dX5_draft_14 : decode cX5_draft 14 = .ok (.if_icmp .gt 18, 3) := by decide +kernel
theorem dX5_draft_17 : decode cX5_draft 17 = .ok (.aload_n 0, 1) := by decide +kernel
theorem dX5_draft_18 : decode cX5_draft 18 = .ok (.getfield 11, 3) := by decide +kernel
theorem dX5_draft_21 : decode cX5_draft 21 = .ok (.aload_n 0, 1) := by decide +kernel
theorem dX5_draft_22 : decode cX5_draft 22 = .ok (.getfield 15, 3) := by decide +kernel
theorem dX5_draft_25 : decode cX5_draft 25 = .ok (.bipush 81, 2) := by decide +kernel
theorem dX5_draft_27 : decode cX5_draft 27 = .ok (.imul, 1) := by decide +kernel
theorem dX5_draft_28 : decode cX5_draft 28 = .ok (.iload_n 1, 1) := by decide +kernel
theorem dX5_draft_29 : decode cX5_draft 29 = .ok (.iadd, 1) := by decide +kernel
theorem dX5_draft_30 : decode cX5_draft 30 = .ok (.iload_n 2, 1) := by decide +kernel
theorem dX5_draft_31 : decode cX5_draft 31 = .ok (.iastore, 1) := by decide +kernel
theorem dX5_draft_32 : decode cX5_draft 32 = .ok (.return_, 1) := by decide +kernel
theorem dX5_draftSlope_0 : decode cX5_draftSlope 0 = .ok (.iconst 1, 1) := by decide +kernel
theorem dX5_draftSlope_1 : decode cX5_draftSlope 1 = .ok (.istore_n 3, 1) := by decide +kernel
theorem dX5_draftSlope_2 : decode cX5_draftSlope 2 = .ok (.iload_n 3, 1) := by decide +kernel
theorem dX5_draftSlope_3 : decode cX5_draftSlope 3 = .ok (.bipush 80, 2) := by decide +kernel
theorem dX5_draftSlope_5 : decode cX5_draftSlope 5 = .ok (.if_icmp .gt 21, 3) := by decide +kernel
theorem dX5_draftSlope_8 : decode cX5_draftSlope 8 = .ok (.aload_n 0, 1) := by decide +kernel
theorem dX5_draftSlope_9 : decode cX5_draftSlope 9 = .ok (.iload_n 3, 1) := by decide +kernel
theorem dX5_draftSlope_10 : decode cX5_draftSlope 10 = .ok (.iload_n 1, 1) := by decide +kernel
theorem dX5_draftSlope_11 : decode cX5_draftSlope 11 = .ok (.iload_n 3, 1) := by decide +kernel
theorem dX5_draftSlope_12 : decode cX5_draftSlope 12 = .ok (.imul, 1) := by decide +kernel
theorem dX5_draftSlope_13 : decode cX5_draftSlope 13 = .ok (.iload_n 2, 1) := by decide +kernel
theorem dX5_draftSlope_14 : decode cX5_draftSlope 14 = .ok (.invokestatic 27, 3) := by decide +kernel
theorem dX5_draftSlope_17 : decode cX5_draftSlope 17 = .ok (.invokevirtual 33, 3) := by decide +kernel
theorem dX5_draftSlope_20 : decode cX5_draftSlope 20 = .ok (.iinc 3 1, 3) := by decide +kernel
theorem dX5_draftSlope_23 : decode cX5_draftSlope 23 = .ok (.goto (-21), 3) := by decide +kernel
theorem dX5_draftSlope_26 : decode cX5_draftSlope 26 = .ok (.return_, 1) := by decide +kernel
theorem dX5_draftBoth_0 : decode cX5_draftBoth 0 = .ok (.iconst 1, 1) := by decide +kernel
theorem dX5_draftBoth_1 : decode cX5_draftBoth 1 = .ok (.istore_n 3, 1) := by decide +kernel
theorem dX5_draftBoth_2 : decode cX5_draftBoth 2 = .ok (.iload_n 3, 1) := by decide +kernel
theorem dX5_draftBoth_3 : decode cX5_draftBoth 3 = .ok (.bipush 80, 2) := by decide +kernel
theorem dX5_draftBoth_5 : decode cX5_draftBoth 5 = .ok (.if_icmp .gt 41, 3) := by decide +kernel
theorem dX5_draftBoth_8 : decode cX5_draftBoth 8 = .ok (.aload_n 0, 1) := by decide +kernel
theorem dX5_draftBoth_9 : decode cX5_draftBoth 9 = .ok (.iload_n 1, 1) := by decide +kernel
theorem dX5_draftBoth_10 : decode cX5_draftBoth 10 = .ok (.iload_n 3, 1) := by decide +kernel
theorem dX5_draftBoth_11 : decode cX5_draftBoth 11 = .ok (.invokevirtual 37, 3) := by decide +kernel
theorem dX5_draftBoth_14 : decode cX5_draftBoth 14 = .ok (.aload_n 0, 1) := by decide +kernel
theorem dX5_draftBoth_15 : decode cX5_draftBoth 15 = .ok (.iload_n 2, 1) := by decide +kernel
theorem dX5_draftBoth_16 : decode cX5_draftBoth 16 = .ok (.iload_n 3, 1) := by decide +kernel
theorem dX5_draftBoth_17 : decode cX5_draftBoth 17 = .ok (.invokevirtual 37, 3) := by decide +kernel
theorem dX5_draftBoth_20 : decode cX5_draftBoth 20 = .ok (.iadd, 1) := by decide +kernel
theorem dX5_draftBoth_21 : decode cX5_draftBoth 21 = .ok (.istore 4, 2) := by decide +kernel
theorem dX5_draftBoth_23 : decode cX5_draftBoth 23 = .ok (.iload 4, 2) := by decide +kernel
theorem dX5_draftBoth_25 : decode cX5_draftBoth 25 = .ok (.sipush 16000, 3) := by decide +kernel
theorem dX5_draftBoth_28 : decode cX5_draftBoth 28 = .ok (.if_icmp .le 5, 3) := by decide +kernel
theorem dX5_draftBoth_31 : decode cX5_draftBoth 31 = .ok (.iconst 0, 1) := by decide +kernel
theorem dX5_draftBoth_32 : decode cX5_draftBoth 32 = .ok (.ireturn, 1) := by decide +kernel
theorem dX5_draftBoth_33 : decode cX5_draftBoth 33 = .ok (.aload_n 0, 1) := by decide +kernel
theorem dX5_draftBoth_34 : decode cX5_draftBoth 34 = .ok (.iload_n 3, 1) := by decide +kernel
theorem dX5_draftBoth_35 : decode cX5_draftBoth 35 = .ok (.iload 4, 2) := by decide +kernel
theorem dX5_draftBoth_37 : decode cX5_draftBoth 37 = .ok (.invokevirtual 33, 3) := by decide +kernel
theorem dX5_draftBoth_40 : decode cX5_draftBoth 40 = .ok (.iinc 3 1, 3) := by decide +kernel
theorem dX5_draftBoth_43 : decode cX5_draftBoth 43 = .ok (.goto (-41), 3) := by decide +kernel
theorem dX5_draftBoth_46 : decode cX5_draftBoth 46 = .ok (.iconst 1, 1) := by decide +kernel
theorem dX5_draftBoth_47 : decode cX5_draftBoth 47 = .ok (.ireturn, 1) := by decide +kernel
theorem dX5_keepDraft_0 : decode cX5_keepDraft 0 = .ok (.aload_n 0, 1) := by decide +kernel
theorem dX5_keepDraft_1 : decode cX5_keepDraft 1 = .ok (.invokevirtual 23, 3) := by decide +kernel
theorem dX5_keepDraft_4 : decode cX5_keepDraft 4 = .ok (.ifCond .eq 6, 3) := by decide +kernel
theorem dX5_keepDraft_7 : decode cX5_keepDraft 7 = .ok (.bipush (-8), 2) := by decide +kernel
theorem dX5_keepDraft_9 : decode cX5_keepDraft 9 = .ok (.ireturn, 1) := by decide +kernel
theorem dX5_keepDraft_10 : decode cX5_keepDraft 10 = .ok (.aload_n 0, 1) := by decide +kernel
theorem dX5_keepDraft_11 : decode cX5_keepDraft 11 = .ok (.dup, 1) := by decide +kernel
theorem dX5_keepDraft_12 : decode cX5_keepDraft 12 = .ok (.getfield 15, 3) := by decide +kernel
theorem dX5_keepDraft_15 : decode cX5_keepDraft 15 = .ok (.iconst 1, 1) := by decide +kernel
theorem dX5_keepDraft_16 : decode cX5_keepDraft 16 = .ok (.iadd, 1) := by decide +kernel
theorem dX5_keepDraft_17 : decode cX5_keepDraft 17 = .ok (.putfield 15, 3) := by decide +kernel
theorem dX5_keepDraft_20 : decode cX5_keepDraft 20 = .ok (.aload_n 0, 1) := by decide +kernel
theorem dX5_keepDraft_21 : decode cX5_keepDraft 21 = .ok (.getfield 15, 3) := by decide +kernel
theorem dX5_keepDraft_24 : decode cX5_keepDraft 24 = .ok (.iconst 1, 1) := by decide +kernel
theorem dX5_keepDraft_25 : decode cX5_keepDraft 25 = .ok (.isub, 1) := by decide +kernel
theorem dX5_keepDraft_26 : decode cX5_keepDraft 26 = .ok (.ireturn, 1) := by decide +kernel
theorem dX6_init_0 : decode cX6_init 0 = .ok (.aload_n 0, 1) := by decide +kernel
theorem dX6_init_1 : decode cX6_init 1 = .ok (.invokespecial 1, 3) := by decide +kernel
theorem dX6_init_4 : decode cX6_init 4 = .ok (.iconst 0, 1) := by decide +kernel
theorem dX6_init_5 : decode cX6_init 5 = .ok (.iload_n 1, 1) := by decide +kernel
theorem dX6_init_6 : decode cX6_init 6 = .ok (.invokestatic 7, 3) := by decide +kernel
theorem dX6_init_9 : decode cX6_init 9 = .ok (.istore_n 2, 1) := by decide +kernel
theorem dX6_init_10 : decode cX6_init 10 = .ok (.aload_n 0, 1) := by decide +kernel
theorem dX6_init_11 : decode cX6_init 11 = .ok (.iload_n 2, 1) := by decide +kernel
theorem dX6_init_12 : decode cX6_init 12 = .ok (.newarray .int, 2) := by decide +kernel
theorem dX6_init_14 : decode cX6_init 14 = .ok (.putfield 13, 3) := by decide +kernel
theorem dX6_init_17 : decode cX6_init 17 = .ok (.aload_n 0, 1) := by decide +kernel
theorem dX6_init_18 : decode cX6_init 18 = .ok (.iload_n 2, 1) := by decide +kernel
theorem dX6_init_19 : decode cX6_init 19 = .ok (.newarray .int, 2) := by decide +kernel
theorem dX6_init_21 : decode cX6_init 21 = .ok (.putfield 19, 3) := by decide +kernel
theorem dX6_init_24 : decode cX6_init 24 = .ok (.return_, 1) := by decide +kernel
theorem dX6_clear_0 : decode cX6_clear 0 = .ok (.aload_n 0, 1) := by decide +kernel
theorem dX6_clear_1 : decode cX6_clear 1 = .ok (.iconst 0, 1) := by decide +kernel
theorem dX6_clear_2 : decode cX6_clear 2 = .ok (.putfield 22, 3) := by decide +kernel
theorem dX6_clear_5 : decode cX6_clear 5 = .ok (.return_, 1) := by decide +kernel
theorem dX6_has_0 : decode cX6_has 0 = .ok (.iload_n 1, 1) := by decide +kernel
theorem dX6_has_1 : decode cX6_has 1 = .ok (.ifCond .lt 15, 3) := by decide +kernel
theorem dX6_has_4 : decode cX6_has 4 = .ok (.iload_n 1, 1) := by decide +kernel
theorem dX6_has_5 : decode cX6_has 5 = .ok (.aload_n 0, 1) := by decide +kernel
theorem dX6_has_6 : decode cX6_has 6 = .ok (.getfield 22, 3) := by decide +kernel
theorem dX6_has_9 : decode cX6_has 9 = .ok (.if_icmp .ge 7, 3) := by decide +kernel
theorem dX6_has_12 : decode cX6_has 12 = .ok (.iconst 1, 1) := by decide +kernel
theorem dX6_has_13 : decode cX6_has 13 = .ok (.goto 4, 3) := by decide +kernel
theorem dX6_has_16 : decode cX6_has 16 = .ok (.iconst 0, 1) := by decide +kernel
theorem dX6_has_17 : decode cX6_has 17 = .ok (.ireturn, 1) := by decide +kernel
theorem dX6_holds_0 : decode cX6_holds 0 = .ok (.iconst 0, 1) := by decide +kernel
theorem dX6_holds_1 : decode cX6_holds 1 = .ok (.istore_n 3, 1) := by decide +kernel
theorem dX6_holds_2 : decode cX6_holds 2 = .ok (.iload_n 3, 1) := by decide +kernel
theorem dX6_holds_3 : decode cX6_holds 3 = .ok (.aload_n 0, 1) := by decide +kernel
theorem dX6_holds_4 : decode cX6_holds 4 = .ok (.getfield 22, 3) := by decide +kernel
theorem dX6_holds_7 : decode cX6_holds 7 = .ok (.if_icmp .ge 31, 3) := by decide +kernel
theorem dX6_holds_10 : decode cX6_holds 10 = .ok (.aload_n 0, 1) := by decide +kernel
theorem dX6_holds_11 : decode cX6_holds 11 = .ok (.getfield 13, 3) := by decide +kernel
theorem dX6_holds_14 : decode cX6_holds 14 = .ok (.iload_n 3, 1) := by decide +kernel
theorem dX6_holds_15 : decode cX6_holds 15 = .ok (.iaload, 1) := by decide +kernel
theorem dX6_holds_16 : decode cX6_holds 16 = .ok (.iload_n 1, 1) := by decide +kernel
theorem dX6_holds_17 : decode cX6_holds 17 = .ok (.if_icmp .ne 15, 3) := by decide +kernel
theorem dX6_holds_20 : decode cX6_holds 20 = .ok (.aload_n 0, 1) := by decide +kernel
theorem dX6_holds_21 : decode cX6_holds 21 = .ok (.getfield 19, 3) := by decide +kernel
theorem dX6_holds_24 : decode cX6_holds 24 = .ok (.iload_n 3, 1) := by decide +kernel
theorem dX6_holds_25 : decode cX6_holds 25 = .ok (.iaload, 1) := by decide +kernel
theorem dX6_holds_26 : decode cX6_holds 26 = .ok (.iload_n 2, 1) := by decide +kernel
theorem dX6_holds_27 : decode cX6_holds 27 = .ok (.if_icmp .ne 5, 3) := by decide +kernel
theorem dX6_holds_30 : decode cX6_holds 30 = .ok (.iconst 1, 1) := by decide +kernel
theorem dX6_holds_31 : decode cX6_holds 31 = .ok (.ireturn, 1) := by decide +kernel
theorem dX6_holds_32 : decode cX6_holds 32 = .ok (.iinc 3 1, 3) := by decide +kernel
theorem dX6_holds_35 : decode cX6_holds 35 = .ok (.goto (-33), 3) := by decide +kernel
theorem dX6_holds_38 : decode cX6_holds 38 = .ok (.iconst 0, 1) := by decide +kernel
theorem dX6_holds_39 : decode cX6_holds 39 = .ok (.ireturn, 1) := by decide +kernel
theorem dX6_add_0 : decode cX6_add 0 = .ok (.aload_n 0, 1) := by decide +kernel
theorem dX6_add_1 : decode cX6_add 1 = .ok (.getfield 22, 3) := by decide +kernel
theorem dX6_add_4 : decode cX6_add 4 = .ok (.aload_n 0, 1) := by decide +kernel
theorem dX6_add_5 : decode cX6_add 5 = .ok (.getfield 13, 3) := by decide +kernel
theorem dX6_add_8 : decode cX6_add 8 = .ok (.arraylength, 1) := by decide +kernel
theorem dX6_add_9 : decode cX6_add 9 = .ok (.if_icmp .ge 33, 3) := by decide +kernel
theorem dX6_add_12 : decode cX6_add 12 = .ok (.aload_n 0, 1) := by decide +kernel
theorem dX6_add_13 : decode cX6_add 13 = .ok (.getfield 13, 3) := by decide +kernel
theorem dX6_add_16 : decode cX6_add 16 = .ok (.aload_n 0, 1) := by decide +kernel
theorem dX6_add_17 : decode cX6_add 17 = .ok (.getfield 22, 3) := by decide +kernel
theorem dX6_add_20 : decode cX6_add 20 = .ok (.iload_n 1, 1) := by decide +kernel
theorem dX6_add_21 : decode cX6_add 21 = .ok (.iastore, 1) := by decide +kernel
theorem dX6_add_22 : decode cX6_add 22 = .ok (.aload_n 0, 1) := by decide +kernel
theorem dX6_add_23 : decode cX6_add 23 = .ok (.getfield 19, 3) := by decide +kernel
theorem dX6_add_26 : decode cX6_add 26 = .ok (.aload_n 0, 1) := by decide +kernel
theorem dX6_add_27 : decode cX6_add 27 = .ok (.getfield 22, 3) := by decide +kernel
theorem dX6_add_30 : decode cX6_add 30 = .ok (.iload_n 2, 1) := by decide +kernel
theorem dX6_add_31 : decode cX6_add 31 = .ok (.iastore, 1) := by decide +kernel
theorem dX6_add_32 : decode cX6_add 32 = .ok (.aload_n 0, 1) := by decide +kernel
theorem dX6_add_33 : decode cX6_add 33 = .ok (.dup, 1) := by decide +kernel
theorem dX6_add_34 : decode cX6_add 34 = .ok (.getfield 22, 3) := by decide +kernel
theorem dX6_add_37 : decode cX6_add 37 = .ok (.iconst 1, 1) := by decide +kernel
theorem dX6_add_38 : decode cX6_add 38 = .ok (.iadd, 1) := by decide +kernel
theorem dX6_add_39 : decode cX6_add 39 = .ok (.putfield 22, 3) := by decide +kernel
theorem dX6_add_42 : decode cX6_add 42 = .ok (.return_, 1) := by decide +kernel
theorem dX6_remove_0 : decode cX6_remove 0 = .ok (.aload_n 0, 1) := by decide +kernel
theorem dX6_remove_1 : decode cX6_remove 1 = .ok (.iload_n 1, 1) := by decide +kernel
theorem dX6_remove_2 : decode cX6_remove 2 = .ok (.invokevirtual 26, 3) := by decide +kernel
theorem dX6_remove_5 : decode cX6_remove 5 = .ok (.ifCond .ne 4, 3) := by decide +kernel
theorem dX6_remove_8 : decode cX6_remove 8 = .ok (.return_, 1) := by decide +kernel
theorem dX6_remove_9 : decode cX6_remove 9 = .ok (.iload_n 1, 1) := by decide +kernel
theorem dX6_remove_10 : decode cX6_remove 10 = .ok (.iconst 1, 1) := by decide +kernel
theorem dX6_remove_11 : decode cX6_remove 11 = .ok (.iadd, 1) := by decide +kernel
theorem dX6_remove_12 : decode cX6_remove 12 = .ok (.istore_n 2, 1) := by decide +kernel
theorem dX6_remove_13 : decode cX6_remove 13 = .ok (.iload_n 2, 1) := by decide +kernel
theorem dX6_remove_14 : decode cX6_remove 14 = .ok (.aload_n 0, 1) := by decide +kernel
theorem dX6_remove_15 : decode cX6_remove 15 = .ok (.getfield 22, 3) := by decide +kernel
theorem dX6_remove_18 : decode cX6_remove 18 = .ok (.if_icmp .ge 37, 3) := by decide +kernel
theorem dX6_remove_21 : decode cX6_remove 21 = .ok (.aload_n 0, 1) := by decide +kernel
theorem dX6_remove_22 : decode cX6_remove 22 = .ok (.getfield 13, 3) := by decide +kernel
theorem dX6_remove_25 : decode cX6_remove 25 = .ok (.iload_n 2, 1) := by decide +kernel
theorem dX6_remove_26 : decode cX6_remove 26 = .ok (.iconst 1, 1) := by decide +kernel
theorem dX6_remove_27 : decode cX6_remove 27 = .ok (.isub, 1) := by decide +kernel
theorem dX6_remove_28 : decode cX6_remove 28 = .ok (.aload_n 0, 1) := by decide +kernel
theorem dX6_remove_29 : decode cX6_remove 29 = .ok (.getfield 13, 3) := by decide +kernel
theorem dX6_remove_32 : decode cX6_remove 32 = .ok (.iload_n 2, 1) := by decide +kernel
theorem dX6_remove_33 : decode cX6_remove 33 = .ok (.iaload, 1) := by decide +kernel
theorem dX6_remove_34 : decode cX6_remove 34 = .ok (.iastore, 1) := by decide +kernel
theorem dX6_remove_35 : decode cX6_remove 35 = .ok (.aload_n 0, 1) := by decide +kernel
theorem dX6_remove_36 : decode cX6_remove 36 = .ok (.getfield 19, 3) := by decide +kernel
theorem dX6_remove_39 : decode cX6_remove 39 = .ok (.iload_n 2, 1) := by decide +kernel
theorem dX6_remove_40 : decode cX6_remove 40 = .ok (.iconst 1, 1) := by decide +kernel
theorem dX6_remove_41 : decode cX6_remove 41 = .ok (.isub, 1) := by decide +kernel
theorem dX6_remove_42 : decode cX6_remove 42 = .ok (.aload_n 0, 1) := by decide +kernel
theorem dX6_remove_43 : decode cX6_remove 43 = .ok (.getfield 19, 3) := by decide +kernel
theorem dX6_remove_46 : decode cX6_remove 46 = .ok (.iload_n 2, 1) := by decide +kernel
theorem dX6_remove_47 : decode cX6_remove 47 = .ok (.iaload, 1) := by decide +kernel
theorem dX6_remove_48 : decode cX6_remove 48 = .ok (.iastore, 1) := by decide +kernel
theorem dX6_remove_49 : decode cX6_remove 49 = .ok (.iinc 2 1, 3) := by decide +kernel
theorem dX6_remove_52 : decode cX6_remove 52 = .ok (.goto (-39), 3) := by decide +kernel
theorem dX6_remove_55 : decode cX6_remove 55 = .ok (.aload_n 0, 1) := by decide +kernel
theorem dX6_remove_56 : decode cX6_remove 56 = .ok (.dup, 1) := by decide +kernel
theorem dX6_remove_57 : decode cX6_remove 57 = .ok (.getfield 22, 3) := by decide +kernel
theorem dX6_remove_60 : decode cX6_remove 60 = .ok (.iconst 1, 1) := by decide +kernel
theorem dX6_remove_61 : decode cX6_remove 61 = .ok (.isub, 1) := by decide +kernel
theorem dX6_remove_62 : decode cX6_remove 62 = .ok (.putfield 22, 3) := by decide +kernel
theorem dX6_remove_65 : decode cX6_remove 65 = .ok (.return_, 1) := by decide +kernel
theorem dX6_way_0 : decode cX6_way 0 = .ok (.aload_n 0, 1) := by decide +kernel
theorem dX6_way_1 : decode cX6_way 1 = .ok (.iload_n 2, 1) := by decide +kernel
theorem dX6_way_2 : decode cX6_way 2 = .ok (.invokevirtual 26, 3) := by decide +kernel
theorem dX6_way_5 : decode cX6_way 5 = .ok (.ifCond .eq 23, 3) := by decide +kernel
theorem dX6_way_8 : decode cX6_way 8 = .ok (.aload_n 0, 1) := by decide +kernel
theorem dX6_way_9 : decode cX6_way 9 = .ok (.iload_n 1, 1) := by decide +kernel
theorem dX6_way_10 : decode cX6_way 10 = .ok (.aload_n 0, 1) := by decide +kernel
theorem dX6_way_11 : decode cX6_way 11 = .ok (.getfield 13, 3) := by decide +kernel
theorem dX6_way_14 : decode cX6_way 14 = .ok (.iload_n 2, 1) := by decide +kernel
theorem dX6_way_15 : decode cX6_way 15 = .ok (.iaload, 1) := by decide +kernel
theorem dX6_way_16 : decode cX6_way 16 = .ok (.aload_n 0, 1) := by decide +kernel
theorem dX6_way_17 : decode cX6_way 17 = .ok (.getfield 19, 3) := by decide +kernel
theorem dX6_way_20 : decode cX6_way 20 = .ok (.iload_n 2, 1) := by decide +kernel
theorem dX6_way_21 : decode cX6_way 21 = .ok (.iaload, 1) := by decide +kernel
theorem dX6_way_22 : decode cX6_way 22 = .ok (.invokevirtual 30, 3) := by decide +kernel
theorem dX6_way_25 : decode cX6_way 25 = .ok (.goto 4, 3) := by decide +kernel
theorem dX6_way_28 : decode cX6_way 28 = .ok (.iconst 0, 1) := by decide +kernel
theorem dX6_way_29 : decode cX6_way 29 = .ok (.ireturn, 1) := by decide +kernel
theorem dX6_wayTo_0 : decode cX6_wayTo 0 = .ok (.aload_n 0, 1) := by decide +kernel
theorem dX6_wayTo_1 : decode cX6_wayTo 1 = .ok (.iload_n 1, 1) := by decide +kernel
theorem dX6_wayTo_2 : decode cX6_wayTo 2 = .ok (.invokevirtual 26, 3) := by decide +kernel
theorem dX6_wayTo_5 : decode cX6_wayTo 5 = .ok (.ifCond .eq 29, 3) := by decide +kernel
theorem dX6_wayTo_8 : decode cX6_wayTo 8 = .ok (.aload_n 0, 1) := by decide +kernel
theorem dX6_wayTo_9 : decode cX6_wayTo 9 = .ok (.getfield 13, 3) := by decide +kernel
theorem dX6_wayTo_12 : decode cX6_wayTo 12 = .ok (.iload_n 1, 1) := by decide +kernel
theorem dX6_wayTo_13 : decode cX6_wayTo 13 = .ok (.iaload, 1) := by decide +kernel
theorem dX6_wayTo_14 : decode cX6_wayTo 14 = .ok (.iload_n 2, 1) := by decide +kernel
theorem dX6_wayTo_15 : decode cX6_wayTo 15 = .ok (.isub, 1) := by decide +kernel
theorem dX6_wayTo_16 : decode cX6_wayTo 16 = .ok (.invokestatic 34, 3) := by decide +kernel
theorem dX6_wayTo_19 : decode cX6_wayTo 19 = .ok (.aload_n 0, 1) := by decide +kernel
theorem dX6_wayTo_20 : decode cX6_wayTo 20 = .ok (.getfield 19, 3) := by decide +kernel
theorem dX6_wayTo_23 : decode cX6_wayTo 23 = .ok (.iload_n 1, 1) := by decide +kernel
theorem dX6_wayTo_24 : decode cX6_wayTo 24 = .ok (.iaload, 1) := by decide +kernel
theorem dX6_wayTo_25 : decode cX6_wayTo 25 = .ok (.iload_n 3, 1) := by decide +kernel
theorem dX6_wayTo_26 : decode cX6_wayTo 26 = .ok (.isub, 1) := by decide +kernel
theorem dX6_wayTo_27 : decode cX6_wayTo 27 = .ok (.invokestatic 34, 3) := by decide +kernel
theorem dX6_wayTo_30 : decode cX6_wayTo 30 = .ok (.iadd, 1) := by decide +kernel
theorem dX6_wayTo_31 : decode cX6_wayTo 31 = .ok (.goto 4, 3) := by decide +kernel
theorem dX6_wayTo_34 : decode cX6_wayTo 34 = .ok (.iconst 0, 1) := by decide +kernel
theorem dX6_wayTo_35 : decode cX6_wayTo 35 = .ok (.ireturn, 1) := by decide +kernel
theorem dX7_init_0 : decode cX7_init 0 = .ok (.aload_n 0, 1) := by decide +kernel
theorem dX7_init_1 : decode cX7_init 1 = .ok (.invokespecial 3, 3) := by decide +kernel
theorem dX7_init_4 : decode cX7_init 4 = .ok (.aload_n 0, 1) := by decide +kernel
theorem dX7_init_5 : decode cX7_init 5 = .ok (.new 9, 3) := by decide +kernel
theorem dX7_init_8 : decode cX7_init 8 = .ok (.dup, 1) := by decide +kernel
theorem dX7_init_9 : decode cX7_init 9 = .ok (.bipush 8, 2) := by decide +kernel
theorem dX7_init_11 : decode cX7_init 11 = .ok (.invokespecial 11, 3) := by decide +kernel
theorem dX7_init_14 : decode cX7_init 14 = .ok (.putfield 14, 3) := by decide +kernel
theorem dX7_init_17 : decode cX7_init 17 = .ok (.aload_n 0, 1) := by decide +kernel
theorem dX7_init_18 : decode cX7_init 18 = .ok (.bipush 8, 2) := by decide +kernel
theorem dX7_init_20 : decode cX7_init 20 = .ok (.newarray .int, 2) := by decide +kernel
theorem dX7_init_22 : decode cX7_init 22 = .ok (.putfield 20, 3) := by decide +kernel
theorem dX7_init_25 : decode cX7_init 25 = .ok (.aload_n 0, 1) := by decide +kernel
theorem dX7_init_26 : decode cX7_init 26 = .ok (.bipush 8, 2) := by decide +kernel
theorem dX7_init_28 : decode cX7_init 28 = .ok (.newarray .int, 2) := by decide +kernel
theorem dX7_init_30 : decode cX7_init 30 = .ok (.putfield 24, 3) := by decide +kernel
theorem dX7_init_33 : decode cX7_init 33 = .ok (.return_, 1) := by decide +kernel
theorem dX7_add_0 : decode cX7_add 0 = .ok (.aload_n 0, 1) := by decide +kernel
theorem dX7_add_1 : decode cX7_add 1 = .ok (.getfield 14, 3) := by decide +kernel
theorem dX7_add_4 : decode cX7_add 4 = .ok (.getfield 27, 3) := by decide +kernel
theorem dX7_add_7 : decode cX7_add 7 = .ok (.istore 5, 2) := by decide +kernel
theorem dX7_add_9 : decode cX7_add 9 = .ok (.iload 5, 2) := by decide +kernel
theorem dX7_add_11 : decode cX7_add 11 = .ok (.bipush 8, 2) := by decide +kernel
theorem dX7_add_13 : decode cX7_add 13 = .ok (.if_icmp .ge 29, 3) := by decide +kernel
theorem dX7_add_16 : decode cX7_add 16 = .ok (.aload_n 0, 1) := by decide +kernel
theorem dX7_add_17 : decode cX7_add 17 = .ok (.getfield 14, 3) := by decide +kernel
theorem dX7_add_20 : decode cX7_add 20 = .ok (.iload_n 1, 1) := by decide +kernel
theorem dX7_add_21 : decode cX7_add 21 = .ok (.iload_n 2, 1) := by decide +kernel
theorem dX7_add_22 : decode cX7_add 22 = .ok (.invokevirtual 31, 3) := by decide +kernel
theorem dX7_add_25 : decode cX7_add 25 = .ok (.aload_n 0, 1) := by decide +kernel
theorem dX7_add_26 : decode cX7_add 26 = .ok (.getfield 20, 3) := by decide +kernel
theorem dX7_add_29 : decode cX7_add 29 = .ok (.iload 5, 2) := by decide +kernel
theorem dX7_add_31 : decode cX7_add 31 = .ok (.iload_n 3, 1) := by decide +kernel
theorem dX7_add_32 : decode cX7_add 32 = .ok (.iastore, 1) := by decide +kernel
theorem dX7_add_33 : decode cX7_add 33 = .ok (.aload_n 0, 1) := by decide +kernel
theorem dX7_add_34 : decode cX7_add 34 = .ok (.getfield 24, 3) := by decide +kernel
theorem dX7_add_37 : decode cX7_add 37 = .ok (.iload 5, 2) := by decide +kernel
theorem dX7_add_39 : decode cX7_add 39 = .ok (.iload 4, 2) := by decide +kernel
theorem dX7_add_41 : decode cX7_add 41 = .ok (.iastore, 1) := by decide +kernel
theorem dX7_add_42 : decode cX7_add 42 = .ok (.return_, 1) := by decide +kernel
theorem dX7_remove_0 : decode cX7_remove 0 = .ok (.aload_n 0, 1) := by decide +kernel
theorem dX7_remove_1 : decode cX7_remove 1 = .ok (.getfield 14, 3) := by decide +kernel
theorem dX7_remove_4 : decode cX7_remove 4 = .ok (.iload_n 1, 1) := by decide +kernel
theorem dX7_remove_5 : decode cX7_remove 5 = .ok (.invokevirtual 35, 3) := by decide +kernel
theorem dX7_remove_8 : decode cX7_remove 8 = .ok (.ifCond .ne 4, 3) := by decide +kernel
theorem dX7_remove_11 : decode cX7_remove 11 = .ok (.return_, 1) := by decide +kernel
theorem dX7_remove_12 : decode cX7_remove 12 = .ok (.iload_n 1, 1) := by decide +kernel
theorem dX7_remove_13 : decode cX7_remove 13 = .ok (.iconst 1, 1) := by decide +kernel
theorem dX7_remove_14 : decode cX7_remove 14 = .ok (.iadd, 1) := by decide +kernel
theorem dX7_remove_15 : decode cX7_remove 15 = .ok (.istore_n 2, 1) := by decide +kernel
theorem dX7_remove_16 : decode cX7_remove 16 = .ok (.iload_n 2, 1) := by decide +kernel
theorem dX7_remove_17 : decode cX7_remove 17 = .ok (.aload_n 0, 1) := by decide +kernel
theorem dX7_remove_18 : decode cX7_remove 18 = .ok (.getfield 14, 3) := by decide +kernel
theorem dX7_remove_21 : decode cX7_remove 21 = .ok (.getfield 27, 3) := by decide +kernel
theorem dX7_remove_24 : decode cX7_remove 24 = .ok (.if_icmp .ge 37, 3) := by decide +kernel
theorem dX7_remove_27 : decode cX7_remove 27 = .ok (.aload_n 0, 1) := by decide +kernel
theorem dX7_remove_28 : decode cX7_remove 28 = .ok (.getfield 20, 3) := by decide +kernel
theorem dX7_remove_31 : decode cX7_remove 31 = .ok (.iload_n 2, 1) := by decide +kernel
theorem dX7_remove_32 : decode cX7_remove 32 = .ok (.iconst 1, 1) := by decide +kernel
theorem dX7_remove_33 : decode cX7_remove 33 = .ok (.isub, 1) := by decide +kernel
theorem dX7_remove_34 : decode cX7_remove 34 = .ok (.aload_n 0, 1) := by decide +kernel
theorem dX7_remove_35 : decode cX7_remove 35 = .ok (.getfield 20, 3) := by decide +kernel
theorem dX7_remove_38 : decode cX7_remove 38 = .ok (.iload_n 2, 1) := by decide +kernel
theorem dX7_remove_39 : decode cX7_remove 39 = .ok (.iaload, 1) := by decide +kernel
theorem dX7_remove_40 : decode cX7_remove 40 = .ok (.iastore, 1) := by decide +kernel
theorem dX7_remove_41 : decode cX7_remove 41 = .ok (.aload_n 0, 1) := by decide +kernel
theorem dX7_remove_42 : decode cX7_remove 42 = .ok (.getfield 24, 3) := by decide +kernel
theorem dX7_remove_45 : decode cX7_remove 45 = .ok (.iload_n 2, 1) := by decide +kernel
theorem dX7_remove_46 : decode cX7_remove 46 = .ok (.iconst 1, 1) := by decide +kernel
theorem dX7_remove_47 : decode cX7_remove 47 = .ok (.isub, 1) := by decide +kernel
theorem dX7_remove_48 : decode cX7_remove 48 = .ok (.aload_n 0, 1) := by decide +kernel
theorem dX7_remove_49 : decode cX7_remove 49 = .ok (.getfield 24, 3) := by decide +kernel
theorem dX7_remove_52 : decode cX7_remove 52 = .ok (.iload_n 2, 1) := by decide +kernel
theorem dX7_remove_53 : decode cX7_remove 53 = .ok (.iaload, 1) := by decide +kernel
theorem dX7_remove_54 : decode cX7_remove 54 = .ok (.iastore, 1) := by decide +kernel
theorem dX7_remove_55 : decode cX7_remove 55 = .ok (.iinc 2 1, 3) := by decide +kernel
theorem dX7_remove_58 : decode cX7_remove 58 = .ok (.goto (-42), 3) := by decide +kernel
theorem dX7_remove_61 : decode cX7_remove 61 = .ok (.aload_n 0, 1) := by decide +kernel
theorem dX7_remove_62 : decode cX7_remove 62 = .ok (.getfield 14, 3) := by decide +kernel
theorem dX7_remove_65 : decode cX7_remove 65 = .ok (.iload_n 1, 1) := by decide +kernel
theorem dX7_remove_66 : decode cX7_remove 66 = .ok (.invokevirtual 39, 3) := by decide +kernel
theorem dX7_remove_69 : decode cX7_remove 69 = .ok (.return_, 1) := by decide +kernel
theorem dX8_init_0 : decode cX8_init 0 = .ok (.aload_n 0, 1) := by decide +kernel
theorem dX8_init_1 : decode cX8_init 1 = .ok (.invokespecial 3, 3) := by decide +kernel
theorem dX8_init_4 : decode cX8_init 4 = .ok (.aload_n 0, 1) := by decide +kernel
theorem dX8_init_5 : decode cX8_init 5 = .ok (.sipush 480, 3) := by decide +kernel
theorem dX8_init_8 : decode cX8_init 8 = .ok (.newarray .long, 2) := by decide +kernel
theorem dX8_init_10 : decode cX8_init 10 = .ok (.putfield 11, 3) := by decide +kernel
theorem dX8_init_13 : decode cX8_init 13 = .ok (.aload_n 0, 1) := by decide +kernel
theorem dX8_init_14 : decode cX8_init 14 = .ok (.bipush 8, 2) := by decide +kernel
theorem dX8_init_16 : decode cX8_init 16 = .ok (.newarray .int, 2) := by decide +kernel
theorem dX8_init_18 : decode cX8_init 18 = .ok (.putfield 15, 3) := by decide +kernel
theorem dX8_init_21 : decode cX8_init 21 = .ok (.aload_n 0, 1) := by decide +kernel
theorem dX8_init_22 : decode cX8_init 22 = .ok (.bipush 8, 2) := by decide +kernel
theorem dX8_init_24 : decode cX8_init 24 = .ok (.newarray .int, 2) := by decide +kernel
theorem dX8_init_26 : decode cX8_init 26 = .ok (.putfield 19, 3) := by decide +kernel
theorem dX8_init_29 : decode cX8_init 29 = .ok (.iconst 0, 1) := by decide +kernel
theorem dX8_init_30 : decode cX8_init 30 = .ok (.istore_n 1, 1) := by decide +kernel
theorem dX8_init_31 : decode cX8_init 31 = .ok (.iload_n 1, 1) := by decide +kernel
theorem dX8_init_32 : decode cX8_init 32 = .ok (.bipush 8, 2) := by decide +kernel
theorem dX8_init_34 : decode cX8_init 34 = .ok (.if_icmp .ge 16, 3) := by decide +kernel
theorem dX8_init_37 : decode cX8_init 37 = .ok (.aload_n 0, 1) := by decide +kernel
theorem dX8_init_38 : decode cX8_init 38 = .ok (.getfield 19, 3) := by decide +kernel
theorem dX8_init_41 : decode cX8_init 41 = .ok (.iload_n 1, 1) := by decide +kernel
theorem dX8_init_42 : decode cX8_init 42 = .ok (.iconst (-1), 1) := by decide +kernel
theorem dX8_init_43 : decode cX8_init 43 = .ok (.iastore, 1) := by decide +kernel
theorem dX8_init_44 : decode cX8_init 44 = .ok (.iinc 1 1, 3) := by decide +kernel
theorem dX8_init_47 : decode cX8_init 47 = .ok (.goto (-16), 3) := by decide +kernel
theorem dX8_init_50 : decode cX8_init 50 = .ok (.return_, 1) := by decide +kernel
theorem dX8_exists_0 : decode cX8_exists 0 = .ok (.iload_n 1, 1) := by decide +kernel
theorem dX8_exists_1 : decode cX8_exists 1 = .ok (.ifCond .lt 13, 3) := by decide +kernel
theorem dX8_exists_4 : decode cX8_exists 4 = .ok (.iload_n 1, 1) := by decide +kernel
theorem dX8_exists_5 : decode cX8_exists 5 = .ok (.bipush 8, 2) := by decide +kernel
theorem dX8_exists_7 : decode cX8_exists 7 = .ok (.if_icmp .ge 7, 3) := by decide +kernel
theorem dX8_exists_10 : decode cX8_exists 10 = .ok (.iconst 1, 1) := by decide +kernel
theorem dX8_exists_11 : decode cX8_exists 11 = .ok (.goto 4, 3) := by decide +kernel
theorem dX8_exists_14 : decode cX8_exists 14 = .ok (.iconst 0, 1) := by decide +kernel
theorem dX8_exists_15 : decode cX8_exists 15 = .ok (.ireturn, 1) := by decide +kernel
theorem dX8_holds_0 : decode cX8_holds 0 = .ok (.aload_n 0, 1) := by decide +kernel
theorem dX8_holds_1 : decode cX8_holds 1 = .ok (.iload_n 1, 1) := by decide +kernel
theorem dX8_holds_2 : decode cX8_holds 2 = .ok (.invokevirtual 22, 3) := by decide +kernel
theorem dX8_holds_5 : decode cX8_holds 5 = .ok (.ifCond .eq 17, 3) := by decide +kernel
theorem dX8_holds_8 : decode cX8_holds 8 = .ok (.aload_n 0, 1) := by decide +kernel
theorem dX8_holds_9 : decode cX8_holds 9 = .ok (.getfield 19, 3) := by decide +kernel
theorem dX8_holds_12 : decode cX8_holds 12 = .ok (.iload_n 1, 1) := by decide +kernel
theorem dX8_holds_13 : decode cX8_holds 13 = .ok (.iaload, 1) := by decide +kernel
theorem dX8_holds_14 : decode cX8_holds 14 = .ok (.iconst (-1), 1) := by decide +kernel
theorem dX8_holds_15 : decode cX8_holds 15 = .ok (.if_icmp .eq 7, 3) := by decide +kernel
theorem dX8_holds_18 : decode cX8_holds 18 = .ok (.iconst 1, 1) := by decide +kernel
theorem dX8_holds_19 : decode cX8_holds 19 = .ok (.goto 4, 3) := by decide +kernel
theorem dX8_holds_22 : decode cX8_holds 22 = .ok (.iconst 0, 1) := by decide +kernel
theorem dX8_holds_23 : decode cX8_holds 23 = .ok (.ireturn, 1) := by decide +kernel
theorem dX8_holdsNumber_0 : decode cX8_holdsNumber 0 = .ok (.aload_n 0, 1) := by decide +kernel
theorem dX8_holdsNumber_1 : decode cX8_holdsNumber 1 = .ok (.iload_n 1, 1) := by decide +kernel
theorem dX8_holdsNumber_2 : decode cX8_holdsNumber 2 = .ok (.invokevirtual 26, 3) := by decide +kernel
theorem dX8_holdsNumber_5 : decode cX8_holdsNumber 5 = .ok (.ifCond .eq 21, 3) := by decide +kernel
theorem dX8_holdsNumber_8 : decode cX8_holdsNumber 8 = .ok (.iload_n 2, 1) := by decide +kernel
theorem dX8_holdsNumber_9 : decode cX8_holdsNumber 9 = .ok (.ifCond .lt 17, 3) := by decide +kernel
theorem dX8_holdsNumber_12 : decode cX8_holdsNumber 12 = .ok (.iload_n 2, 1) := by decide +kernel
theorem dX8_holdsNumber_13 : decode cX8_holdsNumber 13 = .ok (.aload_n 0, 1) := by decide +kernel
theorem dX8_holdsNumber_14 : decode cX8_holdsNumber 14 = .ok (.getfield 19, 3) := by decide +kernel
theorem dX8_holdsNumber_17 : decode cX8_holdsNumber 17 = .ok (.iload_n 1, 1) := by decide +kernel
theorem dX8_holdsNumber_18 : decode cX8_holdsNumber 18 = .ok (.iaload, 1) := by decide +kernel
theorem dX8_holdsNumber_19 : decode cX8_holdsNumber 19 = .ok (.if_icmp .ge 7, 3) := by decide +kernel
theorem dX8_holdsNumber_22 : decode cX8_holdsNumber 22 = .ok (.iconst 1, 1) := by decide +kernel
theorem dX8_holdsNumber_23 : decode cX8_holdsNumber 23 = .ok (.goto 4, 3) := by decide +kernel
theorem dX8_holdsNumber_26 : decode cX8_holdsNumber 26 = .ok (.iconst 0, 1) := by decide +kernel
theorem dX8_holdsNumber_27 : decode cX8_holdsNumber 27 = .ok (.ireturn, 1) := by decide +kernel
theorem dX8_lay_0 : decode cX8_lay 0 = .ok (.aload_n 0, 1) := by decide +kernel
theorem dX8_lay_1 : decode cX8_lay 1 = .ok (.iload_n 1, 1) := by decide +kernel
theorem dX8_lay_2 : decode cX8_lay 2 = .ok (.invokevirtual 22, 3) := by decide +kernel
theorem dX8_lay_5 : decode cX8_lay 5 = .ok (.ifCond .ne 4, 3) := by decide +kernel
theorem dX8_lay_8 : decode cX8_lay 8 = .ok (.return_, 1) := by decide +kernel
theorem dX8_lay_9 : decode cX8_lay 9 = .ok (.aload_n 0, 1) := by decide +kernel
theorem dX8_lay_10 : decode cX8_lay 10 = .ok (.getfield 15, 3) := by decide +kernel
theorem dX8_lay_13 : decode cX8_lay 13 = .ok (.iload_n 1, 1) := by decide +kernel
theorem dX8_lay_14 : decode cX8_lay 14 = .ok (.iload_n 2, 1) := by decide +kernel
theorem dX8_lay_15 : decode cX8_lay 15 = .ok (.iastore, 1) := by decide +kernel
theorem dX8_lay_16 : decode cX8_lay 16 = .ok (.aload_n 0, 1) := by decide +kernel
theorem dX8_lay_17 : decode cX8_lay 17 = .ok (.getfield 19, 3) := by decide +kernel
theorem dX8_lay_20 : decode cX8_lay 20 = .ok (.iload_n 1, 1) := by decide +kernel
theorem dX8_lay_21 : decode cX8_lay 21 = .ok (.iload_n 3, 1) := by decide +kernel
theorem dX8_lay_22 : decode cX8_lay 22 = .ok (.iastore, 1) := by decide +kernel
theorem dX8_lay_23 : decode cX8_lay 23 = .ok (.iconst 0, 1) := by decide +kernel
theorem dX8_lay_24 : decode cX8_lay 24 = .ok (.istore 4, 2) := by decide +kernel
theorem dX8_lay_26 : decode cX8_lay 26 = .ok (.iload 4, 2) := by decide +kernel
theorem dX8_lay_28 : decode cX8_lay 28 = .ok (.iload_n 3, 1) := by decide +kernel
theorem dX8_lay_29 : decode cX8_lay 29 = .ok (.if_icmp .ge 29, 3) := by decide +kernel
theorem dX8_lay_32 : decode cX8_lay 32 = .ok (.iload 4, 2) := by decide +kernel
theorem dX8_lay_34 : decode cX8_lay 34 = .ok (.bipush 60, 2) := by decide +kernel
theorem dX8_lay_36 : decode cX8_lay 36 = .ok (.if_icmp .ge 22, 3) := by decide +kernel
theorem dX8_lay_39 : decode cX8_lay 39 = .ok (.aload_n 0, 1) := by decide +kernel
theorem dX8_lay_40 : decode cX8_lay 40 = .ok (.getfield 11, 3) := by decide +kernel
theorem dX8_lay_43 : decode cX8_lay 43 = .ok (.iload_n 1, 1) := by decide +kernel
theorem dX8_lay_44 : decode cX8_lay 44 = .ok (.bipush 60, 2) := by decide +kernel
theorem dX8_lay_46 : decode cX8_lay 46 = .ok (.imul, 1) := by decide +kernel
theorem dX8_lay_47 : decode cX8_lay 47 = .ok (.iload 4, 2) := by decide +kernel
theorem dX8_lay_49 : decode cX8_lay 49 = .ok (.iadd, 1) := by decide +kernel
theorem dX8_lay_50 : decode cX8_lay 50 = .ok (.lconst 0, 1) := by decide +kernel
theorem dX8_lay_51 : decode cX8_lay 51 = .ok (.lastore, 1) := by decide +kernel
theorem dX8_lay_52 : decode cX8_lay 52 = .ok (.iinc 4 1, 3) := by decide +kernel
theorem dX8_lay_55 : decode cX8_lay 55 = .ok (.goto (-29), 3) := by decide +kernel
theorem dX8_lay_58 : decode cX8_lay 58 = .ok (.return_, 1) := by decide +kernel
theorem dX8_empty_0 : decode cX8_empty 0 = .ok (.aload_n 0, 1) := by decide +kernel
theorem dX8_empty_1 : decode cX8_empty 1 = .ok (.iload_n 1, 1) := by decide +kernel
theorem dX8_empty_2 : decode cX8_empty 2 = .ok (.invokevirtual 22, 3) := by decide +kernel
theorem dX8_empty_5 : decode cX8_empty 5 = .ok (.ifCond .eq 10, 3) := by decide +kernel
theorem dX8_empty_8 : decode cX8_empty 8 = .ok (.aload_n 0, 1) := by decide +kernel
theorem dX8_empty_9 : decode cX8_empty 9 = .ok (.getfield 19, 3) := by decide +kernel
theorem dX8_empty_12 : decode cX8_empty 12 = .ok (.iload_n 1, 1) := by decide +kernel
theorem dX8_empty_13 : decode cX8_empty 13 = .ok (.iconst (-1), 1) := by decide +kernel
theorem dX8_empty_14 : decode cX8_empty 14 = .ok (.iastore, 1) := by decide +kernel
theorem dX8_empty_15 : decode cX8_empty 15 = .ok (.return_, 1) := by decide +kernel
theorem dX8_put_0 : decode cX8_put 0 = .ok (.aload_n 0, 1) := by decide +kernel
theorem dX8_put_1 : decode cX8_put 1 = .ok (.iload_n 1, 1) := by decide +kernel
theorem dX8_put_2 : decode cX8_put 2 = .ok (.iload_n 2, 1) := by decide +kernel
theorem dX8_put_3 : decode cX8_put 3 = .ok (.invokevirtual 29, 3) := by decide +kernel
theorem dX8_put_6 : decode cX8_put 6 = .ok (.ifCond .ne 5, 3) := by decide +kernel
theorem dX8_put_9 : decode cX8_put 9 = .ok (.iconst 0, 1) := by decide +kernel
theorem dX8_put_10 : decode cX8_put 10 = .ok (.ireturn, 1) := by decide +kernel
theorem dX8_put_11 : decode cX8_put 11 = .ok (.aload_n 0, 1) := by decide +kernel
theorem dX8_put_12 : decode cX8_put 12 = .ok (.getfield 11, 3) := by decide +kernel
theorem dX8_put_15 : decode cX8_put 15 = .ok (.iload_n 1, 1) := by decide +kernel
theorem dX8_put_16 : decode cX8_put 16 = .ok (.bipush 60, 2) := by decide +kernel
theorem dX8_put_18 : decode cX8_put 18 = .ok (.imul, 1) := by decide +kernel
theorem dX8_put_19 : decode cX8_put 19 = .ok (.iload_n 2, 1) := by decide +kernel
theorem dX8_put_20 : decode cX8_put 20 = .ok (.iadd, 1) := by decide +kernel
theorem dX8_put_21 : decode cX8_put 21 = .ok (.lload_n 3, 1) := by decide +kernel
theorem dX8_put_22 : decode cX8_put 22 = .ok (.aload_n 0, 1) := by decide +kernel
theorem dX8_put_23 : decode cX8_put 23 = .ok (.getfield 15, 3) := by decide +kernel
theorem dX8_put_26 : decode cX8_put 26 = .ok (.iload_n 1, 1) := by decide +kernel
theorem dX8_put_27 : decode cX8_put 27 = .ok (.iaload, 1) := by decide +kernel
theorem dX8_put_28 : decode cX8_put 28 = .ok (.invokestatic 33, 3) := by decide +kernel
theorem dX8_put_31 : decode cX8_put 31 = .ok (.lastore, 1) := by decide +kernel
theorem dX8_put_32 : decode cX8_put 32 = .ok (.iconst 1, 1) := by decide +kernel
theorem dX8_put_33 : decode cX8_put 33 = .ok (.ireturn, 1) := by decide +kernel
theorem dX8_countHeld_0 : decode cX8_countHeld 0 = .ok (.iconst 0, 1) := by decide +kernel
theorem dX8_countHeld_1 : decode cX8_countHeld 1 = .ok (.istore_n 1, 1) := by decide +kernel
theorem dX8_countHeld_2 : decode cX8_countHeld 2 = .ok (.iconst 0, 1) := by decide +kernel
theorem dX8_countHeld_3 : decode cX8_countHeld 3 = .ok (.istore_n 2, 1) := by decide +kernel
theorem dX8_countHeld_4 : decode cX8_countHeld 4 = .ok (.iload_n 2, 1) := by decide +kernel
theorem dX8_countHeld_5 : decode cX8_countHeld 5 = .ok (.bipush 8, 2) := by decide +kernel
theorem dX8_countHeld_7 : decode cX8_countHeld 7 = .ok (.if_icmp .ge 20, 3) := by decide +kernel
theorem dX8_countHeld_10 : decode cX8_countHeld 10 = .ok (.aload_n 0, 1) := by decide +kernel
theorem dX8_countHeld_11 : decode cX8_countHeld 11 = .ok (.iload_n 2, 1) := by decide +kernel
theorem dX8_countHeld_12 : decode cX8_countHeld 12 = .ok (.invokevirtual 26, 3) := by decide +kernel
theorem dX8_countHeld_15 : decode cX8_countHeld 15 = .ok (.ifCond .eq 6, 3) := by decide +kernel
theorem dX8_countHeld_18 : decode cX8_countHeld 18 = .ok (.iinc 1 1, 3) := by decide +kernel
theorem dX8_countHeld_21 : decode cX8_countHeld 21 = .ok (.iinc 2 1, 3) := by decide +kernel
theorem dX8_countHeld_24 : decode cX8_countHeld 24 = .ok (.goto (-20), 3) := by decide +kernel
theorem dX8_countHeld_27 : decode cX8_countHeld 27 = .ok (.iload_n 1, 1) := by decide +kernel
theorem dX8_countHeld_28 : decode cX8_countHeld 28 = .ok (.ireturn, 1) := by decide +kernel
theorem dX8_startReading_0 : decode cX8_startReading 0 = .ok (.aload_n 0, 1) := by decide +kernel
theorem dX8_startReading_1 : decode cX8_startReading 1 = .ok (.iload_n 1, 1) := by decide +kernel
theorem dX8_startReading_2 : decode cX8_startReading 2 = .ok (.putfield 37, 3) := by decide +kernel
theorem dX8_startReading_5 : decode cX8_startReading 5 = .ok (.aload_n 0, 1) := by decide +kernel
theorem dX8_startReading_6 : decode cX8_startReading 6 = .ok (.iconst 0, 1) := by decide +kernel
theorem dX8_startReading_7 : decode cX8_startReading 7 = .ok (.putfield 41, 3) := by decide +kernel
theorem dX8_startReading_10 : decode cX8_startReading 10 = .ok (.aload_n 0, 1) := by decide +kernel
theorem dX8_startReading_11 : decode cX8_startReading 11 = .ok (.iconst 0, 1) := by decide +kernel
theorem dX8_startReading_12 : decode cX8_startReading 12 = .ok (.putfield 44, 3) := by decide +kernel
theorem dX8_startReading_15 : decode cX8_startReading 15 = .ok (.return_, 1) := by decide +kernel
theorem dX8_readNext_0 : decode cX8_readNext 0 = .ok (.aload_n 0, 1) := by decide +kernel
theorem dX8_readNext_1 : decode cX8_readNext 1 = .ok (.aload_n 0, 1) := by decide +kernel
theorem dX8_readNext_2 : decode cX8_readNext 2 = .ok (.getfield 37, 3) := by decide +kernel
theorem dX8_readNext_5 : decode cX8_readNext 5 = .ok (.aload_n 0, 1) := by decide +kernel
theorem dX8_readNext_6 : decode cX8_readNext 6 = .ok (.getfield 41, 3) := by decide +kernel
theorem dX8_readNext_9 : decode cX8_readNext 9 = .ok (.invokevirtual 29, 3) := by decide +kernel
theorem dX8_readNext_12 : decode cX8_readNext 12 = .ok (.ifCond .ne 11, 3) := by decide +kernel
theorem dX8_readNext_15 : decode cX8_readNext 15 = .ok (.aload_n 0, 1) := by decide +kernel
theorem dX8_readNext_16 : decode cX8_readNext 16 = .ok (.bipush (-6), 2) := by decide +kernel
theorem dX8_readNext_18 : decode cX8_readNext 18 = .ok (.putfield 44, 3) := by decide +kernel
theorem dX8_readNext_21 : decode cX8_readNext 21 = .ok (.iconst 0, 1) := by decide +kernel
theorem dX8_readNext_22 : decode cX8_readNext 22 = .ok (.ireturn, 1) := by decide +kernel
theorem dX8_readNext_23 : decode cX8_readNext 23 = .ok (.aload_n 0, 1) := by decide +kernel
theorem dX8_readNext_24 : decode cX8_readNext 24 = .ok (.getfield 11, 3) := by decide +kernel
theorem dX8_readNext_27 : decode cX8_readNext 27 = .ok (.aload_n 0, 1) := by decide +kernel
theorem dX8_readNext_28 : decode cX8_readNext 28 = .ok (.getfield 37, 3) := by decide +kernel
theorem dX8_readNext_31 : decode cX8_readNext 31 = .ok (.bipush 60, 2) := by decide +kernel
theorem dX8_readNext_33 : decode cX8_readNext 33 = .ok (.imul, 1) := by decide +kernel
theorem dX8_readNext_34 : decode cX8_readNext 34 = .ok (.aload_n 0, 1) := by decide +kernel
theorem dX8_readNext_35 : decode cX8_readNext 35 = .ok (.getfield 41, 3) := by decide +kernel
theorem dX8_readNext_38 : decode cX8_readNext 38 = .ok (.iadd, 1) := by decide +kernel
theorem dX8_readNext_39 : decode cX8_readNext 39 = .ok (.laload, 1) := by decide +kernel
theorem dX8_readNext_40 : decode cX8_readNext 40 = .ok (.lstore_n 3, 1) := by decide +kernel
theorem dX8_readNext_41 : decode cX8_readNext 41 = .ok (.lload_n 3, 1) := by decide +kernel
theorem dX8_readNext_42 : decode cX8_readNext 42 = .ok (.iload_n 1, 1) := by decide +kernel
theorem dX8_readNext_43 : decode cX8_readNext 43 = .ok (.i2l, 1) := by decide +kernel
theorem dX8_readNext_44 : decode cX8_readNext 44 = .ok (.lcmp, 1) := by decide +kernel
theorem dX8_readNext_45 : decode cX8_readNext 45 = .ok (.ifCond .lt 10, 3) := by decide +kernel
theorem dX8_readNext_48 : decode cX8_readNext 48 = .ok (.lload_n 3, 1) := by decide +kernel
theorem dX8_readNext_49 : decode cX8_readNext 49 = .ok (.iload_n 2, 1) := by decide +kernel
theorem dX8_readNext_50 : decode cX8_readNext 50 = .ok (.i2l, 1) := by decide +kernel
theorem dX8_readNext_51 : decode cX8_readNext 51 = .ok (.lcmp, 1) := by decide +kernel
theorem dX8_readNext_52 : decode cX8_readNext 52 = .ok (.ifCond .le 11, 3) := by decide +kernel
theorem dX8_readNext_55 : decode cX8_readNext 55 = .ok (.aload_n 0, 1) := by decide +kernel
theorem dX8_readNext_56 : decode cX8_readNext 56 = .ok (.bipush (-4), 2) := by decide +kernel
theorem dX8_readNext_58 : decode cX8_readNext 58 = .ok (.putfield 44, 3) := by decide +kernel
theorem dX8_readNext_61 : decode cX8_readNext 61 = .ok (.iconst 0, 1) := by decide +kernel
theorem dX8_readNext_62 : decode cX8_readNext 62 = .ok (.ireturn, 1) := by decide +kernel
theorem dX8_readNext_63 : decode cX8_readNext 63 = .ok (.aload_n 0, 1) := by decide +kernel
theorem dX8_readNext_64 : decode cX8_readNext 64 = .ok (.lload_n 3, 1) := by decide +kernel
theorem dX8_readNext_65 : decode cX8_readNext 65 = .ok (.l2i, 1) := by decide +kernel
theorem dX8_readNext_66 : decode cX8_readNext 66 = .ok (.putfield 47, 3) := by decide +kernel
theorem dX8_readNext_69 : decode cX8_readNext 69 = .ok (.aload_n 0, 1) := by decide +kernel
theorem dX8_readNext_70 : decode cX8_readNext 70 = .ok (.dup, 1) := by decide +kernel
theorem dX8_readNext_71 : decode cX8_readNext 71 = .ok (.getfield 41, 3) := by decide +kernel
theorem dX8_readNext_74 : decode cX8_readNext 74 = .ok (.iconst 1, 1) := by decide +kernel
theorem dX8_readNext_75 : decode cX8_readNext 75 = .ok (.iadd, 1) := by decide +kernel
theorem dX8_readNext_76 : decode cX8_readNext 76 = .ok (.putfield 41, 3) := by decide +kernel
theorem dX8_readNext_79 : decode cX8_readNext 79 = .ok (.iconst 1, 1) := by decide +kernel
theorem dX8_readNext_80 : decode cX8_readNext 80 = .ok (.ireturn, 1) := by decide +kernel
theorem dX8_readPlace_0 : decode cX8_readPlace 0 = .ok (.aload_n 0, 1) := by decide +kernel
theorem dX8_readPlace_1 : decode cX8_readPlace 1 = .ok (.bipush (-20), 2) := by decide +kernel
theorem dX8_readPlace_3 : decode cX8_readPlace 3 = .ok (.bipush 20, 2) := by decide +kernel
theorem dX8_readPlace_5 : decode cX8_readPlace 5 = .ok (.invokevirtual 50, 3) := by decide +kernel
theorem dX8_readPlace_8 : decode cX8_readPlace 8 = .ok (.ifCond .ne 5, 3) := by decide +kernel
theorem dX8_readPlace_11 : decode cX8_readPlace 11 = .ok (.iconst 0, 1) := by decide +kernel
theorem dX8_readPlace_12 : decode cX8_readPlace 12 = .ok (.ireturn, 1) := by decide +kernel
theorem dX8_readPlace_13 : decode cX8_readPlace 13 = .ok (.aload_n 0, 1) := by decide +kernel
theorem dX8_readPlace_14 : decode cX8_readPlace 14 = .ok (.aload_n 0, 1) := by decide +kernel
theorem dX8_readPlace_15 : decode cX8_readPlace 15 = .ok (.getfield 47, 3) := by decide +kernel
theorem dX8_readPlace_18 : decode cX8_readPlace 18 = .ok (.putfield 53, 3) := by decide +kernel
theorem dX8_readPlace_21 : decode cX8_readPlace 21 = .ok (.aload_n 0, 1) := by decide +kernel
theorem dX8_readPlace_22 : decode cX8_readPlace 22 = .ok (.bipush (-20), 2) := by decide +kernel
theorem dX8_readPlace_24 : decode cX8_readPlace 24 = .ok (.bipush 20, 2) := by decide +kernel
theorem dX8_readPlace_26 : decode cX8_readPlace 26 = .ok (.invokevirtual 50, 3) := by decide +kernel
theorem dX8_readPlace_29 : decode cX8_readPlace 29 = .ok (.ifCond .ne 5, 3) := by decide +kernel
theorem dX8_readPlace_32 : decode cX8_readPlace 32 = .ok (.iconst 0, 1) := by decide +kernel
theorem dX8_readPlace_33 : decode cX8_readPlace 33 = .ok (.ireturn, 1) := by decide +kernel
theorem dX8_readPlace_34 : decode cX8_readPlace 34 = .ok (.aload_n 0, 1) := by decide +kernel
theorem dX8_readPlace_35 : decode cX8_readPlace 35 = .ok (.aload_n 0, 1) := by decide +kernel
theorem dX8_readPlace_36 : decode cX8_readPlace 36 = .ok (.getfield 47, 3) := by decide +kernel
theorem dX8_readPlace_39 : decode cX8_readPlace 39 = .ok (.putfield 56, 3) := by decide +kernel
theorem dX8_readPlace_42 : decode cX8_readPlace 42 = .ok (.iconst 1, 1) := by decide +kernel
theorem dX8_readPlace_43 : decode cX8_readPlace 43 = .ok (.ireturn, 1) := by decide +kernel
theorem dX8_cut_0 : decode cX8_cut 0 = .ok (.iload_n 2, 1) := by decide +kernel
theorem dX8_cut_1 : decode cX8_cut 1 = .ok (.tableswitch 41 0 2 #[27, 32, 37], 27) := by decide +kernel
theorem dX8_cut_28 : decode cX8_cut 28 = .ok (.lload_n 0, 1) := by decide +kernel
theorem dX8_cut_29 : decode cX8_cut 29 = .ok (.l2i, 1) := by decide +kernel
theorem dX8_cut_30 : decode cX8_cut 30 = .ok (.i2b, 1) := by decide +kernel
theorem dX8_cut_31 : decode cX8_cut 31 = .ok (.i2l, 1) := by decide +kernel
theorem dX8_cut_32 : decode cX8_cut 32 = .ok (.lreturn, 1) := by decide +kernel
theorem dX8_cut_33 : decode cX8_cut 33 = .ok (.lload_n 0, 1) := by decide +kernel
theorem dX8_cut_34 : decode cX8_cut 34 = .ok (.l2i, 1) := by decide +kernel
theorem dX8_cut_35 : decode cX8_cut 35 = .ok (.i2s, 1) := by decide +kernel
theorem dX8_cut_36 : decode cX8_cut 36 = .ok (.i2l, 1) := by decide +kernel
theorem dX8_cut_37 : decode cX8_cut 37 = .ok (.lreturn, 1) := by decide +kernel
theorem dX8_cut_38 : decode cX8_cut 38 = .ok (.lload_n 0, 1) := by decide +kernel
theorem dX8_cut_39 : decode cX8_cut 39 = .ok (.l2i, 1) := by decide +kernel
theorem dX8_cut_40 : decode cX8_cut 40 = .ok (.i2l, 1) := by decide +kernel
theorem dX8_cut_41 : decode cX8_cut 41 = .ok (.lreturn, 1) := by decide +kernel
theorem dX8_cut_42 : decode cX8_cut 42 = .ok (.lload_n 0, 1) := by decide +kernel
theorem dX8_cut_43 : decode cX8_cut 43 = .ok (.lreturn, 1) := by decide +kernel
theorem dX9_init_0 : decode cX9_init 0 = .ok (.aload_n 0, 1) := by decide +kernel
theorem dX9_init_1 : decode cX9_init 1 = .ok (.invokespecial 1, 3) := by decide +kernel
theorem dX9_init_4 : decode cX9_init 4 = .ok (.aload_n 0, 1) := by decide +kernel
theorem dX9_init_5 : decode cX9_init 5 = .ok (.bipush 12, 2) := by decide +kernel
theorem dX9_init_7 : decode cX9_init 7 = .ok (.newarray .int, 2) := by decide +kernel
theorem dX9_init_9 : decode cX9_init 9 = .ok (.putfield 9, 3) := by decide +kernel
theorem dX9_init_12 : decode cX9_init 12 = .ok (.return_, 1) := by decide +kernel
theorem dX9_put_0 : decode cX9_put 0 = .ok (.aload_n 0, 1) := by decide +kernel
theorem dX9_put_1 : decode cX9_put 1 = .ok (.invokevirtual 13, 3) := by decide +kernel
theorem dX9_put_4 : decode cX9_put 4 = .ok (.lload_n 1, 1) := by decide +kernel
theorem dX9_put_5 : decode cX9_put 5 = .ok (.lstore_n 3, 1) := by decide +kernel
theorem dX9_put_6 : decode cX9_put 6 = .ok (.iconst 0, 1) := by decide +kernel
theorem dX9_put_7 : decode cX9_put 7 = .ok (.istore 5, 2) := by decide +kernel
theorem dX9_put_9 : decode cX9_put 9 = .ok (.iload 5, 2) := by decide +kernel
theorem dX9_put_11 : decode cX9_put 11 = .ok (.iconst 3, 1) := by decide +kernel
theorem dX9_put_12 : decode cX9_put 12 = .ok (.if_icmp .ge 37, 3) := by decide +kernel
theorem dX9_put_15 : decode cX9_put 15 = .ok (.lload_n 3, 1) := by decide +kernel
theorem dX9_put_16 : decode cX9_put 16 = .ok (.lconst 0, 1) := by decide +kernel
theorem dX9_put_17 : decode cX9_put 17 = .ok (.lcmp, 1) := by decide +kernel
theorem dX9_put_18 : decode cX9_put 18 = .ok (.ifCond .eq 31, 3) := by decide +kernel
theorem dX9_put_21 : decode cX9_put 21 = .ok (.aload_n 0, 1) := by decide +kernel
theorem dX9_put_22 : decode cX9_put 22 = .ok (.getfield 9, 3) := by decide +kernel
theorem dX9_put_25 : decode cX9_put 25 = .ok (.iload 5, 2) := by decide +kernel
theorem dX9_put_27 : decode cX9_put 27 = .ok (.lload_n 3, 1) := by decide +kernel
theorem dX9_put_28 : decode cX9_put 28 = .ok (.ldc2_w 16, 3) := by decide +kernel
theorem dX9_put_31 : decode cX9_put 31 = .ok (.lrem, 1) := by decide +kernel
theorem dX9_put_32 : decode cX9_put 32 = .ok (.invokestatic 18, 3) := by decide +kernel
theorem dX9_put_35 : decode cX9_put 35 = .ok (.l2i, 1) := by decide +kernel
theorem dX9_put_36 : decode cX9_put 36 = .ok (.iastore, 1) := by decide +kernel
theorem dX9_put_37 : decode cX9_put 37 = .ok (.lload_n 3, 1) := by decide +kernel
theorem dX9_put_38 : decode cX9_put 38 = .ok (.ldc2_w 16, 3) := by decide +kernel
theorem dX9_put_41 : decode cX9_put 41 = .ok (.ldiv, 1) := by decide +kernel
theorem dX9_put_42 : decode cX9_put 42 = .ok (.lstore_n 3, 1) := by decide +kernel
theorem dX9_put_43 : decode cX9_put 43 = .ok (.iinc 5 1, 3) := by decide +kernel
theorem dX9_put_46 : decode cX9_put 46 = .ok (.goto (-37), 3) := by decide +kernel
theorem dX9_put_49 : decode cX9_put 49 = .ok (.aload_n 0, 1) := by decide +kernel
theorem dX9_put_50 : decode cX9_put 50 = .ok (.iconst 3, 1) := by decide +kernel
theorem dX9_put_51 : decode cX9_put 51 = .ok (.lload_n 1, 1) := by decide +kernel
theorem dX9_put_52 : decode cX9_put 52 = .ok (.invokestatic 24, 3) := by decide +kernel
theorem dX9_put_55 : decode cX9_put 55 = .ok (.invokevirtual 30, 3) := by decide +kernel
theorem dX9_put_58 : decode cX9_put 58 = .ok (.return_, 1) := by decide +kernel
theorem dX9_lowest_0 : decode cX9_lowest 0 = .ok (.aload_n 0, 1) := by decide +kernel
theorem dX9_lowest_1 : decode cX9_lowest 1 = .ok (.getfield 34, 3) := by decide +kernel
theorem dX9_lowest_4 : decode cX9_lowest 4 = .ok (.i2l, 1) := by decide +kernel
theorem dX9_lowest_5 : decode cX9_lowest 5 = .ok (.aload_n 0, 1) := by decide +kernel
theorem dX9_lowest_6 : decode cX9_lowest 6 = .ok (.getfield 9, 3) := by decide +kernel
theorem dX9_lowest_9 : decode cX9_lowest 9 = .ok (.iconst 0, 1) := by decide +kernel
theorem dX9_lowest_10 : decode cX9_lowest 10 = .ok (.iaload, 1) := by decide +kernel
theorem dX9_lowest_11 : decode cX9_lowest 11 = .ok (.i2l, 1) := by decide +kernel
theorem dX9_lowest_12 : decode cX9_lowest 12 = .ok (.lmul, 1) := by decide +kernel
theorem dX9_lowest_13 : decode cX9_lowest 13 = .ok (.lreturn, 1) := by decide +kernel
theorem dX9_copyFrom_0 : decode cX9_copyFrom 0 = .ok (.aload_n 0, 1) := by decide +kernel
theorem dX9_copyFrom_1 : decode cX9_copyFrom 1 = .ok (.getfield 38, 3) := by decide +kernel
theorem dX9_copyFrom_4 : decode cX9_copyFrom 4 = .ok (.aload_n 1, 1) := by decide +kernel
theorem dX9_copyFrom_5 : decode cX9_copyFrom 5 = .ok (.getfield 38, 3) := by decide +kernel
theorem dX9_copyFrom_8 : decode cX9_copyFrom 8 = .ok (.invokestatic 41, 3) := by decide +kernel
theorem dX9_copyFrom_11 : decode cX9_copyFrom 11 = .ok (.istore_n 2, 1) := by decide +kernel
theorem dX9_copyFrom_12 : decode cX9_copyFrom 12 = .ok (.iconst 0, 1) := by decide +kernel
theorem dX9_copyFrom_13 : decode cX9_copyFrom 13 = .ok (.istore_n 3, 1) := by decide +kernel
theorem dX9_copyFrom_14 : decode cX9_copyFrom 14 = .ok (.iload_n 3, 1) := by decide +kernel
theorem dX9_copyFrom_15 : decode cX9_copyFrom 15 = .ok (.iload_n 2, 1) := by decide +kernel
theorem dX9_copyFrom_16 : decode cX9_copyFrom 16 = .ok (.if_icmp .ge 27, 3) := by decide +kernel
theorem dX9_copyFrom_19 : decode cX9_copyFrom 19 = .ok (.iload_n 3, 1) := by decide +kernel
theorem dX9_copyFrom_20 : decode cX9_copyFrom 20 = .ok (.bipush 12, 2) := by decide +kernel
theorem dX9_copyFrom_22 : decode cX9_copyFrom 22 = .ok (.if_icmp .ge 21, 3) := by decide +kernel
theorem dX9_copyFrom_25 : decode cX9_copyFrom 25 = .ok (.aload_n 0, 1) := by decide +kernel
theorem dX9_copyFrom_26 : decode cX9_copyFrom 26 = .ok (.getfield 9, 3) := by decide +kernel
theorem dX9_copyFrom_29 : decode cX9_copyFrom 29 = .ok (.iload_n 3, 1) := by decide +kernel
theorem dX9_copyFrom_30 : decode cX9_copyFrom 30 = .ok (.aload_n 1, 1) := by decide +kernel
theorem dX9_copyFrom_31 : decode cX9_copyFrom 31 = .ok (.getfield 9, 3) := by decide +kernel
theorem dX9_copyFrom_34 : decode cX9_copyFrom 34 = .ok (.iload_n 3, 1) := by decide +kernel
theorem dX9_copyFrom_35 : decode cX9_copyFrom 35 = .ok (.iaload, 1) := by decide +kernel
theorem dX9_copyFrom_36 : decode cX9_copyFrom 36 = .ok (.iastore, 1) := by decide +kernel
theorem dX9_copyFrom_37 : decode cX9_copyFrom 37 = .ok (.iinc 3 1, 3) := by decide +kernel
theorem dX9_copyFrom_40 : decode cX9_copyFrom 40 = .ok (.goto (-26), 3) := by decide +kernel
theorem dX9_copyFrom_43 : decode cX9_copyFrom 43 = .ok (.aload_n 0, 1) := by decide +kernel
theorem dX9_copyFrom_44 : decode cX9_copyFrom 44 = .ok (.aload_n 1, 1) := by decide +kernel
theorem dX9_copyFrom_45 : decode cX9_copyFrom 45 = .ok (.getfield 38, 3) := by decide +kernel
theorem dX9_copyFrom_48 : decode cX9_copyFrom 48 = .ok (.putfield 38, 3) := by decide +kernel
theorem dX9_copyFrom_51 : decode cX9_copyFrom 51 = .ok (.aload_n 0, 1) := by decide +kernel
theorem dX9_copyFrom_52 : decode cX9_copyFrom 52 = .ok (.aload_n 1, 1) := by decide +kernel
theorem dX9_copyFrom_53 : decode cX9_copyFrom 53 = .ok (.getfield 34, 3) := by decide +kernel
theorem dX9_copyFrom_56 : decode cX9_copyFrom 56 = .ok (.putfield 34, 3) := by decide +kernel
theorem dX9_copyFrom_59 : decode cX9_copyFrom 59 = .ok (.return_, 1) := by decide +kernel
theorem dX9_compareSize_0 : decode cX9_compareSize 0 = .ok (.bipush 11, 2) := by decide +kernel
theorem dX9_compareSize_2 : decode cX9_compareSize 2 = .ok (.istore_n 2, 1) := by decide +kernel
theorem dX9_compareSize_3 : decode cX9_compareSize 3 = .ok (.iload_n 2, 1) := by decide +kernel
theorem dX9_compareSize_4 : decode cX9_compareSize 4 = .ok (.ifCond .lt 45, 3) := by decide +kernel
theorem dX9_compareSize_7 : decode cX9_compareSize 7 = .ok (.aload_n 0, 1) := by decide +kernel
theorem dX9_compareSize_8 : decode cX9_compareSize 8 = .ok (.getfield 9, 3) := by decide +kernel
theorem dX9_compareSize_11 : decode cX9_compareSize 11 = .ok (.iload_n 2, 1) := by decide +kernel
theorem dX9_compareSize_12 : decode cX9_compareSize 12 = .ok (.iaload, 1) := by decide +kernel
theorem dX9_compareSize_13 : decode cX9_compareSize 13 = .ok (.aload_n 1, 1) := by decide +kernel
theorem dX9_compareSize_14 : decode cX9_compareSize 14 = .ok (.getfield 9, 3) := by decide +kernel
theorem dX9_compareSize_17 : decode cX9_compareSize 17 = .ok (.iload_n 2, 1) := by decide +kernel
theorem dX9_compareSize_18 : decode cX9_compareSize 18 = .ok (.iaload, 1) := by decide +kernel
theorem dX9_compareSize_19 : decode cX9_compareSize 19 = .ok (.if_icmp .eq 24, 3) := by decide +kernel
theorem dX9_compareSize_22 : decode cX9_compareSize 22 = .ok (.aload_n 0, 1) := by decide +kernel
theorem dX9_compareSize_23 : decode cX9_compareSize 23 = .ok (.getfield 9, 3) := by decide +kernel
theorem dX9_compareSize_26 : decode cX9_compareSize 26 = .ok (.iload_n 2, 1) := by decide +kernel
theorem dX9_compareSize_27 : decode cX9_compareSize 27 = .ok (.iaload, 1) := by decide +kernel
theorem dX9_compareSize_28 : decode cX9_compareSize 28 = .ok (.aload_n 1, 1) := by decide +kernel
theorem dX9_compareSize_29 : decode cX9_compareSize 29 = .ok (.getfield 9, 3) := by decide +kernel
theorem dX9_compareSize_32 : decode cX9_compareSize 32 = .ok (.iload_n 2, 1) := by decide +kernel
theorem dX9_compareSize_33 : decode cX9_compareSize 33 = .ok (.iaload, 1) := by decide +kernel
theorem dX9_compareSize_34 : decode cX9_compareSize 34 = .ok (.if_icmp .le 7, 3) := by decide +kernel
theorem dX9_compareSize_37 : decode cX9_compareSize 37 = .ok (.iconst 1, 1) := by decide +kernel
theorem dX9_compareSize_38 : decode cX9_compareSize 38 = .ok (.goto 4, 3) := by decide +kernel
theorem dX9_compareSize_41 : decode cX9_compareSize 41 = .ok (.iconst (-1), 1) := by decide +kernel
theorem dX9_compareSize_42 : decode cX9_compareSize 42 = .ok (.ireturn, 1) := by decide +kernel
theorem dX9_compareSize_43 : decode cX9_compareSize 43 = .ok (.iinc 2 (-1), 3) := by decide +kernel
theorem dX9_compareSize_46 : decode cX9_compareSize 46 = .ok (.goto (-43), 3) := by decide +kernel
theorem dX9_compareSize_49 : decode cX9_compareSize 49 = .ok (.iconst 0, 1) := by decide +kernel
theorem dX9_compareSize_50 : decode cX9_compareSize 50 = .ok (.ireturn, 1) := by decide +kernel
theorem dX9_multiply_0 : decode cX9_multiply 0 = .ok (.aload_n 0, 1) := by decide +kernel
theorem dX9_multiply_1 : decode cX9_multiply 1 = .ok (.invokevirtual 13, 3) := by decide +kernel
theorem dX9_multiply_4 : decode cX9_multiply 4 = .ok (.iconst 0, 1) := by decide +kernel
theorem dX9_multiply_5 : decode cX9_multiply 5 = .ok (.istore_n 3, 1) := by decide +kernel
theorem dX9_multiply_6 : decode cX9_multiply 6 = .ok (.iload_n 3, 1) := by decide +kernel
theorem dX9_multiply_7 : decode cX9_multiply 7 = .ok (.aload_n 1, 1) := by decide +kernel
theorem dX9_multiply_8 : decode cX9_multiply 8 = .ok (.getfield 38, 3) := by decide +kernel
theorem dX9_multiply_11 : decode cX9_multiply 11 = .ok (.if_icmp .ge 127, 3) := by decide +kernel
theorem dX9_multiply_14 : decode cX9_multiply 14 = .ok (.aload_n 1, 1) := by decide +kernel
theorem dX9_multiply_15 : decode cX9_multiply 15 = .ok (.getfield 9, 3) := by decide +kernel
theorem dX9_multiply_18 : decode cX9_multiply 18 = .ok (.iload_n 3, 1) := by decide +kernel
theorem dX9_multiply_19 : decode cX9_multiply 19 = .ok (.iaload, 1) := by decide +kernel
theorem dX9_multiply_20 : decode cX9_multiply 20 = .ok (.i2l, 1) := by decide +kernel
theorem dX9_multiply_21 : decode cX9_multiply 21 = .ok (.lstore 4, 2) := by decide +kernel
theorem dX9_multiply_23 : decode cX9_multiply 23 = .ok (.lconst 0, 1) := by decide +kernel
theorem dX9_multiply_24 : decode cX9_multiply 24 = .ok (.lstore 6, 2) := by decide +kernel
theorem dX9_multiply_26 : decode cX9_multiply 26 = .ok (.iconst 0, 1) := by decide +kernel
theorem dX9_multiply_27 : decode cX9_multiply 27 = .ok (.istore 8, 2) := by decide +kernel
theorem dX9_multiply_29 : decode cX9_multiply 29 = .ok (.iload 8, 2) := by decide +kernel
theorem dX9_multiply_31 : decode cX9_multiply 31 = .ok (.aload_n 2, 1) := by decide +kernel
theorem dX9_multiply_32 : decode cX9_multiply 32 = .ok (.getfield 38, 3) := by decide +kernel
theorem dX9_multiply_35 : decode cX9_multiply 35 = .ok (.if_icmp .ge 72, 3) := by decide +kernel
theorem dX9_multiply_38 : decode cX9_multiply 38 = .ok (.iload_n 3, 1) := by decide +kernel
theorem dX9_multiply_39 : decode cX9_multiply 39 = .ok (.iload 8, 2) := by decide +kernel
theorem dX9_multiply_41 : decode cX9_multiply 41 = .ok (.iadd, 1) := by decide +kernel
theorem dX9_multiply_42 : decode cX9_multiply 42 = .ok (.bipush 12, 2) := by decide +kernel
theorem dX9_multiply_44 : decode cX9_multiply 44 = .ok (.if_icmp .ge 63, 3) := by decide +kernel
theorem dX9_multiply_47 : decode cX9_multiply 47 = .ok (.aload_n 0, 1) := by decide +kernel
theorem dX9_multiply_48 : decode cX9_multiply 48 = .ok (.getfield 9, 3) := by decide +kernel
theorem dX9_multiply_51 : decode cX9_multiply 51 = .ok (.iload_n 3, 1) := by decide +kernel
theorem dX9_multiply_52 : decode cX9_multiply 52 = .ok (.iload 8, 2) := by decide +kernel
theorem dX9_multiply_54 : decode cX9_multiply 54 = .ok (.iadd, 1) := by decide +kernel
theorem dX9_multiply_55 : decode cX9_multiply 55 = .ok (.iaload, 1) := by decide +kernel
theorem dX9_multiply_56 : decode cX9_multiply 56 = .ok (.i2l, 1) := by decide +kernel
theorem dX9_multiply_57 : decode cX9_multiply 57 = .ok (.lload 4, 2) := by decide +kernel
theorem dX9_multiply_59 : decode cX9_multiply 59 = .ok (.aload_n 2, 1) := by decide +kernel
theorem dX9_multiply_60 : decode cX9_multiply 60 = .ok (.getfield 9, 3) := by decide +kernel
theorem dX9_multiply_63 : decode cX9_multiply 63 = .ok (.iload 8, 2) := by decide +kernel
theorem dX9_multiply_65 : decode cX9_multiply 65 = .ok (.iaload, 1) := by decide +kernel
theorem dX9_multiply_66 : decode cX9_multiply 66 = .ok (.i2l, 1) := by decide +kernel
theorem dX9_multiply_67 : decode cX9_multiply 67 = .ok (.lmul, 1) := by decide +kernel
theorem dX9_multiply_68 : decode cX9_multiply 68 = .ok (.ladd, 1) := by decide +kernel
theorem dX9_multiply_69 : decode cX9_multiply 69 = .ok (.lload 6, 2) := by decide +kernel
theorem dX9_multiply_71 : decode cX9_multiply 71 = .ok (.ladd, 1) := by decide +kernel
theorem dX9_multiply_72 : decode cX9_multiply 72 = .ok (.lstore 9, 2) := by decide +kernel
theorem dX9_multiply_74 : decode cX9_multiply 74 = .ok (.lload 9, 2) := by decide +kernel
theorem dX9_multiply_76 : decode cX9_multiply 76 = .ok (.ldc2_w 16, 3) := by decide +kernel
theorem dX9_multiply_79 : decode cX9_multiply 79 = .ok (.ldiv, 1) := by decide +kernel
theorem dX9_multiply_80 : decode cX9_multiply 80 = .ok (.lstore 6, 2) := by decide +kernel
theorem dX9_multiply_82 : decode cX9_multiply 82 = .ok (.aload_n 0, 1) := by decide +kernel
theorem dX9_multiply_83 : decode cX9_multiply 83 = .ok (.getfield 9, 3) := by decide +kernel
theorem dX9_multiply_86 : decode cX9_multiply 86 = .ok (.iload_n 3, 1) := by decide +kernel
theorem dX9_multiply_87 : decode cX9_multiply 87 = .ok (.iload 8, 2) := by decide +kernel
theorem dX9_multiply_89 : decode cX9_multiply 89 = .ok (.iadd, 1) := by decide +kernel
theorem dX9_multiply_90 : decode cX9_multiply 90 = .ok (.lload 9, 2) := by decide +kernel
theorem dX9_multiply_92 : decode cX9_multiply 92 = .ok (.lload 6, 2) := by decide +kernel
theorem dX9_multiply_94 : decode cX9_multiply 94 = .ok (.ldc2_w 16, 3) := by decide +kernel
theorem dX9_multiply_97 : decode cX9_multiply 97 = .ok (.lmul, 1) := by decide +kernel
theorem dX9_multiply_98 : decode cX9_multiply 98 = .ok (.lsub, 1) := by decide +kernel
theorem dX9_multiply_99 : decode cX9_multiply 99 = .ok (.l2i, 1) := by decide +kernel
theorem dX9_multiply_100 : decode cX9_multiply 100 = .ok (.iastore, 1) := by decide +kernel
theorem dX9_multiply_101 : decode cX9_multiply 101 = .ok (.iinc 8 1, 3) := by decide +kernel
theorem dX9_multiply_104 : decode cX9_multiply 104 = .ok (.goto (-75), 3) := by decide +kernel
theorem dX9_multiply_107 : decode cX9_multiply 107 = .ok (.iload_n 3, 1) := by decide +kernel
theorem dX9_multiply_108 : decode cX9_multiply 108 = .ok (.aload_n 2, 1) := by decide +kernel
theorem dX9_multiply_109 : decode cX9_multiply 109 = .ok (.getfield 38, 3) := by decide +kernel
theorem dX9_multiply_112 : decode cX9_multiply 112 = .ok (.iadd, 1) := by decide +kernel
theorem dX9_multiply_113 : decode cX9_multiply 113 = .ok (.bipush 12, 2) := by decide +kernel
theorem dX9_multiply_115 : decode cX9_multiply 115 = .ok (.if_icmp .ge 17, 3) := by decide +kernel
theorem dX9_multiply_118 : decode cX9_multiply 118 = .ok (.aload_n 0, 1) := by decide +kernel
theorem dX9_multiply_119 : decode cX9_multiply 119 = .ok (.getfield 9, 3) := by decide +kernel
theorem dX9_multiply_122 : decode cX9_multiply 122 = .ok (.iload_n 3, 1) := by decide +kernel
theorem dX9_multiply_123 : decode cX9_multiply 123 = .ok (.aload_n 2, 1) := by decide +kernel
theorem dX9_multiply_124 : decode cX9_multiply 124 = .ok (.getfield 38, 3) := by decide +kernel
theorem dX9_multiply_127 : decode cX9_multiply 127 = .ok (.iadd, 1) := by decide +kernel
theorem dX9_multiply_128 : decode cX9_multiply 128 = .ok (.lload 6, 2) := by decide +kernel
theorem dX9_multiply_130 : decode cX9_multiply 130 = .ok (.l2i, 1) := by decide +kernel
theorem dX9_multiply_131 : decode cX9_multiply 131 = .ok (.iastore, 1) := by decide +kernel
theorem dX9_multiply_132 : decode cX9_multiply 132 = .ok (.iinc 3 1, 3) := by decide +kernel
theorem dX9_multiply_135 : decode cX9_multiply 135 = .ok (.goto (-129), 3) := by decide +kernel
theorem dX9_multiply_138 : decode cX9_multiply 138 = .ok (.aload_n 0, 1) := by decide +kernel
theorem dX9_multiply_139 : decode cX9_multiply 139 = .ok (.aload_n 1, 1) := by decide +kernel
theorem dX9_multiply_140 : decode cX9_multiply 140 = .ok (.getfield 38, 3) := by decide +kernel
theorem dX9_multiply_143 : decode cX9_multiply 143 = .ok (.aload_n 2, 1) := by decide +kernel
theorem dX9_multiply_144 : decode cX9_multiply 144 = .ok (.getfield 38, 3) := by decide +kernel
theorem dX9_multiply_147 : decode cX9_multiply 147 = .ok (.iadd, 1) := by decide +kernel
theorem dX9_multiply_148 : decode cX9_multiply 148 = .ok (.aload_n 1, 1) := by decide +kernel
theorem dX9_multiply_149 : decode cX9_multiply 149 = .ok (.getfield 34, 3) := by decide +kernel
theorem dX9_multiply_152 : decode cX9_multiply 152 = .ok (.aload_n 2, 1) := by decide +kernel
theorem dX9_multiply_153 : decode cX9_multiply 153 = .ok (.getfield 34, 3) := by decide +kernel
theorem dX9_multiply_156 : decode cX9_multiply 156 = .ok (.imul, 1) := by decide +kernel
theorem dX9_multiply_157 : decode cX9_multiply 157 = .ok (.invokevirtual 30, 3) := by decide +kernel
theorem dX9_multiply_160 : decode cX9_multiply 160 = .ok (.return_, 1) := by decide +kernel
theorem dX9_addTimes_0 : decode cX9_addTimes 0 = .ok (.bipush 12, 2) := by decide +kernel
theorem dX9_addTimes_2 : decode cX9_addTimes 2 = .ok (.aload_n 0, 1) := by decide +kernel
theorem dX9_addTimes_3 : decode cX9_addTimes 3 = .ok (.getfield 38, 3) := by decide +kernel
theorem dX9_addTimes_6 : decode cX9_addTimes 6 = .ok (.aload_n 1, 1) := by decide +kernel
theorem dX9_addTimes_7 : decode cX9_addTimes 7 = .ok (.getfield 38, 3) := by decide +kernel
theorem dX9_addTimes_10 : decode cX9_addTimes 10 = .ok (.invokestatic 41, 3) := by decide +kernel
theorem dX9_addTimes_13 : decode cX9_addTimes 13 = .ok (.iconst 2, 1) := by decide +kernel
theorem dX9_addTimes_14 : decode cX9_addTimes 14 = .ok (.iadd, 1) := by decide +kernel
theorem dX9_addTimes_15 : decode cX9_addTimes 15 = .ok (.invokestatic 45, 3) := by decide +kernel
theorem dX9_addTimes_18 : decode cX9_addTimes 18 = .ok (.istore_n 3, 1) := by decide +kernel
theorem dX9_addTimes_19 : decode cX9_addTimes 19 = .ok (.iload_n 2, 1) := by decide +kernel
theorem dX9_addTimes_20 : decode cX9_addTimes 20 = .ok (.i2l, 1) := by decide +kernel
theorem dX9_addTimes_21 : decode cX9_addTimes 21 = .ok (.aload_n 1, 1) := by decide +kernel
theorem dX9_addTimes_22 : decode cX9_addTimes 22 = .ok (.getfield 34, 3) := by decide +kernel
theorem dX9_addTimes_25 : decode cX9_addTimes 25 = .ok (.i2l, 1) := by decide +kernel
theorem dX9_addTimes_26 : decode cX9_addTimes 26 = .ok (.lmul, 1) := by decide +kernel
theorem dX9_addTimes_27 : decode cX9_addTimes 27 = .ok (.lstore 4, 2) := by decide +kernel
theorem dX9_addTimes_29 : decode cX9_addTimes 29 = .ok (.lconst 0, 1) := by decide +kernel
theorem dX9_addTimes_30 : decode cX9_addTimes 30 = .ok (.lstore 6, 2) := by decide +kernel
theorem dX9_addTimes_32 : decode cX9_addTimes 32 = .ok (.iconst 0, 1) := by decide +kernel
theorem dX9_addTimes_33 : decode cX9_addTimes 33 = .ok (.istore 8, 2) := by decide +kernel
theorem dX9_addTimes_35 : decode cX9_addTimes 35 = .ok (.iload 8, 2) := by decide +kernel
theorem dX9_addTimes_37 : decode cX9_addTimes 37 = .ok (.iload_n 3, 1) := by decide +kernel
theorem dX9_addTimes_38 : decode cX9_addTimes 38 = .ok (.if_icmp .ge 89, 3) := by decide +kernel
theorem dX9_addTimes_41 : decode cX9_addTimes 41 = .ok (.lload 6, 2) := by decide +kernel
theorem dX9_addTimes_43 : decode cX9_addTimes 43 = .ok (.aload_n 0, 1) := by decide +kernel
theorem dX9_addTimes_44 : decode cX9_addTimes 44 = .ok (.getfield 34, 3) := by decide +kernel
theorem dX9_addTimes_47 : decode cX9_addTimes 47 = .ok (.aload_n 0, 1) := by decide +kernel
theorem dX9_addTimes_48 : decode cX9_addTimes 48 = .ok (.getfield 9, 3) := by decide +kernel
theorem dX9_addTimes_51 : decode cX9_addTimes 51 = .ok (.iload 8, 2) := by decide +kernel
theorem dX9_addTimes_53 : decode cX9_addTimes 53 = .ok (.iaload, 1) := by decide +kernel
theorem dX9_addTimes_54 : decode cX9_addTimes 54 = .ok (.imul, 1) := by decide +kernel
theorem dX9_addTimes_55 : decode cX9_addTimes 55 = .ok (.i2l, 1) := by decide +kernel
theorem dX9_addTimes_56 : decode cX9_addTimes 56 = .ok (.ladd, 1) := by decide +kernel
theorem dX9_addTimes_57 : decode cX9_addTimes 57 = .ok (.lload 4, 2) := by decide +kernel
theorem dX9_addTimes_59 : decode cX9_addTimes 59 = .ok (.aload_n 1, 1) := by decide +kernel
theorem dX9_addTimes_60 : decode cX9_addTimes 60 = .ok (.getfield 9, 3) := by decide +kernel
theorem dX9_addTimes_63 : decode cX9_addTimes 63 = .ok (.iload 8, 2) := by decide +kernel
theorem dX9_addTimes_65 : decode cX9_addTimes 65 = .ok (.iaload, 1) := by decide +kernel
theorem dX9_addTimes_66 : decode cX9_addTimes 66 = .ok (.i2l, 1) := by decide +kernel
theorem dX9_addTimes_67 : decode cX9_addTimes 67 = .ok (.lmul, 1) := by decide +kernel
theorem dX9_addTimes_68 : decode cX9_addTimes 68 = .ok (.ladd, 1) := by decide +kernel
theorem dX9_addTimes_69 : decode cX9_addTimes 69 = .ok (.lstore 9, 2) := by decide +kernel
theorem dX9_addTimes_71 : decode cX9_addTimes 71 = .ok (.lload 9, 2) := by decide +kernel
theorem dX9_addTimes_73 : decode cX9_addTimes 73 = .ok (.ldc2_w 16, 3) := by decide +kernel
theorem dX9_addTimes_76 : decode cX9_addTimes 76 = .ok (.ldiv, 1) := by decide +kernel
theorem dX9_addTimes_77 : decode cX9_addTimes 77 = .ok (.lstore 6, 2) := by decide +kernel
theorem dX9_addTimes_79 : decode cX9_addTimes 79 = .ok (.lload 9, 2) := by decide +kernel
theorem dX9_addTimes_81 : decode cX9_addTimes 81 = .ok (.lload 6, 2) := by decide +kernel
theorem dX9_addTimes_83 : decode cX9_addTimes 83 = .ok (.ldc2_w 16, 3) := by decide +kernel
theorem dX9_addTimes_86 : decode cX9_addTimes 86 = .ok (.lmul, 1) := by decide +kernel
theorem dX9_addTimes_87 : decode cX9_addTimes 87 = .ok (.lsub, 1) := by decide +kernel
theorem dX9_addTimes_88 : decode cX9_addTimes 88 = .ok (.lstore 11, 2) := by decide +kernel
theorem dX9_addTimes_90 : decode cX9_addTimes 90 = .ok (.lload 11, 2) := by decide +kernel
theorem dX9_addTimes_92 : decode cX9_addTimes 92 = .ok (.lconst 0, 1) := by decide +kernel
theorem dX9_addTimes_93 : decode cX9_addTimes 93 = .ok (.lcmp, 1) := by decide +kernel
theorem dX9_addTimes_94 : decode cX9_addTimes 94 = .ok (.ifCond .ge 17, 3) := by decide +kernel
theorem dX9_addTimes_97 : decode cX9_addTimes 97 = .ok (.lload 11, 2) := by decide +kernel
theorem dX9_addTimes_99 : decode cX9_addTimes 99 = .ok (.ldc2_w 16, 3) := by decide +kernel
theorem dX9_addTimes_102 : decode cX9_addTimes 102 = .ok (.ladd, 1) := by decide +kernel
theorem dX9_addTimes_103 : decode cX9_addTimes 103 = .ok (.lstore 11, 2) := by decide +kernel
theorem dX9_addTimes_105 : decode cX9_addTimes 105 = .ok (.lload 6, 2) := by decide +kernel
theorem dX9_addTimes_107 : decode cX9_addTimes 107 = .ok (.lconst 1, 1) := by decide +kernel
theorem dX9_addTimes_108 : decode cX9_addTimes 108 = .ok (.lsub, 1) := by decide +kernel
theorem dX9_addTimes_109 : decode cX9_addTimes 109 = .ok (.lstore 6, 2) := by decide +kernel
theorem dX9_addTimes_111 : decode cX9_addTimes 111 = .ok (.aload_n 0, 1) := by decide +kernel
theorem dX9_addTimes_112 : decode cX9_addTimes 112 = .ok (.getfield 9, 3) := by decide +kernel
theorem dX9_addTimes_115 : decode cX9_addTimes 115 = .ok (.iload 8, 2) := by decide +kernel
theorem dX9_addTimes_117 : decode cX9_addTimes 117 = .ok (.lload 11, 2) := by decide +kernel
theorem dX9_addTimes_119 : decode cX9_addTimes 119 = .ok (.l2i, 1) := by decide +kernel
theorem dX9_addTimes_120 : decode cX9_addTimes 120 = .ok (.iastore, 1) := by decide +kernel
theorem dX9_addTimes_121 : decode cX9_addTimes 121 = .ok (.iinc 8 1, 3) := by decide +kernel
theorem dX9_addTimes_124 : decode cX9_addTimes 124 = .ok (.goto (-89), 3) := by decide +kernel
theorem dX9_addTimes_127 : decode cX9_addTimes 127 = .ok (.lload 6, 2) := by decide +kernel
theorem dX9_addTimes_129 : decode cX9_addTimes 129 = .ok (.lconst 0, 1) := by decide +kernel
theorem dX9_addTimes_130 : decode cX9_addTimes 130 = .ok (.lcmp, 1) := by decide +kernel
theorem dX9_addTimes_131 : decode cX9_addTimes 131 = .ok (.ifCond .ge 8, 3) := by decide +kernel
theorem dX9_addTimes_134 : decode cX9_addTimes 134 = .ok (.aload_n 0, 1) := by decide +kernel
theorem dX9_addTimes_135 : decode cX9_addTimes 135 = .ok (.iload_n 3, 1) := by decide +kernel
theorem dX9_addTimes_136 : decode cX9_addTimes 136 = .ok (.invokevirtual 48, 3) := by decide +kernel
theorem dX9_addTimes_139 : decode cX9_addTimes 139 = .ok (.aload_n 0, 1) := by decide +kernel
theorem dX9_addTimes_140 : decode cX9_addTimes 140 = .ok (.iload_n 3, 1) := by decide +kernel
theorem dX9_addTimes_141 : decode cX9_addTimes 141 = .ok (.lload 6, 2) := by decide +kernel
theorem dX9_addTimes_143 : decode cX9_addTimes 143 = .ok (.lconst 0, 1) := by decide +kernel
theorem dX9_addTimes_144 : decode cX9_addTimes 144 = .ok (.lcmp, 1) := by decide +kernel
theorem dX9_addTimes_145 : decode cX9_addTimes 145 = .ok (.ifCond .ge 7, 3) := by decide +kernel
theorem dX9_addTimes_148 : decode cX9_addTimes 148 = .ok (.iconst (-1), 1) := by decide +kernel
theorem dX9_addTimes_149 : decode cX9_addTimes 149 = .ok (.goto 4, 3) := by decide +kernel
theorem dX9_addTimes_152 : decode cX9_addTimes 152 = .ok (.iconst 1, 1) := by decide +kernel
theorem dX9_addTimes_153 : decode cX9_addTimes 153 = .ok (.invokevirtual 30, 3) := by decide +kernel
theorem dX9_addTimes_156 : decode cX9_addTimes 156 = .ok (.return_, 1) := by decide +kernel
theorem dX9_complement_0 : decode cX9_complement 0 = .ok (.lconst 0, 1) := by decide +kernel
theorem dX9_complement_1 : decode cX9_complement 1 = .ok (.lstore_n 2, 1) := by decide +kernel
theorem dX9_complement_2 : decode cX9_complement 2 = .ok (.iconst 0, 1) := by decide +kernel
theorem dX9_complement_3 : decode cX9_complement 3 = .ok (.istore 4, 2) := by decide +kernel
theorem dX9_complement_5 : decode cX9_complement 5 = .ok (.iload 4, 2) := by decide +kernel
theorem dX9_complement_7 : decode cX9_complement 7 = .ok (.iload_n 1, 1) := by decide +kernel
theorem dX9_complement_8 : decode cX9_complement 8 = .ok (.if_icmp .ge 51, 3) := by decide +kernel
theorem dX9_complement_11 : decode cX9_complement 11 = .ok (.lload_n 2, 1) := by decide +kernel
theorem dX9_complement_12 : decode cX9_complement 12 = .ok (.lneg, 1) := by decide +kernel
theorem dX9_complement_13 : decode cX9_complement 13 = .ok (.aload_n 0, 1) := by decide +kernel
theorem dX9_complement_14 : decode cX9_complement 14 = .ok (.getfield 9, 3) := by decide +kernel
theorem dX9_complement_17 : decode cX9_complement 17 = .ok (.iload 4, 2) := by decide +kernel
theorem dX9_complement_19 : decode cX9_complement 19 = .ok (.iaload, 1) := by decide +kernel
theorem dX9_complement_20 : decode cX9_complement 20 = .ok (.i2l, 1) := by decide +kernel
theorem dX9_complement_21 : decode cX9_complement 21 = .ok (.lsub, 1) := by decide +kernel
theorem dX9_complement_22 : decode cX9_complement 22 = .ok (.lstore 5, 2) := by decide +kernel
theorem dX9_complement_24 : decode cX9_complement 24 = .ok (.lload 5, 2) := by decide +kernel
theorem dX9_complement_26 : decode cX9_complement 26 = .ok (.lconst 0, 1) := by decide +kernel
theorem dX9_complement_27 : decode cX9_complement 27 = .ok (.lcmp, 1) := by decide +kernel
theorem dX9_complement_28 : decode cX9_complement 28 = .ok (.ifCond .ge 7, 3) := by decide +kernel
theorem dX9_complement_31 : decode cX9_complement 31 = .ok (.lconst 1, 1) := by decide +kernel
theorem dX9_complement_32 : decode cX9_complement 32 = .ok (.goto 4, 3) := by decide +kernel
theorem dX9_complement_35 : decode cX9_complement 35 = .ok (.lconst 0, 1) := by decide +kernel
theorem dX9_complement_36 : decode cX9_complement 36 = .ok (.lstore_n 2, 1) := by decide +kernel
theorem dX9_complement_37 : decode cX9_complement 37 = .ok (.aload_n 0, 1) := by decide +kernel
theorem dX9_complement_38 : decode cX9_complement 38 = .ok (.getfield 9, 3) := by decide +kernel
theorem dX9_complement_41 : decode cX9_complement 41 = .ok (.iload 4, 2) := by decide +kernel
theorem dX9_complement_43 : decode cX9_complement 43 = .ok (.lload 5, 2) := by decide +kernel
theorem dX9_complement_45 : decode cX9_complement 45 = .ok (.lload_n 2, 1) := by decide +kernel
theorem dX9_complement_46 : decode cX9_complement 46 = .ok (.ldc2_w 16, 3) := by decide +kernel
theorem dX9_complement_49 : decode cX9_complement 49 = .ok (.lmul, 1) := by decide +kernel
theorem dX9_complement_50 : decode cX9_complement 50 = .ok (.ladd, 1) := by decide +kernel
theorem dX9_complement_51 : decode cX9_complement 51 = .ok (.l2i, 1) := by decide +kernel
theorem dX9_complement_52 : decode cX9_complement 52 = .ok (.iastore, 1) := by decide +kernel
theorem dX9_complement_53 : decode cX9_complement 53 = .ok (.iinc 4 1, 3) := by decide +kernel
theorem dX9_complement_56 : decode cX9_complement 56 = .ok (.goto (-51), 3) := by decide +kernel
theorem dX9_complement_59 : decode cX9_complement 59 = .ok (.return_, 1) := by decide +kernel
theorem dX9_clear_0 : decode cX9_clear 0 = .ok (.iconst 0, 1) := by decide +kernel
theorem dX9_clear_1 : decode cX9_clear 1 = .ok (.istore_n 1, 1) := by decide +kernel
theorem dX9_clear_2 : decode cX9_clear 2 = .ok (.iload_n 1, 1) := by decide +kernel
theorem dX9_clear_3 : decode cX9_clear 3 = .ok (.aload_n 0, 1) := by decide +kernel
theorem dX9_clear_4 : decode cX9_clear 4 = .ok (.getfield 38, 3) := by decide +kernel
theorem dX9_clear_7 : decode cX9_clear 7 = .ok (.if_icmp .ge 16, 3) := by decide +kernel
theorem dX9_clear_10 : decode cX9_clear 10 = .ok (.aload_n 0, 1) := by decide +kernel
theorem dX9_clear_11 : decode cX9_clear 11 = .ok (.getfield 9, 3) := by decide +kernel
theorem dX9_clear_14 : decode cX9_clear 14 = .ok (.iload_n 1, 1) := by decide +kernel
theorem dX9_clear_15 : decode cX9_clear 15 = .ok (.iconst 0, 1) := by decide +kernel
theorem dX9_clear_16 : decode cX9_clear 16 = .ok (.iastore, 1) := by decide +kernel
theorem dX9_clear_17 : decode cX9_clear 17 = .ok (.iinc 1 1, 3) := by decide +kernel
theorem dX9_clear_20 : decode cX9_clear 20 = .ok (.goto (-18), 3) := by decide +kernel
theorem dX9_clear_23 : decode cX9_clear 23 = .ok (.aload_n 0, 1) := by decide +kernel
theorem dX9_clear_24 : decode cX9_clear 24 = .ok (.iconst 0, 1) := by decide +kernel
theorem dX9_clear_25 : decode cX9_clear 25 = .ok (.putfield 38, 3) := by decide +kernel
theorem dX9_clear_28 : decode cX9_clear 28 = .ok (.return_, 1) := by decide +kernel
theorem dX9_trim_0 : decode cX9_trim 0 = .ok (.aload_n 0, 1) := by decide +kernel
theorem dX9_trim_1 : decode cX9_trim 1 = .ok (.iload_n 1, 1) := by decide +kernel
theorem dX9_trim_2 : decode cX9_trim 2 = .ok (.ifCond .ge 7, 3) := by decide +kernel
theorem dX9_trim_5 : decode cX9_trim 5 = .ok (.iconst 0, 1) := by decide +kernel
theorem dX9_trim_6 : decode cX9_trim 6 = .ok (.goto 15, 3) := by decide +kernel
theorem dX9_trim_9 : decode cX9_trim 9 = .ok (.iload_n 1, 1) := by decide +kernel
theorem dX9_trim_10 : decode cX9_trim 10 = .ok (.bipush 12, 2) := by decide +kernel
theorem dX9_trim_12 : decode cX9_trim 12 = .ok (.if_icmp .le 8, 3) := by decide +kernel
theorem dX9_trim_15 : decode cX9_trim 15 = .ok (.bipush 12, 2) := by decide +kernel
theorem dX9_trim_17 : decode cX9_trim 17 = .ok (.goto 4, 3) := by decide +kernel
theorem dX9_trim_20 : decode cX9_trim 20 = .ok (.iload_n 1, 1) := by decide +kernel
theorem dX9_trim_21 : decode cX9_trim 21 = .ok (.putfield 38, 3) := by decide +kernel
theorem dX9_trim_24 : decode cX9_trim 24 = .ok (.aload_n 0, 1) := by decide +kernel
theorem dX9_trim_25 : decode cX9_trim 25 = .ok (.getfield 38, 3) := by decide +kernel
theorem dX9_trim_28 : decode cX9_trim 28 = .ok (.ifCond .le 30, 3) := by decide +kernel
theorem dX9_trim_31 : decode cX9_trim 31 = .ok (.aload_n 0, 1) := by decide +kernel
theorem dX9_trim_32 : decode cX9_trim 32 = .ok (.getfield 9, 3) := by decide +kernel
theorem dX9_trim_35 : decode cX9_trim 35 = .ok (.aload_n 0, 1) := by decide +kernel
theorem dX9_trim_36 : decode cX9_trim 36 = .ok (.getfield 38, 3) := by decide +kernel
theorem dX9_trim_39 : decode cX9_trim 39 = .ok (.iconst 1, 1) := by decide +kernel
theorem dX9_trim_40 : decode cX9_trim 40 = .ok (.isub, 1) := by decide +kernel
theorem dX9_trim_41 : decode cX9_trim 41 = .ok (.iaload, 1) := by decide +kernel
theorem dX9_trim_42 : decode cX9_trim 42 = .ok (.ifCond .ne 16, 3) := by decide +kernel
theorem dX9_trim_45 : decode cX9_trim 45 = .ok (.aload_n 0, 1) := by decide +kernel
theorem dX9_trim_46 : decode cX9_trim 46 = .ok (.dup, 1) := by decide +kernel
theorem dX9_trim_47 : decode cX9_trim 47 = .ok (.getfield 38, 3) := by decide +kernel
theorem dX9_trim_50 : decode cX9_trim 50 = .ok (.iconst 1, 1) := by decide +kernel
theorem dX9_trim_51 : decode cX9_trim 51 = .ok (.isub, 1) := by decide +kernel
theorem dX9_trim_52 : decode cX9_trim 52 = .ok (.putfield 38, 3) := by decide +kernel
theorem dX9_trim_55 : decode cX9_trim 55 = .ok (.goto (-31), 3) := by decide +kernel
theorem dX9_trim_58 : decode cX9_trim 58 = .ok (.aload_n 0, 1) := by decide +kernel
theorem dX9_trim_59 : decode cX9_trim 59 = .ok (.aload_n 0, 1) := by decide +kernel
theorem dX9_trim_60 : decode cX9_trim 60 = .ok (.getfield 38, 3) := by decide +kernel
theorem dX9_trim_63 : decode cX9_trim 63 = .ok (.ifCond .ne 7, 3) := by decide +kernel
theorem dX9_trim_66 : decode cX9_trim 66 = .ok (.iconst 0, 1) := by decide +kernel
