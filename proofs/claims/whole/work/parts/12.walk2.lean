theorem dX2_test_0 : decode cX2_test 0 = .ok (.aload_n 0, 1) := by decide +kernel
theorem dX2_test_1 : decode cX2_test 1 = .ok (.iload_n 1, 1) := by decide +kernel
theorem dX2_test_2 : decode cX2_test 2 = .ok (.invokevirtual 23, 3) := by decide +kernel
theorem dX2_test_5 : decode cX2_test 5 = .ok (.istore_n 2, 1) := by decide +kernel
theorem dX2_test_6 : decode cX2_test 6 = .ok (.iconst 0, 1) := by decide +kernel
theorem dX2_test_7 : decode cX2_test 7 = .ok (.istore_n 3, 1) := by decide +kernel
theorem dX2_test_8 : decode cX2_test 8 = .ok (.iload_n 3, 1) := by decide +kernel
theorem dX2_test_9 : decode cX2_test 9 = .ok (.sipush 1600, 3) := by decide +kernel
theorem dX2_test_12 : decode cX2_test 12 = .ok (.if_icmp .ge 58, 3) := by decide +kernel
theorem dX2_test_15 : decode cX2_test 15 = .ok (.iload_n 2, 1) := by decide +kernel
theorem dX2_test_16 : decode cX2_test 16 = .ok (.ifCond .eq 54, 3) := by decide +kernel
theorem dX2_test_19 : decode cX2_test 19 = .ok (.aload_n 0, 1) := by decide +kernel
theorem dX2_test_20 : decode cX2_test 20 = .ok (.getfield 9, 3) := by decide +kernel
theorem dX2_test_23 : decode cX2_test 23 = .ok (.bipush 18, 2) := by decide +kernel
theorem dX2_test_25 : decode cX2_test 25 = .ok (.invokevirtual 29, 3) := by decide +kernel
theorem dX2_test_28 : decode cX2_test 28 = .ok (.ifCond .eq 42, 3) := by decide +kernel
theorem dX2_test_31 : decode cX2_test 31 = .ok (.aload_n 0, 1) := by decide +kernel
theorem dX2_test_32 : decode cX2_test 32 = .ok (.getfield 9, 3) := by decide +kernel
theorem dX2_test_35 : decode cX2_test 35 = .ok (.invokevirtual 32, 3) := by decide +kernel
theorem dX2_test_38 : decode cX2_test 38 = .ok (.aload_n 0, 1) := by decide +kernel
theorem dX2_test_39 : decode cX2_test 39 = .ok (.iload_n 1, 1) := by decide +kernel
theorem dX2_test_40 : decode cX2_test 40 = .ok (.invokevirtual 23, 3) := by decide +kernel
theorem dX2_test_43 : decode cX2_test 43 = .ok (.ifCond .eq 19, 3) := by decide +kernel
theorem dX2_test_46 : decode cX2_test 46 = .ok (.aload_n 0, 1) := by decide +kernel
theorem dX2_test_47 : decode cX2_test 47 = .ok (.getfield 15, 3) := by decide +kernel
theorem dX2_test_50 : decode cX2_test 50 = .ok (.bipush (-19), 2) := by decide +kernel
theorem dX2_test_52 : decode cX2_test 52 = .ok (.invokevirtual 37, 3) := by decide +kernel
theorem dX2_test_55 : decode cX2_test 55 = .ok (.ifCond .eq 7, 3) := by decide +kernel
theorem dX2_test_58 : decode cX2_test 58 = .ok (.iconst 1, 1) := by decide +kernel
theorem dX2_test_59 : decode cX2_test 59 = .ok (.goto 4, 3) := by decide +kernel
theorem dX2_test_62 : decode cX2_test 62 = .ok (.iconst 0, 1) := by decide +kernel
theorem dX2_test_63 : decode cX2_test 63 = .ok (.istore_n 2, 1) := by decide +kernel
theorem dX2_test_64 : decode cX2_test 64 = .ok (.iinc 3 1, 3) := by decide +kernel
theorem dX2_test_67 : decode cX2_test 67 = .ok (.goto (-59), 3) := by decide +kernel
theorem dX2_test_70 : decode cX2_test 70 = .ok (.iload_n 2, 1) := by decide +kernel
theorem dX2_test_71 : decode cX2_test 71 = .ok (.ireturn, 1) := by decide +kernel
theorem dX2_both_0 : decode cX2_both 0 = .ok (.aload_n 0, 1) := by decide +kernel
theorem dX2_both_1 : decode cX2_both 1 = .ok (.iload_n 1, 1) := by decide +kernel
theorem dX2_both_2 : decode cX2_both 2 = .ok (.invokevirtual 40, 3) := by decide +kernel
theorem dX2_both_5 : decode cX2_both 5 = .ok (.istore_n 2, 1) := by decide +kernel
theorem dX2_both_6 : decode cX2_both 6 = .ok (.iconst 0, 1) := by decide +kernel
theorem dX2_both_7 : decode cX2_both 7 = .ok (.istore_n 3, 1) := by decide +kernel
theorem dX2_both_8 : decode cX2_both 8 = .ok (.iload_n 3, 1) := by decide +kernel
theorem dX2_both_9 : decode cX2_both 9 = .ok (.sipush 1600, 3) := by decide +kernel
theorem dX2_both_12 : decode cX2_both 12 = .ok (.if_icmp .ge 58, 3) := by decide +kernel
theorem dX2_both_15 : decode cX2_both 15 = .ok (.iload_n 2, 1) := by decide +kernel
theorem dX2_both_16 : decode cX2_both 16 = .ok (.ifCond .eq 54, 3) := by decide +kernel
theorem dX2_both_19 : decode cX2_both 19 = .ok (.aload_n 0, 1) := by decide +kernel
theorem dX2_both_20 : decode cX2_both 20 = .ok (.getfield 9, 3) := by decide +kernel
theorem dX2_both_23 : decode cX2_both 23 = .ok (.bipush 19, 2) := by decide +kernel
theorem dX2_both_25 : decode cX2_both 25 = .ok (.invokevirtual 29, 3) := by decide +kernel
theorem dX2_both_28 : decode cX2_both 28 = .ok (.ifCond .eq 42, 3) := by decide +kernel
theorem dX2_both_31 : decode cX2_both 31 = .ok (.aload_n 0, 1) := by decide +kernel
theorem dX2_both_32 : decode cX2_both 32 = .ok (.getfield 9, 3) := by decide +kernel
theorem dX2_both_35 : decode cX2_both 35 = .ok (.invokevirtual 32, 3) := by decide +kernel
theorem dX2_both_38 : decode cX2_both 38 = .ok (.aload_n 0, 1) := by decide +kernel
theorem dX2_both_39 : decode cX2_both 39 = .ok (.iload_n 1, 1) := by decide +kernel
theorem dX2_both_40 : decode cX2_both 40 = .ok (.invokevirtual 40, 3) := by decide +kernel
theorem dX2_both_43 : decode cX2_both 43 = .ok (.ifCond .eq 19, 3) := by decide +kernel
theorem dX2_both_46 : decode cX2_both 46 = .ok (.aload_n 0, 1) := by decide +kernel
theorem dX2_both_47 : decode cX2_both 47 = .ok (.getfield 15, 3) := by decide +kernel
theorem dX2_both_50 : decode cX2_both 50 = .ok (.bipush (-18), 2) := by decide +kernel
theorem dX2_both_52 : decode cX2_both 52 = .ok (.invokevirtual 37, 3) := by decide +kernel
theorem dX2_both_55 : decode cX2_both 55 = .ok (.ifCond .eq 7, 3) := by decide +kernel
theorem dX2_both_58 : decode cX2_both 58 = .ok (.iconst 1, 1) := by decide +kernel
theorem dX2_both_59 : decode cX2_both 59 = .ok (.goto 4, 3) := by decide +kernel
theorem dX2_both_62 : decode cX2_both 62 = .ok (.iconst 0, 1) := by decide +kernel
theorem dX2_both_63 : decode cX2_both 63 = .ok (.istore_n 2, 1) := by decide +kernel
theorem dX2_both_64 : decode cX2_both 64 = .ok (.iinc 3 1, 3) := by decide +kernel
theorem dX2_both_67 : decode cX2_both 67 = .ok (.goto (-59), 3) := by decide +kernel
theorem dX2_both_70 : decode cX2_both 70 = .ok (.iload_n 2, 1) := by decide +kernel
theorem dX2_both_71 : decode cX2_both 71 = .ok (.ireturn, 1) := by decide +kernel
theorem dX2_fact_0 : decode cX2_fact 0 = .ok (.aload_n 0, 1) := by decide +kernel
theorem dX2_fact_1 : decode cX2_fact 1 = .ok (.getfield 9, 3) := by decide +kernel
theorem dX2_fact_4 : decode cX2_fact 4 = .ok (.bipush 20, 2) := by decide +kernel
theorem dX2_fact_6 : decode cX2_fact 6 = .ok (.invokevirtual 29, 3) := by decide +kernel
theorem dX2_fact_9 : decode cX2_fact 9 = .ok (.ifCond .eq 39, 3) := by decide +kernel
theorem dX2_fact_12 : decode cX2_fact 12 = .ok (.aload_n 0, 1) := by decide +kernel
theorem dX2_fact_13 : decode cX2_fact 13 = .ok (.iload_n 1, 1) := by decide +kernel
theorem dX2_fact_14 : decode cX2_fact 14 = .ok (.invokevirtual 43, 3) := by decide +kernel
theorem dX2_fact_17 : decode cX2_fact 17 = .ok (.ifCond .eq 29, 3) := by decide +kernel
theorem dX2_fact_20 : decode cX2_fact 20 = .ok (.aload_n 0, 1) := by decide +kernel
theorem dX2_fact_21 : decode cX2_fact 21 = .ok (.iload_n 1, 1) := by decide +kernel
theorem dX2_fact_22 : decode cX2_fact 22 = .ok (.iconst 1, 1) := by decide +kernel
theorem dX2_fact_23 : decode cX2_fact 23 = .ok (.iadd, 1) := by decide +kernel
theorem dX2_fact_24 : decode cX2_fact 24 = .ok (.invokevirtual 40, 3) := by decide +kernel
theorem dX2_fact_27 : decode cX2_fact 27 = .ok (.ifCond .eq 19, 3) := by decide +kernel
theorem dX2_fact_30 : decode cX2_fact 30 = .ok (.aload_n 0, 1) := by decide +kernel
theorem dX2_fact_31 : decode cX2_fact 31 = .ok (.getfield 15, 3) := by decide +kernel
theorem dX2_fact_34 : decode cX2_fact 34 = .ok (.bipush (-20), 2) := by decide +kernel
theorem dX2_fact_36 : decode cX2_fact 36 = .ok (.invokevirtual 37, 3) := by decide +kernel
theorem dX2_fact_39 : decode cX2_fact 39 = .ok (.ifCond .eq 7, 3) := by decide +kernel
theorem dX2_fact_42 : decode cX2_fact 42 = .ok (.iconst 1, 1) := by decide +kernel
theorem dX2_fact_43 : decode cX2_fact 43 = .ok (.goto 4, 3) := by decide +kernel
theorem dX2_fact_46 : decode cX2_fact 46 = .ok (.iconst 0, 1) := by decide +kernel
theorem dX2_fact_47 : decode cX2_fact 47 = .ok (.ireturn, 1) := by decide +kernel
theorem dX2_fact_48 : decode cX2_fact 48 = .ok (.aload_n 0, 1) := by decide +kernel
theorem dX2_fact_49 : decode cX2_fact 49 = .ok (.getfield 9, 3) := by decide +kernel
theorem dX2_fact_52 : decode cX2_fact 52 = .ok (.bipush 91, 2) := by decide +kernel
theorem dX2_fact_54 : decode cX2_fact 54 = .ok (.invokevirtual 46, 3) := by decide +kernel
theorem dX2_fact_57 : decode cX2_fact 57 = .ok (.ifCond .eq 39, 3) := by decide +kernel
theorem dX2_fact_60 : decode cX2_fact 60 = .ok (.aload_n 0, 1) := by decide +kernel
theorem dX2_fact_61 : decode cX2_fact 61 = .ok (.iload_n 1, 1) := by decide +kernel
theorem dX2_fact_62 : decode cX2_fact 62 = .ok (.invokevirtual 43, 3) := by decide +kernel
theorem dX2_fact_65 : decode cX2_fact 65 = .ok (.ifCond .eq 29, 3) := by decide +kernel
theorem dX2_fact_68 : decode cX2_fact 68 = .ok (.aload_n 0, 1) := by decide +kernel
theorem dX2_fact_69 : decode cX2_fact 69 = .ok (.iload_n 1, 1) := by decide +kernel
theorem dX2_fact_70 : decode cX2_fact 70 = .ok (.iconst 1, 1) := by decide +kernel
theorem dX2_fact_71 : decode cX2_fact 71 = .ok (.iadd, 1) := by decide +kernel
theorem dX2_fact_72 : decode cX2_fact 72 = .ok (.invokevirtual 50, 3) := by decide +kernel
theorem dX2_fact_75 : decode cX2_fact 75 = .ok (.ifCond .eq 19, 3) := by decide +kernel
theorem dX2_fact_78 : decode cX2_fact 78 = .ok (.aload_n 0, 1) := by decide +kernel
theorem dX2_fact_79 : decode cX2_fact 79 = .ok (.getfield 9, 3) := by decide +kernel
theorem dX2_fact_82 : decode cX2_fact 82 = .ok (.bipush 93, 2) := by decide +kernel
theorem dX2_fact_84 : decode cX2_fact 84 = .ok (.invokevirtual 53, 3) := by decide +kernel
theorem dX2_fact_87 : decode cX2_fact 87 = .ok (.ifCond .eq 7, 3) := by decide +kernel
theorem dX2_fact_90 : decode cX2_fact 90 = .ok (.iconst 1, 1) := by decide +kernel
theorem dX2_fact_91 : decode cX2_fact 91 = .ok (.goto 4, 3) := by decide +kernel
theorem dX2_fact_94 : decode cX2_fact 94 = .ok (.iconst 0, 1) := by decide +kernel
theorem dX2_fact_95 : decode cX2_fact 95 = .ok (.ireturn, 1) := by decide +kernel
theorem dX2_fact_96 : decode cX2_fact 96 = .ok (.aload_n 0, 1) := by decide +kernel
theorem dX2_fact_97 : decode cX2_fact 97 = .ok (.getfield 9, 3) := by decide +kernel
theorem dX2_fact_100 : decode cX2_fact 100 = .ok (.bipush 21, 2) := by decide +kernel
theorem dX2_fact_102 : decode cX2_fact 102 = .ok (.invokevirtual 29, 3) := by decide +kernel
theorem dX2_fact_105 : decode cX2_fact 105 = .ok (.ifCond .eq 9, 3) := by decide +kernel
theorem dX2_fact_108 : decode cX2_fact 108 = .ok (.aload_n 0, 1) := by decide +kernel
theorem dX2_fact_109 : decode cX2_fact 109 = .ok (.iconst 1, 1) := by decide +kernel
theorem dX2_fact_110 : decode cX2_fact 110 = .ok (.invokevirtual 56, 3) := by decide +kernel
theorem dX2_fact_113 : decode cX2_fact 113 = .ok (.ireturn, 1) := by decide +kernel
theorem dX2_fact_114 : decode cX2_fact 114 = .ok (.aload_n 0, 1) := by decide +kernel
theorem dX2_fact_115 : decode cX2_fact 115 = .ok (.iload_n 1, 1) := by decide +kernel
theorem dX2_fact_116 : decode cX2_fact 116 = .ok (.invokevirtual 59, 3) := by decide +kernel
theorem dX2_fact_119 : decode cX2_fact 119 = .ok (.ifCond .ne 5, 3) := by decide +kernel
theorem dX2_fact_122 : decode cX2_fact 122 = .ok (.iconst 0, 1) := by decide +kernel
theorem dX2_fact_123 : decode cX2_fact 123 = .ok (.ireturn, 1) := by decide +kernel
theorem dX2_fact_124 : decode cX2_fact 124 = .ok (.aload_n 0, 1) := by decide +kernel
theorem dX2_fact_125 : decode cX2_fact 125 = .ok (.invokevirtual 62, 3) := by decide +kernel
theorem dX2_fact_128 : decode cX2_fact 128 = .ok (.istore_n 2, 1) := by decide +kernel
theorem dX2_fact_129 : decode cX2_fact 129 = .ok (.iload_n 2, 1) := by decide +kernel
theorem dX2_fact_130 : decode cX2_fact 130 = .ok (.ifCond .ne 11, 3) := by decide +kernel
theorem dX2_fact_133 : decode cX2_fact 133 = .ok (.aload_n 0, 1) := by decide +kernel
theorem dX2_fact_134 : decode cX2_fact 134 = .ok (.getfield 9, 3) := by decide +kernel
theorem dX2_fact_137 : decode cX2_fact 137 = .ok (.invokevirtual 66, 3) := by decide +kernel
theorem dX2_fact_140 : decode cX2_fact 140 = .ok (.ireturn, 1) := by decide +kernel
theorem dX2_fact_141 : decode cX2_fact 141 = .ok (.aload_n 0, 1) := by decide +kernel
theorem dX2_fact_142 : decode cX2_fact 142 = .ok (.getfield 9, 3) := by decide +kernel
theorem dX2_fact_145 : decode cX2_fact 145 = .ok (.invokevirtual 32, 3) := by decide +kernel
theorem dX2_fact_148 : decode cX2_fact 148 = .ok (.aload_n 0, 1) := by decide +kernel
theorem dX2_fact_149 : decode cX2_fact 149 = .ok (.iload_n 1, 1) := by decide +kernel
theorem dX2_fact_150 : decode cX2_fact 150 = .ok (.invokevirtual 59, 3) := by decide +kernel
theorem dX2_fact_153 : decode cX2_fact 153 = .ok (.ifCond .eq 18, 3) := by decide +kernel
theorem dX2_fact_156 : decode cX2_fact 156 = .ok (.aload_n 0, 1) := by decide +kernel
theorem dX2_fact_157 : decode cX2_fact 157 = .ok (.getfield 15, 3) := by decide +kernel
theorem dX2_fact_160 : decode cX2_fact 160 = .ok (.iload_n 2, 1) := by decide +kernel
theorem dX2_fact_161 : decode cX2_fact 161 = .ok (.invokevirtual 37, 3) := by decide +kernel
theorem dX2_fact_164 : decode cX2_fact 164 = .ok (.ifCond .eq 7, 3) := by decide +kernel
theorem dX2_fact_167 : decode cX2_fact 167 = .ok (.iconst 1, 1) := by decide +kernel
theorem dX2_fact_168 : decode cX2_fact 168 = .ok (.goto 4, 3) := by decide +kernel
theorem dX2_fact_171 : decode cX2_fact 171 = .ok (.iconst 0, 1) := by decide +kernel
theorem dX2_fact_172 : decode cX2_fact 172 = .ok (.ireturn, 1) := by decide +kernel
theorem dX2_sum_0 : decode cX2_sum 0 = .ok (.aload_n 0, 1) := by decide +kernel
theorem dX2_sum_1 : decode cX2_sum 1 = .ok (.iload_n 1, 1) := by decide +kernel
theorem dX2_sum_2 : decode cX2_sum 2 = .ok (.invokevirtual 70, 3) := by decide +kernel
theorem dX2_sum_5 : decode cX2_sum 5 = .ok (.istore_n 2, 1) := by decide +kernel
theorem dX2_sum_6 : decode cX2_sum 6 = .ok (.iconst 0, 1) := by decide +kernel
theorem dX2_sum_7 : decode cX2_sum 7 = .ok (.istore_n 3, 1) := by decide +kernel
theorem dX2_sum_8 : decode cX2_sum 8 = .ok (.iload_n 3, 1) := by decide +kernel
theorem dX2_sum_9 : decode cX2_sum 9 = .ok (.sipush 1600, 3) := by decide +kernel
theorem dX2_sum_12 : decode cX2_sum 12 = .ok (.if_icmp .ge 91, 3) := by decide +kernel
theorem dX2_sum_15 : decode cX2_sum 15 = .ok (.iload_n 2, 1) := by decide +kernel
theorem dX2_sum_16 : decode cX2_sum 16 = .ok (.ifCond .eq 87, 3) := by decide +kernel
theorem dX2_sum_19 : decode cX2_sum 19 = .ok (.aload_n 0, 1) := by decide +kernel
theorem dX2_sum_20 : decode cX2_sum 20 = .ok (.getfield 9, 3) := by decide +kernel
theorem dX2_sum_23 : decode cX2_sum 23 = .ok (.bipush 43, 2) := by decide +kernel
theorem dX2_sum_25 : decode cX2_sum 25 = .ok (.invokevirtual 46, 3) := by decide +kernel
theorem dX2_sum_28 : decode cX2_sum 28 = .ok (.ifCond .ne 15, 3) := by decide +kernel
theorem dX2_sum_31 : decode cX2_sum 31 = .ok (.aload_n 0, 1) := by decide +kernel
theorem dX2_sum_32 : decode cX2_sum 32 = .ok (.getfield 9, 3) := by decide +kernel
theorem dX2_sum_35 : decode cX2_sum 35 = .ok (.bipush 45, 2) := by decide +kernel
theorem dX2_sum_37 : decode cX2_sum 37 = .ok (.invokevirtual 46, 3) := by decide +kernel
theorem dX2_sum_40 : decode cX2_sum 40 = .ok (.ifCond .eq 63, 3) := by decide +kernel
theorem dX2_sum_43 : decode cX2_sum 43 = .ok (.aload_n 0, 1) := by decide +kernel
theorem dX2_sum_44 : decode cX2_sum 44 = .ok (.getfield 9, 3) := by decide +kernel
theorem dX2_sum_47 : decode cX2_sum 47 = .ok (.bipush 43, 2) := by decide +kernel
theorem dX2_sum_49 : decode cX2_sum 49 = .ok (.invokevirtual 46, 3) := by decide +kernel
theorem dX2_sum_52 : decode cX2_sum 52 = .ok (.ifCond .eq 8, 3) := by decide +kernel
theorem dX2_sum_55 : decode cX2_sum 55 = .ok (.bipush (-8), 2) := by decide +kernel
theorem dX2_sum_57 : decode cX2_sum 57 = .ok (.goto 5, 3) := by decide +kernel
theorem dX2_sum_60 : decode cX2_sum 60 = .ok (.bipush (-9), 2) := by decide +kernel
theorem dX2_sum_62 : decode cX2_sum 62 = .ok (.istore 4, 2) := by decide +kernel
theorem dX2_sum_64 : decode cX2_sum 64 = .ok (.aload_n 0, 1) := by decide +kernel
theorem dX2_sum_65 : decode cX2_sum 65 = .ok (.getfield 9, 3) := by decide +kernel
theorem dX2_sum_68 : decode cX2_sum 68 = .ok (.invokevirtual 32, 3) := by decide +kernel
theorem dX2_sum_71 : decode cX2_sum 71 = .ok (.aload_n 0, 1) := by decide +kernel
theorem dX2_sum_72 : decode cX2_sum 72 = .ok (.iload_n 1, 1) := by decide +kernel
theorem dX2_sum_73 : decode cX2_sum 73 = .ok (.invokevirtual 70, 3) := by decide +kernel
theorem dX2_sum_76 : decode cX2_sum 76 = .ok (.ifCond .eq 19, 3) := by decide +kernel
theorem dX2_sum_79 : decode cX2_sum 79 = .ok (.aload_n 0, 1) := by decide +kernel
theorem dX2_sum_80 : decode cX2_sum 80 = .ok (.getfield 15, 3) := by decide +kernel
theorem dX2_sum_83 : decode cX2_sum 83 = .ok (.iload 4, 2) := by decide +kernel
theorem dX2_sum_85 : decode cX2_sum 85 = .ok (.invokevirtual 37, 3) := by decide +kernel
theorem dX2_sum_88 : decode cX2_sum 88 = .ok (.ifCond .eq 7, 3) := by decide +kernel
theorem dX2_sum_91 : decode cX2_sum 91 = .ok (.iconst 1, 1) := by decide +kernel
theorem dX2_sum_92 : decode cX2_sum 92 = .ok (.goto 4, 3) := by decide +kernel
theorem dX2_sum_95 : decode cX2_sum 95 = .ok (.iconst 0, 1) := by decide +kernel
theorem dX2_sum_96 : decode cX2_sum 96 = .ok (.istore_n 2, 1) := by decide +kernel
theorem dX2_sum_97 : decode cX2_sum 97 = .ok (.iinc 3 1, 3) := by decide +kernel
theorem dX2_sum_100 : decode cX2_sum 100 = .ok (.goto (-92), 3) := by decide +kernel
theorem dX2_sum_103 : decode cX2_sum 103 = .ok (.iload_n 2, 1) := by decide +kernel
theorem dX2_sum_104 : decode cX2_sum 104 = .ok (.ireturn, 1) := by decide +kernel
theorem dX2_product_0 : decode cX2_product 0 = .ok (.aload_n 0, 1) := by decide +kernel
theorem dX2_product_1 : decode cX2_product 1 = .ok (.iload_n 1, 1) := by decide +kernel
theorem dX2_product_2 : decode cX2_product 2 = .ok (.invokevirtual 73, 3) := by decide +kernel
theorem dX2_product_5 : decode cX2_product 5 = .ok (.istore_n 2, 1) := by decide +kernel
theorem dX2_product_6 : decode cX2_product 6 = .ok (.iconst 0, 1) := by decide +kernel
theorem dX2_product_7 : decode cX2_product 7 = .ok (.istore_n 3, 1) := by decide +kernel
theorem dX2_product_8 : decode cX2_product 8 = .ok (.iload_n 3, 1) := by decide +kernel
theorem dX2_product_9 : decode cX2_product 9 = .ok (.sipush 1600, 3) := by decide +kernel
theorem dX2_product_12 : decode cX2_product 12 = .ok (.if_icmp .ge 59, 3) := by decide +kernel
theorem dX2_product_15 : decode cX2_product 15 = .ok (.iload_n 2, 1) := by decide +kernel
theorem dX2_product_16 : decode cX2_product 16 = .ok (.ifCond .eq 55, 3) := by decide +kernel
theorem dX2_product_19 : decode cX2_product 19 = .ok (.aload_n 0, 1) := by decide +kernel
theorem dX2_product_20 : decode cX2_product 20 = .ok (.invokevirtual 76, 3) := by decide +kernel
theorem dX2_product_23 : decode cX2_product 23 = .ok (.ifCond .eq 48, 3) := by decide +kernel
theorem dX2_product_26 : decode cX2_product 26 = .ok (.aload_n 0, 1) := by decide +kernel
theorem dX2_product_27 : decode cX2_product 27 = .ok (.invokevirtual 76, 3) := by decide +kernel
theorem dX2_product_30 : decode cX2_product 30 = .ok (.istore 4, 2) := by decide +kernel
theorem dX2_product_32 : decode cX2_product 32 = .ok (.aload_n 0, 1) := by decide +kernel
theorem dX2_product_33 : decode cX2_product 33 = .ok (.getfield 9, 3) := by decide +kernel
theorem dX2_product_36 : decode cX2_product 36 = .ok (.invokevirtual 32, 3) := by decide +kernel
theorem dX2_product_39 : decode cX2_product 39 = .ok (.aload_n 0, 1) := by decide +kernel
theorem dX2_product_40 : decode cX2_product 40 = .ok (.iload_n 1, 1) := by decide +kernel
theorem dX2_product_41 : decode cX2_product 41 = .ok (.invokevirtual 73, 3) := by decide +kernel
theorem dX2_product_44 : decode cX2_product 44 = .ok (.ifCond .eq 19, 3) := by decide +kernel
theorem dX2_product_47 : decode cX2_product 47 = .ok (.aload_n 0, 1) := by decide +kernel
theorem dX2_product_48 : decode cX2_product 48 = .ok (.getfield 15, 3) := by decide +kernel
theorem dX2_product_51 : decode cX2_product 51 = .ok (.iload 4, 2) := by decide +kernel
theorem dX2_product_53 : decode cX2_product 53 = .ok (.invokevirtual 37, 3) := by decide +kernel
theorem dX2_product_56 : decode cX2_product 56 = .ok (.ifCond .eq 7, 3) := by decide +kernel
theorem dX2_product_59 : decode cX2_product 59 = .ok (.iconst 1, 1) := by decide +kernel
theorem dX2_product_60 : decode cX2_product 60 = .ok (.goto 4, 3) := by decide +kernel
theorem dX2_product_63 : decode cX2_product 63 = .ok (.iconst 0, 1) := by decide +kernel
theorem dX2_product_64 : decode cX2_product 64 = .ok (.istore_n 2, 1) := by decide +kernel
theorem dX2_product_65 : decode cX2_product 65 = .ok (.iinc 3 1, 3) := by decide +kernel
theorem dX2_product_68 : decode cX2_product 68 = .ok (.goto (-60), 3) := by decide +kernel
theorem dX2_product_71 : decode cX2_product 71 = .ok (.iload_n 2, 1) := by decide +kernel
theorem dX2_product_72 : decode cX2_product 72 = .ok (.ireturn, 1) := by decide +kernel
theorem dX2_part_0 : decode cX2_part 0 = .ok (.aload_n 0, 1) := by decide +kernel
theorem dX2_part_1 : decode cX2_part 1 = .ok (.getfield 9, 3) := by decide +kernel
theorem dX2_part_4 : decode cX2_part 4 = .ok (.getfield 79, 3) := by decide +kernel
theorem dX2_part_7 : decode cX2_part 7 = .ok (.iconst 2, 1) := by decide +kernel
theorem dX2_part_8 : decode cX2_part 8 = .ok (.if_icmp .ne 15, 3) := by decide +kernel
theorem dX2_part_11 : decode cX2_part 11 = .ok (.aload_n 0, 1) := by decide +kernel
theorem dX2_part_12 : decode cX2_part 12 = .ok (.aload_n 0, 1) := by decide +kernel
theorem dX2_part_13 : decode cX2_part 13 = .ok (.getfield 9, 3) := by decide +kernel
theorem dX2_part_16 : decode cX2_part 16 = .ok (.getfield 83, 3) := by decide +kernel
theorem dX2_part_19 : decode cX2_part 19 = .ok (.invokevirtual 56, 3) := by decide +kernel
theorem dX2_part_22 : decode cX2_part 22 = .ok (.ireturn, 1) := by decide +kernel
theorem dX2_part_23 : decode cX2_part 23 = .ok (.aload_n 0, 1) := by decide +kernel
theorem dX2_part_24 : decode cX2_part 24 = .ok (.getfield 9, 3) := by decide +kernel
theorem dX2_part_27 : decode cX2_part 27 = .ok (.bipush 40, 2) := by decide +kernel
theorem dX2_part_29 : decode cX2_part 29 = .ok (.invokevirtual 46, 3) := by decide +kernel
theorem dX2_part_32 : decode cX2_part 32 = .ok (.ifCond .eq 39, 3) := by decide +kernel
theorem dX2_part_35 : decode cX2_part 35 = .ok (.aload_n 0, 1) := by decide +kernel
theorem dX2_part_36 : decode cX2_part 36 = .ok (.iload_n 1, 1) := by decide +kernel
theorem dX2_part_37 : decode cX2_part 37 = .ok (.invokevirtual 43, 3) := by decide +kernel
theorem dX2_part_40 : decode cX2_part 40 = .ok (.ifCond .eq 29, 3) := by decide +kernel
theorem dX2_part_43 : decode cX2_part 43 = .ok (.aload_n 0, 1) := by decide +kernel
theorem dX2_part_44 : decode cX2_part 44 = .ok (.iload_n 1, 1) := by decide +kernel
theorem dX2_part_45 : decode cX2_part 45 = .ok (.iconst 1, 1) := by decide +kernel
theorem dX2_part_46 : decode cX2_part 46 = .ok (.iadd, 1) := by decide +kernel
theorem dX2_part_47 : decode cX2_part 47 = .ok (.invokevirtual 59, 3) := by decide +kernel
theorem dX2_part_50 : decode cX2_part 50 = .ok (.ifCond .eq 19, 3) := by decide +kernel
theorem dX2_part_53 : decode cX2_part 53 = .ok (.aload_n 0, 1) := by decide +kernel
theorem dX2_part_54 : decode cX2_part 54 = .ok (.getfield 9, 3) := by decide +kernel
theorem dX2_part_57 : decode cX2_part 57 = .ok (.bipush 41, 2) := by decide +kernel
theorem dX2_part_59 : decode cX2_part 59 = .ok (.invokevirtual 53, 3) := by decide +kernel
theorem dX2_part_62 : decode cX2_part 62 = .ok (.ifCond .eq 7, 3) := by decide +kernel
theorem dX2_part_65 : decode cX2_part 65 = .ok (.iconst 1, 1) := by decide +kernel
theorem dX2_part_66 : decode cX2_part 66 = .ok (.goto 4, 3) := by decide +kernel
theorem dX2_part_69 : decode cX2_part 69 = .ok (.iconst 0, 1) := by decide +kernel
theorem dX2_part_70 : decode cX2_part 70 = .ok (.ireturn, 1) := by decide +kernel
theorem dX2_part_71 : decode cX2_part 71 = .ok (.aload_n 0, 1) := by decide +kernel
theorem dX2_part_72 : decode cX2_part 72 = .ok (.getfield 9, 3) := by decide +kernel
theorem dX2_part_75 : decode cX2_part 75 = .ok (.getfield 79, 3) := by decide +kernel
theorem dX2_part_78 : decode cX2_part 78 = .ok (.iconst 1, 1) := by decide +kernel
theorem dX2_part_79 : decode cX2_part 79 = .ok (.if_icmp .eq 11, 3) := by decide +kernel
theorem dX2_part_82 : decode cX2_part 82 = .ok (.aload_n 0, 1) := by decide +kernel
theorem dX2_part_83 : decode cX2_part 83 = .ok (.getfield 9, 3) := by decide +kernel
theorem dX2_part_86 : decode cX2_part 86 = .ok (.invokevirtual 66, 3) := by decide +kernel
theorem dX2_part_89 : decode cX2_part 89 = .ok (.ireturn, 1) := by decide +kernel
theorem dX2_part_90 : decode cX2_part 90 = .ok (.aload_n 0, 1) := by decide +kernel
theorem dX2_part_91 : decode cX2_part 91 = .ok (.getfield 9, 3) := by decide +kernel
theorem dX2_part_94 : decode cX2_part 94 = .ok (.getfield 86, 3) := by decide +kernel
theorem dX2_part_97 : decode cX2_part 97 = .ok (.tableswitch 195 5 23 #[91, 195, 195, 195, 195, 195, 97, 104, 111, 118, 125, 149, 189, 195, 195, 195, 195, 173, 181], 91) := by decide +kernel
theorem dX2_part_188 : decode cX2_part 188 = .ok (.aload_n 0, 1) := by decide +kernel
theorem dX2_part_189 : decode cX2_part 189 = .ok (.iconst (-1), 1) := by decide +kernel
theorem dX2_part_190 : decode cX2_part 190 = .ok (.invokevirtual 56, 3) := by decide +kernel
theorem dX2_part_193 : decode cX2_part 193 = .ok (.ireturn, 1) := by decide +kernel
theorem dX2_part_194 : decode cX2_part 194 = .ok (.aload_n 0, 1) := by decide +kernel
theorem dX2_part_195 : decode cX2_part 195 = .ok (.bipush (-2), 2) := by decide +kernel
theorem dX2_part_197 : decode cX2_part 197 = .ok (.invokevirtual 56, 3) := by decide +kernel
theorem dX2_part_200 : decode cX2_part 200 = .ok (.ireturn, 1) := by decide +kernel
theorem dX2_part_201 : decode cX2_part 201 = .ok (.aload_n 0, 1) := by decide +kernel
theorem dX2_part_202 : decode cX2_part 202 = .ok (.bipush (-3), 2) := by decide +kernel
theorem dX2_part_204 : decode cX2_part 204 = .ok (.invokevirtual 56, 3) := by decide +kernel
theorem dX2_part_207 : decode cX2_part 207 = .ok (.ireturn, 1) := by decide +kernel
theorem dX2_part_208 : decode cX2_part 208 = .ok (.aload_n 0, 1) := by decide +kernel
theorem dX2_part_209 : decode cX2_part 209 = .ok (.bipush (-4), 2) := by decide +kernel
theorem dX2_part_211 : decode cX2_part 211 = .ok (.invokevirtual 56, 3) := by decide +kernel
theorem dX2_part_214 : decode cX2_part 214 = .ok (.ireturn, 1) := by decide +kernel
theorem dX2_part_215 : decode cX2_part 215 = .ok (.aload_n 0, 1) := by decide +kernel
theorem dX2_part_216 : decode cX2_part 216 = .ok (.bipush (-5), 2) := by decide +kernel
theorem dX2_part_218 : decode cX2_part 218 = .ok (.invokevirtual 56, 3) := by decide +kernel
theorem dX2_part_221 : decode cX2_part 221 = .ok (.ireturn, 1) := by decide +kernel
theorem dX2_part_222 : decode cX2_part 222 = .ok (.aload_n 0, 1) := by decide +kernel
theorem dX2_part_223 : decode cX2_part 223 = .ok (.getfield 19, 3) := by decide +kernel
theorem dX2_part_226 : decode cX2_part 226 = .ok (.ifCond .eq 12, 3) := by decide +kernel
theorem dX2_part_229 : decode cX2_part 229 = .ok (.aload_n 0, 1) := by decide +kernel
theorem dX2_part_230 : decode cX2_part 230 = .ok (.bipush (-6), 2) := by decide +kernel
theorem dX2_part_232 : decode cX2_part 232 = .ok (.invokevirtual 56, 3) := by decide +kernel
theorem dX2_part_235 : decode cX2_part 235 = .ok (.goto 10, 3) := by decide +kernel
theorem dX2_part_238 : decode cX2_part 238 = .ok (.aload_n 0, 1) := by decide +kernel
theorem dX2_part_239 : decode cX2_part 239 = .ok (.getfield 9, 3) := by decide +kernel
theorem dX2_part_242 : decode cX2_part 242 = .ok (.invokevirtual 66, 3) := by decide +kernel
theorem dX2_part_245 : decode cX2_part 245 = .ok (.ireturn, 1) := by decide +kernel
theorem dX2_part_246 : decode cX2_part 246 = .ok (.aload_n 0, 1) := by decide +kernel
theorem dX2_part_247 : decode cX2_part 247 = .ok (.getfield 19, 3) := by decide +kernel
theorem dX2_part_250 : decode cX2_part 250 = .ok (.ifCond .eq 12, 3) := by decide +kernel
theorem dX2_part_253 : decode cX2_part 253 = .ok (.aload_n 0, 1) := by decide +kernel
theorem dX2_part_254 : decode cX2_part 254 = .ok (.bipush (-7), 2) := by decide +kernel
theorem dX2_part_256 : decode cX2_part 256 = .ok (.invokevirtual 56, 3) := by decide +kernel
theorem dX2_part_259 : decode cX2_part 259 = .ok (.goto 10, 3) := by decide +kernel
theorem dX2_part_262 : decode cX2_part 262 = .ok (.aload_n 0, 1) := by decide +kernel
theorem dX2_part_263 : decode cX2_part 263 = .ok (.getfield 9, 3) := by decide +kernel
theorem dX2_part_266 : decode cX2_part 266 = .ok (.invokevirtual 66, 3) := by decide +kernel
theorem dX2_part_269 : decode cX2_part 269 = .ok (.ireturn, 1) := by decide +kernel
theorem dX2_part_270 : decode cX2_part 270 = .ok (.aload_n 0, 1) := by decide +kernel
theorem dX2_part_271 : decode cX2_part 271 = .ok (.iload_n 1, 1) := by decide +kernel
theorem dX2_part_272 : decode cX2_part 272 = .ok (.bipush (-13), 2) := by decide +kernel
theorem dX2_part_274 : decode cX2_part 274 = .ok (.invokevirtual 89, 3) := by decide +kernel
theorem dX2_part_277 : decode cX2_part 277 = .ok (.ireturn, 1) := by decide +kernel
theorem dX2_part_278 : decode cX2_part 278 = .ok (.aload_n 0, 1) := by decide +kernel
theorem dX2_part_279 : decode cX2_part 279 = .ok (.iload_n 1, 1) := by decide +kernel
theorem dX2_part_280 : decode cX2_part 280 = .ok (.bipush (-14), 2) := by decide +kernel
theorem dX2_part_282 : decode cX2_part 282 = .ok (.invokevirtual 89, 3) := by decide +kernel
theorem dX2_part_285 : decode cX2_part 285 = .ok (.ireturn, 1) := by decide +kernel
theorem dX2_part_286 : decode cX2_part 286 = .ok (.aload_n 0, 1) := by decide +kernel
theorem dX2_part_287 : decode cX2_part 287 = .ok (.iload_n 1, 1) := by decide +kernel
theorem dX2_part_288 : decode cX2_part 288 = .ok (.invokevirtual 93, 3) := by decide +kernel
theorem dX2_part_291 : decode cX2_part 291 = .ok (.ireturn, 1) := by decide +kernel
theorem dX2_part_292 : decode cX2_part 292 = .ok (.aload_n 0, 1) := by decide +kernel
theorem dX2_part_293 : decode cX2_part 293 = .ok (.getfield 9, 3) := by decide +kernel
theorem dX2_part_296 : decode cX2_part 296 = .ok (.invokevirtual 66, 3) := by decide +kernel
theorem dX2_part_299 : decode cX2_part 299 = .ok (.ireturn, 1) := by decide +kernel
theorem dX2_pair_0 : decode cX2_pair 0 = .ok (.aload_n 0, 1) := by decide +kernel
theorem dX2_pair_1 : decode cX2_pair 1 = .ok (.getfield 9, 3) := by decide +kernel
theorem dX2_pair_4 : decode cX2_pair 4 = .ok (.invokevirtual 32, 3) := by decide +kernel
theorem dX2_pair_7 : decode cX2_pair 7 = .ok (.aload_n 0, 1) := by decide +kernel
theorem dX2_pair_8 : decode cX2_pair 8 = .ok (.iload_n 1, 1) := by decide +kernel
theorem dX2_pair_9 : decode cX2_pair 9 = .ok (.invokevirtual 96, 3) := by decide +kernel
theorem dX2_pair_12 : decode cX2_pair 12 = .ok (.ifCond .eq 62, 3) := by decide +kernel
theorem dX2_pair_15 : decode cX2_pair 15 = .ok (.aload_n 0, 1) := by decide +kernel
theorem dX2_pair_16 : decode cX2_pair 16 = .ok (.iload_n 1, 1) := by decide +kernel
theorem dX2_pair_17 : decode cX2_pair 17 = .ok (.iconst 1, 1) := by decide +kernel
theorem dX2_pair_18 : decode cX2_pair 18 = .ok (.iadd, 1) := by decide +kernel
theorem dX2_pair_19 : decode cX2_pair 19 = .ok (.invokevirtual 59, 3) := by decide +kernel
theorem dX2_pair_22 : decode cX2_pair 22 = .ok (.ifCond .eq 52, 3) := by decide +kernel
theorem dX2_pair_25 : decode cX2_pair 25 = .ok (.aload_n 0, 1) := by decide +kernel
theorem dX2_pair_26 : decode cX2_pair 26 = .ok (.getfield 9, 3) := by decide +kernel
theorem dX2_pair_29 : decode cX2_pair 29 = .ok (.bipush 44, 2) := by decide +kernel
theorem dX2_pair_31 : decode cX2_pair 31 = .ok (.invokevirtual 53, 3) := by decide +kernel
theorem dX2_pair_34 : decode cX2_pair 34 = .ok (.ifCond .eq 40, 3) := by decide +kernel
theorem dX2_pair_37 : decode cX2_pair 37 = .ok (.aload_n 0, 1) := by decide +kernel
theorem dX2_pair_38 : decode cX2_pair 38 = .ok (.iload_n 1, 1) := by decide +kernel
theorem dX2_pair_39 : decode cX2_pair 39 = .ok (.iconst 1, 1) := by decide +kernel
theorem dX2_pair_40 : decode cX2_pair 40 = .ok (.iadd, 1) := by decide +kernel
theorem dX2_pair_41 : decode cX2_pair 41 = .ok (.invokevirtual 59, 3) := by decide +kernel
theorem dX2_pair_44 : decode cX2_pair 44 = .ok (.ifCond .eq 30, 3) := by decide +kernel
theorem dX2_pair_47 : decode cX2_pair 47 = .ok (.aload_n 0, 1) := by decide +kernel
theorem dX2_pair_48 : decode cX2_pair 48 = .ok (.getfield 9, 3) := by decide +kernel
theorem dX2_pair_51 : decode cX2_pair 51 = .ok (.bipush 41, 2) := by decide +kernel
theorem dX2_pair_53 : decode cX2_pair 53 = .ok (.invokevirtual 53, 3) := by decide +kernel
theorem dX2_pair_56 : decode cX2_pair 56 = .ok (.ifCond .eq 18, 3) := by decide +kernel
theorem dX2_pair_59 : decode cX2_pair 59 = .ok (.aload_n 0, 1) := by decide +kernel
theorem dX2_pair_60 : decode cX2_pair 60 = .ok (.getfield 15, 3) := by decide +kernel
theorem dX2_pair_63 : decode cX2_pair 63 = .ok (.iload_n 2, 1) := by decide +kernel
theorem dX2_pair_64 : decode cX2_pair 64 = .ok (.invokevirtual 37, 3) := by decide +kernel
theorem dX2_pair_67 : decode cX2_pair 67 = .ok (.ifCond .eq 7, 3) := by decide +kernel
theorem dX2_pair_70 : decode cX2_pair 70 = .ok (.iconst 1, 1) := by decide +kernel
theorem dX2_pair_71 : decode cX2_pair 71 = .ok (.goto 4, 3) := by decide +kernel
theorem dX2_pair_74 : decode cX2_pair 74 = .ok (.iconst 0, 1) := by decide +kernel
theorem dX2_pair_75 : decode cX2_pair 75 = .ok (.ireturn, 1) := by decide +kernel
theorem dX2_choice_0 : decode cX2_choice 0 = .ok (.aload_n 0, 1) := by decide +kernel
theorem dX2_choice_1 : decode cX2_choice 1 = .ok (.getfield 9, 3) := by decide +kernel
theorem dX2_choice_4 : decode cX2_choice 4 = .ok (.invokevirtual 32, 3) := by decide +kernel
theorem dX2_choice_7 : decode cX2_choice 7 = .ok (.aload_n 0, 1) := by decide +kernel
theorem dX2_choice_8 : decode cX2_choice 8 = .ok (.iload_n 1, 1) := by decide +kernel
theorem dX2_choice_9 : decode cX2_choice 9 = .ok (.invokevirtual 96, 3) := by decide +kernel
theorem dX2_choice_12 : decode cX2_choice 12 = .ok (.ifCond .eq 85, 3) := by decide +kernel
theorem dX2_choice_15 : decode cX2_choice 15 = .ok (.aload_n 0, 1) := by decide +kernel
theorem dX2_choice_16 : decode cX2_choice 16 = .ok (.iload_n 1, 1) := by decide +kernel
theorem dX2_choice_17 : decode cX2_choice 17 = .ok (.iconst 1, 1) := by decide +kernel
theorem dX2_choice_18 : decode cX2_choice 18 = .ok (.iadd, 1) := by decide +kernel
theorem dX2_choice_19 : decode cX2_choice 19 = .ok (.invokevirtual 50, 3) := by decide +kernel
theorem dX2_choice_22 : decode cX2_choice 22 = .ok (.ifCond .eq 75, 3) := by decide +kernel
theorem dX2_choice_25 : decode cX2_choice 25 = .ok (.aload_n 0, 1) := by decide +kernel
theorem dX2_choice_26 : decode cX2_choice 26 = .ok (.getfield 9, 3) := by decide +kernel
theorem dX2_choice_29 : decode cX2_choice 29 = .ok (.bipush 44, 2) := by decide +kernel
theorem dX2_choice_31 : decode cX2_choice 31 = .ok (.invokevirtual 53, 3) := by decide +kernel
theorem dX2_choice_34 : decode cX2_choice 34 = .ok (.ifCond .eq 63, 3) := by decide +kernel
theorem dX2_choice_37 : decode cX2_choice 37 = .ok (.aload_n 0, 1) := by decide +kernel
theorem dX2_choice_38 : decode cX2_choice 38 = .ok (.iload_n 1, 1) := by decide +kernel
theorem dX2_choice_39 : decode cX2_choice 39 = .ok (.iconst 1, 1) := by decide +kernel
theorem dX2_choice_40 : decode cX2_choice 40 = .ok (.iadd, 1) := by decide +kernel
theorem dX2_choice_41 : decode cX2_choice 41 = .ok (.invokevirtual 59, 3) := by decide +kernel
theorem dX2_choice_44 : decode cX2_choice 44 = .ok (.ifCond .eq 53, 3) := by decide +kernel
theorem dX2_choice_47 : decode cX2_choice 47 = .ok (.aload_n 0, 1) := by decide +kernel
theorem dX2_choice_48 : decode cX2_choice 48 = .ok (.getfield 9, 3) := by decide +kernel
theorem dX2_choice_51 : decode cX2_choice 51 = .ok (.bipush 44, 2) := by decide +kernel
theorem dX2_choice_53 : decode cX2_choice 53 = .ok (.invokevirtual 53, 3) := by decide +kernel
theorem dX2_choice_56 : decode cX2_choice 56 = .ok (.ifCond .eq 41, 3) := by decide +kernel
theorem dX2_choice_59 : decode cX2_choice 59 = .ok (.aload_n 0, 1) := by decide +kernel
theorem dX2_choice_60 : decode cX2_choice 60 = .ok (.iload_n 1, 1) := by decide +kernel
theorem dX2_choice_61 : decode cX2_choice 61 = .ok (.iconst 1, 1) := by decide +kernel
theorem dX2_choice_62 : decode cX2_choice 62 = .ok (.iadd, 1) := by decide +kernel
theorem dX2_choice_63 : decode cX2_choice 63 = .ok (.invokevirtual 59, 3) := by decide +kernel
theorem dX2_choice_66 : decode cX2_choice 66 = .ok (.ifCond .eq 31, 3) := by decide +kernel
theorem dX2_choice_69 : decode cX2_choice 69 = .ok (.aload_n 0, 1) := by decide +kernel
theorem dX2_choice_70 : decode cX2_choice 70 = .ok (.getfield 9, 3) := by decide +kernel
theorem dX2_choice_73 : decode cX2_choice 73 = .ok (.bipush 41, 2) := by decide +kernel
theorem dX2_choice_75 : decode cX2_choice 75 = .ok (.invokevirtual 53, 3) := by decide +kernel
theorem dX2_choice_78 : decode cX2_choice 78 = .ok (.ifCond .eq 19, 3) := by decide +kernel
theorem dX2_choice_81 : decode cX2_choice 81 = .ok (.aload_n 0, 1) := by decide +kernel
theorem dX2_choice_82 : decode cX2_choice 82 = .ok (.getfield 15, 3) := by decide +kernel
theorem dX2_choice_85 : decode cX2_choice 85 = .ok (.bipush (-21), 2) := by decide +kernel
theorem dX2_choice_87 : decode cX2_choice 87 = .ok (.invokevirtual 37, 3) := by decide +kernel
theorem dX2_choice_90 : decode cX2_choice 90 = .ok (.ifCond .eq 7, 3) := by decide +kernel
theorem dX2_choice_93 : decode cX2_choice 93 = .ok (.iconst 1, 1) := by decide +kernel
theorem dX2_choice_94 : decode cX2_choice 94 = .ok (.goto 4, 3) := by decide +kernel
theorem dX2_choice_97 : decode cX2_choice 97 = .ok (.iconst 0, 1) := by decide +kernel
theorem dX2_choice_98 : decode cX2_choice 98 = .ok (.ireturn, 1) := by decide +kernel
def frOK (l : Launch) (Y : YT) (F : Nat → Int → Int → Mem → (Int → Mem → Prop) → Prop) (d0 : Nat) : Prop :=
  (∀ {a : Int} {M : Mem} {Q : Int → Mem → Prop}, F 0 a 0 M Q → Ctr l Y yX2_test cX2_test 4 (some .boolean) d0 [vR Y 5, vI a] M (PQi Y Q)) ∧
  (∀ {a : Int} {M : Mem} {Q : Int → Mem → Prop}, F 1 a 0 M Q → Ctr l Y yX2_both cX2_both 4 (some .boolean) d0 [vR Y 5, vI a] M (PQi Y Q)) ∧
  (∀ {a : Int} {M : Mem} {Q : Int → Mem → Prop}, F 2 a 0 M Q → Ctr l Y yX2_fact cX2_fact 3 (some .boolean) d0 [vR Y 5, vI a] M (PQi Y Q)) ∧
  (∀ {a : Int} {M : Mem} {Q : Int → Mem → Prop}, F 3 a 0 M Q → Ctr l Y yX2_sum cX2_sum 5 (some .boolean) d0 [vR Y 5, vI a] M (PQi Y Q)) ∧
  (∀ {a : Int} {M : Mem} {Q : Int → Mem → Prop}, F 4 a 0 M Q → Ctr l Y yX2_product cX2_product 5 (some .boolean) d0 [vR Y 5, vI a] M (PQi Y Q)) ∧
  (∀ {a : Int} {M : Mem} {Q : Int → Mem → Prop}, F 5 a 0 M Q → Ctr l Y yX2_part cX2_part 2 (some .boolean) d0 [vR Y 5, vI a] M (PQi Y Q)) ∧
  (∀ {a b : Int} {M : Mem} {Q : Int → Mem → Prop}, F 6 a b M Q → Ctr l Y yX2_pair cX2_pair 3 (some .boolean) d0 [vR Y 5, vI a, vI b] M (PQi Y Q)) ∧
  (∀ {a : Int} {M : Mem} {Q : Int → Mem → Prop}, F 7 a 0 M Q → Ctr l Y yX2_choice cX2_choice 2 (some .boolean) d0 [vR Y 5, vI a] M (PQi Y Q))
set_option maxRecDepth 20000 in
theorem w_X2_test_J70 {Y : YT} {X : CX} {d0 : Nat} (C : Cx Y X cX2_test 4 RX2 (d0 + 1)) {F : Nat → Int → Int → Mem → (Int → Mem → Prop) → Prop} (hd0 : 6 ≤ d0) (hF : frOK X.2.1 Y F d0) {Q : Int → Mem → Prop} (hR : Rt Y X (some .boolean) (PQi Y Q)) {v2 : Int}  {M : Mem}  (h : m_X2_test_J70 F  Q v2 M) : G Y X 4 70 [(2, vI v2)] ([]) M := by
  unfold m_X2_test_J70 at h
  refine g_iload_n (q := 0) C dX2_test_70 rfl rfl ?_
  obtain ⟨g1, h⟩ := h
  exact g_retz C hR dX2_test_71 g1 h
set_option maxRecDepth 20000 in
theorem w_X2_test_J63 {Y : YT} {X : CX} {d0 : Nat} (C : Cx Y X cX2_test 4 RX2 (d0 + 1)) {F : Nat → Int → Int → Mem → (Int → Mem → Prop) → Prop} (hd0 : 6 ≤ d0) (hF : frOK X.2.1 Y F d0) {Q : Int → Mem → Prop} (hR : Rt Y X (some .boolean) (PQi Y Q)) {v1 : Int} {v3 : Int} {s0 : Int} {k8 : Int → Int → Mem → Prop} (hk8 : ∀ (v2 : Int) (v3 : Int)  (M : Mem), k8 v2 v3 M → G Y X 4 8 [(0, vR Y 5), (1, vI v1), (2, vI v2), (3, vI v3)] ([]) M) {M : Mem}  (h : m_X2_test_J63 F k8 Q v1 v3 s0 M) : G Y X 4 63 [(0, vR Y 5), (1, vI v1), (3, vI v3)] ((vI s0) :: []) M := by
  unfold m_X2_test_J63 at h
  refine g_istore_n (lv' := [(2, vI s0), (0, vR Y 5), (1, vI v1), (3, vI v3)]) C dX2_test_63 rfl (by decide) rfl ?_
  refine g_iinc (q := 3) (v := v3 + 1) (lv' := [(3, vI (v3 + 1)), (2, vI s0), (0, vR Y 5), (1, vI v1)]) C dX2_test_64 rfl rfl (by decide) rfl ?_
  refine g_goto (tgt := 8) C dX2_test_67 (by decide) ?_
  refine G.sub [2, 3, 1, 0] rfl ?_
  exact hk8 _ _ _ h
set_option maxRecDepth 20000 in
theorem w_X2_test_J62 {Y : YT} {X : CX} {d0 : Nat} (C : Cx Y X cX2_test 4 RX2 (d0 + 1)) {F : Nat → Int → Int → Mem → (Int → Mem → Prop) → Prop} (hd0 : 6 ≤ d0) (hF : frOK X.2.1 Y F d0) {Q : Int → Mem → Prop} (hR : Rt Y X (some .boolean) (PQi Y Q)) {v1 : Int} {v3 : Int} {k8 : Int → Int → Mem → Prop} (hk8 : ∀ (v2 : Int) (v3 : Int)  (M : Mem), k8 v2 v3 M → G Y X 4 8 [(0, vR Y 5), (1, vI v1), (2, vI v2), (3, vI v3)] ([]) M) {M : Mem}  (h : m_X2_test_J62 F k8 Q v1 v3 M) : G Y X 4 62 [(0, vR Y 5), (1, vI v1), (3, vI v3)] ([]) M := by
  unfold m_X2_test_J62 at h
  refine g_iconst C dX2_test_62 rfl ?_
  refine G.sub [0, 1, 2] rfl ?_
  exact w_X2_test_J63 C hd0 hF hR (hk8)  h
set_option maxRecDepth 20000 in
theorem w_X2_test_L8 {Y : YT} {X : CX} {d0 : Nat} (C : Cx Y X cX2_test 4 RX2 (d0 + 1)) {F : Nat → Int → Int → Mem → (Int → Mem → Prop) → Prop} (hd0 : 6 ≤ d0) (hF : frOK X.2.1 Y F d0) {Q : Int → Mem → Prop} (hR : Rt Y X (some .boolean) (PQi Y Q)) {v1 : Int}  : ∀ (f : Nat) (v2 : Int) (v3 : Int) (M : Mem), m_X2_test_L8 F  Q v1 f v2 v3 M → G Y X 4 8 [(0, vR Y 5), (1, vI v1), (2, vI v2), (3, vI v3)] ([]) M := by
  intro f
  induction f with
  | zero =>
    intro v2 v3 M h
    exact (show False from h).elim
  | succ f ih =>
    intro v2 v3 M h
    unfold m_X2_test_L8 at h
    refine g_iload_n (q := 3) C dX2_test_8 rfl rfl ?_
    refine g_sipush (v := 1600) C dX2_test_9 (by decide +kernel) ?_
    obtain ⟨g2, h⟩ := h
    obtain ⟨ht, hf⟩ := h
    refine g_icmp_ge (tgt := 70) C dX2_test_12 (by decide) g2 (by decide) (fun c => ?_) (fun c => ?_)
    · have h := ht c
      refine G.sub [2] rfl ?_
      exact w_X2_test_J70 C hd0 hF hR  h
    · have h := hf c
      refine g_iload_n (q := 2) C dX2_test_15 rfl rfl ?_
      obtain ⟨g3, h⟩ := h
      obtain ⟨ht, hf⟩ := h
      refine g_if_eq (tgt := 70) C dX2_test_16 (by decide) g3 (fun c => ?_) (fun c => ?_)
      · have h := ht c
        refine G.sub [2] rfl ?_
        exact w_X2_test_J70 C hd0 hF hR  h
      · have h := hf c
        refine g_aload_n (q := 0) C dX2_test_19 rfl rfl ?_
        refine g_getS (v := 1) C fX2_9 dX2_test_20 kd_5 rfl ?_
        refine g_bipush (v := 18) C dX2_test_23 (by decide +kernel) ?_
        refine g_cVi (As := [vI 18]) C clX2_29 clvX7_isOwn dX2_test_25 kd_1 rfl (Nat.le_of_ble_eq_true rfl) rfl (by omega) (t_X7_isOwn (Cx.ok C) h) (fun r5 M4 h => ?_)
        obtain ⟨g6, h⟩ := h
        obtain ⟨ht, hf⟩ := h
        refine g_if_eq (tgt := 70) C dX2_test_28 (by decide) g6 (fun c => ?_) (fun c => ?_)
        · have h := ht c
          refine G.sub [2] rfl ?_
          exact w_X2_test_J70 C hd0 hF hR  h
        · have h := hf c
          refine g_aload_n (q := 0) C dX2_test_31 rfl rfl ?_
          refine g_getS (v := 1) C fX2_9 dX2_test_32 kd_5 rfl ?_
          refine g_cVv (As := []) C clX2_32 clvX7_advance dX2_test_35 kd_1 rfl (Nat.le_of_ble_eq_true rfl) rfl (by omega) (t_X7_advance (Cx.ok C) h) (fun M7 h => ?_)
          refine g_aload_n (q := 0) C dX2_test_38 rfl rfl ?_
          refine g_iload_n (q := 1) C dX2_test_39 rfl rfl ?_
          refine g_cVi (As := [vI v1]) C clX2_23 clvX2_both dX2_test_40 kd_5 rfl (Nat.le_of_ble_eq_true rfl) rfl (by omega) (hF.2.1 h) (fun r9 M8 h => ?_)
          obtain ⟨g10, h⟩ := h
          obtain ⟨ht, hf⟩ := h
          refine g_if_eq (tgt := 62) C dX2_test_43 (by decide) g10 (fun c => ?_) (fun c => ?_)
          · have h := ht c
            refine G.sub [0, 1, 3] rfl ?_
            exact w_X2_test_J62 C hd0 hF hR (ih)  h
          · have h := hf c
            refine g_aload_n (q := 0) C dX2_test_46 rfl rfl ?_
            obtain ⟨g11, h⟩ := h
            refine g_getM C fX2_15 dX2_test_47 kd_5 (kd_in g11 (by decide)).1 ?_
            refine g_bipush (v := (-19)) C dX2_test_50 (by decide +kernel) ?_
            refine g_cVi (As := [vI (-19)]) C clX2_37 clvX1_add dX2_test_52 g11 rfl (Nat.le_of_ble_eq_true rfl) rfl (by omega) (t_X1_add (Cx.ok C) h) (fun r13 M12 h => ?_)
            obtain ⟨g14, h⟩ := h
            obtain ⟨ht, hf⟩ := h
            refine g_if_eq (tgt := 62) C dX2_test_55 (by decide) g14 (fun c => ?_) (fun c => ?_)
            · have h := ht c
              refine G.sub [0, 1, 3] rfl ?_
              exact w_X2_test_J62 C hd0 hF hR (ih)  h
            · have h := hf c
              refine g_iconst C dX2_test_58 rfl ?_
              refine g_goto (tgt := 63) C dX2_test_59 (by decide) ?_
              refine G.sub [0, 1, 3] rfl ?_
              exact w_X2_test_J63 C hd0 hF hR (ih)  h
set_option maxRecDepth 20000 in
theorem tb_X2_test {l : Launch} {Y : YT} (hY : YOK Y) {F : Nat → Int → Int → Mem → (Int → Mem → Prop) → Prop} {d0 : Nat} (hd0 : 6 ≤ d0) (hF : frOK l Y F d0) {a0 : Int} {M : Mem} {Q : Int → Mem → Prop} (h : mb_X2_test F a0 M Q) : Ctr l Y yX2_test cX2_test 4 (some .boolean) (d0 + 1) [vR Y 5, vI a0] M (PQi Y Q) := by
  unfold mb_X2_test at h
  refine ctr_ofF hY (by decide +kernel) (Nat.le_of_ble_eq_true rfl) [(0, vR Y 5), (1, vI a0)] rfl (fun X hX C hR => ?_)
  rw [← hX] at hF
  refine g_aload_n (q := 0) C dX2_test_0 rfl rfl ?_
  refine g_iload_n (q := 1) C dX2_test_1 rfl rfl ?_
  refine g_cVi (As := [vI a0]) C clX2_23 clvX2_both dX2_test_2 kd_5 rfl (Nat.le_of_ble_eq_true rfl) rfl (by omega) (hF.2.1 h) (fun r16 M15 h => ?_)
  refine g_istore_n (lv' := [(2, vI r16), (0, vR Y 5), (1, vI a0)]) C dX2_test_5 rfl (by decide) rfl ?_
  refine g_iconst C dX2_test_6 rfl ?_
  refine g_istore_n (lv' := [(3, vI 0), (2, vI r16), (0, vR Y 5), (1, vI a0)]) C dX2_test_7 rfl (by decide) rfl ?_
  obtain ⟨f0, h⟩ := h
  refine G.sub [2, 3, 1, 0] rfl ?_
  exact w_X2_test_L8 C hd0 hF hR  f0 _ _ _ h
set_option maxRecDepth 20000 in
theorem w_X2_both_J70 {Y : YT} {X : CX} {d0 : Nat} (C : Cx Y X cX2_both 4 RX2 (d0 + 1)) {F : Nat → Int → Int → Mem → (Int → Mem → Prop) → Prop} (hd0 : 6 ≤ d0) (hF : frOK X.2.1 Y F d0) {Q : Int → Mem → Prop} (hR : Rt Y X (some .boolean) (PQi Y Q)) {v2 : Int}  {M : Mem}  (h : m_X2_both_J70 F  Q v2 M) : G Y X 4 70 [(2, vI v2)] ([]) M := by
  unfold m_X2_both_J70 at h
  refine g_iload_n (q := 0) C dX2_both_70 rfl rfl ?_
  obtain ⟨g1, h⟩ := h
  exact g_retz C hR dX2_both_71 g1 h
set_option maxRecDepth 20000 in
theorem w_X2_both_J63 {Y : YT} {X : CX} {d0 : Nat} (C : Cx Y X cX2_both 4 RX2 (d0 + 1)) {F : Nat → Int → Int → Mem → (Int → Mem → Prop) → Prop} (hd0 : 6 ≤ d0) (hF : frOK X.2.1 Y F d0) {Q : Int → Mem → Prop} (hR : Rt Y X (some .boolean) (PQi Y Q)) {v1 : Int} {v3 : Int} {s0 : Int} {k8 : Int → Int → Mem → Prop} (hk8 : ∀ (v2 : Int) (v3 : Int)  (M : Mem), k8 v2 v3 M → G Y X 4 8 [(0, vR Y 5), (1, vI v1), (2, vI v2), (3, vI v3)] ([]) M) {M : Mem}  (h : m_X2_both_J63 F k8 Q v1 v3 s0 M) : G Y X 4 63 [(0, vR Y 5), (1, vI v1), (3, vI v3)] ((vI s0) :: []) M := by
  unfold m_X2_both_J63 at h
  refine g_istore_n (lv' := [(2, vI s0), (0, vR Y 5), (1, vI v1), (3, vI v3)]) C dX2_both_63 rfl (by decide) rfl ?_
  refine g_iinc (q := 3) (v := v3 + 1) (lv' := [(3, vI (v3 + 1)), (2, vI s0), (0, vR Y 5), (1, vI v1)]) C dX2_both_64 rfl rfl (by decide) rfl ?_
  refine g_goto (tgt := 8) C dX2_both_67 (by decide) ?_
  refine G.sub [2, 3, 1, 0] rfl ?_
  exact hk8 _ _ _ h
set_option maxRecDepth 20000 in
theorem w_X2_both_J62 {Y : YT} {X : CX} {d0 : Nat} (C : Cx Y X cX2_both 4 RX2 (d0 + 1)) {F : Nat → Int → Int → Mem → (Int → Mem → Prop) → Prop} (hd0 : 6 ≤ d0) (hF : frOK X.2.1 Y F d0) {Q : Int → Mem → Prop} (hR : Rt Y X (some .boolean) (PQi Y Q)) {v1 : Int} {v3 : Int} {k8 : Int → Int → Mem → Prop} (hk8 : ∀ (v2 : Int) (v3 : Int)  (M : Mem), k8 v2 v3 M → G Y X 4 8 [(0, vR Y 5), (1, vI v1), (2, vI v2), (3, vI v3)] ([]) M) {M : Mem}  (h : m_X2_both_J62 F k8 Q v1 v3 M) : G Y X 4 62 [(0, vR Y 5), (1, vI v1), (3, vI v3)] ([]) M := by
  unfold m_X2_both_J62 at h
  refine g_iconst C dX2_both_62 rfl ?_
  refine G.sub [0, 1, 2] rfl ?_
  exact w_X2_both_J63 C hd0 hF hR (hk8)  h
set_option maxRecDepth 20000 in
theorem w_X2_both_L8 {Y : YT} {X : CX} {d0 : Nat} (C : Cx Y X cX2_both 4 RX2 (d0 + 1)) {F : Nat → Int → Int → Mem → (Int → Mem → Prop) → Prop} (hd0 : 6 ≤ d0) (hF : frOK X.2.1 Y F d0) {Q : Int → Mem → Prop} (hR : Rt Y X (some .boolean) (PQi Y Q)) {v1 : Int}  : ∀ (f : Nat) (v2 : Int) (v3 : Int) (M : Mem), m_X2_both_L8 F  Q v1 f v2 v3 M → G Y X 4 8 [(0, vR Y 5), (1, vI v1), (2, vI v2), (3, vI v3)] ([]) M := by
  intro f
  induction f with
  | zero =>
    intro v2 v3 M h
    exact (show False from h).elim
  | succ f ih =>
    intro v2 v3 M h
    unfold m_X2_both_L8 at h
    refine g_iload_n (q := 3) C dX2_both_8 rfl rfl ?_
    refine g_sipush (v := 1600) C dX2_both_9 (by decide +kernel) ?_
    obtain ⟨g2, h⟩ := h
    obtain ⟨ht, hf⟩ := h
    refine g_icmp_ge (tgt := 70) C dX2_both_12 (by decide) g2 (by decide) (fun c => ?_) (fun c => ?_)
    · have h := ht c
      refine G.sub [2] rfl ?_
      exact w_X2_both_J70 C hd0 hF hR  h
    · have h := hf c
      refine g_iload_n (q := 2) C dX2_both_15 rfl rfl ?_
      obtain ⟨g3, h⟩ := h
      obtain ⟨ht, hf⟩ := h
      refine g_if_eq (tgt := 70) C dX2_both_16 (by decide) g3 (fun c => ?_) (fun c => ?_)
      · have h := ht c
        refine G.sub [2] rfl ?_
        exact w_X2_both_J70 C hd0 hF hR  h
      · have h := hf c
        refine g_aload_n (q := 0) C dX2_both_19 rfl rfl ?_
        refine g_getS (v := 1) C fX2_9 dX2_both_20 kd_5 rfl ?_
        refine g_bipush (v := 19) C dX2_both_23 (by decide +kernel) ?_
        refine g_cVi (As := [vI 19]) C clX2_29 clvX7_isOwn dX2_both_25 kd_1 rfl (Nat.le_of_ble_eq_true rfl) rfl (by omega) (t_X7_isOwn (Cx.ok C) h) (fun r5 M4 h => ?_)
        obtain ⟨g6, h⟩ := h
        obtain ⟨ht, hf⟩ := h
        refine g_if_eq (tgt := 70) C dX2_both_28 (by decide) g6 (fun c => ?_) (fun c => ?_)
        · have h := ht c
          refine G.sub [2] rfl ?_
          exact w_X2_both_J70 C hd0 hF hR  h
        · have h := hf c
          refine g_aload_n (q := 0) C dX2_both_31 rfl rfl ?_
          refine g_getS (v := 1) C fX2_9 dX2_both_32 kd_5 rfl ?_
          refine g_cVv (As := []) C clX2_32 clvX7_advance dX2_both_35 kd_1 rfl (Nat.le_of_ble_eq_true rfl) rfl (by omega) (t_X7_advance (Cx.ok C) h) (fun M7 h => ?_)
          refine g_aload_n (q := 0) C dX2_both_38 rfl rfl ?_
          refine g_iload_n (q := 1) C dX2_both_39 rfl rfl ?_
          refine g_cVi (As := [vI v1]) C clX2_40 clvX2_fact dX2_both_40 kd_5 rfl (Nat.le_of_ble_eq_true rfl) rfl (by omega) (hF.2.2.1 h) (fun r9 M8 h => ?_)
          obtain ⟨g10, h⟩ := h
          obtain ⟨ht, hf⟩ := h
          refine g_if_eq (tgt := 62) C dX2_both_43 (by decide) g10 (fun c => ?_) (fun c => ?_)
          · have h := ht c
            refine G.sub [0, 1, 3] rfl ?_
            exact w_X2_both_J62 C hd0 hF hR (ih)  h
          · have h := hf c
            refine g_aload_n (q := 0) C dX2_both_46 rfl rfl ?_
            obtain ⟨g11, h⟩ := h
            refine g_getM C fX2_15 dX2_both_47 kd_5 (kd_in g11 (by decide)).1 ?_
            refine g_bipush (v := (-18)) C dX2_both_50 (by decide +kernel) ?_
            refine g_cVi (As := [vI (-18)]) C clX2_37 clvX1_add dX2_both_52 g11 rfl (Nat.le_of_ble_eq_true rfl) rfl (by omega) (t_X1_add (Cx.ok C) h) (fun r13 M12 h => ?_)
            obtain ⟨g14, h⟩ := h
            obtain ⟨ht, hf⟩ := h
            refine g_if_eq (tgt := 62) C dX2_both_55 (by decide) g14 (fun c => ?_) (fun c => ?_)
            · have h := ht c
              refine G.sub [0, 1, 3] rfl ?_
              exact w_X2_both_J62 C hd0 hF hR (ih)  h
            · have h := hf c
              refine g_iconst C dX2_both_58 rfl ?_
              refine g_goto (tgt := 63) C dX2_both_59 (by decide) ?_
              refine G.sub [0, 1, 3] rfl ?_
              exact w_X2_both_J63 C hd0 hF hR (ih)  h
set_option maxRecDepth 20000 in
theorem tb_X2_both {l : Launch} {Y : YT} (hY : YOK Y) {F : Nat → Int → Int → Mem → (Int → Mem → Prop) → Prop} {d0 : Nat} (hd0 : 6 ≤ d0) (hF : frOK l Y F d0) {a0 : Int} {M : Mem} {Q : Int → Mem → Prop} (h : mb_X2_both F a0 M Q) : Ctr l Y yX2_both cX2_both 4 (some .boolean) (d0 + 1) [vR Y 5, vI a0] M (PQi Y Q) := by
  unfold mb_X2_both at h
  refine ctr_ofF hY (by decide +kernel) (Nat.le_of_ble_eq_true rfl) [(0, vR Y 5), (1, vI a0)] rfl (fun X hX C hR => ?_)
  rw [← hX] at hF
  refine g_aload_n (q := 0) C dX2_both_0 rfl rfl ?_
  refine g_iload_n (q := 1) C dX2_both_1 rfl rfl ?_
  refine g_cVi (As := [vI a0]) C clX2_40 clvX2_fact dX2_both_2 kd_5 rfl (Nat.le_of_ble_eq_true rfl) rfl (by omega) (hF.2.2.1 h) (fun r16 M15 h => ?_)
  refine g_istore_n (lv' := [(2, vI r16), (0, vR Y 5), (1, vI a0)]) C dX2_both_5 rfl (by decide) rfl ?_
  refine g_iconst C dX2_both_6 rfl ?_
  refine g_istore_n (lv' := [(3, vI 0), (2, vI r16), (0, vR Y 5), (1, vI a0)]) C dX2_both_7 rfl (by decide) rfl ?_
  obtain ⟨f0, h⟩ := h
  refine G.sub [2, 3, 1, 0] rfl ?_
  exact w_X2_both_L8 C hd0 hF hR  f0 _ _ _ h
set_option maxRecDepth 20000 in
theorem w_X2_fact_J172 {Y : YT} {X : CX} {d0 : Nat} (C : Cx Y X cX2_fact 3 RX2 (d0 + 1)) {F : Nat → Int → Int → Mem → (Int → Mem → Prop) → Prop} (hd0 : 6 ≤ d0) (hF : frOK X.2.1 Y F d0) {Q : Int → Mem → Prop} (hR : Rt Y X (some .boolean) (PQi Y Q)) {s0 : Int}  {M : Mem}  (h : m_X2_fact_J172 F  Q s0 M) : G Y X 3 172 [] ((vI s0) :: []) M := by
  unfold m_X2_fact_J172 at h
  obtain ⟨g1, h⟩ := h
  exact g_retz C hR dX2_fact_172 g1 h
set_option maxRecDepth 20000 in
theorem w_X2_fact_J171 {Y : YT} {X : CX} {d0 : Nat} (C : Cx Y X cX2_fact 3 RX2 (d0 + 1)) {F : Nat → Int → Int → Mem → (Int → Mem → Prop) → Prop} (hd0 : 6 ≤ d0) (hF : frOK X.2.1 Y F d0) {Q : Int → Mem → Prop} (hR : Rt Y X (some .boolean) (PQi Y Q))   {M : Mem}  (h : m_X2_fact_J171 F  Q  M) : G Y X 3 171 [] ([]) M := by
  unfold m_X2_fact_J171 at h
  refine g_iconst C dX2_fact_171 rfl ?_
  refine G.sub [] rfl ?_
  exact w_X2_fact_J172 C hd0 hF hR  h
set_option maxRecDepth 20000 in
theorem w_X2_fact_J95 {Y : YT} {X : CX} {d0 : Nat} (C : Cx Y X cX2_fact 3 RX2 (d0 + 1)) {F : Nat → Int → Int → Mem → (Int → Mem → Prop) → Prop} (hd0 : 6 ≤ d0) (hF : frOK X.2.1 Y F d0) {Q : Int → Mem → Prop} (hR : Rt Y X (some .boolean) (PQi Y Q)) {s0 : Int}  {M : Mem}  (h : m_X2_fact_J95 F  Q s0 M) : G Y X 3 95 [] ((vI s0) :: []) M := by
  unfold m_X2_fact_J95 at h
  obtain ⟨g2, h⟩ := h
  exact g_retz C hR dX2_fact_95 g2 h
set_option maxRecDepth 20000 in
theorem w_X2_fact_J94 {Y : YT} {X : CX} {d0 : Nat} (C : Cx Y X cX2_fact 3 RX2 (d0 + 1)) {F : Nat → Int → Int → Mem → (Int → Mem → Prop) → Prop} (hd0 : 6 ≤ d0) (hF : frOK X.2.1 Y F d0) {Q : Int → Mem → Prop} (hR : Rt Y X (some .boolean) (PQi Y Q))   {M : Mem}  (h : m_X2_fact_J94 F  Q  M) : G Y X 3 94 [] ([]) M := by
  unfold m_X2_fact_J94 at h
  refine g_iconst C dX2_fact_94 rfl ?_
  refine G.sub [] rfl ?_
  exact w_X2_fact_J95 C hd0 hF hR  h
set_option maxRecDepth 20000 in
theorem w_X2_fact_J47 {Y : YT} {X : CX} {d0 : Nat} (C : Cx Y X cX2_fact 3 RX2 (d0 + 1)) {F : Nat → Int → Int → Mem → (Int → Mem → Prop) → Prop} (hd0 : 6 ≤ d0) (hF : frOK X.2.1 Y F d0) {Q : Int → Mem → Prop} (hR : Rt Y X (some .boolean) (PQi Y Q)) {s0 : Int}  {M : Mem}  (h : m_X2_fact_J47 F  Q s0 M) : G Y X 3 47 [] ((vI s0) :: []) M := by
  unfold m_X2_fact_J47 at h
  obtain ⟨g3, h⟩ := h
  exact g_retz C hR dX2_fact_47 g3 h
set_option maxRecDepth 20000 in
theorem w_X2_fact_J46 {Y : YT} {X : CX} {d0 : Nat} (C : Cx Y X cX2_fact 3 RX2 (d0 + 1)) {F : Nat → Int → Int → Mem → (Int → Mem → Prop) → Prop} (hd0 : 6 ≤ d0) (hF : frOK X.2.1 Y F d0) {Q : Int → Mem → Prop} (hR : Rt Y X (some .boolean) (PQi Y Q))   {M : Mem}  (h : m_X2_fact_J46 F  Q  M) : G Y X 3 46 [] ([]) M := by
  unfold m_X2_fact_J46 at h
  refine g_iconst C dX2_fact_46 rfl ?_
  refine G.sub [] rfl ?_
  exact w_X2_fact_J47 C hd0 hF hR  h
set_option maxRecDepth 20000 in
theorem tb_X2_fact {l : Launch} {Y : YT} (hY : YOK Y) {F : Nat → Int → Int → Mem → (Int → Mem → Prop) → Prop} {d0 : Nat} (hd0 : 6 ≤ d0) (hF : frOK l Y F d0) {a0 : Int} {M : Mem} {Q : Int → Mem → Prop} (h : mb_X2_fact F a0 M Q) : Ctr l Y yX2_fact cX2_fact 3 (some .boolean) (d0 + 1) [vR Y 5, vI a0] M (PQi Y Q) := by
  unfold mb_X2_fact at h
  refine ctr_ofF hY (by decide +kernel) (Nat.le_of_ble_eq_true rfl) [(0, vR Y 5), (1, vI a0)] rfl (fun X hX C hR => ?_)
  rw [← hX] at hF
  refine g_aload_n (q := 0) C dX2_fact_0 rfl rfl ?_
  refine g_getS (v := 1) C fX2_9 dX2_fact_1 kd_5 rfl ?_
  refine g_bipush (v := 20) C dX2_fact_4 (by decide +kernel) ?_
  refine g_cVi (As := [vI 20]) C clX2_29 clvX7_isOwn dX2_fact_6 kd_1 rfl (Nat.le_of_ble_eq_true rfl) rfl (by omega) (t_X7_isOwn (Cx.ok C) h) (fun r5 M4 h => ?_)
  obtain ⟨g6, h⟩ := h
  obtain ⟨ht, hf⟩ := h
  refine g_if_eq (tgt := 48) C dX2_fact_9 (by decide) g6 (fun c => ?_) (fun c => ?_)
  · have h := ht c
    refine g_aload_n (q := 0) C dX2_fact_48 rfl rfl ?_
    refine g_getS (v := 1) C fX2_9 dX2_fact_49 kd_5 rfl ?_
    refine g_bipush (v := 91) C dX2_fact_52 (by decide +kernel) ?_
    refine g_cVi (As := [vI 91]) C clX2_46 clvX7_isSign dX2_fact_54 kd_1 rfl (Nat.le_of_ble_eq_true rfl) rfl (by omega) (t_X7_isSign (Cx.ok C) h) (fun r8 M7 h => ?_)
    obtain ⟨g9, h⟩ := h
    obtain ⟨ht, hf⟩ := h
    refine g_if_eq (tgt := 96) C dX2_fact_57 (by decide) g9 (fun c => ?_) (fun c => ?_)
    · have h := ht c
      refine g_aload_n (q := 0) C dX2_fact_96 rfl rfl ?_
      refine g_getS (v := 1) C fX2_9 dX2_fact_97 kd_5 rfl ?_
      refine g_bipush (v := 21) C dX2_fact_100 (by decide +kernel) ?_
      refine g_cVi (As := [vI 21]) C clX2_29 clvX7_isOwn dX2_fact_102 kd_1 rfl (Nat.le_of_ble_eq_true rfl) rfl (by omega) (t_X7_isOwn (Cx.ok C) h) (fun r11 M10 h => ?_)
      obtain ⟨g12, h⟩ := h
      obtain ⟨ht, hf⟩ := h
      refine g_if_eq (tgt := 114) C dX2_fact_105 (by decide) g12 (fun c => ?_) (fun c => ?_)
      · have h := ht c
        refine g_aload_n (q := 0) C dX2_fact_114 rfl rfl ?_
        refine g_iload_n (q := 1) C dX2_fact_115 rfl rfl ?_
        refine g_cVi (As := [vI a0]) C clX2_59 clvX2_sum dX2_fact_116 kd_5 rfl (Nat.le_of_ble_eq_true rfl) rfl (by omega) (hF.2.2.2.1 h) (fun r14 M13 h => ?_)
        obtain ⟨g15, h⟩ := h
        obtain ⟨ht, hf⟩ := h
        refine g_if_ne (tgt := 124) C dX2_fact_119 (by decide) g15 (fun c => ?_) (fun c => ?_)
        · have h := hf c
          refine g_aload_n (q := 0) C dX2_fact_124 rfl rfl ?_
          refine g_cVi (As := []) C clX2_62 clvX2_comparison dX2_fact_125 kd_5 rfl (Nat.le_of_ble_eq_true rfl) rfl (by omega) (t_X2_comparison (Cx.ok C) h) (fun r17 M16 h => ?_)
          refine g_istore_n (lv' := [(2, vI r17), (0, vR Y 5), (1, vI a0)]) C dX2_fact_128 rfl (by decide) rfl ?_
          refine g_iload_n (q := 0) C dX2_fact_129 rfl rfl ?_
          obtain ⟨g18, h⟩ := h
          obtain ⟨ht, hf⟩ := h
          refine g_if_ne (tgt := 141) C dX2_fact_130 (by decide) g18 (fun c => ?_) (fun c => ?_)
          · have h := hf c
            refine g_aload_n (q := 1) C dX2_fact_141 rfl rfl ?_
            refine g_getS (v := 1) C fX2_9 dX2_fact_142 kd_5 rfl ?_
            refine g_cVv (As := []) C clX2_32 clvX7_advance dX2_fact_145 kd_1 rfl (Nat.le_of_ble_eq_true rfl) rfl (by omega) (t_X7_advance (Cx.ok C) h) (fun M19 h => ?_)
            refine g_aload_n (q := 1) C dX2_fact_148 rfl rfl ?_
            refine g_iload_n (q := 2) C dX2_fact_149 rfl rfl ?_
            refine g_cVi (As := [vI a0]) C clX2_59 clvX2_sum dX2_fact_150 kd_5 rfl (Nat.le_of_ble_eq_true rfl) rfl (by omega) (hF.2.2.2.1 h) (fun r21 M20 h => ?_)
            obtain ⟨g22, h⟩ := h
            obtain ⟨ht, hf⟩ := h
            refine g_if_eq (tgt := 171) C dX2_fact_153 (by decide) g22 (fun c => ?_) (fun c => ?_)
            · have h := ht c
              refine G.sub [] rfl ?_
              exact w_X2_fact_J171 C hd0 hF hR  h
            · have h := hf c
              refine g_aload_n (q := 1) C dX2_fact_156 rfl rfl ?_
              obtain ⟨g23, h⟩ := h
              refine g_getM C fX2_15 dX2_fact_157 kd_5 (kd_in g23 (by decide)).1 ?_
              refine g_iload_n (q := 0) C dX2_fact_160 rfl rfl ?_
              refine g_cVi (As := [vI r17]) C clX2_37 clvX1_add dX2_fact_161 g23 rfl (Nat.le_of_ble_eq_true rfl) rfl (by omega) (t_X1_add (Cx.ok C) h) (fun r25 M24 h => ?_)
              obtain ⟨g26, h⟩ := h
              obtain ⟨ht, hf⟩ := h
              refine g_if_eq (tgt := 171) C dX2_fact_164 (by decide) g26 (fun c => ?_) (fun c => ?_)
              · have h := ht c
                refine G.sub [] rfl ?_
                exact w_X2_fact_J171 C hd0 hF hR  h
              · have h := hf c
                refine g_iconst C dX2_fact_167 rfl ?_
                refine g_goto (tgt := 172) C dX2_fact_168 (by decide) ?_
                refine G.sub [] rfl ?_
                exact w_X2_fact_J172 C hd0 hF hR  h
          · have h := ht c
            refine g_aload_n (q := 1) C dX2_fact_133 rfl rfl ?_
            refine g_getS (v := 1) C fX2_9 dX2_fact_134 kd_5 rfl ?_
            refine g_cVi (As := []) C clX2_66 clvX7_misplaced dX2_fact_137 kd_1 rfl (Nat.le_of_ble_eq_true rfl) rfl (by omega) (t_X7_misplaced (Cx.ok C) h) (fun r28 M27 h => ?_)
            obtain ⟨g29, h⟩ := h
            exact g_retz C hR dX2_fact_140 g29 h
        · have h := ht c
          refine g_iconst C dX2_fact_122 rfl ?_
          exact g_retz C hR dX2_fact_123 (by decide) h
      · have h := hf c
        refine g_aload_n (q := 0) C dX2_fact_108 rfl rfl ?_
        refine g_iconst C dX2_fact_109 rfl ?_
        refine g_cVi (As := [vI 1]) C clX2_56 clvX2_take dX2_fact_110 kd_5 rfl (Nat.le_of_ble_eq_true rfl) rfl (by omega) (t_X2_take (Cx.ok C) h) (fun r31 M30 h => ?_)
        obtain ⟨g32, h⟩ := h
        exact g_retz C hR dX2_fact_113 g32 h
    · have h := hf c
      refine g_aload_n (q := 0) C dX2_fact_60 rfl rfl ?_
      refine g_iload_n (q := 1) C dX2_fact_61 rfl rfl ?_
      refine g_cVi (As := [vI a0]) C clX2_43 clvX2_opens dX2_fact_62 kd_5 rfl (Nat.le_of_ble_eq_true rfl) rfl (by omega) (t_X2_opens (Cx.ok C) h) (fun r34 M33 h => ?_)
      obtain ⟨g35, h⟩ := h
      obtain ⟨ht, hf⟩ := h
      refine g_if_eq (tgt := 94) C dX2_fact_65 (by decide) g35 (fun c => ?_) (fun c => ?_)
      · have h := ht c
        refine G.sub [] rfl ?_
        exact w_X2_fact_J94 C hd0 hF hR  h
      · have h := hf c
        refine g_aload_n (q := 0) C dX2_fact_68 rfl rfl ?_
        refine g_iload_n (q := 1) C dX2_fact_69 rfl rfl ?_
        refine g_iconst C dX2_fact_70 rfl ?_
        refine g_iadd C dX2_fact_71 ?_
        refine g_cVi (As := [vI (a0 + 1)]) C clX2_50 clvX2_test dX2_fact_72 kd_5 rfl (Nat.le_of_ble_eq_true rfl) rfl (by omega) (hF.1 h) (fun r37 M36 h => ?_)
        obtain ⟨g38, h⟩ := h
        obtain ⟨ht, hf⟩ := h
        refine g_if_eq (tgt := 94) C dX2_fact_75 (by decide) g38 (fun c => ?_) (fun c => ?_)
        · have h := ht c
          refine G.sub [] rfl ?_
          exact w_X2_fact_J94 C hd0 hF hR  h
        · have h := hf c
          refine g_aload_n (q := 0) C dX2_fact_78 rfl rfl ?_
          refine g_getS (v := 1) C fX2_9 dX2_fact_79 kd_5 rfl ?_
          refine g_bipush (v := 93) C dX2_fact_82 (by decide +kernel) ?_
          refine g_cVi (As := [vI 93]) C clX2_53 clvX7_takeSign dX2_fact_84 kd_1 rfl (Nat.le_of_ble_eq_true rfl) rfl (by omega) (t_X7_takeSign (Cx.ok C) h) (fun r40 M39 h => ?_)
          obtain ⟨g41, h⟩ := h
          obtain ⟨ht, hf⟩ := h
          refine g_if_eq (tgt := 94) C dX2_fact_87 (by decide) g41 (fun c => ?_) (fun c => ?_)
          · have h := ht c
            refine G.sub [] rfl ?_
            exact w_X2_fact_J94 C hd0 hF hR  h
          · have h := hf c
            refine g_iconst C dX2_fact_90 rfl ?_
            refine g_goto (tgt := 95) C dX2_fact_91 (by decide) ?_
            refine G.sub [] rfl ?_
            exact w_X2_fact_J95 C hd0 hF hR  h
  · have h := hf c
    refine g_aload_n (q := 0) C dX2_fact_12 rfl rfl ?_
    refine g_iload_n (q := 1) C dX2_fact_13 rfl rfl ?_
    refine g_cVi (As := [vI a0]) C clX2_43 clvX2_opens dX2_fact_14 kd_5 rfl (Nat.le_of_ble_eq_true rfl) rfl (by omega) (t_X2_opens (Cx.ok C) h) (fun r43 M42 h => ?_)
    obtain ⟨g44, h⟩ := h
    obtain ⟨ht, hf⟩ := h
    refine g_if_eq (tgt := 46) C dX2_fact_17 (by decide) g44 (fun c => ?_) (fun c => ?_)
    · have h := ht c
      refine G.sub [] rfl ?_
      exact w_X2_fact_J46 C hd0 hF hR  h
    · have h := hf c
      refine g_aload_n (q := 0) C dX2_fact_20 rfl rfl ?_
      refine g_iload_n (q := 1) C dX2_fact_21 rfl rfl ?_
      refine g_iconst C dX2_fact_22 rfl ?_
      refine g_iadd C dX2_fact_23 ?_
      refine g_cVi (As := [vI (a0 + 1)]) C clX2_40 clvX2_fact dX2_fact_24 kd_5 rfl (Nat.le_of_ble_eq_true rfl) rfl (by omega) (hF.2.2.1 h) (fun r46 M45 h => ?_)
      obtain ⟨g47, h⟩ := h
      obtain ⟨ht, hf⟩ := h
      refine g_if_eq (tgt := 46) C dX2_fact_27 (by decide) g47 (fun c => ?_) (fun c => ?_)
      · have h := ht c
        refine G.sub [] rfl ?_
        exact w_X2_fact_J46 C hd0 hF hR  h
      · have h := hf c
        refine g_aload_n (q := 0) C dX2_fact_30 rfl rfl ?_
        obtain ⟨g48, h⟩ := h
        refine g_getM C fX2_15 dX2_fact_31 kd_5 (kd_in g48 (by decide)).1 ?_
        refine g_bipush (v := (-20)) C dX2_fact_34 (by decide +kernel) ?_
        refine g_cVi (As := [vI (-20)]) C clX2_37 clvX1_add dX2_fact_36 g48 rfl (Nat.le_of_ble_eq_true rfl) rfl (by omega) (t_X1_add (Cx.ok C) h) (fun r50 M49 h => ?_)
        obtain ⟨g51, h⟩ := h
        obtain ⟨ht, hf⟩ := h
        refine g_if_eq (tgt := 46) C dX2_fact_39 (by decide) g51 (fun c => ?_) (fun c => ?_)
        · have h := ht c
          refine G.sub [] rfl ?_
          exact w_X2_fact_J46 C hd0 hF hR  h
        · have h := hf c
          refine g_iconst C dX2_fact_42 rfl ?_
          refine g_goto (tgt := 47) C dX2_fact_43 (by decide) ?_
          refine G.sub [] rfl ?_
          exact w_X2_fact_J47 C hd0 hF hR  h
set_option maxRecDepth 20000 in
theorem w_X2_sum_J103 {Y : YT} {X : CX} {d0 : Nat} (C : Cx Y X cX2_sum 5 RX2 (d0 + 1)) {F : Nat → Int → Int → Mem → (Int → Mem → Prop) → Prop} (hd0 : 6 ≤ d0) (hF : frOK X.2.1 Y F d0) {Q : Int → Mem → Prop} (hR : Rt Y X (some .boolean) (PQi Y Q)) {v2 : Int}  {M : Mem}  (h : m_X2_sum_J103 F  Q v2 M) : G Y X 5 103 [(2, vI v2)] ([]) M := by
  unfold m_X2_sum_J103 at h
  refine g_iload_n (q := 0) C dX2_sum_103 rfl rfl ?_
  obtain ⟨g1, h⟩ := h
  exact g_retz C hR dX2_sum_104 g1 h
set_option maxRecDepth 20000 in
theorem w_X2_sum_J96 {Y : YT} {X : CX} {d0 : Nat} (C : Cx Y X cX2_sum 5 RX2 (d0 + 1)) {F : Nat → Int → Int → Mem → (Int → Mem → Prop) → Prop} (hd0 : 6 ≤ d0) (hF : frOK X.2.1 Y F d0) {Q : Int → Mem → Prop} (hR : Rt Y X (some .boolean) (PQi Y Q)) {v1 : Int} {v3 : Int} {s0 : Int} {k8 : Int → Int → Mem → Prop} (hk8 : ∀ (v2 : Int) (v3 : Int)  (M : Mem), k8 v2 v3 M → G Y X 5 8 [(0, vR Y 5), (1, vI v1), (2, vI v2), (3, vI v3)] ([]) M) {M : Mem}  (h : m_X2_sum_J96 F k8 Q v1 v3 s0 M) : G Y X 5 96 [(0, vR Y 5), (1, vI v1), (3, vI v3)] ((vI s0) :: []) M := by
  unfold m_X2_sum_J96 at h
  refine g_istore_n (lv' := [(2, vI s0), (0, vR Y 5), (1, vI v1), (3, vI v3)]) C dX2_sum_96 rfl (by decide) rfl ?_
  refine g_iinc (q := 3) (v := v3 + 1) (lv' := [(3, vI (v3 + 1)), (2, vI s0), (0, vR Y 5), (1, vI v1)]) C dX2_sum_97 rfl rfl (by decide) rfl ?_
  refine g_goto (tgt := 8) C dX2_sum_100 (by decide) ?_
  refine G.sub [2, 3, 1, 0] rfl ?_
  exact hk8 _ _ _ h
set_option maxRecDepth 20000 in
theorem w_X2_sum_J95 {Y : YT} {X : CX} {d0 : Nat} (C : Cx Y X cX2_sum 5 RX2 (d0 + 1)) {F : Nat → Int → Int → Mem → (Int → Mem → Prop) → Prop} (hd0 : 6 ≤ d0) (hF : frOK X.2.1 Y F d0) {Q : Int → Mem → Prop} (hR : Rt Y X (some .boolean) (PQi Y Q)) {v1 : Int} {v3 : Int} {k8 : Int → Int → Mem → Prop} (hk8 : ∀ (v2 : Int) (v3 : Int)  (M : Mem), k8 v2 v3 M → G Y X 5 8 [(0, vR Y 5), (1, vI v1), (2, vI v2), (3, vI v3)] ([]) M) {M : Mem}  (h : m_X2_sum_J95 F k8 Q v1 v3 M) : G Y X 5 95 [(0, vR Y 5), (1, vI v1), (3, vI v3)] ([]) M := by
  unfold m_X2_sum_J95 at h
  refine g_iconst C dX2_sum_95 rfl ?_
  refine G.sub [0, 1, 2] rfl ?_
  exact w_X2_sum_J96 C hd0 hF hR (hk8)  h
set_option maxRecDepth 20000 in
theorem w_X2_sum_J62 {Y : YT} {X : CX} {d0 : Nat} (C : Cx Y X cX2_sum 5 RX2 (d0 + 1)) {F : Nat → Int → Int → Mem → (Int → Mem → Prop) → Prop} (hd0 : 6 ≤ d0) (hF : frOK X.2.1 Y F d0) {Q : Int → Mem → Prop} (hR : Rt Y X (some .boolean) (PQi Y Q)) {v1 : Int} {v3 : Int} {s0 : Int} {k8 : Int → Int → Mem → Prop} (hk8 : ∀ (v2 : Int) (v3 : Int)  (M : Mem), k8 v2 v3 M → G Y X 5 8 [(0, vR Y 5), (1, vI v1), (2, vI v2), (3, vI v3)] ([]) M) {M : Mem}  (h : m_X2_sum_J62 F k8 Q v1 v3 s0 M) : G Y X 5 62 [(0, vR Y 5), (1, vI v1), (3, vI v3)] ((vI s0) :: []) M := by
  unfold m_X2_sum_J62 at h
  refine g_istore (lv' := [(4, vI s0), (0, vR Y 5), (1, vI v1), (3, vI v3)]) C dX2_sum_62 (by decide) rfl ?_
  refine g_aload_n (q := 1) C dX2_sum_64 rfl rfl ?_
  refine g_getS (v := 1) C fX2_9 dX2_sum_65 kd_5 rfl ?_
  refine g_cVv (As := []) C clX2_32 clvX7_advance dX2_sum_68 kd_1 rfl (Nat.le_of_ble_eq_true rfl) rfl (by omega) (t_X7_advance (Cx.ok C) h) (fun M2 h => ?_)
  refine g_aload_n (q := 1) C dX2_sum_71 rfl rfl ?_
  refine g_iload_n (q := 2) C dX2_sum_72 rfl rfl ?_
  refine g_cVi (As := [vI v1]) C clX2_70 clvX2_product dX2_sum_73 kd_5 rfl (Nat.le_of_ble_eq_true rfl) rfl (by omega) (hF.2.2.2.2.1 h) (fun r4 M3 h => ?_)
  obtain ⟨g5, h⟩ := h
  obtain ⟨ht, hf⟩ := h
  refine g_if_eq (tgt := 95) C dX2_sum_76 (by decide) g5 (fun c => ?_) (fun c => ?_)
  · have h := ht c
    refine G.sub [1, 2, 3] rfl ?_
    exact w_X2_sum_J95 C hd0 hF hR (hk8)  h
  · have h := hf c
    refine g_aload_n (q := 1) C dX2_sum_79 rfl rfl ?_
    obtain ⟨g6, h⟩ := h
    refine g_getM C fX2_15 dX2_sum_80 kd_5 (kd_in g6 (by decide)).1 ?_
    refine g_iload (q := 0) C dX2_sum_83 rfl ?_
    refine g_cVi (As := [vI s0]) C clX2_37 clvX1_add dX2_sum_85 g6 rfl (Nat.le_of_ble_eq_true rfl) rfl (by omega) (t_X1_add (Cx.ok C) h) (fun r8 M7 h => ?_)
    obtain ⟨g9, h⟩ := h
    obtain ⟨ht, hf⟩ := h
    refine g_if_eq (tgt := 95) C dX2_sum_88 (by decide) g9 (fun c => ?_) (fun c => ?_)
    · have h := ht c
      refine G.sub [1, 2, 3] rfl ?_
      exact w_X2_sum_J95 C hd0 hF hR (hk8)  h
    · have h := hf c
      refine g_iconst C dX2_sum_91 rfl ?_
      refine g_goto (tgt := 96) C dX2_sum_92 (by decide) ?_
      refine G.sub [1, 2, 3] rfl ?_
      exact w_X2_sum_J96 C hd0 hF hR (hk8)  h
set_option maxRecDepth 20000 in
theorem w_X2_sum_J43 {Y : YT} {X : CX} {d0 : Nat} (C : Cx Y X cX2_sum 5 RX2 (d0 + 1)) {F : Nat → Int → Int → Mem → (Int → Mem → Prop) → Prop} (hd0 : 6 ≤ d0) (hF : frOK X.2.1 Y F d0) {Q : Int → Mem → Prop} (hR : Rt Y X (some .boolean) (PQi Y Q)) {v1 : Int} {v3 : Int} {k8 : Int → Int → Mem → Prop} (hk8 : ∀ (v2 : Int) (v3 : Int)  (M : Mem), k8 v2 v3 M → G Y X 5 8 [(0, vR Y 5), (1, vI v1), (2, vI v2), (3, vI v3)] ([]) M) {M : Mem}  (h : m_X2_sum_J43 F k8 Q v1 v3 M) : G Y X 5 43 [(0, vR Y 5), (1, vI v1), (3, vI v3)] ([]) M := by
  unfold m_X2_sum_J43 at h
  refine g_aload_n (q := 0) C dX2_sum_43 rfl rfl ?_
  refine g_getS (v := 1) C fX2_9 dX2_sum_44 kd_5 rfl ?_
  refine g_bipush (v := 43) C dX2_sum_47 (by decide +kernel) ?_
  refine g_cVi (As := [vI 43]) C clX2_46 clvX7_isSign dX2_sum_49 kd_1 rfl (Nat.le_of_ble_eq_true rfl) rfl (by omega) (t_X7_isSign (Cx.ok C) h) (fun r11 M10 h => ?_)
  obtain ⟨g12, h⟩ := h
  obtain ⟨ht, hf⟩ := h
  refine g_if_eq (tgt := 60) C dX2_sum_52 (by decide) g12 (fun c => ?_) (fun c => ?_)
  · have h := ht c
    refine g_bipush (v := (-9)) C dX2_sum_60 (by decide +kernel) ?_
    refine G.sub [0, 1, 2] rfl ?_
    exact w_X2_sum_J62 C hd0 hF hR (hk8)  h
  · have h := hf c
    refine g_bipush (v := (-8)) C dX2_sum_55 (by decide +kernel) ?_
    refine g_goto (tgt := 62) C dX2_sum_57 (by decide) ?_
    refine G.sub [0, 1, 2] rfl ?_
    exact w_X2_sum_J62 C hd0 hF hR (hk8)  h
set_option maxRecDepth 20000 in
theorem w_X2_sum_L8 {Y : YT} {X : CX} {d0 : Nat} (C : Cx Y X cX2_sum 5 RX2 (d0 + 1)) {F : Nat → Int → Int → Mem → (Int → Mem → Prop) → Prop} (hd0 : 6 ≤ d0) (hF : frOK X.2.1 Y F d0) {Q : Int → Mem → Prop} (hR : Rt Y X (some .boolean) (PQi Y Q)) {v1 : Int}  : ∀ (f : Nat) (v2 : Int) (v3 : Int) (M : Mem), m_X2_sum_L8 F  Q v1 f v2 v3 M → G Y X 5 8 [(0, vR Y 5), (1, vI v1), (2, vI v2), (3, vI v3)] ([]) M := by
  intro f
  induction f with
  | zero =>
    intro v2 v3 M h
    exact (show False from h).elim
  | succ f ih =>
    intro v2 v3 M h
    unfold m_X2_sum_L8 at h
    refine g_iload_n (q := 3) C dX2_sum_8 rfl rfl ?_
    refine g_sipush (v := 1600) C dX2_sum_9 (by decide +kernel) ?_
    obtain ⟨g13, h⟩ := h
    obtain ⟨ht, hf⟩ := h
    refine g_icmp_ge (tgt := 103) C dX2_sum_12 (by decide) g13 (by decide) (fun c => ?_) (fun c => ?_)
    · have h := ht c
      refine G.sub [2] rfl ?_
      exact w_X2_sum_J103 C hd0 hF hR  h
    · have h := hf c
      refine g_iload_n (q := 2) C dX2_sum_15 rfl rfl ?_
      obtain ⟨g14, h⟩ := h
      obtain ⟨ht, hf⟩ := h
      refine g_if_eq (tgt := 103) C dX2_sum_16 (by decide) g14 (fun c => ?_) (fun c => ?_)
      · have h := ht c
        refine G.sub [2] rfl ?_
        exact w_X2_sum_J103 C hd0 hF hR  h
      · have h := hf c
        refine g_aload_n (q := 0) C dX2_sum_19 rfl rfl ?_
        refine g_getS (v := 1) C fX2_9 dX2_sum_20 kd_5 rfl ?_
        refine g_bipush (v := 43) C dX2_sum_23 (by decide +kernel) ?_
        refine g_cVi (As := [vI 43]) C clX2_46 clvX7_isSign dX2_sum_25 kd_1 rfl (Nat.le_of_ble_eq_true rfl) rfl (by omega) (t_X7_isSign (Cx.ok C) h) (fun r16 M15 h => ?_)
        obtain ⟨g17, h⟩ := h
        obtain ⟨ht, hf⟩ := h
        refine g_if_ne (tgt := 43) C dX2_sum_28 (by decide) g17 (fun c => ?_) (fun c => ?_)
        · have h := hf c
          refine G.sub [0, 1, 3] rfl ?_
          exact w_X2_sum_J43 C hd0 hF hR (ih)  h
        · have h := ht c
          refine g_aload_n (q := 0) C dX2_sum_31 rfl rfl ?_
          refine g_getS (v := 1) C fX2_9 dX2_sum_32 kd_5 rfl ?_
          refine g_bipush (v := 45) C dX2_sum_35 (by decide +kernel) ?_
          refine g_cVi (As := [vI 45]) C clX2_46 clvX7_isSign dX2_sum_37 kd_1 rfl (Nat.le_of_ble_eq_true rfl) rfl (by omega) (t_X7_isSign (Cx.ok C) h) (fun r19 M18 h => ?_)
          obtain ⟨g20, h⟩ := h
          obtain ⟨ht, hf⟩ := h
          refine g_if_eq (tgt := 103) C dX2_sum_40 (by decide) g20 (fun c => ?_) (fun c => ?_)
          · have h := ht c
            refine G.sub [2] rfl ?_
            exact w_X2_sum_J103 C hd0 hF hR  h
          · have h := hf c
            refine G.sub [0, 1, 3] rfl ?_
            exact w_X2_sum_J43 C hd0 hF hR (ih)  h
set_option maxRecDepth 20000 in
theorem tb_X2_sum {l : Launch} {Y : YT} (hY : YOK Y) {F : Nat → Int → Int → Mem → (Int → Mem → Prop) → Prop} {d0 : Nat} (hd0 : 6 ≤ d0) (hF : frOK l Y F d0) {a0 : Int} {M : Mem} {Q : Int → Mem → Prop} (h : mb_X2_sum F a0 M Q) : Ctr l Y yX2_sum cX2_sum 5 (some .boolean) (d0 + 1) [vR Y 5, vI a0] M (PQi Y Q) := by
  unfold mb_X2_sum at h
  refine ctr_ofF hY (by decide +kernel) (Nat.le_of_ble_eq_true rfl) [(0, vR Y 5), (1, vI a0)] rfl (fun X hX C hR => ?_)
  rw [← hX] at hF
  refine g_aload_n (q := 0) C dX2_sum_0 rfl rfl ?_
  refine g_iload_n (q := 1) C dX2_sum_1 rfl rfl ?_
  refine g_cVi (As := [vI a0]) C clX2_70 clvX2_product dX2_sum_2 kd_5 rfl (Nat.le_of_ble_eq_true rfl) rfl (by omega) (hF.2.2.2.2.1 h) (fun r22 M21 h => ?_)
  refine g_istore_n (lv' := [(2, vI r22), (0, vR Y 5), (1, vI a0)]) C dX2_sum_5 rfl (by decide) rfl ?_
  refine g_iconst C dX2_sum_6 rfl ?_
  refine g_istore_n (lv' := [(3, vI 0), (2, vI r22), (0, vR Y 5), (1, vI a0)]) C dX2_sum_7 rfl (by decide) rfl ?_
  obtain ⟨f0, h⟩ := h
  refine G.sub [2, 3, 1, 0] rfl ?_
  exact w_X2_sum_L8 C hd0 hF hR  f0 _ _ _ h
set_option maxRecDepth 20000 in
theorem w_X2_product_J71 {Y : YT} {X : CX} {d0 : Nat} (C : Cx Y X cX2_product 5 RX2 (d0 + 1)) {F : Nat → Int → Int → Mem → (Int → Mem → Prop) → Prop} (hd0 : 6 ≤ d0) (hF : frOK X.2.1 Y F d0) {Q : Int → Mem → Prop} (hR : Rt Y X (some .boolean) (PQi Y Q)) {v2 : Int}  {M : Mem}  (h : m_X2_product_J71 F  Q v2 M) : G Y X 5 71 [(2, vI v2)] ([]) M := by
  unfold m_X2_product_J71 at h
  refine g_iload_n (q := 0) C dX2_product_71 rfl rfl ?_
  obtain ⟨g1, h⟩ := h
  exact g_retz C hR dX2_product_72 g1 h
set_option maxRecDepth 20000 in
theorem w_X2_product_J64 {Y : YT} {X : CX} {d0 : Nat} (C : Cx Y X cX2_product 5 RX2 (d0 + 1)) {F : Nat → Int → Int → Mem → (Int → Mem → Prop) → Prop} (hd0 : 6 ≤ d0) (hF : frOK X.2.1 Y F d0) {Q : Int → Mem → Prop} (hR : Rt Y X (some .boolean) (PQi Y Q)) {v1 : Int} {v3 : Int} {s0 : Int} {k8 : Int → Int → Mem → Prop} (hk8 : ∀ (v2 : Int) (v3 : Int)  (M : Mem), k8 v2 v3 M → G Y X 5 8 [(0, vR Y 5), (1, vI v1), (2, vI v2), (3, vI v3)] ([]) M) {M : Mem}  (h : m_X2_product_J64 F k8 Q v1 v3 s0 M) : G Y X 5 64 [(0, vR Y 5), (1, vI v1), (3, vI v3)] ((vI s0) :: []) M := by
  unfold m_X2_product_J64 at h
  refine g_istore_n (lv' := [(2, vI s0), (0, vR Y 5), (1, vI v1), (3, vI v3)]) C dX2_product_64 rfl (by decide) rfl ?_
  refine g_iinc (q := 3) (v := v3 + 1) (lv' := [(3, vI (v3 + 1)), (2, vI s0), (0, vR Y 5), (1, vI v1)]) C dX2_product_65 rfl rfl (by decide) rfl ?_
  refine g_goto (tgt := 8) C dX2_product_68 (by decide) ?_
  refine G.sub [2, 3, 1, 0] rfl ?_
  exact hk8 _ _ _ h
set_option maxRecDepth 20000 in
theorem w_X2_product_J63 {Y : YT} {X : CX} {d0 : Nat} (C : Cx Y X cX2_product 5 RX2 (d0 + 1)) {F : Nat → Int → Int → Mem → (Int → Mem → Prop) → Prop} (hd0 : 6 ≤ d0) (hF : frOK X.2.1 Y F d0) {Q : Int → Mem → Prop} (hR : Rt Y X (some .boolean) (PQi Y Q)) {v1 : Int} {v3 : Int} {k8 : Int → Int → Mem → Prop} (hk8 : ∀ (v2 : Int) (v3 : Int)  (M : Mem), k8 v2 v3 M → G Y X 5 8 [(0, vR Y 5), (1, vI v1), (2, vI v2), (3, vI v3)] ([]) M) {M : Mem}  (h : m_X2_product_J63 F k8 Q v1 v3 M) : G Y X 5 63 [(0, vR Y 5), (1, vI v1), (3, vI v3)] ([]) M := by
  unfold m_X2_product_J63 at h
  refine g_iconst C dX2_product_63 rfl ?_
  refine G.sub [0, 1, 2] rfl ?_
  exact w_X2_product_J64 C hd0 hF hR (hk8)  h
set_option maxRecDepth 20000 in
theorem w_X2_product_L8 {Y : YT} {X : CX} {d0 : Nat} (C : Cx Y X cX2_product 5 RX2 (d0 + 1)) {F : Nat → Int → Int → Mem → (Int → Mem → Prop) → Prop} (hd0 : 6 ≤ d0) (hF : frOK X.2.1 Y F d0) {Q : Int → Mem → Prop} (hR : Rt Y X (some .boolean) (PQi Y Q)) {v1 : Int}  : ∀ (f : Nat) (v2 : Int) (v3 : Int) (M : Mem), m_X2_product_L8 F  Q v1 f v2 v3 M → G Y X 5 8 [(0, vR Y 5), (1, vI v1), (2, vI v2), (3, vI v3)] ([]) M := by
  intro f
  induction f with
  | zero =>
    intro v2 v3 M h
    exact (show False from h).elim
  | succ f ih =>
    intro v2 v3 M h
    unfold m_X2_product_L8 at h
    refine g_iload_n (q := 3) C dX2_product_8 rfl rfl ?_
    refine g_sipush (v := 1600) C dX2_product_9 (by decide +kernel) ?_
    obtain ⟨g2, h⟩ := h
    obtain ⟨ht, hf⟩ := h
    refine g_icmp_ge (tgt := 71) C dX2_product_12 (by decide) g2 (by decide) (fun c => ?_) (fun c => ?_)
    · have h := ht c
      refine G.sub [2] rfl ?_
      exact w_X2_product_J71 C hd0 hF hR  h
    · have h := hf c
      refine g_iload_n (q := 2) C dX2_product_15 rfl rfl ?_
      obtain ⟨g3, h⟩ := h
      obtain ⟨ht, hf⟩ := h
      refine g_if_eq (tgt := 71) C dX2_product_16 (by decide) g3 (fun c => ?_) (fun c => ?_)
      · have h := ht c
        refine G.sub [2] rfl ?_
        exact w_X2_product_J71 C hd0 hF hR  h
      · have h := hf c
        refine g_aload_n (q := 0) C dX2_product_19 rfl rfl ?_
        refine g_cVi (As := []) C clX2_76 clvX2_productCode dX2_product_20 kd_5 rfl (Nat.le_of_ble_eq_true rfl) rfl (by omega) (t_X2_productCode (Cx.ok C) h) (fun r5 M4 h => ?_)
        obtain ⟨g6, h⟩ := h
        obtain ⟨ht, hf⟩ := h
        refine g_if_eq (tgt := 71) C dX2_product_23 (by decide) g6 (fun c => ?_) (fun c => ?_)
        · have h := ht c
          refine G.sub [2] rfl ?_
          exact w_X2_product_J71 C hd0 hF hR  h
        · have h := hf c
          refine g_aload_n (q := 0) C dX2_product_26 rfl rfl ?_
          refine g_cVi (As := []) C clX2_76 clvX2_productCode dX2_product_27 kd_5 rfl (Nat.le_of_ble_eq_true rfl) rfl (by omega) (t_X2_productCode (Cx.ok C) h) (fun r8 M7 h => ?_)
          refine g_istore (lv' := [(4, vI r8), (0, vR Y 5), (1, vI v1), (2, vI v2), (3, vI v3)]) C dX2_product_30 (by decide) rfl ?_
          refine g_aload_n (q := 1) C dX2_product_32 rfl rfl ?_
          refine g_getS (v := 1) C fX2_9 dX2_product_33 kd_5 rfl ?_
          refine g_cVv (As := []) C clX2_32 clvX7_advance dX2_product_36 kd_1 rfl (Nat.le_of_ble_eq_true rfl) rfl (by omega) (t_X7_advance (Cx.ok C) h) (fun M9 h => ?_)
          refine g_aload_n (q := 1) C dX2_product_39 rfl rfl ?_
          refine g_iload_n (q := 2) C dX2_product_40 rfl rfl ?_
          refine g_cVi (As := [vI v1]) C clX2_73 clvX2_part dX2_product_41 kd_5 rfl (Nat.le_of_ble_eq_true rfl) rfl (by omega) (hF.2.2.2.2.2.1 h) (fun r11 M10 h => ?_)
          obtain ⟨g12, h⟩ := h
          obtain ⟨ht, hf⟩ := h
          refine g_if_eq (tgt := 63) C dX2_product_44 (by decide) g12 (fun c => ?_) (fun c => ?_)
          · have h := ht c
            refine G.sub [1, 2, 4] rfl ?_
            exact w_X2_product_J63 C hd0 hF hR (ih)  h
          · have h := hf c
            refine g_aload_n (q := 1) C dX2_product_47 rfl rfl ?_
            obtain ⟨g13, h⟩ := h
            refine g_getM C fX2_15 dX2_product_48 kd_5 (kd_in g13 (by decide)).1 ?_
            refine g_iload (q := 0) C dX2_product_51 rfl ?_
            refine g_cVi (As := [vI r8]) C clX2_37 clvX1_add dX2_product_53 g13 rfl (Nat.le_of_ble_eq_true rfl) rfl (by omega) (t_X1_add (Cx.ok C) h) (fun r15 M14 h => ?_)
            obtain ⟨g16, h⟩ := h
            obtain ⟨ht, hf⟩ := h
            refine g_if_eq (tgt := 63) C dX2_product_56 (by decide) g16 (fun c => ?_) (fun c => ?_)
            · have h := ht c
              refine G.sub [1, 2, 4] rfl ?_
              exact w_X2_product_J63 C hd0 hF hR (ih)  h
            · have h := hf c
              refine g_iconst C dX2_product_59 rfl ?_
              refine g_goto (tgt := 64) C dX2_product_60 (by decide) ?_
              refine G.sub [1, 2, 4] rfl ?_
              exact w_X2_product_J64 C hd0 hF hR (ih)  h
set_option maxRecDepth 20000 in
theorem tb_X2_product {l : Launch} {Y : YT} (hY : YOK Y) {F : Nat → Int → Int → Mem → (Int → Mem → Prop) → Prop} {d0 : Nat} (hd0 : 6 ≤ d0) (hF : frOK l Y F d0) {a0 : Int} {M : Mem} {Q : Int → Mem → Prop} (h : mb_X2_product F a0 M Q) : Ctr l Y yX2_product cX2_product 5 (some .boolean) (d0 + 1) [vR Y 5, vI a0] M (PQi Y Q) := by
  unfold mb_X2_product at h
  refine ctr_ofF hY (by decide +kernel) (Nat.le_of_ble_eq_true rfl) [(0, vR Y 5), (1, vI a0)] rfl (fun X hX C hR => ?_)
  rw [← hX] at hF
  refine g_aload_n (q := 0) C dX2_product_0 rfl rfl ?_
  refine g_iload_n (q := 1) C dX2_product_1 rfl rfl ?_
  refine g_cVi (As := [vI a0]) C clX2_73 clvX2_part dX2_product_2 kd_5 rfl (Nat.le_of_ble_eq_true rfl) rfl (by omega) (hF.2.2.2.2.2.1 h) (fun r18 M17 h => ?_)
  refine g_istore_n (lv' := [(2, vI r18), (0, vR Y 5), (1, vI a0)]) C dX2_product_5 rfl (by decide) rfl ?_
  refine g_iconst C dX2_product_6 rfl ?_
  refine g_istore_n (lv' := [(3, vI 0), (2, vI r18), (0, vR Y 5), (1, vI a0)]) C dX2_product_7 rfl (by decide) rfl ?_
  obtain ⟨f0, h⟩ := h
  refine G.sub [2, 3, 1, 0] rfl ?_
  exact w_X2_product_L8 C hd0 hF hR  f0 _ _ _ h
set_option maxRecDepth 20000 in
theorem w_X2_part_J292 {Y : YT} {X : CX} {d0 : Nat} (C : Cx Y X cX2_part 2 RX2 (d0 + 1)) {F : Nat → Int → Int → Mem → (Int → Mem → Prop) → Prop} (hd0 : 6 ≤ d0) (hF : frOK X.2.1 Y F d0) {Q : Int → Mem → Prop} (hR : Rt Y X (some .boolean) (PQi Y Q))   {M : Mem}  (h : m_X2_part_J292 F  Q  M) : G Y X 2 292 [(0, vR Y 5)] ([]) M := by
  unfold m_X2_part_J292 at h
  refine g_aload_n (q := 0) C dX2_part_292 rfl rfl ?_
  refine g_getS (v := 1) C fX2_9 dX2_part_293 kd_5 rfl ?_
  refine g_cVi (As := []) C clX2_66 clvX7_misplaced dX2_part_296 kd_1 rfl (Nat.le_of_ble_eq_true rfl) rfl (by omega) (t_X7_misplaced (Cx.ok C) h) (fun r2 M1 h => ?_)
  obtain ⟨g3, h⟩ := h
  exact g_retz C hR dX2_part_299 g3 h
set_option maxRecDepth 20000 in
theorem w_X2_part_J269 {Y : YT} {X : CX} {d0 : Nat} (C : Cx Y X cX2_part 2 RX2 (d0 + 1)) {F : Nat → Int → Int → Mem → (Int → Mem → Prop) → Prop} (hd0 : 6 ≤ d0) (hF : frOK X.2.1 Y F d0) {Q : Int → Mem → Prop} (hR : Rt Y X (some .boolean) (PQi Y Q)) {s0 : Int}  {M : Mem}  (h : m_X2_part_J269 F  Q s0 M) : G Y X 2 269 [] ((vI s0) :: []) M := by
  unfold m_X2_part_J269 at h
  obtain ⟨g4, h⟩ := h
  exact g_retz C hR dX2_part_269 g4 h
set_option maxRecDepth 20000 in
theorem w_X2_part_J245 {Y : YT} {X : CX} {d0 : Nat} (C : Cx Y X cX2_part 2 RX2 (d0 + 1)) {F : Nat → Int → Int → Mem → (Int → Mem → Prop) → Prop} (hd0 : 6 ≤ d0) (hF : frOK X.2.1 Y F d0) {Q : Int → Mem → Prop} (hR : Rt Y X (some .boolean) (PQi Y Q)) {s0 : Int}  {M : Mem}  (h : m_X2_part_J245 F  Q s0 M) : G Y X 2 245 [] ((vI s0) :: []) M := by
  unfold m_X2_part_J245 at h
  obtain ⟨g5, h⟩ := h
  exact g_retz C hR dX2_part_245 g5 h
set_option maxRecDepth 20000 in
theorem w_X2_part_J70 {Y : YT} {X : CX} {d0 : Nat} (C : Cx Y X cX2_part 2 RX2 (d0 + 1)) {F : Nat → Int → Int → Mem → (Int → Mem → Prop) → Prop} (hd0 : 6 ≤ d0) (hF : frOK X.2.1 Y F d0) {Q : Int → Mem → Prop} (hR : Rt Y X (some .boolean) (PQi Y Q)) {s0 : Int}  {M : Mem}  (h : m_X2_part_J70 F  Q s0 M) : G Y X 2 70 [] ((vI s0) :: []) M := by
  unfold m_X2_part_J70 at h
  obtain ⟨g6, h⟩ := h
  exact g_retz C hR dX2_part_70 g6 h
set_option maxRecDepth 20000 in
theorem w_X2_part_J69 {Y : YT} {X : CX} {d0 : Nat} (C : Cx Y X cX2_part 2 RX2 (d0 + 1)) {F : Nat → Int → Int → Mem → (Int → Mem → Prop) → Prop} (hd0 : 6 ≤ d0) (hF : frOK X.2.1 Y F d0) {Q : Int → Mem → Prop} (hR : Rt Y X (some .boolean) (PQi Y Q))   {M : Mem}  (h : m_X2_part_J69 F  Q  M) : G Y X 2 69 [] ([]) M := by
  unfold m_X2_part_J69 at h
  refine g_iconst C dX2_part_69 rfl ?_
  refine G.sub [] rfl ?_
  exact w_X2_part_J70 C hd0 hF hR  h
set_option maxRecDepth 20000 in
theorem tb_X2_part {l : Launch} {Y : YT} (hY : YOK Y) {F : Nat → Int → Int → Mem → (Int → Mem → Prop) → Prop} {d0 : Nat} (hd0 : 6 ≤ d0) (hF : frOK l Y F d0) {a0 : Int} {M : Mem} {Q : Int → Mem → Prop} (h : mb_X2_part F a0 M Q) : Ctr l Y yX2_part cX2_part 2 (some .boolean) (d0 + 1) [vR Y 5, vI a0] M (PQi Y Q) := by
  unfold mb_X2_part at h
  refine ctr_ofF hY (by decide +kernel) (Nat.le_of_ble_eq_true rfl) [(0, vR Y 5), (1, vI a0)] rfl (fun X hX C hR => ?_)
  rw [← hX] at hF
  refine g_aload_n (q := 0) C dX2_part_0 rfl rfl ?_
  refine g_getS (v := 1) C fX2_9 dX2_part_1 kd_5 rfl ?_
  refine g_getI C fX2_79 (by decide) dX2_part_4 kd_1 ?_
  refine g_iconst C dX2_part_7 rfl ?_
  obtain ⟨g7, h⟩ := h
  obtain ⟨ht, hf⟩ := h
  refine g_icmp_ne (tgt := 23) C dX2_part_8 (by decide) g7 (by decide) (fun c => ?_) (fun c => ?_)
  · have h := hf c
    refine g_aload_n (q := 0) C dX2_part_23 rfl rfl ?_
    refine g_getS (v := 1) C fX2_9 dX2_part_24 kd_5 rfl ?_
    refine g_bipush (v := 40) C dX2_part_27 (by decide +kernel) ?_
    refine g_cVi (As := [vI 40]) C clX2_46 clvX7_isSign dX2_part_29 kd_1 rfl (Nat.le_of_ble_eq_true rfl) rfl (by omega) (t_X7_isSign (Cx.ok C) h) (fun r9 M8 h => ?_)
    obtain ⟨g10, h⟩ := h
    obtain ⟨ht, hf⟩ := h
    refine g_if_eq (tgt := 71) C dX2_part_32 (by decide) g10 (fun c => ?_) (fun c => ?_)
    · have h := ht c
      refine g_aload_n (q := 0) C dX2_part_71 rfl rfl ?_
      refine g_getS (v := 1) C fX2_9 dX2_part_72 kd_5 rfl ?_
      refine g_getI C fX2_79 (by decide) dX2_part_75 kd_1 ?_
      refine g_iconst C dX2_part_78 rfl ?_
      obtain ⟨g11, h⟩ := h
      obtain ⟨ht, hf⟩ := h
      refine g_icmp_eq (tgt := 90) C dX2_part_79 (by decide) g11 (by decide) (fun c => ?_) (fun c => ?_)
      · have h := ht c
        refine g_aload_n (q := 0) C dX2_part_90 rfl rfl ?_
        refine g_getS (v := 1) C fX2_9 dX2_part_91 kd_5 rfl ?_
        refine g_getI C fX2_86 (by decide) dX2_part_94 kd_1 ?_
        obtain ⟨g12, h⟩ := h
        refine G.nmI (x := M8 1 5) rfl ?_
        obtain ⟨c0, c1, c2, c3, c4, c5, c6, c7, c8, c9, c10, c11, c12, c13, c14, c15, c16, c17, c18, c19⟩ := h
        rcases (show (M8 1 5 = 5) ∨ (M8 1 5 = 6) ∨ (M8 1 5 = 7) ∨ (M8 1 5 = 8) ∨ (M8 1 5 = 9) ∨ (M8 1 5 = 10) ∨ (M8 1 5 = 11) ∨ (M8 1 5 = 12) ∨ (M8 1 5 = 13) ∨ (M8 1 5 = 14) ∨ (M8 1 5 = 15) ∨ (M8 1 5 = 16) ∨ (M8 1 5 = 17) ∨ (M8 1 5 = 18) ∨ (M8 1 5 = 19) ∨ (M8 1 5 = 20) ∨ (M8 1 5 = 21) ∨ (M8 1 5 = 22) ∨ (M8 1 5 = 23) ∨ (M8 1 5 < 5 ∨ 23 < M8 1 5) by omega) with q | q | q | q | q | q | q | q | q | q | q | q | q | q | q | q | q | q | q | q
        · have h := c0 q
          refine g_tswIn (off := 91) (tgt := 188) C dX2_part_97 g12 (by omega) (by omega) (by rw [q]; rfl) (by decide) ?_
          refine g_aload_n (q := 0) C dX2_part_188 rfl rfl ?_
          refine g_iconst C dX2_part_189 rfl ?_
          refine g_cVi (As := [vI (-1)]) C clX2_56 clvX2_take dX2_part_190 kd_5 rfl (Nat.le_of_ble_eq_true rfl) rfl (by omega) (t_X2_take (Cx.ok C) h) (fun r14 M13 h => ?_)
          obtain ⟨g15, h⟩ := h
          exact g_retz C hR dX2_part_193 g15 h
        · have h := c1 q
          refine g_tswIn (off := 195) (tgt := 292) C dX2_part_97 g12 (by omega) (by omega) (by rw [q]; rfl) (by decide) ?_
          refine G.sub [0] rfl ?_
          exact w_X2_part_J292 C hd0 hF hR  h
        · have h := c2 q
          refine g_tswIn (off := 195) (tgt := 292) C dX2_part_97 g12 (by omega) (by omega) (by rw [q]; rfl) (by decide) ?_
          refine G.sub [0] rfl ?_
          exact w_X2_part_J292 C hd0 hF hR  h
        · have h := c3 q
          refine g_tswIn (off := 195) (tgt := 292) C dX2_part_97 g12 (by omega) (by omega) (by rw [q]; rfl) (by decide) ?_
          refine G.sub [0] rfl ?_
          exact w_X2_part_J292 C hd0 hF hR  h
        · have h := c4 q
          refine g_tswIn (off := 195) (tgt := 292) C dX2_part_97 g12 (by omega) (by omega) (by rw [q]; rfl) (by decide) ?_
          refine G.sub [0] rfl ?_
          exact w_X2_part_J292 C hd0 hF hR  h
        · have h := c5 q
          refine g_tswIn (off := 195) (tgt := 292) C dX2_part_97 g12 (by omega) (by omega) (by rw [q]; rfl) (by decide) ?_
          refine G.sub [0] rfl ?_
          exact w_X2_part_J292 C hd0 hF hR  h
        · have h := c6 q
          refine g_tswIn (off := 97) (tgt := 194) C dX2_part_97 g12 (by omega) (by omega) (by rw [q]; rfl) (by decide) ?_
          refine g_aload_n (q := 0) C dX2_part_194 rfl rfl ?_
          refine g_bipush (v := (-2)) C dX2_part_195 (by decide +kernel) ?_
          refine g_cVi (As := [vI (-2)]) C clX2_56 clvX2_take dX2_part_197 kd_5 rfl (Nat.le_of_ble_eq_true rfl) rfl (by omega) (t_X2_take (Cx.ok C) h) (fun r17 M16 h => ?_)
          obtain ⟨g18, h⟩ := h
          exact g_retz C hR dX2_part_200 g18 h
        · have h := c7 q
          refine g_tswIn (off := 104) (tgt := 201) C dX2_part_97 g12 (by omega) (by omega) (by rw [q]; rfl) (by decide) ?_
          refine g_aload_n (q := 0) C dX2_part_201 rfl rfl ?_
          refine g_bipush (v := (-3)) C dX2_part_202 (by decide +kernel) ?_
          refine g_cVi (As := [vI (-3)]) C clX2_56 clvX2_take dX2_part_204 kd_5 rfl (Nat.le_of_ble_eq_true rfl) rfl (by omega) (t_X2_take (Cx.ok C) h) (fun r20 M19 h => ?_)
          obtain ⟨g21, h⟩ := h
          exact g_retz C hR dX2_part_207 g21 h
        · have h := c8 q
          refine g_tswIn (off := 111) (tgt := 208) C dX2_part_97 g12 (by omega) (by omega) (by rw [q]; rfl) (by decide) ?_
          refine g_aload_n (q := 0) C dX2_part_208 rfl rfl ?_
          refine g_bipush (v := (-4)) C dX2_part_209 (by decide +kernel) ?_
          refine g_cVi (As := [vI (-4)]) C clX2_56 clvX2_take dX2_part_211 kd_5 rfl (Nat.le_of_ble_eq_true rfl) rfl (by omega) (t_X2_take (Cx.ok C) h) (fun r23 M22 h => ?_)
          obtain ⟨g24, h⟩ := h
          exact g_retz C hR dX2_part_214 g24 h
        · have h := c9 q
          refine g_tswIn (off := 118) (tgt := 215) C dX2_part_97 g12 (by omega) (by omega) (by rw [q]; rfl) (by decide) ?_
          refine g_aload_n (q := 0) C dX2_part_215 rfl rfl ?_
          refine g_bipush (v := (-5)) C dX2_part_216 (by decide +kernel) ?_
          refine g_cVi (As := [vI (-5)]) C clX2_56 clvX2_take dX2_part_218 kd_5 rfl (Nat.le_of_ble_eq_true rfl) rfl (by omega) (t_X2_take (Cx.ok C) h) (fun r26 M25 h => ?_)
          obtain ⟨g27, h⟩ := h
          exact g_retz C hR dX2_part_221 g27 h
        · have h := c10 q
          refine g_tswIn (off := 125) (tgt := 222) C dX2_part_97 g12 (by omega) (by omega) (by rw [q]; rfl) (by decide) ?_
          refine g_aload_n (q := 0) C dX2_part_222 rfl rfl ?_
          refine g_getI C fX2_19 (by decide) dX2_part_223 kd_5 ?_
          obtain ⟨g28, h⟩ := h
          obtain ⟨ht, hf⟩ := h
          refine g_if_eq (tgt := 238) C dX2_part_226 (by decide) g28 (fun c => ?_) (fun c => ?_)
          · have h := ht c
            refine g_aload_n (q := 0) C dX2_part_238 rfl rfl ?_
            refine g_getS (v := 1) C fX2_9 dX2_part_239 kd_5 rfl ?_
            refine g_cVi (As := []) C clX2_66 clvX7_misplaced dX2_part_242 kd_1 rfl (Nat.le_of_ble_eq_true rfl) rfl (by omega) (t_X7_misplaced (Cx.ok C) h) (fun r30 M29 h => ?_)
            refine G.sub [] rfl ?_
            exact w_X2_part_J245 C hd0 hF hR  h
          · have h := hf c
            refine g_aload_n (q := 0) C dX2_part_229 rfl rfl ?_
            refine g_bipush (v := (-6)) C dX2_part_230 (by decide +kernel) ?_
            refine g_cVi (As := [vI (-6)]) C clX2_56 clvX2_take dX2_part_232 kd_5 rfl (Nat.le_of_ble_eq_true rfl) rfl (by omega) (t_X2_take (Cx.ok C) h) (fun r32 M31 h => ?_)
            refine g_goto (tgt := 245) C dX2_part_235 (by decide) ?_
            refine G.sub [] rfl ?_
            exact w_X2_part_J245 C hd0 hF hR  h
        · have h := c11 q
          refine g_tswIn (off := 149) (tgt := 246) C dX2_part_97 g12 (by omega) (by omega) (by rw [q]; rfl) (by decide) ?_
          refine g_aload_n (q := 0) C dX2_part_246 rfl rfl ?_
          refine g_getI C fX2_19 (by decide) dX2_part_247 kd_5 ?_
          obtain ⟨g33, h⟩ := h
          obtain ⟨ht, hf⟩ := h
          refine g_if_eq (tgt := 262) C dX2_part_250 (by decide) g33 (fun c => ?_) (fun c => ?_)
          · have h := ht c
            refine g_aload_n (q := 0) C dX2_part_262 rfl rfl ?_
            refine g_getS (v := 1) C fX2_9 dX2_part_263 kd_5 rfl ?_
            refine g_cVi (As := []) C clX2_66 clvX7_misplaced dX2_part_266 kd_1 rfl (Nat.le_of_ble_eq_true rfl) rfl (by omega) (t_X7_misplaced (Cx.ok C) h) (fun r35 M34 h => ?_)
            refine G.sub [] rfl ?_
            exact w_X2_part_J269 C hd0 hF hR  h
          · have h := hf c
            refine g_aload_n (q := 0) C dX2_part_253 rfl rfl ?_
            refine g_bipush (v := (-7)) C dX2_part_254 (by decide +kernel) ?_
            refine g_cVi (As := [vI (-7)]) C clX2_56 clvX2_take dX2_part_256 kd_5 rfl (Nat.le_of_ble_eq_true rfl) rfl (by omega) (t_X2_take (Cx.ok C) h) (fun r37 M36 h => ?_)
            refine g_goto (tgt := 269) C dX2_part_259 (by decide) ?_
            refine G.sub [] rfl ?_
            exact w_X2_part_J269 C hd0 hF hR  h
        · have h := c12 q
          refine g_tswIn (off := 189) (tgt := 286) C dX2_part_97 g12 (by omega) (by omega) (by rw [q]; rfl) (by decide) ?_
          refine g_aload_n (q := 0) C dX2_part_286 rfl rfl ?_
          refine g_iload_n (q := 1) C dX2_part_287 rfl rfl ?_
          refine g_cVi (As := [vI a0]) C clX2_93 clvX2_choice dX2_part_288 kd_5 rfl (Nat.le_of_ble_eq_true rfl) rfl (by omega) (hF.2.2.2.2.2.2.2 h) (fun r39 M38 h => ?_)
          obtain ⟨g40, h⟩ := h
          exact g_retz C hR dX2_part_291 g40 h
        · have h := c13 q
          refine g_tswIn (off := 195) (tgt := 292) C dX2_part_97 g12 (by omega) (by omega) (by rw [q]; rfl) (by decide) ?_
          refine G.sub [0] rfl ?_
          exact w_X2_part_J292 C hd0 hF hR  h
        · have h := c14 q
          refine g_tswIn (off := 195) (tgt := 292) C dX2_part_97 g12 (by omega) (by omega) (by rw [q]; rfl) (by decide) ?_
          refine G.sub [0] rfl ?_
          exact w_X2_part_J292 C hd0 hF hR  h
        · have h := c15 q
          refine g_tswIn (off := 195) (tgt := 292) C dX2_part_97 g12 (by omega) (by omega) (by rw [q]; rfl) (by decide) ?_
          refine G.sub [0] rfl ?_
          exact w_X2_part_J292 C hd0 hF hR  h
        · have h := c16 q
          refine g_tswIn (off := 195) (tgt := 292) C dX2_part_97 g12 (by omega) (by omega) (by rw [q]; rfl) (by decide) ?_
          refine G.sub [0] rfl ?_
          exact w_X2_part_J292 C hd0 hF hR  h
        · have h := c17 q
          refine g_tswIn (off := 173) (tgt := 270) C dX2_part_97 g12 (by omega) (by omega) (by rw [q]; rfl) (by decide) ?_
          refine g_aload_n (q := 0) C dX2_part_270 rfl rfl ?_
          refine g_iload_n (q := 1) C dX2_part_271 rfl rfl ?_
          refine g_bipush (v := (-13)) C dX2_part_272 (by decide +kernel) ?_
          refine g_cVi (As := [vI a0, vI (-13)]) C clX2_89 clvX2_pair dX2_part_274 kd_5 rfl (Nat.le_of_ble_eq_true rfl) rfl (by omega) (hF.2.2.2.2.2.2.1 h) (fun r42 M41 h => ?_)
          obtain ⟨g43, h⟩ := h
          exact g_retz C hR dX2_part_277 g43 h
        · have h := c18 q
          refine g_tswIn (off := 181) (tgt := 278) C dX2_part_97 g12 (by omega) (by omega) (by rw [q]; rfl) (by decide) ?_
          refine g_aload_n (q := 0) C dX2_part_278 rfl rfl ?_
          refine g_iload_n (q := 1) C dX2_part_279 rfl rfl ?_
          refine g_bipush (v := (-14)) C dX2_part_280 (by decide +kernel) ?_
          refine g_cVi (As := [vI a0, vI (-14)]) C clX2_89 clvX2_pair dX2_part_282 kd_5 rfl (Nat.le_of_ble_eq_true rfl) rfl (by omega) (hF.2.2.2.2.2.2.1 h) (fun r45 M44 h => ?_)
          obtain ⟨g46, h⟩ := h
          exact g_retz C hR dX2_part_285 g46 h
        · have h := c19 q
          refine g_tswOut (tgt := 292) C dX2_part_97 g12 q (by decide) ?_
          refine G.sub [0] rfl ?_
          exact w_X2_part_J292 C hd0 hF hR  h
      · have h := hf c
        refine g_aload_n (q := 0) C dX2_part_82 rfl rfl ?_
        refine g_getS (v := 1) C fX2_9 dX2_part_83 kd_5 rfl ?_
        refine g_cVi (As := []) C clX2_66 clvX7_misplaced dX2_part_86 kd_1 rfl (Nat.le_of_ble_eq_true rfl) rfl (by omega) (t_X7_misplaced (Cx.ok C) h) (fun r48 M47 h => ?_)
        obtain ⟨g49, h⟩ := h
        exact g_retz C hR dX2_part_89 g49 h
    · have h := hf c
      refine g_aload_n (q := 0) C dX2_part_35 rfl rfl ?_
      refine g_iload_n (q := 1) C dX2_part_36 rfl rfl ?_
      refine g_cVi (As := [vI a0]) C clX2_43 clvX2_opens dX2_part_37 kd_5 rfl (Nat.le_of_ble_eq_true rfl) rfl (by omega) (t_X2_opens (Cx.ok C) h) (fun r51 M50 h => ?_)
      obtain ⟨g52, h⟩ := h
      obtain ⟨ht, hf⟩ := h
      refine g_if_eq (tgt := 69) C dX2_part_40 (by decide) g52 (fun c => ?_) (fun c => ?_)
      · have h := ht c
        refine G.sub [] rfl ?_
        exact w_X2_part_J69 C hd0 hF hR  h
      · have h := hf c
        refine g_aload_n (q := 0) C dX2_part_43 rfl rfl ?_
        refine g_iload_n (q := 1) C dX2_part_44 rfl rfl ?_
        refine g_iconst C dX2_part_45 rfl ?_
        refine g_iadd C dX2_part_46 ?_
        refine g_cVi (As := [vI (a0 + 1)]) C clX2_59 clvX2_sum dX2_part_47 kd_5 rfl (Nat.le_of_ble_eq_true rfl) rfl (by omega) (hF.2.2.2.1 h) (fun r54 M53 h => ?_)
        obtain ⟨g55, h⟩ := h
        obtain ⟨ht, hf⟩ := h
        refine g_if_eq (tgt := 69) C dX2_part_50 (by decide) g55 (fun c => ?_) (fun c => ?_)
        · have h := ht c
          refine G.sub [] rfl ?_
          exact w_X2_part_J69 C hd0 hF hR  h
        · have h := hf c
          refine g_aload_n (q := 0) C dX2_part_53 rfl rfl ?_
          refine g_getS (v := 1) C fX2_9 dX2_part_54 kd_5 rfl ?_
          refine g_bipush (v := 41) C dX2_part_57 (by decide +kernel) ?_
          refine g_cVi (As := [vI 41]) C clX2_53 clvX7_takeSign dX2_part_59 kd_1 rfl (Nat.le_of_ble_eq_true rfl) rfl (by omega) (t_X7_takeSign (Cx.ok C) h) (fun r57 M56 h => ?_)
          obtain ⟨g58, h⟩ := h
          obtain ⟨ht, hf⟩ := h
          refine g_if_eq (tgt := 69) C dX2_part_62 (by decide) g58 (fun c => ?_) (fun c => ?_)
          · have h := ht c
            refine G.sub [] rfl ?_
            exact w_X2_part_J69 C hd0 hF hR  h
          · have h := hf c
            refine g_iconst C dX2_part_65 rfl ?_
            refine g_goto (tgt := 70) C dX2_part_66 (by decide) ?_
            refine G.sub [] rfl ?_
            exact w_X2_part_J70 C hd0 hF hR  h
  · have h := ht c
    refine g_aload_n (q := 0) C dX2_part_11 rfl rfl ?_
    refine g_aload_n (q := 0) C dX2_part_12 rfl rfl ?_
    refine g_getS (v := 1) C fX2_9 dX2_part_13 kd_5 rfl ?_
    refine g_getI C fX2_83 (by decide) dX2_part_16 kd_1 ?_
    refine g_cVi (As := [vI (M 1 4)]) C clX2_56 clvX2_take dX2_part_19 kd_5 rfl (Nat.le_of_ble_eq_true rfl) rfl (by omega) (t_X2_take (Cx.ok C) h) (fun r60 M59 h => ?_)
    obtain ⟨g61, h⟩ := h
    exact g_retz C hR dX2_part_22 g61 h
set_option maxRecDepth 20000 in
theorem w_X2_pair_J75 {Y : YT} {X : CX} {d0 : Nat} (C : Cx Y X cX2_pair 3 RX2 (d0 + 1)) {F : Nat → Int → Int → Mem → (Int → Mem → Prop) → Prop} (hd0 : 6 ≤ d0) (hF : frOK X.2.1 Y F d0) {Q : Int → Mem → Prop} (hR : Rt Y X (some .boolean) (PQi Y Q)) {s0 : Int}  {M : Mem}  (h : m_X2_pair_J75 F  Q s0 M) : G Y X 3 75 [] ((vI s0) :: []) M := by
  unfold m_X2_pair_J75 at h
  obtain ⟨g1, h⟩ := h
  exact g_retz C hR dX2_pair_75 g1 h
set_option maxRecDepth 20000 in
theorem w_X2_pair_J74 {Y : YT} {X : CX} {d0 : Nat} (C : Cx Y X cX2_pair 3 RX2 (d0 + 1)) {F : Nat → Int → Int → Mem → (Int → Mem → Prop) → Prop} (hd0 : 6 ≤ d0) (hF : frOK X.2.1 Y F d0) {Q : Int → Mem → Prop} (hR : Rt Y X (some .boolean) (PQi Y Q))   {M : Mem}  (h : m_X2_pair_J74 F  Q  M) : G Y X 3 74 [] ([]) M := by
  unfold m_X2_pair_J74 at h
  refine g_iconst C dX2_pair_74 rfl ?_
  refine G.sub [] rfl ?_
  exact w_X2_pair_J75 C hd0 hF hR  h
set_option maxRecDepth 20000 in
theorem tb_X2_pair {l : Launch} {Y : YT} (hY : YOK Y) {F : Nat → Int → Int → Mem → (Int → Mem → Prop) → Prop} {d0 : Nat} (hd0 : 6 ≤ d0) (hF : frOK l Y F d0) {a0 : Int} {a1 : Int} {M : Mem} {Q : Int → Mem → Prop} (h : mb_X2_pair F a0 a1 M Q) : Ctr l Y yX2_pair cX2_pair 3 (some .boolean) (d0 + 1) [vR Y 5, vI a0, vI a1] M (PQi Y Q) := by
  unfold mb_X2_pair at h
  refine ctr_ofF hY (by decide +kernel) (Nat.le_of_ble_eq_true rfl) [(0, vR Y 5), (1, vI a0), (2, vI a1)] rfl (fun X hX C hR => ?_)
  rw [← hX] at hF
  refine g_aload_n (q := 0) C dX2_pair_0 rfl rfl ?_
  refine g_getS (v := 1) C fX2_9 dX2_pair_1 kd_5 rfl ?_
  refine g_cVv (As := []) C clX2_32 clvX7_advance dX2_pair_4 kd_1 rfl (Nat.le_of_ble_eq_true rfl) rfl (by omega) (t_X7_advance (Cx.ok C) h) (fun M2 h => ?_)
  refine g_aload_n (q := 0) C dX2_pair_7 rfl rfl ?_
  refine g_iload_n (q := 1) C dX2_pair_8 rfl rfl ?_
  refine g_cVi (As := [vI a0]) C clX2_96 clvX2_opensBracket dX2_pair_9 kd_5 rfl (Nat.le_of_ble_eq_true rfl) rfl (by omega) (t_X2_opensBracket (Cx.ok C) h) (fun r4 M3 h => ?_)
  obtain ⟨g5, h⟩ := h
  obtain ⟨ht, hf⟩ := h
  refine g_if_eq (tgt := 74) C dX2_pair_12 (by decide) g5 (fun c => ?_) (fun c => ?_)
  · have h := ht c
    refine G.sub [] rfl ?_
    exact w_X2_pair_J74 C hd0 hF hR  h
  · have h := hf c
    refine g_aload_n (q := 0) C dX2_pair_15 rfl rfl ?_
    refine g_iload_n (q := 1) C dX2_pair_16 rfl rfl ?_
    refine g_iconst C dX2_pair_17 rfl ?_
    refine g_iadd C dX2_pair_18 ?_
    refine g_cVi (As := [vI (a0 + 1)]) C clX2_59 clvX2_sum dX2_pair_19 kd_5 rfl (Nat.le_of_ble_eq_true rfl) rfl (by omega) (hF.2.2.2.1 h) (fun r7 M6 h => ?_)
    obtain ⟨g8, h⟩ := h
    obtain ⟨ht, hf⟩ := h
    refine g_if_eq (tgt := 74) C dX2_pair_22 (by decide) g8 (fun c => ?_) (fun c => ?_)
    · have h := ht c
      refine G.sub [] rfl ?_
      exact w_X2_pair_J74 C hd0 hF hR  h
    · have h := hf c
      refine g_aload_n (q := 0) C dX2_pair_25 rfl rfl ?_
      refine g_getS (v := 1) C fX2_9 dX2_pair_26 kd_5 rfl ?_
      refine g_bipush (v := 44) C dX2_pair_29 (by decide +kernel) ?_
      refine g_cVi (As := [vI 44]) C clX2_53 clvX7_takeSign dX2_pair_31 kd_1 rfl (Nat.le_of_ble_eq_true rfl) rfl (by omega) (t_X7_takeSign (Cx.ok C) h) (fun r10 M9 h => ?_)
      obtain ⟨g11, h⟩ := h
      obtain ⟨ht, hf⟩ := h
      refine g_if_eq (tgt := 74) C dX2_pair_34 (by decide) g11 (fun c => ?_) (fun c => ?_)
      · have h := ht c
        refine G.sub [] rfl ?_
        exact w_X2_pair_J74 C hd0 hF hR  h
      · have h := hf c
        refine g_aload_n (q := 0) C dX2_pair_37 rfl rfl ?_
        refine g_iload_n (q := 1) C dX2_pair_38 rfl rfl ?_
        refine g_iconst C dX2_pair_39 rfl ?_
        refine g_iadd C dX2_pair_40 ?_
        refine g_cVi (As := [vI (a0 + 1)]) C clX2_59 clvX2_sum dX2_pair_41 kd_5 rfl (Nat.le_of_ble_eq_true rfl) rfl (by omega) (hF.2.2.2.1 h) (fun r13 M12 h => ?_)
        obtain ⟨g14, h⟩ := h
        obtain ⟨ht, hf⟩ := h
        refine g_if_eq (tgt := 74) C dX2_pair_44 (by decide) g14 (fun c => ?_) (fun c => ?_)
        · have h := ht c
          refine G.sub [] rfl ?_
          exact w_X2_pair_J74 C hd0 hF hR  h
        · have h := hf c
          refine g_aload_n (q := 0) C dX2_pair_47 rfl rfl ?_
          refine g_getS (v := 1) C fX2_9 dX2_pair_48 kd_5 rfl ?_
          refine g_bipush (v := 41) C dX2_pair_51 (by decide +kernel) ?_
          refine g_cVi (As := [vI 41]) C clX2_53 clvX7_takeSign dX2_pair_53 kd_1 rfl (Nat.le_of_ble_eq_true rfl) rfl (by omega) (t_X7_takeSign (Cx.ok C) h) (fun r16 M15 h => ?_)
          obtain ⟨g17, h⟩ := h
          obtain ⟨ht, hf⟩ := h
          refine g_if_eq (tgt := 74) C dX2_pair_56 (by decide) g17 (fun c => ?_) (fun c => ?_)
          · have h := ht c
            refine G.sub [] rfl ?_
            exact w_X2_pair_J74 C hd0 hF hR  h
          · have h := hf c
            refine g_aload_n (q := 0) C dX2_pair_59 rfl rfl ?_
            obtain ⟨g18, h⟩ := h
            refine g_getM C fX2_15 dX2_pair_60 kd_5 (kd_in g18 (by decide)).1 ?_
            refine g_iload_n (q := 2) C dX2_pair_63 rfl rfl ?_
            refine g_cVi (As := [vI a1]) C clX2_37 clvX1_add dX2_pair_64 g18 rfl (Nat.le_of_ble_eq_true rfl) rfl (by omega) (t_X1_add (Cx.ok C) h) (fun r20 M19 h => ?_)
            obtain ⟨g21, h⟩ := h
            obtain ⟨ht, hf⟩ := h
            refine g_if_eq (tgt := 74) C dX2_pair_67 (by decide) g21 (fun c => ?_) (fun c => ?_)
            · have h := ht c
              refine G.sub [] rfl ?_
              exact w_X2_pair_J74 C hd0 hF hR  h
            · have h := hf c
              refine g_iconst C dX2_pair_70 rfl ?_
              refine g_goto (tgt := 75) C dX2_pair_71 (by decide) ?_
              refine G.sub [] rfl ?_
              exact w_X2_pair_J75 C hd0 hF hR  h
set_option maxRecDepth 20000 in
theorem w_X2_choice_J98 {Y : YT} {X : CX} {d0 : Nat} (C : Cx Y X cX2_choice 2 RX2 (d0 + 1)) {F : Nat → Int → Int → Mem → (Int → Mem → Prop) → Prop} (hd0 : 6 ≤ d0) (hF : frOK X.2.1 Y F d0) {Q : Int → Mem → Prop} (hR : Rt Y X (some .boolean) (PQi Y Q)) {s0 : Int}  {M : Mem}  (h : m_X2_choice_J98 F  Q s0 M) : G Y X 2 98 [] ((vI s0) :: []) M := by
  unfold m_X2_choice_J98 at h
  obtain ⟨g1, h⟩ := h
  exact g_retz C hR dX2_choice_98 g1 h
set_option maxRecDepth 20000 in
theorem w_X2_choice_J97 {Y : YT} {X : CX} {d0 : Nat} (C : Cx Y X cX2_choice 2 RX2 (d0 + 1)) {F : Nat → Int → Int → Mem → (Int → Mem → Prop) → Prop} (hd0 : 6 ≤ d0) (hF : frOK X.2.1 Y F d0) {Q : Int → Mem → Prop} (hR : Rt Y X (some .boolean) (PQi Y Q))   {M : Mem}  (h : m_X2_choice_J97 F  Q  M) : G Y X 2 97 [] ([]) M := by
  unfold m_X2_choice_J97 at h
  refine g_iconst C dX2_choice_97 rfl ?_
  refine G.sub [] rfl ?_
  exact w_X2_choice_J98 C hd0 hF hR  h
set_option maxRecDepth 20000 in
theorem tb_X2_choice {l : Launch} {Y : YT} (hY : YOK Y) {F : Nat → Int → Int → Mem → (Int → Mem → Prop) → Prop} {d0 : Nat} (hd0 : 6 ≤ d0) (hF : frOK l Y F d0) {a0 : Int} {M : Mem} {Q : Int → Mem → Prop} (h : mb_X2_choice F a0 M Q) : Ctr l Y yX2_choice cX2_choice 2 (some .boolean) (d0 + 1) [vR Y 5, vI a0] M (PQi Y Q) := by
  unfold mb_X2_choice at h
  refine ctr_ofF hY (by decide +kernel) (Nat.le_of_ble_eq_true rfl) [(0, vR Y 5), (1, vI a0)] rfl (fun X hX C hR => ?_)
  rw [← hX] at hF
  refine g_aload_n (q := 0) C dX2_choice_0 rfl rfl ?_
  refine g_getS (v := 1) C fX2_9 dX2_choice_1 kd_5 rfl ?_
  refine g_cVv (As := []) C clX2_32 clvX7_advance dX2_choice_4 kd_1 rfl (Nat.le_of_ble_eq_true rfl) rfl (by omega) (t_X7_advance (Cx.ok C) h) (fun M2 h => ?_)
  refine g_aload_n (q := 0) C dX2_choice_7 rfl rfl ?_
  refine g_iload_n (q := 1) C dX2_choice_8 rfl rfl ?_
  refine g_cVi (As := [vI a0]) C clX2_96 clvX2_opensBracket dX2_choice_9 kd_5 rfl (Nat.le_of_ble_eq_true rfl) rfl (by omega) (t_X2_opensBracket (Cx.ok C) h) (fun r4 M3 h => ?_)
  obtain ⟨g5, h⟩ := h
  obtain ⟨ht, hf⟩ := h
  refine g_if_eq (tgt := 97) C dX2_choice_12 (by decide) g5 (fun c => ?_) (fun c => ?_)
  · have h := ht c
    refine G.sub [] rfl ?_
    exact w_X2_choice_J97 C hd0 hF hR  h
  · have h := hf c
    refine g_aload_n (q := 0) C dX2_choice_15 rfl rfl ?_
    refine g_iload_n (q := 1) C dX2_choice_16 rfl rfl ?_
    refine g_iconst C dX2_choice_17 rfl ?_
    refine g_iadd C dX2_choice_18 ?_
    refine g_cVi (As := [vI (a0 + 1)]) C clX2_50 clvX2_test dX2_choice_19 kd_5 rfl (Nat.le_of_ble_eq_true rfl) rfl (by omega) (hF.1 h) (fun r7 M6 h => ?_)
    obtain ⟨g8, h⟩ := h
    obtain ⟨ht, hf⟩ := h
    refine g_if_eq (tgt := 97) C dX2_choice_22 (by decide) g8 (fun c => ?_) (fun c => ?_)
    · have h := ht c
      refine G.sub [] rfl ?_
      exact w_X2_choice_J97 C hd0 hF hR  h
    · have h := hf c
      refine g_aload_n (q := 0) C dX2_choice_25 rfl rfl ?_
      refine g_getS (v := 1) C fX2_9 dX2_choice_26 kd_5 rfl ?_
      refine g_bipush (v := 44) C dX2_choice_29 (by decide +kernel) ?_
      refine g_cVi (As := [vI 44]) C clX2_53 clvX7_takeSign dX2_choice_31 kd_1 rfl (Nat.le_of_ble_eq_true rfl) rfl (by omega) (t_X7_takeSign (Cx.ok C) h) (fun r10 M9 h => ?_)
      obtain ⟨g11, h⟩ := h
      obtain ⟨ht, hf⟩ := h
      refine g_if_eq (tgt := 97) C dX2_choice_34 (by decide) g11 (fun c => ?_) (fun c => ?_)
      · have h := ht c
        refine G.sub [] rfl ?_
        exact w_X2_choice_J97 C hd0 hF hR  h
      · have h := hf c
        refine g_aload_n (q := 0) C dX2_choice_37 rfl rfl ?_
        refine g_iload_n (q := 1) C dX2_choice_38 rfl rfl ?_
        refine g_iconst C dX2_choice_39 rfl ?_
        refine g_iadd C dX2_choice_40 ?_
        refine g_cVi (As := [vI (a0 + 1)]) C clX2_59 clvX2_sum dX2_choice_41 kd_5 rfl (Nat.le_of_ble_eq_true rfl) rfl (by omega) (hF.2.2.2.1 h) (fun r13 M12 h => ?_)
        obtain ⟨g14, h⟩ := h
        obtain ⟨ht, hf⟩ := h
        refine g_if_eq (tgt := 97) C dX2_choice_44 (by decide) g14 (fun c => ?_) (fun c => ?_)
        · have h := ht c
          refine G.sub [] rfl ?_
          exact w_X2_choice_J97 C hd0 hF hR  h
        · have h := hf c
          refine g_aload_n (q := 0) C dX2_choice_47 rfl rfl ?_
          refine g_getS (v := 1) C fX2_9 dX2_choice_48 kd_5 rfl ?_
          refine g_bipush (v := 44) C dX2_choice_51 (by decide +kernel) ?_
          refine g_cVi (As := [vI 44]) C clX2_53 clvX7_takeSign dX2_choice_53 kd_1 rfl (Nat.le_of_ble_eq_true rfl) rfl (by omega) (t_X7_takeSign (Cx.ok C) h) (fun r16 M15 h => ?_)
          obtain ⟨g17, h⟩ := h
          obtain ⟨ht, hf⟩ := h
          refine g_if_eq (tgt := 97) C dX2_choice_56 (by decide) g17 (fun c => ?_) (fun c => ?_)
          · have h := ht c
            refine G.sub [] rfl ?_
            exact w_X2_choice_J97 C hd0 hF hR  h
          · have h := hf c
            refine g_aload_n (q := 0) C dX2_choice_59 rfl rfl ?_
            refine g_iload_n (q := 1) C dX2_choice_60 rfl rfl ?_
            refine g_iconst C dX2_choice_61 rfl ?_
            refine g_iadd C dX2_choice_62 ?_
            refine g_cVi (As := [vI (a0 + 1)]) C clX2_59 clvX2_sum dX2_choice_63 kd_5 rfl (Nat.le_of_ble_eq_true rfl) rfl (by omega) (hF.2.2.2.1 h) (fun r19 M18 h => ?_)
            obtain ⟨g20, h⟩ := h
            obtain ⟨ht, hf⟩ := h
            refine g_if_eq (tgt := 97) C dX2_choice_66 (by decide) g20 (fun c => ?_) (fun c => ?_)
            · have h := ht c
              refine G.sub [] rfl ?_
              exact w_X2_choice_J97 C hd0 hF hR  h
            · have h := hf c
              refine g_aload_n (q := 0) C dX2_choice_69 rfl rfl ?_
              refine g_getS (v := 1) C fX2_9 dX2_choice_70 kd_5 rfl ?_
              refine g_bipush (v := 41) C dX2_choice_73 (by decide +kernel) ?_
              refine g_cVi (As := [vI 41]) C clX2_53 clvX7_takeSign dX2_choice_75 kd_1 rfl (Nat.le_of_ble_eq_true rfl) rfl (by omega) (t_X7_takeSign (Cx.ok C) h) (fun r22 M21 h => ?_)
              obtain ⟨g23, h⟩ := h
              obtain ⟨ht, hf⟩ := h
              refine g_if_eq (tgt := 97) C dX2_choice_78 (by decide) g23 (fun c => ?_) (fun c => ?_)
              · have h := ht c
                refine G.sub [] rfl ?_
                exact w_X2_choice_J97 C hd0 hF hR  h
              · have h := hf c
                refine g_aload_n (q := 0) C dX2_choice_81 rfl rfl ?_
                obtain ⟨g24, h⟩ := h
                refine g_getM C fX2_15 dX2_choice_82 kd_5 (kd_in g24 (by decide)).1 ?_
                refine g_bipush (v := (-21)) C dX2_choice_85 (by decide +kernel) ?_
                refine g_cVi (As := [vI (-21)]) C clX2_37 clvX1_add dX2_choice_87 g24 rfl (Nat.le_of_ble_eq_true rfl) rfl (by omega) (t_X1_add (Cx.ok C) h) (fun r26 M25 h => ?_)
                obtain ⟨g27, h⟩ := h
                obtain ⟨ht, hf⟩ := h
                refine g_if_eq (tgt := 97) C dX2_choice_90 (by decide) g27 (fun c => ?_) (fun c => ?_)
                · have h := ht c
                  refine G.sub [] rfl ?_
                  exact w_X2_choice_J97 C hd0 hF hR  h
                · have h := hf c
                  refine g_iconst C dX2_choice_93 rfl ?_
                  refine g_goto (tgt := 98) C dX2_choice_94 (by decide) ?_
                  refine G.sub [] rfl ?_
                  exact w_X2_choice_J98 C hd0 hF hR  h
theorem fr_ok {l : Launch} {Y : YT} (hY : YOK Y) : ∀ d : Nat, frOK l Y (fr d) (d + 6)
  | 0 => ⟨fun h => (show False from h).elim, fun h => (show False from h).elim, fun h => (show False from h).elim, fun h => (show False from h).elim, fun h => (show False from h).elim, fun h => (show False from h).elim, fun h => (show False from h).elim, fun h => (show False from h).elim⟩
  | d + 1 => by
    have ih := fr_ok (l := l) hY d
    exact ⟨fun h => tb_X2_test hY (by omega) ih h, fun h => tb_X2_both hY (by omega) ih h, fun h => tb_X2_fact hY (by omega) ih h, fun h => tb_X2_sum hY (by omega) ih h, fun h => tb_X2_product hY (by omega) ih h, fun h => tb_X2_part hY (by omega) ih h, fun h => tb_X2_pair hY (by omega) ih h, fun h => tb_X2_choice hY (by omega) ih h⟩
theorem t_X2_test {l : Launch} {Y : YT} (hY : YOK Y) {a0 : Int} {M : Mem} {Q : Int → Mem → Prop} (h : m_X2_test a0 M Q) : Ctr l Y yX2_test cX2_test 4 (some .boolean) 66 [vR Y 5, vI a0] M (PQi Y Q) := (fr_ok hY 60).1 h
theorem t_X2_both {l : Launch} {Y : YT} (hY : YOK Y) {a0 : Int} {M : Mem} {Q : Int → Mem → Prop} (h : m_X2_both a0 M Q) : Ctr l Y yX2_both cX2_both 4 (some .boolean) 66 [vR Y 5, vI a0] M (PQi Y Q) := (fr_ok hY 60).2.1 h
theorem t_X2_fact {l : Launch} {Y : YT} (hY : YOK Y) {a0 : Int} {M : Mem} {Q : Int → Mem → Prop} (h : m_X2_fact a0 M Q) : Ctr l Y yX2_fact cX2_fact 3 (some .boolean) 66 [vR Y 5, vI a0] M (PQi Y Q) := (fr_ok hY 60).2.2.1 h
theorem t_X2_sum {l : Launch} {Y : YT} (hY : YOK Y) {a0 : Int} {M : Mem} {Q : Int → Mem → Prop} (h : m_X2_sum a0 M Q) : Ctr l Y yX2_sum cX2_sum 5 (some .boolean) 66 [vR Y 5, vI a0] M (PQi Y Q) := (fr_ok hY 60).2.2.2.1 h
theorem t_X2_product {l : Launch} {Y : YT} (hY : YOK Y) {a0 : Int} {M : Mem} {Q : Int → Mem → Prop} (h : m_X2_product a0 M Q) : Ctr l Y yX2_product cX2_product 5 (some .boolean) 66 [vR Y 5, vI a0] M (PQi Y Q) := (fr_ok hY 60).2.2.2.2.1 h
theorem t_X2_part {l : Launch} {Y : YT} (hY : YOK Y) {a0 : Int} {M : Mem} {Q : Int → Mem → Prop} (h : m_X2_part a0 M Q) : Ctr l Y yX2_part cX2_part 2 (some .boolean) 66 [vR Y 5, vI a0] M (PQi Y Q) := (fr_ok hY 60).2.2.2.2.2.1 h
theorem t_X2_pair {l : Launch} {Y : YT} (hY : YOK Y) {a0 a1 : Int} {M : Mem} {Q : Int → Mem → Prop} (h : m_X2_pair a0 a1 M Q) : Ctr l Y yX2_pair cX2_pair 3 (some .boolean) 66 [vR Y 5, vI a0, vI a1] M (PQi Y Q) := (fr_ok hY 60).2.2.2.2.2.2.1 h
theorem t_X2_choice {l : Launch} {Y : YT} (hY : YOK Y) {a0 : Int} {M : Mem} {Q : Int → Mem → Prop} (h : m_X2_choice a0 M Q) : Ctr l Y yX2_choice cX2_choice 2 (some .boolean) 66 [vR Y 5, vI a0] M (PQi Y Q) := (fr_ok hY 60).2.2.2.2.2.2.2 h
