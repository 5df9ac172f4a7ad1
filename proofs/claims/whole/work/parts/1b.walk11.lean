theorem dX12_isTold_0 : decode cX12_isTold 0 = .ok (.aload_n 0, 1) := by decide +kernel
theorem dX12_isTold_1 : decode cX12_isTold 1 = .ok (.getfield 93, 3) := by decide +kernel
theorem dX12_isTold_4 : decode cX12_isTold 4 = .ok (.iconst 2, 1) := by decide +kernel
theorem dX12_isTold_5 : decode cX12_isTold 5 = .ok (.aload_n 0, 1) := by decide +kernel
theorem dX12_isTold_6 : decode cX12_isTold 6 = .ok (.getfield 51, 3) := by decide +kernel
theorem dX12_isTold_9 : decode cX12_isTold 9 = .ok (.imul, 1) := by decide +kernel
theorem dX12_isTold_10 : decode cX12_isTold 10 = .ok (.iload_n 1, 1) := by decide +kernel
theorem dX12_isTold_11 : decode cX12_isTold 11 = .ok (.iadd, 1) := by decide +kernel
theorem dX12_isTold_12 : decode cX12_isTold 12 = .ok (.iaload, 1) := by decide +kernel
theorem dX12_isTold_13 : decode cX12_isTold 13 = .ok (.iconst (-1), 1) := by decide +kernel
theorem dX12_isTold_14 : decode cX12_isTold 14 = .ok (.if_icmp .eq 7, 3) := by decide +kernel
theorem dX12_isTold_17 : decode cX12_isTold 17 = .ok (.iconst 1, 1) := by decide +kernel
theorem dX12_isTold_18 : decode cX12_isTold 18 = .ok (.goto 4, 3) := by decide +kernel
theorem dX12_isTold_21 : decode cX12_isTold 21 = .ok (.iconst 0, 1) := by decide +kernel
theorem dX12_isTold_22 : decode cX12_isTold 22 = .ok (.ireturn, 1) := by decide +kernel
theorem dX12_manyAt_0 : decode cX12_manyAt 0 = .ok (.iconst 0, 1) := by decide +kernel
theorem dX12_manyAt_1 : decode cX12_manyAt 1 = .ok (.istore_n 3, 1) := by decide +kernel
theorem dX12_manyAt_2 : decode cX12_manyAt 2 = .ok (.iconst 0, 1) := by decide +kernel
theorem dX12_manyAt_3 : decode cX12_manyAt 3 = .ok (.istore 4, 2) := by decide +kernel
theorem dX12_manyAt_5 : decode cX12_manyAt 5 = .ok (.iload 4, 2) := by decide +kernel
theorem dX12_manyAt_7 : decode cX12_manyAt 7 = .ok (.aload_n 0, 1) := by decide +kernel
theorem dX12_manyAt_8 : decode cX12_manyAt 8 = .ok (.getfield 66, 3) := by decide +kernel
theorem dX12_manyAt_11 : decode cX12_manyAt 11 = .ok (.aload_n 0, 1) := by decide +kernel
theorem dX12_manyAt_12 : decode cX12_manyAt 12 = .ok (.getfield 51, 3) := by decide +kernel
theorem dX12_manyAt_15 : decode cX12_manyAt 15 = .ok (.iaload, 1) := by decide +kernel
theorem dX12_manyAt_16 : decode cX12_manyAt 16 = .ok (.if_icmp .ge 33, 3) := by decide +kernel
theorem dX12_manyAt_19 : decode cX12_manyAt 19 = .ok (.iload_n 3, 1) := by decide +kernel
theorem dX12_manyAt_20 : decode cX12_manyAt 20 = .ok (.aload_n 0, 1) := by decide +kernel
theorem dX12_manyAt_21 : decode cX12_manyAt 21 = .ok (.getfield 192, 3) := by decide +kernel
theorem dX12_manyAt_24 : decode cX12_manyAt 24 = .ok (.bipush 6, 2) := by decide +kernel
theorem dX12_manyAt_26 : decode cX12_manyAt 26 = .ok (.iload_n 1, 1) := by decide +kernel
theorem dX12_manyAt_27 : decode cX12_manyAt 27 = .ok (.imul, 1) := by decide +kernel
theorem dX12_manyAt_28 : decode cX12_manyAt 28 = .ok (.iload 4, 2) := by decide +kernel
theorem dX12_manyAt_30 : decode cX12_manyAt 30 = .ok (.iadd, 1) := by decide +kernel
theorem dX12_manyAt_31 : decode cX12_manyAt 31 = .ok (.iaload, 1) := by decide +kernel
theorem dX12_manyAt_32 : decode cX12_manyAt 32 = .ok (.iload_n 2, 1) := by decide +kernel
theorem dX12_manyAt_33 : decode cX12_manyAt 33 = .ok (.if_icmp .ne 7, 3) := by decide +kernel
theorem dX12_manyAt_36 : decode cX12_manyAt 36 = .ok (.iconst 1, 1) := by decide +kernel
theorem dX12_manyAt_37 : decode cX12_manyAt 37 = .ok (.goto 4, 3) := by decide +kernel
theorem dX12_manyAt_40 : decode cX12_manyAt 40 = .ok (.iconst 0, 1) := by decide +kernel
theorem dX12_manyAt_41 : decode cX12_manyAt 41 = .ok (.iadd, 1) := by decide +kernel
theorem dX12_manyAt_42 : decode cX12_manyAt 42 = .ok (.istore_n 3, 1) := by decide +kernel
theorem dX12_manyAt_43 : decode cX12_manyAt 43 = .ok (.iinc 4 1, 3) := by decide +kernel
theorem dX12_manyAt_46 : decode cX12_manyAt 46 = .ok (.goto (-41), 3) := by decide +kernel
theorem dX12_manyAt_49 : decode cX12_manyAt 49 = .ok (.iload_n 3, 1) := by decide +kernel
theorem dX12_manyAt_50 : decode cX12_manyAt 50 = .ok (.ireturn, 1) := by decide +kernel
theorem dX12_shownAt_0 : decode cX12_shownAt 0 = .ok (.iconst 0, 1) := by decide +kernel
theorem dX12_shownAt_1 : decode cX12_shownAt 1 = .ok (.istore 4, 2) := by decide +kernel
theorem dX12_shownAt_3 : decode cX12_shownAt 3 = .ok (.iload 4, 2) := by decide +kernel
theorem dX12_shownAt_5 : decode cX12_shownAt 5 = .ok (.aload_n 0, 1) := by decide +kernel
theorem dX12_shownAt_6 : decode cX12_shownAt 6 = .ok (.getfield 165, 3) := by decide +kernel
theorem dX12_shownAt_9 : decode cX12_shownAt 9 = .ok (.iload_n 1, 1) := by decide +kernel
theorem dX12_shownAt_10 : decode cX12_shownAt 10 = .ok (.iaload, 1) := by decide +kernel
theorem dX12_shownAt_11 : decode cX12_shownAt 11 = .ok (.if_icmp .ge 54, 3) := by decide +kernel
theorem dX12_shownAt_14 : decode cX12_shownAt 14 = .ok (.iconst 3, 1) := by decide +kernel
theorem dX12_shownAt_15 : decode cX12_shownAt 15 = .ok (.bipush 9, 2) := by decide +kernel
theorem dX12_shownAt_17 : decode cX12_shownAt 17 = .ok (.iload_n 1, 1) := by decide +kernel
theorem dX12_shownAt_18 : decode cX12_shownAt 18 = .ok (.imul, 1) := by decide +kernel
theorem dX12_shownAt_19 : decode cX12_shownAt 19 = .ok (.iload 4, 2) := by decide +kernel
theorem dX12_shownAt_21 : decode cX12_shownAt 21 = .ok (.iadd, 1) := by decide +kernel
theorem dX12_shownAt_22 : decode cX12_shownAt 22 = .ok (.imul, 1) := by decide +kernel
theorem dX12_shownAt_23 : decode cX12_shownAt 23 = .ok (.istore 5, 2) := by decide +kernel
theorem dX12_shownAt_25 : decode cX12_shownAt 25 = .ok (.aload_n 0, 1) := by decide +kernel
theorem dX12_shownAt_26 : decode cX12_shownAt 26 = .ok (.getfield 168, 3) := by decide +kernel
theorem dX12_shownAt_29 : decode cX12_shownAt 29 = .ok (.iload 5, 2) := by decide +kernel
theorem dX12_shownAt_31 : decode cX12_shownAt 31 = .ok (.iaload, 1) := by decide +kernel
theorem dX12_shownAt_32 : decode cX12_shownAt 32 = .ok (.iload_n 2, 1) := by decide +kernel
theorem dX12_shownAt_33 : decode cX12_shownAt 33 = .ok (.if_icmp .ne 26, 3) := by decide +kernel
theorem dX12_shownAt_36 : decode cX12_shownAt 36 = .ok (.aload_n 0, 1) := by decide +kernel
theorem dX12_shownAt_37 : decode cX12_shownAt 37 = .ok (.getfield 168, 3) := by decide +kernel
theorem dX12_shownAt_40 : decode cX12_shownAt 40 = .ok (.iload 5, 2) := by decide +kernel
theorem dX12_shownAt_42 : decode cX12_shownAt 42 = .ok (.iconst 1, 1) := by decide +kernel
theorem dX12_shownAt_43 : decode cX12_shownAt 43 = .ok (.iadd, 1) := by decide +kernel
theorem dX12_shownAt_44 : decode cX12_shownAt 44 = .ok (.iaload, 1) := by decide +kernel
theorem dX12_shownAt_45 : decode cX12_shownAt 45 = .ok (.iload_n 3, 1) := by decide +kernel
theorem dX12_shownAt_46 : decode cX12_shownAt 46 = .ok (.if_icmp .ne 13, 3) := by decide +kernel
theorem dX12_shownAt_49 : decode cX12_shownAt 49 = .ok (.aload_n 0, 1) := by decide +kernel
theorem dX12_shownAt_50 : decode cX12_shownAt 50 = .ok (.getfield 168, 3) := by decide +kernel
theorem dX12_shownAt_53 : decode cX12_shownAt 53 = .ok (.iload 5, 2) := by decide +kernel
theorem dX12_shownAt_55 : decode cX12_shownAt 55 = .ok (.iconst 2, 1) := by decide +kernel
theorem dX12_shownAt_56 : decode cX12_shownAt 56 = .ok (.iadd, 1) := by decide +kernel
theorem dX12_shownAt_57 : decode cX12_shownAt 57 = .ok (.iaload, 1) := by decide +kernel
theorem dX12_shownAt_58 : decode cX12_shownAt 58 = .ok (.ireturn, 1) := by decide +kernel
theorem dX12_shownAt_59 : decode cX12_shownAt 59 = .ok (.iinc 4 1, 3) := by decide +kernel
theorem dX12_shownAt_62 : decode cX12_shownAt 62 = .ok (.goto (-59), 3) := by decide +kernel
theorem dX12_shownAt_65 : decode cX12_shownAt 65 = .ok (.bipush 9, 2) := by decide +kernel
theorem dX12_shownAt_67 : decode cX12_shownAt 67 = .ok (.ireturn, 1) := by decide +kernel
theorem dX12_tells_0 : decode cX12_tells 0 = .ok (.aload_n 0, 1) := by decide +kernel
theorem dX12_tells_1 : decode cX12_tells 1 = .ok (.getfield 192, 3) := by decide +kernel
theorem dX12_tells_4 : decode cX12_tells 4 = .ok (.bipush 6, 2) := by decide +kernel
theorem dX12_tells_6 : decode cX12_tells 6 = .ok (.iload_n 3, 1) := by decide +kernel
theorem dX12_tells_7 : decode cX12_tells 7 = .ok (.iconst 1, 1) := by decide +kernel
theorem dX12_tells_8 : decode cX12_tells 8 = .ok (.isub, 1) := by decide +kernel
theorem dX12_tells_9 : decode cX12_tells 9 = .ok (.imul, 1) := by decide +kernel
theorem dX12_tells_10 : decode cX12_tells 10 = .ok (.iload_n 2, 1) := by decide +kernel
theorem dX12_tells_11 : decode cX12_tells 11 = .ok (.iadd, 1) := by decide +kernel
theorem dX12_tells_12 : decode cX12_tells 12 = .ok (.iaload, 1) := by decide +kernel
theorem dX12_tells_13 : decode cX12_tells 13 = .ok (.istore 5, 2) := by decide +kernel
theorem dX12_tells_15 : decode cX12_tells 15 = .ok (.aload_n 0, 1) := by decide +kernel
theorem dX12_tells_16 : decode cX12_tells 16 = .ok (.getfield 63, 3) := by decide +kernel
theorem dX12_tells_19 : decode cX12_tells 19 = .ok (.aload_n 0, 1) := by decide +kernel
theorem dX12_tells_20 : decode cX12_tells 20 = .ok (.aload_n 0, 1) := by decide +kernel
theorem dX12_tells_21 : decode cX12_tells 21 = .ok (.getfield 51, 3) := by decide +kernel
theorem dX12_tells_24 : decode cX12_tells 24 = .ok (.aload_n 0, 1) := by decide +kernel
theorem dX12_tells_25 : decode cX12_tells 25 = .ok (.getfield 192, 3) := by decide +kernel
theorem dX12_tells_28 : decode cX12_tells 28 = .ok (.iload_n 2, 1) := by decide +kernel
theorem dX12_tells_29 : decode cX12_tells 29 = .ok (.iaload, 1) := by decide +kernel
theorem dX12_tells_30 : decode cX12_tells 30 = .ok (.iload 4, 2) := by decide +kernel
theorem dX12_tells_32 : decode cX12_tells 32 = .ok (.invokevirtual 361, 3) := by decide +kernel
theorem dX12_tells_35 : decode cX12_tells 35 = .ok (.iaload, 1) := by decide +kernel
theorem dX12_tells_36 : decode cX12_tells 36 = .ok (.istore 6, 2) := by decide +kernel
theorem dX12_tells_38 : decode cX12_tells 38 = .ok (.aload_n 0, 1) := by decide +kernel
theorem dX12_tells_39 : decode cX12_tells 39 = .ok (.getfield 189, 3) := by decide +kernel
theorem dX12_tells_42 : decode cX12_tells 42 = .ok (.iconst 1, 1) := by decide +kernel
theorem dX12_tells_43 : decode cX12_tells 43 = .ok (.aload_n 0, 1) := by decide +kernel
theorem dX12_tells_44 : decode cX12_tells 44 = .ok (.getfield 72, 3) := by decide +kernel
theorem dX12_tells_47 : decode cX12_tells 47 = .ok (.bipush 6, 2) := by decide +kernel
theorem dX12_tells_49 : decode cX12_tells 49 = .ok (.aload_n 0, 1) := by decide +kernel
theorem dX12_tells_50 : decode cX12_tells 50 = .ok (.getfield 51, 3) := by decide +kernel
theorem dX12_tells_53 : decode cX12_tells 53 = .ok (.imul, 1) := by decide +kernel
theorem dX12_tells_54 : decode cX12_tells 54 = .ok (.iload_n 2, 1) := by decide +kernel
theorem dX12_tells_55 : decode cX12_tells 55 = .ok (.iadd, 1) := by decide +kernel
theorem dX12_tells_56 : decode cX12_tells 56 = .ok (.iaload, 1) := by decide +kernel
theorem dX12_tells_57 : decode cX12_tells 57 = .ok (.iastore, 1) := by decide +kernel
theorem dX12_tells_58 : decode cX12_tells 58 = .ok (.aload_n 0, 1) := by decide +kernel
theorem dX12_tells_59 : decode cX12_tells 59 = .ok (.getfield 189, 3) := by decide +kernel
theorem dX12_tells_62 : decode cX12_tells 62 = .ok (.iconst 2, 1) := by decide +kernel
theorem dX12_tells_63 : decode cX12_tells 63 = .ok (.iload_n 3, 1) := by decide +kernel
theorem dX12_tells_64 : decode cX12_tells 64 = .ok (.iastore, 1) := by decide +kernel
theorem dX12_tells_65 : decode cX12_tells 65 = .ok (.aload_n 0, 1) := by decide +kernel
theorem dX12_tells_66 : decode cX12_tells 66 = .ok (.getfield 189, 3) := by decide +kernel
theorem dX12_tells_69 : decode cX12_tells 69 = .ok (.iconst 3, 1) := by decide +kernel
theorem dX12_tells_70 : decode cX12_tells 70 = .ok (.aload_n 0, 1) := by decide +kernel
theorem dX12_tells_71 : decode cX12_tells 71 = .ok (.getfield 156, 3) := by decide +kernel
theorem dX12_tells_74 : decode cX12_tells 74 = .ok (.iload_n 1, 1) := by decide +kernel
theorem dX12_tells_75 : decode cX12_tells 75 = .ok (.iaload, 1) := by decide +kernel
theorem dX12_tells_76 : decode cX12_tells 76 = .ok (.iastore, 1) := by decide +kernel
theorem dX12_tells_77 : decode cX12_tells 77 = .ok (.aload_n 0, 1) := by decide +kernel
theorem dX12_tells_78 : decode cX12_tells 78 = .ok (.getfield 189, 3) := by decide +kernel
theorem dX12_tells_81 : decode cX12_tells 81 = .ok (.iconst 4, 1) := by decide +kernel
theorem dX12_tells_82 : decode cX12_tells 82 = .ok (.aload_n 0, 1) := by decide +kernel
theorem dX12_tells_83 : decode cX12_tells 83 = .ok (.iload_n 3, 1) := by decide +kernel
theorem dX12_tells_84 : decode cX12_tells 84 = .ok (.iconst 1, 1) := by decide +kernel
theorem dX12_tells_85 : decode cX12_tells 85 = .ok (.isub, 1) := by decide +kernel
theorem dX12_tells_86 : decode cX12_tells 86 = .ok (.iload 5, 2) := by decide +kernel
theorem dX12_tells_88 : decode cX12_tells 88 = .ok (.invokevirtual 430, 3) := by decide +kernel
theorem dX12_tells_91 : decode cX12_tells 91 = .ok (.iastore, 1) := by decide +kernel
theorem dX12_tells_92 : decode cX12_tells 92 = .ok (.aload_n 0, 1) := by decide +kernel
theorem dX12_tells_93 : decode cX12_tells 93 = .ok (.getfield 189, 3) := by decide +kernel
theorem dX12_tells_96 : decode cX12_tells 96 = .ok (.iconst 5, 1) := by decide +kernel
theorem dX12_tells_97 : decode cX12_tells 97 = .ok (.aload_n 0, 1) := by decide +kernel
theorem dX12_tells_98 : decode cX12_tells 98 = .ok (.getfield 162, 3) := by decide +kernel
theorem dX12_tells_101 : decode cX12_tells 101 = .ok (.iload_n 1, 1) := by decide +kernel
theorem dX12_tells_102 : decode cX12_tells 102 = .ok (.iaload, 1) := by decide +kernel
theorem dX12_tells_103 : decode cX12_tells 103 = .ok (.iload_n 2, 1) := by decide +kernel
theorem dX12_tells_104 : decode cX12_tells 104 = .ok (.invokestatic 342, 3) := by decide +kernel
theorem dX12_tells_107 : decode cX12_tells 107 = .ok (.ifCond .eq 14, 3) := by decide +kernel
theorem dX12_tells_110 : decode cX12_tells 110 = .ok (.aload_n 0, 1) := by decide +kernel
theorem dX12_tells_111 : decode cX12_tells 111 = .ok (.iload_n 1, 1) := by decide +kernel
theorem dX12_tells_112 : decode cX12_tells 112 = .ok (.iload_n 3, 1) := by decide +kernel
theorem dX12_tells_113 : decode cX12_tells 113 = .ok (.iload 4, 2) := by decide +kernel
theorem dX12_tells_115 : decode cX12_tells 115 = .ok (.invokevirtual 433, 3) := by decide +kernel
theorem dX12_tells_118 : decode cX12_tells 118 = .ok (.goto 5, 3) := by decide +kernel
theorem dX12_tells_121 : decode cX12_tells 121 = .ok (.bipush 9, 2) := by decide +kernel
theorem dX12_tells_123 : decode cX12_tells 123 = .ok (.iastore, 1) := by decide +kernel
theorem dX12_tells_124 : decode cX12_tells 124 = .ok (.aload_n 0, 1) := by decide +kernel
theorem dX12_tells_125 : decode cX12_tells 125 = .ok (.getfield 189, 3) := by decide +kernel
theorem dX12_tells_128 : decode cX12_tells 128 = .ok (.bipush 6, 2) := by decide +kernel
theorem dX12_tells_130 : decode cX12_tells 130 = .ok (.aload_n 0, 1) := by decide +kernel
theorem dX12_tells_131 : decode cX12_tells 131 = .ok (.iload_n 3, 1) := by decide +kernel
theorem dX12_tells_132 : decode cX12_tells 132 = .ok (.iconst 1, 1) := by decide +kernel
theorem dX12_tells_133 : decode cX12_tells 133 = .ok (.isub, 1) := by decide +kernel
theorem dX12_tells_134 : decode cX12_tells 134 = .ok (.iload 4, 2) := by decide +kernel
theorem dX12_tells_136 : decode cX12_tells 136 = .ok (.invokevirtual 430, 3) := by decide +kernel
theorem dX12_tells_139 : decode cX12_tells 139 = .ok (.iastore, 1) := by decide +kernel
theorem dX12_tells_140 : decode cX12_tells 140 = .ok (.aload_n 0, 1) := by decide +kernel
theorem dX12_tells_141 : decode cX12_tells 141 = .ok (.getfield 189, 3) := by decide +kernel
theorem dX12_tells_144 : decode cX12_tells 144 = .ok (.bipush 7, 2) := by decide +kernel
theorem dX12_tells_146 : decode cX12_tells 146 = .ok (.iload 6, 2) := by decide +kernel
theorem dX12_tells_148 : decode cX12_tells 148 = .ok (.ldc_w 395, 3) := by decide +kernel
theorem dX12_tells_151 : decode cX12_tells 151 = .ok (.if_icmp .lt 8, 3) := by decide +kernel
theorem dX12_tells_154 : decode cX12_tells 154 = .ok (.bipush 9, 2) := by decide +kernel
theorem dX12_tells_156 : decode cX12_tells 156 = .ok (.goto 5, 3) := by decide +kernel
theorem dX12_tells_159 : decode cX12_tells 159 = .ok (.iload 6, 2) := by decide +kernel
theorem dX12_tells_161 : decode cX12_tells 161 = .ok (.iastore, 1) := by decide +kernel
theorem dX12_tells_162 : decode cX12_tells 162 = .ok (.return_, 1) := by decide +kernel
theorem dX12_nextOf_0 : decode cX12_nextOf 0 = .ok (.aload_n 0, 1) := by decide +kernel
theorem dX12_nextOf_1 : decode cX12_nextOf 1 = .ok (.getfield 192, 3) := by decide +kernel
theorem dX12_nextOf_4 : decode cX12_nextOf 4 = .ok (.bipush 6, 2) := by decide +kernel
theorem dX12_nextOf_6 : decode cX12_nextOf 6 = .ok (.iload_n 3, 1) := by decide +kernel
theorem dX12_nextOf_7 : decode cX12_nextOf 7 = .ok (.iconst 1, 1) := by decide +kernel
theorem dX12_nextOf_8 : decode cX12_nextOf 8 = .ok (.isub, 1) := by decide +kernel
theorem dX12_nextOf_9 : decode cX12_nextOf 9 = .ok (.imul, 1) := by decide +kernel
theorem dX12_nextOf_10 : decode cX12_nextOf 10 = .ok (.iload_n 2, 1) := by decide +kernel
theorem dX12_nextOf_11 : decode cX12_nextOf 11 = .ok (.iadd, 1) := by decide +kernel
theorem dX12_nextOf_12 : decode cX12_nextOf 12 = .ok (.iaload, 1) := by decide +kernel
theorem dX12_nextOf_13 : decode cX12_nextOf 13 = .ok (.istore 4, 2) := by decide +kernel
theorem dX12_nextOf_15 : decode cX12_nextOf 15 = .ok (.aload_n 0, 1) := by decide +kernel
theorem dX12_nextOf_16 : decode cX12_nextOf 16 = .ok (.iload_n 1, 1) := by decide +kernel
theorem dX12_nextOf_17 : decode cX12_nextOf 17 = .ok (.iload_n 2, 1) := by decide +kernel
theorem dX12_nextOf_18 : decode cX12_nextOf 18 = .ok (.iload_n 3, 1) := by decide +kernel
theorem dX12_nextOf_19 : decode cX12_nextOf 19 = .ok (.iload 4, 2) := by decide +kernel
theorem dX12_nextOf_21 : decode cX12_nextOf 21 = .ok (.invokevirtual 436, 3) := by decide +kernel
theorem dX12_nextOf_24 : decode cX12_nextOf 24 = .ok (.aload_n 0, 1) := by decide +kernel
theorem dX12_nextOf_25 : decode cX12_nextOf 25 = .ok (.iconst 0, 1) := by decide +kernel
theorem dX12_nextOf_26 : decode cX12_nextOf 26 = .ok (.invokevirtual 440, 3) := by decide +kernel
theorem dX12_nextOf_29 : decode cX12_nextOf 29 = .ok (.ifCond .eq 16, 3) := by decide +kernel
theorem dX12_nextOf_32 : decode cX12_nextOf 32 = .ok (.aload_n 0, 1) := by decide +kernel
theorem dX12_nextOf_33 : decode cX12_nextOf 33 = .ok (.iconst 0, 1) := by decide +kernel
theorem dX12_nextOf_34 : decode cX12_nextOf 34 = .ok (.invokevirtual 443, 3) := by decide +kernel
theorem dX12_nextOf_37 : decode cX12_nextOf 37 = .ok (.lconst 1, 1) := by decide +kernel
theorem dX12_nextOf_38 : decode cX12_nextOf 38 = .ok (.lcmp, 1) := by decide +kernel
theorem dX12_nextOf_39 : decode cX12_nextOf 39 = .ok (.ifCond .ne 6, 3) := by decide +kernel
theorem dX12_nextOf_42 : decode cX12_nextOf 42 = .ok (.iload 4, 2) := by decide +kernel
theorem dX12_nextOf_44 : decode cX12_nextOf 44 = .ok (.ireturn, 1) := by decide +kernel
theorem dX12_nextOf_45 : decode cX12_nextOf 45 = .ok (.iconst (-1), 1) := by decide +kernel
theorem dX12_nextOf_46 : decode cX12_nextOf 46 = .ok (.istore 5, 2) := by decide +kernel
theorem dX12_nextOf_48 : decode cX12_nextOf 48 = .ok (.lconst 0, 1) := by decide +kernel
theorem dX12_nextOf_49 : decode cX12_nextOf 49 = .ok (.lstore 6, 2) := by decide +kernel
theorem dX12_nextOf_51 : decode cX12_nextOf 51 = .ok (.iconst 0, 1) := by decide +kernel
theorem dX12_nextOf_52 : decode cX12_nextOf 52 = .ok (.istore 8, 2) := by decide +kernel
theorem dX12_nextOf_54 : decode cX12_nextOf 54 = .ok (.iload 8, 2) := by decide +kernel
theorem dX12_nextOf_56 : decode cX12_nextOf 56 = .ok (.aload_n 0, 1) := by decide +kernel
theorem dX12_nextOf_57 : decode cX12_nextOf 57 = .ok (.getfield 54, 3) := by decide +kernel
theorem dX12_nextOf_60 : decode cX12_nextOf 60 = .ok (.aload_n 0, 1) := by decide +kernel
theorem dX12_nextOf_61 : decode cX12_nextOf 61 = .ok (.getfield 51, 3) := by decide +kernel
theorem dX12_nextOf_64 : decode cX12_nextOf 64 = .ok (.iaload, 1) := by decide +kernel
theorem dX12_nextOf_65 : decode cX12_nextOf 65 = .ok (.if_icmp .ge 92, 3) := by decide +kernel
theorem dX12_nextOf_68 : decode cX12_nextOf 68 = .ok (.iload 8, 2) := by decide +kernel
theorem dX12_nextOf_70 : decode cX12_nextOf 70 = .ok (.iload 4, 2) := by decide +kernel
theorem dX12_nextOf_72 : decode cX12_nextOf 72 = .ok (.if_icmp .eq 26, 3) := by decide +kernel
theorem dX12_nextOf_75 : decode cX12_nextOf 75 = .ok (.aload_n 0, 1) := by decide +kernel
theorem dX12_nextOf_76 : decode cX12_nextOf 76 = .ok (.getfield 60, 3) := by decide +kernel
theorem dX12_nextOf_79 : decode cX12_nextOf 79 = .ok (.aload_n 0, 1) := by decide +kernel
theorem dX12_nextOf_80 : decode cX12_nextOf 80 = .ok (.aload_n 0, 1) := by decide +kernel
theorem dX12_nextOf_81 : decode cX12_nextOf 81 = .ok (.getfield 51, 3) := by decide +kernel
theorem dX12_nextOf_84 : decode cX12_nextOf 84 = .ok (.iload 4, 2) := by decide +kernel
theorem dX12_nextOf_86 : decode cX12_nextOf 86 = .ok (.iload 8, 2) := by decide +kernel
theorem dX12_nextOf_88 : decode cX12_nextOf 88 = .ok (.invokevirtual 361, 3) := by decide +kernel
theorem dX12_nextOf_91 : decode cX12_nextOf 91 = .ok (.iaload, 1) := by decide +kernel
theorem dX12_nextOf_92 : decode cX12_nextOf 92 = .ok (.ifCond .ne 6, 3) := by decide +kernel
theorem dX12_nextOf_95 : decode cX12_nextOf 95 = .ok (.goto 56, 3) := by decide +kernel
theorem dX12_nextOf_98 : decode cX12_nextOf 98 = .ok (.aload_n 0, 1) := by decide +kernel
theorem dX12_nextOf_99 : decode cX12_nextOf 99 = .ok (.iload_n 1, 1) := by decide +kernel
theorem dX12_nextOf_100 : decode cX12_nextOf 100 = .ok (.iload_n 2, 1) := by decide +kernel
theorem dX12_nextOf_101 : decode cX12_nextOf 101 = .ok (.iload_n 3, 1) := by decide +kernel
theorem dX12_nextOf_102 : decode cX12_nextOf 102 = .ok (.iload 8, 2) := by decide +kernel
theorem dX12_nextOf_104 : decode cX12_nextOf 104 = .ok (.invokevirtual 436, 3) := by decide +kernel
theorem dX12_nextOf_107 : decode cX12_nextOf 107 = .ok (.aload_n 0, 1) := by decide +kernel
theorem dX12_nextOf_108 : decode cX12_nextOf 108 = .ok (.iconst 1, 1) := by decide +kernel
theorem dX12_nextOf_109 : decode cX12_nextOf 109 = .ok (.invokevirtual 440, 3) := by decide +kernel
theorem dX12_nextOf_112 : decode cX12_nextOf 112 = .ok (.ifCond .eq 11, 3) := by decide +kernel
theorem dX12_nextOf_115 : decode cX12_nextOf 115 = .ok (.aload_n 0, 1) := by decide +kernel
theorem dX12_nextOf_116 : decode cX12_nextOf 116 = .ok (.iconst 1, 1) := by decide +kernel
theorem dX12_nextOf_117 : decode cX12_nextOf 117 = .ok (.invokevirtual 443, 3) := by decide +kernel
theorem dX12_nextOf_120 : decode cX12_nextOf 120 = .ok (.goto 4, 3) := by decide +kernel
theorem dX12_nextOf_123 : decode cX12_nextOf 123 = .ok (.lconst 0, 1) := by decide +kernel
theorem dX12_nextOf_124 : decode cX12_nextOf 124 = .ok (.lstore 9, 2) := by decide +kernel
theorem dX12_nextOf_126 : decode cX12_nextOf 126 = .ok (.iload 5, 2) := by decide +kernel
theorem dX12_nextOf_128 : decode cX12_nextOf 128 = .ok (.iconst (-1), 1) := by decide +kernel
theorem dX12_nextOf_129 : decode cX12_nextOf 129 = .ok (.if_icmp .eq 14, 3) := by decide +kernel
theorem dX12_nextOf_132 : decode cX12_nextOf 132 = .ok (.lload 9, 2) := by decide +kernel
theorem dX12_nextOf_134 : decode cX12_nextOf 134 = .ok (.lload 6, 2) := by decide +kernel
theorem dX12_nextOf_136 : decode cX12_nextOf 136 = .ok (.lcmp, 1) := by decide +kernel
theorem dX12_nextOf_137 : decode cX12_nextOf 137 = .ok (.ifCond .gt 6, 3) := by decide +kernel
theorem dX12_nextOf_140 : decode cX12_nextOf 140 = .ok (.goto 11, 3) := by decide +kernel
theorem dX12_nextOf_143 : decode cX12_nextOf 143 = .ok (.lload 9, 2) := by decide +kernel
theorem dX12_nextOf_145 : decode cX12_nextOf 145 = .ok (.lstore 6, 2) := by decide +kernel
theorem dX12_nextOf_147 : decode cX12_nextOf 147 = .ok (.iload 8, 2) := by decide +kernel
theorem dX12_nextOf_149 : decode cX12_nextOf 149 = .ok (.istore 5, 2) := by decide +kernel
theorem dX12_nextOf_151 : decode cX12_nextOf 151 = .ok (.iinc 8 1, 3) := by decide +kernel
theorem dX12_nextOf_154 : decode cX12_nextOf 154 = .ok (.goto (-100), 3) := by decide +kernel
theorem dX12_nextOf_157 : decode cX12_nextOf 157 = .ok (.iload 5, 2) := by decide +kernel
theorem dX12_nextOf_159 : decode cX12_nextOf 159 = .ok (.ireturn, 1) := by decide +kernel
theorem dX12_runs_0 : decode cX12_runs 0 = .ok (.iconst 0, 1) := by decide +kernel
theorem dX12_runs_1 : decode cX12_runs 1 = .ok (.istore_n 2, 1) := by decide +kernel
theorem dX12_runs_2 : decode cX12_runs 2 = .ok (.iload_n 2, 1) := by decide +kernel
theorem dX12_runs_3 : decode cX12_runs 3 = .ok (.aload_n 0, 1) := by decide +kernel
theorem dX12_runs_4 : decode cX12_runs 4 = .ok (.getfield 66, 3) := by decide +kernel
theorem dX12_runs_7 : decode cX12_runs 7 = .ok (.aload_n 0, 1) := by decide +kernel
theorem dX12_runs_8 : decode cX12_runs 8 = .ok (.getfield 51, 3) := by decide +kernel
theorem dX12_runs_11 : decode cX12_runs 11 = .ok (.iaload, 1) := by decide +kernel
theorem dX12_runs_12 : decode cX12_runs 12 = .ok (.if_icmp .ge 26, 3) := by decide +kernel
theorem dX12_runs_15 : decode cX12_runs 15 = .ok (.aload_n 0, 1) := by decide +kernel
theorem dX12_runs_16 : decode cX12_runs 16 = .ok (.getfield 192, 3) := by decide +kernel
theorem dX12_runs_19 : decode cX12_runs 19 = .ok (.iload_n 2, 1) := by decide +kernel
theorem dX12_runs_20 : decode cX12_runs 20 = .ok (.aload_n 0, 1) := by decide +kernel
theorem dX12_runs_21 : decode cX12_runs 21 = .ok (.getfield 159, 3) := by decide +kernel
theorem dX12_runs_24 : decode cX12_runs 24 = .ok (.bipush 6, 2) := by decide +kernel
theorem dX12_runs_26 : decode cX12_runs 26 = .ok (.iload_n 1, 1) := by decide +kernel
theorem dX12_runs_27 : decode cX12_runs 27 = .ok (.imul, 1) := by decide +kernel
theorem dX12_runs_28 : decode cX12_runs 28 = .ok (.iload_n 2, 1) := by decide +kernel
theorem dX12_runs_29 : decode cX12_runs 29 = .ok (.iadd, 1) := by decide +kernel
theorem dX12_runs_30 : decode cX12_runs 30 = .ok (.iaload, 1) := by decide +kernel
theorem dX12_runs_31 : decode cX12_runs 31 = .ok (.iastore, 1) := by decide +kernel
theorem dX12_runs_32 : decode cX12_runs 32 = .ok (.iinc 2 1, 3) := by decide +kernel
theorem dX12_runs_35 : decode cX12_runs 35 = .ok (.goto (-33), 3) := by decide +kernel
theorem dX12_runs_38 : decode cX12_runs 38 = .ok (.iconst 1, 1) := by decide +kernel
theorem dX12_runs_39 : decode cX12_runs 39 = .ok (.istore_n 2, 1) := by decide +kernel
theorem dX12_runs_40 : decode cX12_runs 40 = .ok (.iload_n 2, 1) := by decide +kernel
theorem dX12_runs_41 : decode cX12_runs 41 = .ok (.bipush 8, 2) := by decide +kernel
theorem dX12_runs_43 : decode cX12_runs 43 = .ok (.if_icmp .gt 48, 3) := by decide +kernel
theorem dX12_runs_46 : decode cX12_runs 46 = .ok (.iconst 0, 1) := by decide +kernel
theorem dX12_runs_47 : decode cX12_runs 47 = .ok (.istore_n 3, 1) := by decide +kernel
theorem dX12_runs_48 : decode cX12_runs 48 = .ok (.iload_n 3, 1) := by decide +kernel
theorem dX12_runs_49 : decode cX12_runs 49 = .ok (.aload_n 0, 1) := by decide +kernel
theorem dX12_runs_50 : decode cX12_runs 50 = .ok (.getfield 66, 3) := by decide +kernel
theorem dX12_runs_53 : decode cX12_runs 53 = .ok (.aload_n 0, 1) := by decide +kernel
theorem dX12_runs_54 : decode cX12_runs 54 = .ok (.getfield 51, 3) := by decide +kernel
theorem dX12_runs_57 : decode cX12_runs 57 = .ok (.iaload, 1) := by decide +kernel
theorem dX12_runs_58 : decode cX12_runs 58 = .ok (.if_icmp .ge 27, 3) := by decide +kernel
theorem dX12_runs_61 : decode cX12_runs 61 = .ok (.aload_n 0, 1) := by decide +kernel
theorem dX12_runs_62 : decode cX12_runs 62 = .ok (.getfield 192, 3) := by decide +kernel
theorem dX12_runs_65 : decode cX12_runs 65 = .ok (.bipush 6, 2) := by decide +kernel
theorem dX12_runs_67 : decode cX12_runs 67 = .ok (.iload_n 2, 1) := by decide +kernel
theorem dX12_runs_68 : decode cX12_runs 68 = .ok (.imul, 1) := by decide +kernel
theorem dX12_runs_69 : decode cX12_runs 69 = .ok (.iload_n 3, 1) := by decide +kernel
theorem dX12_runs_70 : decode cX12_runs 70 = .ok (.iadd, 1) := by decide +kernel
theorem dX12_runs_71 : decode cX12_runs 71 = .ok (.aload_n 0, 1) := by decide +kernel
theorem dX12_runs_72 : decode cX12_runs 72 = .ok (.iload_n 1, 1) := by decide +kernel
theorem dX12_runs_73 : decode cX12_runs 73 = .ok (.iload_n 3, 1) := by decide +kernel
theorem dX12_runs_74 : decode cX12_runs 74 = .ok (.iload_n 2, 1) := by decide +kernel
theorem dX12_runs_75 : decode cX12_runs 75 = .ok (.invokevirtual 447, 3) := by decide +kernel
theorem dX12_runs_78 : decode cX12_runs 78 = .ok (.iastore, 1) := by decide +kernel
theorem dX12_runs_79 : decode cX12_runs 79 = .ok (.iinc 3 1, 3) := by decide +kernel
theorem dX12_runs_82 : decode cX12_runs 82 = .ok (.goto (-34), 3) := by decide +kernel
theorem dX12_runs_85 : decode cX12_runs 85 = .ok (.iinc 2 1, 3) := by decide +kernel
theorem dX12_runs_88 : decode cX12_runs 88 = .ok (.goto (-48), 3) := by decide +kernel
theorem dX12_runs_91 : decode cX12_runs 91 = .ok (.return_, 1) := by decide +kernel
theorem dX12_isTrue_0 : decode cX12_isTrue 0 = .ok (.iconst 3, 1) := by decide +kernel
theorem dX12_isTrue_1 : decode cX12_isTrue 1 = .ok (.bipush 9, 2) := by decide +kernel
theorem dX12_isTrue_3 : decode cX12_isTrue 3 = .ok (.iload_n 1, 1) := by decide +kernel
theorem dX12_isTrue_4 : decode cX12_isTrue 4 = .ok (.imul, 1) := by decide +kernel
theorem dX12_isTrue_5 : decode cX12_isTrue 5 = .ok (.iload_n 2, 1) := by decide +kernel
theorem dX12_isTrue_6 : decode cX12_isTrue 6 = .ok (.iadd, 1) := by decide +kernel
theorem dX12_isTrue_7 : decode cX12_isTrue 7 = .ok (.imul, 1) := by decide +kernel
theorem dX12_isTrue_8 : decode cX12_isTrue 8 = .ok (.istore_n 3, 1) := by decide +kernel
theorem dX12_isTrue_9 : decode cX12_isTrue 9 = .ok (.aload_n 0, 1) := by decide +kernel
theorem dX12_isTrue_10 : decode cX12_isTrue 10 = .ok (.aload_n 0, 1) := by decide +kernel
theorem dX12_isTrue_11 : decode cX12_isTrue 11 = .ok (.getfield 168, 3) := by decide +kernel
theorem dX12_isTrue_14 : decode cX12_isTrue 14 = .ok (.iload_n 3, 1) := by decide +kernel
theorem dX12_isTrue_15 : decode cX12_isTrue 15 = .ok (.iaload, 1) := by decide +kernel
theorem dX12_isTrue_16 : decode cX12_isTrue 16 = .ok (.aload_n 0, 1) := by decide +kernel
theorem dX12_isTrue_17 : decode cX12_isTrue 17 = .ok (.getfield 168, 3) := by decide +kernel
theorem dX12_isTrue_20 : decode cX12_isTrue 20 = .ok (.iload_n 3, 1) := by decide +kernel
theorem dX12_isTrue_21 : decode cX12_isTrue 21 = .ok (.iconst 1, 1) := by decide +kernel
theorem dX12_isTrue_22 : decode cX12_isTrue 22 = .ok (.iadd, 1) := by decide +kernel
theorem dX12_isTrue_23 : decode cX12_isTrue 23 = .ok (.iaload, 1) := by decide +kernel
theorem dX12_isTrue_24 : decode cX12_isTrue 24 = .ok (.invokevirtual 430, 3) := by decide +kernel
theorem dX12_isTrue_27 : decode cX12_isTrue 27 = .ok (.aload_n 0, 1) := by decide +kernel
theorem dX12_isTrue_28 : decode cX12_isTrue 28 = .ok (.getfield 168, 3) := by decide +kernel
theorem dX12_isTrue_31 : decode cX12_isTrue 31 = .ok (.iload_n 3, 1) := by decide +kernel
theorem dX12_isTrue_32 : decode cX12_isTrue 32 = .ok (.iconst 2, 1) := by decide +kernel
theorem dX12_isTrue_33 : decode cX12_isTrue 33 = .ok (.iadd, 1) := by decide +kernel
theorem dX12_isTrue_34 : decode cX12_isTrue 34 = .ok (.iaload, 1) := by decide +kernel
theorem dX12_isTrue_35 : decode cX12_isTrue 35 = .ok (.if_icmp .ne 7, 3) := by decide +kernel
theorem dX12_isTrue_38 : decode cX12_isTrue 38 = .ok (.iconst 1, 1) := by decide +kernel
theorem dX12_isTrue_39 : decode cX12_isTrue 39 = .ok (.goto 4, 3) := by decide +kernel
theorem dX12_isTrue_42 : decode cX12_isTrue 42 = .ok (.iconst 0, 1) := by decide +kernel
theorem dX12_isTrue_43 : decode cX12_isTrue 43 = .ok (.ireturn, 1) := by decide +kernel
theorem dX12_trues_0 : decode cX12_trues 0 = .ok (.iconst 0, 1) := by decide +kernel
theorem dX12_trues_1 : decode cX12_trues 1 = .ok (.istore_n 2, 1) := by decide +kernel
theorem dX12_trues_2 : decode cX12_trues 2 = .ok (.iconst 0, 1) := by decide +kernel
theorem dX12_trues_3 : decode cX12_trues 3 = .ok (.istore_n 3, 1) := by decide +kernel
theorem dX12_trues_4 : decode cX12_trues 4 = .ok (.iload_n 3, 1) := by decide +kernel
theorem dX12_trues_5 : decode cX12_trues 5 = .ok (.aload_n 0, 1) := by decide +kernel
theorem dX12_trues_6 : decode cX12_trues 6 = .ok (.getfield 165, 3) := by decide +kernel
theorem dX12_trues_9 : decode cX12_trues 9 = .ok (.iload_n 1, 1) := by decide +kernel
theorem dX12_trues_10 : decode cX12_trues 10 = .ok (.iaload, 1) := by decide +kernel
theorem dX12_trues_11 : decode cX12_trues 11 = .ok (.if_icmp .ge 26, 3) := by decide +kernel
theorem dX12_trues_14 : decode cX12_trues 14 = .ok (.iload_n 2, 1) := by decide +kernel
theorem dX12_trues_15 : decode cX12_trues 15 = .ok (.aload_n 0, 1) := by decide +kernel
theorem dX12_trues_16 : decode cX12_trues 16 = .ok (.iload_n 1, 1) := by decide +kernel
theorem dX12_trues_17 : decode cX12_trues 17 = .ok (.iload_n 3, 1) := by decide +kernel
theorem dX12_trues_18 : decode cX12_trues 18 = .ok (.invokevirtual 450, 3) := by decide +kernel
theorem dX12_trues_21 : decode cX12_trues 21 = .ok (.ifCond .eq 7, 3) := by decide +kernel
theorem dX12_trues_24 : decode cX12_trues 24 = .ok (.iconst 1, 1) := by decide +kernel
theorem dX12_trues_25 : decode cX12_trues 25 = .ok (.goto 4, 3) := by decide +kernel
theorem dX12_trues_28 : decode cX12_trues 28 = .ok (.iconst 0, 1) := by decide +kernel
theorem dX12_trues_29 : decode cX12_trues 29 = .ok (.iadd, 1) := by decide +kernel
theorem dX12_trues_30 : decode cX12_trues 30 = .ok (.istore_n 2, 1) := by decide +kernel
theorem dX12_trues_31 : decode cX12_trues 31 = .ok (.iinc 3 1, 3) := by decide +kernel
theorem dX12_trues_34 : decode cX12_trues 34 = .ok (.goto (-30), 3) := by decide +kernel
theorem dX12_trues_37 : decode cX12_trues 37 = .ok (.iload_n 2, 1) := by decide +kernel
theorem dX12_trues_38 : decode cX12_trues 38 = .ok (.ireturn, 1) := by decide +kernel
theorem dX12_isAgreed_0 : decode cX12_isAgreed 0 = .ok (.aload_n 0, 1) := by decide +kernel
theorem dX12_isAgreed_1 : decode cX12_isAgreed 1 = .ok (.iload_n 1, 1) := by decide +kernel
theorem dX12_isAgreed_2 : decode cX12_isAgreed 2 = .ok (.invokevirtual 453, 3) := by decide +kernel
theorem dX12_isAgreed_5 : decode cX12_isAgreed 5 = .ok (.aload_n 0, 1) := by decide +kernel
theorem dX12_isAgreed_6 : decode cX12_isAgreed 6 = .ok (.iload_n 1, 1) := by decide +kernel
theorem dX12_isAgreed_7 : decode cX12_isAgreed 7 = .ok (.invokevirtual 456, 3) := by decide +kernel
theorem dX12_isAgreed_10 : decode cX12_isAgreed 10 = .ok (.aload_n 0, 1) := by decide +kernel
theorem dX12_isAgreed_11 : decode cX12_isAgreed 11 = .ok (.getfield 165, 3) := by decide +kernel
theorem dX12_isAgreed_14 : decode cX12_isAgreed 14 = .ok (.iload_n 1, 1) := by decide +kernel
theorem dX12_isAgreed_15 : decode cX12_isAgreed 15 = .ok (.iaload, 1) := by decide +kernel
theorem dX12_isAgreed_16 : decode cX12_isAgreed 16 = .ok (.if_icmp .ne 7, 3) := by decide +kernel
theorem dX12_isAgreed_19 : decode cX12_isAgreed 19 = .ok (.iconst 1, 1) := by decide +kernel
theorem dX12_isAgreed_20 : decode cX12_isAgreed 20 = .ok (.goto 4, 3) := by decide +kernel
theorem dX12_isAgreed_23 : decode cX12_isAgreed 23 = .ok (.iconst 0, 1) := by decide +kernel
theorem dX12_isAgreed_24 : decode cX12_isAgreed 24 = .ok (.ireturn, 1) := by decide +kernel
theorem dX12_writesDown_0 : decode cX12_writesDown 0 = .ok (.aload_n 0, 1) := by decide +kernel
theorem dX12_writesDown_1 : decode cX12_writesDown 1 = .ok (.getfield 171, 3) := by decide +kernel
theorem dX12_writesDown_4 : decode cX12_writesDown 4 = .ok (.iload_n 1, 1) := by decide +kernel
theorem dX12_writesDown_5 : decode cX12_writesDown 5 = .ok (.iaload, 1) := by decide +kernel
theorem dX12_writesDown_6 : decode cX12_writesDown 6 = .ok (.bipush 40, 2) := by decide +kernel
theorem dX12_writesDown_8 : decode cX12_writesDown 8 = .ok (.if_icmp .ne 51, 3) := by decide +kernel
theorem dX12_writesDown_11 : decode cX12_writesDown 11 = .ok (.bipush 120, 2) := by decide +kernel
theorem dX12_writesDown_13 : decode cX12_writesDown 13 = .ok (.iload_n 1, 1) := by decide +kernel
theorem dX12_writesDown_14 : decode cX12_writesDown 14 = .ok (.imul, 1) := by decide +kernel
theorem dX12_writesDown_15 : decode cX12_writesDown 15 = .ok (.istore_n 3, 1) := by decide +kernel
theorem dX12_writesDown_16 : decode cX12_writesDown 16 = .ok (.iload_n 3, 1) := by decide +kernel
theorem dX12_writesDown_17 : decode cX12_writesDown 17 = .ok (.bipush 120, 2) := by decide +kernel
theorem dX12_writesDown_19 : decode cX12_writesDown 19 = .ok (.iload_n 1, 1) := by decide +kernel
theorem dX12_writesDown_20 : decode cX12_writesDown 20 = .ok (.imul, 1) := by decide +kernel
theorem dX12_writesDown_21 : decode cX12_writesDown 21 = .ok (.bipush 120, 2) := by decide +kernel
theorem dX12_writesDown_23 : decode cX12_writesDown 23 = .ok (.iadd, 1) := by decide +kernel
theorem dX12_writesDown_24 : decode cX12_writesDown 24 = .ok (.iconst 3, 1) := by decide +kernel
theorem dX12_writesDown_25 : decode cX12_writesDown 25 = .ok (.isub, 1) := by decide +kernel
theorem dX12_writesDown_26 : decode cX12_writesDown 26 = .ok (.if_icmp .ge 23, 3) := by decide +kernel
theorem dX12_writesDown_29 : decode cX12_writesDown 29 = .ok (.aload_n 0, 1) := by decide +kernel
theorem dX12_writesDown_30 : decode cX12_writesDown 30 = .ok (.getfield 174, 3) := by decide +kernel
theorem dX12_writesDown_33 : decode cX12_writesDown 33 = .ok (.iload_n 3, 1) := by decide +kernel
theorem dX12_writesDown_34 : decode cX12_writesDown 34 = .ok (.aload_n 0, 1) := by decide +kernel
theorem dX12_writesDown_35 : decode cX12_writesDown 35 = .ok (.getfield 174, 3) := by decide +kernel
theorem dX12_writesDown_38 : decode cX12_writesDown 38 = .ok (.iload_n 3, 1) := by decide +kernel
theorem dX12_writesDown_39 : decode cX12_writesDown 39 = .ok (.iconst 3, 1) := by decide +kernel
theorem dX12_writesDown_40 : decode cX12_writesDown 40 = .ok (.iadd, 1) := by decide +kernel
theorem dX12_writesDown_41 : decode cX12_writesDown 41 = .ok (.iaload, 1) := by decide +kernel
theorem dX12_writesDown_42 : decode cX12_writesDown 42 = .ok (.iastore, 1) := by decide +kernel
theorem dX12_writesDown_43 : decode cX12_writesDown 43 = .ok (.iinc 3 1, 3) := by decide +kernel
theorem dX12_writesDown_46 : decode cX12_writesDown 46 = .ok (.goto (-30), 3) := by decide +kernel
theorem dX12_writesDown_49 : decode cX12_writesDown 49 = .ok (.aload_n 0, 1) := by decide +kernel
theorem dX12_writesDown_50 : decode cX12_writesDown 50 = .ok (.getfield 171, 3) := by decide +kernel
theorem dX12_writesDown_53 : decode cX12_writesDown 53 = .ok (.iload_n 1, 1) := by decide +kernel
theorem dX12_writesDown_54 : decode cX12_writesDown 54 = .ok (.dup2, 1) := by decide +kernel
theorem dX12_writesDown_55 : decode cX12_writesDown 55 = .ok (.iaload, 1) := by decide +kernel
theorem dX12_writesDown_56 : decode cX12_writesDown 56 = .ok (.iconst 1, 1) := by decide +kernel
theorem dX12_writesDown_57 : decode cX12_writesDown 57 = .ok (.isub, 1) := by decide +kernel
theorem dX12_writesDown_58 : decode cX12_writesDown 58 = .ok (.iastore, 1) := by decide +kernel
theorem dX12_writesDown_59 : decode cX12_writesDown 59 = .ok (.iconst 3, 1) := by decide +kernel
theorem dX12_writesDown_60 : decode cX12_writesDown 60 = .ok (.bipush 40, 2) := by decide +kernel
theorem dX12_writesDown_62 : decode cX12_writesDown 62 = .ok (.iload_n 1, 1) := by decide +kernel
theorem dX12_writesDown_63 : decode cX12_writesDown 63 = .ok (.imul, 1) := by decide +kernel
theorem dX12_writesDown_64 : decode cX12_writesDown 64 = .ok (.aload_n 0, 1) := by decide +kernel
theorem dX12_writesDown_65 : decode cX12_writesDown 65 = .ok (.getfield 171, 3) := by decide +kernel
theorem dX12_writesDown_68 : decode cX12_writesDown 68 = .ok (.iload_n 1, 1) := by decide +kernel
theorem dX12_writesDown_69 : decode cX12_writesDown 69 = .ok (.iaload, 1) := by decide +kernel
theorem dX12_writesDown_70 : decode cX12_writesDown 70 = .ok (.iadd, 1) := by decide +kernel
theorem dX12_writesDown_71 : decode cX12_writesDown 71 = .ok (.imul, 1) := by decide +kernel
theorem dX12_writesDown_72 : decode cX12_writesDown 72 = .ok (.istore_n 3, 1) := by decide +kernel
theorem dX12_writesDown_73 : decode cX12_writesDown 73 = .ok (.aload_n 0, 1) := by decide +kernel
theorem dX12_writesDown_74 : decode cX12_writesDown 74 = .ok (.getfield 174, 3) := by decide +kernel
theorem dX12_writesDown_77 : decode cX12_writesDown 77 = .ok (.iload_n 3, 1) := by decide +kernel
theorem dX12_writesDown_78 : decode cX12_writesDown 78 = .ok (.aload_n 0, 1) := by decide +kernel
theorem dX12_writesDown_79 : decode cX12_writesDown 79 = .ok (.getfield 156, 3) := by decide +kernel
theorem dX12_writesDown_82 : decode cX12_writesDown 82 = .ok (.iload_n 1, 1) := by decide +kernel
theorem dX12_writesDown_83 : decode cX12_writesDown 83 = .ok (.iaload, 1) := by decide +kernel
theorem dX12_writesDown_84 : decode cX12_writesDown 84 = .ok (.iastore, 1) := by decide +kernel
theorem dX12_writesDown_85 : decode cX12_writesDown 85 = .ok (.aload_n 0, 1) := by decide +kernel
theorem dX12_writesDown_86 : decode cX12_writesDown 86 = .ok (.getfield 174, 3) := by decide +kernel
theorem dX12_writesDown_89 : decode cX12_writesDown 89 = .ok (.iload_n 3, 1) := by decide +kernel
theorem dX12_writesDown_90 : decode cX12_writesDown 90 = .ok (.iconst 1, 1) := by decide +kernel
theorem dX12_writesDown_91 : decode cX12_writesDown 91 = .ok (.iadd, 1) := by decide +kernel
theorem dX12_writesDown_92 : decode cX12_writesDown 92 = .ok (.aload_n 0, 1) := by decide +kernel
theorem dX12_writesDown_93 : decode cX12_writesDown 93 = .ok (.getfield 165, 3) := by decide +kernel
theorem dX12_writesDown_96 : decode cX12_writesDown 96 = .ok (.iload_n 1, 1) := by decide +kernel
theorem dX12_writesDown_97 : decode cX12_writesDown 97 = .ok (.iaload, 1) := by decide +kernel
theorem dX12_writesDown_98 : decode cX12_writesDown 98 = .ok (.iastore, 1) := by decide +kernel
theorem dX12_writesDown_99 : decode cX12_writesDown 99 = .ok (.aload_n 0, 1) := by decide +kernel
theorem dX12_writesDown_100 : decode cX12_writesDown 100 = .ok (.getfield 174, 3) := by decide +kernel
theorem dX12_writesDown_103 : decode cX12_writesDown 103 = .ok (.iload_n 3, 1) := by decide +kernel
theorem dX12_writesDown_104 : decode cX12_writesDown 104 = .ok (.iconst 2, 1) := by decide +kernel
theorem dX12_writesDown_105 : decode cX12_writesDown 105 = .ok (.iadd, 1) := by decide +kernel
theorem dX12_writesDown_106 : decode cX12_writesDown 106 = .ok (.iload_n 2, 1) := by decide +kernel
theorem dX12_writesDown_107 : decode cX12_writesDown 107 = .ok (.iastore, 1) := by decide +kernel
theorem dX12_writesDown_108 : decode cX12_writesDown 108 = .ok (.aload_n 0, 1) := by decide +kernel
theorem dX12_writesDown_109 : decode cX12_writesDown 109 = .ok (.getfield 171, 3) := by decide +kernel
theorem dX12_writesDown_112 : decode cX12_writesDown 112 = .ok (.iload_n 1, 1) := by decide +kernel
theorem dX12_writesDown_113 : decode cX12_writesDown 113 = .ok (.dup2, 1) := by decide +kernel
theorem dX12_writesDown_114 : decode cX12_writesDown 114 = .ok (.iaload, 1) := by decide +kernel
theorem dX12_writesDown_115 : decode cX12_writesDown 115 = .ok (.iconst 1, 1) := by decide +kernel
theorem dX12_writesDown_116 : decode cX12_writesDown 116 = .ok (.iadd, 1) := by decide +kernel
theorem dX12_writesDown_117 : decode cX12_writesDown 117 = .ok (.iastore, 1) := by decide +kernel
theorem dX12_writesDown_118 : decode cX12_writesDown 118 = .ok (.return_, 1) := by decide +kernel
theorem dX12_passes_0 : decode cX12_passes 0 = .ok (.aload_n 0, 1) := by decide +kernel
theorem dX12_passes_1 : decode cX12_passes 1 = .ok (.iload_n 1, 1) := by decide +kernel
theorem dX12_passes_2 : decode cX12_passes 2 = .ok (.invokevirtual 459, 3) := by decide +kernel
theorem dX12_passes_5 : decode cX12_passes 5 = .ok (.istore_n 2, 1) := by decide +kernel
theorem dX12_passes_6 : decode cX12_passes 6 = .ok (.aload_n 0, 1) := by decide +kernel
theorem dX12_passes_7 : decode cX12_passes 7 = .ok (.iload_n 1, 1) := by decide +kernel
theorem dX12_passes_8 : decode cX12_passes 8 = .ok (.aload_n 0, 1) := by decide +kernel
theorem dX12_passes_9 : decode cX12_passes 9 = .ok (.iload_n 1, 1) := by decide +kernel
theorem dX12_passes_10 : decode cX12_passes 10 = .ok (.invokevirtual 456, 3) := by decide +kernel
theorem dX12_passes_13 : decode cX12_passes 13 = .ok (.invokevirtual 462, 3) := by decide +kernel
theorem dX12_passes_16 : decode cX12_passes 16 = .ok (.iconst 0, 1) := by decide +kernel
theorem dX12_passes_17 : decode cX12_passes 17 = .ok (.istore_n 3, 1) := by decide +kernel
theorem dX12_passes_18 : decode cX12_passes 18 = .ok (.iload_n 3, 1) := by decide +kernel
theorem dX12_passes_19 : decode cX12_passes 19 = .ok (.aload_n 0, 1) := by decide +kernel
theorem dX12_passes_20 : decode cX12_passes 20 = .ok (.getfield 66, 3) := by decide +kernel
theorem dX12_passes_23 : decode cX12_passes 23 = .ok (.aload_n 0, 1) := by decide +kernel
theorem dX12_passes_24 : decode cX12_passes 24 = .ok (.getfield 51, 3) := by decide +kernel
theorem dX12_passes_27 : decode cX12_passes 27 = .ok (.iaload, 1) := by decide +kernel
theorem dX12_passes_28 : decode cX12_passes 28 = .ok (.if_icmp .ge 29, 3) := by decide +kernel
theorem dX12_passes_31 : decode cX12_passes 31 = .ok (.aload_n 0, 1) := by decide +kernel
theorem dX12_passes_32 : decode cX12_passes 32 = .ok (.getfield 159, 3) := by decide +kernel
theorem dX12_passes_35 : decode cX12_passes 35 = .ok (.bipush 6, 2) := by decide +kernel
theorem dX12_passes_37 : decode cX12_passes 37 = .ok (.iload_n 1, 1) := by decide +kernel
theorem dX12_passes_38 : decode cX12_passes 38 = .ok (.imul, 1) := by decide +kernel
theorem dX12_passes_39 : decode cX12_passes 39 = .ok (.iload_n 3, 1) := by decide +kernel
theorem dX12_passes_40 : decode cX12_passes 40 = .ok (.iadd, 1) := by decide +kernel
theorem dX12_passes_41 : decode cX12_passes 41 = .ok (.aload_n 0, 1) := by decide +kernel
theorem dX12_passes_42 : decode cX12_passes 42 = .ok (.getfield 192, 3) := by decide +kernel
theorem dX12_passes_45 : decode cX12_passes 45 = .ok (.bipush 48, 2) := by decide +kernel
theorem dX12_passes_47 : decode cX12_passes 47 = .ok (.iload_n 3, 1) := by decide +kernel
theorem dX12_passes_48 : decode cX12_passes 48 = .ok (.iadd, 1) := by decide +kernel
theorem dX12_passes_49 : decode cX12_passes 49 = .ok (.iaload, 1) := by decide +kernel
theorem dX12_passes_50 : decode cX12_passes 50 = .ok (.iastore, 1) := by decide +kernel
theorem dX12_passes_51 : decode cX12_passes 51 = .ok (.iinc 3 1, 3) := by decide +kernel
theorem dX12_passes_54 : decode cX12_passes 54 = .ok (.goto (-36), 3) := by decide +kernel
theorem dX12_passes_57 : decode cX12_passes 57 = .ok (.aload_n 0, 1) := by decide +kernel
theorem dX12_passes_58 : decode cX12_passes 58 = .ok (.getfield 165, 3) := by decide +kernel
theorem dX12_passes_61 : decode cX12_passes 61 = .ok (.iload_n 1, 1) := by decide +kernel
theorem dX12_passes_62 : decode cX12_passes 62 = .ok (.iconst 0, 1) := by decide +kernel
theorem dX12_passes_63 : decode cX12_passes 63 = .ok (.iastore, 1) := by decide +kernel
theorem dX12_passes_64 : decode cX12_passes 64 = .ok (.aload_n 0, 1) := by decide +kernel
theorem dX12_passes_65 : decode cX12_passes 65 = .ok (.getfield 156, 3) := by decide +kernel
theorem dX12_passes_68 : decode cX12_passes 68 = .ok (.iload_n 1, 1) := by decide +kernel
theorem dX12_passes_69 : decode cX12_passes 69 = .ok (.dup2, 1) := by decide +kernel
theorem dX12_passes_70 : decode cX12_passes 70 = .ok (.iaload, 1) := by decide +kernel
theorem dX12_passes_71 : decode cX12_passes 71 = .ok (.iconst 1, 1) := by decide +kernel
theorem dX12_passes_72 : decode cX12_passes 72 = .ok (.iadd, 1) := by decide +kernel
theorem dX12_passes_73 : decode cX12_passes 73 = .ok (.iastore, 1) := by decide +kernel
theorem dX12_passes_74 : decode cX12_passes 74 = .ok (.iload_n 2, 1) := by decide +kernel
theorem dX12_passes_75 : decode cX12_passes 75 = .ok (.ireturn, 1) := by decide +kernel
theorem dX12_takes_0 : decode cX12_takes 0 = .ok (.iconst 3, 1) := by decide +kernel
theorem dX12_takes_1 : decode cX12_takes 1 = .ok (.bipush 9, 2) := by decide +kernel
theorem dX12_takes_3 : decode cX12_takes 3 = .ok (.iload_n 1, 1) := by decide +kernel
theorem dX12_takes_4 : decode cX12_takes 4 = .ok (.imul, 1) := by decide +kernel
theorem dX12_takes_5 : decode cX12_takes 5 = .ok (.iload_n 2, 1) := by decide +kernel
theorem dX12_takes_6 : decode cX12_takes 6 = .ok (.iadd, 1) := by decide +kernel
theorem dX12_takes_7 : decode cX12_takes 7 = .ok (.imul, 1) := by decide +kernel
theorem dX12_takes_8 : decode cX12_takes 8 = .ok (.istore_n 3, 1) := by decide +kernel
theorem dX12_takes_9 : decode cX12_takes 9 = .ok (.iload_n 3, 1) := by decide +kernel
theorem dX12_takes_10 : decode cX12_takes 10 = .ok (.iconst 3, 1) := by decide +kernel
theorem dX12_takes_11 : decode cX12_takes 11 = .ok (.bipush 9, 2) := by decide +kernel
theorem dX12_takes_13 : decode cX12_takes 13 = .ok (.iload_n 1, 1) := by decide +kernel
theorem dX12_takes_14 : decode cX12_takes 14 = .ok (.imul, 1) := by decide +kernel
theorem dX12_takes_15 : decode cX12_takes 15 = .ok (.aload_n 0, 1) := by decide +kernel
theorem dX12_takes_16 : decode cX12_takes 16 = .ok (.getfield 165, 3) := by decide +kernel
theorem dX12_takes_19 : decode cX12_takes 19 = .ok (.iload_n 1, 1) := by decide +kernel
theorem dX12_takes_20 : decode cX12_takes 20 = .ok (.iaload, 1) := by decide +kernel
theorem dX12_takes_21 : decode cX12_takes 21 = .ok (.iadd, 1) := by decide +kernel
theorem dX12_takes_22 : decode cX12_takes 22 = .ok (.imul, 1) := by decide +kernel
theorem dX12_takes_23 : decode cX12_takes 23 = .ok (.iconst 3, 1) := by decide +kernel
theorem dX12_takes_24 : decode cX12_takes 24 = .ok (.isub, 1) := by decide +kernel
theorem dX12_takes_25 : decode cX12_takes 25 = .ok (.if_icmp .ge 23, 3) := by decide +kernel
theorem dX12_takes_28 : decode cX12_takes 28 = .ok (.aload_n 0, 1) := by decide +kernel
theorem dX12_takes_29 : decode cX12_takes 29 = .ok (.getfield 168, 3) := by decide +kernel
theorem dX12_takes_32 : decode cX12_takes 32 = .ok (.iload_n 3, 1) := by decide +kernel
theorem dX12_takes_33 : decode cX12_takes 33 = .ok (.aload_n 0, 1) := by decide +kernel
theorem dX12_takes_34 : decode cX12_takes 34 = .ok (.getfield 168, 3) := by decide +kernel
theorem dX12_takes_37 : decode cX12_takes 37 = .ok (.iload_n 3, 1) := by decide +kernel
theorem dX12_takes_38 : decode cX12_takes 38 = .ok (.iconst 3, 1) := by decide +kernel
theorem dX12_takes_39 : decode cX12_takes 39 = .ok (.iadd, 1) := by decide +kernel
theorem dX12_takes_40 : decode cX12_takes 40 = .ok (.iaload, 1) := by decide +kernel
theorem dX12_takes_41 : decode cX12_takes 41 = .ok (.iastore, 1) := by decide +kernel
theorem dX12_takes_42 : decode cX12_takes 42 = .ok (.iinc 3 1, 3) := by decide +kernel
theorem dX12_takes_45 : decode cX12_takes 45 = .ok (.goto (-36), 3) := by decide +kernel
theorem dX12_takes_48 : decode cX12_takes 48 = .ok (.aload_n 0, 1) := by decide +kernel
theorem dX12_takes_49 : decode cX12_takes 49 = .ok (.getfield 165, 3) := by decide +kernel
theorem dX12_takes_52 : decode cX12_takes 52 = .ok (.iload_n 1, 1) := by decide +kernel
theorem dX12_takes_53 : decode cX12_takes 53 = .ok (.dup2, 1) := by decide +kernel
theorem dX12_takes_54 : decode cX12_takes 54 = .ok (.iaload, 1) := by decide +kernel
theorem dX12_takes_55 : decode cX12_takes 55 = .ok (.iconst 1, 1) := by decide +kernel
theorem dX12_takes_56 : decode cX12_takes 56 = .ok (.isub, 1) := by decide +kernel
theorem dX12_takes_57 : decode cX12_takes 57 = .ok (.iastore, 1) := by decide +kernel
theorem dX12_takes_58 : decode cX12_takes 58 = .ok (.return_, 1) := by decide +kernel
theorem dX12_shows_0 : decode cX12_shows 0 = .ok (.iconst 3, 1) := by decide +kernel
theorem dX12_shows_1 : decode cX12_shows 1 = .ok (.bipush 9, 2) := by decide +kernel
theorem dX12_shows_3 : decode cX12_shows 3 = .ok (.iload_n 1, 1) := by decide +kernel
theorem dX12_shows_4 : decode cX12_shows 4 = .ok (.imul, 1) := by decide +kernel
theorem dX12_shows_5 : decode cX12_shows 5 = .ok (.aload_n 0, 1) := by decide +kernel
theorem dX12_shows_6 : decode cX12_shows 6 = .ok (.getfield 165, 3) := by decide +kernel
theorem dX12_shows_9 : decode cX12_shows 9 = .ok (.iload_n 1, 1) := by decide +kernel
theorem dX12_shows_10 : decode cX12_shows 10 = .ok (.iaload, 1) := by decide +kernel
theorem dX12_shows_11 : decode cX12_shows 11 = .ok (.iadd, 1) := by decide +kernel
theorem dX12_shows_12 : decode cX12_shows 12 = .ok (.imul, 1) := by decide +kernel
theorem dX12_shows_13 : decode cX12_shows 13 = .ok (.istore 5, 2) := by decide +kernel
theorem dX12_shows_15 : decode cX12_shows 15 = .ok (.aload_n 0, 1) := by decide +kernel
theorem dX12_shows_16 : decode cX12_shows 16 = .ok (.getfield 168, 3) := by decide +kernel
theorem dX12_shows_19 : decode cX12_shows 19 = .ok (.iload 5, 2) := by decide +kernel
theorem dX12_shows_21 : decode cX12_shows 21 = .ok (.iload_n 2, 1) := by decide +kernel
theorem dX12_shows_22 : decode cX12_shows 22 = .ok (.iastore, 1) := by decide +kernel
theorem dX12_shows_23 : decode cX12_shows 23 = .ok (.aload_n 0, 1) := by decide +kernel
theorem dX12_shows_24 : decode cX12_shows 24 = .ok (.getfield 168, 3) := by decide +kernel
theorem dX12_shows_27 : decode cX12_shows 27 = .ok (.iload 5, 2) := by decide +kernel
theorem dX12_shows_29 : decode cX12_shows 29 = .ok (.iconst 1, 1) := by decide +kernel
theorem dX12_shows_30 : decode cX12_shows 30 = .ok (.iadd, 1) := by decide +kernel
theorem dX12_shows_31 : decode cX12_shows 31 = .ok (.iload_n 3, 1) := by decide +kernel
theorem dX12_shows_32 : decode cX12_shows 32 = .ok (.iastore, 1) := by decide +kernel
theorem dX12_shows_33 : decode cX12_shows 33 = .ok (.aload_n 0, 1) := by decide +kernel
theorem dX12_shows_34 : decode cX12_shows 34 = .ok (.getfield 168, 3) := by decide +kernel
theorem dX12_shows_37 : decode cX12_shows 37 = .ok (.iload 5, 2) := by decide +kernel
theorem dX12_shows_39 : decode cX12_shows 39 = .ok (.iconst 2, 1) := by decide +kernel
theorem dX12_shows_40 : decode cX12_shows 40 = .ok (.iadd, 1) := by decide +kernel
theorem dX12_shows_41 : decode cX12_shows 41 = .ok (.iload 4, 2) := by decide +kernel
theorem dX12_shows_43 : decode cX12_shows 43 = .ok (.iastore, 1) := by decide +kernel
theorem dX12_shows_44 : decode cX12_shows 44 = .ok (.aload_n 0, 1) := by decide +kernel
theorem dX12_shows_45 : decode cX12_shows 45 = .ok (.getfield 165, 3) := by decide +kernel
theorem dX12_shows_48 : decode cX12_shows 48 = .ok (.iload_n 1, 1) := by decide +kernel
theorem dX12_shows_49 : decode cX12_shows 49 = .ok (.dup2, 1) := by decide +kernel
theorem dX12_shows_50 : decode cX12_shows 50 = .ok (.iaload, 1) := by decide +kernel
theorem dX12_shows_51 : decode cX12_shows 51 = .ok (.iconst 1, 1) := by decide +kernel
theorem dX12_shows_52 : decode cX12_shows 52 = .ok (.iadd, 1) := by decide +kernel
theorem dX12_shows_53 : decode cX12_shows 53 = .ok (.iastore, 1) := by decide +kernel
theorem dX12_shows_54 : decode cX12_shows 54 = .ok (.return_, 1) := by decide +kernel
theorem dX12_frameAt_0 : decode cX12_frameAt 0 = .ok (.iconst 0, 1) := by decide +kernel
theorem dX12_frameAt_1 : decode cX12_frameAt 1 = .ok (.istore 4, 2) := by decide +kernel
theorem dX12_frameAt_3 : decode cX12_frameAt 3 = .ok (.iload 4, 2) := by decide +kernel
theorem dX12_frameAt_5 : decode cX12_frameAt 5 = .ok (.aload_n 0, 1) := by decide +kernel
theorem dX12_frameAt_6 : decode cX12_frameAt 6 = .ok (.getfield 165, 3) := by decide +kernel
theorem dX12_frameAt_9 : decode cX12_frameAt 9 = .ok (.iload_n 1, 1) := by decide +kernel
theorem dX12_frameAt_10 : decode cX12_frameAt 10 = .ok (.iaload, 1) := by decide +kernel
theorem dX12_frameAt_11 : decode cX12_frameAt 11 = .ok (.if_icmp .ge 50, 3) := by decide +kernel
theorem dX12_frameAt_14 : decode cX12_frameAt 14 = .ok (.aload_n 0, 1) := by decide +kernel
theorem dX12_frameAt_15 : decode cX12_frameAt 15 = .ok (.getfield 168, 3) := by decide +kernel
theorem dX12_frameAt_18 : decode cX12_frameAt 18 = .ok (.iconst 3, 1) := by decide +kernel
theorem dX12_frameAt_19 : decode cX12_frameAt 19 = .ok (.bipush 9, 2) := by decide +kernel
theorem dX12_frameAt_21 : decode cX12_frameAt 21 = .ok (.iload_n 1, 1) := by decide +kernel
theorem dX12_frameAt_22 : decode cX12_frameAt 22 = .ok (.imul, 1) := by decide +kernel
theorem dX12_frameAt_23 : decode cX12_frameAt 23 = .ok (.iload 4, 2) := by decide +kernel
theorem dX12_frameAt_25 : decode cX12_frameAt 25 = .ok (.iadd, 1) := by decide +kernel
theorem dX12_frameAt_26 : decode cX12_frameAt 26 = .ok (.imul, 1) := by decide +kernel
theorem dX12_frameAt_27 : decode cX12_frameAt 27 = .ok (.iaload, 1) := by decide +kernel
theorem dX12_frameAt_28 : decode cX12_frameAt 28 = .ok (.iload_n 2, 1) := by decide +kernel
theorem dX12_frameAt_29 : decode cX12_frameAt 29 = .ok (.if_icmp .ne 26, 3) := by decide +kernel
theorem dX12_frameAt_32 : decode cX12_frameAt 32 = .ok (.aload_n 0, 1) := by decide +kernel
theorem dX12_frameAt_33 : decode cX12_frameAt 33 = .ok (.getfield 168, 3) := by decide +kernel
theorem dX12_frameAt_36 : decode cX12_frameAt 36 = .ok (.iconst 3, 1) := by decide +kernel
theorem dX12_frameAt_37 : decode cX12_frameAt 37 = .ok (.bipush 9, 2) := by decide +kernel
theorem dX12_frameAt_39 : decode cX12_frameAt 39 = .ok (.iload_n 1, 1) := by decide +kernel
theorem dX12_frameAt_40 : decode cX12_frameAt 40 = .ok (.imul, 1) := by decide +kernel
theorem dX12_frameAt_41 : decode cX12_frameAt 41 = .ok (.iload 4, 2) := by decide +kernel
theorem dX12_frameAt_43 : decode cX12_frameAt 43 = .ok (.iadd, 1) := by decide +kernel
theorem dX12_frameAt_44 : decode cX12_frameAt 44 = .ok (.imul, 1) := by decide +kernel
theorem dX12_frameAt_45 : decode cX12_frameAt 45 = .ok (.iconst 1, 1) := by decide +kernel
theorem dX12_frameAt_46 : decode cX12_frameAt 46 = .ok (.iadd, 1) := by decide +kernel
theorem dX12_frameAt_47 : decode cX12_frameAt 47 = .ok (.iaload, 1) := by decide +kernel
theorem dX12_frameAt_48 : decode cX12_frameAt 48 = .ok (.iload_n 3, 1) := by decide +kernel
theorem dX12_frameAt_49 : decode cX12_frameAt 49 = .ok (.if_icmp .ne 6, 3) := by decide +kernel
theorem dX12_frameAt_52 : decode cX12_frameAt 52 = .ok (.iload 4, 2) := by decide +kernel
theorem dX12_frameAt_54 : decode cX12_frameAt 54 = .ok (.ireturn, 1) := by decide +kernel
theorem dX12_frameAt_55 : decode cX12_frameAt 55 = .ok (.iinc 4 1, 3) := by decide +kernel
theorem dX12_frameAt_58 : decode cX12_frameAt 58 = .ok (.goto (-55), 3) := by decide +kernel
theorem dX12_frameAt_61 : decode cX12_frameAt 61 = .ok (.iconst (-1), 1) := by decide +kernel
theorem dX12_frameAt_62 : decode cX12_frameAt 62 = .ok (.ireturn, 1) := by decide +kernel
theorem dX12_isPlace_0 : decode cX12_isPlace 0 = .ok (.iload_n 1, 1) := by decide +kernel
theorem dX12_isPlace_1 : decode cX12_isPlace 1 = .ok (.ifCond .lt 20, 3) := by decide +kernel
theorem dX12_isPlace_4 : decode cX12_isPlace 4 = .ok (.iload_n 1, 1) := by decide +kernel
theorem dX12_isPlace_5 : decode cX12_isPlace 5 = .ok (.aload_n 0, 1) := by decide +kernel
theorem dX12_isPlace_6 : decode cX12_isPlace 6 = .ok (.getfield 54, 3) := by decide +kernel
theorem dX12_isPlace_9 : decode cX12_isPlace 9 = .ok (.aload_n 0, 1) := by decide +kernel
theorem dX12_isPlace_10 : decode cX12_isPlace 10 = .ok (.getfield 51, 3) := by decide +kernel
theorem dX12_isPlace_13 : decode cX12_isPlace 13 = .ok (.iaload, 1) := by decide +kernel
theorem dX12_isPlace_14 : decode cX12_isPlace 14 = .ok (.if_icmp .ge 7, 3) := by decide +kernel
theorem dX12_isPlace_17 : decode cX12_isPlace 17 = .ok (.iconst 1, 1) := by decide +kernel
theorem dX12_isPlace_18 : decode cX12_isPlace 18 = .ok (.goto 4, 3) := by decide +kernel
theorem dX12_isPlace_21 : decode cX12_isPlace 21 = .ok (.iconst 0, 1) := by decide +kernel
theorem dX12_isPlace_22 : decode cX12_isPlace 22 = .ok (.ireturn, 1) := by decide +kernel
theorem dX12_isPerson_0 : decode cX12_isPerson 0 = .ok (.iload_n 1, 1) := by decide +kernel
theorem dX12_isPerson_1 : decode cX12_isPerson 1 = .ok (.ifCond .lt 20, 3) := by decide +kernel
theorem dX12_isPerson_4 : decode cX12_isPerson 4 = .ok (.iload_n 1, 1) := by decide +kernel
theorem dX12_isPerson_5 : decode cX12_isPerson 5 = .ok (.aload_n 0, 1) := by decide +kernel
theorem dX12_isPerson_6 : decode cX12_isPerson 6 = .ok (.getfield 66, 3) := by decide +kernel
theorem dX12_isPerson_9 : decode cX12_isPerson 9 = .ok (.aload_n 0, 1) := by decide +kernel
theorem dX12_isPerson_10 : decode cX12_isPerson 10 = .ok (.getfield 51, 3) := by decide +kernel
theorem dX12_isPerson_13 : decode cX12_isPerson 13 = .ok (.iaload, 1) := by decide +kernel
theorem dX12_isPerson_14 : decode cX12_isPerson 14 = .ok (.if_icmp .ge 7, 3) := by decide +kernel
theorem dX12_isPerson_17 : decode cX12_isPerson 17 = .ok (.iconst 1, 1) := by decide +kernel
theorem dX12_isPerson_18 : decode cX12_isPerson 18 = .ok (.goto 4, 3) := by decide +kernel
theorem dX12_isPerson_21 : decode cX12_isPerson 21 = .ok (.iconst 0, 1) := by decide +kernel
theorem dX12_isPerson_22 : decode cX12_isPerson 22 = .ok (.ireturn, 1) := by decide +kernel
theorem dX12_bits_0 : decode cX12_bits 0 = .ok (.iconst 0, 1) := by decide +kernel
theorem dX12_bits_1 : decode cX12_bits 1 = .ok (.istore_n 1, 1) := by decide +kernel
theorem dX12_bits_2 : decode cX12_bits 2 = .ok (.iload_n 0, 1) := by decide +kernel
theorem dX12_bits_3 : decode cX12_bits 3 = .ok (.istore_n 2, 1) := by decide +kernel
theorem dX12_bits_4 : decode cX12_bits 4 = .ok (.iload_n 2, 1) := by decide +kernel
theorem dX12_bits_5 : decode cX12_bits 5 = .ok (.ifCond .eq 15, 3) := by decide +kernel
theorem dX12_bits_8 : decode cX12_bits 8 = .ok (.iinc 1 1, 3) := by decide +kernel
theorem dX12_bits_11 : decode cX12_bits 11 = .ok (.iload_n 2, 1) := by decide +kernel
theorem dX12_bits_12 : decode cX12_bits 12 = .ok (.iload_n 2, 1) := by decide +kernel
theorem dX12_bits_13 : decode cX12_bits 13 = .ok (.iconst 1, 1) := by decide +kernel
theorem dX12_bits_14 : decode cX12_bits 14 = .ok (.isub, 1) := by decide +kernel
theorem dX12_bits_15 : decode cX12_bits 15 = .ok (.iand, 1) := by decide +kernel
theorem dX12_bits_16 : decode cX12_bits 16 = .ok (.istore_n 2, 1) := by decide +kernel
theorem dX12_bits_17 : decode cX12_bits 17 = .ok (.goto (-13), 3) := by decide +kernel
theorem dX12_bits_20 : decode cX12_bits 20 = .ok (.iload_n 1, 1) := by decide +kernel
theorem dX12_bits_21 : decode cX12_bits 21 = .ok (.ireturn, 1) := by decide +kernel
theorem dX12_has_0 : decode cX12_has 0 = .ok (.iload_n 1, 1) := by decide +kernel
theorem dX12_has_1 : decode cX12_has 1 = .ok (.tableswitch 147 0 10 #[59, 69, 79, 89, 96, 103, 113, 124, 131, 136, 141], 59) := by decide +kernel
theorem dX12_has_60 : decode cX12_has 60 = .ok (.aload_n 0, 1) := by decide +kernel
theorem dX12_has_61 : decode cX12_has 61 = .ok (.getfield 54, 3) := by decide +kernel
theorem dX12_has_64 : decode cX12_has 64 = .ok (.aload_n 0, 1) := by decide +kernel
theorem dX12_has_65 : decode cX12_has 65 = .ok (.getfield 51, 3) := by decide +kernel
theorem dX12_has_68 : decode cX12_has 68 = .ok (.iaload, 1) := by decide +kernel
theorem dX12_has_69 : decode cX12_has 69 = .ok (.ireturn, 1) := by decide +kernel
theorem dX12_has_70 : decode cX12_has 70 = .ok (.aload_n 0, 1) := by decide +kernel
theorem dX12_has_71 : decode cX12_has 71 = .ok (.getfield 57, 3) := by decide +kernel
theorem dX12_has_74 : decode cX12_has 74 = .ok (.aload_n 0, 1) := by decide +kernel
theorem dX12_has_75 : decode cX12_has 75 = .ok (.getfield 51, 3) := by decide +kernel
theorem dX12_has_78 : decode cX12_has 78 = .ok (.iaload, 1) := by decide +kernel
theorem dX12_has_79 : decode cX12_has 79 = .ok (.ireturn, 1) := by decide +kernel
theorem dX12_has_80 : decode cX12_has 80 = .ok (.aload_n 0, 1) := by decide +kernel
theorem dX12_has_81 : decode cX12_has 81 = .ok (.getfield 66, 3) := by decide +kernel
theorem dX12_has_84 : decode cX12_has 84 = .ok (.aload_n 0, 1) := by decide +kernel
theorem dX12_has_85 : decode cX12_has 85 = .ok (.getfield 51, 3) := by decide +kernel
theorem dX12_has_88 : decode cX12_has 88 = .ok (.iaload, 1) := by decide +kernel
theorem dX12_has_89 : decode cX12_has 89 = .ok (.ireturn, 1) := by decide +kernel
theorem dX12_has_90 : decode cX12_has 90 = .ok (.aload_n 0, 1) := by decide +kernel
theorem dX12_has_91 : decode cX12_has 91 = .ok (.getfield 156, 3) := by decide +kernel
theorem dX12_has_94 : decode cX12_has 94 = .ok (.iconst 0, 1) := by decide +kernel
theorem dX12_has_95 : decode cX12_has 95 = .ok (.iaload, 1) := by decide +kernel
theorem dX12_has_96 : decode cX12_has 96 = .ok (.ireturn, 1) := by decide +kernel
theorem dX12_has_97 : decode cX12_has 97 = .ok (.aload_n 0, 1) := by decide +kernel
theorem dX12_has_98 : decode cX12_has 98 = .ok (.getfield 165, 3) := by decide +kernel
theorem dX12_has_101 : decode cX12_has 101 = .ok (.iconst 0, 1) := by decide +kernel
theorem dX12_has_102 : decode cX12_has 102 = .ok (.iaload, 1) := by decide +kernel
theorem dX12_has_103 : decode cX12_has 103 = .ok (.ireturn, 1) := by decide +kernel
theorem dX12_has_104 : decode cX12_has 104 = .ok (.aload_n 0, 1) := by decide +kernel
theorem dX12_has_105 : decode cX12_has 105 = .ok (.getfield 162, 3) := by decide +kernel
theorem dX12_has_108 : decode cX12_has 108 = .ok (.iconst 0, 1) := by decide +kernel
theorem dX12_has_109 : decode cX12_has 109 = .ok (.iaload, 1) := by decide +kernel
theorem dX12_has_110 : decode cX12_has 110 = .ok (.invokestatic 465, 3) := by decide +kernel
theorem dX12_has_113 : decode cX12_has 113 = .ok (.ireturn, 1) := by decide +kernel
theorem dX12_has_114 : decode cX12_has 114 = .ok (.aload_n 0, 1) := by decide +kernel
theorem dX12_has_115 : decode cX12_has 115 = .ok (.iconst 0, 1) := by decide +kernel
theorem dX12_has_116 : decode cX12_has 116 = .ok (.invokevirtual 453, 3) := by decide +kernel
theorem dX12_has_119 : decode cX12_has 119 = .ok (.aload_n 0, 1) := by decide +kernel
theorem dX12_has_120 : decode cX12_has 120 = .ok (.iconst 0, 1) := by decide +kernel
theorem dX12_has_121 : decode cX12_has 121 = .ok (.invokevirtual 456, 3) := by decide +kernel
theorem dX12_has_124 : decode cX12_has 124 = .ok (.ireturn, 1) := by decide +kernel
theorem dX12_has_125 : decode cX12_has 125 = .ok (.aload_n 0, 1) := by decide +kernel
theorem dX12_has_126 : decode cX12_has 126 = .ok (.getfield 171, 3) := by decide +kernel
theorem dX12_has_129 : decode cX12_has 129 = .ok (.iconst 0, 1) := by decide +kernel
theorem dX12_has_130 : decode cX12_has 130 = .ok (.iaload, 1) := by decide +kernel
theorem dX12_has_131 : decode cX12_has 131 = .ok (.ireturn, 1) := by decide +kernel
theorem dX12_has_132 : decode cX12_has 132 = .ok (.aload_n 0, 1) := by decide +kernel
theorem dX12_has_133 : decode cX12_has 133 = .ok (.getfield 195, 3) := by decide +kernel
theorem dX12_has_136 : decode cX12_has 136 = .ok (.ireturn, 1) := by decide +kernel
theorem dX12_has_137 : decode cX12_has 137 = .ok (.aload_n 0, 1) := by decide +kernel
theorem dX12_has_138 : decode cX12_has 138 = .ok (.getfield 180, 3) := by decide +kernel
theorem dX12_has_141 : decode cX12_has 141 = .ok (.ireturn, 1) := by decide +kernel
theorem dX12_has_142 : decode cX12_has 142 = .ok (.aload_n 0, 1) := by decide +kernel
theorem dX12_has_143 : decode cX12_has 143 = .ok (.getfield 183, 3) := by decide +kernel
theorem dX12_has_146 : decode cX12_has 146 = .ok (.l2i, 1) := by decide +kernel
theorem dX12_has_147 : decode cX12_has 147 = .ok (.ireturn, 1) := by decide +kernel
theorem dX12_has_148 : decode cX12_has 148 = .ok (.iconst (-1), 1) := by decide +kernel
theorem dX12_has_149 : decode cX12_has 149 = .ok (.ireturn, 1) := by decide +kernel
set_option maxRecDepth 20000 in
theorem w_X12_isTold_J22 {Y : YT} {X : CX} (C : Cx Y X cX12_isTold 2 RX12 1) {Q : Int → Mem → Prop} (hR : Rt Y X (some .boolean) (PQi Y Q)) {s0 : Int}  {M : Mem}  (h : m_X12_isTold_J22  Q s0 M) : G Y X 2 22 [] ((vI s0) :: []) M := by
  unfold m_X12_isTold_J22 at h
  obtain ⟨g1, h⟩ := h
  exact g_retz C hR dX12_isTold_22 g1 h
set_option maxRecDepth 20000 in
theorem t_X12_isTold {l : Launch} {Y : YT} (hY : YOK Y) {a0 : Int} {M : Mem} {Q : Int → Mem → Prop} (h : m_X12_isTold a0 M Q) : Ctr l Y yX12_isTold cX12_isTold 2 (some .boolean) 1 [vR Y 199, vI a0] M (PQi Y Q) := by
  unfold m_X12_isTold at h
  refine ctr_ofF hY (by decide +kernel) (Nat.le_of_ble_eq_true rfl) [(0, vR Y 199), (1, vI a0)] rfl (fun X hX C hR => ?_)
  refine g_aload_n (q := 0) C dX12_isTold_0 rfl rfl ?_
  refine g_getS (v := 214) C fX12_93 dX12_isTold_1 kd_199 rfl ?_
  refine g_iconst C dX12_isTold_4 rfl ?_
  refine g_aload_n (q := 0) C dX12_isTold_5 rfl rfl ?_
  refine g_getI C fX12_51 (by decide) dX12_isTold_6 kd_199 ?_
  refine g_imul C dX12_isTold_9 ?_
  refine g_iload_n (q := 1) C dX12_isTold_10 rfl rfl ?_
  refine g_iadd C dX12_isTold_11 ?_
  obtain ⟨g2, h⟩ := h
  refine g_iald C dX12_isTold_12 kd_214 ln_214 g2 ?_
  refine g_iconst C dX12_isTold_13 rfl ?_
  obtain ⟨g3, h⟩ := h
  obtain ⟨ht, hf⟩ := h
  refine g_icmp_eq (tgt := 21) C dX12_isTold_14 (by decide) g3 (by decide) (fun c => ?_) (fun c => ?_)
  · have h := ht c
    refine g_iconst C dX12_isTold_21 rfl ?_
    refine G.sub [] rfl ?_
    exact w_X12_isTold_J22 C hR  h
  · have h := hf c
    refine g_iconst C dX12_isTold_17 rfl ?_
    refine g_goto (tgt := 22) C dX12_isTold_18 (by decide) ?_
    refine G.sub [] rfl ?_
    exact w_X12_isTold_J22 C hR  h
set_option maxRecDepth 20000 in
theorem w_X12_manyAt_J41 {Y : YT} {X : CX} (C : Cx Y X cX12_manyAt 5 RX12 1) {Q : Int → Mem → Prop} (hR : Rt Y X (some .int) (PQi Y Q)) {v1 : Int} {v2 : Int} {v4 : Int} {s0 : Int} {s1 : Int} {k5 : Int → Int → Mem → Prop} (hk5 : ∀ (v3 : Int) (v4 : Int)  (M : Mem), k5 v3 v4 M → G Y X 5 5 [(0, vR Y 199), (1, vI v1), (2, vI v2), (3, vI v3), (4, vI v4)] ([]) M) {M : Mem}  (h : m_X12_manyAt_J41 k5 Q v1 v2 v4 s0 s1 M) : G Y X 5 41 [(0, vR Y 199), (1, vI v1), (2, vI v2), (4, vI v4)] ((vI s1) :: (vI s0) :: []) M := by
  unfold m_X12_manyAt_J41 at h
  refine g_iadd C dX12_manyAt_41 ?_
  refine g_istore_n (lv' := [(3, vI (s0 + s1)), (0, vR Y 199), (1, vI v1), (2, vI v2), (4, vI v4)]) C dX12_manyAt_42 rfl (by decide) rfl ?_
  refine g_iinc (q := 4) (v := v4 + 1) (lv' := [(4, vI (v4 + 1)), (3, vI (s0 + s1)), (0, vR Y 199), (1, vI v1), (2, vI v2)]) C dX12_manyAt_43 rfl rfl (by decide) rfl ?_
  refine g_goto (tgt := 5) C dX12_manyAt_46 (by decide) ?_
  refine G.sub [2, 3, 4, 1, 0] rfl ?_
  exact hk5 _ _ _ h
set_option maxRecDepth 20000 in
theorem w_X12_manyAt_L5 {Y : YT} {X : CX} (C : Cx Y X cX12_manyAt 5 RX12 1) {Q : Int → Mem → Prop} (hR : Rt Y X (some .int) (PQi Y Q)) {v1 : Int} {v2 : Int}  : ∀ (f : Nat) (v3 : Int) (v4 : Int) (M : Mem), m_X12_manyAt_L5  Q v1 v2 f v3 v4 M → G Y X 5 5 [(0, vR Y 199), (1, vI v1), (2, vI v2), (3, vI v3), (4, vI v4)] ([]) M := by
  intro f
  induction f with
  | zero =>
    intro v3 v4 M h
    exact (show False from h).elim
  | succ f ih =>
    intro v3 v4 M h
    unfold m_X12_manyAt_L5 at h
    refine g_iload (q := 4) C dX12_manyAt_5 rfl ?_
    refine g_aload_n (q := 0) C dX12_manyAt_7 rfl rfl ?_
    refine g_getS (v := 205) C fX12_66 dX12_manyAt_8 kd_199 rfl ?_
    refine g_aload_n (q := 0) C dX12_manyAt_11 rfl rfl ?_
    refine g_getI C fX12_51 (by decide) dX12_manyAt_12 kd_199 ?_
    obtain ⟨g1, h⟩ := h
    refine g_iald C dX12_manyAt_15 kd_205 ln_205 g1 ?_
    obtain ⟨g2, h⟩ := h
    obtain ⟨g3, h⟩ := h
    obtain ⟨ht, hf⟩ := h
    refine g_icmp_ge (tgt := 49) C dX12_manyAt_16 (by decide) g2 g3 (fun c => ?_) (fun c => ?_)
    · have h := ht c
      refine g_iload_n (q := 3) C dX12_manyAt_49 rfl rfl ?_
      exact g_reti C hR dX12_manyAt_50 h
    · have h := hf c
      refine g_iload_n (q := 3) C dX12_manyAt_19 rfl rfl ?_
      refine g_aload_n (q := 0) C dX12_manyAt_20 rfl rfl ?_
      refine g_getS (v := 236) C fX12_192 dX12_manyAt_21 kd_199 rfl ?_
      refine g_bipush (v := 6) C dX12_manyAt_24 (by decide +kernel) ?_
      refine g_iload_n (q := 1) C dX12_manyAt_26 rfl rfl ?_
      refine g_imul C dX12_manyAt_27 ?_
      refine g_iload (q := 4) C dX12_manyAt_28 rfl ?_
      refine g_iadd C dX12_manyAt_30 ?_
      obtain ⟨g4, h⟩ := h
      refine g_iald C dX12_manyAt_31 kd_236 ln_236 g4 ?_
      refine g_iload_n (q := 2) C dX12_manyAt_32 rfl rfl ?_
      obtain ⟨g5, h⟩ := h
      obtain ⟨g6, h⟩ := h
      obtain ⟨ht, hf⟩ := h
      refine g_icmp_ne (tgt := 40) C dX12_manyAt_33 (by decide) g5 g6 (fun c => ?_) (fun c => ?_)
      · have h := hf c
        refine g_iconst C dX12_manyAt_40 rfl ?_
        refine G.sub [0, 1, 2, 4] rfl ?_
        exact w_X12_manyAt_J41 C hR (ih)  h
      · have h := ht c
        refine g_iconst C dX12_manyAt_36 rfl ?_
        refine g_goto (tgt := 41) C dX12_manyAt_37 (by decide) ?_
        refine G.sub [0, 1, 2, 4] rfl ?_
        exact w_X12_manyAt_J41 C hR (ih)  h
set_option maxRecDepth 20000 in
theorem t_X12_manyAt {l : Launch} {Y : YT} (hY : YOK Y) {a0 : Int} {a1 : Int} {M : Mem} {Q : Int → Mem → Prop} (h : m_X12_manyAt a0 a1 M Q) : Ctr l Y yX12_manyAt cX12_manyAt 5 (some .int) 1 [vR Y 199, vI a0, vI a1] M (PQi Y Q) := by
  unfold m_X12_manyAt at h
  refine ctr_ofF hY (by decide +kernel) (Nat.le_of_ble_eq_true rfl) [(0, vR Y 199), (1, vI a0), (2, vI a1)] rfl (fun X hX C hR => ?_)
  refine g_iconst C dX12_manyAt_0 rfl ?_
  refine g_istore_n (lv' := [(3, vI 0), (0, vR Y 199), (1, vI a0), (2, vI a1)]) C dX12_manyAt_1 rfl (by decide) rfl ?_
  refine g_iconst C dX12_manyAt_2 rfl ?_
  refine g_istore (lv' := [(4, vI 0), (3, vI 0), (0, vR Y 199), (1, vI a0), (2, vI a1)]) C dX12_manyAt_3 (by decide) rfl ?_
  obtain ⟨f0, h⟩ := h
  refine G.sub [2, 3, 4, 1, 0] rfl ?_
  exact w_X12_manyAt_L5 C hR  f0 _ _ _ h
set_option maxRecDepth 20000 in
theorem w_X12_shownAt_J59 {Y : YT} {X : CX} (C : Cx Y X cX12_shownAt 6 RX12 1) {Q : Int → Mem → Prop} (hR : Rt Y X (some .int) (PQi Y Q)) {v1 : Int} {v2 : Int} {v3 : Int} {v4 : Int} {k3 : Int → Mem → Prop} (hk3 : ∀ (v4 : Int)  (M : Mem), k3 v4 M → G Y X 6 3 [(0, vR Y 199), (1, vI v1), (2, vI v2), (3, vI v3), (4, vI v4)] ([]) M) {M : Mem}  (h : m_X12_shownAt_J59 k3 Q v1 v2 v3 v4 M) : G Y X 6 59 [(0, vR Y 199), (1, vI v1), (2, vI v2), (3, vI v3), (4, vI v4)] ([]) M := by
  unfold m_X12_shownAt_J59 at h
  refine g_iinc (q := 4) (v := v4 + 1) (lv' := [(4, vI (v4 + 1)), (0, vR Y 199), (1, vI v1), (2, vI v2), (3, vI v3)]) C dX12_shownAt_59 rfl rfl (by decide) rfl ?_
  refine g_goto (tgt := 3) C dX12_shownAt_62 (by decide) ?_
  refine G.sub [1, 2, 3, 4, 0] rfl ?_
  exact hk3 _ _ h
set_option maxRecDepth 20000 in
theorem w_X12_shownAt_L3 {Y : YT} {X : CX} (C : Cx Y X cX12_shownAt 6 RX12 1) {Q : Int → Mem → Prop} (hR : Rt Y X (some .int) (PQi Y Q)) {v1 : Int} {v2 : Int} {v3 : Int}  : ∀ (f : Nat) (v4 : Int) (M : Mem), m_X12_shownAt_L3  Q v1 v2 v3 f v4 M → G Y X 6 3 [(0, vR Y 199), (1, vI v1), (2, vI v2), (3, vI v3), (4, vI v4)] ([]) M := by
  intro f
  induction f with
  | zero =>
    intro v4 M h
    exact (show False from h).elim
  | succ f ih =>
    intro v4 M h
    unfold m_X12_shownAt_L3 at h
    refine g_iload (q := 4) C dX12_shownAt_3 rfl ?_
    refine g_aload_n (q := 0) C dX12_shownAt_5 rfl rfl ?_
    refine g_getS (v := 230) C fX12_165 dX12_shownAt_6 kd_199 rfl ?_
    refine g_iload_n (q := 1) C dX12_shownAt_9 rfl rfl ?_
    obtain ⟨g1, h⟩ := h
    refine g_iald C dX12_shownAt_10 kd_230 ln_230 g1 ?_
    obtain ⟨g2, h⟩ := h
    obtain ⟨g3, h⟩ := h
    obtain ⟨ht, hf⟩ := h
    refine g_icmp_ge (tgt := 65) C dX12_shownAt_11 (by decide) g2 g3 (fun c => ?_) (fun c => ?_)
    · have h := ht c
      refine g_bipush (v := 9) C dX12_shownAt_65 (by decide +kernel) ?_
      exact g_reti C hR dX12_shownAt_67 h
    · have h := hf c
      refine g_iconst C dX12_shownAt_14 rfl ?_
      refine g_bipush (v := 9) C dX12_shownAt_15 (by decide +kernel) ?_
      refine g_iload_n (q := 1) C dX12_shownAt_17 rfl rfl ?_
      refine g_imul C dX12_shownAt_18 ?_
      refine g_iload (q := 4) C dX12_shownAt_19 rfl ?_
      refine g_iadd C dX12_shownAt_21 ?_
      refine g_imul C dX12_shownAt_22 ?_
      refine g_istore (lv' := [(5, vI (3 * ((9 * v1) + v4))), (0, vR Y 199), (1, vI v1), (2, vI v2), (3, vI v3), (4, vI v4)]) C dX12_shownAt_23 (by decide) rfl ?_
      refine g_aload_n (q := 1) C dX12_shownAt_25 rfl rfl ?_
      refine g_getS (v := 231) C fX12_168 dX12_shownAt_26 kd_199 rfl ?_
      refine g_iload (q := 0) C dX12_shownAt_29 rfl ?_
      obtain ⟨g4, h⟩ := h
      refine g_iald C dX12_shownAt_31 kd_231 ln_231 g4 ?_
      refine g_iload_n (q := 3) C dX12_shownAt_32 rfl rfl ?_
      obtain ⟨g5, h⟩ := h
      obtain ⟨g6, h⟩ := h
      obtain ⟨ht, hf⟩ := h
      refine g_icmp_ne (tgt := 59) C dX12_shownAt_33 (by decide) g5 g6 (fun c => ?_) (fun c => ?_)
      · have h := hf c
        refine G.sub [1, 2, 3, 4, 5] rfl ?_
        exact w_X12_shownAt_J59 C hR (ih)  h
      · have h := ht c
        refine g_aload_n (q := 1) C dX12_shownAt_36 rfl rfl ?_
        refine g_getS (v := 231) C fX12_168 dX12_shownAt_37 kd_199 rfl ?_
        refine g_iload (q := 0) C dX12_shownAt_40 rfl ?_
        refine g_iconst C dX12_shownAt_42 rfl ?_
        refine g_iadd C dX12_shownAt_43 ?_
        obtain ⟨g7, h⟩ := h
        refine g_iald C dX12_shownAt_44 kd_231 ln_231 g7 ?_
        refine g_iload_n (q := 4) C dX12_shownAt_45 rfl rfl ?_
        obtain ⟨g8, h⟩ := h
        obtain ⟨g9, h⟩ := h
        obtain ⟨ht, hf⟩ := h
        refine g_icmp_ne (tgt := 59) C dX12_shownAt_46 (by decide) g8 g9 (fun c => ?_) (fun c => ?_)
        · have h := hf c
          refine G.sub [1, 2, 3, 4, 5] rfl ?_
          exact w_X12_shownAt_J59 C hR (ih)  h
        · have h := ht c
          refine g_aload_n (q := 1) C dX12_shownAt_49 rfl rfl ?_
          refine g_getS (v := 231) C fX12_168 dX12_shownAt_50 kd_199 rfl ?_
          refine g_iload (q := 0) C dX12_shownAt_53 rfl ?_
          refine g_iconst C dX12_shownAt_55 rfl ?_
          refine g_iadd C dX12_shownAt_56 ?_
          obtain ⟨g10, h⟩ := h
          refine g_iald C dX12_shownAt_57 kd_231 ln_231 g10 ?_
          exact g_reti C hR dX12_shownAt_58 h
set_option maxRecDepth 20000 in
theorem t_X12_shownAt {l : Launch} {Y : YT} (hY : YOK Y) {a0 : Int} {a1 : Int} {a2 : Int} {M : Mem} {Q : Int → Mem → Prop} (h : m_X12_shownAt a0 a1 a2 M Q) : Ctr l Y yX12_shownAt cX12_shownAt 6 (some .int) 1 [vR Y 199, vI a0, vI a1, vI a2] M (PQi Y Q) := by
  unfold m_X12_shownAt at h
  refine ctr_ofF hY (by decide +kernel) (Nat.le_of_ble_eq_true rfl) [(0, vR Y 199), (1, vI a0), (2, vI a1), (3, vI a2)] rfl (fun X hX C hR => ?_)
  refine g_iconst C dX12_shownAt_0 rfl ?_
  refine g_istore (lv' := [(4, vI 0), (0, vR Y 199), (1, vI a0), (2, vI a1), (3, vI a2)]) C dX12_shownAt_1 (by decide) rfl ?_
  obtain ⟨f0, h⟩ := h
  refine G.sub [1, 2, 3, 4, 0] rfl ?_
  exact w_X12_shownAt_L3 C hR  f0 _ _ h
set_option maxRecDepth 20000 in
theorem w_X12_tells_J161 {Y : YT} {X : CX} (C : Cx Y X cX12_tells 7 RX12 2) {Q : Mem → Prop} (hR : Rt Y X none (PQv Y Q)) {s0 : Int} {s1 : Int} {s2 : Int}  {M : Mem} (hk_s0 : kd s0 = 20) (h : m_X12_tells_J161  Q s0 s1 s2 M) : G Y X 7 161 [] ((vI s2) :: (vI s1) :: (vR Y s0) :: []) M := by
  unfold m_X12_tells_J161 at h
  obtain ⟨g1, h⟩ := h
  obtain ⟨M2, e_M2⟩ : ∃ z : Mem, z = up M s0 s1 s2 := ⟨_, rfl⟩
  have h := h M2 e_M2
  refine g_iast C dX12_tells_161 hk_s0 rfl g1 e_M2 ?_
  exact g_retv C hR dX12_tells_162 h
set_option maxRecDepth 20000 in
theorem w_X12_tells_J123 {Y : YT} {X : CX} (C : Cx Y X cX12_tells 7 RX12 2) {Q : Mem → Prop} (hR : Rt Y X none (PQv Y Q)) {v3 : Int} {v4 : Int} {v6 : Int} {s0 : Int} {s1 : Int} {s2 : Int}  {M : Mem} (hk_s0 : kd s0 = 20) (h : m_X12_tells_J123  Q v3 v4 v6 s0 s1 s2 M) : G Y X 7 123 [(0, vR Y 199), (3, vI v3), (4, vI v4), (6, vI v6)] ((vI s2) :: (vI s1) :: (vR Y s0) :: []) M := by
  unfold m_X12_tells_J123 at h
  obtain ⟨g3, h⟩ := h
  obtain ⟨M4, e_M4⟩ : ∃ z : Mem, z = up M s0 s1 s2 := ⟨_, rfl⟩
  have h := h M4 e_M4
  refine g_iast C dX12_tells_123 hk_s0 rfl g3 e_M4 ?_
  refine g_aload_n (q := 0) C dX12_tells_124 rfl rfl ?_
  refine g_getS (v := 235) C fX12_189 dX12_tells_125 kd_199 rfl ?_
  refine g_bipush (v := 6) C dX12_tells_128 (by decide +kernel) ?_
  refine g_aload_n (q := 0) C dX12_tells_130 rfl rfl ?_
  refine g_iload_n (q := 1) C dX12_tells_131 rfl rfl ?_
  refine g_iconst C dX12_tells_132 rfl ?_
  refine g_isub C dX12_tells_133 ?_
  refine g_iload (q := 2) C dX12_tells_134 rfl ?_
  refine g_cVi (As := [vI (v3 - 1), vI v4]) C clX12_430 clvX12_manyAt dX12_tells_136 kd_199 rfl (Nat.le_of_ble_eq_true rfl) rfl (by decide) (t_X12_manyAt (Cx.ok C) h) (fun r6 M5 h => ?_)
  obtain ⟨M7, e_M7⟩ : ∃ z : Mem, z = up M5 235 6 r6 := ⟨_, rfl⟩
  have h := h M7 e_M7
  refine g_iast C dX12_tells_139 kd_235 ln_235 (by decide) e_M7 ?_
  refine g_aload_n (q := 0) C dX12_tells_140 rfl rfl ?_
  refine g_getS (v := 235) C fX12_189 dX12_tells_141 kd_199 rfl ?_
  refine g_bipush (v := 7) C dX12_tells_144 (by decide +kernel) ?_
  refine g_iload (q := 3) C dX12_tells_146 rfl ?_
  refine g_ldcw (v := 100000000) C dX12_tells_148 kX12_395 (by decide +kernel) ?_
  obtain ⟨g8, h⟩ := h
  obtain ⟨ht, hf⟩ := h
  refine g_icmp_lt (tgt := 159) C dX12_tells_151 (by decide) g8 (by decide) (fun c => ?_) (fun c => ?_)
  · have h := ht c
    refine g_iload (q := 3) C dX12_tells_159 rfl ?_
    refine G.sub [] rfl ?_
    exact w_X12_tells_J161 C hR kd_235 h
  · have h := hf c
    refine g_bipush (v := 9) C dX12_tells_154 (by decide +kernel) ?_
    refine g_goto (tgt := 161) C dX12_tells_156 (by decide) ?_
    refine G.sub [] rfl ?_
    exact w_X12_tells_J161 C hR kd_235 h
set_option maxRecDepth 20000 in
theorem t_X12_tells {l : Launch} {Y : YT} (hY : YOK Y) {a0 : Int} {a1 : Int} {a2 : Int} {a3 : Int} {M : Mem} {Q : Mem → Prop} (h : m_X12_tells a0 a1 a2 a3 M Q) : Ctr l Y yX12_tells cX12_tells 7 none 2 [vR Y 199, vI a0, vI a1, vI a2, vI a3] M (PQv Y Q) := by
  unfold m_X12_tells at h
  refine ctr_ofF hY (by decide +kernel) (Nat.le_of_ble_eq_true rfl) [(0, vR Y 199), (1, vI a0), (2, vI a1), (3, vI a2), (4, vI a3)] rfl (fun X hX C hR => ?_)
  refine g_aload_n (q := 0) C dX12_tells_0 rfl rfl ?_
  refine g_getS (v := 236) C fX12_192 dX12_tells_1 kd_199 rfl ?_
  refine g_bipush (v := 6) C dX12_tells_4 (by decide +kernel) ?_
  refine g_iload_n (q := 3) C dX12_tells_6 rfl rfl ?_
  refine g_iconst C dX12_tells_7 rfl ?_
  refine g_isub C dX12_tells_8 ?_
  refine g_imul C dX12_tells_9 ?_
  refine g_iload_n (q := 2) C dX12_tells_10 rfl rfl ?_
  refine g_iadd C dX12_tells_11 ?_
  obtain ⟨g9, h⟩ := h
  refine g_iald C dX12_tells_12 kd_236 ln_236 g9 ?_
  refine g_istore (lv' := [(5, vI (M 236 ((6 * (a2 - 1)) + a1))), (0, vR Y 199), (1, vI a0), (2, vI a1), (3, vI a2), (4, vI a3)]) C dX12_tells_13 (by decide) rfl ?_
  refine g_aload_n (q := 1) C dX12_tells_15 rfl rfl ?_
  refine g_getS (v := 204) C fX12_63 dX12_tells_16 kd_199 rfl ?_
  refine g_aload_n (q := 1) C dX12_tells_19 rfl rfl ?_
  refine g_aload_n (q := 1) C dX12_tells_20 rfl rfl ?_
  refine g_getI C fX12_51 (by decide) dX12_tells_21 kd_199 ?_
  refine g_aload_n (q := 1) C dX12_tells_24 rfl rfl ?_
  refine g_getS (v := 236) C fX12_192 dX12_tells_25 kd_199 rfl ?_
  refine g_iload_n (q := 3) C dX12_tells_28 rfl rfl ?_
  obtain ⟨g10, h⟩ := h
  refine g_iald C dX12_tells_29 kd_236 ln_236 g10 ?_
  refine g_iload (q := 5) C dX12_tells_30 rfl ?_
  refine g_cVi (As := [vI (M 199 13), vI (M 236 a1), vI a3]) C clX12_361 clvX12_at dX12_tells_32 kd_199 rfl (Nat.le_of_ble_eq_true rfl) rfl (by decide) (t_X12_at (Cx.ok C) h) (fun r12 M11 h => ?_)
  obtain ⟨g13, h⟩ := h
  refine g_iald C dX12_tells_35 kd_204 ln_204 g13 ?_
  refine g_istore (lv' := [(6, vI (M11 204 r12)), (5, vI (M 236 ((6 * (a2 - 1)) + a1))), (0, vR Y 199), (1, vI a0), (2, vI a1), (3, vI a2), (4, vI a3)]) C dX12_tells_36 (by decide) rfl ?_
  refine g_aload_n (q := 2) C dX12_tells_38 rfl rfl ?_
  refine g_getS (v := 235) C fX12_189 dX12_tells_39 kd_199 rfl ?_
  refine g_iconst C dX12_tells_42 rfl ?_
  refine g_aload_n (q := 2) C dX12_tells_43 rfl rfl ?_
  refine g_getS (v := 207) C fX12_72 dX12_tells_44 kd_199 rfl ?_
  refine g_bipush (v := 6) C dX12_tells_47 (by decide +kernel) ?_
  refine g_aload_n (q := 2) C dX12_tells_49 rfl rfl ?_
  refine g_getI C fX12_51 (by decide) dX12_tells_50 kd_199 ?_
  refine g_imul C dX12_tells_53 ?_
  refine g_iload_n (q := 4) C dX12_tells_54 rfl rfl ?_
  refine g_iadd C dX12_tells_55 ?_
  obtain ⟨g14, h⟩ := h
  refine g_iald C dX12_tells_56 kd_207 ln_207 g14 ?_
  obtain ⟨M15, e_M15⟩ : ∃ z : Mem, z = up M11 235 1 (M11 207 ((6 * (M11 199 13)) + a1)) := ⟨_, rfl⟩
  have h := h M15 e_M15
  refine g_iast C dX12_tells_57 kd_235 ln_235 (by decide) e_M15 ?_
  refine g_aload_n (q := 2) C dX12_tells_58 rfl rfl ?_
  refine g_getS (v := 235) C fX12_189 dX12_tells_59 kd_199 rfl ?_
  refine g_iconst C dX12_tells_62 rfl ?_
  refine g_iload_n (q := 5) C dX12_tells_63 rfl rfl ?_
  obtain ⟨M16, e_M16⟩ : ∃ z : Mem, z = up M15 235 2 a2 := ⟨_, rfl⟩
  have h := h M16 e_M16
  refine g_iast C dX12_tells_64 kd_235 ln_235 (by decide) e_M16 ?_
  refine g_aload_n (q := 2) C dX12_tells_65 rfl rfl ?_
  refine g_getS (v := 235) C fX12_189 dX12_tells_66 kd_199 rfl ?_
  refine g_iconst C dX12_tells_69 rfl ?_
  refine g_aload_n (q := 2) C dX12_tells_70 rfl rfl ?_
  refine g_getS (v := 227) C fX12_156 dX12_tells_71 kd_199 rfl ?_
  refine g_iload_n (q := 3) C dX12_tells_74 rfl rfl ?_
  obtain ⟨g17, h⟩ := h
  refine g_iald C dX12_tells_75 kd_227 ln_227 g17 ?_
  obtain ⟨M18, e_M18⟩ : ∃ z : Mem, z = up M16 235 3 (M16 227 a0) := ⟨_, rfl⟩
  have h := h M18 e_M18
  refine g_iast C dX12_tells_76 kd_235 ln_235 (by decide) e_M18 ?_
  refine g_aload_n (q := 2) C dX12_tells_77 rfl rfl ?_
  refine g_getS (v := 235) C fX12_189 dX12_tells_78 kd_199 rfl ?_
  refine g_iconst C dX12_tells_81 rfl ?_
  refine g_aload_n (q := 2) C dX12_tells_82 rfl rfl ?_
  refine g_iload_n (q := 5) C dX12_tells_83 rfl rfl ?_
  refine g_iconst C dX12_tells_84 rfl ?_
  refine g_isub C dX12_tells_85 ?_
  refine g_iload (q := 1) C dX12_tells_86 rfl ?_
  refine g_cVi (As := [vI (a2 - 1), vI (M 236 ((6 * (a2 - 1)) + a1))]) C clX12_430 clvX12_manyAt dX12_tells_88 kd_199 rfl (Nat.le_of_ble_eq_true rfl) rfl (by decide) (t_X12_manyAt (Cx.ok C) h) (fun r20 M19 h => ?_)
  obtain ⟨M21, e_M21⟩ : ∃ z : Mem, z = up M19 235 4 r20 := ⟨_, rfl⟩
  have h := h M21 e_M21
  refine g_iast C dX12_tells_91 kd_235 ln_235 (by decide) e_M21 ?_
  refine g_aload_n (q := 2) C dX12_tells_92 rfl rfl ?_
  refine g_getS (v := 235) C fX12_189 dX12_tells_93 kd_199 rfl ?_
  refine g_iconst C dX12_tells_96 rfl ?_
  refine g_aload_n (q := 2) C dX12_tells_97 rfl rfl ?_
  refine g_getS (v := 229) C fX12_162 dX12_tells_98 kd_199 rfl ?_
  refine g_iload_n (q := 3) C dX12_tells_101 rfl rfl ?_
  obtain ⟨g22, h⟩ := h
  refine g_iald C dX12_tells_102 kd_229 ln_229 g22 ?_
  refine g_iload_n (q := 4) C dX12_tells_103 rfl rfl ?_
  refine g_cSi (As := [vI (M21 229 a0), vI a1]) C clX12_342 clsX12_has2 dX12_tells_104 rfl (Nat.le_of_ble_eq_true rfl) rfl (by decide) (t_X12_has2 (Cx.ok C) h) (fun r24 M23 h => ?_)
  obtain ⟨g25, h⟩ := h
  obtain ⟨ht, hf⟩ := h
  refine g_if_eq (tgt := 121) C dX12_tells_107 (by decide) g25 (fun c => ?_) (fun c => ?_)
  · have h := ht c
    refine g_bipush (v := 9) C dX12_tells_121 (by decide +kernel) ?_
    refine G.sub [2, 5, 6, 0] rfl ?_
    exact w_X12_tells_J123 C hR kd_235 h
  · have h := hf c
    refine g_aload_n (q := 2) C dX12_tells_110 rfl rfl ?_
    refine g_iload_n (q := 3) C dX12_tells_111 rfl rfl ?_
    refine g_iload_n (q := 5) C dX12_tells_112 rfl rfl ?_
    refine g_iload (q := 6) C dX12_tells_113 rfl ?_
    refine g_cVi (As := [vI a0, vI a2, vI a3]) C clX12_433 clvX12_shownAt dX12_tells_115 kd_199 rfl (Nat.le_of_ble_eq_true rfl) rfl (by decide) (t_X12_shownAt (Cx.ok C) h) (fun r27 M26 h => ?_)
    refine g_goto (tgt := 123) C dX12_tells_118 (by decide) ?_
    refine G.sub [2, 5, 6, 0] rfl ?_
    exact w_X12_tells_J123 C hR kd_235 h
set_option maxRecDepth 20000 in
theorem w_X12_nextOf_J151 {Y : YT} {X : CX} (C : Cx Y X cX12_nextOf 11 RX12 4) {Q : Int → Mem → Prop} (hR : Rt Y X (some .int) (PQi Y Q)) {v1 : Int} {v2 : Int} {v3 : Int} {v4 : Int} {v5 : Int} {v6 : Int} {v8 : Int} {k54 : Int → Int → Int → Mem → Prop} (hk54 : ∀ (v5 : Int) (v6 : Int) (v8 : Int)  (M : Mem), k54 v5 v6 v8 M → G Y X 11 54 [(0, vR Y 199), (1, vI v1), (2, vI v2), (3, vI v3), (4, vI v4), (5, vI v5), (6, vL v6), (8, vI v8)] ([]) M) {M : Mem}  (h : m_X12_nextOf_J151 k54 Q v1 v2 v3 v4 v5 v6 v8 M) : G Y X 11 151 [(0, vR Y 199), (1, vI v1), (2, vI v2), (3, vI v3), (4, vI v4), (5, vI v5), (6, vL v6), (8, vI v8)] ([]) M := by
  unfold m_X12_nextOf_J151 at h
  refine g_iinc (q := 7) (v := v8 + 1) (lv' := [(8, vI (v8 + 1)), (0, vR Y 199), (1, vI v1), (2, vI v2), (3, vI v3), (4, vI v4), (5, vI v5), (6, vL v6)]) C dX12_nextOf_151 rfl rfl (by decide) rfl ?_
  refine g_goto (tgt := 54) C dX12_nextOf_154 (by decide) ?_
  refine G.sub [1, 2, 3, 4, 5, 6, 7, 0] rfl ?_
  exact hk54 _ _ _ _ h
set_option maxRecDepth 20000 in
theorem w_X12_nextOf_J143 {Y : YT} {X : CX} (C : Cx Y X cX12_nextOf 11 RX12 4) {Q : Int → Mem → Prop} (hR : Rt Y X (some .int) (PQi Y Q)) {v1 : Int} {v2 : Int} {v3 : Int} {v4 : Int} {v8 : Int} {v9 : Int} {k54 : Int → Int → Int → Mem → Prop} (hk54 : ∀ (v5 : Int) (v6 : Int) (v8 : Int)  (M : Mem), k54 v5 v6 v8 M → G Y X 11 54 [(0, vR Y 199), (1, vI v1), (2, vI v2), (3, vI v3), (4, vI v4), (5, vI v5), (6, vL v6), (8, vI v8)] ([]) M) {M : Mem}  (h : m_X12_nextOf_J143 k54 Q v1 v2 v3 v4 v8 v9 M) : G Y X 11 143 [(0, vR Y 199), (1, vI v1), (2, vI v2), (3, vI v3), (4, vI v4), (8, vI v8), (9, vL v9)] ([]) M := by
  unfold m_X12_nextOf_J143 at h
  refine g_lload (q := 6) C dX12_nextOf_143 rfl ?_
  refine g_lstore (lv' := [(6, vL v9), (0, vR Y 199), (1, vI v1), (2, vI v2), (3, vI v3), (4, vI v4), (8, vI v8), (9, vL v9)]) C dX12_nextOf_145 (by decide) rfl ?_
  refine g_iload (q := 6) C dX12_nextOf_147 rfl ?_
  refine g_istore (lv' := [(5, vI v8), (6, vL v9), (0, vR Y 199), (1, vI v1), (2, vI v2), (3, vI v3), (4, vI v4), (8, vI v8), (9, vL v9)]) C dX12_nextOf_149 (by decide) rfl ?_
  refine G.sub [2, 3, 4, 5, 6, 0, 1, 7] rfl ?_
  exact w_X12_nextOf_J151 C hR (hk54)  h
set_option maxRecDepth 20000 in
theorem w_X12_nextOf_J124 {Y : YT} {X : CX} (C : Cx Y X cX12_nextOf 11 RX12 4) {Q : Int → Mem → Prop} (hR : Rt Y X (some .int) (PQi Y Q)) {v1 : Int} {v2 : Int} {v3 : Int} {v4 : Int} {v5 : Int} {v6 : Int} {v8 : Int} {s0 : Int} {k54 : Int → Int → Int → Mem → Prop} (hk54 : ∀ (v5 : Int) (v6 : Int) (v8 : Int)  (M : Mem), k54 v5 v6 v8 M → G Y X 11 54 [(0, vR Y 199), (1, vI v1), (2, vI v2), (3, vI v3), (4, vI v4), (5, vI v5), (6, vL v6), (8, vI v8)] ([]) M) {M : Mem}  (h : m_X12_nextOf_J124 k54 Q v1 v2 v3 v4 v5 v6 v8 s0 M) : G Y X 11 124 [(0, vR Y 199), (1, vI v1), (2, vI v2), (3, vI v3), (4, vI v4), (5, vI v5), (6, vL v6), (8, vI v8)] ((vL s0) :: []) M := by
  unfold m_X12_nextOf_J124 at h
  refine g_lstore (lv' := [(9, vL s0), (0, vR Y 199), (1, vI v1), (2, vI v2), (3, vI v3), (4, vI v4), (5, vI v5), (6, vL v6), (8, vI v8)]) C dX12_nextOf_124 (by decide) rfl ?_
  refine g_iload (q := 6) C dX12_nextOf_126 rfl ?_
  refine g_iconst C dX12_nextOf_128 rfl ?_
  obtain ⟨g1, h⟩ := h
  obtain ⟨ht, hf⟩ := h
  refine g_icmp_eq (tgt := 143) C dX12_nextOf_129 (by decide) g1 (by decide) (fun c => ?_) (fun c => ?_)
  · have h := ht c
    refine G.sub [1, 2, 3, 4, 5, 8, 0] rfl ?_
    exact w_X12_nextOf_J143 C hR (hk54)  h
  · have h := hf c
    refine g_lload (q := 0) C dX12_nextOf_132 rfl ?_
    refine g_lload (q := 7) C dX12_nextOf_134 rfl ?_
    obtain ⟨g2, h⟩ := h
    obtain ⟨g3, h⟩ := h
    obtain ⟨ht, hf⟩ := h
    refine g_lcmp_gt (tgt := 143) C dX12_nextOf_136 dX12_nextOf_137 (by decide) g2 g3 (fun c => ?_) (fun c => ?_)
    · have h := ht c
      refine G.sub [1, 2, 3, 4, 5, 8, 0] rfl ?_
      exact w_X12_nextOf_J143 C hR (hk54)  h
    · have h := hf c
      refine g_goto (tgt := 151) C dX12_nextOf_140 (by decide) ?_
      refine G.sub [1, 2, 3, 4, 5, 6, 7, 8] rfl ?_
      exact w_X12_nextOf_J151 C hR (hk54)  h
set_option maxRecDepth 20000 in
theorem w_X12_nextOf_J98 {Y : YT} {X : CX} (C : Cx Y X cX12_nextOf 11 RX12 4) {Q : Int → Mem → Prop} (hR : Rt Y X (some .int) (PQi Y Q)) {v1 : Int} {v2 : Int} {v3 : Int} {v4 : Int} {v5 : Int} {v6 : Int} {v8 : Int} {k54 : Int → Int → Int → Mem → Prop} (hk54 : ∀ (v5 : Int) (v6 : Int) (v8 : Int)  (M : Mem), k54 v5 v6 v8 M → G Y X 11 54 [(0, vR Y 199), (1, vI v1), (2, vI v2), (3, vI v3), (4, vI v4), (5, vI v5), (6, vL v6), (8, vI v8)] ([]) M) {M : Mem}  (h : m_X12_nextOf_J98 k54 Q v1 v2 v3 v4 v5 v6 v8 M) : G Y X 11 98 [(0, vR Y 199), (1, vI v1), (2, vI v2), (3, vI v3), (4, vI v4), (5, vI v5), (6, vL v6), (8, vI v8)] ([]) M := by
  unfold m_X12_nextOf_J98 at h
  refine g_aload_n (q := 0) C dX12_nextOf_98 rfl rfl ?_
  refine g_iload_n (q := 1) C dX12_nextOf_99 rfl rfl ?_
  refine g_iload_n (q := 2) C dX12_nextOf_100 rfl rfl ?_
  refine g_iload_n (q := 3) C dX12_nextOf_101 rfl rfl ?_
  refine g_iload (q := 7) C dX12_nextOf_102 rfl ?_
  refine g_cVv (As := [vI v1, vI v2, vI v3, vI v8]) C clX12_436 clvX12_tells dX12_nextOf_104 kd_199 rfl (Nat.le_of_ble_eq_true rfl) rfl (by decide) (t_X12_tells (Cx.ok C) h) (fun M4 h => ?_)
  refine g_aload_n (q := 0) C dX12_nextOf_107 rfl rfl ?_
  refine g_iconst C dX12_nextOf_108 rfl ?_
  refine g_cVi (As := [vI 1]) C clX12_440 clvX12_isTold dX12_nextOf_109 kd_199 rfl (Nat.le_of_ble_eq_true rfl) rfl (by decide) (t_X12_isTold (Cx.ok C) h) (fun r6 M5 h => ?_)
  obtain ⟨g7, h⟩ := h
  obtain ⟨ht, hf⟩ := h
  refine g_if_eq (tgt := 123) C dX12_nextOf_112 (by decide) g7 (fun c => ?_) (fun c => ?_)
  · have h := ht c
    refine g_lconst (v := 0) C dX12_nextOf_123 (by decide +kernel) ?_
    refine G.sub [0, 1, 2, 3, 4, 5, 6, 7] rfl ?_
    exact w_X12_nextOf_J124 C hR (hk54)  h
  · have h := hf c
    refine g_aload_n (q := 0) C dX12_nextOf_115 rfl rfl ?_
    refine g_iconst C dX12_nextOf_116 rfl ?_
    refine g_cVl (As := [vI 1]) C clX12_443 clvX12_reckons dX12_nextOf_117 kd_199 rfl (Nat.le_of_ble_eq_true rfl) rfl (by decide) (t_X12_reckons (Cx.ok C) h) (fun r9 M8 h => ?_)
    refine g_goto (tgt := 124) C dX12_nextOf_120 (by decide) ?_
    refine G.sub [0, 1, 2, 3, 4, 5, 6, 7] rfl ?_
    exact w_X12_nextOf_J124 C hR (hk54)  h
set_option maxRecDepth 20000 in
theorem w_X12_nextOf_L54 {Y : YT} {X : CX} (C : Cx Y X cX12_nextOf 11 RX12 4) {Q : Int → Mem → Prop} (hR : Rt Y X (some .int) (PQi Y Q)) {v1 : Int} {v2 : Int} {v3 : Int} {v4 : Int}  : ∀ (f : Nat) (v5 : Int) (v6 : Int) (v8 : Int) (M : Mem), m_X12_nextOf_L54  Q v1 v2 v3 v4 f v5 v6 v8 M → G Y X 11 54 [(0, vR Y 199), (1, vI v1), (2, vI v2), (3, vI v3), (4, vI v4), (5, vI v5), (6, vL v6), (8, vI v8)] ([]) M := by
  intro f
  induction f with
  | zero =>
    intro v5 v6 v8 M h
    exact (show False from h).elim
  | succ f ih =>
    intro v5 v6 v8 M h
    unfold m_X12_nextOf_L54 at h
    refine g_iload (q := 7) C dX12_nextOf_54 rfl ?_
    refine g_aload_n (q := 0) C dX12_nextOf_56 rfl rfl ?_
    refine g_getS (v := 201) C fX12_54 dX12_nextOf_57 kd_199 rfl ?_
    refine g_aload_n (q := 0) C dX12_nextOf_60 rfl rfl ?_
    refine g_getI C fX12_51 (by decide) dX12_nextOf_61 kd_199 ?_
    obtain ⟨g10, h⟩ := h
    refine g_iald C dX12_nextOf_64 kd_201 ln_201 g10 ?_
    obtain ⟨g11, h⟩ := h
    obtain ⟨g12, h⟩ := h
    obtain ⟨ht, hf⟩ := h
    refine g_icmp_ge (tgt := 157) C dX12_nextOf_65 (by decide) g11 g12 (fun c => ?_) (fun c => ?_)
    · have h := ht c
      refine g_iload (q := 5) C dX12_nextOf_157 rfl ?_
      exact g_reti C hR dX12_nextOf_159 h
    · have h := hf c
      refine g_iload (q := 7) C dX12_nextOf_68 rfl ?_
      refine g_iload (q := 4) C dX12_nextOf_70 rfl ?_
      obtain ⟨g13, h⟩ := h
      obtain ⟨g14, h⟩ := h
      obtain ⟨ht, hf⟩ := h
      refine g_icmp_eq (tgt := 98) C dX12_nextOf_72 (by decide) g13 g14 (fun c => ?_) (fun c => ?_)
      · have h := ht c
        refine G.sub [0, 1, 2, 3, 4, 5, 6, 7] rfl ?_
        exact w_X12_nextOf_J98 C hR (ih)  h
      · have h := hf c
        refine g_aload_n (q := 0) C dX12_nextOf_75 rfl rfl ?_
        refine g_getS (v := 203) C fX12_60 dX12_nextOf_76 kd_199 rfl ?_
        refine g_aload_n (q := 0) C dX12_nextOf_79 rfl rfl ?_
        refine g_aload_n (q := 0) C dX12_nextOf_80 rfl rfl ?_
        refine g_getI C fX12_51 (by decide) dX12_nextOf_81 kd_199 ?_
        refine g_iload (q := 4) C dX12_nextOf_84 rfl ?_
        refine g_iload (q := 7) C dX12_nextOf_86 rfl ?_
        refine g_cVi (As := [vI (M 199 13), vI v4, vI v8]) C clX12_361 clvX12_at dX12_nextOf_88 kd_199 rfl (Nat.le_of_ble_eq_true rfl) rfl (by decide) (t_X12_at (Cx.ok C) h) (fun r16 M15 h => ?_)
        obtain ⟨g17, h⟩ := h
        refine g_iald C dX12_nextOf_91 kd_203 ln_203 g17 ?_
        obtain ⟨g18, h⟩ := h
        obtain ⟨ht, hf⟩ := h
        refine g_if_ne (tgt := 98) C dX12_nextOf_92 (by decide) g18 (fun c => ?_) (fun c => ?_)
        · have h := hf c
          refine G.sub [0, 1, 2, 3, 4, 5, 6, 7] rfl ?_
          exact w_X12_nextOf_J98 C hR (ih)  h
        · have h := ht c
          refine g_goto (tgt := 151) C dX12_nextOf_95 (by decide) ?_
          refine G.sub [0, 1, 2, 3, 4, 5, 6, 7] rfl ?_
          exact w_X12_nextOf_J151 C hR (ih)  h
set_option maxRecDepth 20000 in
theorem w_X12_nextOf_J45 {Y : YT} {X : CX} (C : Cx Y X cX12_nextOf 11 RX12 4) {Q : Int → Mem → Prop} (hR : Rt Y X (some .int) (PQi Y Q)) {v1 : Int} {v2 : Int} {v3 : Int} {v4 : Int}  {M : Mem}  (h : m_X12_nextOf_J45  Q v1 v2 v3 v4 M) : G Y X 11 45 [(0, vR Y 199), (1, vI v1), (2, vI v2), (3, vI v3), (4, vI v4)] ([]) M := by
  unfold m_X12_nextOf_J45 at h
  refine g_iconst C dX12_nextOf_45 rfl ?_
  refine g_istore (lv' := [(5, vI (-1)), (0, vR Y 199), (1, vI v1), (2, vI v2), (3, vI v3), (4, vI v4)]) C dX12_nextOf_46 (by decide) rfl ?_
  refine g_lconst (v := 0) C dX12_nextOf_48 (by decide +kernel) ?_
  refine g_lstore (lv' := [(6, vL 0), (5, vI (-1)), (0, vR Y 199), (1, vI v1), (2, vI v2), (3, vI v3), (4, vI v4)]) C dX12_nextOf_49 (by decide) rfl ?_
  refine g_iconst C dX12_nextOf_51 rfl ?_
  refine g_istore (lv' := [(8, vI 0), (6, vL 0), (5, vI (-1)), (0, vR Y 199), (1, vI v1), (2, vI v2), (3, vI v3), (4, vI v4)]) C dX12_nextOf_52 (by decide) rfl ?_
  obtain ⟨f0, h⟩ := h
  refine G.sub [3, 4, 5, 6, 7, 2, 1, 0] rfl ?_
  exact w_X12_nextOf_L54 C hR  f0 _ _ _ _ h
set_option maxRecDepth 20000 in
theorem t_X12_nextOf {l : Launch} {Y : YT} (hY : YOK Y) {a0 : Int} {a1 : Int} {a2 : Int} {M : Mem} {Q : Int → Mem → Prop} (h : m_X12_nextOf a0 a1 a2 M Q) : Ctr l Y yX12_nextOf cX12_nextOf 11 (some .int) 4 [vR Y 199, vI a0, vI a1, vI a2] M (PQi Y Q) := by
  unfold m_X12_nextOf at h
  refine ctr_ofF hY (by decide +kernel) (Nat.le_of_ble_eq_true rfl) [(0, vR Y 199), (1, vI a0), (2, vI a1), (3, vI a2)] rfl (fun X hX C hR => ?_)
  refine g_aload_n (q := 0) C dX12_nextOf_0 rfl rfl ?_
  refine g_getS (v := 236) C fX12_192 dX12_nextOf_1 kd_199 rfl ?_
  refine g_bipush (v := 6) C dX12_nextOf_4 (by decide +kernel) ?_
  refine g_iload_n (q := 3) C dX12_nextOf_6 rfl rfl ?_
  refine g_iconst C dX12_nextOf_7 rfl ?_
  refine g_isub C dX12_nextOf_8 ?_
  refine g_imul C dX12_nextOf_9 ?_
  refine g_iload_n (q := 2) C dX12_nextOf_10 rfl rfl ?_
  refine g_iadd C dX12_nextOf_11 ?_
  obtain ⟨g19, h⟩ := h
  refine g_iald C dX12_nextOf_12 kd_236 ln_236 g19 ?_
  refine g_istore (lv' := [(4, vI (M 236 ((6 * (a2 - 1)) + a1))), (0, vR Y 199), (1, vI a0), (2, vI a1), (3, vI a2)]) C dX12_nextOf_13 (by decide) rfl ?_
  refine g_aload_n (q := 1) C dX12_nextOf_15 rfl rfl ?_
  refine g_iload_n (q := 2) C dX12_nextOf_16 rfl rfl ?_
  refine g_iload_n (q := 3) C dX12_nextOf_17 rfl rfl ?_
  refine g_iload_n (q := 4) C dX12_nextOf_18 rfl rfl ?_
  refine g_iload (q := 0) C dX12_nextOf_19 rfl ?_
  refine g_cVv (As := [vI a0, vI a1, vI a2, vI (M 236 ((6 * (a2 - 1)) + a1))]) C clX12_436 clvX12_tells dX12_nextOf_21 kd_199 rfl (Nat.le_of_ble_eq_true rfl) rfl (by decide) (t_X12_tells (Cx.ok C) h) (fun M20 h => ?_)
  refine g_aload_n (q := 1) C dX12_nextOf_24 rfl rfl ?_
  refine g_iconst C dX12_nextOf_25 rfl ?_
  refine g_cVi (As := [vI 0]) C clX12_440 clvX12_isTold dX12_nextOf_26 kd_199 rfl (Nat.le_of_ble_eq_true rfl) rfl (by decide) (t_X12_isTold (Cx.ok C) h) (fun r22 M21 h => ?_)
  obtain ⟨g23, h⟩ := h
  obtain ⟨ht, hf⟩ := h
  refine g_if_eq (tgt := 45) C dX12_nextOf_29 (by decide) g23 (fun c => ?_) (fun c => ?_)
  · have h := ht c
    refine G.sub [1, 2, 3, 4, 0] rfl ?_
    exact w_X12_nextOf_J45 C hR  h
  · have h := hf c
    refine g_aload_n (q := 1) C dX12_nextOf_32 rfl rfl ?_
    refine g_iconst C dX12_nextOf_33 rfl ?_
    refine g_cVl (As := [vI 0]) C clX12_443 clvX12_reckons dX12_nextOf_34 kd_199 rfl (Nat.le_of_ble_eq_true rfl) rfl (by decide) (t_X12_reckons (Cx.ok C) h) (fun r25 M24 h => ?_)
    refine g_lconst (v := 1) C dX12_nextOf_37 (by decide +kernel) ?_
    obtain ⟨g26, h⟩ := h
    obtain ⟨ht, hf⟩ := h
    refine g_lcmp_ne (tgt := 45) C dX12_nextOf_38 dX12_nextOf_39 (by decide) g26 (by decide) (fun c => ?_) (fun c => ?_)
    · have h := hf c
      refine G.sub [1, 2, 3, 4, 0] rfl ?_
      exact w_X12_nextOf_J45 C hR  h
    · have h := ht c
      refine g_iload (q := 0) C dX12_nextOf_42 rfl ?_
      exact g_reti C hR dX12_nextOf_44 h
set_option maxRecDepth 20000 in
theorem w_X12_runs_L48 {Y : YT} {X : CX} (C : Cx Y X cX12_runs 4 RX12 5) {Q : Mem → Prop} (hR : Rt Y X none (PQv Y Q)) {v1 : Int} {v2 : Int} {k40 : Int → Mem → Prop} (hk40 : ∀ (v2 : Int)  (M : Mem), k40 v2 M → G Y X 4 40 [(0, vR Y 199), (1, vI v1), (2, vI v2)] ([]) M) : ∀ (f : Nat) (v3 : Int) (M : Mem), m_X12_runs_L48 k40 Q v1 v2 f v3 M → G Y X 4 48 [(0, vR Y 199), (1, vI v1), (2, vI v2), (3, vI v3)] ([]) M := by
  intro f
  induction f with
  | zero =>
    intro v3 M h
    exact (show False from h).elim
  | succ f ih =>
    intro v3 M h
    unfold m_X12_runs_L48 at h
    refine g_iload_n (q := 3) C dX12_runs_48 rfl rfl ?_
    refine g_aload_n (q := 0) C dX12_runs_49 rfl rfl ?_
    refine g_getS (v := 205) C fX12_66 dX12_runs_50 kd_199 rfl ?_
    refine g_aload_n (q := 0) C dX12_runs_53 rfl rfl ?_
    refine g_getI C fX12_51 (by decide) dX12_runs_54 kd_199 ?_
    obtain ⟨g1, h⟩ := h
    refine g_iald C dX12_runs_57 kd_205 ln_205 g1 ?_
    obtain ⟨g2, h⟩ := h
    obtain ⟨g3, h⟩ := h
    obtain ⟨ht, hf⟩ := h
    refine g_icmp_ge (tgt := 85) C dX12_runs_58 (by decide) g2 g3 (fun c => ?_) (fun c => ?_)
    · have h := ht c
      refine g_iinc (q := 2) (v := v2 + 1) (lv' := [(2, vI (v2 + 1)), (0, vR Y 199), (1, vI v1), (3, vI v3)]) C dX12_runs_85 rfl rfl (by decide) rfl ?_
      refine g_goto (tgt := 40) C dX12_runs_88 (by decide) ?_
      refine G.sub [1, 2, 0] rfl ?_
      exact hk40 _ _ h
    · have h := hf c
      refine g_aload_n (q := 0) C dX12_runs_61 rfl rfl ?_
      refine g_getS (v := 236) C fX12_192 dX12_runs_62 kd_199 rfl ?_
      refine g_bipush (v := 6) C dX12_runs_65 (by decide +kernel) ?_
      refine g_iload_n (q := 2) C dX12_runs_67 rfl rfl ?_
      refine g_imul C dX12_runs_68 ?_
      refine g_iload_n (q := 3) C dX12_runs_69 rfl rfl ?_
      refine g_iadd C dX12_runs_70 ?_
      refine g_aload_n (q := 0) C dX12_runs_71 rfl rfl ?_
      refine g_iload_n (q := 1) C dX12_runs_72 rfl rfl ?_
      refine g_iload_n (q := 3) C dX12_runs_73 rfl rfl ?_
      refine g_iload_n (q := 2) C dX12_runs_74 rfl rfl ?_
      refine g_cVi (As := [vI v1, vI v3, vI v2]) C clX12_447 clvX12_nextOf dX12_runs_75 kd_199 rfl (Nat.le_of_ble_eq_true rfl) rfl (by decide) (t_X12_nextOf (Cx.ok C) h) (fun r5 M4 h => ?_)
      obtain ⟨g6, h⟩ := h
      obtain ⟨M7, e_M7⟩ : ∃ z : Mem, z = up M4 236 ((6 * v2) + v3) r5 := ⟨_, rfl⟩
      have h := h M7 e_M7
      refine g_iast C dX12_runs_78 kd_236 ln_236 g6 e_M7 ?_
      refine g_iinc (q := 3) (v := v3 + 1) (lv' := [(3, vI (v3 + 1)), (0, vR Y 199), (1, vI v1), (2, vI v2)]) C dX12_runs_79 rfl rfl (by decide) rfl ?_
      refine g_goto (tgt := 48) C dX12_runs_82 (by decide) ?_
      refine G.sub [1, 2, 3, 0] rfl ?_
      exact ih _ _ h
set_option maxRecDepth 20000 in
theorem w_X12_runs_L40 {Y : YT} {X : CX} (C : Cx Y X cX12_runs 4 RX12 5) {Q : Mem → Prop} (hR : Rt Y X none (PQv Y Q)) {v1 : Int}  : ∀ (f : Nat) (v2 : Int) (M : Mem), m_X12_runs_L40  Q v1 f v2 M → G Y X 4 40 [(0, vR Y 199), (1, vI v1), (2, vI v2)] ([]) M := by
  intro f
  induction f with
  | zero =>
    intro v2 M h
    exact (show False from h).elim
  | succ f ih =>
    intro v2 M h
    unfold m_X12_runs_L40 at h
    refine g_iload_n (q := 2) C dX12_runs_40 rfl rfl ?_
    refine g_bipush (v := 8) C dX12_runs_41 (by decide +kernel) ?_
    obtain ⟨g8, h⟩ := h
    obtain ⟨ht, hf⟩ := h
    refine g_icmp_gt (tgt := 91) C dX12_runs_43 (by decide) g8 (by decide) (fun c => ?_) (fun c => ?_)
    · have h := ht c
      exact g_retv C hR dX12_runs_91 h
    · have h := hf c
      refine g_iconst C dX12_runs_46 rfl ?_
      refine g_istore_n (lv' := [(3, vI 0), (0, vR Y 199), (1, vI v1), (2, vI v2)]) C dX12_runs_47 rfl (by decide) rfl ?_
      obtain ⟨f0, h⟩ := h
      refine G.sub [1, 2, 3, 0] rfl ?_
      exact w_X12_runs_L48 C hR (ih)  f0 _ _ h
set_option maxRecDepth 20000 in
theorem w_X12_runs_L2 {Y : YT} {X : CX} (C : Cx Y X cX12_runs 4 RX12 5) {Q : Mem → Prop} (hR : Rt Y X none (PQv Y Q)) {v1 : Int}  : ∀ (f : Nat) (v2 : Int) (M : Mem), m_X12_runs_L2  Q v1 f v2 M → G Y X 4 2 [(0, vR Y 199), (1, vI v1), (2, vI v2)] ([]) M := by
  intro f
  induction f with
  | zero =>
    intro v2 M h
    exact (show False from h).elim
  | succ f ih =>
    intro v2 M h
    unfold m_X12_runs_L2 at h
    refine g_iload_n (q := 2) C dX12_runs_2 rfl rfl ?_
    refine g_aload_n (q := 0) C dX12_runs_3 rfl rfl ?_
    refine g_getS (v := 205) C fX12_66 dX12_runs_4 kd_199 rfl ?_
    refine g_aload_n (q := 0) C dX12_runs_7 rfl rfl ?_
    refine g_getI C fX12_51 (by decide) dX12_runs_8 kd_199 ?_
    obtain ⟨g9, h⟩ := h
    refine g_iald C dX12_runs_11 kd_205 ln_205 g9 ?_
    obtain ⟨g10, h⟩ := h
    obtain ⟨g11, h⟩ := h
    obtain ⟨ht, hf⟩ := h
    refine g_icmp_ge (tgt := 38) C dX12_runs_12 (by decide) g10 g11 (fun c => ?_) (fun c => ?_)
    · have h := ht c
      refine g_iconst C dX12_runs_38 rfl ?_
      refine g_istore_n (lv' := [(2, vI 1), (0, vR Y 199), (1, vI v1)]) C dX12_runs_39 rfl (by decide) rfl ?_
      obtain ⟨f0, h⟩ := h
      refine G.sub [1, 2, 0] rfl ?_
      exact w_X12_runs_L40 C hR  f0 _ _ h
    · have h := hf c
      refine g_aload_n (q := 0) C dX12_runs_15 rfl rfl ?_
      refine g_getS (v := 236) C fX12_192 dX12_runs_16 kd_199 rfl ?_
      refine g_iload_n (q := 2) C dX12_runs_19 rfl rfl ?_
      refine g_aload_n (q := 0) C dX12_runs_20 rfl rfl ?_
      refine g_getS (v := 228) C fX12_159 dX12_runs_21 kd_199 rfl ?_
      refine g_bipush (v := 6) C dX12_runs_24 (by decide +kernel) ?_
      refine g_iload_n (q := 1) C dX12_runs_26 rfl rfl ?_
      refine g_imul C dX12_runs_27 ?_
      refine g_iload_n (q := 2) C dX12_runs_28 rfl rfl ?_
      refine g_iadd C dX12_runs_29 ?_
      obtain ⟨g12, h⟩ := h
      refine g_iald C dX12_runs_30 kd_228 ln_228 g12 ?_
      obtain ⟨g13, h⟩ := h
      obtain ⟨M14, e_M14⟩ : ∃ z : Mem, z = up M 236 v2 (M 228 ((6 * v1) + v2)) := ⟨_, rfl⟩
      have h := h M14 e_M14
      refine g_iast C dX12_runs_31 kd_236 ln_236 g13 e_M14 ?_
      refine g_iinc (q := 2) (v := v2 + 1) (lv' := [(2, vI (v2 + 1)), (0, vR Y 199), (1, vI v1)]) C dX12_runs_32 rfl rfl (by decide) rfl ?_
      refine g_goto (tgt := 2) C dX12_runs_35 (by decide) ?_
      refine G.sub [1, 2, 0] rfl ?_
      exact ih _ _ h
set_option maxRecDepth 20000 in
theorem t_X12_runs {l : Launch} {Y : YT} (hY : YOK Y) {a0 : Int} {M : Mem} {Q : Mem → Prop} (h : m_X12_runs a0 M Q) : Ctr l Y yX12_runs cX12_runs 4 none 5 [vR Y 199, vI a0] M (PQv Y Q) := by
  unfold m_X12_runs at h
  refine ctr_ofF hY (by decide +kernel) (Nat.le_of_ble_eq_true rfl) [(0, vR Y 199), (1, vI a0)] rfl (fun X hX C hR => ?_)
  refine g_iconst C dX12_runs_0 rfl ?_
  refine g_istore_n (lv' := [(2, vI 0), (0, vR Y 199), (1, vI a0)]) C dX12_runs_1 rfl (by decide) rfl ?_
  obtain ⟨f0, h⟩ := h
  refine G.sub [1, 2, 0] rfl ?_
  exact w_X12_runs_L2 C hR  f0 _ _ h
set_option maxRecDepth 20000 in
theorem w_X12_isTrue_J43 {Y : YT} {X : CX} (C : Cx Y X cX12_isTrue 4 RX12 2) {Q : Int → Mem → Prop} (hR : Rt Y X (some .boolean) (PQi Y Q)) {s0 : Int}  {M : Mem}  (h : m_X12_isTrue_J43  Q s0 M) : G Y X 4 43 [] ((vI s0) :: []) M := by
  unfold m_X12_isTrue_J43 at h
  obtain ⟨g1, h⟩ := h
  exact g_retz C hR dX12_isTrue_43 g1 h
set_option maxRecDepth 20000 in
theorem t_X12_isTrue {l : Launch} {Y : YT} (hY : YOK Y) {a0 : Int} {a1 : Int} {M : Mem} {Q : Int → Mem → Prop} (h : m_X12_isTrue a0 a1 M Q) : Ctr l Y yX12_isTrue cX12_isTrue 4 (some .boolean) 2 [vR Y 199, vI a0, vI a1] M (PQi Y Q) := by
  unfold m_X12_isTrue at h
  refine ctr_ofF hY (by decide +kernel) (Nat.le_of_ble_eq_true rfl) [(0, vR Y 199), (1, vI a0), (2, vI a1)] rfl (fun X hX C hR => ?_)
  refine g_iconst C dX12_isTrue_0 rfl ?_
  refine g_bipush (v := 9) C dX12_isTrue_1 (by decide +kernel) ?_
  refine g_iload_n (q := 1) C dX12_isTrue_3 rfl rfl ?_
  refine g_imul C dX12_isTrue_4 ?_
  refine g_iload_n (q := 2) C dX12_isTrue_5 rfl rfl ?_
  refine g_iadd C dX12_isTrue_6 ?_
  refine g_imul C dX12_isTrue_7 ?_
  refine g_istore_n (lv' := [(3, vI (3 * ((9 * a0) + a1))), (0, vR Y 199), (1, vI a0), (2, vI a1)]) C dX12_isTrue_8 rfl (by decide) rfl ?_
  refine g_aload_n (q := 1) C dX12_isTrue_9 rfl rfl ?_
  refine g_aload_n (q := 1) C dX12_isTrue_10 rfl rfl ?_
  refine g_getS (v := 231) C fX12_168 dX12_isTrue_11 kd_199 rfl ?_
  refine g_iload_n (q := 0) C dX12_isTrue_14 rfl rfl ?_
  obtain ⟨g2, h⟩ := h
  refine g_iald C dX12_isTrue_15 kd_231 ln_231 g2 ?_
  refine g_aload_n (q := 1) C dX12_isTrue_16 rfl rfl ?_
  refine g_getS (v := 231) C fX12_168 dX12_isTrue_17 kd_199 rfl ?_
  refine g_iload_n (q := 0) C dX12_isTrue_20 rfl rfl ?_
  refine g_iconst C dX12_isTrue_21 rfl ?_
  refine g_iadd C dX12_isTrue_22 ?_
  obtain ⟨g3, h⟩ := h
  refine g_iald C dX12_isTrue_23 kd_231 ln_231 g3 ?_
  refine g_cVi (As := [vI (M 231 (3 * ((9 * a0) + a1))), vI (M 231 ((3 * ((9 * a0) + a1)) + 1))]) C clX12_430 clvX12_manyAt dX12_isTrue_24 kd_199 rfl (Nat.le_of_ble_eq_true rfl) rfl (by decide) (t_X12_manyAt (Cx.ok C) h) (fun r5 M4 h => ?_)
  refine g_aload_n (q := 1) C dX12_isTrue_27 rfl rfl ?_
  refine g_getS (v := 231) C fX12_168 dX12_isTrue_28 kd_199 rfl ?_
  refine g_iload_n (q := 0) C dX12_isTrue_31 rfl rfl ?_
  refine g_iconst C dX12_isTrue_32 rfl ?_
  refine g_iadd C dX12_isTrue_33 ?_
  obtain ⟨g6, h⟩ := h
  refine g_iald C dX12_isTrue_34 kd_231 ln_231 g6 ?_
  obtain ⟨g7, h⟩ := h
  obtain ⟨g8, h⟩ := h
  obtain ⟨ht, hf⟩ := h
  refine g_icmp_ne (tgt := 42) C dX12_isTrue_35 (by decide) g7 g8 (fun c => ?_) (fun c => ?_)
  · have h := hf c
    refine g_iconst C dX12_isTrue_42 rfl ?_
    refine G.sub [] rfl ?_
    exact w_X12_isTrue_J43 C hR  h
  · have h := ht c
    refine g_iconst C dX12_isTrue_38 rfl ?_
    refine g_goto (tgt := 43) C dX12_isTrue_39 (by decide) ?_
    refine G.sub [] rfl ?_
    exact w_X12_isTrue_J43 C hR  h
set_option maxRecDepth 20000 in
theorem w_X12_trues_J29 {Y : YT} {X : CX} (C : Cx Y X cX12_trues 4 RX12 3) {Q : Int → Mem → Prop} (hR : Rt Y X (some .int) (PQi Y Q)) {v1 : Int} {v3 : Int} {s0 : Int} {s1 : Int} {k4 : Int → Int → Mem → Prop} (hk4 : ∀ (v2 : Int) (v3 : Int)  (M : Mem), k4 v2 v3 M → G Y X 4 4 [(0, vR Y 199), (1, vI v1), (2, vI v2), (3, vI v3)] ([]) M) {M : Mem}  (h : m_X12_trues_J29 k4 Q v1 v3 s0 s1 M) : G Y X 4 29 [(0, vR Y 199), (1, vI v1), (3, vI v3)] ((vI s1) :: (vI s0) :: []) M := by
  unfold m_X12_trues_J29 at h
  refine g_iadd C dX12_trues_29 ?_
  refine g_istore_n (lv' := [(2, vI (s0 + s1)), (0, vR Y 199), (1, vI v1), (3, vI v3)]) C dX12_trues_30 rfl (by decide) rfl ?_
  refine g_iinc (q := 3) (v := v3 + 1) (lv' := [(3, vI (v3 + 1)), (2, vI (s0 + s1)), (0, vR Y 199), (1, vI v1)]) C dX12_trues_31 rfl rfl (by decide) rfl ?_
  refine g_goto (tgt := 4) C dX12_trues_34 (by decide) ?_
  refine G.sub [2, 3, 1, 0] rfl ?_
  exact hk4 _ _ _ h
set_option maxRecDepth 20000 in
theorem w_X12_trues_L4 {Y : YT} {X : CX} (C : Cx Y X cX12_trues 4 RX12 3) {Q : Int → Mem → Prop} (hR : Rt Y X (some .int) (PQi Y Q)) {v1 : Int}  : ∀ (f : Nat) (v2 : Int) (v3 : Int) (M : Mem), m_X12_trues_L4  Q v1 f v2 v3 M → G Y X 4 4 [(0, vR Y 199), (1, vI v1), (2, vI v2), (3, vI v3)] ([]) M := by
  intro f
  induction f with
  | zero =>
    intro v2 v3 M h
    exact (show False from h).elim
  | succ f ih =>
    intro v2 v3 M h
    unfold m_X12_trues_L4 at h
    refine g_iload_n (q := 3) C dX12_trues_4 rfl rfl ?_
    refine g_aload_n (q := 0) C dX12_trues_5 rfl rfl ?_
    refine g_getS (v := 230) C fX12_165 dX12_trues_6 kd_199 rfl ?_
    refine g_iload_n (q := 1) C dX12_trues_9 rfl rfl ?_
    obtain ⟨g1, h⟩ := h
    refine g_iald C dX12_trues_10 kd_230 ln_230 g1 ?_
    obtain ⟨g2, h⟩ := h
    obtain ⟨g3, h⟩ := h
    obtain ⟨ht, hf⟩ := h
    refine g_icmp_ge (tgt := 37) C dX12_trues_11 (by decide) g2 g3 (fun c => ?_) (fun c => ?_)
    · have h := ht c
      refine g_iload_n (q := 2) C dX12_trues_37 rfl rfl ?_
      exact g_reti C hR dX12_trues_38 h
    · have h := hf c
      refine g_iload_n (q := 2) C dX12_trues_14 rfl rfl ?_
      refine g_aload_n (q := 0) C dX12_trues_15 rfl rfl ?_
      refine g_iload_n (q := 1) C dX12_trues_16 rfl rfl ?_
      refine g_iload_n (q := 3) C dX12_trues_17 rfl rfl ?_
      refine g_cVi (As := [vI v1, vI v3]) C clX12_450 clvX12_isTrue dX12_trues_18 kd_199 rfl (Nat.le_of_ble_eq_true rfl) rfl (by decide) (t_X12_isTrue (Cx.ok C) h) (fun r5 M4 h => ?_)
      obtain ⟨g6, h⟩ := h
      obtain ⟨ht, hf⟩ := h
      refine g_if_eq (tgt := 28) C dX12_trues_21 (by decide) g6 (fun c => ?_) (fun c => ?_)
      · have h := ht c
        refine g_iconst C dX12_trues_28 rfl ?_
        refine G.sub [0, 1, 3] rfl ?_
        exact w_X12_trues_J29 C hR (ih)  h
      · have h := hf c
        refine g_iconst C dX12_trues_24 rfl ?_
        refine g_goto (tgt := 29) C dX12_trues_25 (by decide) ?_
        refine G.sub [0, 1, 3] rfl ?_
        exact w_X12_trues_J29 C hR (ih)  h
set_option maxRecDepth 20000 in
theorem t_X12_trues {l : Launch} {Y : YT} (hY : YOK Y) {a0 : Int} {M : Mem} {Q : Int → Mem → Prop} (h : m_X12_trues a0 M Q) : Ctr l Y yX12_trues cX12_trues 4 (some .int) 3 [vR Y 199, vI a0] M (PQi Y Q) := by
  unfold m_X12_trues at h
  refine ctr_ofF hY (by decide +kernel) (Nat.le_of_ble_eq_true rfl) [(0, vR Y 199), (1, vI a0)] rfl (fun X hX C hR => ?_)
  refine g_iconst C dX12_trues_0 rfl ?_
  refine g_istore_n (lv' := [(2, vI 0), (0, vR Y 199), (1, vI a0)]) C dX12_trues_1 rfl (by decide) rfl ?_
  refine g_iconst C dX12_trues_2 rfl ?_
  refine g_istore_n (lv' := [(3, vI 0), (2, vI 0), (0, vR Y 199), (1, vI a0)]) C dX12_trues_3 rfl (by decide) rfl ?_
  obtain ⟨f0, h⟩ := h
  refine G.sub [2, 3, 1, 0] rfl ?_
  exact w_X12_trues_L4 C hR  f0 _ _ _ h
set_option maxRecDepth 20000 in
theorem w_X12_isAgreed_J24 {Y : YT} {X : CX} (C : Cx Y X cX12_isAgreed 2 RX12 6) {Q : Int → Mem → Prop} (hR : Rt Y X (some .boolean) (PQi Y Q)) {s0 : Int}  {M : Mem}  (h : m_X12_isAgreed_J24  Q s0 M) : G Y X 2 24 [] ((vI s0) :: []) M := by
  unfold m_X12_isAgreed_J24 at h
  obtain ⟨g1, h⟩ := h
  exact g_retz C hR dX12_isAgreed_24 g1 h
set_option maxRecDepth 20000 in
theorem t_X12_isAgreed {l : Launch} {Y : YT} (hY : YOK Y) {a0 : Int} {M : Mem} {Q : Int → Mem → Prop} (h : m_X12_isAgreed a0 M Q) : Ctr l Y yX12_isAgreed cX12_isAgreed 2 (some .boolean) 6 [vR Y 199, vI a0] M (PQi Y Q) := by
  unfold m_X12_isAgreed at h
  refine ctr_ofF hY (by decide +kernel) (Nat.le_of_ble_eq_true rfl) [(0, vR Y 199), (1, vI a0)] rfl (fun X hX C hR => ?_)
  refine g_aload_n (q := 0) C dX12_isAgreed_0 rfl rfl ?_
  refine g_iload_n (q := 1) C dX12_isAgreed_1 rfl rfl ?_
  refine g_cVv (As := [vI a0]) C clX12_453 clvX12_runs dX12_isAgreed_2 kd_199 rfl (Nat.le_of_ble_eq_true rfl) rfl (by decide) (t_X12_runs (Cx.ok C) h) (fun M2 h => ?_)
  refine g_aload_n (q := 0) C dX12_isAgreed_5 rfl rfl ?_
  refine g_iload_n (q := 1) C dX12_isAgreed_6 rfl rfl ?_
  refine g_cVi (As := [vI a0]) C clX12_456 clvX12_trues dX12_isAgreed_7 kd_199 rfl (Nat.le_of_ble_eq_true rfl) rfl (by decide) (t_X12_trues (Cx.ok C) h) (fun r4 M3 h => ?_)
  refine g_aload_n (q := 0) C dX12_isAgreed_10 rfl rfl ?_
  refine g_getS (v := 230) C fX12_165 dX12_isAgreed_11 kd_199 rfl ?_
  refine g_iload_n (q := 1) C dX12_isAgreed_14 rfl rfl ?_
  obtain ⟨g5, h⟩ := h
  refine g_iald C dX12_isAgreed_15 kd_230 ln_230 g5 ?_
  obtain ⟨g6, h⟩ := h
  obtain ⟨g7, h⟩ := h
  obtain ⟨ht, hf⟩ := h
  refine g_icmp_ne (tgt := 23) C dX12_isAgreed_16 (by decide) g6 g7 (fun c => ?_) (fun c => ?_)
  · have h := hf c
    refine g_iconst C dX12_isAgreed_23 rfl ?_
    refine G.sub [] rfl ?_
    exact w_X12_isAgreed_J24 C hR  h
  · have h := ht c
    refine g_iconst C dX12_isAgreed_19 rfl ?_
    refine g_goto (tgt := 24) C dX12_isAgreed_20 (by decide) ?_
    refine G.sub [] rfl ?_
    exact w_X12_isAgreed_J24 C hR  h
set_option maxRecDepth 20000 in
theorem w_X12_writesDown_J59 {Y : YT} {X : CX} (C : Cx Y X cX12_writesDown 4 RX12 1) {Q : Mem → Prop} (hR : Rt Y X none (PQv Y Q)) {v1 : Int} {v2 : Int}  {M : Mem}  (h : m_X12_writesDown_J59  Q v1 v2 M) : G Y X 4 59 [(0, vR Y 199), (1, vI v1), (2, vI v2)] ([]) M := by
  unfold m_X12_writesDown_J59 at h
  refine g_iconst C dX12_writesDown_59 rfl ?_
  refine g_bipush (v := 40) C dX12_writesDown_60 (by decide +kernel) ?_
  refine g_iload_n (q := 1) C dX12_writesDown_62 rfl rfl ?_
  refine g_imul C dX12_writesDown_63 ?_
  refine g_aload_n (q := 0) C dX12_writesDown_64 rfl rfl ?_
  refine g_getS (v := 232) C fX12_171 dX12_writesDown_65 kd_199 rfl ?_
  refine g_iload_n (q := 1) C dX12_writesDown_68 rfl rfl ?_
  obtain ⟨g1, h⟩ := h
  refine g_iald C dX12_writesDown_69 kd_232 ln_232 g1 ?_
  refine g_iadd C dX12_writesDown_70 ?_
  refine g_imul C dX12_writesDown_71 ?_
  refine g_istore_n (lv' := [(3, vI (3 * ((40 * v1) + (M 232 v1)))), (0, vR Y 199), (1, vI v1), (2, vI v2)]) C dX12_writesDown_72 rfl (by decide) rfl ?_
  refine g_aload_n (q := 1) C dX12_writesDown_73 rfl rfl ?_
  refine g_getS (v := 233) C fX12_174 dX12_writesDown_74 kd_199 rfl ?_
  refine g_iload_n (q := 0) C dX12_writesDown_77 rfl rfl ?_
  refine g_aload_n (q := 1) C dX12_writesDown_78 rfl rfl ?_
  refine g_getS (v := 227) C fX12_156 dX12_writesDown_79 kd_199 rfl ?_
  refine g_iload_n (q := 2) C dX12_writesDown_82 rfl rfl ?_
  obtain ⟨g2, h⟩ := h
  refine g_iald C dX12_writesDown_83 kd_227 ln_227 g2 ?_
  obtain ⟨g3, h⟩ := h
  obtain ⟨M4, e_M4⟩ : ∃ z : Mem, z = up M 233 (3 * ((40 * v1) + (M 232 v1))) (M 227 v1) := ⟨_, rfl⟩
  have h := h M4 e_M4
  refine g_iast C dX12_writesDown_84 kd_233 ln_233 g3 e_M4 ?_
  refine g_aload_n (q := 1) C dX12_writesDown_85 rfl rfl ?_
  refine g_getS (v := 233) C fX12_174 dX12_writesDown_86 kd_199 rfl ?_
  refine g_iload_n (q := 0) C dX12_writesDown_89 rfl rfl ?_
  refine g_iconst C dX12_writesDown_90 rfl ?_
  refine g_iadd C dX12_writesDown_91 ?_
  refine g_aload_n (q := 1) C dX12_writesDown_92 rfl rfl ?_
  refine g_getS (v := 230) C fX12_165 dX12_writesDown_93 kd_199 rfl ?_
  refine g_iload_n (q := 2) C dX12_writesDown_96 rfl rfl ?_
  obtain ⟨g5, h⟩ := h
  refine g_iald C dX12_writesDown_97 kd_230 ln_230 g5 ?_
  obtain ⟨g6, h⟩ := h
  obtain ⟨M7, e_M7⟩ : ∃ z : Mem, z = up M4 233 ((3 * ((40 * v1) + (M 232 v1))) + 1) (M4 230 v1) := ⟨_, rfl⟩
  have h := h M7 e_M7
  refine g_iast C dX12_writesDown_98 kd_233 ln_233 g6 e_M7 ?_
  refine g_aload_n (q := 1) C dX12_writesDown_99 rfl rfl ?_
  refine g_getS (v := 233) C fX12_174 dX12_writesDown_100 kd_199 rfl ?_
  refine g_iload_n (q := 0) C dX12_writesDown_103 rfl rfl ?_
  refine g_iconst C dX12_writesDown_104 rfl ?_
  refine g_iadd C dX12_writesDown_105 ?_
  refine g_iload_n (q := 3) C dX12_writesDown_106 rfl rfl ?_
  obtain ⟨g8, h⟩ := h
  obtain ⟨M9, e_M9⟩ : ∃ z : Mem, z = up M7 233 ((3 * ((40 * v1) + (M 232 v1))) + 2) v2 := ⟨_, rfl⟩
  have h := h M9 e_M9
  refine g_iast C dX12_writesDown_107 kd_233 ln_233 g8 e_M9 ?_
  refine g_aload_n (q := 1) C dX12_writesDown_108 rfl rfl ?_
  refine g_getS (v := 232) C fX12_171 dX12_writesDown_109 kd_199 rfl ?_
  refine g_iload_n (q := 2) C dX12_writesDown_112 rfl rfl ?_
  refine g_dup2 C dX12_writesDown_113 rfl rfl ?_
  obtain ⟨g10, h⟩ := h
  refine g_iald C dX12_writesDown_114 kd_232 ln_232 g10 ?_
  refine g_iconst C dX12_writesDown_115 rfl ?_
  refine g_iadd C dX12_writesDown_116 ?_
  obtain ⟨g11, h⟩ := h
  obtain ⟨M12, e_M12⟩ : ∃ z : Mem, z = up M9 232 v1 ((M9 232 v1) + 1) := ⟨_, rfl⟩
  have h := h M12 e_M12
  refine g_iast C dX12_writesDown_117 kd_232 ln_232 g11 e_M12 ?_
  exact g_retv C hR dX12_writesDown_118 h
set_option maxRecDepth 20000 in
theorem w_X12_writesDown_L16 {Y : YT} {X : CX} (C : Cx Y X cX12_writesDown 4 RX12 1) {Q : Mem → Prop} (hR : Rt Y X none (PQv Y Q)) {v1 : Int} {v2 : Int}  : ∀ (f : Nat) (v3 : Int) (M : Mem), m_X12_writesDown_L16  Q v1 v2 f v3 M → G Y X 4 16 [(0, vR Y 199), (1, vI v1), (2, vI v2), (3, vI v3)] ([]) M := by
  intro f
  induction f with
  | zero =>
    intro v3 M h
    exact (show False from h).elim
  | succ f ih =>
    intro v3 M h
    unfold m_X12_writesDown_L16 at h
    refine g_iload_n (q := 3) C dX12_writesDown_16 rfl rfl ?_
    refine g_bipush (v := 120) C dX12_writesDown_17 (by decide +kernel) ?_
    refine g_iload_n (q := 1) C dX12_writesDown_19 rfl rfl ?_
    refine g_imul C dX12_writesDown_20 ?_
    refine g_bipush (v := 120) C dX12_writesDown_21 (by decide +kernel) ?_
    refine g_iadd C dX12_writesDown_23 ?_
    refine g_iconst C dX12_writesDown_24 rfl ?_
    refine g_isub C dX12_writesDown_25 ?_
    obtain ⟨g13, h⟩ := h
    obtain ⟨g14, h⟩ := h
    obtain ⟨ht, hf⟩ := h
    refine g_icmp_ge (tgt := 49) C dX12_writesDown_26 (by decide) g13 g14 (fun c => ?_) (fun c => ?_)
    · have h := ht c
      refine g_aload_n (q := 0) C dX12_writesDown_49 rfl rfl ?_
      refine g_getS (v := 232) C fX12_171 dX12_writesDown_50 kd_199 rfl ?_
      refine g_iload_n (q := 1) C dX12_writesDown_53 rfl rfl ?_
      refine g_dup2 C dX12_writesDown_54 rfl rfl ?_
      obtain ⟨g15, h⟩ := h
      refine g_iald C dX12_writesDown_55 kd_232 ln_232 g15 ?_
      refine g_iconst C dX12_writesDown_56 rfl ?_
      refine g_isub C dX12_writesDown_57 ?_
      obtain ⟨g16, h⟩ := h
      obtain ⟨M17, e_M17⟩ : ∃ z : Mem, z = up M 232 v1 ((M 232 v1) - 1) := ⟨_, rfl⟩
      have h := h M17 e_M17
      refine g_iast C dX12_writesDown_58 kd_232 ln_232 g16 e_M17 ?_
      refine G.sub [0, 1, 2] rfl ?_
      exact w_X12_writesDown_J59 C hR  h
    · have h := hf c
      refine g_aload_n (q := 0) C dX12_writesDown_29 rfl rfl ?_
      refine g_getS (v := 233) C fX12_174 dX12_writesDown_30 kd_199 rfl ?_
      refine g_iload_n (q := 3) C dX12_writesDown_33 rfl rfl ?_
      refine g_aload_n (q := 0) C dX12_writesDown_34 rfl rfl ?_
      refine g_getS (v := 233) C fX12_174 dX12_writesDown_35 kd_199 rfl ?_
      refine g_iload_n (q := 3) C dX12_writesDown_38 rfl rfl ?_
      refine g_iconst C dX12_writesDown_39 rfl ?_
      refine g_iadd C dX12_writesDown_40 ?_
      obtain ⟨g18, h⟩ := h
      refine g_iald C dX12_writesDown_41 kd_233 ln_233 g18 ?_
      obtain ⟨g19, h⟩ := h
      obtain ⟨M20, e_M20⟩ : ∃ z : Mem, z = up M 233 v3 (M 233 (v3 + 3)) := ⟨_, rfl⟩
      have h := h M20 e_M20
      refine g_iast C dX12_writesDown_42 kd_233 ln_233 g19 e_M20 ?_
      refine g_iinc (q := 3) (v := v3 + 1) (lv' := [(3, vI (v3 + 1)), (0, vR Y 199), (1, vI v1), (2, vI v2)]) C dX12_writesDown_43 rfl rfl (by decide) rfl ?_
      refine g_goto (tgt := 16) C dX12_writesDown_46 (by decide) ?_
      refine G.sub [1, 2, 3, 0] rfl ?_
      exact ih _ _ h
set_option maxRecDepth 20000 in
theorem t_X12_writesDown {l : Launch} {Y : YT} (hY : YOK Y) {a0 : Int} {a1 : Int} {M : Mem} {Q : Mem → Prop} (h : m_X12_writesDown a0 a1 M Q) : Ctr l Y yX12_writesDown cX12_writesDown 4 none 1 [vR Y 199, vI a0, vI a1] M (PQv Y Q) := by
  unfold m_X12_writesDown at h
  refine ctr_ofF hY (by decide +kernel) (Nat.le_of_ble_eq_true rfl) [(0, vR Y 199), (1, vI a0), (2, vI a1)] rfl (fun X hX C hR => ?_)
  refine g_aload_n (q := 0) C dX12_writesDown_0 rfl rfl ?_
  refine g_getS (v := 232) C fX12_171 dX12_writesDown_1 kd_199 rfl ?_
  refine g_iload_n (q := 1) C dX12_writesDown_4 rfl rfl ?_
  obtain ⟨g21, h⟩ := h
  refine g_iald C dX12_writesDown_5 kd_232 ln_232 g21 ?_
  refine g_bipush (v := 40) C dX12_writesDown_6 (by decide +kernel) ?_
  obtain ⟨g22, h⟩ := h
  obtain ⟨ht, hf⟩ := h
  refine g_icmp_ne (tgt := 59) C dX12_writesDown_8 (by decide) g22 (by decide) (fun c => ?_) (fun c => ?_)
  · have h := hf c
    refine G.sub [0, 1, 2] rfl ?_
    exact w_X12_writesDown_J59 C hR  h
  · have h := ht c
    refine g_bipush (v := 120) C dX12_writesDown_11 (by decide +kernel) ?_
    refine g_iload_n (q := 1) C dX12_writesDown_13 rfl rfl ?_
    refine g_imul C dX12_writesDown_14 ?_
    refine g_istore_n (lv' := [(3, vI (120 * a0)), (0, vR Y 199), (1, vI a0), (2, vI a1)]) C dX12_writesDown_15 rfl (by decide) rfl ?_
    obtain ⟨f0, h⟩ := h
    refine G.sub [1, 2, 3, 0] rfl ?_
    exact w_X12_writesDown_L16 C hR  f0 _ _ h
set_option maxRecDepth 20000 in
theorem w_X12_passes_L18 {Y : YT} {X : CX} (C : Cx Y X cX12_passes 4 RX12 7) {Q : Int → Mem → Prop} (hR : Rt Y X (some .boolean) (PQi Y Q)) {v1 : Int} {v2 : Int}  : ∀ (f : Nat) (v3 : Int) (M : Mem), m_X12_passes_L18  Q v1 v2 f v3 M → G Y X 4 18 [(0, vR Y 199), (1, vI v1), (2, vI v2), (3, vI v3)] ([]) M := by
  intro f
  induction f with
  | zero =>
    intro v3 M h
    exact (show False from h).elim
  | succ f ih =>
    intro v3 M h
    unfold m_X12_passes_L18 at h
    refine g_iload_n (q := 3) C dX12_passes_18 rfl rfl ?_
    refine g_aload_n (q := 0) C dX12_passes_19 rfl rfl ?_
    refine g_getS (v := 205) C fX12_66 dX12_passes_20 kd_199 rfl ?_
    refine g_aload_n (q := 0) C dX12_passes_23 rfl rfl ?_
    refine g_getI C fX12_51 (by decide) dX12_passes_24 kd_199 ?_
    obtain ⟨g1, h⟩ := h
    refine g_iald C dX12_passes_27 kd_205 ln_205 g1 ?_
    obtain ⟨g2, h⟩ := h
    obtain ⟨g3, h⟩ := h
    obtain ⟨ht, hf⟩ := h
    refine g_icmp_ge (tgt := 57) C dX12_passes_28 (by decide) g2 g3 (fun c => ?_) (fun c => ?_)
    · have h := ht c
      refine g_aload_n (q := 0) C dX12_passes_57 rfl rfl ?_
      refine g_getS (v := 230) C fX12_165 dX12_passes_58 kd_199 rfl ?_
      refine g_iload_n (q := 1) C dX12_passes_61 rfl rfl ?_
      refine g_iconst C dX12_passes_62 rfl ?_
      obtain ⟨g4, h⟩ := h
      obtain ⟨M5, e_M5⟩ : ∃ z : Mem, z = up M 230 v1 0 := ⟨_, rfl⟩
      have h := h M5 e_M5
      refine g_iast C dX12_passes_63 kd_230 ln_230 g4 e_M5 ?_
      refine g_aload_n (q := 0) C dX12_passes_64 rfl rfl ?_
      refine g_getS (v := 227) C fX12_156 dX12_passes_65 kd_199 rfl ?_
      refine g_iload_n (q := 1) C dX12_passes_68 rfl rfl ?_
      refine g_dup2 C dX12_passes_69 rfl rfl ?_
      obtain ⟨g6, h⟩ := h
      refine g_iald C dX12_passes_70 kd_227 ln_227 g6 ?_
      refine g_iconst C dX12_passes_71 rfl ?_
      refine g_iadd C dX12_passes_72 ?_
      obtain ⟨g7, h⟩ := h
      obtain ⟨M8, e_M8⟩ : ∃ z : Mem, z = up M5 227 v1 ((M5 227 v1) + 1) := ⟨_, rfl⟩
      have h := h M8 e_M8
      refine g_iast C dX12_passes_73 kd_227 ln_227 g7 e_M8 ?_
      refine g_iload_n (q := 2) C dX12_passes_74 rfl rfl ?_
      obtain ⟨g9, h⟩ := h
      exact g_retz C hR dX12_passes_75 g9 h
    · have h := hf c
      refine g_aload_n (q := 0) C dX12_passes_31 rfl rfl ?_
      refine g_getS (v := 228) C fX12_159 dX12_passes_32 kd_199 rfl ?_
      refine g_bipush (v := 6) C dX12_passes_35 (by decide +kernel) ?_
      refine g_iload_n (q := 1) C dX12_passes_37 rfl rfl ?_
      refine g_imul C dX12_passes_38 ?_
      refine g_iload_n (q := 3) C dX12_passes_39 rfl rfl ?_
      refine g_iadd C dX12_passes_40 ?_
      refine g_aload_n (q := 0) C dX12_passes_41 rfl rfl ?_
      refine g_getS (v := 236) C fX12_192 dX12_passes_42 kd_199 rfl ?_
      refine g_bipush (v := 48) C dX12_passes_45 (by decide +kernel) ?_
      refine g_iload_n (q := 3) C dX12_passes_47 rfl rfl ?_
      refine g_iadd C dX12_passes_48 ?_
      obtain ⟨g10, h⟩ := h
      refine g_iald C dX12_passes_49 kd_236 ln_236 g10 ?_
      obtain ⟨g11, h⟩ := h
      obtain ⟨M12, e_M12⟩ : ∃ z : Mem, z = up M 228 ((6 * v1) + v3) (M 236 (48 + v3)) := ⟨_, rfl⟩
      have h := h M12 e_M12
      refine g_iast C dX12_passes_50 kd_228 ln_228 g11 e_M12 ?_
      refine g_iinc (q := 3) (v := v3 + 1) (lv' := [(3, vI (v3 + 1)), (0, vR Y 199), (1, vI v1), (2, vI v2)]) C dX12_passes_51 rfl rfl (by decide) rfl ?_
      refine g_goto (tgt := 18) C dX12_passes_54 (by decide) ?_
      refine G.sub [1, 2, 3, 0] rfl ?_
      exact ih _ _ h
set_option maxRecDepth 20000 in
theorem t_X12_passes {l : Launch} {Y : YT} (hY : YOK Y) {a0 : Int} {M : Mem} {Q : Int → Mem → Prop} (h : m_X12_passes a0 M Q) : Ctr l Y yX12_passes cX12_passes 4 (some .boolean) 7 [vR Y 199, vI a0] M (PQi Y Q) := by
  unfold m_X12_passes at h
  refine ctr_ofF hY (by decide +kernel) (Nat.le_of_ble_eq_true rfl) [(0, vR Y 199), (1, vI a0)] rfl (fun X hX C hR => ?_)
  refine g_aload_n (q := 0) C dX12_passes_0 rfl rfl ?_
  refine g_iload_n (q := 1) C dX12_passes_1 rfl rfl ?_
  refine g_cVi (As := [vI a0]) C clX12_459 clvX12_isAgreed dX12_passes_2 kd_199 rfl (Nat.le_of_ble_eq_true rfl) rfl (by decide) (t_X12_isAgreed (Cx.ok C) h) (fun r14 M13 h => ?_)
  refine g_istore_n (lv' := [(2, vI r14), (0, vR Y 199), (1, vI a0)]) C dX12_passes_5 rfl (by decide) rfl ?_
  refine g_aload_n (q := 1) C dX12_passes_6 rfl rfl ?_
  refine g_iload_n (q := 2) C dX12_passes_7 rfl rfl ?_
  refine g_aload_n (q := 1) C dX12_passes_8 rfl rfl ?_
  refine g_iload_n (q := 2) C dX12_passes_9 rfl rfl ?_
  refine g_cVi (As := [vI a0]) C clX12_456 clvX12_trues dX12_passes_10 kd_199 rfl (Nat.le_of_ble_eq_true rfl) rfl (by decide) (t_X12_trues (Cx.ok C) h) (fun r16 M15 h => ?_)
  refine g_cVv (As := [vI a0, vI r16]) C clX12_462 clvX12_writesDown dX12_passes_13 kd_199 rfl (Nat.le_of_ble_eq_true rfl) rfl (by decide) (t_X12_writesDown (Cx.ok C) h) (fun M17 h => ?_)
  refine g_iconst C dX12_passes_16 rfl ?_
  refine g_istore_n (lv' := [(3, vI 0), (2, vI r14), (0, vR Y 199), (1, vI a0)]) C dX12_passes_17 rfl (by decide) rfl ?_
  obtain ⟨f0, h⟩ := h
  refine G.sub [2, 3, 1, 0] rfl ?_
  exact w_X12_passes_L18 C hR  f0 _ _ h
set_option maxRecDepth 20000 in
theorem w_X12_takes_L9 {Y : YT} {X : CX} (C : Cx Y X cX12_takes 4 RX12 1) {Q : Mem → Prop} (hR : Rt Y X none (PQv Y Q)) {v1 : Int}  : ∀ (f : Nat) (v3 : Int) (M : Mem), m_X12_takes_L9  Q v1 f v3 M → G Y X 4 9 [(0, vR Y 199), (1, vI v1), (3, vI v3)] ([]) M := by
  intro f
  induction f with
  | zero =>
    intro v3 M h
    exact (show False from h).elim
  | succ f ih =>
    intro v3 M h
    unfold m_X12_takes_L9 at h
    refine g_iload_n (q := 2) C dX12_takes_9 rfl rfl ?_
    refine g_iconst C dX12_takes_10 rfl ?_
    refine g_bipush (v := 9) C dX12_takes_11 (by decide +kernel) ?_
    refine g_iload_n (q := 1) C dX12_takes_13 rfl rfl ?_
    refine g_imul C dX12_takes_14 ?_
    refine g_aload_n (q := 0) C dX12_takes_15 rfl rfl ?_
    refine g_getS (v := 230) C fX12_165 dX12_takes_16 kd_199 rfl ?_
    refine g_iload_n (q := 1) C dX12_takes_19 rfl rfl ?_
    obtain ⟨g1, h⟩ := h
    refine g_iald C dX12_takes_20 kd_230 ln_230 g1 ?_
    refine g_iadd C dX12_takes_21 ?_
    refine g_imul C dX12_takes_22 ?_
    refine g_iconst C dX12_takes_23 rfl ?_
    refine g_isub C dX12_takes_24 ?_
    obtain ⟨g2, h⟩ := h
    obtain ⟨g3, h⟩ := h
    obtain ⟨ht, hf⟩ := h
    refine g_icmp_ge (tgt := 48) C dX12_takes_25 (by decide) g2 g3 (fun c => ?_) (fun c => ?_)
    · have h := ht c
      refine g_aload_n (q := 0) C dX12_takes_48 rfl rfl ?_
      refine g_getS (v := 230) C fX12_165 dX12_takes_49 kd_199 rfl ?_
      refine g_iload_n (q := 1) C dX12_takes_52 rfl rfl ?_
      refine g_dup2 C dX12_takes_53 rfl rfl ?_
      obtain ⟨g4, h⟩ := h
      refine g_iald C dX12_takes_54 kd_230 ln_230 g4 ?_
      refine g_iconst C dX12_takes_55 rfl ?_
      refine g_isub C dX12_takes_56 ?_
      obtain ⟨g5, h⟩ := h
      obtain ⟨M6, e_M6⟩ : ∃ z : Mem, z = up M 230 v1 ((M 230 v1) - 1) := ⟨_, rfl⟩
      have h := h M6 e_M6
      refine g_iast C dX12_takes_57 kd_230 ln_230 g5 e_M6 ?_
      exact g_retv C hR dX12_takes_58 h
    · have h := hf c
      refine g_aload_n (q := 0) C dX12_takes_28 rfl rfl ?_
      refine g_getS (v := 231) C fX12_168 dX12_takes_29 kd_199 rfl ?_
      refine g_iload_n (q := 2) C dX12_takes_32 rfl rfl ?_
      refine g_aload_n (q := 0) C dX12_takes_33 rfl rfl ?_
      refine g_getS (v := 231) C fX12_168 dX12_takes_34 kd_199 rfl ?_
      refine g_iload_n (q := 2) C dX12_takes_37 rfl rfl ?_
      refine g_iconst C dX12_takes_38 rfl ?_
      refine g_iadd C dX12_takes_39 ?_
      obtain ⟨g7, h⟩ := h
      refine g_iald C dX12_takes_40 kd_231 ln_231 g7 ?_
      obtain ⟨g8, h⟩ := h
      obtain ⟨M9, e_M9⟩ : ∃ z : Mem, z = up M 231 v3 (M 231 (v3 + 3)) := ⟨_, rfl⟩
      have h := h M9 e_M9
      refine g_iast C dX12_takes_41 kd_231 ln_231 g8 e_M9 ?_
      refine g_iinc (q := 2) (v := v3 + 1) (lv' := [(3, vI (v3 + 1)), (0, vR Y 199), (1, vI v1)]) C dX12_takes_42 rfl rfl (by decide) rfl ?_
      refine g_goto (tgt := 9) C dX12_takes_45 (by decide) ?_
      refine G.sub [1, 2, 0] rfl ?_
      exact ih _ _ h
set_option maxRecDepth 20000 in
theorem t_X12_takes {l : Launch} {Y : YT} (hY : YOK Y) {a0 : Int} {a1 : Int} {M : Mem} {Q : Mem → Prop} (h : m_X12_takes a0 a1 M Q) : Ctr l Y yX12_takes cX12_takes 4 none 1 [vR Y 199, vI a0, vI a1] M (PQv Y Q) := by
  unfold m_X12_takes at h
  refine ctr_ofF hY (by decide +kernel) (Nat.le_of_ble_eq_true rfl) [(0, vR Y 199), (1, vI a0), (2, vI a1)] rfl (fun X hX C hR => ?_)
  refine g_iconst C dX12_takes_0 rfl ?_
  refine g_bipush (v := 9) C dX12_takes_1 (by decide +kernel) ?_
  refine g_iload_n (q := 1) C dX12_takes_3 rfl rfl ?_
  refine g_imul C dX12_takes_4 ?_
  refine g_iload_n (q := 2) C dX12_takes_5 rfl rfl ?_
  refine g_iadd C dX12_takes_6 ?_
  refine g_imul C dX12_takes_7 ?_
  refine g_istore_n (lv' := [(3, vI (3 * ((9 * a0) + a1))), (0, vR Y 199), (1, vI a0), (2, vI a1)]) C dX12_takes_8 rfl (by decide) rfl ?_
  obtain ⟨f0, h⟩ := h
  refine G.sub [1, 2, 0] rfl ?_
  exact w_X12_takes_L9 C hR  f0 _ _ h
set_option maxRecDepth 20000 in
theorem t_X12_shows {l : Launch} {Y : YT} (hY : YOK Y) {a0 : Int} {a1 : Int} {a2 : Int} {a3 : Int} {M : Mem} {Q : Mem → Prop} (h : m_X12_shows a0 a1 a2 a3 M Q) : Ctr l Y yX12_shows cX12_shows 6 none 1 [vR Y 199, vI a0, vI a1, vI a2, vI a3] M (PQv Y Q) := by
  unfold m_X12_shows at h
  refine ctr_ofF hY (by decide +kernel) (Nat.le_of_ble_eq_true rfl) [(0, vR Y 199), (1, vI a0), (2, vI a1), (3, vI a2), (4, vI a3)] rfl (fun X hX C hR => ?_)
  refine g_iconst C dX12_shows_0 rfl ?_
  refine g_bipush (v := 9) C dX12_shows_1 (by decide +kernel) ?_
  refine g_iload_n (q := 1) C dX12_shows_3 rfl rfl ?_
  refine g_imul C dX12_shows_4 ?_
  refine g_aload_n (q := 0) C dX12_shows_5 rfl rfl ?_
  refine g_getS (v := 230) C fX12_165 dX12_shows_6 kd_199 rfl ?_
  refine g_iload_n (q := 1) C dX12_shows_9 rfl rfl ?_
  obtain ⟨g1, h⟩ := h
  refine g_iald C dX12_shows_10 kd_230 ln_230 g1 ?_
  refine g_iadd C dX12_shows_11 ?_
  refine g_imul C dX12_shows_12 ?_
  refine g_istore (lv' := [(5, vI (3 * ((9 * a0) + (M 230 a0)))), (0, vR Y 199), (1, vI a0), (2, vI a1), (3, vI a2), (4, vI a3)]) C dX12_shows_13 (by decide) rfl ?_
  refine g_aload_n (q := 1) C dX12_shows_15 rfl rfl ?_
  refine g_getS (v := 231) C fX12_168 dX12_shows_16 kd_199 rfl ?_
  refine g_iload (q := 0) C dX12_shows_19 rfl ?_
  refine g_iload_n (q := 3) C dX12_shows_21 rfl rfl ?_
  obtain ⟨g2, h⟩ := h
  obtain ⟨M3, e_M3⟩ : ∃ z : Mem, z = up M 231 (3 * ((9 * a0) + (M 230 a0))) a1 := ⟨_, rfl⟩
  have h := h M3 e_M3
  refine g_iast C dX12_shows_22 kd_231 ln_231 g2 e_M3 ?_
  refine g_aload_n (q := 1) C dX12_shows_23 rfl rfl ?_
  refine g_getS (v := 231) C fX12_168 dX12_shows_24 kd_199 rfl ?_
  refine g_iload (q := 0) C dX12_shows_27 rfl ?_
  refine g_iconst C dX12_shows_29 rfl ?_
  refine g_iadd C dX12_shows_30 ?_
  refine g_iload_n (q := 4) C dX12_shows_31 rfl rfl ?_
  obtain ⟨g4, h⟩ := h
  obtain ⟨M5, e_M5⟩ : ∃ z : Mem, z = up M3 231 ((3 * ((9 * a0) + (M 230 a0))) + 1) a2 := ⟨_, rfl⟩
  have h := h M5 e_M5
  refine g_iast C dX12_shows_32 kd_231 ln_231 g4 e_M5 ?_
  refine g_aload_n (q := 1) C dX12_shows_33 rfl rfl ?_
  refine g_getS (v := 231) C fX12_168 dX12_shows_34 kd_199 rfl ?_
  refine g_iload (q := 0) C dX12_shows_37 rfl ?_
  refine g_iconst C dX12_shows_39 rfl ?_
  refine g_iadd C dX12_shows_40 ?_
  refine g_iload (q := 5) C dX12_shows_41 rfl ?_
  obtain ⟨g6, h⟩ := h
  obtain ⟨M7, e_M7⟩ : ∃ z : Mem, z = up M5 231 ((3 * ((9 * a0) + (M 230 a0))) + 2) a3 := ⟨_, rfl⟩
  have h := h M7 e_M7
  refine g_iast C dX12_shows_43 kd_231 ln_231 g6 e_M7 ?_
  refine g_aload_n (q := 1) C dX12_shows_44 rfl rfl ?_
  refine g_getS (v := 230) C fX12_165 dX12_shows_45 kd_199 rfl ?_
  refine g_iload_n (q := 2) C dX12_shows_48 rfl rfl ?_
  refine g_dup2 C dX12_shows_49 rfl rfl ?_
  obtain ⟨g8, h⟩ := h
  refine g_iald C dX12_shows_50 kd_230 ln_230 g8 ?_
  refine g_iconst C dX12_shows_51 rfl ?_
  refine g_iadd C dX12_shows_52 ?_
  obtain ⟨g9, h⟩ := h
  obtain ⟨M10, e_M10⟩ : ∃ z : Mem, z = up M7 230 a0 ((M7 230 a0) + 1) := ⟨_, rfl⟩
  have h := h M10 e_M10
  refine g_iast C dX12_shows_53 kd_230 ln_230 g9 e_M10 ?_
  exact g_retv C hR dX12_shows_54 h
set_option maxRecDepth 20000 in
theorem w_X12_frameAt_J55 {Y : YT} {X : CX} (C : Cx Y X cX12_frameAt 5 RX12 1) {Q : Int → Mem → Prop} (hR : Rt Y X (some .int) (PQi Y Q)) {v1 : Int} {v2 : Int} {v3 : Int} {v4 : Int} {k3 : Int → Mem → Prop} (hk3 : ∀ (v4 : Int)  (M : Mem), k3 v4 M → G Y X 5 3 [(0, vR Y 199), (1, vI v1), (2, vI v2), (3, vI v3), (4, vI v4)] ([]) M) {M : Mem}  (h : m_X12_frameAt_J55 k3 Q v1 v2 v3 v4 M) : G Y X 5 55 [(0, vR Y 199), (1, vI v1), (2, vI v2), (3, vI v3), (4, vI v4)] ([]) M := by
  unfold m_X12_frameAt_J55 at h
  refine g_iinc (q := 4) (v := v4 + 1) (lv' := [(4, vI (v4 + 1)), (0, vR Y 199), (1, vI v1), (2, vI v2), (3, vI v3)]) C dX12_frameAt_55 rfl rfl (by decide) rfl ?_
  refine g_goto (tgt := 3) C dX12_frameAt_58 (by decide) ?_
  refine G.sub [1, 2, 3, 4, 0] rfl ?_
  exact hk3 _ _ h
set_option maxRecDepth 20000 in
theorem w_X12_frameAt_L3 {Y : YT} {X : CX} (C : Cx Y X cX12_frameAt 5 RX12 1) {Q : Int → Mem → Prop} (hR : Rt Y X (some .int) (PQi Y Q)) {v1 : Int} {v2 : Int} {v3 : Int}  : ∀ (f : Nat) (v4 : Int) (M : Mem), m_X12_frameAt_L3  Q v1 v2 v3 f v4 M → G Y X 5 3 [(0, vR Y 199), (1, vI v1), (2, vI v2), (3, vI v3), (4, vI v4)] ([]) M := by
  intro f
  induction f with
  | zero =>
    intro v4 M h
    exact (show False from h).elim
  | succ f ih =>
    intro v4 M h
    unfold m_X12_frameAt_L3 at h
    refine g_iload (q := 4) C dX12_frameAt_3 rfl ?_
    refine g_aload_n (q := 0) C dX12_frameAt_5 rfl rfl ?_
    refine g_getS (v := 230) C fX12_165 dX12_frameAt_6 kd_199 rfl ?_
    refine g_iload_n (q := 1) C dX12_frameAt_9 rfl rfl ?_
    obtain ⟨g1, h⟩ := h
    refine g_iald C dX12_frameAt_10 kd_230 ln_230 g1 ?_
    obtain ⟨g2, h⟩ := h
    obtain ⟨g3, h⟩ := h
    obtain ⟨ht, hf⟩ := h
    refine g_icmp_ge (tgt := 61) C dX12_frameAt_11 (by decide) g2 g3 (fun c => ?_) (fun c => ?_)
    · have h := ht c
      refine g_iconst C dX12_frameAt_61 rfl ?_
      exact g_reti C hR dX12_frameAt_62 h
    · have h := hf c
      refine g_aload_n (q := 0) C dX12_frameAt_14 rfl rfl ?_
      refine g_getS (v := 231) C fX12_168 dX12_frameAt_15 kd_199 rfl ?_
      refine g_iconst C dX12_frameAt_18 rfl ?_
      refine g_bipush (v := 9) C dX12_frameAt_19 (by decide +kernel) ?_
      refine g_iload_n (q := 1) C dX12_frameAt_21 rfl rfl ?_
      refine g_imul C dX12_frameAt_22 ?_
      refine g_iload (q := 4) C dX12_frameAt_23 rfl ?_
      refine g_iadd C dX12_frameAt_25 ?_
      refine g_imul C dX12_frameAt_26 ?_
      obtain ⟨g4, h⟩ := h
      refine g_iald C dX12_frameAt_27 kd_231 ln_231 g4 ?_
      refine g_iload_n (q := 2) C dX12_frameAt_28 rfl rfl ?_
      obtain ⟨g5, h⟩ := h
      obtain ⟨g6, h⟩ := h
      obtain ⟨ht, hf⟩ := h
      refine g_icmp_ne (tgt := 55) C dX12_frameAt_29 (by decide) g5 g6 (fun c => ?_) (fun c => ?_)
      · have h := hf c
        refine G.sub [0, 1, 2, 3, 4] rfl ?_
        exact w_X12_frameAt_J55 C hR (ih)  h
      · have h := ht c
        refine g_aload_n (q := 0) C dX12_frameAt_32 rfl rfl ?_
        refine g_getS (v := 231) C fX12_168 dX12_frameAt_33 kd_199 rfl ?_
        refine g_iconst C dX12_frameAt_36 rfl ?_
        refine g_bipush (v := 9) C dX12_frameAt_37 (by decide +kernel) ?_
        refine g_iload_n (q := 1) C dX12_frameAt_39 rfl rfl ?_
        refine g_imul C dX12_frameAt_40 ?_
        refine g_iload (q := 4) C dX12_frameAt_41 rfl ?_
        refine g_iadd C dX12_frameAt_43 ?_
        refine g_imul C dX12_frameAt_44 ?_
        refine g_iconst C dX12_frameAt_45 rfl ?_
        refine g_iadd C dX12_frameAt_46 ?_
        obtain ⟨g7, h⟩ := h
        refine g_iald C dX12_frameAt_47 kd_231 ln_231 g7 ?_
        refine g_iload_n (q := 3) C dX12_frameAt_48 rfl rfl ?_
        obtain ⟨g8, h⟩ := h
        obtain ⟨g9, h⟩ := h
        obtain ⟨ht, hf⟩ := h
        refine g_icmp_ne (tgt := 55) C dX12_frameAt_49 (by decide) g8 g9 (fun c => ?_) (fun c => ?_)
        · have h := hf c
          refine G.sub [0, 1, 2, 3, 4] rfl ?_
          exact w_X12_frameAt_J55 C hR (ih)  h
        · have h := ht c
          refine g_iload (q := 4) C dX12_frameAt_52 rfl ?_
          exact g_reti C hR dX12_frameAt_54 h
set_option maxRecDepth 20000 in
theorem t_X12_frameAt {l : Launch} {Y : YT} (hY : YOK Y) {a0 : Int} {a1 : Int} {a2 : Int} {M : Mem} {Q : Int → Mem → Prop} (h : m_X12_frameAt a0 a1 a2 M Q) : Ctr l Y yX12_frameAt cX12_frameAt 5 (some .int) 1 [vR Y 199, vI a0, vI a1, vI a2] M (PQi Y Q) := by
  unfold m_X12_frameAt at h
  refine ctr_ofF hY (by decide +kernel) (Nat.le_of_ble_eq_true rfl) [(0, vR Y 199), (1, vI a0), (2, vI a1), (3, vI a2)] rfl (fun X hX C hR => ?_)
  refine g_iconst C dX12_frameAt_0 rfl ?_
  refine g_istore (lv' := [(4, vI 0), (0, vR Y 199), (1, vI a0), (2, vI a1), (3, vI a2)]) C dX12_frameAt_1 (by decide) rfl ?_
  obtain ⟨f0, h⟩ := h
  refine G.sub [1, 2, 3, 4, 0] rfl ?_
  exact w_X12_frameAt_L3 C hR  f0 _ _ h
set_option maxRecDepth 20000 in
theorem w_X12_isPlace_J22 {Y : YT} {X : CX} (C : Cx Y X cX12_isPlace 2 RX12 1) {Q : Int → Mem → Prop} (hR : Rt Y X (some .boolean) (PQi Y Q)) {s0 : Int}  {M : Mem}  (h : m_X12_isPlace_J22  Q s0 M) : G Y X 2 22 [] ((vI s0) :: []) M := by
  unfold m_X12_isPlace_J22 at h
  obtain ⟨g1, h⟩ := h
  exact g_retz C hR dX12_isPlace_22 g1 h
set_option maxRecDepth 20000 in
theorem w_X12_isPlace_J21 {Y : YT} {X : CX} (C : Cx Y X cX12_isPlace 2 RX12 1) {Q : Int → Mem → Prop} (hR : Rt Y X (some .boolean) (PQi Y Q))   {M : Mem}  (h : m_X12_isPlace_J21  Q  M) : G Y X 2 21 [] ([]) M := by
  unfold m_X12_isPlace_J21 at h
  refine g_iconst C dX12_isPlace_21 rfl ?_
  refine G.sub [] rfl ?_
  exact w_X12_isPlace_J22 C hR  h
set_option maxRecDepth 20000 in
theorem t_X12_isPlace {l : Launch} {Y : YT} (hY : YOK Y) {a0 : Int} {M : Mem} {Q : Int → Mem → Prop} (h : m_X12_isPlace a0 M Q) : Ctr l Y yX12_isPlace cX12_isPlace 2 (some .boolean) 1 [vR Y 199, vI a0] M (PQi Y Q) := by
  unfold m_X12_isPlace at h
  refine ctr_ofF hY (by decide +kernel) (Nat.le_of_ble_eq_true rfl) [(0, vR Y 199), (1, vI a0)] rfl (fun X hX C hR => ?_)
  refine g_iload_n (q := 1) C dX12_isPlace_0 rfl rfl ?_
  obtain ⟨g2, h⟩ := h
  obtain ⟨ht, hf⟩ := h
  refine g_if_lt (tgt := 21) C dX12_isPlace_1 (by decide) g2 (fun c => ?_) (fun c => ?_)
  · have h := ht c
    refine G.sub [] rfl ?_
    exact w_X12_isPlace_J21 C hR  h
  · have h := hf c
    refine g_iload_n (q := 1) C dX12_isPlace_4 rfl rfl ?_
    refine g_aload_n (q := 0) C dX12_isPlace_5 rfl rfl ?_
    refine g_getS (v := 201) C fX12_54 dX12_isPlace_6 kd_199 rfl ?_
    refine g_aload_n (q := 0) C dX12_isPlace_9 rfl rfl ?_
    refine g_getI C fX12_51 (by decide) dX12_isPlace_10 kd_199 ?_
    obtain ⟨g3, h⟩ := h
    refine g_iald C dX12_isPlace_13 kd_201 ln_201 g3 ?_
    obtain ⟨g4, h⟩ := h
    obtain ⟨g5, h⟩ := h
    obtain ⟨ht, hf⟩ := h
    refine g_icmp_ge (tgt := 21) C dX12_isPlace_14 (by decide) g4 g5 (fun c => ?_) (fun c => ?_)
    · have h := ht c
      refine G.sub [] rfl ?_
      exact w_X12_isPlace_J21 C hR  h
    · have h := hf c
      refine g_iconst C dX12_isPlace_17 rfl ?_
      refine g_goto (tgt := 22) C dX12_isPlace_18 (by decide) ?_
      refine G.sub [] rfl ?_
      exact w_X12_isPlace_J22 C hR  h
set_option maxRecDepth 20000 in
theorem w_X12_isPerson_J22 {Y : YT} {X : CX} (C : Cx Y X cX12_isPerson 2 RX12 1) {Q : Int → Mem → Prop} (hR : Rt Y X (some .boolean) (PQi Y Q)) {s0 : Int}  {M : Mem}  (h : m_X12_isPerson_J22  Q s0 M) : G Y X 2 22 [] ((vI s0) :: []) M := by
  unfold m_X12_isPerson_J22 at h
  obtain ⟨g1, h⟩ := h
  exact g_retz C hR dX12_isPerson_22 g1 h
set_option maxRecDepth 20000 in
theorem w_X12_isPerson_J21 {Y : YT} {X : CX} (C : Cx Y X cX12_isPerson 2 RX12 1) {Q : Int → Mem → Prop} (hR : Rt Y X (some .boolean) (PQi Y Q))   {M : Mem}  (h : m_X12_isPerson_J21  Q  M) : G Y X 2 21 [] ([]) M := by
  unfold m_X12_isPerson_J21 at h
  refine g_iconst C dX12_isPerson_21 rfl ?_
  refine G.sub [] rfl ?_
  exact w_X12_isPerson_J22 C hR  h
set_option maxRecDepth 20000 in
theorem t_X12_isPerson {l : Launch} {Y : YT} (hY : YOK Y) {a0 : Int} {M : Mem} {Q : Int → Mem → Prop} (h : m_X12_isPerson a0 M Q) : Ctr l Y yX12_isPerson cX12_isPerson 2 (some .boolean) 1 [vR Y 199, vI a0] M (PQi Y Q) := by
  unfold m_X12_isPerson at h
  refine ctr_ofF hY (by decide +kernel) (Nat.le_of_ble_eq_true rfl) [(0, vR Y 199), (1, vI a0)] rfl (fun X hX C hR => ?_)
  refine g_iload_n (q := 1) C dX12_isPerson_0 rfl rfl ?_
  obtain ⟨g2, h⟩ := h
  obtain ⟨ht, hf⟩ := h
  refine g_if_lt (tgt := 21) C dX12_isPerson_1 (by decide) g2 (fun c => ?_) (fun c => ?_)
  · have h := ht c
    refine G.sub [] rfl ?_
    exact w_X12_isPerson_J21 C hR  h
  · have h := hf c
    refine g_iload_n (q := 1) C dX12_isPerson_4 rfl rfl ?_
    refine g_aload_n (q := 0) C dX12_isPerson_5 rfl rfl ?_
    refine g_getS (v := 205) C fX12_66 dX12_isPerson_6 kd_199 rfl ?_
    refine g_aload_n (q := 0) C dX12_isPerson_9 rfl rfl ?_
    refine g_getI C fX12_51 (by decide) dX12_isPerson_10 kd_199 ?_
    obtain ⟨g3, h⟩ := h
    refine g_iald C dX12_isPerson_13 kd_205 ln_205 g3 ?_
    obtain ⟨g4, h⟩ := h
    obtain ⟨g5, h⟩ := h
    obtain ⟨ht, hf⟩ := h
    refine g_icmp_ge (tgt := 21) C dX12_isPerson_14 (by decide) g4 g5 (fun c => ?_) (fun c => ?_)
    · have h := ht c
      refine G.sub [] rfl ?_
      exact w_X12_isPerson_J21 C hR  h
    · have h := hf c
      refine g_iconst C dX12_isPerson_17 rfl ?_
      refine g_goto (tgt := 22) C dX12_isPerson_18 (by decide) ?_
      refine G.sub [] rfl ?_
      exact w_X12_isPerson_J22 C hR  h
set_option maxRecDepth 20000 in
theorem w_X12_bits_L4 {Y : YT} {X : CX} (C : Cx Y X cX12_bits 3 RX12 1) {Q : Int → Mem → Prop} (hR : Rt Y X (some .int) (PQi Y Q))   : ∀ (f : Nat) (v1 : Int) (v2 : Int) (M : Mem), m_X12_bits_L4  Q f v1 v2 M → G Y X 3 4 [(1, vI v1), (2, vI v2)] ([]) M := by
  intro f
  induction f with
  | zero =>
    intro v1 v2 M h
    exact (show False from h).elim
  | succ f ih =>
    intro v1 v2 M h
    unfold m_X12_bits_L4 at h
    refine g_iload_n (q := 1) C dX12_bits_4 rfl rfl ?_
    obtain ⟨g1, h⟩ := h
    obtain ⟨ht, hf⟩ := h
    refine g_if_eq (tgt := 20) C dX12_bits_5 (by decide) g1 (fun c => ?_) (fun c => ?_)
    · have h := ht c
      refine g_iload_n (q := 0) C dX12_bits_20 rfl rfl ?_
      exact g_reti C hR dX12_bits_21 h
    · have h := hf c
      refine g_iinc (q := 0) (v := v1 + 1) (lv' := [(1, vI (v1 + 1)), (2, vI v2)]) C dX12_bits_8 rfl rfl (by decide) rfl ?_
      refine g_iload_n (q := 1) C dX12_bits_11 rfl rfl ?_
      refine g_iload_n (q := 1) C dX12_bits_12 rfl rfl ?_
      refine g_iconst C dX12_bits_13 rfl ?_
      refine g_isub C dX12_bits_14 ?_
      refine g_iand C dX12_bits_15 ?_
      refine g_istore_n (lv' := [(2, vI (zand v2 (v2 - 1))), (1, vI (v1 + 1))]) C dX12_bits_16 rfl (by decide) rfl ?_
      refine g_goto (tgt := 4) C dX12_bits_17 (by decide) ?_
      refine G.sub [1, 0] rfl ?_
      exact ih _ _ _ h
set_option maxRecDepth 20000 in
theorem t_X12_bits {l : Launch} {Y : YT} (hY : YOK Y) {a0 : Int} {M : Mem} {Q : Int → Mem → Prop} (h : m_X12_bits a0 M Q) : Ctr l Y yX12_bits cX12_bits 3 (some .int) 1 [vI a0] M (PQi Y Q) := by
  unfold m_X12_bits at h
  refine ctr_ofF hY (by decide +kernel) (Nat.le_of_ble_eq_true rfl) [(0, vI a0)] rfl (fun X hX C hR => ?_)
  refine g_iconst C dX12_bits_0 rfl ?_
  refine g_istore_n (lv' := [(1, vI 0), (0, vI a0)]) C dX12_bits_1 rfl (by decide) rfl ?_
  refine g_iload_n (q := 1) C dX12_bits_2 rfl rfl ?_
  refine g_istore_n (lv' := [(2, vI a0), (1, vI 0), (0, vI a0)]) C dX12_bits_3 rfl (by decide) rfl ?_
  obtain ⟨f0, h⟩ := h
  refine G.sub [1, 0] rfl ?_
  exact w_X12_bits_L4 C hR  f0 _ _ _ h
set_option maxRecDepth 20000 in
theorem t_X12_has {l : Launch} {Y : YT} (hY : YOK Y) {a0 : Int} {M : Mem} {Q : Int → Mem → Prop} (h : m_X12_has a0 M Q) : Ctr l Y yX12_has cX12_has 2 (some .int) 6 [vR Y 199, vI a0] M (PQi Y Q) := by
  unfold m_X12_has at h
  refine ctr_ofF hY (by decide +kernel) (Nat.le_of_ble_eq_true rfl) [(0, vR Y 199), (1, vI a0)] rfl (fun X hX C hR => ?_)
  refine g_iload_n (q := 1) C dX12_has_0 rfl rfl ?_
  obtain ⟨g1, h⟩ := h
  refine G.nmI (x := a0) rfl ?_
  obtain ⟨c0, c1, c2, c3, c4, c5, c6, c7, c8, c9, c10, c11⟩ := h
  rcases (show (a0 = 0) ∨ (a0 = 1) ∨ (a0 = 2) ∨ (a0 = 3) ∨ (a0 = 4) ∨ (a0 = 5) ∨ (a0 = 6) ∨ (a0 = 7) ∨ (a0 = 8) ∨ (a0 = 9) ∨ (a0 = 10) ∨ (a0 < 0 ∨ 10 < a0) by omega) with q | q | q | q | q | q | q | q | q | q | q | q
  · have h := c0 q
    refine g_tswIn (off := 59) (tgt := 60) C dX12_has_1 g1 (by omega) (by omega) (by rw [q]; rfl) (by decide) ?_
    refine g_aload_n (q := 0) C dX12_has_60 rfl rfl ?_
    refine g_getS (v := 201) C fX12_54 dX12_has_61 kd_199 rfl ?_
    refine g_aload_n (q := 0) C dX12_has_64 rfl rfl ?_
    refine g_getI C fX12_51 (by decide) dX12_has_65 kd_199 ?_
    obtain ⟨g2, h⟩ := h
    refine g_iald C dX12_has_68 kd_201 ln_201 g2 ?_
    exact g_reti C hR dX12_has_69 h
  · have h := c1 q
    refine g_tswIn (off := 69) (tgt := 70) C dX12_has_1 g1 (by omega) (by omega) (by rw [q]; rfl) (by decide) ?_
    refine g_aload_n (q := 0) C dX12_has_70 rfl rfl ?_
    refine g_getS (v := 202) C fX12_57 dX12_has_71 kd_199 rfl ?_
    refine g_aload_n (q := 0) C dX12_has_74 rfl rfl ?_
    refine g_getI C fX12_51 (by decide) dX12_has_75 kd_199 ?_
    obtain ⟨g3, h⟩ := h
    refine g_iald C dX12_has_78 kd_202 ln_202 g3 ?_
    exact g_reti C hR dX12_has_79 h
  · have h := c2 q
    refine g_tswIn (off := 79) (tgt := 80) C dX12_has_1 g1 (by omega) (by omega) (by rw [q]; rfl) (by decide) ?_
    refine g_aload_n (q := 0) C dX12_has_80 rfl rfl ?_
    refine g_getS (v := 205) C fX12_66 dX12_has_81 kd_199 rfl ?_
    refine g_aload_n (q := 0) C dX12_has_84 rfl rfl ?_
    refine g_getI C fX12_51 (by decide) dX12_has_85 kd_199 ?_
    obtain ⟨g4, h⟩ := h
    refine g_iald C dX12_has_88 kd_205 ln_205 g4 ?_
    exact g_reti C hR dX12_has_89 h
  · have h := c3 q
    refine g_tswIn (off := 89) (tgt := 90) C dX12_has_1 g1 (by omega) (by omega) (by rw [q]; rfl) (by decide) ?_
    refine g_aload_n (q := 0) C dX12_has_90 rfl rfl ?_
    refine g_getS (v := 227) C fX12_156 dX12_has_91 kd_199 rfl ?_
    refine g_iconst C dX12_has_94 rfl ?_
    refine g_iald C dX12_has_95 kd_227 ln_227 (by decide) ?_
    exact g_reti C hR dX12_has_96 h
  · have h := c4 q
    refine g_tswIn (off := 96) (tgt := 97) C dX12_has_1 g1 (by omega) (by omega) (by rw [q]; rfl) (by decide) ?_
    refine g_aload_n (q := 0) C dX12_has_97 rfl rfl ?_
    refine g_getS (v := 230) C fX12_165 dX12_has_98 kd_199 rfl ?_
    refine g_iconst C dX12_has_101 rfl ?_
    refine g_iald C dX12_has_102 kd_230 ln_230 (by decide) ?_
    exact g_reti C hR dX12_has_103 h
  · have h := c5 q
    refine g_tswIn (off := 103) (tgt := 104) C dX12_has_1 g1 (by omega) (by omega) (by rw [q]; rfl) (by decide) ?_
    refine g_aload_n (q := 0) C dX12_has_104 rfl rfl ?_
    refine g_getS (v := 229) C fX12_162 dX12_has_105 kd_199 rfl ?_
    refine g_iconst C dX12_has_108 rfl ?_
    refine g_iald C dX12_has_109 kd_229 ln_229 (by decide) ?_
    refine g_cSi (As := [vI (M 229 0)]) C clX12_465 clsX12_bits dX12_has_110 rfl (Nat.le_of_ble_eq_true rfl) rfl (by decide) (t_X12_bits (Cx.ok C) h) (fun r6 M5 h => ?_)
    exact g_reti C hR dX12_has_113 h
  · have h := c6 q
    refine g_tswIn (off := 113) (tgt := 114) C dX12_has_1 g1 (by omega) (by omega) (by rw [q]; rfl) (by decide) ?_
    refine g_aload_n (q := 0) C dX12_has_114 rfl rfl ?_
    refine g_iconst C dX12_has_115 rfl ?_
    refine g_cVv (As := [vI 0]) C clX12_453 clvX12_runs dX12_has_116 kd_199 rfl (Nat.le_of_ble_eq_true rfl) rfl (by decide) (t_X12_runs (Cx.ok C) h) (fun M7 h => ?_)
    refine g_aload_n (q := 0) C dX12_has_119 rfl rfl ?_
    refine g_iconst C dX12_has_120 rfl ?_
    refine g_cVi (As := [vI 0]) C clX12_456 clvX12_trues dX12_has_121 kd_199 rfl (Nat.le_of_ble_eq_true rfl) rfl (by decide) (t_X12_trues (Cx.ok C) h) (fun r9 M8 h => ?_)
    exact g_reti C hR dX12_has_124 h
  · have h := c7 q
    refine g_tswIn (off := 124) (tgt := 125) C dX12_has_1 g1 (by omega) (by omega) (by rw [q]; rfl) (by decide) ?_
    refine g_aload_n (q := 0) C dX12_has_125 rfl rfl ?_
    refine g_getS (v := 232) C fX12_171 dX12_has_126 kd_199 rfl ?_
    refine g_iconst C dX12_has_129 rfl ?_
    refine g_iald C dX12_has_130 kd_232 ln_232 (by decide) ?_
    exact g_reti C hR dX12_has_131 h
  · have h := c8 q
    refine g_tswIn (off := 131) (tgt := 132) C dX12_has_1 g1 (by omega) (by omega) (by rw [q]; rfl) (by decide) ?_
    refine g_aload_n (q := 0) C dX12_has_132 rfl rfl ?_
    refine g_getI C fX12_195 (by decide) dX12_has_133 kd_199 ?_
    exact g_reti C hR dX12_has_136 h
  · have h := c9 q
    refine g_tswIn (off := 136) (tgt := 137) C dX12_has_1 g1 (by omega) (by omega) (by rw [q]; rfl) (by decide) ?_
    refine g_aload_n (q := 0) C dX12_has_137 rfl rfl ?_
    refine g_getI C fX12_180 (by decide) dX12_has_138 kd_199 ?_
    exact g_reti C hR dX12_has_141 h
  · have h := c10 q
    refine g_tswIn (off := 141) (tgt := 142) C dX12_has_1 g1 (by omega) (by omega) (by rw [q]; rfl) (by decide) ?_
    refine g_aload_n (q := 0) C dX12_has_142 rfl rfl ?_
    refine g_getJ C fX12_183 dX12_has_143 kd_199 ?_
    refine g_l2i C dX12_has_146 ?_
    exact g_reti C hR dX12_has_147 h
  · have h := c11 q
    refine g_tswOut (tgt := 148) C dX12_has_1 g1 q (by decide) ?_
    refine g_iconst C dX12_has_148 rfl ?_
    exact g_reti C hR dX12_has_149 h
