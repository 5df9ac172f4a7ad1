theorem dX9_read_0 : decode cX9_read 0 = .ok (.aload_n 0, 1) := by decide +kernel
theorem dX9_read_1 : decode cX9_read 1 = .ok (.aload_n 1, 1) := by decide +kernel
theorem dX9_read_2 : decode cX9_read 2 = .ok (.putfield 24, 3) := by decide +kernel
theorem dX9_read_5 : decode cX9_read 5 = .ok (.aload_n 0, 1) := by decide +kernel
theorem dX9_read_6 : decode cX9_read 6 = .ok (.getfield 24, 3) := by decide +kernel
theorem dX9_read_9 : decode cX9_read 9 = .ok (.invokevirtual 28, 3) := by decide +kernel
theorem dX9_read_12 : decode cX9_read 12 = .ok (.aload_n 0, 1) := by decide +kernel
theorem dX9_read_13 : decode cX9_read 13 = .ok (.getfield 9, 3) := by decide +kernel
theorem dX9_read_16 : decode cX9_read 16 = .ok (.invokevirtual 33, 3) := by decide +kernel
theorem dX9_read_19 : decode cX9_read 19 = .ok (.iconst 0, 1) := by decide +kernel
theorem dX9_read_20 : decode cX9_read 20 = .ok (.istore_n 2, 1) := by decide +kernel
theorem dX9_read_21 : decode cX9_read 21 = .ok (.iload_n 2, 1) := by decide +kernel
theorem dX9_read_22 : decode cX9_read 22 = .ok (.bipush 80, 2) := by decide +kernel
theorem dX9_read_24 : decode cX9_read 24 = .ok (.if_icmp .ge 49, 3) := by decide +kernel
theorem dX9_read_27 : decode cX9_read 27 = .ok (.aload_n 0, 1) := by decide +kernel
theorem dX9_read_28 : decode cX9_read 28 = .ok (.getfield 9, 3) := by decide +kernel
theorem dX9_read_31 : decode cX9_read 31 = .ok (.getfield 38, 3) := by decide +kernel
theorem dX9_read_34 : decode cX9_read 34 = .ok (.ifCond .ne 12, 3) := by decide +kernel
theorem dX9_read_37 : decode cX9_read 37 = .ok (.aload_n 0, 1) := by decide +kernel
theorem dX9_read_38 : decode cX9_read 38 = .ok (.getfield 24, 3) := by decide +kernel
theorem dX9_read_41 : decode cX9_read 41 = .ok (.invokevirtual 42, 3) := by decide +kernel
theorem dX9_read_44 : decode cX9_read 44 = .ok (.iload_n 2, 1) := by decide +kernel
theorem dX9_read_45 : decode cX9_read 45 = .ok (.ireturn, 1) := by decide +kernel
theorem dX9_read_46 : decode cX9_read 46 = .ok (.aload_n 0, 1) := by decide +kernel
theorem dX9_read_47 : decode cX9_read 47 = .ok (.invokevirtual 45, 3) := by decide +kernel
theorem dX9_read_50 : decode cX9_read 50 = .ok (.ifCond .eq 15, 3) := by decide +kernel
theorem dX9_read_53 : decode cX9_read 53 = .ok (.aload_n 0, 1) := by decide +kernel
theorem dX9_read_54 : decode cX9_read 54 = .ok (.getfield 9, 3) := by decide +kernel
theorem dX9_read_57 : decode cX9_read 57 = .ok (.bipush 59, 2) := by decide +kernel
theorem dX9_read_59 : decode cX9_read 59 = .ok (.invokevirtual 49, 3) := by decide +kernel
theorem dX9_read_62 : decode cX9_read 62 = .ok (.ifCond .ne 5, 3) := by decide +kernel
theorem dX9_read_65 : decode cX9_read 65 = .ok (.iconst (-1), 1) := by decide +kernel
theorem dX9_read_66 : decode cX9_read 66 = .ok (.ireturn, 1) := by decide +kernel
theorem dX9_read_67 : decode cX9_read 67 = .ok (.iinc 2 1, 3) := by decide +kernel
theorem dX9_read_70 : decode cX9_read 70 = .ok (.goto (-49), 3) := by decide +kernel
theorem dX9_read_73 : decode cX9_read 73 = .ok (.aload_n 0, 1) := by decide +kernel
theorem dX9_read_74 : decode cX9_read 74 = .ok (.getfield 9, 3) := by decide +kernel
theorem dX9_read_77 : decode cX9_read 77 = .ok (.getfield 38, 3) := by decide +kernel
theorem dX9_read_80 : decode cX9_read 80 = .ok (.ifCond .eq 15, 3) := by decide +kernel
theorem dX9_read_83 : decode cX9_read 83 = .ok (.aload_n 0, 1) := by decide +kernel
theorem dX9_read_84 : decode cX9_read 84 = .ok (.getfield 9, 3) := by decide +kernel
theorem dX9_read_87 : decode cX9_read 87 = .ok (.bipush 6, 2) := by decide +kernel
theorem dX9_read_89 : decode cX9_read 89 = .ok (.invokevirtual 53, 3) := by decide +kernel
theorem dX9_read_92 : decode cX9_read 92 = .ok (.pop, 1) := by decide +kernel
theorem dX9_read_93 : decode cX9_read 93 = .ok (.iconst (-1), 1) := by decide +kernel
theorem dX9_read_94 : decode cX9_read 94 = .ok (.ireturn, 1) := by decide +kernel
theorem dX9_read_95 : decode cX9_read 95 = .ok (.aload_n 0, 1) := by decide +kernel
theorem dX9_read_96 : decode cX9_read 96 = .ok (.getfield 24, 3) := by decide +kernel
theorem dX9_read_99 : decode cX9_read 99 = .ok (.invokevirtual 42, 3) := by decide +kernel
theorem dX9_read_102 : decode cX9_read 102 = .ok (.bipush 80, 2) := by decide +kernel
theorem dX9_read_104 : decode cX9_read 104 = .ok (.ireturn, 1) := by decide +kernel
theorem dX10_put_0 : decode cX10_put 0 = .ok (.aload_n 0, 1) := by decide +kernel
theorem dX10_put_1 : decode cX10_put 1 = .ok (.getfield 9, 3) := by decide +kernel
theorem dX10_put_4 : decode cX10_put 4 = .ok (.bipush 6, 2) := by decide +kernel
theorem dX10_put_6 : decode cX10_put 6 = .ok (.iload_n 2, 1) := by decide +kernel
theorem dX10_put_7 : decode cX10_put 7 = .ok (.imul, 1) := by decide +kernel
theorem dX10_put_8 : decode cX10_put 8 = .ok (.iload_n 1, 1) := by decide +kernel
theorem dX10_put_9 : decode cX10_put 9 = .ok (.iadd, 1) := by decide +kernel
theorem dX10_put_10 : decode cX10_put 10 = .ok (.iload_n 3, 1) := by decide +kernel
theorem dX10_put_11 : decode cX10_put 11 = .ok (.iastore, 1) := by decide +kernel
theorem dX10_put_12 : decode cX10_put 12 = .ok (.aload_n 0, 1) := by decide +kernel
theorem dX10_put_13 : decode cX10_put 13 = .ok (.getfield 15, 3) := by decide +kernel
theorem dX10_put_16 : decode cX10_put 16 = .ok (.bipush 7, 2) := by decide +kernel
theorem dX10_put_18 : decode cX10_put 18 = .ok (.iload_n 2, 1) := by decide +kernel
theorem dX10_put_19 : decode cX10_put 19 = .ok (.imul, 1) := by decide +kernel
theorem dX10_put_20 : decode cX10_put 20 = .ok (.iload_n 3, 1) := by decide +kernel
theorem dX10_put_21 : decode cX10_put 21 = .ok (.iadd, 1) := by decide +kernel
theorem dX10_put_22 : decode cX10_put 22 = .ok (.dup2, 1) := by decide +kernel
theorem dX10_put_23 : decode cX10_put 23 = .ok (.iaload, 1) := by decide +kernel
theorem dX10_put_24 : decode cX10_put 24 = .ok (.iconst 1, 1) := by decide +kernel
theorem dX10_put_25 : decode cX10_put 25 = .ok (.iload_n 1, 1) := by decide +kernel
theorem dX10_put_26 : decode cX10_put 26 = .ok (.ishl, 1) := by decide +kernel
theorem dX10_put_27 : decode cX10_put 27 = .ok (.ior, 1) := by decide +kernel
theorem dX10_put_28 : decode cX10_put 28 = .ok (.iastore, 1) := by decide +kernel
theorem dX10_put_29 : decode cX10_put 29 = .ok (.return_, 1) := by decide +kernel
theorem dX10_begin_0 : decode cX10_begin 0 = .ok (.aload_n 0, 1) := by decide +kernel
theorem dX10_begin_1 : decode cX10_begin 1 = .ok (.aload_n 1, 1) := by decide +kernel
theorem dX10_begin_2 : decode cX10_begin 2 = .ok (.putfield 54, 3) := by decide +kernel
theorem dX10_begin_5 : decode cX10_begin 5 = .ok (.aload_n 0, 1) := by decide +kernel
theorem dX10_begin_6 : decode cX10_begin 6 = .ok (.aload_n 2, 1) := by decide +kernel
theorem dX10_begin_7 : decode cX10_begin 7 = .ok (.putfield 58, 3) := by decide +kernel
theorem dX10_begin_10 : decode cX10_begin 10 = .ok (.aload_n 0, 1) := by decide +kernel
theorem dX10_begin_11 : decode cX10_begin 11 = .ok (.getfield 18, 3) := by decide +kernel
theorem dX10_begin_14 : decode cX10_begin 14 = .ok (.bipush 9, 2) := by decide +kernel
theorem dX10_begin_16 : decode cX10_begin 16 = .ok (.invokestatic 62, 3) := by decide +kernel
theorem dX10_begin_19 : decode cX10_begin 19 = .ok (.aload_n 0, 1) := by decide +kernel
theorem dX10_begin_20 : decode cX10_begin 20 = .ok (.getfield 15, 3) := by decide +kernel
theorem dX10_begin_23 : decode cX10_begin 23 = .ok (.iconst 0, 1) := by decide +kernel
theorem dX10_begin_24 : decode cX10_begin 24 = .ok (.invokestatic 62, 3) := by decide +kernel
theorem dX10_begin_27 : decode cX10_begin 27 = .ok (.aload_n 2, 1) := by decide +kernel
theorem dX10_begin_28 : decode cX10_begin 28 = .ok (.getfield 44, 3) := by decide +kernel
theorem dX10_begin_31 : decode cX10_begin 31 = .ok (.astore_n 3, 1) := by decide +kernel
theorem dX10_begin_32 : decode cX10_begin 32 = .ok (.iconst 0, 1) := by decide +kernel
theorem dX10_begin_33 : decode cX10_begin 33 = .ok (.istore 4, 2) := by decide +kernel
theorem dX10_begin_35 : decode cX10_begin 35 = .ok (.iload 4, 2) := by decide +kernel
theorem dX10_begin_37 : decode cX10_begin 37 = .ok (.aload_n 3, 1) := by decide +kernel
theorem dX10_begin_38 : decode cX10_begin 38 = .ok (.getfield 68, 3) := by decide +kernel
theorem dX10_begin_41 : decode cX10_begin 41 = .ok (.if_icmp .ge 39, 3) := by decide +kernel
theorem dX10_begin_44 : decode cX10_begin 44 = .ok (.aload_n 0, 1) := by decide +kernel
theorem dX10_begin_45 : decode cX10_begin 45 = .ok (.getfield 18, 3) := by decide +kernel
theorem dX10_begin_48 : decode cX10_begin 48 = .ok (.bipush 7, 2) := by decide +kernel
theorem dX10_begin_50 : decode cX10_begin 50 = .ok (.aload_n 3, 1) := by decide +kernel
theorem dX10_begin_51 : decode cX10_begin 51 = .ok (.getfield 73, 3) := by decide +kernel
theorem dX10_begin_54 : decode cX10_begin 54 = .ok (.iload 4, 2) := by decide +kernel
theorem dX10_begin_56 : decode cX10_begin 56 = .ok (.iaload, 1) := by decide +kernel
theorem dX10_begin_57 : decode cX10_begin 57 = .ok (.imul, 1) := by decide +kernel
theorem dX10_begin_58 : decode cX10_begin 58 = .ok (.aload_n 3, 1) := by decide +kernel
theorem dX10_begin_59 : decode cX10_begin 59 = .ok (.getfield 76, 3) := by decide +kernel
theorem dX10_begin_62 : decode cX10_begin 62 = .ok (.iload 4, 2) := by decide +kernel
theorem dX10_begin_64 : decode cX10_begin 64 = .ok (.iaload, 1) := by decide +kernel
theorem dX10_begin_65 : decode cX10_begin 65 = .ok (.iadd, 1) := by decide +kernel
theorem dX10_begin_66 : decode cX10_begin 66 = .ok (.aload_n 3, 1) := by decide +kernel
theorem dX10_begin_67 : decode cX10_begin 67 = .ok (.getfield 79, 3) := by decide +kernel
theorem dX10_begin_70 : decode cX10_begin 70 = .ok (.iload 4, 2) := by decide +kernel
theorem dX10_begin_72 : decode cX10_begin 72 = .ok (.iaload, 1) := by decide +kernel
theorem dX10_begin_73 : decode cX10_begin 73 = .ok (.iastore, 1) := by decide +kernel
theorem dX10_begin_74 : decode cX10_begin 74 = .ok (.iinc 4 1, 3) := by decide +kernel
theorem dX10_begin_77 : decode cX10_begin 77 = .ok (.goto (-42), 3) := by decide +kernel
theorem dX10_begin_80 : decode cX10_begin 80 = .ok (.iconst 0, 1) := by decide +kernel
theorem dX10_begin_81 : decode cX10_begin 81 = .ok (.istore 4, 2) := by decide +kernel
theorem dX10_begin_83 : decode cX10_begin 83 = .ok (.iload 4, 2) := by decide +kernel
theorem dX10_begin_85 : decode cX10_begin 85 = .ok (.aload_n 1, 1) := by decide +kernel
theorem dX10_begin_86 : decode cX10_begin 86 = .ok (.getfield 30, 3) := by decide +kernel
theorem dX10_begin_89 : decode cX10_begin 89 = .ok (.if_icmp .ge 23, 3) := by decide +kernel
theorem dX10_begin_92 : decode cX10_begin 92 = .ok (.aload_n 0, 1) := by decide +kernel
theorem dX10_begin_93 : decode cX10_begin 93 = .ok (.iload 4, 2) := by decide +kernel
theorem dX10_begin_95 : decode cX10_begin 95 = .ok (.iconst 0, 1) := by decide +kernel
theorem dX10_begin_96 : decode cX10_begin 96 = .ok (.aload_n 2, 1) := by decide +kernel
theorem dX10_begin_97 : decode cX10_begin 97 = .ok (.getfield 82, 3) := by decide +kernel
theorem dX10_begin_100 : decode cX10_begin 100 = .ok (.iload 4, 2) := by decide +kernel
theorem dX10_begin_102 : decode cX10_begin 102 = .ok (.iaload, 1) := by decide +kernel
theorem dX10_begin_103 : decode cX10_begin 103 = .ok (.invokevirtual 40, 3) := by decide +kernel
theorem dX10_begin_106 : decode cX10_begin 106 = .ok (.iinc 4 1, 3) := by decide +kernel
theorem dX10_begin_109 : decode cX10_begin 109 = .ok (.goto (-26), 3) := by decide +kernel
theorem dX10_begin_112 : decode cX10_begin 112 = .ok (.return_, 1) := by decide +kernel
theorem dX10_know_0 : decode cX10_know 0 = .ok (.aload_n 0, 1) := by decide +kernel
theorem dX10_know_1 : decode cX10_know 1 = .ok (.getfield 23, 3) := by decide +kernel
theorem dX10_know_4 : decode cX10_know 4 = .ok (.iconst (-1), 1) := by decide +kernel
theorem dX10_know_5 : decode cX10_know 5 = .ok (.iload_n 1, 1) := by decide +kernel
theorem dX10_know_6 : decode cX10_know 6 = .ok (.isub, 1) := by decide +kernel
theorem dX10_know_7 : decode cX10_know 7 = .ok (.iload_n 2, 1) := by decide +kernel
theorem dX10_know_8 : decode cX10_know 8 = .ok (.iastore, 1) := by decide +kernel
theorem dX10_know_9 : decode cX10_know 9 = .ok (.return_, 1) := by decide +kernel
theorem dX10_shownTo_0 : decode cX10_shownTo 0 = .ok (.aload_n 0, 1) := by decide +kernel
theorem dX10_shownTo_1 : decode cX10_shownTo 1 = .ok (.getfield 58, 3) := by decide +kernel
theorem dX10_shownTo_4 : decode cX10_shownTo 4 = .ok (.iload_n 1, 1) := by decide +kernel
theorem dX10_shownTo_5 : decode cX10_shownTo 5 = .ok (.invokevirtual 128, 3) := by decide +kernel
theorem dX10_shownTo_8 : decode cX10_shownTo 8 = .ok (.ifCond .eq 17, 3) := by decide +kernel
theorem dX10_shownTo_11 : decode cX10_shownTo 11 = .ok (.aload_n 0, 1) := by decide +kernel
theorem dX10_shownTo_12 : decode cX10_shownTo 12 = .ok (.getfield 18, 3) := by decide +kernel
theorem dX10_shownTo_15 : decode cX10_shownTo 15 = .ok (.bipush 7, 2) := by decide +kernel
theorem dX10_shownTo_17 : decode cX10_shownTo 17 = .ok (.iload_n 3, 1) := by decide +kernel
theorem dX10_shownTo_18 : decode cX10_shownTo 18 = .ok (.imul, 1) := by decide +kernel
theorem dX10_shownTo_19 : decode cX10_shownTo 19 = .ok (.iload_n 2, 1) := by decide +kernel
theorem dX10_shownTo_20 : decode cX10_shownTo 20 = .ok (.iadd, 1) := by decide +kernel
theorem dX10_shownTo_21 : decode cX10_shownTo 21 = .ok (.iaload, 1) := by decide +kernel
theorem dX10_shownTo_22 : decode cX10_shownTo 22 = .ok (.goto 5, 3) := by decide +kernel
theorem dX10_shownTo_25 : decode cX10_shownTo 25 = .ok (.bipush 9, 2) := by decide +kernel
theorem dX10_shownTo_27 : decode cX10_shownTo 27 = .ok (.ireturn, 1) := by decide +kernel
theorem dX10_bestPlace_0 : decode cX10_bestPlace 0 = .ok (.iload_n 2, 1) := by decide +kernel
theorem dX10_bestPlace_1 : decode cX10_bestPlace 1 = .ok (.istore 4, 2) := by decide +kernel
theorem dX10_bestPlace_3 : decode cX10_bestPlace 3 = .ok (.ldc 114, 2) := by decide +kernel
theorem dX10_bestPlace_5 : decode cX10_bestPlace 5 = .ok (.istore 5, 2) := by decide +kernel
theorem dX10_bestPlace_7 : decode cX10_bestPlace 7 = .ok (.iconst 0, 1) := by decide +kernel
theorem dX10_bestPlace_8 : decode cX10_bestPlace 8 = .ok (.istore 6, 2) := by decide +kernel
theorem dX10_bestPlace_10 : decode cX10_bestPlace 10 = .ok (.iload 6, 2) := by decide +kernel
theorem dX10_bestPlace_12 : decode cX10_bestPlace 12 = .ok (.aload_n 0, 1) := by decide +kernel
theorem dX10_bestPlace_13 : decode cX10_bestPlace 13 = .ok (.getfield 54, 3) := by decide +kernel
theorem dX10_bestPlace_16 : decode cX10_bestPlace 16 = .ok (.getfield 115, 3) := by decide +kernel
theorem dX10_bestPlace_19 : decode cX10_bestPlace 19 = .ok (.if_icmp .ge 124, 3) := by decide +kernel
theorem dX10_bestPlace_22 : decode cX10_bestPlace 22 = .ok (.aload_n 0, 1) := by decide +kernel
theorem dX10_bestPlace_23 : decode cX10_bestPlace 23 = .ok (.getfield 54, 3) := by decide +kernel
theorem dX10_bestPlace_26 : decode cX10_bestPlace 26 = .ok (.iload_n 2, 1) := by decide +kernel
theorem dX10_bestPlace_27 : decode cX10_bestPlace 27 = .ok (.iload 6, 2) := by decide +kernel
theorem dX10_bestPlace_29 : decode cX10_bestPlace 29 = .ok (.invokevirtual 118, 3) := by decide +kernel
theorem dX10_bestPlace_32 : decode cX10_bestPlace 32 = .ok (.ifCond .ne 6, 3) := by decide +kernel
theorem dX10_bestPlace_35 : decode cX10_bestPlace 35 = .ok (.goto 102, 3) := by decide +kernel
theorem dX10_bestPlace_38 : decode cX10_bestPlace 38 = .ok (.aload_n 0, 1) := by decide +kernel
theorem dX10_bestPlace_39 : decode cX10_bestPlace 39 = .ok (.getfield 54, 3) := by decide +kernel
theorem dX10_bestPlace_42 : decode cX10_bestPlace 42 = .ok (.aload_n 0, 1) := by decide +kernel
theorem dX10_bestPlace_43 : decode cX10_bestPlace 43 = .ok (.getfield 58, 3) := by decide +kernel
theorem dX10_bestPlace_46 : decode cX10_bestPlace 46 = .ok (.getfield 82, 3) := by decide +kernel
theorem dX10_bestPlace_49 : decode cX10_bestPlace 49 = .ok (.iload_n 1, 1) := by decide +kernel
theorem dX10_bestPlace_50 : decode cX10_bestPlace 50 = .ok (.iaload, 1) := by decide +kernel
theorem dX10_bestPlace_51 : decode cX10_bestPlace 51 = .ok (.iload 6, 2) := by decide +kernel
theorem dX10_bestPlace_53 : decode cX10_bestPlace 53 = .ok (.invokevirtual 122, 3) := by decide +kernel
theorem dX10_bestPlace_56 : decode cX10_bestPlace 56 = .ok (.istore 7, 2) := by decide +kernel
theorem dX10_bestPlace_58 : decode cX10_bestPlace 58 = .ok (.aload_n 0, 1) := by decide +kernel
theorem dX10_bestPlace_59 : decode cX10_bestPlace 59 = .ok (.bipush (-5), 2) := by decide +kernel
theorem dX10_bestPlace_61 : decode cX10_bestPlace 61 = .ok (.aload_n 0, 1) := by decide +kernel
theorem dX10_bestPlace_62 : decode cX10_bestPlace 62 = .ok (.iload_n 1, 1) := by decide +kernel
theorem dX10_bestPlace_63 : decode cX10_bestPlace 63 = .ok (.iload 6, 2) := by decide +kernel
theorem dX10_bestPlace_65 : decode cX10_bestPlace 65 = .ok (.iload_n 3, 1) := by decide +kernel
theorem dX10_bestPlace_66 : decode cX10_bestPlace 66 = .ok (.invokevirtual 99, 3) := by decide +kernel
theorem dX10_bestPlace_69 : decode cX10_bestPlace 69 = .ok (.invokevirtual 89, 3) := by decide +kernel
theorem dX10_bestPlace_72 : decode cX10_bestPlace 72 = .ok (.aload_n 0, 1) := by decide +kernel
theorem dX10_bestPlace_73 : decode cX10_bestPlace 73 = .ok (.bipush (-6), 2) := by decide +kernel
theorem dX10_bestPlace_75 : decode cX10_bestPlace 75 = .ok (.aload_n 0, 1) := by decide +kernel
theorem dX10_bestPlace_76 : decode cX10_bestPlace 76 = .ok (.iload 6, 2) := by decide +kernel
theorem dX10_bestPlace_78 : decode cX10_bestPlace 78 = .ok (.iload_n 3, 1) := by decide +kernel
theorem dX10_bestPlace_79 : decode cX10_bestPlace 79 = .ok (.iconst 1, 1) := by decide +kernel
theorem dX10_bestPlace_80 : decode cX10_bestPlace 80 = .ok (.isub, 1) := by decide +kernel
theorem dX10_bestPlace_81 : decode cX10_bestPlace 81 = .ok (.invokevirtual 96, 3) := by decide +kernel
theorem dX10_bestPlace_84 : decode cX10_bestPlace 84 = .ok (.invokevirtual 89, 3) := by decide +kernel
theorem dX10_bestPlace_87 : decode cX10_bestPlace 87 = .ok (.aload_n 0, 1) := by decide +kernel
theorem dX10_bestPlace_88 : decode cX10_bestPlace 88 = .ok (.bipush (-7), 2) := by decide +kernel
theorem dX10_bestPlace_90 : decode cX10_bestPlace 90 = .ok (.iload 7, 2) := by decide +kernel
theorem dX10_bestPlace_92 : decode cX10_bestPlace 92 = .ok (.iconst (-1), 1) := by decide +kernel
theorem dX10_bestPlace_93 : decode cX10_bestPlace 93 = .ok (.if_icmp .ne 8, 3) := by decide +kernel
theorem dX10_bestPlace_96 : decode cX10_bestPlace 96 = .ok (.bipush 9, 2) := by decide +kernel
theorem dX10_bestPlace_98 : decode cX10_bestPlace 98 = .ok (.goto 5, 3) := by decide +kernel
theorem dX10_bestPlace_101 : decode cX10_bestPlace 101 = .ok (.iload 7, 2) := by decide +kernel
theorem dX10_bestPlace_103 : decode cX10_bestPlace 103 = .ok (.invokevirtual 89, 3) := by decide +kernel
theorem dX10_bestPlace_106 : decode cX10_bestPlace 106 = .ok (.aload_n 0, 1) := by decide +kernel
theorem dX10_bestPlace_107 : decode cX10_bestPlace 107 = .ok (.getfield 54, 3) := by decide +kernel
theorem dX10_bestPlace_110 : decode cX10_bestPlace 110 = .ok (.getfield 125, 3) := by decide +kernel
theorem dX10_bestPlace_113 : decode cX10_bestPlace 113 = .ok (.aload_n 0, 1) := by decide +kernel
theorem dX10_bestPlace_114 : decode cX10_bestPlace 114 = .ok (.getfield 23, 3) := by decide +kernel
theorem dX10_bestPlace_117 : decode cX10_bestPlace 117 = .ok (.invokevirtual 107, 3) := by decide +kernel
theorem dX10_bestPlace_120 : decode cX10_bestPlace 120 = .ok (.istore 8, 2) := by decide +kernel
theorem dX10_bestPlace_122 : decode cX10_bestPlace 122 = .ok (.iload 8, 2) := by decide +kernel
theorem dX10_bestPlace_124 : decode cX10_bestPlace 124 = .ok (.iload 5, 2) := by decide +kernel
theorem dX10_bestPlace_126 : decode cX10_bestPlace 126 = .ok (.if_icmp .le 11, 3) := by decide +kernel
theorem dX10_bestPlace_129 : decode cX10_bestPlace 129 = .ok (.iload 8, 2) := by decide +kernel
theorem dX10_bestPlace_131 : decode cX10_bestPlace 131 = .ok (.istore 5, 2) := by decide +kernel
theorem dX10_bestPlace_133 : decode cX10_bestPlace 133 = .ok (.iload 6, 2) := by decide +kernel
theorem dX10_bestPlace_135 : decode cX10_bestPlace 135 = .ok (.istore 4, 2) := by decide +kernel
theorem dX10_bestPlace_137 : decode cX10_bestPlace 137 = .ok (.iinc 6 1, 3) := by decide +kernel
theorem dX10_bestPlace_140 : decode cX10_bestPlace 140 = .ok (.goto (-130), 3) := by decide +kernel
theorem dX10_bestPlace_143 : decode cX10_bestPlace 143 = .ok (.iload 4, 2) := by decide +kernel
theorem dX10_bestPlace_145 : decode cX10_bestPlace 145 = .ok (.ireturn, 1) := by decide +kernel
theorem dX10_goal_0 : decode cX10_goal 0 = .ok (.aload_n 0, 1) := by decide +kernel
theorem dX10_goal_1 : decode cX10_goal 1 = .ok (.iload_n 1, 1) := by decide +kernel
theorem dX10_goal_2 : decode cX10_goal 2 = .ok (.iload_n 2, 1) := by decide +kernel
theorem dX10_goal_3 : decode cX10_goal 3 = .ok (.iconst 1, 1) := by decide +kernel
theorem dX10_goal_4 : decode cX10_goal 4 = .ok (.isub, 1) := by decide +kernel
theorem dX10_goal_5 : decode cX10_goal 5 = .ok (.invokevirtual 83, 3) := by decide +kernel
theorem dX10_goal_8 : decode cX10_goal 8 = .ok (.istore_n 3, 1) := by decide +kernel
theorem dX10_goal_9 : decode cX10_goal 9 = .ok (.aload_n 0, 1) := by decide +kernel
theorem dX10_goal_10 : decode cX10_goal 10 = .ok (.iconst (-1), 1) := by decide +kernel
theorem dX10_goal_11 : decode cX10_goal 11 = .ok (.aload_n 0, 1) := by decide +kernel
theorem dX10_goal_12 : decode cX10_goal 12 = .ok (.getfield 54, 3) := by decide +kernel
theorem dX10_goal_15 : decode cX10_goal 15 = .ok (.getfield 86, 3) := by decide +kernel
theorem dX10_goal_18 : decode cX10_goal 18 = .ok (.iload_n 1, 1) := by decide +kernel
theorem dX10_goal_19 : decode cX10_goal 19 = .ok (.iaload, 1) := by decide +kernel
theorem dX10_goal_20 : decode cX10_goal 20 = .ok (.invokevirtual 89, 3) := by decide +kernel
theorem dX10_goal_23 : decode cX10_goal 23 = .ok (.aload_n 0, 1) := by decide +kernel
theorem dX10_goal_24 : decode cX10_goal 24 = .ok (.bipush (-2), 2) := by decide +kernel
theorem dX10_goal_26 : decode cX10_goal 26 = .ok (.iload_n 2, 1) := by decide +kernel
theorem dX10_goal_27 : decode cX10_goal 27 = .ok (.invokevirtual 89, 3) := by decide +kernel
theorem dX10_goal_30 : decode cX10_goal 30 = .ok (.aload_n 0, 1) := by decide +kernel
theorem dX10_goal_31 : decode cX10_goal 31 = .ok (.bipush (-3), 2) := by decide +kernel
theorem dX10_goal_33 : decode cX10_goal 33 = .ok (.aload_n 0, 1) := by decide +kernel
theorem dX10_goal_34 : decode cX10_goal 34 = .ok (.getfield 58, 3) := by decide +kernel
theorem dX10_goal_37 : decode cX10_goal 37 = .ok (.getfield 93, 3) := by decide +kernel
theorem dX10_goal_40 : decode cX10_goal 40 = .ok (.invokevirtual 89, 3) := by decide +kernel
theorem dX10_goal_43 : decode cX10_goal 43 = .ok (.aload_n 0, 1) := by decide +kernel
theorem dX10_goal_44 : decode cX10_goal 44 = .ok (.bipush (-4), 2) := by decide +kernel
theorem dX10_goal_46 : decode cX10_goal 46 = .ok (.aload_n 0, 1) := by decide +kernel
theorem dX10_goal_47 : decode cX10_goal 47 = .ok (.iload_n 3, 1) := by decide +kernel
theorem dX10_goal_48 : decode cX10_goal 48 = .ok (.iload_n 2, 1) := by decide +kernel
theorem dX10_goal_49 : decode cX10_goal 49 = .ok (.iconst 1, 1) := by decide +kernel
theorem dX10_goal_50 : decode cX10_goal 50 = .ok (.isub, 1) := by decide +kernel
theorem dX10_goal_51 : decode cX10_goal 51 = .ok (.invokevirtual 96, 3) := by decide +kernel
theorem dX10_goal_54 : decode cX10_goal 54 = .ok (.invokevirtual 89, 3) := by decide +kernel
theorem dX10_goal_57 : decode cX10_goal 57 = .ok (.aload_n 0, 1) := by decide +kernel
theorem dX10_goal_58 : decode cX10_goal 58 = .ok (.bipush (-5), 2) := by decide +kernel
theorem dX10_goal_60 : decode cX10_goal 60 = .ok (.aload_n 0, 1) := by decide +kernel
theorem dX10_goal_61 : decode cX10_goal 61 = .ok (.iload_n 1, 1) := by decide +kernel
theorem dX10_goal_62 : decode cX10_goal 62 = .ok (.iload_n 3, 1) := by decide +kernel
theorem dX10_goal_63 : decode cX10_goal 63 = .ok (.iload_n 2, 1) := by decide +kernel
theorem dX10_goal_64 : decode cX10_goal 64 = .ok (.invokevirtual 99, 3) := by decide +kernel
theorem dX10_goal_67 : decode cX10_goal 67 = .ok (.invokevirtual 89, 3) := by decide +kernel
theorem dX10_goal_70 : decode cX10_goal 70 = .ok (.aload_n 0, 1) := by decide +kernel
theorem dX10_goal_71 : decode cX10_goal 71 = .ok (.getfield 54, 3) := by decide +kernel
theorem dX10_goal_74 : decode cX10_goal 74 = .ok (.getfield 103, 3) := by decide +kernel
theorem dX10_goal_77 : decode cX10_goal 77 = .ok (.aload_n 0, 1) := by decide +kernel
theorem dX10_goal_78 : decode cX10_goal 78 = .ok (.getfield 23, 3) := by decide +kernel
theorem dX10_goal_81 : decode cX10_goal 81 = .ok (.invokevirtual 107, 3) := by decide +kernel
theorem dX10_goal_84 : decode cX10_goal 84 = .ok (.iconst 1, 1) := by decide +kernel
theorem dX10_goal_85 : decode cX10_goal 85 = .ok (.if_icmp .ne 7, 3) := by decide +kernel
theorem dX10_goal_88 : decode cX10_goal 88 = .ok (.iload_n 3, 1) := by decide +kernel
theorem dX10_goal_89 : decode cX10_goal 89 = .ok (.goto 10, 3) := by decide +kernel
theorem dX10_goal_92 : decode cX10_goal 92 = .ok (.aload_n 0, 1) := by decide +kernel
theorem dX10_goal_93 : decode cX10_goal 93 = .ok (.iload_n 1, 1) := by decide +kernel
theorem dX10_goal_94 : decode cX10_goal 94 = .ok (.iload_n 3, 1) := by decide +kernel
theorem dX10_goal_95 : decode cX10_goal 95 = .ok (.iload_n 2, 1) := by decide +kernel
theorem dX10_goal_96 : decode cX10_goal 96 = .ok (.invokevirtual 111, 3) := by decide +kernel
theorem dX10_goal_99 : decode cX10_goal 99 = .ok (.ireturn, 1) := by decide +kernel
theorem dX10_goThrough_0 : decode cX10_goThrough 0 = .ok (.aload_n 0, 1) := by decide +kernel
theorem dX10_goThrough_1 : decode cX10_goThrough 1 = .ok (.aload_n 1, 1) := by decide +kernel
theorem dX10_goThrough_2 : decode cX10_goThrough 2 = .ok (.aload_n 2, 1) := by decide +kernel
theorem dX10_goThrough_3 : decode cX10_goThrough 3 = .ok (.invokevirtual 26, 3) := by decide +kernel
theorem dX10_goThrough_6 : decode cX10_goThrough 6 = .ok (.iconst 1, 1) := by decide +kernel
theorem dX10_goThrough_7 : decode cX10_goThrough 7 = .ok (.istore_n 3, 1) := by decide +kernel
theorem dX10_goThrough_8 : decode cX10_goThrough 8 = .ok (.iload_n 3, 1) := by decide +kernel
theorem dX10_goThrough_9 : decode cX10_goThrough 9 = .ok (.bipush 8, 2) := by decide +kernel
theorem dX10_goThrough_11 : decode cX10_goThrough 11 = .ok (.if_icmp .gt 41, 3) := by decide +kernel
theorem dX10_goThrough_14 : decode cX10_goThrough 14 = .ok (.iconst 0, 1) := by decide +kernel
theorem dX10_goThrough_15 : decode cX10_goThrough 15 = .ok (.istore 4, 2) := by decide +kernel
theorem dX10_goThrough_17 : decode cX10_goThrough 17 = .ok (.iload 4, 2) := by decide +kernel
theorem dX10_goThrough_19 : decode cX10_goThrough 19 = .ok (.aload_n 1, 1) := by decide +kernel
theorem dX10_goThrough_20 : decode cX10_goThrough 20 = .ok (.getfield 30, 3) := by decide +kernel
theorem dX10_goThrough_23 : decode cX10_goThrough 23 = .ok (.if_icmp .ge 23, 3) := by decide +kernel
theorem dX10_goThrough_26 : decode cX10_goThrough 26 = .ok (.aload_n 0, 1) := by decide +kernel
theorem dX10_goThrough_27 : decode cX10_goThrough 27 = .ok (.iload 4, 2) := by decide +kernel
theorem dX10_goThrough_29 : decode cX10_goThrough 29 = .ok (.iload_n 3, 1) := by decide +kernel
theorem dX10_goThrough_30 : decode cX10_goThrough 30 = .ok (.aload_n 0, 1) := by decide +kernel
theorem dX10_goThrough_31 : decode cX10_goThrough 31 = .ok (.iload 4, 2) := by decide +kernel
theorem dX10_goThrough_33 : decode cX10_goThrough 33 = .ok (.iload_n 3, 1) := by decide +kernel
theorem dX10_goThrough_34 : decode cX10_goThrough 34 = .ok (.invokevirtual 36, 3) := by decide +kernel
theorem dX10_goThrough_37 : decode cX10_goThrough 37 = .ok (.invokevirtual 40, 3) := by decide +kernel
theorem dX10_goThrough_40 : decode cX10_goThrough 40 = .ok (.iinc 4 1, 3) := by decide +kernel
theorem dX10_goThrough_43 : decode cX10_goThrough 43 = .ok (.goto (-26), 3) := by decide +kernel
theorem dX10_goThrough_46 : decode cX10_goThrough 46 = .ok (.iinc 3 1, 3) := by decide +kernel
theorem dX10_goThrough_49 : decode cX10_goThrough 49 = .ok (.goto (-41), 3) := by decide +kernel
theorem dX10_goThrough_52 : decode cX10_goThrough 52 = .ok (.return_, 1) := by decide +kernel
theorem dX10_isTrue_0 : decode cX10_isTrue 0 = .ok (.aload_n 0, 1) := by decide +kernel
theorem dX10_isTrue_1 : decode cX10_isTrue 1 = .ok (.aload_n 1, 1) := by decide +kernel
theorem dX10_isTrue_2 : decode cX10_isTrue 2 = .ok (.getfield 76, 3) := by decide +kernel
theorem dX10_isTrue_5 : decode cX10_isTrue 5 = .ok (.iload_n 2, 1) := by decide +kernel
theorem dX10_isTrue_6 : decode cX10_isTrue 6 = .ok (.iaload, 1) := by decide +kernel
theorem dX10_isTrue_7 : decode cX10_isTrue 7 = .ok (.aload_n 1, 1) := by decide +kernel
theorem dX10_isTrue_8 : decode cX10_isTrue 8 = .ok (.getfield 73, 3) := by decide +kernel
theorem dX10_isTrue_11 : decode cX10_isTrue 11 = .ok (.iload_n 2, 1) := by decide +kernel
theorem dX10_isTrue_12 : decode cX10_isTrue 12 = .ok (.iaload, 1) := by decide +kernel
theorem dX10_isTrue_13 : decode cX10_isTrue 13 = .ok (.invokevirtual 96, 3) := by decide +kernel
theorem dX10_isTrue_16 : decode cX10_isTrue 16 = .ok (.aload_n 1, 1) := by decide +kernel
theorem dX10_isTrue_17 : decode cX10_isTrue 17 = .ok (.getfield 79, 3) := by decide +kernel
theorem dX10_isTrue_20 : decode cX10_isTrue 20 = .ok (.iload_n 2, 1) := by decide +kernel
theorem dX10_isTrue_21 : decode cX10_isTrue 21 = .ok (.iaload, 1) := by decide +kernel
theorem dX10_isTrue_22 : decode cX10_isTrue 22 = .ok (.if_icmp .ne 7, 3) := by decide +kernel
theorem dX10_isTrue_25 : decode cX10_isTrue 25 = .ok (.iconst 1, 1) := by decide +kernel
theorem dX10_isTrue_26 : decode cX10_isTrue 26 = .ok (.goto 4, 3) := by decide +kernel
theorem dX10_isTrue_29 : decode cX10_isTrue 29 = .ok (.iconst 0, 1) := by decide +kernel
theorem dX10_isTrue_30 : decode cX10_isTrue 30 = .ok (.ireturn, 1) := by decide +kernel
theorem dX10_isTrueAt_0 : decode cX10_isTrueAt 0 = .ok (.iconst 0, 1) := by decide +kernel
theorem dX10_isTrueAt_1 : decode cX10_isTrueAt 1 = .ok (.istore_n 3, 1) := by decide +kernel
theorem dX10_isTrueAt_2 : decode cX10_isTrueAt 2 = .ok (.iload_n 3, 1) := by decide +kernel
theorem dX10_isTrueAt_3 : decode cX10_isTrueAt 3 = .ok (.aload_n 2, 1) := by decide +kernel
theorem dX10_isTrueAt_4 : decode cX10_isTrueAt 4 = .ok (.getfield 68, 3) := by decide +kernel
theorem dX10_isTrueAt_7 : decode cX10_isTrueAt 7 = .ok (.if_icmp .ge 30, 3) := by decide +kernel
theorem dX10_isTrueAt_10 : decode cX10_isTrueAt 10 = .ok (.aload_n 2, 1) := by decide +kernel
theorem dX10_isTrueAt_11 : decode cX10_isTrueAt 11 = .ok (.getfield 73, 3) := by decide +kernel
theorem dX10_isTrueAt_14 : decode cX10_isTrueAt 14 = .ok (.iload_n 3, 1) := by decide +kernel
theorem dX10_isTrueAt_15 : decode cX10_isTrueAt 15 = .ok (.iaload, 1) := by decide +kernel
theorem dX10_isTrueAt_16 : decode cX10_isTrueAt 16 = .ok (.iload_n 1, 1) := by decide +kernel
theorem dX10_isTrueAt_17 : decode cX10_isTrueAt 17 = .ok (.if_icmp .ne 14, 3) := by decide +kernel
theorem dX10_isTrueAt_20 : decode cX10_isTrueAt 20 = .ok (.aload_n 0, 1) := by decide +kernel
theorem dX10_isTrueAt_21 : decode cX10_isTrueAt 21 = .ok (.aload_n 2, 1) := by decide +kernel
theorem dX10_isTrueAt_22 : decode cX10_isTrueAt 22 = .ok (.iload_n 3, 1) := by decide +kernel
theorem dX10_isTrueAt_23 : decode cX10_isTrueAt 23 = .ok (.invokevirtual 141, 3) := by decide +kernel
theorem dX10_isTrueAt_26 : decode cX10_isTrueAt 26 = .ok (.ifCond .ne 5, 3) := by decide +kernel
theorem dX10_isTrueAt_29 : decode cX10_isTrueAt 29 = .ok (.iconst 0, 1) := by decide +kernel
theorem dX10_isTrueAt_30 : decode cX10_isTrueAt 30 = .ok (.ireturn, 1) := by decide +kernel
theorem dX10_isTrueAt_31 : decode cX10_isTrueAt 31 = .ok (.iinc 3 1, 3) := by decide +kernel
theorem dX10_isTrueAt_34 : decode cX10_isTrueAt 34 = .ok (.goto (-32), 3) := by decide +kernel
theorem dX10_isTrueAt_37 : decode cX10_isTrueAt 37 = .ok (.iconst 1, 1) := by decide +kernel
theorem dX10_isTrueAt_38 : decode cX10_isTrueAt 38 = .ok (.ireturn, 1) := by decide +kernel
theorem dX10_agreesIn_0 : decode cX10_agreesIn 0 = .ok (.aload_n 0, 1) := by decide +kernel
theorem dX10_agreesIn_1 : decode cX10_agreesIn 1 = .ok (.aload_n 1, 1) := by decide +kernel
theorem dX10_agreesIn_2 : decode cX10_agreesIn 2 = .ok (.aload_n 2, 1) := by decide +kernel
theorem dX10_agreesIn_3 : decode cX10_agreesIn 3 = .ok (.invokevirtual 26, 3) := by decide +kernel
theorem dX10_agreesIn_6 : decode cX10_agreesIn 6 = .ok (.iconst 1, 1) := by decide +kernel
theorem dX10_agreesIn_7 : decode cX10_agreesIn 7 = .ok (.istore_n 3, 1) := by decide +kernel
theorem dX10_agreesIn_8 : decode cX10_agreesIn 8 = .ok (.iload_n 3, 1) := by decide +kernel
theorem dX10_agreesIn_9 : decode cX10_agreesIn 9 = .ok (.bipush 8, 2) := by decide +kernel
theorem dX10_agreesIn_11 : decode cX10_agreesIn 11 = .ok (.if_icmp .gt 55, 3) := by decide +kernel
theorem dX10_agreesIn_14 : decode cX10_agreesIn 14 = .ok (.iconst 0, 1) := by decide +kernel
theorem dX10_agreesIn_15 : decode cX10_agreesIn 15 = .ok (.istore 4, 2) := by decide +kernel
theorem dX10_agreesIn_17 : decode cX10_agreesIn 17 = .ok (.iload 4, 2) := by decide +kernel
theorem dX10_agreesIn_19 : decode cX10_agreesIn 19 = .ok (.aload_n 1, 1) := by decide +kernel
theorem dX10_agreesIn_20 : decode cX10_agreesIn 20 = .ok (.getfield 30, 3) := by decide +kernel
theorem dX10_agreesIn_23 : decode cX10_agreesIn 23 = .ok (.if_icmp .ge 23, 3) := by decide +kernel
theorem dX10_agreesIn_26 : decode cX10_agreesIn 26 = .ok (.aload_n 0, 1) := by decide +kernel
theorem dX10_agreesIn_27 : decode cX10_agreesIn 27 = .ok (.iload 4, 2) := by decide +kernel
theorem dX10_agreesIn_29 : decode cX10_agreesIn 29 = .ok (.iload_n 3, 1) := by decide +kernel
theorem dX10_agreesIn_30 : decode cX10_agreesIn 30 = .ok (.aload_n 0, 1) := by decide +kernel
theorem dX10_agreesIn_31 : decode cX10_agreesIn 31 = .ok (.iload 4, 2) := by decide +kernel
theorem dX10_agreesIn_33 : decode cX10_agreesIn 33 = .ok (.iload_n 3, 1) := by decide +kernel
theorem dX10_agreesIn_34 : decode cX10_agreesIn 34 = .ok (.invokevirtual 36, 3) := by decide +kernel
theorem dX10_agreesIn_37 : decode cX10_agreesIn 37 = .ok (.invokevirtual 40, 3) := by decide +kernel
theorem dX10_agreesIn_40 : decode cX10_agreesIn 40 = .ok (.iinc 4 1, 3) := by decide +kernel
theorem dX10_agreesIn_43 : decode cX10_agreesIn 43 = .ok (.goto (-26), 3) := by decide +kernel
theorem dX10_agreesIn_46 : decode cX10_agreesIn 46 = .ok (.aload_n 0, 1) := by decide +kernel
theorem dX10_agreesIn_47 : decode cX10_agreesIn 47 = .ok (.iload_n 3, 1) := by decide +kernel
theorem dX10_agreesIn_48 : decode cX10_agreesIn 48 = .ok (.aload_n 2, 1) := by decide +kernel
theorem dX10_agreesIn_49 : decode cX10_agreesIn 49 = .ok (.getfield 44, 3) := by decide +kernel
theorem dX10_agreesIn_52 : decode cX10_agreesIn 52 = .ok (.invokevirtual 50, 3) := by decide +kernel
theorem dX10_agreesIn_55 : decode cX10_agreesIn 55 = .ok (.ifCond .ne 5, 3) := by decide +kernel
theorem dX10_agreesIn_58 : decode cX10_agreesIn 58 = .ok (.iconst 0, 1) := by decide +kernel
theorem dX10_agreesIn_59 : decode cX10_agreesIn 59 = .ok (.ireturn, 1) := by decide +kernel
theorem dX10_agreesIn_60 : decode cX10_agreesIn 60 = .ok (.iinc 3 1, 3) := by decide +kernel
theorem dX10_agreesIn_63 : decode cX10_agreesIn 63 = .ok (.goto (-55), 3) := by decide +kernel
theorem dX10_agreesIn_66 : decode cX10_agreesIn 66 = .ok (.iconst 1, 1) := by decide +kernel
theorem dX10_agreesIn_67 : decode cX10_agreesIn 67 = .ok (.ireturn, 1) := by decide +kernel
theorem dX10_trueOnes_0 : decode cX10_trueOnes 0 = .ok (.iconst 0, 1) := by decide +kernel
theorem dX10_trueOnes_1 : decode cX10_trueOnes 1 = .ok (.istore_n 2, 1) := by decide +kernel
theorem dX10_trueOnes_2 : decode cX10_trueOnes 2 = .ok (.iconst 0, 1) := by decide +kernel
theorem dX10_trueOnes_3 : decode cX10_trueOnes 3 = .ok (.istore_n 3, 1) := by decide +kernel
theorem dX10_trueOnes_4 : decode cX10_trueOnes 4 = .ok (.iload_n 3, 1) := by decide +kernel
theorem dX10_trueOnes_5 : decode cX10_trueOnes 5 = .ok (.aload_n 1, 1) := by decide +kernel
theorem dX10_trueOnes_6 : decode cX10_trueOnes 6 = .ok (.getfield 68, 3) := by decide +kernel
theorem dX10_trueOnes_9 : decode cX10_trueOnes 9 = .ok (.if_icmp .ge 26, 3) := by decide +kernel
theorem dX10_trueOnes_12 : decode cX10_trueOnes 12 = .ok (.iload_n 2, 1) := by decide +kernel
theorem dX10_trueOnes_13 : decode cX10_trueOnes 13 = .ok (.aload_n 0, 1) := by decide +kernel
theorem dX10_trueOnes_14 : decode cX10_trueOnes 14 = .ok (.aload_n 1, 1) := by decide +kernel
theorem dX10_trueOnes_15 : decode cX10_trueOnes 15 = .ok (.iload_n 3, 1) := by decide +kernel
theorem dX10_trueOnes_16 : decode cX10_trueOnes 16 = .ok (.invokevirtual 141, 3) := by decide +kernel
theorem dX10_trueOnes_19 : decode cX10_trueOnes 19 = .ok (.ifCond .eq 7, 3) := by decide +kernel
theorem dX10_trueOnes_22 : decode cX10_trueOnes 22 = .ok (.iconst 1, 1) := by decide +kernel
theorem dX10_trueOnes_23 : decode cX10_trueOnes 23 = .ok (.goto 4, 3) := by decide +kernel
theorem dX10_trueOnes_26 : decode cX10_trueOnes 26 = .ok (.iconst 0, 1) := by decide +kernel
theorem dX10_trueOnes_27 : decode cX10_trueOnes 27 = .ok (.iadd, 1) := by decide +kernel
theorem dX10_trueOnes_28 : decode cX10_trueOnes 28 = .ok (.istore_n 2, 1) := by decide +kernel
theorem dX10_trueOnes_29 : decode cX10_trueOnes 29 = .ok (.iinc 3 1, 3) := by decide +kernel
theorem dX10_trueOnes_32 : decode cX10_trueOnes 32 = .ok (.goto (-28), 3) := by decide +kernel
theorem dX10_trueOnes_35 : decode cX10_trueOnes 35 = .ok (.iload_n 2, 1) := by decide +kernel
theorem dX10_trueOnes_36 : decode cX10_trueOnes 36 = .ok (.ireturn, 1) := by decide +kernel
theorem dX10_agreesWith_0 : decode cX10_agreesWith 0 = .ok (.aload_n 0, 1) := by decide +kernel
theorem dX10_agreesWith_1 : decode cX10_agreesWith 1 = .ok (.aload_n 1, 1) := by decide +kernel
theorem dX10_agreesWith_2 : decode cX10_agreesWith 2 = .ok (.invokevirtual 145, 3) := by decide +kernel
theorem dX10_agreesWith_5 : decode cX10_agreesWith 5 = .ok (.aload_n 1, 1) := by decide +kernel
theorem dX10_agreesWith_6 : decode cX10_agreesWith 6 = .ok (.getfield 68, 3) := by decide +kernel
theorem dX10_agreesWith_9 : decode cX10_agreesWith 9 = .ok (.if_icmp .ne 7, 3) := by decide +kernel
theorem dX10_agreesWith_12 : decode cX10_agreesWith 12 = .ok (.iconst 1, 1) := by decide +kernel
theorem dX10_agreesWith_13 : decode cX10_agreesWith 13 = .ok (.goto 4, 3) := by decide +kernel
theorem dX10_agreesWith_16 : decode cX10_agreesWith 16 = .ok (.iconst 0, 1) := by decide +kernel
theorem dX10_agreesWith_17 : decode cX10_agreesWith 17 = .ok (.ireturn, 1) := by decide +kernel
theorem dX10_isNeverEntered_0 : decode cX10_isNeverEntered 0 = .ok (.iconst 0, 1) := by decide +kernel
theorem dX10_isNeverEntered_1 : decode cX10_isNeverEntered 1 = .ok (.istore_n 2, 1) := by decide +kernel
theorem dX10_isNeverEntered_2 : decode cX10_isNeverEntered 2 = .ok (.iconst 1, 1) := by decide +kernel
theorem dX10_isNeverEntered_3 : decode cX10_isNeverEntered 3 = .ok (.istore_n 3, 1) := by decide +kernel
theorem dX10_isNeverEntered_4 : decode cX10_isNeverEntered 4 = .ok (.iload_n 3, 1) := by decide +kernel
theorem dX10_isNeverEntered_5 : decode cX10_isNeverEntered 5 = .ok (.bipush 8, 2) := by decide +kernel
theorem dX10_isNeverEntered_7 : decode cX10_isNeverEntered 7 = .ok (.if_icmp .gt 18, 3) := by decide +kernel
theorem dX10_isNeverEntered_10 : decode cX10_isNeverEntered 10 = .ok (.iload_n 2, 1) := by decide +kernel
theorem dX10_isNeverEntered_11 : decode cX10_isNeverEntered 11 = .ok (.aload_n 0, 1) := by decide +kernel
theorem dX10_isNeverEntered_12 : decode cX10_isNeverEntered 12 = .ok (.iload_n 1, 1) := by decide +kernel
theorem dX10_isNeverEntered_13 : decode cX10_isNeverEntered 13 = .ok (.iload_n 3, 1) := by decide +kernel
theorem dX10_isNeverEntered_14 : decode cX10_isNeverEntered 14 = .ok (.invokevirtual 132, 3) := by decide +kernel
theorem dX10_isNeverEntered_17 : decode cX10_isNeverEntered 17 = .ok (.ior, 1) := by decide +kernel
theorem dX10_isNeverEntered_18 : decode cX10_isNeverEntered 18 = .ok (.istore_n 2, 1) := by decide +kernel
theorem dX10_isNeverEntered_19 : decode cX10_isNeverEntered 19 = .ok (.iinc 3 1, 3) := by decide +kernel
theorem dX10_isNeverEntered_22 : decode cX10_isNeverEntered 22 = .ok (.goto (-18), 3) := by decide +kernel
theorem dX10_isNeverEntered_25 : decode cX10_isNeverEntered 25 = .ok (.iload_n 2, 1) := by decide +kernel
theorem dX10_isNeverEntered_26 : decode cX10_isNeverEntered 26 = .ok (.ifCond .ne 7, 3) := by decide +kernel
theorem dX10_isNeverEntered_29 : decode cX10_isNeverEntered 29 = .ok (.iconst 1, 1) := by decide +kernel
theorem dX10_isNeverEntered_30 : decode cX10_isNeverEntered 30 = .ok (.goto 4, 3) := by decide +kernel
theorem dX10_isNeverEntered_33 : decode cX10_isNeverEntered 33 = .ok (.iconst 0, 1) := by decide +kernel
theorem dX10_isNeverEntered_34 : decode cX10_isNeverEntered 34 = .ok (.ireturn, 1) := by decide +kernel
theorem dX10_bringsTogether_0 : decode cX10_bringsTogether 0 = .ok (.iconst 1, 1) := by decide +kernel
theorem dX10_bringsTogether_1 : decode cX10_bringsTogether 1 = .ok (.istore_n 3, 1) := by decide +kernel
theorem dX10_bringsTogether_2 : decode cX10_bringsTogether 2 = .ok (.iload_n 3, 1) := by decide +kernel
theorem dX10_bringsTogether_3 : decode cX10_bringsTogether 3 = .ok (.bipush 8, 2) := by decide +kernel
theorem dX10_bringsTogether_5 : decode cX10_bringsTogether 5 = .ok (.if_icmp .gt 26, 3) := by decide +kernel
theorem dX10_bringsTogether_8 : decode cX10_bringsTogether 8 = .ok (.aload_n 0, 1) := by decide +kernel
theorem dX10_bringsTogether_9 : decode cX10_bringsTogether 9 = .ok (.iload_n 1, 1) := by decide +kernel
theorem dX10_bringsTogether_10 : decode cX10_bringsTogether 10 = .ok (.iload_n 3, 1) := by decide +kernel
theorem dX10_bringsTogether_11 : decode cX10_bringsTogether 11 = .ok (.invokevirtual 83, 3) := by decide +kernel
theorem dX10_bringsTogether_14 : decode cX10_bringsTogether 14 = .ok (.aload_n 0, 1) := by decide +kernel
theorem dX10_bringsTogether_15 : decode cX10_bringsTogether 15 = .ok (.iload_n 2, 1) := by decide +kernel
theorem dX10_bringsTogether_16 : decode cX10_bringsTogether 16 = .ok (.iload_n 3, 1) := by decide +kernel
theorem dX10_bringsTogether_17 : decode cX10_bringsTogether 17 = .ok (.invokevirtual 83, 3) := by decide +kernel
theorem dX10_bringsTogether_20 : decode cX10_bringsTogether 20 = .ok (.if_icmp .ne 5, 3) := by decide +kernel
theorem dX10_bringsTogether_23 : decode cX10_bringsTogether 23 = .ok (.iconst 1, 1) := by decide +kernel
theorem dX10_bringsTogether_24 : decode cX10_bringsTogether 24 = .ok (.ireturn, 1) := by decide +kernel
theorem dX10_bringsTogether_25 : decode cX10_bringsTogether 25 = .ok (.iinc 3 1, 3) := by decide +kernel
theorem dX10_bringsTogether_28 : decode cX10_bringsTogether 28 = .ok (.goto (-26), 3) := by decide +kernel
theorem dX10_bringsTogether_31 : decode cX10_bringsTogether 31 = .ok (.iconst 0, 1) := by decide +kernel
theorem dX10_bringsTogether_32 : decode cX10_bringsTogether 32 = .ok (.ireturn, 1) := by decide +kernel
theorem dX11_refuse_0 : decode cX11_refuse 0 = .ok (.aload_n 0, 1) := by decide +kernel
theorem dX11_refuse_1 : decode cX11_refuse 1 = .ok (.getfield 76, 3) := by decide +kernel
theorem dX11_refuse_4 : decode cX11_refuse 4 = .ok (.iload_n 1, 1) := by decide +kernel
theorem dX11_refuse_5 : decode cX11_refuse 5 = .ok (.dup2, 1) := by decide +kernel
theorem dX11_refuse_6 : decode cX11_refuse 6 = .ok (.iaload, 1) := by decide +kernel
theorem dX11_refuse_7 : decode cX11_refuse 7 = .ok (.iconst 1, 1) := by decide +kernel
theorem dX11_refuse_8 : decode cX11_refuse 8 = .ok (.iadd, 1) := by decide +kernel
theorem dX11_refuse_9 : decode cX11_refuse 9 = .ok (.iastore, 1) := by decide +kernel
theorem dX11_refuse_10 : decode cX11_refuse 10 = .ok (.iconst (-1), 1) := by decide +kernel
theorem dX11_refuse_11 : decode cX11_refuse 11 = .ok (.ireturn, 1) := by decide +kernel
theorem dX11_feed_0 : decode cX11_feed 0 = .ok (.aload_n 0, 1) := by decide +kernel
theorem dX11_feed_1 : decode cX11_feed 1 = .ok (.getfield 10, 3) := by decide +kernel
theorem dX11_feed_4 : decode cX11_feed 4 = .ok (.getfield 84, 3) := by decide +kernel
theorem dX11_feed_7 : decode cX11_feed 7 = .ok (.bipush 20, 2) := by decide +kernel
theorem dX11_feed_9 : decode cX11_feed 9 = .ok (.iadd, 1) := by decide +kernel
theorem dX11_feed_10 : decode cX11_feed 10 = .ok (.sipush 1600, 3) := by decide +kernel
theorem dX11_feed_13 : decode cX11_feed 13 = .ok (.if_icmp .le 9, 3) := by decide +kernel
theorem dX11_feed_16 : decode cX11_feed 16 = .ok (.aload_n 0, 1) := by decide +kernel
theorem dX11_feed_17 : decode cX11_feed 17 = .ok (.iconst 0, 1) := by decide +kernel
theorem dX11_feed_18 : decode cX11_feed 18 = .ok (.invokevirtual 87, 3) := by decide +kernel
theorem dX11_feed_21 : decode cX11_feed 21 = .ok (.ireturn, 1) := by decide +kernel
theorem dX11_feed_22 : decode cX11_feed 22 = .ok (.aload_n 0, 1) := by decide +kernel
theorem dX11_feed_23 : decode cX11_feed 23 = .ok (.getfield 10, 3) := by decide +kernel
theorem dX11_feed_26 : decode cX11_feed 26 = .ok (.iload_n 1, 1) := by decide +kernel
theorem dX11_feed_27 : decode cX11_feed 27 = .ok (.invokevirtual 91, 3) := by decide +kernel
theorem dX11_feed_30 : decode cX11_feed 30 = .ok (.aload_n 0, 1) := by decide +kernel
theorem dX11_feed_31 : decode cX11_feed 31 = .ok (.getfield 10, 3) := by decide +kernel
theorem dX11_feed_34 : decode cX11_feed 34 = .ok (.iload_n 2, 1) := by decide +kernel
theorem dX11_feed_35 : decode cX11_feed 35 = .ok (.invokevirtual 91, 3) := by decide +kernel
theorem dX11_feed_38 : decode cX11_feed 38 = .ok (.aload_n 0, 1) := by decide +kernel
theorem dX11_feed_39 : decode cX11_feed 39 = .ok (.getfield 10, 3) := by decide +kernel
theorem dX11_feed_42 : decode cX11_feed 42 = .ok (.iload_n 3, 1) := by decide +kernel
theorem dX11_feed_43 : decode cX11_feed 43 = .ok (.invokevirtual 91, 3) := by decide +kernel
theorem dX11_feed_46 : decode cX11_feed 46 = .ok (.aload_n 0, 1) := by decide +kernel
theorem dX11_feed_47 : decode cX11_feed 47 = .ok (.getfield 10, 3) := by decide +kernel
theorem dX11_feed_50 : decode cX11_feed 50 = .ok (.iload 4, 2) := by decide +kernel
theorem dX11_feed_52 : decode cX11_feed 52 = .ok (.invokevirtual 91, 3) := by decide +kernel
theorem dX11_feed_55 : decode cX11_feed 55 = .ok (.aload_n 0, 1) := by decide +kernel
theorem dX11_feed_56 : decode cX11_feed 56 = .ok (.getfield 10, 3) := by decide +kernel
theorem dX11_feed_59 : decode cX11_feed 59 = .ok (.iload 5, 2) := by decide +kernel
theorem dX11_feed_61 : decode cX11_feed 61 = .ok (.invokevirtual 91, 3) := by decide +kernel
theorem dX11_feed_64 : decode cX11_feed 64 = .ok (.aload_n 0, 1) := by decide +kernel
theorem dX11_feed_65 : decode cX11_feed 65 = .ok (.getfield 10, 3) := by decide +kernel
theorem dX11_feed_68 : decode cX11_feed 68 = .ok (.getfield 84, 3) := by decide +kernel
theorem dX11_feed_71 : decode cX11_feed 71 = .ok (.ireturn, 1) := by decide +kernel
theorem dX11_deny_0 : decode cX11_deny 0 = .ok (.aload_n 0, 1) := by decide +kernel
theorem dX11_deny_1 : decode cX11_deny 1 = .ok (.getfield 76, 3) := by decide +kernel
theorem dX11_deny_4 : decode cX11_deny 4 = .ok (.iload_n 1, 1) := by decide +kernel
theorem dX11_deny_5 : decode cX11_deny 5 = .ok (.dup2, 1) := by decide +kernel
theorem dX11_deny_6 : decode cX11_deny 6 = .ok (.iaload, 1) := by decide +kernel
theorem dX11_deny_7 : decode cX11_deny 7 = .ok (.iconst 1, 1) := by decide +kernel
theorem dX11_deny_8 : decode cX11_deny 8 = .ok (.iadd, 1) := by decide +kernel
theorem dX11_deny_9 : decode cX11_deny 9 = .ok (.iastore, 1) := by decide +kernel
theorem dX11_deny_10 : decode cX11_deny 10 = .ok (.iconst 0, 1) := by decide +kernel
theorem dX11_deny_11 : decode cX11_deny 11 = .ok (.ireturn, 1) := by decide +kernel
theorem dX11_end_0 : decode cX11_end 0 = .ok (.iload_n 1, 1) := by decide +kernel
theorem dX11_end_1 : decode cX11_end 1 = .ok (.ifCond .lt 14, 3) := by decide +kernel
theorem dX11_end_4 : decode cX11_end 4 = .ok (.iload_n 1, 1) := by decide +kernel
theorem dX11_end_5 : decode cX11_end 5 = .ok (.aload_n 0, 1) := by decide +kernel
theorem dX11_end_6 : decode cX11_end 6 = .ok (.getfield 10, 3) := by decide +kernel
theorem dX11_end_9 : decode cX11_end 9 = .ok (.getfield 84, 3) := by decide +kernel
theorem dX11_end_12 : decode cX11_end 12 = .ok (.if_icmp .le 9, 3) := by decide +kernel
theorem dX11_end_15 : decode cX11_end 15 = .ok (.aload_n 0, 1) := by decide +kernel
theorem dX11_end_16 : decode cX11_end 16 = .ok (.iconst 0, 1) := by decide +kernel
theorem dX11_end_17 : decode cX11_end 17 = .ok (.invokevirtual 95, 3) := by decide +kernel
theorem dX11_end_20 : decode cX11_end 20 = .ok (.ireturn, 1) := by decide +kernel
theorem dX11_end_21 : decode cX11_end 21 = .ok (.aload_n 0, 1) := by decide +kernel
theorem dX11_end_22 : decode cX11_end 22 = .ok (.getfield 10, 3) := by decide +kernel
theorem dX11_end_25 : decode cX11_end 25 = .ok (.iload_n 1, 1) := by decide +kernel
theorem dX11_end_26 : decode cX11_end 26 = .ok (.putfield 84, 3) := by decide +kernel
theorem dX11_end_29 : decode cX11_end 29 = .ok (.iconst 1, 1) := by decide +kernel
theorem dX11_end_30 : decode cX11_end 30 = .ok (.ireturn, 1) := by decide +kernel
theorem dX11_town_0 : decode cX11_town 0 = .ok (.aload_n 0, 1) := by decide +kernel
theorem dX11_town_1 : decode cX11_town 1 = .ok (.getfield 21, 3) := by decide +kernel
theorem dX11_town_4 : decode cX11_town 4 = .ok (.aload_n 0, 1) := by decide +kernel
theorem dX11_town_5 : decode cX11_town 5 = .ok (.getfield 32, 3) := by decide +kernel
theorem dX11_town_8 : decode cX11_town 8 = .ok (.invokevirtual 99, 3) := by decide +kernel
theorem dX11_town_11 : decode cX11_town 11 = .ok (.istore_n 1, 1) := by decide +kernel
theorem dX11_town_12 : decode cX11_town 12 = .ok (.aload_n 0, 1) := by decide +kernel
theorem dX11_town_13 : decode cX11_town 13 = .ok (.getfield 10, 3) := by decide +kernel
theorem dX11_town_16 : decode cX11_town 16 = .ok (.iconst 0, 1) := by decide +kernel
theorem dX11_town_17 : decode cX11_town 17 = .ok (.putfield 84, 3) := by decide +kernel
theorem dX11_town_20 : decode cX11_town 20 = .ok (.iload_n 1, 1) := by decide +kernel
theorem dX11_town_21 : decode cX11_town 21 = .ok (.iconst (-1), 1) := by decide +kernel
theorem dX11_town_22 : decode cX11_town 22 = .ok (.if_icmp .ne 9, 3) := by decide +kernel
theorem dX11_town_25 : decode cX11_town 25 = .ok (.aload_n 0, 1) := by decide +kernel
theorem dX11_town_26 : decode cX11_town 26 = .ok (.iconst 1, 1) := by decide +kernel
theorem dX11_town_27 : decode cX11_town 27 = .ok (.invokevirtual 87, 3) := by decide +kernel
theorem dX11_town_30 : decode cX11_town 30 = .ok (.ireturn, 1) := by decide +kernel
theorem dX11_town_31 : decode cX11_town 31 = .ok (.aload_n 0, 1) := by decide +kernel
theorem dX11_town_32 : decode cX11_town 32 = .ok (.getfield 28, 3) := by decide +kernel
theorem dX11_town_35 : decode cX11_town 35 = .ok (.astore_n 2, 1) := by decide +kernel
theorem dX11_town_36 : decode cX11_town 36 = .ok (.aload_n 0, 1) := by decide +kernel
theorem dX11_town_37 : decode cX11_town 37 = .ok (.aload_n 0, 1) := by decide +kernel
theorem dX11_town_38 : decode cX11_town 38 = .ok (.getfield 32, 3) := by decide +kernel
theorem dX11_town_41 : decode cX11_town 41 = .ok (.putfield 28, 3) := by decide +kernel
theorem dX11_town_44 : decode cX11_town 44 = .ok (.aload_n 0, 1) := by decide +kernel
theorem dX11_town_45 : decode cX11_town 45 = .ok (.aload_n 2, 1) := by decide +kernel
theorem dX11_town_46 : decode cX11_town 46 = .ok (.putfield 32, 3) := by decide +kernel
theorem dX11_town_49 : decode cX11_town 49 = .ok (.aload_n 0, 1) := by decide +kernel
theorem dX11_town_50 : decode cX11_town 50 = .ok (.getfield 38, 3) := by decide +kernel
theorem dX11_town_53 : decode cX11_town 53 = .ok (.aload_n 0, 1) := by decide +kernel
theorem dX11_town_54 : decode cX11_town 54 = .ok (.getfield 28, 3) := by decide +kernel
theorem dX11_town_57 : decode cX11_town 57 = .ok (.invokevirtual 103, 3) := by decide +kernel
theorem dX11_town_60 : decode cX11_town 60 = .ok (.aload_n 0, 1) := by decide +kernel
theorem dX11_town_61 : decode cX11_town 61 = .ok (.getfield 58, 3) := by decide +kernel
theorem dX11_town_64 : decode cX11_town 64 = .ok (.invokevirtual 107, 3) := by decide +kernel
theorem dX11_town_67 : decode cX11_town 67 = .ok (.aload_n 0, 1) := by decide +kernel
theorem dX11_town_68 : decode cX11_town 68 = .ok (.getfield 72, 3) := by decide +kernel
theorem dX11_town_71 : decode cX11_town 71 = .ok (.iconst 0, 1) := by decide +kernel
theorem dX11_town_72 : decode cX11_town 72 = .ok (.putfield 110, 3) := by decide +kernel
theorem dX11_town_75 : decode cX11_town 75 = .ok (.aload_n 0, 1) := by decide +kernel
theorem dX11_town_76 : decode cX11_town 76 = .ok (.iconst 0, 1) := by decide +kernel
theorem dX11_town_77 : decode cX11_town 77 = .ok (.putfield 113, 3) := by decide +kernel
theorem dX11_town_80 : decode cX11_town 80 = .ok (.iload_n 1, 1) := by decide +kernel
theorem dX11_town_81 : decode cX11_town 81 = .ok (.ireturn, 1) := by decide +kernel
theorem dX11_fault_0 : decode cX11_fault 0 = .ok (.iload_n 1, 1) := by decide +kernel
theorem dX11_fault_1 : decode cX11_fault 1 = .ok (.lookupswitch 43 #[(0, 27), (1, 35)], 27) := by decide +kernel
theorem dX11_fault_28 : decode cX11_fault 28 = .ok (.aload_n 0, 1) := by decide +kernel
theorem dX11_fault_29 : decode cX11_fault 29 = .ok (.getfield 10, 3) := by decide +kernel
theorem dX11_fault_32 : decode cX11_fault 32 = .ok (.getfield 117, 3) := by decide +kernel
theorem dX11_fault_35 : decode cX11_fault 35 = .ok (.ireturn, 1) := by decide +kernel
theorem dX11_fault_36 : decode cX11_fault 36 = .ok (.aload_n 0, 1) := by decide +kernel
theorem dX11_fault_37 : decode cX11_fault 37 = .ok (.getfield 10, 3) := by decide +kernel
theorem dX11_fault_40 : decode cX11_fault 40 = .ok (.getfield 120, 3) := by decide +kernel
theorem dX11_fault_43 : decode cX11_fault 43 = .ok (.ireturn, 1) := by decide +kernel
theorem dX11_fault_44 : decode cX11_fault 44 = .ok (.iconst (-1), 1) := by decide +kernel
theorem dX11_fault_45 : decode cX11_fault 45 = .ok (.ireturn, 1) := by decide +kernel
theorem dX11_thisDay_0 : decode cX11_thisDay 0 = .ok (.aload_n 0, 1) := by decide +kernel
theorem dX11_thisDay_1 : decode cX11_thisDay 1 = .ok (.getfield 113, 3) := by decide +kernel
theorem dX11_thisDay_4 : decode cX11_thisDay 4 = .ok (.ifCond .ne 23, 3) := by decide +kernel
theorem dX11_thisDay_7 : decode cX11_thisDay 7 = .ok (.aload_n 0, 1) := by decide +kernel
theorem dX11_thisDay_8 : decode cX11_thisDay 8 = .ok (.getfield 48, 3) := by decide +kernel
theorem dX11_thisDay_11 : decode cX11_thisDay 11 = .ok (.aload_n 0, 1) := by decide +kernel
theorem dX11_thisDay_12 : decode cX11_thisDay 12 = .ok (.getfield 28, 3) := by decide +kernel
theorem dX11_thisDay_15 : decode cX11_thisDay 15 = .ok (.aload_n 0, 1) := by decide +kernel
theorem dX11_thisDay_16 : decode cX11_thisDay 16 = .ok (.getfield 38, 3) := by decide +kernel
theorem dX11_thisDay_19 : decode cX11_thisDay 19 = .ok (.invokevirtual 232, 3) := by decide +kernel
theorem dX11_thisDay_22 : decode cX11_thisDay 22 = .ok (.aload_n 0, 1) := by decide +kernel
theorem dX11_thisDay_23 : decode cX11_thisDay 23 = .ok (.iconst 1, 1) := by decide +kernel
theorem dX11_thisDay_24 : decode cX11_thisDay 24 = .ok (.putfield 113, 3) := by decide +kernel
theorem dX11_thisDay_27 : decode cX11_thisDay 27 = .ok (.aload_n 0, 1) := by decide +kernel
theorem dX11_thisDay_28 : decode cX11_thisDay 28 = .ok (.getfield 48, 3) := by decide +kernel
theorem dX11_thisDay_31 : decode cX11_thisDay 31 = .ok (.areturn, 1) := by decide +kernel
theorem dX11_told_0 : decode cX11_told 0 = .ok (.aload_n 0, 1) := by decide +kernel
theorem dX11_told_1 : decode cX11_told 1 = .ok (.getfield 38, 3) := by decide +kernel
theorem dX11_told_4 : decode cX11_told 4 = .ok (.getfield 306, 3) := by decide +kernel
theorem dX11_told_7 : decode cX11_told 7 = .ok (.bipush 40, 2) := by decide +kernel
theorem dX11_told_9 : decode cX11_told 9 = .ok (.invokestatic 322, 3) := by decide +kernel
theorem dX11_told_12 : decode cX11_told 12 = .ok (.ireturn, 1) := by decide +kernel
theorem dX11_has_0 : decode cX11_has 0 = .ok (.iload_n 1, 1) := by decide +kernel
theorem dX11_has_1 : decode cX11_has 1 = .ok (.tableswitch 154 0 10 #[59, 67, 75, 83, 91, 102, 113, 128, 133, 141, 149], 59) := by decide +kernel
theorem dX11_has_60 : decode cX11_has 60 = .ok (.aload_n 0, 1) := by decide +kernel
theorem dX11_has_61 : decode cX11_has 61 = .ok (.getfield 28, 3) := by decide +kernel
theorem dX11_has_64 : decode cX11_has 64 = .ok (.getfield 123, 3) := by decide +kernel
theorem dX11_has_67 : decode cX11_has 67 = .ok (.ireturn, 1) := by decide +kernel
theorem dX11_has_68 : decode cX11_has 68 = .ok (.aload_n 0, 1) := by decide +kernel
theorem dX11_has_69 : decode cX11_has 69 = .ok (.getfield 28, 3) := by decide +kernel
theorem dX11_has_72 : decode cX11_has 72 = .ok (.getfield 126, 3) := by decide +kernel
theorem dX11_has_75 : decode cX11_has 75 = .ok (.ireturn, 1) := by decide +kernel
theorem dX11_has_76 : decode cX11_has 76 = .ok (.aload_n 0, 1) := by decide +kernel
theorem dX11_has_77 : decode cX11_has 77 = .ok (.getfield 28, 3) := by decide +kernel
theorem dX11_has_80 : decode cX11_has 80 = .ok (.getfield 129, 3) := by decide +kernel
theorem dX11_has_83 : decode cX11_has 83 = .ok (.ireturn, 1) := by decide +kernel
theorem dX11_has_84 : decode cX11_has 84 = .ok (.aload_n 0, 1) := by decide +kernel
theorem dX11_has_85 : decode cX11_has 85 = .ok (.getfield 38, 3) := by decide +kernel
theorem dX11_has_88 : decode cX11_has 88 = .ok (.getfield 132, 3) := by decide +kernel
theorem dX11_has_91 : decode cX11_has 91 = .ok (.ireturn, 1) := by decide +kernel
theorem dX11_has_92 : decode cX11_has 92 = .ok (.aload_n 0, 1) := by decide +kernel
theorem dX11_has_93 : decode cX11_has 93 = .ok (.getfield 38, 3) := by decide +kernel
theorem dX11_has_96 : decode cX11_has 96 = .ok (.getfield 135, 3) := by decide +kernel
theorem dX11_has_99 : decode cX11_has 99 = .ok (.getfield 139, 3) := by decide +kernel
theorem dX11_has_102 : decode cX11_has 102 = .ok (.ireturn, 1) := by decide +kernel
theorem dX11_has_103 : decode cX11_has 103 = .ok (.aload_n 0, 1) := by decide +kernel
theorem dX11_has_104 : decode cX11_has 104 = .ok (.getfield 38, 3) := by decide +kernel
theorem dX11_has_107 : decode cX11_has 107 = .ok (.getfield 144, 3) := by decide +kernel
theorem dX11_has_110 : decode cX11_has 110 = .ok (.invokestatic 147, 3) := by decide +kernel
theorem dX11_has_113 : decode cX11_has 113 = .ok (.ireturn, 1) := by decide +kernel
theorem dX11_has_114 : decode cX11_has 114 = .ok (.aload_n 0, 1) := by decide +kernel
theorem dX11_has_115 : decode cX11_has 115 = .ok (.invokevirtual 152, 3) := by decide +kernel
theorem dX11_has_118 : decode cX11_has 118 = .ok (.aload_n 0, 1) := by decide +kernel
theorem dX11_has_119 : decode cX11_has 119 = .ok (.getfield 38, 3) := by decide +kernel
theorem dX11_has_122 : decode cX11_has 122 = .ok (.getfield 135, 3) := by decide +kernel
theorem dX11_has_125 : decode cX11_has 125 = .ok (.invokevirtual 156, 3) := by decide +kernel
theorem dX11_has_128 : decode cX11_has 128 = .ok (.ireturn, 1) := by decide +kernel
theorem dX11_has_129 : decode cX11_has 129 = .ok (.aload_n 0, 1) := by decide +kernel
theorem dX11_has_130 : decode cX11_has 130 = .ok (.invokevirtual 160, 3) := by decide +kernel
theorem dX11_has_133 : decode cX11_has 133 = .ok (.ireturn, 1) := by decide +kernel
theorem dX11_has_134 : decode cX11_has 134 = .ok (.aload_n 0, 1) := by decide +kernel
theorem dX11_has_135 : decode cX11_has 135 = .ok (.getfield 72, 3) := by decide +kernel
theorem dX11_has_138 : decode cX11_has 138 = .ok (.getfield 110, 3) := by decide +kernel
theorem dX11_has_141 : decode cX11_has 141 = .ok (.ireturn, 1) := by decide +kernel
theorem dX11_has_142 : decode cX11_has 142 = .ok (.aload_n 0, 1) := by decide +kernel
theorem dX11_has_143 : decode cX11_has 143 = .ok (.getfield 58, 3) := by decide +kernel
theorem dX11_has_146 : decode cX11_has 146 = .ok (.getfield 164, 3) := by decide +kernel
theorem dX11_has_149 : decode cX11_has 149 = .ok (.ireturn, 1) := by decide +kernel
theorem dX11_has_150 : decode cX11_has 150 = .ok (.aload_n 0, 1) := by decide +kernel
theorem dX11_has_151 : decode cX11_has 151 = .ok (.getfield 80, 3) := by decide +kernel
theorem dX11_has_154 : decode cX11_has 154 = .ok (.ireturn, 1) := by decide +kernel
theorem dX11_has_155 : decode cX11_has 155 = .ok (.iconst (-1), 1) := by decide +kernel
theorem dX11_has_156 : decode cX11_has 156 = .ok (.ireturn, 1) := by decide +kernel
theorem dX11_isPlace_0 : decode cX11_isPlace 0 = .ok (.iload_n 1, 1) := by decide +kernel
theorem dX11_isPlace_1 : decode cX11_isPlace 1 = .ok (.ifCond .lt 18, 3) := by decide +kernel
theorem dX11_isPlace_4 : decode cX11_isPlace 4 = .ok (.iload_n 1, 1) := by decide +kernel
theorem dX11_isPlace_5 : decode cX11_isPlace 5 = .ok (.aload_n 0, 1) := by decide +kernel
theorem dX11_isPlace_6 : decode cX11_isPlace 6 = .ok (.getfield 28, 3) := by decide +kernel
theorem dX11_isPlace_9 : decode cX11_isPlace 9 = .ok (.getfield 123, 3) := by decide +kernel
theorem dX11_isPlace_12 : decode cX11_isPlace 12 = .ok (.if_icmp .ge 7, 3) := by decide +kernel
theorem dX11_isPlace_15 : decode cX11_isPlace 15 = .ok (.iconst 1, 1) := by decide +kernel
theorem dX11_isPlace_16 : decode cX11_isPlace 16 = .ok (.goto 4, 3) := by decide +kernel
theorem dX11_isPlace_19 : decode cX11_isPlace 19 = .ok (.iconst 0, 1) := by decide +kernel
theorem dX11_isPlace_20 : decode cX11_isPlace 20 = .ok (.ireturn, 1) := by decide +kernel
theorem dX11_isPerson_0 : decode cX11_isPerson 0 = .ok (.iload_n 1, 1) := by decide +kernel
theorem dX11_isPerson_1 : decode cX11_isPerson 1 = .ok (.ifCond .lt 18, 3) := by decide +kernel
theorem dX11_isPerson_4 : decode cX11_isPerson 4 = .ok (.iload_n 1, 1) := by decide +kernel
theorem dX11_isPerson_5 : decode cX11_isPerson 5 = .ok (.aload_n 0, 1) := by decide +kernel
theorem dX11_isPerson_6 : decode cX11_isPerson 6 = .ok (.getfield 28, 3) := by decide +kernel
theorem dX11_isPerson_9 : decode cX11_isPerson 9 = .ok (.getfield 129, 3) := by decide +kernel
theorem dX11_isPerson_12 : decode cX11_isPerson 12 = .ok (.if_icmp .ge 7, 3) := by decide +kernel
theorem dX11_isPerson_15 : decode cX11_isPerson 15 = .ok (.iconst 1, 1) := by decide +kernel
theorem dX11_isPerson_16 : decode cX11_isPerson 16 = .ok (.goto 4, 3) := by decide +kernel
theorem dX11_isPerson_19 : decode cX11_isPerson 19 = .ok (.iconst 0, 1) := by decide +kernel
theorem dX11_isPerson_20 : decode cX11_isPerson 20 = .ok (.ireturn, 1) := by decide +kernel
theorem dX11_letter_0 : decode cX11_letter 0 = .ok (.iload_n 3, 1) := by decide +kernel
theorem dX11_letter_1 : decode cX11_letter 1 = .ok (.ifCond .lt 9, 3) := by decide +kernel
theorem dX11_letter_4 : decode cX11_letter 4 = .ok (.iload_n 3, 1) := by decide +kernel
theorem dX11_letter_5 : decode cX11_letter 5 = .ok (.bipush 6, 2) := by decide +kernel
theorem dX11_letter_7 : decode cX11_letter 7 = .ok (.if_icmp .lt 5, 3) := by decide +kernel
theorem dX11_letter_10 : decode cX11_letter 10 = .ok (.iconst (-1), 1) := by decide +kernel
theorem dX11_letter_11 : decode cX11_letter 11 = .ok (.ireturn, 1) := by decide +kernel
theorem dX11_letter_12 : decode cX11_letter 12 = .ok (.iload_n 1, 1) := by decide +kernel
theorem dX11_letter_13 : decode cX11_letter 13 = .ok (.ifCond .ne 25, 3) := by decide +kernel
theorem dX11_letter_16 : decode cX11_letter 16 = .ok (.aload_n 0, 1) := by decide +kernel
theorem dX11_letter_17 : decode cX11_letter 17 = .ok (.iload_n 2, 1) := by decide +kernel
theorem dX11_letter_18 : decode cX11_letter 18 = .ok (.invokevirtual 167, 3) := by decide +kernel
theorem dX11_letter_21 : decode cX11_letter 21 = .ok (.ifCond .eq 17, 3) := by decide +kernel
theorem dX11_letter_24 : decode cX11_letter 24 = .ok (.aload_n 0, 1) := by decide +kernel
theorem dX11_letter_25 : decode cX11_letter 25 = .ok (.getfield 28, 3) := by decide +kernel
theorem dX11_letter_28 : decode cX11_letter 28 = .ok (.getfield 170, 3) := by decide +kernel
theorem dX11_letter_31 : decode cX11_letter 31 = .ok (.iload_n 2, 1) := by decide +kernel
theorem dX11_letter_32 : decode cX11_letter 32 = .ok (.iaload, 1) := by decide +kernel
theorem dX11_letter_33 : decode cX11_letter 33 = .ok (.iload_n 3, 1) := by decide +kernel
theorem dX11_letter_34 : decode cX11_letter 34 = .ok (.invokestatic 173, 3) := by decide +kernel
theorem dX11_letter_37 : decode cX11_letter 37 = .ok (.ireturn, 1) := by decide +kernel
theorem dX11_letter_38 : decode cX11_letter 38 = .ok (.iload_n 1, 1) := by decide +kernel
theorem dX11_letter_39 : decode cX11_letter 39 = .ok (.iconst 1, 1) := by decide +kernel
theorem dX11_letter_40 : decode cX11_letter 40 = .ok (.if_icmp .ne 25, 3) := by decide +kernel
theorem dX11_letter_43 : decode cX11_letter 43 = .ok (.aload_n 0, 1) := by decide +kernel
theorem dX11_letter_44 : decode cX11_letter 44 = .ok (.iload_n 2, 1) := by decide +kernel
theorem dX11_letter_45 : decode cX11_letter 45 = .ok (.invokevirtual 177, 3) := by decide +kernel
theorem dX11_letter_48 : decode cX11_letter 48 = .ok (.ifCond .eq 17, 3) := by decide +kernel
theorem dX11_letter_51 : decode cX11_letter 51 = .ok (.aload_n 0, 1) := by decide +kernel
theorem dX11_letter_52 : decode cX11_letter 52 = .ok (.getfield 28, 3) := by decide +kernel
theorem dX11_letter_55 : decode cX11_letter 55 = .ok (.getfield 180, 3) := by decide +kernel
theorem dX11_letter_58 : decode cX11_letter 58 = .ok (.iload_n 2, 1) := by decide +kernel
theorem dX11_letter_59 : decode cX11_letter 59 = .ok (.iaload, 1) := by decide +kernel
theorem dX11_letter_60 : decode cX11_letter 60 = .ok (.iload_n 3, 1) := by decide +kernel
theorem dX11_letter_61 : decode cX11_letter 61 = .ok (.invokestatic 173, 3) := by decide +kernel
theorem dX11_letter_64 : decode cX11_letter 64 = .ok (.ireturn, 1) := by decide +kernel
theorem dX11_letter_65 : decode cX11_letter 65 = .ok (.iconst (-1), 1) := by decide +kernel
theorem dX11_letter_66 : decode cX11_letter 66 = .ok (.ireturn, 1) := by decide +kernel
set_option maxRecDepth 20000 in
theorem w_X9_read_J65 {Y : YT} {X : CX} (C : Cx Y X cX9_read 3 RX9 68) {Q : Int → Mem → Prop} (hR : Rt Y X (some .int) (PQi Y Q))   {M : Mem}  (h : m_X9_read_J65  Q  M) : G Y X 3 65 [] ([]) M := by
  unfold m_X9_read_J65 at h
  refine g_iconst C dX9_read_65 rfl ?_
  exact g_reti C hR dX9_read_66 h
set_option maxRecDepth 20000 in
theorem w_X9_read_L21 {Y : YT} {X : CX} (C : Cx Y X cX9_read 3 RX9 68) {Q : Int → Mem → Prop} (hR : Rt Y X (some .int) (PQi Y Q))   : ∀ (f : Nat) (v2 : Int) (M : Mem), m_X9_read_L21  Q f v2 M → G Y X 3 21 [(0, vR Y 4), (2, vI v2)] ([]) M := by
  intro f
  induction f with
  | zero =>
    intro v2 M h
    exact (show False from h).elim
  | succ f ih =>
    intro v2 M h
    unfold m_X9_read_L21 at h
    refine g_iload_n (q := 1) C dX9_read_21 rfl rfl ?_
    refine g_bipush (v := 80) C dX9_read_22 (by decide +kernel) ?_
    obtain ⟨g1, h⟩ := h
    obtain ⟨ht, hf⟩ := h
    refine g_icmp_ge (tgt := 73) C dX9_read_24 (by decide) g1 (by decide) (fun c => ?_) (fun c => ?_)
    · have h := ht c
      refine g_aload_n (q := 0) C dX9_read_73 rfl rfl ?_
      refine g_getS (v := 1) C fX9_9 dX9_read_74 kd_4 rfl ?_
      refine g_getI C fX9_38 (by decide) dX9_read_77 kd_1 ?_
      obtain ⟨g2, h⟩ := h
      obtain ⟨ht, hf⟩ := h
      refine g_if_eq (tgt := 95) C dX9_read_80 (by decide) g2 (fun c => ?_) (fun c => ?_)
      · have h := ht c
        refine g_aload_n (q := 0) C dX9_read_95 rfl rfl ?_
        obtain ⟨g3, h⟩ := h
        refine g_getM C fX9_24 dX9_read_96 kd_4 (kd_in g3 (by decide)).1 ?_
        refine g_cVv (As := []) C clX9_42 clvX8_measure dX9_read_99 g3 rfl (Nat.le_of_ble_eq_true rfl) rfl (by decide) (t_X8_measure (Cx.ok C) h) (fun M4 h => ?_)
        refine g_bipush (v := 80) C dX9_read_102 (by decide +kernel) ?_
        exact g_reti C hR dX9_read_104 h
      · have h := hf c
        refine g_aload_n (q := 0) C dX9_read_83 rfl rfl ?_
        refine g_getS (v := 1) C fX9_9 dX9_read_84 kd_4 rfl ?_
        refine g_bipush (v := 6) C dX9_read_87 (by decide +kernel) ?_
        refine g_cVi (As := [vI 6]) C clX9_53 clvX7_fail dX9_read_89 kd_1 rfl (Nat.le_of_ble_eq_true rfl) rfl (by decide) (t_X7_fail (Cx.ok C) h) (fun r6 M5 h => ?_)
        refine g_pop C dX9_read_92 rfl ?_
        refine g_iconst C dX9_read_93 rfl ?_
        exact g_reti C hR dX9_read_94 h
    · have h := hf c
      refine g_aload_n (q := 0) C dX9_read_27 rfl rfl ?_
      refine g_getS (v := 1) C fX9_9 dX9_read_28 kd_4 rfl ?_
      refine g_getI C fX9_38 (by decide) dX9_read_31 kd_1 ?_
      obtain ⟨g7, h⟩ := h
      obtain ⟨ht, hf⟩ := h
      refine g_if_ne (tgt := 46) C dX9_read_34 (by decide) g7 (fun c => ?_) (fun c => ?_)
      · have h := hf c
        refine g_aload_n (q := 0) C dX9_read_46 rfl rfl ?_
        refine g_cVi (As := []) C clX9_45 clvX9_statement dX9_read_47 kd_4 rfl (Nat.le_of_ble_eq_true rfl) rfl (by decide) (t_X9_statement (Cx.ok C) h) (fun r9 M8 h => ?_)
        obtain ⟨g10, h⟩ := h
        obtain ⟨ht, hf⟩ := h
        refine g_if_eq (tgt := 65) C dX9_read_50 (by decide) g10 (fun c => ?_) (fun c => ?_)
        · have h := ht c
          refine G.sub [] rfl ?_
          exact w_X9_read_J65 C hR  h
        · have h := hf c
          refine g_aload_n (q := 0) C dX9_read_53 rfl rfl ?_
          refine g_getS (v := 1) C fX9_9 dX9_read_54 kd_4 rfl ?_
          refine g_bipush (v := 59) C dX9_read_57 (by decide +kernel) ?_
          refine g_cVi (As := [vI 59]) C clX9_49 clvX7_takeSign dX9_read_59 kd_1 rfl (Nat.le_of_ble_eq_true rfl) rfl (by decide) (t_X7_takeSign (Cx.ok C) h) (fun r12 M11 h => ?_)
          obtain ⟨g13, h⟩ := h
          obtain ⟨ht, hf⟩ := h
          refine g_if_ne (tgt := 67) C dX9_read_62 (by decide) g13 (fun c => ?_) (fun c => ?_)
          · have h := hf c
            refine g_iinc (q := 1) (v := v2 + 1) (lv' := [(2, vI (v2 + 1)), (0, vR Y 4)]) C dX9_read_67 rfl rfl (by decide) rfl ?_
            refine g_goto (tgt := 21) C dX9_read_70 (by decide) ?_
            refine G.sub [1, 0] rfl ?_
            exact ih _ _ h
          · have h := ht c
            refine G.sub [] rfl ?_
            exact w_X9_read_J65 C hR  h
      · have h := ht c
        refine g_aload_n (q := 0) C dX9_read_37 rfl rfl ?_
        obtain ⟨g14, h⟩ := h
        refine g_getM C fX9_24 dX9_read_38 kd_4 (kd_in g14 (by decide)).1 ?_
        refine g_cVv (As := []) C clX9_42 clvX8_measure dX9_read_41 g14 rfl (Nat.le_of_ble_eq_true rfl) rfl (by decide) (t_X8_measure (Cx.ok C) h) (fun M15 h => ?_)
        refine g_iload_n (q := 1) C dX9_read_44 rfl rfl ?_
        exact g_reti C hR dX9_read_45 h
set_option maxRecDepth 20000 in
theorem t_X9_read {l : Launch} {Y : YT} (hY : YOK Y) {a0 : Int} {M : Mem} {Q : Int → Mem → Prop} (h : m_X9_read a0 M Q) : Ctr l Y yX9_read cX9_read 3 (some .int) 68 [vR Y 4, vR Y a0] M (PQi Y Q) := by
  unfold m_X9_read at h
  obtain ⟨hk_a0, h⟩ := h
  refine ctr_ofF hY (by decide +kernel) (Nat.le_of_ble_eq_true rfl) [(0, vR Y 4), (1, vR Y a0)] rfl (fun X hX C hR => ?_)
  refine g_aload_n (q := 0) C dX9_read_0 rfl rfl ?_
  refine g_aload_n (q := 1) C dX9_read_1 rfl rfl ?_
  obtain ⟨M16, e_M16⟩ : ∃ z : Mem, z = up M 4 2 a0 := ⟨_, rfl⟩
  have h := h M16 e_M16
  refine g_putM C fX9_24 pX9_24 dX9_read_2 kd_4 (kd_in hk_a0 (by decide)).1 e_M16 ?_
  refine g_aload_n (q := 0) C dX9_read_5 rfl rfl ?_
  obtain ⟨g17, h⟩ := h
  refine g_getM C fX9_24 dX9_read_6 kd_4 (kd_in g17 (by decide)).1 ?_
  refine g_cVv (As := []) C clX9_28 clvX8_clear dX9_read_9 g17 rfl (Nat.le_of_ble_eq_true rfl) rfl (by decide) (t_X8_clear (Cx.ok C) h) (fun M18 h => ?_)
  refine g_aload_n (q := 0) C dX9_read_12 rfl rfl ?_
  refine g_getS (v := 1) C fX9_9 dX9_read_13 kd_4 rfl ?_
  refine g_cVv (As := []) C clX9_33 clvX7_startReading dX9_read_16 kd_1 rfl (Nat.le_of_ble_eq_true rfl) rfl (by decide) (t_X7_startReading (Cx.ok C) h) (fun M19 h => ?_)
  refine g_iconst C dX9_read_19 rfl ?_
  refine g_istore_n (lv' := [(2, vI 0), (0, vR Y 4), (1, vR Y a0)]) C dX9_read_20 rfl (by decide) rfl ?_
  obtain ⟨f0, h⟩ := h
  refine G.sub [1, 0] rfl ?_
  exact w_X9_read_L21 C hR  f0 _ _ h
set_option maxRecDepth 20000 in
theorem t_X10_put {l : Launch} {Y : YT} (hY : YOK Y) {o : Int} {a0 : Int} {a1 : Int} {a2 : Int} {M : Mem} {Q : Mem → Prop} (h : m_X10_put o a0 a1 a2 M Q) : Ctr l Y yX10_put cX10_put 4 none 1 [vR Y o, vI a0, vI a1, vI a2] M (PQv Y Q) := by
  unfold m_X10_put at h
  obtain ⟨hk_o, h⟩ := h
  refine ctr_ofF hY (by decide +kernel) (Nat.le_of_ble_eq_true rfl) [(0, vR Y o), (1, vI a0), (2, vI a1), (3, vI a2)] rfl (fun X hX C hR => ?_)
  refine g_aload_n (q := 0) C dX10_put_0 rfl rfl ?_
  refine g_getS (v := o + 1) C fX10_9 dX10_put_1 hk_o rfl ?_
  refine g_bipush (v := 6) C dX10_put_4 (by decide +kernel) ?_
  refine g_iload_n (q := 2) C dX10_put_6 rfl rfl ?_
  refine g_imul C dX10_put_7 ?_
  refine g_iload_n (q := 1) C dX10_put_8 rfl rfl ?_
  refine g_iadd C dX10_put_9 ?_
  refine g_iload_n (q := 3) C dX10_put_10 rfl rfl ?_
  obtain ⟨g1, h⟩ := h
  obtain ⟨M2, e_M2⟩ : ∃ z : Mem, z = up M (o + 1) ((6 * a1) + a0) a2 := ⟨_, rfl⟩
  have h := h M2 e_M2
  refine g_iast C dX10_put_11 (sub_10_0 hk_o).1 (sub_10_0 hk_o).2 g1 e_M2 ?_
  refine g_aload_n (q := 0) C dX10_put_12 rfl rfl ?_
  refine g_getS (v := o + 2) C fX10_15 dX10_put_13 hk_o rfl ?_
  refine g_bipush (v := 7) C dX10_put_16 (by decide +kernel) ?_
  refine g_iload_n (q := 2) C dX10_put_18 rfl rfl ?_
  refine g_imul C dX10_put_19 ?_
  refine g_iload_n (q := 3) C dX10_put_20 rfl rfl ?_
  refine g_iadd C dX10_put_21 ?_
  refine g_dup2 C dX10_put_22 rfl rfl ?_
  obtain ⟨g3, h⟩ := h
  refine g_iald C dX10_put_23 (sub_10_1 hk_o).1 (sub_10_1 hk_o).2 g3 ?_
  refine g_iconst C dX10_put_24 rfl ?_
  refine g_iload_n (q := 1) C dX10_put_25 rfl rfl ?_
  refine g_ishl C dX10_put_26 ?_
  refine g_ior C dX10_put_27 ?_
  obtain ⟨g4, h⟩ := h
  obtain ⟨M5, e_M5⟩ : ∃ z : Mem, z = up M2 (o + 2) ((7 * a1) + a2) (zor (M2 (o + 2) ((7 * a1) + a2)) (zshl 1 a0)) := ⟨_, rfl⟩
  have h := h M5 e_M5
  refine g_iast C dX10_put_28 (sub_10_1 hk_o).1 (sub_10_1 hk_o).2 g4 e_M5 ?_
  exact g_retv C hR dX10_put_29 h
set_option maxRecDepth 20000 in
theorem w_X10_begin_L83 {Y : YT} {X : CX} (C : Cx Y X cX10_begin 5 RX10 2) {Q : Mem → Prop} (hR : Rt Y X none (PQv Y Q)) {v0 : Int} {v1 : Int} {v2 : Int}  (hk_v0 : kd v0 = 10) (hk_v1 : kd v1 = 8) (hk_v2 : kd v2 = 6): ∀ (f : Nat) (v4 : Int) (M : Mem), m_X10_begin_L83  Q v0 v1 v2 f v4 M → G Y X 5 83 [(0, vR Y v0), (1, vR Y v1), (2, vR Y v2), (4, vI v4)] ([]) M := by
  intro f
  induction f with
  | zero =>
    intro v4 M h
    exact (show False from h).elim
  | succ f ih =>
    intro v4 M h
    unfold m_X10_begin_L83 at h
    refine g_iload (q := 3) C dX10_begin_83 rfl ?_
    refine g_aload_n (q := 1) C dX10_begin_85 rfl rfl ?_
    refine g_getI C fX10_30 (by decide) dX10_begin_86 hk_v1 ?_
    obtain ⟨g1, h⟩ := h
    obtain ⟨g2, h⟩ := h
    obtain ⟨ht, hf⟩ := h
    refine g_icmp_ge (tgt := 112) C dX10_begin_89 (by decide) g1 g2 (fun c => ?_) (fun c => ?_)
    · have h := ht c
      exact g_retv C hR dX10_begin_112 h
    · have h := hf c
      refine g_aload_n (q := 0) C dX10_begin_92 rfl rfl ?_
      refine g_iload (q := 3) C dX10_begin_93 rfl ?_
      refine g_iconst C dX10_begin_95 rfl ?_
      refine g_aload_n (q := 2) C dX10_begin_96 rfl rfl ?_
      refine g_getS (v := v2 + 1) C fX10_82 dX10_begin_97 hk_v2 rfl ?_
      refine g_iload (q := 3) C dX10_begin_100 rfl ?_
      obtain ⟨g3, h⟩ := h
      refine g_iald C dX10_begin_102 (sub_6_1 hk_v2).1 (sub_6_1 hk_v2).2 g3 ?_
      refine g_cVv (As := [vI v4, vI 0, vI (M (v2 + 1) v4)]) C clX10_40 clvX10_put dX10_begin_103 hk_v0 rfl (Nat.le_of_ble_eq_true rfl) rfl (by decide) (t_X10_put (Cx.ok C) h) (fun M4 h => ?_)
      refine g_iinc (q := 3) (v := v4 + 1) (lv' := [(4, vI (v4 + 1)), (0, vR Y v0), (1, vR Y v1), (2, vR Y v2)]) C dX10_begin_106 rfl rfl (by decide) rfl ?_
      refine g_goto (tgt := 83) C dX10_begin_109 (by decide) ?_
      refine G.sub [1, 2, 3, 0] rfl ?_
      exact ih _ _ h
set_option maxRecDepth 20000 in
theorem w_X10_begin_L35 {Y : YT} {X : CX} (C : Cx Y X cX10_begin 5 RX10 2) {Q : Mem → Prop} (hR : Rt Y X none (PQv Y Q)) {v0 : Int} {v1 : Int} {v2 : Int} {v3 : Int}  (hk_v0 : kd v0 = 10) (hk_v1 : kd v1 = 8) (hk_v2 : kd v2 = 6) (hk_v3 : kd v3 = 5): ∀ (f : Nat) (v4 : Int) (M : Mem), m_X10_begin_L35  Q v0 v1 v2 v3 f v4 M → G Y X 5 35 [(0, vR Y v0), (1, vR Y v1), (2, vR Y v2), (3, vR Y v3), (4, vI v4)] ([]) M := by
  intro f
  induction f with
  | zero =>
    intro v4 M h
    exact (show False from h).elim
  | succ f ih =>
    intro v4 M h
    unfold m_X10_begin_L35 at h
    refine g_iload (q := 4) C dX10_begin_35 rfl ?_
    refine g_aload_n (q := 3) C dX10_begin_37 rfl rfl ?_
    refine g_getI C fX10_68 (by decide) dX10_begin_38 hk_v3 ?_
    obtain ⟨g5, h⟩ := h
    obtain ⟨g6, h⟩ := h
    obtain ⟨ht, hf⟩ := h
    refine g_icmp_ge (tgt := 80) C dX10_begin_41 (by decide) g5 g6 (fun c => ?_) (fun c => ?_)
    · have h := ht c
      refine g_iconst C dX10_begin_80 rfl ?_
      refine g_istore (lv' := [(4, vI 0), (0, vR Y v0), (1, vR Y v1), (2, vR Y v2), (3, vR Y v3)]) C dX10_begin_81 (by decide) rfl ?_
      obtain ⟨f0, h⟩ := h
      refine G.sub [1, 2, 3, 0] rfl ?_
      exact w_X10_begin_L83 C hR hk_v0 hk_v1 hk_v2 f0 _ _ h
    · have h := hf c
      refine g_aload_n (q := 0) C dX10_begin_44 rfl rfl ?_
      refine g_getS (v := v0 + 3) C fX10_18 dX10_begin_45 hk_v0 rfl ?_
      refine g_bipush (v := 7) C dX10_begin_48 (by decide +kernel) ?_
      refine g_aload_n (q := 3) C dX10_begin_50 rfl rfl ?_
      refine g_getS (v := v3 + 1) C fX10_73 dX10_begin_51 hk_v3 rfl ?_
      refine g_iload (q := 4) C dX10_begin_54 rfl ?_
      obtain ⟨g7, h⟩ := h
      refine g_iald C dX10_begin_56 (sub_5_1 hk_v3).1 (sub_5_1 hk_v3).2 g7 ?_
      refine g_imul C dX10_begin_57 ?_
      refine g_aload_n (q := 3) C dX10_begin_58 rfl rfl ?_
      refine g_getS (v := v3 + 2) C fX10_76 dX10_begin_59 hk_v3 rfl ?_
      refine g_iload (q := 4) C dX10_begin_62 rfl ?_
      obtain ⟨g8, h⟩ := h
      refine g_iald C dX10_begin_64 (sub_5_2 hk_v3).1 (sub_5_2 hk_v3).2 g8 ?_
      refine g_iadd C dX10_begin_65 ?_
      refine g_aload_n (q := 3) C dX10_begin_66 rfl rfl ?_
      refine g_getS (v := v3 + 3) C fX10_79 dX10_begin_67 hk_v3 rfl ?_
      refine g_iload (q := 4) C dX10_begin_70 rfl ?_
      obtain ⟨g9, h⟩ := h
      refine g_iald C dX10_begin_72 (sub_5_3 hk_v3).1 (sub_5_3 hk_v3).2 g9 ?_
      obtain ⟨g10, h⟩ := h
      obtain ⟨M11, e_M11⟩ : ∃ z : Mem, z = up M (v0 + 3) ((7 * (M (v3 + 1) v4)) + (M (v3 + 2) v4)) (M (v3 + 3) v4) := ⟨_, rfl⟩
      have h := h M11 e_M11
      refine g_iast C dX10_begin_73 (sub_10_2 hk_v0).1 (sub_10_2 hk_v0).2 g10 e_M11 ?_
      refine g_iinc (q := 4) (v := v4 + 1) (lv' := [(4, vI (v4 + 1)), (0, vR Y v0), (1, vR Y v1), (2, vR Y v2), (3, vR Y v3)]) C dX10_begin_74 rfl rfl (by decide) rfl ?_
      refine g_goto (tgt := 35) C dX10_begin_77 (by decide) ?_
      refine G.sub [1, 2, 3, 4, 0] rfl ?_
      exact ih _ _ h
set_option maxRecDepth 20000 in
theorem t_X10_begin {l : Launch} {Y : YT} (hY : YOK Y) {o : Int} {a0 : Int} {a1 : Int} {M : Mem} {Q : Mem → Prop} (h : m_X10_begin o a0 a1 M Q) : Ctr l Y yX10_begin cX10_begin 5 none 2 [vR Y o, vR Y a0, vR Y a1] M (PQv Y Q) := by
  unfold m_X10_begin at h
  obtain ⟨hk_o, h⟩ := h
  obtain ⟨hk_a0, h⟩ := h
  obtain ⟨hk_a1, h⟩ := h
  refine ctr_ofF hY (by decide +kernel) (Nat.le_of_ble_eq_true rfl) [(0, vR Y o), (1, vR Y a0), (2, vR Y a1)] rfl (fun X hX C hR => ?_)
  refine g_aload_n (q := 0) C dX10_begin_0 rfl rfl ?_
  refine g_aload_n (q := 1) C dX10_begin_1 rfl rfl ?_
  obtain ⟨M12, e_M12⟩ : ∃ z : Mem, z = up M o 4 a0 := ⟨_, rfl⟩
  have h := h M12 e_M12
  refine g_putM C fX10_54 pX10_54 dX10_begin_2 hk_o (kd_in hk_a0 (by decide)).1 e_M12 ?_
  refine g_aload_n (q := 0) C dX10_begin_5 rfl rfl ?_
  refine g_aload_n (q := 2) C dX10_begin_6 rfl rfl ?_
  obtain ⟨M13, e_M13⟩ : ∃ z : Mem, z = up M12 o 5 a1 := ⟨_, rfl⟩
  have h := h M13 e_M13
  refine g_putM C fX10_58 pX10_58 dX10_begin_7 hk_o (kd_in hk_a1 (by decide)).1 e_M13 ?_
  refine g_aload_n (q := 0) C dX10_begin_10 rfl rfl ?_
  refine g_getS (v := o + 3) C fX10_18 dX10_begin_11 hk_o rfl ?_
  refine g_bipush (v := 9) C dX10_begin_14 (by decide +kernel) ?_
  refine g_cSv (As := [vR Y (o + 3), vI 9]) C clX10_62 clsJ7_fill_53178 dX10_begin_16 rfl (Nat.le_of_ble_eq_true rfl) rfl (by decide) (t_J7_fill_53178 (Cx.ok C) h) (fun M14 h => ?_)
  refine g_aload_n (q := 0) C dX10_begin_19 rfl rfl ?_
  refine g_getS (v := o + 2) C fX10_15 dX10_begin_20 hk_o rfl ?_
  refine g_iconst C dX10_begin_23 rfl ?_
  refine g_cSv (As := [vR Y (o + 2), vI 0]) C clX10_62 clsJ7_fill_53178 dX10_begin_24 rfl (Nat.le_of_ble_eq_true rfl) rfl (by decide) (t_J7_fill_53178 (Cx.ok C) h) (fun M15 h => ?_)
  refine g_aload_n (q := 2) C dX10_begin_27 rfl rfl ?_
  refine g_getS (v := a1 + 2) C fX10_44 dX10_begin_28 hk_a1 rfl ?_
  refine g_astore_n (lv' := [(3, vR Y (a1 + 2)), (0, vR Y o), (1, vR Y a0), (2, vR Y a1)]) C dX10_begin_31 rfl (by decide) rfl ?_
  refine g_iconst C dX10_begin_32 rfl ?_
  refine g_istore (lv' := [(4, vI 0), (3, vR Y (a1 + 2)), (0, vR Y o), (1, vR Y a0), (2, vR Y a1)]) C dX10_begin_33 (by decide) rfl ?_
  obtain ⟨f0, h⟩ := h
  refine G.sub [2, 3, 4, 1, 0] rfl ?_
  exact w_X10_begin_L35 C hR hk_o hk_a0 hk_a1 (sub_6_3 hk_a1) f0 _ _ h
set_option maxRecDepth 20000 in
theorem t_X10_know {l : Launch} {Y : YT} (hY : YOK Y) {o : Int} {a0 : Int} {a1 : Int} {M : Mem} {Q : Mem → Prop} (h : m_X10_know o a0 a1 M Q) : Ctr l Y yX10_know cX10_know 3 none 1 [vR Y o, vI a0, vI a1] M (PQv Y Q) := by
  unfold m_X10_know at h
  obtain ⟨hk_o, h⟩ := h
  refine ctr_ofF hY (by decide +kernel) (Nat.le_of_ble_eq_true rfl) [(0, vR Y o), (1, vI a0), (2, vI a1)] rfl (fun X hX C hR => ?_)
  refine g_aload_n (q := 0) C dX10_know_0 rfl rfl ?_
  refine g_getS (v := o + 4) C fX10_23 dX10_know_1 hk_o rfl ?_
  refine g_iconst C dX10_know_4 rfl ?_
  refine g_iload_n (q := 1) C dX10_know_5 rfl rfl ?_
  refine g_isub C dX10_know_6 ?_
  refine g_iload_n (q := 2) C dX10_know_7 rfl rfl ?_
  obtain ⟨g1, h⟩ := h
  obtain ⟨M2, e_M2⟩ : ∃ z : Mem, z = up M (o + 4) ((-1) - a0) a1 := ⟨_, rfl⟩
  have h := h M2 e_M2
  refine g_iast C dX10_know_8 (sub_10_3 hk_o).1 (sub_10_3 hk_o).2 g1 e_M2 ?_
  exact g_retv C hR dX10_know_9 h
set_option maxRecDepth 20000 in
theorem w_X10_shownTo_J27 {Y : YT} {X : CX} (C : Cx Y X cX10_shownTo 4 RX10 2) {Q : Int → Mem → Prop} (hR : Rt Y X (some .int) (PQi Y Q)) {s0 : Int}  {M : Mem}  (h : m_X10_shownTo_J27  Q s0 M) : G Y X 4 27 [] ((vI s0) :: []) M := by
  unfold m_X10_shownTo_J27 at h
  exact g_reti C hR dX10_shownTo_27 h
set_option maxRecDepth 20000 in
theorem t_X10_shownTo {l : Launch} {Y : YT} (hY : YOK Y) {o : Int} {a0 : Int} {a1 : Int} {a2 : Int} {M : Mem} {Q : Int → Mem → Prop} (h : m_X10_shownTo o a0 a1 a2 M Q) : Ctr l Y yX10_shownTo cX10_shownTo 4 (some .int) 2 [vR Y o, vI a0, vI a1, vI a2] M (PQi Y Q) := by
  unfold m_X10_shownTo at h
  obtain ⟨hk_o, h⟩ := h
  refine ctr_ofF hY (by decide +kernel) (Nat.le_of_ble_eq_true rfl) [(0, vR Y o), (1, vI a0), (2, vI a1), (3, vI a2)] rfl (fun X hX C hR => ?_)
  refine g_aload_n (q := 0) C dX10_shownTo_0 rfl rfl ?_
  obtain ⟨g1, h⟩ := h
  refine g_getM C fX10_58 dX10_shownTo_1 hk_o (kd_in g1 (by decide)).1 ?_
  refine g_iload_n (q := 1) C dX10_shownTo_4 rfl rfl ?_
  refine g_cVi (As := [vI a0]) C clX10_128 clvX6_watches dX10_shownTo_5 g1 rfl (Nat.le_of_ble_eq_true rfl) rfl (by decide) (t_X6_watches (Cx.ok C) h) (fun r3 M2 h => ?_)
  obtain ⟨g4, h⟩ := h
  obtain ⟨ht, hf⟩ := h
  refine g_if_eq (tgt := 25) C dX10_shownTo_8 (by decide) g4 (fun c => ?_) (fun c => ?_)
  · have h := ht c
    refine g_bipush (v := 9) C dX10_shownTo_25 (by decide +kernel) ?_
    refine G.sub [] rfl ?_
    exact w_X10_shownTo_J27 C hR  h
  · have h := hf c
    refine g_aload_n (q := 0) C dX10_shownTo_11 rfl rfl ?_
    refine g_getS (v := o + 3) C fX10_18 dX10_shownTo_12 hk_o rfl ?_
    refine g_bipush (v := 7) C dX10_shownTo_15 (by decide +kernel) ?_
    refine g_iload_n (q := 3) C dX10_shownTo_17 rfl rfl ?_
    refine g_imul C dX10_shownTo_18 ?_
    refine g_iload_n (q := 2) C dX10_shownTo_19 rfl rfl ?_
    refine g_iadd C dX10_shownTo_20 ?_
    obtain ⟨g5, h⟩ := h
    refine g_iald C dX10_shownTo_21 (sub_10_2 hk_o).1 (sub_10_2 hk_o).2 g5 ?_
    refine g_goto (tgt := 27) C dX10_shownTo_22 (by decide) ?_
    refine G.sub [] rfl ?_
    exact w_X10_shownTo_J27 C hR  h
set_option maxRecDepth 20000 in
theorem w_X10_bestPlace_J137 {Y : YT} {X : CX} (C : Cx Y X cX10_bestPlace 9 RX10 4) {Q : Int → Mem → Prop} (hR : Rt Y X (some .int) (PQi Y Q)) {v0 : Int} {v1 : Int} {v2 : Int} {v3 : Int} {v4 : Int} {v5 : Int} {v6 : Int} {k10 : Int → Int → Int → Mem → Prop} (hk10 : ∀ (v4 : Int) (v5 : Int) (v6 : Int)  (M : Mem), k10 v4 v5 v6 M → G Y X 9 10 [(0, vR Y v0), (1, vI v1), (2, vI v2), (3, vI v3), (4, vI v4), (5, vI v5), (6, vI v6)] ([]) M) {M : Mem} (hk_v0 : kd v0 = 10) (h : m_X10_bestPlace_J137 k10 Q v0 v1 v2 v3 v4 v5 v6 M) : G Y X 9 137 [(0, vR Y v0), (1, vI v1), (2, vI v2), (3, vI v3), (4, vI v4), (5, vI v5), (6, vI v6)] ([]) M := by
  unfold m_X10_bestPlace_J137 at h
  refine g_iinc (q := 6) (v := v6 + 1) (lv' := [(6, vI (v6 + 1)), (0, vR Y v0), (1, vI v1), (2, vI v2), (3, vI v3), (4, vI v4), (5, vI v5)]) C dX10_bestPlace_137 rfl rfl (by decide) rfl ?_
  refine g_goto (tgt := 10) C dX10_bestPlace_140 (by decide) ?_
  refine G.sub [1, 2, 3, 4, 5, 6, 0] rfl ?_
  exact hk10 _ _ _ _ h
set_option maxRecDepth 20000 in
theorem w_X10_bestPlace_J103 {Y : YT} {X : CX} (C : Cx Y X cX10_bestPlace 9 RX10 4) {Q : Int → Mem → Prop} (hR : Rt Y X (some .int) (PQi Y Q)) {v0 : Int} {v1 : Int} {v2 : Int} {v3 : Int} {v4 : Int} {v5 : Int} {v6 : Int} {s0 : Int} {s1 : Int} {s2 : Int} {k10 : Int → Int → Int → Mem → Prop} (hk10 : ∀ (v4 : Int) (v5 : Int) (v6 : Int)  (M : Mem), k10 v4 v5 v6 M → G Y X 9 10 [(0, vR Y v0), (1, vI v1), (2, vI v2), (3, vI v3), (4, vI v4), (5, vI v5), (6, vI v6)] ([]) M) {M : Mem} (hk_v0 : kd v0 = 10) (hk_s0 : kd s0 = 10) (h : m_X10_bestPlace_J103 k10 Q v0 v1 v2 v3 v4 v5 v6 s0 s1 s2 M) : G Y X 9 103 [(0, vR Y v0), (1, vI v1), (2, vI v2), (3, vI v3), (4, vI v4), (5, vI v5), (6, vI v6)] ((vI s2) :: (vI s1) :: (vR Y s0) :: []) M := by
  unfold m_X10_bestPlace_J103 at h
  refine g_cVv (As := [vI s1, vI s2]) C clX10_89 clvX10_know dX10_bestPlace_103 hk_s0 rfl (Nat.le_of_ble_eq_true rfl) rfl (by decide) (t_X10_know (Cx.ok C) h) (fun M1 h => ?_)
  refine g_aload_n (q := 0) C dX10_bestPlace_106 rfl rfl ?_
  obtain ⟨g2, h⟩ := h
  refine g_getM C fX10_54 dX10_bestPlace_107 hk_v0 (kd_in g2 (by decide)).1 ?_
  refine g_getS (v := (M1 v0 4) + 14) C fX10_125 dX10_bestPlace_110 g2 rfl ?_
  refine g_aload_n (q := 0) C dX10_bestPlace_113 rfl rfl ?_
  refine g_getS (v := v0 + 4) C fX10_23 dX10_bestPlace_114 hk_v0 rfl ?_
  refine g_cVi (As := [vR Y (v0 + 4)]) C clX10_107 clvX1_value dX10_bestPlace_117 (sub_8_13 g2) rfl (Nat.le_of_ble_eq_true rfl) rfl (by decide) (t_X1_value (Cx.ok C) h) (fun r4 M3 h => ?_)
  refine g_istore (lv' := [(8, vI r4), (0, vR Y v0), (1, vI v1), (2, vI v2), (3, vI v3), (4, vI v4), (5, vI v5), (6, vI v6)]) C dX10_bestPlace_120 (by decide) rfl ?_
  refine g_iload (q := 0) C dX10_bestPlace_122 rfl ?_
  refine g_iload (q := 6) C dX10_bestPlace_124 rfl ?_
  obtain ⟨g5, h⟩ := h
  obtain ⟨g6, h⟩ := h
  obtain ⟨ht, hf⟩ := h
  refine g_icmp_le (tgt := 137) C dX10_bestPlace_126 (by decide) g5 g6 (fun c => ?_) (fun c => ?_)
  · have h := ht c
    refine G.sub [1, 2, 3, 4, 5, 6, 7] rfl ?_
    exact w_X10_bestPlace_J137 C hR (hk10) hk_v0 h
  · have h := hf c
    refine g_iload (q := 0) C dX10_bestPlace_129 rfl ?_
    refine g_istore (lv' := [(5, vI r4), (8, vI r4), (0, vR Y v0), (1, vI v1), (2, vI v2), (3, vI v3), (4, vI v4), (6, vI v6)]) C dX10_bestPlace_131 (by decide) rfl ?_
    refine g_iload (q := 7) C dX10_bestPlace_133 rfl ?_
    refine g_istore (lv' := [(4, vI v6), (5, vI r4), (8, vI r4), (0, vR Y v0), (1, vI v1), (2, vI v2), (3, vI v3), (6, vI v6)]) C dX10_bestPlace_135 (by decide) rfl ?_
    refine G.sub [3, 4, 5, 6, 0, 1, 7] rfl ?_
    exact w_X10_bestPlace_J137 C hR (hk10) hk_v0 h
set_option maxRecDepth 20000 in
theorem w_X10_bestPlace_L10 {Y : YT} {X : CX} (C : Cx Y X cX10_bestPlace 9 RX10 4) {Q : Int → Mem → Prop} (hR : Rt Y X (some .int) (PQi Y Q)) {v0 : Int} {v1 : Int} {v2 : Int} {v3 : Int}  (hk_v0 : kd v0 = 10): ∀ (f : Nat) (v4 : Int) (v5 : Int) (v6 : Int) (M : Mem), m_X10_bestPlace_L10  Q v0 v1 v2 v3 f v4 v5 v6 M → G Y X 9 10 [(0, vR Y v0), (1, vI v1), (2, vI v2), (3, vI v3), (4, vI v4), (5, vI v5), (6, vI v6)] ([]) M := by
  intro f
  induction f with
  | zero =>
    intro v4 v5 v6 M h
    exact (show False from h).elim
  | succ f ih =>
    intro v4 v5 v6 M h
    unfold m_X10_bestPlace_L10 at h
    refine g_iload (q := 6) C dX10_bestPlace_10 rfl ?_
    refine g_aload_n (q := 0) C dX10_bestPlace_12 rfl rfl ?_
    obtain ⟨g7, h⟩ := h
    refine g_getM C fX10_54 dX10_bestPlace_13 hk_v0 (kd_in g7 (by decide)).1 ?_
    refine g_getI C fX10_115 (by decide) dX10_bestPlace_16 g7 ?_
    obtain ⟨g8, h⟩ := h
    obtain ⟨g9, h⟩ := h
    obtain ⟨ht, hf⟩ := h
    refine g_icmp_ge (tgt := 143) C dX10_bestPlace_19 (by decide) g8 g9 (fun c => ?_) (fun c => ?_)
    · have h := ht c
      refine g_iload (q := 4) C dX10_bestPlace_143 rfl ?_
      exact g_reti C hR dX10_bestPlace_145 h
    · have h := hf c
      refine g_aload_n (q := 0) C dX10_bestPlace_22 rfl rfl ?_
      obtain ⟨g10, h⟩ := h
      refine g_getM C fX10_54 dX10_bestPlace_23 hk_v0 (kd_in g10 (by decide)).1 ?_
      refine g_iload_n (q := 2) C dX10_bestPlace_26 rfl rfl ?_
      refine g_iload (q := 6) C dX10_bestPlace_27 rfl ?_
      refine g_cVi (As := [vI v2, vI v6]) C clX10_118 clvX8_reaches dX10_bestPlace_29 g10 rfl (Nat.le_of_ble_eq_true rfl) rfl (by decide) (t_X8_reaches (Cx.ok C) h) (fun r12 M11 h => ?_)
      obtain ⟨g13, h⟩ := h
      obtain ⟨ht, hf⟩ := h
      refine g_if_ne (tgt := 38) C dX10_bestPlace_32 (by decide) g13 (fun c => ?_) (fun c => ?_)
      · have h := hf c
        refine g_aload_n (q := 0) C dX10_bestPlace_38 rfl rfl ?_
        obtain ⟨g14, h⟩ := h
        refine g_getM C fX10_54 dX10_bestPlace_39 hk_v0 (kd_in g14 (by decide)).1 ?_
        refine g_aload_n (q := 0) C dX10_bestPlace_42 rfl rfl ?_
        obtain ⟨g15, h⟩ := h
        refine g_getM C fX10_58 dX10_bestPlace_43 hk_v0 (kd_in g15 (by decide)).1 ?_
        refine g_getS (v := (M11 v0 5) + 1) C fX10_82 dX10_bestPlace_46 g15 rfl ?_
        refine g_iload_n (q := 1) C dX10_bestPlace_49 rfl rfl ?_
        obtain ⟨g16, h⟩ := h
        refine g_iald C dX10_bestPlace_50 (sub_6_1 g15).1 (sub_6_1 g15).2 g16 ?_
        refine g_iload (q := 6) C dX10_bestPlace_51 rfl ?_
        refine g_cVi (As := [vI (M11 ((M11 v0 5) + 1) v1), vI v6]) C clX10_122 clvX8_roadsBetween dX10_bestPlace_53 g14 rfl (Nat.le_of_ble_eq_true rfl) rfl (by decide) (t_X8_roadsBetween (Cx.ok C) h) (fun r18 M17 h => ?_)
        refine g_istore (lv' := [(7, vI r18), (0, vR Y v0), (1, vI v1), (2, vI v2), (3, vI v3), (4, vI v4), (5, vI v5), (6, vI v6)]) C dX10_bestPlace_56 (by decide) rfl ?_
        refine g_aload_n (q := 1) C dX10_bestPlace_58 rfl rfl ?_
        refine g_bipush (v := (-5)) C dX10_bestPlace_59 (by decide +kernel) ?_
        refine g_aload_n (q := 1) C dX10_bestPlace_61 rfl rfl ?_
        refine g_iload_n (q := 2) C dX10_bestPlace_62 rfl rfl ?_
        refine g_iload (q := 7) C dX10_bestPlace_63 rfl ?_
        refine g_iload_n (q := 4) C dX10_bestPlace_65 rfl rfl ?_
        refine g_cVi (As := [vI v1, vI v6, vI v3]) C clX10_99 clvX10_shownTo dX10_bestPlace_66 hk_v0 rfl (Nat.le_of_ble_eq_true rfl) rfl (by decide) (t_X10_shownTo (Cx.ok C) h) (fun r20 M19 h => ?_)
        refine g_cVv (As := [vI (-5), vI r20]) C clX10_89 clvX10_know dX10_bestPlace_69 hk_v0 rfl (Nat.le_of_ble_eq_true rfl) rfl (by decide) (t_X10_know (Cx.ok C) h) (fun M21 h => ?_)
        refine g_aload_n (q := 1) C dX10_bestPlace_72 rfl rfl ?_
        refine g_bipush (v := (-6)) C dX10_bestPlace_73 (by decide +kernel) ?_
        refine g_aload_n (q := 1) C dX10_bestPlace_75 rfl rfl ?_
        refine g_iload (q := 7) C dX10_bestPlace_76 rfl ?_
        refine g_iload_n (q := 4) C dX10_bestPlace_78 rfl rfl ?_
        refine g_iconst C dX10_bestPlace_79 rfl ?_
        refine g_isub C dX10_bestPlace_80 ?_
        refine g_cVi (As := [vI v6, vI (v3 - 1)]) C clX10_96 clvX10_countIn dX10_bestPlace_81 hk_v0 rfl (Nat.le_of_ble_eq_true rfl) rfl (by decide) (t_X10_countIn (Cx.ok C) h) (fun r23 M22 h => ?_)
        refine g_cVv (As := [vI (-6), vI r23]) C clX10_89 clvX10_know dX10_bestPlace_84 hk_v0 rfl (Nat.le_of_ble_eq_true rfl) rfl (by decide) (t_X10_know (Cx.ok C) h) (fun M24 h => ?_)
        refine g_aload_n (q := 1) C dX10_bestPlace_87 rfl rfl ?_
        refine g_bipush (v := (-7)) C dX10_bestPlace_88 (by decide +kernel) ?_
        refine g_iload (q := 0) C dX10_bestPlace_90 rfl ?_
        refine g_iconst C dX10_bestPlace_92 rfl ?_
        obtain ⟨g25, h⟩ := h
        obtain ⟨ht, hf⟩ := h
        refine g_icmp_ne (tgt := 101) C dX10_bestPlace_93 (by decide) g25 (by decide) (fun c => ?_) (fun c => ?_)
        · have h := hf c
          refine g_iload (q := 0) C dX10_bestPlace_101 rfl ?_
          refine G.sub [1, 2, 3, 4, 5, 6, 7] rfl ?_
          exact w_X10_bestPlace_J103 C hR (ih) hk_v0 hk_v0 h
        · have h := ht c
          refine g_bipush (v := 9) C dX10_bestPlace_96 (by decide +kernel) ?_
          refine g_goto (tgt := 103) C dX10_bestPlace_98 (by decide) ?_
          refine G.sub [1, 2, 3, 4, 5, 6, 7] rfl ?_
          exact w_X10_bestPlace_J103 C hR (ih) hk_v0 hk_v0 h
      · have h := ht c
        refine g_goto (tgt := 137) C dX10_bestPlace_35 (by decide) ?_
        refine G.sub [0, 1, 2, 3, 4, 5, 6] rfl ?_
        exact w_X10_bestPlace_J137 C hR (ih) hk_v0 h
set_option maxRecDepth 20000 in
theorem t_X10_bestPlace {l : Launch} {Y : YT} (hY : YOK Y) {o : Int} {a0 : Int} {a1 : Int} {a2 : Int} {M : Mem} {Q : Int → Mem → Prop} (h : m_X10_bestPlace o a0 a1 a2 M Q) : Ctr l Y yX10_bestPlace cX10_bestPlace 9 (some .int) 4 [vR Y o, vI a0, vI a1, vI a2] M (PQi Y Q) := by
  unfold m_X10_bestPlace at h
  obtain ⟨hk_o, h⟩ := h
  refine ctr_ofF hY (by decide +kernel) (Nat.le_of_ble_eq_true rfl) [(0, vR Y o), (1, vI a0), (2, vI a1), (3, vI a2)] rfl (fun X hX C hR => ?_)
  refine g_iload_n (q := 2) C dX10_bestPlace_0 rfl rfl ?_
  refine g_istore (lv' := [(4, vI a1), (0, vR Y o), (1, vI a0), (2, vI a1), (3, vI a2)]) C dX10_bestPlace_1 (by decide) rfl ?_
  refine g_ldc (v := (-1000001)) C dX10_bestPlace_3 kX10_114 (by decide +kernel) ?_
  refine g_istore (lv' := [(5, vI (-1000001)), (4, vI a1), (0, vR Y o), (1, vI a0), (2, vI a1), (3, vI a2)]) C dX10_bestPlace_5 (by decide) rfl ?_
  refine g_iconst C dX10_bestPlace_7 rfl ?_
  refine g_istore (lv' := [(6, vI 0), (5, vI (-1000001)), (4, vI a1), (0, vR Y o), (1, vI a0), (2, vI a1), (3, vI a2)]) C dX10_bestPlace_8 (by decide) rfl ?_
  obtain ⟨f0, h⟩ := h
  refine G.sub [3, 4, 5, 6, 2, 1, 0] rfl ?_
  exact w_X10_bestPlace_L10 C hR hk_o f0 _ _ _ _ h
set_option maxRecDepth 20000 in
theorem w_X10_goal_J99 {Y : YT} {X : CX} (C : Cx Y X cX10_goal 4 RX10 5) {Q : Int → Mem → Prop} (hR : Rt Y X (some .int) (PQi Y Q)) {s0 : Int}  {M : Mem}  (h : m_X10_goal_J99  Q s0 M) : G Y X 4 99 [] ((vI s0) :: []) M := by
  unfold m_X10_goal_J99 at h
  exact g_reti C hR dX10_goal_99 h
set_option maxRecDepth 20000 in
theorem t_X10_goal {l : Launch} {Y : YT} (hY : YOK Y) {o : Int} {a0 : Int} {a1 : Int} {M : Mem} {Q : Int → Mem → Prop} (h : m_X10_goal o a0 a1 M Q) : Ctr l Y yX10_goal cX10_goal 4 (some .int) 5 [vR Y o, vI a0, vI a1] M (PQi Y Q) := by
  unfold m_X10_goal at h
  obtain ⟨hk_o, h⟩ := h
  refine ctr_ofF hY (by decide +kernel) (Nat.le_of_ble_eq_true rfl) [(0, vR Y o), (1, vI a0), (2, vI a1)] rfl (fun X hX C hR => ?_)
  refine g_aload_n (q := 0) C dX10_goal_0 rfl rfl ?_
  refine g_iload_n (q := 1) C dX10_goal_1 rfl rfl ?_
  refine g_iload_n (q := 2) C dX10_goal_2 rfl rfl ?_
  refine g_iconst C dX10_goal_3 rfl ?_
  refine g_isub C dX10_goal_4 ?_
  refine g_cVi (As := [vI a0, vI (a1 - 1)]) C clX10_83 clvX10_spotOf dX10_goal_5 hk_o rfl (Nat.le_of_ble_eq_true rfl) rfl (by decide) (t_X10_spotOf (Cx.ok C) h) (fun r2 M1 h => ?_)
  refine g_istore_n (lv' := [(3, vI r2), (0, vR Y o), (1, vI a0), (2, vI a1)]) C dX10_goal_8 rfl (by decide) rfl ?_
  refine g_aload_n (q := 1) C dX10_goal_9 rfl rfl ?_
  refine g_iconst C dX10_goal_10 rfl ?_
  refine g_aload_n (q := 1) C dX10_goal_11 rfl rfl ?_
  obtain ⟨g3, h⟩ := h
  refine g_getM C fX10_54 dX10_goal_12 hk_o (kd_in g3 (by decide)).1 ?_
  refine g_getS (v := (M1 o 4) + 6) C fX10_86 dX10_goal_15 g3 rfl ?_
  refine g_iload_n (q := 2) C dX10_goal_18 rfl rfl ?_
  obtain ⟨g4, h⟩ := h
  refine g_iald C dX10_goal_19 (sub_8_8 g3).1 (sub_8_8 g3).2 g4 ?_
  refine g_cVv (As := [vI (-1), vI (M1 ((M1 o 4) + 6) a0)]) C clX10_89 clvX10_know dX10_goal_20 hk_o rfl (Nat.le_of_ble_eq_true rfl) rfl (by decide) (t_X10_know (Cx.ok C) h) (fun M5 h => ?_)
  refine g_aload_n (q := 1) C dX10_goal_23 rfl rfl ?_
  refine g_bipush (v := (-2)) C dX10_goal_24 (by decide +kernel) ?_
  refine g_iload_n (q := 3) C dX10_goal_26 rfl rfl ?_
  refine g_cVv (As := [vI (-2), vI a1]) C clX10_89 clvX10_know dX10_goal_27 hk_o rfl (Nat.le_of_ble_eq_true rfl) rfl (by decide) (t_X10_know (Cx.ok C) h) (fun M6 h => ?_)
  refine g_aload_n (q := 1) C dX10_goal_30 rfl rfl ?_
  refine g_bipush (v := (-3)) C dX10_goal_31 (by decide +kernel) ?_
  refine g_aload_n (q := 1) C dX10_goal_33 rfl rfl ?_
  obtain ⟨g7, h⟩ := h
  refine g_getM C fX10_58 dX10_goal_34 hk_o (kd_in g7 (by decide)).1 ?_
  refine g_getI C fX10_93 (by decide) dX10_goal_37 g7 ?_
  refine g_cVv (As := [vI (-3), vI (M6 (M6 o 5) 0)]) C clX10_89 clvX10_know dX10_goal_40 hk_o rfl (Nat.le_of_ble_eq_true rfl) rfl (by decide) (t_X10_know (Cx.ok C) h) (fun M8 h => ?_)
  refine g_aload_n (q := 1) C dX10_goal_43 rfl rfl ?_
  refine g_bipush (v := (-4)) C dX10_goal_44 (by decide +kernel) ?_
  refine g_aload_n (q := 1) C dX10_goal_46 rfl rfl ?_
  refine g_iload_n (q := 0) C dX10_goal_47 rfl rfl ?_
  refine g_iload_n (q := 3) C dX10_goal_48 rfl rfl ?_
  refine g_iconst C dX10_goal_49 rfl ?_
  refine g_isub C dX10_goal_50 ?_
  refine g_cVi (As := [vI r2, vI (a1 - 1)]) C clX10_96 clvX10_countIn dX10_goal_51 hk_o rfl (Nat.le_of_ble_eq_true rfl) rfl (by decide) (t_X10_countIn (Cx.ok C) h) (fun r10 M9 h => ?_)
  refine g_cVv (As := [vI (-4), vI r10]) C clX10_89 clvX10_know dX10_goal_54 hk_o rfl (Nat.le_of_ble_eq_true rfl) rfl (by decide) (t_X10_know (Cx.ok C) h) (fun M11 h => ?_)
  refine g_aload_n (q := 1) C dX10_goal_57 rfl rfl ?_
  refine g_bipush (v := (-5)) C dX10_goal_58 (by decide +kernel) ?_
  refine g_aload_n (q := 1) C dX10_goal_60 rfl rfl ?_
  refine g_iload_n (q := 2) C dX10_goal_61 rfl rfl ?_
  refine g_iload_n (q := 0) C dX10_goal_62 rfl rfl ?_
  refine g_iload_n (q := 3) C dX10_goal_63 rfl rfl ?_
  refine g_cVi (As := [vI a0, vI r2, vI a1]) C clX10_99 clvX10_shownTo dX10_goal_64 hk_o rfl (Nat.le_of_ble_eq_true rfl) rfl (by decide) (t_X10_shownTo (Cx.ok C) h) (fun r13 M12 h => ?_)
  refine g_cVv (As := [vI (-5), vI r13]) C clX10_89 clvX10_know dX10_goal_67 hk_o rfl (Nat.le_of_ble_eq_true rfl) rfl (by decide) (t_X10_know (Cx.ok C) h) (fun M14 h => ?_)
  refine g_aload_n (q := 1) C dX10_goal_70 rfl rfl ?_
  obtain ⟨g15, h⟩ := h
  refine g_getM C fX10_54 dX10_goal_71 hk_o (kd_in g15 (by decide)).1 ?_
  refine g_getS (v := (M14 o 4) + 11) C fX10_103 dX10_goal_74 g15 rfl ?_
  refine g_aload_n (q := 1) C dX10_goal_77 rfl rfl ?_
  refine g_getS (v := o + 4) C fX10_23 dX10_goal_78 hk_o rfl ?_
  refine g_cVi (As := [vR Y (o + 4)]) C clX10_107 clvX1_value dX10_goal_81 (sub_8_12 g15) rfl (Nat.le_of_ble_eq_true rfl) rfl (by decide) (t_X1_value (Cx.ok C) h) (fun r17 M16 h => ?_)
  refine g_iconst C dX10_goal_84 rfl ?_
  obtain ⟨g18, h⟩ := h
  obtain ⟨ht, hf⟩ := h
  refine g_icmp_ne (tgt := 92) C dX10_goal_85 (by decide) g18 (by decide) (fun c => ?_) (fun c => ?_)
  · have h := hf c
    refine g_aload_n (q := 1) C dX10_goal_92 rfl rfl ?_
    refine g_iload_n (q := 2) C dX10_goal_93 rfl rfl ?_
    refine g_iload_n (q := 0) C dX10_goal_94 rfl rfl ?_
    refine g_iload_n (q := 3) C dX10_goal_95 rfl rfl ?_
    refine g_cVi (As := [vI a0, vI r2, vI a1]) C clX10_111 clvX10_bestPlace dX10_goal_96 hk_o rfl (Nat.le_of_ble_eq_true rfl) rfl (by decide) (t_X10_bestPlace (Cx.ok C) h) (fun r20 M19 h => ?_)
    refine G.sub [] rfl ?_
    exact w_X10_goal_J99 C hR  h
  · have h := ht c
    refine g_iload_n (q := 0) C dX10_goal_88 rfl rfl ?_
    refine g_goto (tgt := 99) C dX10_goal_89 (by decide) ?_
    refine G.sub [] rfl ?_
    exact w_X10_goal_J99 C hR  h
set_option maxRecDepth 20000 in
theorem w_X10_goThrough_L17 {Y : YT} {X : CX} (C : Cx Y X cX10_goThrough 5 RX10 6) {Q : Mem → Prop} (hR : Rt Y X none (PQv Y Q)) {v0 : Int} {v1 : Int} {v3 : Int} {k8 : Int → Mem → Prop} (hk8 : ∀ (v3 : Int)  (M : Mem), k8 v3 M → G Y X 5 8 [(0, vR Y v0), (1, vR Y v1), (3, vI v3)] ([]) M) (hk_v0 : kd v0 = 10) (hk_v1 : kd v1 = 8): ∀ (f : Nat) (v4 : Int) (M : Mem), m_X10_goThrough_L17 k8 Q v0 v1 v3 f v4 M → G Y X 5 17 [(0, vR Y v0), (1, vR Y v1), (3, vI v3), (4, vI v4)] ([]) M := by
  intro f
  induction f with
  | zero =>
    intro v4 M h
    exact (show False from h).elim
  | succ f ih =>
    intro v4 M h
    unfold m_X10_goThrough_L17 at h
    refine g_iload (q := 3) C dX10_goThrough_17 rfl ?_
    refine g_aload_n (q := 1) C dX10_goThrough_19 rfl rfl ?_
    refine g_getI C fX10_30 (by decide) dX10_goThrough_20 hk_v1 ?_
    obtain ⟨g1, h⟩ := h
    obtain ⟨g2, h⟩ := h
    obtain ⟨ht, hf⟩ := h
    refine g_icmp_ge (tgt := 46) C dX10_goThrough_23 (by decide) g1 g2 (fun c => ?_) (fun c => ?_)
    · have h := ht c
      refine g_iinc (q := 2) (v := v3 + 1) (lv' := [(3, vI (v3 + 1)), (0, vR Y v0), (1, vR Y v1), (4, vI v4)]) C dX10_goThrough_46 rfl rfl (by decide) rfl ?_
      refine g_goto (tgt := 8) C dX10_goThrough_49 (by decide) ?_
      refine G.sub [1, 2, 0] rfl ?_
      exact hk8 _ _ h
    · have h := hf c
      refine g_aload_n (q := 0) C dX10_goThrough_26 rfl rfl ?_
      refine g_iload (q := 3) C dX10_goThrough_27 rfl ?_
      refine g_iload_n (q := 2) C dX10_goThrough_29 rfl rfl ?_
      refine g_aload_n (q := 0) C dX10_goThrough_30 rfl rfl ?_
      refine g_iload (q := 3) C dX10_goThrough_31 rfl ?_
      refine g_iload_n (q := 2) C dX10_goThrough_33 rfl rfl ?_
      refine g_cVi (As := [vI v4, vI v3]) C clX10_36 clvX10_goal dX10_goThrough_34 hk_v0 rfl (Nat.le_of_ble_eq_true rfl) rfl (by decide) (t_X10_goal (Cx.ok C) h) (fun r4 M3 h => ?_)
      refine g_cVv (As := [vI v4, vI v3, vI r4]) C clX10_40 clvX10_put dX10_goThrough_37 hk_v0 rfl (Nat.le_of_ble_eq_true rfl) rfl (by decide) (t_X10_put (Cx.ok C) h) (fun M5 h => ?_)
      refine g_iinc (q := 3) (v := v4 + 1) (lv' := [(4, vI (v4 + 1)), (0, vR Y v0), (1, vR Y v1), (3, vI v3)]) C dX10_goThrough_40 rfl rfl (by decide) rfl ?_
      refine g_goto (tgt := 17) C dX10_goThrough_43 (by decide) ?_
      refine G.sub [1, 2, 3, 0] rfl ?_
      exact ih _ _ h
set_option maxRecDepth 20000 in
theorem w_X10_goThrough_L8 {Y : YT} {X : CX} (C : Cx Y X cX10_goThrough 5 RX10 6) {Q : Mem → Prop} (hR : Rt Y X none (PQv Y Q)) {v0 : Int} {v1 : Int}  (hk_v0 : kd v0 = 10) (hk_v1 : kd v1 = 8): ∀ (f : Nat) (v3 : Int) (M : Mem), m_X10_goThrough_L8  Q v0 v1 f v3 M → G Y X 5 8 [(0, vR Y v0), (1, vR Y v1), (3, vI v3)] ([]) M := by
  intro f
  induction f with
  | zero =>
    intro v3 M h
    exact (show False from h).elim
  | succ f ih =>
    intro v3 M h
    unfold m_X10_goThrough_L8 at h
    refine g_iload_n (q := 2) C dX10_goThrough_8 rfl rfl ?_
    refine g_bipush (v := 8) C dX10_goThrough_9 (by decide +kernel) ?_
    obtain ⟨g6, h⟩ := h
    obtain ⟨ht, hf⟩ := h
    refine g_icmp_gt (tgt := 52) C dX10_goThrough_11 (by decide) g6 (by decide) (fun c => ?_) (fun c => ?_)
    · have h := ht c
      exact g_retv C hR dX10_goThrough_52 h
    · have h := hf c
      refine g_iconst C dX10_goThrough_14 rfl ?_
      refine g_istore (lv' := [(4, vI 0), (0, vR Y v0), (1, vR Y v1), (3, vI v3)]) C dX10_goThrough_15 (by decide) rfl ?_
      obtain ⟨f0, h⟩ := h
      refine G.sub [1, 2, 3, 0] rfl ?_
      exact w_X10_goThrough_L17 C hR (ih) hk_v0 hk_v1 f0 _ _ h
set_option maxRecDepth 20000 in
theorem t_X10_goThrough {l : Launch} {Y : YT} (hY : YOK Y) {o : Int} {a0 : Int} {a1 : Int} {M : Mem} {Q : Mem → Prop} (h : m_X10_goThrough o a0 a1 M Q) : Ctr l Y yX10_goThrough cX10_goThrough 5 none 6 [vR Y o, vR Y a0, vR Y a1] M (PQv Y Q) := by
  unfold m_X10_goThrough at h
  obtain ⟨hk_o, h⟩ := h
  obtain ⟨hk_a0, h⟩ := h
  obtain ⟨hk_a1, h⟩ := h
  refine ctr_ofF hY (by decide +kernel) (Nat.le_of_ble_eq_true rfl) [(0, vR Y o), (1, vR Y a0), (2, vR Y a1)] rfl (fun X hX C hR => ?_)
  refine g_aload_n (q := 0) C dX10_goThrough_0 rfl rfl ?_
  refine g_aload_n (q := 1) C dX10_goThrough_1 rfl rfl ?_
  refine g_aload_n (q := 2) C dX10_goThrough_2 rfl rfl ?_
  refine g_cVv (As := [vR Y a0, vR Y a1]) C clX10_26 clvX10_begin dX10_goThrough_3 hk_o rfl (Nat.le_of_ble_eq_true rfl) rfl (by decide) (t_X10_begin (Cx.ok C) h) (fun M7 h => ?_)
  refine g_iconst C dX10_goThrough_6 rfl ?_
  refine g_istore_n (lv' := [(3, vI 1), (0, vR Y o), (1, vR Y a0), (2, vR Y a1)]) C dX10_goThrough_7 rfl (by decide) rfl ?_
  obtain ⟨f0, h⟩ := h
  refine G.sub [1, 2, 0] rfl ?_
  exact w_X10_goThrough_L8 C hR hk_o hk_a0 f0 _ _ h
set_option maxRecDepth 20000 in
theorem w_X10_isTrue_J30 {Y : YT} {X : CX} (C : Cx Y X cX10_isTrue 3 RX10 3) {Q : Int → Mem → Prop} (hR : Rt Y X (some .boolean) (PQi Y Q)) {s0 : Int}  {M : Mem}  (h : m_X10_isTrue_J30  Q s0 M) : G Y X 3 30 [] ((vI s0) :: []) M := by
  unfold m_X10_isTrue_J30 at h
  obtain ⟨g1, h⟩ := h
  exact g_retz C hR dX10_isTrue_30 g1 h
set_option maxRecDepth 20000 in
theorem t_X10_isTrue {l : Launch} {Y : YT} (hY : YOK Y) {o : Int} {a0 : Int} {a1 : Int} {M : Mem} {Q : Int → Mem → Prop} (h : m_X10_isTrue o a0 a1 M Q) : Ctr l Y yX10_isTrue cX10_isTrue 3 (some .boolean) 3 [vR Y o, vR Y a0, vI a1] M (PQi Y Q) := by
  unfold m_X10_isTrue at h
  obtain ⟨hk_o, h⟩ := h
  obtain ⟨hk_a0, h⟩ := h
  refine ctr_ofF hY (by decide +kernel) (Nat.le_of_ble_eq_true rfl) [(0, vR Y o), (1, vR Y a0), (2, vI a1)] rfl (fun X hX C hR => ?_)
  refine g_aload_n (q := 0) C dX10_isTrue_0 rfl rfl ?_
  refine g_aload_n (q := 1) C dX10_isTrue_1 rfl rfl ?_
  refine g_getS (v := a0 + 2) C fX10_76 dX10_isTrue_2 hk_a0 rfl ?_
  refine g_iload_n (q := 2) C dX10_isTrue_5 rfl rfl ?_
  obtain ⟨g2, h⟩ := h
  refine g_iald C dX10_isTrue_6 (sub_5_2 hk_a0).1 (sub_5_2 hk_a0).2 g2 ?_
  refine g_aload_n (q := 1) C dX10_isTrue_7 rfl rfl ?_
  refine g_getS (v := a0 + 1) C fX10_73 dX10_isTrue_8 hk_a0 rfl ?_
  refine g_iload_n (q := 2) C dX10_isTrue_11 rfl rfl ?_
  obtain ⟨g3, h⟩ := h
  refine g_iald C dX10_isTrue_12 (sub_5_1 hk_a0).1 (sub_5_1 hk_a0).2 g3 ?_
  refine g_cVi (As := [vI (M (a0 + 2) a1), vI (M (a0 + 1) a1)]) C clX10_96 clvX10_countIn dX10_isTrue_13 hk_o rfl (Nat.le_of_ble_eq_true rfl) rfl (by decide) (t_X10_countIn (Cx.ok C) h) (fun r5 M4 h => ?_)
  refine g_aload_n (q := 1) C dX10_isTrue_16 rfl rfl ?_
  refine g_getS (v := a0 + 3) C fX10_79 dX10_isTrue_17 hk_a0 rfl ?_
  refine g_iload_n (q := 2) C dX10_isTrue_20 rfl rfl ?_
  obtain ⟨g6, h⟩ := h
  refine g_iald C dX10_isTrue_21 (sub_5_3 hk_a0).1 (sub_5_3 hk_a0).2 g6 ?_
  obtain ⟨g7, h⟩ := h
  obtain ⟨g8, h⟩ := h
  obtain ⟨ht, hf⟩ := h
  refine g_icmp_ne (tgt := 29) C dX10_isTrue_22 (by decide) g7 g8 (fun c => ?_) (fun c => ?_)
  · have h := hf c
    refine g_iconst C dX10_isTrue_29 rfl ?_
    refine G.sub [] rfl ?_
    exact w_X10_isTrue_J30 C hR  h
  · have h := ht c
    refine g_iconst C dX10_isTrue_25 rfl ?_
    refine g_goto (tgt := 30) C dX10_isTrue_26 (by decide) ?_
    refine G.sub [] rfl ?_
    exact w_X10_isTrue_J30 C hR  h
set_option maxRecDepth 20000 in
theorem w_X10_isTrueAt_J31 {Y : YT} {X : CX} (C : Cx Y X cX10_isTrueAt 4 RX10 4) {Q : Int → Mem → Prop} (hR : Rt Y X (some .boolean) (PQi Y Q)) {v0 : Int} {v1 : Int} {v2 : Int} {v3 : Int} {k2 : Int → Mem → Prop} (hk2 : ∀ (v3 : Int)  (M : Mem), k2 v3 M → G Y X 4 2 [(0, vR Y v0), (1, vI v1), (2, vR Y v2), (3, vI v3)] ([]) M) {M : Mem} (hk_v0 : kd v0 = 10) (hk_v2 : kd v2 = 5) (h : m_X10_isTrueAt_J31 k2 Q v0 v1 v2 v3 M) : G Y X 4 31 [(0, vR Y v0), (1, vI v1), (2, vR Y v2), (3, vI v3)] ([]) M := by
  unfold m_X10_isTrueAt_J31 at h
  refine g_iinc (q := 3) (v := v3 + 1) (lv' := [(3, vI (v3 + 1)), (0, vR Y v0), (1, vI v1), (2, vR Y v2)]) C dX10_isTrueAt_31 rfl rfl (by decide) rfl ?_
  refine g_goto (tgt := 2) C dX10_isTrueAt_34 (by decide) ?_
  refine G.sub [1, 2, 3, 0] rfl ?_
  exact hk2 _ _ h
set_option maxRecDepth 20000 in
theorem w_X10_isTrueAt_L2 {Y : YT} {X : CX} (C : Cx Y X cX10_isTrueAt 4 RX10 4) {Q : Int → Mem → Prop} (hR : Rt Y X (some .boolean) (PQi Y Q)) {v0 : Int} {v1 : Int} {v2 : Int}  (hk_v0 : kd v0 = 10) (hk_v2 : kd v2 = 5): ∀ (f : Nat) (v3 : Int) (M : Mem), m_X10_isTrueAt_L2  Q v0 v1 v2 f v3 M → G Y X 4 2 [(0, vR Y v0), (1, vI v1), (2, vR Y v2), (3, vI v3)] ([]) M := by
  intro f
  induction f with
  | zero =>
    intro v3 M h
    exact (show False from h).elim
  | succ f ih =>
    intro v3 M h
    unfold m_X10_isTrueAt_L2 at h
    refine g_iload_n (q := 3) C dX10_isTrueAt_2 rfl rfl ?_
    refine g_aload_n (q := 2) C dX10_isTrueAt_3 rfl rfl ?_
    refine g_getI C fX10_68 (by decide) dX10_isTrueAt_4 hk_v2 ?_
    obtain ⟨g1, h⟩ := h
    obtain ⟨g2, h⟩ := h
    obtain ⟨ht, hf⟩ := h
    refine g_icmp_ge (tgt := 37) C dX10_isTrueAt_7 (by decide) g1 g2 (fun c => ?_) (fun c => ?_)
    · have h := ht c
      refine g_iconst C dX10_isTrueAt_37 rfl ?_
      exact g_retz C hR dX10_isTrueAt_38 (by decide) h
    · have h := hf c
      refine g_aload_n (q := 2) C dX10_isTrueAt_10 rfl rfl ?_
      refine g_getS (v := v2 + 1) C fX10_73 dX10_isTrueAt_11 hk_v2 rfl ?_
      refine g_iload_n (q := 3) C dX10_isTrueAt_14 rfl rfl ?_
      obtain ⟨g3, h⟩ := h
      refine g_iald C dX10_isTrueAt_15 (sub_5_1 hk_v2).1 (sub_5_1 hk_v2).2 g3 ?_
      refine g_iload_n (q := 1) C dX10_isTrueAt_16 rfl rfl ?_
      obtain ⟨g4, h⟩ := h
      obtain ⟨g5, h⟩ := h
      obtain ⟨ht, hf⟩ := h
      refine g_icmp_ne (tgt := 31) C dX10_isTrueAt_17 (by decide) g4 g5 (fun c => ?_) (fun c => ?_)
      · have h := hf c
        refine G.sub [0, 1, 2, 3] rfl ?_
        exact w_X10_isTrueAt_J31 C hR (ih) hk_v0 hk_v2 h
      · have h := ht c
        refine g_aload_n (q := 0) C dX10_isTrueAt_20 rfl rfl ?_
        refine g_aload_n (q := 2) C dX10_isTrueAt_21 rfl rfl ?_
        refine g_iload_n (q := 3) C dX10_isTrueAt_22 rfl rfl ?_
        refine g_cVi (As := [vR Y v2, vI v3]) C clX10_141 clvX10_isTrue dX10_isTrueAt_23 hk_v0 rfl (Nat.le_of_ble_eq_true rfl) rfl (by decide) (t_X10_isTrue (Cx.ok C) h) (fun r7 M6 h => ?_)
        obtain ⟨g8, h⟩ := h
        obtain ⟨ht, hf⟩ := h
        refine g_if_ne (tgt := 31) C dX10_isTrueAt_26 (by decide) g8 (fun c => ?_) (fun c => ?_)
        · have h := hf c
          refine G.sub [0, 1, 2, 3] rfl ?_
          exact w_X10_isTrueAt_J31 C hR (ih) hk_v0 hk_v2 h
        · have h := ht c
          refine g_iconst C dX10_isTrueAt_29 rfl ?_
          exact g_retz C hR dX10_isTrueAt_30 (by decide) h
set_option maxRecDepth 20000 in
theorem t_X10_isTrueAt {l : Launch} {Y : YT} (hY : YOK Y) {o : Int} {a0 : Int} {a1 : Int} {M : Mem} {Q : Int → Mem → Prop} (h : m_X10_isTrueAt o a0 a1 M Q) : Ctr l Y yX10_isTrueAt cX10_isTrueAt 4 (some .boolean) 4 [vR Y o, vI a0, vR Y a1] M (PQi Y Q) := by
  unfold m_X10_isTrueAt at h
  obtain ⟨hk_o, h⟩ := h
  obtain ⟨hk_a1, h⟩ := h
  refine ctr_ofF hY (by decide +kernel) (Nat.le_of_ble_eq_true rfl) [(0, vR Y o), (1, vI a0), (2, vR Y a1)] rfl (fun X hX C hR => ?_)
  refine g_iconst C dX10_isTrueAt_0 rfl ?_
  refine g_istore_n (lv' := [(3, vI 0), (0, vR Y o), (1, vI a0), (2, vR Y a1)]) C dX10_isTrueAt_1 rfl (by decide) rfl ?_
  obtain ⟨f0, h⟩ := h
  refine G.sub [1, 2, 3, 0] rfl ?_
  exact w_X10_isTrueAt_L2 C hR hk_o hk_a1 f0 _ _ h
set_option maxRecDepth 20000 in
theorem w_X10_agreesIn_L17 {Y : YT} {X : CX} (C : Cx Y X cX10_agreesIn 5 RX10 6) {Q : Int → Mem → Prop} (hR : Rt Y X (some .boolean) (PQi Y Q)) {v0 : Int} {v1 : Int} {v2 : Int} {v3 : Int} {k8 : Int → Mem → Prop} (hk8 : ∀ (v3 : Int)  (M : Mem), k8 v3 M → G Y X 5 8 [(0, vR Y v0), (1, vR Y v1), (2, vR Y v2), (3, vI v3)] ([]) M) (hk_v0 : kd v0 = 10) (hk_v1 : kd v1 = 8) (hk_v2 : kd v2 = 6): ∀ (f : Nat) (v4 : Int) (M : Mem), m_X10_agreesIn_L17 k8 Q v0 v1 v2 v3 f v4 M → G Y X 5 17 [(0, vR Y v0), (1, vR Y v1), (2, vR Y v2), (3, vI v3), (4, vI v4)] ([]) M := by
  intro f
  induction f with
  | zero =>
    intro v4 M h
    exact (show False from h).elim
  | succ f ih =>
    intro v4 M h
    unfold m_X10_agreesIn_L17 at h
    refine g_iload (q := 4) C dX10_agreesIn_17 rfl ?_
    refine g_aload_n (q := 1) C dX10_agreesIn_19 rfl rfl ?_
    refine g_getI C fX10_30 (by decide) dX10_agreesIn_20 hk_v1 ?_
    obtain ⟨g1, h⟩ := h
    obtain ⟨g2, h⟩ := h
    obtain ⟨ht, hf⟩ := h
    refine g_icmp_ge (tgt := 46) C dX10_agreesIn_23 (by decide) g1 g2 (fun c => ?_) (fun c => ?_)
    · have h := ht c
      refine g_aload_n (q := 0) C dX10_agreesIn_46 rfl rfl ?_
      refine g_iload_n (q := 3) C dX10_agreesIn_47 rfl rfl ?_
      refine g_aload_n (q := 2) C dX10_agreesIn_48 rfl rfl ?_
      refine g_getS (v := v2 + 2) C fX10_44 dX10_agreesIn_49 hk_v2 rfl ?_
      refine g_cVi (As := [vI v3, vR Y (v2 + 2)]) C clX10_50 clvX10_isTrueAt dX10_agreesIn_52 hk_v0 rfl (Nat.le_of_ble_eq_true rfl) rfl (by decide) (t_X10_isTrueAt (Cx.ok C) h) (fun r4 M3 h => ?_)
      obtain ⟨g5, h⟩ := h
      obtain ⟨ht, hf⟩ := h
      refine g_if_ne (tgt := 60) C dX10_agreesIn_55 (by decide) g5 (fun c => ?_) (fun c => ?_)
      · have h := hf c
        refine g_iinc (q := 3) (v := v3 + 1) (lv' := [(3, vI (v3 + 1)), (0, vR Y v0), (1, vR Y v1), (2, vR Y v2), (4, vI v4)]) C dX10_agreesIn_60 rfl rfl (by decide) rfl ?_
        refine g_goto (tgt := 8) C dX10_agreesIn_63 (by decide) ?_
        refine G.sub [1, 2, 3, 0] rfl ?_
        exact hk8 _ _ h
      · have h := ht c
        refine g_iconst C dX10_agreesIn_58 rfl ?_
        exact g_retz C hR dX10_agreesIn_59 (by decide) h
    · have h := hf c
      refine g_aload_n (q := 0) C dX10_agreesIn_26 rfl rfl ?_
      refine g_iload (q := 4) C dX10_agreesIn_27 rfl ?_
      refine g_iload_n (q := 3) C dX10_agreesIn_29 rfl rfl ?_
      refine g_aload_n (q := 0) C dX10_agreesIn_30 rfl rfl ?_
      refine g_iload (q := 4) C dX10_agreesIn_31 rfl ?_
      refine g_iload_n (q := 3) C dX10_agreesIn_33 rfl rfl ?_
      refine g_cVi (As := [vI v4, vI v3]) C clX10_36 clvX10_goal dX10_agreesIn_34 hk_v0 rfl (Nat.le_of_ble_eq_true rfl) rfl (by decide) (t_X10_goal (Cx.ok C) h) (fun r7 M6 h => ?_)
      refine g_cVv (As := [vI v4, vI v3, vI r7]) C clX10_40 clvX10_put dX10_agreesIn_37 hk_v0 rfl (Nat.le_of_ble_eq_true rfl) rfl (by decide) (t_X10_put (Cx.ok C) h) (fun M8 h => ?_)
      refine g_iinc (q := 4) (v := v4 + 1) (lv' := [(4, vI (v4 + 1)), (0, vR Y v0), (1, vR Y v1), (2, vR Y v2), (3, vI v3)]) C dX10_agreesIn_40 rfl rfl (by decide) rfl ?_
      refine g_goto (tgt := 17) C dX10_agreesIn_43 (by decide) ?_
      refine G.sub [1, 2, 3, 4, 0] rfl ?_
      exact ih _ _ h
set_option maxRecDepth 20000 in
theorem w_X10_agreesIn_L8 {Y : YT} {X : CX} (C : Cx Y X cX10_agreesIn 5 RX10 6) {Q : Int → Mem → Prop} (hR : Rt Y X (some .boolean) (PQi Y Q)) {v0 : Int} {v1 : Int} {v2 : Int}  (hk_v0 : kd v0 = 10) (hk_v1 : kd v1 = 8) (hk_v2 : kd v2 = 6): ∀ (f : Nat) (v3 : Int) (M : Mem), m_X10_agreesIn_L8  Q v0 v1 v2 f v3 M → G Y X 5 8 [(0, vR Y v0), (1, vR Y v1), (2, vR Y v2), (3, vI v3)] ([]) M := by
  intro f
  induction f with
  | zero =>
    intro v3 M h
    exact (show False from h).elim
  | succ f ih =>
    intro v3 M h
    unfold m_X10_agreesIn_L8 at h
    refine g_iload_n (q := 3) C dX10_agreesIn_8 rfl rfl ?_
    refine g_bipush (v := 8) C dX10_agreesIn_9 (by decide +kernel) ?_
    obtain ⟨g9, h⟩ := h
    obtain ⟨ht, hf⟩ := h
    refine g_icmp_gt (tgt := 66) C dX10_agreesIn_11 (by decide) g9 (by decide) (fun c => ?_) (fun c => ?_)
    · have h := ht c
      refine g_iconst C dX10_agreesIn_66 rfl ?_
      exact g_retz C hR dX10_agreesIn_67 (by decide) h
    · have h := hf c
      refine g_iconst C dX10_agreesIn_14 rfl ?_
      refine g_istore (lv' := [(4, vI 0), (0, vR Y v0), (1, vR Y v1), (2, vR Y v2), (3, vI v3)]) C dX10_agreesIn_15 (by decide) rfl ?_
      obtain ⟨f0, h⟩ := h
      refine G.sub [1, 2, 3, 4, 0] rfl ?_
      exact w_X10_agreesIn_L17 C hR (ih) hk_v0 hk_v1 hk_v2 f0 _ _ h
set_option maxRecDepth 20000 in
theorem t_X10_agreesIn {l : Launch} {Y : YT} (hY : YOK Y) {o : Int} {a0 : Int} {a1 : Int} {M : Mem} {Q : Int → Mem → Prop} (h : m_X10_agreesIn o a0 a1 M Q) : Ctr l Y yX10_agreesIn cX10_agreesIn 5 (some .boolean) 6 [vR Y o, vR Y a0, vR Y a1] M (PQi Y Q) := by
  unfold m_X10_agreesIn at h
  obtain ⟨hk_o, h⟩ := h
  obtain ⟨hk_a0, h⟩ := h
  obtain ⟨hk_a1, h⟩ := h
  refine ctr_ofF hY (by decide +kernel) (Nat.le_of_ble_eq_true rfl) [(0, vR Y o), (1, vR Y a0), (2, vR Y a1)] rfl (fun X hX C hR => ?_)
  refine g_aload_n (q := 0) C dX10_agreesIn_0 rfl rfl ?_
  refine g_aload_n (q := 1) C dX10_agreesIn_1 rfl rfl ?_
  refine g_aload_n (q := 2) C dX10_agreesIn_2 rfl rfl ?_
  refine g_cVv (As := [vR Y a0, vR Y a1]) C clX10_26 clvX10_begin dX10_agreesIn_3 hk_o rfl (Nat.le_of_ble_eq_true rfl) rfl (by decide) (t_X10_begin (Cx.ok C) h) (fun M10 h => ?_)
  refine g_iconst C dX10_agreesIn_6 rfl ?_
  refine g_istore_n (lv' := [(3, vI 1), (0, vR Y o), (1, vR Y a0), (2, vR Y a1)]) C dX10_agreesIn_7 rfl (by decide) rfl ?_
  obtain ⟨f0, h⟩ := h
  refine G.sub [1, 2, 3, 0] rfl ?_
  exact w_X10_agreesIn_L8 C hR hk_o hk_a0 hk_a1 f0 _ _ h
set_option maxRecDepth 20000 in
theorem w_X10_trueOnes_J27 {Y : YT} {X : CX} (C : Cx Y X cX10_trueOnes 4 RX10 4) {Q : Int → Mem → Prop} (hR : Rt Y X (some .int) (PQi Y Q)) {v0 : Int} {v1 : Int} {v3 : Int} {s0 : Int} {s1 : Int} {k4 : Int → Int → Mem → Prop} (hk4 : ∀ (v2 : Int) (v3 : Int)  (M : Mem), k4 v2 v3 M → G Y X 4 4 [(0, vR Y v0), (1, vR Y v1), (2, vI v2), (3, vI v3)] ([]) M) {M : Mem} (hk_v0 : kd v0 = 10) (hk_v1 : kd v1 = 5) (h : m_X10_trueOnes_J27 k4 Q v0 v1 v3 s0 s1 M) : G Y X 4 27 [(0, vR Y v0), (1, vR Y v1), (3, vI v3)] ((vI s1) :: (vI s0) :: []) M := by
  unfold m_X10_trueOnes_J27 at h
  refine g_iadd C dX10_trueOnes_27 ?_
  refine g_istore_n (lv' := [(2, vI (s0 + s1)), (0, vR Y v0), (1, vR Y v1), (3, vI v3)]) C dX10_trueOnes_28 rfl (by decide) rfl ?_
  refine g_iinc (q := 3) (v := v3 + 1) (lv' := [(3, vI (v3 + 1)), (2, vI (s0 + s1)), (0, vR Y v0), (1, vR Y v1)]) C dX10_trueOnes_29 rfl rfl (by decide) rfl ?_
  refine g_goto (tgt := 4) C dX10_trueOnes_32 (by decide) ?_
  refine G.sub [2, 3, 1, 0] rfl ?_
  exact hk4 _ _ _ h
set_option maxRecDepth 20000 in
theorem w_X10_trueOnes_L4 {Y : YT} {X : CX} (C : Cx Y X cX10_trueOnes 4 RX10 4) {Q : Int → Mem → Prop} (hR : Rt Y X (some .int) (PQi Y Q)) {v0 : Int} {v1 : Int}  (hk_v0 : kd v0 = 10) (hk_v1 : kd v1 = 5): ∀ (f : Nat) (v2 : Int) (v3 : Int) (M : Mem), m_X10_trueOnes_L4  Q v0 v1 f v2 v3 M → G Y X 4 4 [(0, vR Y v0), (1, vR Y v1), (2, vI v2), (3, vI v3)] ([]) M := by
  intro f
  induction f with
  | zero =>
    intro v2 v3 M h
    exact (show False from h).elim
  | succ f ih =>
    intro v2 v3 M h
    unfold m_X10_trueOnes_L4 at h
    refine g_iload_n (q := 3) C dX10_trueOnes_4 rfl rfl ?_
    refine g_aload_n (q := 1) C dX10_trueOnes_5 rfl rfl ?_
    refine g_getI C fX10_68 (by decide) dX10_trueOnes_6 hk_v1 ?_
    obtain ⟨g1, h⟩ := h
    obtain ⟨g2, h⟩ := h
    obtain ⟨ht, hf⟩ := h
    refine g_icmp_ge (tgt := 35) C dX10_trueOnes_9 (by decide) g1 g2 (fun c => ?_) (fun c => ?_)
    · have h := ht c
      refine g_iload_n (q := 2) C dX10_trueOnes_35 rfl rfl ?_
      exact g_reti C hR dX10_trueOnes_36 h
    · have h := hf c
      refine g_iload_n (q := 2) C dX10_trueOnes_12 rfl rfl ?_
      refine g_aload_n (q := 0) C dX10_trueOnes_13 rfl rfl ?_
      refine g_aload_n (q := 1) C dX10_trueOnes_14 rfl rfl ?_
      refine g_iload_n (q := 3) C dX10_trueOnes_15 rfl rfl ?_
      refine g_cVi (As := [vR Y v1, vI v3]) C clX10_141 clvX10_isTrue dX10_trueOnes_16 hk_v0 rfl (Nat.le_of_ble_eq_true rfl) rfl (by decide) (t_X10_isTrue (Cx.ok C) h) (fun r4 M3 h => ?_)
      obtain ⟨g5, h⟩ := h
      obtain ⟨ht, hf⟩ := h
      refine g_if_eq (tgt := 26) C dX10_trueOnes_19 (by decide) g5 (fun c => ?_) (fun c => ?_)
      · have h := ht c
        refine g_iconst C dX10_trueOnes_26 rfl ?_
        refine G.sub [0, 1, 3] rfl ?_
        exact w_X10_trueOnes_J27 C hR (ih) hk_v0 hk_v1 h
      · have h := hf c
        refine g_iconst C dX10_trueOnes_22 rfl ?_
        refine g_goto (tgt := 27) C dX10_trueOnes_23 (by decide) ?_
        refine G.sub [0, 1, 3] rfl ?_
        exact w_X10_trueOnes_J27 C hR (ih) hk_v0 hk_v1 h
set_option maxRecDepth 20000 in
theorem t_X10_trueOnes {l : Launch} {Y : YT} (hY : YOK Y) {o : Int} {a0 : Int} {M : Mem} {Q : Int → Mem → Prop} (h : m_X10_trueOnes o a0 M Q) : Ctr l Y yX10_trueOnes cX10_trueOnes 4 (some .int) 4 [vR Y o, vR Y a0] M (PQi Y Q) := by
  unfold m_X10_trueOnes at h
  obtain ⟨hk_o, h⟩ := h
  obtain ⟨hk_a0, h⟩ := h
  refine ctr_ofF hY (by decide +kernel) (Nat.le_of_ble_eq_true rfl) [(0, vR Y o), (1, vR Y a0)] rfl (fun X hX C hR => ?_)
  refine g_iconst C dX10_trueOnes_0 rfl ?_
  refine g_istore_n (lv' := [(2, vI 0), (0, vR Y o), (1, vR Y a0)]) C dX10_trueOnes_1 rfl (by decide) rfl ?_
  refine g_iconst C dX10_trueOnes_2 rfl ?_
  refine g_istore_n (lv' := [(3, vI 0), (2, vI 0), (0, vR Y o), (1, vR Y a0)]) C dX10_trueOnes_3 rfl (by decide) rfl ?_
  obtain ⟨f0, h⟩ := h
  refine G.sub [2, 3, 1, 0] rfl ?_
  exact w_X10_trueOnes_L4 C hR hk_o hk_a0 f0 _ _ _ h
set_option maxRecDepth 20000 in
theorem w_X10_agreesWith_J17 {Y : YT} {X : CX} (C : Cx Y X cX10_agreesWith 2 RX10 5) {Q : Int → Mem → Prop} (hR : Rt Y X (some .boolean) (PQi Y Q)) {s0 : Int}  {M : Mem}  (h : m_X10_agreesWith_J17  Q s0 M) : G Y X 2 17 [] ((vI s0) :: []) M := by
  unfold m_X10_agreesWith_J17 at h
  obtain ⟨g1, h⟩ := h
  exact g_retz C hR dX10_agreesWith_17 g1 h
set_option maxRecDepth 20000 in
theorem t_X10_agreesWith {l : Launch} {Y : YT} (hY : YOK Y) {o : Int} {a0 : Int} {M : Mem} {Q : Int → Mem → Prop} (h : m_X10_agreesWith o a0 M Q) : Ctr l Y yX10_agreesWith cX10_agreesWith 2 (some .boolean) 5 [vR Y o, vR Y a0] M (PQi Y Q) := by
  unfold m_X10_agreesWith at h
  obtain ⟨hk_o, h⟩ := h
  obtain ⟨hk_a0, h⟩ := h
  refine ctr_ofF hY (by decide +kernel) (Nat.le_of_ble_eq_true rfl) [(0, vR Y o), (1, vR Y a0)] rfl (fun X hX C hR => ?_)
  refine g_aload_n (q := 0) C dX10_agreesWith_0 rfl rfl ?_
  refine g_aload_n (q := 1) C dX10_agreesWith_1 rfl rfl ?_
  refine g_cVi (As := [vR Y a0]) C clX10_145 clvX10_trueOnes dX10_agreesWith_2 hk_o rfl (Nat.le_of_ble_eq_true rfl) rfl (by decide) (t_X10_trueOnes (Cx.ok C) h) (fun r3 M2 h => ?_)
  refine g_aload_n (q := 1) C dX10_agreesWith_5 rfl rfl ?_
  refine g_getI C fX10_68 (by decide) dX10_agreesWith_6 hk_a0 ?_
  obtain ⟨g4, h⟩ := h
  obtain ⟨g5, h⟩ := h
  obtain ⟨ht, hf⟩ := h
  refine g_icmp_ne (tgt := 16) C dX10_agreesWith_9 (by decide) g4 g5 (fun c => ?_) (fun c => ?_)
  · have h := hf c
    refine g_iconst C dX10_agreesWith_16 rfl ?_
    refine G.sub [] rfl ?_
    exact w_X10_agreesWith_J17 C hR  h
  · have h := ht c
    refine g_iconst C dX10_agreesWith_12 rfl ?_
    refine g_goto (tgt := 17) C dX10_agreesWith_13 (by decide) ?_
    refine G.sub [] rfl ?_
    exact w_X10_agreesWith_J17 C hR  h
set_option maxRecDepth 20000 in
theorem w_X10_isNeverEntered_J34 {Y : YT} {X : CX} (C : Cx Y X cX10_isNeverEntered 4 RX10 2) {Q : Int → Mem → Prop} (hR : Rt Y X (some .boolean) (PQi Y Q)) {s0 : Int}  {M : Mem}  (h : m_X10_isNeverEntered_J34  Q s0 M) : G Y X 4 34 [] ((vI s0) :: []) M := by
  unfold m_X10_isNeverEntered_J34 at h
  obtain ⟨g1, h⟩ := h
  exact g_retz C hR dX10_isNeverEntered_34 g1 h
set_option maxRecDepth 20000 in
theorem w_X10_isNeverEntered_L4 {Y : YT} {X : CX} (C : Cx Y X cX10_isNeverEntered 4 RX10 2) {Q : Int → Mem → Prop} (hR : Rt Y X (some .boolean) (PQi Y Q)) {v0 : Int} {v1 : Int}  (hk_v0 : kd v0 = 10): ∀ (f : Nat) (v2 : Int) (v3 : Int) (M : Mem), m_X10_isNeverEntered_L4  Q v0 v1 f v2 v3 M → G Y X 4 4 [(0, vR Y v0), (1, vI v1), (2, vI v2), (3, vI v3)] ([]) M := by
  intro f
  induction f with
  | zero =>
    intro v2 v3 M h
    exact (show False from h).elim
  | succ f ih =>
    intro v2 v3 M h
    unfold m_X10_isNeverEntered_L4 at h
    refine g_iload_n (q := 3) C dX10_isNeverEntered_4 rfl rfl ?_
    refine g_bipush (v := 8) C dX10_isNeverEntered_5 (by decide +kernel) ?_
    obtain ⟨g2, h⟩ := h
    obtain ⟨ht, hf⟩ := h
    refine g_icmp_gt (tgt := 25) C dX10_isNeverEntered_7 (by decide) g2 (by decide) (fun c => ?_) (fun c => ?_)
    · have h := ht c
      refine g_iload_n (q := 2) C dX10_isNeverEntered_25 rfl rfl ?_
      obtain ⟨g3, h⟩ := h
      obtain ⟨ht, hf⟩ := h
      refine g_if_ne (tgt := 33) C dX10_isNeverEntered_26 (by decide) g3 (fun c => ?_) (fun c => ?_)
      · have h := hf c
        refine g_iconst C dX10_isNeverEntered_33 rfl ?_
        refine G.sub [] rfl ?_
        exact w_X10_isNeverEntered_J34 C hR  h
      · have h := ht c
        refine g_iconst C dX10_isNeverEntered_29 rfl ?_
        refine g_goto (tgt := 34) C dX10_isNeverEntered_30 (by decide) ?_
        refine G.sub [] rfl ?_
        exact w_X10_isNeverEntered_J34 C hR  h
    · have h := hf c
      refine g_iload_n (q := 2) C dX10_isNeverEntered_10 rfl rfl ?_
      refine g_aload_n (q := 0) C dX10_isNeverEntered_11 rfl rfl ?_
      refine g_iload_n (q := 1) C dX10_isNeverEntered_12 rfl rfl ?_
      refine g_iload_n (q := 3) C dX10_isNeverEntered_13 rfl rfl ?_
      refine g_cVi (As := [vI v1, vI v3]) C clX10_132 clvX10_peopleIn dX10_isNeverEntered_14 hk_v0 rfl (Nat.le_of_ble_eq_true rfl) rfl (by decide) (t_X10_peopleIn (Cx.ok C) h) (fun r5 M4 h => ?_)
      refine g_ior C dX10_isNeverEntered_17 ?_
      refine g_istore_n (lv' := [(2, vI (zor v2 r5)), (0, vR Y v0), (1, vI v1), (3, vI v3)]) C dX10_isNeverEntered_18 rfl (by decide) rfl ?_
      refine g_iinc (q := 3) (v := v3 + 1) (lv' := [(3, vI (v3 + 1)), (2, vI (zor v2 r5)), (0, vR Y v0), (1, vI v1)]) C dX10_isNeverEntered_19 rfl rfl (by decide) rfl ?_
      refine g_goto (tgt := 4) C dX10_isNeverEntered_22 (by decide) ?_
      refine G.sub [2, 3, 1, 0] rfl ?_
      exact ih _ _ _ h
set_option maxRecDepth 20000 in
theorem t_X10_isNeverEntered {l : Launch} {Y : YT} (hY : YOK Y) {o : Int} {a0 : Int} {M : Mem} {Q : Int → Mem → Prop} (h : m_X10_isNeverEntered o a0 M Q) : Ctr l Y yX10_isNeverEntered cX10_isNeverEntered 4 (some .boolean) 2 [vR Y o, vI a0] M (PQi Y Q) := by
  unfold m_X10_isNeverEntered at h
  obtain ⟨hk_o, h⟩ := h
  refine ctr_ofF hY (by decide +kernel) (Nat.le_of_ble_eq_true rfl) [(0, vR Y o), (1, vI a0)] rfl (fun X hX C hR => ?_)
  refine g_iconst C dX10_isNeverEntered_0 rfl ?_
  refine g_istore_n (lv' := [(2, vI 0), (0, vR Y o), (1, vI a0)]) C dX10_isNeverEntered_1 rfl (by decide) rfl ?_
  refine g_iconst C dX10_isNeverEntered_2 rfl ?_
  refine g_istore_n (lv' := [(3, vI 1), (2, vI 0), (0, vR Y o), (1, vI a0)]) C dX10_isNeverEntered_3 rfl (by decide) rfl ?_
  obtain ⟨f0, h⟩ := h
  refine G.sub [2, 3, 1, 0] rfl ?_
  exact w_X10_isNeverEntered_L4 C hR hk_o f0 _ _ _ h
set_option maxRecDepth 20000 in
theorem w_X10_bringsTogether_L2 {Y : YT} {X : CX} (C : Cx Y X cX10_bringsTogether 4 RX10 2) {Q : Int → Mem → Prop} (hR : Rt Y X (some .boolean) (PQi Y Q)) {v0 : Int} {v1 : Int} {v2 : Int}  (hk_v0 : kd v0 = 10): ∀ (f : Nat) (v3 : Int) (M : Mem), m_X10_bringsTogether_L2  Q v0 v1 v2 f v3 M → G Y X 4 2 [(0, vR Y v0), (1, vI v1), (2, vI v2), (3, vI v3)] ([]) M := by
  intro f
  induction f with
  | zero =>
    intro v3 M h
    exact (show False from h).elim
  | succ f ih =>
    intro v3 M h
    unfold m_X10_bringsTogether_L2 at h
    refine g_iload_n (q := 3) C dX10_bringsTogether_2 rfl rfl ?_
    refine g_bipush (v := 8) C dX10_bringsTogether_3 (by decide +kernel) ?_
    obtain ⟨g1, h⟩ := h
    obtain ⟨ht, hf⟩ := h
    refine g_icmp_gt (tgt := 31) C dX10_bringsTogether_5 (by decide) g1 (by decide) (fun c => ?_) (fun c => ?_)
    · have h := ht c
      refine g_iconst C dX10_bringsTogether_31 rfl ?_
      exact g_retz C hR dX10_bringsTogether_32 (by decide) h
    · have h := hf c
      refine g_aload_n (q := 0) C dX10_bringsTogether_8 rfl rfl ?_
      refine g_iload_n (q := 1) C dX10_bringsTogether_9 rfl rfl ?_
      refine g_iload_n (q := 3) C dX10_bringsTogether_10 rfl rfl ?_
      refine g_cVi (As := [vI v1, vI v3]) C clX10_83 clvX10_spotOf dX10_bringsTogether_11 hk_v0 rfl (Nat.le_of_ble_eq_true rfl) rfl (by decide) (t_X10_spotOf (Cx.ok C) h) (fun r3 M2 h => ?_)
      refine g_aload_n (q := 0) C dX10_bringsTogether_14 rfl rfl ?_
      refine g_iload_n (q := 2) C dX10_bringsTogether_15 rfl rfl ?_
      refine g_iload_n (q := 3) C dX10_bringsTogether_16 rfl rfl ?_
      refine g_cVi (As := [vI v2, vI v3]) C clX10_83 clvX10_spotOf dX10_bringsTogether_17 hk_v0 rfl (Nat.le_of_ble_eq_true rfl) rfl (by decide) (t_X10_spotOf (Cx.ok C) h) (fun r5 M4 h => ?_)
      obtain ⟨g6, h⟩ := h
      obtain ⟨g7, h⟩ := h
      obtain ⟨ht, hf⟩ := h
      refine g_icmp_ne (tgt := 25) C dX10_bringsTogether_20 (by decide) g6 g7 (fun c => ?_) (fun c => ?_)
      · have h := hf c
        refine g_iinc (q := 3) (v := v3 + 1) (lv' := [(3, vI (v3 + 1)), (0, vR Y v0), (1, vI v1), (2, vI v2)]) C dX10_bringsTogether_25 rfl rfl (by decide) rfl ?_
        refine g_goto (tgt := 2) C dX10_bringsTogether_28 (by decide) ?_
        refine G.sub [1, 2, 3, 0] rfl ?_
        exact ih _ _ h
      · have h := ht c
        refine g_iconst C dX10_bringsTogether_23 rfl ?_
        exact g_retz C hR dX10_bringsTogether_24 (by decide) h
set_option maxRecDepth 20000 in
theorem t_X10_bringsTogether {l : Launch} {Y : YT} (hY : YOK Y) {o : Int} {a0 : Int} {a1 : Int} {M : Mem} {Q : Int → Mem → Prop} (h : m_X10_bringsTogether o a0 a1 M Q) : Ctr l Y yX10_bringsTogether cX10_bringsTogether 4 (some .boolean) 2 [vR Y o, vI a0, vI a1] M (PQi Y Q) := by
  unfold m_X10_bringsTogether at h
  obtain ⟨hk_o, h⟩ := h
  refine ctr_ofF hY (by decide +kernel) (Nat.le_of_ble_eq_true rfl) [(0, vR Y o), (1, vI a0), (2, vI a1)] rfl (fun X hX C hR => ?_)
  refine g_iconst C dX10_bringsTogether_0 rfl ?_
  refine g_istore_n (lv' := [(3, vI 1), (0, vR Y o), (1, vI a0), (2, vI a1)]) C dX10_bringsTogether_1 rfl (by decide) rfl ?_
  obtain ⟨f0, h⟩ := h
  refine G.sub [1, 2, 3, 0] rfl ?_
  exact w_X10_bringsTogether_L2 C hR hk_o f0 _ _ h
set_option maxRecDepth 20000 in
theorem t_X11_refuse {l : Launch} {Y : YT} (hY : YOK Y) {a0 : Int} {M : Mem} {Q : Int → Mem → Prop} (h : m_X11_refuse a0 M Q) : Ctr l Y yX11_refuse cX11_refuse 2 (some .int) 1 [vR Y 0, vI a0] M (PQi Y Q) := by
  unfold m_X11_refuse at h
  refine ctr_ofF hY (by decide +kernel) (Nat.le_of_ble_eq_true rfl) [(0, vR Y 0), (1, vI a0)] rfl (fun X hX C hR => ?_)
  refine g_aload_n (q := 0) C dX11_refuse_0 rfl rfl ?_
  refine g_getS (v := 198) C fX11_76 dX11_refuse_1 kd_0 rfl ?_
  refine g_iload_n (q := 1) C dX11_refuse_4 rfl rfl ?_
  refine g_dup2 C dX11_refuse_5 rfl rfl ?_
  obtain ⟨g1, h⟩ := h
  refine g_iald C dX11_refuse_6 kd_198 ln_198 g1 ?_
  refine g_iconst C dX11_refuse_7 rfl ?_
  refine g_iadd C dX11_refuse_8 ?_
  obtain ⟨g2, h⟩ := h
  obtain ⟨M3, e_M3⟩ : ∃ z : Mem, z = up M 198 a0 ((M 198 a0) + 1) := ⟨_, rfl⟩
  have h := h M3 e_M3
  refine g_iast C dX11_refuse_9 kd_198 ln_198 g2 e_M3 ?_
  refine g_iconst C dX11_refuse_10 rfl ?_
  exact g_reti C hR dX11_refuse_11 h
set_option maxRecDepth 20000 in
theorem t_X11_feed {l : Launch} {Y : YT} (hY : YOK Y) {a0 : Int} {a1 : Int} {a2 : Int} {a3 : Int} {a4 : Int} {M : Mem} {Q : Int → Mem → Prop} (h : m_X11_feed a0 a1 a2 a3 a4 M Q) : Ctr l Y yX11_feed cX11_feed 6 (some .int) 2 [vR Y 0, vI a0, vI a1, vI a2, vI a3, vI a4] M (PQi Y Q) := by
  unfold m_X11_feed at h
  refine ctr_ofF hY (by decide +kernel) (Nat.le_of_ble_eq_true rfl) [(0, vR Y 0), (1, vI a0), (2, vI a1), (3, vI a2), (4, vI a3), (5, vI a4)] rfl (fun X hX C hR => ?_)
  refine g_aload_n (q := 0) C dX11_feed_0 rfl rfl ?_
  refine g_getS (v := 1) C fX11_10 dX11_feed_1 kd_0 rfl ?_
  refine g_getI C fX11_84 (by decide) dX11_feed_4 kd_1 ?_
  refine g_bipush (v := 20) C dX11_feed_7 (by decide +kernel) ?_
  refine g_iadd C dX11_feed_9 ?_
  refine g_sipush (v := 1600) C dX11_feed_10 (by decide +kernel) ?_
  obtain ⟨g1, h⟩ := h
  obtain ⟨ht, hf⟩ := h
  refine g_icmp_le (tgt := 22) C dX11_feed_13 (by decide) g1 (by decide) (fun c => ?_) (fun c => ?_)
  · have h := ht c
    refine g_aload_n (q := 0) C dX11_feed_22 rfl rfl ?_
    refine g_getS (v := 1) C fX11_10 dX11_feed_23 kd_0 rfl ?_
    refine g_iload_n (q := 1) C dX11_feed_26 rfl rfl ?_
    refine g_cVv (As := [vI a0]) C clX11_91 clvX7_add dX11_feed_27 kd_1 rfl (Nat.le_of_ble_eq_true rfl) rfl (by decide) (t_X7_add (Cx.ok C) h) (fun M2 h => ?_)
    refine g_aload_n (q := 0) C dX11_feed_30 rfl rfl ?_
    refine g_getS (v := 1) C fX11_10 dX11_feed_31 kd_0 rfl ?_
    refine g_iload_n (q := 2) C dX11_feed_34 rfl rfl ?_
    refine g_cVv (As := [vI a1]) C clX11_91 clvX7_add dX11_feed_35 kd_1 rfl (Nat.le_of_ble_eq_true rfl) rfl (by decide) (t_X7_add (Cx.ok C) h) (fun M3 h => ?_)
    refine g_aload_n (q := 0) C dX11_feed_38 rfl rfl ?_
    refine g_getS (v := 1) C fX11_10 dX11_feed_39 kd_0 rfl ?_
    refine g_iload_n (q := 3) C dX11_feed_42 rfl rfl ?_
    refine g_cVv (As := [vI a2]) C clX11_91 clvX7_add dX11_feed_43 kd_1 rfl (Nat.le_of_ble_eq_true rfl) rfl (by decide) (t_X7_add (Cx.ok C) h) (fun M4 h => ?_)
    refine g_aload_n (q := 0) C dX11_feed_46 rfl rfl ?_
    refine g_getS (v := 1) C fX11_10 dX11_feed_47 kd_0 rfl ?_
    refine g_iload (q := 4) C dX11_feed_50 rfl ?_
    refine g_cVv (As := [vI a3]) C clX11_91 clvX7_add dX11_feed_52 kd_1 rfl (Nat.le_of_ble_eq_true rfl) rfl (by decide) (t_X7_add (Cx.ok C) h) (fun M5 h => ?_)
    refine g_aload_n (q := 0) C dX11_feed_55 rfl rfl ?_
    refine g_getS (v := 1) C fX11_10 dX11_feed_56 kd_0 rfl ?_
    refine g_iload (q := 5) C dX11_feed_59 rfl ?_
    refine g_cVv (As := [vI a4]) C clX11_91 clvX7_add dX11_feed_61 kd_1 rfl (Nat.le_of_ble_eq_true rfl) rfl (by decide) (t_X7_add (Cx.ok C) h) (fun M6 h => ?_)
    refine g_aload_n (q := 0) C dX11_feed_64 rfl rfl ?_
    refine g_getS (v := 1) C fX11_10 dX11_feed_65 kd_0 rfl ?_
    refine g_getI C fX11_84 (by decide) dX11_feed_68 kd_1 ?_
    exact g_reti C hR dX11_feed_71 h
  · have h := hf c
    refine g_aload_n (q := 0) C dX11_feed_16 rfl rfl ?_
    refine g_iconst C dX11_feed_17 rfl ?_
    refine g_cVi (As := [vI 0]) C clX11_87 clvX11_refuse dX11_feed_18 kd_0 rfl (Nat.le_of_ble_eq_true rfl) rfl (by decide) (t_X11_refuse (Cx.ok C) h) (fun r8 M7 h => ?_)
    exact g_reti C hR dX11_feed_21 h
set_option maxRecDepth 20000 in
theorem t_X11_deny {l : Launch} {Y : YT} (hY : YOK Y) {a0 : Int} {M : Mem} {Q : Int → Mem → Prop} (h : m_X11_deny a0 M Q) : Ctr l Y yX11_deny cX11_deny 2 (some .boolean) 1 [vR Y 0, vI a0] M (PQi Y Q) := by
  unfold m_X11_deny at h
  refine ctr_ofF hY (by decide +kernel) (Nat.le_of_ble_eq_true rfl) [(0, vR Y 0), (1, vI a0)] rfl (fun X hX C hR => ?_)
  refine g_aload_n (q := 0) C dX11_deny_0 rfl rfl ?_
  refine g_getS (v := 198) C fX11_76 dX11_deny_1 kd_0 rfl ?_
  refine g_iload_n (q := 1) C dX11_deny_4 rfl rfl ?_
  refine g_dup2 C dX11_deny_5 rfl rfl ?_
  obtain ⟨g1, h⟩ := h
  refine g_iald C dX11_deny_6 kd_198 ln_198 g1 ?_
  refine g_iconst C dX11_deny_7 rfl ?_
  refine g_iadd C dX11_deny_8 ?_
  obtain ⟨g2, h⟩ := h
  obtain ⟨M3, e_M3⟩ : ∃ z : Mem, z = up M 198 a0 ((M 198 a0) + 1) := ⟨_, rfl⟩
  have h := h M3 e_M3
  refine g_iast C dX11_deny_9 kd_198 ln_198 g2 e_M3 ?_
  refine g_iconst C dX11_deny_10 rfl ?_
  exact g_retz C hR dX11_deny_11 (by decide) h
set_option maxRecDepth 20000 in
theorem w_X11_end_J15 {Y : YT} {X : CX} (C : Cx Y X cX11_end 2 RX11 2) {Q : Int → Mem → Prop} (hR : Rt Y X (some .boolean) (PQi Y Q))   {M : Mem}  (h : m_X11_end_J15  Q  M) : G Y X 2 15 [(0, vR Y 0)] ([]) M := by
  unfold m_X11_end_J15 at h
  refine g_aload_n (q := 0) C dX11_end_15 rfl rfl ?_
  refine g_iconst C dX11_end_16 rfl ?_
  refine g_cVi (As := [vI 0]) C clX11_95 clvX11_deny dX11_end_17 kd_0 rfl (Nat.le_of_ble_eq_true rfl) rfl (by decide) (t_X11_deny (Cx.ok C) h) (fun r2 M1 h => ?_)
  obtain ⟨g3, h⟩ := h
  exact g_retz C hR dX11_end_20 g3 h
set_option maxRecDepth 20000 in
theorem t_X11_end {l : Launch} {Y : YT} (hY : YOK Y) {a0 : Int} {M : Mem} {Q : Int → Mem → Prop} (h : m_X11_end a0 M Q) : Ctr l Y yX11_end cX11_end 2 (some .boolean) 2 [vR Y 0, vI a0] M (PQi Y Q) := by
  unfold m_X11_end at h
  refine ctr_ofF hY (by decide +kernel) (Nat.le_of_ble_eq_true rfl) [(0, vR Y 0), (1, vI a0)] rfl (fun X hX C hR => ?_)
  refine g_iload_n (q := 1) C dX11_end_0 rfl rfl ?_
  obtain ⟨g4, h⟩ := h
  obtain ⟨ht, hf⟩ := h
  refine g_if_lt (tgt := 15) C dX11_end_1 (by decide) g4 (fun c => ?_) (fun c => ?_)
  · have h := ht c
    refine G.sub [0] rfl ?_
    exact w_X11_end_J15 C hR  h
  · have h := hf c
    refine g_iload_n (q := 1) C dX11_end_4 rfl rfl ?_
    refine g_aload_n (q := 0) C dX11_end_5 rfl rfl ?_
    refine g_getS (v := 1) C fX11_10 dX11_end_6 kd_0 rfl ?_
    refine g_getI C fX11_84 (by decide) dX11_end_9 kd_1 ?_
    obtain ⟨g5, h⟩ := h
    obtain ⟨g6, h⟩ := h
    obtain ⟨ht, hf⟩ := h
    refine g_icmp_le (tgt := 21) C dX11_end_12 (by decide) g5 g6 (fun c => ?_) (fun c => ?_)
    · have h := ht c
      refine g_aload_n (q := 0) C dX11_end_21 rfl rfl ?_
      refine g_getS (v := 1) C fX11_10 dX11_end_22 kd_0 rfl ?_
      refine g_iload_n (q := 1) C dX11_end_25 rfl rfl ?_
      obtain ⟨M7, e_M7⟩ : ∃ z : Mem, z = up M 1 1 a0 := ⟨_, rfl⟩
      have h := h M7 e_M7
      refine g_putI C fX11_84 pX11_84 dX11_end_26 kd_1 e_M7 ?_
      refine g_iconst C dX11_end_29 rfl ?_
      exact g_retz C hR dX11_end_30 (by decide) h
    · have h := hf c
      refine G.sub [0] rfl ?_
      exact w_X11_end_J15 C hR  h
set_option maxRecDepth 20000 in
theorem t_X11_town {l : Launch} {Y : YT} (hY : YOK Y) {M : Mem} {Q : Int → Mem → Prop} (h : m_X11_town  M Q) : Ctr l Y yX11_town cX11_town 3 (some .int) 69 [vR Y 0] M (PQi Y Q) := by
  unfold m_X11_town at h
  refine ctr_ofF hY (by decide +kernel) (Nat.le_of_ble_eq_true rfl) [(0, vR Y 0)] rfl (fun X hX C hR => ?_)
  refine g_aload_n (q := 0) C dX11_town_0 rfl rfl ?_
  refine g_getS (v := 4) C fX11_21 dX11_town_1 kd_0 rfl ?_
  refine g_aload_n (q := 0) C dX11_town_4 rfl rfl ?_
  obtain ⟨g1, h⟩ := h
  refine g_getM C fX11_32 dX11_town_5 kd_0 (kd_in g1 (by decide)).1 ?_
  refine g_cVi (As := [vR Y (M 0 3)]) C clX11_99 clvX9_read dX11_town_8 kd_4 rfl (Nat.le_of_ble_eq_true rfl) rfl (by decide) (t_X9_read (Cx.ok C) h) (fun r3 M2 h => ?_)
  refine g_istore_n (lv' := [(1, vI r3), (0, vR Y 0)]) C dX11_town_11 rfl (by decide) rfl ?_
  refine g_aload_n (q := 1) C dX11_town_12 rfl rfl ?_
  refine g_getS (v := 1) C fX11_10 dX11_town_13 kd_0 rfl ?_
  refine g_iconst C dX11_town_16 rfl ?_
  obtain ⟨M4, e_M4⟩ : ∃ z : Mem, z = up M2 1 1 0 := ⟨_, rfl⟩
  have h := h M4 e_M4
  refine g_putI C fX11_84 pX11_84 dX11_town_17 kd_1 e_M4 ?_
  refine g_iload_n (q := 0) C dX11_town_20 rfl rfl ?_
  refine g_iconst C dX11_town_21 rfl ?_
  obtain ⟨g5, h⟩ := h
  obtain ⟨ht, hf⟩ := h
  refine g_icmp_ne (tgt := 31) C dX11_town_22 (by decide) g5 (by decide) (fun c => ?_) (fun c => ?_)
  · have h := hf c
    refine g_aload_n (q := 1) C dX11_town_31 rfl rfl ?_
    obtain ⟨g6, h⟩ := h
    refine g_getM C fX11_28 dX11_town_32 kd_0 (kd_in g6 (by decide)).1 ?_
    refine g_astore_n (lv' := [(2, vR Y (M4 0 2)), (1, vI r3), (0, vR Y 0)]) C dX11_town_35 rfl (by decide) rfl ?_
    refine g_aload_n (q := 2) C dX11_town_36 rfl rfl ?_
    refine g_aload_n (q := 2) C dX11_town_37 rfl rfl ?_
    obtain ⟨g7, h⟩ := h
    refine g_getM C fX11_32 dX11_town_38 kd_0 (kd_in g7 (by decide)).1 ?_
    obtain ⟨M8, e_M8⟩ : ∃ z : Mem, z = up M4 0 2 (M4 0 3) := ⟨_, rfl⟩
    have h := h M8 e_M8
    refine g_putM C fX11_28 pX11_28 dX11_town_41 kd_0 (kd_in g7 (by decide)).1 e_M8 ?_
    refine g_aload_n (q := 2) C dX11_town_44 rfl rfl ?_
    refine g_aload_n (q := 0) C dX11_town_45 rfl rfl ?_
    obtain ⟨M9, e_M9⟩ : ∃ z : Mem, z = up M8 0 3 (M4 0 2) := ⟨_, rfl⟩
    have h := h M9 e_M9
    refine g_putM C fX11_32 pX11_32 dX11_town_46 kd_0 (kd_in g6 (by decide)).1 e_M9 ?_
    refine g_aload_n (q := 2) C dX11_town_49 rfl rfl ?_
    refine g_getS (v := 40) C fX11_38 dX11_town_50 kd_0 rfl ?_
    refine g_aload_n (q := 2) C dX11_town_53 rfl rfl ?_
    obtain ⟨g10, h⟩ := h
    refine g_getM C fX11_28 dX11_town_54 kd_0 (kd_in g10 (by decide)).1 ?_
    refine g_cVv (As := [vR Y (M9 0 2)]) C clX11_103 clvX6_beginIn dX11_town_57 kd_40 rfl (Nat.le_of_ble_eq_true rfl) rfl (by decide) (t_X6_beginIn (Cx.ok C) h) (fun M11 h => ?_)
    refine g_aload_n (q := 2) C dX11_town_60 rfl rfl ?_
    refine g_getS (v := 62) C fX11_58 dX11_town_61 kd_0 rfl ?_
    refine g_cVv (As := []) C clX11_107 clvX3_forget dX11_town_64 kd_62 rfl (Nat.le_of_ble_eq_true rfl) rfl (by decide) (t_X3_forget (Cx.ok C) h) (fun M12 h => ?_)
    refine g_aload_n (q := 2) C dX11_town_67 rfl rfl ?_
    refine g_getS (v := 187) C fX11_72 dX11_town_68 kd_0 rfl ?_
    refine g_iconst C dX11_town_71 rfl ?_
    obtain ⟨M13, e_M13⟩ : ∃ z : Mem, z = up M12 187 1 0 := ⟨_, rfl⟩
    have h := h M13 e_M13
    refine g_putI C fX11_110 pX11_110 dX11_town_72 kd_187 e_M13 ?_
    refine g_aload_n (q := 2) C dX11_town_75 rfl rfl ?_
    refine g_iconst C dX11_town_76 rfl ?_
    obtain ⟨M14, e_M14⟩ : ∃ z : Mem, z = up M13 0 8 0 := ⟨_, rfl⟩
    have h := h M14 e_M14
    refine g_putZ C fX11_113 pX11_113 dX11_town_77 kd_0 (by decide) e_M14 ?_
    refine g_iload_n (q := 1) C dX11_town_80 rfl rfl ?_
    exact g_reti C hR dX11_town_81 h
  · have h := ht c
    refine g_aload_n (q := 1) C dX11_town_25 rfl rfl ?_
    refine g_iconst C dX11_town_26 rfl ?_
    refine g_cVi (As := [vI 1]) C clX11_87 clvX11_refuse dX11_town_27 kd_0 rfl (Nat.le_of_ble_eq_true rfl) rfl (by decide) (t_X11_refuse (Cx.ok C) h) (fun r16 M15 h => ?_)
    exact g_reti C hR dX11_town_30 h
set_option maxRecDepth 20000 in
theorem t_X11_fault {l : Launch} {Y : YT} (hY : YOK Y) {a0 : Int} {M : Mem} {Q : Int → Mem → Prop} (h : m_X11_fault a0 M Q) : Ctr l Y yX11_fault cX11_fault 2 (some .int) 1 [vR Y 0, vI a0] M (PQi Y Q) := by
  unfold m_X11_fault at h
  refine ctr_ofF hY (by decide +kernel) (Nat.le_of_ble_eq_true rfl) [(0, vR Y 0), (1, vI a0)] rfl (fun X hX C hR => ?_)
  refine g_iload_n (q := 1) C dX11_fault_0 rfl rfl ?_
  obtain ⟨g1, h⟩ := h
  refine G.nmI (x := a0) rfl ?_
  obtain ⟨c0, c1, c2⟩ := h
  rcases (show (a0 = 0) ∨ (a0 = 1) ∨ (¬ a0 = 0 ∧ ¬ a0 = 1) by omega) with q | q | q
  · have h := c0 q
    refine g_lsw (off := 27) (tgt := 28) C dX11_fault_1 (by decide) g1 (by rw [q]; decide) (by decide) ?_
    refine g_aload_n (q := 0) C dX11_fault_28 rfl rfl ?_
    refine g_getS (v := 1) C fX11_10 dX11_fault_29 kd_0 rfl ?_
    refine g_getI C fX11_117 (by decide) dX11_fault_32 kd_1 ?_
    exact g_reti C hR dX11_fault_35 h
  · have h := c1 q
    refine g_lsw (off := 35) (tgt := 36) C dX11_fault_1 (by decide) g1 (by rw [q]; decide) (by decide) ?_
    refine g_aload_n (q := 0) C dX11_fault_36 rfl rfl ?_
    refine g_getS (v := 1) C fX11_10 dX11_fault_37 kd_0 rfl ?_
    refine g_getI C fX11_120 (by decide) dX11_fault_40 kd_1 ?_
    exact g_reti C hR dX11_fault_43 h
  · have h := c2 q
    refine g_lsw (off := 43) (tgt := 44) C dX11_fault_1 (by decide) g1 (by simp [Op.lookupswitch.offset]; omega) (by decide) ?_
    refine g_iconst C dX11_fault_44 rfl ?_
    exact g_reti C hR dX11_fault_45 h
set_option maxRecDepth 20000 in
theorem w_X11_thisDay_J27 {Y : YT} {X : CX} (C : Cx Y X cX11_thisDay 1 RX11 7) {Q : Int → Mem → Prop} (hR : Rt Y X (some (.object "SilentReel$Walk")) (PQr Y Q))   {M : Mem}  (h : m_X11_thisDay_J27  Q  M) : G Y X 1 27 [(0, vR Y 0)] ([]) M := by
  unfold m_X11_thisDay_J27 at h
  refine g_aload_n (q := 0) C dX11_thisDay_27 rfl rfl ?_
  refine g_getS (v := 52) C fX11_48 dX11_thisDay_28 kd_0 rfl ?_
  exact g_retr C hR dX11_thisDay_31 h
set_option maxRecDepth 20000 in
theorem t_X11_thisDay {l : Launch} {Y : YT} (hY : YOK Y) {M : Mem} {Q : Int → Mem → Prop} (h : m_X11_thisDay  M Q) : Ctr l Y yX11_thisDay cX11_thisDay 1 (some (.object "SilentReel$Walk")) 7 [vR Y 0] M (PQr Y Q) := by
  unfold m_X11_thisDay at h
  refine ctr_ofF hY (by decide +kernel) (Nat.le_of_ble_eq_true rfl) [(0, vR Y 0)] rfl (fun X hX C hR => ?_)
  refine g_aload_n (q := 0) C dX11_thisDay_0 rfl rfl ?_
  refine g_getI C fX11_113 (by decide) dX11_thisDay_1 kd_0 ?_
  obtain ⟨g1, h⟩ := h
  obtain ⟨ht, hf⟩ := h
  refine g_if_ne (tgt := 27) C dX11_thisDay_4 (by decide) g1 (fun c => ?_) (fun c => ?_)
  · have h := hf c
    refine G.sub [0] rfl ?_
    exact w_X11_thisDay_J27 C hR  h
  · have h := ht c
    refine g_aload_n (q := 0) C dX11_thisDay_7 rfl rfl ?_
    refine g_getS (v := 52) C fX11_48 dX11_thisDay_8 kd_0 rfl ?_
    refine g_aload_n (q := 0) C dX11_thisDay_11 rfl rfl ?_
    obtain ⟨g2, h⟩ := h
    refine g_getM C fX11_28 dX11_thisDay_12 kd_0 (kd_in g2 (by decide)).1 ?_
    refine g_aload_n (q := 0) C dX11_thisDay_15 rfl rfl ?_
    refine g_getS (v := 40) C fX11_38 dX11_thisDay_16 kd_0 rfl ?_
    refine g_cVv (As := [vR Y (M 0 2), vR Y 40]) C clX11_232 clvX10_goThrough dX11_thisDay_19 kd_52 rfl (Nat.le_of_ble_eq_true rfl) rfl (by decide) (t_X10_goThrough (Cx.ok C) h) (fun M3 h => ?_)
    refine g_aload_n (q := 0) C dX11_thisDay_22 rfl rfl ?_
    refine g_iconst C dX11_thisDay_23 rfl ?_
    obtain ⟨M4, e_M4⟩ : ∃ z : Mem, z = up M3 0 8 1 := ⟨_, rfl⟩
    have h := h M4 e_M4
    refine g_putZ C fX11_113 pX11_113 dX11_thisDay_24 kd_0 (by decide) e_M4 ?_
    refine G.sub [0] rfl ?_
    exact w_X11_thisDay_J27 C hR  h
set_option maxRecDepth 20000 in
theorem t_X11_told {l : Launch} {Y : YT} (hY : YOK Y) {M : Mem} {Q : Int → Mem → Prop} (h : m_X11_told  M Q) : Ctr l Y yX11_told cX11_told 1 (some .int) 2 [vR Y 0] M (PQi Y Q) := by
  unfold m_X11_told at h
  refine ctr_ofF hY (by decide +kernel) (Nat.le_of_ble_eq_true rfl) [(0, vR Y 0)] rfl (fun X hX C hR => ?_)
  refine g_aload_n (q := 0) C dX11_told_0 rfl rfl ?_
  refine g_getS (v := 40) C fX11_38 dX11_told_1 kd_0 rfl ?_
  refine g_getI C fX11_306 (by decide) dX11_told_4 kd_40 ?_
  refine g_bipush (v := 40) C dX11_told_7 (by decide +kernel) ?_
  refine g_cSi (As := [vI (M 40 4), vI 40]) C clX11_322 clsJ9_min_7cf53 dX11_told_9 rfl (Nat.le_of_ble_eq_true rfl) rfl (by decide) (t_J9_min_7cf53 (Cx.ok C) h) (fun r2 M1 h => ?_)
  exact g_reti C hR dX11_told_12 h
set_option maxRecDepth 20000 in
theorem t_X11_has {l : Launch} {Y : YT} (hY : YOK Y) {a0 : Int} {M : Mem} {Q : Int → Mem → Prop} (h : m_X11_has a0 M Q) : Ctr l Y yX11_has cX11_has 2 (some .int) 8 [vR Y 0, vI a0] M (PQi Y Q) := by
  unfold m_X11_has at h
  refine ctr_ofF hY (by decide +kernel) (Nat.le_of_ble_eq_true rfl) [(0, vR Y 0), (1, vI a0)] rfl (fun X hX C hR => ?_)
  refine g_iload_n (q := 1) C dX11_has_0 rfl rfl ?_
  obtain ⟨g1, h⟩ := h
  refine G.nmI (x := a0) rfl ?_
  obtain ⟨c0, c1, c2, c3, c4, c5, c6, c7, c8, c9, c10, c11⟩ := h
  rcases (show (a0 = 0) ∨ (a0 = 1) ∨ (a0 = 2) ∨ (a0 = 3) ∨ (a0 = 4) ∨ (a0 = 5) ∨ (a0 = 6) ∨ (a0 = 7) ∨ (a0 = 8) ∨ (a0 = 9) ∨ (a0 = 10) ∨ (a0 < 0 ∨ 10 < a0) by omega) with q | q | q | q | q | q | q | q | q | q | q | q
  · have h := c0 q
    refine g_tswIn (off := 59) (tgt := 60) C dX11_has_1 g1 (by omega) (by omega) (by rw [q]; rfl) (by decide) ?_
    refine g_aload_n (q := 0) C dX11_has_60 rfl rfl ?_
    obtain ⟨g2, h⟩ := h
    refine g_getM C fX11_28 dX11_has_61 kd_0 (kd_in g2 (by decide)).1 ?_
    refine g_getI C fX11_123 (by decide) dX11_has_64 g2 ?_
    exact g_reti C hR dX11_has_67 h
  · have h := c1 q
    refine g_tswIn (off := 67) (tgt := 68) C dX11_has_1 g1 (by omega) (by omega) (by rw [q]; rfl) (by decide) ?_
    refine g_aload_n (q := 0) C dX11_has_68 rfl rfl ?_
    obtain ⟨g3, h⟩ := h
    refine g_getM C fX11_28 dX11_has_69 kd_0 (kd_in g3 (by decide)).1 ?_
    refine g_getI C fX11_126 (by decide) dX11_has_72 g3 ?_
    exact g_reti C hR dX11_has_75 h
  · have h := c2 q
    refine g_tswIn (off := 75) (tgt := 76) C dX11_has_1 g1 (by omega) (by omega) (by rw [q]; rfl) (by decide) ?_
    refine g_aload_n (q := 0) C dX11_has_76 rfl rfl ?_
    obtain ⟨g4, h⟩ := h
    refine g_getM C fX11_28 dX11_has_77 kd_0 (kd_in g4 (by decide)).1 ?_
    refine g_getI C fX11_129 (by decide) dX11_has_80 g4 ?_
    exact g_reti C hR dX11_has_83 h
  · have h := c3 q
    refine g_tswIn (off := 83) (tgt := 84) C dX11_has_1 g1 (by omega) (by omega) (by rw [q]; rfl) (by decide) ?_
    refine g_aload_n (q := 0) C dX11_has_84 rfl rfl ?_
    refine g_getS (v := 40) C fX11_38 dX11_has_85 kd_0 rfl ?_
    refine g_getI C fX11_132 (by decide) dX11_has_88 kd_40 ?_
    exact g_reti C hR dX11_has_91 h
  · have h := c4 q
    refine g_tswIn (off := 91) (tgt := 92) C dX11_has_1 g1 (by omega) (by omega) (by rw [q]; rfl) (by decide) ?_
    refine g_aload_n (q := 0) C dX11_has_92 rfl rfl ?_
    refine g_getS (v := 40) C fX11_38 dX11_has_93 kd_0 rfl ?_
    refine g_getS (v := 42) C fX11_135 dX11_has_96 kd_40 rfl ?_
    refine g_getI C fX11_139 (by decide) dX11_has_99 kd_42 ?_
    exact g_reti C hR dX11_has_102 h
  · have h := c5 q
    refine g_tswIn (off := 102) (tgt := 103) C dX11_has_1 g1 (by omega) (by omega) (by rw [q]; rfl) (by decide) ?_
    refine g_aload_n (q := 0) C dX11_has_103 rfl rfl ?_
    refine g_getS (v := 40) C fX11_38 dX11_has_104 kd_0 rfl ?_
    refine g_getI C fX11_144 (by decide) dX11_has_107 kd_40 ?_
    refine g_cSi (As := [vI (M 40 2)]) C clX11_147 clsJ6_bitCount_0f7a4 dX11_has_110 rfl (Nat.le_of_ble_eq_true rfl) rfl (by decide) (t_J6_bitCount_0f7a4 (Cx.ok C) h) (fun r6 M5 h => ?_)
    exact g_reti C hR dX11_has_113 h
  · have h := c6 q
    refine g_tswIn (off := 113) (tgt := 114) C dX11_has_1 g1 (by omega) (by omega) (by rw [q]; rfl) (by decide) ?_
    refine g_aload_n (q := 0) C dX11_has_114 rfl rfl ?_
    refine g_cVr (As := []) C clX11_152 clvX11_thisDay dX11_has_115 kd_0 rfl (Nat.le_of_ble_eq_true rfl) rfl (by decide) (t_X11_thisDay (Cx.ok C) h) (fun r8 M7 h => ?_)
    obtain ⟨hk_r8, h⟩ := h
    refine g_aload_n (q := 0) C dX11_has_118 rfl rfl ?_
    refine g_getS (v := 40) C fX11_38 dX11_has_119 kd_0 rfl ?_
    refine g_getS (v := 42) C fX11_135 dX11_has_122 kd_40 rfl ?_
    refine g_cVi (As := [vR Y 42]) C clX11_156 clvX10_trueOnes dX11_has_125 hk_r8 rfl (Nat.le_of_ble_eq_true rfl) rfl (by decide) (t_X10_trueOnes (Cx.ok C) h) (fun r10 M9 h => ?_)
    exact g_reti C hR dX11_has_128 h
  · have h := c7 q
    refine g_tswIn (off := 128) (tgt := 129) C dX11_has_1 g1 (by omega) (by omega) (by rw [q]; rfl) (by decide) ?_
    refine g_aload_n (q := 0) C dX11_has_129 rfl rfl ?_
    refine g_cVi (As := []) C clX11_160 clvX11_told dX11_has_130 kd_0 rfl (Nat.le_of_ble_eq_true rfl) rfl (by decide) (t_X11_told (Cx.ok C) h) (fun r12 M11 h => ?_)
    exact g_reti C hR dX11_has_133 h
  · have h := c8 q
    refine g_tswIn (off := 133) (tgt := 134) C dX11_has_1 g1 (by omega) (by omega) (by rw [q]; rfl) (by decide) ?_
    refine g_aload_n (q := 0) C dX11_has_134 rfl rfl ?_
    refine g_getS (v := 187) C fX11_72 dX11_has_135 kd_0 rfl ?_
    refine g_getI C fX11_110 (by decide) dX11_has_138 kd_187 ?_
    exact g_reti C hR dX11_has_141 h
  · have h := c9 q
    refine g_tswIn (off := 141) (tgt := 142) C dX11_has_1 g1 (by omega) (by omega) (by rw [q]; rfl) (by decide) ?_
    refine g_aload_n (q := 0) C dX11_has_142 rfl rfl ?_
    refine g_getS (v := 62) C fX11_58 dX11_has_143 kd_0 rfl ?_
    refine g_getI C fX11_164 (by decide) dX11_has_146 kd_62 ?_
    exact g_reti C hR dX11_has_149 h
  · have h := c10 q
    refine g_tswIn (off := 149) (tgt := 150) C dX11_has_1 g1 (by omega) (by omega) (by rw [q]; rfl) (by decide) ?_
    refine g_aload_n (q := 0) C dX11_has_150 rfl rfl ?_
    refine g_getI C fX11_80 (by decide) dX11_has_151 kd_0 ?_
    exact g_reti C hR dX11_has_154 h
  · have h := c11 q
    refine g_tswOut (tgt := 155) C dX11_has_1 g1 q (by decide) ?_
    refine g_iconst C dX11_has_155 rfl ?_
    exact g_reti C hR dX11_has_156 h
set_option maxRecDepth 20000 in
theorem w_X11_isPlace_J20 {Y : YT} {X : CX} (C : Cx Y X cX11_isPlace 2 RX11 1) {Q : Int → Mem → Prop} (hR : Rt Y X (some .boolean) (PQi Y Q)) {s0 : Int}  {M : Mem}  (h : m_X11_isPlace_J20  Q s0 M) : G Y X 2 20 [] ((vI s0) :: []) M := by
  unfold m_X11_isPlace_J20 at h
  obtain ⟨g1, h⟩ := h
  exact g_retz C hR dX11_isPlace_20 g1 h
set_option maxRecDepth 20000 in
theorem w_X11_isPlace_J19 {Y : YT} {X : CX} (C : Cx Y X cX11_isPlace 2 RX11 1) {Q : Int → Mem → Prop} (hR : Rt Y X (some .boolean) (PQi Y Q))   {M : Mem}  (h : m_X11_isPlace_J19  Q  M) : G Y X 2 19 [] ([]) M := by
  unfold m_X11_isPlace_J19 at h
  refine g_iconst C dX11_isPlace_19 rfl ?_
  refine G.sub [] rfl ?_
  exact w_X11_isPlace_J20 C hR  h
set_option maxRecDepth 20000 in
theorem t_X11_isPlace {l : Launch} {Y : YT} (hY : YOK Y) {a0 : Int} {M : Mem} {Q : Int → Mem → Prop} (h : m_X11_isPlace a0 M Q) : Ctr l Y yX11_isPlace cX11_isPlace 2 (some .boolean) 1 [vR Y 0, vI a0] M (PQi Y Q) := by
  unfold m_X11_isPlace at h
  refine ctr_ofF hY (by decide +kernel) (Nat.le_of_ble_eq_true rfl) [(0, vR Y 0), (1, vI a0)] rfl (fun X hX C hR => ?_)
  refine g_iload_n (q := 1) C dX11_isPlace_0 rfl rfl ?_
  obtain ⟨g2, h⟩ := h
  obtain ⟨ht, hf⟩ := h
  refine g_if_lt (tgt := 19) C dX11_isPlace_1 (by decide) g2 (fun c => ?_) (fun c => ?_)
  · have h := ht c
    refine G.sub [] rfl ?_
    exact w_X11_isPlace_J19 C hR  h
  · have h := hf c
    refine g_iload_n (q := 1) C dX11_isPlace_4 rfl rfl ?_
    refine g_aload_n (q := 0) C dX11_isPlace_5 rfl rfl ?_
    obtain ⟨g3, h⟩ := h
    refine g_getM C fX11_28 dX11_isPlace_6 kd_0 (kd_in g3 (by decide)).1 ?_
    refine g_getI C fX11_123 (by decide) dX11_isPlace_9 g3 ?_
    obtain ⟨g4, h⟩ := h
    obtain ⟨g5, h⟩ := h
    obtain ⟨ht, hf⟩ := h
    refine g_icmp_ge (tgt := 19) C dX11_isPlace_12 (by decide) g4 g5 (fun c => ?_) (fun c => ?_)
    · have h := ht c
      refine G.sub [] rfl ?_
      exact w_X11_isPlace_J19 C hR  h
    · have h := hf c
      refine g_iconst C dX11_isPlace_15 rfl ?_
      refine g_goto (tgt := 20) C dX11_isPlace_16 (by decide) ?_
      refine G.sub [] rfl ?_
      exact w_X11_isPlace_J20 C hR  h
set_option maxRecDepth 20000 in
theorem w_X11_isPerson_J20 {Y : YT} {X : CX} (C : Cx Y X cX11_isPerson 2 RX11 1) {Q : Int → Mem → Prop} (hR : Rt Y X (some .boolean) (PQi Y Q)) {s0 : Int}  {M : Mem}  (h : m_X11_isPerson_J20  Q s0 M) : G Y X 2 20 [] ((vI s0) :: []) M := by
  unfold m_X11_isPerson_J20 at h
  obtain ⟨g1, h⟩ := h
  exact g_retz C hR dX11_isPerson_20 g1 h
set_option maxRecDepth 20000 in
theorem w_X11_isPerson_J19 {Y : YT} {X : CX} (C : Cx Y X cX11_isPerson 2 RX11 1) {Q : Int → Mem → Prop} (hR : Rt Y X (some .boolean) (PQi Y Q))   {M : Mem}  (h : m_X11_isPerson_J19  Q  M) : G Y X 2 19 [] ([]) M := by
  unfold m_X11_isPerson_J19 at h
  refine g_iconst C dX11_isPerson_19 rfl ?_
  refine G.sub [] rfl ?_
  exact w_X11_isPerson_J20 C hR  h
set_option maxRecDepth 20000 in
theorem t_X11_isPerson {l : Launch} {Y : YT} (hY : YOK Y) {a0 : Int} {M : Mem} {Q : Int → Mem → Prop} (h : m_X11_isPerson a0 M Q) : Ctr l Y yX11_isPerson cX11_isPerson 2 (some .boolean) 1 [vR Y 0, vI a0] M (PQi Y Q) := by
  unfold m_X11_isPerson at h
  refine ctr_ofF hY (by decide +kernel) (Nat.le_of_ble_eq_true rfl) [(0, vR Y 0), (1, vI a0)] rfl (fun X hX C hR => ?_)
  refine g_iload_n (q := 1) C dX11_isPerson_0 rfl rfl ?_
  obtain ⟨g2, h⟩ := h
  obtain ⟨ht, hf⟩ := h
  refine g_if_lt (tgt := 19) C dX11_isPerson_1 (by decide) g2 (fun c => ?_) (fun c => ?_)
  · have h := ht c
    refine G.sub [] rfl ?_
    exact w_X11_isPerson_J19 C hR  h
  · have h := hf c
    refine g_iload_n (q := 1) C dX11_isPerson_4 rfl rfl ?_
    refine g_aload_n (q := 0) C dX11_isPerson_5 rfl rfl ?_
    obtain ⟨g3, h⟩ := h
    refine g_getM C fX11_28 dX11_isPerson_6 kd_0 (kd_in g3 (by decide)).1 ?_
    refine g_getI C fX11_129 (by decide) dX11_isPerson_9 g3 ?_
    obtain ⟨g4, h⟩ := h
    obtain ⟨g5, h⟩ := h
    obtain ⟨ht, hf⟩ := h
    refine g_icmp_ge (tgt := 19) C dX11_isPerson_12 (by decide) g4 g5 (fun c => ?_) (fun c => ?_)
    · have h := ht c
      refine G.sub [] rfl ?_
      exact w_X11_isPerson_J19 C hR  h
    · have h := hf c
      refine g_iconst C dX11_isPerson_15 rfl ?_
      refine g_goto (tgt := 20) C dX11_isPerson_16 (by decide) ?_
      refine G.sub [] rfl ?_
      exact w_X11_isPerson_J20 C hR  h
set_option maxRecDepth 20000 in
theorem w_X11_letter_J65 {Y : YT} {X : CX} (C : Cx Y X cX11_letter 4 RX11 2) {Q : Int → Mem → Prop} (hR : Rt Y X (some .int) (PQi Y Q))   {M : Mem}  (h : m_X11_letter_J65  Q  M) : G Y X 4 65 [] ([]) M := by
  unfold m_X11_letter_J65 at h
  refine g_iconst C dX11_letter_65 rfl ?_
  exact g_reti C hR dX11_letter_66 h
set_option maxRecDepth 20000 in
theorem w_X11_letter_J38 {Y : YT} {X : CX} (C : Cx Y X cX11_letter 4 RX11 2) {Q : Int → Mem → Prop} (hR : Rt Y X (some .int) (PQi Y Q)) {v1 : Int} {v2 : Int} {v3 : Int}  {M : Mem}  (h : m_X11_letter_J38  Q v1 v2 v3 M) : G Y X 4 38 [(0, vR Y 0), (1, vI v1), (2, vI v2), (3, vI v3)] ([]) M := by
  unfold m_X11_letter_J38 at h
  refine g_iload_n (q := 1) C dX11_letter_38 rfl rfl ?_
  refine g_iconst C dX11_letter_39 rfl ?_
  obtain ⟨g1, h⟩ := h
  obtain ⟨ht, hf⟩ := h
  refine g_icmp_ne (tgt := 65) C dX11_letter_40 (by decide) g1 (by decide) (fun c => ?_) (fun c => ?_)
  · have h := hf c
    refine G.sub [] rfl ?_
    exact w_X11_letter_J65 C hR  h
  · have h := ht c
    refine g_aload_n (q := 0) C dX11_letter_43 rfl rfl ?_
    refine g_iload_n (q := 2) C dX11_letter_44 rfl rfl ?_
    refine g_cVi (As := [vI v2]) C clX11_177 clvX11_isPerson dX11_letter_45 kd_0 rfl (Nat.le_of_ble_eq_true rfl) rfl (by decide) (t_X11_isPerson (Cx.ok C) h) (fun r3 M2 h => ?_)
    obtain ⟨g4, h⟩ := h
    obtain ⟨ht, hf⟩ := h
    refine g_if_eq (tgt := 65) C dX11_letter_48 (by decide) g4 (fun c => ?_) (fun c => ?_)
    · have h := ht c
      refine G.sub [] rfl ?_
      exact w_X11_letter_J65 C hR  h
    · have h := hf c
      refine g_aload_n (q := 0) C dX11_letter_51 rfl rfl ?_
      obtain ⟨g5, h⟩ := h
      refine g_getM C fX11_28 dX11_letter_52 kd_0 (kd_in g5 (by decide)).1 ?_
      refine g_getS (v := (M2 0 2) + 4) C fX11_180 dX11_letter_55 g5 rfl ?_
      refine g_iload_n (q := 2) C dX11_letter_58 rfl rfl ?_
      obtain ⟨g6, h⟩ := h
      refine g_iald C dX11_letter_59 (sub_8_6 g5).1 (sub_8_6 g5).2 g6 ?_
      refine g_iload_n (q := 3) C dX11_letter_60 rfl rfl ?_
      refine g_cSi (As := [vI (M2 ((M2 0 2) + 4) v2), vI v3]) C clX11_173 clsX7_letterOf dX11_letter_61 rfl (Nat.le_of_ble_eq_true rfl) rfl (by decide) (t_X7_letterOf (Cx.ok C) h) (fun r8 M7 h => ?_)
      exact g_reti C hR dX11_letter_64 h
set_option maxRecDepth 20000 in
theorem w_X11_letter_J10 {Y : YT} {X : CX} (C : Cx Y X cX11_letter 4 RX11 2) {Q : Int → Mem → Prop} (hR : Rt Y X (some .int) (PQi Y Q))   {M : Mem}  (h : m_X11_letter_J10  Q  M) : G Y X 4 10 [] ([]) M := by
  unfold m_X11_letter_J10 at h
  refine g_iconst C dX11_letter_10 rfl ?_
  exact g_reti C hR dX11_letter_11 h
set_option maxRecDepth 20000 in
theorem t_X11_letter {l : Launch} {Y : YT} (hY : YOK Y) {a0 : Int} {a1 : Int} {a2 : Int} {M : Mem} {Q : Int → Mem → Prop} (h : m_X11_letter a0 a1 a2 M Q) : Ctr l Y yX11_letter cX11_letter 4 (some .int) 2 [vR Y 0, vI a0, vI a1, vI a2] M (PQi Y Q) := by
  unfold m_X11_letter at h
  refine ctr_ofF hY (by decide +kernel) (Nat.le_of_ble_eq_true rfl) [(0, vR Y 0), (1, vI a0), (2, vI a1), (3, vI a2)] rfl (fun X hX C hR => ?_)
  refine g_iload_n (q := 3) C dX11_letter_0 rfl rfl ?_
  obtain ⟨g9, h⟩ := h
  obtain ⟨ht, hf⟩ := h
  refine g_if_lt (tgt := 10) C dX11_letter_1 (by decide) g9 (fun c => ?_) (fun c => ?_)
  · have h := ht c
    refine G.sub [] rfl ?_
    exact w_X11_letter_J10 C hR  h
  · have h := hf c
    refine g_iload_n (q := 3) C dX11_letter_4 rfl rfl ?_
    refine g_bipush (v := 6) C dX11_letter_5 (by decide +kernel) ?_
    obtain ⟨g10, h⟩ := h
    obtain ⟨ht, hf⟩ := h
    refine g_icmp_lt (tgt := 12) C dX11_letter_7 (by decide) g10 (by decide) (fun c => ?_) (fun c => ?_)
    · have h := ht c
      refine g_iload_n (q := 1) C dX11_letter_12 rfl rfl ?_
      obtain ⟨g11, h⟩ := h
      obtain ⟨ht, hf⟩ := h
      refine g_if_ne (tgt := 38) C dX11_letter_13 (by decide) g11 (fun c => ?_) (fun c => ?_)
      · have h := hf c
        refine G.sub [0, 1, 2, 3] rfl ?_
        exact w_X11_letter_J38 C hR  h
      · have h := ht c
        refine g_aload_n (q := 0) C dX11_letter_16 rfl rfl ?_
        refine g_iload_n (q := 2) C dX11_letter_17 rfl rfl ?_
        refine g_cVi (As := [vI a1]) C clX11_167 clvX11_isPlace dX11_letter_18 kd_0 rfl (Nat.le_of_ble_eq_true rfl) rfl (by decide) (t_X11_isPlace (Cx.ok C) h) (fun r13 M12 h => ?_)
        obtain ⟨g14, h⟩ := h
        obtain ⟨ht, hf⟩ := h
        refine g_if_eq (tgt := 38) C dX11_letter_21 (by decide) g14 (fun c => ?_) (fun c => ?_)
        · have h := ht c
          refine G.sub [0, 1, 2, 3] rfl ?_
          exact w_X11_letter_J38 C hR  h
        · have h := hf c
          refine g_aload_n (q := 0) C dX11_letter_24 rfl rfl ?_
          obtain ⟨g15, h⟩ := h
          refine g_getM C fX11_28 dX11_letter_25 kd_0 (kd_in g15 (by decide)).1 ?_
          refine g_getS (v := (M12 0 2) + 1) C fX11_170 dX11_letter_28 g15 rfl ?_
          refine g_iload_n (q := 2) C dX11_letter_31 rfl rfl ?_
          obtain ⟨g16, h⟩ := h
          refine g_iald C dX11_letter_32 (sub_8_1 g15).1 (sub_8_1 g15).2 g16 ?_
          refine g_iload_n (q := 3) C dX11_letter_33 rfl rfl ?_
          refine g_cSi (As := [vI (M12 ((M12 0 2) + 1) a1), vI a2]) C clX11_173 clsX7_letterOf dX11_letter_34 rfl (Nat.le_of_ble_eq_true rfl) rfl (by decide) (t_X7_letterOf (Cx.ok C) h) (fun r18 M17 h => ?_)
          exact g_reti C hR dX11_letter_37 h
    · have h := hf c
      refine G.sub [] rfl ?_
      exact w_X11_letter_J10 C hR  h
