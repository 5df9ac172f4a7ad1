theorem dX12_reads_0 : decode cX12_reads 0 = .ok (.aload_n 0, 1) := by decide +kernel
theorem dX12_reads_1 : decode cX12_reads 1 = .ok (.getfield 36, 3) := by decide +kernel
theorem dX12_reads_4 : decode cX12_reads 4 = .ok (.ifCond .le 4, 3) := by decide +kernel
theorem dX12_reads_7 : decode cX12_reads 7 = .ok (.return_, 1) := by decide +kernel
theorem dX12_reads_8 : decode cX12_reads 8 = .ok (.aload_n 0, 1) := by decide +kernel
theorem dX12_reads_9 : decode cX12_reads 9 = .ok (.iconst 0, 1) := by decide +kernel
theorem dX12_reads_10 : decode cX12_reads 10 = .ok (.putfield 138, 3) := by decide +kernel
theorem dX12_reads_13 : decode cX12_reads 13 = .ok (.aload_n 0, 1) := by decide +kernel
theorem dX12_reads_14 : decode cX12_reads 14 = .ok (.iconst 0, 1) := by decide +kernel
theorem dX12_reads_15 : decode cX12_reads 15 = .ok (.putfield 141, 3) := by decide +kernel
theorem dX12_reads_18 : decode cX12_reads 18 = .ok (.aload_n 0, 1) := by decide +kernel
theorem dX12_reads_19 : decode cX12_reads 19 = .ok (.iconst 0, 1) := by decide +kernel
theorem dX12_reads_20 : decode cX12_reads 20 = .ok (.putfield 147, 3) := by decide +kernel
theorem dX12_reads_23 : decode cX12_reads 23 = .ok (.aload_n 0, 1) := by decide +kernel
theorem dX12_reads_24 : decode cX12_reads 24 = .ok (.iconst 0, 1) := by decide +kernel
theorem dX12_reads_25 : decode cX12_reads 25 = .ok (.putfield 150, 3) := by decide +kernel
theorem dX12_reads_28 : decode cX12_reads 28 = .ok (.aload_n 0, 1) := by decide +kernel
theorem dX12_reads_29 : decode cX12_reads 29 = .ok (.iload_n 1, 1) := by decide +kernel
theorem dX12_reads_30 : decode cX12_reads 30 = .ok (.ifCond .eq 7, 3) := by decide +kernel
theorem dX12_reads_33 : decode cX12_reads 33 = .ok (.iconst 1, 1) := by decide +kernel
theorem dX12_reads_34 : decode cX12_reads 34 = .ok (.goto 4, 3) := by decide +kernel
theorem dX12_reads_37 : decode cX12_reads 37 = .ok (.iconst 0, 1) := by decide +kernel
theorem dX12_reads_38 : decode cX12_reads 38 = .ok (.invokevirtual 310, 3) := by decide +kernel
theorem dX12_reads_41 : decode cX12_reads 41 = .ok (.iconst 1, 1) := by decide +kernel
theorem dX12_reads_42 : decode cX12_reads 42 = .ok (.istore_n 2, 1) := by decide +kernel
theorem dX12_reads_43 : decode cX12_reads 43 = .ok (.iload_n 2, 1) := by decide +kernel
theorem dX12_reads_44 : decode cX12_reads 44 = .ok (.ifCond .eq 46, 3) := by decide +kernel
theorem dX12_reads_47 : decode cX12_reads 47 = .ok (.aload_n 0, 1) := by decide +kernel
theorem dX12_reads_48 : decode cX12_reads 48 = .ok (.getfield 150, 3) := by decide +kernel
theorem dX12_reads_51 : decode cX12_reads 51 = .ok (.ifCond .ne 14, 3) := by decide +kernel
theorem dX12_reads_54 : decode cX12_reads 54 = .ok (.aload_n 0, 1) := by decide +kernel
theorem dX12_reads_55 : decode cX12_reads 55 = .ok (.aload_n 0, 1) := by decide +kernel
theorem dX12_reads_56 : decode cX12_reads 56 = .ok (.invokevirtual 329, 3) := by decide +kernel
theorem dX12_reads_59 : decode cX12_reads 59 = .ok (.putfield 150, 3) := by decide +kernel
theorem dX12_reads_62 : decode cX12_reads 62 = .ok (.goto 8, 3) := by decide +kernel
theorem dX12_reads_65 : decode cX12_reads 65 = .ok (.aload_n 0, 1) := by decide +kernel
theorem dX12_reads_66 : decode cX12_reads 66 = .ok (.invokevirtual 332, 3) := by decide +kernel
theorem dX12_reads_69 : decode cX12_reads 69 = .ok (.istore_n 2, 1) := by decide +kernel
theorem dX12_reads_70 : decode cX12_reads 70 = .ok (.iload_n 2, 1) := by decide +kernel
theorem dX12_reads_71 : decode cX12_reads 71 = .ok (.ifCond .eq 14, 3) := by decide +kernel
theorem dX12_reads_74 : decode cX12_reads 74 = .ok (.aload_n 0, 1) := by decide +kernel
theorem dX12_reads_75 : decode cX12_reads 75 = .ok (.getfield 36, 3) := by decide +kernel
theorem dX12_reads_78 : decode cX12_reads 78 = .ok (.ifCond .ne 7, 3) := by decide +kernel
theorem dX12_reads_81 : decode cX12_reads 81 = .ok (.iconst 1, 1) := by decide +kernel
theorem dX12_reads_82 : decode cX12_reads 82 = .ok (.goto 4, 3) := by decide +kernel
theorem dX12_reads_85 : decode cX12_reads 85 = .ok (.iconst 0, 1) := by decide +kernel
theorem dX12_reads_86 : decode cX12_reads 86 = .ok (.istore_n 2, 1) := by decide +kernel
theorem dX12_reads_87 : decode cX12_reads 87 = .ok (.goto (-44), 3) := by decide +kernel
theorem dX12_reads_90 : decode cX12_reads 90 = .ok (.return_, 1) := by decide +kernel
theorem dX12_counts_0 : decode cX12_counts 0 = .ok (.aload_n 0, 1) := by decide +kernel
theorem dX12_counts_1 : decode cX12_counts 1 = .ok (.getfield 36, 3) := by decide +kernel
theorem dX12_counts_4 : decode cX12_counts 4 = .ok (.ifCond .ne 17, 3) := by decide +kernel
theorem dX12_counts_7 : decode cX12_counts 7 = .ok (.iload_n 1, 1) := by decide +kernel
theorem dX12_counts_8 : decode cX12_counts 8 = .ok (.ifCond .eq 13, 3) := by decide +kernel
theorem dX12_counts_11 : decode cX12_counts 11 = .ok (.aload_n 0, 1) := by decide +kernel
theorem dX12_counts_12 : decode cX12_counts 12 = .ok (.bipush 6, 2) := by decide +kernel
theorem dX12_counts_14 : decode cX12_counts 14 = .ok (.aload_n 0, 1) := by decide +kernel
theorem dX12_counts_15 : decode cX12_counts 15 = .ok (.getfield 23, 3) := by decide +kernel
theorem dX12_counts_18 : decode cX12_counts 18 = .ok (.invokevirtual 224, 3) := by decide +kernel
theorem dX12_counts_21 : decode cX12_counts 21 = .ok (.aload_n 0, 1) := by decide +kernel
theorem dX12_counts_22 : decode cX12_counts 22 = .ok (.getfield 36, 3) := by decide +kernel
theorem dX12_counts_25 : decode cX12_counts 25 = .ok (.ifCond .ne 7, 3) := by decide +kernel
theorem dX12_counts_28 : decode cX12_counts 28 = .ok (.aload_n 0, 1) := by decide +kernel
theorem dX12_counts_29 : decode cX12_counts 29 = .ok (.invokevirtual 241, 3) := by decide +kernel
theorem dX12_counts_32 : decode cX12_counts 32 = .ok (.aload_n 0, 1) := by decide +kernel
theorem dX12_counts_33 : decode cX12_counts 33 = .ok (.getfield 36, 3) := by decide +kernel
theorem dX12_counts_36 : decode cX12_counts 36 = .ok (.ifCond .ne 7, 3) := by decide +kernel
theorem dX12_counts_39 : decode cX12_counts 39 = .ok (.iconst 1, 1) := by decide +kernel
theorem dX12_counts_40 : decode cX12_counts 40 = .ok (.goto 4, 3) := by decide +kernel
theorem dX12_counts_43 : decode cX12_counts 43 = .ok (.iconst 0, 1) := by decide +kernel
theorem dX12_counts_44 : decode cX12_counts 44 = .ok (.ireturn, 1) := by decide +kernel
theorem dX12_must__0 : decode cX12_must_ 0 = .ok (.aload_n 0, 1) := by decide +kernel
theorem dX12_must__1 : decode cX12_must_ 1 = .ok (.invokevirtual 235, 3) := by decide +kernel
theorem dX12_must__4 : decode cX12_must_ 4 = .ok (.aload_n 0, 1) := by decide +kernel
theorem dX12_must__5 : decode cX12_must_ 5 = .ok (.getfield 36, 3) := by decide +kernel
theorem dX12_must__8 : decode cX12_must_ 8 = .ok (.ifCond .le 4, 3) := by decide +kernel
theorem dX12_must__11 : decode cX12_must_ 11 = .ok (.return_, 1) := by decide +kernel
theorem dX12_must__12 : decode cX12_must_ 12 = .ok (.aload_n 0, 1) := by decide +kernel
theorem dX12_must__13 : decode cX12_must_ 13 = .ok (.lload_n 1, 1) := by decide +kernel
theorem dX12_must__14 : decode cX12_must_ 14 = .ok (.invokevirtual 316, 3) := by decide +kernel
theorem dX12_must__17 : decode cX12_must_ 17 = .ok (.ifCond .ne 12, 3) := by decide +kernel
theorem dX12_must__20 : decode cX12_must_ 20 = .ok (.aload_n 0, 1) := by decide +kernel
theorem dX12_must__21 : decode cX12_must_ 21 = .ok (.iconst 1, 1) := by decide +kernel
theorem dX12_must__22 : decode cX12_must_ 22 = .ok (.aload_n 0, 1) := by decide +kernel
theorem dX12_must__23 : decode cX12_must_ 23 = .ok (.getfield 23, 3) := by decide +kernel
theorem dX12_must__26 : decode cX12_must_ 26 = .ok (.invokevirtual 224, 3) := by decide +kernel
theorem dX12_must__29 : decode cX12_must_ 29 = .ok (.aload_n 0, 1) := by decide +kernel
theorem dX12_must__30 : decode cX12_must_ 30 = .ok (.getfield 36, 3) := by decide +kernel
theorem dX12_must__33 : decode cX12_must_ 33 = .ok (.ifCond .ne 7, 3) := by decide +kernel
theorem dX12_must__36 : decode cX12_must_ 36 = .ok (.aload_n 0, 1) := by decide +kernel
theorem dX12_must__37 : decode cX12_must_ 37 = .ok (.invokevirtual 241, 3) := by decide +kernel
theorem dX12_must__40 : decode cX12_must_ 40 = .ok (.return_, 1) := by decide +kernel
theorem dX12_has2_0 : decode cX12_has2 0 = .ok (.iload_n 0, 1) := by decide +kernel
theorem dX12_has2_1 : decode cX12_has2 1 = .ok (.iload_n 1, 1) := by decide +kernel
theorem dX12_has2_2 : decode cX12_has2 2 = .ok (.ishr, 1) := by decide +kernel
theorem dX12_has2_3 : decode cX12_has2 3 = .ok (.iconst 1, 1) := by decide +kernel
theorem dX12_has2_4 : decode cX12_has2 4 = .ok (.iand, 1) := by decide +kernel
theorem dX12_has2_5 : decode cX12_has2 5 = .ok (.iconst 1, 1) := by decide +kernel
theorem dX12_has2_6 : decode cX12_has2 6 = .ok (.if_icmp .ne 7, 3) := by decide +kernel
theorem dX12_has2_9 : decode cX12_has2 9 = .ok (.iconst 1, 1) := by decide +kernel
theorem dX12_has2_10 : decode cX12_has2 10 = .ok (.goto 4, 3) := by decide +kernel
theorem dX12_has2_13 : decode cX12_has2 13 = .ok (.iconst 0, 1) := by decide +kernel
theorem dX12_has2_14 : decode cX12_has2 14 = .ok (.ireturn, 1) := by decide +kernel
theorem dX12_fresh_0 : decode cX12_fresh 0 = .ok (.aload_n 0, 1) := by decide +kernel
theorem dX12_fresh_1 : decode cX12_fresh 1 = .ok (.invokevirtual 235, 3) := by decide +kernel
theorem dX12_fresh_4 : decode cX12_fresh 4 = .ok (.aload_n 0, 1) := by decide +kernel
theorem dX12_fresh_5 : decode cX12_fresh 5 = .ok (.getfield 36, 3) := by decide +kernel
theorem dX12_fresh_8 : decode cX12_fresh 8 = .ok (.ifCond .le 5, 3) := by decide +kernel
theorem dX12_fresh_11 : decode cX12_fresh 11 = .ok (.lconst 0, 1) := by decide +kernel
theorem dX12_fresh_12 : decode cX12_fresh 12 = .ok (.lreturn, 1) := by decide +kernel
theorem dX12_fresh_13 : decode cX12_fresh 13 = .ok (.aload_n 0, 1) := by decide +kernel
theorem dX12_fresh_14 : decode cX12_fresh 14 = .ok (.getfield 20, 3) := by decide +kernel
theorem dX12_fresh_17 : decode cX12_fresh 17 = .ok (.iconst 1, 1) := by decide +kernel
theorem dX12_fresh_18 : decode cX12_fresh 18 = .ok (.if_icmp .ne 14, 3) := by decide +kernel
theorem dX12_fresh_21 : decode cX12_fresh 21 = .ok (.aload_n 0, 1) := by decide +kernel
theorem dX12_fresh_22 : decode cX12_fresh 22 = .ok (.aload_n 0, 1) := by decide +kernel
theorem dX12_fresh_23 : decode cX12_fresh 23 = .ok (.getfield 32, 3) := by decide +kernel
theorem dX12_fresh_26 : decode cX12_fresh 26 = .ok (.invokevirtual 335, 3) := by decide +kernel
theorem dX12_fresh_29 : decode cX12_fresh 29 = .ok (.ifCond .eq 12, 3) := by decide +kernel
theorem dX12_fresh_32 : decode cX12_fresh 32 = .ok (.aload_n 0, 1) := by decide +kernel
theorem dX12_fresh_33 : decode cX12_fresh 33 = .ok (.iconst 1, 1) := by decide +kernel
theorem dX12_fresh_34 : decode cX12_fresh 34 = .ok (.aload_n 0, 1) := by decide +kernel
theorem dX12_fresh_35 : decode cX12_fresh 35 = .ok (.getfield 23, 3) := by decide +kernel
theorem dX12_fresh_38 : decode cX12_fresh 38 = .ok (.invokevirtual 224, 3) := by decide +kernel
theorem dX12_fresh_41 : decode cX12_fresh 41 = .ok (.iconst 0, 1) := by decide +kernel
theorem dX12_fresh_42 : decode cX12_fresh 42 = .ok (.istore_n 1, 1) := by decide +kernel
theorem dX12_fresh_43 : decode cX12_fresh 43 = .ok (.iload_n 1, 1) := by decide +kernel
theorem dX12_fresh_44 : decode cX12_fresh 44 = .ok (.iconst 1, 1) := by decide +kernel
theorem dX12_fresh_45 : decode cX12_fresh 45 = .ok (.if_icmp .gt 38, 3) := by decide +kernel
theorem dX12_fresh_48 : decode cX12_fresh 48 = .ok (.aload_n 0, 1) := by decide +kernel
theorem dX12_fresh_49 : decode cX12_fresh 49 = .ok (.getfield 36, 3) := by decide +kernel
theorem dX12_fresh_52 : decode cX12_fresh 52 = .ok (.ifCond .ne 31, 3) := by decide +kernel
theorem dX12_fresh_55 : decode cX12_fresh 55 = .ok (.aload_n 0, 1) := by decide +kernel
theorem dX12_fresh_56 : decode cX12_fresh 56 = .ok (.iload_n 1, 1) := by decide +kernel
theorem dX12_fresh_57 : decode cX12_fresh 57 = .ok (.aload_n 0, 1) := by decide +kernel
theorem dX12_fresh_58 : decode cX12_fresh 58 = .ok (.getfield 32, 3) := by decide +kernel
theorem dX12_fresh_61 : decode cX12_fresh 61 = .ok (.invokevirtual 338, 3) := by decide +kernel
theorem dX12_fresh_64 : decode cX12_fresh 64 = .ok (.iconst (-1), 1) := by decide +kernel
theorem dX12_fresh_65 : decode cX12_fresh 65 = .ok (.if_icmp .eq 12, 3) := by decide +kernel
theorem dX12_fresh_68 : decode cX12_fresh 68 = .ok (.aload_n 0, 1) := by decide +kernel
theorem dX12_fresh_69 : decode cX12_fresh 69 = .ok (.iconst 2, 1) := by decide +kernel
theorem dX12_fresh_70 : decode cX12_fresh 70 = .ok (.aload_n 0, 1) := by decide +kernel
theorem dX12_fresh_71 : decode cX12_fresh 71 = .ok (.getfield 23, 3) := by decide +kernel
theorem dX12_fresh_74 : decode cX12_fresh 74 = .ok (.invokevirtual 224, 3) := by decide +kernel
theorem dX12_fresh_77 : decode cX12_fresh 77 = .ok (.iinc 1 1, 3) := by decide +kernel
theorem dX12_fresh_80 : decode cX12_fresh 80 = .ok (.goto (-37), 3) := by decide +kernel
theorem dX12_fresh_83 : decode cX12_fresh 83 = .ok (.aload_n 0, 1) := by decide +kernel
theorem dX12_fresh_84 : decode cX12_fresh 84 = .ok (.getfield 32, 3) := by decide +kernel
theorem dX12_fresh_87 : decode cX12_fresh 87 = .ok (.lstore_n 1, 1) := by decide +kernel
theorem dX12_fresh_88 : decode cX12_fresh 88 = .ok (.aload_n 0, 1) := by decide +kernel
theorem dX12_fresh_89 : decode cX12_fresh 89 = .ok (.getfield 36, 3) := by decide +kernel
theorem dX12_fresh_92 : decode cX12_fresh 92 = .ok (.ifCond .ne 7, 3) := by decide +kernel
theorem dX12_fresh_95 : decode cX12_fresh 95 = .ok (.aload_n 0, 1) := by decide +kernel
theorem dX12_fresh_96 : decode cX12_fresh 96 = .ok (.invokevirtual 241, 3) := by decide +kernel
theorem dX12_fresh_99 : decode cX12_fresh 99 = .ok (.lload_n 1, 1) := by decide +kernel
theorem dX12_fresh_100 : decode cX12_fresh 100 = .ok (.lreturn, 1) := by decide +kernel
theorem dX12_knownBut_0 : decode cX12_knownBut 0 = .ok (.aload_n 0, 1) := by decide +kernel
theorem dX12_knownBut_1 : decode cX12_knownBut 1 = .ok (.invokevirtual 235, 3) := by decide +kernel
theorem dX12_knownBut_4 : decode cX12_knownBut 4 = .ok (.aload_n 0, 1) := by decide +kernel
theorem dX12_knownBut_5 : decode cX12_knownBut 5 = .ok (.getfield 36, 3) := by decide +kernel
theorem dX12_knownBut_8 : decode cX12_knownBut 8 = .ok (.ifCond .le 5, 3) := by decide +kernel
theorem dX12_knownBut_11 : decode cX12_knownBut 11 = .ok (.iconst 0, 1) := by decide +kernel
theorem dX12_knownBut_12 : decode cX12_knownBut 12 = .ok (.ireturn, 1) := by decide +kernel
theorem dX12_knownBut_13 : decode cX12_knownBut 13 = .ok (.aload_n 0, 1) := by decide +kernel
theorem dX12_knownBut_14 : decode cX12_knownBut 14 = .ok (.getfield 20, 3) := by decide +kernel
theorem dX12_knownBut_17 : decode cX12_knownBut 17 = .ok (.iconst 1, 1) := by decide +kernel
theorem dX12_knownBut_18 : decode cX12_knownBut 18 = .ok (.if_icmp .ne 14, 3) := by decide +kernel
theorem dX12_knownBut_21 : decode cX12_knownBut 21 = .ok (.aload_n 0, 1) := by decide +kernel
theorem dX12_knownBut_22 : decode cX12_knownBut 22 = .ok (.aload_n 0, 1) := by decide +kernel
theorem dX12_knownBut_23 : decode cX12_knownBut 23 = .ok (.getfield 32, 3) := by decide +kernel
theorem dX12_knownBut_26 : decode cX12_knownBut 26 = .ok (.invokevirtual 335, 3) := by decide +kernel
theorem dX12_knownBut_29 : decode cX12_knownBut 29 = .ok (.ifCond .eq 12, 3) := by decide +kernel
theorem dX12_knownBut_32 : decode cX12_knownBut 32 = .ok (.aload_n 0, 1) := by decide +kernel
theorem dX12_knownBut_33 : decode cX12_knownBut 33 = .ok (.iconst 1, 1) := by decide +kernel
theorem dX12_knownBut_34 : decode cX12_knownBut 34 = .ok (.aload_n 0, 1) := by decide +kernel
theorem dX12_knownBut_35 : decode cX12_knownBut 35 = .ok (.getfield 23, 3) := by decide +kernel
theorem dX12_knownBut_38 : decode cX12_knownBut 38 = .ok (.invokevirtual 224, 3) := by decide +kernel
theorem dX12_knownBut_41 : decode cX12_knownBut 41 = .ok (.aload_n 0, 1) := by decide +kernel
theorem dX12_knownBut_42 : decode cX12_knownBut 42 = .ok (.getfield 36, 3) := by decide +kernel
theorem dX12_knownBut_45 : decode cX12_knownBut 45 = .ok (.ifCond .le 7, 3) := by decide +kernel
theorem dX12_knownBut_48 : decode cX12_knownBut 48 = .ok (.iconst 0, 1) := by decide +kernel
theorem dX12_knownBut_49 : decode cX12_knownBut 49 = .ok (.goto 12, 3) := by decide +kernel
theorem dX12_knownBut_52 : decode cX12_knownBut 52 = .ok (.aload_n 0, 1) := by decide +kernel
theorem dX12_knownBut_53 : decode cX12_knownBut 53 = .ok (.iload_n 1, 1) := by decide +kernel
theorem dX12_knownBut_54 : decode cX12_knownBut 54 = .ok (.aload_n 0, 1) := by decide +kernel
theorem dX12_knownBut_55 : decode cX12_knownBut 55 = .ok (.getfield 32, 3) := by decide +kernel
theorem dX12_knownBut_58 : decode cX12_knownBut 58 = .ok (.invokevirtual 338, 3) := by decide +kernel
theorem dX12_knownBut_61 : decode cX12_knownBut 61 = .ok (.istore_n 3, 1) := by decide +kernel
theorem dX12_knownBut_62 : decode cX12_knownBut 62 = .ok (.aload_n 0, 1) := by decide +kernel
theorem dX12_knownBut_63 : decode cX12_knownBut 63 = .ok (.getfield 36, 3) := by decide +kernel
theorem dX12_knownBut_66 : decode cX12_knownBut 66 = .ok (.ifCond .ne 25, 3) := by decide +kernel
theorem dX12_knownBut_69 : decode cX12_knownBut 69 = .ok (.iload_n 3, 1) := by decide +kernel
theorem dX12_knownBut_70 : decode cX12_knownBut 70 = .ok (.iconst (-1), 1) := by decide +kernel
theorem dX12_knownBut_71 : decode cX12_knownBut 71 = .ok (.if_icmp .eq 11, 3) := by decide +kernel
theorem dX12_knownBut_74 : decode cX12_knownBut 74 = .ok (.iload_n 2, 1) := by decide +kernel
theorem dX12_knownBut_75 : decode cX12_knownBut 75 = .ok (.iload_n 3, 1) := by decide +kernel
theorem dX12_knownBut_76 : decode cX12_knownBut 76 = .ok (.invokestatic 342, 3) := by decide +kernel
theorem dX12_knownBut_79 : decode cX12_knownBut 79 = .ok (.ifCond .eq 12, 3) := by decide +kernel
theorem dX12_knownBut_82 : decode cX12_knownBut 82 = .ok (.aload_n 0, 1) := by decide +kernel
theorem dX12_knownBut_83 : decode cX12_knownBut 83 = .ok (.iconst 3, 1) := by decide +kernel
theorem dX12_knownBut_84 : decode cX12_knownBut 84 = .ok (.aload_n 0, 1) := by decide +kernel
theorem dX12_knownBut_85 : decode cX12_knownBut 85 = .ok (.getfield 23, 3) := by decide +kernel
theorem dX12_knownBut_88 : decode cX12_knownBut 88 = .ok (.invokevirtual 224, 3) := by decide +kernel
theorem dX12_knownBut_91 : decode cX12_knownBut 91 = .ok (.aload_n 0, 1) := by decide +kernel
theorem dX12_knownBut_92 : decode cX12_knownBut 92 = .ok (.getfield 36, 3) := by decide +kernel
theorem dX12_knownBut_95 : decode cX12_knownBut 95 = .ok (.ifCond .ne 7, 3) := by decide +kernel
theorem dX12_knownBut_98 : decode cX12_knownBut 98 = .ok (.aload_n 0, 1) := by decide +kernel
theorem dX12_knownBut_99 : decode cX12_knownBut 99 = .ok (.invokevirtual 241, 3) := by decide +kernel
theorem dX12_knownBut_102 : decode cX12_knownBut 102 = .ok (.aload_n 0, 1) := by decide +kernel
theorem dX12_knownBut_103 : decode cX12_knownBut 103 = .ok (.getfield 36, 3) := by decide +kernel
theorem dX12_knownBut_106 : decode cX12_knownBut 106 = .ok (.ifCond .le 7, 3) := by decide +kernel
theorem dX12_knownBut_109 : decode cX12_knownBut 109 = .ok (.iconst 0, 1) := by decide +kernel
theorem dX12_knownBut_110 : decode cX12_knownBut 110 = .ok (.goto 4, 3) := by decide +kernel
theorem dX12_knownBut_113 : decode cX12_knownBut 113 = .ok (.iload_n 3, 1) := by decide +kernel
theorem dX12_knownBut_114 : decode cX12_knownBut 114 = .ok (.ireturn, 1) := by decide +kernel
theorem dX12_at_0 : decode cX12_at 0 = .ok (.bipush 49, 2) := by decide +kernel
theorem dX12_at_2 : decode cX12_at 2 = .ok (.iload_n 1, 1) := by decide +kernel
theorem dX12_at_3 : decode cX12_at 3 = .ok (.imul, 1) := by decide +kernel
theorem dX12_at_4 : decode cX12_at 4 = .ok (.bipush 7, 2) := by decide +kernel
theorem dX12_at_6 : decode cX12_at 6 = .ok (.iload_n 2, 1) := by decide +kernel
theorem dX12_at_7 : decode cX12_at 7 = .ok (.imul, 1) := by decide +kernel
theorem dX12_at_8 : decode cX12_at 8 = .ok (.iadd, 1) := by decide +kernel
theorem dX12_at_9 : decode cX12_at 9 = .ok (.iload_n 3, 1) := by decide +kernel
theorem dX12_at_10 : decode cX12_at 10 = .ok (.iadd, 1) := by decide +kernel
theorem dX12_at_11 : decode cX12_at 11 = .ok (.ireturn, 1) := by decide +kernel
theorem dX12_placing_0 : decode cX12_placing 0 = .ok (.aload_n 0, 1) := by decide +kernel
theorem dX12_placing_1 : decode cX12_placing 1 = .ok (.aload_n 0, 1) := by decide +kernel
theorem dX12_placing_2 : decode cX12_placing 2 = .ok (.getfield 54, 3) := by decide +kernel
theorem dX12_placing_5 : decode cX12_placing 5 = .ok (.aload_n 0, 1) := by decide +kernel
theorem dX12_placing_6 : decode cX12_placing 6 = .ok (.getfield 115, 3) := by decide +kernel
theorem dX12_placing_9 : decode cX12_placing 9 = .ok (.iaload, 1) := by decide +kernel
theorem dX12_placing_10 : decode cX12_placing 10 = .ok (.bipush 7, 2) := by decide +kernel
theorem dX12_placing_12 : decode cX12_placing 12 = .ok (.if_icmp .ne 7, 3) := by decide +kernel
theorem dX12_placing_15 : decode cX12_placing 15 = .ok (.iconst 1, 1) := by decide +kernel
theorem dX12_placing_16 : decode cX12_placing 16 = .ok (.goto 4, 3) := by decide +kernel
theorem dX12_placing_19 : decode cX12_placing 19 = .ok (.iconst 0, 1) := by decide +kernel
theorem dX12_placing_20 : decode cX12_placing 20 = .ok (.invokevirtual 346, 3) := by decide +kernel
theorem dX12_placing_23 : decode cX12_placing 23 = .ok (.ifCond .ne 4, 3) := by decide +kernel
theorem dX12_placing_26 : decode cX12_placing 26 = .ok (.return_, 1) := by decide +kernel
theorem dX12_placing_27 : decode cX12_placing 27 = .ok (.aload_n 0, 1) := by decide +kernel
theorem dX12_placing_28 : decode cX12_placing 28 = .ok (.getfield 105, 3) := by decide +kernel
theorem dX12_placing_31 : decode cX12_placing 31 = .ok (.bipush 7, 2) := by decide +kernel
theorem dX12_placing_33 : decode cX12_placing 33 = .ok (.aload_n 0, 1) := by decide +kernel
theorem dX12_placing_34 : decode cX12_placing 34 = .ok (.getfield 115, 3) := by decide +kernel
theorem dX12_placing_37 : decode cX12_placing 37 = .ok (.imul, 1) := by decide +kernel
theorem dX12_placing_38 : decode cX12_placing 38 = .ok (.aload_n 0, 1) := by decide +kernel
theorem dX12_placing_39 : decode cX12_placing 39 = .ok (.getfield 54, 3) := by decide +kernel
theorem dX12_placing_42 : decode cX12_placing 42 = .ok (.aload_n 0, 1) := by decide +kernel
theorem dX12_placing_43 : decode cX12_placing 43 = .ok (.getfield 115, 3) := by decide +kernel
theorem dX12_placing_46 : decode cX12_placing 46 = .ok (.iaload, 1) := by decide +kernel
theorem dX12_placing_47 : decode cX12_placing 47 = .ok (.iadd, 1) := by decide +kernel
theorem dX12_placing_48 : decode cX12_placing 48 = .ok (.aload_n 0, 1) := by decide +kernel
theorem dX12_placing_49 : decode cX12_placing 49 = .ok (.invokevirtual 350, 3) := by decide +kernel
theorem dX12_placing_52 : decode cX12_placing 52 = .ok (.lastore, 1) := by decide +kernel
theorem dX12_placing_53 : decode cX12_placing 53 = .ok (.aload_n 0, 1) := by decide +kernel
theorem dX12_placing_54 : decode cX12_placing 54 = .ok (.getfield 36, 3) := by decide +kernel
theorem dX12_placing_57 : decode cX12_placing 57 = .ok (.ifCond .ne 16, 3) := by decide +kernel
theorem dX12_placing_60 : decode cX12_placing 60 = .ok (.aload_n 0, 1) := by decide +kernel
theorem dX12_placing_61 : decode cX12_placing 61 = .ok (.getfield 54, 3) := by decide +kernel
theorem dX12_placing_64 : decode cX12_placing 64 = .ok (.aload_n 0, 1) := by decide +kernel
theorem dX12_placing_65 : decode cX12_placing 65 = .ok (.getfield 115, 3) := by decide +kernel
theorem dX12_placing_68 : decode cX12_placing 68 = .ok (.dup2, 1) := by decide +kernel
theorem dX12_placing_69 : decode cX12_placing 69 = .ok (.iaload, 1) := by decide +kernel
theorem dX12_placing_70 : decode cX12_placing 70 = .ok (.iconst 1, 1) := by decide +kernel
theorem dX12_placing_71 : decode cX12_placing 71 = .ok (.iadd, 1) := by decide +kernel
theorem dX12_placing_72 : decode cX12_placing 72 = .ok (.iastore, 1) := by decide +kernel
theorem dX12_placing_73 : decode cX12_placing 73 = .ok (.return_, 1) := by decide +kernel
theorem dX12_roading_0 : decode cX12_roading 0 = .ok (.aload_n 0, 1) := by decide +kernel
theorem dX12_roading_1 : decode cX12_roading 1 = .ok (.aload_n 0, 1) := by decide +kernel
theorem dX12_roading_2 : decode cX12_roading 2 = .ok (.getfield 57, 3) := by decide +kernel
theorem dX12_roading_5 : decode cX12_roading 5 = .ok (.aload_n 0, 1) := by decide +kernel
theorem dX12_roading_6 : decode cX12_roading 6 = .ok (.getfield 115, 3) := by decide +kernel
theorem dX12_roading_9 : decode cX12_roading 9 = .ok (.iaload, 1) := by decide +kernel
theorem dX12_roading_10 : decode cX12_roading 10 = .ok (.bipush 12, 2) := by decide +kernel
theorem dX12_roading_12 : decode cX12_roading 12 = .ok (.if_icmp .ne 7, 3) := by decide +kernel
theorem dX12_roading_15 : decode cX12_roading 15 = .ok (.iconst 1, 1) := by decide +kernel
theorem dX12_roading_16 : decode cX12_roading 16 = .ok (.goto 4, 3) := by decide +kernel
theorem dX12_roading_19 : decode cX12_roading 19 = .ok (.iconst 0, 1) := by decide +kernel
theorem dX12_roading_20 : decode cX12_roading 20 = .ok (.invokevirtual 346, 3) := by decide +kernel
theorem dX12_roading_23 : decode cX12_roading 23 = .ok (.ifCond .ne 4, 3) := by decide +kernel
theorem dX12_roading_26 : decode cX12_roading 26 = .ok (.return_, 1) := by decide +kernel
theorem dX12_roading_27 : decode cX12_roading 27 = .ok (.aload_n 0, 1) := by decide +kernel
theorem dX12_roading_28 : decode cX12_roading 28 = .ok (.iconst 0, 1) := by decide +kernel
theorem dX12_roading_29 : decode cX12_roading 29 = .ok (.iconst 0, 1) := by decide +kernel
theorem dX12_roading_30 : decode cX12_roading 30 = .ok (.invokevirtual 354, 3) := by decide +kernel
theorem dX12_roading_33 : decode cX12_roading 33 = .ok (.istore_n 1, 1) := by decide +kernel
theorem dX12_roading_34 : decode cX12_roading 34 = .ok (.aload_n 0, 1) := by decide +kernel
theorem dX12_roading_35 : decode cX12_roading 35 = .ok (.ldc2_w 248, 3) := by decide +kernel
theorem dX12_roading_38 : decode cX12_roading 38 = .ok (.invokevirtual 357, 3) := by decide +kernel
theorem dX12_roading_41 : decode cX12_roading 41 = .ok (.iconst 1, 1) := by decide +kernel
theorem dX12_roading_42 : decode cX12_roading 42 = .ok (.iload_n 1, 1) := by decide +kernel
theorem dX12_roading_43 : decode cX12_roading 43 = .ok (.ishl, 1) := by decide +kernel
theorem dX12_roading_44 : decode cX12_roading 44 = .ok (.istore_n 2, 1) := by decide +kernel
theorem dX12_roading_45 : decode cX12_roading 45 = .ok (.iconst 0, 1) := by decide +kernel
theorem dX12_roading_46 : decode cX12_roading 46 = .ok (.istore_n 3, 1) := by decide +kernel
theorem dX12_roading_47 : decode cX12_roading 47 = .ok (.iload_n 3, 1) := by decide +kernel
theorem dX12_roading_48 : decode cX12_roading 48 = .ok (.bipush 7, 2) := by decide +kernel
theorem dX12_roading_50 : decode cX12_roading 50 = .ok (.if_icmp .ge 37, 3) := by decide +kernel
theorem dX12_roading_53 : decode cX12_roading 53 = .ok (.iload_n 2, 1) := by decide +kernel
theorem dX12_roading_54 : decode cX12_roading 54 = .ok (.aload_n 0, 1) := by decide +kernel
theorem dX12_roading_55 : decode cX12_roading 55 = .ok (.getfield 60, 3) := by decide +kernel
theorem dX12_roading_58 : decode cX12_roading 58 = .ok (.aload_n 0, 1) := by decide +kernel
theorem dX12_roading_59 : decode cX12_roading 59 = .ok (.aload_n 0, 1) := by decide +kernel
theorem dX12_roading_60 : decode cX12_roading 60 = .ok (.getfield 115, 3) := by decide +kernel
theorem dX12_roading_63 : decode cX12_roading 63 = .ok (.iload_n 1, 1) := by decide +kernel
theorem dX12_roading_64 : decode cX12_roading 64 = .ok (.iload_n 3, 1) := by decide +kernel
theorem dX12_roading_65 : decode cX12_roading 65 = .ok (.invokevirtual 361, 3) := by decide +kernel
theorem dX12_roading_68 : decode cX12_roading 68 = .ok (.iaload, 1) := by decide +kernel
theorem dX12_roading_69 : decode cX12_roading 69 = .ok (.ifCond .le 9, 3) := by decide +kernel
theorem dX12_roading_72 : decode cX12_roading 72 = .ok (.iconst 1, 1) := by decide +kernel
theorem dX12_roading_73 : decode cX12_roading 73 = .ok (.iload_n 3, 1) := by decide +kernel
theorem dX12_roading_74 : decode cX12_roading 74 = .ok (.ishl, 1) := by decide +kernel
theorem dX12_roading_75 : decode cX12_roading 75 = .ok (.goto 4, 3) := by decide +kernel
theorem dX12_roading_78 : decode cX12_roading 78 = .ok (.iconst 0, 1) := by decide +kernel
theorem dX12_roading_79 : decode cX12_roading 79 = .ok (.ior, 1) := by decide +kernel
theorem dX12_roading_80 : decode cX12_roading 80 = .ok (.istore_n 2, 1) := by decide +kernel
theorem dX12_roading_81 : decode cX12_roading 81 = .ok (.iinc 3 1, 3) := by decide +kernel
theorem dX12_roading_84 : decode cX12_roading 84 = .ok (.goto (-37), 3) := by decide +kernel
theorem dX12_roading_87 : decode cX12_roading 87 = .ok (.aload_n 0, 1) := by decide +kernel
theorem dX12_roading_88 : decode cX12_roading 88 = .ok (.iconst 0, 1) := by decide +kernel
theorem dX12_roading_89 : decode cX12_roading 89 = .ok (.iload_n 2, 1) := by decide +kernel
theorem dX12_roading_90 : decode cX12_roading 90 = .ok (.invokevirtual 354, 3) := by decide +kernel
theorem dX12_roading_93 : decode cX12_roading 93 = .ok (.istore_n 3, 1) := by decide +kernel
theorem dX12_roading_94 : decode cX12_roading 94 = .ok (.aload_n 0, 1) := by decide +kernel
theorem dX12_roading_95 : decode cX12_roading 95 = .ok (.getfield 36, 3) := by decide +kernel
theorem dX12_roading_98 : decode cX12_roading 98 = .ok (.ifCond .le 4, 3) := by decide +kernel
theorem dX12_roading_101 : decode cX12_roading 101 = .ok (.return_, 1) := by decide +kernel
theorem dX12_roading_102 : decode cX12_roading 102 = .ok (.aload_n 0, 1) := by decide +kernel
theorem dX12_roading_103 : decode cX12_roading 103 = .ok (.getfield 60, 3) := by decide +kernel
theorem dX12_roading_106 : decode cX12_roading 106 = .ok (.aload_n 0, 1) := by decide +kernel
theorem dX12_roading_107 : decode cX12_roading 107 = .ok (.aload_n 0, 1) := by decide +kernel
theorem dX12_roading_108 : decode cX12_roading 108 = .ok (.getfield 115, 3) := by decide +kernel
theorem dX12_roading_111 : decode cX12_roading 111 = .ok (.iload_n 1, 1) := by decide +kernel
theorem dX12_roading_112 : decode cX12_roading 112 = .ok (.iload_n 3, 1) := by decide +kernel
theorem dX12_roading_113 : decode cX12_roading 113 = .ok (.invokevirtual 361, 3) := by decide +kernel
theorem dX12_roading_116 : decode cX12_roading 116 = .ok (.iconst 1, 1) := by decide +kernel
theorem dX12_roading_117 : decode cX12_roading 117 = .ok (.iastore, 1) := by decide +kernel
theorem dX12_roading_118 : decode cX12_roading 118 = .ok (.aload_n 0, 1) := by decide +kernel
theorem dX12_roading_119 : decode cX12_roading 119 = .ok (.getfield 60, 3) := by decide +kernel
theorem dX12_roading_122 : decode cX12_roading 122 = .ok (.aload_n 0, 1) := by decide +kernel
theorem dX12_roading_123 : decode cX12_roading 123 = .ok (.aload_n 0, 1) := by decide +kernel
theorem dX12_roading_124 : decode cX12_roading 124 = .ok (.getfield 115, 3) := by decide +kernel
theorem dX12_roading_127 : decode cX12_roading 127 = .ok (.iload_n 3, 1) := by decide +kernel
theorem dX12_roading_128 : decode cX12_roading 128 = .ok (.iload_n 1, 1) := by decide +kernel
theorem dX12_roading_129 : decode cX12_roading 129 = .ok (.invokevirtual 361, 3) := by decide +kernel
theorem dX12_roading_132 : decode cX12_roading 132 = .ok (.iconst 1, 1) := by decide +kernel
theorem dX12_roading_133 : decode cX12_roading 133 = .ok (.iastore, 1) := by decide +kernel
theorem dX12_roading_134 : decode cX12_roading 134 = .ok (.aload_n 0, 1) := by decide +kernel
theorem dX12_roading_135 : decode cX12_roading 135 = .ok (.getfield 57, 3) := by decide +kernel
theorem dX12_roading_138 : decode cX12_roading 138 = .ok (.aload_n 0, 1) := by decide +kernel
theorem dX12_roading_139 : decode cX12_roading 139 = .ok (.getfield 115, 3) := by decide +kernel
theorem dX12_roading_142 : decode cX12_roading 142 = .ok (.dup2, 1) := by decide +kernel
theorem dX12_roading_143 : decode cX12_roading 143 = .ok (.iaload, 1) := by decide +kernel
theorem dX12_roading_144 : decode cX12_roading 144 = .ok (.iconst 1, 1) := by decide +kernel
theorem dX12_roading_145 : decode cX12_roading 145 = .ok (.iadd, 1) := by decide +kernel
theorem dX12_roading_146 : decode cX12_roading 146 = .ok (.iastore, 1) := by decide +kernel
theorem dX12_roading_147 : decode cX12_roading 147 = .ok (.return_, 1) := by decide +kernel
theorem dX12_personing_0 : decode cX12_personing 0 = .ok (.aload_n 0, 1) := by decide +kernel
theorem dX12_personing_1 : decode cX12_personing 1 = .ok (.aload_n 0, 1) := by decide +kernel
theorem dX12_personing_2 : decode cX12_personing 2 = .ok (.getfield 66, 3) := by decide +kernel
theorem dX12_personing_5 : decode cX12_personing 5 = .ok (.aload_n 0, 1) := by decide +kernel
theorem dX12_personing_6 : decode cX12_personing 6 = .ok (.getfield 115, 3) := by decide +kernel
theorem dX12_personing_9 : decode cX12_personing 9 = .ok (.iaload, 1) := by decide +kernel
theorem dX12_personing_10 : decode cX12_personing 10 = .ok (.bipush 6, 2) := by decide +kernel
theorem dX12_personing_12 : decode cX12_personing 12 = .ok (.if_icmp .ne 7, 3) := by decide +kernel
theorem dX12_personing_15 : decode cX12_personing 15 = .ok (.iconst 1, 1) := by decide +kernel
theorem dX12_personing_16 : decode cX12_personing 16 = .ok (.goto 4, 3) := by decide +kernel
theorem dX12_personing_19 : decode cX12_personing 19 = .ok (.iconst 0, 1) := by decide +kernel
theorem dX12_personing_20 : decode cX12_personing 20 = .ok (.invokevirtual 346, 3) := by decide +kernel
theorem dX12_personing_23 : decode cX12_personing 23 = .ok (.ifCond .ne 4, 3) := by decide +kernel
theorem dX12_personing_26 : decode cX12_personing 26 = .ok (.return_, 1) := by decide +kernel
theorem dX12_personing_27 : decode cX12_personing 27 = .ok (.bipush 6, 2) := by decide +kernel
theorem dX12_personing_29 : decode cX12_personing 29 = .ok (.aload_n 0, 1) := by decide +kernel
theorem dX12_personing_30 : decode cX12_personing 30 = .ok (.getfield 115, 3) := by decide +kernel
theorem dX12_personing_33 : decode cX12_personing 33 = .ok (.imul, 1) := by decide +kernel
theorem dX12_personing_34 : decode cX12_personing 34 = .ok (.aload_n 0, 1) := by decide +kernel
theorem dX12_personing_35 : decode cX12_personing 35 = .ok (.getfield 66, 3) := by decide +kernel
theorem dX12_personing_38 : decode cX12_personing 38 = .ok (.aload_n 0, 1) := by decide +kernel
theorem dX12_personing_39 : decode cX12_personing 39 = .ok (.getfield 115, 3) := by decide +kernel
theorem dX12_personing_42 : decode cX12_personing 42 = .ok (.iaload, 1) := by decide +kernel
theorem dX12_personing_43 : decode cX12_personing 43 = .ok (.iadd, 1) := by decide +kernel
theorem dX12_personing_44 : decode cX12_personing 44 = .ok (.istore_n 1, 1) := by decide +kernel
theorem dX12_personing_45 : decode cX12_personing 45 = .ok (.aload_n 0, 1) := by decide +kernel
theorem dX12_personing_46 : decode cX12_personing 46 = .ok (.getfield 109, 3) := by decide +kernel
theorem dX12_personing_49 : decode cX12_personing 49 = .ok (.iload_n 1, 1) := by decide +kernel
theorem dX12_personing_50 : decode cX12_personing 50 = .ok (.aload_n 0, 1) := by decide +kernel
theorem dX12_personing_51 : decode cX12_personing 51 = .ok (.invokevirtual 350, 3) := by decide +kernel
theorem dX12_personing_54 : decode cX12_personing 54 = .ok (.lastore, 1) := by decide +kernel
theorem dX12_personing_55 : decode cX12_personing 55 = .ok (.aload_n 0, 1) := by decide +kernel
theorem dX12_personing_56 : decode cX12_personing 56 = .ok (.ldc2_w 252, 3) := by decide +kernel
theorem dX12_personing_59 : decode cX12_personing 59 = .ok (.invokevirtual 357, 3) := by decide +kernel
theorem dX12_personing_62 : decode cX12_personing 62 = .ok (.aload_n 0, 1) := by decide +kernel
theorem dX12_personing_63 : decode cX12_personing 63 = .ok (.getfield 69, 3) := by decide +kernel
theorem dX12_personing_66 : decode cX12_personing 66 = .ok (.iload_n 1, 1) := by decide +kernel
theorem dX12_personing_67 : decode cX12_personing 67 = .ok (.aload_n 0, 1) := by decide +kernel
theorem dX12_personing_68 : decode cX12_personing 68 = .ok (.iconst 0, 1) := by decide +kernel
theorem dX12_personing_69 : decode cX12_personing 69 = .ok (.iconst 0, 1) := by decide +kernel
theorem dX12_personing_70 : decode cX12_personing 70 = .ok (.invokevirtual 354, 3) := by decide +kernel
theorem dX12_personing_73 : decode cX12_personing 73 = .ok (.iastore, 1) := by decide +kernel
theorem dX12_personing_74 : decode cX12_personing 74 = .ok (.aload_n 0, 1) := by decide +kernel
theorem dX12_personing_75 : decode cX12_personing 75 = .ok (.ldc2_w 254, 3) := by decide +kernel
theorem dX12_personing_78 : decode cX12_personing 78 = .ok (.invokevirtual 357, 3) := by decide +kernel
theorem dX12_personing_81 : decode cX12_personing 81 = .ok (.aload_n 0, 1) := by decide +kernel
theorem dX12_personing_82 : decode cX12_personing 82 = .ok (.getfield 72, 3) := by decide +kernel
theorem dX12_personing_85 : decode cX12_personing 85 = .ok (.iload_n 1, 1) := by decide +kernel
theorem dX12_personing_86 : decode cX12_personing 86 = .ok (.aload_n 0, 1) := by decide +kernel
theorem dX12_personing_87 : decode cX12_personing 87 = .ok (.iconst 0, 1) := by decide +kernel
theorem dX12_personing_88 : decode cX12_personing 88 = .ok (.bipush 9, 2) := by decide +kernel
theorem dX12_personing_90 : decode cX12_personing 90 = .ok (.invokevirtual 365, 3) := by decide +kernel
theorem dX12_personing_93 : decode cX12_personing 93 = .ok (.iastore, 1) := by decide +kernel
theorem dX12_personing_94 : decode cX12_personing 94 = .ok (.aload_n 0, 1) := by decide +kernel
theorem dX12_personing_95 : decode cX12_personing 95 = .ok (.getfield 36, 3) := by decide +kernel
theorem dX12_personing_98 : decode cX12_personing 98 = .ok (.ifCond .ne 16, 3) := by decide +kernel
theorem dX12_personing_101 : decode cX12_personing 101 = .ok (.aload_n 0, 1) := by decide +kernel
theorem dX12_personing_102 : decode cX12_personing 102 = .ok (.getfield 66, 3) := by decide +kernel
theorem dX12_personing_105 : decode cX12_personing 105 = .ok (.aload_n 0, 1) := by decide +kernel
theorem dX12_personing_106 : decode cX12_personing 106 = .ok (.getfield 115, 3) := by decide +kernel
theorem dX12_personing_109 : decode cX12_personing 109 = .ok (.dup2, 1) := by decide +kernel
theorem dX12_personing_110 : decode cX12_personing 110 = .ok (.iaload, 1) := by decide +kernel
theorem dX12_personing_111 : decode cX12_personing 111 = .ok (.iconst 1, 1) := by decide +kernel
theorem dX12_personing_112 : decode cX12_personing 112 = .ok (.iadd, 1) := by decide +kernel
theorem dX12_personing_113 : decode cX12_personing 113 = .ok (.iastore, 1) := by decide +kernel
theorem dX12_personing_114 : decode cX12_personing 114 = .ok (.return_, 1) := by decide +kernel
theorem dX12_watching_0 : decode cX12_watching 0 = .ok (.aload_n 0, 1) := by decide +kernel
theorem dX12_watching_1 : decode cX12_watching 1 = .ok (.iconst 0, 1) := by decide +kernel
theorem dX12_watching_2 : decode cX12_watching 2 = .ok (.invokevirtual 346, 3) := by decide +kernel
theorem dX12_watching_5 : decode cX12_watching 5 = .ok (.ifCond .ne 4, 3) := by decide +kernel
theorem dX12_watching_8 : decode cX12_watching 8 = .ok (.return_, 1) := by decide +kernel
theorem dX12_watching_9 : decode cX12_watching 9 = .ok (.aload_n 0, 1) := by decide +kernel
theorem dX12_watching_10 : decode cX12_watching 10 = .ok (.iconst 1, 1) := by decide +kernel
theorem dX12_watching_11 : decode cX12_watching 11 = .ok (.aload_n 0, 1) := by decide +kernel
theorem dX12_watching_12 : decode cX12_watching 12 = .ok (.getfield 75, 3) := by decide +kernel
theorem dX12_watching_15 : decode cX12_watching 15 = .ok (.aload_n 0, 1) := by decide +kernel
theorem dX12_watching_16 : decode cX12_watching 16 = .ok (.getfield 115, 3) := by decide +kernel
theorem dX12_watching_19 : decode cX12_watching 19 = .ok (.iaload, 1) := by decide +kernel
theorem dX12_watching_20 : decode cX12_watching 20 = .ok (.invokevirtual 354, 3) := by decide +kernel
theorem dX12_watching_23 : decode cX12_watching 23 = .ok (.istore_n 1, 1) := by decide +kernel
theorem dX12_watching_24 : decode cX12_watching 24 = .ok (.aload_n 0, 1) := by decide +kernel
theorem dX12_watching_25 : decode cX12_watching 25 = .ok (.getfield 36, 3) := by decide +kernel
theorem dX12_watching_28 : decode cX12_watching 28 = .ok (.ifCond .ne 18, 3) := by decide +kernel
theorem dX12_watching_31 : decode cX12_watching 31 = .ok (.aload_n 0, 1) := by decide +kernel
theorem dX12_watching_32 : decode cX12_watching 32 = .ok (.getfield 75, 3) := by decide +kernel
theorem dX12_watching_35 : decode cX12_watching 35 = .ok (.aload_n 0, 1) := by decide +kernel
theorem dX12_watching_36 : decode cX12_watching 36 = .ok (.getfield 115, 3) := by decide +kernel
theorem dX12_watching_39 : decode cX12_watching 39 = .ok (.dup2, 1) := by decide +kernel
theorem dX12_watching_40 : decode cX12_watching 40 = .ok (.iaload, 1) := by decide +kernel
theorem dX12_watching_41 : decode cX12_watching 41 = .ok (.iconst 1, 1) := by decide +kernel
theorem dX12_watching_42 : decode cX12_watching 42 = .ok (.iload_n 1, 1) := by decide +kernel
theorem dX12_watching_43 : decode cX12_watching 43 = .ok (.ishl, 1) := by decide +kernel
theorem dX12_watching_44 : decode cX12_watching 44 = .ok (.ior, 1) := by decide +kernel
theorem dX12_watching_45 : decode cX12_watching 45 = .ok (.iastore, 1) := by decide +kernel
theorem dX12_watching_46 : decode cX12_watching 46 = .ok (.return_, 1) := by decide +kernel
theorem dX12_framing_0 : decode cX12_framing 0 = .ok (.aload_n 0, 1) := by decide +kernel
theorem dX12_framing_1 : decode cX12_framing 1 = .ok (.aload_n 0, 1) := by decide +kernel
theorem dX12_framing_2 : decode cX12_framing 2 = .ok (.getfield 78, 3) := by decide +kernel
theorem dX12_framing_5 : decode cX12_framing 5 = .ok (.aload_n 0, 1) := by decide +kernel
theorem dX12_framing_6 : decode cX12_framing 6 = .ok (.getfield 115, 3) := by decide +kernel
theorem dX12_framing_9 : decode cX12_framing 9 = .ok (.iaload, 1) := by decide +kernel
theorem dX12_framing_10 : decode cX12_framing 10 = .ok (.bipush 8, 2) := by decide +kernel
theorem dX12_framing_12 : decode cX12_framing 12 = .ok (.if_icmp .ne 7, 3) := by decide +kernel
theorem dX12_framing_15 : decode cX12_framing 15 = .ok (.iconst 1, 1) := by decide +kernel
theorem dX12_framing_16 : decode cX12_framing 16 = .ok (.goto 4, 3) := by decide +kernel
theorem dX12_framing_19 : decode cX12_framing 19 = .ok (.iconst 0, 1) := by decide +kernel
theorem dX12_framing_20 : decode cX12_framing 20 = .ok (.invokevirtual 346, 3) := by decide +kernel
theorem dX12_framing_23 : decode cX12_framing 23 = .ok (.ifCond .ne 4, 3) := by decide +kernel
theorem dX12_framing_26 : decode cX12_framing 26 = .ok (.return_, 1) := by decide +kernel
theorem dX12_framing_27 : decode cX12_framing 27 = .ok (.bipush 8, 2) := by decide +kernel
theorem dX12_framing_29 : decode cX12_framing 29 = .ok (.aload_n 0, 1) := by decide +kernel
theorem dX12_framing_30 : decode cX12_framing 30 = .ok (.getfield 115, 3) := by decide +kernel
theorem dX12_framing_33 : decode cX12_framing 33 = .ok (.imul, 1) := by decide +kernel
theorem dX12_framing_34 : decode cX12_framing 34 = .ok (.aload_n 0, 1) := by decide +kernel
theorem dX12_framing_35 : decode cX12_framing 35 = .ok (.getfield 78, 3) := by decide +kernel
theorem dX12_framing_38 : decode cX12_framing 38 = .ok (.aload_n 0, 1) := by decide +kernel
theorem dX12_framing_39 : decode cX12_framing 39 = .ok (.getfield 115, 3) := by decide +kernel
theorem dX12_framing_42 : decode cX12_framing 42 = .ok (.iaload, 1) := by decide +kernel
theorem dX12_framing_43 : decode cX12_framing 43 = .ok (.iadd, 1) := by decide +kernel
theorem dX12_framing_44 : decode cX12_framing 44 = .ok (.istore_n 1, 1) := by decide +kernel
theorem dX12_framing_45 : decode cX12_framing 45 = .ok (.aload_n 0, 1) := by decide +kernel
theorem dX12_framing_46 : decode cX12_framing 46 = .ok (.getfield 81, 3) := by decide +kernel
theorem dX12_framing_49 : decode cX12_framing 49 = .ok (.iload_n 1, 1) := by decide +kernel
theorem dX12_framing_50 : decode cX12_framing 50 = .ok (.aload_n 0, 1) := by decide +kernel
theorem dX12_framing_51 : decode cX12_framing 51 = .ok (.iconst 1, 1) := by decide +kernel
theorem dX12_framing_52 : decode cX12_framing 52 = .ok (.bipush 8, 2) := by decide +kernel
theorem dX12_framing_54 : decode cX12_framing 54 = .ok (.invokevirtual 365, 3) := by decide +kernel
theorem dX12_framing_57 : decode cX12_framing 57 = .ok (.iastore, 1) := by decide +kernel
theorem dX12_framing_58 : decode cX12_framing 58 = .ok (.iconst 0, 1) := by decide +kernel
theorem dX12_framing_59 : decode cX12_framing 59 = .ok (.istore_n 2, 1) := by decide +kernel
theorem dX12_framing_60 : decode cX12_framing 60 = .ok (.bipush 8, 2) := by decide +kernel
theorem dX12_framing_62 : decode cX12_framing 62 = .ok (.aload_n 0, 1) := by decide +kernel
theorem dX12_framing_63 : decode cX12_framing 63 = .ok (.getfield 115, 3) := by decide +kernel
theorem dX12_framing_66 : decode cX12_framing 66 = .ok (.imul, 1) := by decide +kernel
theorem dX12_framing_67 : decode cX12_framing 67 = .ok (.istore_n 3, 1) := by decide +kernel
theorem dX12_framing_68 : decode cX12_framing 68 = .ok (.iload_n 3, 1) := by decide +kernel
theorem dX12_framing_69 : decode cX12_framing 69 = .ok (.iload_n 1, 1) := by decide +kernel
theorem dX12_framing_70 : decode cX12_framing 70 = .ok (.if_icmp .ge 39, 3) := by decide +kernel
theorem dX12_framing_73 : decode cX12_framing 73 = .ok (.iload_n 2, 1) := by decide +kernel
theorem dX12_framing_74 : decode cX12_framing 74 = .ok (.aload_n 0, 1) := by decide +kernel
theorem dX12_framing_75 : decode cX12_framing 75 = .ok (.getfield 81, 3) := by decide +kernel
theorem dX12_framing_78 : decode cX12_framing 78 = .ok (.iload_n 3, 1) := by decide +kernel
theorem dX12_framing_79 : decode cX12_framing 79 = .ok (.iaload, 1) := by decide +kernel
theorem dX12_framing_80 : decode cX12_framing 80 = .ok (.aload_n 0, 1) := by decide +kernel
theorem dX12_framing_81 : decode cX12_framing 81 = .ok (.getfield 81, 3) := by decide +kernel
theorem dX12_framing_84 : decode cX12_framing 84 = .ok (.iload_n 1, 1) := by decide +kernel
theorem dX12_framing_85 : decode cX12_framing 85 = .ok (.iaload, 1) := by decide +kernel
theorem dX12_framing_86 : decode cX12_framing 86 = .ok (.if_icmp .ne 14, 3) := by decide +kernel
theorem dX12_framing_89 : decode cX12_framing 89 = .ok (.iconst 1, 1) := by decide +kernel
theorem dX12_framing_90 : decode cX12_framing 90 = .ok (.aload_n 0, 1) := by decide +kernel
theorem dX12_framing_91 : decode cX12_framing 91 = .ok (.getfield 84, 3) := by decide +kernel
theorem dX12_framing_94 : decode cX12_framing 94 = .ok (.iload_n 3, 1) := by decide +kernel
theorem dX12_framing_95 : decode cX12_framing 95 = .ok (.iaload, 1) := by decide +kernel
theorem dX12_framing_96 : decode cX12_framing 96 = .ok (.ishl, 1) := by decide +kernel
theorem dX12_framing_97 : decode cX12_framing 97 = .ok (.goto 4, 3) := by decide +kernel
theorem dX12_framing_100 : decode cX12_framing 100 = .ok (.iconst 0, 1) := by decide +kernel
theorem dX12_framing_101 : decode cX12_framing 101 = .ok (.ior, 1) := by decide +kernel
theorem dX12_framing_102 : decode cX12_framing 102 = .ok (.istore_n 2, 1) := by decide +kernel
theorem dX12_framing_103 : decode cX12_framing 103 = .ok (.iinc 3 1, 3) := by decide +kernel
theorem dX12_framing_106 : decode cX12_framing 106 = .ok (.goto (-38), 3) := by decide +kernel
theorem dX12_framing_109 : decode cX12_framing 109 = .ok (.aload_n 0, 1) := by decide +kernel
theorem dX12_framing_110 : decode cX12_framing 110 = .ok (.getfield 84, 3) := by decide +kernel
theorem dX12_framing_113 : decode cX12_framing 113 = .ok (.iload_n 1, 1) := by decide +kernel
theorem dX12_framing_114 : decode cX12_framing 114 = .ok (.aload_n 0, 1) := by decide +kernel
theorem dX12_framing_115 : decode cX12_framing 115 = .ok (.iconst 0, 1) := by decide +kernel
theorem dX12_framing_116 : decode cX12_framing 116 = .ok (.iload_n 2, 1) := by decide +kernel
theorem dX12_framing_117 : decode cX12_framing 117 = .ok (.invokevirtual 354, 3) := by decide +kernel
theorem dX12_framing_120 : decode cX12_framing 120 = .ok (.iastore, 1) := by decide +kernel
theorem dX12_framing_121 : decode cX12_framing 121 = .ok (.aload_n 0, 1) := by decide +kernel
theorem dX12_framing_122 : decode cX12_framing 122 = .ok (.getfield 87, 3) := by decide +kernel
theorem dX12_framing_125 : decode cX12_framing 125 = .ok (.iload_n 1, 1) := by decide +kernel
theorem dX12_framing_126 : decode cX12_framing 126 = .ok (.aload_n 0, 1) := by decide +kernel
theorem dX12_framing_127 : decode cX12_framing 127 = .ok (.iconst 0, 1) := by decide +kernel
theorem dX12_framing_128 : decode cX12_framing 128 = .ok (.bipush 6, 2) := by decide +kernel
theorem dX12_framing_130 : decode cX12_framing 130 = .ok (.invokevirtual 365, 3) := by decide +kernel
theorem dX12_framing_133 : decode cX12_framing 133 = .ok (.iastore, 1) := by decide +kernel
theorem dX12_framing_134 : decode cX12_framing 134 = .ok (.aload_n 0, 1) := by decide +kernel
theorem dX12_framing_135 : decode cX12_framing 135 = .ok (.getfield 36, 3) := by decide +kernel
theorem dX12_framing_138 : decode cX12_framing 138 = .ok (.ifCond .ne 16, 3) := by decide +kernel
theorem dX12_framing_141 : decode cX12_framing 141 = .ok (.aload_n 0, 1) := by decide +kernel
theorem dX12_framing_142 : decode cX12_framing 142 = .ok (.getfield 78, 3) := by decide +kernel
theorem dX12_framing_145 : decode cX12_framing 145 = .ok (.aload_n 0, 1) := by decide +kernel
theorem dX12_framing_146 : decode cX12_framing 146 = .ok (.getfield 115, 3) := by decide +kernel
theorem dX12_framing_149 : decode cX12_framing 149 = .ok (.dup2, 1) := by decide +kernel
theorem dX12_framing_150 : decode cX12_framing 150 = .ok (.iaload, 1) := by decide +kernel
theorem dX12_framing_151 : decode cX12_framing 151 = .ok (.iconst 1, 1) := by decide +kernel
theorem dX12_framing_152 : decode cX12_framing 152 = .ok (.iadd, 1) := by decide +kernel
theorem dX12_framing_153 : decode cX12_framing 153 = .ok (.iastore, 1) := by decide +kernel
theorem dX12_framing_154 : decode cX12_framing 154 = .ok (.return_, 1) := by decide +kernel
theorem dX12_reading_0 : decode cX12_reading 0 = .ok (.iconst 2, 1) := by decide +kernel
theorem dX12_reading_1 : decode cX12_reading 1 = .ok (.aload_n 0, 1) := by decide +kernel
theorem dX12_reading_2 : decode cX12_reading 2 = .ok (.getfield 115, 3) := by decide +kernel
theorem dX12_reading_5 : decode cX12_reading 5 = .ok (.imul, 1) := by decide +kernel
theorem dX12_reading_6 : decode cX12_reading 6 = .ok (.iload_n 1, 1) := by decide +kernel
theorem dX12_reading_7 : decode cX12_reading 7 = .ok (.iadd, 1) := by decide +kernel
theorem dX12_reading_8 : decode cX12_reading 8 = .ok (.istore_n 2, 1) := by decide +kernel
theorem dX12_reading_9 : decode cX12_reading 9 = .ok (.aload_n 0, 1) := by decide +kernel
theorem dX12_reading_10 : decode cX12_reading 10 = .ok (.aload_n 0, 1) := by decide +kernel
theorem dX12_reading_11 : decode cX12_reading 11 = .ok (.getfield 93, 3) := by decide +kernel
theorem dX12_reading_14 : decode cX12_reading 14 = .ok (.iload_n 2, 1) := by decide +kernel
theorem dX12_reading_15 : decode cX12_reading 15 = .ok (.iaload, 1) := by decide +kernel
theorem dX12_reading_16 : decode cX12_reading 16 = .ok (.iconst (-1), 1) := by decide +kernel
theorem dX12_reading_17 : decode cX12_reading 17 = .ok (.if_icmp .eq 7, 3) := by decide +kernel
theorem dX12_reading_20 : decode cX12_reading 20 = .ok (.iconst 1, 1) := by decide +kernel
theorem dX12_reading_21 : decode cX12_reading 21 = .ok (.goto 4, 3) := by decide +kernel
theorem dX12_reading_24 : decode cX12_reading 24 = .ok (.iconst 0, 1) := by decide +kernel
theorem dX12_reading_25 : decode cX12_reading 25 = .ok (.invokevirtual 346, 3) := by decide +kernel
theorem dX12_reading_28 : decode cX12_reading 28 = .ok (.ifCond .ne 4, 3) := by decide +kernel
theorem dX12_reading_31 : decode cX12_reading 31 = .ok (.return_, 1) := by decide +kernel
theorem dX12_reading_32 : decode cX12_reading 32 = .ok (.aload_n 0, 1) := by decide +kernel
theorem dX12_reading_33 : decode cX12_reading 33 = .ok (.iload_n 1, 1) := by decide +kernel
theorem dX12_reading_34 : decode cX12_reading 34 = .ok (.iconst 1, 1) := by decide +kernel
theorem dX12_reading_35 : decode cX12_reading 35 = .ok (.if_icmp .ne 7, 3) := by decide +kernel
theorem dX12_reading_38 : decode cX12_reading 38 = .ok (.iconst 1, 1) := by decide +kernel
theorem dX12_reading_39 : decode cX12_reading 39 = .ok (.goto 4, 3) := by decide +kernel
theorem dX12_reading_42 : decode cX12_reading 42 = .ok (.iconst 0, 1) := by decide +kernel
theorem dX12_reading_43 : decode cX12_reading 43 = .ok (.putfield 118, 3) := by decide +kernel
theorem dX12_reading_46 : decode cX12_reading 46 = .ok (.aload_n 0, 1) := by decide +kernel
theorem dX12_reading_47 : decode cX12_reading 47 = .ok (.getfield 93, 3) := by decide +kernel
theorem dX12_reading_50 : decode cX12_reading 50 = .ok (.iload_n 2, 1) := by decide +kernel
theorem dX12_reading_51 : decode cX12_reading 51 = .ok (.aload_n 0, 1) := by decide +kernel
theorem dX12_reading_52 : decode cX12_reading 52 = .ok (.getfield 112, 3) := by decide +kernel
theorem dX12_reading_55 : decode cX12_reading 55 = .ok (.iastore, 1) := by decide +kernel
theorem dX12_reading_56 : decode cX12_reading 56 = .ok (.aload_n 0, 1) := by decide +kernel
theorem dX12_reading_57 : decode cX12_reading 57 = .ok (.iload_n 1, 1) := by decide +kernel
theorem dX12_reading_58 : decode cX12_reading 58 = .ok (.ifCond .ne 7, 3) := by decide +kernel
theorem dX12_reading_61 : decode cX12_reading 61 = .ok (.iconst 1, 1) := by decide +kernel
theorem dX12_reading_62 : decode cX12_reading 62 = .ok (.goto 4, 3) := by decide +kernel
theorem dX12_reading_65 : decode cX12_reading 65 = .ok (.iconst 0, 1) := by decide +kernel
theorem dX12_reading_66 : decode cX12_reading 66 = .ok (.invokevirtual 368, 3) := by decide +kernel
theorem dX12_reading_69 : decode cX12_reading 69 = .ok (.aload_n 0, 1) := by decide +kernel
theorem dX12_reading_70 : decode cX12_reading 70 = .ok (.getfield 96, 3) := by decide +kernel
theorem dX12_reading_73 : decode cX12_reading 73 = .ok (.iload_n 2, 1) := by decide +kernel
theorem dX12_reading_74 : decode cX12_reading 74 = .ok (.aload_n 0, 1) := by decide +kernel
theorem dX12_reading_75 : decode cX12_reading 75 = .ok (.getfield 112, 3) := by decide +kernel
theorem dX12_reading_78 : decode cX12_reading 78 = .ok (.iastore, 1) := by decide +kernel
theorem dX12_reading_79 : decode cX12_reading 79 = .ok (.return_, 1) := by decide +kernel
theorem dX12_raining_0 : decode cX12_raining 0 = .ok (.aload_n 0, 1) := by decide +kernel
theorem dX12_raining_1 : decode cX12_raining 1 = .ok (.iconst 0, 1) := by decide +kernel
theorem dX12_raining_2 : decode cX12_raining 2 = .ok (.invokevirtual 346, 3) := by decide +kernel
theorem dX12_raining_5 : decode cX12_raining 5 = .ok (.ifCond .ne 4, 3) := by decide +kernel
theorem dX12_raining_8 : decode cX12_raining 8 = .ok (.return_, 1) := by decide +kernel
theorem dX12_raining_9 : decode cX12_raining 9 = .ok (.aload_n 0, 1) := by decide +kernel
theorem dX12_raining_10 : decode cX12_raining 10 = .ok (.iconst 0, 1) := by decide +kernel
theorem dX12_raining_11 : decode cX12_raining 11 = .ok (.bipush 100, 2) := by decide +kernel
theorem dX12_raining_13 : decode cX12_raining 13 = .ok (.invokevirtual 365, 3) := by decide +kernel
theorem dX12_raining_16 : decode cX12_raining 16 = .ok (.istore_n 1, 1) := by decide +kernel
theorem dX12_raining_17 : decode cX12_raining 17 = .ok (.aload_n 0, 1) := by decide +kernel
theorem dX12_raining_18 : decode cX12_raining 18 = .ok (.getfield 36, 3) := by decide +kernel
theorem dX12_raining_21 : decode cX12_raining 21 = .ok (.ifCond .ne 13, 3) := by decide +kernel
theorem dX12_raining_24 : decode cX12_raining 24 = .ok (.aload_n 0, 1) := by decide +kernel
theorem dX12_raining_25 : decode cX12_raining 25 = .ok (.getfield 90, 3) := by decide +kernel
theorem dX12_raining_28 : decode cX12_raining 28 = .ok (.aload_n 0, 1) := by decide +kernel
theorem dX12_raining_29 : decode cX12_raining 29 = .ok (.getfield 115, 3) := by decide +kernel
theorem dX12_raining_32 : decode cX12_raining 32 = .ok (.iload_n 1, 1) := by decide +kernel
theorem dX12_raining_33 : decode cX12_raining 33 = .ok (.iastore, 1) := by decide +kernel
theorem dX12_raining_34 : decode cX12_raining 34 = .ok (.return_, 1) := by decide +kernel
theorem dX12_statement_0 : decode cX12_statement 0 = .ok (.aload_n 0, 1) := by decide +kernel
theorem dX12_statement_1 : decode cX12_statement 1 = .ok (.invokevirtual 235, 3) := by decide +kernel
theorem dX12_statement_4 : decode cX12_statement 4 = .ok (.aload_n 0, 1) := by decide +kernel
theorem dX12_statement_5 : decode cX12_statement 5 = .ok (.getfield 36, 3) := by decide +kernel
theorem dX12_statement_8 : decode cX12_statement 8 = .ok (.ifCond .le 4, 3) := by decide +kernel
theorem dX12_statement_11 : decode cX12_statement 11 = .ok (.return_, 1) := by decide +kernel
theorem dX12_statement_12 : decode cX12_statement 12 = .ok (.aload_n 0, 1) := by decide +kernel
theorem dX12_statement_13 : decode cX12_statement 13 = .ok (.ldc2_w 244, 3) := by decide +kernel
theorem dX12_statement_16 : decode cX12_statement 16 = .ok (.invokevirtual 316, 3) := by decide +kernel
theorem dX12_statement_19 : decode cX12_statement 19 = .ok (.ifCond .eq 10, 3) := by decide +kernel
theorem dX12_statement_22 : decode cX12_statement 22 = .ok (.aload_n 0, 1) := by decide +kernel
theorem dX12_statement_23 : decode cX12_statement 23 = .ok (.invokevirtual 372, 3) := by decide +kernel
theorem dX12_statement_26 : decode cX12_statement 26 = .ok (.goto 133, 3) := by decide +kernel
theorem dX12_statement_29 : decode cX12_statement 29 = .ok (.aload_n 0, 1) := by decide +kernel
theorem dX12_statement_30 : decode cX12_statement 30 = .ok (.ldc2_w 246, 3) := by decide +kernel
theorem dX12_statement_33 : decode cX12_statement 33 = .ok (.invokevirtual 316, 3) := by decide +kernel
theorem dX12_statement_36 : decode cX12_statement 36 = .ok (.ifCond .eq 10, 3) := by decide +kernel
theorem dX12_statement_39 : decode cX12_statement 39 = .ok (.aload_n 0, 1) := by decide +kernel
theorem dX12_statement_40 : decode cX12_statement 40 = .ok (.invokevirtual 375, 3) := by decide +kernel
theorem dX12_statement_43 : decode cX12_statement 43 = .ok (.goto 116, 3) := by decide +kernel
theorem dX12_statement_46 : decode cX12_statement 46 = .ok (.aload_n 0, 1) := by decide +kernel
theorem dX12_statement_47 : decode cX12_statement 47 = .ok (.ldc2_w 250, 3) := by decide +kernel
theorem dX12_statement_50 : decode cX12_statement 50 = .ok (.invokevirtual 316, 3) := by decide +kernel
theorem dX12_statement_53 : decode cX12_statement 53 = .ok (.ifCond .eq 10, 3) := by decide +kernel
theorem dX12_statement_56 : decode cX12_statement 56 = .ok (.aload_n 0, 1) := by decide +kernel
theorem dX12_statement_57 : decode cX12_statement 57 = .ok (.invokevirtual 378, 3) := by decide +kernel
theorem dX12_statement_60 : decode cX12_statement 60 = .ok (.goto 99, 3) := by decide +kernel
theorem dX12_statement_63 : decode cX12_statement 63 = .ok (.aload_n 0, 1) := by decide +kernel
theorem dX12_statement_64 : decode cX12_statement 64 = .ok (.ldc2_w 256, 3) := by decide +kernel
theorem dX12_statement_67 : decode cX12_statement 67 = .ok (.invokevirtual 316, 3) := by decide +kernel
theorem dX12_statement_70 : decode cX12_statement 70 = .ok (.ifCond .eq 10, 3) := by decide +kernel
theorem dX12_statement_73 : decode cX12_statement 73 = .ok (.aload_n 0, 1) := by decide +kernel
theorem dX12_statement_74 : decode cX12_statement 74 = .ok (.invokevirtual 381, 3) := by decide +kernel
theorem dX12_statement_77 : decode cX12_statement 77 = .ok (.goto 82, 3) := by decide +kernel
theorem dX12_statement_80 : decode cX12_statement 80 = .ok (.aload_n 0, 1) := by decide +kernel
theorem dX12_statement_81 : decode cX12_statement 81 = .ok (.ldc2_w 258, 3) := by decide +kernel
theorem dX12_statement_84 : decode cX12_statement 84 = .ok (.invokevirtual 316, 3) := by decide +kernel
theorem dX12_statement_87 : decode cX12_statement 87 = .ok (.ifCond .eq 10, 3) := by decide +kernel
theorem dX12_statement_90 : decode cX12_statement 90 = .ok (.aload_n 0, 1) := by decide +kernel
theorem dX12_statement_91 : decode cX12_statement 91 = .ok (.invokevirtual 384, 3) := by decide +kernel
theorem dX12_statement_94 : decode cX12_statement 94 = .ok (.goto 65, 3) := by decide +kernel
theorem dX12_statement_97 : decode cX12_statement 97 = .ok (.aload_n 0, 1) := by decide +kernel
theorem dX12_statement_98 : decode cX12_statement 98 = .ok (.ldc2_w 260, 3) := by decide +kernel
theorem dX12_statement_101 : decode cX12_statement 101 = .ok (.invokevirtual 316, 3) := by decide +kernel
theorem dX12_statement_104 : decode cX12_statement 104 = .ok (.ifCond .eq 11, 3) := by decide +kernel
theorem dX12_statement_107 : decode cX12_statement 107 = .ok (.aload_n 0, 1) := by decide +kernel
theorem dX12_statement_108 : decode cX12_statement 108 = .ok (.iconst 0, 1) := by decide +kernel
theorem dX12_statement_109 : decode cX12_statement 109 = .ok (.invokevirtual 387, 3) := by decide +kernel
theorem dX12_statement_112 : decode cX12_statement 112 = .ok (.goto 47, 3) := by decide +kernel
theorem dX12_statement_115 : decode cX12_statement 115 = .ok (.aload_n 0, 1) := by decide +kernel
theorem dX12_statement_116 : decode cX12_statement 116 = .ok (.ldc2_w 262, 3) := by decide +kernel
theorem dX12_statement_119 : decode cX12_statement 119 = .ok (.invokevirtual 316, 3) := by decide +kernel
theorem dX12_statement_122 : decode cX12_statement 122 = .ok (.ifCond .eq 11, 3) := by decide +kernel
theorem dX12_statement_125 : decode cX12_statement 125 = .ok (.aload_n 0, 1) := by decide +kernel
theorem dX12_statement_126 : decode cX12_statement 126 = .ok (.iconst 1, 1) := by decide +kernel
theorem dX12_statement_127 : decode cX12_statement 127 = .ok (.invokevirtual 387, 3) := by decide +kernel
theorem dX12_statement_130 : decode cX12_statement 130 = .ok (.goto 29, 3) := by decide +kernel
theorem dX12_statement_133 : decode cX12_statement 133 = .ok (.aload_n 0, 1) := by decide +kernel
theorem dX12_statement_134 : decode cX12_statement 134 = .ok (.ldc2_w 264, 3) := by decide +kernel
theorem dX12_statement_137 : decode cX12_statement 137 = .ok (.invokevirtual 316, 3) := by decide +kernel
theorem dX12_statement_140 : decode cX12_statement 140 = .ok (.ifCond .eq 10, 3) := by decide +kernel
theorem dX12_statement_143 : decode cX12_statement 143 = .ok (.aload_n 0, 1) := by decide +kernel
theorem dX12_statement_144 : decode cX12_statement 144 = .ok (.invokevirtual 390, 3) := by decide +kernel
theorem dX12_statement_147 : decode cX12_statement 147 = .ok (.goto 12, 3) := by decide +kernel
theorem dX12_statement_150 : decode cX12_statement 150 = .ok (.aload_n 0, 1) := by decide +kernel
theorem dX12_statement_151 : decode cX12_statement 151 = .ok (.iconst 1, 1) := by decide +kernel
theorem dX12_statement_152 : decode cX12_statement 152 = .ok (.aload_n 0, 1) := by decide +kernel
theorem dX12_statement_153 : decode cX12_statement 153 = .ok (.getfield 23, 3) := by decide +kernel
theorem dX12_statement_156 : decode cX12_statement 156 = .ok (.invokevirtual 224, 3) := by decide +kernel
theorem dX12_statement_159 : decode cX12_statement 159 = .ok (.return_, 1) := by decide +kernel
theorem dX12_finishes_0 : decode cX12_finishes 0 = .ok (.aload_n 0, 1) := by decide +kernel
theorem dX12_finishes_1 : decode cX12_finishes 1 = .ok (.invokevirtual 235, 3) := by decide +kernel
theorem dX12_finishes_4 : decode cX12_finishes 4 = .ok (.aload_n 0, 1) := by decide +kernel
theorem dX12_finishes_5 : decode cX12_finishes 5 = .ok (.getfield 36, 3) := by decide +kernel
theorem dX12_finishes_8 : decode cX12_finishes 8 = .ok (.ifCond .le 4, 3) := by decide +kernel
theorem dX12_finishes_11 : decode cX12_finishes 11 = .ok (.return_, 1) := by decide +kernel
theorem dX12_finishes_12 : decode cX12_finishes 12 = .ok (.aload_n 0, 1) := by decide +kernel
theorem dX12_finishes_13 : decode cX12_finishes 13 = .ok (.getfield 26, 3) := by decide +kernel
theorem dX12_finishes_16 : decode cX12_finishes 16 = .ok (.istore_n 2, 1) := by decide +kernel
theorem dX12_finishes_17 : decode cX12_finishes 17 = .ok (.iload_n 2, 1) := by decide +kernel
theorem dX12_finishes_18 : decode cX12_finishes 18 = .ok (.aload_n 0, 1) := by decide +kernel
theorem dX12_finishes_19 : decode cX12_finishes 19 = .ok (.getfield 17, 3) := by decide +kernel
theorem dX12_finishes_22 : decode cX12_finishes 22 = .ok (.if_icmp .ge 31, 3) := by decide +kernel
theorem dX12_finishes_25 : decode cX12_finishes 25 = .ok (.aload_n 0, 1) := by decide +kernel
theorem dX12_finishes_26 : decode cX12_finishes 26 = .ok (.getfield 7, 3) := by decide +kernel
theorem dX12_finishes_29 : decode cX12_finishes 29 = .ok (.iload_n 2, 1) := by decide +kernel
theorem dX12_finishes_30 : decode cX12_finishes 30 = .ok (.iaload, 1) := by decide +kernel
theorem dX12_finishes_31 : decode cX12_finishes 31 = .ok (.bipush 32, 2) := by decide +kernel
theorem dX12_finishes_33 : decode cX12_finishes 33 = .ok (.if_icmp .eq 14, 3) := by decide +kernel
theorem dX12_finishes_36 : decode cX12_finishes 36 = .ok (.aload_n 0, 1) := by decide +kernel
theorem dX12_finishes_37 : decode cX12_finishes 37 = .ok (.getfield 7, 3) := by decide +kernel
theorem dX12_finishes_40 : decode cX12_finishes 40 = .ok (.iload_n 2, 1) := by decide +kernel
theorem dX12_finishes_41 : decode cX12_finishes 41 = .ok (.iaload, 1) := by decide +kernel
theorem dX12_finishes_42 : decode cX12_finishes 42 = .ok (.bipush 10, 2) := by decide +kernel
theorem dX12_finishes_44 : decode cX12_finishes 44 = .ok (.if_icmp .ne 9, 3) := by decide +kernel
theorem dX12_finishes_47 : decode cX12_finishes 47 = .ok (.iinc 2 1, 3) := by decide +kernel
theorem dX12_finishes_50 : decode cX12_finishes 50 = .ok (.goto (-33), 3) := by decide +kernel
theorem dX12_finishes_53 : decode cX12_finishes 53 = .ok (.aload_n 0, 1) := by decide +kernel
theorem dX12_finishes_54 : decode cX12_finishes 54 = .ok (.bipush 59, 2) := by decide +kernel
theorem dX12_finishes_56 : decode cX12_finishes 56 = .ok (.invokevirtual 238, 3) := by decide +kernel
theorem dX12_finishes_59 : decode cX12_finishes 59 = .ok (.ifCond .eq 24, 3) := by decide +kernel
theorem dX12_finishes_62 : decode cX12_finishes 62 = .ok (.iload_n 1, 1) := by decide +kernel
theorem dX12_finishes_63 : decode cX12_finishes 63 = .ok (.bipush 80, 2) := by decide +kernel
theorem dX12_finishes_65 : decode cX12_finishes 65 = .ok (.if_icmp .ne 18, 3) := by decide +kernel
theorem dX12_finishes_68 : decode cX12_finishes 68 = .ok (.iload_n 2, 1) := by decide +kernel
theorem dX12_finishes_69 : decode cX12_finishes 69 = .ok (.aload_n 0, 1) := by decide +kernel
theorem dX12_finishes_70 : decode cX12_finishes 70 = .ok (.getfield 17, 3) := by decide +kernel
theorem dX12_finishes_73 : decode cX12_finishes 73 = .ok (.if_icmp .ge 10, 3) := by decide +kernel
theorem dX12_finishes_76 : decode cX12_finishes 76 = .ok (.aload_n 0, 1) := by decide +kernel
theorem dX12_finishes_77 : decode cX12_finishes 77 = .ok (.bipush 6, 2) := by decide +kernel
theorem dX12_finishes_79 : decode cX12_finishes 79 = .ok (.iload_n 2, 1) := by decide +kernel
theorem dX12_finishes_80 : decode cX12_finishes 80 = .ok (.invokevirtual 224, 3) := by decide +kernel
theorem dX12_finishes_83 : decode cX12_finishes 83 = .ok (.aload_n 0, 1) := by decide +kernel
theorem dX12_finishes_84 : decode cX12_finishes 84 = .ok (.bipush 59, 2) := by decide +kernel
theorem dX12_finishes_86 : decode cX12_finishes 86 = .ok (.invokevirtual 393, 3) := by decide +kernel
theorem dX12_finishes_89 : decode cX12_finishes 89 = .ok (.return_, 1) := by decide +kernel
set_option maxRecDepth 20000 in
theorem w_X12_reads_J86 {Y : YT} {X : CX} (C : Cx Y X cX12_reads 3 RX12 5) {Q : Mem → Prop} (hR : Rt Y X none (PQv Y Q)) {s0 : Int} {k43 : Int → Mem → Prop} (hk43 : ∀ (v2 : Int)  (M : Mem), k43 v2 M → G Y X 3 43 [(0, vR Y 199), (2, vI v2)] ([]) M) {M : Mem}  (h : m_X12_reads_J86 k43 Q s0 M) : G Y X 3 86 [(0, vR Y 199)] ((vI s0) :: []) M := by
  unfold m_X12_reads_J86 at h
  refine g_istore_n (lv' := [(2, vI s0), (0, vR Y 199)]) C dX12_reads_86 rfl (by decide) rfl ?_
  refine g_goto (tgt := 43) C dX12_reads_87 (by decide) ?_
  refine G.sub [1, 0] rfl ?_
  exact hk43 _ _ h
set_option maxRecDepth 20000 in
theorem w_X12_reads_J85 {Y : YT} {X : CX} (C : Cx Y X cX12_reads 3 RX12 5) {Q : Mem → Prop} (hR : Rt Y X none (PQv Y Q))  {k43 : Int → Mem → Prop} (hk43 : ∀ (v2 : Int)  (M : Mem), k43 v2 M → G Y X 3 43 [(0, vR Y 199), (2, vI v2)] ([]) M) {M : Mem}  (h : m_X12_reads_J85 k43 Q  M) : G Y X 3 85 [(0, vR Y 199)] ([]) M := by
  unfold m_X12_reads_J85 at h
  refine g_iconst C dX12_reads_85 rfl ?_
  refine G.sub [0] rfl ?_
  exact w_X12_reads_J86 C hR (hk43)  h
set_option maxRecDepth 20000 in
theorem w_X12_reads_J70 {Y : YT} {X : CX} (C : Cx Y X cX12_reads 3 RX12 5) {Q : Mem → Prop} (hR : Rt Y X none (PQv Y Q)) {v2 : Int} {k43 : Int → Mem → Prop} (hk43 : ∀ (v2 : Int)  (M : Mem), k43 v2 M → G Y X 3 43 [(0, vR Y 199), (2, vI v2)] ([]) M) {M : Mem}  (h : m_X12_reads_J70 k43 Q v2 M) : G Y X 3 70 [(0, vR Y 199), (2, vI v2)] ([]) M := by
  unfold m_X12_reads_J70 at h
  refine g_iload_n (q := 1) C dX12_reads_70 rfl rfl ?_
  obtain ⟨g1, h⟩ := h
  obtain ⟨ht, hf⟩ := h
  refine g_if_eq (tgt := 85) C dX12_reads_71 (by decide) g1 (fun c => ?_) (fun c => ?_)
  · have h := ht c
    refine G.sub [0] rfl ?_
    exact w_X12_reads_J85 C hR (hk43)  h
  · have h := hf c
    refine g_aload_n (q := 0) C dX12_reads_74 rfl rfl ?_
    refine g_getI C fX12_36 (by decide) dX12_reads_75 kd_199 ?_
    obtain ⟨g2, h⟩ := h
    obtain ⟨ht, hf⟩ := h
    refine g_if_ne (tgt := 85) C dX12_reads_78 (by decide) g2 (fun c => ?_) (fun c => ?_)
    · have h := hf c
      refine G.sub [0] rfl ?_
      exact w_X12_reads_J85 C hR (hk43)  h
    · have h := ht c
      refine g_iconst C dX12_reads_81 rfl ?_
      refine g_goto (tgt := 86) C dX12_reads_82 (by decide) ?_
      refine G.sub [0] rfl ?_
      exact w_X12_reads_J86 C hR (hk43)  h
set_option maxRecDepth 20000 in
theorem w_X12_reads_L43 {Y : YT} {X : CX} (C : Cx Y X cX12_reads 3 RX12 5) {Q : Mem → Prop} (hR : Rt Y X none (PQv Y Q))   : ∀ (f : Nat) (v2 : Int) (M : Mem), m_X12_reads_L43  Q f v2 M → G Y X 3 43 [(0, vR Y 199), (2, vI v2)] ([]) M := by
  intro f
  induction f with
  | zero =>
    intro v2 M h
    exact (show False from h).elim
  | succ f ih =>
    intro v2 M h
    unfold m_X12_reads_L43 at h
    refine g_iload_n (q := 1) C dX12_reads_43 rfl rfl ?_
    obtain ⟨g3, h⟩ := h
    obtain ⟨ht, hf⟩ := h
    refine g_if_eq (tgt := 90) C dX12_reads_44 (by decide) g3 (fun c => ?_) (fun c => ?_)
    · have h := ht c
      exact g_retv C hR dX12_reads_90 h
    · have h := hf c
      refine g_aload_n (q := 0) C dX12_reads_47 rfl rfl ?_
      refine g_getI C fX12_150 (by decide) dX12_reads_48 kd_199 ?_
      obtain ⟨g4, h⟩ := h
      obtain ⟨ht, hf⟩ := h
      refine g_if_ne (tgt := 65) C dX12_reads_51 (by decide) g4 (fun c => ?_) (fun c => ?_)
      · have h := hf c
        refine g_aload_n (q := 0) C dX12_reads_65 rfl rfl ?_
        refine g_cVi (As := []) C clX12_332 clvX12_goesOn dX12_reads_66 kd_199 rfl (Nat.le_of_ble_eq_true rfl) rfl (by decide) (t_X12_goesOn (Cx.ok C) h) (fun r6 M5 h => ?_)
        refine g_istore_n (lv' := [(2, vI r6), (0, vR Y 199)]) C dX12_reads_69 rfl (by decide) rfl ?_
        refine G.sub [1, 0] rfl ?_
        exact w_X12_reads_J70 C hR (ih)  h
      · have h := ht c
        refine g_aload_n (q := 0) C dX12_reads_54 rfl rfl ?_
        refine g_aload_n (q := 0) C dX12_reads_55 rfl rfl ?_
        refine g_cVi (As := []) C clX12_329 clvX12_operand dX12_reads_56 kd_199 rfl (Nat.le_of_ble_eq_true rfl) rfl (by decide) (t_X12_operand (Cx.ok C) h) (fun r8 M7 h => ?_)
        obtain ⟨g9, h⟩ := h
        obtain ⟨M10, e_M10⟩ : ∃ z : Mem, z = up M7 199 45 r8 := ⟨_, rfl⟩
        have h := h M10 e_M10
        refine g_putZ C fX12_150 pX12_150 dX12_reads_59 kd_199 g9 e_M10 ?_
        refine g_goto (tgt := 70) C dX12_reads_62 (by decide) ?_
        refine G.sub [0, 1] rfl ?_
        exact w_X12_reads_J70 C hR (ih)  h
set_option maxRecDepth 20000 in
theorem w_X12_reads_J38 {Y : YT} {X : CX} (C : Cx Y X cX12_reads 3 RX12 5) {Q : Mem → Prop} (hR : Rt Y X none (PQv Y Q)) {s1 : Int}  {M : Mem}  (h : m_X12_reads_J38  Q s1 M) : G Y X 3 38 [(0, vR Y 199)] ((vI s1) :: (vR Y 199) :: []) M := by
  unfold m_X12_reads_J38 at h
  refine g_cVv (As := [vI s1]) C clX12_310 clvX12_pushes dX12_reads_38 kd_199 rfl (Nat.le_of_ble_eq_true rfl) rfl (by decide) (t_X12_pushes (Cx.ok C) h) (fun M11 h => ?_)
  refine g_iconst C dX12_reads_41 rfl ?_
  refine g_istore_n (lv' := [(2, vI 1), (0, vR Y 199)]) C dX12_reads_42 rfl (by decide) rfl ?_
  obtain ⟨f0, h⟩ := h
  refine G.sub [1, 0] rfl ?_
  exact w_X12_reads_L43 C hR  f0 _ _ h
set_option maxRecDepth 20000 in
theorem t_X12_reads {l : Launch} {Y : YT} (hY : YOK Y) {a0 : Int} {M : Mem} {Q : Mem → Prop} (h : m_X12_reads a0 M Q) : Ctr l Y yX12_reads cX12_reads 3 none 5 [vR Y 199, vI a0] M (PQv Y Q) := by
  unfold m_X12_reads at h
  refine ctr_ofF hY (by decide +kernel) (Nat.le_of_ble_eq_true rfl) [(0, vR Y 199), (1, vI a0)] rfl (fun X hX C hR => ?_)
  refine g_aload_n (q := 0) C dX12_reads_0 rfl rfl ?_
  refine g_getI C fX12_36 (by decide) dX12_reads_1 kd_199 ?_
  obtain ⟨g12, h⟩ := h
  obtain ⟨ht, hf⟩ := h
  refine g_if_le (tgt := 8) C dX12_reads_4 (by decide) g12 (fun c => ?_) (fun c => ?_)
  · have h := ht c
    refine g_aload_n (q := 0) C dX12_reads_8 rfl rfl ?_
    refine g_iconst C dX12_reads_9 rfl ?_
    obtain ⟨M13, e_M13⟩ : ∃ z : Mem, z = up M 199 41 0 := ⟨_, rfl⟩
    have h := h M13 e_M13
    refine g_putI C fX12_138 pX12_138 dX12_reads_10 kd_199 e_M13 ?_
    refine g_aload_n (q := 0) C dX12_reads_13 rfl rfl ?_
    refine g_iconst C dX12_reads_14 rfl ?_
    obtain ⟨M14, e_M14⟩ : ∃ z : Mem, z = up M13 199 42 0 := ⟨_, rfl⟩
    have h := h M14 e_M14
    refine g_putI C fX12_141 pX12_141 dX12_reads_15 kd_199 e_M14 ?_
    refine g_aload_n (q := 0) C dX12_reads_18 rfl rfl ?_
    refine g_iconst C dX12_reads_19 rfl ?_
    obtain ⟨M15, e_M15⟩ : ∃ z : Mem, z = up M14 199 44 0 := ⟨_, rfl⟩
    have h := h M15 e_M15
    refine g_putI C fX12_147 pX12_147 dX12_reads_20 kd_199 e_M15 ?_
    refine g_aload_n (q := 0) C dX12_reads_23 rfl rfl ?_
    refine g_iconst C dX12_reads_24 rfl ?_
    obtain ⟨M16, e_M16⟩ : ∃ z : Mem, z = up M15 199 45 0 := ⟨_, rfl⟩
    have h := h M16 e_M16
    refine g_putZ C fX12_150 pX12_150 dX12_reads_25 kd_199 (by decide) e_M16 ?_
    refine g_aload_n (q := 0) C dX12_reads_28 rfl rfl ?_
    refine g_iload_n (q := 1) C dX12_reads_29 rfl rfl ?_
    obtain ⟨g17, h⟩ := h
    obtain ⟨ht, hf⟩ := h
    refine g_if_eq (tgt := 37) C dX12_reads_30 (by decide) g17 (fun c => ?_) (fun c => ?_)
    · have h := ht c
      refine g_iconst C dX12_reads_37 rfl ?_
      refine G.sub [0] rfl ?_
      exact w_X12_reads_J38 C hR  h
    · have h := hf c
      refine g_iconst C dX12_reads_33 rfl ?_
      refine g_goto (tgt := 38) C dX12_reads_34 (by decide) ?_
      refine G.sub [0] rfl ?_
      exact w_X12_reads_J38 C hR  h
  · have h := hf c
    exact g_retv C hR dX12_reads_7 h
set_option maxRecDepth 20000 in
theorem w_X12_counts_J44 {Y : YT} {X : CX} (C : Cx Y X cX12_counts 2 RX12 3) {Q : Int → Mem → Prop} (hR : Rt Y X (some .boolean) (PQi Y Q)) {s0 : Int}  {M : Mem}  (h : m_X12_counts_J44  Q s0 M) : G Y X 2 44 [] ((vI s0) :: []) M := by
  unfold m_X12_counts_J44 at h
  obtain ⟨g1, h⟩ := h
  exact g_retz C hR dX12_counts_44 g1 h
set_option maxRecDepth 20000 in
theorem w_X12_counts_J32 {Y : YT} {X : CX} (C : Cx Y X cX12_counts 2 RX12 3) {Q : Int → Mem → Prop} (hR : Rt Y X (some .boolean) (PQi Y Q))   {M : Mem}  (h : m_X12_counts_J32  Q  M) : G Y X 2 32 [(0, vR Y 199)] ([]) M := by
  unfold m_X12_counts_J32 at h
  refine g_aload_n (q := 0) C dX12_counts_32 rfl rfl ?_
  refine g_getI C fX12_36 (by decide) dX12_counts_33 kd_199 ?_
  obtain ⟨g2, h⟩ := h
  obtain ⟨ht, hf⟩ := h
  refine g_if_ne (tgt := 43) C dX12_counts_36 (by decide) g2 (fun c => ?_) (fun c => ?_)
  · have h := hf c
    refine g_iconst C dX12_counts_43 rfl ?_
    refine G.sub [] rfl ?_
    exact w_X12_counts_J44 C hR  h
  · have h := ht c
    refine g_iconst C dX12_counts_39 rfl ?_
    refine g_goto (tgt := 44) C dX12_counts_40 (by decide) ?_
    refine G.sub [] rfl ?_
    exact w_X12_counts_J44 C hR  h
set_option maxRecDepth 20000 in
theorem w_X12_counts_J21 {Y : YT} {X : CX} (C : Cx Y X cX12_counts 2 RX12 3) {Q : Int → Mem → Prop} (hR : Rt Y X (some .boolean) (PQi Y Q))   {M : Mem}  (h : m_X12_counts_J21  Q  M) : G Y X 2 21 [(0, vR Y 199)] ([]) M := by
  unfold m_X12_counts_J21 at h
  refine g_aload_n (q := 0) C dX12_counts_21 rfl rfl ?_
  refine g_getI C fX12_36 (by decide) dX12_counts_22 kd_199 ?_
  obtain ⟨g3, h⟩ := h
  obtain ⟨ht, hf⟩ := h
  refine g_if_ne (tgt := 32) C dX12_counts_25 (by decide) g3 (fun c => ?_) (fun c => ?_)
  · have h := hf c
    refine G.sub [0] rfl ?_
    exact w_X12_counts_J32 C hR  h
  · have h := ht c
    refine g_aload_n (q := 0) C dX12_counts_28 rfl rfl ?_
    refine g_cVv (As := []) C clX12_241 clvX12_ahead dX12_counts_29 kd_199 rfl (Nat.le_of_ble_eq_true rfl) rfl (by decide) (t_X12_ahead (Cx.ok C) h) (fun M4 h => ?_)
    refine G.sub [0] rfl ?_
    exact w_X12_counts_J32 C hR  h
set_option maxRecDepth 20000 in
theorem t_X12_counts {l : Launch} {Y : YT} (hY : YOK Y) {a0 : Int} {M : Mem} {Q : Int → Mem → Prop} (h : m_X12_counts a0 M Q) : Ctr l Y yX12_counts cX12_counts 2 (some .boolean) 3 [vR Y 199, vI a0] M (PQi Y Q) := by
  unfold m_X12_counts at h
  refine ctr_ofF hY (by decide +kernel) (Nat.le_of_ble_eq_true rfl) [(0, vR Y 199), (1, vI a0)] rfl (fun X hX C hR => ?_)
  refine g_aload_n (q := 0) C dX12_counts_0 rfl rfl ?_
  refine g_getI C fX12_36 (by decide) dX12_counts_1 kd_199 ?_
  obtain ⟨g5, h⟩ := h
  obtain ⟨ht, hf⟩ := h
  refine g_if_ne (tgt := 21) C dX12_counts_4 (by decide) g5 (fun c => ?_) (fun c => ?_)
  · have h := hf c
    refine G.sub [0] rfl ?_
    exact w_X12_counts_J21 C hR  h
  · have h := ht c
    refine g_iload_n (q := 1) C dX12_counts_7 rfl rfl ?_
    obtain ⟨g6, h⟩ := h
    obtain ⟨ht, hf⟩ := h
    refine g_if_eq (tgt := 21) C dX12_counts_8 (by decide) g6 (fun c => ?_) (fun c => ?_)
    · have h := ht c
      refine G.sub [0] rfl ?_
      exact w_X12_counts_J21 C hR  h
    · have h := hf c
      refine g_aload_n (q := 0) C dX12_counts_11 rfl rfl ?_
      refine g_bipush (v := 6) C dX12_counts_12 (by decide +kernel) ?_
      refine g_aload_n (q := 0) C dX12_counts_14 rfl rfl ?_
      refine g_getI C fX12_23 (by decide) dX12_counts_15 kd_199 ?_
      refine g_cVv (As := [vI 6, vI (M 199 4)]) C clX12_224 clvX12_blame dX12_counts_18 kd_199 rfl (Nat.le_of_ble_eq_true rfl) rfl (by decide) (t_X12_blame (Cx.ok C) h) (fun M7 h => ?_)
      refine G.sub [0] rfl ?_
      exact w_X12_counts_J21 C hR  h
set_option maxRecDepth 20000 in
theorem w_X12_must__J40 {Y : YT} {X : CX} (C : Cx Y X cX12_must_ 3 RX12 3) {Q : Mem → Prop} (hR : Rt Y X none (PQv Y Q))   {M : Mem}  (h : m_X12_must__J40  Q  M) : G Y X 3 40 [] ([]) M := by
  unfold m_X12_must__J40 at h
  exact g_retv C hR dX12_must__40 h
set_option maxRecDepth 20000 in
theorem w_X12_must__J29 {Y : YT} {X : CX} (C : Cx Y X cX12_must_ 3 RX12 3) {Q : Mem → Prop} (hR : Rt Y X none (PQv Y Q))   {M : Mem}  (h : m_X12_must__J29  Q  M) : G Y X 3 29 [(0, vR Y 199)] ([]) M := by
  unfold m_X12_must__J29 at h
  refine g_aload_n (q := 0) C dX12_must__29 rfl rfl ?_
  refine g_getI C fX12_36 (by decide) dX12_must__30 kd_199 ?_
  obtain ⟨g1, h⟩ := h
  obtain ⟨ht, hf⟩ := h
  refine g_if_ne (tgt := 40) C dX12_must__33 (by decide) g1 (fun c => ?_) (fun c => ?_)
  · have h := hf c
    refine G.sub [] rfl ?_
    exact w_X12_must__J40 C hR  h
  · have h := ht c
    refine g_aload_n (q := 0) C dX12_must__36 rfl rfl ?_
    refine g_cVv (As := []) C clX12_241 clvX12_ahead dX12_must__37 kd_199 rfl (Nat.le_of_ble_eq_true rfl) rfl (by decide) (t_X12_ahead (Cx.ok C) h) (fun M2 h => ?_)
    refine G.sub [] rfl ?_
    exact w_X12_must__J40 C hR  h
set_option maxRecDepth 20000 in
theorem t_X12_must_ {l : Launch} {Y : YT} (hY : YOK Y) {a0 : Int} {M : Mem} {Q : Mem → Prop} (h : m_X12_must_ a0 M Q) : Ctr l Y yX12_must_ cX12_must_ 3 none 3 [vR Y 199, vL a0] M (PQv Y Q) := by
  unfold m_X12_must_ at h
  refine ctr_ofF hY (by decide +kernel) (Nat.le_of_ble_eq_true rfl) [(0, vR Y 199), (1, vL a0)] rfl (fun X hX C hR => ?_)
  refine g_aload_n (q := 0) C dX12_must__0 rfl rfl ?_
  refine g_cVv (As := []) C clX12_235 clvX12_lex dX12_must__1 kd_199 rfl (Nat.le_of_ble_eq_true rfl) rfl (by decide) (t_X12_lex (Cx.ok C) h) (fun M3 h => ?_)
  refine g_aload_n (q := 0) C dX12_must__4 rfl rfl ?_
  refine g_getI C fX12_36 (by decide) dX12_must__5 kd_199 ?_
  obtain ⟨g4, h⟩ := h
  obtain ⟨ht, hf⟩ := h
  refine g_if_le (tgt := 12) C dX12_must__8 (by decide) g4 (fun c => ?_) (fun c => ?_)
  · have h := ht c
    refine g_aload_n (q := 0) C dX12_must__12 rfl rfl ?_
    refine g_lload_n (q := 1) C dX12_must__13 rfl rfl ?_
    refine g_cVi (As := [vL a0]) C clX12_316 clvX12_isWord dX12_must__14 kd_199 rfl (Nat.le_of_ble_eq_true rfl) rfl (by decide) (t_X12_isWord (Cx.ok C) h) (fun r6 M5 h => ?_)
    obtain ⟨g7, h⟩ := h
    obtain ⟨ht, hf⟩ := h
    refine g_if_ne (tgt := 29) C dX12_must__17 (by decide) g7 (fun c => ?_) (fun c => ?_)
    · have h := hf c
      refine G.sub [0] rfl ?_
      exact w_X12_must__J29 C hR  h
    · have h := ht c
      refine g_aload_n (q := 0) C dX12_must__20 rfl rfl ?_
      refine g_iconst C dX12_must__21 rfl ?_
      refine g_aload_n (q := 0) C dX12_must__22 rfl rfl ?_
      refine g_getI C fX12_23 (by decide) dX12_must__23 kd_199 ?_
      refine g_cVv (As := [vI 1, vI (M5 199 4)]) C clX12_224 clvX12_blame dX12_must__26 kd_199 rfl (Nat.le_of_ble_eq_true rfl) rfl (by decide) (t_X12_blame (Cx.ok C) h) (fun M8 h => ?_)
      refine G.sub [0] rfl ?_
      exact w_X12_must__J29 C hR  h
  · have h := hf c
    exact g_retv C hR dX12_must__11 h
set_option maxRecDepth 20000 in
theorem w_X12_has2_J14 {Y : YT} {X : CX} (C : Cx Y X cX12_has2 2 RX12 1) {Q : Int → Mem → Prop} (hR : Rt Y X (some .boolean) (PQi Y Q)) {s0 : Int}  {M : Mem}  (h : m_X12_has2_J14  Q s0 M) : G Y X 2 14 [] ((vI s0) :: []) M := by
  unfold m_X12_has2_J14 at h
  obtain ⟨g1, h⟩ := h
  exact g_retz C hR dX12_has2_14 g1 h
set_option maxRecDepth 20000 in
theorem t_X12_has2 {l : Launch} {Y : YT} (hY : YOK Y) {a0 : Int} {a1 : Int} {M : Mem} {Q : Int → Mem → Prop} (h : m_X12_has2 a0 a1 M Q) : Ctr l Y yX12_has2 cX12_has2 2 (some .boolean) 1 [vI a0, vI a1] M (PQi Y Q) := by
  unfold m_X12_has2 at h
  refine ctr_ofF hY (by decide +kernel) (Nat.le_of_ble_eq_true rfl) [(0, vI a0), (1, vI a1)] rfl (fun X hX C hR => ?_)
  refine g_iload_n (q := 0) C dX12_has2_0 rfl rfl ?_
  refine g_iload_n (q := 1) C dX12_has2_1 rfl rfl ?_
  refine g_ishr C dX12_has2_2 ?_
  refine g_iconst C dX12_has2_3 rfl ?_
  refine g_iand C dX12_has2_4 ?_
  refine g_iconst C dX12_has2_5 rfl ?_
  obtain ⟨g2, h⟩ := h
  obtain ⟨ht, hf⟩ := h
  refine g_icmp_ne (tgt := 13) C dX12_has2_6 (by decide) g2 (by decide) (fun c => ?_) (fun c => ?_)
  · have h := hf c
    refine g_iconst C dX12_has2_13 rfl ?_
    refine G.sub [] rfl ?_
    exact w_X12_has2_J14 C hR  h
  · have h := ht c
    refine g_iconst C dX12_has2_9 rfl ?_
    refine g_goto (tgt := 14) C dX12_has2_10 (by decide) ?_
    refine G.sub [] rfl ?_
    exact w_X12_has2_J14 C hR  h
set_option maxRecDepth 20000 in
theorem w_X12_fresh_J99 {Y : YT} {X : CX} (C : Cx Y X cX12_fresh 3 RX12 3) {Q : Int → Mem → Prop} (hR : Rt Y X (some .long) (PQl Y Q)) {v1 : Int}  {M : Mem}  (h : m_X12_fresh_J99  Q v1 M) : G Y X 3 99 [(1, vL v1)] ([]) M := by
  unfold m_X12_fresh_J99 at h
  refine g_lload_n (q := 0) C dX12_fresh_99 rfl rfl ?_
  exact g_retl C hR dX12_fresh_100 h
set_option maxRecDepth 20000 in
theorem w_X12_fresh_J83 {Y : YT} {X : CX} (C : Cx Y X cX12_fresh 3 RX12 3) {Q : Int → Mem → Prop} (hR : Rt Y X (some .long) (PQl Y Q))   {M : Mem}  (h : m_X12_fresh_J83  Q  M) : G Y X 3 83 [(0, vR Y 199)] ([]) M := by
  unfold m_X12_fresh_J83 at h
  refine g_aload_n (q := 0) C dX12_fresh_83 rfl rfl ?_
  refine g_getJ C fX12_32 dX12_fresh_84 kd_199 ?_
  refine g_lstore_n (lv' := [(1, vL (M 199 7)), (0, vR Y 199)]) C dX12_fresh_87 rfl (by decide) rfl ?_
  refine g_aload_n (q := 1) C dX12_fresh_88 rfl rfl ?_
  refine g_getI C fX12_36 (by decide) dX12_fresh_89 kd_199 ?_
  obtain ⟨g1, h⟩ := h
  obtain ⟨ht, hf⟩ := h
  refine g_if_ne (tgt := 99) C dX12_fresh_92 (by decide) g1 (fun c => ?_) (fun c => ?_)
  · have h := hf c
    refine G.sub [0] rfl ?_
    exact w_X12_fresh_J99 C hR  h
  · have h := ht c
    refine g_aload_n (q := 1) C dX12_fresh_95 rfl rfl ?_
    refine g_cVv (As := []) C clX12_241 clvX12_ahead dX12_fresh_96 kd_199 rfl (Nat.le_of_ble_eq_true rfl) rfl (by decide) (t_X12_ahead (Cx.ok C) h) (fun M2 h => ?_)
    refine G.sub [0] rfl ?_
    exact w_X12_fresh_J99 C hR  h
set_option maxRecDepth 20000 in
theorem w_X12_fresh_J77 {Y : YT} {X : CX} (C : Cx Y X cX12_fresh 3 RX12 3) {Q : Int → Mem → Prop} (hR : Rt Y X (some .long) (PQl Y Q)) {v1 : Int} {k43 : Int → Mem → Prop} (hk43 : ∀ (v1 : Int)  (M : Mem), k43 v1 M → G Y X 3 43 [(0, vR Y 199), (1, vI v1)] ([]) M) {M : Mem}  (h : m_X12_fresh_J77 k43 Q v1 M) : G Y X 3 77 [(0, vR Y 199), (1, vI v1)] ([]) M := by
  unfold m_X12_fresh_J77 at h
  refine g_iinc (q := 1) (v := v1 + 1) (lv' := [(1, vI (v1 + 1)), (0, vR Y 199)]) C dX12_fresh_77 rfl rfl (by decide) rfl ?_
  refine g_goto (tgt := 43) C dX12_fresh_80 (by decide) ?_
  refine G.sub [1, 0] rfl ?_
  exact hk43 _ _ h
set_option maxRecDepth 20000 in
theorem w_X12_fresh_L43 {Y : YT} {X : CX} (C : Cx Y X cX12_fresh 3 RX12 3) {Q : Int → Mem → Prop} (hR : Rt Y X (some .long) (PQl Y Q))   : ∀ (f : Nat) (v1 : Int) (M : Mem), m_X12_fresh_L43  Q f v1 M → G Y X 3 43 [(0, vR Y 199), (1, vI v1)] ([]) M := by
  intro f
  induction f with
  | zero =>
    intro v1 M h
    exact (show False from h).elim
  | succ f ih =>
    intro v1 M h
    unfold m_X12_fresh_L43 at h
    refine g_iload_n (q := 1) C dX12_fresh_43 rfl rfl ?_
    refine g_iconst C dX12_fresh_44 rfl ?_
    obtain ⟨g3, h⟩ := h
    obtain ⟨ht, hf⟩ := h
    refine g_icmp_gt (tgt := 83) C dX12_fresh_45 (by decide) g3 (by decide) (fun c => ?_) (fun c => ?_)
    · have h := ht c
      refine G.sub [0] rfl ?_
      exact w_X12_fresh_J83 C hR  h
    · have h := hf c
      refine g_aload_n (q := 0) C dX12_fresh_48 rfl rfl ?_
      refine g_getI C fX12_36 (by decide) dX12_fresh_49 kd_199 ?_
      obtain ⟨g4, h⟩ := h
      obtain ⟨ht, hf⟩ := h
      refine g_if_ne (tgt := 83) C dX12_fresh_52 (by decide) g4 (fun c => ?_) (fun c => ?_)
      · have h := hf c
        refine G.sub [0] rfl ?_
        exact w_X12_fresh_J83 C hR  h
      · have h := ht c
        refine g_aload_n (q := 0) C dX12_fresh_55 rfl rfl ?_
        refine g_iload_n (q := 1) C dX12_fresh_56 rfl rfl ?_
        refine g_aload_n (q := 0) C dX12_fresh_57 rfl rfl ?_
        refine g_getJ C fX12_32 dX12_fresh_58 kd_199 ?_
        refine g_cVi (As := [vI v1, vL (M 199 7)]) C clX12_338 clvX12_named dX12_fresh_61 kd_199 rfl (Nat.le_of_ble_eq_true rfl) rfl (by decide) (t_X12_named (Cx.ok C) h) (fun r6 M5 h => ?_)
        refine g_iconst C dX12_fresh_64 rfl ?_
        obtain ⟨g7, h⟩ := h
        obtain ⟨ht, hf⟩ := h
        refine g_icmp_eq (tgt := 77) C dX12_fresh_65 (by decide) g7 (by decide) (fun c => ?_) (fun c => ?_)
        · have h := ht c
          refine G.sub [0, 1] rfl ?_
          exact w_X12_fresh_J77 C hR (ih)  h
        · have h := hf c
          refine g_aload_n (q := 0) C dX12_fresh_68 rfl rfl ?_
          refine g_iconst C dX12_fresh_69 rfl ?_
          refine g_aload_n (q := 0) C dX12_fresh_70 rfl rfl ?_
          refine g_getI C fX12_23 (by decide) dX12_fresh_71 kd_199 ?_
          refine g_cVv (As := [vI 2, vI (M5 199 4)]) C clX12_224 clvX12_blame dX12_fresh_74 kd_199 rfl (Nat.le_of_ble_eq_true rfl) rfl (by decide) (t_X12_blame (Cx.ok C) h) (fun M8 h => ?_)
          refine G.sub [0, 1] rfl ?_
          exact w_X12_fresh_J77 C hR (ih)  h
set_option maxRecDepth 20000 in
theorem w_X12_fresh_J41 {Y : YT} {X : CX} (C : Cx Y X cX12_fresh 3 RX12 3) {Q : Int → Mem → Prop} (hR : Rt Y X (some .long) (PQl Y Q))   {M : Mem}  (h : m_X12_fresh_J41  Q  M) : G Y X 3 41 [(0, vR Y 199)] ([]) M := by
  unfold m_X12_fresh_J41 at h
  refine g_iconst C dX12_fresh_41 rfl ?_
  refine g_istore_n (lv' := [(1, vI 0), (0, vR Y 199)]) C dX12_fresh_42 rfl (by decide) rfl ?_
  obtain ⟨f0, h⟩ := h
  refine G.sub [1, 0] rfl ?_
  exact w_X12_fresh_L43 C hR  f0 _ _ h
set_option maxRecDepth 20000 in
theorem w_X12_fresh_J32 {Y : YT} {X : CX} (C : Cx Y X cX12_fresh 3 RX12 3) {Q : Int → Mem → Prop} (hR : Rt Y X (some .long) (PQl Y Q))   {M : Mem}  (h : m_X12_fresh_J32  Q  M) : G Y X 3 32 [(0, vR Y 199)] ([]) M := by
  unfold m_X12_fresh_J32 at h
  refine g_aload_n (q := 0) C dX12_fresh_32 rfl rfl ?_
  refine g_iconst C dX12_fresh_33 rfl ?_
  refine g_aload_n (q := 0) C dX12_fresh_34 rfl rfl ?_
  refine g_getI C fX12_23 (by decide) dX12_fresh_35 kd_199 ?_
  refine g_cVv (As := [vI 1, vI (M 199 4)]) C clX12_224 clvX12_blame dX12_fresh_38 kd_199 rfl (Nat.le_of_ble_eq_true rfl) rfl (by decide) (t_X12_blame (Cx.ok C) h) (fun M9 h => ?_)
  refine G.sub [0] rfl ?_
  exact w_X12_fresh_J41 C hR  h
set_option maxRecDepth 20000 in
theorem t_X12_fresh {l : Launch} {Y : YT} (hY : YOK Y) {M : Mem} {Q : Int → Mem → Prop} (h : m_X12_fresh  M Q) : Ctr l Y yX12_fresh cX12_fresh 3 (some .long) 3 [vR Y 199] M (PQl Y Q) := by
  unfold m_X12_fresh at h
  refine ctr_ofF hY (by decide +kernel) (Nat.le_of_ble_eq_true rfl) [(0, vR Y 199)] rfl (fun X hX C hR => ?_)
  refine g_aload_n (q := 0) C dX12_fresh_0 rfl rfl ?_
  refine g_cVv (As := []) C clX12_235 clvX12_lex dX12_fresh_1 kd_199 rfl (Nat.le_of_ble_eq_true rfl) rfl (by decide) (t_X12_lex (Cx.ok C) h) (fun M10 h => ?_)
  refine g_aload_n (q := 0) C dX12_fresh_4 rfl rfl ?_
  refine g_getI C fX12_36 (by decide) dX12_fresh_5 kd_199 ?_
  obtain ⟨g11, h⟩ := h
  obtain ⟨ht, hf⟩ := h
  refine g_if_le (tgt := 13) C dX12_fresh_8 (by decide) g11 (fun c => ?_) (fun c => ?_)
  · have h := ht c
    refine g_aload_n (q := 0) C dX12_fresh_13 rfl rfl ?_
    refine g_getI C fX12_20 (by decide) dX12_fresh_14 kd_199 ?_
    refine g_iconst C dX12_fresh_17 rfl ?_
    obtain ⟨g12, h⟩ := h
    obtain ⟨ht, hf⟩ := h
    refine g_icmp_ne (tgt := 32) C dX12_fresh_18 (by decide) g12 (by decide) (fun c => ?_) (fun c => ?_)
    · have h := hf c
      refine G.sub [0] rfl ?_
      exact w_X12_fresh_J32 C hR  h
    · have h := ht c
      refine g_aload_n (q := 0) C dX12_fresh_21 rfl rfl ?_
      refine g_aload_n (q := 0) C dX12_fresh_22 rfl rfl ?_
      refine g_getJ C fX12_32 dX12_fresh_23 kd_199 ?_
      refine g_cVi (As := [vL (M10 199 7)]) C clX12_335 clvX12_isOwn dX12_fresh_26 kd_199 rfl (Nat.le_of_ble_eq_true rfl) rfl (by decide) (t_X12_isOwn (Cx.ok C) h) (fun r14 M13 h => ?_)
      obtain ⟨g15, h⟩ := h
      obtain ⟨ht, hf⟩ := h
      refine g_if_eq (tgt := 41) C dX12_fresh_29 (by decide) g15 (fun c => ?_) (fun c => ?_)
      · have h := ht c
        refine G.sub [0] rfl ?_
        exact w_X12_fresh_J41 C hR  h
      · have h := hf c
        refine G.sub [0] rfl ?_
        exact w_X12_fresh_J32 C hR  h
  · have h := hf c
    refine g_lconst (v := 0) C dX12_fresh_11 (by decide +kernel) ?_
    exact g_retl C hR dX12_fresh_12 h
set_option maxRecDepth 20000 in
theorem w_X12_knownBut_J114 {Y : YT} {X : CX} (C : Cx Y X cX12_knownBut 4 RX12 3) {Q : Int → Mem → Prop} (hR : Rt Y X (some .int) (PQi Y Q)) {s0 : Int}  {M : Mem}  (h : m_X12_knownBut_J114  Q s0 M) : G Y X 4 114 [] ((vI s0) :: []) M := by
  unfold m_X12_knownBut_J114 at h
  exact g_reti C hR dX12_knownBut_114 h
set_option maxRecDepth 20000 in
theorem w_X12_knownBut_J102 {Y : YT} {X : CX} (C : Cx Y X cX12_knownBut 4 RX12 3) {Q : Int → Mem → Prop} (hR : Rt Y X (some .int) (PQi Y Q)) {v3 : Int}  {M : Mem}  (h : m_X12_knownBut_J102  Q v3 M) : G Y X 4 102 [(0, vR Y 199), (3, vI v3)] ([]) M := by
  unfold m_X12_knownBut_J102 at h
  refine g_aload_n (q := 0) C dX12_knownBut_102 rfl rfl ?_
  refine g_getI C fX12_36 (by decide) dX12_knownBut_103 kd_199 ?_
  obtain ⟨g1, h⟩ := h
  obtain ⟨ht, hf⟩ := h
  refine g_if_le (tgt := 113) C dX12_knownBut_106 (by decide) g1 (fun c => ?_) (fun c => ?_)
  · have h := ht c
    refine g_iload_n (q := 1) C dX12_knownBut_113 rfl rfl ?_
    refine G.sub [] rfl ?_
    exact w_X12_knownBut_J114 C hR  h
  · have h := hf c
    refine g_iconst C dX12_knownBut_109 rfl ?_
    refine g_goto (tgt := 114) C dX12_knownBut_110 (by decide) ?_
    refine G.sub [] rfl ?_
    exact w_X12_knownBut_J114 C hR  h
set_option maxRecDepth 20000 in
theorem w_X12_knownBut_J91 {Y : YT} {X : CX} (C : Cx Y X cX12_knownBut 4 RX12 3) {Q : Int → Mem → Prop} (hR : Rt Y X (some .int) (PQi Y Q)) {v3 : Int}  {M : Mem}  (h : m_X12_knownBut_J91  Q v3 M) : G Y X 4 91 [(0, vR Y 199), (3, vI v3)] ([]) M := by
  unfold m_X12_knownBut_J91 at h
  refine g_aload_n (q := 0) C dX12_knownBut_91 rfl rfl ?_
  refine g_getI C fX12_36 (by decide) dX12_knownBut_92 kd_199 ?_
  obtain ⟨g2, h⟩ := h
  obtain ⟨ht, hf⟩ := h
  refine g_if_ne (tgt := 102) C dX12_knownBut_95 (by decide) g2 (fun c => ?_) (fun c => ?_)
  · have h := hf c
    refine G.sub [0, 1] rfl ?_
    exact w_X12_knownBut_J102 C hR  h
  · have h := ht c
    refine g_aload_n (q := 0) C dX12_knownBut_98 rfl rfl ?_
    refine g_cVv (As := []) C clX12_241 clvX12_ahead dX12_knownBut_99 kd_199 rfl (Nat.le_of_ble_eq_true rfl) rfl (by decide) (t_X12_ahead (Cx.ok C) h) (fun M3 h => ?_)
    refine G.sub [0, 1] rfl ?_
    exact w_X12_knownBut_J102 C hR  h
set_option maxRecDepth 20000 in
theorem w_X12_knownBut_J82 {Y : YT} {X : CX} (C : Cx Y X cX12_knownBut 4 RX12 3) {Q : Int → Mem → Prop} (hR : Rt Y X (some .int) (PQi Y Q)) {v3 : Int}  {M : Mem}  (h : m_X12_knownBut_J82  Q v3 M) : G Y X 4 82 [(0, vR Y 199), (3, vI v3)] ([]) M := by
  unfold m_X12_knownBut_J82 at h
  refine g_aload_n (q := 0) C dX12_knownBut_82 rfl rfl ?_
  refine g_iconst C dX12_knownBut_83 rfl ?_
  refine g_aload_n (q := 0) C dX12_knownBut_84 rfl rfl ?_
  refine g_getI C fX12_23 (by decide) dX12_knownBut_85 kd_199 ?_
  refine g_cVv (As := [vI 3, vI (M 199 4)]) C clX12_224 clvX12_blame dX12_knownBut_88 kd_199 rfl (Nat.le_of_ble_eq_true rfl) rfl (by decide) (t_X12_blame (Cx.ok C) h) (fun M4 h => ?_)
  refine G.sub [0, 1] rfl ?_
  exact w_X12_knownBut_J91 C hR  h
set_option maxRecDepth 20000 in
theorem w_X12_knownBut_J61 {Y : YT} {X : CX} (C : Cx Y X cX12_knownBut 4 RX12 3) {Q : Int → Mem → Prop} (hR : Rt Y X (some .int) (PQi Y Q)) {v2 : Int} {s0 : Int}  {M : Mem}  (h : m_X12_knownBut_J61  Q v2 s0 M) : G Y X 4 61 [(0, vR Y 199), (2, vI v2)] ((vI s0) :: []) M := by
  unfold m_X12_knownBut_J61 at h
  refine g_istore_n (lv' := [(3, vI s0), (0, vR Y 199), (2, vI v2)]) C dX12_knownBut_61 rfl (by decide) rfl ?_
  refine g_aload_n (q := 1) C dX12_knownBut_62 rfl rfl ?_
  refine g_getI C fX12_36 (by decide) dX12_knownBut_63 kd_199 ?_
  obtain ⟨g5, h⟩ := h
  obtain ⟨ht, hf⟩ := h
  refine g_if_ne (tgt := 91) C dX12_knownBut_66 (by decide) g5 (fun c => ?_) (fun c => ?_)
  · have h := hf c
    refine G.sub [1, 0] rfl ?_
    exact w_X12_knownBut_J91 C hR  h
  · have h := ht c
    refine g_iload_n (q := 0) C dX12_knownBut_69 rfl rfl ?_
    refine g_iconst C dX12_knownBut_70 rfl ?_
    obtain ⟨g6, h⟩ := h
    obtain ⟨ht, hf⟩ := h
    refine g_icmp_eq (tgt := 82) C dX12_knownBut_71 (by decide) g6 (by decide) (fun c => ?_) (fun c => ?_)
    · have h := ht c
      refine G.sub [1, 0] rfl ?_
      exact w_X12_knownBut_J82 C hR  h
    · have h := hf c
      refine g_iload_n (q := 2) C dX12_knownBut_74 rfl rfl ?_
      refine g_iload_n (q := 0) C dX12_knownBut_75 rfl rfl ?_
      refine g_cSi (As := [vI v2, vI s0]) C clX12_342 clsX12_has2 dX12_knownBut_76 rfl (Nat.le_of_ble_eq_true rfl) rfl (by decide) (t_X12_has2 (Cx.ok C) h) (fun r8 M7 h => ?_)
      obtain ⟨g9, h⟩ := h
      obtain ⟨ht, hf⟩ := h
      refine g_if_eq (tgt := 91) C dX12_knownBut_79 (by decide) g9 (fun c => ?_) (fun c => ?_)
      · have h := ht c
        refine G.sub [1, 0] rfl ?_
        exact w_X12_knownBut_J91 C hR  h
      · have h := hf c
        refine G.sub [1, 0] rfl ?_
        exact w_X12_knownBut_J82 C hR  h
set_option maxRecDepth 20000 in
theorem w_X12_knownBut_J41 {Y : YT} {X : CX} (C : Cx Y X cX12_knownBut 4 RX12 3) {Q : Int → Mem → Prop} (hR : Rt Y X (some .int) (PQi Y Q)) {v1 : Int} {v2 : Int}  {M : Mem}  (h : m_X12_knownBut_J41  Q v1 v2 M) : G Y X 4 41 [(0, vR Y 199), (1, vI v1), (2, vI v2)] ([]) M := by
  unfold m_X12_knownBut_J41 at h
  refine g_aload_n (q := 0) C dX12_knownBut_41 rfl rfl ?_
  refine g_getI C fX12_36 (by decide) dX12_knownBut_42 kd_199 ?_
  obtain ⟨g10, h⟩ := h
  obtain ⟨ht, hf⟩ := h
  refine g_if_le (tgt := 52) C dX12_knownBut_45 (by decide) g10 (fun c => ?_) (fun c => ?_)
  · have h := ht c
    refine g_aload_n (q := 0) C dX12_knownBut_52 rfl rfl ?_
    refine g_iload_n (q := 1) C dX12_knownBut_53 rfl rfl ?_
    refine g_aload_n (q := 0) C dX12_knownBut_54 rfl rfl ?_
    refine g_getJ C fX12_32 dX12_knownBut_55 kd_199 ?_
    refine g_cVi (As := [vI v1, vL (M 199 7)]) C clX12_338 clvX12_named dX12_knownBut_58 kd_199 rfl (Nat.le_of_ble_eq_true rfl) rfl (by decide) (t_X12_named (Cx.ok C) h) (fun r12 M11 h => ?_)
    refine G.sub [0, 2] rfl ?_
    exact w_X12_knownBut_J61 C hR  h
  · have h := hf c
    refine g_iconst C dX12_knownBut_48 rfl ?_
    refine g_goto (tgt := 61) C dX12_knownBut_49 (by decide) ?_
    refine G.sub [0, 2] rfl ?_
    exact w_X12_knownBut_J61 C hR  h
set_option maxRecDepth 20000 in
theorem w_X12_knownBut_J32 {Y : YT} {X : CX} (C : Cx Y X cX12_knownBut 4 RX12 3) {Q : Int → Mem → Prop} (hR : Rt Y X (some .int) (PQi Y Q)) {v1 : Int} {v2 : Int}  {M : Mem}  (h : m_X12_knownBut_J32  Q v1 v2 M) : G Y X 4 32 [(0, vR Y 199), (1, vI v1), (2, vI v2)] ([]) M := by
  unfold m_X12_knownBut_J32 at h
  refine g_aload_n (q := 0) C dX12_knownBut_32 rfl rfl ?_
  refine g_iconst C dX12_knownBut_33 rfl ?_
  refine g_aload_n (q := 0) C dX12_knownBut_34 rfl rfl ?_
  refine g_getI C fX12_23 (by decide) dX12_knownBut_35 kd_199 ?_
  refine g_cVv (As := [vI 1, vI (M 199 4)]) C clX12_224 clvX12_blame dX12_knownBut_38 kd_199 rfl (Nat.le_of_ble_eq_true rfl) rfl (by decide) (t_X12_blame (Cx.ok C) h) (fun M13 h => ?_)
  refine G.sub [0, 1, 2] rfl ?_
  exact w_X12_knownBut_J41 C hR  h
set_option maxRecDepth 20000 in
theorem t_X12_knownBut {l : Launch} {Y : YT} (hY : YOK Y) {a0 : Int} {a1 : Int} {M : Mem} {Q : Int → Mem → Prop} (h : m_X12_knownBut a0 a1 M Q) : Ctr l Y yX12_knownBut cX12_knownBut 4 (some .int) 3 [vR Y 199, vI a0, vI a1] M (PQi Y Q) := by
  unfold m_X12_knownBut at h
  refine ctr_ofF hY (by decide +kernel) (Nat.le_of_ble_eq_true rfl) [(0, vR Y 199), (1, vI a0), (2, vI a1)] rfl (fun X hX C hR => ?_)
  refine g_aload_n (q := 0) C dX12_knownBut_0 rfl rfl ?_
  refine g_cVv (As := []) C clX12_235 clvX12_lex dX12_knownBut_1 kd_199 rfl (Nat.le_of_ble_eq_true rfl) rfl (by decide) (t_X12_lex (Cx.ok C) h) (fun M14 h => ?_)
  refine g_aload_n (q := 0) C dX12_knownBut_4 rfl rfl ?_
  refine g_getI C fX12_36 (by decide) dX12_knownBut_5 kd_199 ?_
  obtain ⟨g15, h⟩ := h
  obtain ⟨ht, hf⟩ := h
  refine g_if_le (tgt := 13) C dX12_knownBut_8 (by decide) g15 (fun c => ?_) (fun c => ?_)
  · have h := ht c
    refine g_aload_n (q := 0) C dX12_knownBut_13 rfl rfl ?_
    refine g_getI C fX12_20 (by decide) dX12_knownBut_14 kd_199 ?_
    refine g_iconst C dX12_knownBut_17 rfl ?_
    obtain ⟨g16, h⟩ := h
    obtain ⟨ht, hf⟩ := h
    refine g_icmp_ne (tgt := 32) C dX12_knownBut_18 (by decide) g16 (by decide) (fun c => ?_) (fun c => ?_)
    · have h := hf c
      refine G.sub [0, 1, 2] rfl ?_
      exact w_X12_knownBut_J32 C hR  h
    · have h := ht c
      refine g_aload_n (q := 0) C dX12_knownBut_21 rfl rfl ?_
      refine g_aload_n (q := 0) C dX12_knownBut_22 rfl rfl ?_
      refine g_getJ C fX12_32 dX12_knownBut_23 kd_199 ?_
      refine g_cVi (As := [vL (M14 199 7)]) C clX12_335 clvX12_isOwn dX12_knownBut_26 kd_199 rfl (Nat.le_of_ble_eq_true rfl) rfl (by decide) (t_X12_isOwn (Cx.ok C) h) (fun r18 M17 h => ?_)
      obtain ⟨g19, h⟩ := h
      obtain ⟨ht, hf⟩ := h
      refine g_if_eq (tgt := 41) C dX12_knownBut_29 (by decide) g19 (fun c => ?_) (fun c => ?_)
      · have h := ht c
        refine G.sub [0, 1, 2] rfl ?_
        exact w_X12_knownBut_J41 C hR  h
      · have h := hf c
        refine G.sub [0, 1, 2] rfl ?_
        exact w_X12_knownBut_J32 C hR  h
  · have h := hf c
    refine g_iconst C dX12_knownBut_11 rfl ?_
    exact g_reti C hR dX12_knownBut_12 h
set_option maxRecDepth 20000 in
theorem t_X12_at {l : Launch} {Y : YT} (hY : YOK Y) {a0 : Int} {a1 : Int} {a2 : Int} {M : Mem} {Q : Int → Mem → Prop} (h : m_X12_at a0 a1 a2 M Q) : Ctr l Y yX12_at cX12_at 4 (some .int) 1 [vR Y 199, vI a0, vI a1, vI a2] M (PQi Y Q) := by
  unfold m_X12_at at h
  refine ctr_ofF hY (by decide +kernel) (Nat.le_of_ble_eq_true rfl) [(0, vR Y 199), (1, vI a0), (2, vI a1), (3, vI a2)] rfl (fun X hX C hR => ?_)
  refine g_bipush (v := 49) C dX12_at_0 (by decide +kernel) ?_
  refine g_iload_n (q := 1) C dX12_at_2 rfl rfl ?_
  refine g_imul C dX12_at_3 ?_
  refine g_bipush (v := 7) C dX12_at_4 (by decide +kernel) ?_
  refine g_iload_n (q := 2) C dX12_at_6 rfl rfl ?_
  refine g_imul C dX12_at_7 ?_
  refine g_iadd C dX12_at_8 ?_
  refine g_iload_n (q := 3) C dX12_at_9 rfl rfl ?_
  refine g_iadd C dX12_at_10 ?_
  exact g_reti C hR dX12_at_11 h
set_option maxRecDepth 20000 in
theorem w_X12_placing_J73 {Y : YT} {X : CX} (C : Cx Y X cX12_placing 1 RX12 4) {Q : Mem → Prop} (hR : Rt Y X none (PQv Y Q))   {M : Mem}  (h : m_X12_placing_J73  Q  M) : G Y X 1 73 [] ([]) M := by
  unfold m_X12_placing_J73 at h
  exact g_retv C hR dX12_placing_73 h
set_option maxRecDepth 20000 in
theorem w_X12_placing_J20 {Y : YT} {X : CX} (C : Cx Y X cX12_placing 1 RX12 4) {Q : Mem → Prop} (hR : Rt Y X none (PQv Y Q)) {s1 : Int}  {M : Mem}  (h : m_X12_placing_J20  Q s1 M) : G Y X 1 20 [(0, vR Y 199)] ((vI s1) :: (vR Y 199) :: []) M := by
  unfold m_X12_placing_J20 at h
  refine g_cVi (As := [vI s1]) C clX12_346 clvX12_counts dX12_placing_20 kd_199 rfl (Nat.le_of_ble_eq_true rfl) rfl (by decide) (t_X12_counts (Cx.ok C) h) (fun r2 M1 h => ?_)
  obtain ⟨g3, h⟩ := h
  obtain ⟨ht, hf⟩ := h
  refine g_if_ne (tgt := 27) C dX12_placing_23 (by decide) g3 (fun c => ?_) (fun c => ?_)
  · have h := hf c
    refine g_aload_n (q := 0) C dX12_placing_27 rfl rfl ?_
    refine g_getS (v := 218) C fX12_105 dX12_placing_28 kd_199 rfl ?_
    refine g_bipush (v := 7) C dX12_placing_31 (by decide +kernel) ?_
    refine g_aload_n (q := 0) C dX12_placing_33 rfl rfl ?_
    refine g_getI C fX12_115 (by decide) dX12_placing_34 kd_199 ?_
    refine g_imul C dX12_placing_37 ?_
    refine g_aload_n (q := 0) C dX12_placing_38 rfl rfl ?_
    refine g_getS (v := 201) C fX12_54 dX12_placing_39 kd_199 rfl ?_
    refine g_aload_n (q := 0) C dX12_placing_42 rfl rfl ?_
    refine g_getI C fX12_115 (by decide) dX12_placing_43 kd_199 ?_
    obtain ⟨g4, h⟩ := h
    refine g_iald C dX12_placing_46 kd_201 ln_201 g4 ?_
    refine g_iadd C dX12_placing_47 ?_
    refine g_aload_n (q := 0) C dX12_placing_48 rfl rfl ?_
    refine g_cVl (As := []) C clX12_350 clvX12_fresh dX12_placing_49 kd_199 rfl (Nat.le_of_ble_eq_true rfl) rfl (by decide) (t_X12_fresh (Cx.ok C) h) (fun r6 M5 h => ?_)
    obtain ⟨g7, h⟩ := h
    obtain ⟨M8, e_M8⟩ : ∃ z : Mem, z = up M5 218 ((7 * (M1 199 34)) + (M1 201 (M1 199 34))) r6 := ⟨_, rfl⟩
    have h := h M8 e_M8
    refine g_last C dX12_placing_52 kd_218 ln_218 g7 e_M8 ?_
    refine g_aload_n (q := 0) C dX12_placing_53 rfl rfl ?_
    refine g_getI C fX12_36 (by decide) dX12_placing_54 kd_199 ?_
    obtain ⟨g9, h⟩ := h
    obtain ⟨ht, hf⟩ := h
    refine g_if_ne (tgt := 73) C dX12_placing_57 (by decide) g9 (fun c => ?_) (fun c => ?_)
    · have h := hf c
      refine G.sub [] rfl ?_
      exact w_X12_placing_J73 C hR  h
    · have h := ht c
      refine g_aload_n (q := 0) C dX12_placing_60 rfl rfl ?_
      refine g_getS (v := 201) C fX12_54 dX12_placing_61 kd_199 rfl ?_
      refine g_aload_n (q := 0) C dX12_placing_64 rfl rfl ?_
      refine g_getI C fX12_115 (by decide) dX12_placing_65 kd_199 ?_
      refine g_dup2 C dX12_placing_68 rfl rfl ?_
      obtain ⟨g10, h⟩ := h
      refine g_iald C dX12_placing_69 kd_201 ln_201 g10 ?_
      refine g_iconst C dX12_placing_70 rfl ?_
      refine g_iadd C dX12_placing_71 ?_
      obtain ⟨g11, h⟩ := h
      obtain ⟨M12, e_M12⟩ : ∃ z : Mem, z = up M8 201 (M8 199 34) ((M8 201 (M8 199 34)) + 1) := ⟨_, rfl⟩
      have h := h M12 e_M12
      refine g_iast C dX12_placing_72 kd_201 ln_201 g11 e_M12 ?_
      refine G.sub [] rfl ?_
      exact w_X12_placing_J73 C hR  h
  · have h := ht c
    exact g_retv C hR dX12_placing_26 h
set_option maxRecDepth 20000 in
theorem t_X12_placing {l : Launch} {Y : YT} (hY : YOK Y) {M : Mem} {Q : Mem → Prop} (h : m_X12_placing  M Q) : Ctr l Y yX12_placing cX12_placing 1 none 4 [vR Y 199] M (PQv Y Q) := by
  unfold m_X12_placing at h
  refine ctr_ofF hY (by decide +kernel) (Nat.le_of_ble_eq_true rfl) [(0, vR Y 199)] rfl (fun X hX C hR => ?_)
  refine g_aload_n (q := 0) C dX12_placing_0 rfl rfl ?_
  refine g_aload_n (q := 0) C dX12_placing_1 rfl rfl ?_
  refine g_getS (v := 201) C fX12_54 dX12_placing_2 kd_199 rfl ?_
  refine g_aload_n (q := 0) C dX12_placing_5 rfl rfl ?_
  refine g_getI C fX12_115 (by decide) dX12_placing_6 kd_199 ?_
  obtain ⟨g13, h⟩ := h
  refine g_iald C dX12_placing_9 kd_201 ln_201 g13 ?_
  refine g_bipush (v := 7) C dX12_placing_10 (by decide +kernel) ?_
  obtain ⟨g14, h⟩ := h
  obtain ⟨ht, hf⟩ := h
  refine g_icmp_ne (tgt := 19) C dX12_placing_12 (by decide) g14 (by decide) (fun c => ?_) (fun c => ?_)
  · have h := hf c
    refine g_iconst C dX12_placing_19 rfl ?_
    refine G.sub [0] rfl ?_
    exact w_X12_placing_J20 C hR  h
  · have h := ht c
    refine g_iconst C dX12_placing_15 rfl ?_
    refine g_goto (tgt := 20) C dX12_placing_16 (by decide) ?_
    refine G.sub [0] rfl ?_
    exact w_X12_placing_J20 C hR  h
set_option maxRecDepth 20000 in
theorem w_X12_roading_J79 {Y : YT} {X : CX} (C : Cx Y X cX12_roading 4 RX12 4) {Q : Mem → Prop} (hR : Rt Y X none (PQv Y Q)) {v1 : Int} {v3 : Int} {s0 : Int} {s1 : Int} {k47 : Int → Int → Mem → Prop} (hk47 : ∀ (v2 : Int) (v3 : Int)  (M : Mem), k47 v2 v3 M → G Y X 4 47 [(0, vR Y 199), (1, vI v1), (2, vI v2), (3, vI v3)] ([]) M) {M : Mem}  (h : m_X12_roading_J79 k47 Q v1 v3 s0 s1 M) : G Y X 4 79 [(0, vR Y 199), (1, vI v1), (3, vI v3)] ((vI s1) :: (vI s0) :: []) M := by
  unfold m_X12_roading_J79 at h
  refine g_ior C dX12_roading_79 ?_
  refine g_istore_n (lv' := [(2, vI (zor s0 s1)), (0, vR Y 199), (1, vI v1), (3, vI v3)]) C dX12_roading_80 rfl (by decide) rfl ?_
  refine g_iinc (q := 3) (v := v3 + 1) (lv' := [(3, vI (v3 + 1)), (2, vI (zor s0 s1)), (0, vR Y 199), (1, vI v1)]) C dX12_roading_81 rfl rfl (by decide) rfl ?_
  refine g_goto (tgt := 47) C dX12_roading_84 (by decide) ?_
  refine G.sub [2, 3, 1, 0] rfl ?_
  exact hk47 _ _ _ h
set_option maxRecDepth 20000 in
theorem w_X12_roading_L47 {Y : YT} {X : CX} (C : Cx Y X cX12_roading 4 RX12 4) {Q : Mem → Prop} (hR : Rt Y X none (PQv Y Q)) {v1 : Int}  : ∀ (f : Nat) (v2 : Int) (v3 : Int) (M : Mem), m_X12_roading_L47  Q v1 f v2 v3 M → G Y X 4 47 [(0, vR Y 199), (1, vI v1), (2, vI v2), (3, vI v3)] ([]) M := by
  intro f
  induction f with
  | zero =>
    intro v2 v3 M h
    exact (show False from h).elim
  | succ f ih =>
    intro v2 v3 M h
    unfold m_X12_roading_L47 at h
    refine g_iload_n (q := 3) C dX12_roading_47 rfl rfl ?_
    refine g_bipush (v := 7) C dX12_roading_48 (by decide +kernel) ?_
    obtain ⟨g1, h⟩ := h
    obtain ⟨ht, hf⟩ := h
    refine g_icmp_ge (tgt := 87) C dX12_roading_50 (by decide) g1 (by decide) (fun c => ?_) (fun c => ?_)
    · have h := ht c
      refine g_aload_n (q := 0) C dX12_roading_87 rfl rfl ?_
      refine g_iconst C dX12_roading_88 rfl ?_
      refine g_iload_n (q := 2) C dX12_roading_89 rfl rfl ?_
      refine g_cVi (As := [vI 0, vI v2]) C clX12_354 clvX12_knownBut dX12_roading_90 kd_199 rfl (Nat.le_of_ble_eq_true rfl) rfl (by decide) (t_X12_knownBut (Cx.ok C) h) (fun r3 M2 h => ?_)
      refine g_istore_n (lv' := [(3, vI r3), (0, vR Y 199), (1, vI v1), (2, vI v2)]) C dX12_roading_93 rfl (by decide) rfl ?_
      refine g_aload_n (q := 1) C dX12_roading_94 rfl rfl ?_
      refine g_getI C fX12_36 (by decide) dX12_roading_95 kd_199 ?_
      obtain ⟨g4, h⟩ := h
      obtain ⟨ht, hf⟩ := h
      refine g_if_le (tgt := 102) C dX12_roading_98 (by decide) g4 (fun c => ?_) (fun c => ?_)
      · have h := ht c
        refine g_aload_n (q := 1) C dX12_roading_102 rfl rfl ?_
        refine g_getS (v := 203) C fX12_60 dX12_roading_103 kd_199 rfl ?_
        refine g_aload_n (q := 1) C dX12_roading_106 rfl rfl ?_
        refine g_aload_n (q := 1) C dX12_roading_107 rfl rfl ?_
        refine g_getI C fX12_115 (by decide) dX12_roading_108 kd_199 ?_
        refine g_iload_n (q := 2) C dX12_roading_111 rfl rfl ?_
        refine g_iload_n (q := 0) C dX12_roading_112 rfl rfl ?_
        refine g_cVi (As := [vI (M2 199 34), vI v1, vI r3]) C clX12_361 clvX12_at dX12_roading_113 kd_199 rfl (Nat.le_of_ble_eq_true rfl) rfl (by decide) (t_X12_at (Cx.ok C) h) (fun r6 M5 h => ?_)
        refine g_iconst C dX12_roading_116 rfl ?_
        obtain ⟨g7, h⟩ := h
        obtain ⟨M8, e_M8⟩ : ∃ z : Mem, z = up M5 203 r6 1 := ⟨_, rfl⟩
        have h := h M8 e_M8
        refine g_iast C dX12_roading_117 kd_203 ln_203 g7 e_M8 ?_
        refine g_aload_n (q := 1) C dX12_roading_118 rfl rfl ?_
        refine g_getS (v := 203) C fX12_60 dX12_roading_119 kd_199 rfl ?_
        refine g_aload_n (q := 1) C dX12_roading_122 rfl rfl ?_
        refine g_aload_n (q := 1) C dX12_roading_123 rfl rfl ?_
        refine g_getI C fX12_115 (by decide) dX12_roading_124 kd_199 ?_
        refine g_iload_n (q := 0) C dX12_roading_127 rfl rfl ?_
        refine g_iload_n (q := 2) C dX12_roading_128 rfl rfl ?_
        refine g_cVi (As := [vI (M8 199 34), vI r3, vI v1]) C clX12_361 clvX12_at dX12_roading_129 kd_199 rfl (Nat.le_of_ble_eq_true rfl) rfl (by decide) (t_X12_at (Cx.ok C) h) (fun r10 M9 h => ?_)
        refine g_iconst C dX12_roading_132 rfl ?_
        obtain ⟨g11, h⟩ := h
        obtain ⟨M12, e_M12⟩ : ∃ z : Mem, z = up M9 203 r10 1 := ⟨_, rfl⟩
        have h := h M12 e_M12
        refine g_iast C dX12_roading_133 kd_203 ln_203 g11 e_M12 ?_
        refine g_aload_n (q := 1) C dX12_roading_134 rfl rfl ?_
        refine g_getS (v := 202) C fX12_57 dX12_roading_135 kd_199 rfl ?_
        refine g_aload_n (q := 1) C dX12_roading_138 rfl rfl ?_
        refine g_getI C fX12_115 (by decide) dX12_roading_139 kd_199 ?_
        refine g_dup2 C dX12_roading_142 rfl rfl ?_
        obtain ⟨g13, h⟩ := h
        refine g_iald C dX12_roading_143 kd_202 ln_202 g13 ?_
        refine g_iconst C dX12_roading_144 rfl ?_
        refine g_iadd C dX12_roading_145 ?_
        obtain ⟨g14, h⟩ := h
        obtain ⟨M15, e_M15⟩ : ∃ z : Mem, z = up M12 202 (M12 199 34) ((M12 202 (M12 199 34)) + 1) := ⟨_, rfl⟩
        have h := h M15 e_M15
        refine g_iast C dX12_roading_146 kd_202 ln_202 g14 e_M15 ?_
        exact g_retv C hR dX12_roading_147 h
      · have h := hf c
        exact g_retv C hR dX12_roading_101 h
    · have h := hf c
      refine g_iload_n (q := 2) C dX12_roading_53 rfl rfl ?_
      refine g_aload_n (q := 0) C dX12_roading_54 rfl rfl ?_
      refine g_getS (v := 203) C fX12_60 dX12_roading_55 kd_199 rfl ?_
      refine g_aload_n (q := 0) C dX12_roading_58 rfl rfl ?_
      refine g_aload_n (q := 0) C dX12_roading_59 rfl rfl ?_
      refine g_getI C fX12_115 (by decide) dX12_roading_60 kd_199 ?_
      refine g_iload_n (q := 1) C dX12_roading_63 rfl rfl ?_
      refine g_iload_n (q := 3) C dX12_roading_64 rfl rfl ?_
      refine g_cVi (As := [vI (M 199 34), vI v1, vI v3]) C clX12_361 clvX12_at dX12_roading_65 kd_199 rfl (Nat.le_of_ble_eq_true rfl) rfl (by decide) (t_X12_at (Cx.ok C) h) (fun r17 M16 h => ?_)
      obtain ⟨g18, h⟩ := h
      refine g_iald C dX12_roading_68 kd_203 ln_203 g18 ?_
      obtain ⟨g19, h⟩ := h
      obtain ⟨ht, hf⟩ := h
      refine g_if_le (tgt := 78) C dX12_roading_69 (by decide) g19 (fun c => ?_) (fun c => ?_)
      · have h := ht c
        refine g_iconst C dX12_roading_78 rfl ?_
        refine G.sub [0, 1, 3] rfl ?_
        exact w_X12_roading_J79 C hR (ih)  h
      · have h := hf c
        refine g_iconst C dX12_roading_72 rfl ?_
        refine g_iload_n (q := 3) C dX12_roading_73 rfl rfl ?_
        refine g_ishl C dX12_roading_74 ?_
        refine g_goto (tgt := 79) C dX12_roading_75 (by decide) ?_
        refine G.sub [0, 1, 3] rfl ?_
        exact w_X12_roading_J79 C hR (ih)  h
set_option maxRecDepth 20000 in
theorem w_X12_roading_J20 {Y : YT} {X : CX} (C : Cx Y X cX12_roading 4 RX12 4) {Q : Mem → Prop} (hR : Rt Y X none (PQv Y Q)) {s1 : Int}  {M : Mem}  (h : m_X12_roading_J20  Q s1 M) : G Y X 4 20 [(0, vR Y 199)] ((vI s1) :: (vR Y 199) :: []) M := by
  unfold m_X12_roading_J20 at h
  refine g_cVi (As := [vI s1]) C clX12_346 clvX12_counts dX12_roading_20 kd_199 rfl (Nat.le_of_ble_eq_true rfl) rfl (by decide) (t_X12_counts (Cx.ok C) h) (fun r21 M20 h => ?_)
  obtain ⟨g22, h⟩ := h
  obtain ⟨ht, hf⟩ := h
  refine g_if_ne (tgt := 27) C dX12_roading_23 (by decide) g22 (fun c => ?_) (fun c => ?_)
  · have h := hf c
    refine g_aload_n (q := 0) C dX12_roading_27 rfl rfl ?_
    refine g_iconst C dX12_roading_28 rfl ?_
    refine g_iconst C dX12_roading_29 rfl ?_
    refine g_cVi (As := [vI 0, vI 0]) C clX12_354 clvX12_knownBut dX12_roading_30 kd_199 rfl (Nat.le_of_ble_eq_true rfl) rfl (by decide) (t_X12_knownBut (Cx.ok C) h) (fun r24 M23 h => ?_)
    refine g_istore_n (lv' := [(1, vI r24), (0, vR Y 199)]) C dX12_roading_33 rfl (by decide) rfl ?_
    refine g_aload_n (q := 1) C dX12_roading_34 rfl rfl ?_
    refine g_ldc2 (v := 29807) C dX12_roading_35 kX12_248 (by decide +kernel) ?_
    refine g_cVv (As := [vL 29807]) C clX12_357 clvX12_must_ dX12_roading_38 kd_199 rfl (Nat.le_of_ble_eq_true rfl) rfl (by decide) (t_X12_must_ (Cx.ok C) h) (fun M25 h => ?_)
    refine g_iconst C dX12_roading_41 rfl ?_
    refine g_iload_n (q := 0) C dX12_roading_42 rfl rfl ?_
    refine g_ishl C dX12_roading_43 ?_
    refine g_istore_n (lv' := [(2, vI (zshl 1 r24)), (1, vI r24), (0, vR Y 199)]) C dX12_roading_44 rfl (by decide) rfl ?_
    refine g_iconst C dX12_roading_45 rfl ?_
    refine g_istore_n (lv' := [(3, vI 0), (2, vI (zshl 1 r24)), (1, vI r24), (0, vR Y 199)]) C dX12_roading_46 rfl (by decide) rfl ?_
    obtain ⟨f0, h⟩ := h
    refine G.sub [3, 2, 1, 0] rfl ?_
    exact w_X12_roading_L47 C hR  f0 _ _ _ h
  · have h := ht c
    exact g_retv C hR dX12_roading_26 h
set_option maxRecDepth 20000 in
theorem t_X12_roading {l : Launch} {Y : YT} (hY : YOK Y) {M : Mem} {Q : Mem → Prop} (h : m_X12_roading  M Q) : Ctr l Y yX12_roading cX12_roading 4 none 4 [vR Y 199] M (PQv Y Q) := by
  unfold m_X12_roading at h
  refine ctr_ofF hY (by decide +kernel) (Nat.le_of_ble_eq_true rfl) [(0, vR Y 199)] rfl (fun X hX C hR => ?_)
  refine g_aload_n (q := 0) C dX12_roading_0 rfl rfl ?_
  refine g_aload_n (q := 0) C dX12_roading_1 rfl rfl ?_
  refine g_getS (v := 202) C fX12_57 dX12_roading_2 kd_199 rfl ?_
  refine g_aload_n (q := 0) C dX12_roading_5 rfl rfl ?_
  refine g_getI C fX12_115 (by decide) dX12_roading_6 kd_199 ?_
  obtain ⟨g26, h⟩ := h
  refine g_iald C dX12_roading_9 kd_202 ln_202 g26 ?_
  refine g_bipush (v := 12) C dX12_roading_10 (by decide +kernel) ?_
  obtain ⟨g27, h⟩ := h
  obtain ⟨ht, hf⟩ := h
  refine g_icmp_ne (tgt := 19) C dX12_roading_12 (by decide) g27 (by decide) (fun c => ?_) (fun c => ?_)
  · have h := hf c
    refine g_iconst C dX12_roading_19 rfl ?_
    refine G.sub [0] rfl ?_
    exact w_X12_roading_J20 C hR  h
  · have h := ht c
    refine g_iconst C dX12_roading_15 rfl ?_
    refine g_goto (tgt := 20) C dX12_roading_16 (by decide) ?_
    refine G.sub [0] rfl ?_
    exact w_X12_roading_J20 C hR  h
set_option maxRecDepth 20000 in
theorem w_X12_personing_J114 {Y : YT} {X : CX} (C : Cx Y X cX12_personing 2 RX12 4) {Q : Mem → Prop} (hR : Rt Y X none (PQv Y Q))   {M : Mem}  (h : m_X12_personing_J114  Q  M) : G Y X 2 114 [] ([]) M := by
  unfold m_X12_personing_J114 at h
  exact g_retv C hR dX12_personing_114 h
set_option maxRecDepth 20000 in
theorem w_X12_personing_J20 {Y : YT} {X : CX} (C : Cx Y X cX12_personing 2 RX12 4) {Q : Mem → Prop} (hR : Rt Y X none (PQv Y Q)) {s1 : Int}  {M : Mem}  (h : m_X12_personing_J20  Q s1 M) : G Y X 2 20 [(0, vR Y 199)] ((vI s1) :: (vR Y 199) :: []) M := by
  unfold m_X12_personing_J20 at h
  refine g_cVi (As := [vI s1]) C clX12_346 clvX12_counts dX12_personing_20 kd_199 rfl (Nat.le_of_ble_eq_true rfl) rfl (by decide) (t_X12_counts (Cx.ok C) h) (fun r2 M1 h => ?_)
  obtain ⟨g3, h⟩ := h
  obtain ⟨ht, hf⟩ := h
  refine g_if_ne (tgt := 27) C dX12_personing_23 (by decide) g3 (fun c => ?_) (fun c => ?_)
  · have h := hf c
    refine g_bipush (v := 6) C dX12_personing_27 (by decide +kernel) ?_
    refine g_aload_n (q := 0) C dX12_personing_29 rfl rfl ?_
    refine g_getI C fX12_115 (by decide) dX12_personing_30 kd_199 ?_
    refine g_imul C dX12_personing_33 ?_
    refine g_aload_n (q := 0) C dX12_personing_34 rfl rfl ?_
    refine g_getS (v := 205) C fX12_66 dX12_personing_35 kd_199 rfl ?_
    refine g_aload_n (q := 0) C dX12_personing_38 rfl rfl ?_
    refine g_getI C fX12_115 (by decide) dX12_personing_39 kd_199 ?_
    obtain ⟨g4, h⟩ := h
    refine g_iald C dX12_personing_42 kd_205 ln_205 g4 ?_
    refine g_iadd C dX12_personing_43 ?_
    obtain ⟨x5, e_x5⟩ : ∃ z : Int, z = (6 * (M1 199 34)) + (M1 205 (M1 199 34)) := ⟨_, rfl⟩
    have h := h x5 e_x5
    refine G.nmI e_x5 ?_
    refine g_istore_n (lv' := [(1, vI x5), (0, vR Y 199)]) C dX12_personing_44 rfl (by decide) rfl ?_
    refine g_aload_n (q := 1) C dX12_personing_45 rfl rfl ?_
    refine g_getS (v := 219) C fX12_109 dX12_personing_46 kd_199 rfl ?_
    refine g_iload_n (q := 0) C dX12_personing_49 rfl rfl ?_
    refine g_aload_n (q := 1) C dX12_personing_50 rfl rfl ?_
    refine g_cVl (As := []) C clX12_350 clvX12_fresh dX12_personing_51 kd_199 rfl (Nat.le_of_ble_eq_true rfl) rfl (by decide) (t_X12_fresh (Cx.ok C) h) (fun r7 M6 h => ?_)
    obtain ⟨g8, h⟩ := h
    obtain ⟨M9, e_M9⟩ : ∃ z : Mem, z = up M6 219 x5 r7 := ⟨_, rfl⟩
    have h := h M9 e_M9
    refine g_last C dX12_personing_54 kd_219 ln_219 g8 e_M9 ?_
    refine g_aload_n (q := 1) C dX12_personing_55 rfl rfl ?_
    refine g_ldc2 (v := 24948) C dX12_personing_56 kX12_252 (by decide +kernel) ?_
    refine g_cVv (As := [vL 24948]) C clX12_357 clvX12_must_ dX12_personing_59 kd_199 rfl (Nat.le_of_ble_eq_true rfl) rfl (by decide) (t_X12_must_ (Cx.ok C) h) (fun M10 h => ?_)
    refine g_aload_n (q := 1) C dX12_personing_62 rfl rfl ?_
    refine g_getS (v := 206) C fX12_69 dX12_personing_63 kd_199 rfl ?_
    refine g_iload_n (q := 0) C dX12_personing_66 rfl rfl ?_
    refine g_aload_n (q := 1) C dX12_personing_67 rfl rfl ?_
    refine g_iconst C dX12_personing_68 rfl ?_
    refine g_iconst C dX12_personing_69 rfl ?_
    refine g_cVi (As := [vI 0, vI 0]) C clX12_354 clvX12_knownBut dX12_personing_70 kd_199 rfl (Nat.le_of_ble_eq_true rfl) rfl (by decide) (t_X12_knownBut (Cx.ok C) h) (fun r12 M11 h => ?_)
    obtain ⟨g13, h⟩ := h
    obtain ⟨M14, e_M14⟩ : ∃ z : Mem, z = up M11 206 x5 r12 := ⟨_, rfl⟩
    have h := h M14 e_M14
    refine g_iast C dX12_personing_73 kd_206 ln_206 g13 e_M14 ?_
    refine g_aload_n (q := 1) C dX12_personing_74 rfl rfl ?_
    refine g_ldc2 (v := 1802071652) C dX12_personing_75 kX12_254 (by decide +kernel) ?_
    refine g_cVv (As := [vL 1802071652]) C clX12_357 clvX12_must_ dX12_personing_78 kd_199 rfl (Nat.le_of_ble_eq_true rfl) rfl (by decide) (t_X12_must_ (Cx.ok C) h) (fun M15 h => ?_)
    refine g_aload_n (q := 1) C dX12_personing_81 rfl rfl ?_
    refine g_getS (v := 207) C fX12_72 dX12_personing_82 kd_199 rfl ?_
    refine g_iload_n (q := 0) C dX12_personing_85 rfl rfl ?_
    refine g_aload_n (q := 1) C dX12_personing_86 rfl rfl ?_
    refine g_iconst C dX12_personing_87 rfl ?_
    refine g_bipush (v := 9) C dX12_personing_88 (by decide +kernel) ?_
    refine g_cVi (As := [vI 0, vI 9]) C clX12_365 clvX12_number dX12_personing_90 kd_199 rfl (Nat.le_of_ble_eq_true rfl) rfl (by decide) (t_X12_number (Cx.ok C) h) (fun r17 M16 h => ?_)
    obtain ⟨g18, h⟩ := h
    obtain ⟨M19, e_M19⟩ : ∃ z : Mem, z = up M16 207 x5 r17 := ⟨_, rfl⟩
    have h := h M19 e_M19
    refine g_iast C dX12_personing_93 kd_207 ln_207 g18 e_M19 ?_
    refine g_aload_n (q := 1) C dX12_personing_94 rfl rfl ?_
    refine g_getI C fX12_36 (by decide) dX12_personing_95 kd_199 ?_
    obtain ⟨g20, h⟩ := h
    obtain ⟨ht, hf⟩ := h
    refine g_if_ne (tgt := 114) C dX12_personing_98 (by decide) g20 (fun c => ?_) (fun c => ?_)
    · have h := hf c
      refine G.sub [] rfl ?_
      exact w_X12_personing_J114 C hR  h
    · have h := ht c
      refine g_aload_n (q := 1) C dX12_personing_101 rfl rfl ?_
      refine g_getS (v := 205) C fX12_66 dX12_personing_102 kd_199 rfl ?_
      refine g_aload_n (q := 1) C dX12_personing_105 rfl rfl ?_
      refine g_getI C fX12_115 (by decide) dX12_personing_106 kd_199 ?_
      refine g_dup2 C dX12_personing_109 rfl rfl ?_
      obtain ⟨g21, h⟩ := h
      refine g_iald C dX12_personing_110 kd_205 ln_205 g21 ?_
      refine g_iconst C dX12_personing_111 rfl ?_
      refine g_iadd C dX12_personing_112 ?_
      obtain ⟨g22, h⟩ := h
      obtain ⟨M23, e_M23⟩ : ∃ z : Mem, z = up M19 205 (M19 199 34) ((M19 205 (M19 199 34)) + 1) := ⟨_, rfl⟩
      have h := h M23 e_M23
      refine g_iast C dX12_personing_113 kd_205 ln_205 g22 e_M23 ?_
      refine G.sub [] rfl ?_
      exact w_X12_personing_J114 C hR  h
  · have h := ht c
    exact g_retv C hR dX12_personing_26 h
set_option maxRecDepth 20000 in
theorem t_X12_personing {l : Launch} {Y : YT} (hY : YOK Y) {M : Mem} {Q : Mem → Prop} (h : m_X12_personing  M Q) : Ctr l Y yX12_personing cX12_personing 2 none 4 [vR Y 199] M (PQv Y Q) := by
  unfold m_X12_personing at h
  refine ctr_ofF hY (by decide +kernel) (Nat.le_of_ble_eq_true rfl) [(0, vR Y 199)] rfl (fun X hX C hR => ?_)
  refine g_aload_n (q := 0) C dX12_personing_0 rfl rfl ?_
  refine g_aload_n (q := 0) C dX12_personing_1 rfl rfl ?_
  refine g_getS (v := 205) C fX12_66 dX12_personing_2 kd_199 rfl ?_
  refine g_aload_n (q := 0) C dX12_personing_5 rfl rfl ?_
  refine g_getI C fX12_115 (by decide) dX12_personing_6 kd_199 ?_
  obtain ⟨g24, h⟩ := h
  refine g_iald C dX12_personing_9 kd_205 ln_205 g24 ?_
  refine g_bipush (v := 6) C dX12_personing_10 (by decide +kernel) ?_
  obtain ⟨g25, h⟩ := h
  obtain ⟨ht, hf⟩ := h
  refine g_icmp_ne (tgt := 19) C dX12_personing_12 (by decide) g25 (by decide) (fun c => ?_) (fun c => ?_)
  · have h := hf c
    refine g_iconst C dX12_personing_19 rfl ?_
    refine G.sub [0] rfl ?_
    exact w_X12_personing_J20 C hR  h
  · have h := ht c
    refine g_iconst C dX12_personing_15 rfl ?_
    refine g_goto (tgt := 20) C dX12_personing_16 (by decide) ?_
    refine G.sub [0] rfl ?_
    exact w_X12_personing_J20 C hR  h
set_option maxRecDepth 20000 in
theorem w_X12_watching_J46 {Y : YT} {X : CX} (C : Cx Y X cX12_watching 2 RX12 4) {Q : Mem → Prop} (hR : Rt Y X none (PQv Y Q))   {M : Mem}  (h : m_X12_watching_J46  Q  M) : G Y X 2 46 [] ([]) M := by
  unfold m_X12_watching_J46 at h
  exact g_retv C hR dX12_watching_46 h
set_option maxRecDepth 20000 in
theorem t_X12_watching {l : Launch} {Y : YT} (hY : YOK Y) {M : Mem} {Q : Mem → Prop} (h : m_X12_watching  M Q) : Ctr l Y yX12_watching cX12_watching 2 none 4 [vR Y 199] M (PQv Y Q) := by
  unfold m_X12_watching at h
  refine ctr_ofF hY (by decide +kernel) (Nat.le_of_ble_eq_true rfl) [(0, vR Y 199)] rfl (fun X hX C hR => ?_)
  refine g_aload_n (q := 0) C dX12_watching_0 rfl rfl ?_
  refine g_iconst C dX12_watching_1 rfl ?_
  refine g_cVi (As := [vI 0]) C clX12_346 clvX12_counts dX12_watching_2 kd_199 rfl (Nat.le_of_ble_eq_true rfl) rfl (by decide) (t_X12_counts (Cx.ok C) h) (fun r2 M1 h => ?_)
  obtain ⟨g3, h⟩ := h
  obtain ⟨ht, hf⟩ := h
  refine g_if_ne (tgt := 9) C dX12_watching_5 (by decide) g3 (fun c => ?_) (fun c => ?_)
  · have h := hf c
    refine g_aload_n (q := 0) C dX12_watching_9 rfl rfl ?_
    refine g_iconst C dX12_watching_10 rfl ?_
    refine g_aload_n (q := 0) C dX12_watching_11 rfl rfl ?_
    refine g_getS (v := 208) C fX12_75 dX12_watching_12 kd_199 rfl ?_
    refine g_aload_n (q := 0) C dX12_watching_15 rfl rfl ?_
    refine g_getI C fX12_115 (by decide) dX12_watching_16 kd_199 ?_
    obtain ⟨g4, h⟩ := h
    refine g_iald C dX12_watching_19 kd_208 ln_208 g4 ?_
    refine g_cVi (As := [vI 1, vI (M1 208 (M1 199 34))]) C clX12_354 clvX12_knownBut dX12_watching_20 kd_199 rfl (Nat.le_of_ble_eq_true rfl) rfl (by decide) (t_X12_knownBut (Cx.ok C) h) (fun r6 M5 h => ?_)
    refine g_istore_n (lv' := [(1, vI r6), (0, vR Y 199)]) C dX12_watching_23 rfl (by decide) rfl ?_
    refine g_aload_n (q := 1) C dX12_watching_24 rfl rfl ?_
    refine g_getI C fX12_36 (by decide) dX12_watching_25 kd_199 ?_
    obtain ⟨g7, h⟩ := h
    obtain ⟨ht, hf⟩ := h
    refine g_if_ne (tgt := 46) C dX12_watching_28 (by decide) g7 (fun c => ?_) (fun c => ?_)
    · have h := hf c
      refine G.sub [] rfl ?_
      exact w_X12_watching_J46 C hR  h
    · have h := ht c
      refine g_aload_n (q := 1) C dX12_watching_31 rfl rfl ?_
      refine g_getS (v := 208) C fX12_75 dX12_watching_32 kd_199 rfl ?_
      refine g_aload_n (q := 1) C dX12_watching_35 rfl rfl ?_
      refine g_getI C fX12_115 (by decide) dX12_watching_36 kd_199 ?_
      refine g_dup2 C dX12_watching_39 rfl rfl ?_
      obtain ⟨g8, h⟩ := h
      refine g_iald C dX12_watching_40 kd_208 ln_208 g8 ?_
      refine g_iconst C dX12_watching_41 rfl ?_
      refine g_iload_n (q := 0) C dX12_watching_42 rfl rfl ?_
      refine g_ishl C dX12_watching_43 ?_
      refine g_ior C dX12_watching_44 ?_
      obtain ⟨g9, h⟩ := h
      obtain ⟨M10, e_M10⟩ : ∃ z : Mem, z = up M5 208 (M5 199 34) (zor (M5 208 (M5 199 34)) (zshl 1 r6)) := ⟨_, rfl⟩
      have h := h M10 e_M10
      refine g_iast C dX12_watching_45 kd_208 ln_208 g9 e_M10 ?_
      refine G.sub [] rfl ?_
      exact w_X12_watching_J46 C hR  h
  · have h := ht c
    exact g_retv C hR dX12_watching_8 h
set_option maxRecDepth 20000 in
theorem w_X12_framing_J154 {Y : YT} {X : CX} (C : Cx Y X cX12_framing 4 RX12 4) {Q : Mem → Prop} (hR : Rt Y X none (PQv Y Q))   {M : Mem}  (h : m_X12_framing_J154  Q  M) : G Y X 4 154 [] ([]) M := by
  unfold m_X12_framing_J154 at h
  exact g_retv C hR dX12_framing_154 h
set_option maxRecDepth 20000 in
theorem w_X12_framing_J101 {Y : YT} {X : CX} (C : Cx Y X cX12_framing 4 RX12 4) {Q : Mem → Prop} (hR : Rt Y X none (PQv Y Q)) {v1 : Int} {v3 : Int} {s0 : Int} {s1 : Int} {k68 : Int → Int → Mem → Prop} (hk68 : ∀ (v2 : Int) (v3 : Int)  (M : Mem), k68 v2 v3 M → G Y X 4 68 [(0, vR Y 199), (1, vI v1), (2, vI v2), (3, vI v3)] ([]) M) {M : Mem}  (h : m_X12_framing_J101 k68 Q v1 v3 s0 s1 M) : G Y X 4 101 [(0, vR Y 199), (1, vI v1), (3, vI v3)] ((vI s1) :: (vI s0) :: []) M := by
  unfold m_X12_framing_J101 at h
  refine g_ior C dX12_framing_101 ?_
  refine g_istore_n (lv' := [(2, vI (zor s0 s1)), (0, vR Y 199), (1, vI v1), (3, vI v3)]) C dX12_framing_102 rfl (by decide) rfl ?_
  refine g_iinc (q := 3) (v := v3 + 1) (lv' := [(3, vI (v3 + 1)), (2, vI (zor s0 s1)), (0, vR Y 199), (1, vI v1)]) C dX12_framing_103 rfl rfl (by decide) rfl ?_
  refine g_goto (tgt := 68) C dX12_framing_106 (by decide) ?_
  refine G.sub [2, 3, 1, 0] rfl ?_
  exact hk68 _ _ _ h
set_option maxRecDepth 20000 in
theorem w_X12_framing_L68 {Y : YT} {X : CX} (C : Cx Y X cX12_framing 4 RX12 4) {Q : Mem → Prop} (hR : Rt Y X none (PQv Y Q)) {v1 : Int}  : ∀ (f : Nat) (v2 : Int) (v3 : Int) (M : Mem), m_X12_framing_L68  Q v1 f v2 v3 M → G Y X 4 68 [(0, vR Y 199), (1, vI v1), (2, vI v2), (3, vI v3)] ([]) M := by
  intro f
  induction f with
  | zero =>
    intro v2 v3 M h
    exact (show False from h).elim
  | succ f ih =>
    intro v2 v3 M h
    unfold m_X12_framing_L68 at h
    refine g_iload_n (q := 3) C dX12_framing_68 rfl rfl ?_
    refine g_iload_n (q := 1) C dX12_framing_69 rfl rfl ?_
    obtain ⟨g1, h⟩ := h
    obtain ⟨g2, h⟩ := h
    obtain ⟨ht, hf⟩ := h
    refine g_icmp_ge (tgt := 109) C dX12_framing_70 (by decide) g1 g2 (fun c => ?_) (fun c => ?_)
    · have h := ht c
      refine g_aload_n (q := 0) C dX12_framing_109 rfl rfl ?_
      refine g_getS (v := 211) C fX12_84 dX12_framing_110 kd_199 rfl ?_
      refine g_iload_n (q := 1) C dX12_framing_113 rfl rfl ?_
      refine g_aload_n (q := 0) C dX12_framing_114 rfl rfl ?_
      refine g_iconst C dX12_framing_115 rfl ?_
      refine g_iload_n (q := 2) C dX12_framing_116 rfl rfl ?_
      refine g_cVi (As := [vI 0, vI v2]) C clX12_354 clvX12_knownBut dX12_framing_117 kd_199 rfl (Nat.le_of_ble_eq_true rfl) rfl (by decide) (t_X12_knownBut (Cx.ok C) h) (fun r4 M3 h => ?_)
      obtain ⟨g5, h⟩ := h
      obtain ⟨M6, e_M6⟩ : ∃ z : Mem, z = up M3 211 v1 r4 := ⟨_, rfl⟩
      have h := h M6 e_M6
      refine g_iast C dX12_framing_120 kd_211 ln_211 g5 e_M6 ?_
      refine g_aload_n (q := 0) C dX12_framing_121 rfl rfl ?_
      refine g_getS (v := 212) C fX12_87 dX12_framing_122 kd_199 rfl ?_
      refine g_iload_n (q := 1) C dX12_framing_125 rfl rfl ?_
      refine g_aload_n (q := 0) C dX12_framing_126 rfl rfl ?_
      refine g_iconst C dX12_framing_127 rfl ?_
      refine g_bipush (v := 6) C dX12_framing_128 (by decide +kernel) ?_
      refine g_cVi (As := [vI 0, vI 6]) C clX12_365 clvX12_number dX12_framing_130 kd_199 rfl (Nat.le_of_ble_eq_true rfl) rfl (by decide) (t_X12_number (Cx.ok C) h) (fun r8 M7 h => ?_)
      obtain ⟨g9, h⟩ := h
      obtain ⟨M10, e_M10⟩ : ∃ z : Mem, z = up M7 212 v1 r8 := ⟨_, rfl⟩
      have h := h M10 e_M10
      refine g_iast C dX12_framing_133 kd_212 ln_212 g9 e_M10 ?_
      refine g_aload_n (q := 0) C dX12_framing_134 rfl rfl ?_
      refine g_getI C fX12_36 (by decide) dX12_framing_135 kd_199 ?_
      obtain ⟨g11, h⟩ := h
      obtain ⟨ht, hf⟩ := h
      refine g_if_ne (tgt := 154) C dX12_framing_138 (by decide) g11 (fun c => ?_) (fun c => ?_)
      · have h := hf c
        refine G.sub [] rfl ?_
        exact w_X12_framing_J154 C hR  h
      · have h := ht c
        refine g_aload_n (q := 0) C dX12_framing_141 rfl rfl ?_
        refine g_getS (v := 209) C fX12_78 dX12_framing_142 kd_199 rfl ?_
        refine g_aload_n (q := 0) C dX12_framing_145 rfl rfl ?_
        refine g_getI C fX12_115 (by decide) dX12_framing_146 kd_199 ?_
        refine g_dup2 C dX12_framing_149 rfl rfl ?_
        obtain ⟨g12, h⟩ := h
        refine g_iald C dX12_framing_150 kd_209 ln_209 g12 ?_
        refine g_iconst C dX12_framing_151 rfl ?_
        refine g_iadd C dX12_framing_152 ?_
        obtain ⟨g13, h⟩ := h
        obtain ⟨M14, e_M14⟩ : ∃ z : Mem, z = up M10 209 (M10 199 34) ((M10 209 (M10 199 34)) + 1) := ⟨_, rfl⟩
        have h := h M14 e_M14
        refine g_iast C dX12_framing_153 kd_209 ln_209 g13 e_M14 ?_
        refine G.sub [] rfl ?_
        exact w_X12_framing_J154 C hR  h
    · have h := hf c
      refine g_iload_n (q := 2) C dX12_framing_73 rfl rfl ?_
      refine g_aload_n (q := 0) C dX12_framing_74 rfl rfl ?_
      refine g_getS (v := 210) C fX12_81 dX12_framing_75 kd_199 rfl ?_
      refine g_iload_n (q := 3) C dX12_framing_78 rfl rfl ?_
      obtain ⟨g15, h⟩ := h
      refine g_iald C dX12_framing_79 kd_210 ln_210 g15 ?_
      refine g_aload_n (q := 0) C dX12_framing_80 rfl rfl ?_
      refine g_getS (v := 210) C fX12_81 dX12_framing_81 kd_199 rfl ?_
      refine g_iload_n (q := 1) C dX12_framing_84 rfl rfl ?_
      obtain ⟨g16, h⟩ := h
      refine g_iald C dX12_framing_85 kd_210 ln_210 g16 ?_
      obtain ⟨g17, h⟩ := h
      obtain ⟨g18, h⟩ := h
      obtain ⟨ht, hf⟩ := h
      refine g_icmp_ne (tgt := 100) C dX12_framing_86 (by decide) g17 g18 (fun c => ?_) (fun c => ?_)
      · have h := hf c
        refine g_iconst C dX12_framing_100 rfl ?_
        refine G.sub [0, 1, 3] rfl ?_
        exact w_X12_framing_J101 C hR (ih)  h
      · have h := ht c
        refine g_iconst C dX12_framing_89 rfl ?_
        refine g_aload_n (q := 0) C dX12_framing_90 rfl rfl ?_
        refine g_getS (v := 211) C fX12_84 dX12_framing_91 kd_199 rfl ?_
        refine g_iload_n (q := 3) C dX12_framing_94 rfl rfl ?_
        obtain ⟨g19, h⟩ := h
        refine g_iald C dX12_framing_95 kd_211 ln_211 g19 ?_
        refine g_ishl C dX12_framing_96 ?_
        refine g_goto (tgt := 101) C dX12_framing_97 (by decide) ?_
        refine G.sub [0, 1, 3] rfl ?_
        exact w_X12_framing_J101 C hR (ih)  h
set_option maxRecDepth 20000 in
theorem w_X12_framing_J20 {Y : YT} {X : CX} (C : Cx Y X cX12_framing 4 RX12 4) {Q : Mem → Prop} (hR : Rt Y X none (PQv Y Q)) {s1 : Int}  {M : Mem}  (h : m_X12_framing_J20  Q s1 M) : G Y X 4 20 [(0, vR Y 199)] ((vI s1) :: (vR Y 199) :: []) M := by
  unfold m_X12_framing_J20 at h
  refine g_cVi (As := [vI s1]) C clX12_346 clvX12_counts dX12_framing_20 kd_199 rfl (Nat.le_of_ble_eq_true rfl) rfl (by decide) (t_X12_counts (Cx.ok C) h) (fun r21 M20 h => ?_)
  obtain ⟨g22, h⟩ := h
  obtain ⟨ht, hf⟩ := h
  refine g_if_ne (tgt := 27) C dX12_framing_23 (by decide) g22 (fun c => ?_) (fun c => ?_)
  · have h := hf c
    refine g_bipush (v := 8) C dX12_framing_27 (by decide +kernel) ?_
    refine g_aload_n (q := 0) C dX12_framing_29 rfl rfl ?_
    refine g_getI C fX12_115 (by decide) dX12_framing_30 kd_199 ?_
    refine g_imul C dX12_framing_33 ?_
    refine g_aload_n (q := 0) C dX12_framing_34 rfl rfl ?_
    refine g_getS (v := 209) C fX12_78 dX12_framing_35 kd_199 rfl ?_
    refine g_aload_n (q := 0) C dX12_framing_38 rfl rfl ?_
    refine g_getI C fX12_115 (by decide) dX12_framing_39 kd_199 ?_
    obtain ⟨g23, h⟩ := h
    refine g_iald C dX12_framing_42 kd_209 ln_209 g23 ?_
    refine g_iadd C dX12_framing_43 ?_
    obtain ⟨x24, e_x24⟩ : ∃ z : Int, z = (8 * (M20 199 34)) + (M20 209 (M20 199 34)) := ⟨_, rfl⟩
    have h := h x24 e_x24
    refine G.nmI e_x24 ?_
    refine g_istore_n (lv' := [(1, vI x24), (0, vR Y 199)]) C dX12_framing_44 rfl (by decide) rfl ?_
    refine g_aload_n (q := 1) C dX12_framing_45 rfl rfl ?_
    refine g_getS (v := 210) C fX12_81 dX12_framing_46 kd_199 rfl ?_
    refine g_iload_n (q := 0) C dX12_framing_49 rfl rfl ?_
    refine g_aload_n (q := 1) C dX12_framing_50 rfl rfl ?_
    refine g_iconst C dX12_framing_51 rfl ?_
    refine g_bipush (v := 8) C dX12_framing_52 (by decide +kernel) ?_
    refine g_cVi (As := [vI 1, vI 8]) C clX12_365 clvX12_number dX12_framing_54 kd_199 rfl (Nat.le_of_ble_eq_true rfl) rfl (by decide) (t_X12_number (Cx.ok C) h) (fun r26 M25 h => ?_)
    obtain ⟨g27, h⟩ := h
    obtain ⟨M28, e_M28⟩ : ∃ z : Mem, z = up M25 210 x24 r26 := ⟨_, rfl⟩
    have h := h M28 e_M28
    refine g_iast C dX12_framing_57 kd_210 ln_210 g27 e_M28 ?_
    refine g_iconst C dX12_framing_58 rfl ?_
    refine g_istore_n (lv' := [(2, vI 0), (1, vI x24), (0, vR Y 199)]) C dX12_framing_59 rfl (by decide) rfl ?_
    refine g_bipush (v := 8) C dX12_framing_60 (by decide +kernel) ?_
    refine g_aload_n (q := 2) C dX12_framing_62 rfl rfl ?_
    refine g_getI C fX12_115 (by decide) dX12_framing_63 kd_199 ?_
    refine g_imul C dX12_framing_66 ?_
    refine g_istore_n (lv' := [(3, vI (8 * (M28 199 34))), (2, vI 0), (1, vI x24), (0, vR Y 199)]) C dX12_framing_67 rfl (by decide) rfl ?_
    obtain ⟨f0, h⟩ := h
    refine G.sub [3, 2, 1, 0] rfl ?_
    exact w_X12_framing_L68 C hR  f0 _ _ _ h
  · have h := ht c
    exact g_retv C hR dX12_framing_26 h
set_option maxRecDepth 20000 in
theorem t_X12_framing {l : Launch} {Y : YT} (hY : YOK Y) {M : Mem} {Q : Mem → Prop} (h : m_X12_framing  M Q) : Ctr l Y yX12_framing cX12_framing 4 none 4 [vR Y 199] M (PQv Y Q) := by
  unfold m_X12_framing at h
  refine ctr_ofF hY (by decide +kernel) (Nat.le_of_ble_eq_true rfl) [(0, vR Y 199)] rfl (fun X hX C hR => ?_)
  refine g_aload_n (q := 0) C dX12_framing_0 rfl rfl ?_
  refine g_aload_n (q := 0) C dX12_framing_1 rfl rfl ?_
  refine g_getS (v := 209) C fX12_78 dX12_framing_2 kd_199 rfl ?_
  refine g_aload_n (q := 0) C dX12_framing_5 rfl rfl ?_
  refine g_getI C fX12_115 (by decide) dX12_framing_6 kd_199 ?_
  obtain ⟨g29, h⟩ := h
  refine g_iald C dX12_framing_9 kd_209 ln_209 g29 ?_
  refine g_bipush (v := 8) C dX12_framing_10 (by decide +kernel) ?_
  obtain ⟨g30, h⟩ := h
  obtain ⟨ht, hf⟩ := h
  refine g_icmp_ne (tgt := 19) C dX12_framing_12 (by decide) g30 (by decide) (fun c => ?_) (fun c => ?_)
  · have h := hf c
    refine g_iconst C dX12_framing_19 rfl ?_
    refine G.sub [0] rfl ?_
    exact w_X12_framing_J20 C hR  h
  · have h := ht c
    refine g_iconst C dX12_framing_15 rfl ?_
    refine g_goto (tgt := 20) C dX12_framing_16 (by decide) ?_
    refine G.sub [0] rfl ?_
    exact w_X12_framing_J20 C hR  h
set_option maxRecDepth 20000 in
theorem w_X12_reading_J66 {Y : YT} {X : CX} (C : Cx Y X cX12_reading 3 RX12 6) {Q : Mem → Prop} (hR : Rt Y X none (PQv Y Q)) {v2 : Int} {s1 : Int}  {M : Mem}  (h : m_X12_reading_J66  Q v2 s1 M) : G Y X 3 66 [(0, vR Y 199), (2, vI v2)] ((vI s1) :: (vR Y 199) :: []) M := by
  unfold m_X12_reading_J66 at h
  refine g_cVv (As := [vI s1]) C clX12_368 clvX12_reads dX12_reading_66 kd_199 rfl (Nat.le_of_ble_eq_true rfl) rfl (by decide) (t_X12_reads (Cx.ok C) h) (fun M1 h => ?_)
  refine g_aload_n (q := 0) C dX12_reading_69 rfl rfl ?_
  refine g_getS (v := 215) C fX12_96 dX12_reading_70 kd_199 rfl ?_
  refine g_iload_n (q := 1) C dX12_reading_73 rfl rfl ?_
  refine g_aload_n (q := 0) C dX12_reading_74 rfl rfl ?_
  refine g_getI C fX12_112 (by decide) dX12_reading_75 kd_199 ?_
  obtain ⟨g2, h⟩ := h
  obtain ⟨M3, e_M3⟩ : ∃ z : Mem, z = up M1 215 v2 (M1 199 33) := ⟨_, rfl⟩
  have h := h M3 e_M3
  refine g_iast C dX12_reading_78 kd_215 ln_215 g2 e_M3 ?_
  exact g_retv C hR dX12_reading_79 h
set_option maxRecDepth 20000 in
theorem w_X12_reading_J43 {Y : YT} {X : CX} (C : Cx Y X cX12_reading 3 RX12 6) {Q : Mem → Prop} (hR : Rt Y X none (PQv Y Q)) {v1 : Int} {v2 : Int} {s1 : Int}  {M : Mem}  (h : m_X12_reading_J43  Q v1 v2 s1 M) : G Y X 3 43 [(0, vR Y 199), (1, vI v1), (2, vI v2)] ((vI s1) :: (vR Y 199) :: []) M := by
  unfold m_X12_reading_J43 at h
  obtain ⟨g4, h⟩ := h
  obtain ⟨M5, e_M5⟩ : ∃ z : Mem, z = up M 199 35 s1 := ⟨_, rfl⟩
  have h := h M5 e_M5
  refine g_putZ C fX12_118 pX12_118 dX12_reading_43 kd_199 g4 e_M5 ?_
  refine g_aload_n (q := 0) C dX12_reading_46 rfl rfl ?_
  refine g_getS (v := 214) C fX12_93 dX12_reading_47 kd_199 rfl ?_
  refine g_iload_n (q := 2) C dX12_reading_50 rfl rfl ?_
  refine g_aload_n (q := 0) C dX12_reading_51 rfl rfl ?_
  refine g_getI C fX12_112 (by decide) dX12_reading_52 kd_199 ?_
  obtain ⟨g6, h⟩ := h
  obtain ⟨M7, e_M7⟩ : ∃ z : Mem, z = up M5 214 v2 (M5 199 33) := ⟨_, rfl⟩
  have h := h M7 e_M7
  refine g_iast C dX12_reading_55 kd_214 ln_214 g6 e_M7 ?_
  refine g_aload_n (q := 0) C dX12_reading_56 rfl rfl ?_
  refine g_iload_n (q := 1) C dX12_reading_57 rfl rfl ?_
  obtain ⟨g8, h⟩ := h
  obtain ⟨ht, hf⟩ := h
  refine g_if_ne (tgt := 65) C dX12_reading_58 (by decide) g8 (fun c => ?_) (fun c => ?_)
  · have h := hf c
    refine g_iconst C dX12_reading_65 rfl ?_
    refine G.sub [0, 2] rfl ?_
    exact w_X12_reading_J66 C hR  h
  · have h := ht c
    refine g_iconst C dX12_reading_61 rfl ?_
    refine g_goto (tgt := 66) C dX12_reading_62 (by decide) ?_
    refine G.sub [0, 2] rfl ?_
    exact w_X12_reading_J66 C hR  h
set_option maxRecDepth 20000 in
theorem w_X12_reading_J25 {Y : YT} {X : CX} (C : Cx Y X cX12_reading 3 RX12 6) {Q : Mem → Prop} (hR : Rt Y X none (PQv Y Q)) {v1 : Int} {v2 : Int} {s1 : Int}  {M : Mem}  (h : m_X12_reading_J25  Q v1 v2 s1 M) : G Y X 3 25 [(0, vR Y 199), (1, vI v1), (2, vI v2)] ((vI s1) :: (vR Y 199) :: []) M := by
  unfold m_X12_reading_J25 at h
  refine g_cVi (As := [vI s1]) C clX12_346 clvX12_counts dX12_reading_25 kd_199 rfl (Nat.le_of_ble_eq_true rfl) rfl (by decide) (t_X12_counts (Cx.ok C) h) (fun r10 M9 h => ?_)
  obtain ⟨g11, h⟩ := h
  obtain ⟨ht, hf⟩ := h
  refine g_if_ne (tgt := 32) C dX12_reading_28 (by decide) g11 (fun c => ?_) (fun c => ?_)
  · have h := hf c
    refine g_aload_n (q := 0) C dX12_reading_32 rfl rfl ?_
    refine g_iload_n (q := 1) C dX12_reading_33 rfl rfl ?_
    refine g_iconst C dX12_reading_34 rfl ?_
    obtain ⟨g12, h⟩ := h
    obtain ⟨ht, hf⟩ := h
    refine g_icmp_ne (tgt := 42) C dX12_reading_35 (by decide) g12 (by decide) (fun c => ?_) (fun c => ?_)
    · have h := hf c
      refine g_iconst C dX12_reading_42 rfl ?_
      refine G.sub [0, 1, 2] rfl ?_
      exact w_X12_reading_J43 C hR  h
    · have h := ht c
      refine g_iconst C dX12_reading_38 rfl ?_
      refine g_goto (tgt := 43) C dX12_reading_39 (by decide) ?_
      refine G.sub [0, 1, 2] rfl ?_
      exact w_X12_reading_J43 C hR  h
  · have h := ht c
    exact g_retv C hR dX12_reading_31 h
set_option maxRecDepth 20000 in
theorem t_X12_reading {l : Launch} {Y : YT} (hY : YOK Y) {a0 : Int} {M : Mem} {Q : Mem → Prop} (h : m_X12_reading a0 M Q) : Ctr l Y yX12_reading cX12_reading 3 none 6 [vR Y 199, vI a0] M (PQv Y Q) := by
  unfold m_X12_reading at h
  refine ctr_ofF hY (by decide +kernel) (Nat.le_of_ble_eq_true rfl) [(0, vR Y 199), (1, vI a0)] rfl (fun X hX C hR => ?_)
  refine g_iconst C dX12_reading_0 rfl ?_
  refine g_aload_n (q := 0) C dX12_reading_1 rfl rfl ?_
  refine g_getI C fX12_115 (by decide) dX12_reading_2 kd_199 ?_
  refine g_imul C dX12_reading_5 ?_
  refine g_iload_n (q := 1) C dX12_reading_6 rfl rfl ?_
  refine g_iadd C dX12_reading_7 ?_
  refine g_istore_n (lv' := [(2, vI ((2 * (M 199 34)) + a0)), (0, vR Y 199), (1, vI a0)]) C dX12_reading_8 rfl (by decide) rfl ?_
  refine g_aload_n (q := 1) C dX12_reading_9 rfl rfl ?_
  refine g_aload_n (q := 1) C dX12_reading_10 rfl rfl ?_
  refine g_getS (v := 214) C fX12_93 dX12_reading_11 kd_199 rfl ?_
  refine g_iload_n (q := 0) C dX12_reading_14 rfl rfl ?_
  obtain ⟨g13, h⟩ := h
  refine g_iald C dX12_reading_15 kd_214 ln_214 g13 ?_
  refine g_iconst C dX12_reading_16 rfl ?_
  obtain ⟨g14, h⟩ := h
  obtain ⟨ht, hf⟩ := h
  refine g_icmp_eq (tgt := 24) C dX12_reading_17 (by decide) g14 (by decide) (fun c => ?_) (fun c => ?_)
  · have h := ht c
    refine g_iconst C dX12_reading_24 rfl ?_
    refine G.sub [1, 2, 0] rfl ?_
    exact w_X12_reading_J25 C hR  h
  · have h := hf c
    refine g_iconst C dX12_reading_20 rfl ?_
    refine g_goto (tgt := 25) C dX12_reading_21 (by decide) ?_
    refine G.sub [1, 2, 0] rfl ?_
    exact w_X12_reading_J25 C hR  h
set_option maxRecDepth 20000 in
theorem w_X12_raining_J34 {Y : YT} {X : CX} (C : Cx Y X cX12_raining 2 RX12 4) {Q : Mem → Prop} (hR : Rt Y X none (PQv Y Q))   {M : Mem}  (h : m_X12_raining_J34  Q  M) : G Y X 2 34 [] ([]) M := by
  unfold m_X12_raining_J34 at h
  exact g_retv C hR dX12_raining_34 h
set_option maxRecDepth 20000 in
theorem t_X12_raining {l : Launch} {Y : YT} (hY : YOK Y) {M : Mem} {Q : Mem → Prop} (h : m_X12_raining  M Q) : Ctr l Y yX12_raining cX12_raining 2 none 4 [vR Y 199] M (PQv Y Q) := by
  unfold m_X12_raining at h
  refine ctr_ofF hY (by decide +kernel) (Nat.le_of_ble_eq_true rfl) [(0, vR Y 199)] rfl (fun X hX C hR => ?_)
  refine g_aload_n (q := 0) C dX12_raining_0 rfl rfl ?_
  refine g_iconst C dX12_raining_1 rfl ?_
  refine g_cVi (As := [vI 0]) C clX12_346 clvX12_counts dX12_raining_2 kd_199 rfl (Nat.le_of_ble_eq_true rfl) rfl (by decide) (t_X12_counts (Cx.ok C) h) (fun r2 M1 h => ?_)
  obtain ⟨g3, h⟩ := h
  obtain ⟨ht, hf⟩ := h
  refine g_if_ne (tgt := 9) C dX12_raining_5 (by decide) g3 (fun c => ?_) (fun c => ?_)
  · have h := hf c
    refine g_aload_n (q := 0) C dX12_raining_9 rfl rfl ?_
    refine g_iconst C dX12_raining_10 rfl ?_
    refine g_bipush (v := 100) C dX12_raining_11 (by decide +kernel) ?_
    refine g_cVi (As := [vI 0, vI 100]) C clX12_365 clvX12_number dX12_raining_13 kd_199 rfl (Nat.le_of_ble_eq_true rfl) rfl (by decide) (t_X12_number (Cx.ok C) h) (fun r5 M4 h => ?_)
    refine g_istore_n (lv' := [(1, vI r5), (0, vR Y 199)]) C dX12_raining_16 rfl (by decide) rfl ?_
    refine g_aload_n (q := 1) C dX12_raining_17 rfl rfl ?_
    refine g_getI C fX12_36 (by decide) dX12_raining_18 kd_199 ?_
    obtain ⟨g6, h⟩ := h
    obtain ⟨ht, hf⟩ := h
    refine g_if_ne (tgt := 34) C dX12_raining_21 (by decide) g6 (fun c => ?_) (fun c => ?_)
    · have h := hf c
      refine G.sub [] rfl ?_
      exact w_X12_raining_J34 C hR  h
    · have h := ht c
      refine g_aload_n (q := 1) C dX12_raining_24 rfl rfl ?_
      refine g_getS (v := 213) C fX12_90 dX12_raining_25 kd_199 rfl ?_
      refine g_aload_n (q := 1) C dX12_raining_28 rfl rfl ?_
      refine g_getI C fX12_115 (by decide) dX12_raining_29 kd_199 ?_
      refine g_iload_n (q := 0) C dX12_raining_32 rfl rfl ?_
      obtain ⟨g7, h⟩ := h
      obtain ⟨M8, e_M8⟩ : ∃ z : Mem, z = up M4 213 (M4 199 34) r5 := ⟨_, rfl⟩
      have h := h M8 e_M8
      refine g_iast C dX12_raining_33 kd_213 ln_213 g7 e_M8 ?_
      refine G.sub [] rfl ?_
      exact w_X12_raining_J34 C hR  h
  · have h := ht c
    exact g_retv C hR dX12_raining_8 h
set_option maxRecDepth 20000 in
theorem w_X12_statement_J159 {Y : YT} {X : CX} (C : Cx Y X cX12_statement 1 RX12 7) {Q : Mem → Prop} (hR : Rt Y X none (PQv Y Q))   {M : Mem}  (h : m_X12_statement_J159  Q  M) : G Y X 1 159 [] ([]) M := by
  unfold m_X12_statement_J159 at h
  exact g_retv C hR dX12_statement_159 h
set_option maxRecDepth 20000 in
theorem t_X12_statement {l : Launch} {Y : YT} (hY : YOK Y) {M : Mem} {Q : Mem → Prop} (h : m_X12_statement  M Q) : Ctr l Y yX12_statement cX12_statement 1 none 7 [vR Y 199] M (PQv Y Q) := by
  unfold m_X12_statement at h
  refine ctr_ofF hY (by decide +kernel) (Nat.le_of_ble_eq_true rfl) [(0, vR Y 199)] rfl (fun X hX C hR => ?_)
  refine g_aload_n (q := 0) C dX12_statement_0 rfl rfl ?_
  refine g_cVv (As := []) C clX12_235 clvX12_lex dX12_statement_1 kd_199 rfl (Nat.le_of_ble_eq_true rfl) rfl (by decide) (t_X12_lex (Cx.ok C) h) (fun M1 h => ?_)
  refine g_aload_n (q := 0) C dX12_statement_4 rfl rfl ?_
  refine g_getI C fX12_36 (by decide) dX12_statement_5 kd_199 ?_
  obtain ⟨g2, h⟩ := h
  obtain ⟨ht, hf⟩ := h
  refine g_if_le (tgt := 12) C dX12_statement_8 (by decide) g2 (fun c => ?_) (fun c => ?_)
  · have h := ht c
    refine g_aload_n (q := 0) C dX12_statement_12 rfl rfl ?_
    refine g_ldc2 (v := 482854658917) C dX12_statement_13 kX12_244 (by decide +kernel) ?_
    refine g_cVi (As := [vL 482854658917]) C clX12_316 clvX12_isWord dX12_statement_16 kd_199 rfl (Nat.le_of_ble_eq_true rfl) rfl (by decide) (t_X12_isWord (Cx.ok C) h) (fun r4 M3 h => ?_)
    obtain ⟨g5, h⟩ := h
    obtain ⟨ht, hf⟩ := h
    refine g_if_eq (tgt := 29) C dX12_statement_19 (by decide) g5 (fun c => ?_) (fun c => ?_)
    · have h := ht c
      refine g_aload_n (q := 0) C dX12_statement_29 rfl rfl ?_
      refine g_ldc2 (v := 1919902052) C dX12_statement_30 kX12_246 (by decide +kernel) ?_
      refine g_cVi (As := [vL 1919902052]) C clX12_316 clvX12_isWord dX12_statement_33 kd_199 rfl (Nat.le_of_ble_eq_true rfl) rfl (by decide) (t_X12_isWord (Cx.ok C) h) (fun r7 M6 h => ?_)
      obtain ⟨g8, h⟩ := h
      obtain ⟨ht, hf⟩ := h
      refine g_if_eq (tgt := 46) C dX12_statement_36 (by decide) g8 (fun c => ?_) (fun c => ?_)
      · have h := ht c
        refine g_aload_n (q := 0) C dX12_statement_46 rfl rfl ?_
        refine g_ldc2 (v := 123581014175598) C dX12_statement_47 kX12_250 (by decide +kernel) ?_
        refine g_cVi (As := [vL 123581014175598]) C clX12_316 clvX12_isWord dX12_statement_50 kd_199 rfl (Nat.le_of_ble_eq_true rfl) rfl (by decide) (t_X12_isWord (Cx.ok C) h) (fun r10 M9 h => ?_)
        obtain ⟨g11, h⟩ := h
        obtain ⟨ht, hf⟩ := h
        refine g_if_eq (tgt := 63) C dX12_statement_53 (by decide) g11 (fun c => ?_) (fun c => ?_)
        · have h := ht c
          refine g_aload_n (q := 0) C dX12_statement_63 rfl rfl ?_
          refine g_ldc2 (v := 512736125800) C dX12_statement_64 kX12_256 (by decide +kernel) ?_
          refine g_cVi (As := [vL 512736125800]) C clX12_316 clvX12_isWord dX12_statement_67 kd_199 rfl (Nat.le_of_ble_eq_true rfl) rfl (by decide) (t_X12_isWord (Cx.ok C) h) (fun r13 M12 h => ?_)
          obtain ⟨g14, h⟩ := h
          obtain ⟨ht, hf⟩ := h
          refine g_if_eq (tgt := 80) C dX12_statement_70 (by decide) g14 (fun c => ?_) (fun c => ?_)
          · have h := ht c
            refine g_aload_n (q := 0) C dX12_statement_80 rfl rfl ?_
            refine g_ldc2 (v := 440005651813) C dX12_statement_81 kX12_258 (by decide +kernel) ?_
            refine g_cVi (As := [vL 440005651813]) C clX12_316 clvX12_isWord dX12_statement_84 kd_199 rfl (Nat.le_of_ble_eq_true rfl) rfl (by decide) (t_X12_isWord (Cx.ok C) h) (fun r16 M15 h => ?_)
            obtain ⟨g17, h⟩ := h
            obtain ⟨ht, hf⟩ := h
            refine g_if_eq (tgt := 97) C dX12_statement_87 (by decide) g17 (fun c => ?_) (fun c => ?_)
            · have h := ht c
              refine g_aload_n (q := 0) C dX12_statement_97 rfl rfl ?_
              refine g_ldc2 (v := 495873784179) C dX12_statement_98 kX12_260 (by decide +kernel) ?_
              refine g_cVi (As := [vL 495873784179]) C clX12_316 clvX12_isWord dX12_statement_101 kd_199 rfl (Nat.le_of_ble_eq_true rfl) rfl (by decide) (t_X12_isWord (Cx.ok C) h) (fun r19 M18 h => ?_)
              obtain ⟨g20, h⟩ := h
              obtain ⟨ht, hf⟩ := h
              refine g_if_eq (tgt := 115) C dX12_statement_104 (by decide) g20 (fun c => ?_) (fun c => ?_)
              · have h := ht c
                refine g_aload_n (q := 0) C dX12_statement_115 rfl rfl ?_
                refine g_ldc2 (v := 1735353715) C dX12_statement_116 kX12_262 (by decide +kernel) ?_
                refine g_cVi (As := [vL 1735353715]) C clX12_316 clvX12_isWord dX12_statement_119 kd_199 rfl (Nat.le_of_ble_eq_true rfl) rfl (by decide) (t_X12_isWord (Cx.ok C) h) (fun r22 M21 h => ?_)
                obtain ⟨g23, h⟩ := h
                obtain ⟨ht, hf⟩ := h
                refine g_if_eq (tgt := 133) C dX12_statement_122 (by decide) g23 (fun c => ?_) (fun c => ?_)
                · have h := ht c
                  refine g_aload_n (q := 0) C dX12_statement_133 rfl rfl ?_
                  refine g_ldc2 (v := 1918986606) C dX12_statement_134 kX12_264 (by decide +kernel) ?_
                  refine g_cVi (As := [vL 1918986606]) C clX12_316 clvX12_isWord dX12_statement_137 kd_199 rfl (Nat.le_of_ble_eq_true rfl) rfl (by decide) (t_X12_isWord (Cx.ok C) h) (fun r25 M24 h => ?_)
                  obtain ⟨g26, h⟩ := h
                  obtain ⟨ht, hf⟩ := h
                  refine g_if_eq (tgt := 150) C dX12_statement_140 (by decide) g26 (fun c => ?_) (fun c => ?_)
                  · have h := ht c
                    refine g_aload_n (q := 0) C dX12_statement_150 rfl rfl ?_
                    refine g_iconst C dX12_statement_151 rfl ?_
                    refine g_aload_n (q := 0) C dX12_statement_152 rfl rfl ?_
                    refine g_getI C fX12_23 (by decide) dX12_statement_153 kd_199 ?_
                    refine g_cVv (As := [vI 1, vI (M24 199 4)]) C clX12_224 clvX12_blame dX12_statement_156 kd_199 rfl (Nat.le_of_ble_eq_true rfl) rfl (by decide) (t_X12_blame (Cx.ok C) h) (fun M27 h => ?_)
                    refine G.sub [] rfl ?_
                    exact w_X12_statement_J159 C hR  h
                  · have h := hf c
                    refine g_aload_n (q := 0) C dX12_statement_143 rfl rfl ?_
                    refine g_cVv (As := []) C clX12_390 clvX12_raining dX12_statement_144 kd_199 rfl (Nat.le_of_ble_eq_true rfl) rfl (by decide) (t_X12_raining (Cx.ok C) h) (fun M28 h => ?_)
                    refine g_goto (tgt := 159) C dX12_statement_147 (by decide) ?_
                    refine G.sub [] rfl ?_
                    exact w_X12_statement_J159 C hR  h
                · have h := hf c
                  refine g_aload_n (q := 0) C dX12_statement_125 rfl rfl ?_
                  refine g_iconst C dX12_statement_126 rfl ?_
                  refine g_cVv (As := [vI 1]) C clX12_387 clvX12_reading dX12_statement_127 kd_199 rfl (Nat.le_of_ble_eq_true rfl) rfl (by decide) (t_X12_reading (Cx.ok C) h) (fun M29 h => ?_)
                  refine g_goto (tgt := 159) C dX12_statement_130 (by decide) ?_
                  refine G.sub [] rfl ?_
                  exact w_X12_statement_J159 C hR  h
              · have h := hf c
                refine g_aload_n (q := 0) C dX12_statement_107 rfl rfl ?_
                refine g_iconst C dX12_statement_108 rfl ?_
                refine g_cVv (As := [vI 0]) C clX12_387 clvX12_reading dX12_statement_109 kd_199 rfl (Nat.le_of_ble_eq_true rfl) rfl (by decide) (t_X12_reading (Cx.ok C) h) (fun M30 h => ?_)
                refine g_goto (tgt := 159) C dX12_statement_112 (by decide) ?_
                refine G.sub [] rfl ?_
                exact w_X12_statement_J159 C hR  h
            · have h := hf c
              refine g_aload_n (q := 0) C dX12_statement_90 rfl rfl ?_
              refine g_cVv (As := []) C clX12_384 clvX12_framing dX12_statement_91 kd_199 rfl (Nat.le_of_ble_eq_true rfl) rfl (by decide) (t_X12_framing (Cx.ok C) h) (fun M31 h => ?_)
              refine g_goto (tgt := 159) C dX12_statement_94 (by decide) ?_
              refine G.sub [] rfl ?_
              exact w_X12_statement_J159 C hR  h
          · have h := hf c
            refine g_aload_n (q := 0) C dX12_statement_73 rfl rfl ?_
            refine g_cVv (As := []) C clX12_381 clvX12_watching dX12_statement_74 kd_199 rfl (Nat.le_of_ble_eq_true rfl) rfl (by decide) (t_X12_watching (Cx.ok C) h) (fun M32 h => ?_)
            refine g_goto (tgt := 159) C dX12_statement_77 (by decide) ?_
            refine G.sub [] rfl ?_
            exact w_X12_statement_J159 C hR  h
        · have h := hf c
          refine g_aload_n (q := 0) C dX12_statement_56 rfl rfl ?_
          refine g_cVv (As := []) C clX12_378 clvX12_personing dX12_statement_57 kd_199 rfl (Nat.le_of_ble_eq_true rfl) rfl (by decide) (t_X12_personing (Cx.ok C) h) (fun M33 h => ?_)
          refine g_goto (tgt := 159) C dX12_statement_60 (by decide) ?_
          refine G.sub [] rfl ?_
          exact w_X12_statement_J159 C hR  h
      · have h := hf c
        refine g_aload_n (q := 0) C dX12_statement_39 rfl rfl ?_
        refine g_cVv (As := []) C clX12_375 clvX12_roading dX12_statement_40 kd_199 rfl (Nat.le_of_ble_eq_true rfl) rfl (by decide) (t_X12_roading (Cx.ok C) h) (fun M34 h => ?_)
        refine g_goto (tgt := 159) C dX12_statement_43 (by decide) ?_
        refine G.sub [] rfl ?_
        exact w_X12_statement_J159 C hR  h
    · have h := hf c
      refine g_aload_n (q := 0) C dX12_statement_22 rfl rfl ?_
      refine g_cVv (As := []) C clX12_372 clvX12_placing dX12_statement_23 kd_199 rfl (Nat.le_of_ble_eq_true rfl) rfl (by decide) (t_X12_placing (Cx.ok C) h) (fun M35 h => ?_)
      refine g_goto (tgt := 159) C dX12_statement_26 (by decide) ?_
      refine G.sub [] rfl ?_
      exact w_X12_statement_J159 C hR  h
  · have h := hf c
    exact g_retv C hR dX12_statement_11 h
set_option maxRecDepth 20000 in
theorem w_X12_finishes_J83 {Y : YT} {X : CX} (C : Cx Y X cX12_finishes 3 RX12 4) {Q : Mem → Prop} (hR : Rt Y X none (PQv Y Q))   {M : Mem}  (h : m_X12_finishes_J83  Q  M) : G Y X 3 83 [(0, vR Y 199)] ([]) M := by
  unfold m_X12_finishes_J83 at h
  refine g_aload_n (q := 0) C dX12_finishes_83 rfl rfl ?_
  refine g_bipush (v := 59) C dX12_finishes_84 (by decide +kernel) ?_
  refine g_cVv (As := [vI 59]) C clX12_393 clvX12_must dX12_finishes_86 kd_199 rfl (Nat.le_of_ble_eq_true rfl) rfl (by decide) (t_X12_must (Cx.ok C) h) (fun M1 h => ?_)
  exact g_retv C hR dX12_finishes_89 h
set_option maxRecDepth 20000 in
theorem w_X12_finishes_J53 {Y : YT} {X : CX} (C : Cx Y X cX12_finishes 3 RX12 4) {Q : Mem → Prop} (hR : Rt Y X none (PQv Y Q)) {v1 : Int} {v2 : Int}  {M : Mem}  (h : m_X12_finishes_J53  Q v1 v2 M) : G Y X 3 53 [(0, vR Y 199), (1, vI v1), (2, vI v2)] ([]) M := by
  unfold m_X12_finishes_J53 at h
  refine g_aload_n (q := 0) C dX12_finishes_53 rfl rfl ?_
  refine g_bipush (v := 59) C dX12_finishes_54 (by decide +kernel) ?_
  refine g_cVi (As := [vI 59]) C clX12_238 clvX12_isSign dX12_finishes_56 kd_199 rfl (Nat.le_of_ble_eq_true rfl) rfl (by decide) (t_X12_isSign (Cx.ok C) h) (fun r3 M2 h => ?_)
  obtain ⟨g4, h⟩ := h
  obtain ⟨ht, hf⟩ := h
  refine g_if_eq (tgt := 83) C dX12_finishes_59 (by decide) g4 (fun c => ?_) (fun c => ?_)
  · have h := ht c
    refine G.sub [0] rfl ?_
    exact w_X12_finishes_J83 C hR  h
  · have h := hf c
    refine g_iload_n (q := 1) C dX12_finishes_62 rfl rfl ?_
    refine g_bipush (v := 80) C dX12_finishes_63 (by decide +kernel) ?_
    obtain ⟨g5, h⟩ := h
    obtain ⟨ht, hf⟩ := h
    refine g_icmp_ne (tgt := 83) C dX12_finishes_65 (by decide) g5 (by decide) (fun c => ?_) (fun c => ?_)
    · have h := hf c
      refine G.sub [0] rfl ?_
      exact w_X12_finishes_J83 C hR  h
    · have h := ht c
      refine g_iload_n (q := 2) C dX12_finishes_68 rfl rfl ?_
      refine g_aload_n (q := 0) C dX12_finishes_69 rfl rfl ?_
      refine g_getI C fX12_17 (by decide) dX12_finishes_70 kd_199 ?_
      obtain ⟨g6, h⟩ := h
      obtain ⟨g7, h⟩ := h
      obtain ⟨ht, hf⟩ := h
      refine g_icmp_ge (tgt := 83) C dX12_finishes_73 (by decide) g6 g7 (fun c => ?_) (fun c => ?_)
      · have h := ht c
        refine G.sub [0] rfl ?_
        exact w_X12_finishes_J83 C hR  h
      · have h := hf c
        refine g_aload_n (q := 0) C dX12_finishes_76 rfl rfl ?_
        refine g_bipush (v := 6) C dX12_finishes_77 (by decide +kernel) ?_
        refine g_iload_n (q := 2) C dX12_finishes_79 rfl rfl ?_
        refine g_cVv (As := [vI 6, vI v2]) C clX12_224 clvX12_blame dX12_finishes_80 kd_199 rfl (Nat.le_of_ble_eq_true rfl) rfl (by decide) (t_X12_blame (Cx.ok C) h) (fun M8 h => ?_)
        refine G.sub [0] rfl ?_
        exact w_X12_finishes_J83 C hR  h
set_option maxRecDepth 20000 in
theorem w_X12_finishes_J47 {Y : YT} {X : CX} (C : Cx Y X cX12_finishes 3 RX12 4) {Q : Mem → Prop} (hR : Rt Y X none (PQv Y Q)) {v1 : Int} {v2 : Int} {k17 : Int → Mem → Prop} (hk17 : ∀ (v2 : Int)  (M : Mem), k17 v2 M → G Y X 3 17 [(0, vR Y 199), (1, vI v1), (2, vI v2)] ([]) M) {M : Mem}  (h : m_X12_finishes_J47 k17 Q v1 v2 M) : G Y X 3 47 [(0, vR Y 199), (1, vI v1), (2, vI v2)] ([]) M := by
  unfold m_X12_finishes_J47 at h
  refine g_iinc (q := 2) (v := v2 + 1) (lv' := [(2, vI (v2 + 1)), (0, vR Y 199), (1, vI v1)]) C dX12_finishes_47 rfl rfl (by decide) rfl ?_
  refine g_goto (tgt := 17) C dX12_finishes_50 (by decide) ?_
  refine G.sub [1, 2, 0] rfl ?_
  exact hk17 _ _ h
set_option maxRecDepth 20000 in
theorem w_X12_finishes_L17 {Y : YT} {X : CX} (C : Cx Y X cX12_finishes 3 RX12 4) {Q : Mem → Prop} (hR : Rt Y X none (PQv Y Q)) {v1 : Int}  : ∀ (f : Nat) (v2 : Int) (M : Mem), m_X12_finishes_L17  Q v1 f v2 M → G Y X 3 17 [(0, vR Y 199), (1, vI v1), (2, vI v2)] ([]) M := by
  intro f
  induction f with
  | zero =>
    intro v2 M h
    exact (show False from h).elim
  | succ f ih =>
    intro v2 M h
    unfold m_X12_finishes_L17 at h
    refine g_iload_n (q := 2) C dX12_finishes_17 rfl rfl ?_
    refine g_aload_n (q := 0) C dX12_finishes_18 rfl rfl ?_
    refine g_getI C fX12_17 (by decide) dX12_finishes_19 kd_199 ?_
    obtain ⟨g9, h⟩ := h
    obtain ⟨g10, h⟩ := h
    obtain ⟨ht, hf⟩ := h
    refine g_icmp_ge (tgt := 53) C dX12_finishes_22 (by decide) g9 g10 (fun c => ?_) (fun c => ?_)
    · have h := ht c
      refine G.sub [0, 1, 2] rfl ?_
      exact w_X12_finishes_J53 C hR  h
    · have h := hf c
      refine g_aload_n (q := 0) C dX12_finishes_25 rfl rfl ?_
      refine g_getS (v := 200) C fX12_7 dX12_finishes_26 kd_199 rfl ?_
      refine g_iload_n (q := 2) C dX12_finishes_29 rfl rfl ?_
      obtain ⟨g11, h⟩ := h
      refine g_iald C dX12_finishes_30 kd_200 ln_200 g11 ?_
      refine g_bipush (v := 32) C dX12_finishes_31 (by decide +kernel) ?_
      obtain ⟨g12, h⟩ := h
      obtain ⟨ht, hf⟩ := h
      refine g_icmp_eq (tgt := 47) C dX12_finishes_33 (by decide) g12 (by decide) (fun c => ?_) (fun c => ?_)
      · have h := ht c
        refine G.sub [0, 1, 2] rfl ?_
        exact w_X12_finishes_J47 C hR (ih)  h
      · have h := hf c
        refine g_aload_n (q := 0) C dX12_finishes_36 rfl rfl ?_
        refine g_getS (v := 200) C fX12_7 dX12_finishes_37 kd_199 rfl ?_
        refine g_iload_n (q := 2) C dX12_finishes_40 rfl rfl ?_
        obtain ⟨g13, h⟩ := h
        refine g_iald C dX12_finishes_41 kd_200 ln_200 g13 ?_
        refine g_bipush (v := 10) C dX12_finishes_42 (by decide +kernel) ?_
        obtain ⟨g14, h⟩ := h
        obtain ⟨ht, hf⟩ := h
        refine g_icmp_ne (tgt := 53) C dX12_finishes_44 (by decide) g14 (by decide) (fun c => ?_) (fun c => ?_)
        · have h := hf c
          refine G.sub [0, 1, 2] rfl ?_
          exact w_X12_finishes_J53 C hR  h
        · have h := ht c
          refine G.sub [0, 1, 2] rfl ?_
          exact w_X12_finishes_J47 C hR (ih)  h
set_option maxRecDepth 20000 in
theorem t_X12_finishes {l : Launch} {Y : YT} (hY : YOK Y) {a0 : Int} {M : Mem} {Q : Mem → Prop} (h : m_X12_finishes a0 M Q) : Ctr l Y yX12_finishes cX12_finishes 3 none 4 [vR Y 199, vI a0] M (PQv Y Q) := by
  unfold m_X12_finishes at h
  refine ctr_ofF hY (by decide +kernel) (Nat.le_of_ble_eq_true rfl) [(0, vR Y 199), (1, vI a0)] rfl (fun X hX C hR => ?_)
  refine g_aload_n (q := 0) C dX12_finishes_0 rfl rfl ?_
  refine g_cVv (As := []) C clX12_235 clvX12_lex dX12_finishes_1 kd_199 rfl (Nat.le_of_ble_eq_true rfl) rfl (by decide) (t_X12_lex (Cx.ok C) h) (fun M15 h => ?_)
  refine g_aload_n (q := 0) C dX12_finishes_4 rfl rfl ?_
  refine g_getI C fX12_36 (by decide) dX12_finishes_5 kd_199 ?_
  obtain ⟨g16, h⟩ := h
  obtain ⟨ht, hf⟩ := h
  refine g_if_le (tgt := 12) C dX12_finishes_8 (by decide) g16 (fun c => ?_) (fun c => ?_)
  · have h := ht c
    refine g_aload_n (q := 0) C dX12_finishes_12 rfl rfl ?_
    refine g_getI C fX12_26 (by decide) dX12_finishes_13 kd_199 ?_
    refine g_istore_n (lv' := [(2, vI (M15 199 5)), (0, vR Y 199), (1, vI a0)]) C dX12_finishes_16 rfl (by decide) rfl ?_
    obtain ⟨f0, h⟩ := h
    refine G.sub [1, 2, 0] rfl ?_
    exact w_X12_finishes_L17 C hR  f0 _ _ h
  · have h := hf c
    exact g_retv C hR dX12_finishes_11 h
